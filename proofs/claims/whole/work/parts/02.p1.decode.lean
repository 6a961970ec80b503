theorem dX0_init_0 : decode cX0_init 0 = .ok (.aload_n 0, 1) := by decide +kernel
theorem dX0_init_1 : decode cX0_init 1 = .ok (.invokespecial 3, 3) := by decide +kernel
theorem dX0_init_4 : decode cX0_init 4 = .ok (.aload_n 0, 1) := by decide +kernel
theorem dX0_init_5 : decode cX0_init 5 = .ok (.bipush 15, 2) := by decide +kernel
theorem dX0_init_7 : decode cX0_init 7 = .ok (.newarray .int, 2) := by decide +kernel
theorem dX0_init_9 : decode cX0_init 9 = .ok (.putfield 9, 3) := by decide +kernel
theorem dX0_init_12 : decode cX0_init 12 = .ok (.aload_n 0, 1) := by decide +kernel
theorem dX0_init_13 : decode cX0_init 13 = .ok (.iconst 3, 1) := by decide +kernel
theorem dX0_init_14 : decode cX0_init 14 = .ok (.newarray .int, 2) := by decide +kernel
theorem dX0_init_16 : decode cX0_init 16 = .ok (.putfield 15, 3) := by decide +kernel
theorem dX0_init_19 : decode cX0_init 19 = .ok (.aload_n 0, 1) := by decide +kernel
theorem dX0_init_20 : decode cX0_init 20 = .ok (.iconst 0, 1) := by decide +kernel
theorem dX0_init_21 : decode cX0_init 21 = .ok (.putfield 18, 3) := by decide +kernel
theorem dX0_init_24 : decode cX0_init 24 = .ok (.aload_n 0, 1) := by decide +kernel
theorem dX0_init_25 : decode cX0_init 25 = .ok (.iconst 0, 1) := by decide +kernel
theorem dX0_init_26 : decode cX0_init 26 = .ok (.putfield 22, 3) := by decide +kernel
theorem dX0_init_29 : decode cX0_init 29 = .ok (.aload_n 0, 1) := by decide +kernel
theorem dX0_init_30 : decode cX0_init 30 = .ok (.iconst 0, 1) := by decide +kernel
theorem dX0_init_31 : decode cX0_init 31 = .ok (.putfield 25, 3) := by decide +kernel
theorem dX0_init_34 : decode cX0_init 34 = .ok (.return_, 1) := by decide +kernel
theorem dX0_tell_0 : decode cX0_tell 0 = .ok (.iload_n 1, 1) := by decide +kernel
theorem dX0_tell_1 : decode cX0_tell 1 = .ok (.ifCond .ne 8, 3) := by decide +kernel
theorem dX0_tell_4 : decode cX0_tell 4 = .ok (.aload_n 0, 1) := by decide +kernel
theorem dX0_tell_5 : decode cX0_tell 5 = .ok (.getfield 22, 3) := by decide +kernel
theorem dX0_tell_8 : decode cX0_tell 8 = .ok (.ireturn, 1) := by decide +kernel
theorem dX0_tell_9 : decode cX0_tell 9 = .ok (.iload_n 1, 1) := by decide +kernel
theorem dX0_tell_10 : decode cX0_tell 10 = .ok (.iconst 1, 1) := by decide +kernel
theorem dX0_tell_11 : decode cX0_tell 11 = .ok (.if_icmp .ne 8, 3) := by decide +kernel
theorem dX0_tell_14 : decode cX0_tell 14 = .ok (.aload_n 0, 1) := by decide +kernel
theorem dX0_tell_15 : decode cX0_tell 15 = .ok (.getfield 25, 3) := by decide +kernel
theorem dX0_tell_18 : decode cX0_tell 18 = .ok (.ireturn, 1) := by decide +kernel
theorem dX0_tell_19 : decode cX0_tell 19 = .ok (.aload_n 0, 1) := by decide +kernel
theorem dX0_tell_20 : decode cX0_tell 20 = .ok (.getfield 15, 3) := by decide +kernel
theorem dX0_tell_23 : decode cX0_tell 23 = .ok (.iload_n 1, 1) := by decide +kernel
theorem dX0_tell_24 : decode cX0_tell 24 = .ok (.bipush 10, 2) := by decide +kernel
theorem dX0_tell_26 : decode cX0_tell 26 = .ok (.isub, 1) := by decide +kernel
theorem dX0_tell_27 : decode cX0_tell 27 = .ok (.invokestatic 28, 3) := by decide +kernel
theorem dX0_tell_30 : decode cX0_tell 30 = .ok (.ireturn, 1) := by decide +kernel
theorem dX0_solve_0 : decode cX0_solve 0 = .ok (.aload_n 0, 1) := by decide +kernel
theorem dX0_solve_1 : decode cX0_solve 1 = .ok (.aload_n 1, 1) := by decide +kernel
theorem dX0_solve_2 : decode cX0_solve 2 = .ok (.invokevirtual 32, 3) := by decide +kernel
theorem dX0_solve_5 : decode cX0_solve 5 = .ok (.aload_n 0, 1) := by decide +kernel
theorem dX0_solve_6 : decode cX0_solve 6 = .ok (.iconst (-1), 1) := by decide +kernel
theorem dX0_solve_7 : decode cX0_solve 7 = .ok (.putfield 22, 3) := by decide +kernel
theorem dX0_solve_10 : decode cX0_solve 10 = .ok (.iconst (-1), 1) := by decide +kernel
theorem dX0_solve_11 : decode cX0_solve 11 = .ok (.istore_n 2, 1) := by decide +kernel
theorem dX0_solve_12 : decode cX0_solve 12 = .ok (.iload_n 2, 1) := by decide +kernel
theorem dX0_solve_13 : decode cX0_solve 13 = .ok (.aload_n 0, 1) := by decide +kernel
theorem dX0_solve_14 : decode cX0_solve 14 = .ok (.getfield 18, 3) := by decide +kernel
theorem dX0_solve_17 : decode cX0_solve 17 = .ok (.if_icmp .ge 114, 3) := by decide +kernel
theorem dX0_solve_20 : decode cX0_solve 20 = .ok (.aload_n 0, 1) := by decide +kernel
theorem dX0_solve_21 : decode cX0_solve 21 = .ok (.iconst 0, 1) := by decide +kernel
theorem dX0_solve_22 : decode cX0_solve 22 = .ok (.iload_n 2, 1) := by decide +kernel
theorem dX0_solve_23 : decode cX0_solve 23 = .ok (.invokevirtual 36, 3) := by decide +kernel
theorem dX0_solve_26 : decode cX0_solve 26 = .ok (.ifCond .ne 6, 3) := by decide +kernel
theorem dX0_solve_29 : decode cX0_solve 29 = .ok (.goto 96, 3) := by decide +kernel
theorem dX0_solve_32 : decode cX0_solve 32 = .ok (.iconst (-1), 1) := by decide +kernel
theorem dX0_solve_33 : decode cX0_solve 33 = .ok (.istore_n 3, 1) := by decide +kernel
theorem dX0_solve_34 : decode cX0_solve 34 = .ok (.iload_n 3, 1) := by decide +kernel
theorem dX0_solve_35 : decode cX0_solve 35 = .ok (.aload_n 0, 1) := by decide +kernel
theorem dX0_solve_36 : decode cX0_solve 36 = .ok (.getfield 18, 3) := by decide +kernel
theorem dX0_solve_39 : decode cX0_solve 39 = .ok (.if_icmp .ge 86, 3) := by decide +kernel
theorem dX0_solve_42 : decode cX0_solve 42 = .ok (.aload_n 0, 1) := by decide +kernel
theorem dX0_solve_43 : decode cX0_solve 43 = .ok (.iconst 1, 1) := by decide +kernel
theorem dX0_solve_44 : decode cX0_solve 44 = .ok (.iload_n 3, 1) := by decide +kernel
theorem dX0_solve_45 : decode cX0_solve 45 = .ok (.invokevirtual 36, 3) := by decide +kernel
theorem dX0_solve_48 : decode cX0_solve 48 = .ok (.ifCond .eq 71, 3) := by decide +kernel
theorem dX0_solve_51 : decode cX0_solve 51 = .ok (.iload_n 2, 1) := by decide +kernel
theorem dX0_solve_52 : decode cX0_solve 52 = .ok (.iload_n 3, 1) := by decide +kernel
theorem dX0_solve_53 : decode cX0_solve 53 = .ok (.invokestatic 40, 3) := by decide +kernel
theorem dX0_solve_56 : decode cX0_solve 56 = .ok (.ifCond .eq 6, 3) := by decide +kernel
theorem dX0_solve_59 : decode cX0_solve 59 = .ok (.goto 60, 3) := by decide +kernel
theorem dX0_solve_62 : decode cX0_solve 62 = .ok (.iconst (-1), 1) := by decide +kernel
theorem dX0_solve_63 : decode cX0_solve 63 = .ok (.istore 4, 2) := by decide +kernel
theorem dX0_solve_65 : decode cX0_solve 65 = .ok (.iload 4, 2) := by decide +kernel
theorem dX0_solve_67 : decode cX0_solve 67 = .ok (.aload_n 0, 1) := by decide +kernel
theorem dX0_solve_68 : decode cX0_solve 68 = .ok (.getfield 18, 3) := by decide +kernel
theorem dX0_solve_71 : decode cX0_solve 71 = .ok (.if_icmp .ge 48, 3) := by decide +kernel
theorem dX0_solve_74 : decode cX0_solve 74 = .ok (.aload_n 0, 1) := by decide +kernel
theorem dX0_solve_75 : decode cX0_solve 75 = .ok (.iconst 2, 1) := by decide +kernel
theorem dX0_solve_76 : decode cX0_solve 76 = .ok (.iload 4, 2) := by decide +kernel
theorem dX0_solve_78 : decode cX0_solve 78 = .ok (.invokevirtual 36, 3) := by decide +kernel
theorem dX0_solve_81 : decode cX0_solve 81 = .ok (.ifCond .eq 32, 3) := by decide +kernel
theorem dX0_solve_84 : decode cX0_solve 84 = .ok (.iload_n 2, 1) := by decide +kernel
theorem dX0_solve_85 : decode cX0_solve 85 = .ok (.iload 4, 2) := by decide +kernel
theorem dX0_solve_87 : decode cX0_solve 87 = .ok (.invokestatic 40, 3) := by decide +kernel
theorem dX0_solve_90 : decode cX0_solve 90 = .ok (.ifCond .ne 23, 3) := by decide +kernel
theorem dX0_solve_93 : decode cX0_solve 93 = .ok (.iload_n 3, 1) := by decide +kernel
theorem dX0_solve_94 : decode cX0_solve 94 = .ok (.iload 4, 2) := by decide +kernel
theorem dX0_solve_96 : decode cX0_solve 96 = .ok (.invokestatic 40, 3) := by decide +kernel
theorem dX0_solve_99 : decode cX0_solve 99 = .ok (.ifCond .eq 6, 3) := by decide +kernel
theorem dX0_solve_102 : decode cX0_solve 102 = .ok (.goto 11, 3) := by decide +kernel
theorem dX0_solve_105 : decode cX0_solve 105 = .ok (.aload_n 0, 1) := by decide +kernel
theorem dX0_solve_106 : decode cX0_solve 106 = .ok (.iload_n 2, 1) := by decide +kernel
theorem dX0_solve_107 : decode cX0_solve 107 = .ok (.iload_n 3, 1) := by decide +kernel
theorem dX0_solve_108 : decode cX0_solve 108 = .ok (.iload 4, 2) := by decide +kernel
theorem dX0_solve_110 : decode cX0_solve 110 = .ok (.invokevirtual 43, 3) := by decide +kernel
theorem dX0_solve_113 : decode cX0_solve 113 = .ok (.iinc 4 1, 3) := by decide +kernel
theorem dX0_solve_116 : decode cX0_solve 116 = .ok (.goto (-51), 3) := by decide +kernel
theorem dX0_solve_119 : decode cX0_solve 119 = .ok (.iinc 3 1, 3) := by decide +kernel
theorem dX0_solve_122 : decode cX0_solve 122 = .ok (.goto (-88), 3) := by decide +kernel
theorem dX0_solve_125 : decode cX0_solve 125 = .ok (.iinc 2 1, 3) := by decide +kernel
theorem dX0_solve_128 : decode cX0_solve 128 = .ok (.goto (-116), 3) := by decide +kernel
theorem dX0_solve_131 : decode cX0_solve 131 = .ok (.return_, 1) := by decide +kernel
theorem dX0_setPrices_0 : decode cX0_setPrices 0 = .ok (.aload_n 0, 1) := by decide +kernel
theorem dX0_setPrices_1 : decode cX0_setPrices 1 = .ok (.aload_n 1, 1) := by decide +kernel
theorem dX0_setPrices_2 : decode cX0_setPrices 2 = .ok (.invokevirtual 47, 3) := by decide +kernel
theorem dX0_setPrices_5 : decode cX0_setPrices 5 = .ok (.putfield 18, 3) := by decide +kernel
theorem dX0_setPrices_8 : decode cX0_setPrices 8 = .ok (.iconst 0, 1) := by decide +kernel
theorem dX0_setPrices_9 : decode cX0_setPrices 9 = .ok (.istore_n 2, 1) := by decide +kernel
theorem dX0_setPrices_10 : decode cX0_setPrices 10 = .ok (.iload_n 2, 1) := by decide +kernel
theorem dX0_setPrices_11 : decode cX0_setPrices 11 = .ok (.iconst 3, 1) := by decide +kernel
theorem dX0_setPrices_12 : decode cX0_setPrices 12 = .ok (.if_icmp .ge 122, 3) := by decide +kernel
theorem dX0_setPrices_15 : decode cX0_setPrices 15 = .ok (.aload_n 1, 1) := by decide +kernel
theorem dX0_setPrices_16 : decode cX0_setPrices 16 = .ok (.iload_n 2, 1) := by decide +kernel
theorem dX0_setPrices_17 : decode cX0_setPrices 17 = .ok (.invokevirtual 52, 3) := by decide +kernel
theorem dX0_setPrices_20 : decode cX0_setPrices 20 = .ok (.ifCond .eq 19, 3) := by decide +kernel
theorem dX0_setPrices_23 : decode cX0_setPrices 23 = .ok (.aload_n 1, 1) := by decide +kernel
theorem dX0_setPrices_24 : decode cX0_setPrices 24 = .ok (.invokevirtual 56, 3) := by decide +kernel
theorem dX0_setPrices_27 : decode cX0_setPrices 27 = .ok (.iload_n 2, 1) := by decide +kernel
theorem dX0_setPrices_28 : decode cX0_setPrices 28 = .ok (.invokevirtual 60, 3) := by decide +kernel
theorem dX0_setPrices_31 : decode cX0_setPrices 31 = .ok (.iconst (-1), 1) := by decide +kernel
theorem dX0_setPrices_32 : decode cX0_setPrices 32 = .ok (.if_icmp .ne 7, 3) := by decide +kernel
theorem dX0_setPrices_35 : decode cX0_setPrices 35 = .ok (.iconst 1, 1) := by decide +kernel
theorem dX0_setPrices_36 : decode cX0_setPrices 36 = .ok (.goto 4, 3) := by decide +kernel
theorem dX0_setPrices_39 : decode cX0_setPrices 39 = .ok (.iconst 0, 1) := by decide +kernel
theorem dX0_setPrices_40 : decode cX0_setPrices 40 = .ok (.istore_n 3, 1) := by decide +kernel
theorem dX0_setPrices_41 : decode cX0_setPrices 41 = .ok (.iconst 0, 1) := by decide +kernel
theorem dX0_setPrices_42 : decode cX0_setPrices 42 = .ok (.istore 4, 2) := by decide +kernel
theorem dX0_setPrices_44 : decode cX0_setPrices 44 = .ok (.iload 4, 2) := by decide +kernel
theorem dX0_setPrices_46 : decode cX0_setPrices 46 = .ok (.iconst 5, 1) := by decide +kernel
theorem dX0_setPrices_47 : decode cX0_setPrices 47 = .ok (.if_icmp .ge 81, 3) := by decide +kernel
theorem dX0_setPrices_50 : decode cX0_setPrices 50 = .ok (.iload_n 3, 1) := by decide +kernel
theorem dX0_setPrices_51 : decode cX0_setPrices 51 = .ok (.ifCond .eq 39, 3) := by decide +kernel
theorem dX0_setPrices_54 : decode cX0_setPrices 54 = .ok (.aload_n 1, 1) := by decide +kernel
theorem dX0_setPrices_55 : decode cX0_setPrices 55 = .ok (.iload 4, 2) := by decide +kernel
theorem dX0_setPrices_57 : decode cX0_setPrices 57 = .ok (.invokevirtual 66, 3) := by decide +kernel
theorem dX0_setPrices_60 : decode cX0_setPrices 60 = .ok (.ifCond .eq 30, 3) := by decide +kernel
theorem dX0_setPrices_63 : decode cX0_setPrices 63 = .ok (.aload_n 1, 1) := by decide +kernel
theorem dX0_setPrices_64 : decode cX0_setPrices 64 = .ok (.invokevirtual 56, 3) := by decide +kernel
theorem dX0_setPrices_67 : decode cX0_setPrices 67 = .ok (.iload 4, 2) := by decide +kernel
theorem dX0_setPrices_69 : decode cX0_setPrices 69 = .ok (.invokevirtual 69, 3) := by decide +kernel
theorem dX0_setPrices_72 : decode cX0_setPrices 72 = .ok (.iconst (-1), 1) := by decide +kernel
theorem dX0_setPrices_73 : decode cX0_setPrices 73 = .ok (.if_icmp .ne 17, 3) := by decide +kernel
theorem dX0_setPrices_76 : decode cX0_setPrices 76 = .ok (.aload_n 1, 1) := by decide +kernel
theorem dX0_setPrices_77 : decode cX0_setPrices 77 = .ok (.iload 4, 2) := by decide +kernel
theorem dX0_setPrices_79 : decode cX0_setPrices 79 = .ok (.iload_n 2, 1) := by decide +kernel
theorem dX0_setPrices_80 : decode cX0_setPrices 80 = .ok (.invokevirtual 72, 3) := by decide +kernel
theorem dX0_setPrices_83 : decode cX0_setPrices 83 = .ok (.ifCond .eq 7, 3) := by decide +kernel
theorem dX0_setPrices_86 : decode cX0_setPrices 86 = .ok (.iconst 1, 1) := by decide +kernel
theorem dX0_setPrices_87 : decode cX0_setPrices 87 = .ok (.goto 4, 3) := by decide +kernel
theorem dX0_setPrices_90 : decode cX0_setPrices 90 = .ok (.iconst 0, 1) := by decide +kernel
theorem dX0_setPrices_91 : decode cX0_setPrices 91 = .ok (.istore 5, 2) := by decide +kernel
theorem dX0_setPrices_93 : decode cX0_setPrices 93 = .ok (.aload_n 0, 1) := by decide +kernel
theorem dX0_setPrices_94 : decode cX0_setPrices 94 = .ok (.getfield 9, 3) := by decide +kernel
theorem dX0_setPrices_97 : decode cX0_setPrices 97 = .ok (.iload_n 2, 1) := by decide +kernel
theorem dX0_setPrices_98 : decode cX0_setPrices 98 = .ok (.iconst 5, 1) := by decide +kernel
theorem dX0_setPrices_99 : decode cX0_setPrices 99 = .ok (.imul, 1) := by decide +kernel
theorem dX0_setPrices_100 : decode cX0_setPrices 100 = .ok (.iload 4, 2) := by decide +kernel
theorem dX0_setPrices_102 : decode cX0_setPrices 102 = .ok (.iadd, 1) := by decide +kernel
theorem dX0_setPrices_103 : decode cX0_setPrices 103 = .ok (.iload 5, 2) := by decide +kernel
theorem dX0_setPrices_105 : decode cX0_setPrices 105 = .ok (.ifCond .eq 13, 3) := by decide +kernel
theorem dX0_setPrices_108 : decode cX0_setPrices 108 = .ok (.aload_n 1, 1) := by decide +kernel
theorem dX0_setPrices_109 : decode cX0_setPrices 109 = .ok (.iload 4, 2) := by decide +kernel
theorem dX0_setPrices_111 : decode cX0_setPrices 111 = .ok (.iload_n 2, 1) := by decide +kernel
theorem dX0_setPrices_112 : decode cX0_setPrices 112 = .ok (.invokevirtual 75, 3) := by decide +kernel
theorem dX0_setPrices_115 : decode cX0_setPrices 115 = .ok (.goto 4, 3) := by decide +kernel
theorem dX0_setPrices_118 : decode cX0_setPrices 118 = .ok (.iconst (-1), 1) := by decide +kernel
theorem dX0_setPrices_119 : decode cX0_setPrices 119 = .ok (.invokestatic 79, 3) := by decide +kernel
theorem dX0_setPrices_122 : decode cX0_setPrices 122 = .ok (.iinc 4 1, 3) := by decide +kernel
theorem dX0_setPrices_125 : decode cX0_setPrices 125 = .ok (.goto (-81), 3) := by decide +kernel
theorem dX0_setPrices_128 : decode cX0_setPrices 128 = .ok (.iinc 2 1, 3) := by decide +kernel
theorem dX0_setPrices_131 : decode cX0_setPrices 131 = .ok (.goto (-121), 3) := by decide +kernel
theorem dX0_setPrices_134 : decode cX0_setPrices 134 = .ok (.return_, 1) := by decide +kernel
theorem dX0_may_0 : decode cX0_may 0 = .ok (.iload_n 2, 1) := by decide +kernel
theorem dX0_may_1 : decode cX0_may 1 = .ok (.iconst (-1), 1) := by decide +kernel
theorem dX0_may_2 : decode cX0_may 2 = .ok (.if_icmp .eq 13, 3) := by decide +kernel
theorem dX0_may_5 : decode cX0_may 5 = .ok (.aload_n 0, 1) := by decide +kernel
theorem dX0_may_6 : decode cX0_may 6 = .ok (.iload_n 1, 1) := by decide +kernel
theorem dX0_may_7 : decode cX0_may 7 = .ok (.iload_n 2, 1) := by decide +kernel
theorem dX0_may_8 : decode cX0_may 8 = .ok (.invokevirtual 83, 3) := by decide +kernel
theorem dX0_may_11 : decode cX0_may 11 = .ok (.iconst (-1), 1) := by decide +kernel
theorem dX0_may_12 : decode cX0_may 12 = .ok (.if_icmp .eq 7, 3) := by decide +kernel
theorem dX0_may_15 : decode cX0_may 15 = .ok (.iconst 1, 1) := by decide +kernel
theorem dX0_may_16 : decode cX0_may 16 = .ok (.goto 4, 3) := by decide +kernel
theorem dX0_may_19 : decode cX0_may 19 = .ok (.iconst 0, 1) := by decide +kernel
theorem dX0_may_20 : decode cX0_may 20 = .ok (.ireturn, 1) := by decide +kernel
theorem dX0_price_0 : decode cX0_price 0 = .ok (.aload_n 0, 1) := by decide +kernel
theorem dX0_price_1 : decode cX0_price 1 = .ok (.getfield 9, 3) := by decide +kernel
theorem dX0_price_4 : decode cX0_price 4 = .ok (.iload_n 1, 1) := by decide +kernel
theorem dX0_price_5 : decode cX0_price 5 = .ok (.iconst 5, 1) := by decide +kernel
theorem dX0_price_6 : decode cX0_price 6 = .ok (.imul, 1) := by decide +kernel
theorem dX0_price_7 : decode cX0_price 7 = .ok (.iload_n 2, 1) := by decide +kernel
theorem dX0_price_8 : decode cX0_price 8 = .ok (.iadd, 1) := by decide +kernel
theorem dX0_price_9 : decode cX0_price 9 = .ok (.invokestatic 28, 3) := by decide +kernel
theorem dX0_price_12 : decode cX0_price 12 = .ok (.ireturn, 1) := by decide +kernel
theorem dX0_isTwice_0 : decode cX0_isTwice 0 = .ok (.iload_n 0, 1) := by decide +kernel
theorem dX0_isTwice_1 : decode cX0_isTwice 1 = .ok (.iload_n 1, 1) := by decide +kernel
theorem dX0_isTwice_2 : decode cX0_isTwice 2 = .ok (.if_icmp .ne 12, 3) := by decide +kernel
theorem dX0_isTwice_5 : decode cX0_isTwice 5 = .ok (.iload_n 0, 1) := by decide +kernel
theorem dX0_isTwice_6 : decode cX0_isTwice 6 = .ok (.iconst (-1), 1) := by decide +kernel
theorem dX0_isTwice_7 : decode cX0_isTwice 7 = .ok (.if_icmp .eq 7, 3) := by decide +kernel
theorem dX0_isTwice_10 : decode cX0_isTwice 10 = .ok (.iconst 1, 1) := by decide +kernel
theorem dX0_isTwice_11 : decode cX0_isTwice 11 = .ok (.goto 4, 3) := by decide +kernel
theorem dX0_isTwice_14 : decode cX0_isTwice 14 = .ok (.iconst 0, 1) := by decide +kernel
theorem dX0_isTwice_15 : decode cX0_isTwice 15 = .ok (.ireturn, 1) := by decide +kernel
theorem dX0_keepIfBetter_0 : decode cX0_keepIfBetter 0 = .ok (.iload_n 1, 1) := by decide +kernel
theorem dX0_keepIfBetter_1 : decode cX0_keepIfBetter 1 = .ok (.invokestatic 86, 3) := by decide +kernel
theorem dX0_keepIfBetter_4 : decode cX0_keepIfBetter 4 = .ok (.iload_n 2, 1) := by decide +kernel
theorem dX0_keepIfBetter_5 : decode cX0_keepIfBetter 5 = .ok (.invokestatic 86, 3) := by decide +kernel
theorem dX0_keepIfBetter_8 : decode cX0_keepIfBetter 8 = .ok (.iadd, 1) := by decide +kernel
theorem dX0_keepIfBetter_9 : decode cX0_keepIfBetter 9 = .ok (.iload_n 3, 1) := by decide +kernel
theorem dX0_keepIfBetter_10 : decode cX0_keepIfBetter 10 = .ok (.invokestatic 86, 3) := by decide +kernel
theorem dX0_keepIfBetter_13 : decode cX0_keepIfBetter 13 = .ok (.iadd, 1) := by decide +kernel
theorem dX0_keepIfBetter_14 : decode cX0_keepIfBetter 14 = .ok (.istore 4, 2) := by decide +kernel
theorem dX0_keepIfBetter_16 : decode cX0_keepIfBetter 16 = .ok (.aload_n 0, 1) := by decide +kernel
theorem dX0_keepIfBetter_17 : decode cX0_keepIfBetter 17 = .ok (.iconst 0, 1) := by decide +kernel
theorem dX0_keepIfBetter_18 : decode cX0_keepIfBetter 18 = .ok (.iload_n 1, 1) := by decide +kernel
theorem dX0_keepIfBetter_19 : decode cX0_keepIfBetter 19 = .ok (.invokevirtual 89, 3) := by decide +kernel
theorem dX0_keepIfBetter_22 : decode cX0_keepIfBetter 22 = .ok (.aload_n 0, 1) := by decide +kernel
theorem dX0_keepIfBetter_23 : decode cX0_keepIfBetter 23 = .ok (.iconst 1, 1) := by decide +kernel
theorem dX0_keepIfBetter_24 : decode cX0_keepIfBetter 24 = .ok (.iload_n 2, 1) := by decide +kernel
theorem dX0_keepIfBetter_25 : decode cX0_keepIfBetter 25 = .ok (.invokevirtual 89, 3) := by decide +kernel
theorem dX0_keepIfBetter_28 : decode cX0_keepIfBetter 28 = .ok (.iadd, 1) := by decide +kernel
theorem dX0_keepIfBetter_29 : decode cX0_keepIfBetter 29 = .ok (.aload_n 0, 1) := by decide +kernel
theorem dX0_keepIfBetter_30 : decode cX0_keepIfBetter 30 = .ok (.iconst 2, 1) := by decide +kernel
theorem dX0_keepIfBetter_31 : decode cX0_keepIfBetter 31 = .ok (.iload_n 3, 1) := by decide +kernel
theorem dX0_keepIfBetter_32 : decode cX0_keepIfBetter 32 = .ok (.invokevirtual 89, 3) := by decide +kernel
theorem dX0_keepIfBetter_35 : decode cX0_keepIfBetter 35 = .ok (.iadd, 1) := by decide +kernel
theorem dX0_keepIfBetter_36 : decode cX0_keepIfBetter 36 = .ok (.istore 5, 2) := by decide +kernel
theorem dX0_keepIfBetter_38 : decode cX0_keepIfBetter 38 = .ok (.iload 4, 2) := by decide +kernel
theorem dX0_keepIfBetter_40 : decode cX0_keepIfBetter 40 = .ok (.aload_n 0, 1) := by decide +kernel
theorem dX0_keepIfBetter_41 : decode cX0_keepIfBetter 41 = .ok (.getfield 22, 3) := by decide +kernel
theorem dX0_keepIfBetter_44 : decode cX0_keepIfBetter 44 = .ok (.if_icmp .lt 21, 3) := by decide +kernel
theorem dX0_keepIfBetter_47 : decode cX0_keepIfBetter 47 = .ok (.iload 4, 2) := by decide +kernel
theorem dX0_keepIfBetter_49 : decode cX0_keepIfBetter 49 = .ok (.aload_n 0, 1) := by decide +kernel
theorem dX0_keepIfBetter_50 : decode cX0_keepIfBetter 50 = .ok (.getfield 22, 3) := by decide +kernel
theorem dX0_keepIfBetter_53 : decode cX0_keepIfBetter 53 = .ok (.if_icmp .ne 13, 3) := by decide +kernel
theorem dX0_keepIfBetter_56 : decode cX0_keepIfBetter 56 = .ok (.iload 5, 2) := by decide +kernel
theorem dX0_keepIfBetter_58 : decode cX0_keepIfBetter 58 = .ok (.aload_n 0, 1) := by decide +kernel
theorem dX0_keepIfBetter_59 : decode cX0_keepIfBetter 59 = .ok (.getfield 25, 3) := by decide +kernel
theorem dX0_keepIfBetter_62 : decode cX0_keepIfBetter 62 = .ok (.if_icmp .lt 4, 3) := by decide +kernel
theorem dX0_keepIfBetter_65 : decode cX0_keepIfBetter 65 = .ok (.return_, 1) := by decide +kernel
theorem dX0_keepIfBetter_66 : decode cX0_keepIfBetter 66 = .ok (.aload_n 0, 1) := by decide +kernel
theorem dX0_keepIfBetter_67 : decode cX0_keepIfBetter 67 = .ok (.iload 4, 2) := by decide +kernel
theorem dX0_keepIfBetter_69 : decode cX0_keepIfBetter 69 = .ok (.putfield 22, 3) := by decide +kernel
theorem dX0_keepIfBetter_72 : decode cX0_keepIfBetter 72 = .ok (.aload_n 0, 1) := by decide +kernel
theorem dX0_keepIfBetter_73 : decode cX0_keepIfBetter 73 = .ok (.iload 5, 2) := by decide +kernel
theorem dX0_keepIfBetter_75 : decode cX0_keepIfBetter 75 = .ok (.putfield 25, 3) := by decide +kernel
theorem dX0_keepIfBetter_78 : decode cX0_keepIfBetter 78 = .ok (.aload_n 0, 1) := by decide +kernel
theorem dX0_keepIfBetter_79 : decode cX0_keepIfBetter 79 = .ok (.getfield 15, 3) := by decide +kernel
theorem dX0_keepIfBetter_82 : decode cX0_keepIfBetter 82 = .ok (.iconst 0, 1) := by decide +kernel
theorem dX0_keepIfBetter_83 : decode cX0_keepIfBetter 83 = .ok (.iload_n 1, 1) := by decide +kernel
theorem dX0_keepIfBetter_84 : decode cX0_keepIfBetter 84 = .ok (.invokestatic 79, 3) := by decide +kernel
theorem dX0_keepIfBetter_87 : decode cX0_keepIfBetter 87 = .ok (.aload_n 0, 1) := by decide +kernel
theorem dX0_keepIfBetter_88 : decode cX0_keepIfBetter 88 = .ok (.getfield 15, 3) := by decide +kernel
theorem dX0_keepIfBetter_91 : decode cX0_keepIfBetter 91 = .ok (.iconst 1, 1) := by decide +kernel
theorem dX0_keepIfBetter_92 : decode cX0_keepIfBetter 92 = .ok (.iload_n 2, 1) := by decide +kernel
theorem dX0_keepIfBetter_93 : decode cX0_keepIfBetter 93 = .ok (.invokestatic 79, 3) := by decide +kernel
theorem dX0_keepIfBetter_96 : decode cX0_keepIfBetter 96 = .ok (.aload_n 0, 1) := by decide +kernel
theorem dX0_keepIfBetter_97 : decode cX0_keepIfBetter 97 = .ok (.getfield 15, 3) := by decide +kernel
theorem dX0_keepIfBetter_100 : decode cX0_keepIfBetter 100 = .ok (.iconst 2, 1) := by decide +kernel
theorem dX0_keepIfBetter_101 : decode cX0_keepIfBetter 101 = .ok (.iload_n 3, 1) := by decide +kernel
theorem dX0_keepIfBetter_102 : decode cX0_keepIfBetter 102 = .ok (.invokestatic 79, 3) := by decide +kernel
theorem dX0_keepIfBetter_105 : decode cX0_keepIfBetter 105 = .ok (.return_, 1) := by decide +kernel
theorem dX0_oneIfGiven_0 : decode cX0_oneIfGiven 0 = .ok (.iload_n 0, 1) := by decide +kernel
theorem dX0_oneIfGiven_1 : decode cX0_oneIfGiven 1 = .ok (.iconst (-1), 1) := by decide +kernel
theorem dX0_oneIfGiven_2 : decode cX0_oneIfGiven 2 = .ok (.if_icmp .ne 7, 3) := by decide +kernel
theorem dX0_oneIfGiven_5 : decode cX0_oneIfGiven 5 = .ok (.iconst 0, 1) := by decide +kernel
theorem dX0_oneIfGiven_6 : decode cX0_oneIfGiven 6 = .ok (.goto 4, 3) := by decide +kernel
theorem dX0_oneIfGiven_9 : decode cX0_oneIfGiven 9 = .ok (.iconst 1, 1) := by decide +kernel
theorem dX0_oneIfGiven_10 : decode cX0_oneIfGiven 10 = .ok (.ireturn, 1) := by decide +kernel
theorem dX0_priceIfGiven_0 : decode cX0_priceIfGiven 0 = .ok (.iload_n 2, 1) := by decide +kernel
theorem dX0_priceIfGiven_1 : decode cX0_priceIfGiven 1 = .ok (.iconst (-1), 1) := by decide +kernel
theorem dX0_priceIfGiven_2 : decode cX0_priceIfGiven 2 = .ok (.if_icmp .ne 7, 3) := by decide +kernel
theorem dX0_priceIfGiven_5 : decode cX0_priceIfGiven 5 = .ok (.iconst 0, 1) := by decide +kernel
theorem dX0_priceIfGiven_6 : decode cX0_priceIfGiven 6 = .ok (.goto 9, 3) := by decide +kernel
theorem dX0_priceIfGiven_9 : decode cX0_priceIfGiven 9 = .ok (.aload_n 0, 1) := by decide +kernel
theorem dX0_priceIfGiven_10 : decode cX0_priceIfGiven 10 = .ok (.iload_n 1, 1) := by decide +kernel
theorem dX0_priceIfGiven_11 : decode cX0_priceIfGiven 11 = .ok (.iload_n 2, 1) := by decide +kernel
theorem dX0_priceIfGiven_12 : decode cX0_priceIfGiven 12 = .ok (.invokevirtual 83, 3) := by decide +kernel
theorem dX0_priceIfGiven_15 : decode cX0_priceIfGiven 15 = .ok (.ireturn, 1) := by decide +kernel
theorem dX1_init_0 : decode cX1_init 0 = .ok (.aload_n 0, 1) := by decide +kernel
theorem dX1_init_1 : decode cX1_init 1 = .ok (.invokespecial 3, 3) := by decide +kernel
theorem dX1_init_4 : decode cX1_init 4 = .ok (.aload_n 0, 1) := by decide +kernel
theorem dX1_init_5 : decode cX1_init 5 = .ok (.bipush 36, 2) := by decide +kernel
theorem dX1_init_7 : decode cX1_init 7 = .ok (.newarray .int, 2) := by decide +kernel
theorem dX1_init_9 : decode cX1_init 9 = .ok (.putfield 9, 3) := by decide +kernel
theorem dX1_init_12 : decode cX1_init 12 = .ok (.aload_n 0, 1) := by decide +kernel
theorem dX1_init_13 : decode cX1_init 13 = .ok (.iconst 0, 1) := by decide +kernel
theorem dX1_init_14 : decode cX1_init 14 = .ok (.putfield 15, 3) := by decide +kernel
theorem dX1_init_17 : decode cX1_init 17 = .ok (.return_, 1) := by decide +kernel
theorem dX1_length_0 : decode cX1_length 0 = .ok (.aload_n 0, 1) := by decide +kernel
theorem dX1_length_1 : decode cX1_length 1 = .ok (.getfield 15, 3) := by decide +kernel
theorem dX1_length_4 : decode cX1_length 4 = .ok (.ireturn, 1) := by decide +kernel
theorem dX1_codeAt_0 : decode cX1_codeAt 0 = .ok (.aload_n 0, 1) := by decide +kernel
theorem dX1_codeAt_1 : decode cX1_codeAt 1 = .ok (.getfield 9, 3) := by decide +kernel
theorem dX1_codeAt_4 : decode cX1_codeAt 4 = .ok (.iload_n 1, 1) := by decide +kernel
theorem dX1_codeAt_5 : decode cX1_codeAt 5 = .ok (.invokestatic 19, 3) := by decide +kernel
theorem dX1_codeAt_8 : decode cX1_codeAt 8 = .ok (.ireturn, 1) := by decide +kernel
theorem dX1_append_0 : decode cX1_append 0 = .ok (.aload_n 0, 1) := by decide +kernel
theorem dX1_append_1 : decode cX1_append 1 = .ok (.getfield 15, 3) := by decide +kernel
theorem dX1_append_4 : decode cX1_append 4 = .ok (.bipush 36, 2) := by decide +kernel
theorem dX1_append_6 : decode cX1_append 6 = .ok (.if_icmp .lt 5, 3) := by decide +kernel
theorem dX1_append_9 : decode cX1_append 9 = .ok (.iconst 0, 1) := by decide +kernel
theorem dX1_append_10 : decode cX1_append 10 = .ok (.ireturn, 1) := by decide +kernel
theorem dX1_append_11 : decode cX1_append 11 = .ok (.aload_n 0, 1) := by decide +kernel
theorem dX1_append_12 : decode cX1_append 12 = .ok (.getfield 9, 3) := by decide +kernel
theorem dX1_append_15 : decode cX1_append 15 = .ok (.aload_n 0, 1) := by decide +kernel
theorem dX1_append_16 : decode cX1_append 16 = .ok (.getfield 15, 3) := by decide +kernel
theorem dX1_append_19 : decode cX1_append 19 = .ok (.iload_n 1, 1) := by decide +kernel
theorem dX1_append_20 : decode cX1_append 20 = .ok (.invokestatic 23, 3) := by decide +kernel
theorem dX1_append_23 : decode cX1_append 23 = .ok (.aload_n 0, 1) := by decide +kernel
theorem dX1_append_24 : decode cX1_append 24 = .ok (.dup, 1) := by decide +kernel
theorem dX1_append_25 : decode cX1_append 25 = .ok (.getfield 15, 3) := by decide +kernel
theorem dX1_append_28 : decode cX1_append 28 = .ok (.iconst 1, 1) := by decide +kernel
theorem dX1_append_29 : decode cX1_append 29 = .ok (.iadd, 1) := by decide +kernel
theorem dX1_append_30 : decode cX1_append 30 = .ok (.putfield 15, 3) := by decide +kernel
theorem dX1_append_33 : decode cX1_append 33 = .ok (.iconst 1, 1) := by decide +kernel
theorem dX1_append_34 : decode cX1_append 34 = .ok (.ireturn, 1) := by decide +kernel
theorem dX1_clear_0 : decode cX1_clear 0 = .ok (.aload_n 0, 1) := by decide +kernel
theorem dX1_clear_1 : decode cX1_clear 1 = .ok (.iconst 0, 1) := by decide +kernel
theorem dX1_clear_2 : decode cX1_clear 2 = .ok (.putfield 15, 3) := by decide +kernel
theorem dX1_clear_5 : decode cX1_clear 5 = .ok (.return_, 1) := by decide +kernel
theorem dX1_firstFault_0 : decode cX1_firstFault 0 = .ok (.aload_n 0, 1) := by decide +kernel
theorem dX1_firstFault_1 : decode cX1_firstFault 1 = .ok (.invokevirtual 27, 3) := by decide +kernel
theorem dX1_firstFault_4 : decode cX1_firstFault 4 = .ok (.istore_n 1, 1) := by decide +kernel
theorem dX1_firstFault_5 : decode cX1_firstFault 5 = .ok (.iconst 0, 1) := by decide +kernel
theorem dX1_firstFault_6 : decode cX1_firstFault 6 = .ok (.istore_n 2, 1) := by decide +kernel
theorem dX1_firstFault_7 : decode cX1_firstFault 7 = .ok (.iload_n 2, 1) := by decide +kernel
theorem dX1_firstFault_8 : decode cX1_firstFault 8 = .ok (.aload_n 0, 1) := by decide +kernel
theorem dX1_firstFault_9 : decode cX1_firstFault 9 = .ok (.getfield 15, 3) := by decide +kernel
theorem dX1_firstFault_12 : decode cX1_firstFault 12 = .ok (.if_icmp .ge 47, 3) := by decide +kernel
theorem dX1_firstFault_15 : decode cX1_firstFault 15 = .ok (.aload_n 0, 1) := by decide +kernel
theorem dX1_firstFault_16 : decode cX1_firstFault 16 = .ok (.getfield 9, 3) := by decide +kernel
theorem dX1_firstFault_19 : decode cX1_firstFault 19 = .ok (.iload_n 2, 1) := by decide +kernel
theorem dX1_firstFault_20 : decode cX1_firstFault 20 = .ok (.invokestatic 19, 3) := by decide +kernel
theorem dX1_firstFault_23 : decode cX1_firstFault 23 = .ok (.istore_n 3, 1) := by decide +kernel
theorem dX1_firstFault_24 : decode cX1_firstFault 24 = .ok (.iload_n 2, 1) := by decide +kernel
theorem dX1_firstFault_25 : decode cX1_firstFault 25 = .ok (.iload_n 1, 1) := by decide +kernel
theorem dX1_firstFault_26 : decode cX1_firstFault 26 = .ok (.if_icmp .ge 11, 3) := by decide +kernel
theorem dX1_firstFault_29 : decode cX1_firstFault 29 = .ok (.iload_n 2, 1) := by decide +kernel
theorem dX1_firstFault_30 : decode cX1_firstFault 30 = .ok (.iload_n 3, 1) := by decide +kernel
theorem dX1_firstFault_31 : decode cX1_firstFault 31 = .ok (.invokestatic 31, 3) := by decide +kernel
theorem dX1_firstFault_34 : decode cX1_firstFault 34 = .ok (.goto 10, 3) := by decide +kernel
theorem dX1_firstFault_37 : decode cX1_firstFault 37 = .ok (.iload_n 2, 1) := by decide +kernel
theorem dX1_firstFault_38 : decode cX1_firstFault 38 = .ok (.iload_n 1, 1) := by decide +kernel
theorem dX1_firstFault_39 : decode cX1_firstFault 39 = .ok (.isub, 1) := by decide +kernel
theorem dX1_firstFault_40 : decode cX1_firstFault 40 = .ok (.iload_n 3, 1) := by decide +kernel
theorem dX1_firstFault_41 : decode cX1_firstFault 41 = .ok (.invokestatic 35, 3) := by decide +kernel
theorem dX1_firstFault_44 : decode cX1_firstFault 44 = .ok (.istore 4, 2) := by decide +kernel
theorem dX1_firstFault_46 : decode cX1_firstFault 46 = .ok (.iload 4, 2) := by decide +kernel
theorem dX1_firstFault_48 : decode cX1_firstFault 48 = .ok (.ifCond .ne 5, 3) := by decide +kernel
theorem dX1_firstFault_51 : decode cX1_firstFault 51 = .ok (.iload_n 2, 1) := by decide +kernel
theorem dX1_firstFault_52 : decode cX1_firstFault 52 = .ok (.ireturn, 1) := by decide +kernel
theorem dX1_firstFault_53 : decode cX1_firstFault 53 = .ok (.iinc 2 1, 3) := by decide +kernel
theorem dX1_firstFault_56 : decode cX1_firstFault 56 = .ok (.goto (-49), 3) := by decide +kernel
theorem dX1_firstFault_59 : decode cX1_firstFault 59 = .ok (.aload_n 0, 1) := by decide +kernel
theorem dX1_firstFault_60 : decode cX1_firstFault 60 = .ok (.getfield 15, 3) := by decide +kernel
theorem dX1_firstFault_63 : decode cX1_firstFault 63 = .ok (.ireturn, 1) := by decide +kernel
theorem dX1_isTent_0 : decode cX1_isTent 0 = .ok (.aload_n 0, 1) := by decide +kernel
theorem dX1_isTent_1 : decode cX1_isTent 1 = .ok (.invokevirtual 27, 3) := by decide +kernel
theorem dX1_isTent_4 : decode cX1_isTent 4 = .ok (.istore_n 1, 1) := by decide +kernel
theorem dX1_isTent_5 : decode cX1_isTent 5 = .ok (.iload_n 1, 1) := by decide +kernel
theorem dX1_isTent_6 : decode cX1_isTent 6 = .ok (.aload_n 0, 1) := by decide +kernel
theorem dX1_isTent_7 : decode cX1_isTent 7 = .ok (.getfield 15, 3) := by decide +kernel
theorem dX1_isTent_10 : decode cX1_isTent 10 = .ok (.if_icmp .ge 30, 3) := by decide +kernel
theorem dX1_isTent_13 : decode cX1_isTent 13 = .ok (.aload_n 0, 1) := by decide +kernel
theorem dX1_isTent_14 : decode cX1_isTent 14 = .ok (.invokevirtual 38, 3) := by decide +kernel
theorem dX1_isTent_17 : decode cX1_isTent 17 = .ok (.aload_n 0, 1) := by decide +kernel
theorem dX1_isTent_18 : decode cX1_isTent 18 = .ok (.getfield 15, 3) := by decide +kernel
theorem dX1_isTent_21 : decode cX1_isTent 21 = .ok (.if_icmp .ne 19, 3) := by decide +kernel
theorem dX1_isTent_24 : decode cX1_isTent 24 = .ok (.aload_n 0, 1) := by decide +kernel
theorem dX1_isTent_25 : decode cX1_isTent 25 = .ok (.getfield 15, 3) := by decide +kernel
theorem dX1_isTent_28 : decode cX1_isTent 28 = .ok (.iload_n 1, 1) := by decide +kernel
theorem dX1_isTent_29 : decode cX1_isTent 29 = .ok (.isub, 1) := by decide +kernel
theorem dX1_isTent_30 : decode cX1_isTent 30 = .ok (.iconst 5, 1) := by decide +kernel
theorem dX1_isTent_31 : decode cX1_isTent 31 = .ok (.irem, 1) := by decide +kernel
theorem dX1_isTent_32 : decode cX1_isTent 32 = .ok (.iconst 4, 1) := by decide +kernel
theorem dX1_isTent_33 : decode cX1_isTent 33 = .ok (.if_icmp .ne 7, 3) := by decide +kernel
theorem dX1_isTent_36 : decode cX1_isTent 36 = .ok (.iconst 1, 1) := by decide +kernel
theorem dX1_isTent_37 : decode cX1_isTent 37 = .ok (.goto 4, 3) := by decide +kernel
theorem dX1_isTent_40 : decode cX1_isTent 40 = .ok (.iconst 0, 1) := by decide +kernel
theorem dX1_isTent_41 : decode cX1_isTent 41 = .ok (.ireturn, 1) := by decide +kernel
theorem dX1_things_0 : decode cX1_things 0 = .ok (.aload_n 0, 1) := by decide +kernel
theorem dX1_things_1 : decode cX1_things 1 = .ok (.invokevirtual 27, 3) := by decide +kernel
theorem dX1_things_4 : decode cX1_things 4 = .ok (.iconst 4, 1) := by decide +kernel
theorem dX1_things_5 : decode cX1_things 5 = .ok (.idiv, 1) := by decide +kernel
theorem dX1_things_6 : decode cX1_things 6 = .ok (.ireturn, 1) := by decide +kernel
theorem dX1_claimers_0 : decode cX1_claimers 0 = .ok (.aload_n 0, 1) := by decide +kernel
theorem dX1_claimers_1 : decode cX1_claimers 1 = .ok (.getfield 15, 3) := by decide +kernel
theorem dX1_claimers_4 : decode cX1_claimers 4 = .ok (.aload_n 0, 1) := by decide +kernel
theorem dX1_claimers_5 : decode cX1_claimers 5 = .ok (.invokevirtual 27, 3) := by decide +kernel
theorem dX1_claimers_8 : decode cX1_claimers 8 = .ok (.isub, 1) := by decide +kernel
theorem dX1_claimers_9 : decode cX1_claimers 9 = .ok (.iconst 1, 1) := by decide +kernel
theorem dX1_claimers_10 : decode cX1_claimers 10 = .ok (.iadd, 1) := by decide +kernel
theorem dX1_claimers_11 : decode cX1_claimers 11 = .ok (.iconst 5, 1) := by decide +kernel
theorem dX1_claimers_12 : decode cX1_claimers 12 = .ok (.idiv, 1) := by decide +kernel
theorem dX1_claimers_13 : decode cX1_claimers 13 = .ok (.ireturn, 1) := by decide +kernel
theorem dX1_thingSign_0 : decode cX1_thingSign 0 = .ok (.aload_n 0, 1) := by decide +kernel
theorem dX1_thingSign_1 : decode cX1_thingSign 1 = .ok (.getfield 9, 3) := by decide +kernel
theorem dX1_thingSign_4 : decode cX1_thingSign 4 = .ok (.iload_n 1, 1) := by decide +kernel
theorem dX1_thingSign_5 : decode cX1_thingSign 5 = .ok (.iconst 4, 1) := by decide +kernel
theorem dX1_thingSign_6 : decode cX1_thingSign 6 = .ok (.imul, 1) := by decide +kernel
theorem dX1_thingSign_7 : decode cX1_thingSign 7 = .ok (.iload_n 2, 1) := by decide +kernel
theorem dX1_thingSign_8 : decode cX1_thingSign 8 = .ok (.iadd, 1) := by decide +kernel
theorem dX1_thingSign_9 : decode cX1_thingSign 9 = .ok (.invokestatic 19, 3) := by decide +kernel
theorem dX1_thingSign_12 : decode cX1_thingSign 12 = .ok (.bipush 48, 2) := by decide +kernel
theorem dX1_thingSign_14 : decode cX1_thingSign 14 = .ok (.isub, 1) := by decide +kernel
theorem dX1_thingSign_15 : decode cX1_thingSign 15 = .ok (.ireturn, 1) := by decide +kernel
theorem dX1_claimerKind_0 : decode cX1_claimerKind 0 = .ok (.aload_n 0, 1) := by decide +kernel
theorem dX1_claimerKind_1 : decode cX1_claimerKind 1 = .ok (.getfield 9, 3) := by decide +kernel
theorem dX1_claimerKind_4 : decode cX1_claimerKind 4 = .ok (.aload_n 0, 1) := by decide +kernel
theorem dX1_claimerKind_5 : decode cX1_claimerKind 5 = .ok (.invokevirtual 27, 3) := by decide +kernel
theorem dX1_claimerKind_8 : decode cX1_claimerKind 8 = .ok (.iload_n 1, 1) := by decide +kernel
theorem dX1_claimerKind_9 : decode cX1_claimerKind 9 = .ok (.iconst 5, 1) := by decide +kernel
theorem dX1_claimerKind_10 : decode cX1_claimerKind 10 = .ok (.imul, 1) := by decide +kernel
theorem dX1_claimerKind_11 : decode cX1_claimerKind 11 = .ok (.iadd, 1) := by decide +kernel
theorem dX1_claimerKind_12 : decode cX1_claimerKind 12 = .ok (.invokestatic 19, 3) := by decide +kernel
theorem dX1_claimerKind_15 : decode cX1_claimerKind 15 = .ok (.invokestatic 41, 3) := by decide +kernel
theorem dX1_claimerKind_18 : decode cX1_claimerKind 18 = .ok (.ireturn, 1) := by decide +kernel
theorem dX1_claimerSign_0 : decode cX1_claimerSign 0 = .ok (.aload_n 0, 1) := by decide +kernel
theorem dX1_claimerSign_1 : decode cX1_claimerSign 1 = .ok (.getfield 9, 3) := by decide +kernel
theorem dX1_claimerSign_4 : decode cX1_claimerSign 4 = .ok (.aload_n 0, 1) := by decide +kernel
theorem dX1_claimerSign_5 : decode cX1_claimerSign 5 = .ok (.invokevirtual 27, 3) := by decide +kernel
theorem dX1_claimerSign_8 : decode cX1_claimerSign 8 = .ok (.iload_n 1, 1) := by decide +kernel
theorem dX1_claimerSign_9 : decode cX1_claimerSign 9 = .ok (.iconst 5, 1) := by decide +kernel
theorem dX1_claimerSign_10 : decode cX1_claimerSign 10 = .ok (.imul, 1) := by decide +kernel
theorem dX1_claimerSign_11 : decode cX1_claimerSign 11 = .ok (.iadd, 1) := by decide +kernel
theorem dX1_claimerSign_12 : decode cX1_claimerSign 12 = .ok (.iconst 1, 1) := by decide +kernel
theorem dX1_claimerSign_13 : decode cX1_claimerSign 13 = .ok (.iadd, 1) := by decide +kernel
theorem dX1_claimerSign_14 : decode cX1_claimerSign 14 = .ok (.iload_n 2, 1) := by decide +kernel
theorem dX1_claimerSign_15 : decode cX1_claimerSign 15 = .ok (.iadd, 1) := by decide +kernel
theorem dX1_claimerSign_16 : decode cX1_claimerSign 16 = .ok (.invokestatic 19, 3) := by decide +kernel
theorem dX1_claimerSign_19 : decode cX1_claimerSign 19 = .ok (.bipush 48, 2) := by decide +kernel
theorem dX1_claimerSign_21 : decode cX1_claimerSign 21 = .ok (.isub, 1) := by decide +kernel
theorem dX1_claimerSign_22 : decode cX1_claimerSign 22 = .ok (.ireturn, 1) := by decide +kernel
theorem dX1_firstClaimer_0 : decode cX1_firstClaimer 0 = .ok (.iconst 0, 1) := by decide +kernel
theorem dX1_firstClaimer_1 : decode cX1_firstClaimer 1 = .ok (.istore_n 1, 1) := by decide +kernel
theorem dX1_firstClaimer_2 : decode cX1_firstClaimer 2 = .ok (.iload_n 1, 1) := by decide +kernel
theorem dX1_firstClaimer_3 : decode cX1_firstClaimer 3 = .ok (.aload_n 0, 1) := by decide +kernel
theorem dX1_firstClaimer_4 : decode cX1_firstClaimer 4 = .ok (.getfield 15, 3) := by decide +kernel
theorem dX1_firstClaimer_7 : decode cX1_firstClaimer 7 = .ok (.if_icmp .ge 26, 3) := by decide +kernel
theorem dX1_firstClaimer_10 : decode cX1_firstClaimer 10 = .ok (.aload_n 0, 1) := by decide +kernel
theorem dX1_firstClaimer_11 : decode cX1_firstClaimer 11 = .ok (.getfield 9, 3) := by decide +kernel
theorem dX1_firstClaimer_14 : decode cX1_firstClaimer 14 = .ok (.iload_n 1, 1) := by decide +kernel
theorem dX1_firstClaimer_15 : decode cX1_firstClaimer 15 = .ok (.invokestatic 19, 3) := by decide +kernel
theorem dX1_firstClaimer_18 : decode cX1_firstClaimer 18 = .ok (.bipush 59, 2) := by decide +kernel
theorem dX1_firstClaimer_20 : decode cX1_firstClaimer 20 = .ok (.if_icmp .ne 7, 3) := by decide +kernel
theorem dX1_firstClaimer_23 : decode cX1_firstClaimer 23 = .ok (.iload_n 1, 1) := by decide +kernel
theorem dX1_firstClaimer_24 : decode cX1_firstClaimer 24 = .ok (.iconst 1, 1) := by decide +kernel
theorem dX1_firstClaimer_25 : decode cX1_firstClaimer 25 = .ok (.iadd, 1) := by decide +kernel
theorem dX1_firstClaimer_26 : decode cX1_firstClaimer 26 = .ok (.ireturn, 1) := by decide +kernel
theorem dX1_firstClaimer_27 : decode cX1_firstClaimer 27 = .ok (.iinc 1 1, 3) := by decide +kernel
theorem dX1_firstClaimer_30 : decode cX1_firstClaimer 30 = .ok (.goto (-28), 3) := by decide +kernel
theorem dX1_firstClaimer_33 : decode cX1_firstClaimer 33 = .ok (.aload_n 0, 1) := by decide +kernel
theorem dX1_firstClaimer_34 : decode cX1_firstClaimer 34 = .ok (.getfield 15, 3) := by decide +kernel
theorem dX1_firstClaimer_37 : decode cX1_firstClaimer 37 = .ok (.ireturn, 1) := by decide +kernel
theorem dX1_isGoodAmongThings_0 : decode cX1_isGoodAmongThings 0 = .ok (.iload_n 0, 1) := by decide +kernel
theorem dX1_isGoodAmongThings_1 : decode cX1_isGoodAmongThings 1 = .ok (.iconst 4, 1) := by decide +kernel
theorem dX1_isGoodAmongThings_2 : decode cX1_isGoodAmongThings 2 = .ok (.idiv, 1) := by decide +kernel
theorem dX1_isGoodAmongThings_3 : decode cX1_isGoodAmongThings 3 = .ok (.istore_n 2, 1) := by decide +kernel
theorem dX1_isGoodAmongThings_4 : decode cX1_isGoodAmongThings 4 = .ok (.iload_n 0, 1) := by decide +kernel
theorem dX1_isGoodAmongThings_5 : decode cX1_isGoodAmongThings 5 = .ok (.iconst 4, 1) := by decide +kernel
theorem dX1_isGoodAmongThings_6 : decode cX1_isGoodAmongThings 6 = .ok (.irem, 1) := by decide +kernel
theorem dX1_isGoodAmongThings_7 : decode cX1_isGoodAmongThings 7 = .ok (.istore_n 3, 1) := by decide +kernel
theorem dX1_isGoodAmongThings_8 : decode cX1_isGoodAmongThings 8 = .ok (.iload_n 3, 1) := by decide +kernel
theorem dX1_isGoodAmongThings_9 : decode cX1_isGoodAmongThings 9 = .ok (.iconst 3, 1) := by decide +kernel
theorem dX1_isGoodAmongThings_10 : decode cX1_isGoodAmongThings 10 = .ok (.if_icmp .ge 9, 3) := by decide +kernel
theorem dX1_isGoodAmongThings_13 : decode cX1_isGoodAmongThings 13 = .ok (.iload_n 3, 1) := by decide +kernel
theorem dX1_isGoodAmongThings_14 : decode cX1_isGoodAmongThings 14 = .ok (.iload_n 1, 1) := by decide +kernel
theorem dX1_isGoodAmongThings_15 : decode cX1_isGoodAmongThings 15 = .ok (.invokestatic 45, 3) := by decide +kernel
theorem dX1_isGoodAmongThings_18 : decode cX1_isGoodAmongThings 18 = .ok (.ireturn, 1) := by decide +kernel
theorem dX1_isGoodAmongThings_19 : decode cX1_isGoodAmongThings 19 = .ok (.iload_n 1, 1) := by decide +kernel
theorem dX1_isGoodAmongThings_20 : decode cX1_isGoodAmongThings 20 = .ok (.bipush 44, 2) := by decide +kernel
theorem dX1_isGoodAmongThings_22 : decode cX1_isGoodAmongThings 22 = .ok (.if_icmp .ne 10, 3) := by decide +kernel
theorem dX1_isGoodAmongThings_25 : decode cX1_isGoodAmongThings 25 = .ok (.iload_n 2, 1) := by decide +kernel
theorem dX1_isGoodAmongThings_26 : decode cX1_isGoodAmongThings 26 = .ok (.iconst 1, 1) := by decide +kernel
theorem dX1_isGoodAmongThings_27 : decode cX1_isGoodAmongThings 27 = .ok (.iadd, 1) := by decide +kernel
theorem dX1_isGoodAmongThings_28 : decode cX1_isGoodAmongThings 28 = .ok (.iconst 5, 1) := by decide +kernel
theorem dX1_isGoodAmongThings_29 : decode cX1_isGoodAmongThings 29 = .ok (.if_icmp .lt 16, 3) := by decide +kernel
theorem dX1_isGoodAmongThings_32 : decode cX1_isGoodAmongThings 32 = .ok (.iload_n 1, 1) := by decide +kernel
theorem dX1_isGoodAmongThings_33 : decode cX1_isGoodAmongThings 33 = .ok (.bipush 59, 2) := by decide +kernel
theorem dX1_isGoodAmongThings_35 : decode cX1_isGoodAmongThings 35 = .ok (.if_icmp .ne 14, 3) := by decide +kernel
theorem dX1_isGoodAmongThings_38 : decode cX1_isGoodAmongThings 38 = .ok (.iload_n 2, 1) := by decide +kernel
theorem dX1_isGoodAmongThings_39 : decode cX1_isGoodAmongThings 39 = .ok (.iconst 1, 1) := by decide +kernel
theorem dX1_isGoodAmongThings_40 : decode cX1_isGoodAmongThings 40 = .ok (.iadd, 1) := by decide +kernel
theorem dX1_isGoodAmongThings_41 : decode cX1_isGoodAmongThings 41 = .ok (.iconst 2, 1) := by decide +kernel
theorem dX1_isGoodAmongThings_42 : decode cX1_isGoodAmongThings 42 = .ok (.if_icmp .lt 7, 3) := by decide +kernel
theorem dX1_isGoodAmongThings_45 : decode cX1_isGoodAmongThings 45 = .ok (.iconst 1, 1) := by decide +kernel
theorem dX1_isGoodAmongThings_46 : decode cX1_isGoodAmongThings 46 = .ok (.goto 4, 3) := by decide +kernel
theorem dX1_isGoodAmongThings_49 : decode cX1_isGoodAmongThings 49 = .ok (.iconst 0, 1) := by decide +kernel
theorem dX1_isGoodAmongThings_50 : decode cX1_isGoodAmongThings 50 = .ok (.ireturn, 1) := by decide +kernel
theorem dX1_isGoodAmongClaimers_0 : decode cX1_isGoodAmongClaimers 0 = .ok (.iload_n 0, 1) := by decide +kernel
theorem dX1_isGoodAmongClaimers_1 : decode cX1_isGoodAmongClaimers 1 = .ok (.iconst 5, 1) := by decide +kernel
theorem dX1_isGoodAmongClaimers_2 : decode cX1_isGoodAmongClaimers 2 = .ok (.idiv, 1) := by decide +kernel
theorem dX1_isGoodAmongClaimers_3 : decode cX1_isGoodAmongClaimers 3 = .ok (.istore_n 2, 1) := by decide +kernel
theorem dX1_isGoodAmongClaimers_4 : decode cX1_isGoodAmongClaimers 4 = .ok (.iload_n 0, 1) := by decide +kernel
theorem dX1_isGoodAmongClaimers_5 : decode cX1_isGoodAmongClaimers 5 = .ok (.iconst 5, 1) := by decide +kernel
theorem dX1_isGoodAmongClaimers_6 : decode cX1_isGoodAmongClaimers 6 = .ok (.irem, 1) := by decide +kernel
theorem dX1_isGoodAmongClaimers_7 : decode cX1_isGoodAmongClaimers 7 = .ok (.istore_n 3, 1) := by decide +kernel
theorem dX1_isGoodAmongClaimers_8 : decode cX1_isGoodAmongClaimers 8 = .ok (.iload_n 3, 1) := by decide +kernel
theorem dX1_isGoodAmongClaimers_9 : decode cX1_isGoodAmongClaimers 9 = .ok (.ifCond .ne 17, 3) := by decide +kernel
theorem dX1_isGoodAmongClaimers_12 : decode cX1_isGoodAmongClaimers 12 = .ok (.iload_n 1, 1) := by decide +kernel
theorem dX1_isGoodAmongClaimers_13 : decode cX1_isGoodAmongClaimers 13 = .ok (.invokestatic 41, 3) := by decide +kernel
theorem dX1_isGoodAmongClaimers_16 : decode cX1_isGoodAmongClaimers 16 = .ok (.iconst (-1), 1) := by decide +kernel
theorem dX1_isGoodAmongClaimers_17 : decode cX1_isGoodAmongClaimers 17 = .ok (.if_icmp .eq 7, 3) := by decide +kernel
theorem dX1_isGoodAmongClaimers_20 : decode cX1_isGoodAmongClaimers 20 = .ok (.iconst 1, 1) := by decide +kernel
theorem dX1_isGoodAmongClaimers_21 : decode cX1_isGoodAmongClaimers 21 = .ok (.goto 4, 3) := by decide +kernel
theorem dX1_isGoodAmongClaimers_24 : decode cX1_isGoodAmongClaimers 24 = .ok (.iconst 0, 1) := by decide +kernel
theorem dX1_isGoodAmongClaimers_25 : decode cX1_isGoodAmongClaimers 25 = .ok (.ireturn, 1) := by decide +kernel
theorem dX1_isGoodAmongClaimers_26 : decode cX1_isGoodAmongClaimers 26 = .ok (.iload_n 3, 1) := by decide +kernel
theorem dX1_isGoodAmongClaimers_27 : decode cX1_isGoodAmongClaimers 27 = .ok (.iconst 3, 1) := by decide +kernel
theorem dX1_isGoodAmongClaimers_28 : decode cX1_isGoodAmongClaimers 28 = .ok (.if_icmp .gt 11, 3) := by decide +kernel
theorem dX1_isGoodAmongClaimers_31 : decode cX1_isGoodAmongClaimers 31 = .ok (.iload_n 3, 1) := by decide +kernel
theorem dX1_isGoodAmongClaimers_32 : decode cX1_isGoodAmongClaimers 32 = .ok (.iconst 1, 1) := by decide +kernel
theorem dX1_isGoodAmongClaimers_33 : decode cX1_isGoodAmongClaimers 33 = .ok (.isub, 1) := by decide +kernel
theorem dX1_isGoodAmongClaimers_34 : decode cX1_isGoodAmongClaimers 34 = .ok (.iload_n 1, 1) := by decide +kernel
theorem dX1_isGoodAmongClaimers_35 : decode cX1_isGoodAmongClaimers 35 = .ok (.invokestatic 45, 3) := by decide +kernel
theorem dX1_isGoodAmongClaimers_38 : decode cX1_isGoodAmongClaimers 38 = .ok (.ireturn, 1) := by decide +kernel
theorem dX1_isGoodAmongClaimers_39 : decode cX1_isGoodAmongClaimers 39 = .ok (.iload_n 1, 1) := by decide +kernel
theorem dX1_isGoodAmongClaimers_40 : decode cX1_isGoodAmongClaimers 40 = .ok (.bipush 44, 2) := by decide +kernel
theorem dX1_isGoodAmongClaimers_42 : decode cX1_isGoodAmongClaimers 42 = .ok (.if_icmp .ne 14, 3) := by decide +kernel
theorem dX1_isGoodAmongClaimers_45 : decode cX1_isGoodAmongClaimers 45 = .ok (.iload_n 2, 1) := by decide +kernel
theorem dX1_isGoodAmongClaimers_46 : decode cX1_isGoodAmongClaimers 46 = .ok (.iconst 1, 1) := by decide +kernel
theorem dX1_isGoodAmongClaimers_47 : decode cX1_isGoodAmongClaimers 47 = .ok (.iadd, 1) := by decide +kernel
theorem dX1_isGoodAmongClaimers_48 : decode cX1_isGoodAmongClaimers 48 = .ok (.iconst 3, 1) := by decide +kernel
theorem dX1_isGoodAmongClaimers_49 : decode cX1_isGoodAmongClaimers 49 = .ok (.if_icmp .ge 7, 3) := by decide +kernel
theorem dX1_isGoodAmongClaimers_52 : decode cX1_isGoodAmongClaimers 52 = .ok (.iconst 1, 1) := by decide +kernel
theorem dX1_isGoodAmongClaimers_53 : decode cX1_isGoodAmongClaimers 53 = .ok (.goto 4, 3) := by decide +kernel
theorem dX1_isGoodAmongClaimers_56 : decode cX1_isGoodAmongClaimers 56 = .ok (.iconst 0, 1) := by decide +kernel
theorem dX1_isGoodAmongClaimers_57 : decode cX1_isGoodAmongClaimers 57 = .ok (.ireturn, 1) := by decide +kernel
theorem dX1_isSign_0 : decode cX1_isSign 0 = .ok (.iload_n 1, 1) := by decide +kernel
theorem dX1_isSign_1 : decode cX1_isSign 1 = .ok (.bipush 48, 2) := by decide +kernel
theorem dX1_isSign_3 : decode cX1_isSign 3 = .ok (.isub, 1) := by decide +kernel
theorem dX1_isSign_4 : decode cX1_isSign 4 = .ok (.getstatic 48, 3) := by decide +kernel
theorem dX1_isSign_7 : decode cX1_isSign 7 = .ok (.iload_n 0, 1) := by decide +kernel
theorem dX1_isSign_8 : decode cX1_isSign 8 = .ok (.invokestatic 19, 3) := by decide +kernel
theorem dX1_isSign_11 : decode cX1_isSign 11 = .ok (.invokestatic 51, 3) := by decide +kernel
theorem dX1_isSign_14 : decode cX1_isSign 14 = .ok (.ireturn, 1) := by decide +kernel
theorem dX1_kindOfLetter_0 : decode cX1_kindOfLetter 0 = .ok (.ldc 54, 2) := by decide +kernel
theorem dX1_kindOfLetter_2 : decode cX1_kindOfLetter 2 = .ok (.iload_n 0, 1) := by decide +kernel
theorem dX1_kindOfLetter_3 : decode cX1_kindOfLetter 3 = .ok (.i2c, 1) := by decide +kernel
theorem dX1_kindOfLetter_4 : decode cX1_kindOfLetter 4 = .ok (.invokevirtual 56, 3) := by decide +kernel
theorem dX1_kindOfLetter_7 : decode cX1_kindOfLetter 7 = .ok (.ireturn, 1) := by decide +kernel
theorem dX2_init_0 : decode cX2_init 0 = .ok (.aload_n 0, 1) := by decide +kernel
theorem dX2_init_1 : decode cX2_init 1 = .ok (.invokespecial 3, 3) := by decide +kernel
theorem dX2_init_4 : decode cX2_init 4 = .ok (.aload_n 0, 1) := by decide +kernel
theorem dX2_init_5 : decode cX2_init 5 = .ok (.iconst 5, 1) := by decide +kernel
theorem dX2_init_6 : decode cX2_init 6 = .ok (.newarray .int, 2) := by decide +kernel
theorem dX2_init_8 : decode cX2_init 8 = .ok (.putfield 9, 3) := by decide +kernel
theorem dX2_init_11 : decode cX2_init 11 = .ok (.aload_n 0, 1) := by decide +kernel
theorem dX2_init_12 : decode cX2_init 12 = .ok (.bipush 9, 2) := by decide +kernel
theorem dX2_init_14 : decode cX2_init 14 = .ok (.newarray .int, 2) := by decide +kernel
theorem dX2_init_16 : decode cX2_init 16 = .ok (.putfield 15, 3) := by decide +kernel
theorem dX2_init_19 : decode cX2_init 19 = .ok (.aload_n 0, 1) := by decide +kernel
theorem dX2_init_20 : decode cX2_init 20 = .ok (.bipush 8, 2) := by decide +kernel
theorem dX2_init_22 : decode cX2_init 22 = .ok (.newarray .int, 2) := by decide +kernel
theorem dX2_init_24 : decode cX2_init 24 = .ok (.putfield 18, 3) := by decide +kernel
theorem dX2_init_27 : decode cX2_init 27 = .ok (.aload_n 0, 1) := by decide +kernel
theorem dX2_init_28 : decode cX2_init 28 = .ok (.bipush 8, 2) := by decide +kernel
theorem dX2_init_30 : decode cX2_init 30 = .ok (.newarray .int, 2) := by decide +kernel
theorem dX2_init_32 : decode cX2_init 32 = .ok (.putfield 21, 3) := by decide +kernel
theorem dX2_init_35 : decode cX2_init 35 = .ok (.aload_n 0, 1) := by decide +kernel
theorem dX2_init_36 : decode cX2_init 36 = .ok (.bipush 8, 2) := by decide +kernel
theorem dX2_init_38 : decode cX2_init 38 = .ok (.newarray .int, 2) := by decide +kernel
theorem dX2_init_40 : decode cX2_init 40 = .ok (.putfield 24, 3) := by decide +kernel
theorem dX2_init_43 : decode cX2_init 43 = .ok (.aload_n 0, 1) := by decide +kernel
theorem dX2_init_44 : decode cX2_init 44 = .ok (.invokevirtual 27, 3) := by decide +kernel
theorem dX2_init_47 : decode cX2_init 47 = .ok (.return_, 1) := by decide +kernel
theorem dX2_begin_0 : decode cX2_begin 0 = .ok (.aload_n 0, 1) := by decide +kernel
theorem dX2_begin_1 : decode cX2_begin 1 = .ok (.invokevirtual 30, 3) := by decide +kernel
theorem dX2_begin_4 : decode cX2_begin 4 = .ok (.aload_n 0, 1) := by decide +kernel
theorem dX2_begin_5 : decode cX2_begin 5 = .ok (.iconst 0, 1) := by decide +kernel
theorem dX2_begin_6 : decode cX2_begin 6 = .ok (.putfield 33, 3) := by decide +kernel
theorem dX2_begin_9 : decode cX2_begin 9 = .ok (.aload_n 0, 1) := by decide +kernel
theorem dX2_begin_10 : decode cX2_begin 10 = .ok (.iconst 0, 1) := by decide +kernel
theorem dX2_begin_11 : decode cX2_begin 11 = .ok (.putfield 37, 3) := by decide +kernel
theorem dX2_begin_14 : decode cX2_begin 14 = .ok (.aload_n 0, 1) := by decide +kernel
theorem dX2_begin_15 : decode cX2_begin 15 = .ok (.iconst 0, 1) := by decide +kernel
theorem dX2_begin_16 : decode cX2_begin 16 = .ok (.putfield 40, 3) := by decide +kernel
theorem dX2_begin_19 : decode cX2_begin 19 = .ok (.aload_n 0, 1) := by decide +kernel
theorem dX2_begin_20 : decode cX2_begin 20 = .ok (.iconst 0, 1) := by decide +kernel
theorem dX2_begin_21 : decode cX2_begin 21 = .ok (.putfield 43, 3) := by decide +kernel
theorem dX2_begin_24 : decode cX2_begin 24 = .ok (.return_, 1) := by decide +kernel
theorem dX2_copyFrom_0 : decode cX2_copyFrom 0 = .ok (.aload_n 1, 1) := by decide +kernel
theorem dX2_copyFrom_1 : decode cX2_copyFrom 1 = .ok (.getfield 9, 3) := by decide +kernel
theorem dX2_copyFrom_4 : decode cX2_copyFrom 4 = .ok (.aload_n 0, 1) := by decide +kernel
theorem dX2_copyFrom_5 : decode cX2_copyFrom 5 = .ok (.getfield 9, 3) := by decide +kernel
theorem dX2_copyFrom_8 : decode cX2_copyFrom 8 = .ok (.invokestatic 46, 3) := by decide +kernel
theorem dX2_copyFrom_11 : decode cX2_copyFrom 11 = .ok (.aload_n 1, 1) := by decide +kernel
theorem dX2_copyFrom_12 : decode cX2_copyFrom 12 = .ok (.getfield 15, 3) := by decide +kernel
theorem dX2_copyFrom_15 : decode cX2_copyFrom 15 = .ok (.aload_n 0, 1) := by decide +kernel
theorem dX2_copyFrom_16 : decode cX2_copyFrom 16 = .ok (.getfield 15, 3) := by decide +kernel
theorem dX2_copyFrom_19 : decode cX2_copyFrom 19 = .ok (.invokestatic 46, 3) := by decide +kernel
theorem dX2_copyFrom_22 : decode cX2_copyFrom 22 = .ok (.aload_n 1, 1) := by decide +kernel
theorem dX2_copyFrom_23 : decode cX2_copyFrom 23 = .ok (.getfield 18, 3) := by decide +kernel
theorem dX2_copyFrom_26 : decode cX2_copyFrom 26 = .ok (.aload_n 0, 1) := by decide +kernel
theorem dX2_copyFrom_27 : decode cX2_copyFrom 27 = .ok (.getfield 18, 3) := by decide +kernel
theorem dX2_copyFrom_30 : decode cX2_copyFrom 30 = .ok (.invokestatic 46, 3) := by decide +kernel
theorem dX2_copyFrom_33 : decode cX2_copyFrom 33 = .ok (.aload_n 1, 1) := by decide +kernel
theorem dX2_copyFrom_34 : decode cX2_copyFrom 34 = .ok (.getfield 21, 3) := by decide +kernel
theorem dX2_copyFrom_37 : decode cX2_copyFrom 37 = .ok (.aload_n 0, 1) := by decide +kernel
theorem dX2_copyFrom_38 : decode cX2_copyFrom 38 = .ok (.getfield 21, 3) := by decide +kernel
theorem dX2_copyFrom_41 : decode cX2_copyFrom 41 = .ok (.invokestatic 46, 3) := by decide +kernel
theorem dX2_copyFrom_44 : decode cX2_copyFrom 44 = .ok (.aload_n 1, 1) := by decide +kernel
theorem dX2_copyFrom_45 : decode cX2_copyFrom 45 = .ok (.getfield 24, 3) := by decide +kernel
theorem dX2_copyFrom_48 : decode cX2_copyFrom 48 = .ok (.aload_n 0, 1) := by decide +kernel
theorem dX2_copyFrom_49 : decode cX2_copyFrom 49 = .ok (.getfield 24, 3) := by decide +kernel
theorem dX2_copyFrom_52 : decode cX2_copyFrom 52 = .ok (.invokestatic 46, 3) := by decide +kernel
theorem dX2_copyFrom_55 : decode cX2_copyFrom 55 = .ok (.aload_n 0, 1) := by decide +kernel
theorem dX2_copyFrom_56 : decode cX2_copyFrom 56 = .ok (.aload_n 1, 1) := by decide +kernel
theorem dX2_copyFrom_57 : decode cX2_copyFrom 57 = .ok (.getfield 33, 3) := by decide +kernel
theorem dX2_copyFrom_60 : decode cX2_copyFrom 60 = .ok (.putfield 33, 3) := by decide +kernel
theorem dX2_copyFrom_63 : decode cX2_copyFrom 63 = .ok (.aload_n 0, 1) := by decide +kernel
theorem dX2_copyFrom_64 : decode cX2_copyFrom 64 = .ok (.aload_n 1, 1) := by decide +kernel
theorem dX2_copyFrom_65 : decode cX2_copyFrom 65 = .ok (.getfield 37, 3) := by decide +kernel
theorem dX2_copyFrom_68 : decode cX2_copyFrom 68 = .ok (.putfield 37, 3) := by decide +kernel
theorem dX2_copyFrom_71 : decode cX2_copyFrom 71 = .ok (.aload_n 0, 1) := by decide +kernel
theorem dX2_copyFrom_72 : decode cX2_copyFrom 72 = .ok (.aload_n 1, 1) := by decide +kernel
theorem dX2_copyFrom_73 : decode cX2_copyFrom 73 = .ok (.getfield 40, 3) := by decide +kernel
theorem dX2_copyFrom_76 : decode cX2_copyFrom 76 = .ok (.putfield 40, 3) := by decide +kernel
theorem dX2_copyFrom_79 : decode cX2_copyFrom 79 = .ok (.aload_n 0, 1) := by decide +kernel
theorem dX2_copyFrom_80 : decode cX2_copyFrom 80 = .ok (.aload_n 1, 1) := by decide +kernel
theorem dX2_copyFrom_81 : decode cX2_copyFrom 81 = .ok (.getfield 43, 3) := by decide +kernel
theorem dX2_copyFrom_84 : decode cX2_copyFrom 84 = .ok (.putfield 43, 3) := by decide +kernel
theorem dX2_copyFrom_87 : decode cX2_copyFrom 87 = .ok (.return_, 1) := by decide +kernel
theorem dX2_holderOf_0 : decode cX2_holderOf 0 = .ok (.aload_n 0, 1) := by decide +kernel
theorem dX2_holderOf_1 : decode cX2_holderOf 1 = .ok (.getfield 9, 3) := by decide +kernel
theorem dX2_holderOf_4 : decode cX2_holderOf 4 = .ok (.iload_n 1, 1) := by decide +kernel
theorem dX2_holderOf_5 : decode cX2_holderOf 5 = .ok (.invokestatic 50, 3) := by decide +kernel
theorem dX2_holderOf_8 : decode cX2_holderOf 8 = .ok (.ireturn, 1) := by decide +kernel
theorem dX2_thingOf_0 : decode cX2_thingOf 0 = .ok (.iconst 0, 1) := by decide +kernel
theorem dX2_thingOf_1 : decode cX2_thingOf 1 = .ok (.istore_n 2, 1) := by decide +kernel
theorem dX2_thingOf_2 : decode cX2_thingOf 2 = .ok (.iload_n 2, 1) := by decide +kernel
theorem dX2_thingOf_3 : decode cX2_thingOf 3 = .ok (.iconst 5, 1) := by decide +kernel
theorem dX2_thingOf_4 : decode cX2_thingOf 4 = .ok (.if_icmp .ge 23, 3) := by decide +kernel
theorem dX2_thingOf_7 : decode cX2_thingOf 7 = .ok (.aload_n 0, 1) := by decide +kernel
theorem dX2_thingOf_8 : decode cX2_thingOf 8 = .ok (.getfield 9, 3) := by decide +kernel
theorem dX2_thingOf_11 : decode cX2_thingOf 11 = .ok (.iload_n 2, 1) := by decide +kernel
theorem dX2_thingOf_12 : decode cX2_thingOf 12 = .ok (.invokestatic 50, 3) := by decide +kernel
theorem dX2_thingOf_15 : decode cX2_thingOf 15 = .ok (.iload_n 1, 1) := by decide +kernel
theorem dX2_thingOf_16 : decode cX2_thingOf 16 = .ok (.if_icmp .ne 5, 3) := by decide +kernel
theorem dX2_thingOf_19 : decode cX2_thingOf 19 = .ok (.iload_n 2, 1) := by decide +kernel
theorem dX2_thingOf_20 : decode cX2_thingOf 20 = .ok (.ireturn, 1) := by decide +kernel
theorem dX2_thingOf_21 : decode cX2_thingOf 21 = .ok (.iinc 2 1, 3) := by decide +kernel
theorem dX2_thingOf_24 : decode cX2_thingOf 24 = .ok (.goto (-22), 3) := by decide +kernel
theorem dX2_thingOf_27 : decode cX2_thingOf 27 = .ok (.iconst (-1), 1) := by decide +kernel
theorem dX2_thingOf_28 : decode cX2_thingOf 28 = .ok (.ireturn, 1) := by decide +kernel
theorem dX2_hand_0 : decode cX2_hand 0 = .ok (.aload_n 0, 1) := by decide +kernel
theorem dX2_hand_1 : decode cX2_hand 1 = .ok (.getfield 9, 3) := by decide +kernel
theorem dX2_hand_4 : decode cX2_hand 4 = .ok (.iload_n 1, 1) := by decide +kernel
theorem dX2_hand_5 : decode cX2_hand 5 = .ok (.iload_n 2, 1) := by decide +kernel
theorem dX2_hand_6 : decode cX2_hand 6 = .ok (.invokestatic 54, 3) := by decide +kernel
theorem dX2_hand_9 : decode cX2_hand 9 = .ok (.return_, 1) := by decide +kernel
theorem dX2_memoryOf_0 : decode cX2_memoryOf 0 = .ok (.aload_n 0, 1) := by decide +kernel
theorem dX2_memoryOf_1 : decode cX2_memoryOf 1 = .ok (.getfield 15, 3) := by decide +kernel
theorem dX2_memoryOf_4 : decode cX2_memoryOf 4 = .ok (.iload_n 1, 1) := by decide +kernel
theorem dX2_memoryOf_5 : decode cX2_memoryOf 5 = .ok (.iconst 3, 1) := by decide +kernel
theorem dX2_memoryOf_6 : decode cX2_memoryOf 6 = .ok (.imul, 1) := by decide +kernel
theorem dX2_memoryOf_7 : decode cX2_memoryOf 7 = .ok (.iload_n 2, 1) := by decide +kernel
theorem dX2_memoryOf_8 : decode cX2_memoryOf 8 = .ok (.iadd, 1) := by decide +kernel
theorem dX2_memoryOf_9 : decode cX2_memoryOf 9 = .ok (.invokestatic 50, 3) := by decide +kernel
theorem dX2_memoryOf_12 : decode cX2_memoryOf 12 = .ok (.ireturn, 1) := by decide +kernel
theorem dX2_setMemory_0 : decode cX2_setMemory 0 = .ok (.aload_n 0, 1) := by decide +kernel
theorem dX2_setMemory_1 : decode cX2_setMemory 1 = .ok (.getfield 15, 3) := by decide +kernel
theorem dX2_setMemory_4 : decode cX2_setMemory 4 = .ok (.iload_n 1, 1) := by decide +kernel
theorem dX2_setMemory_5 : decode cX2_setMemory 5 = .ok (.iconst 3, 1) := by decide +kernel
theorem dX2_setMemory_6 : decode cX2_setMemory 6 = .ok (.imul, 1) := by decide +kernel
theorem dX2_setMemory_7 : decode cX2_setMemory 7 = .ok (.iload_n 2, 1) := by decide +kernel
theorem dX2_setMemory_8 : decode cX2_setMemory 8 = .ok (.iadd, 1) := by decide +kernel
theorem dX2_setMemory_9 : decode cX2_setMemory 9 = .ok (.iload_n 3, 1) := by decide +kernel
theorem dX2_setMemory_10 : decode cX2_setMemory 10 = .ok (.invokestatic 54, 3) := by decide +kernel
theorem dX2_setMemory_13 : decode cX2_setMemory 13 = .ok (.return_, 1) := by decide +kernel
theorem dX2_endMonday_0 : decode cX2_endMonday 0 = .ok (.aload_n 0, 1) := by decide +kernel
theorem dX2_endMonday_1 : decode cX2_endMonday 1 = .ok (.dup, 1) := by decide +kernel
theorem dX2_endMonday_2 : decode cX2_endMonday 2 = .ok (.getfield 40, 3) := by decide +kernel
theorem dX2_endMonday_5 : decode cX2_endMonday 5 = .ok (.iload_n 1, 1) := by decide +kernel
theorem dX2_endMonday_6 : decode cX2_endMonday 6 = .ok (.iadd, 1) := by decide +kernel
theorem dX2_endMonday_7 : decode cX2_endMonday 7 = .ok (.putfield 40, 3) := by decide +kernel
theorem dX2_endMonday_10 : decode cX2_endMonday 10 = .ok (.aload_n 0, 1) := by decide +kernel
theorem dX2_endMonday_11 : decode cX2_endMonday 11 = .ok (.dup, 1) := by decide +kernel
theorem dX2_endMonday_12 : decode cX2_endMonday 12 = .ok (.getfield 43, 3) := by decide +kernel
theorem dX2_endMonday_15 : decode cX2_endMonday 15 = .ok (.iload_n 2, 1) := by decide +kernel
theorem dX2_endMonday_16 : decode cX2_endMonday 16 = .ok (.iadd, 1) := by decide +kernel
theorem dX2_endMonday_17 : decode cX2_endMonday 17 = .ok (.putfield 43, 3) := by decide +kernel
theorem dX2_endMonday_20 : decode cX2_endMonday 20 = .ok (.aload_n 0, 1) := by decide +kernel
theorem dX2_endMonday_21 : decode cX2_endMonday 21 = .ok (.dup, 1) := by decide +kernel
theorem dX2_endMonday_22 : decode cX2_endMonday 22 = .ok (.getfield 37, 3) := by decide +kernel
theorem dX2_endMonday_25 : decode cX2_endMonday 25 = .ok (.iconst 1, 1) := by decide +kernel
theorem dX2_endMonday_26 : decode cX2_endMonday 26 = .ok (.iadd, 1) := by decide +kernel
theorem dX2_endMonday_27 : decode cX2_endMonday 27 = .ok (.putfield 37, 3) := by decide +kernel
theorem dX2_endMonday_30 : decode cX2_endMonday 30 = .ok (.aload_n 0, 1) := by decide +kernel
theorem dX2_endMonday_31 : decode cX2_endMonday 31 = .ok (.invokevirtual 30, 3) := by decide +kernel
theorem dX2_endMonday_34 : decode cX2_endMonday 34 = .ok (.return_, 1) := by decide +kernel
theorem dX2_mondaysOver_0 : decode cX2_mondaysOver 0 = .ok (.aload_n 0, 1) := by decide +kernel
theorem dX2_mondaysOver_1 : decode cX2_mondaysOver 1 = .ok (.getfield 37, 3) := by decide +kernel
theorem dX2_mondaysOver_4 : decode cX2_mondaysOver 4 = .ok (.ireturn, 1) := by decide +kernel
theorem dX2_thingsLeft_0 : decode cX2_thingsLeft 0 = .ok (.aload_n 0, 1) := by decide +kernel
theorem dX2_thingsLeft_1 : decode cX2_thingsLeft 1 = .ok (.getfield 40, 3) := by decide +kernel
theorem dX2_thingsLeft_4 : decode cX2_thingsLeft 4 = .ok (.ireturn, 1) := by decide +kernel
theorem dX2_claimersLeft_0 : decode cX2_claimersLeft 0 = .ok (.aload_n 0, 1) := by decide +kernel
theorem dX2_claimersLeft_1 : decode cX2_claimersLeft 1 = .ok (.getfield 43, 3) := by decide +kernel
theorem dX2_claimersLeft_4 : decode cX2_claimersLeft 4 = .ok (.ireturn, 1) := by decide +kernel
theorem dX2_noteSeen_0 : decode cX2_noteSeen 0 = .ok (.aload_n 0, 1) := by decide +kernel
theorem dX2_noteSeen_1 : decode cX2_noteSeen 1 = .ok (.getfield 33, 3) := by decide +kernel
theorem dX2_noteSeen_4 : decode cX2_noteSeen 4 = .ok (.bipush 8, 2) := by decide +kernel
theorem dX2_noteSeen_6 : decode cX2_noteSeen 6 = .ok (.if_icmp .lt 5, 3) := by decide +kernel
theorem dX2_noteSeen_9 : decode cX2_noteSeen 9 = .ok (.iconst 0, 1) := by decide +kernel
theorem dX2_noteSeen_10 : decode cX2_noteSeen 10 = .ok (.ireturn, 1) := by decide +kernel
theorem dX2_noteSeen_11 : decode cX2_noteSeen 11 = .ok (.aload_n 0, 1) := by decide +kernel
theorem dX2_noteSeen_12 : decode cX2_noteSeen 12 = .ok (.getfield 18, 3) := by decide +kernel
theorem dX2_noteSeen_15 : decode cX2_noteSeen 15 = .ok (.aload_n 0, 1) := by decide +kernel
theorem dX2_noteSeen_16 : decode cX2_noteSeen 16 = .ok (.getfield 33, 3) := by decide +kernel
theorem dX2_noteSeen_19 : decode cX2_noteSeen 19 = .ok (.iload_n 1, 1) := by decide +kernel
theorem dX2_noteSeen_20 : decode cX2_noteSeen 20 = .ok (.invokestatic 54, 3) := by decide +kernel
theorem dX2_noteSeen_23 : decode cX2_noteSeen 23 = .ok (.aload_n 0, 1) := by decide +kernel
theorem dX2_noteSeen_24 : decode cX2_noteSeen 24 = .ok (.getfield 21, 3) := by decide +kernel
theorem dX2_noteSeen_27 : decode cX2_noteSeen 27 = .ok (.aload_n 0, 1) := by decide +kernel
theorem dX2_noteSeen_28 : decode cX2_noteSeen 28 = .ok (.getfield 33, 3) := by decide +kernel
theorem dX2_noteSeen_31 : decode cX2_noteSeen 31 = .ok (.iload_n 2, 1) := by decide +kernel
theorem dX2_noteSeen_32 : decode cX2_noteSeen 32 = .ok (.invokestatic 54, 3) := by decide +kernel
theorem dX2_noteSeen_35 : decode cX2_noteSeen 35 = .ok (.aload_n 0, 1) := by decide +kernel
theorem dX2_noteSeen_36 : decode cX2_noteSeen 36 = .ok (.getfield 24, 3) := by decide +kernel
theorem dX2_noteSeen_39 : decode cX2_noteSeen 39 = .ok (.aload_n 0, 1) := by decide +kernel
theorem dX2_noteSeen_40 : decode cX2_noteSeen 40 = .ok (.getfield 33, 3) := by decide +kernel
theorem dX2_noteSeen_43 : decode cX2_noteSeen 43 = .ok (.iload_n 3, 1) := by decide +kernel
theorem dX2_noteSeen_44 : decode cX2_noteSeen 44 = .ok (.ifCond .eq 7, 3) := by decide +kernel
theorem dX2_noteSeen_47 : decode cX2_noteSeen 47 = .ok (.iconst 1, 1) := by decide +kernel
theorem dX2_noteSeen_48 : decode cX2_noteSeen 48 = .ok (.goto 4, 3) := by decide +kernel
theorem dX2_noteSeen_51 : decode cX2_noteSeen 51 = .ok (.iconst 0, 1) := by decide +kernel
theorem dX2_noteSeen_52 : decode cX2_noteSeen 52 = .ok (.invokestatic 54, 3) := by decide +kernel
theorem dX2_noteSeen_55 : decode cX2_noteSeen 55 = .ok (.aload_n 0, 1) := by decide +kernel
theorem dX2_noteSeen_56 : decode cX2_noteSeen 56 = .ok (.dup, 1) := by decide +kernel
theorem dX2_noteSeen_57 : decode cX2_noteSeen 57 = .ok (.getfield 33, 3) := by decide +kernel
theorem dX2_noteSeen_60 : decode cX2_noteSeen 60 = .ok (.iconst 1, 1) := by decide +kernel
theorem dX2_noteSeen_61 : decode cX2_noteSeen 61 = .ok (.iadd, 1) := by decide +kernel
theorem dX2_noteSeen_62 : decode cX2_noteSeen 62 = .ok (.putfield 33, 3) := by decide +kernel
theorem dX2_noteSeen_65 : decode cX2_noteSeen 65 = .ok (.iconst 1, 1) := by decide +kernel
theorem dX2_noteSeen_66 : decode cX2_noteSeen 66 = .ok (.ireturn, 1) := by decide +kernel
theorem dX2_clearSeen_0 : decode cX2_clearSeen 0 = .ok (.aload_n 0, 1) := by decide +kernel
theorem dX2_clearSeen_1 : decode cX2_clearSeen 1 = .ok (.iconst 0, 1) := by decide +kernel
theorem dX2_clearSeen_2 : decode cX2_clearSeen 2 = .ok (.putfield 33, 3) := by decide +kernel
theorem dX2_clearSeen_5 : decode cX2_clearSeen 5 = .ok (.return_, 1) := by decide +kernel
theorem dX2_seenInAll_0 : decode cX2_seenInAll 0 = .ok (.aload_n 0, 1) := by decide +kernel
theorem dX2_seenInAll_1 : decode cX2_seenInAll 1 = .ok (.getfield 33, 3) := by decide +kernel
theorem dX2_seenInAll_4 : decode cX2_seenInAll 4 = .ok (.ireturn, 1) := by decide +kernel
theorem dX2_seenThing_0 : decode cX2_seenThing 0 = .ok (.aload_n 0, 1) := by decide +kernel
theorem dX2_seenThing_1 : decode cX2_seenThing 1 = .ok (.getfield 18, 3) := by decide +kernel
theorem dX2_seenThing_4 : decode cX2_seenThing 4 = .ok (.iload_n 1, 1) := by decide +kernel
theorem dX2_seenThing_5 : decode cX2_seenThing 5 = .ok (.invokestatic 50, 3) := by decide +kernel
theorem dX2_seenThing_8 : decode cX2_seenThing 8 = .ok (.ireturn, 1) := by decide +kernel
theorem dX2_seenClaimer_0 : decode cX2_seenClaimer 0 = .ok (.aload_n 0, 1) := by decide +kernel
theorem dX2_seenClaimer_1 : decode cX2_seenClaimer 1 = .ok (.getfield 21, 3) := by decide +kernel
theorem dX2_seenClaimer_4 : decode cX2_seenClaimer 4 = .ok (.iload_n 1, 1) := by decide +kernel
theorem dX2_seenClaimer_5 : decode cX2_seenClaimer 5 = .ok (.invokestatic 50, 3) := by decide +kernel
theorem dX2_seenClaimer_8 : decode cX2_seenClaimer 8 = .ok (.ireturn, 1) := by decide +kernel
theorem dX2_seenFitted_0 : decode cX2_seenFitted 0 = .ok (.aload_n 0, 1) := by decide +kernel
theorem dX2_seenFitted_1 : decode cX2_seenFitted 1 = .ok (.getfield 24, 3) := by decide +kernel
theorem dX2_seenFitted_4 : decode cX2_seenFitted 4 = .ok (.iload_n 1, 1) := by decide +kernel
theorem dX2_seenFitted_5 : decode cX2_seenFitted 5 = .ok (.invokestatic 50, 3) := by decide +kernel
theorem dX2_seenFitted_8 : decode cX2_seenFitted 8 = .ok (.iconst 1, 1) := by decide +kernel
theorem dX2_seenFitted_9 : decode cX2_seenFitted 9 = .ok (.if_icmp .ne 7, 3) := by decide +kernel
theorem dX2_seenFitted_12 : decode cX2_seenFitted 12 = .ok (.iconst 1, 1) := by decide +kernel
theorem dX2_seenFitted_13 : decode cX2_seenFitted 13 = .ok (.goto 4, 3) := by decide +kernel
theorem dX2_seenFitted_16 : decode cX2_seenFitted 16 = .ok (.iconst 0, 1) := by decide +kernel
theorem dX2_seenFitted_17 : decode cX2_seenFitted 17 = .ok (.ireturn, 1) := by decide +kernel
theorem dX2_takeAllBack_0 : decode cX2_takeAllBack 0 = .ok (.iconst 0, 1) := by decide +kernel
theorem dX2_takeAllBack_1 : decode cX2_takeAllBack 1 = .ok (.istore_n 1, 1) := by decide +kernel
theorem dX2_takeAllBack_2 : decode cX2_takeAllBack 2 = .ok (.iload_n 1, 1) := by decide +kernel
theorem dX2_takeAllBack_3 : decode cX2_takeAllBack 3 = .ok (.iconst 5, 1) := by decide +kernel
theorem dX2_takeAllBack_4 : decode cX2_takeAllBack 4 = .ok (.if_icmp .ge 18, 3) := by decide +kernel
theorem dX2_takeAllBack_7 : decode cX2_takeAllBack 7 = .ok (.aload_n 0, 1) := by decide +kernel
theorem dX2_takeAllBack_8 : decode cX2_takeAllBack 8 = .ok (.getfield 9, 3) := by decide +kernel
theorem dX2_takeAllBack_11 : decode cX2_takeAllBack 11 = .ok (.iload_n 1, 1) := by decide +kernel
theorem dX2_takeAllBack_12 : decode cX2_takeAllBack 12 = .ok (.iconst (-1), 1) := by decide +kernel
theorem dX2_takeAllBack_13 : decode cX2_takeAllBack 13 = .ok (.invokestatic 54, 3) := by decide +kernel
theorem dX2_takeAllBack_16 : decode cX2_takeAllBack 16 = .ok (.iinc 1 1, 3) := by decide +kernel
theorem dX2_takeAllBack_19 : decode cX2_takeAllBack 19 = .ok (.goto (-17), 3) := by decide +kernel
theorem dX2_takeAllBack_22 : decode cX2_takeAllBack 22 = .ok (.return_, 1) := by decide +kernel
theorem dX3_init_0 : decode cX3_init 0 = .ok (.aload_n 0, 1) := by decide +kernel
theorem dX3_init_1 : decode cX3_init 1 = .ok (.invokespecial 3, 3) := by decide +kernel
theorem dX3_init_4 : decode cX3_init 4 = .ok (.aload_n 0, 1) := by decide +kernel
theorem dX3_init_5 : decode cX3_init 5 = .ok (.bipush 15, 2) := by decide +kernel
theorem dX3_init_7 : decode cX3_init 7 = .ok (.newarray .int, 2) := by decide +kernel
theorem dX3_init_9 : decode cX3_init 9 = .ok (.putfield 9, 3) := by decide +kernel
theorem dX3_init_12 : decode cX3_init 12 = .ok (.aload_n 0, 1) := by decide +kernel
theorem dX3_init_13 : decode cX3_init 13 = .ok (.iconst 3, 1) := by decide +kernel
theorem dX3_init_14 : decode cX3_init 14 = .ok (.newarray .int, 2) := by decide +kernel
theorem dX3_init_16 : decode cX3_init 16 = .ok (.putfield 15, 3) := by decide +kernel
theorem dX3_init_19 : decode cX3_init 19 = .ok (.aload_n 0, 1) := by decide +kernel
theorem dX3_init_20 : decode cX3_init 20 = .ok (.new 18, 3) := by decide +kernel
theorem dX3_init_23 : decode cX3_init 23 = .ok (.dup, 1) := by decide +kernel
theorem dX3_init_24 : decode cX3_init 24 = .ok (.invokespecial 20, 3) := by decide +kernel
theorem dX3_init_27 : decode cX3_init 27 = .ok (.putfield 21, 3) := by decide +kernel
theorem dX3_init_30 : decode cX3_init 30 = .ok (.aload_n 0, 1) := by decide +kernel
theorem dX3_init_31 : decode cX3_init 31 = .ok (.new 18, 3) := by decide +kernel
theorem dX3_init_34 : decode cX3_init 34 = .ok (.dup, 1) := by decide +kernel
theorem dX3_init_35 : decode cX3_init 35 = .ok (.invokespecial 20, 3) := by decide +kernel
theorem dX3_init_38 : decode cX3_init 38 = .ok (.putfield 25, 3) := by decide +kernel
theorem dX3_init_41 : decode cX3_init 41 = .ok (.aload_n 0, 1) := by decide +kernel
theorem dX3_init_42 : decode cX3_init 42 = .ok (.iconst 0, 1) := by decide +kernel
theorem dX3_init_43 : decode cX3_init 43 = .ok (.putfield 28, 3) := by decide +kernel
theorem dX3_init_46 : decode cX3_init 46 = .ok (.aload_n 0, 1) := by decide +kernel
theorem dX3_init_47 : decode cX3_init 47 = .ok (.iconst 0, 1) := by decide +kernel
theorem dX3_init_48 : decode cX3_init 48 = .ok (.putfield 32, 3) := by decide +kernel
theorem dX3_init_51 : decode cX3_init 51 = .ok (.aload_n 0, 1) := by decide +kernel
theorem dX3_init_52 : decode cX3_init 52 = .ok (.iconst 0, 1) := by decide +kernel
theorem dX3_init_53 : decode cX3_init 53 = .ok (.putfield 35, 3) := by decide +kernel
theorem dX3_init_56 : decode cX3_init 56 = .ok (.return_, 1) := by decide +kernel
theorem dX3_readFrom_0 : decode cX3_readFrom 0 = .ok (.aload_n 0, 1) := by decide +kernel
theorem dX3_readFrom_1 : decode cX3_readFrom 1 = .ok (.aload_n 1, 1) := by decide +kernel
theorem dX3_readFrom_2 : decode cX3_readFrom 2 = .ok (.invokevirtual 39, 3) := by decide +kernel
theorem dX3_readFrom_5 : decode cX3_readFrom 5 = .ok (.putfield 28, 3) := by decide +kernel
theorem dX3_readFrom_8 : decode cX3_readFrom 8 = .ok (.aload_n 0, 1) := by decide +kernel
theorem dX3_readFrom_9 : decode cX3_readFrom 9 = .ok (.aload_n 1, 1) := by decide +kernel
theorem dX3_readFrom_10 : decode cX3_readFrom 10 = .ok (.invokevirtual 44, 3) := by decide +kernel
theorem dX3_readFrom_13 : decode cX3_readFrom 13 = .ok (.putfield 32, 3) := by decide +kernel
theorem dX3_readFrom_16 : decode cX3_readFrom 16 = .ok (.aload_n 0, 1) := by decide +kernel
theorem dX3_readFrom_17 : decode cX3_readFrom 17 = .ok (.iconst 0, 1) := by decide +kernel
theorem dX3_readFrom_18 : decode cX3_readFrom 18 = .ok (.putfield 35, 3) := by decide +kernel
theorem dX3_readFrom_21 : decode cX3_readFrom 21 = .ok (.aload_n 0, 1) := by decide +kernel
theorem dX3_readFrom_22 : decode cX3_readFrom 22 = .ok (.getfield 21, 3) := by decide +kernel
theorem dX3_readFrom_25 : decode cX3_readFrom 25 = .ok (.invokevirtual 46, 3) := by decide +kernel
theorem dX3_readFrom_28 : decode cX3_readFrom 28 = .ok (.iconst 0, 1) := by decide +kernel
theorem dX3_readFrom_29 : decode cX3_readFrom 29 = .ok (.istore_n 2, 1) := by decide +kernel
theorem dX3_readFrom_30 : decode cX3_readFrom 30 = .ok (.iload_n 2, 1) := by decide +kernel
theorem dX3_readFrom_31 : decode cX3_readFrom 31 = .ok (.aload_n 0, 1) := by decide +kernel
theorem dX3_readFrom_32 : decode cX3_readFrom 32 = .ok (.getfield 28, 3) := by decide +kernel
theorem dX3_readFrom_35 : decode cX3_readFrom 35 = .ok (.if_icmp .ge 40, 3) := by decide +kernel
theorem dX3_readFrom_38 : decode cX3_readFrom 38 = .ok (.iconst 0, 1) := by decide +kernel
theorem dX3_readFrom_39 : decode cX3_readFrom 39 = .ok (.istore_n 3, 1) := by decide +kernel
theorem dX3_readFrom_40 : decode cX3_readFrom 40 = .ok (.iload_n 3, 1) := by decide +kernel
theorem dX3_readFrom_41 : decode cX3_readFrom 41 = .ok (.iconst 3, 1) := by decide +kernel
theorem dX3_readFrom_42 : decode cX3_readFrom 42 = .ok (.if_icmp .ge 27, 3) := by decide +kernel
theorem dX3_readFrom_45 : decode cX3_readFrom 45 = .ok (.aload_n 0, 1) := by decide +kernel
theorem dX3_readFrom_46 : decode cX3_readFrom 46 = .ok (.getfield 9, 3) := by decide +kernel
theorem dX3_readFrom_49 : decode cX3_readFrom 49 = .ok (.iload_n 2, 1) := by decide +kernel
theorem dX3_readFrom_50 : decode cX3_readFrom 50 = .ok (.iconst 3, 1) := by decide +kernel
theorem dX3_readFrom_51 : decode cX3_readFrom 51 = .ok (.imul, 1) := by decide +kernel
theorem dX3_readFrom_52 : decode cX3_readFrom 52 = .ok (.iload_n 3, 1) := by decide +kernel
theorem dX3_readFrom_53 : decode cX3_readFrom 53 = .ok (.iadd, 1) := by decide +kernel
theorem dX3_readFrom_54 : decode cX3_readFrom 54 = .ok (.aload_n 1, 1) := by decide +kernel
theorem dX3_readFrom_55 : decode cX3_readFrom 55 = .ok (.iload_n 2, 1) := by decide +kernel
theorem dX3_readFrom_56 : decode cX3_readFrom 56 = .ok (.iload_n 3, 1) := by decide +kernel
theorem dX3_readFrom_57 : decode cX3_readFrom 57 = .ok (.invokevirtual 49, 3) := by decide +kernel
theorem dX3_readFrom_60 : decode cX3_readFrom 60 = .ok (.invokestatic 53, 3) := by decide +kernel
theorem dX3_readFrom_63 : decode cX3_readFrom 63 = .ok (.iinc 3 1, 3) := by decide +kernel
theorem dX3_readFrom_66 : decode cX3_readFrom 66 = .ok (.goto (-26), 3) := by decide +kernel
theorem dX3_readFrom_69 : decode cX3_readFrom 69 = .ok (.iinc 2 1, 3) := by decide +kernel
theorem dX3_readFrom_72 : decode cX3_readFrom 72 = .ok (.goto (-42), 3) := by decide +kernel
theorem dX3_readFrom_75 : decode cX3_readFrom 75 = .ok (.iconst 0, 1) := by decide +kernel
theorem dX3_readFrom_76 : decode cX3_readFrom 76 = .ok (.istore_n 2, 1) := by decide +kernel
theorem dX3_readFrom_77 : decode cX3_readFrom 77 = .ok (.iload_n 2, 1) := by decide +kernel
theorem dX3_readFrom_78 : decode cX3_readFrom 78 = .ok (.aload_n 0, 1) := by decide +kernel
theorem dX3_readFrom_79 : decode cX3_readFrom 79 = .ok (.getfield 32, 3) := by decide +kernel
theorem dX3_readFrom_82 : decode cX3_readFrom 82 = .ok (.if_icmp .ge 50, 3) := by decide +kernel
theorem dX3_readFrom_85 : decode cX3_readFrom 85 = .ok (.aload_n 0, 1) := by decide +kernel
theorem dX3_readFrom_86 : decode cX3_readFrom 86 = .ok (.getfield 15, 3) := by decide +kernel
theorem dX3_readFrom_89 : decode cX3_readFrom 89 = .ok (.iload_n 2, 1) := by decide +kernel
theorem dX3_readFrom_90 : decode cX3_readFrom 90 = .ok (.aload_n 1, 1) := by decide +kernel
theorem dX3_readFrom_91 : decode cX3_readFrom 91 = .ok (.iload_n 2, 1) := by decide +kernel
theorem dX3_readFrom_92 : decode cX3_readFrom 92 = .ok (.invokevirtual 57, 3) := by decide +kernel
theorem dX3_readFrom_95 : decode cX3_readFrom 95 = .ok (.invokestatic 53, 3) := by decide +kernel
theorem dX3_readFrom_98 : decode cX3_readFrom 98 = .ok (.iconst 0, 1) := by decide +kernel
theorem dX3_readFrom_99 : decode cX3_readFrom 99 = .ok (.istore_n 3, 1) := by decide +kernel
theorem dX3_readFrom_100 : decode cX3_readFrom 100 = .ok (.iload_n 3, 1) := by decide +kernel
theorem dX3_readFrom_101 : decode cX3_readFrom 101 = .ok (.iconst 3, 1) := by decide +kernel
theorem dX3_readFrom_102 : decode cX3_readFrom 102 = .ok (.if_icmp .ge 24, 3) := by decide +kernel
theorem dX3_readFrom_105 : decode cX3_readFrom 105 = .ok (.aload_n 0, 1) := by decide +kernel
theorem dX3_readFrom_106 : decode cX3_readFrom 106 = .ok (.getfield 21, 3) := by decide +kernel
theorem dX3_readFrom_109 : decode cX3_readFrom 109 = .ok (.iload_n 2, 1) := by decide +kernel
theorem dX3_readFrom_110 : decode cX3_readFrom 110 = .ok (.iload_n 3, 1) := by decide +kernel
theorem dX3_readFrom_111 : decode cX3_readFrom 111 = .ok (.aload_n 1, 1) := by decide +kernel
theorem dX3_readFrom_112 : decode cX3_readFrom 112 = .ok (.iload_n 2, 1) := by decide +kernel
theorem dX3_readFrom_113 : decode cX3_readFrom 113 = .ok (.iload_n 3, 1) := by decide +kernel
theorem dX3_readFrom_114 : decode cX3_readFrom 114 = .ok (.invokevirtual 61, 3) := by decide +kernel
theorem dX3_readFrom_117 : decode cX3_readFrom 117 = .ok (.invokevirtual 64, 3) := by decide +kernel
theorem dX3_readFrom_120 : decode cX3_readFrom 120 = .ok (.iinc 3 1, 3) := by decide +kernel
theorem dX3_readFrom_123 : decode cX3_readFrom 123 = .ok (.goto (-23), 3) := by decide +kernel
theorem dX3_readFrom_126 : decode cX3_readFrom 126 = .ok (.iinc 2 1, 3) := by decide +kernel
theorem dX3_readFrom_129 : decode cX3_readFrom 129 = .ok (.goto (-52), 3) := by decide +kernel
theorem dX3_readFrom_132 : decode cX3_readFrom 132 = .ok (.return_, 1) := by decide +kernel
theorem dX3_stands_0 : decode cX3_stands 0 = .ok (.aload_n 0, 1) := by decide +kernel
theorem dX3_stands_1 : decode cX3_stands 1 = .ok (.getfield 28, 3) := by decide +kernel
theorem dX3_stands_4 : decode cX3_stands 4 = .ok (.ifCond .le 7, 3) := by decide +kernel
theorem dX3_stands_7 : decode cX3_stands 7 = .ok (.iconst 1, 1) := by decide +kernel
theorem dX3_stands_8 : decode cX3_stands 8 = .ok (.goto 4, 3) := by decide +kernel
theorem dX3_stands_11 : decode cX3_stands 11 = .ok (.iconst 0, 1) := by decide +kernel
theorem dX3_stands_12 : decode cX3_stands 12 = .ok (.ireturn, 1) := by decide +kernel
theorem dX3_things_0 : decode cX3_things 0 = .ok (.aload_n 0, 1) := by decide +kernel
theorem dX3_things_1 : decode cX3_things 1 = .ok (.getfield 28, 3) := by decide +kernel
theorem dX3_things_4 : decode cX3_things 4 = .ok (.ireturn, 1) := by decide +kernel
theorem dX3_claimers_0 : decode cX3_claimers 0 = .ok (.aload_n 0, 1) := by decide +kernel
theorem dX3_claimers_1 : decode cX3_claimers 1 = .ok (.getfield 32, 3) := by decide +kernel
theorem dX3_claimers_4 : decode cX3_claimers 4 = .ok (.ireturn, 1) := by decide +kernel
theorem dX3_hasThing_0 : decode cX3_hasThing 0 = .ok (.iload_n 1, 1) := by decide +kernel
theorem dX3_hasThing_1 : decode cX3_hasThing 1 = .ok (.aload_n 0, 1) := by decide +kernel
theorem dX3_hasThing_2 : decode cX3_hasThing 2 = .ok (.getfield 28, 3) := by decide +kernel
theorem dX3_hasThing_5 : decode cX3_hasThing 5 = .ok (.invokestatic 68, 3) := by decide +kernel
theorem dX3_hasThing_8 : decode cX3_hasThing 8 = .ok (.ireturn, 1) := by decide +kernel
theorem dX3_hasClaimer_0 : decode cX3_hasClaimer 0 = .ok (.iload_n 1, 1) := by decide +kernel
theorem dX3_hasClaimer_1 : decode cX3_hasClaimer 1 = .ok (.aload_n 0, 1) := by decide +kernel
theorem dX3_hasClaimer_2 : decode cX3_hasClaimer 2 = .ok (.getfield 32, 3) := by decide +kernel
theorem dX3_hasClaimer_5 : decode cX3_hasClaimer 5 = .ok (.invokestatic 68, 3) := by decide +kernel
theorem dX3_hasClaimer_8 : decode cX3_hasClaimer 8 = .ok (.ireturn, 1) := by decide +kernel
theorem dX3_hasBoth_0 : decode cX3_hasBoth 0 = .ok (.aload_n 0, 1) := by decide +kernel
theorem dX3_hasBoth_1 : decode cX3_hasBoth 1 = .ok (.iload_n 1, 1) := by decide +kernel
theorem dX3_hasBoth_2 : decode cX3_hasBoth 2 = .ok (.invokevirtual 72, 3) := by decide +kernel
theorem dX3_hasBoth_5 : decode cX3_hasBoth 5 = .ok (.ifCond .eq 15, 3) := by decide +kernel
theorem dX3_hasBoth_8 : decode cX3_hasBoth 8 = .ok (.aload_n 0, 1) := by decide +kernel
theorem dX3_hasBoth_9 : decode cX3_hasBoth 9 = .ok (.iload_n 2, 1) := by decide +kernel
theorem dX3_hasBoth_10 : decode cX3_hasBoth 10 = .ok (.invokevirtual 76, 3) := by decide +kernel
theorem dX3_hasBoth_13 : decode cX3_hasBoth 13 = .ok (.ifCond .eq 7, 3) := by decide +kernel
theorem dX3_hasBoth_16 : decode cX3_hasBoth 16 = .ok (.iconst 1, 1) := by decide +kernel
theorem dX3_hasBoth_17 : decode cX3_hasBoth 17 = .ok (.goto 4, 3) := by decide +kernel
theorem dX3_hasBoth_20 : decode cX3_hasBoth 20 = .ok (.iconst 0, 1) := by decide +kernel
theorem dX3_hasBoth_21 : decode cX3_hasBoth 21 = .ok (.ireturn, 1) := by decide +kernel
theorem dX3_register_0 : decode cX3_register 0 = .ok (.aload_n 0, 1) := by decide +kernel
theorem dX3_register_1 : decode cX3_register 1 = .ok (.getfield 21, 3) := by decide +kernel
theorem dX3_register_4 : decode cX3_register 4 = .ok (.areturn, 1) := by decide +kernel
theorem dX3_keepImage_0 : decode cX3_keepImage 0 = .ok (.aload_n 0, 1) := by decide +kernel
theorem dX3_keepImage_1 : decode cX3_keepImage 1 = .ok (.getfield 25, 3) := by decide +kernel
theorem dX3_keepImage_4 : decode cX3_keepImage 4 = .ok (.aload_n 0, 1) := by decide +kernel
theorem dX3_keepImage_5 : decode cX3_keepImage 5 = .ok (.getfield 21, 3) := by decide +kernel
theorem dX3_keepImage_8 : decode cX3_keepImage 8 = .ok (.invokevirtual 79, 3) := by decide +kernel
theorem dX3_keepImage_11 : decode cX3_keepImage 11 = .ok (.aload_n 0, 1) := by decide +kernel
theorem dX3_keepImage_12 : decode cX3_keepImage 12 = .ok (.iconst 1, 1) := by decide +kernel
theorem dX3_keepImage_13 : decode cX3_keepImage 13 = .ok (.putfield 35, 3) := by decide +kernel
theorem dX3_keepImage_16 : decode cX3_keepImage 16 = .ok (.return_, 1) := by decide +kernel
theorem dX3_hasImage_0 : decode cX3_hasImage 0 = .ok (.aload_n 0, 1) := by decide +kernel
theorem dX3_hasImage_1 : decode cX3_hasImage 1 = .ok (.getfield 35, 3) := by decide +kernel
theorem dX3_hasImage_4 : decode cX3_hasImage 4 = .ok (.ireturn, 1) := by decide +kernel
theorem dX3_goOnFromImage_0 : decode cX3_goOnFromImage 0 = .ok (.aload_n 0, 1) := by decide +kernel
theorem dX3_goOnFromImage_1 : decode cX3_goOnFromImage 1 = .ok (.getfield 21, 3) := by decide +kernel
theorem dX3_goOnFromImage_4 : decode cX3_goOnFromImage 4 = .ok (.aload_n 0, 1) := by decide +kernel
theorem dX3_goOnFromImage_5 : decode cX3_goOnFromImage 5 = .ok (.getfield 25, 3) := by decide +kernel
theorem dX3_goOnFromImage_8 : decode cX3_goOnFromImage 8 = .ok (.invokevirtual 79, 3) := by decide +kernel
theorem dX3_goOnFromImage_11 : decode cX3_goOnFromImage 11 = .ok (.return_, 1) := by decide +kernel
theorem dX3_signOf_0 : decode cX3_signOf 0 = .ok (.aload_n 0, 1) := by decide +kernel
theorem dX3_signOf_1 : decode cX3_signOf 1 = .ok (.getfield 9, 3) := by decide +kernel
theorem dX3_signOf_4 : decode cX3_signOf 4 = .ok (.iload_n 1, 1) := by decide +kernel
theorem dX3_signOf_5 : decode cX3_signOf 5 = .ok (.iconst 3, 1) := by decide +kernel
theorem dX3_signOf_6 : decode cX3_signOf 6 = .ok (.imul, 1) := by decide +kernel
theorem dX3_signOf_7 : decode cX3_signOf 7 = .ok (.iload_n 2, 1) := by decide +kernel
theorem dX3_signOf_8 : decode cX3_signOf 8 = .ok (.iadd, 1) := by decide +kernel
theorem dX3_signOf_9 : decode cX3_signOf 9 = .ok (.invokestatic 83, 3) := by decide +kernel
theorem dX3_signOf_12 : decode cX3_signOf 12 = .ok (.ireturn, 1) := by decide +kernel
theorem dX3_kindOf_0 : decode cX3_kindOf 0 = .ok (.aload_n 0, 1) := by decide +kernel
theorem dX3_kindOf_1 : decode cX3_kindOf 1 = .ok (.getfield 15, 3) := by decide +kernel
theorem dX3_kindOf_4 : decode cX3_kindOf 4 = .ok (.iload_n 1, 1) := by decide +kernel
theorem dX3_kindOf_5 : decode cX3_kindOf 5 = .ok (.invokestatic 83, 3) := by decide +kernel
theorem dX3_kindOf_8 : decode cX3_kindOf 8 = .ok (.ireturn, 1) := by decide +kernel
theorem dX3_wrongOf_0 : decode cX3_wrongOf 0 = .ok (.aload_n 0, 1) := by decide +kernel
theorem dX3_wrongOf_1 : decode cX3_wrongOf 1 = .ok (.aload_n 0, 1) := by decide +kernel
theorem dX3_wrongOf_2 : decode cX3_wrongOf 2 = .ok (.iload_n 1, 1) := by decide +kernel
theorem dX3_wrongOf_3 : decode cX3_wrongOf 3 = .ok (.iconst 0, 1) := by decide +kernel
theorem dX3_wrongOf_4 : decode cX3_wrongOf 4 = .ok (.invokevirtual 87, 3) := by decide +kernel
theorem dX3_wrongOf_7 : decode cX3_wrongOf 7 = .ok (.iload_n 1, 1) := by decide +kernel
theorem dX3_wrongOf_8 : decode cX3_wrongOf 8 = .ok (.iload_n 2, 1) := by decide +kernel
theorem dX3_wrongOf_9 : decode cX3_wrongOf 9 = .ok (.invokevirtual 90, 3) := by decide +kernel
theorem dX3_wrongOf_12 : decode cX3_wrongOf 12 = .ok (.ireturn, 1) := by decide +kernel
theorem dX3_fits_0 : decode cX3_fits 0 = .ok (.aload_n 0, 1) := by decide +kernel
theorem dX3_fits_1 : decode cX3_fits 1 = .ok (.iload_n 2, 1) := by decide +kernel
theorem dX3_fits_2 : decode cX3_fits 2 = .ok (.invokevirtual 94, 3) := by decide +kernel
theorem dX3_fits_5 : decode cX3_fits 5 = .ok (.aload_n 0, 1) := by decide +kernel
theorem dX3_fits_6 : decode cX3_fits 6 = .ok (.aload_n 0, 1) := by decide +kernel
theorem dX3_fits_7 : decode cX3_fits 7 = .ok (.iload_n 1, 1) := by decide +kernel
theorem dX3_fits_8 : decode cX3_fits 8 = .ok (.iconst 0, 1) := by decide +kernel
theorem dX3_fits_9 : decode cX3_fits 9 = .ok (.invokevirtual 87, 3) := by decide +kernel
theorem dX3_fits_12 : decode cX3_fits 12 = .ok (.iload_n 1, 1) := by decide +kernel
theorem dX3_fits_13 : decode cX3_fits 13 = .ok (.iload_n 2, 1) := by decide +kernel
theorem dX3_fits_14 : decode cX3_fits 14 = .ok (.invokevirtual 90, 3) := by decide +kernel
theorem dX3_fits_17 : decode cX3_fits 17 = .ok (.invokestatic 97, 3) := by decide +kernel
theorem dX3_fits_20 : decode cX3_fits 20 = .ok (.ireturn, 1) := by decide +kernel
theorem dX3_claimersFitted_0 : decode cX3_claimersFitted 0 = .ok (.iconst 0, 1) := by decide +kernel
theorem dX3_claimersFitted_1 : decode cX3_claimersFitted 1 = .ok (.istore_n 2, 1) := by decide +kernel
theorem dX3_claimersFitted_2 : decode cX3_claimersFitted 2 = .ok (.iconst 0, 1) := by decide +kernel
theorem dX3_claimersFitted_3 : decode cX3_claimersFitted 3 = .ok (.istore_n 3, 1) := by decide +kernel
theorem dX3_claimersFitted_4 : decode cX3_claimersFitted 4 = .ok (.iload_n 3, 1) := by decide +kernel
theorem dX3_claimersFitted_5 : decode cX3_claimersFitted 5 = .ok (.aload_n 0, 1) := by decide +kernel
theorem dX3_claimersFitted_6 : decode cX3_claimersFitted 6 = .ok (.getfield 32, 3) := by decide +kernel
theorem dX3_claimersFitted_9 : decode cX3_claimersFitted 9 = .ok (.if_icmp .ge 24, 3) := by decide +kernel
theorem dX3_claimersFitted_12 : decode cX3_claimersFitted 12 = .ok (.aload_n 0, 1) := by decide +kernel
theorem dX3_claimersFitted_13 : decode cX3_claimersFitted 13 = .ok (.iload_n 1, 1) := by decide +kernel
theorem dX3_claimersFitted_14 : decode cX3_claimersFitted 14 = .ok (.iload_n 3, 1) := by decide +kernel
theorem dX3_claimersFitted_15 : decode cX3_claimersFitted 15 = .ok (.invokevirtual 100, 3) := by decide +kernel
theorem dX3_claimersFitted_18 : decode cX3_claimersFitted 18 = .ok (.ifCond .eq 9, 3) := by decide +kernel
theorem dX3_claimersFitted_21 : decode cX3_claimersFitted 21 = .ok (.iload_n 2, 1) := by decide +kernel
theorem dX3_claimersFitted_22 : decode cX3_claimersFitted 22 = .ok (.iconst 1, 1) := by decide +kernel
theorem dX3_claimersFitted_23 : decode cX3_claimersFitted 23 = .ok (.iload_n 3, 1) := by decide +kernel
theorem dX3_claimersFitted_24 : decode cX3_claimersFitted 24 = .ok (.ishl, 1) := by decide +kernel
theorem dX3_claimersFitted_25 : decode cX3_claimersFitted 25 = .ok (.ior, 1) := by decide +kernel
theorem dX3_claimersFitted_26 : decode cX3_claimersFitted 26 = .ok (.istore_n 2, 1) := by decide +kernel
theorem dX3_claimersFitted_27 : decode cX3_claimersFitted 27 = .ok (.iinc 3 1, 3) := by decide +kernel
theorem dX3_claimersFitted_30 : decode cX3_claimersFitted 30 = .ok (.goto (-26), 3) := by decide +kernel
theorem dX3_claimersFitted_33 : decode cX3_claimersFitted 33 = .ok (.iload_n 2, 1) := by decide +kernel
theorem dX3_claimersFitted_34 : decode cX3_claimersFitted 34 = .ok (.ireturn, 1) := by decide +kernel
theorem dX3_thingsFitting_0 : decode cX3_thingsFitting 0 = .ok (.iconst 0, 1) := by decide +kernel
theorem dX3_thingsFitting_1 : decode cX3_thingsFitting 1 = .ok (.istore_n 2, 1) := by decide +kernel
theorem dX3_thingsFitting_2 : decode cX3_thingsFitting 2 = .ok (.iconst 0, 1) := by decide +kernel
theorem dX3_thingsFitting_3 : decode cX3_thingsFitting 3 = .ok (.istore_n 3, 1) := by decide +kernel
theorem dX3_thingsFitting_4 : decode cX3_thingsFitting 4 = .ok (.iload_n 3, 1) := by decide +kernel
theorem dX3_thingsFitting_5 : decode cX3_thingsFitting 5 = .ok (.aload_n 0, 1) := by decide +kernel
theorem dX3_thingsFitting_6 : decode cX3_thingsFitting 6 = .ok (.getfield 28, 3) := by decide +kernel
theorem dX3_thingsFitting_9 : decode cX3_thingsFitting 9 = .ok (.if_icmp .ge 24, 3) := by decide +kernel
theorem dX3_thingsFitting_12 : decode cX3_thingsFitting 12 = .ok (.aload_n 0, 1) := by decide +kernel
theorem dX3_thingsFitting_13 : decode cX3_thingsFitting 13 = .ok (.iload_n 3, 1) := by decide +kernel
theorem dX3_thingsFitting_14 : decode cX3_thingsFitting 14 = .ok (.iload_n 1, 1) := by decide +kernel
theorem dX3_thingsFitting_15 : decode cX3_thingsFitting 15 = .ok (.invokevirtual 100, 3) := by decide +kernel
theorem dX3_thingsFitting_18 : decode cX3_thingsFitting 18 = .ok (.ifCond .eq 9, 3) := by decide +kernel
theorem dX3_thingsFitting_21 : decode cX3_thingsFitting 21 = .ok (.iload_n 2, 1) := by decide +kernel
theorem dX3_thingsFitting_22 : decode cX3_thingsFitting 22 = .ok (.iconst 1, 1) := by decide +kernel
theorem dX3_thingsFitting_23 : decode cX3_thingsFitting 23 = .ok (.iload_n 3, 1) := by decide +kernel
theorem dX3_thingsFitting_24 : decode cX3_thingsFitting 24 = .ok (.ishl, 1) := by decide +kernel
theorem dX3_thingsFitting_25 : decode cX3_thingsFitting 25 = .ok (.ior, 1) := by decide +kernel
theorem dX3_thingsFitting_26 : decode cX3_thingsFitting 26 = .ok (.istore_n 2, 1) := by decide +kernel
theorem dX3_thingsFitting_27 : decode cX3_thingsFitting 27 = .ok (.iinc 3 1, 3) := by decide +kernel
theorem dX3_thingsFitting_30 : decode cX3_thingsFitting 30 = .ok (.goto (-26), 3) := by decide +kernel
theorem dX3_thingsFitting_33 : decode cX3_thingsFitting 33 = .ok (.iload_n 2, 1) := by decide +kernel
theorem dX3_thingsFitting_34 : decode cX3_thingsFitting 34 = .ok (.ireturn, 1) := by decide +kernel
theorem dX3_thingsNotGiven_0 : decode cX3_thingsNotGiven 0 = .ok (.iconst 0, 1) := by decide +kernel
theorem dX3_thingsNotGiven_1 : decode cX3_thingsNotGiven 1 = .ok (.istore_n 1, 1) := by decide +kernel
theorem dX3_thingsNotGiven_2 : decode cX3_thingsNotGiven 2 = .ok (.iconst 0, 1) := by decide +kernel
theorem dX3_thingsNotGiven_3 : decode cX3_thingsNotGiven 3 = .ok (.istore_n 2, 1) := by decide +kernel
theorem dX3_thingsNotGiven_4 : decode cX3_thingsNotGiven 4 = .ok (.iload_n 2, 1) := by decide +kernel
theorem dX3_thingsNotGiven_5 : decode cX3_thingsNotGiven 5 = .ok (.aload_n 0, 1) := by decide +kernel
theorem dX3_thingsNotGiven_6 : decode cX3_thingsNotGiven 6 = .ok (.getfield 28, 3) := by decide +kernel
theorem dX3_thingsNotGiven_9 : decode cX3_thingsNotGiven 9 = .ok (.if_icmp .ge 27, 3) := by decide +kernel
theorem dX3_thingsNotGiven_12 : decode cX3_thingsNotGiven 12 = .ok (.aload_n 0, 1) := by decide +kernel
theorem dX3_thingsNotGiven_13 : decode cX3_thingsNotGiven 13 = .ok (.getfield 21, 3) := by decide +kernel
theorem dX3_thingsNotGiven_16 : decode cX3_thingsNotGiven 16 = .ok (.iload_n 2, 1) := by decide +kernel
theorem dX3_thingsNotGiven_17 : decode cX3_thingsNotGiven 17 = .ok (.invokevirtual 103, 3) := by decide +kernel
theorem dX3_thingsNotGiven_20 : decode cX3_thingsNotGiven 20 = .ok (.iconst (-1), 1) := by decide +kernel
theorem dX3_thingsNotGiven_21 : decode cX3_thingsNotGiven 21 = .ok (.if_icmp .ne 9, 3) := by decide +kernel
theorem dX3_thingsNotGiven_24 : decode cX3_thingsNotGiven 24 = .ok (.iload_n 1, 1) := by decide +kernel
theorem dX3_thingsNotGiven_25 : decode cX3_thingsNotGiven 25 = .ok (.iconst 1, 1) := by decide +kernel
theorem dX3_thingsNotGiven_26 : decode cX3_thingsNotGiven 26 = .ok (.iload_n 2, 1) := by decide +kernel
theorem dX3_thingsNotGiven_27 : decode cX3_thingsNotGiven 27 = .ok (.ishl, 1) := by decide +kernel
theorem dX3_thingsNotGiven_28 : decode cX3_thingsNotGiven 28 = .ok (.ior, 1) := by decide +kernel
theorem dX3_thingsNotGiven_29 : decode cX3_thingsNotGiven 29 = .ok (.istore_n 1, 1) := by decide +kernel
theorem dX3_thingsNotGiven_30 : decode cX3_thingsNotGiven 30 = .ok (.iinc 2 1, 3) := by decide +kernel
theorem dX3_thingsNotGiven_33 : decode cX3_thingsNotGiven 33 = .ok (.goto (-29), 3) := by decide +kernel
theorem dX3_thingsNotGiven_36 : decode cX3_thingsNotGiven 36 = .ok (.iload_n 1, 1) := by decide +kernel
theorem dX3_thingsNotGiven_37 : decode cX3_thingsNotGiven 37 = .ok (.ireturn, 1) := by decide +kernel
theorem dX3_given_0 : decode cX3_given 0 = .ok (.aload_n 0, 1) := by decide +kernel
theorem dX3_given_1 : decode cX3_given 1 = .ok (.getfield 28, 3) := by decide +kernel
theorem dX3_given_4 : decode cX3_given 4 = .ok (.aload_n 0, 1) := by decide +kernel
theorem dX3_given_5 : decode cX3_given 5 = .ok (.invokevirtual 106, 3) := by decide +kernel
theorem dX3_given_8 : decode cX3_given 8 = .ok (.invokestatic 109, 3) := by decide +kernel
theorem dX3_given_11 : decode cX3_given 11 = .ok (.isub, 1) := by decide +kernel
theorem dX3_given_12 : decode cX3_given 12 = .ok (.ireturn, 1) := by decide +kernel
theorem dX3_givenThatFit_0 : decode cX3_givenThatFit 0 = .ok (.iconst 0, 1) := by decide +kernel
theorem dX3_givenThatFit_1 : decode cX3_givenThatFit 1 = .ok (.istore_n 1, 1) := by decide +kernel
theorem dX3_givenThatFit_2 : decode cX3_givenThatFit 2 = .ok (.iconst 0, 1) := by decide +kernel
theorem dX3_givenThatFit_3 : decode cX3_givenThatFit 3 = .ok (.istore_n 2, 1) := by decide +kernel
theorem dX3_givenThatFit_4 : decode cX3_givenThatFit 4 = .ok (.iload_n 2, 1) := by decide +kernel
theorem dX3_givenThatFit_5 : decode cX3_givenThatFit 5 = .ok (.aload_n 0, 1) := by decide +kernel
theorem dX3_givenThatFit_6 : decode cX3_givenThatFit 6 = .ok (.getfield 28, 3) := by decide +kernel
theorem dX3_givenThatFit_9 : decode cX3_givenThatFit 9 = .ok (.if_icmp .ge 35, 3) := by decide +kernel
theorem dX3_givenThatFit_12 : decode cX3_givenThatFit 12 = .ok (.aload_n 0, 1) := by decide +kernel
theorem dX3_givenThatFit_13 : decode cX3_givenThatFit 13 = .ok (.getfield 21, 3) := by decide +kernel
theorem dX3_givenThatFit_16 : decode cX3_givenThatFit 16 = .ok (.iload_n 2, 1) := by decide +kernel
theorem dX3_givenThatFit_17 : decode cX3_givenThatFit 17 = .ok (.invokevirtual 103, 3) := by decide +kernel
theorem dX3_givenThatFit_20 : decode cX3_givenThatFit 20 = .ok (.istore_n 3, 1) := by decide +kernel
theorem dX3_givenThatFit_21 : decode cX3_givenThatFit 21 = .ok (.iload_n 3, 1) := by decide +kernel
theorem dX3_givenThatFit_22 : decode cX3_givenThatFit 22 = .ok (.iconst (-1), 1) := by decide +kernel
theorem dX3_givenThatFit_23 : decode cX3_givenThatFit 23 = .ok (.if_icmp .eq 15, 3) := by decide +kernel
theorem dX3_givenThatFit_26 : decode cX3_givenThatFit 26 = .ok (.aload_n 0, 1) := by decide +kernel
theorem dX3_givenThatFit_27 : decode cX3_givenThatFit 27 = .ok (.iload_n 2, 1) := by decide +kernel
theorem dX3_givenThatFit_28 : decode cX3_givenThatFit 28 = .ok (.iload_n 3, 1) := by decide +kernel
theorem dX3_givenThatFit_29 : decode cX3_givenThatFit 29 = .ok (.invokevirtual 100, 3) := by decide +kernel
theorem dX3_givenThatFit_32 : decode cX3_givenThatFit 32 = .ok (.ifCond .eq 6, 3) := by decide +kernel
theorem dX3_givenThatFit_35 : decode cX3_givenThatFit 35 = .ok (.iinc 1 1, 3) := by decide +kernel
theorem dX3_givenThatFit_38 : decode cX3_givenThatFit 38 = .ok (.iinc 2 1, 3) := by decide +kernel
theorem dX3_givenThatFit_41 : decode cX3_givenThatFit 41 = .ok (.goto (-37), 3) := by decide +kernel
theorem dX3_givenThatFit_44 : decode cX3_givenThatFit 44 = .ok (.iload_n 1, 1) := by decide +kernel
theorem dX3_givenThatFit_45 : decode cX3_givenThatFit 45 = .ok (.ireturn, 1) := by decide +kernel
theorem dX3_givenWrong_0 : decode cX3_givenWrong 0 = .ok (.iconst 0, 1) := by decide +kernel
theorem dX3_givenWrong_1 : decode cX3_givenWrong 1 = .ok (.istore_n 1, 1) := by decide +kernel
theorem dX3_givenWrong_2 : decode cX3_givenWrong 2 = .ok (.iconst 0, 1) := by decide +kernel
theorem dX3_givenWrong_3 : decode cX3_givenWrong 3 = .ok (.istore_n 2, 1) := by decide +kernel
theorem dX3_givenWrong_4 : decode cX3_givenWrong 4 = .ok (.iload_n 2, 1) := by decide +kernel
theorem dX3_givenWrong_5 : decode cX3_givenWrong 5 = .ok (.aload_n 0, 1) := by decide +kernel
theorem dX3_givenWrong_6 : decode cX3_givenWrong 6 = .ok (.getfield 28, 3) := by decide +kernel
theorem dX3_givenWrong_9 : decode cX3_givenWrong 9 = .ok (.if_icmp .ge 32, 3) := by decide +kernel
theorem dX3_givenWrong_12 : decode cX3_givenWrong 12 = .ok (.aload_n 0, 1) := by decide +kernel
theorem dX3_givenWrong_13 : decode cX3_givenWrong 13 = .ok (.getfield 21, 3) := by decide +kernel
theorem dX3_givenWrong_16 : decode cX3_givenWrong 16 = .ok (.iload_n 2, 1) := by decide +kernel
theorem dX3_givenWrong_17 : decode cX3_givenWrong 17 = .ok (.invokevirtual 103, 3) := by decide +kernel
theorem dX3_givenWrong_20 : decode cX3_givenWrong 20 = .ok (.istore_n 3, 1) := by decide +kernel
theorem dX3_givenWrong_21 : decode cX3_givenWrong 21 = .ok (.iload_n 3, 1) := by decide +kernel
theorem dX3_givenWrong_22 : decode cX3_givenWrong 22 = .ok (.iconst (-1), 1) := by decide +kernel
theorem dX3_givenWrong_23 : decode cX3_givenWrong 23 = .ok (.if_icmp .eq 12, 3) := by decide +kernel
theorem dX3_givenWrong_26 : decode cX3_givenWrong 26 = .ok (.iload_n 1, 1) := by decide +kernel
theorem dX3_givenWrong_27 : decode cX3_givenWrong 27 = .ok (.aload_n 0, 1) := by decide +kernel
theorem dX3_givenWrong_28 : decode cX3_givenWrong 28 = .ok (.iload_n 2, 1) := by decide +kernel
theorem dX3_givenWrong_29 : decode cX3_givenWrong 29 = .ok (.iload_n 3, 1) := by decide +kernel
theorem dX3_givenWrong_30 : decode cX3_givenWrong 30 = .ok (.invokevirtual 114, 3) := by decide +kernel
theorem dX3_givenWrong_33 : decode cX3_givenWrong 33 = .ok (.iadd, 1) := by decide +kernel
theorem dX3_givenWrong_34 : decode cX3_givenWrong 34 = .ok (.istore_n 1, 1) := by decide +kernel
theorem dX3_givenWrong_35 : decode cX3_givenWrong 35 = .ok (.iinc 2 1, 3) := by decide +kernel
theorem dX3_givenWrong_38 : decode cX3_givenWrong 38 = .ok (.goto (-34), 3) := by decide +kernel
theorem dX3_givenWrong_41 : decode cX3_givenWrong 41 = .ok (.iload_n 1, 1) := by decide +kernel
theorem dX3_givenWrong_42 : decode cX3_givenWrong 42 = .ok (.ireturn, 1) := by decide +kernel
theorem dX3_signToAsk_0 : decode cX3_signToAsk 0 = .ok (.iload_n 1, 1) := by decide +kernel
theorem dX3_signToAsk_1 : decode cX3_signToAsk 1 = .ok (.ifCond .ne 5, 3) := by decide +kernel
theorem dX3_signToAsk_4 : decode cX3_signToAsk 4 = .ok (.iconst (-1), 1) := by decide +kernel
theorem dX3_signToAsk_5 : decode cX3_signToAsk 5 = .ok (.ireturn, 1) := by decide +kernel
theorem dX3_signToAsk_6 : decode cX3_signToAsk 6 = .ok (.iconst (-1), 1) := by decide +kernel
theorem dX3_signToAsk_7 : decode cX3_signToAsk 7 = .ok (.istore_n 2, 1) := by decide +kernel
theorem dX3_signToAsk_8 : decode cX3_signToAsk 8 = .ok (.iconst 0, 1) := by decide +kernel
theorem dX3_signToAsk_9 : decode cX3_signToAsk 9 = .ok (.istore_n 3, 1) := by decide +kernel
theorem dX3_signToAsk_10 : decode cX3_signToAsk 10 = .ok (.iconst 0, 1) := by decide +kernel
theorem dX3_signToAsk_11 : decode cX3_signToAsk 11 = .ok (.istore 4, 2) := by decide +kernel
theorem dX3_signToAsk_13 : decode cX3_signToAsk 13 = .ok (.iload 4, 2) := by decide +kernel
theorem dX3_signToAsk_15 : decode cX3_signToAsk 15 = .ok (.iconst 3, 1) := by decide +kernel
theorem dX3_signToAsk_16 : decode cX3_signToAsk 16 = .ok (.if_icmp .ge 35, 3) := by decide +kernel
theorem dX3_signToAsk_19 : decode cX3_signToAsk 19 = .ok (.aload_n 0, 1) := by decide +kernel
theorem dX3_signToAsk_20 : decode cX3_signToAsk 20 = .ok (.iload_n 1, 1) := by decide +kernel
theorem dX3_signToAsk_21 : decode cX3_signToAsk 21 = .ok (.iload 4, 2) := by decide +kernel
theorem dX3_signToAsk_23 : decode cX3_signToAsk 23 = .ok (.invokevirtual 117, 3) := by decide +kernel
theorem dX3_signToAsk_26 : decode cX3_signToAsk 26 = .ok (.istore 5, 2) := by decide +kernel
theorem dX3_signToAsk_28 : decode cX3_signToAsk 28 = .ok (.iload_n 2, 1) := by decide +kernel
theorem dX3_signToAsk_29 : decode cX3_signToAsk 29 = .ok (.iconst (-1), 1) := by decide +kernel
theorem dX3_signToAsk_30 : decode cX3_signToAsk 30 = .ok (.if_icmp .eq 9, 3) := by decide +kernel
theorem dX3_signToAsk_33 : decode cX3_signToAsk 33 = .ok (.iload 5, 2) := by decide +kernel
theorem dX3_signToAsk_35 : decode cX3_signToAsk 35 = .ok (.iload_n 3, 1) := by decide +kernel
theorem dX3_signToAsk_36 : decode cX3_signToAsk 36 = .ok (.if_icmp .ge 9, 3) := by decide +kernel
theorem dX3_signToAsk_39 : decode cX3_signToAsk 39 = .ok (.iload 4, 2) := by decide +kernel
theorem dX3_signToAsk_41 : decode cX3_signToAsk 41 = .ok (.istore_n 2, 1) := by decide +kernel
theorem dX3_signToAsk_42 : decode cX3_signToAsk 42 = .ok (.iload 5, 2) := by decide +kernel
theorem dX3_signToAsk_44 : decode cX3_signToAsk 44 = .ok (.istore_n 3, 1) := by decide +kernel
theorem dX3_signToAsk_45 : decode cX3_signToAsk 45 = .ok (.iinc 4 1, 3) := by decide +kernel
theorem dX3_signToAsk_48 : decode cX3_signToAsk 48 = .ok (.goto (-35), 3) := by decide +kernel
theorem dX3_signToAsk_51 : decode cX3_signToAsk 51 = .ok (.iload_n 2, 1) := by decide +kernel
theorem dX3_signToAsk_52 : decode cX3_signToAsk 52 = .ok (.ireturn, 1) := by decide +kernel
theorem dX3_mostAlike_0 : decode cX3_mostAlike 0 = .ok (.iconst 0, 1) := by decide +kernel
theorem dX3_mostAlike_1 : decode cX3_mostAlike 1 = .ok (.istore_n 3, 1) := by decide +kernel
theorem dX3_mostAlike_2 : decode cX3_mostAlike 2 = .ok (.iconst 0, 1) := by decide +kernel
theorem dX3_mostAlike_3 : decode cX3_mostAlike 3 = .ok (.istore 4, 2) := by decide +kernel
theorem dX3_mostAlike_5 : decode cX3_mostAlike 5 = .ok (.iload 4, 2) := by decide +kernel
theorem dX3_mostAlike_7 : decode cX3_mostAlike 7 = .ok (.aload_n 0, 1) := by decide +kernel
theorem dX3_mostAlike_8 : decode cX3_mostAlike 8 = .ok (.getfield 28, 3) := by decide +kernel
theorem dX3_mostAlike_11 : decode cX3_mostAlike 11 = .ok (.if_icmp .ge 36, 3) := by decide +kernel
theorem dX3_mostAlike_14 : decode cX3_mostAlike 14 = .ok (.iload_n 1, 1) := by decide +kernel
theorem dX3_mostAlike_15 : decode cX3_mostAlike 15 = .ok (.iload 4, 2) := by decide +kernel
theorem dX3_mostAlike_17 : decode cX3_mostAlike 17 = .ok (.invokestatic 120, 3) := by decide +kernel
theorem dX3_mostAlike_20 : decode cX3_mostAlike 20 = .ok (.ifCond .eq 21, 3) := by decide +kernel
theorem dX3_mostAlike_23 : decode cX3_mostAlike 23 = .ok (.iload_n 3, 1) := by decide +kernel
theorem dX3_mostAlike_24 : decode cX3_mostAlike 24 = .ok (.aload_n 0, 1) := by decide +kernel
theorem dX3_mostAlike_25 : decode cX3_mostAlike 25 = .ok (.iload_n 1, 1) := by decide +kernel
theorem dX3_mostAlike_26 : decode cX3_mostAlike 26 = .ok (.iload_n 2, 1) := by decide +kernel
theorem dX3_mostAlike_27 : decode cX3_mostAlike 27 = .ok (.aload_n 0, 1) := by decide +kernel
theorem dX3_mostAlike_28 : decode cX3_mostAlike 28 = .ok (.iload 4, 2) := by decide +kernel
theorem dX3_mostAlike_30 : decode cX3_mostAlike 30 = .ok (.iload_n 2, 1) := by decide +kernel
theorem dX3_mostAlike_31 : decode cX3_mostAlike 31 = .ok (.invokevirtual 87, 3) := by decide +kernel
theorem dX3_mostAlike_34 : decode cX3_mostAlike 34 = .ok (.invokevirtual 123, 3) := by decide +kernel
theorem dX3_mostAlike_37 : decode cX3_mostAlike 37 = .ok (.invokestatic 126, 3) := by decide +kernel
theorem dX3_mostAlike_40 : decode cX3_mostAlike 40 = .ok (.istore_n 3, 1) := by decide +kernel
theorem dX3_mostAlike_41 : decode cX3_mostAlike 41 = .ok (.iinc 4 1, 3) := by decide +kernel
theorem dX3_mostAlike_44 : decode cX3_mostAlike 44 = .ok (.goto (-39), 3) := by decide +kernel
theorem dX3_mostAlike_47 : decode cX3_mostAlike 47 = .ok (.iload_n 3, 1) := by decide +kernel
theorem dX3_mostAlike_48 : decode cX3_mostAlike 48 = .ok (.ireturn, 1) := by decide +kernel
theorem dX3_howManyAlike_0 : decode cX3_howManyAlike 0 = .ok (.iconst 0, 1) := by decide +kernel
theorem dX3_howManyAlike_1 : decode cX3_howManyAlike 1 = .ok (.istore 4, 2) := by decide +kernel
theorem dX3_howManyAlike_3 : decode cX3_howManyAlike 3 = .ok (.iconst 0, 1) := by decide +kernel
theorem dX3_howManyAlike_4 : decode cX3_howManyAlike 4 = .ok (.istore 5, 2) := by decide +kernel
theorem dX3_howManyAlike_6 : decode cX3_howManyAlike 6 = .ok (.iload 5, 2) := by decide +kernel
theorem dX3_howManyAlike_8 : decode cX3_howManyAlike 8 = .ok (.aload_n 0, 1) := by decide +kernel
theorem dX3_howManyAlike_9 : decode cX3_howManyAlike 9 = .ok (.getfield 28, 3) := by decide +kernel
theorem dX3_howManyAlike_12 : decode cX3_howManyAlike 12 = .ok (.if_icmp .ge 32, 3) := by decide +kernel
theorem dX3_howManyAlike_15 : decode cX3_howManyAlike 15 = .ok (.iload_n 1, 1) := by decide +kernel
theorem dX3_howManyAlike_16 : decode cX3_howManyAlike 16 = .ok (.iload 5, 2) := by decide +kernel
theorem dX3_howManyAlike_18 : decode cX3_howManyAlike 18 = .ok (.invokestatic 120, 3) := by decide +kernel
theorem dX3_howManyAlike_21 : decode cX3_howManyAlike 21 = .ok (.ifCond .eq 17, 3) := by decide +kernel
theorem dX3_howManyAlike_24 : decode cX3_howManyAlike 24 = .ok (.aload_n 0, 1) := by decide +kernel
theorem dX3_howManyAlike_25 : decode cX3_howManyAlike 25 = .ok (.iload 5, 2) := by decide +kernel
theorem dX3_howManyAlike_27 : decode cX3_howManyAlike 27 = .ok (.iload_n 2, 1) := by decide +kernel
theorem dX3_howManyAlike_28 : decode cX3_howManyAlike 28 = .ok (.invokevirtual 87, 3) := by decide +kernel
theorem dX3_howManyAlike_31 : decode cX3_howManyAlike 31 = .ok (.iload_n 3, 1) := by decide +kernel
theorem dX3_howManyAlike_32 : decode cX3_howManyAlike 32 = .ok (.if_icmp .ne 6, 3) := by decide +kernel
theorem dX3_howManyAlike_35 : decode cX3_howManyAlike 35 = .ok (.iinc 4 1, 3) := by decide +kernel
theorem dX3_howManyAlike_38 : decode cX3_howManyAlike 38 = .ok (.iinc 5 1, 3) := by decide +kernel
theorem dX3_howManyAlike_41 : decode cX3_howManyAlike 41 = .ok (.goto (-35), 3) := by decide +kernel
theorem dX3_howManyAlike_44 : decode cX3_howManyAlike 44 = .ok (.iload 4, 2) := by decide +kernel
theorem dX3_howManyAlike_46 : decode cX3_howManyAlike 46 = .ok (.ireturn, 1) := by decide +kernel
theorem dX3_yearsOf_0 : decode cX3_yearsOf 0 = .ok (.sipush 1023, 3) := by decide +kernel
theorem dX3_yearsOf_3 : decode cX3_yearsOf 3 = .ok (.istore_n 2, 1) := by decide +kernel
theorem dX3_yearsOf_4 : decode cX3_yearsOf 4 = .ok (.iconst 0, 1) := by decide +kernel
theorem dX3_yearsOf_5 : decode cX3_yearsOf 5 = .ok (.istore_n 3, 1) := by decide +kernel
theorem dX3_yearsOf_6 : decode cX3_yearsOf 6 = .ok (.iload_n 3, 1) := by decide +kernel
theorem dX3_yearsOf_7 : decode cX3_yearsOf 7 = .ok (.aload_n 0, 1) := by decide +kernel
theorem dX3_yearsOf_8 : decode cX3_yearsOf 8 = .ok (.getfield 21, 3) := by decide +kernel
theorem dX3_yearsOf_11 : decode cX3_yearsOf 11 = .ok (.invokevirtual 131, 3) := by decide +kernel
theorem dX3_yearsOf_14 : decode cX3_yearsOf 14 = .ok (.if_icmp .ge 59, 3) := by decide +kernel
theorem dX3_yearsOf_17 : decode cX3_yearsOf 17 = .ok (.aload_n 0, 1) := by decide +kernel
theorem dX3_yearsOf_18 : decode cX3_yearsOf 18 = .ok (.getfield 21, 3) := by decide +kernel
theorem dX3_yearsOf_21 : decode cX3_yearsOf 21 = .ok (.iload_n 3, 1) := by decide +kernel
theorem dX3_yearsOf_22 : decode cX3_yearsOf 22 = .ok (.invokevirtual 134, 3) := by decide +kernel
theorem dX3_yearsOf_25 : decode cX3_yearsOf 25 = .ok (.iload_n 1, 1) := by decide +kernel
theorem dX3_yearsOf_26 : decode cX3_yearsOf 26 = .ok (.if_icmp .ne 41, 3) := by decide +kernel
theorem dX3_yearsOf_29 : decode cX3_yearsOf 29 = .ok (.aload_n 0, 1) := by decide +kernel
theorem dX3_yearsOf_30 : decode cX3_yearsOf 30 = .ok (.iload_n 1, 1) := by decide +kernel
theorem dX3_yearsOf_31 : decode cX3_yearsOf 31 = .ok (.aload_n 0, 1) := by decide +kernel
theorem dX3_yearsOf_32 : decode cX3_yearsOf 32 = .ok (.getfield 21, 3) := by decide +kernel
theorem dX3_yearsOf_35 : decode cX3_yearsOf 35 = .ok (.iload_n 3, 1) := by decide +kernel
theorem dX3_yearsOf_36 : decode cX3_yearsOf 36 = .ok (.invokevirtual 137, 3) := by decide +kernel
theorem dX3_yearsOf_39 : decode cX3_yearsOf 39 = .ok (.invokevirtual 140, 3) := by decide +kernel
theorem dX3_yearsOf_42 : decode cX3_yearsOf 42 = .ok (.istore 4, 2) := by decide +kernel
theorem dX3_yearsOf_44 : decode cX3_yearsOf 44 = .ok (.iload_n 2, 1) := by decide +kernel
theorem dX3_yearsOf_45 : decode cX3_yearsOf 45 = .ok (.aload_n 0, 1) := by decide +kernel
theorem dX3_yearsOf_46 : decode cX3_yearsOf 46 = .ok (.getfield 21, 3) := by decide +kernel
theorem dX3_yearsOf_49 : decode cX3_yearsOf 49 = .ok (.iload_n 3, 1) := by decide +kernel
theorem dX3_yearsOf_50 : decode cX3_yearsOf 50 = .ok (.invokevirtual 143, 3) := by decide +kernel
theorem dX3_yearsOf_53 : decode cX3_yearsOf 53 = .ok (.ifCond .eq 8, 3) := by decide +kernel
theorem dX3_yearsOf_56 : decode cX3_yearsOf 56 = .ok (.iload 4, 2) := by decide +kernel
theorem dX3_yearsOf_58 : decode cX3_yearsOf 58 = .ok (.goto 7, 3) := by decide +kernel
theorem dX3_yearsOf_61 : decode cX3_yearsOf 61 = .ok (.iload 4, 2) := by decide +kernel
theorem dX3_yearsOf_63 : decode cX3_yearsOf 63 = .ok (.iconst (-1), 1) := by decide +kernel
theorem dX3_yearsOf_64 : decode cX3_yearsOf 64 = .ok (.ixor, 1) := by decide +kernel
theorem dX3_yearsOf_65 : decode cX3_yearsOf 65 = .ok (.iand, 1) := by decide +kernel
theorem dX3_yearsOf_66 : decode cX3_yearsOf 66 = .ok (.istore_n 2, 1) := by decide +kernel
theorem dX3_yearsOf_67 : decode cX3_yearsOf 67 = .ok (.iinc 3 1, 3) := by decide +kernel
theorem dX3_yearsOf_70 : decode cX3_yearsOf 70 = .ok (.goto (-64), 3) := by decide +kernel
theorem dX3_yearsOf_73 : decode cX3_yearsOf 73 = .ok (.iload_n 2, 1) := by decide +kernel
theorem dX3_yearsOf_74 : decode cX3_yearsOf 74 = .ok (.ireturn, 1) := by decide +kernel
theorem dX3_claimerToShow_0 : decode cX3_claimerToShow 0 = .ok (.iload_n 2, 1) := by decide +kernel
theorem dX3_claimerToShow_1 : decode cX3_claimerToShow 1 = .ok (.ifCond .ne 5, 3) := by decide +kernel
theorem dX3_claimerToShow_4 : decode cX3_claimerToShow 4 = .ok (.iconst (-1), 1) := by decide +kernel
theorem dX3_claimerToShow_5 : decode cX3_claimerToShow 5 = .ok (.ireturn, 1) := by decide +kernel
theorem dX3_claimerToShow_6 : decode cX3_claimerToShow 6 = .ok (.iconst (-1), 1) := by decide +kernel
theorem dX3_claimerToShow_7 : decode cX3_claimerToShow 7 = .ok (.istore_n 3, 1) := by decide +kernel
theorem dX3_claimerToShow_8 : decode cX3_claimerToShow 8 = .ok (.iconst 0, 1) := by decide +kernel
theorem dX3_claimerToShow_9 : decode cX3_claimerToShow 9 = .ok (.istore 4, 2) := by decide +kernel
theorem dX3_claimerToShow_11 : decode cX3_claimerToShow 11 = .ok (.iconst 0, 1) := by decide +kernel
theorem dX3_claimerToShow_12 : decode cX3_claimerToShow 12 = .ok (.istore 5, 2) := by decide +kernel
theorem dX3_claimerToShow_14 : decode cX3_claimerToShow 14 = .ok (.iload 5, 2) := by decide +kernel
theorem dX3_claimerToShow_16 : decode cX3_claimerToShow 16 = .ok (.aload_n 0, 1) := by decide +kernel
theorem dX3_claimerToShow_17 : decode cX3_claimerToShow 17 = .ok (.getfield 32, 3) := by decide +kernel
theorem dX3_claimerToShow_20 : decode cX3_claimerToShow 20 = .ok (.if_icmp .ge 58, 3) := by decide +kernel
theorem dX3_claimerToShow_23 : decode cX3_claimerToShow 23 = .ok (.aload_n 0, 1) := by decide +kernel
theorem dX3_claimerToShow_24 : decode cX3_claimerToShow 24 = .ok (.iload_n 1, 1) := by decide +kernel
theorem dX3_claimerToShow_25 : decode cX3_claimerToShow 25 = .ok (.iload 5, 2) := by decide +kernel
theorem dX3_claimerToShow_27 : decode cX3_claimerToShow 27 = .ok (.invokevirtual 140, 3) := by decide +kernel
theorem dX3_claimerToShow_30 : decode cX3_claimerToShow 30 = .ok (.istore 6, 2) := by decide +kernel
theorem dX3_claimerToShow_32 : decode cX3_claimerToShow 32 = .ok (.iload_n 2, 1) := by decide +kernel
theorem dX3_claimerToShow_33 : decode cX3_claimerToShow 33 = .ok (.iload 6, 2) := by decide +kernel
theorem dX3_claimerToShow_35 : decode cX3_claimerToShow 35 = .ok (.iand, 1) := by decide +kernel
theorem dX3_claimerToShow_36 : decode cX3_claimerToShow 36 = .ok (.invokestatic 109, 3) := by decide +kernel
theorem dX3_claimerToShow_39 : decode cX3_claimerToShow 39 = .ok (.iload_n 2, 1) := by decide +kernel
theorem dX3_claimerToShow_40 : decode cX3_claimerToShow 40 = .ok (.iload 6, 2) := by decide +kernel
theorem dX3_claimerToShow_42 : decode cX3_claimerToShow 42 = .ok (.iconst (-1), 1) := by decide +kernel
theorem dX3_claimerToShow_43 : decode cX3_claimerToShow 43 = .ok (.ixor, 1) := by decide +kernel
theorem dX3_claimerToShow_44 : decode cX3_claimerToShow 44 = .ok (.iand, 1) := by decide +kernel
theorem dX3_claimerToShow_45 : decode cX3_claimerToShow 45 = .ok (.invokestatic 109, 3) := by decide +kernel
theorem dX3_claimerToShow_48 : decode cX3_claimerToShow 48 = .ok (.invokestatic 126, 3) := by decide +kernel
theorem dX3_claimerToShow_51 : decode cX3_claimerToShow 51 = .ok (.istore 7, 2) := by decide +kernel
theorem dX3_claimerToShow_53 : decode cX3_claimerToShow 53 = .ok (.iload_n 3, 1) := by decide +kernel
theorem dX3_claimerToShow_54 : decode cX3_claimerToShow 54 = .ok (.iconst (-1), 1) := by decide +kernel
theorem dX3_claimerToShow_55 : decode cX3_claimerToShow 55 = .ok (.if_icmp .eq 10, 3) := by decide +kernel
theorem dX3_claimerToShow_58 : decode cX3_claimerToShow 58 = .ok (.iload 7, 2) := by decide +kernel
theorem dX3_claimerToShow_60 : decode cX3_claimerToShow 60 = .ok (.iload 4, 2) := by decide +kernel
theorem dX3_claimerToShow_62 : decode cX3_claimerToShow 62 = .ok (.if_icmp .ge 10, 3) := by decide +kernel
theorem dX3_claimerToShow_65 : decode cX3_claimerToShow 65 = .ok (.iload 5, 2) := by decide +kernel
theorem dX3_claimerToShow_67 : decode cX3_claimerToShow 67 = .ok (.istore_n 3, 1) := by decide +kernel
theorem dX3_claimerToShow_68 : decode cX3_claimerToShow 68 = .ok (.iload 7, 2) := by decide +kernel
theorem dX3_claimerToShow_70 : decode cX3_claimerToShow 70 = .ok (.istore 4, 2) := by decide +kernel
theorem dX3_claimerToShow_72 : decode cX3_claimerToShow 72 = .ok (.iinc 5 1, 3) := by decide +kernel
theorem dX3_claimerToShow_75 : decode cX3_claimerToShow 75 = .ok (.goto (-61), 3) := by decide +kernel
theorem dX3_claimerToShow_78 : decode cX3_claimerToShow 78 = .ok (.iload_n 3, 1) := by decide +kernel
theorem dX3_claimerToShow_79 : decode cX3_claimerToShow 79 = .ok (.ireturn, 1) := by decide +kernel
theorem dX3_yearsFitting_0 : decode cX3_yearsFitting 0 = .ok (.iconst 0, 1) := by decide +kernel
theorem dX3_yearsFitting_1 : decode cX3_yearsFitting 1 = .ok (.istore_n 3, 1) := by decide +kernel
theorem dX3_yearsFitting_2 : decode cX3_yearsFitting 2 = .ok (.iconst 0, 1) := by decide +kernel
theorem dX3_yearsFitting_3 : decode cX3_yearsFitting 3 = .ok (.istore 4, 2) := by decide +kernel
theorem dX3_yearsFitting_5 : decode cX3_yearsFitting 5 = .ok (.iload 4, 2) := by decide +kernel
theorem dX3_yearsFitting_7 : decode cX3_yearsFitting 7 = .ok (.bipush 10, 2) := by decide +kernel
theorem dX3_yearsFitting_9 : decode cX3_yearsFitting 9 = .ok (.if_icmp .ge 35, 3) := by decide +kernel
theorem dX3_yearsFitting_12 : decode cX3_yearsFitting 12 = .ok (.aload_n 0, 1) := by decide +kernel
theorem dX3_yearsFitting_13 : decode cX3_yearsFitting 13 = .ok (.iload_n 2, 1) := by decide +kernel
theorem dX3_yearsFitting_14 : decode cX3_yearsFitting 14 = .ok (.invokevirtual 94, 3) := by decide +kernel
theorem dX3_yearsFitting_17 : decode cX3_yearsFitting 17 = .ok (.aload_n 0, 1) := by decide +kernel
theorem dX3_yearsFitting_18 : decode cX3_yearsFitting 18 = .ok (.iload 4, 2) := by decide +kernel
theorem dX3_yearsFitting_20 : decode cX3_yearsFitting 20 = .ok (.iload_n 1, 1) := by decide +kernel
theorem dX3_yearsFitting_21 : decode cX3_yearsFitting 21 = .ok (.iload_n 2, 1) := by decide +kernel
theorem dX3_yearsFitting_22 : decode cX3_yearsFitting 22 = .ok (.invokevirtual 90, 3) := by decide +kernel
theorem dX3_yearsFitting_25 : decode cX3_yearsFitting 25 = .ok (.invokestatic 97, 3) := by decide +kernel
theorem dX3_yearsFitting_28 : decode cX3_yearsFitting 28 = .ok (.ifCond .eq 10, 3) := by decide +kernel
theorem dX3_yearsFitting_31 : decode cX3_yearsFitting 31 = .ok (.iload_n 3, 1) := by decide +kernel
theorem dX3_yearsFitting_32 : decode cX3_yearsFitting 32 = .ok (.iconst 1, 1) := by decide +kernel
theorem dX3_yearsFitting_33 : decode cX3_yearsFitting 33 = .ok (.iload 4, 2) := by decide +kernel
theorem dX3_yearsFitting_35 : decode cX3_yearsFitting 35 = .ok (.ishl, 1) := by decide +kernel
theorem dX3_yearsFitting_36 : decode cX3_yearsFitting 36 = .ok (.ior, 1) := by decide +kernel
theorem dX3_yearsFitting_37 : decode cX3_yearsFitting 37 = .ok (.istore_n 3, 1) := by decide +kernel
theorem dX3_yearsFitting_38 : decode cX3_yearsFitting 38 = .ok (.iinc 4 1, 3) := by decide +kernel
theorem dX3_yearsFitting_41 : decode cX3_yearsFitting 41 = .ok (.goto (-36), 3) := by decide +kernel
theorem dX3_yearsFitting_44 : decode cX3_yearsFitting 44 = .ok (.iload_n 3, 1) := by decide +kernel
theorem dX3_yearsFitting_45 : decode cX3_yearsFitting 45 = .ok (.ireturn, 1) := by decide +kernel
theorem dX3_wrongIfLostIn_0 : decode cX3_wrongIfLostIn 0 = .ok (.aload_n 0, 1) := by decide +kernel
theorem dX3_wrongIfLostIn_1 : decode cX3_wrongIfLostIn 1 = .ok (.iload_n 3, 1) := by decide +kernel
theorem dX3_wrongIfLostIn_2 : decode cX3_wrongIfLostIn 2 = .ok (.invokevirtual 94, 3) := by decide +kernel
theorem dX3_wrongIfLostIn_5 : decode cX3_wrongIfLostIn 5 = .ok (.iload_n 1, 1) := by decide +kernel
theorem dX3_wrongIfLostIn_6 : decode cX3_wrongIfLostIn 6 = .ok (.aload_n 0, 1) := by decide +kernel
theorem dX3_wrongIfLostIn_7 : decode cX3_wrongIfLostIn 7 = .ok (.getfield 21, 3) := by decide +kernel
theorem dX3_wrongIfLostIn_10 : decode cX3_wrongIfLostIn 10 = .ok (.iload_n 3, 1) := by decide +kernel
theorem dX3_wrongIfLostIn_11 : decode cX3_wrongIfLostIn 11 = .ok (.iconst 0, 1) := by decide +kernel
theorem dX3_wrongIfLostIn_12 : decode cX3_wrongIfLostIn 12 = .ok (.invokevirtual 146, 3) := by decide +kernel
theorem dX3_wrongIfLostIn_15 : decode cX3_wrongIfLostIn 15 = .ok (.isub, 1) := by decide +kernel
theorem dX3_wrongIfLostIn_16 : decode cX3_wrongIfLostIn 16 = .ok (.invokestatic 149, 3) := by decide +kernel
theorem dX3_wrongIfLostIn_19 : decode cX3_wrongIfLostIn 19 = .ok (.aload_n 0, 1) := by decide +kernel
theorem dX3_wrongIfLostIn_20 : decode cX3_wrongIfLostIn 20 = .ok (.iload_n 2, 1) := by decide +kernel
theorem dX3_wrongIfLostIn_21 : decode cX3_wrongIfLostIn 21 = .ok (.iconst 1, 1) := by decide +kernel
theorem dX3_wrongIfLostIn_22 : decode cX3_wrongIfLostIn 22 = .ok (.invokevirtual 87, 3) := by decide +kernel
theorem dX3_wrongIfLostIn_25 : decode cX3_wrongIfLostIn 25 = .ok (.aload_n 0, 1) := by decide +kernel
theorem dX3_wrongIfLostIn_26 : decode cX3_wrongIfLostIn 26 = .ok (.getfield 21, 3) := by decide +kernel
theorem dX3_wrongIfLostIn_29 : decode cX3_wrongIfLostIn 29 = .ok (.iload_n 3, 1) := by decide +kernel
theorem dX3_wrongIfLostIn_30 : decode cX3_wrongIfLostIn 30 = .ok (.iconst 1, 1) := by decide +kernel
theorem dX3_wrongIfLostIn_31 : decode cX3_wrongIfLostIn 31 = .ok (.invokevirtual 146, 3) := by decide +kernel
theorem dX3_wrongIfLostIn_34 : decode cX3_wrongIfLostIn 34 = .ok (.if_icmp .eq 7, 3) := by decide +kernel
theorem dX3_wrongIfLostIn_37 : decode cX3_wrongIfLostIn 37 = .ok (.iconst 1, 1) := by decide +kernel
theorem dX3_wrongIfLostIn_38 : decode cX3_wrongIfLostIn 38 = .ok (.goto 4, 3) := by decide +kernel
theorem dX3_wrongIfLostIn_41 : decode cX3_wrongIfLostIn 41 = .ok (.iconst 0, 1) := by decide +kernel
theorem dX3_wrongIfLostIn_42 : decode cX3_wrongIfLostIn 42 = .ok (.aload_n 0, 1) := by decide +kernel
theorem dX3_wrongIfLostIn_43 : decode cX3_wrongIfLostIn 43 = .ok (.iload_n 2, 1) := by decide +kernel
theorem dX3_wrongIfLostIn_44 : decode cX3_wrongIfLostIn 44 = .ok (.iconst 2, 1) := by decide +kernel
theorem dX3_wrongIfLostIn_45 : decode cX3_wrongIfLostIn 45 = .ok (.invokevirtual 87, 3) := by decide +kernel
theorem dX3_wrongIfLostIn_48 : decode cX3_wrongIfLostIn 48 = .ok (.aload_n 0, 1) := by decide +kernel
theorem dX3_wrongIfLostIn_49 : decode cX3_wrongIfLostIn 49 = .ok (.getfield 21, 3) := by decide +kernel
theorem dX3_wrongIfLostIn_52 : decode cX3_wrongIfLostIn 52 = .ok (.iload_n 3, 1) := by decide +kernel
theorem dX3_wrongIfLostIn_53 : decode cX3_wrongIfLostIn 53 = .ok (.iconst 2, 1) := by decide +kernel
theorem dX3_wrongIfLostIn_54 : decode cX3_wrongIfLostIn 54 = .ok (.invokevirtual 146, 3) := by decide +kernel
theorem dX3_wrongIfLostIn_57 : decode cX3_wrongIfLostIn 57 = .ok (.if_icmp .eq 7, 3) := by decide +kernel
theorem dX3_wrongIfLostIn_60 : decode cX3_wrongIfLostIn 60 = .ok (.iconst 1, 1) := by decide +kernel
theorem dX3_wrongIfLostIn_61 : decode cX3_wrongIfLostIn 61 = .ok (.goto 4, 3) := by decide +kernel
theorem dX3_wrongIfLostIn_64 : decode cX3_wrongIfLostIn 64 = .ok (.iconst 0, 1) := by decide +kernel
theorem dX3_wrongIfLostIn_65 : decode cX3_wrongIfLostIn 65 = .ok (.invokestatic 152, 3) := by decide +kernel
theorem dX3_wrongIfLostIn_68 : decode cX3_wrongIfLostIn 68 = .ok (.ireturn, 1) := by decide +kernel
theorem dX4_init_0 : decode cX4_init 0 = .ok (.aload_n 0, 1) := by decide +kernel
theorem dX4_init_1 : decode cX4_init 1 = .ok (.invokespecial 3, 3) := by decide +kernel
theorem dX4_init_4 : decode cX4_init 4 = .ok (.aload_n 0, 1) := by decide +kernel
theorem dX4_init_5 : decode cX4_init 5 = .ok (.lconst 0, 1) := by decide +kernel
theorem dX4_init_6 : decode cX4_init 6 = .ok (.putfield 9, 3) := by decide +kernel
theorem dX4_init_9 : decode cX4_init 9 = .ok (.aload_n 0, 1) := by decide +kernel
theorem dX4_init_10 : decode cX4_init 10 = .ok (.iconst 0, 1) := by decide +kernel
theorem dX4_init_11 : decode cX4_init 11 = .ok (.putfield 15, 3) := by decide +kernel
theorem dX4_init_14 : decode cX4_init 14 = .ok (.aload_n 0, 1) := by decide +kernel
theorem dX4_init_15 : decode cX4_init 15 = .ok (.iconst 0, 1) := by decide +kernel
theorem dX4_init_16 : decode cX4_init 16 = .ok (.putfield 19, 3) := by decide +kernel
theorem dX4_init_19 : decode cX4_init 19 = .ok (.return_, 1) := by decide +kernel
theorem dX4_tell_0 : decode cX4_tell 0 = .ok (.iload_n 1, 1) := by decide +kernel
theorem dX4_tell_1 : decode cX4_tell 1 = .ok (.ifCond .ne 8, 3) := by decide +kernel
theorem dX4_tell_4 : decode cX4_tell 4 = .ok (.aload_n 0, 1) := by decide +kernel
theorem dX4_tell_5 : decode cX4_tell 5 = .ok (.getfield 15, 3) := by decide +kernel
theorem dX4_tell_8 : decode cX4_tell 8 = .ok (.ireturn, 1) := by decide +kernel
theorem dX4_tell_9 : decode cX4_tell 9 = .ok (.iload_n 1, 1) := by decide +kernel
theorem dX4_tell_10 : decode cX4_tell 10 = .ok (.iconst 1, 1) := by decide +kernel
theorem dX4_tell_11 : decode cX4_tell 11 = .ok (.if_icmp .ne 8, 3) := by decide +kernel
theorem dX4_tell_14 : decode cX4_tell 14 = .ok (.aload_n 0, 1) := by decide +kernel
theorem dX4_tell_15 : decode cX4_tell 15 = .ok (.getfield 19, 3) := by decide +kernel
theorem dX4_tell_18 : decode cX4_tell 18 = .ok (.ireturn, 1) := by decide +kernel
theorem dX4_tell_19 : decode cX4_tell 19 = .ok (.aload_n 0, 1) := by decide +kernel
theorem dX4_tell_20 : decode cX4_tell 20 = .ok (.getfield 9, 3) := by decide +kernel
theorem dX4_tell_23 : decode cX4_tell 23 = .ok (.l2i, 1) := by decide +kernel
theorem dX4_tell_24 : decode cX4_tell 24 = .ok (.ireturn, 1) := by decide +kernel
theorem dX4_play_0 : decode cX4_play 0 = .ok (.aload_n 0, 1) := by decide +kernel
theorem dX4_play_1 : decode cX4_play 1 = .ok (.iload_n 3, 1) := by decide +kernel
theorem dX4_play_2 : decode cX4_play 2 = .ok (.i2l, 1) := by decide +kernel
theorem dX4_play_3 : decode cX4_play 3 = .ok (.putfield 9, 3) := by decide +kernel
theorem dX4_play_6 : decode cX4_play 6 = .ok (.aload_n 0, 1) := by decide +kernel
theorem dX4_play_7 : decode cX4_play 7 = .ok (.iconst 0, 1) := by decide +kernel
theorem dX4_play_8 : decode cX4_play 8 = .ok (.putfield 15, 3) := by decide +kernel
theorem dX4_play_11 : decode cX4_play 11 = .ok (.aload_n 0, 1) := by decide +kernel
theorem dX4_play_12 : decode cX4_play 12 = .ok (.iconst 0, 1) := by decide +kernel
theorem dX4_play_13 : decode cX4_play 13 = .ok (.putfield 19, 3) := by decide +kernel
theorem dX4_play_16 : decode cX4_play 16 = .ok (.iconst 0, 1) := by decide +kernel
theorem dX4_play_17 : decode cX4_play 17 = .ok (.istore 4, 2) := by decide +kernel
theorem dX4_play_19 : decode cX4_play 19 = .ok (.iload 4, 2) := by decide +kernel
theorem dX4_play_21 : decode cX4_play 21 = .ok (.iload_n 2, 1) := by decide +kernel
theorem dX4_play_22 : decode cX4_play 22 = .ok (.if_icmp .ge 133, 3) := by decide +kernel
theorem dX4_play_25 : decode cX4_play 25 = .ok (.aload_n 1, 1) := by decide +kernel
theorem dX4_play_26 : decode cX4_play 26 = .ok (.aload_n 0, 1) := by decide +kernel
theorem dX4_play_27 : decode cX4_play 27 = .ok (.aload_n 1, 1) := by decide +kernel
theorem dX4_play_28 : decode cX4_play 28 = .ok (.invokevirtual 22, 3) := by decide +kernel
theorem dX4_play_31 : decode cX4_play 31 = .ok (.invokevirtual 28, 3) := by decide +kernel
theorem dX4_play_34 : decode cX4_play 34 = .ok (.invokevirtual 32, 3) := by decide +kernel
theorem dX4_play_37 : decode cX4_play 37 = .ok (.istore 5, 2) := by decide +kernel
theorem dX4_play_39 : decode cX4_play 39 = .ok (.aload_n 0, 1) := by decide +kernel
theorem dX4_play_40 : decode cX4_play 40 = .ok (.bipush 10, 2) := by decide +kernel
theorem dX4_play_42 : decode cX4_play 42 = .ok (.invokevirtual 28, 3) := by decide +kernel
theorem dX4_play_45 : decode cX4_play 45 = .ok (.istore 6, 2) := by decide +kernel
theorem dX4_play_47 : decode cX4_play 47 = .ok (.aload_n 0, 1) := by decide +kernel
theorem dX4_play_48 : decode cX4_play 48 = .ok (.getstatic 35, 3) := by decide +kernel
theorem dX4_play_51 : decode cX4_play 51 = .ok (.iconst 1, 1) := by decide +kernel
theorem dX4_play_52 : decode cX4_play 52 = .ok (.invokestatic 39, 3) := by decide +kernel
theorem dX4_play_55 : decode cX4_play 55 = .ok (.invokevirtual 28, 3) := by decide +kernel
theorem dX4_play_58 : decode cX4_play 58 = .ok (.istore 7, 2) := by decide +kernel
theorem dX4_play_60 : decode cX4_play 60 = .ok (.aload_n 0, 1) := by decide +kernel
theorem dX4_play_61 : decode cX4_play 61 = .ok (.getstatic 35, 3) := by decide +kernel
theorem dX4_play_64 : decode cX4_play 64 = .ok (.iconst 2, 1) := by decide +kernel
theorem dX4_play_65 : decode cX4_play 65 = .ok (.invokestatic 39, 3) := by decide +kernel
theorem dX4_play_68 : decode cX4_play 68 = .ok (.invokevirtual 28, 3) := by decide +kernel
theorem dX4_play_71 : decode cX4_play 71 = .ok (.istore 8, 2) := by decide +kernel
theorem dX4_play_73 : decode cX4_play 73 = .ok (.iconst 0, 1) := by decide +kernel
theorem dX4_play_74 : decode cX4_play 74 = .ok (.istore 9, 2) := by decide +kernel
theorem dX4_play_76 : decode cX4_play 76 = .ok (.iload 9, 2) := by decide +kernel
theorem dX4_play_78 : decode cX4_play 78 = .ok (.aload_n 1, 1) := by decide +kernel
theorem dX4_play_79 : decode cX4_play 79 = .ok (.invokevirtual 43, 3) := by decide +kernel
theorem dX4_play_82 : decode cX4_play 82 = .ok (.if_icmp .ge 67, 3) := by decide +kernel
theorem dX4_play_85 : decode cX4_play 85 = .ok (.aload_n 0, 1) := by decide +kernel
theorem dX4_play_86 : decode cX4_play 86 = .ok (.iload 5, 2) := by decide +kernel
theorem dX4_play_88 : decode cX4_play 88 = .ok (.iload 5, 2) := by decide +kernel
theorem dX4_play_90 : decode cX4_play 90 = .ok (.aload_n 1, 1) := by decide +kernel
theorem dX4_play_91 : decode cX4_play 91 = .ok (.iload 9, 2) := by decide +kernel
theorem dX4_play_93 : decode cX4_play 93 = .ok (.iconst 0, 1) := by decide +kernel
theorem dX4_play_94 : decode cX4_play 94 = .ok (.invokevirtual 46, 3) := by decide +kernel
theorem dX4_play_97 : decode cX4_play 97 = .ok (.iload 6, 2) := by decide +kernel
theorem dX4_play_99 : decode cX4_play 99 = .ok (.isub, 1) := by decide +kernel
theorem dX4_play_100 : decode cX4_play 100 = .ok (.invokestatic 50, 3) := by decide +kernel
theorem dX4_play_103 : decode cX4_play 103 = .ok (.aload_n 1, 1) := by decide +kernel
theorem dX4_play_104 : decode cX4_play 104 = .ok (.iload 9, 2) := by decide +kernel
theorem dX4_play_106 : decode cX4_play 106 = .ok (.iconst 1, 1) := by decide +kernel
theorem dX4_play_107 : decode cX4_play 107 = .ok (.invokevirtual 46, 3) := by decide +kernel
theorem dX4_play_110 : decode cX4_play 110 = .ok (.iload 7, 2) := by decide +kernel
theorem dX4_play_112 : decode cX4_play 112 = .ok (.if_icmp .eq 7, 3) := by decide +kernel
theorem dX4_play_115 : decode cX4_play 115 = .ok (.iconst 1, 1) := by decide +kernel
theorem dX4_play_116 : decode cX4_play 116 = .ok (.goto 4, 3) := by decide +kernel
theorem dX4_play_119 : decode cX4_play 119 = .ok (.iconst 0, 1) := by decide +kernel
theorem dX4_play_120 : decode cX4_play 120 = .ok (.aload_n 1, 1) := by decide +kernel
theorem dX4_play_121 : decode cX4_play 121 = .ok (.iload 9, 2) := by decide +kernel
theorem dX4_play_123 : decode cX4_play 123 = .ok (.iconst 2, 1) := by decide +kernel
theorem dX4_play_124 : decode cX4_play 124 = .ok (.invokevirtual 46, 3) := by decide +kernel
theorem dX4_play_127 : decode cX4_play 127 = .ok (.iload 8, 2) := by decide +kernel
theorem dX4_play_129 : decode cX4_play 129 = .ok (.if_icmp .eq 7, 3) := by decide +kernel
theorem dX4_play_132 : decode cX4_play 132 = .ok (.iconst 1, 1) := by decide +kernel
theorem dX4_play_133 : decode cX4_play 133 = .ok (.goto 4, 3) := by decide +kernel
theorem dX4_play_136 : decode cX4_play 136 = .ok (.iconst 0, 1) := by decide +kernel
theorem dX4_play_137 : decode cX4_play 137 = .ok (.invokestatic 55, 3) := by decide +kernel
theorem dX4_play_140 : decode cX4_play 140 = .ok (.invokevirtual 59, 3) := by decide +kernel
theorem dX4_play_143 : decode cX4_play 143 = .ok (.iinc 9 1, 3) := by decide +kernel
theorem dX4_play_146 : decode cX4_play 146 = .ok (.goto (-70), 3) := by decide +kernel
theorem dX4_play_149 : decode cX4_play 149 = .ok (.iinc 4 1, 3) := by decide +kernel
theorem dX4_play_152 : decode cX4_play 152 = .ok (.goto (-133), 3) := by decide +kernel
theorem dX4_play_155 : decode cX4_play 155 = .ok (.return_, 1) := by decide +kernel
theorem dX4_addIfFit_0 : decode cX4_addIfFit 0 = .ok (.iload_n 1, 1) := by decide +kernel
theorem dX4_addIfFit_1 : decode cX4_addIfFit 1 = .ok (.iload_n 2, 1) := by decide +kernel
theorem dX4_addIfFit_2 : decode cX4_addIfFit 2 = .ok (.invokestatic 63, 3) := by decide +kernel
theorem dX4_addIfFit_5 : decode cX4_addIfFit 5 = .ok (.ifCond .ne 4, 3) := by decide +kernel
theorem dX4_addIfFit_8 : decode cX4_addIfFit 8 = .ok (.return_, 1) := by decide +kernel
theorem dX4_addIfFit_9 : decode cX4_addIfFit 9 = .ok (.aload_n 0, 1) := by decide +kernel
theorem dX4_addIfFit_10 : decode cX4_addIfFit 10 = .ok (.dup, 1) := by decide +kernel
theorem dX4_addIfFit_11 : decode cX4_addIfFit 11 = .ok (.getfield 15, 3) := by decide +kernel
theorem dX4_addIfFit_14 : decode cX4_addIfFit 14 = .ok (.iconst 1, 1) := by decide +kernel
theorem dX4_addIfFit_15 : decode cX4_addIfFit 15 = .ok (.iadd, 1) := by decide +kernel
theorem dX4_addIfFit_16 : decode cX4_addIfFit 16 = .ok (.putfield 15, 3) := by decide +kernel
theorem dX4_addIfFit_19 : decode cX4_addIfFit 19 = .ok (.aload_n 0, 1) := by decide +kernel
theorem dX4_addIfFit_20 : decode cX4_addIfFit 20 = .ok (.dup, 1) := by decide +kernel
theorem dX4_addIfFit_21 : decode cX4_addIfFit 21 = .ok (.getfield 19, 3) := by decide +kernel
theorem dX4_addIfFit_24 : decode cX4_addIfFit 24 = .ok (.iload_n 2, 1) := by decide +kernel
theorem dX4_addIfFit_25 : decode cX4_addIfFit 25 = .ok (.iadd, 1) := by decide +kernel
theorem dX4_addIfFit_26 : decode cX4_addIfFit 26 = .ok (.putfield 19, 3) := by decide +kernel
theorem dX4_addIfFit_29 : decode cX4_addIfFit 29 = .ok (.return_, 1) := by decide +kernel
theorem dX4_draw_0 : decode cX4_draw 0 = .ok (.aload_n 0, 1) := by decide +kernel
theorem dX4_draw_1 : decode cX4_draw 1 = .ok (.ldc2_w 67, 3) := by decide +kernel
theorem dX4_draw_4 : decode cX4_draw 4 = .ok (.aload_n 0, 1) := by decide +kernel
theorem dX4_draw_5 : decode cX4_draw 5 = .ok (.getfield 9, 3) := by decide +kernel
theorem dX4_draw_8 : decode cX4_draw 8 = .ok (.lmul, 1) := by decide +kernel
theorem dX4_draw_9 : decode cX4_draw 9 = .ok (.ldc2_w 69, 3) := by decide +kernel
theorem dX4_draw_12 : decode cX4_draw 12 = .ok (.ladd, 1) := by decide +kernel
theorem dX4_draw_13 : decode cX4_draw 13 = .ok (.ldc2_w 71, 3) := by decide +kernel
theorem dX4_draw_16 : decode cX4_draw 16 = .ok (.lrem, 1) := by decide +kernel
theorem dX4_draw_17 : decode cX4_draw 17 = .ok (.putfield 9, 3) := by decide +kernel
theorem dX4_draw_20 : decode cX4_draw 20 = .ok (.iload_n 1, 1) := by decide +kernel
theorem dX4_draw_21 : decode cX4_draw 21 = .ok (.ifCond .le 18, 3) := by decide +kernel
theorem dX4_draw_24 : decode cX4_draw 24 = .ok (.aload_n 0, 1) := by decide +kernel
theorem dX4_draw_25 : decode cX4_draw 25 = .ok (.getfield 9, 3) := by decide +kernel
theorem dX4_draw_28 : decode cX4_draw 28 = .ok (.ldc2_w 73, 3) := by decide +kernel
theorem dX4_draw_31 : decode cX4_draw 31 = .ok (.ldiv, 1) := by decide +kernel
theorem dX4_draw_32 : decode cX4_draw 32 = .ok (.iload_n 1, 1) := by decide +kernel
theorem dX4_draw_33 : decode cX4_draw 33 = .ok (.i2l, 1) := by decide +kernel
theorem dX4_draw_34 : decode cX4_draw 34 = .ok (.lrem, 1) := by decide +kernel
theorem dX4_draw_35 : decode cX4_draw 35 = .ok (.l2i, 1) := by decide +kernel
theorem dX4_draw_36 : decode cX4_draw 36 = .ok (.goto 4, 3) := by decide +kernel
theorem dX4_draw_39 : decode cX4_draw 39 = .ok (.iconst 0, 1) := by decide +kernel
theorem dX4_draw_40 : decode cX4_draw 40 = .ok (.ireturn, 1) := by decide +kernel
theorem dX5_init_0 : decode cX5_init 0 = .ok (.aload_n 0, 1) := by decide +kernel
theorem dX5_init_1 : decode cX5_init 1 = .ok (.invokespecial 3, 3) := by decide +kernel
theorem dX5_init_4 : decode cX5_init 4 = .ok (.aload_n 0, 1) := by decide +kernel
theorem dX5_init_5 : decode cX5_init 5 = .ok (.new 9, 3) := by decide +kernel
theorem dX5_init_8 : decode cX5_init 8 = .ok (.dup, 1) := by decide +kernel
theorem dX5_init_9 : decode cX5_init 9 = .ok (.invokespecial 11, 3) := by decide +kernel
theorem dX5_init_12 : decode cX5_init 12 = .ok (.putfield 12, 3) := by decide +kernel
theorem dX5_init_15 : decode cX5_init 15 = .ok (.aload_n 0, 1) := by decide +kernel
theorem dX5_init_16 : decode cX5_init 16 = .ok (.new 16, 3) := by decide +kernel
theorem dX5_init_19 : decode cX5_init 19 = .ok (.dup, 1) := by decide +kernel
theorem dX5_init_20 : decode cX5_init 20 = .ok (.invokespecial 18, 3) := by decide +kernel
theorem dX5_init_23 : decode cX5_init 23 = .ok (.putfield 19, 3) := by decide +kernel
theorem dX5_init_26 : decode cX5_init 26 = .ok (.aload_n 0, 1) := by decide +kernel
theorem dX5_init_27 : decode cX5_init 27 = .ok (.new 23, 3) := by decide +kernel
theorem dX5_init_30 : decode cX5_init 30 = .ok (.dup, 1) := by decide +kernel
theorem dX5_init_31 : decode cX5_init 31 = .ok (.invokespecial 25, 3) := by decide +kernel
theorem dX5_init_34 : decode cX5_init 34 = .ok (.putfield 26, 3) := by decide +kernel
theorem dX5_init_37 : decode cX5_init 37 = .ok (.aload_n 0, 1) := by decide +kernel
theorem dX5_init_38 : decode cX5_init 38 = .ok (.new 30, 3) := by decide +kernel
theorem dX5_init_41 : decode cX5_init 41 = .ok (.dup, 1) := by decide +kernel
theorem dX5_init_42 : decode cX5_init 42 = .ok (.invokespecial 32, 3) := by decide +kernel
theorem dX5_init_45 : decode cX5_init 45 = .ok (.putfield 33, 3) := by decide +kernel
theorem dX5_init_48 : decode cX5_init 48 = .ok (.aload_n 0, 1) := by decide +kernel
theorem dX5_init_49 : decode cX5_init 49 = .ok (.iconst 0, 1) := by decide +kernel
theorem dX5_init_50 : decode cX5_init 50 = .ok (.putfield 37, 3) := by decide +kernel
theorem dX5_init_53 : decode cX5_init 53 = .ok (.return_, 1) := by decide +kernel
theorem dX5_letter_0 : decode cX5_letter 0 = .ok (.iload_n 1, 1) := by decide +kernel
theorem dX5_letter_1 : decode cX5_letter 1 = .ok (.iconst 1, 1) := by decide +kernel
theorem dX5_letter_2 : decode cX5_letter 2 = .ok (.if_icmp .lt 9, 3) := by decide +kernel
theorem dX5_letter_5 : decode cX5_letter 5 = .ok (.iload_n 1, 1) := by decide +kernel
theorem dX5_letter_6 : decode cX5_letter 6 = .ok (.bipush 126, 2) := by decide +kernel
theorem dX5_letter_8 : decode cX5_letter 8 = .ok (.if_icmp .le 6, 3) := by decide +kernel
theorem dX5_letter_11 : decode cX5_letter 11 = .ok (.bipush (-102), 2) := by decide +kernel
theorem dX5_letter_13 : decode cX5_letter 13 = .ok (.ireturn, 1) := by decide +kernel
theorem dX5_letter_14 : decode cX5_letter 14 = .ok (.aload_n 0, 1) := by decide +kernel
theorem dX5_letter_15 : decode cX5_letter 15 = .ok (.getfield 12, 3) := by decide +kernel
theorem dX5_letter_18 : decode cX5_letter 18 = .ok (.iload_n 1, 1) := by decide +kernel
theorem dX5_letter_19 : decode cX5_letter 19 = .ok (.invokevirtual 41, 3) := by decide +kernel
theorem dX5_letter_22 : decode cX5_letter 22 = .ok (.ifCond .ne 6, 3) := by decide +kernel
theorem dX5_letter_25 : decode cX5_letter 25 = .ok (.bipush (-104), 2) := by decide +kernel
theorem dX5_letter_27 : decode cX5_letter 27 = .ok (.ireturn, 1) := by decide +kernel
theorem dX5_letter_28 : decode cX5_letter 28 = .ok (.aload_n 0, 1) := by decide +kernel
theorem dX5_letter_29 : decode cX5_letter 29 = .ok (.getfield 12, 3) := by decide +kernel
theorem dX5_letter_32 : decode cX5_letter 32 = .ok (.invokevirtual 45, 3) := by decide +kernel
theorem dX5_letter_35 : decode cX5_letter 35 = .ok (.ireturn, 1) := by decide +kernel
theorem dX5_blank_0 : decode cX5_blank 0 = .ok (.aload_n 0, 1) := by decide +kernel
theorem dX5_blank_1 : decode cX5_blank 1 = .ok (.getfield 12, 3) := by decide +kernel
theorem dX5_blank_4 : decode cX5_blank 4 = .ok (.invokevirtual 45, 3) := by decide +kernel
theorem dX5_blank_7 : decode cX5_blank 7 = .ok (.istore_n 1, 1) := by decide +kernel
theorem dX5_blank_8 : decode cX5_blank 8 = .ok (.aload_n 0, 1) := by decide +kernel
theorem dX5_blank_9 : decode cX5_blank 9 = .ok (.getfield 12, 3) := by decide +kernel
theorem dX5_blank_12 : decode cX5_blank 12 = .ok (.invokevirtual 49, 3) := by decide +kernel
theorem dX5_blank_15 : decode cX5_blank 15 = .ok (.iload_n 1, 1) := by decide +kernel
theorem dX5_blank_16 : decode cX5_blank 16 = .ok (.ireturn, 1) := by decide +kernel
theorem dX5_fault_0 : decode cX5_fault 0 = .ok (.aload_n 0, 1) := by decide +kernel
theorem dX5_fault_1 : decode cX5_fault 1 = .ok (.getfield 12, 3) := by decide +kernel
theorem dX5_fault_4 : decode cX5_fault 4 = .ok (.invokevirtual 52, 3) := by decide +kernel
theorem dX5_fault_7 : decode cX5_fault 7 = .ok (.ireturn, 1) := by decide +kernel
theorem dX5_tent_0 : decode cX5_tent 0 = .ok (.aload_n 0, 1) := by decide +kernel
theorem dX5_tent_1 : decode cX5_tent 1 = .ok (.getfield 12, 3) := by decide +kernel
theorem dX5_tent_4 : decode cX5_tent 4 = .ok (.invokevirtual 55, 3) := by decide +kernel
theorem dX5_tent_7 : decode cX5_tent 7 = .ok (.ifCond .ne 6, 3) := by decide +kernel
theorem dX5_tent_10 : decode cX5_tent 10 = .ok (.bipush (-103), 2) := by decide +kernel
theorem dX5_tent_12 : decode cX5_tent 12 = .ok (.ireturn, 1) := by decide +kernel
theorem dX5_tent_13 : decode cX5_tent 13 = .ok (.aload_n 0, 1) := by decide +kernel
theorem dX5_tent_14 : decode cX5_tent 14 = .ok (.getfield 19, 3) := by decide +kernel
theorem dX5_tent_17 : decode cX5_tent 17 = .ok (.aload_n 0, 1) := by decide +kernel
theorem dX5_tent_18 : decode cX5_tent 18 = .ok (.getfield 12, 3) := by decide +kernel
theorem dX5_tent_21 : decode cX5_tent 21 = .ok (.invokevirtual 59, 3) := by decide +kernel
theorem dX5_tent_24 : decode cX5_tent 24 = .ok (.aload_n 0, 1) := by decide +kernel
theorem dX5_tent_25 : decode cX5_tent 25 = .ok (.getfield 12, 3) := by decide +kernel
theorem dX5_tent_28 : decode cX5_tent 28 = .ok (.invokevirtual 49, 3) := by decide +kernel
theorem dX5_tent_31 : decode cX5_tent 31 = .ok (.aload_n 0, 1) := by decide +kernel
theorem dX5_tent_32 : decode cX5_tent 32 = .ok (.dup, 1) := by decide +kernel
theorem dX5_tent_33 : decode cX5_tent 33 = .ok (.getfield 37, 3) := by decide +kernel
theorem dX5_tent_36 : decode cX5_tent 36 = .ok (.iconst 1, 1) := by decide +kernel
theorem dX5_tent_37 : decode cX5_tent 37 = .ok (.iadd, 1) := by decide +kernel
theorem dX5_tent_38 : decode cX5_tent 38 = .ok (.putfield 37, 3) := by decide +kernel
theorem dX5_tent_41 : decode cX5_tent 41 = .ok (.aload_n 0, 1) := by decide +kernel
theorem dX5_tent_42 : decode cX5_tent 42 = .ok (.getfield 19, 3) := by decide +kernel
theorem dX5_tent_45 : decode cX5_tent 45 = .ok (.invokevirtual 63, 3) := by decide +kernel
theorem dX5_tent_48 : decode cX5_tent 48 = .ok (.ireturn, 1) := by decide +kernel
theorem dX5_thing_0 : decode cX5_thing 0 = .ok (.aload_n 0, 1) := by decide +kernel
theorem dX5_thing_1 : decode cX5_thing 1 = .ok (.getfield 19, 3) := by decide +kernel
theorem dX5_thing_4 : decode cX5_thing 4 = .ok (.iload_n 1, 1) := by decide +kernel
theorem dX5_thing_5 : decode cX5_thing 5 = .ok (.invokevirtual 66, 3) := by decide +kernel
theorem dX5_thing_8 : decode cX5_thing 8 = .ok (.ifCond .ne 6, 3) := by decide +kernel
theorem dX5_thing_11 : decode cX5_thing 11 = .ok (.bipush (-101), 2) := by decide +kernel
theorem dX5_thing_13 : decode cX5_thing 13 = .ok (.ireturn, 1) := by decide +kernel
theorem dX5_thing_14 : decode cX5_thing 14 = .ok (.iload_n 2, 1) := by decide +kernel
theorem dX5_thing_15 : decode cX5_thing 15 = .ok (.tableswitch 98 0 6 #[41, 41, 41, 51, 63, 72, 81], 41) := by decide +kernel
theorem dX5_thing_56 : decode cX5_thing 56 = .ok (.aload_n 0, 1) := by decide +kernel
theorem dX5_thing_57 : decode cX5_thing 57 = .ok (.getfield 19, 3) := by decide +kernel
theorem dX5_thing_60 : decode cX5_thing 60 = .ok (.iload_n 1, 1) := by decide +kernel
theorem dX5_thing_61 : decode cX5_thing 61 = .ok (.iload_n 2, 1) := by decide +kernel
theorem dX5_thing_62 : decode cX5_thing 62 = .ok (.invokevirtual 69, 3) := by decide +kernel
theorem dX5_thing_65 : decode cX5_thing 65 = .ok (.ireturn, 1) := by decide +kernel
theorem dX5_thing_66 : decode cX5_thing 66 = .ok (.aload_n 0, 1) := by decide +kernel
theorem dX5_thing_67 : decode cX5_thing 67 = .ok (.getfield 19, 3) := by decide +kernel
theorem dX5_thing_70 : decode cX5_thing 70 = .ok (.invokevirtual 73, 3) := by decide +kernel
theorem dX5_thing_73 : decode cX5_thing 73 = .ok (.iload_n 1, 1) := by decide +kernel
theorem dX5_thing_74 : decode cX5_thing 74 = .ok (.invokevirtual 77, 3) := by decide +kernel
theorem dX5_thing_77 : decode cX5_thing 77 = .ok (.ireturn, 1) := by decide +kernel
theorem dX5_thing_78 : decode cX5_thing 78 = .ok (.aload_n 0, 1) := by decide +kernel
theorem dX5_thing_79 : decode cX5_thing 79 = .ok (.getfield 19, 3) := by decide +kernel
theorem dX5_thing_82 : decode cX5_thing 82 = .ok (.iload_n 1, 1) := by decide +kernel
theorem dX5_thing_83 : decode cX5_thing 83 = .ok (.invokevirtual 83, 3) := by decide +kernel
theorem dX5_thing_86 : decode cX5_thing 86 = .ok (.ireturn, 1) := by decide +kernel
theorem dX5_thing_87 : decode cX5_thing 87 = .ok (.aload_n 0, 1) := by decide +kernel
theorem dX5_thing_88 : decode cX5_thing 88 = .ok (.getfield 19, 3) := by decide +kernel
theorem dX5_thing_91 : decode cX5_thing 91 = .ok (.iload_n 1, 1) := by decide +kernel
theorem dX5_thing_92 : decode cX5_thing 92 = .ok (.invokevirtual 86, 3) := by decide +kernel
theorem dX5_thing_95 : decode cX5_thing 95 = .ok (.ireturn, 1) := by decide +kernel
theorem dX5_thing_96 : decode cX5_thing 96 = .ok (.aload_n 0, 1) := by decide +kernel
theorem dX5_thing_97 : decode cX5_thing 97 = .ok (.getfield 19, 3) := by decide +kernel
theorem dX5_thing_100 : decode cX5_thing 100 = .ok (.iload_n 1, 1) := by decide +kernel
theorem dX5_thing_101 : decode cX5_thing 101 = .ok (.aload_n 0, 1) := by decide +kernel
theorem dX5_thing_102 : decode cX5_thing 102 = .ok (.getfield 19, 3) := by decide +kernel
theorem dX5_thing_105 : decode cX5_thing 105 = .ok (.iload_n 1, 1) := by decide +kernel
theorem dX5_thing_106 : decode cX5_thing 106 = .ok (.invokevirtual 86, 3) := by decide +kernel
theorem dX5_thing_109 : decode cX5_thing 109 = .ok (.invokevirtual 89, 3) := by decide +kernel
theorem dX5_thing_112 : decode cX5_thing 112 = .ok (.ireturn, 1) := by decide +kernel
theorem dX5_thing_113 : decode cX5_thing 113 = .ok (.bipush (-102), 2) := by decide +kernel
theorem dX5_thing_115 : decode cX5_thing 115 = .ok (.ireturn, 1) := by decide +kernel
theorem dX5_claimer_0 : decode cX5_claimer 0 = .ok (.aload_n 0, 1) := by decide +kernel
theorem dX5_claimer_1 : decode cX5_claimer 1 = .ok (.getfield 19, 3) := by decide +kernel
theorem dX5_claimer_4 : decode cX5_claimer 4 = .ok (.iload_n 1, 1) := by decide +kernel
theorem dX5_claimer_5 : decode cX5_claimer 5 = .ok (.invokevirtual 92, 3) := by decide +kernel
theorem dX5_claimer_8 : decode cX5_claimer 8 = .ok (.ifCond .ne 6, 3) := by decide +kernel
theorem dX5_claimer_11 : decode cX5_claimer 11 = .ok (.bipush (-101), 2) := by decide +kernel
theorem dX5_claimer_13 : decode cX5_claimer 13 = .ok (.ireturn, 1) := by decide +kernel
theorem dX5_claimer_14 : decode cX5_claimer 14 = .ok (.iload_n 2, 1) := by decide +kernel
theorem dX5_claimer_15 : decode cX5_claimer 15 = .ok (.tableswitch 108 0 6 #[41, 41, 41, 54, 63, 75, 84], 41) := by decide +kernel
theorem dX5_claimer_56 : decode cX5_claimer 56 = .ok (.aload_n 0, 1) := by decide +kernel
theorem dX5_claimer_57 : decode cX5_claimer 57 = .ok (.getfield 19, 3) := by decide +kernel
theorem dX5_claimer_60 : decode cX5_claimer 60 = .ok (.invokevirtual 73, 3) := by decide +kernel
theorem dX5_claimer_63 : decode cX5_claimer 63 = .ok (.iload_n 1, 1) := by decide +kernel
theorem dX5_claimer_64 : decode cX5_claimer 64 = .ok (.iload_n 2, 1) := by decide +kernel
theorem dX5_claimer_65 : decode cX5_claimer 65 = .ok (.invokevirtual 95, 3) := by decide +kernel
theorem dX5_claimer_68 : decode cX5_claimer 68 = .ok (.ireturn, 1) := by decide +kernel
theorem dX5_claimer_69 : decode cX5_claimer 69 = .ok (.aload_n 0, 1) := by decide +kernel
theorem dX5_claimer_70 : decode cX5_claimer 70 = .ok (.getfield 19, 3) := by decide +kernel
theorem dX5_claimer_73 : decode cX5_claimer 73 = .ok (.iload_n 1, 1) := by decide +kernel
theorem dX5_claimer_74 : decode cX5_claimer 74 = .ok (.invokevirtual 98, 3) := by decide +kernel
theorem dX5_claimer_77 : decode cX5_claimer 77 = .ok (.ireturn, 1) := by decide +kernel
theorem dX5_claimer_78 : decode cX5_claimer 78 = .ok (.aload_n 0, 1) := by decide +kernel
theorem dX5_claimer_79 : decode cX5_claimer 79 = .ok (.getfield 19, 3) := by decide +kernel
theorem dX5_claimer_82 : decode cX5_claimer 82 = .ok (.invokevirtual 73, 3) := by decide +kernel
theorem dX5_claimer_85 : decode cX5_claimer 85 = .ok (.iload_n 1, 1) := by decide +kernel
theorem dX5_claimer_86 : decode cX5_claimer 86 = .ok (.invokevirtual 101, 3) := by decide +kernel
theorem dX5_claimer_89 : decode cX5_claimer 89 = .ok (.ireturn, 1) := by decide +kernel
theorem dX5_claimer_90 : decode cX5_claimer 90 = .ok (.aload_n 0, 1) := by decide +kernel
theorem dX5_claimer_91 : decode cX5_claimer 91 = .ok (.getfield 19, 3) := by decide +kernel
theorem dX5_claimer_94 : decode cX5_claimer 94 = .ok (.iload_n 1, 1) := by decide +kernel
theorem dX5_claimer_95 : decode cX5_claimer 95 = .ok (.invokevirtual 104, 3) := by decide +kernel
theorem dX5_claimer_98 : decode cX5_claimer 98 = .ok (.ireturn, 1) := by decide +kernel
theorem dX5_claimer_99 : decode cX5_claimer 99 = .ok (.aload_n 0, 1) := by decide +kernel
theorem dX5_claimer_100 : decode cX5_claimer 100 = .ok (.getfield 19, 3) := by decide +kernel
theorem dX5_claimer_103 : decode cX5_claimer 103 = .ok (.aload_n 0, 1) := by decide +kernel
theorem dX5_claimer_104 : decode cX5_claimer 104 = .ok (.getfield 19, 3) := by decide +kernel
theorem dX5_claimer_107 : decode cX5_claimer 107 = .ok (.iload_n 1, 1) := by decide +kernel
theorem dX5_claimer_108 : decode cX5_claimer 108 = .ok (.invokevirtual 104, 3) := by decide +kernel
theorem dX5_claimer_111 : decode cX5_claimer 111 = .ok (.aload_n 0, 1) := by decide +kernel
theorem dX5_claimer_112 : decode cX5_claimer 112 = .ok (.getfield 19, 3) := by decide +kernel
theorem dX5_claimer_115 : decode cX5_claimer 115 = .ok (.invokevirtual 107, 3) := by decide +kernel
theorem dX5_claimer_118 : decode cX5_claimer 118 = .ok (.iand, 1) := by decide +kernel
theorem dX5_claimer_119 : decode cX5_claimer 119 = .ok (.invokevirtual 110, 3) := by decide +kernel
theorem dX5_claimer_122 : decode cX5_claimer 122 = .ok (.ireturn, 1) := by decide +kernel
theorem dX5_claimer_123 : decode cX5_claimer 123 = .ok (.bipush (-102), 2) := by decide +kernel
theorem dX5_claimer_125 : decode cX5_claimer 125 = .ok (.ireturn, 1) := by decide +kernel
theorem dX5_as_0 : decode cX5_as 0 = .ok (.aload_n 0, 1) := by decide +kernel
theorem dX5_as_1 : decode cX5_as 1 = .ok (.getfield 19, 3) := by decide +kernel
theorem dX5_as_4 : decode cX5_as 4 = .ok (.iload_n 1, 1) := by decide +kernel
theorem dX5_as_5 : decode cX5_as 5 = .ok (.invokevirtual 92, 3) := by decide +kernel
theorem dX5_as_8 : decode cX5_as 8 = .ok (.ifCond .ne 6, 3) := by decide +kernel
theorem dX5_as_11 : decode cX5_as 11 = .ok (.bipush (-101), 2) := by decide +kernel
theorem dX5_as_13 : decode cX5_as 13 = .ok (.ireturn, 1) := by decide +kernel
theorem dX5_as_14 : decode cX5_as 14 = .ok (.iload_n 2, 1) := by decide +kernel
theorem dX5_as_15 : decode cX5_as 15 = .ok (.iconst 5, 1) := by decide +kernel
theorem dX5_as_16 : decode cX5_as 16 = .ok (.invokestatic 113, 3) := by decide +kernel
theorem dX5_as_19 : decode cX5_as 19 = .ok (.ifCond .ne 6, 3) := by decide +kernel
theorem dX5_as_22 : decode cX5_as 22 = .ok (.bipush (-102), 2) := by decide +kernel
theorem dX5_as_24 : decode cX5_as 24 = .ok (.ireturn, 1) := by decide +kernel
theorem dX5_as_25 : decode cX5_as 25 = .ok (.aload_n 0, 1) := by decide +kernel
theorem dX5_as_26 : decode cX5_as 26 = .ok (.getfield 19, 3) := by decide +kernel
theorem dX5_as_29 : decode cX5_as 29 = .ok (.iload_n 1, 1) := by decide +kernel
theorem dX5_as_30 : decode cX5_as 30 = .ok (.invokevirtual 98, 3) := by decide +kernel
theorem dX5_as_33 : decode cX5_as 33 = .ok (.iload_n 2, 1) := by decide +kernel
theorem dX5_as_34 : decode cX5_as 34 = .ok (.invokestatic 117, 3) := by decide +kernel
theorem dX5_as_37 : decode cX5_as 37 = .ok (.ifCond .eq 7, 3) := by decide +kernel
theorem dX5_as_40 : decode cX5_as 40 = .ok (.iload_n 1, 1) := by decide +kernel
theorem dX5_as_41 : decode cX5_as 41 = .ok (.goto 4, 3) := by decide +kernel
theorem dX5_as_44 : decode cX5_as 44 = .ok (.iconst (-1), 1) := by decide +kernel
theorem dX5_as_45 : decode cX5_as 45 = .ok (.ireturn, 1) := by decide +kernel
theorem dX5_wrong_0 : decode cX5_wrong 0 = .ok (.aload_n 0, 1) := by decide +kernel
theorem dX5_wrong_1 : decode cX5_wrong 1 = .ok (.getfield 19, 3) := by decide +kernel
theorem dX5_wrong_4 : decode cX5_wrong 4 = .ok (.iload_n 1, 1) := by decide +kernel
theorem dX5_wrong_5 : decode cX5_wrong 5 = .ok (.iload_n 2, 1) := by decide +kernel
theorem dX5_wrong_6 : decode cX5_wrong 6 = .ok (.invokevirtual 120, 3) := by decide +kernel
theorem dX5_wrong_9 : decode cX5_wrong 9 = .ok (.ifCond .ne 6, 3) := by decide +kernel
theorem dX5_wrong_12 : decode cX5_wrong 12 = .ok (.bipush (-101), 2) := by decide +kernel
theorem dX5_wrong_14 : decode cX5_wrong 14 = .ok (.ireturn, 1) := by decide +kernel
theorem dX5_wrong_15 : decode cX5_wrong 15 = .ok (.aload_n 0, 1) := by decide +kernel
theorem dX5_wrong_16 : decode cX5_wrong 16 = .ok (.getfield 19, 3) := by decide +kernel
theorem dX5_wrong_19 : decode cX5_wrong 19 = .ok (.iload_n 1, 1) := by decide +kernel
theorem dX5_wrong_20 : decode cX5_wrong 20 = .ok (.iload_n 2, 1) := by decide +kernel
theorem dX5_wrong_21 : decode cX5_wrong 21 = .ok (.invokevirtual 123, 3) := by decide +kernel
theorem dX5_wrong_24 : decode cX5_wrong 24 = .ok (.ireturn, 1) := by decide +kernel
theorem dX5_give_0 : decode cX5_give 0 = .ok (.aload_n 0, 1) := by decide +kernel
theorem dX5_give_1 : decode cX5_give 1 = .ok (.getfield 19, 3) := by decide +kernel
theorem dX5_give_4 : decode cX5_give 4 = .ok (.iload_n 1, 1) := by decide +kernel
theorem dX5_give_5 : decode cX5_give 5 = .ok (.iload_n 2, 1) := by decide +kernel
theorem dX5_give_6 : decode cX5_give 6 = .ok (.invokevirtual 120, 3) := by decide +kernel
theorem dX5_give_9 : decode cX5_give 9 = .ok (.ifCond .ne 6, 3) := by decide +kernel
theorem dX5_give_12 : decode cX5_give 12 = .ok (.bipush (-101), 2) := by decide +kernel
theorem dX5_give_14 : decode cX5_give 14 = .ok (.ireturn, 1) := by decide +kernel
theorem dX5_give_15 : decode cX5_give 15 = .ok (.aload_n 0, 1) := by decide +kernel
theorem dX5_give_16 : decode cX5_give 16 = .ok (.getfield 19, 3) := by decide +kernel
theorem dX5_give_19 : decode cX5_give 19 = .ok (.invokevirtual 73, 3) := by decide +kernel
theorem dX5_give_22 : decode cX5_give 22 = .ok (.astore_n 3, 1) := by decide +kernel
theorem dX5_give_23 : decode cX5_give 23 = .ok (.aload_n 3, 1) := by decide +kernel
theorem dX5_give_24 : decode cX5_give 24 = .ok (.iload_n 1, 1) := by decide +kernel
theorem dX5_give_25 : decode cX5_give 25 = .ok (.invokevirtual 77, 3) := by decide +kernel
theorem dX5_give_28 : decode cX5_give 28 = .ok (.iconst (-1), 1) := by decide +kernel
theorem dX5_give_29 : decode cX5_give 29 = .ok (.if_icmp .ne 12, 3) := by decide +kernel
theorem dX5_give_32 : decode cX5_give 32 = .ok (.aload_n 3, 1) := by decide +kernel
theorem dX5_give_33 : decode cX5_give 33 = .ok (.iload_n 2, 1) := by decide +kernel
theorem dX5_give_34 : decode cX5_give 34 = .ok (.invokevirtual 101, 3) := by decide +kernel
theorem dX5_give_37 : decode cX5_give 37 = .ok (.iconst (-1), 1) := by decide +kernel
theorem dX5_give_38 : decode cX5_give 38 = .ok (.if_icmp .eq 6, 3) := by decide +kernel
theorem dX5_give_41 : decode cX5_give 41 = .ok (.bipush (-103), 2) := by decide +kernel
theorem dX5_give_43 : decode cX5_give 43 = .ok (.ireturn, 1) := by decide +kernel
theorem dX5_give_44 : decode cX5_give 44 = .ok (.aload_n 3, 1) := by decide +kernel
theorem dX5_give_45 : decode cX5_give 45 = .ok (.iload_n 1, 1) := by decide +kernel
theorem dX5_give_46 : decode cX5_give 46 = .ok (.iload_n 2, 1) := by decide +kernel
theorem dX5_give_47 : decode cX5_give 47 = .ok (.invokevirtual 126, 3) := by decide +kernel
theorem dX5_give_50 : decode cX5_give 50 = .ok (.aload_n 0, 1) := by decide +kernel
theorem dX5_give_51 : decode cX5_give 51 = .ok (.getfield 19, 3) := by decide +kernel
theorem dX5_give_54 : decode cX5_give 54 = .ok (.iload_n 1, 1) := by decide +kernel
theorem dX5_give_55 : decode cX5_give 55 = .ok (.iload_n 2, 1) := by decide +kernel
theorem dX5_give_56 : decode cX5_give 56 = .ok (.invokevirtual 123, 3) := by decide +kernel
theorem dX5_give_59 : decode cX5_give 59 = .ok (.ireturn, 1) := by decide +kernel
theorem dX5_back_0 : decode cX5_back 0 = .ok (.aload_n 0, 1) := by decide +kernel
theorem dX5_back_1 : decode cX5_back 1 = .ok (.getfield 19, 3) := by decide +kernel
theorem dX5_back_4 : decode cX5_back 4 = .ok (.iload_n 1, 1) := by decide +kernel
theorem dX5_back_5 : decode cX5_back 5 = .ok (.invokevirtual 66, 3) := by decide +kernel
theorem dX5_back_8 : decode cX5_back 8 = .ok (.ifCond .ne 6, 3) := by decide +kernel
theorem dX5_back_11 : decode cX5_back 11 = .ok (.bipush (-101), 2) := by decide +kernel
theorem dX5_back_13 : decode cX5_back 13 = .ok (.ireturn, 1) := by decide +kernel
theorem dX5_back_14 : decode cX5_back 14 = .ok (.aload_n 0, 1) := by decide +kernel
theorem dX5_back_15 : decode cX5_back 15 = .ok (.getfield 19, 3) := by decide +kernel
theorem dX5_back_18 : decode cX5_back 18 = .ok (.invokevirtual 73, 3) := by decide +kernel
theorem dX5_back_21 : decode cX5_back 21 = .ok (.iload_n 1, 1) := by decide +kernel
theorem dX5_back_22 : decode cX5_back 22 = .ok (.invokevirtual 77, 3) := by decide +kernel
theorem dX5_back_25 : decode cX5_back 25 = .ok (.istore_n 2, 1) := by decide +kernel
theorem dX5_back_26 : decode cX5_back 26 = .ok (.iload_n 2, 1) := by decide +kernel
theorem dX5_back_27 : decode cX5_back 27 = .ok (.iconst (-1), 1) := by decide +kernel
theorem dX5_back_28 : decode cX5_back 28 = .ok (.if_icmp .ne 6, 3) := by decide +kernel
theorem dX5_back_31 : decode cX5_back 31 = .ok (.bipush (-103), 2) := by decide +kernel
theorem dX5_back_33 : decode cX5_back 33 = .ok (.ireturn, 1) := by decide +kernel
theorem dX5_back_34 : decode cX5_back 34 = .ok (.aload_n 0, 1) := by decide +kernel
theorem dX5_back_35 : decode cX5_back 35 = .ok (.getfield 19, 3) := by decide +kernel
theorem dX5_back_38 : decode cX5_back 38 = .ok (.invokevirtual 73, 3) := by decide +kernel
theorem dX5_back_41 : decode cX5_back 41 = .ok (.iload_n 1, 1) := by decide +kernel
theorem dX5_back_42 : decode cX5_back 42 = .ok (.iconst (-1), 1) := by decide +kernel
theorem dX5_back_43 : decode cX5_back 43 = .ok (.invokevirtual 126, 3) := by decide +kernel
theorem dX5_back_46 : decode cX5_back 46 = .ok (.iload_n 2, 1) := by decide +kernel
theorem dX5_back_47 : decode cX5_back 47 = .ok (.ireturn, 1) := by decide +kernel
theorem dX5_remember_0 : decode cX5_remember 0 = .ok (.aload_n 0, 1) := by decide +kernel
theorem dX5_remember_1 : decode cX5_remember 1 = .ok (.getfield 19, 3) := by decide +kernel
theorem dX5_remember_4 : decode cX5_remember 4 = .ok (.iload_n 1, 1) := by decide +kernel
theorem dX5_remember_5 : decode cX5_remember 5 = .ok (.invokevirtual 92, 3) := by decide +kernel
theorem dX5_remember_8 : decode cX5_remember 8 = .ok (.ifCond .ne 6, 3) := by decide +kernel
theorem dX5_remember_11 : decode cX5_remember 11 = .ok (.bipush (-101), 2) := by decide +kernel
theorem dX5_remember_13 : decode cX5_remember 13 = .ok (.ireturn, 1) := by decide +kernel
theorem dX5_remember_14 : decode cX5_remember 14 = .ok (.iload_n 2, 1) := by decide +kernel
theorem dX5_remember_15 : decode cX5_remember 15 = .ok (.iconst 3, 1) := by decide +kernel
theorem dX5_remember_16 : decode cX5_remember 16 = .ok (.invokestatic 113, 3) := by decide +kernel
theorem dX5_remember_19 : decode cX5_remember 19 = .ok (.ifCond .eq 17, 3) := by decide +kernel
theorem dX5_remember_22 : decode cX5_remember 22 = .ok (.iload_n 3, 1) := by decide +kernel
theorem dX5_remember_23 : decode cX5_remember 23 = .ok (.getstatic 130, 3) := by decide +kernel
theorem dX5_remember_26 : decode cX5_remember 26 = .ok (.iload_n 2, 1) := by decide +kernel
theorem dX5_remember_27 : decode cX5_remember 27 = .ok (.invokestatic 134, 3) := by decide +kernel
theorem dX5_remember_30 : decode cX5_remember 30 = .ok (.invokestatic 113, 3) := by decide +kernel
theorem dX5_remember_33 : decode cX5_remember 33 = .ok (.ifCond .ne 6, 3) := by decide +kernel
theorem dX5_remember_36 : decode cX5_remember 36 = .ok (.bipush (-102), 2) := by decide +kernel
theorem dX5_remember_38 : decode cX5_remember 38 = .ok (.ireturn, 1) := by decide +kernel
theorem dX5_remember_39 : decode cX5_remember 39 = .ok (.aload_n 0, 1) := by decide +kernel
theorem dX5_remember_40 : decode cX5_remember 40 = .ok (.getfield 19, 3) := by decide +kernel
theorem dX5_remember_43 : decode cX5_remember 43 = .ok (.invokevirtual 73, 3) := by decide +kernel
theorem dX5_remember_46 : decode cX5_remember 46 = .ok (.iload_n 1, 1) := by decide +kernel
theorem dX5_remember_47 : decode cX5_remember 47 = .ok (.iload_n 2, 1) := by decide +kernel
theorem dX5_remember_48 : decode cX5_remember 48 = .ok (.invokevirtual 95, 3) := by decide +kernel
theorem dX5_remember_51 : decode cX5_remember 51 = .ok (.istore 4, 2) := by decide +kernel
theorem dX5_remember_53 : decode cX5_remember 53 = .ok (.aload_n 0, 1) := by decide +kernel
theorem dX5_remember_54 : decode cX5_remember 54 = .ok (.getfield 19, 3) := by decide +kernel
theorem dX5_remember_57 : decode cX5_remember 57 = .ok (.invokevirtual 73, 3) := by decide +kernel
theorem dX5_remember_60 : decode cX5_remember 60 = .ok (.iload_n 1, 1) := by decide +kernel
theorem dX5_remember_61 : decode cX5_remember 61 = .ok (.iload_n 2, 1) := by decide +kernel
theorem dX5_remember_62 : decode cX5_remember 62 = .ok (.iload_n 3, 1) := by decide +kernel
theorem dX5_remember_63 : decode cX5_remember 63 = .ok (.invokevirtual 138, 3) := by decide +kernel
theorem dX5_remember_66 : decode cX5_remember 66 = .ok (.iload 4, 2) := by decide +kernel
theorem dX5_remember_68 : decode cX5_remember 68 = .ok (.ireturn, 1) := by decide +kernel
theorem dX5_six_0 : decode cX5_six 0 = .ok (.aload_n 0, 1) := by decide +kernel
theorem dX5_six_1 : decode cX5_six 1 = .ok (.getfield 19, 3) := by decide +kernel
theorem dX5_six_4 : decode cX5_six 4 = .ok (.invokevirtual 142, 3) := by decide +kernel
theorem dX5_six_7 : decode cX5_six 7 = .ok (.ifCond .ne 6, 3) := by decide +kernel
theorem dX5_six_10 : decode cX5_six 10 = .ok (.bipush (-103), 2) := by decide +kernel
theorem dX5_six_12 : decode cX5_six 12 = .ok (.ireturn, 1) := by decide +kernel
theorem dX5_six_13 : decode cX5_six 13 = .ok (.aload_n 0, 1) := by decide +kernel
theorem dX5_six_14 : decode cX5_six 14 = .ok (.getfield 19, 3) := by decide +kernel
theorem dX5_six_17 : decode cX5_six 17 = .ok (.invokevirtual 73, 3) := by decide +kernel
theorem dX5_six_20 : decode cX5_six 20 = .ok (.invokevirtual 145, 3) := by decide +kernel
theorem dX5_six_23 : decode cX5_six 23 = .ok (.bipush 99, 2) := by decide +kernel
theorem dX5_six_25 : decode cX5_six 25 = .ok (.if_icmp .lt 6, 3) := by decide +kernel
theorem dX5_six_28 : decode cX5_six 28 = .ok (.bipush (-104), 2) := by decide +kernel
theorem dX5_six_30 : decode cX5_six 30 = .ok (.ireturn, 1) := by decide +kernel
theorem dX5_six_31 : decode cX5_six 31 = .ok (.aload_n 0, 1) := by decide +kernel
theorem dX5_six_32 : decode cX5_six 32 = .ok (.getfield 19, 3) := by decide +kernel
theorem dX5_six_35 : decode cX5_six 35 = .ok (.invokevirtual 148, 3) := by decide +kernel
theorem dX5_six_38 : decode cX5_six 38 = .ok (.istore_n 1, 1) := by decide +kernel
theorem dX5_six_39 : decode cX5_six 39 = .ok (.aload_n 0, 1) := by decide +kernel
theorem dX5_six_40 : decode cX5_six 40 = .ok (.getfield 19, 3) := by decide +kernel
theorem dX5_six_43 : decode cX5_six 43 = .ok (.invokevirtual 63, 3) := by decide +kernel
theorem dX5_six_46 : decode cX5_six 46 = .ok (.iload_n 1, 1) := by decide +kernel
theorem dX5_six_47 : decode cX5_six 47 = .ok (.isub, 1) := by decide +kernel
theorem dX5_six_48 : decode cX5_six 48 = .ok (.istore_n 2, 1) := by decide +kernel
theorem dX5_six_49 : decode cX5_six 49 = .ok (.aload_n 0, 1) := by decide +kernel
theorem dX5_six_50 : decode cX5_six 50 = .ok (.getfield 19, 3) := by decide +kernel
theorem dX5_six_53 : decode cX5_six 53 = .ok (.invokevirtual 73, 3) := by decide +kernel
theorem dX5_six_56 : decode cX5_six 56 = .ok (.iload_n 2, 1) := by decide +kernel
theorem dX5_six_57 : decode cX5_six 57 = .ok (.aload_n 0, 1) := by decide +kernel
theorem dX5_six_58 : decode cX5_six 58 = .ok (.getfield 19, 3) := by decide +kernel
theorem dX5_six_61 : decode cX5_six 61 = .ok (.invokevirtual 151, 3) := by decide +kernel
theorem dX5_six_64 : decode cX5_six 64 = .ok (.iload_n 1, 1) := by decide +kernel
theorem dX5_six_65 : decode cX5_six 65 = .ok (.isub, 1) := by decide +kernel
theorem dX5_six_66 : decode cX5_six 66 = .ok (.invokevirtual 154, 3) := by decide +kernel
theorem dX5_six_69 : decode cX5_six 69 = .ok (.iload_n 2, 1) := by decide +kernel
theorem dX5_six_70 : decode cX5_six 70 = .ok (.ireturn, 1) := by decide +kernel
theorem dX5_match_0 : decode cX5_match 0 = .ok (.iload_n 1, 1) := by decide +kernel
theorem dX5_match_1 : decode cX5_match 1 = .ok (.invokestatic 157, 3) := by decide +kernel
theorem dX5_match_4 : decode cX5_match 4 = .ok (.ifCond .ne 6, 3) := by decide +kernel
theorem dX5_match_7 : decode cX5_match 7 = .ok (.bipush (-102), 2) := by decide +kernel
theorem dX5_match_9 : decode cX5_match 9 = .ok (.ireturn, 1) := by decide +kernel
theorem dX5_match_10 : decode cX5_match 10 = .ok (.aload_n 0, 1) := by decide +kernel
theorem dX5_match_11 : decode cX5_match 11 = .ok (.getfield 19, 3) := by decide +kernel
theorem dX5_match_14 : decode cX5_match 14 = .ok (.invokevirtual 142, 3) := by decide +kernel
theorem dX5_match_17 : decode cX5_match 17 = .ok (.ifCond .ne 6, 3) := by decide +kernel
theorem dX5_match_20 : decode cX5_match 20 = .ok (.bipush (-103), 2) := by decide +kernel
theorem dX5_match_22 : decode cX5_match 22 = .ok (.ireturn, 1) := by decide +kernel
theorem dX5_match_23 : decode cX5_match 23 = .ok (.aload_n 0, 1) := by decide +kernel
theorem dX5_match_24 : decode cX5_match 24 = .ok (.getfield 26, 3) := by decide +kernel
theorem dX5_match_27 : decode cX5_match 27 = .ok (.aload_n 0, 1) := by decide +kernel
theorem dX5_match_28 : decode cX5_match 28 = .ok (.getfield 19, 3) := by decide +kernel
theorem dX5_match_31 : decode cX5_match 31 = .ok (.invokevirtual 160, 3) := by decide +kernel
theorem dX5_match_34 : decode cX5_match 34 = .ok (.aload_n 0, 1) := by decide +kernel
theorem dX5_match_35 : decode cX5_match 35 = .ok (.getfield 26, 3) := by decide +kernel
theorem dX5_match_38 : decode cX5_match 38 = .ok (.iload_n 1, 1) := by decide +kernel
theorem dX5_match_39 : decode cX5_match 39 = .ok (.invokevirtual 164, 3) := by decide +kernel
theorem dX5_match_42 : decode cX5_match 42 = .ok (.ireturn, 1) := by decide +kernel
theorem dX5_see_0 : decode cX5_see 0 = .ok (.aload_n 0, 1) := by decide +kernel
theorem dX5_see_1 : decode cX5_see 1 = .ok (.getfield 19, 3) := by decide +kernel
theorem dX5_see_4 : decode cX5_see 4 = .ok (.iload_n 1, 1) := by decide +kernel
theorem dX5_see_5 : decode cX5_see 5 = .ok (.iload_n 2, 1) := by decide +kernel
theorem dX5_see_6 : decode cX5_see 6 = .ok (.invokevirtual 120, 3) := by decide +kernel
theorem dX5_see_9 : decode cX5_see 9 = .ok (.ifCond .ne 6, 3) := by decide +kernel
theorem dX5_see_12 : decode cX5_see 12 = .ok (.bipush (-101), 2) := by decide +kernel
theorem dX5_see_14 : decode cX5_see 14 = .ok (.ireturn, 1) := by decide +kernel
theorem dX5_see_15 : decode cX5_see 15 = .ok (.aload_n 0, 1) := by decide +kernel
theorem dX5_see_16 : decode cX5_see 16 = .ok (.getfield 19, 3) := by decide +kernel
theorem dX5_see_19 : decode cX5_see 19 = .ok (.invokevirtual 73, 3) := by decide +kernel
theorem dX5_see_22 : decode cX5_see 22 = .ok (.iload_n 1, 1) := by decide +kernel
theorem dX5_see_23 : decode cX5_see 23 = .ok (.iload_n 2, 1) := by decide +kernel
theorem dX5_see_24 : decode cX5_see 24 = .ok (.iload_n 3, 1) := by decide +kernel
theorem dX5_see_25 : decode cX5_see 25 = .ok (.invokevirtual 167, 3) := by decide +kernel
theorem dX5_see_28 : decode cX5_see 28 = .ok (.ifCond .ne 6, 3) := by decide +kernel
theorem dX5_see_31 : decode cX5_see 31 = .ok (.bipush (-104), 2) := by decide +kernel
theorem dX5_see_33 : decode cX5_see 33 = .ok (.ireturn, 1) := by decide +kernel
theorem dX5_see_34 : decode cX5_see 34 = .ok (.aload_n 0, 1) := by decide +kernel
theorem dX5_see_35 : decode cX5_see 35 = .ok (.getfield 19, 3) := by decide +kernel
theorem dX5_see_38 : decode cX5_see 38 = .ok (.invokevirtual 73, 3) := by decide +kernel
theorem dX5_see_41 : decode cX5_see 41 = .ok (.invokevirtual 171, 3) := by decide +kernel
theorem dX5_see_44 : decode cX5_see 44 = .ok (.ireturn, 1) := by decide +kernel
theorem dX5_forget_0 : decode cX5_forget 0 = .ok (.aload_n 0, 1) := by decide +kernel
theorem dX5_forget_1 : decode cX5_forget 1 = .ok (.getfield 19, 3) := by decide +kernel
theorem dX5_forget_4 : decode cX5_forget 4 = .ok (.invokevirtual 73, 3) := by decide +kernel
theorem dX5_forget_7 : decode cX5_forget 7 = .ok (.invokevirtual 171, 3) := by decide +kernel
theorem dX5_forget_10 : decode cX5_forget 10 = .ok (.istore_n 1, 1) := by decide +kernel
theorem dX5_forget_11 : decode cX5_forget 11 = .ok (.aload_n 0, 1) := by decide +kernel
theorem dX5_forget_12 : decode cX5_forget 12 = .ok (.getfield 19, 3) := by decide +kernel
theorem dX5_forget_15 : decode cX5_forget 15 = .ok (.invokevirtual 73, 3) := by decide +kernel
theorem dX5_forget_18 : decode cX5_forget 18 = .ok (.invokevirtual 174, 3) := by decide +kernel
theorem dX5_forget_21 : decode cX5_forget 21 = .ok (.iload_n 1, 1) := by decide +kernel
theorem dX5_forget_22 : decode cX5_forget 22 = .ok (.ireturn, 1) := by decide +kernel
theorem dX5_mondays_0 : decode cX5_mondays 0 = .ok (.iload_n 1, 1) := by decide +kernel
theorem dX5_mondays_1 : decode cX5_mondays 1 = .ok (.iconst 1, 1) := by decide +kernel
theorem dX5_mondays_2 : decode cX5_mondays 2 = .ok (.if_icmp .lt 22, 3) := by decide +kernel
theorem dX5_mondays_5 : decode cX5_mondays 5 = .ok (.iload_n 1, 1) := by decide +kernel
theorem dX5_mondays_6 : decode cX5_mondays 6 = .ok (.bipush 60, 2) := by decide +kernel
theorem dX5_mondays_8 : decode cX5_mondays 8 = .ok (.if_icmp .gt 16, 3) := by decide +kernel
theorem dX5_mondays_11 : decode cX5_mondays 11 = .ok (.iload_n 2, 1) := by decide +kernel
theorem dX5_mondays_12 : decode cX5_mondays 12 = .ok (.ifCond .lt 12, 3) := by decide +kernel
theorem dX5_mondays_15 : decode cX5_mondays 15 = .ok (.iload_n 3, 1) := by decide +kernel
theorem dX5_mondays_16 : decode cX5_mondays 16 = .ok (.ifCond .lt 8, 3) := by decide +kernel
theorem dX5_mondays_19 : decode cX5_mondays 19 = .ok (.iload_n 3, 1) := by decide +kernel
theorem dX5_mondays_20 : decode cX5_mondays 20 = .ok (.iconst 2, 1) := by decide +kernel
theorem dX5_mondays_21 : decode cX5_mondays 21 = .ok (.if_icmp .le 6, 3) := by decide +kernel
theorem dX5_mondays_24 : decode cX5_mondays 24 = .ok (.bipush (-102), 2) := by decide +kernel
theorem dX5_mondays_26 : decode cX5_mondays 26 = .ok (.ireturn, 1) := by decide +kernel
theorem dX5_mondays_27 : decode cX5_mondays 27 = .ok (.aload_n 0, 1) := by decide +kernel
theorem dX5_mondays_28 : decode cX5_mondays 28 = .ok (.getfield 19, 3) := by decide +kernel
theorem dX5_mondays_31 : decode cX5_mondays 31 = .ok (.invokevirtual 142, 3) := by decide +kernel
theorem dX5_mondays_34 : decode cX5_mondays 34 = .ok (.ifCond .ne 6, 3) := by decide +kernel
theorem dX5_mondays_37 : decode cX5_mondays 37 = .ok (.bipush (-103), 2) := by decide +kernel
theorem dX5_mondays_39 : decode cX5_mondays 39 = .ok (.ireturn, 1) := by decide +kernel
theorem dX5_mondays_40 : decode cX5_mondays 40 = .ok (.aload_n 0, 1) := by decide +kernel
theorem dX5_mondays_41 : decode cX5_mondays 41 = .ok (.getfield 33, 3) := by decide +kernel
theorem dX5_mondays_44 : decode cX5_mondays 44 = .ok (.aload_n 0, 1) := by decide +kernel
theorem dX5_mondays_45 : decode cX5_mondays 45 = .ok (.getfield 19, 3) := by decide +kernel
theorem dX5_mondays_48 : decode cX5_mondays 48 = .ok (.iload_n 1, 1) := by decide +kernel
theorem dX5_mondays_49 : decode cX5_mondays 49 = .ok (.iload_n 2, 1) := by decide +kernel
theorem dX5_mondays_50 : decode cX5_mondays 50 = .ok (.invokevirtual 177, 3) := by decide +kernel
theorem dX5_mondays_53 : decode cX5_mondays 53 = .ok (.aload_n 0, 1) := by decide +kernel
theorem dX5_mondays_54 : decode cX5_mondays 54 = .ok (.getfield 33, 3) := by decide +kernel
theorem dX5_mondays_57 : decode cX5_mondays 57 = .ok (.iload_n 3, 1) := by decide +kernel
theorem dX5_mondays_58 : decode cX5_mondays 58 = .ok (.invokevirtual 181, 3) := by decide +kernel
theorem dX5_mondays_61 : decode cX5_mondays 61 = .ok (.ireturn, 1) := by decide +kernel
theorem dX5_image_0 : decode cX5_image 0 = .ok (.aload_n 0, 1) := by decide +kernel
theorem dX5_image_1 : decode cX5_image 1 = .ok (.getfield 19, 3) := by decide +kernel
theorem dX5_image_4 : decode cX5_image 4 = .ok (.invokevirtual 142, 3) := by decide +kernel
theorem dX5_image_7 : decode cX5_image 7 = .ok (.ifCond .ne 6, 3) := by decide +kernel
theorem dX5_image_10 : decode cX5_image 10 = .ok (.bipush (-103), 2) := by decide +kernel
theorem dX5_image_12 : decode cX5_image 12 = .ok (.ireturn, 1) := by decide +kernel
theorem dX5_image_13 : decode cX5_image 13 = .ok (.aload_n 0, 1) := by decide +kernel
theorem dX5_image_14 : decode cX5_image 14 = .ok (.getfield 19, 3) := by decide +kernel
theorem dX5_image_17 : decode cX5_image 17 = .ok (.invokevirtual 182, 3) := by decide +kernel
theorem dX5_image_20 : decode cX5_image 20 = .ok (.aload_n 0, 1) := by decide +kernel
theorem dX5_image_21 : decode cX5_image 21 = .ok (.getfield 19, 3) := by decide +kernel
theorem dX5_image_24 : decode cX5_image 24 = .ok (.invokevirtual 73, 3) := by decide +kernel
theorem dX5_image_27 : decode cX5_image 27 = .ok (.invokevirtual 145, 3) := by decide +kernel
theorem dX5_image_30 : decode cX5_image 30 = .ok (.ireturn, 1) := by decide +kernel
theorem dX5_restore_0 : decode cX5_restore 0 = .ok (.aload_n 0, 1) := by decide +kernel
theorem dX5_restore_1 : decode cX5_restore 1 = .ok (.getfield 19, 3) := by decide +kernel
theorem dX5_restore_4 : decode cX5_restore 4 = .ok (.invokevirtual 185, 3) := by decide +kernel
theorem dX5_restore_7 : decode cX5_restore 7 = .ok (.ifCond .ne 6, 3) := by decide +kernel
theorem dX5_restore_10 : decode cX5_restore 10 = .ok (.bipush (-103), 2) := by decide +kernel
theorem dX5_restore_12 : decode cX5_restore 12 = .ok (.ireturn, 1) := by decide +kernel
theorem dX5_restore_13 : decode cX5_restore 13 = .ok (.aload_n 0, 1) := by decide +kernel
theorem dX5_restore_14 : decode cX5_restore 14 = .ok (.getfield 19, 3) := by decide +kernel
theorem dX5_restore_17 : decode cX5_restore 17 = .ok (.invokevirtual 188, 3) := by decide +kernel
theorem dX5_restore_20 : decode cX5_restore 20 = .ok (.aload_n 0, 1) := by decide +kernel
theorem dX5_restore_21 : decode cX5_restore 21 = .ok (.getfield 19, 3) := by decide +kernel
theorem dX5_restore_24 : decode cX5_restore 24 = .ok (.invokevirtual 73, 3) := by decide +kernel
theorem dX5_restore_27 : decode cX5_restore 27 = .ok (.invokevirtual 145, 3) := by decide +kernel
theorem dX5_restore_30 : decode cX5_restore 30 = .ok (.ireturn, 1) := by decide +kernel
theorem dX5_count_0 : decode cX5_count 0 = .ok (.iload_n 1, 1) := by decide +kernel
theorem dX5_count_1 : decode cX5_count 1 = .ok (.tableswitch 156 0 10 #[59, 67, 75, 83, 91, 99, 110, 121, 132, 143, 151], 59) := by decide +kernel
theorem dX5_count_60 : decode cX5_count 60 = .ok (.aload_n 0, 1) := by decide +kernel
theorem dX5_count_61 : decode cX5_count 61 = .ok (.getfield 19, 3) := by decide +kernel
theorem dX5_count_64 : decode cX5_count 64 = .ok (.invokevirtual 63, 3) := by decide +kernel
theorem dX5_count_67 : decode cX5_count 67 = .ok (.ireturn, 1) := by decide +kernel
theorem dX5_count_68 : decode cX5_count 68 = .ok (.aload_n 0, 1) := by decide +kernel
theorem dX5_count_69 : decode cX5_count 69 = .ok (.getfield 19, 3) := by decide +kernel
theorem dX5_count_72 : decode cX5_count 72 = .ok (.invokevirtual 151, 3) := by decide +kernel
theorem dX5_count_75 : decode cX5_count 75 = .ok (.ireturn, 1) := by decide +kernel
theorem dX5_count_76 : decode cX5_count 76 = .ok (.aload_n 0, 1) := by decide +kernel
theorem dX5_count_77 : decode cX5_count 77 = .ok (.getfield 19, 3) := by decide +kernel
theorem dX5_count_80 : decode cX5_count 80 = .ok (.invokevirtual 148, 3) := by decide +kernel
theorem dX5_count_83 : decode cX5_count 83 = .ok (.ireturn, 1) := by decide +kernel
theorem dX5_count_84 : decode cX5_count 84 = .ok (.aload_n 0, 1) := by decide +kernel
theorem dX5_count_85 : decode cX5_count 85 = .ok (.getfield 19, 3) := by decide +kernel
theorem dX5_count_88 : decode cX5_count 88 = .ok (.invokevirtual 191, 3) := by decide +kernel
theorem dX5_count_91 : decode cX5_count 91 = .ok (.ireturn, 1) := by decide +kernel
theorem dX5_count_92 : decode cX5_count 92 = .ok (.aload_n 0, 1) := by decide +kernel
theorem dX5_count_93 : decode cX5_count 93 = .ok (.getfield 19, 3) := by decide +kernel
theorem dX5_count_96 : decode cX5_count 96 = .ok (.invokevirtual 194, 3) := by decide +kernel
theorem dX5_count_99 : decode cX5_count 99 = .ok (.ireturn, 1) := by decide +kernel
theorem dX5_count_100 : decode cX5_count 100 = .ok (.aload_n 0, 1) := by decide +kernel
theorem dX5_count_101 : decode cX5_count 101 = .ok (.getfield 19, 3) := by decide +kernel
theorem dX5_count_104 : decode cX5_count 104 = .ok (.invokevirtual 73, 3) := by decide +kernel
theorem dX5_count_107 : decode cX5_count 107 = .ok (.invokevirtual 145, 3) := by decide +kernel
theorem dX5_count_110 : decode cX5_count 110 = .ok (.ireturn, 1) := by decide +kernel
theorem dX5_count_111 : decode cX5_count 111 = .ok (.aload_n 0, 1) := by decide +kernel
theorem dX5_count_112 : decode cX5_count 112 = .ok (.getfield 19, 3) := by decide +kernel
theorem dX5_count_115 : decode cX5_count 115 = .ok (.invokevirtual 73, 3) := by decide +kernel
theorem dX5_count_118 : decode cX5_count 118 = .ok (.invokevirtual 197, 3) := by decide +kernel
theorem dX5_count_121 : decode cX5_count 121 = .ok (.ireturn, 1) := by decide +kernel
theorem dX5_count_122 : decode cX5_count 122 = .ok (.aload_n 0, 1) := by decide +kernel
theorem dX5_count_123 : decode cX5_count 123 = .ok (.getfield 19, 3) := by decide +kernel
theorem dX5_count_126 : decode cX5_count 126 = .ok (.invokevirtual 73, 3) := by decide +kernel
theorem dX5_count_129 : decode cX5_count 129 = .ok (.invokevirtual 200, 3) := by decide +kernel
theorem dX5_count_132 : decode cX5_count 132 = .ok (.ireturn, 1) := by decide +kernel
theorem dX5_count_133 : decode cX5_count 133 = .ok (.aload_n 0, 1) := by decide +kernel
theorem dX5_count_134 : decode cX5_count 134 = .ok (.getfield 19, 3) := by decide +kernel
theorem dX5_count_137 : decode cX5_count 137 = .ok (.invokevirtual 73, 3) := by decide +kernel
theorem dX5_count_140 : decode cX5_count 140 = .ok (.invokevirtual 171, 3) := by decide +kernel
theorem dX5_count_143 : decode cX5_count 143 = .ok (.ireturn, 1) := by decide +kernel
theorem dX5_count_144 : decode cX5_count 144 = .ok (.aload_n 0, 1) := by decide +kernel
theorem dX5_count_145 : decode cX5_count 145 = .ok (.getfield 12, 3) := by decide +kernel
theorem dX5_count_148 : decode cX5_count 148 = .ok (.invokevirtual 45, 3) := by decide +kernel
theorem dX5_count_151 : decode cX5_count 151 = .ok (.ireturn, 1) := by decide +kernel
theorem dX5_count_152 : decode cX5_count 152 = .ok (.aload_n 0, 1) := by decide +kernel
theorem dX5_count_153 : decode cX5_count 153 = .ok (.getfield 37, 3) := by decide +kernel
theorem dX5_count_156 : decode cX5_count 156 = .ok (.ireturn, 1) := by decide +kernel
theorem dX5_count_157 : decode cX5_count 157 = .ok (.bipush (-102), 2) := by decide +kernel
theorem dX5_count_159 : decode cX5_count 159 = .ok (.ireturn, 1) := by decide +kernel
theorem dX5_digest_0 : decode cX5_digest 0 = .ok (.ldc2_w 203, 3) := by decide +kernel
theorem dX5_digest_3 : decode cX5_digest 3 = .ok (.lstore_n 1, 1) := by decide +kernel
theorem dX5_digest_4 : decode cX5_digest 4 = .ok (.iconst 0, 1) := by decide +kernel
theorem dX5_digest_5 : decode cX5_digest 5 = .ok (.istore_n 3, 1) := by decide +kernel
theorem dX5_digest_6 : decode cX5_digest 6 = .ok (.iload_n 3, 1) := by decide +kernel
theorem dX5_digest_7 : decode cX5_digest 7 = .ok (.aload_n 0, 1) := by decide +kernel
theorem dX5_digest_8 : decode cX5_digest 8 = .ok (.getfield 19, 3) := by decide +kernel
theorem dX5_digest_11 : decode cX5_digest 11 = .ok (.invokevirtual 63, 3) := by decide +kernel
theorem dX5_digest_14 : decode cX5_digest 14 = .ok (.if_icmp .ge 37, 3) := by decide +kernel
theorem dX5_digest_17 : decode cX5_digest 17 = .ok (.iconst 0, 1) := by decide +kernel
theorem dX5_digest_18 : decode cX5_digest 18 = .ok (.istore 4, 2) := by decide +kernel
theorem dX5_digest_20 : decode cX5_digest 20 = .ok (.iload 4, 2) := by decide +kernel
theorem dX5_digest_22 : decode cX5_digest 22 = .ok (.bipush 6, 2) := by decide +kernel
theorem dX5_digest_24 : decode cX5_digest 24 = .ok (.if_icmp .gt 21, 3) := by decide +kernel
theorem dX5_digest_27 : decode cX5_digest 27 = .ok (.lload_n 1, 1) := by decide +kernel
theorem dX5_digest_28 : decode cX5_digest 28 = .ok (.aload_n 0, 1) := by decide +kernel
theorem dX5_digest_29 : decode cX5_digest 29 = .ok (.iload_n 3, 1) := by decide +kernel
theorem dX5_digest_30 : decode cX5_digest 30 = .ok (.iload 4, 2) := by decide +kernel
theorem dX5_digest_32 : decode cX5_digest 32 = .ok (.invokevirtual 205, 3) := by decide +kernel
theorem dX5_digest_35 : decode cX5_digest 35 = .ok (.invokestatic 208, 3) := by decide +kernel
theorem dX5_digest_38 : decode cX5_digest 38 = .ok (.lstore_n 1, 1) := by decide +kernel
theorem dX5_digest_39 : decode cX5_digest 39 = .ok (.iinc 4 1, 3) := by decide +kernel
theorem dX5_digest_42 : decode cX5_digest 42 = .ok (.goto (-22), 3) := by decide +kernel
theorem dX5_digest_45 : decode cX5_digest 45 = .ok (.iinc 3 1, 3) := by decide +kernel
theorem dX5_digest_48 : decode cX5_digest 48 = .ok (.goto (-42), 3) := by decide +kernel
theorem dX5_digest_51 : decode cX5_digest 51 = .ok (.iconst 0, 1) := by decide +kernel
theorem dX5_digest_52 : decode cX5_digest 52 = .ok (.istore_n 3, 1) := by decide +kernel
theorem dX5_digest_53 : decode cX5_digest 53 = .ok (.iload_n 3, 1) := by decide +kernel
theorem dX5_digest_54 : decode cX5_digest 54 = .ok (.aload_n 0, 1) := by decide +kernel
theorem dX5_digest_55 : decode cX5_digest 55 = .ok (.getfield 19, 3) := by decide +kernel
theorem dX5_digest_58 : decode cX5_digest 58 = .ok (.invokevirtual 151, 3) := by decide +kernel
theorem dX5_digest_61 : decode cX5_digest 61 = .ok (.if_icmp .ge 73, 3) := by decide +kernel
theorem dX5_digest_64 : decode cX5_digest 64 = .ok (.iconst 0, 1) := by decide +kernel
theorem dX5_digest_65 : decode cX5_digest 65 = .ok (.istore 4, 2) := by decide +kernel
theorem dX5_digest_67 : decode cX5_digest 67 = .ok (.iload 4, 2) := by decide +kernel
theorem dX5_digest_69 : decode cX5_digest 69 = .ok (.bipush 6, 2) := by decide +kernel
theorem dX5_digest_71 : decode cX5_digest 71 = .ok (.if_icmp .gt 21, 3) := by decide +kernel
theorem dX5_digest_74 : decode cX5_digest 74 = .ok (.lload_n 1, 1) := by decide +kernel
theorem dX5_digest_75 : decode cX5_digest 75 = .ok (.aload_n 0, 1) := by decide +kernel
theorem dX5_digest_76 : decode cX5_digest 76 = .ok (.iload_n 3, 1) := by decide +kernel
theorem dX5_digest_77 : decode cX5_digest 77 = .ok (.iload 4, 2) := by decide +kernel
theorem dX5_digest_79 : decode cX5_digest 79 = .ok (.invokevirtual 212, 3) := by decide +kernel
theorem dX5_digest_82 : decode cX5_digest 82 = .ok (.invokestatic 208, 3) := by decide +kernel
theorem dX5_digest_85 : decode cX5_digest 85 = .ok (.lstore_n 1, 1) := by decide +kernel
theorem dX5_digest_86 : decode cX5_digest 86 = .ok (.iinc 4 1, 3) := by decide +kernel
theorem dX5_digest_89 : decode cX5_digest 89 = .ok (.goto (-22), 3) := by decide +kernel
theorem dX5_digest_92 : decode cX5_digest 92 = .ok (.iconst 0, 1) := by decide +kernel
theorem dX5_digest_93 : decode cX5_digest 93 = .ok (.istore 4, 2) := by decide +kernel
theorem dX5_digest_95 : decode cX5_digest 95 = .ok (.iload 4, 2) := by decide +kernel
theorem dX5_digest_97 : decode cX5_digest 97 = .ok (.aload_n 0, 1) := by decide +kernel
theorem dX5_digest_98 : decode cX5_digest 98 = .ok (.getfield 19, 3) := by decide +kernel
theorem dX5_digest_101 : decode cX5_digest 101 = .ok (.invokevirtual 63, 3) := by decide +kernel
theorem dX5_digest_104 : decode cX5_digest 104 = .ok (.if_icmp .ge 24, 3) := by decide +kernel
theorem dX5_digest_107 : decode cX5_digest 107 = .ok (.lload_n 1, 1) := by decide +kernel
theorem dX5_digest_108 : decode cX5_digest 108 = .ok (.aload_n 0, 1) := by decide +kernel
theorem dX5_digest_109 : decode cX5_digest 109 = .ok (.getfield 19, 3) := by decide +kernel
theorem dX5_digest_112 : decode cX5_digest 112 = .ok (.iload 4, 2) := by decide +kernel
theorem dX5_digest_114 : decode cX5_digest 114 = .ok (.iload_n 3, 1) := by decide +kernel
theorem dX5_digest_115 : decode cX5_digest 115 = .ok (.invokevirtual 123, 3) := by decide +kernel
theorem dX5_digest_118 : decode cX5_digest 118 = .ok (.invokestatic 208, 3) := by decide +kernel
theorem dX5_digest_121 : decode cX5_digest 121 = .ok (.lstore_n 1, 1) := by decide +kernel
theorem dX5_digest_122 : decode cX5_digest 122 = .ok (.iinc 4 1, 3) := by decide +kernel
theorem dX5_digest_125 : decode cX5_digest 125 = .ok (.goto (-30), 3) := by decide +kernel
theorem dX5_digest_128 : decode cX5_digest 128 = .ok (.iinc 3 1, 3) := by decide +kernel
theorem dX5_digest_131 : decode cX5_digest 131 = .ok (.goto (-78), 3) := by decide +kernel
theorem dX5_digest_134 : decode cX5_digest 134 = .ok (.aload_n 0, 1) := by decide +kernel
theorem dX5_digest_135 : decode cX5_digest 135 = .ok (.getfield 19, 3) := by decide +kernel
theorem dX5_digest_138 : decode cX5_digest 138 = .ok (.invokevirtual 142, 3) := by decide +kernel
theorem dX5_digest_141 : decode cX5_digest 141 = .ok (.ifCond .eq 48, 3) := by decide +kernel
theorem dX5_digest_144 : decode cX5_digest 144 = .ok (.aload_n 0, 1) := by decide +kernel
theorem dX5_digest_145 : decode cX5_digest 145 = .ok (.getfield 26, 3) := by decide +kernel
theorem dX5_digest_148 : decode cX5_digest 148 = .ok (.aload_n 0, 1) := by decide +kernel
theorem dX5_digest_149 : decode cX5_digest 149 = .ok (.getfield 19, 3) := by decide +kernel
theorem dX5_digest_152 : decode cX5_digest 152 = .ok (.invokevirtual 160, 3) := by decide +kernel
theorem dX5_digest_155 : decode cX5_digest 155 = .ok (.iconst 0, 1) := by decide +kernel
theorem dX5_digest_156 : decode cX5_digest 156 = .ok (.istore_n 3, 1) := by decide +kernel
theorem dX5_digest_157 : decode cX5_digest 157 = .ok (.iload_n 3, 1) := by decide +kernel
theorem dX5_digest_158 : decode cX5_digest 158 = .ok (.bipush 12, 2) := by decide +kernel
theorem dX5_digest_160 : decode cX5_digest 160 = .ok (.if_icmp .gt 29, 3) := by decide +kernel
theorem dX5_digest_163 : decode cX5_digest 163 = .ok (.iload_n 3, 1) := by decide +kernel
theorem dX5_digest_164 : decode cX5_digest 164 = .ok (.invokestatic 157, 3) := by decide +kernel
theorem dX5_digest_167 : decode cX5_digest 167 = .ok (.ifCond .eq 16, 3) := by decide +kernel
theorem dX5_digest_170 : decode cX5_digest 170 = .ok (.lload_n 1, 1) := by decide +kernel
theorem dX5_digest_171 : decode cX5_digest 171 = .ok (.aload_n 0, 1) := by decide +kernel
theorem dX5_digest_172 : decode cX5_digest 172 = .ok (.getfield 26, 3) := by decide +kernel
theorem dX5_digest_175 : decode cX5_digest 175 = .ok (.iload_n 3, 1) := by decide +kernel
theorem dX5_digest_176 : decode cX5_digest 176 = .ok (.invokevirtual 164, 3) := by decide +kernel
theorem dX5_digest_179 : decode cX5_digest 179 = .ok (.invokestatic 208, 3) := by decide +kernel
theorem dX5_digest_182 : decode cX5_digest 182 = .ok (.lstore_n 1, 1) := by decide +kernel
theorem dX5_digest_183 : decode cX5_digest 183 = .ok (.iinc 3 1, 3) := by decide +kernel
theorem dX5_digest_186 : decode cX5_digest 186 = .ok (.goto (-29), 3) := by decide +kernel
theorem dX5_digest_189 : decode cX5_digest 189 = .ok (.iconst 0, 1) := by decide +kernel
theorem dX5_digest_190 : decode cX5_digest 190 = .ok (.istore_n 3, 1) := by decide +kernel
theorem dX5_digest_191 : decode cX5_digest 191 = .ok (.iload_n 3, 1) := by decide +kernel
theorem dX5_digest_192 : decode cX5_digest 192 = .ok (.aload_n 0, 1) := by decide +kernel
theorem dX5_digest_193 : decode cX5_digest 193 = .ok (.getfield 12, 3) := by decide +kernel
theorem dX5_digest_196 : decode cX5_digest 196 = .ok (.invokevirtual 45, 3) := by decide +kernel
theorem dX5_digest_199 : decode cX5_digest 199 = .ok (.if_icmp .ge 22, 3) := by decide +kernel
theorem dX5_digest_202 : decode cX5_digest 202 = .ok (.lload_n 1, 1) := by decide +kernel
theorem dX5_digest_203 : decode cX5_digest 203 = .ok (.aload_n 0, 1) := by decide +kernel
theorem dX5_digest_204 : decode cX5_digest 204 = .ok (.getfield 12, 3) := by decide +kernel
theorem dX5_digest_207 : decode cX5_digest 207 = .ok (.iload_n 3, 1) := by decide +kernel
theorem dX5_digest_208 : decode cX5_digest 208 = .ok (.invokevirtual 215, 3) := by decide +kernel
theorem dX5_digest_211 : decode cX5_digest 211 = .ok (.invokestatic 208, 3) := by decide +kernel
theorem dX5_digest_214 : decode cX5_digest 214 = .ok (.lstore_n 1, 1) := by decide +kernel
theorem dX5_digest_215 : decode cX5_digest 215 = .ok (.iinc 3 1, 3) := by decide +kernel
theorem dX5_digest_218 : decode cX5_digest 218 = .ok (.goto (-27), 3) := by decide +kernel
theorem dX5_digest_221 : decode cX5_digest 221 = .ok (.iconst 0, 1) := by decide +kernel
theorem dX5_digest_222 : decode cX5_digest 222 = .ok (.istore_n 3, 1) := by decide +kernel
theorem dX5_digest_223 : decode cX5_digest 223 = .ok (.iload_n 3, 1) := by decide +kernel
theorem dX5_digest_224 : decode cX5_digest 224 = .ok (.bipush 10, 2) := by decide +kernel
theorem dX5_digest_226 : decode cX5_digest 226 = .ok (.if_icmp .gt 19, 3) := by decide +kernel
theorem dX5_digest_229 : decode cX5_digest 229 = .ok (.lload_n 1, 1) := by decide +kernel
theorem dX5_digest_230 : decode cX5_digest 230 = .ok (.aload_n 0, 1) := by decide +kernel
theorem dX5_digest_231 : decode cX5_digest 231 = .ok (.iload_n 3, 1) := by decide +kernel
theorem dX5_digest_232 : decode cX5_digest 232 = .ok (.invokevirtual 218, 3) := by decide +kernel
theorem dX5_digest_235 : decode cX5_digest 235 = .ok (.invokestatic 208, 3) := by decide +kernel
theorem dX5_digest_238 : decode cX5_digest 238 = .ok (.lstore_n 1, 1) := by decide +kernel
theorem dX5_digest_239 : decode cX5_digest 239 = .ok (.iinc 3 1, 3) := by decide +kernel
theorem dX5_digest_242 : decode cX5_digest 242 = .ok (.goto (-19), 3) := by decide +kernel
theorem dX5_digest_245 : decode cX5_digest 245 = .ok (.lload_n 1, 1) := by decide +kernel
theorem dX5_digest_246 : decode cX5_digest 246 = .ok (.lreturn, 1) := by decide +kernel
theorem dX5_mixed_0 : decode cX5_mixed 0 = .ok (.ldc2_w 221, 3) := by decide +kernel
theorem dX5_mixed_3 : decode cX5_mixed 3 = .ok (.lload_n 0, 1) := by decide +kernel
theorem dX5_mixed_4 : decode cX5_mixed 4 = .ok (.lmul, 1) := by decide +kernel
theorem dX5_mixed_5 : decode cX5_mixed 5 = .ok (.iload_n 2, 1) := by decide +kernel
theorem dX5_mixed_6 : decode cX5_mixed 6 = .ok (.i2l, 1) := by decide +kernel
theorem dX5_mixed_7 : decode cX5_mixed 7 = .ok (.ladd, 1) := by decide +kernel
theorem dX5_mixed_8 : decode cX5_mixed 8 = .ok (.lreturn, 1) := by decide +kernel
theorem dX5_isMatchQuestion_0 : decode cX5_isMatchQuestion 0 = .ok (.iload_n 0, 1) := by decide +kernel
theorem dX5_isMatchQuestion_1 : decode cX5_isMatchQuestion 1 = .ok (.ifCond .eq 20, 3) := by decide +kernel
theorem dX5_isMatchQuestion_4 : decode cX5_isMatchQuestion 4 = .ok (.iload_n 0, 1) := by decide +kernel
theorem dX5_isMatchQuestion_5 : decode cX5_isMatchQuestion 5 = .ok (.iconst 1, 1) := by decide +kernel
theorem dX5_isMatchQuestion_6 : decode cX5_isMatchQuestion 6 = .ok (.if_icmp .eq 15, 3) := by decide +kernel
theorem dX5_isMatchQuestion_9 : decode cX5_isMatchQuestion 9 = .ok (.iload_n 0, 1) := by decide +kernel
theorem dX5_isMatchQuestion_10 : decode cX5_isMatchQuestion 10 = .ok (.bipush 10, 2) := by decide +kernel
theorem dX5_isMatchQuestion_12 : decode cX5_isMatchQuestion 12 = .ok (.if_icmp .lt 13, 3) := by decide +kernel
theorem dX5_isMatchQuestion_15 : decode cX5_isMatchQuestion 15 = .ok (.iload_n 0, 1) := by decide +kernel
theorem dX5_isMatchQuestion_16 : decode cX5_isMatchQuestion 16 = .ok (.bipush 12, 2) := by decide +kernel
theorem dX5_isMatchQuestion_18 : decode cX5_isMatchQuestion 18 = .ok (.if_icmp .gt 7, 3) := by decide +kernel
theorem dX5_isMatchQuestion_21 : decode cX5_isMatchQuestion 21 = .ok (.iconst 1, 1) := by decide +kernel
theorem dX5_isMatchQuestion_22 : decode cX5_isMatchQuestion 22 = .ok (.goto 4, 3) := by decide +kernel
theorem dX5_isMatchQuestion_25 : decode cX5_isMatchQuestion 25 = .ok (.iconst 0, 1) := by decide +kernel
theorem dX5_isMatchQuestion_26 : decode cX5_isMatchQuestion 26 = .ok (.ireturn, 1) := by decide +kernel
theorem dX5_isKind_0 : decode cX5_isKind 0 = .ok (.iload_n 1, 1) := by decide +kernel
theorem dX5_isKind_1 : decode cX5_isKind 1 = .ok (.iload_n 0, 1) := by decide +kernel
theorem dX5_isKind_2 : decode cX5_isKind 2 = .ok (.if_icmp .eq 17, 3) := by decide +kernel
theorem dX5_isKind_5 : decode cX5_isKind 5 = .ok (.iload_n 1, 1) := by decide +kernel
theorem dX5_isKind_6 : decode cX5_isKind 6 = .ok (.ifCond .eq 13, 3) := by decide +kernel
theorem dX5_isKind_9 : decode cX5_isKind 9 = .ok (.iload_n 1, 1) := by decide +kernel
theorem dX5_isKind_10 : decode cX5_isKind 10 = .ok (.iconst 1, 1) := by decide +kernel
theorem dX5_isKind_11 : decode cX5_isKind 11 = .ok (.if_icmp .ne 12, 3) := by decide +kernel
theorem dX5_isKind_14 : decode cX5_isKind 14 = .ok (.iload_n 0, 1) := by decide +kernel
theorem dX5_isKind_15 : decode cX5_isKind 15 = .ok (.iconst 4, 1) := by decide +kernel
theorem dX5_isKind_16 : decode cX5_isKind 16 = .ok (.if_icmp .ne 7, 3) := by decide +kernel
theorem dX5_isKind_19 : decode cX5_isKind 19 = .ok (.iconst 1, 1) := by decide +kernel
theorem dX5_isKind_20 : decode cX5_isKind 20 = .ok (.goto 4, 3) := by decide +kernel
theorem dX5_isKind_23 : decode cX5_isKind 23 = .ok (.iconst 0, 1) := by decide +kernel
theorem dX5_isKind_24 : decode cX5_isKind 24 = .ok (.ireturn, 1) := by decide +kernel
theorem dX5_wrongBy_0 : decode cX5_wrongBy 0 = .ok (.getstatic 223, 3) := by decide +kernel
theorem dX5_wrongBy_3 : decode cX5_wrongBy 3 = .ok (.iload_n 0, 1) := by decide +kernel
theorem dX5_wrongBy_4 : decode cX5_wrongBy 4 = .ok (.invokestatic 134, 3) := by decide +kernel
theorem dX5_wrongBy_7 : decode cX5_wrongBy 7 = .ok (.iload_n 1, 1) := by decide +kernel
theorem dX5_wrongBy_8 : decode cX5_wrongBy 8 = .ok (.imul, 1) := by decide +kernel
theorem dX5_wrongBy_9 : decode cX5_wrongBy 9 = .ok (.istore 4, 2) := by decide +kernel
theorem dX5_wrongBy_11 : decode cX5_wrongBy 11 = .ok (.iload_n 2, 1) := by decide +kernel
theorem dX5_wrongBy_12 : decode cX5_wrongBy 12 = .ok (.ifCond .eq 15, 3) := by decide +kernel
theorem dX5_wrongBy_15 : decode cX5_wrongBy 15 = .ok (.iload 4, 2) := by decide +kernel
theorem dX5_wrongBy_17 : decode cX5_wrongBy 17 = .ok (.getstatic 226, 3) := by decide +kernel
theorem dX5_wrongBy_20 : decode cX5_wrongBy 20 = .ok (.iload_n 0, 1) := by decide +kernel
theorem dX5_wrongBy_21 : decode cX5_wrongBy 21 = .ok (.invokestatic 134, 3) := by decide +kernel
theorem dX5_wrongBy_24 : decode cX5_wrongBy 24 = .ok (.iadd, 1) := by decide +kernel
theorem dX5_wrongBy_25 : decode cX5_wrongBy 25 = .ok (.istore 4, 2) := by decide +kernel
theorem dX5_wrongBy_27 : decode cX5_wrongBy 27 = .ok (.iload_n 3, 1) := by decide +kernel
theorem dX5_wrongBy_28 : decode cX5_wrongBy 28 = .ok (.ifCond .eq 15, 3) := by decide +kernel
theorem dX5_wrongBy_31 : decode cX5_wrongBy 31 = .ok (.iload 4, 2) := by decide +kernel
theorem dX5_wrongBy_33 : decode cX5_wrongBy 33 = .ok (.getstatic 229, 3) := by decide +kernel
theorem dX5_wrongBy_36 : decode cX5_wrongBy 36 = .ok (.iload_n 0, 1) := by decide +kernel
theorem dX5_wrongBy_37 : decode cX5_wrongBy 37 = .ok (.invokestatic 134, 3) := by decide +kernel
theorem dX5_wrongBy_40 : decode cX5_wrongBy 40 = .ok (.iadd, 1) := by decide +kernel
theorem dX5_wrongBy_41 : decode cX5_wrongBy 41 = .ok (.istore 4, 2) := by decide +kernel
theorem dX5_wrongBy_43 : decode cX5_wrongBy 43 = .ok (.iload 4, 2) := by decide +kernel
theorem dX5_wrongBy_45 : decode cX5_wrongBy 45 = .ok (.ireturn, 1) := by decide +kernel
theorem dX5_isFit_0 : decode cX5_isFit 0 = .ok (.iload_n 1, 1) := by decide +kernel
theorem dX5_isFit_1 : decode cX5_isFit 1 = .ok (.getstatic 232, 3) := by decide +kernel
theorem dX5_isFit_4 : decode cX5_isFit 4 = .ok (.iload_n 0, 1) := by decide +kernel
theorem dX5_isFit_5 : decode cX5_isFit 5 = .ok (.invokestatic 134, 3) := by decide +kernel
theorem dX5_isFit_8 : decode cX5_isFit 8 = .ok (.if_icmp .gt 7, 3) := by decide +kernel
theorem dX5_isFit_11 : decode cX5_isFit 11 = .ok (.iconst 1, 1) := by decide +kernel
theorem dX5_isFit_12 : decode cX5_isFit 12 = .ok (.goto 4, 3) := by decide +kernel
theorem dX5_isFit_15 : decode cX5_isFit 15 = .ok (.iconst 0, 1) := by decide +kernel
theorem dX5_isFit_16 : decode cX5_isFit 16 = .ok (.ireturn, 1) := by decide +kernel
theorem dX5_isBelow_0 : decode cX5_isBelow 0 = .ok (.iload_n 0, 1) := by decide +kernel
theorem dX5_isBelow_1 : decode cX5_isBelow 1 = .ok (.ifCond .lt 12, 3) := by decide +kernel
theorem dX5_isBelow_4 : decode cX5_isBelow 4 = .ok (.iload_n 0, 1) := by decide +kernel
theorem dX5_isBelow_5 : decode cX5_isBelow 5 = .ok (.iload_n 1, 1) := by decide +kernel
theorem dX5_isBelow_6 : decode cX5_isBelow 6 = .ok (.if_icmp .ge 7, 3) := by decide +kernel
theorem dX5_isBelow_9 : decode cX5_isBelow 9 = .ok (.iconst 1, 1) := by decide +kernel
theorem dX5_isBelow_10 : decode cX5_isBelow 10 = .ok (.goto 4, 3) := by decide +kernel
theorem dX5_isBelow_13 : decode cX5_isBelow 13 = .ok (.iconst 0, 1) := by decide +kernel
theorem dX5_isBelow_14 : decode cX5_isBelow 14 = .ok (.ireturn, 1) := by decide +kernel
theorem dX5_isIn_0 : decode cX5_isIn 0 = .ok (.iload_n 0, 1) := by decide +kernel
theorem dX5_isIn_1 : decode cX5_isIn 1 = .ok (.iconst 1, 1) := by decide +kernel
theorem dX5_isIn_2 : decode cX5_isIn 2 = .ok (.iload_n 1, 1) := by decide +kernel
theorem dX5_isIn_3 : decode cX5_isIn 3 = .ok (.ishl, 1) := by decide +kernel
theorem dX5_isIn_4 : decode cX5_isIn 4 = .ok (.iand, 1) := by decide +kernel
theorem dX5_isIn_5 : decode cX5_isIn 5 = .ok (.ifCond .eq 7, 3) := by decide +kernel
theorem dX5_isIn_8 : decode cX5_isIn 8 = .ok (.iconst 1, 1) := by decide +kernel
theorem dX5_isIn_9 : decode cX5_isIn 9 = .ok (.goto 4, 3) := by decide +kernel
theorem dX5_isIn_12 : decode cX5_isIn 12 = .ok (.iconst 0, 1) := by decide +kernel
theorem dX5_isIn_13 : decode cX5_isIn 13 = .ok (.ireturn, 1) := by decide +kernel
theorem dX5_entry_0 : decode cX5_entry 0 = .ok (.iload_n 1, 1) := by decide +kernel
theorem dX5_entry_1 : decode cX5_entry 1 = .ok (.ifCond .lt 15, 3) := by decide +kernel
theorem dX5_entry_4 : decode cX5_entry 4 = .ok (.iload_n 1, 1) := by decide +kernel
theorem dX5_entry_5 : decode cX5_entry 5 = .ok (.aload_n 0, 1) := by decide +kernel
theorem dX5_entry_6 : decode cX5_entry 6 = .ok (.arraylength, 1) := by decide +kernel
theorem dX5_entry_7 : decode cX5_entry 7 = .ok (.if_icmp .ge 9, 3) := by decide +kernel
theorem dX5_entry_10 : decode cX5_entry 10 = .ok (.aload_n 0, 1) := by decide +kernel
theorem dX5_entry_11 : decode cX5_entry 11 = .ok (.iload_n 1, 1) := by decide +kernel
theorem dX5_entry_12 : decode cX5_entry 12 = .ok (.iaload, 1) := by decide +kernel
theorem dX5_entry_13 : decode cX5_entry 13 = .ok (.goto 4, 3) := by decide +kernel
theorem dX5_entry_16 : decode cX5_entry 16 = .ok (.iconst 0, 1) := by decide +kernel
theorem dX5_entry_17 : decode cX5_entry 17 = .ok (.ireturn, 1) := by decide +kernel
theorem dX5_put_0 : decode cX5_put 0 = .ok (.iload_n 1, 1) := by decide +kernel
theorem dX5_put_1 : decode cX5_put 1 = .ok (.ifCond .lt 13, 3) := by decide +kernel
theorem dX5_put_4 : decode cX5_put 4 = .ok (.iload_n 1, 1) := by decide +kernel
theorem dX5_put_5 : decode cX5_put 5 = .ok (.aload_n 0, 1) := by decide +kernel
theorem dX5_put_6 : decode cX5_put 6 = .ok (.arraylength, 1) := by decide +kernel
theorem dX5_put_7 : decode cX5_put 7 = .ok (.if_icmp .ge 7, 3) := by decide +kernel
theorem dX5_put_10 : decode cX5_put 10 = .ok (.aload_n 0, 1) := by decide +kernel
theorem dX5_put_11 : decode cX5_put 11 = .ok (.iload_n 1, 1) := by decide +kernel
theorem dX5_put_12 : decode cX5_put 12 = .ok (.iload_n 2, 1) := by decide +kernel
theorem dX5_put_13 : decode cX5_put 13 = .ok (.iastore, 1) := by decide +kernel
theorem dX5_put_14 : decode cX5_put 14 = .ok (.return_, 1) := by decide +kernel
theorem dX5_copy_0 : decode cX5_copy 0 = .ok (.iconst 0, 1) := by decide +kernel
theorem dX5_copy_1 : decode cX5_copy 1 = .ok (.istore_n 2, 1) := by decide +kernel
theorem dX5_copy_2 : decode cX5_copy 2 = .ok (.iload_n 2, 1) := by decide +kernel
theorem dX5_copy_3 : decode cX5_copy 3 = .ok (.aload_n 0, 1) := by decide +kernel
theorem dX5_copy_4 : decode cX5_copy 4 = .ok (.arraylength, 1) := by decide +kernel
theorem dX5_copy_5 : decode cX5_copy 5 = .ok (.if_icmp .ge 21, 3) := by decide +kernel
theorem dX5_copy_8 : decode cX5_copy 8 = .ok (.iload_n 2, 1) := by decide +kernel
theorem dX5_copy_9 : decode cX5_copy 9 = .ok (.aload_n 1, 1) := by decide +kernel
theorem dX5_copy_10 : decode cX5_copy 10 = .ok (.arraylength, 1) := by decide +kernel
theorem dX5_copy_11 : decode cX5_copy 11 = .ok (.if_icmp .ge 15, 3) := by decide +kernel
theorem dX5_copy_14 : decode cX5_copy 14 = .ok (.aload_n 1, 1) := by decide +kernel
theorem dX5_copy_15 : decode cX5_copy 15 = .ok (.iload_n 2, 1) := by decide +kernel
theorem dX5_copy_16 : decode cX5_copy 16 = .ok (.aload_n 0, 1) := by decide +kernel
theorem dX5_copy_17 : decode cX5_copy 17 = .ok (.iload_n 2, 1) := by decide +kernel
theorem dX5_copy_18 : decode cX5_copy 18 = .ok (.iaload, 1) := by decide +kernel
theorem dX5_copy_19 : decode cX5_copy 19 = .ok (.iastore, 1) := by decide +kernel
theorem dX5_copy_20 : decode cX5_copy 20 = .ok (.iinc 2 1, 3) := by decide +kernel
theorem dX5_copy_23 : decode cX5_copy 23 = .ok (.goto (-21), 3) := by decide +kernel
theorem dX5_copy_26 : decode cX5_copy 26 = .ok (.return_, 1) := by decide +kernel
theorem dX6_init_0 : decode cX6_init 0 = .ok (.aload_n 0, 1) := by decide +kernel
theorem dX6_init_1 : decode cX6_init 1 = .ok (.invokespecial 1, 3) := by decide +kernel
theorem dX6_init_4 : decode cX6_init 4 = .ok (.aload_n 0, 1) := by decide +kernel
theorem dX6_init_5 : decode cX6_init 5 = .ok (.bipush 36, 2) := by decide +kernel
theorem dX6_init_7 : decode cX6_init 7 = .ok (.newarray .int, 2) := by decide +kernel
theorem dX6_init_9 : decode cX6_init 9 = .ok (.putfield 7, 3) := by decide +kernel
theorem dX6_init_12 : decode cX6_init 12 = .ok (.aload_n 0, 1) := by decide +kernel
theorem dX6_init_13 : decode cX6_init 13 = .ok (.bipush 20, 2) := by decide +kernel
theorem dX6_init_15 : decode cX6_init 15 = .ok (.newarray .int, 2) := by decide +kernel
theorem dX6_init_17 : decode cX6_init 17 = .ok (.putfield 13, 3) := by decide +kernel
theorem dX6_init_20 : decode cX6_init 20 = .ok (.aload_n 0, 1) := by decide +kernel
theorem dX6_init_21 : decode cX6_init 21 = .ok (.bipush 15, 2) := by decide +kernel
theorem dX6_init_23 : decode cX6_init 23 = .ok (.newarray .int, 2) := by decide +kernel
theorem dX6_init_25 : decode cX6_init 25 = .ok (.putfield 16, 3) := by decide +kernel
theorem dX6_init_28 : decode cX6_init 28 = .ok (.aload_n 0, 1) := by decide +kernel
theorem dX6_init_29 : decode cX6_init 29 = .ok (.bipush 10, 2) := by decide +kernel
theorem dX6_init_31 : decode cX6_init 31 = .ok (.newarray .int, 2) := by decide +kernel
theorem dX6_init_33 : decode cX6_init 33 = .ok (.putfield 19, 3) := by decide +kernel
theorem dX6_init_36 : decode cX6_init 36 = .ok (.aload_n 0, 1) := by decide +kernel
theorem dX6_init_37 : decode cX6_init 37 = .ok (.iconst 3, 1) := by decide +kernel
theorem dX6_init_38 : decode cX6_init 38 = .ok (.newarray .int, 2) := by decide +kernel
theorem dX6_init_40 : decode cX6_init 40 = .ok (.putfield 22, 3) := by decide +kernel
theorem dX6_init_43 : decode cX6_init 43 = .ok (.aload_n 0, 1) := by decide +kernel
theorem dX6_init_44 : decode cX6_init 44 = .ok (.iconst 3, 1) := by decide +kernel
theorem dX6_init_45 : decode cX6_init 45 = .ok (.newarray .int, 2) := by decide +kernel
theorem dX6_init_47 : decode cX6_init 47 = .ok (.putfield 25, 3) := by decide +kernel
theorem dX6_init_50 : decode cX6_init 50 = .ok (.aload_n 0, 1) := by decide +kernel
theorem dX6_init_51 : decode cX6_init 51 = .ok (.bipush 24, 2) := by decide +kernel
theorem dX6_init_53 : decode cX6_init 53 = .ok (.newarray .int, 2) := by decide +kernel
theorem dX6_init_55 : decode cX6_init 55 = .ok (.putfield 28, 3) := by decide +kernel
theorem dX6_init_58 : decode cX6_init 58 = .ok (.aload_n 0, 1) := by decide +kernel
theorem dX6_init_59 : decode cX6_init 59 = .ok (.bipush 15, 2) := by decide +kernel
theorem dX6_init_61 : decode cX6_init 61 = .ok (.newarray .int, 2) := by decide +kernel
theorem dX6_init_63 : decode cX6_init 63 = .ok (.putfield 31, 3) := by decide +kernel
theorem dX6_init_66 : decode cX6_init 66 = .ok (.aload_n 0, 1) := by decide +kernel
theorem dX6_init_67 : decode cX6_init 67 = .ok (.bipush 20, 2) := by decide +kernel
theorem dX6_init_69 : decode cX6_init 69 = .ok (.newarray .int, 2) := by decide +kernel
theorem dX6_init_71 : decode cX6_init 71 = .ok (.putfield 34, 3) := by decide +kernel
theorem dX6_init_74 : decode cX6_init 74 = .ok (.aload_n 0, 1) := by decide +kernel
theorem dX6_init_75 : decode cX6_init 75 = .ok (.bipush 15, 2) := by decide +kernel
theorem dX6_init_77 : decode cX6_init 77 = .ok (.newarray .int, 2) := by decide +kernel
theorem dX6_init_79 : decode cX6_init 79 = .ok (.putfield 37, 3) := by decide +kernel
theorem dX6_init_82 : decode cX6_init 82 = .ok (.aload_n 0, 1) := by decide +kernel
theorem dX6_init_83 : decode cX6_init 83 = .ok (.bipush 24, 2) := by decide +kernel
theorem dX6_init_85 : decode cX6_init 85 = .ok (.newarray .int, 2) := by decide +kernel
theorem dX6_init_87 : decode cX6_init 87 = .ok (.putfield 40, 3) := by decide +kernel
theorem dX6_init_90 : decode cX6_init 90 = .ok (.aload_n 0, 1) := by decide +kernel
theorem dX6_init_91 : decode cX6_init 91 = .ok (.iconst (-1), 1) := by decide +kernel
theorem dX6_init_92 : decode cX6_init 92 = .ok (.putfield 43, 3) := by decide +kernel
theorem dX6_init_95 : decode cX6_init 95 = .ok (.return_, 1) := by decide +kernel
theorem dX6_in_0 : decode cX6_in 0 = .ok (.lload_n 0, 1) := by decide +kernel
theorem dX6_in_1 : decode cX6_in 1 = .ok (.lload_n 2, 1) := by decide +kernel
theorem dX6_in_2 : decode cX6_in 2 = .ok (.lcmp, 1) := by decide +kernel
theorem dX6_in_3 : decode cX6_in 3 = .ok (.ifCond .lt 14, 3) := by decide +kernel
theorem dX6_in_6 : decode cX6_in 6 = .ok (.lload_n 0, 1) := by decide +kernel
theorem dX6_in_7 : decode cX6_in 7 = .ok (.lload 4, 2) := by decide +kernel
theorem dX6_in_9 : decode cX6_in 9 = .ok (.lcmp, 1) := by decide +kernel
theorem dX6_in_10 : decode cX6_in 10 = .ok (.ifCond .gt 7, 3) := by decide +kernel
theorem dX6_in_13 : decode cX6_in 13 = .ok (.iconst 1, 1) := by decide +kernel
theorem dX6_in_14 : decode cX6_in 14 = .ok (.goto 4, 3) := by decide +kernel
theorem dX6_in_17 : decode cX6_in 17 = .ok (.iconst 0, 1) := by decide +kernel
theorem dX6_in_18 : decode cX6_in 18 = .ok (.ireturn, 1) := by decide +kernel
theorem dX6_copy_0 : decode cX6_copy 0 = .ok (.iconst 0, 1) := by decide +kernel
theorem dX6_copy_1 : decode cX6_copy 1 = .ok (.istore_n 2, 1) := by decide +kernel
theorem dX6_copy_2 : decode cX6_copy 2 = .ok (.iload_n 2, 1) := by decide +kernel
theorem dX6_copy_3 : decode cX6_copy 3 = .ok (.aload_n 0, 1) := by decide +kernel
theorem dX6_copy_4 : decode cX6_copy 4 = .ok (.arraylength, 1) := by decide +kernel
theorem dX6_copy_5 : decode cX6_copy 5 = .ok (.if_icmp .ge 15, 3) := by decide +kernel
theorem dX6_copy_8 : decode cX6_copy 8 = .ok (.aload_n 1, 1) := by decide +kernel
theorem dX6_copy_9 : decode cX6_copy 9 = .ok (.iload_n 2, 1) := by decide +kernel
theorem dX6_copy_10 : decode cX6_copy 10 = .ok (.aload_n 0, 1) := by decide +kernel
theorem dX6_copy_11 : decode cX6_copy 11 = .ok (.iload_n 2, 1) := by decide +kernel
theorem dX6_copy_12 : decode cX6_copy 12 = .ok (.iaload, 1) := by decide +kernel
theorem dX6_copy_13 : decode cX6_copy 13 = .ok (.iastore, 1) := by decide +kernel
theorem dX6_copy_14 : decode cX6_copy 14 = .ok (.iinc 2 1, 3) := by decide +kernel
theorem dX6_copy_17 : decode cX6_copy 17 = .ok (.goto (-15), 3) := by decide +kernel
theorem dX6_copy_20 : decode cX6_copy 20 = .ok (.return_, 1) := by decide +kernel
theorem dX6_letter_0 : decode cX6_letter 0 = .ok (.iload_n 1, 1) := by decide +kernel
theorem dX6_letter_1 : decode cX6_letter 1 = .ok (.i2l, 1) := by decide +kernel
theorem dX6_letter_2 : decode cX6_letter 2 = .ok (.lconst 1, 1) := by decide +kernel
theorem dX6_letter_3 : decode cX6_letter 3 = .ok (.ldc2_w 47, 3) := by decide +kernel
theorem dX6_letter_6 : decode cX6_letter 6 = .ok (.invokestatic 49, 3) := by decide +kernel
theorem dX6_letter_9 : decode cX6_letter 9 = .ok (.ifCond .ne 6, 3) := by decide +kernel
theorem dX6_letter_12 : decode cX6_letter 12 = .ok (.bipush (-102), 2) := by decide +kernel
theorem dX6_letter_14 : decode cX6_letter 14 = .ok (.ireturn, 1) := by decide +kernel
theorem dX6_letter_15 : decode cX6_letter 15 = .ok (.aload_n 0, 1) := by decide +kernel
theorem dX6_letter_16 : decode cX6_letter 16 = .ok (.getfield 53, 3) := by decide +kernel
theorem dX6_letter_19 : decode cX6_letter 19 = .ok (.bipush 36, 2) := by decide +kernel
theorem dX6_letter_21 : decode cX6_letter 21 = .ok (.if_icmp .ne 6, 3) := by decide +kernel
theorem dX6_letter_24 : decode cX6_letter 24 = .ok (.bipush (-104), 2) := by decide +kernel
theorem dX6_letter_26 : decode cX6_letter 26 = .ok (.ireturn, 1) := by decide +kernel
theorem dX6_letter_27 : decode cX6_letter 27 = .ok (.aload_n 0, 1) := by decide +kernel
theorem dX6_letter_28 : decode cX6_letter 28 = .ok (.getfield 7, 3) := by decide +kernel
theorem dX6_letter_31 : decode cX6_letter 31 = .ok (.aload_n 0, 1) := by decide +kernel
theorem dX6_letter_32 : decode cX6_letter 32 = .ok (.getfield 53, 3) := by decide +kernel
theorem dX6_letter_35 : decode cX6_letter 35 = .ok (.iload_n 1, 1) := by decide +kernel
theorem dX6_letter_36 : decode cX6_letter 36 = .ok (.iastore, 1) := by decide +kernel
theorem dX6_letter_37 : decode cX6_letter 37 = .ok (.aload_n 0, 1) := by decide +kernel
theorem dX6_letter_38 : decode cX6_letter 38 = .ok (.dup, 1) := by decide +kernel
theorem dX6_letter_39 : decode cX6_letter 39 = .ok (.getfield 53, 3) := by decide +kernel
theorem dX6_letter_42 : decode cX6_letter 42 = .ok (.iconst 1, 1) := by decide +kernel
theorem dX6_letter_43 : decode cX6_letter 43 = .ok (.iadd, 1) := by decide +kernel
theorem dX6_letter_44 : decode cX6_letter 44 = .ok (.putfield 53, 3) := by decide +kernel
theorem dX6_letter_47 : decode cX6_letter 47 = .ok (.aload_n 0, 1) := by decide +kernel
theorem dX6_letter_48 : decode cX6_letter 48 = .ok (.getfield 53, 3) := by decide +kernel
theorem dX6_letter_51 : decode cX6_letter 51 = .ok (.ireturn, 1) := by decide +kernel
theorem dX6_blank_0 : decode cX6_blank 0 = .ok (.aload_n 0, 1) := by decide +kernel
theorem dX6_blank_1 : decode cX6_blank 1 = .ok (.getfield 53, 3) := by decide +kernel
theorem dX6_blank_4 : decode cX6_blank 4 = .ok (.istore_n 1, 1) := by decide +kernel
theorem dX6_blank_5 : decode cX6_blank 5 = .ok (.aload_n 0, 1) := by decide +kernel
theorem dX6_blank_6 : decode cX6_blank 6 = .ok (.iconst 0, 1) := by decide +kernel
theorem dX6_blank_7 : decode cX6_blank 7 = .ok (.putfield 53, 3) := by decide +kernel
theorem dX6_blank_10 : decode cX6_blank 10 = .ok (.iload_n 1, 1) := by decide +kernel
theorem dX6_blank_11 : decode cX6_blank 11 = .ok (.ireturn, 1) := by decide +kernel
theorem dX6_kindBy_0 : decode cX6_kindBy 0 = .ok (.iload_n 0, 1) := by decide +kernel
theorem dX6_kindBy_1 : decode cX6_kindBy 1 = .ok (.bipush 99, 2) := by decide +kernel
theorem dX6_kindBy_3 : decode cX6_kindBy 3 = .ok (.if_icmp .ne 7, 3) := by decide +kernel
theorem dX6_kindBy_6 : decode cX6_kindBy 6 = .ok (.iconst 0, 1) := by decide +kernel
theorem dX6_kindBy_7 : decode cX6_kindBy 7 = .ok (.goto 44, 3) := by decide +kernel
theorem dX6_kindBy_10 : decode cX6_kindBy 10 = .ok (.iload_n 0, 1) := by decide +kernel
theorem dX6_kindBy_11 : decode cX6_kindBy 11 = .ok (.bipush 119, 2) := by decide +kernel
theorem dX6_kindBy_13 : decode cX6_kindBy 13 = .ok (.if_icmp .ne 7, 3) := by decide +kernel
theorem dX6_kindBy_16 : decode cX6_kindBy 16 = .ok (.iconst 1, 1) := by decide +kernel
theorem dX6_kindBy_17 : decode cX6_kindBy 17 = .ok (.goto 34, 3) := by decide +kernel
theorem dX6_kindBy_20 : decode cX6_kindBy 20 = .ok (.iload_n 0, 1) := by decide +kernel
theorem dX6_kindBy_21 : decode cX6_kindBy 21 = .ok (.bipush 108, 2) := by decide +kernel
theorem dX6_kindBy_23 : decode cX6_kindBy 23 = .ok (.if_icmp .ne 7, 3) := by decide +kernel
theorem dX6_kindBy_26 : decode cX6_kindBy 26 = .ok (.iconst 2, 1) := by decide +kernel
theorem dX6_kindBy_27 : decode cX6_kindBy 27 = .ok (.goto 24, 3) := by decide +kernel
theorem dX6_kindBy_30 : decode cX6_kindBy 30 = .ok (.iload_n 0, 1) := by decide +kernel
theorem dX6_kindBy_31 : decode cX6_kindBy 31 = .ok (.bipush 104, 2) := by decide +kernel
theorem dX6_kindBy_33 : decode cX6_kindBy 33 = .ok (.if_icmp .ne 7, 3) := by decide +kernel
theorem dX6_kindBy_36 : decode cX6_kindBy 36 = .ok (.iconst 3, 1) := by decide +kernel
theorem dX6_kindBy_37 : decode cX6_kindBy 37 = .ok (.goto 14, 3) := by decide +kernel
theorem dX6_kindBy_40 : decode cX6_kindBy 40 = .ok (.iload_n 0, 1) := by decide +kernel
theorem dX6_kindBy_41 : decode cX6_kindBy 41 = .ok (.bipush 110, 2) := by decide +kernel
theorem dX6_kindBy_43 : decode cX6_kindBy 43 = .ok (.if_icmp .ne 7, 3) := by decide +kernel
theorem dX6_kindBy_46 : decode cX6_kindBy 46 = .ok (.iconst 4, 1) := by decide +kernel
theorem dX6_kindBy_47 : decode cX6_kindBy 47 = .ok (.goto 4, 3) := by decide +kernel
theorem dX6_kindBy_50 : decode cX6_kindBy 50 = .ok (.iconst (-1), 1) := by decide +kernel
theorem dX6_kindBy_51 : decode cX6_kindBy 51 = .ok (.ireturn, 1) := by decide +kernel
theorem dX6_mostOf_0 : decode cX6_mostOf 0 = .ok (.iload_n 0, 1) := by decide +kernel
theorem dX6_mostOf_1 : decode cX6_mostOf 1 = .ok (.ifCond .ne 8, 3) := by decide +kernel
theorem dX6_mostOf_4 : decode cX6_mostOf 4 = .ok (.bipush 9, 2) := by decide +kernel
theorem dX6_mostOf_6 : decode cX6_mostOf 6 = .ok (.goto 13, 3) := by decide +kernel
theorem dX6_mostOf_9 : decode cX6_mostOf 9 = .ok (.iload_n 0, 1) := by decide +kernel
theorem dX6_mostOf_10 : decode cX6_mostOf 10 = .ok (.iconst 1, 1) := by decide +kernel
theorem dX6_mostOf_11 : decode cX6_mostOf 11 = .ok (.if_icmp .ne 7, 3) := by decide +kernel
theorem dX6_mostOf_14 : decode cX6_mostOf 14 = .ok (.iconst 5, 1) := by decide +kernel
theorem dX6_mostOf_15 : decode cX6_mostOf 15 = .ok (.goto 4, 3) := by decide +kernel
theorem dX6_mostOf_18 : decode cX6_mostOf 18 = .ok (.iconst 4, 1) := by decide +kernel
theorem dX6_mostOf_19 : decode cX6_mostOf 19 = .ok (.ireturn, 1) := by decide +kernel
theorem dX6_isGood_0 : decode cX6_isGood 0 = .ok (.aload_n 0, 1) := by decide +kernel
theorem dX6_isGood_1 : decode cX6_isGood 1 = .ok (.getfield 7, 3) := by decide +kernel
theorem dX6_isGood_4 : decode cX6_isGood 4 = .ok (.iload_n 1, 1) := by decide +kernel
theorem dX6_isGood_5 : decode cX6_isGood 5 = .ok (.iaload, 1) := by decide +kernel
theorem dX6_isGood_6 : decode cX6_isGood 6 = .ok (.istore_n 2, 1) := by decide +kernel
theorem dX6_isGood_7 : decode cX6_isGood 7 = .ok (.aload_n 0, 1) := by decide +kernel
theorem dX6_isGood_8 : decode cX6_isGood 8 = .ok (.getfield 56, 3) := by decide +kernel
theorem dX6_isGood_11 : decode cX6_isGood 11 = .ok (.iconst (-1), 1) := by decide +kernel
theorem dX6_isGood_12 : decode cX6_isGood 12 = .ok (.if_icmp .ne 64, 3) := by decide +kernel
theorem dX6_isGood_15 : decode cX6_isGood 15 = .ok (.iload_n 1, 1) := by decide +kernel
theorem dX6_isGood_16 : decode cX6_isGood 16 = .ok (.iconst 4, 1) := by decide +kernel
theorem dX6_isGood_17 : decode cX6_isGood 17 = .ok (.irem, 1) := by decide +kernel
theorem dX6_isGood_18 : decode cX6_isGood 18 = .ok (.iconst 3, 1) := by decide +kernel
theorem dX6_isGood_19 : decode cX6_isGood 19 = .ok (.if_icmp .ge 20, 3) := by decide +kernel
theorem dX6_isGood_22 : decode cX6_isGood 22 = .ok (.iload_n 2, 1) := by decide +kernel
theorem dX6_isGood_23 : decode cX6_isGood 23 = .ok (.bipush 48, 2) := by decide +kernel
theorem dX6_isGood_25 : decode cX6_isGood 25 = .ok (.isub, 1) := by decide +kernel
theorem dX6_isGood_26 : decode cX6_isGood 26 = .ok (.i2l, 1) := by decide +kernel
theorem dX6_isGood_27 : decode cX6_isGood 27 = .ok (.lconst 0, 1) := by decide +kernel
theorem dX6_isGood_28 : decode cX6_isGood 28 = .ok (.iload_n 1, 1) := by decide +kernel
theorem dX6_isGood_29 : decode cX6_isGood 29 = .ok (.iconst 4, 1) := by decide +kernel
theorem dX6_isGood_30 : decode cX6_isGood 30 = .ok (.irem, 1) := by decide +kernel
theorem dX6_isGood_31 : decode cX6_isGood 31 = .ok (.invokestatic 59, 3) := by decide +kernel

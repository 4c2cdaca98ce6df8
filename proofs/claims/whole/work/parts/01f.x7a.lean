theorem dX7_init_0 : decode cX7_init 0 = .ok (.aload_n 0, 1) := by decide +kernel
theorem dX7_init_1 : decode cX7_init 1 = .ok (.invokespecial 1, 3) := by decide +kernel
theorem dX7_init_4 : decode cX7_init 4 = .ok (.aload_n 0, 1) := by decide +kernel
theorem dX7_init_5 : decode cX7_init 5 = .ok (.bipush 21, 2) := by decide +kernel
theorem dX7_init_7 : decode cX7_init 7 = .ok (.newarray .int, 2) := by decide +kernel
theorem dX7_init_9 : decode cX7_init 9 = .ok (.putfield 7, 3) := by decide +kernel
theorem dX7_init_12 : decode cX7_init 12 = .ok (.aload_n 0, 1) := by decide +kernel
theorem dX7_init_13 : decode cX7_init 13 = .ok (.bipush 7, 2) := by decide +kernel
theorem dX7_init_15 : decode cX7_init 15 = .ok (.newarray .int, 2) := by decide +kernel
theorem dX7_init_17 : decode cX7_init 17 = .ok (.putfield 13, 3) := by decide +kernel
theorem dX7_init_20 : decode cX7_init 20 = .ok (.aload_n 0, 1) := by decide +kernel
theorem dX7_init_21 : decode cX7_init 21 = .ok (.sipush 297, 3) := by decide +kernel
theorem dX7_init_24 : decode cX7_init 24 = .ok (.newarray .long, 2) := by decide +kernel
theorem dX7_init_26 : decode cX7_init 26 = .ok (.putfield 16, 3) := by decide +kernel
theorem dX7_init_29 : decode cX7_init 29 = .ok (.aload_n 0, 1) := by decide +kernel
theorem dX7_init_30 : decode cX7_init 30 = .ok (.bipush 11, 2) := by decide +kernel
theorem dX7_init_32 : decode cX7_init 32 = .ok (.newarray .int, 2) := by decide +kernel
theorem dX7_init_34 : decode cX7_init 34 = .ok (.putfield 20, 3) := by decide +kernel
theorem dX7_init_37 : decode cX7_init 37 = .ok (.aload_n 0, 1) := by decide +kernel
theorem dX7_init_38 : decode cX7_init 38 = .ok (.bipush 26, 2) := by decide +kernel
theorem dX7_init_40 : decode cX7_init 40 = .ok (.newarray .boolean, 2) := by decide +kernel
theorem dX7_init_42 : decode cX7_init 42 = .ok (.putfield 23, 3) := by decide +kernel
theorem dX7_init_45 : decode cX7_init 45 = .ok (.aload_n 0, 1) := by decide +kernel
theorem dX7_init_46 : decode cX7_init 46 = .ok (.bipush 21, 2) := by decide +kernel
theorem dX7_init_48 : decode cX7_init 48 = .ok (.newarray .long, 2) := by decide +kernel
theorem dX7_init_50 : decode cX7_init 50 = .ok (.putfield 27, 3) := by decide +kernel
theorem dX7_init_53 : decode cX7_init 53 = .ok (.aload_n 0, 1) := by decide +kernel
theorem dX7_init_54 : decode cX7_init 54 = .ok (.bipush 21, 2) := by decide +kernel
theorem dX7_init_56 : decode cX7_init 56 = .ok (.newarray .long, 2) := by decide +kernel
theorem dX7_init_58 : decode cX7_init 58 = .ok (.putfield 30, 3) := by decide +kernel
theorem dX7_init_61 : decode cX7_init 61 = .ok (.aload_n 0, 1) := by decide +kernel
theorem dX7_init_62 : decode cX7_init 62 = .ok (.bipush 7, 2) := by decide +kernel
theorem dX7_init_64 : decode cX7_init 64 = .ok (.newarray .int, 2) := by decide +kernel
theorem dX7_init_66 : decode cX7_init 66 = .ok (.putfield 33, 3) := by decide +kernel
theorem dX7_init_69 : decode cX7_init 69 = .ok (.aload_n 0, 1) := by decide +kernel
theorem dX7_init_70 : decode cX7_init 70 = .ok (.bipush 7, 2) := by decide +kernel
theorem dX7_init_72 : decode cX7_init 72 = .ok (.newarray .int, 2) := by decide +kernel
theorem dX7_init_74 : decode cX7_init 74 = .ok (.putfield 36, 3) := by decide +kernel
theorem dX7_init_77 : decode cX7_init 77 = .ok (.aload_n 0, 1) := by decide +kernel
theorem dX7_init_78 : decode cX7_init 78 = .ok (.bipush 7, 2) := by decide +kernel
theorem dX7_init_80 : decode cX7_init 80 = .ok (.newarray .int, 2) := by decide +kernel
theorem dX7_init_82 : decode cX7_init 82 = .ok (.putfield 39, 3) := by decide +kernel
theorem dX7_init_85 : decode cX7_init 85 = .ok (.aload_n 0, 1) := by decide +kernel
theorem dX7_init_86 : decode cX7_init 86 = .ok (.iconst 3, 1) := by decide +kernel
theorem dX7_init_87 : decode cX7_init 87 = .ok (.newarray .int, 2) := by decide +kernel
theorem dX7_init_89 : decode cX7_init 89 = .ok (.putfield 42, 3) := by decide +kernel
theorem dX7_init_92 : decode cX7_init 92 = .ok (.return_, 1) := by decide +kernel
theorem dX7_thrown_0 : decode cX7_thrown 0 = .ok (.aload_n 0, 1) := by decide +kernel
theorem dX7_thrown_1 : decode cX7_thrown 1 = .ok (.getfield 45, 3) := by decide +kernel
theorem dX7_thrown_4 : decode cX7_thrown 4 = .ok (.ireturn, 1) := by decide +kernel
theorem dX7_goes_0 : decode cX7_goes 0 = .ok (.aload_n 0, 1) := by decide +kernel
theorem dX7_goes_1 : decode cX7_goes 1 = .ok (.iload_n 1, 1) := by decide +kernel
theorem dX7_goes_2 : decode cX7_goes 2 = .ok (.ifCond .ne 7, 3) := by decide +kernel
theorem dX7_goes_5 : decode cX7_goes 5 = .ok (.iconst 1, 1) := by decide +kernel
theorem dX7_goes_6 : decode cX7_goes 6 = .ok (.goto 20, 3) := by decide +kernel
theorem dX7_goes_9 : decode cX7_goes 9 = .ok (.iload_n 2, 1) := by decide +kernel
theorem dX7_goes_10 : decode cX7_goes 10 = .ok (.ifCond .ne 7, 3) := by decide +kernel
theorem dX7_goes_13 : decode cX7_goes 13 = .ok (.iconst 2, 1) := by decide +kernel
theorem dX7_goes_14 : decode cX7_goes 14 = .ok (.goto 12, 3) := by decide +kernel
theorem dX7_goes_17 : decode cX7_goes 17 = .ok (.iload_n 3, 1) := by decide +kernel
theorem dX7_goes_18 : decode cX7_goes 18 = .ok (.ifCond .ne 7, 3) := by decide +kernel
theorem dX7_goes_21 : decode cX7_goes 21 = .ok (.iconst 3, 1) := by decide +kernel
theorem dX7_goes_22 : decode cX7_goes 22 = .ok (.goto 4, 3) := by decide +kernel
theorem dX7_goes_25 : decode cX7_goes 25 = .ok (.iconst 0, 1) := by decide +kernel
theorem dX7_goes_26 : decode cX7_goes 26 = .ok (.putfield 45, 3) := by decide +kernel
theorem dX7_goes_29 : decode cX7_goes 29 = .ok (.aload_n 0, 1) := by decide +kernel
theorem dX7_goes_30 : decode cX7_goes 30 = .ok (.getfield 45, 3) := by decide +kernel
theorem dX7_goes_33 : decode cX7_goes 33 = .ok (.ifCond .ne 7, 3) := by decide +kernel
theorem dX7_goes_36 : decode cX7_goes 36 = .ok (.iconst 1, 1) := by decide +kernel
theorem dX7_goes_37 : decode cX7_goes 37 = .ok (.goto 4, 3) := by decide +kernel
theorem dX7_goes_40 : decode cX7_goes 40 = .ok (.iconst 0, 1) := by decide +kernel
theorem dX7_goes_41 : decode cX7_goes 41 = .ok (.ireturn, 1) := by decide +kernel
theorem dX7_isJob_0 : decode cX7_isJob 0 = .ok (.iload_n 1, 1) := by decide +kernel
theorem dX7_isJob_1 : decode cX7_isJob 1 = .ok (.ifCond .lt 15, 3) := by decide +kernel
theorem dX7_isJob_4 : decode cX7_isJob 4 = .ok (.iload_n 1, 1) := by decide +kernel
theorem dX7_isJob_5 : decode cX7_isJob 5 = .ok (.aload_n 0, 1) := by decide +kernel
theorem dX7_isJob_6 : decode cX7_isJob 6 = .ok (.getfield 49, 3) := by decide +kernel
theorem dX7_isJob_9 : decode cX7_isJob 9 = .ok (.if_icmp .ge 7, 3) := by decide +kernel
theorem dX7_isJob_12 : decode cX7_isJob 12 = .ok (.iconst 1, 1) := by decide +kernel
theorem dX7_isJob_13 : decode cX7_isJob 13 = .ok (.goto 4, 3) := by decide +kernel
theorem dX7_isJob_16 : decode cX7_isJob 16 = .ok (.iconst 0, 1) := by decide +kernel
theorem dX7_isJob_17 : decode cX7_isJob 17 = .ok (.ireturn, 1) := by decide +kernel
theorem dX7_isMachine_0 : decode cX7_isMachine 0 = .ok (.iload_n 0, 1) := by decide +kernel
theorem dX7_isMachine_1 : decode cX7_isMachine 1 = .ok (.ifCond .lt 12, 3) := by decide +kernel
theorem dX7_isMachine_4 : decode cX7_isMachine 4 = .ok (.iload_n 0, 1) := by decide +kernel
theorem dX7_isMachine_5 : decode cX7_isMachine 5 = .ok (.iconst 3, 1) := by decide +kernel
theorem dX7_isMachine_6 : decode cX7_isMachine 6 = .ok (.if_icmp .ge 7, 3) := by decide +kernel
theorem dX7_isMachine_9 : decode cX7_isMachine 9 = .ok (.iconst 1, 1) := by decide +kernel
theorem dX7_isMachine_10 : decode cX7_isMachine 10 = .ok (.goto 4, 3) := by decide +kernel
theorem dX7_isMachine_13 : decode cX7_isMachine 13 = .ok (.iconst 0, 1) := by decide +kernel
theorem dX7_isMachine_14 : decode cX7_isMachine 14 = .ok (.ireturn, 1) := by decide +kernel
theorem dX7_isTime_0 : decode cX7_isTime 0 = .ok (.iload_n 0, 1) := by decide +kernel
theorem dX7_isTime_1 : decode cX7_isTime 1 = .ok (.ifCond .lt 13, 3) := by decide +kernel
theorem dX7_isTime_4 : decode cX7_isTime 4 = .ok (.iload_n 0, 1) := by decide +kernel
theorem dX7_isTime_5 : decode cX7_isTime 5 = .ok (.bipush 50, 2) := by decide +kernel
theorem dX7_isTime_7 : decode cX7_isTime 7 = .ok (.if_icmp .gt 7, 3) := by decide +kernel
theorem dX7_isTime_10 : decode cX7_isTime 10 = .ok (.iconst 1, 1) := by decide +kernel
theorem dX7_isTime_11 : decode cX7_isTime 11 = .ok (.goto 4, 3) := by decide +kernel
theorem dX7_isTime_14 : decode cX7_isTime 14 = .ok (.iconst 0, 1) := by decide +kernel
theorem dX7_isTime_15 : decode cX7_isTime 15 = .ok (.ireturn, 1) := by decide +kernel
theorem dX7_lowest_0 : decode cX7_lowest 0 = .ok (.iconst 2, 1) := by decide +kernel
theorem dX7_lowest_1 : decode cX7_lowest 1 = .ok (.istore_n 2, 1) := by decide +kernel
theorem dX7_lowest_2 : decode cX7_lowest 2 = .ok (.iconst 2, 1) := by decide +kernel
theorem dX7_lowest_3 : decode cX7_lowest 3 = .ok (.istore_n 3, 1) := by decide +kernel
theorem dX7_lowest_4 : decode cX7_lowest 4 = .ok (.iload_n 3, 1) := by decide +kernel
theorem dX7_lowest_5 : decode cX7_lowest 5 = .ok (.ifCond .lt 28, 3) := by decide +kernel
theorem dX7_lowest_8 : decode cX7_lowest 8 = .ok (.aload_n 0, 1) := by decide +kernel
theorem dX7_lowest_9 : decode cX7_lowest 9 = .ok (.getfield 7, 3) := by decide +kernel
theorem dX7_lowest_12 : decode cX7_lowest 12 = .ok (.iconst 3, 1) := by decide +kernel
theorem dX7_lowest_13 : decode cX7_lowest 13 = .ok (.iload_n 1, 1) := by decide +kernel
theorem dX7_lowest_14 : decode cX7_lowest 14 = .ok (.imul, 1) := by decide +kernel
theorem dX7_lowest_15 : decode cX7_lowest 15 = .ok (.iload_n 3, 1) := by decide +kernel
theorem dX7_lowest_16 : decode cX7_lowest 16 = .ok (.iadd, 1) := by decide +kernel
theorem dX7_lowest_17 : decode cX7_lowest 17 = .ok (.iaload, 1) := by decide +kernel
theorem dX7_lowest_18 : decode cX7_lowest 18 = .ok (.ifCond .le 7, 3) := by decide +kernel
theorem dX7_lowest_21 : decode cX7_lowest 21 = .ok (.iload_n 3, 1) := by decide +kernel
theorem dX7_lowest_22 : decode cX7_lowest 22 = .ok (.goto 4, 3) := by decide +kernel
theorem dX7_lowest_25 : decode cX7_lowest 25 = .ok (.iload_n 2, 1) := by decide +kernel
theorem dX7_lowest_26 : decode cX7_lowest 26 = .ok (.istore_n 2, 1) := by decide +kernel
theorem dX7_lowest_27 : decode cX7_lowest 27 = .ok (.iinc 3 (-1), 3) := by decide +kernel
theorem dX7_lowest_30 : decode cX7_lowest 30 = .ok (.goto (-26), 3) := by decide +kernel
theorem dX7_lowest_33 : decode cX7_lowest 33 = .ok (.iload_n 2, 1) := by decide +kernel
theorem dX7_lowest_34 : decode cX7_lowest 34 = .ok (.ireturn, 1) := by decide +kernel
set_option maxRecDepth 20000 in
theorem ggX7_addJob_X7_isTime : GoodIn wsX7_addJob wsX7_isTime := goodIn_r _ [7] (by decide +kernel) (by decide +kernel)
set_option maxRecDepth 20000 in
theorem gX7_addJob_X7_isTime : GoodIn wsX7_addJob (va_wsS RX7 52 yX7_isTime wsX7_isTime) := goodIn_app (goodIn_of _ (by decide +kernel)) ggX7_addJob_X7_isTime
set_option maxRecDepth 20000 in
theorem ggX7_addJob_X7_goes : GoodIn wsX7_addJob wsX7_goes := goodIn_r _ [11, 12, 17, 18, 19, 20, 21, 22, 23, 24, 25, 26, 27, 28, 29, 30] (by decide +kernel) (by decide +kernel)
set_option maxRecDepth 20000 in
theorem gX7_addJob_X7_goes : GoodIn wsX7_addJob (wsV RX7 56 RX7 yX7_goes wsX7_goes) := goodIn_app (goodIn_of _ (by decide +kernel)) ggX7_addJob_X7_goes
set_option maxRecDepth 20000 in
theorem ggX7_addJob_X7_lowest : GoodIn wsX7_addJob wsX7_lowest := goodIn_r _ [16, 2, 17, 18, 19, 20, 21, 22, 23, 24, 25, 26, 27, 28, 29, 30] (by decide +kernel) (by decide +kernel)
set_option maxRecDepth 20000 in
theorem gX7_addJob_X7_lowest : GoodIn wsX7_addJob (wsV RX7 60 RX7 yX7_lowest wsX7_lowest) := goodIn_app (goodIn_of _ (by decide +kernel)) ggX7_addJob_X7_lowest
theorem dX7_addJob_0 : decode cX7_addJob 0 = .ok (.iload_n 1, 1) := by decide +kernel
theorem dX7_addJob_1 : decode cX7_addJob 1 = .ok (.invokestatic 52, 3) := by decide +kernel
theorem dX7_addJob_4 : decode cX7_addJob 4 = .ok (.ifCond .eq 29, 3) := by decide +kernel
theorem dX7_addJob_7 : decode cX7_addJob 7 = .ok (.iload_n 2, 1) := by decide +kernel
theorem dX7_addJob_8 : decode cX7_addJob 8 = .ok (.invokestatic 52, 3) := by decide +kernel
theorem dX7_addJob_11 : decode cX7_addJob 11 = .ok (.ifCond .eq 22, 3) := by decide +kernel
theorem dX7_addJob_14 : decode cX7_addJob 14 = .ok (.iload_n 3, 1) := by decide +kernel
theorem dX7_addJob_15 : decode cX7_addJob 15 = .ok (.invokestatic 52, 3) := by decide +kernel
theorem dX7_addJob_18 : decode cX7_addJob 18 = .ok (.ifCond .eq 15, 3) := by decide +kernel
theorem dX7_addJob_21 : decode cX7_addJob 21 = .ok (.iload_n 1, 1) := by decide +kernel
theorem dX7_addJob_22 : decode cX7_addJob 22 = .ok (.iload_n 2, 1) := by decide +kernel
theorem dX7_addJob_23 : decode cX7_addJob 23 = .ok (.iadd, 1) := by decide +kernel
theorem dX7_addJob_24 : decode cX7_addJob 24 = .ok (.iload_n 3, 1) := by decide +kernel
theorem dX7_addJob_25 : decode cX7_addJob 25 = .ok (.iadd, 1) := by decide +kernel
theorem dX7_addJob_26 : decode cX7_addJob 26 = .ok (.ifCond .le 7, 3) := by decide +kernel
theorem dX7_addJob_29 : decode cX7_addJob 29 = .ok (.iconst 1, 1) := by decide +kernel
theorem dX7_addJob_30 : decode cX7_addJob 30 = .ok (.goto 4, 3) := by decide +kernel
theorem dX7_addJob_33 : decode cX7_addJob 33 = .ok (.iconst 0, 1) := by decide +kernel
theorem dX7_addJob_34 : decode cX7_addJob 34 = .ok (.istore 4, 2) := by decide +kernel
theorem dX7_addJob_36 : decode cX7_addJob 36 = .ok (.aload_n 0, 1) := by decide +kernel
theorem dX7_addJob_37 : decode cX7_addJob 37 = .ok (.iload 4, 2) := by decide +kernel
theorem dX7_addJob_39 : decode cX7_addJob 39 = .ok (.aload_n 0, 1) := by decide +kernel
theorem dX7_addJob_40 : decode cX7_addJob 40 = .ok (.getfield 49, 3) := by decide +kernel
theorem dX7_addJob_43 : decode cX7_addJob 43 = .ok (.bipush 7, 2) := by decide +kernel
theorem dX7_addJob_45 : decode cX7_addJob 45 = .ok (.if_icmp .ge 7, 3) := by decide +kernel
theorem dX7_addJob_48 : decode cX7_addJob 48 = .ok (.iconst 1, 1) := by decide +kernel
theorem dX7_addJob_49 : decode cX7_addJob 49 = .ok (.goto 4, 3) := by decide +kernel
theorem dX7_addJob_52 : decode cX7_addJob 52 = .ok (.iconst 0, 1) := by decide +kernel
theorem dX7_addJob_53 : decode cX7_addJob 53 = .ok (.iconst 1, 1) := by decide +kernel
theorem dX7_addJob_54 : decode cX7_addJob 54 = .ok (.invokevirtual 56, 3) := by decide +kernel
theorem dX7_addJob_57 : decode cX7_addJob 57 = .ok (.ifCond .ne 5, 3) := by decide +kernel
theorem dX7_addJob_60 : decode cX7_addJob 60 = .ok (.iconst 0, 1) := by decide +kernel
theorem dX7_addJob_61 : decode cX7_addJob 61 = .ok (.ireturn, 1) := by decide +kernel
theorem dX7_addJob_62 : decode cX7_addJob 62 = .ok (.aload_n 0, 1) := by decide +kernel
theorem dX7_addJob_63 : decode cX7_addJob 63 = .ok (.getfield 7, 3) := by decide +kernel
theorem dX7_addJob_66 : decode cX7_addJob 66 = .ok (.iconst 3, 1) := by decide +kernel
theorem dX7_addJob_67 : decode cX7_addJob 67 = .ok (.aload_n 0, 1) := by decide +kernel
theorem dX7_addJob_68 : decode cX7_addJob 68 = .ok (.getfield 49, 3) := by decide +kernel
theorem dX7_addJob_71 : decode cX7_addJob 71 = .ok (.imul, 1) := by decide +kernel
theorem dX7_addJob_72 : decode cX7_addJob 72 = .ok (.iload_n 1, 1) := by decide +kernel
theorem dX7_addJob_73 : decode cX7_addJob 73 = .ok (.iastore, 1) := by decide +kernel
theorem dX7_addJob_74 : decode cX7_addJob 74 = .ok (.aload_n 0, 1) := by decide +kernel
theorem dX7_addJob_75 : decode cX7_addJob 75 = .ok (.getfield 7, 3) := by decide +kernel
theorem dX7_addJob_78 : decode cX7_addJob 78 = .ok (.iconst 3, 1) := by decide +kernel
theorem dX7_addJob_79 : decode cX7_addJob 79 = .ok (.aload_n 0, 1) := by decide +kernel
theorem dX7_addJob_80 : decode cX7_addJob 80 = .ok (.getfield 49, 3) := by decide +kernel
theorem dX7_addJob_83 : decode cX7_addJob 83 = .ok (.imul, 1) := by decide +kernel
theorem dX7_addJob_84 : decode cX7_addJob 84 = .ok (.iconst 1, 1) := by decide +kernel
theorem dX7_addJob_85 : decode cX7_addJob 85 = .ok (.iadd, 1) := by decide +kernel
theorem dX7_addJob_86 : decode cX7_addJob 86 = .ok (.iload_n 2, 1) := by decide +kernel
theorem dX7_addJob_87 : decode cX7_addJob 87 = .ok (.iastore, 1) := by decide +kernel
theorem dX7_addJob_88 : decode cX7_addJob 88 = .ok (.aload_n 0, 1) := by decide +kernel
theorem dX7_addJob_89 : decode cX7_addJob 89 = .ok (.getfield 7, 3) := by decide +kernel
theorem dX7_addJob_92 : decode cX7_addJob 92 = .ok (.iconst 3, 1) := by decide +kernel
theorem dX7_addJob_93 : decode cX7_addJob 93 = .ok (.aload_n 0, 1) := by decide +kernel
theorem dX7_addJob_94 : decode cX7_addJob 94 = .ok (.getfield 49, 3) := by decide +kernel
theorem dX7_addJob_97 : decode cX7_addJob 97 = .ok (.imul, 1) := by decide +kernel
theorem dX7_addJob_98 : decode cX7_addJob 98 = .ok (.iconst 2, 1) := by decide +kernel
theorem dX7_addJob_99 : decode cX7_addJob 99 = .ok (.iadd, 1) := by decide +kernel
theorem dX7_addJob_100 : decode cX7_addJob 100 = .ok (.iload_n 3, 1) := by decide +kernel
theorem dX7_addJob_101 : decode cX7_addJob 101 = .ok (.iastore, 1) := by decide +kernel
theorem dX7_addJob_102 : decode cX7_addJob 102 = .ok (.aload_n 0, 1) := by decide +kernel
theorem dX7_addJob_103 : decode cX7_addJob 103 = .ok (.getfield 13, 3) := by decide +kernel
theorem dX7_addJob_106 : decode cX7_addJob 106 = .ok (.aload_n 0, 1) := by decide +kernel
theorem dX7_addJob_107 : decode cX7_addJob 107 = .ok (.getfield 49, 3) := by decide +kernel
theorem dX7_addJob_110 : decode cX7_addJob 110 = .ok (.aload_n 0, 1) := by decide +kernel
theorem dX7_addJob_111 : decode cX7_addJob 111 = .ok (.aload_n 0, 1) := by decide +kernel
theorem dX7_addJob_112 : decode cX7_addJob 112 = .ok (.getfield 49, 3) := by decide +kernel
theorem dX7_addJob_115 : decode cX7_addJob 115 = .ok (.invokevirtual 60, 3) := by decide +kernel
theorem dX7_addJob_118 : decode cX7_addJob 118 = .ok (.iastore, 1) := by decide +kernel
theorem dX7_addJob_119 : decode cX7_addJob 119 = .ok (.aload_n 0, 1) := by decide +kernel
theorem dX7_addJob_120 : decode cX7_addJob 120 = .ok (.dup, 1) := by decide +kernel
theorem dX7_addJob_121 : decode cX7_addJob 121 = .ok (.getfield 49, 3) := by decide +kernel
theorem dX7_addJob_124 : decode cX7_addJob 124 = .ok (.iconst 1, 1) := by decide +kernel
theorem dX7_addJob_125 : decode cX7_addJob 125 = .ok (.iadd, 1) := by decide +kernel
theorem dX7_addJob_126 : decode cX7_addJob 126 = .ok (.putfield 49, 3) := by decide +kernel
theorem dX7_addJob_129 : decode cX7_addJob 129 = .ok (.aload_n 0, 1) := by decide +kernel
theorem dX7_addJob_130 : decode cX7_addJob 130 = .ok (.getfield 49, 3) := by decide +kernel
theorem dX7_addJob_133 : decode cX7_addJob 133 = .ok (.iconst 1, 1) := by decide +kernel
theorem dX7_addJob_134 : decode cX7_addJob 134 = .ok (.isub, 1) := by decide +kernel
theorem dX7_addJob_135 : decode cX7_addJob 135 = .ok (.ireturn, 1) := by decide +kernel
set_option maxRecDepth 20000 in
theorem ggX7_setTime_X7_isJob : GoodIn wsX7_setTime wsX7_isJob := goodIn_r _ [7, 8, 20, 21, 22, 23, 24, 25, 26, 27, 28, 29, 30, 31, 32, 33] (by decide +kernel) (by decide +kernel)
set_option maxRecDepth 20000 in
theorem gX7_setTime_X7_isJob : GoodIn wsX7_setTime (wsV RX7 64 RX7 yX7_isJob wsX7_isJob) := goodIn_app (goodIn_of _ (by decide +kernel)) ggX7_setTime_X7_isJob
set_option maxRecDepth 20000 in
theorem ggX7_setTime_X7_isMachine : GoodIn wsX7_setTime wsX7_isMachine := goodIn_r _ [11] (by decide +kernel) (by decide +kernel)
set_option maxRecDepth 20000 in
theorem gX7_setTime_X7_isMachine : GoodIn wsX7_setTime (va_wsS RX7 67 yX7_isMachine wsX7_isMachine) := goodIn_app (goodIn_of _ (by decide +kernel)) ggX7_setTime_X7_isMachine
set_option maxRecDepth 20000 in
theorem ggX7_setTime_X7_isTime : GoodIn wsX7_setTime wsX7_isTime := goodIn_r _ [14] (by decide +kernel) (by decide +kernel)
set_option maxRecDepth 20000 in
theorem gX7_setTime_X7_isTime : GoodIn wsX7_setTime (va_wsS RX7 52 yX7_isTime wsX7_isTime) := goodIn_app (goodIn_of _ (by decide +kernel)) ggX7_setTime_X7_isTime
set_option maxRecDepth 20000 in
theorem ggX7_setTime_X7_goes : GoodIn wsX7_setTime wsX7_goes := goodIn_r _ [18, 19, 20, 21, 22, 23, 24, 25, 26, 27, 28, 29, 30, 31, 32, 33] (by decide +kernel) (by decide +kernel)
set_option maxRecDepth 20000 in
theorem gX7_setTime_X7_goes : GoodIn wsX7_setTime (wsV RX7 56 RX7 yX7_goes wsX7_goes) := goodIn_app (goodIn_of _ (by decide +kernel)) ggX7_setTime_X7_goes
theorem dX7_setTime_0 : decode cX7_setTime 0 = .ok (.aload_n 0, 1) := by decide +kernel
theorem dX7_setTime_1 : decode cX7_setTime 1 = .ok (.iload_n 1, 1) := by decide +kernel
theorem dX7_setTime_2 : decode cX7_setTime 2 = .ok (.invokevirtual 64, 3) := by decide +kernel
theorem dX7_setTime_5 : decode cX7_setTime 5 = .ok (.ifCond .eq 14, 3) := by decide +kernel
theorem dX7_setTime_8 : decode cX7_setTime 8 = .ok (.iload_n 2, 1) := by decide +kernel
theorem dX7_setTime_9 : decode cX7_setTime 9 = .ok (.invokestatic 67, 3) := by decide +kernel
theorem dX7_setTime_12 : decode cX7_setTime 12 = .ok (.ifCond .eq 7, 3) := by decide +kernel
theorem dX7_setTime_15 : decode cX7_setTime 15 = .ok (.iconst 1, 1) := by decide +kernel
theorem dX7_setTime_16 : decode cX7_setTime 16 = .ok (.goto 4, 3) := by decide +kernel
theorem dX7_setTime_19 : decode cX7_setTime 19 = .ok (.iconst 0, 1) := by decide +kernel
theorem dX7_setTime_20 : decode cX7_setTime 20 = .ok (.istore 4, 2) := by decide +kernel
theorem dX7_setTime_22 : decode cX7_setTime 22 = .ok (.aload_n 0, 1) := by decide +kernel
theorem dX7_setTime_23 : decode cX7_setTime 23 = .ok (.iload 4, 2) := by decide +kernel
theorem dX7_setTime_25 : decode cX7_setTime 25 = .ok (.iload_n 3, 1) := by decide +kernel
theorem dX7_setTime_26 : decode cX7_setTime 26 = .ok (.invokestatic 52, 3) := by decide +kernel
theorem dX7_setTime_29 : decode cX7_setTime 29 = .ok (.iload 4, 2) := by decide +kernel
theorem dX7_setTime_31 : decode cX7_setTime 31 = .ok (.ifCond .eq 21, 3) := by decide +kernel
theorem dX7_setTime_34 : decode cX7_setTime 34 = .ok (.iload_n 3, 1) := by decide +kernel
theorem dX7_setTime_35 : decode cX7_setTime 35 = .ok (.ifCond .gt 13, 3) := by decide +kernel
theorem dX7_setTime_38 : decode cX7_setTime 38 = .ok (.aload_n 0, 1) := by decide +kernel
theorem dX7_setTime_39 : decode cX7_setTime 39 = .ok (.getfield 13, 3) := by decide +kernel
theorem dX7_setTime_42 : decode cX7_setTime 42 = .ok (.iload_n 1, 1) := by decide +kernel
theorem dX7_setTime_43 : decode cX7_setTime 43 = .ok (.iaload, 1) := by decide +kernel
theorem dX7_setTime_44 : decode cX7_setTime 44 = .ok (.iload_n 2, 1) := by decide +kernel
theorem dX7_setTime_45 : decode cX7_setTime 45 = .ok (.if_icmp .eq 7, 3) := by decide +kernel
theorem dX7_setTime_48 : decode cX7_setTime 48 = .ok (.iconst 1, 1) := by decide +kernel
theorem dX7_setTime_49 : decode cX7_setTime 49 = .ok (.goto 4, 3) := by decide +kernel
theorem dX7_setTime_52 : decode cX7_setTime 52 = .ok (.iconst 0, 1) := by decide +kernel
theorem dX7_setTime_53 : decode cX7_setTime 53 = .ok (.invokevirtual 56, 3) := by decide +kernel
theorem dX7_setTime_56 : decode cX7_setTime 56 = .ok (.ifCond .ne 5, 3) := by decide +kernel
theorem dX7_setTime_59 : decode cX7_setTime 59 = .ok (.iconst 0, 1) := by decide +kernel
theorem dX7_setTime_60 : decode cX7_setTime 60 = .ok (.ireturn, 1) := by decide +kernel
theorem dX7_setTime_61 : decode cX7_setTime 61 = .ok (.aload_n 0, 1) := by decide +kernel
theorem dX7_setTime_62 : decode cX7_setTime 62 = .ok (.getfield 7, 3) := by decide +kernel
theorem dX7_setTime_65 : decode cX7_setTime 65 = .ok (.iconst 3, 1) := by decide +kernel
theorem dX7_setTime_66 : decode cX7_setTime 66 = .ok (.iload_n 1, 1) := by decide +kernel
theorem dX7_setTime_67 : decode cX7_setTime 67 = .ok (.imul, 1) := by decide +kernel
theorem dX7_setTime_68 : decode cX7_setTime 68 = .ok (.iload_n 2, 1) := by decide +kernel
theorem dX7_setTime_69 : decode cX7_setTime 69 = .ok (.iadd, 1) := by decide +kernel
theorem dX7_setTime_70 : decode cX7_setTime 70 = .ok (.iaload, 1) := by decide +kernel
theorem dX7_setTime_71 : decode cX7_setTime 71 = .ok (.istore 5, 2) := by decide +kernel
theorem dX7_setTime_73 : decode cX7_setTime 73 = .ok (.aload_n 0, 1) := by decide +kernel
theorem dX7_setTime_74 : decode cX7_setTime 74 = .ok (.getfield 7, 3) := by decide +kernel
theorem dX7_setTime_77 : decode cX7_setTime 77 = .ok (.iconst 3, 1) := by decide +kernel
theorem dX7_setTime_78 : decode cX7_setTime 78 = .ok (.iload_n 1, 1) := by decide +kernel
theorem dX7_setTime_79 : decode cX7_setTime 79 = .ok (.imul, 1) := by decide +kernel
theorem dX7_setTime_80 : decode cX7_setTime 80 = .ok (.iload_n 2, 1) := by decide +kernel
theorem dX7_setTime_81 : decode cX7_setTime 81 = .ok (.iadd, 1) := by decide +kernel
theorem dX7_setTime_82 : decode cX7_setTime 82 = .ok (.iload_n 3, 1) := by decide +kernel
theorem dX7_setTime_83 : decode cX7_setTime 83 = .ok (.iastore, 1) := by decide +kernel
theorem dX7_setTime_84 : decode cX7_setTime 84 = .ok (.iload 5, 2) := by decide +kernel
theorem dX7_setTime_86 : decode cX7_setTime 86 = .ok (.ireturn, 1) := by decide +kernel
theorem dX7_removeLast_0 : decode cX7_removeLast 0 = .ok (.aload_n 0, 1) := by decide +kernel
theorem dX7_removeLast_1 : decode cX7_removeLast 1 = .ok (.iconst 0, 1) := by decide +kernel
theorem dX7_removeLast_2 : decode cX7_removeLast 2 = .ok (.putfield 45, 3) := by decide +kernel
theorem dX7_removeLast_5 : decode cX7_removeLast 5 = .ok (.aload_n 0, 1) := by decide +kernel
theorem dX7_removeLast_6 : decode cX7_removeLast 6 = .ok (.getfield 49, 3) := by decide +kernel
theorem dX7_removeLast_9 : decode cX7_removeLast 9 = .ok (.ifCond .ne 5, 3) := by decide +kernel
theorem dX7_removeLast_12 : decode cX7_removeLast 12 = .ok (.iconst (-1), 1) := by decide +kernel
theorem dX7_removeLast_13 : decode cX7_removeLast 13 = .ok (.ireturn, 1) := by decide +kernel
theorem dX7_removeLast_14 : decode cX7_removeLast 14 = .ok (.aload_n 0, 1) := by decide +kernel
theorem dX7_removeLast_15 : decode cX7_removeLast 15 = .ok (.dup, 1) := by decide +kernel
theorem dX7_removeLast_16 : decode cX7_removeLast 16 = .ok (.getfield 49, 3) := by decide +kernel
theorem dX7_removeLast_19 : decode cX7_removeLast 19 = .ok (.iconst 1, 1) := by decide +kernel
theorem dX7_removeLast_20 : decode cX7_removeLast 20 = .ok (.isub, 1) := by decide +kernel
theorem dX7_removeLast_21 : decode cX7_removeLast 21 = .ok (.putfield 49, 3) := by decide +kernel
theorem dX7_removeLast_24 : decode cX7_removeLast 24 = .ok (.aload_n 0, 1) := by decide +kernel
theorem dX7_removeLast_25 : decode cX7_removeLast 25 = .ok (.getfield 49, 3) := by decide +kernel
theorem dX7_removeLast_28 : decode cX7_removeLast 28 = .ok (.ireturn, 1) := by decide +kernel
theorem dX7_jobs_0 : decode cX7_jobs 0 = .ok (.aload_n 0, 1) := by decide +kernel
theorem dX7_jobs_1 : decode cX7_jobs 1 = .ok (.iconst 0, 1) := by decide +kernel
theorem dX7_jobs_2 : decode cX7_jobs 2 = .ok (.putfield 45, 3) := by decide +kernel
theorem dX7_jobs_5 : decode cX7_jobs 5 = .ok (.aload_n 0, 1) := by decide +kernel
theorem dX7_jobs_6 : decode cX7_jobs 6 = .ok (.getfield 49, 3) := by decide +kernel
theorem dX7_jobs_9 : decode cX7_jobs 9 = .ok (.ireturn, 1) := by decide +kernel
set_option maxRecDepth 20000 in
theorem ggX7_time_X7_isJob : GoodIn wsX7_time wsX7_isJob := goodIn_r _ [6, 7, 16, 17, 18, 19, 20, 21, 22, 23, 24, 25, 26, 27, 28, 29] (by decide +kernel) (by decide +kernel)
set_option maxRecDepth 20000 in
theorem gX7_time_X7_isJob : GoodIn wsX7_time (wsV RX7 64 RX7 yX7_isJob wsX7_isJob) := goodIn_app (goodIn_of _ (by decide +kernel)) ggX7_time_X7_isJob
set_option maxRecDepth 20000 in
theorem ggX7_time_X7_isMachine : GoodIn wsX7_time wsX7_isMachine := goodIn_r _ [10] (by decide +kernel) (by decide +kernel)
set_option maxRecDepth 20000 in
theorem gX7_time_X7_isMachine : GoodIn wsX7_time (va_wsS RX7 67 yX7_isMachine wsX7_isMachine) := goodIn_app (goodIn_of _ (by decide +kernel)) ggX7_time_X7_isMachine
set_option maxRecDepth 20000 in
theorem ggX7_time_X7_goes : GoodIn wsX7_time wsX7_goes := goodIn_r _ [14, 15, 16, 17, 18, 19, 20, 21, 22, 23, 24, 25, 26, 27, 28, 29] (by decide +kernel) (by decide +kernel)
set_option maxRecDepth 20000 in
theorem gX7_time_X7_goes : GoodIn wsX7_time (wsV RX7 56 RX7 yX7_goes wsX7_goes) := goodIn_app (goodIn_of _ (by decide +kernel)) ggX7_time_X7_goes
theorem dX7_time_0 : decode cX7_time 0 = .ok (.aload_n 0, 1) := by decide +kernel
theorem dX7_time_1 : decode cX7_time 1 = .ok (.aload_n 0, 1) := by decide +kernel
theorem dX7_time_2 : decode cX7_time 2 = .ok (.iload_n 1, 1) := by decide +kernel
theorem dX7_time_3 : decode cX7_time 3 = .ok (.invokevirtual 64, 3) := by decide +kernel
theorem dX7_time_6 : decode cX7_time 6 = .ok (.ifCond .eq 14, 3) := by decide +kernel
theorem dX7_time_9 : decode cX7_time 9 = .ok (.iload_n 2, 1) := by decide +kernel
theorem dX7_time_10 : decode cX7_time 10 = .ok (.invokestatic 67, 3) := by decide +kernel
theorem dX7_time_13 : decode cX7_time 13 = .ok (.ifCond .eq 7, 3) := by decide +kernel
theorem dX7_time_16 : decode cX7_time 16 = .ok (.iconst 1, 1) := by decide +kernel
theorem dX7_time_17 : decode cX7_time 17 = .ok (.goto 4, 3) := by decide +kernel
theorem dX7_time_20 : decode cX7_time 20 = .ok (.iconst 0, 1) := by decide +kernel
theorem dX7_time_21 : decode cX7_time 21 = .ok (.iconst 1, 1) := by decide +kernel
theorem dX7_time_22 : decode cX7_time 22 = .ok (.iconst 1, 1) := by decide +kernel
theorem dX7_time_23 : decode cX7_time 23 = .ok (.invokevirtual 56, 3) := by decide +kernel
theorem dX7_time_26 : decode cX7_time 26 = .ok (.ifCond .eq 16, 3) := by decide +kernel
theorem dX7_time_29 : decode cX7_time 29 = .ok (.aload_n 0, 1) := by decide +kernel
theorem dX7_time_30 : decode cX7_time 30 = .ok (.getfield 7, 3) := by decide +kernel
theorem dX7_time_33 : decode cX7_time 33 = .ok (.iconst 3, 1) := by decide +kernel
theorem dX7_time_34 : decode cX7_time 34 = .ok (.iload_n 1, 1) := by decide +kernel
theorem dX7_time_35 : decode cX7_time 35 = .ok (.imul, 1) := by decide +kernel
theorem dX7_time_36 : decode cX7_time 36 = .ok (.iload_n 2, 1) := by decide +kernel
theorem dX7_time_37 : decode cX7_time 37 = .ok (.iadd, 1) := by decide +kernel
theorem dX7_time_38 : decode cX7_time 38 = .ok (.iaload, 1) := by decide +kernel
theorem dX7_time_39 : decode cX7_time 39 = .ok (.goto 4, 3) := by decide +kernel
theorem dX7_time_42 : decode cX7_time 42 = .ok (.iconst 0, 1) := by decide +kernel
theorem dX7_time_43 : decode cX7_time 43 = .ok (.ireturn, 1) := by decide +kernel
theorem dX7_measures_0 : decode cX7_measures 0 = .ok (.iconst 0, 1) := by decide +kernel
theorem dX7_measures_1 : decode cX7_measures 1 = .ok (.istore_n 2, 1) := by decide +kernel
theorem dX7_measures_2 : decode cX7_measures 2 = .ok (.iconst 0, 1) := by decide +kernel
theorem dX7_measures_3 : decode cX7_measures 3 = .ok (.istore_n 3, 1) := by decide +kernel
theorem dX7_measures_4 : decode cX7_measures 4 = .ok (.iload_n 3, 1) := by decide +kernel
theorem dX7_measures_5 : decode cX7_measures 5 = .ok (.iconst 3, 1) := by decide +kernel
theorem dX7_measures_6 : decode cX7_measures 6 = .ok (.if_icmp .ge 87, 3) := by decide +kernel
theorem dX7_measures_9 : decode cX7_measures 9 = .ok (.aload_n 0, 1) := by decide +kernel
theorem dX7_measures_10 : decode cX7_measures 10 = .ok (.getfield 42, 3) := by decide +kernel
theorem dX7_measures_13 : decode cX7_measures 13 = .ok (.iload_n 3, 1) := by decide +kernel
theorem dX7_measures_14 : decode cX7_measures 14 = .ok (.iconst 0, 1) := by decide +kernel
theorem dX7_measures_15 : decode cX7_measures 15 = .ok (.iastore, 1) := by decide +kernel
theorem dX7_measures_16 : decode cX7_measures 16 = .ok (.iconst 0, 1) := by decide +kernel
theorem dX7_measures_17 : decode cX7_measures 17 = .ok (.istore 4, 2) := by decide +kernel
theorem dX7_measures_19 : decode cX7_measures 19 = .ok (.iload 4, 2) := by decide +kernel
theorem dX7_measures_21 : decode cX7_measures 21 = .ok (.aload_n 0, 1) := by decide +kernel
theorem dX7_measures_22 : decode cX7_measures 22 = .ok (.getfield 49, 3) := by decide +kernel
theorem dX7_measures_25 : decode cX7_measures 25 = .ok (.if_icmp .ge 41, 3) := by decide +kernel
theorem dX7_measures_28 : decode cX7_measures 28 = .ok (.aload_n 0, 1) := by decide +kernel
theorem dX7_measures_29 : decode cX7_measures 29 = .ok (.getfield 42, 3) := by decide +kernel
theorem dX7_measures_32 : decode cX7_measures 32 = .ok (.iload_n 3, 1) := by decide +kernel
theorem dX7_measures_33 : decode cX7_measures 33 = .ok (.dup2, 1) := by decide +kernel
theorem dX7_measures_34 : decode cX7_measures 34 = .ok (.iaload, 1) := by decide +kernel
theorem dX7_measures_35 : decode cX7_measures 35 = .ok (.aload_n 1, 1) := by decide +kernel
theorem dX7_measures_36 : decode cX7_measures 36 = .ok (.iload 4, 2) := by decide +kernel
theorem dX7_measures_38 : decode cX7_measures 38 = .ok (.iaload, 1) := by decide +kernel
theorem dX7_measures_39 : decode cX7_measures 39 = .ok (.iload_n 3, 1) := by decide +kernel
theorem dX7_measures_40 : decode cX7_measures 40 = .ok (.if_icmp .ne 17, 3) := by decide +kernel
theorem dX7_measures_43 : decode cX7_measures 43 = .ok (.aload_n 0, 1) := by decide +kernel
theorem dX7_measures_44 : decode cX7_measures 44 = .ok (.getfield 7, 3) := by decide +kernel
theorem dX7_measures_47 : decode cX7_measures 47 = .ok (.iconst 3, 1) := by decide +kernel
theorem dX7_measures_48 : decode cX7_measures 48 = .ok (.iload 4, 2) := by decide +kernel
theorem dX7_measures_50 : decode cX7_measures 50 = .ok (.imul, 1) := by decide +kernel
theorem dX7_measures_51 : decode cX7_measures 51 = .ok (.iload_n 3, 1) := by decide +kernel
theorem dX7_measures_52 : decode cX7_measures 52 = .ok (.iadd, 1) := by decide +kernel
theorem dX7_measures_53 : decode cX7_measures 53 = .ok (.iaload, 1) := by decide +kernel
theorem dX7_measures_54 : decode cX7_measures 54 = .ok (.goto 4, 3) := by decide +kernel
theorem dX7_measures_57 : decode cX7_measures 57 = .ok (.iconst 0, 1) := by decide +kernel
theorem dX7_measures_58 : decode cX7_measures 58 = .ok (.iadd, 1) := by decide +kernel
theorem dX7_measures_59 : decode cX7_measures 59 = .ok (.iastore, 1) := by decide +kernel
theorem dX7_measures_60 : decode cX7_measures 60 = .ok (.iinc 4 1, 3) := by decide +kernel
theorem dX7_measures_63 : decode cX7_measures 63 = .ok (.goto (-44), 3) := by decide +kernel
theorem dX7_measures_66 : decode cX7_measures 66 = .ok (.aload_n 0, 1) := by decide +kernel
theorem dX7_measures_67 : decode cX7_measures 67 = .ok (.getfield 42, 3) := by decide +kernel
theorem dX7_measures_70 : decode cX7_measures 70 = .ok (.iload_n 3, 1) := by decide +kernel
theorem dX7_measures_71 : decode cX7_measures 71 = .ok (.iaload, 1) := by decide +kernel
theorem dX7_measures_72 : decode cX7_measures 72 = .ok (.iload_n 2, 1) := by decide +kernel
theorem dX7_measures_73 : decode cX7_measures 73 = .ok (.if_icmp .le 12, 3) := by decide +kernel
theorem dX7_measures_76 : decode cX7_measures 76 = .ok (.aload_n 0, 1) := by decide +kernel
theorem dX7_measures_77 : decode cX7_measures 77 = .ok (.getfield 42, 3) := by decide +kernel
theorem dX7_measures_80 : decode cX7_measures 80 = .ok (.iload_n 3, 1) := by decide +kernel
theorem dX7_measures_81 : decode cX7_measures 81 = .ok (.iaload, 1) := by decide +kernel
theorem dX7_measures_82 : decode cX7_measures 82 = .ok (.goto 4, 3) := by decide +kernel
theorem dX7_measures_85 : decode cX7_measures 85 = .ok (.iload_n 2, 1) := by decide +kernel
theorem dX7_measures_86 : decode cX7_measures 86 = .ok (.istore_n 2, 1) := by decide +kernel
theorem dX7_measures_87 : decode cX7_measures 87 = .ok (.iinc 3 1, 3) := by decide +kernel
theorem dX7_measures_90 : decode cX7_measures 90 = .ok (.goto (-86), 3) := by decide +kernel
theorem dX7_measures_93 : decode cX7_measures 93 = .ok (.iload_n 2, 1) := by decide +kernel
theorem dX7_measures_94 : decode cX7_measures 94 = .ok (.ireturn, 1) := by decide +kernel
set_option maxRecDepth 20000 in
theorem ggX7_shortestOf_X7_measures : GoodIn wsX7_shortestOf wsX7_measures := goodIn_r _ [9, 10, 1, 3, 11, 12, 13, 14, 15, 16, 17, 18, 19, 20, 21, 22, 23, 24] (by decide +kernel) (by decide +kernel)
set_option maxRecDepth 20000 in
theorem gX7_shortestOf_X7_measures : GoodIn wsX7_shortestOf (wsV RX7 70 RX7 yX7_measures wsX7_measures) := goodIn_app (goodIn_of _ (by decide +kernel)) ggX7_shortestOf_X7_measures
theorem dX7_shortestOf_0 : decode cX7_shortestOf 0 = .ok (.iconst 1, 1) := by decide +kernel
theorem dX7_shortestOf_1 : decode cX7_shortestOf 1 = .ok (.istore_n 1, 1) := by decide +kernel
theorem dX7_shortestOf_2 : decode cX7_shortestOf 2 = .ok (.iconst 0, 1) := by decide +kernel
theorem dX7_shortestOf_3 : decode cX7_shortestOf 3 = .ok (.istore_n 2, 1) := by decide +kernel
theorem dX7_shortestOf_4 : decode cX7_shortestOf 4 = .ok (.iload_n 2, 1) := by decide +kernel
theorem dX7_shortestOf_5 : decode cX7_shortestOf 5 = .ok (.aload_n 0, 1) := by decide +kernel
theorem dX7_shortestOf_6 : decode cX7_shortestOf 6 = .ok (.getfield 49, 3) := by decide +kernel
theorem dX7_shortestOf_9 : decode cX7_shortestOf 9 = .ok (.if_icmp .ge 13, 3) := by decide +kernel
theorem dX7_shortestOf_12 : decode cX7_shortestOf 12 = .ok (.iload_n 1, 1) := by decide +kernel
theorem dX7_shortestOf_13 : decode cX7_shortestOf 13 = .ok (.iconst 3, 1) := by decide +kernel
theorem dX7_shortestOf_14 : decode cX7_shortestOf 14 = .ok (.imul, 1) := by decide +kernel
theorem dX7_shortestOf_15 : decode cX7_shortestOf 15 = .ok (.istore_n 1, 1) := by decide +kernel
theorem dX7_shortestOf_16 : decode cX7_shortestOf 16 = .ok (.iinc 2 1, 3) := by decide +kernel
theorem dX7_shortestOf_19 : decode cX7_shortestOf 19 = .ok (.goto (-15), 3) := by decide +kernel
theorem dX7_shortestOf_22 : decode cX7_shortestOf 22 = .ok (.iconst (-1), 1) := by decide +kernel
theorem dX7_shortestOf_23 : decode cX7_shortestOf 23 = .ok (.istore_n 2, 1) := by decide +kernel
theorem dX7_shortestOf_24 : decode cX7_shortestOf 24 = .ok (.iconst 0, 1) := by decide +kernel
theorem dX7_shortestOf_25 : decode cX7_shortestOf 25 = .ok (.istore_n 3, 1) := by decide +kernel
theorem dX7_shortestOf_26 : decode cX7_shortestOf 26 = .ok (.iload_n 3, 1) := by decide +kernel
theorem dX7_shortestOf_27 : decode cX7_shortestOf 27 = .ok (.iload_n 1, 1) := by decide +kernel
theorem dX7_shortestOf_28 : decode cX7_shortestOf 28 = .ok (.if_icmp .ge 152, 3) := by decide +kernel
theorem dX7_shortestOf_31 : decode cX7_shortestOf 31 = .ok (.iload_n 3, 1) := by decide +kernel
theorem dX7_shortestOf_32 : decode cX7_shortestOf 32 = .ok (.istore 4, 2) := by decide +kernel
theorem dX7_shortestOf_34 : decode cX7_shortestOf 34 = .ok (.iconst 1, 1) := by decide +kernel
theorem dX7_shortestOf_35 : decode cX7_shortestOf 35 = .ok (.istore 5, 2) := by decide +kernel
theorem dX7_shortestOf_37 : decode cX7_shortestOf 37 = .ok (.aload_n 0, 1) := by decide +kernel
theorem dX7_shortestOf_38 : decode cX7_shortestOf 38 = .ok (.getfield 49, 3) := by decide +kernel
theorem dX7_shortestOf_41 : decode cX7_shortestOf 41 = .ok (.iconst 1, 1) := by decide +kernel
theorem dX7_shortestOf_42 : decode cX7_shortestOf 42 = .ok (.isub, 1) := by decide +kernel
theorem dX7_shortestOf_43 : decode cX7_shortestOf 43 = .ok (.istore 6, 2) := by decide +kernel
theorem dX7_shortestOf_45 : decode cX7_shortestOf 45 = .ok (.iload 6, 2) := by decide +kernel
theorem dX7_shortestOf_47 : decode cX7_shortestOf 47 = .ok (.ifCond .lt 58, 3) := by decide +kernel
theorem dX7_shortestOf_50 : decode cX7_shortestOf 50 = .ok (.aload_n 0, 1) := by decide +kernel
theorem dX7_shortestOf_51 : decode cX7_shortestOf 51 = .ok (.getfield 33, 3) := by decide +kernel
theorem dX7_shortestOf_54 : decode cX7_shortestOf 54 = .ok (.iload 6, 2) := by decide +kernel
theorem dX7_shortestOf_56 : decode cX7_shortestOf 56 = .ok (.iload 4, 2) := by decide +kernel
theorem dX7_shortestOf_58 : decode cX7_shortestOf 58 = .ok (.iconst 3, 1) := by decide +kernel
theorem dX7_shortestOf_59 : decode cX7_shortestOf 59 = .ok (.irem, 1) := by decide +kernel
theorem dX7_shortestOf_60 : decode cX7_shortestOf 60 = .ok (.iastore, 1) := by decide +kernel
theorem dX7_shortestOf_61 : decode cX7_shortestOf 61 = .ok (.iload 4, 2) := by decide +kernel
theorem dX7_shortestOf_63 : decode cX7_shortestOf 63 = .ok (.iconst 3, 1) := by decide +kernel
theorem dX7_shortestOf_64 : decode cX7_shortestOf 64 = .ok (.idiv, 1) := by decide +kernel
theorem dX7_shortestOf_65 : decode cX7_shortestOf 65 = .ok (.istore 4, 2) := by decide +kernel
theorem dX7_shortestOf_67 : decode cX7_shortestOf 67 = .ok (.iload 5, 2) := by decide +kernel
theorem dX7_shortestOf_69 : decode cX7_shortestOf 69 = .ok (.ifCond .eq 27, 3) := by decide +kernel
theorem dX7_shortestOf_72 : decode cX7_shortestOf 72 = .ok (.aload_n 0, 1) := by decide +kernel
theorem dX7_shortestOf_73 : decode cX7_shortestOf 73 = .ok (.getfield 7, 3) := by decide +kernel
theorem dX7_shortestOf_76 : decode cX7_shortestOf 76 = .ok (.iconst 3, 1) := by decide +kernel
theorem dX7_shortestOf_77 : decode cX7_shortestOf 77 = .ok (.iload 6, 2) := by decide +kernel
theorem dX7_shortestOf_79 : decode cX7_shortestOf 79 = .ok (.imul, 1) := by decide +kernel
theorem dX7_shortestOf_80 : decode cX7_shortestOf 80 = .ok (.aload_n 0, 1) := by decide +kernel
theorem dX7_shortestOf_81 : decode cX7_shortestOf 81 = .ok (.getfield 33, 3) := by decide +kernel
theorem dX7_shortestOf_84 : decode cX7_shortestOf 84 = .ok (.iload 6, 2) := by decide +kernel
theorem dX7_shortestOf_86 : decode cX7_shortestOf 86 = .ok (.iaload, 1) := by decide +kernel
theorem dX7_shortestOf_87 : decode cX7_shortestOf 87 = .ok (.iadd, 1) := by decide +kernel
theorem dX7_shortestOf_88 : decode cX7_shortestOf 88 = .ok (.iaload, 1) := by decide +kernel
theorem dX7_shortestOf_89 : decode cX7_shortestOf 89 = .ok (.ifCond .le 7, 3) := by decide +kernel
theorem dX7_shortestOf_92 : decode cX7_shortestOf 92 = .ok (.iconst 1, 1) := by decide +kernel
theorem dX7_shortestOf_93 : decode cX7_shortestOf 93 = .ok (.goto 4, 3) := by decide +kernel
theorem dX7_shortestOf_96 : decode cX7_shortestOf 96 = .ok (.iconst 0, 1) := by decide +kernel
theorem dX7_shortestOf_97 : decode cX7_shortestOf 97 = .ok (.istore 5, 2) := by decide +kernel
theorem dX7_shortestOf_99 : decode cX7_shortestOf 99 = .ok (.iinc 6 (-1), 3) := by decide +kernel
theorem dX7_shortestOf_102 : decode cX7_shortestOf 102 = .ok (.goto (-57), 3) := by decide +kernel
theorem dX7_shortestOf_105 : decode cX7_shortestOf 105 = .ok (.iload 5, 2) := by decide +kernel
theorem dX7_shortestOf_107 : decode cX7_shortestOf 107 = .ok (.ifCond .eq 14, 3) := by decide +kernel
theorem dX7_shortestOf_110 : decode cX7_shortestOf 110 = .ok (.aload_n 0, 1) := by decide +kernel
theorem dX7_shortestOf_111 : decode cX7_shortestOf 111 = .ok (.aload_n 0, 1) := by decide +kernel
theorem dX7_shortestOf_112 : decode cX7_shortestOf 112 = .ok (.getfield 33, 3) := by decide +kernel
theorem dX7_shortestOf_115 : decode cX7_shortestOf 115 = .ok (.invokevirtual 70, 3) := by decide +kernel
theorem dX7_shortestOf_118 : decode cX7_shortestOf 118 = .ok (.goto 4, 3) := by decide +kernel
theorem dX7_shortestOf_121 : decode cX7_shortestOf 121 = .ok (.iconst 0, 1) := by decide +kernel
theorem dX7_shortestOf_122 : decode cX7_shortestOf 122 = .ok (.istore 6, 2) := by decide +kernel
theorem dX7_shortestOf_124 : decode cX7_shortestOf 124 = .ok (.iload 5, 2) := by decide +kernel
theorem dX7_shortestOf_126 : decode cX7_shortestOf 126 = .ok (.ifCond .eq 48, 3) := by decide +kernel
theorem dX7_shortestOf_129 : decode cX7_shortestOf 129 = .ok (.iload_n 2, 1) := by decide +kernel
theorem dX7_shortestOf_130 : decode cX7_shortestOf 130 = .ok (.ifCond .lt 9, 3) := by decide +kernel
theorem dX7_shortestOf_133 : decode cX7_shortestOf 133 = .ok (.iload 6, 2) := by decide +kernel
theorem dX7_shortestOf_135 : decode cX7_shortestOf 135 = .ok (.iload_n 2, 1) := by decide +kernel
theorem dX7_shortestOf_136 : decode cX7_shortestOf 136 = .ok (.if_icmp .ge 38, 3) := by decide +kernel
theorem dX7_shortestOf_139 : decode cX7_shortestOf 139 = .ok (.iload 6, 2) := by decide +kernel
theorem dX7_shortestOf_141 : decode cX7_shortestOf 141 = .ok (.istore_n 2, 1) := by decide +kernel
theorem dX7_shortestOf_142 : decode cX7_shortestOf 142 = .ok (.iconst 0, 1) := by decide +kernel
theorem dX7_shortestOf_143 : decode cX7_shortestOf 143 = .ok (.istore 7, 2) := by decide +kernel
theorem dX7_shortestOf_145 : decode cX7_shortestOf 145 = .ok (.iload 7, 2) := by decide +kernel
theorem dX7_shortestOf_147 : decode cX7_shortestOf 147 = .ok (.aload_n 0, 1) := by decide +kernel
theorem dX7_shortestOf_148 : decode cX7_shortestOf 148 = .ok (.getfield 49, 3) := by decide +kernel
theorem dX7_shortestOf_151 : decode cX7_shortestOf 151 = .ok (.if_icmp .ge 23, 3) := by decide +kernel
theorem dX7_shortestOf_154 : decode cX7_shortestOf 154 = .ok (.aload_n 0, 1) := by decide +kernel
theorem dX7_shortestOf_155 : decode cX7_shortestOf 155 = .ok (.getfield 36, 3) := by decide +kernel
theorem dX7_shortestOf_158 : decode cX7_shortestOf 158 = .ok (.iload 7, 2) := by decide +kernel
theorem dX7_shortestOf_160 : decode cX7_shortestOf 160 = .ok (.aload_n 0, 1) := by decide +kernel
theorem dX7_shortestOf_161 : decode cX7_shortestOf 161 = .ok (.getfield 33, 3) := by decide +kernel
theorem dX7_shortestOf_164 : decode cX7_shortestOf 164 = .ok (.iload 7, 2) := by decide +kernel
theorem dX7_shortestOf_166 : decode cX7_shortestOf 166 = .ok (.iaload, 1) := by decide +kernel
theorem dX7_shortestOf_167 : decode cX7_shortestOf 167 = .ok (.iastore, 1) := by decide +kernel
theorem dX7_shortestOf_168 : decode cX7_shortestOf 168 = .ok (.iinc 7 1, 3) := by decide +kernel
theorem dX7_shortestOf_171 : decode cX7_shortestOf 171 = .ok (.goto (-26), 3) := by decide +kernel
theorem dX7_shortestOf_174 : decode cX7_shortestOf 174 = .ok (.iinc 3 1, 3) := by decide +kernel
theorem dX7_shortestOf_177 : decode cX7_shortestOf 177 = .ok (.goto (-151), 3) := by decide +kernel
theorem dX7_shortestOf_180 : decode cX7_shortestOf 180 = .ok (.iload_n 2, 1) := by decide +kernel
theorem dX7_shortestOf_181 : decode cX7_shortestOf 181 = .ok (.ifCond .ge 7, 3) := by decide +kernel
theorem dX7_shortestOf_184 : decode cX7_shortestOf 184 = .ok (.iconst 0, 1) := by decide +kernel
theorem dX7_shortestOf_185 : decode cX7_shortestOf 185 = .ok (.goto 4, 3) := by decide +kernel
theorem dX7_shortestOf_188 : decode cX7_shortestOf 188 = .ok (.iload_n 2, 1) := by decide +kernel
theorem dX7_shortestOf_189 : decode cX7_shortestOf 189 = .ok (.ireturn, 1) := by decide +kernel
set_option maxRecDepth 20000 in
theorem ggX7_shortest_X7_shortestOf : GoodIn wsX7_shortest wsX7_shortestOf := goodIn_r _ [6, 7, 8, 9, 10, 11, 12, 13, 5, 14, 15, 16, 17, 18, 19, 20, 21, 22, 23, 24, 25, 26, 27, 28, 29] (by decide +kernel) (by decide +kernel)
set_option maxRecDepth 20000 in
theorem gX7_shortest_X7_shortestOf : GoodIn wsX7_shortest (wsV RX7 74 RX7 yX7_shortestOf wsX7_shortestOf) := goodIn_app (goodIn_of _ (by decide +kernel)) ggX7_shortest_X7_shortestOf
theorem dX7_shortest_0 : decode cX7_shortest 0 = .ok (.aload_n 0, 1) := by decide +kernel
theorem dX7_shortest_1 : decode cX7_shortest 1 = .ok (.iconst 0, 1) := by decide +kernel
theorem dX7_shortest_2 : decode cX7_shortest 2 = .ok (.putfield 45, 3) := by decide +kernel
theorem dX7_shortest_5 : decode cX7_shortest 5 = .ok (.aload_n 0, 1) := by decide +kernel
theorem dX7_shortest_6 : decode cX7_shortest 6 = .ok (.invokevirtual 74, 3) := by decide +kernel
theorem dX7_shortest_9 : decode cX7_shortest 9 = .ok (.ireturn, 1) := by decide +kernel
set_option maxRecDepth 20000 in
theorem ggX7_shortestByTrying_X7_shortest : GoodIn wsX7_shortestByTrying wsX7_shortest := goodIn_r _ [5, 6, 7, 8, 9, 4, 10, 11, 12, 13, 14, 15, 16, 17, 18, 19, 20, 21, 22, 23, 24, 25, 26, 27, 28, 29, 30, 31, 32, 33] (by decide +kernel) (by decide +kernel)
set_option maxRecDepth 20000 in
theorem gX7_shortestByTrying_X7_shortest : GoodIn wsX7_shortestByTrying (wsV RX7 78 RX7 yX7_shortest wsX7_shortest) := goodIn_app (goodIn_of _ (by decide +kernel)) ggX7_shortestByTrying_X7_shortest
theorem dX7_shortestByTrying_0 : decode cX7_shortestByTrying 0 = .ok (.aload_n 0, 1) := by decide +kernel
theorem dX7_shortestByTrying_1 : decode cX7_shortestByTrying 1 = .ok (.invokevirtual 78, 3) := by decide +kernel
theorem dX7_shortestByTrying_4 : decode cX7_shortestByTrying 4 = .ok (.ireturn, 1) := by decide +kernel
set_option maxRecDepth 20000 in
theorem ggX7_shortestMachine_X7_isJob : GoodIn wsX7_shortestMachine wsX7_isJob := goodIn_r _ [6, 7, 24, 25, 26, 27, 28, 29, 30, 31, 32, 33, 34, 35, 36, 37] (by decide +kernel) (by decide +kernel)
set_option maxRecDepth 20000 in
theorem gX7_shortestMachine_X7_isJob : GoodIn wsX7_shortestMachine (wsV RX7 64 RX7 yX7_isJob wsX7_isJob) := goodIn_app (goodIn_of _ (by decide +kernel)) ggX7_shortestMachine_X7_isJob
set_option maxRecDepth 20000 in
theorem ggX7_shortestMachine_X7_goes : GoodIn wsX7_shortestMachine wsX7_goes := goodIn_r _ [11, 12, 24, 25, 26, 27, 28, 29, 30, 31, 32, 33, 34, 35, 36, 37] (by decide +kernel) (by decide +kernel)
set_option maxRecDepth 20000 in
theorem gX7_shortestMachine_X7_goes : GoodIn wsX7_shortestMachine (wsV RX7 56 RX7 yX7_goes wsX7_goes) := goodIn_app (goodIn_of _ (by decide +kernel)) ggX7_shortestMachine_X7_goes
set_option maxRecDepth 20000 in
theorem ggX7_shortestMachine_X7_shortestOf : GoodIn wsX7_shortestMachine wsX7_shortestOf := goodIn_r _ [16, 7, 17, 18, 1, 19, 20, 21, 5, 22, 23, 24, 25, 26, 27, 28, 29, 30, 31, 32, 33, 34, 35, 36, 37] (by decide +kernel) (by decide +kernel)
set_option maxRecDepth 20000 in
theorem gX7_shortestMachine_X7_shortestOf : GoodIn wsX7_shortestMachine (wsV RX7 74 RX7 yX7_shortestOf wsX7_shortestOf) := goodIn_app (goodIn_of _ (by decide +kernel)) ggX7_shortestMachine_X7_shortestOf
theorem dX7_shortestMachine_0 : decode cX7_shortestMachine 0 = .ok (.aload_n 0, 1) := by decide +kernel
theorem dX7_shortestMachine_1 : decode cX7_shortestMachine 1 = .ok (.aload_n 0, 1) := by decide +kernel
theorem dX7_shortestMachine_2 : decode cX7_shortestMachine 2 = .ok (.iload_n 1, 1) := by decide +kernel
theorem dX7_shortestMachine_3 : decode cX7_shortestMachine 3 = .ok (.invokevirtual 64, 3) := by decide +kernel
theorem dX7_shortestMachine_6 : decode cX7_shortestMachine 6 = .ok (.iconst 1, 1) := by decide +kernel
theorem dX7_shortestMachine_7 : decode cX7_shortestMachine 7 = .ok (.iconst 1, 1) := by decide +kernel
theorem dX7_shortestMachine_8 : decode cX7_shortestMachine 8 = .ok (.invokevirtual 56, 3) := by decide +kernel
theorem dX7_shortestMachine_11 : decode cX7_shortestMachine 11 = .ok (.ifCond .ne 5, 3) := by decide +kernel
theorem dX7_shortestMachine_14 : decode cX7_shortestMachine 14 = .ok (.iconst 0, 1) := by decide +kernel
theorem dX7_shortestMachine_15 : decode cX7_shortestMachine 15 = .ok (.ireturn, 1) := by decide +kernel
theorem dX7_shortestMachine_16 : decode cX7_shortestMachine 16 = .ok (.aload_n 0, 1) := by decide +kernel
theorem dX7_shortestMachine_17 : decode cX7_shortestMachine 17 = .ok (.invokevirtual 74, 3) := by decide +kernel
theorem dX7_shortestMachine_20 : decode cX7_shortestMachine 20 = .ok (.pop, 1) := by decide +kernel
theorem dX7_shortestMachine_21 : decode cX7_shortestMachine 21 = .ok (.aload_n 0, 1) := by decide +kernel
theorem dX7_shortestMachine_22 : decode cX7_shortestMachine 22 = .ok (.getfield 36, 3) := by decide +kernel
theorem dX7_shortestMachine_25 : decode cX7_shortestMachine 25 = .ok (.iload_n 1, 1) := by decide +kernel
theorem dX7_shortestMachine_26 : decode cX7_shortestMachine 26 = .ok (.iaload, 1) := by decide +kernel
theorem dX7_shortestMachine_27 : decode cX7_shortestMachine 27 = .ok (.ireturn, 1) := by decide +kernel
theorem dX7_rows_0 : decode cX7_rows 0 = .ok (.aload_n 0, 1) := by decide +kernel
theorem dX7_rows_1 : decode cX7_rows 1 = .ok (.getfield 49, 3) := by decide +kernel
theorem dX7_rows_4 : decode cX7_rows 4 = .ok (.iconst 3, 1) := by decide +kernel
theorem dX7_rows_5 : decode cX7_rows 5 = .ok (.iadd, 1) := by decide +kernel
theorem dX7_rows_6 : decode cX7_rows 6 = .ok (.iconst 1, 1) := by decide +kernel
theorem dX7_rows_7 : decode cX7_rows 7 = .ok (.iadd, 1) := by decide +kernel
theorem dX7_rows_8 : decode cX7_rows 8 = .ok (.ireturn, 1) := by decide +kernel
set_option maxRecDepth 20000 in
theorem ggX7_pivots_X7_rows : GoodIn wsX7_pivots wsX7_rows := goodIn_r _ [8, 9, 10, 11, 12, 13, 14, 15, 16, 17, 18, 19, 20, 21, 22, 23] (by decide +kernel) (by decide +kernel)
set_option maxRecDepth 20000 in
theorem gX7_pivots_X7_rows : GoodIn wsX7_pivots (wsV RX7 81 RX7 yX7_rows wsX7_rows) := goodIn_app (goodIn_of _ (by decide +kernel)) ggX7_pivots_X7_rows
theorem dX7_pivots_0 : decode cX7_pivots 0 = .ok (.aload_n 0, 1) := by decide +kernel
theorem dX7_pivots_1 : decode cX7_pivots 1 = .ok (.getfield 16, 3) := by decide +kernel
theorem dX7_pivots_4 : decode cX7_pivots 4 = .ok (.bipush 27, 2) := by decide +kernel
theorem dX7_pivots_6 : decode cX7_pivots 6 = .ok (.iload_n 1, 1) := by decide +kernel
theorem dX7_pivots_7 : decode cX7_pivots 7 = .ok (.imul, 1) := by decide +kernel
theorem dX7_pivots_8 : decode cX7_pivots 8 = .ok (.iload_n 2, 1) := by decide +kernel
theorem dX7_pivots_9 : decode cX7_pivots 9 = .ok (.iadd, 1) := by decide +kernel
theorem dX7_pivots_10 : decode cX7_pivots 10 = .ok (.laload, 1) := by decide +kernel
theorem dX7_pivots_11 : decode cX7_pivots 11 = .ok (.lconst 0, 1) := by decide +kernel
theorem dX7_pivots_12 : decode cX7_pivots 12 = .ok (.lcmp, 1) := by decide +kernel
theorem dX7_pivots_13 : decode cX7_pivots 13 = .ok (.ifCond .ge 40, 3) := by decide +kernel
theorem dX7_pivots_16 : decode cX7_pivots 16 = .ok (.iconst 0, 1) := by decide +kernel
theorem dX7_pivots_17 : decode cX7_pivots 17 = .ok (.istore_n 3, 1) := by decide +kernel
theorem dX7_pivots_18 : decode cX7_pivots 18 = .ok (.iload_n 3, 1) := by decide +kernel
theorem dX7_pivots_19 : decode cX7_pivots 19 = .ok (.bipush 27, 2) := by decide +kernel
theorem dX7_pivots_21 : decode cX7_pivots 21 = .ok (.if_icmp .ge 32, 3) := by decide +kernel
theorem dX7_pivots_24 : decode cX7_pivots 24 = .ok (.aload_n 0, 1) := by decide +kernel
theorem dX7_pivots_25 : decode cX7_pivots 25 = .ok (.getfield 16, 3) := by decide +kernel
theorem dX7_pivots_28 : decode cX7_pivots 28 = .ok (.bipush 27, 2) := by decide +kernel
theorem dX7_pivots_30 : decode cX7_pivots 30 = .ok (.iload_n 1, 1) := by decide +kernel
theorem dX7_pivots_31 : decode cX7_pivots 31 = .ok (.imul, 1) := by decide +kernel
theorem dX7_pivots_32 : decode cX7_pivots 32 = .ok (.iload_n 3, 1) := by decide +kernel
theorem dX7_pivots_33 : decode cX7_pivots 33 = .ok (.iadd, 1) := by decide +kernel
theorem dX7_pivots_34 : decode cX7_pivots 34 = .ok (.aload_n 0, 1) := by decide +kernel
theorem dX7_pivots_35 : decode cX7_pivots 35 = .ok (.getfield 16, 3) := by decide +kernel
theorem dX7_pivots_38 : decode cX7_pivots 38 = .ok (.bipush 27, 2) := by decide +kernel
theorem dX7_pivots_40 : decode cX7_pivots 40 = .ok (.iload_n 1, 1) := by decide +kernel
theorem dX7_pivots_41 : decode cX7_pivots 41 = .ok (.imul, 1) := by decide +kernel
theorem dX7_pivots_42 : decode cX7_pivots 42 = .ok (.iload_n 3, 1) := by decide +kernel
theorem dX7_pivots_43 : decode cX7_pivots 43 = .ok (.iadd, 1) := by decide +kernel
theorem dX7_pivots_44 : decode cX7_pivots 44 = .ok (.laload, 1) := by decide +kernel
theorem dX7_pivots_45 : decode cX7_pivots 45 = .ok (.lneg, 1) := by decide +kernel
theorem dX7_pivots_46 : decode cX7_pivots 46 = .ok (.lastore, 1) := by decide +kernel
theorem dX7_pivots_47 : decode cX7_pivots 47 = .ok (.iinc 3 1, 3) := by decide +kernel
theorem dX7_pivots_50 : decode cX7_pivots 50 = .ok (.goto (-32), 3) := by decide +kernel
theorem dX7_pivots_53 : decode cX7_pivots 53 = .ok (.aload_n 0, 1) := by decide +kernel
theorem dX7_pivots_54 : decode cX7_pivots 54 = .ok (.getfield 16, 3) := by decide +kernel
theorem dX7_pivots_57 : decode cX7_pivots 57 = .ok (.bipush 27, 2) := by decide +kernel
theorem dX7_pivots_59 : decode cX7_pivots 59 = .ok (.iload_n 1, 1) := by decide +kernel
theorem dX7_pivots_60 : decode cX7_pivots 60 = .ok (.imul, 1) := by decide +kernel
theorem dX7_pivots_61 : decode cX7_pivots 61 = .ok (.iload_n 2, 1) := by decide +kernel
theorem dX7_pivots_62 : decode cX7_pivots 62 = .ok (.iadd, 1) := by decide +kernel
theorem dX7_pivots_63 : decode cX7_pivots 63 = .ok (.laload, 1) := by decide +kernel
theorem dX7_pivots_64 : decode cX7_pivots 64 = .ok (.lstore_n 3, 1) := by decide +kernel
theorem dX7_pivots_65 : decode cX7_pivots 65 = .ok (.iconst 0, 1) := by decide +kernel
theorem dX7_pivots_66 : decode cX7_pivots 66 = .ok (.istore 5, 2) := by decide +kernel
theorem dX7_pivots_68 : decode cX7_pivots 68 = .ok (.iload 5, 2) := by decide +kernel
theorem dX7_pivots_70 : decode cX7_pivots 70 = .ok (.aload_n 0, 1) := by decide +kernel
theorem dX7_pivots_71 : decode cX7_pivots 71 = .ok (.invokevirtual 81, 3) := by decide +kernel
theorem dX7_pivots_74 : decode cX7_pivots 74 = .ok (.if_icmp .ge 94, 3) := by decide +kernel
theorem dX7_pivots_77 : decode cX7_pivots 77 = .ok (.aload_n 0, 1) := by decide +kernel
theorem dX7_pivots_78 : decode cX7_pivots 78 = .ok (.getfield 16, 3) := by decide +kernel
theorem dX7_pivots_81 : decode cX7_pivots 81 = .ok (.bipush 27, 2) := by decide +kernel
theorem dX7_pivots_83 : decode cX7_pivots 83 = .ok (.iload 5, 2) := by decide +kernel
theorem dX7_pivots_85 : decode cX7_pivots 85 = .ok (.imul, 1) := by decide +kernel
theorem dX7_pivots_86 : decode cX7_pivots 86 = .ok (.iload_n 2, 1) := by decide +kernel
theorem dX7_pivots_87 : decode cX7_pivots 87 = .ok (.iadd, 1) := by decide +kernel
theorem dX7_pivots_88 : decode cX7_pivots 88 = .ok (.laload, 1) := by decide +kernel
theorem dX7_pivots_89 : decode cX7_pivots 89 = .ok (.lstore 6, 2) := by decide +kernel
theorem dX7_pivots_91 : decode cX7_pivots 91 = .ok (.iconst 0, 1) := by decide +kernel
theorem dX7_pivots_92 : decode cX7_pivots 92 = .ok (.istore 8, 2) := by decide +kernel
theorem dX7_pivots_94 : decode cX7_pivots 94 = .ok (.iload 8, 2) := by decide +kernel
theorem dX7_pivots_96 : decode cX7_pivots 96 = .ok (.bipush 27, 2) := by decide +kernel
theorem dX7_pivots_98 : decode cX7_pivots 98 = .ok (.if_icmp .ge 64, 3) := by decide +kernel
theorem dX7_pivots_101 : decode cX7_pivots 101 = .ok (.iload 5, 2) := by decide +kernel
theorem dX7_pivots_103 : decode cX7_pivots 103 = .ok (.iload_n 1, 1) := by decide +kernel
theorem dX7_pivots_104 : decode cX7_pivots 104 = .ok (.if_icmp .eq 58, 3) := by decide +kernel
theorem dX7_pivots_107 : decode cX7_pivots 107 = .ok (.aload_n 0, 1) := by decide +kernel
theorem dX7_pivots_108 : decode cX7_pivots 108 = .ok (.getfield 16, 3) := by decide +kernel
theorem dX7_pivots_111 : decode cX7_pivots 111 = .ok (.bipush 27, 2) := by decide +kernel
theorem dX7_pivots_113 : decode cX7_pivots 113 = .ok (.iload 5, 2) := by decide +kernel
theorem dX7_pivots_115 : decode cX7_pivots 115 = .ok (.imul, 1) := by decide +kernel
theorem dX7_pivots_116 : decode cX7_pivots 116 = .ok (.iload 8, 2) := by decide +kernel
theorem dX7_pivots_118 : decode cX7_pivots 118 = .ok (.iadd, 1) := by decide +kernel
theorem dX7_pivots_119 : decode cX7_pivots 119 = .ok (.aload_n 0, 1) := by decide +kernel
theorem dX7_pivots_120 : decode cX7_pivots 120 = .ok (.getfield 16, 3) := by decide +kernel
theorem dX7_pivots_123 : decode cX7_pivots 123 = .ok (.bipush 27, 2) := by decide +kernel
theorem dX7_pivots_125 : decode cX7_pivots 125 = .ok (.iload 5, 2) := by decide +kernel
theorem dX7_pivots_127 : decode cX7_pivots 127 = .ok (.imul, 1) := by decide +kernel
theorem dX7_pivots_128 : decode cX7_pivots 128 = .ok (.iload 8, 2) := by decide +kernel
theorem dX7_pivots_130 : decode cX7_pivots 130 = .ok (.iadd, 1) := by decide +kernel
theorem dX7_pivots_131 : decode cX7_pivots 131 = .ok (.laload, 1) := by decide +kernel
theorem dX7_pivots_132 : decode cX7_pivots 132 = .ok (.lload_n 3, 1) := by decide +kernel
theorem dX7_pivots_133 : decode cX7_pivots 133 = .ok (.lmul, 1) := by decide +kernel
theorem dX7_pivots_134 : decode cX7_pivots 134 = .ok (.lload 6, 2) := by decide +kernel
theorem dX7_pivots_136 : decode cX7_pivots 136 = .ok (.aload_n 0, 1) := by decide +kernel
theorem dX7_pivots_137 : decode cX7_pivots 137 = .ok (.getfield 16, 3) := by decide +kernel
theorem dX7_pivots_140 : decode cX7_pivots 140 = .ok (.bipush 27, 2) := by decide +kernel
theorem dX7_pivots_142 : decode cX7_pivots 142 = .ok (.iload_n 1, 1) := by decide +kernel
theorem dX7_pivots_143 : decode cX7_pivots 143 = .ok (.imul, 1) := by decide +kernel
theorem dX7_pivots_144 : decode cX7_pivots 144 = .ok (.iload 8, 2) := by decide +kernel
theorem dX7_pivots_146 : decode cX7_pivots 146 = .ok (.iadd, 1) := by decide +kernel
theorem dX7_pivots_147 : decode cX7_pivots 147 = .ok (.laload, 1) := by decide +kernel
theorem dX7_pivots_148 : decode cX7_pivots 148 = .ok (.lmul, 1) := by decide +kernel
theorem dX7_pivots_149 : decode cX7_pivots 149 = .ok (.lsub, 1) := by decide +kernel
theorem dX7_pivots_150 : decode cX7_pivots 150 = .ok (.aload_n 0, 1) := by decide +kernel
theorem dX7_pivots_151 : decode cX7_pivots 151 = .ok (.getfield 84, 3) := by decide +kernel
theorem dX7_pivots_154 : decode cX7_pivots 154 = .ok (.ldiv, 1) := by decide +kernel
theorem dX7_pivots_155 : decode cX7_pivots 155 = .ok (.lastore, 1) := by decide +kernel
theorem dX7_pivots_156 : decode cX7_pivots 156 = .ok (.iinc 8 1, 3) := by decide +kernel
theorem dX7_pivots_159 : decode cX7_pivots 159 = .ok (.goto (-65), 3) := by decide +kernel
theorem dX7_pivots_162 : decode cX7_pivots 162 = .ok (.iinc 5 1, 3) := by decide +kernel
theorem dX7_pivots_165 : decode cX7_pivots 165 = .ok (.goto (-97), 3) := by decide +kernel
theorem dX7_pivots_168 : decode cX7_pivots 168 = .ok (.aload_n 0, 1) := by decide +kernel
theorem dX7_pivots_169 : decode cX7_pivots 169 = .ok (.lload_n 3, 1) := by decide +kernel
theorem dX7_pivots_170 : decode cX7_pivots 170 = .ok (.putfield 84, 3) := by decide +kernel
theorem dX7_pivots_173 : decode cX7_pivots 173 = .ok (.aload_n 0, 1) := by decide +kernel
theorem dX7_pivots_174 : decode cX7_pivots 174 = .ok (.getfield 20, 3) := by decide +kernel
theorem dX7_pivots_177 : decode cX7_pivots 177 = .ok (.iload_n 1, 1) := by decide +kernel
theorem dX7_pivots_178 : decode cX7_pivots 178 = .ok (.iload_n 2, 1) := by decide +kernel
theorem dX7_pivots_179 : decode cX7_pivots 179 = .ok (.iastore, 1) := by decide +kernel
theorem dX7_pivots_180 : decode cX7_pivots 180 = .ok (.return_, 1) := by decide +kernel
set_option maxRecDepth 20000 in
theorem ggX7_leaving_X7_rows : GoodIn wsX7_leaving wsX7_rows := goodIn_r _ [7, 8, 9, 10, 11, 12, 13, 14, 15, 16, 17, 18, 19, 20, 21, 22] (by decide +kernel) (by decide +kernel)
set_option maxRecDepth 20000 in
theorem gX7_leaving_X7_rows : GoodIn wsX7_leaving (wsV RX7 81 RX7 yX7_rows wsX7_rows) := goodIn_app (goodIn_of _ (by decide +kernel)) ggX7_leaving_X7_rows
theorem dX7_leaving_0 : decode cX7_leaving 0 = .ok (.iconst (-1), 1) := by decide +kernel
theorem dX7_leaving_1 : decode cX7_leaving 1 = .ok (.istore_n 2, 1) := by decide +kernel
theorem dX7_leaving_2 : decode cX7_leaving 2 = .ok (.iconst 0, 1) := by decide +kernel
theorem dX7_leaving_3 : decode cX7_leaving 3 = .ok (.istore_n 3, 1) := by decide +kernel
theorem dX7_leaving_4 : decode cX7_leaving 4 = .ok (.iload_n 3, 1) := by decide +kernel
theorem dX7_leaving_5 : decode cX7_leaving 5 = .ok (.aload_n 0, 1) := by decide +kernel
theorem dX7_leaving_6 : decode cX7_leaving 6 = .ok (.invokevirtual 81, 3) := by decide +kernel
theorem dX7_leaving_9 : decode cX7_leaving 9 = .ok (.if_icmp .ge 129, 3) := by decide +kernel
theorem dX7_leaving_12 : decode cX7_leaving 12 = .ok (.aload_n 0, 1) := by decide +kernel
theorem dX7_leaving_13 : decode cX7_leaving 13 = .ok (.getfield 16, 3) := by decide +kernel
theorem dX7_leaving_16 : decode cX7_leaving 16 = .ok (.bipush 27, 2) := by decide +kernel
theorem dX7_leaving_18 : decode cX7_leaving 18 = .ok (.iload_n 3, 1) := by decide +kernel
theorem dX7_leaving_19 : decode cX7_leaving 19 = .ok (.imul, 1) := by decide +kernel
theorem dX7_leaving_20 : decode cX7_leaving 20 = .ok (.iload_n 1, 1) := by decide +kernel
theorem dX7_leaving_21 : decode cX7_leaving 21 = .ok (.iadd, 1) := by decide +kernel
theorem dX7_leaving_22 : decode cX7_leaving 22 = .ok (.laload, 1) := by decide +kernel
theorem dX7_leaving_23 : decode cX7_leaving 23 = .ok (.lstore 4, 2) := by decide +kernel
theorem dX7_leaving_25 : decode cX7_leaving 25 = .ok (.lload 4, 2) := by decide +kernel
theorem dX7_leaving_27 : decode cX7_leaving 27 = .ok (.lconst 0, 1) := by decide +kernel
theorem dX7_leaving_28 : decode cX7_leaving 28 = .ok (.lcmp, 1) := by decide +kernel
theorem dX7_leaving_29 : decode cX7_leaving 29 = .ok (.ifCond .le 103, 3) := by decide +kernel
theorem dX7_leaving_32 : decode cX7_leaving 32 = .ok (.iload_n 2, 1) := by decide +kernel
theorem dX7_leaving_33 : decode cX7_leaving 33 = .ok (.ifCond .ge 7, 3) := by decide +kernel
theorem dX7_leaving_36 : decode cX7_leaving 36 = .ok (.lconst 0, 1) := by decide +kernel
theorem dX7_leaving_37 : decode cX7_leaving 37 = .ok (.goto 27, 3) := by decide +kernel
theorem dX7_leaving_40 : decode cX7_leaving 40 = .ok (.aload_n 0, 1) := by decide +kernel
theorem dX7_leaving_41 : decode cX7_leaving 41 = .ok (.getfield 16, 3) := by decide +kernel
theorem dX7_leaving_44 : decode cX7_leaving 44 = .ok (.bipush 27, 2) := by decide +kernel
theorem dX7_leaving_46 : decode cX7_leaving 46 = .ok (.iload_n 3, 1) := by decide +kernel
theorem dX7_leaving_47 : decode cX7_leaving 47 = .ok (.imul, 1) := by decide +kernel
theorem dX7_leaving_48 : decode cX7_leaving 48 = .ok (.bipush 26, 2) := by decide +kernel
theorem dX7_leaving_50 : decode cX7_leaving 50 = .ok (.iadd, 1) := by decide +kernel
theorem dX7_leaving_51 : decode cX7_leaving 51 = .ok (.laload, 1) := by decide +kernel
theorem dX7_leaving_52 : decode cX7_leaving 52 = .ok (.aload_n 0, 1) := by decide +kernel
theorem dX7_leaving_53 : decode cX7_leaving 53 = .ok (.getfield 16, 3) := by decide +kernel
theorem dX7_leaving_56 : decode cX7_leaving 56 = .ok (.bipush 27, 2) := by decide +kernel
theorem dX7_leaving_58 : decode cX7_leaving 58 = .ok (.iload_n 2, 1) := by decide +kernel
theorem dX7_leaving_59 : decode cX7_leaving 59 = .ok (.imul, 1) := by decide +kernel
theorem dX7_leaving_60 : decode cX7_leaving 60 = .ok (.iload_n 1, 1) := by decide +kernel
theorem dX7_leaving_61 : decode cX7_leaving 61 = .ok (.iadd, 1) := by decide +kernel
theorem dX7_leaving_62 : decode cX7_leaving 62 = .ok (.laload, 1) := by decide +kernel
theorem dX7_leaving_63 : decode cX7_leaving 63 = .ok (.lmul, 1) := by decide +kernel
theorem dX7_leaving_64 : decode cX7_leaving 64 = .ok (.lstore 6, 2) := by decide +kernel
theorem dX7_leaving_66 : decode cX7_leaving 66 = .ok (.iload_n 2, 1) := by decide +kernel
theorem dX7_leaving_67 : decode cX7_leaving 67 = .ok (.ifCond .ge 7, 3) := by decide +kernel
theorem dX7_leaving_70 : decode cX7_leaving 70 = .ok (.lconst 0, 1) := by decide +kernel
theorem dX7_leaving_71 : decode cX7_leaving 71 = .ok (.goto 18, 3) := by decide +kernel
theorem dX7_leaving_74 : decode cX7_leaving 74 = .ok (.aload_n 0, 1) := by decide +kernel
theorem dX7_leaving_75 : decode cX7_leaving 75 = .ok (.getfield 16, 3) := by decide +kernel
theorem dX7_leaving_78 : decode cX7_leaving 78 = .ok (.bipush 27, 2) := by decide +kernel
theorem dX7_leaving_80 : decode cX7_leaving 80 = .ok (.iload_n 2, 1) := by decide +kernel
theorem dX7_leaving_81 : decode cX7_leaving 81 = .ok (.imul, 1) := by decide +kernel
theorem dX7_leaving_82 : decode cX7_leaving 82 = .ok (.bipush 26, 2) := by decide +kernel
theorem dX7_leaving_84 : decode cX7_leaving 84 = .ok (.iadd, 1) := by decide +kernel
theorem dX7_leaving_85 : decode cX7_leaving 85 = .ok (.laload, 1) := by decide +kernel
theorem dX7_leaving_86 : decode cX7_leaving 86 = .ok (.lload 4, 2) := by decide +kernel
theorem dX7_leaving_88 : decode cX7_leaving 88 = .ok (.lmul, 1) := by decide +kernel
theorem dX7_leaving_89 : decode cX7_leaving 89 = .ok (.lstore 8, 2) := by decide +kernel
theorem dX7_leaving_91 : decode cX7_leaving 91 = .ok (.iload_n 2, 1) := by decide +kernel
theorem dX7_leaving_92 : decode cX7_leaving 92 = .ok (.ifCond .lt 34, 3) := by decide +kernel
theorem dX7_leaving_95 : decode cX7_leaving 95 = .ok (.lload 6, 2) := by decide +kernel
theorem dX7_leaving_97 : decode cX7_leaving 97 = .ok (.lload 8, 2) := by decide +kernel
theorem dX7_leaving_99 : decode cX7_leaving 99 = .ok (.lcmp, 1) := by decide +kernel
theorem dX7_leaving_100 : decode cX7_leaving 100 = .ok (.ifCond .lt 26, 3) := by decide +kernel
theorem dX7_leaving_103 : decode cX7_leaving 103 = .ok (.lload 6, 2) := by decide +kernel
theorem dX7_leaving_105 : decode cX7_leaving 105 = .ok (.lload 8, 2) := by decide +kernel
theorem dX7_leaving_107 : decode cX7_leaving 107 = .ok (.lcmp, 1) := by decide +kernel
theorem dX7_leaving_108 : decode cX7_leaving 108 = .ok (.ifCond .ne 22, 3) := by decide +kernel
theorem dX7_leaving_111 : decode cX7_leaving 111 = .ok (.aload_n 0, 1) := by decide +kernel
theorem dX7_leaving_112 : decode cX7_leaving 112 = .ok (.getfield 20, 3) := by decide +kernel
theorem dX7_leaving_115 : decode cX7_leaving 115 = .ok (.iload_n 3, 1) := by decide +kernel
theorem dX7_leaving_116 : decode cX7_leaving 116 = .ok (.iaload, 1) := by decide +kernel
theorem dX7_leaving_117 : decode cX7_leaving 117 = .ok (.aload_n 0, 1) := by decide +kernel
theorem dX7_leaving_118 : decode cX7_leaving 118 = .ok (.getfield 20, 3) := by decide +kernel
theorem dX7_leaving_121 : decode cX7_leaving 121 = .ok (.iload_n 2, 1) := by decide +kernel
theorem dX7_leaving_122 : decode cX7_leaving 122 = .ok (.iaload, 1) := by decide +kernel
theorem dX7_leaving_123 : decode cX7_leaving 123 = .ok (.if_icmp .ge 7, 3) := by decide +kernel
theorem dX7_leaving_126 : decode cX7_leaving 126 = .ok (.iload_n 3, 1) := by decide +kernel
theorem dX7_leaving_127 : decode cX7_leaving 127 = .ok (.goto 4, 3) := by decide +kernel
theorem dX7_leaving_130 : decode cX7_leaving 130 = .ok (.iload_n 2, 1) := by decide +kernel
theorem dX7_leaving_131 : decode cX7_leaving 131 = .ok (.istore_n 2, 1) := by decide +kernel
theorem dX7_leaving_132 : decode cX7_leaving 132 = .ok (.iinc 3 1, 3) := by decide +kernel
theorem dX7_leaving_135 : decode cX7_leaving 135 = .ok (.goto (-131), 3) := by decide +kernel
theorem dX7_leaving_138 : decode cX7_leaving 138 = .ok (.iload_n 2, 1) := by decide +kernel
theorem dX7_leaving_139 : decode cX7_leaving 139 = .ok (.ireturn, 1) := by decide +kernel
set_option maxRecDepth 20000 in
theorem ggX7_rowOf_X7_rows : GoodIn wsX7_rowOf wsX7_rows := goodIn_r _ [6, 7, 8, 9, 10, 11, 12, 13, 14, 15, 16, 17, 18, 19, 20, 21] (by decide +kernel) (by decide +kernel)
set_option maxRecDepth 20000 in
theorem gX7_rowOf_X7_rows : GoodIn wsX7_rowOf (wsV RX7 81 RX7 yX7_rows wsX7_rows) := goodIn_app (goodIn_of _ (by decide +kernel)) ggX7_rowOf_X7_rows
theorem dX7_rowOf_0 : decode cX7_rowOf 0 = .ok (.iconst (-1), 1) := by decide +kernel
theorem dX7_rowOf_1 : decode cX7_rowOf 1 = .ok (.istore_n 2, 1) := by decide +kernel
theorem dX7_rowOf_2 : decode cX7_rowOf 2 = .ok (.iconst 0, 1) := by decide +kernel
theorem dX7_rowOf_3 : decode cX7_rowOf 3 = .ok (.istore_n 3, 1) := by decide +kernel
theorem dX7_rowOf_4 : decode cX7_rowOf 4 = .ok (.iload_n 3, 1) := by decide +kernel
theorem dX7_rowOf_5 : decode cX7_rowOf 5 = .ok (.aload_n 0, 1) := by decide +kernel
theorem dX7_rowOf_6 : decode cX7_rowOf 6 = .ok (.invokevirtual 81, 3) := by decide +kernel
theorem dX7_rowOf_9 : decode cX7_rowOf 9 = .ok (.if_icmp .ge 25, 3) := by decide +kernel
theorem dX7_rowOf_12 : decode cX7_rowOf 12 = .ok (.aload_n 0, 1) := by decide +kernel
theorem dX7_rowOf_13 : decode cX7_rowOf 13 = .ok (.getfield 20, 3) := by decide +kernel
theorem dX7_rowOf_16 : decode cX7_rowOf 16 = .ok (.iload_n 3, 1) := by decide +kernel
theorem dX7_rowOf_17 : decode cX7_rowOf 17 = .ok (.iaload, 1) := by decide +kernel
theorem dX7_rowOf_18 : decode cX7_rowOf 18 = .ok (.iload_n 1, 1) := by decide +kernel
theorem dX7_rowOf_19 : decode cX7_rowOf 19 = .ok (.if_icmp .ne 7, 3) := by decide +kernel
theorem dX7_rowOf_22 : decode cX7_rowOf 22 = .ok (.iload_n 3, 1) := by decide +kernel
theorem dX7_rowOf_23 : decode cX7_rowOf 23 = .ok (.goto 4, 3) := by decide +kernel
theorem dX7_rowOf_26 : decode cX7_rowOf 26 = .ok (.iload_n 2, 1) := by decide +kernel
theorem dX7_rowOf_27 : decode cX7_rowOf 27 = .ok (.istore_n 2, 1) := by decide +kernel
theorem dX7_rowOf_28 : decode cX7_rowOf 28 = .ok (.iinc 3 1, 3) := by decide +kernel
theorem dX7_rowOf_31 : decode cX7_rowOf 31 = .ok (.goto (-27), 3) := by decide +kernel
theorem dX7_rowOf_34 : decode cX7_rowOf 34 = .ok (.iload_n 2, 1) := by decide +kernel
theorem dX7_rowOf_35 : decode cX7_rowOf 35 = .ok (.ireturn, 1) := by decide +kernel
set_option maxRecDepth 20000 in
theorem ggX7_lays_X7_rows : GoodIn wsX7_lays wsX7_rows := goodIn_r _ [13, 4, 14, 15, 16, 17, 18, 19, 20, 21, 22, 23, 24, 25, 26, 27] (by decide +kernel) (by decide +kernel)
set_option maxRecDepth 20000 in
theorem gX7_lays_X7_rows : GoodIn wsX7_lays (wsV RX7 81 RX7 yX7_rows wsX7_rows) := goodIn_app (goodIn_of _ (by decide +kernel)) ggX7_lays_X7_rows
theorem dX7_lays_0 : decode cX7_lays 0 = .ok (.iconst 0, 1) := by decide +kernel
theorem dX7_lays_1 : decode cX7_lays 1 = .ok (.istore_n 2, 1) := by decide +kernel
theorem dX7_lays_2 : decode cX7_lays 2 = .ok (.iload_n 2, 1) := by decide +kernel
theorem dX7_lays_3 : decode cX7_lays 3 = .ok (.sipush 297, 3) := by decide +kernel
theorem dX7_lays_6 : decode cX7_lays 6 = .ok (.if_icmp .ge 16, 3) := by decide +kernel
theorem dX7_lays_9 : decode cX7_lays 9 = .ok (.aload_n 0, 1) := by decide +kernel
theorem dX7_lays_10 : decode cX7_lays 10 = .ok (.getfield 16, 3) := by decide +kernel
theorem dX7_lays_13 : decode cX7_lays 13 = .ok (.iload_n 2, 1) := by decide +kernel
theorem dX7_lays_14 : decode cX7_lays 14 = .ok (.lconst 0, 1) := by decide +kernel
theorem dX7_lays_15 : decode cX7_lays 15 = .ok (.lastore, 1) := by decide +kernel
theorem dX7_lays_16 : decode cX7_lays 16 = .ok (.iinc 2 1, 3) := by decide +kernel
theorem dX7_lays_19 : decode cX7_lays 19 = .ok (.goto (-17), 3) := by decide +kernel
theorem dX7_lays_22 : decode cX7_lays 22 = .ok (.iconst 0, 1) := by decide +kernel
theorem dX7_lays_23 : decode cX7_lays 23 = .ok (.istore_n 2, 1) := by decide +kernel
theorem dX7_lays_24 : decode cX7_lays 24 = .ok (.iload_n 2, 1) := by decide +kernel
theorem dX7_lays_25 : decode cX7_lays 25 = .ok (.bipush 26, 2) := by decide +kernel
theorem dX7_lays_27 : decode cX7_lays 27 = .ok (.if_icmp .ge 26, 3) := by decide +kernel
theorem dX7_lays_30 : decode cX7_lays 30 = .ok (.aload_n 0, 1) := by decide +kernel
theorem dX7_lays_31 : decode cX7_lays 31 = .ok (.getfield 23, 3) := by decide +kernel
theorem dX7_lays_34 : decode cX7_lays 34 = .ok (.iload_n 2, 1) := by decide +kernel
theorem dX7_lays_35 : decode cX7_lays 35 = .ok (.iload_n 2, 1) := by decide +kernel
theorem dX7_lays_36 : decode cX7_lays 36 = .ok (.bipush 21, 2) := by decide +kernel
theorem dX7_lays_38 : decode cX7_lays 38 = .ok (.if_icmp .ge 7, 3) := by decide +kernel
theorem dX7_lays_41 : decode cX7_lays 41 = .ok (.iconst 1, 1) := by decide +kernel
theorem dX7_lays_42 : decode cX7_lays 42 = .ok (.goto 4, 3) := by decide +kernel
theorem dX7_lays_45 : decode cX7_lays 45 = .ok (.iconst 0, 1) := by decide +kernel
theorem dX7_lays_46 : decode cX7_lays 46 = .ok (.bastore, 1) := by decide +kernel
theorem dX7_lays_47 : decode cX7_lays 47 = .ok (.iinc 2 1, 3) := by decide +kernel
theorem dX7_lays_50 : decode cX7_lays 50 = .ok (.goto (-26), 3) := by decide +kernel
theorem dX7_lays_53 : decode cX7_lays 53 = .ok (.aload_n 0, 1) := by decide +kernel
theorem dX7_lays_54 : decode cX7_lays 54 = .ok (.lconst 1, 1) := by decide +kernel
theorem dX7_lays_55 : decode cX7_lays 55 = .ok (.putfield 84, 3) := by decide +kernel
theorem dX7_lays_58 : decode cX7_lays 58 = .ok (.iconst 1, 1) := by decide +kernel
theorem dX7_lays_59 : decode cX7_lays 59 = .ok (.istore_n 2, 1) := by decide +kernel
theorem dX7_lays_60 : decode cX7_lays 60 = .ok (.iconst 0, 1) := by decide +kernel
theorem dX7_lays_61 : decode cX7_lays 61 = .ok (.istore_n 3, 1) := by decide +kernel
theorem dX7_lays_62 : decode cX7_lays 62 = .ok (.iload_n 3, 1) := by decide +kernel
theorem dX7_lays_63 : decode cX7_lays 63 = .ok (.aload_n 0, 1) := by decide +kernel
theorem dX7_lays_64 : decode cX7_lays 64 = .ok (.getfield 49, 3) := by decide +kernel
theorem dX7_lays_67 : decode cX7_lays 67 = .ok (.if_icmp .ge 157, 3) := by decide +kernel
theorem dX7_lays_70 : decode cX7_lays 70 = .ok (.iconst 0, 1) := by decide +kernel
theorem dX7_lays_71 : decode cX7_lays 71 = .ok (.istore 4, 2) := by decide +kernel
theorem dX7_lays_73 : decode cX7_lays 73 = .ok (.iconst 0, 1) := by decide +kernel
theorem dX7_lays_74 : decode cX7_lays 74 = .ok (.istore 5, 2) := by decide +kernel
theorem dX7_lays_76 : decode cX7_lays 76 = .ok (.iload 5, 2) := by decide +kernel
theorem dX7_lays_78 : decode cX7_lays 78 = .ok (.iconst 3, 1) := by decide +kernel
theorem dX7_lays_79 : decode cX7_lays 79 = .ok (.if_icmp .ge 111, 3) := by decide +kernel
theorem dX7_lays_82 : decode cX7_lays 82 = .ok (.iconst 3, 1) := by decide +kernel
theorem dX7_lays_83 : decode cX7_lays 83 = .ok (.iload_n 3, 1) := by decide +kernel
theorem dX7_lays_84 : decode cX7_lays 84 = .ok (.imul, 1) := by decide +kernel
theorem dX7_lays_85 : decode cX7_lays 85 = .ok (.iload 5, 2) := by decide +kernel
theorem dX7_lays_87 : decode cX7_lays 87 = .ok (.iadd, 1) := by decide +kernel
theorem dX7_lays_88 : decode cX7_lays 88 = .ok (.istore 6, 2) := by decide +kernel
theorem dX7_lays_90 : decode cX7_lays 90 = .ok (.aload_n 0, 1) := by decide +kernel
theorem dX7_lays_91 : decode cX7_lays 91 = .ok (.getfield 16, 3) := by decide +kernel
theorem dX7_lays_94 : decode cX7_lays 94 = .ok (.bipush 27, 2) := by decide +kernel
theorem dX7_lays_96 : decode cX7_lays 96 = .ok (.iload_n 3, 1) := by decide +kernel
theorem dX7_lays_97 : decode cX7_lays 97 = .ok (.imul, 1) := by decide +kernel
theorem dX7_lays_98 : decode cX7_lays 98 = .ok (.iload 6, 2) := by decide +kernel
theorem dX7_lays_100 : decode cX7_lays 100 = .ok (.iadd, 1) := by decide +kernel
theorem dX7_lays_101 : decode cX7_lays 101 = .ok (.lconst 1, 1) := by decide +kernel
theorem dX7_lays_102 : decode cX7_lays 102 = .ok (.lastore, 1) := by decide +kernel
theorem dX7_lays_103 : decode cX7_lays 103 = .ok (.aload_n 0, 1) := by decide +kernel
theorem dX7_lays_104 : decode cX7_lays 104 = .ok (.getfield 16, 3) := by decide +kernel
theorem dX7_lays_107 : decode cX7_lays 107 = .ok (.bipush 27, 2) := by decide +kernel
theorem dX7_lays_109 : decode cX7_lays 109 = .ok (.aload_n 0, 1) := by decide +kernel
theorem dX7_lays_110 : decode cX7_lays 110 = .ok (.getfield 49, 3) := by decide +kernel
theorem dX7_lays_113 : decode cX7_lays 113 = .ok (.iload 5, 2) := by decide +kernel
theorem dX7_lays_115 : decode cX7_lays 115 = .ok (.iadd, 1) := by decide +kernel
theorem dX7_lays_116 : decode cX7_lays 116 = .ok (.imul, 1) := by decide +kernel
theorem dX7_lays_117 : decode cX7_lays 117 = .ok (.iload 6, 2) := by decide +kernel
theorem dX7_lays_119 : decode cX7_lays 119 = .ok (.iadd, 1) := by decide +kernel
theorem dX7_lays_120 : decode cX7_lays 120 = .ok (.aload_n 0, 1) := by decide +kernel
theorem dX7_lays_121 : decode cX7_lays 121 = .ok (.getfield 7, 3) := by decide +kernel
theorem dX7_lays_124 : decode cX7_lays 124 = .ok (.iload 6, 2) := by decide +kernel
theorem dX7_lays_126 : decode cX7_lays 126 = .ok (.iaload, 1) := by decide +kernel
theorem dX7_lays_127 : decode cX7_lays 127 = .ok (.i2l, 1) := by decide +kernel
theorem dX7_lays_128 : decode cX7_lays 128 = .ok (.lastore, 1) := by decide +kernel
theorem dX7_lays_129 : decode cX7_lays 129 = .ok (.aload_n 0, 1) := by decide +kernel
theorem dX7_lays_130 : decode cX7_lays 130 = .ok (.getfield 23, 3) := by decide +kernel
theorem dX7_lays_133 : decode cX7_lays 133 = .ok (.iload 6, 2) := by decide +kernel
theorem dX7_lays_135 : decode cX7_lays 135 = .ok (.aload_n 0, 1) := by decide +kernel
theorem dX7_lays_136 : decode cX7_lays 136 = .ok (.getfield 7, 3) := by decide +kernel
theorem dX7_lays_139 : decode cX7_lays 139 = .ok (.iload 6, 2) := by decide +kernel
theorem dX7_lays_141 : decode cX7_lays 141 = .ok (.iaload, 1) := by decide +kernel
theorem dX7_lays_142 : decode cX7_lays 142 = .ok (.ifCond .eq 14, 3) := by decide +kernel
theorem dX7_lays_145 : decode cX7_lays 145 = .ok (.aload_n 0, 1) := by decide +kernel
theorem dX7_lays_146 : decode cX7_lays 146 = .ok (.getfield 7, 3) := by decide +kernel
theorem dX7_lays_149 : decode cX7_lays 149 = .ok (.iload 6, 2) := by decide +kernel
theorem dX7_lays_151 : decode cX7_lays 151 = .ok (.iaload, 1) := by decide +kernel
theorem dX7_lays_152 : decode cX7_lays 152 = .ok (.iload_n 1, 1) := by decide +kernel
theorem dX7_lays_153 : decode cX7_lays 153 = .ok (.if_icmp .le 7, 3) := by decide +kernel
theorem dX7_lays_156 : decode cX7_lays 156 = .ok (.iconst 1, 1) := by decide +kernel
theorem dX7_lays_157 : decode cX7_lays 157 = .ok (.goto 4, 3) := by decide +kernel
theorem dX7_lays_160 : decode cX7_lays 160 = .ok (.iconst 0, 1) := by decide +kernel
theorem dX7_lays_161 : decode cX7_lays 161 = .ok (.bastore, 1) := by decide +kernel
theorem dX7_lays_162 : decode cX7_lays 162 = .ok (.iload 4, 2) := by decide +kernel
theorem dX7_lays_164 : decode cX7_lays 164 = .ok (.ifCond .ne 13, 3) := by decide +kernel
theorem dX7_lays_167 : decode cX7_lays 167 = .ok (.aload_n 0, 1) := by decide +kernel
theorem dX7_lays_168 : decode cX7_lays 168 = .ok (.getfield 23, 3) := by decide +kernel
theorem dX7_lays_171 : decode cX7_lays 171 = .ok (.iload 6, 2) := by decide +kernel
theorem dX7_lays_173 : decode cX7_lays 173 = .ok (.baload, 1) := by decide +kernel
theorem dX7_lays_174 : decode cX7_lays 174 = .ok (.ifCond .ne 7, 3) := by decide +kernel
theorem dX7_lays_177 : decode cX7_lays 177 = .ok (.iconst 1, 1) := by decide +kernel
theorem dX7_lays_178 : decode cX7_lays 178 = .ok (.goto 4, 3) := by decide +kernel
theorem dX7_lays_181 : decode cX7_lays 181 = .ok (.iconst 0, 1) := by decide +kernel
theorem dX7_lays_182 : decode cX7_lays 182 = .ok (.istore 4, 2) := by decide +kernel
theorem dX7_lays_184 : decode cX7_lays 184 = .ok (.iinc 5 1, 3) := by decide +kernel
theorem dX7_lays_187 : decode cX7_lays 187 = .ok (.goto (-111), 3) := by decide +kernel
theorem dX7_lays_190 : decode cX7_lays 190 = .ok (.aload_n 0, 1) := by decide +kernel
theorem dX7_lays_191 : decode cX7_lays 191 = .ok (.getfield 16, 3) := by decide +kernel
theorem dX7_lays_194 : decode cX7_lays 194 = .ok (.bipush 27, 2) := by decide +kernel
theorem dX7_lays_196 : decode cX7_lays 196 = .ok (.iload_n 3, 1) := by decide +kernel
theorem dX7_lays_197 : decode cX7_lays 197 = .ok (.imul, 1) := by decide +kernel
theorem dX7_lays_198 : decode cX7_lays 198 = .ok (.bipush 26, 2) := by decide +kernel
theorem dX7_lays_200 : decode cX7_lays 200 = .ok (.iadd, 1) := by decide +kernel
theorem dX7_lays_201 : decode cX7_lays 201 = .ok (.lconst 1, 1) := by decide +kernel
theorem dX7_lays_202 : decode cX7_lays 202 = .ok (.lastore, 1) := by decide +kernel
theorem dX7_lays_203 : decode cX7_lays 203 = .ok (.iload_n 2, 1) := by decide +kernel
theorem dX7_lays_204 : decode cX7_lays 204 = .ok (.ifCond .eq 12, 3) := by decide +kernel
theorem dX7_lays_207 : decode cX7_lays 207 = .ok (.iload 4, 2) := by decide +kernel
theorem dX7_lays_209 : decode cX7_lays 209 = .ok (.ifCond .eq 7, 3) := by decide +kernel
theorem dX7_lays_212 : decode cX7_lays 212 = .ok (.iconst 1, 1) := by decide +kernel
theorem dX7_lays_213 : decode cX7_lays 213 = .ok (.goto 4, 3) := by decide +kernel
theorem dX7_lays_216 : decode cX7_lays 216 = .ok (.iconst 0, 1) := by decide +kernel
theorem dX7_lays_217 : decode cX7_lays 217 = .ok (.istore_n 2, 1) := by decide +kernel
theorem dX7_lays_218 : decode cX7_lays 218 = .ok (.iinc 3 1, 3) := by decide +kernel
theorem dX7_lays_221 : decode cX7_lays 221 = .ok (.goto (-159), 3) := by decide +kernel
theorem dX7_lays_224 : decode cX7_lays 224 = .ok (.iconst 0, 1) := by decide +kernel
theorem dX7_lays_225 : decode cX7_lays 225 = .ok (.istore_n 3, 1) := by decide +kernel
theorem dX7_lays_226 : decode cX7_lays 226 = .ok (.iload_n 3, 1) := by decide +kernel
theorem dX7_lays_227 : decode cX7_lays 227 = .ok (.iconst 3, 1) := by decide +kernel
theorem dX7_lays_228 : decode cX7_lays 228 = .ok (.if_icmp .ge 64, 3) := by decide +kernel
theorem dX7_lays_231 : decode cX7_lays 231 = .ok (.aload_n 0, 1) := by decide +kernel
theorem dX7_lays_232 : decode cX7_lays 232 = .ok (.getfield 16, 3) := by decide +kernel
theorem dX7_lays_235 : decode cX7_lays 235 = .ok (.bipush 27, 2) := by decide +kernel
theorem dX7_lays_237 : decode cX7_lays 237 = .ok (.aload_n 0, 1) := by decide +kernel
theorem dX7_lays_238 : decode cX7_lays 238 = .ok (.getfield 49, 3) := by decide +kernel
theorem dX7_lays_241 : decode cX7_lays 241 = .ok (.iload_n 3, 1) := by decide +kernel
theorem dX7_lays_242 : decode cX7_lays 242 = .ok (.iadd, 1) := by decide +kernel
theorem dX7_lays_243 : decode cX7_lays 243 = .ok (.imul, 1) := by decide +kernel
theorem dX7_lays_244 : decode cX7_lays 244 = .ok (.bipush 21, 2) := by decide +kernel
theorem dX7_lays_246 : decode cX7_lays 246 = .ok (.iadd, 1) := by decide +kernel
theorem dX7_lays_247 : decode cX7_lays 247 = .ok (.ldc2_w 88, 3) := by decide +kernel
theorem dX7_lays_250 : decode cX7_lays 250 = .ok (.lastore, 1) := by decide +kernel
theorem dX7_lays_251 : decode cX7_lays 251 = .ok (.aload_n 0, 1) := by decide +kernel
theorem dX7_lays_252 : decode cX7_lays 252 = .ok (.getfield 16, 3) := by decide +kernel
theorem dX7_lays_255 : decode cX7_lays 255 = .ok (.bipush 27, 2) := by decide +kernel
theorem dX7_lays_257 : decode cX7_lays 257 = .ok (.aload_n 0, 1) := by decide +kernel
theorem dX7_lays_258 : decode cX7_lays 258 = .ok (.getfield 49, 3) := by decide +kernel
theorem dX7_lays_261 : decode cX7_lays 261 = .ok (.iload_n 3, 1) := by decide +kernel
theorem dX7_lays_262 : decode cX7_lays 262 = .ok (.iadd, 1) := by decide +kernel
theorem dX7_lays_263 : decode cX7_lays 263 = .ok (.imul, 1) := by decide +kernel
theorem dX7_lays_264 : decode cX7_lays 264 = .ok (.bipush 22, 2) := by decide +kernel
theorem dX7_lays_266 : decode cX7_lays 266 = .ok (.iadd, 1) := by decide +kernel
theorem dX7_lays_267 : decode cX7_lays 267 = .ok (.iload_n 3, 1) := by decide +kernel
theorem dX7_lays_268 : decode cX7_lays 268 = .ok (.iadd, 1) := by decide +kernel
theorem dX7_lays_269 : decode cX7_lays 269 = .ok (.lconst 1, 1) := by decide +kernel
theorem dX7_lays_270 : decode cX7_lays 270 = .ok (.lastore, 1) := by decide +kernel
theorem dX7_lays_271 : decode cX7_lays 271 = .ok (.aload_n 0, 1) := by decide +kernel
theorem dX7_lays_272 : decode cX7_lays 272 = .ok (.getfield 20, 3) := by decide +kernel
theorem dX7_lays_275 : decode cX7_lays 275 = .ok (.aload_n 0, 1) := by decide +kernel
theorem dX7_lays_276 : decode cX7_lays 276 = .ok (.getfield 49, 3) := by decide +kernel
theorem dX7_lays_279 : decode cX7_lays 279 = .ok (.iload_n 3, 1) := by decide +kernel
theorem dX7_lays_280 : decode cX7_lays 280 = .ok (.iadd, 1) := by decide +kernel
theorem dX7_lays_281 : decode cX7_lays 281 = .ok (.bipush 22, 2) := by decide +kernel
theorem dX7_lays_283 : decode cX7_lays 283 = .ok (.iload_n 3, 1) := by decide +kernel
theorem dX7_lays_284 : decode cX7_lays 284 = .ok (.iadd, 1) := by decide +kernel
theorem dX7_lays_285 : decode cX7_lays 285 = .ok (.iastore, 1) := by decide +kernel
theorem dX7_lays_286 : decode cX7_lays 286 = .ok (.iinc 3 1, 3) := by decide +kernel
theorem dX7_lays_289 : decode cX7_lays 289 = .ok (.goto (-63), 3) := by decide +kernel
theorem dX7_lays_292 : decode cX7_lays 292 = .ok (.aload_n 0, 1) := by decide +kernel
theorem dX7_lays_293 : decode cX7_lays 293 = .ok (.getfield 16, 3) := by decide +kernel
theorem dX7_lays_296 : decode cX7_lays 296 = .ok (.bipush 27, 2) := by decide +kernel
theorem dX7_lays_298 : decode cX7_lays 298 = .ok (.aload_n 0, 1) := by decide +kernel
theorem dX7_lays_299 : decode cX7_lays 299 = .ok (.invokevirtual 81, 3) := by decide +kernel
theorem dX7_lays_302 : decode cX7_lays 302 = .ok (.iconst 1, 1) := by decide +kernel
theorem dX7_lays_303 : decode cX7_lays 303 = .ok (.isub, 1) := by decide +kernel
theorem dX7_lays_304 : decode cX7_lays 304 = .ok (.imul, 1) := by decide +kernel
theorem dX7_lays_305 : decode cX7_lays 305 = .ok (.bipush 21, 2) := by decide +kernel
theorem dX7_lays_307 : decode cX7_lays 307 = .ok (.iadd, 1) := by decide +kernel
theorem dX7_lays_308 : decode cX7_lays 308 = .ok (.lconst 1, 1) := by decide +kernel
theorem dX7_lays_309 : decode cX7_lays 309 = .ok (.lastore, 1) := by decide +kernel
theorem dX7_lays_310 : decode cX7_lays 310 = .ok (.aload_n 0, 1) := by decide +kernel
theorem dX7_lays_311 : decode cX7_lays 311 = .ok (.getfield 16, 3) := by decide +kernel
theorem dX7_lays_314 : decode cX7_lays 314 = .ok (.bipush 27, 2) := by decide +kernel
theorem dX7_lays_316 : decode cX7_lays 316 = .ok (.aload_n 0, 1) := by decide +kernel
theorem dX7_lays_317 : decode cX7_lays 317 = .ok (.invokevirtual 81, 3) := by decide +kernel
theorem dX7_lays_320 : decode cX7_lays 320 = .ok (.iconst 1, 1) := by decide +kernel
theorem dX7_lays_321 : decode cX7_lays 321 = .ok (.isub, 1) := by decide +kernel
theorem dX7_lays_322 : decode cX7_lays 322 = .ok (.imul, 1) := by decide +kernel
theorem dX7_lays_323 : decode cX7_lays 323 = .ok (.bipush 25, 2) := by decide +kernel
theorem dX7_lays_325 : decode cX7_lays 325 = .ok (.iadd, 1) := by decide +kernel
theorem dX7_lays_326 : decode cX7_lays 326 = .ok (.lconst 1, 1) := by decide +kernel
theorem dX7_lays_327 : decode cX7_lays 327 = .ok (.lastore, 1) := by decide +kernel
theorem dX7_lays_328 : decode cX7_lays 328 = .ok (.aload_n 0, 1) := by decide +kernel
theorem dX7_lays_329 : decode cX7_lays 329 = .ok (.getfield 16, 3) := by decide +kernel
theorem dX7_lays_332 : decode cX7_lays 332 = .ok (.bipush 27, 2) := by decide +kernel
theorem dX7_lays_334 : decode cX7_lays 334 = .ok (.aload_n 0, 1) := by decide +kernel
theorem dX7_lays_335 : decode cX7_lays 335 = .ok (.invokevirtual 81, 3) := by decide +kernel
theorem dX7_lays_338 : decode cX7_lays 338 = .ok (.iconst 1, 1) := by decide +kernel
theorem dX7_lays_339 : decode cX7_lays 339 = .ok (.isub, 1) := by decide +kernel
theorem dX7_lays_340 : decode cX7_lays 340 = .ok (.imul, 1) := by decide +kernel
theorem dX7_lays_341 : decode cX7_lays 341 = .ok (.bipush 26, 2) := by decide +kernel
theorem dX7_lays_343 : decode cX7_lays 343 = .ok (.iadd, 1) := by decide +kernel
theorem dX7_lays_344 : decode cX7_lays 344 = .ok (.ldc2_w 90, 3) := by decide +kernel
theorem dX7_lays_347 : decode cX7_lays 347 = .ok (.lastore, 1) := by decide +kernel
theorem dX7_lays_348 : decode cX7_lays 348 = .ok (.aload_n 0, 1) := by decide +kernel
theorem dX7_lays_349 : decode cX7_lays 349 = .ok (.getfield 20, 3) := by decide +kernel
theorem dX7_lays_352 : decode cX7_lays 352 = .ok (.aload_n 0, 1) := by decide +kernel
theorem dX7_lays_353 : decode cX7_lays 353 = .ok (.invokevirtual 81, 3) := by decide +kernel
theorem dX7_lays_356 : decode cX7_lays 356 = .ok (.iconst 1, 1) := by decide +kernel
theorem dX7_lays_357 : decode cX7_lays 357 = .ok (.isub, 1) := by decide +kernel
theorem dX7_lays_358 : decode cX7_lays 358 = .ok (.bipush 25, 2) := by decide +kernel
theorem dX7_lays_360 : decode cX7_lays 360 = .ok (.iastore, 1) := by decide +kernel
theorem dX7_lays_361 : decode cX7_lays 361 = .ok (.iload_n 2, 1) := by decide +kernel
theorem dX7_lays_362 : decode cX7_lays 362 = .ok (.ireturn, 1) := by decide +kernel
set_option maxRecDepth 20000 in
theorem ggX7_starts_X7_pivots : GoodIn wsX7_starts wsX7_pivots := goodIn_r _ [8, 3, 9, 10, 11, 12, 13, 7, 14, 1, 15, 16, 17, 18, 19, 20, 21, 22, 23, 24, 25, 26, 27, 28] (by decide +kernel) (by decide +kernel)
set_option maxRecDepth 20000 in
theorem gX7_starts_X7_pivots : GoodIn wsX7_starts (wsV RX7 92 RX7 yX7_pivots wsX7_pivots) := goodIn_app (goodIn_of _ (by decide +kernel)) ggX7_starts_X7_pivots
theorem dX7_starts_0 : decode cX7_starts 0 = .ok (.iconst 0, 1) := by decide +kernel
theorem dX7_starts_1 : decode cX7_starts 1 = .ok (.istore_n 1, 1) := by decide +kernel
theorem dX7_starts_2 : decode cX7_starts 2 = .ok (.iload_n 1, 1) := by decide +kernel
theorem dX7_starts_3 : decode cX7_starts 3 = .ok (.aload_n 0, 1) := by decide +kernel
theorem dX7_starts_4 : decode cX7_starts 4 = .ok (.getfield 49, 3) := by decide +kernel
theorem dX7_starts_7 : decode cX7_starts 7 = .ok (.if_icmp .ge 52, 3) := by decide +kernel
theorem dX7_starts_10 : decode cX7_starts 10 = .ok (.iconst (-1), 1) := by decide +kernel
theorem dX7_starts_11 : decode cX7_starts 11 = .ok (.istore_n 2, 1) := by decide +kernel
theorem dX7_starts_12 : decode cX7_starts 12 = .ok (.iconst 2, 1) := by decide +kernel
theorem dX7_starts_13 : decode cX7_starts 13 = .ok (.istore_n 3, 1) := by decide +kernel
theorem dX7_starts_14 : decode cX7_starts 14 = .ok (.iload_n 3, 1) := by decide +kernel
theorem dX7_starts_15 : decode cX7_starts 15 = .ok (.ifCond .lt 32, 3) := by decide +kernel
theorem dX7_starts_18 : decode cX7_starts 18 = .ok (.aload_n 0, 1) := by decide +kernel
theorem dX7_starts_19 : decode cX7_starts 19 = .ok (.getfield 23, 3) := by decide +kernel
theorem dX7_starts_22 : decode cX7_starts 22 = .ok (.iconst 3, 1) := by decide +kernel
theorem dX7_starts_23 : decode cX7_starts 23 = .ok (.iload_n 1, 1) := by decide +kernel
theorem dX7_starts_24 : decode cX7_starts 24 = .ok (.imul, 1) := by decide +kernel
theorem dX7_starts_25 : decode cX7_starts 25 = .ok (.iload_n 3, 1) := by decide +kernel
theorem dX7_starts_26 : decode cX7_starts 26 = .ok (.iadd, 1) := by decide +kernel
theorem dX7_starts_27 : decode cX7_starts 27 = .ok (.baload, 1) := by decide +kernel
theorem dX7_starts_28 : decode cX7_starts 28 = .ok (.ifCond .eq 7, 3) := by decide +kernel
theorem dX7_starts_31 : decode cX7_starts 31 = .ok (.iload_n 2, 1) := by decide +kernel
theorem dX7_starts_32 : decode cX7_starts 32 = .ok (.goto 8, 3) := by decide +kernel
theorem dX7_starts_35 : decode cX7_starts 35 = .ok (.iconst 3, 1) := by decide +kernel
theorem dX7_starts_36 : decode cX7_starts 36 = .ok (.iload_n 1, 1) := by decide +kernel
theorem dX7_starts_37 : decode cX7_starts 37 = .ok (.imul, 1) := by decide +kernel
theorem dX7_starts_38 : decode cX7_starts 38 = .ok (.iload_n 3, 1) := by decide +kernel
theorem dX7_starts_39 : decode cX7_starts 39 = .ok (.iadd, 1) := by decide +kernel
theorem dX7_starts_40 : decode cX7_starts 40 = .ok (.istore_n 2, 1) := by decide +kernel
theorem dX7_starts_41 : decode cX7_starts 41 = .ok (.iinc 3 (-1), 3) := by decide +kernel
theorem dX7_starts_44 : decode cX7_starts 44 = .ok (.goto (-30), 3) := by decide +kernel
theorem dX7_starts_47 : decode cX7_starts 47 = .ok (.aload_n 0, 1) := by decide +kernel
theorem dX7_starts_48 : decode cX7_starts 48 = .ok (.iload_n 1, 1) := by decide +kernel
theorem dX7_starts_49 : decode cX7_starts 49 = .ok (.iload_n 2, 1) := by decide +kernel
theorem dX7_starts_50 : decode cX7_starts 50 = .ok (.invokevirtual 92, 3) := by decide +kernel
theorem dX7_starts_53 : decode cX7_starts 53 = .ok (.iinc 1 1, 3) := by decide +kernel
theorem dX7_starts_56 : decode cX7_starts 56 = .ok (.goto (-54), 3) := by decide +kernel
theorem dX7_starts_59 : decode cX7_starts 59 = .ok (.aload_n 0, 1) := by decide +kernel
theorem dX7_starts_60 : decode cX7_starts 60 = .ok (.getfield 49, 3) := by decide +kernel
theorem dX7_starts_63 : decode cX7_starts 63 = .ok (.istore_n 1, 1) := by decide +kernel
theorem dX7_starts_64 : decode cX7_starts 64 = .ok (.aload_n 0, 1) := by decide +kernel
theorem dX7_starts_65 : decode cX7_starts 65 = .ok (.getfield 49, 3) := by decide +kernel
theorem dX7_starts_68 : decode cX7_starts 68 = .ok (.istore_n 2, 1) := by decide +kernel
theorem dX7_starts_69 : decode cX7_starts 69 = .ok (.iload_n 2, 1) := by decide +kernel
theorem dX7_starts_70 : decode cX7_starts 70 = .ok (.aload_n 0, 1) := by decide +kernel
theorem dX7_starts_71 : decode cX7_starts 71 = .ok (.getfield 49, 3) := by decide +kernel
theorem dX7_starts_74 : decode cX7_starts 74 = .ok (.iconst 3, 1) := by decide +kernel
theorem dX7_starts_75 : decode cX7_starts 75 = .ok (.iadd, 1) := by decide +kernel
theorem dX7_starts_76 : decode cX7_starts 76 = .ok (.if_icmp .ge 43, 3) := by decide +kernel
theorem dX7_starts_79 : decode cX7_starts 79 = .ok (.aload_n 0, 1) := by decide +kernel
theorem dX7_starts_80 : decode cX7_starts 80 = .ok (.getfield 16, 3) := by decide +kernel
theorem dX7_starts_83 : decode cX7_starts 83 = .ok (.bipush 27, 2) := by decide +kernel
theorem dX7_starts_85 : decode cX7_starts 85 = .ok (.iload_n 2, 1) := by decide +kernel
theorem dX7_starts_86 : decode cX7_starts 86 = .ok (.imul, 1) := by decide +kernel
theorem dX7_starts_87 : decode cX7_starts 87 = .ok (.bipush 26, 2) := by decide +kernel
theorem dX7_starts_89 : decode cX7_starts 89 = .ok (.iadd, 1) := by decide +kernel
theorem dX7_starts_90 : decode cX7_starts 90 = .ok (.laload, 1) := by decide +kernel
theorem dX7_starts_91 : decode cX7_starts 91 = .ok (.aload_n 0, 1) := by decide +kernel
theorem dX7_starts_92 : decode cX7_starts 92 = .ok (.getfield 16, 3) := by decide +kernel
theorem dX7_starts_95 : decode cX7_starts 95 = .ok (.bipush 27, 2) := by decide +kernel
theorem dX7_starts_97 : decode cX7_starts 97 = .ok (.iload_n 1, 1) := by decide +kernel
theorem dX7_starts_98 : decode cX7_starts 98 = .ok (.imul, 1) := by decide +kernel
theorem dX7_starts_99 : decode cX7_starts 99 = .ok (.bipush 26, 2) := by decide +kernel
theorem dX7_starts_101 : decode cX7_starts 101 = .ok (.iadd, 1) := by decide +kernel
theorem dX7_starts_102 : decode cX7_starts 102 = .ok (.laload, 1) := by decide +kernel
theorem dX7_starts_103 : decode cX7_starts 103 = .ok (.lcmp, 1) := by decide +kernel
theorem dX7_starts_104 : decode cX7_starts 104 = .ok (.ifCond .ge 7, 3) := by decide +kernel
theorem dX7_starts_107 : decode cX7_starts 107 = .ok (.iload_n 2, 1) := by decide +kernel
theorem dX7_starts_108 : decode cX7_starts 108 = .ok (.goto 4, 3) := by decide +kernel
theorem dX7_starts_111 : decode cX7_starts 111 = .ok (.iload_n 1, 1) := by decide +kernel
theorem dX7_starts_112 : decode cX7_starts 112 = .ok (.istore_n 1, 1) := by decide +kernel
theorem dX7_starts_113 : decode cX7_starts 113 = .ok (.iinc 2 1, 3) := by decide +kernel
theorem dX7_starts_116 : decode cX7_starts 116 = .ok (.goto (-47), 3) := by decide +kernel
theorem dX7_starts_119 : decode cX7_starts 119 = .ok (.aload_n 0, 1) := by decide +kernel
theorem dX7_starts_120 : decode cX7_starts 120 = .ok (.iload_n 1, 1) := by decide +kernel
theorem dX7_starts_121 : decode cX7_starts 121 = .ok (.bipush 21, 2) := by decide +kernel
theorem dX7_starts_123 : decode cX7_starts 123 = .ok (.invokevirtual 92, 3) := by decide +kernel
theorem dX7_starts_126 : decode cX7_starts 126 = .ok (.return_, 1) := by decide +kernel
set_option maxRecDepth 20000 in
theorem ggX7_lowers_X7_rowOf : GoodIn wsX7_lowers wsX7_rowOf := goodIn_r _ [7, 8, 9, 10, 11, 6, 12, 13, 23, 24, 25, 26, 27, 28, 29, 30, 31, 32, 33, 34, 35, 36] (by decide +kernel) (by decide +kernel)
set_option maxRecDepth 20000 in
theorem gX7_lowers_X7_rowOf : GoodIn wsX7_lowers (wsV RX7 96 RX7 yX7_rowOf wsX7_rowOf) := goodIn_app (goodIn_of _ (by decide +kernel)) ggX7_lowers_X7_rowOf
set_option maxRecDepth 20000 in
theorem ggX7_lowers_X7_leaving : GoodIn wsX7_lowers wsX7_leaving := goodIn_r _ [17, 2, 8, 9, 10, 11, 6, 12, 13, 23, 24, 25, 26, 27, 28, 29, 30, 31, 32, 33, 34, 35, 36] (by decide +kernel) (by decide +kernel)
set_option maxRecDepth 20000 in
theorem gX7_lowers_X7_leaving : GoodIn wsX7_lowers (wsV RX7 99 RX7 yX7_leaving wsX7_leaving) := goodIn_app (goodIn_of _ (by decide +kernel)) ggX7_lowers_X7_leaving
set_option maxRecDepth 20000 in
theorem ggX7_lowers_X7_pivots : GoodIn wsX7_lowers wsX7_pivots := goodIn_r _ [21, 2, 22, 8, 9, 10, 11, 6, 12, 13, 23, 24, 25, 26, 27, 28, 29, 30, 31, 32, 33, 34, 35, 36] (by decide +kernel) (by decide +kernel)
set_option maxRecDepth 20000 in
theorem gX7_lowers_X7_pivots : GoodIn wsX7_lowers (wsV RX7 92 RX7 yX7_pivots wsX7_pivots) := goodIn_app (goodIn_of _ (by decide +kernel)) ggX7_lowers_X7_pivots
theorem dX7_lowers_0 : decode cX7_lowers 0 = .ok (.aload_n 0, 1) := by decide +kernel
theorem dX7_lowers_1 : decode cX7_lowers 1 = .ok (.bipush 21, 2) := by decide +kernel
theorem dX7_lowers_3 : decode cX7_lowers 3 = .ok (.invokevirtual 96, 3) := by decide +kernel
theorem dX7_lowers_6 : decode cX7_lowers 6 = .ok (.istore_n 1, 1) := by decide +kernel
theorem dX7_lowers_7 : decode cX7_lowers 7 = .ok (.iconst 0, 1) := by decide +kernel
theorem dX7_lowers_8 : decode cX7_lowers 8 = .ok (.istore_n 2, 1) := by decide +kernel
theorem dX7_lowers_9 : decode cX7_lowers 9 = .ok (.iload_n 2, 1) := by decide +kernel
theorem dX7_lowers_10 : decode cX7_lowers 10 = .ok (.bipush 26, 2) := by decide +kernel
theorem dX7_lowers_12 : decode cX7_lowers 12 = .ok (.if_icmp .ge 64, 3) := by decide +kernel
theorem dX7_lowers_15 : decode cX7_lowers 15 = .ok (.aload_n 0, 1) := by decide +kernel
theorem dX7_lowers_16 : decode cX7_lowers 16 = .ok (.getfield 23, 3) := by decide +kernel
theorem dX7_lowers_19 : decode cX7_lowers 19 = .ok (.iload_n 2, 1) := by decide +kernel
theorem dX7_lowers_20 : decode cX7_lowers 20 = .ok (.baload, 1) := by decide +kernel
theorem dX7_lowers_21 : decode cX7_lowers 21 = .ok (.ifCond .ne 49, 3) := by decide +kernel
theorem dX7_lowers_24 : decode cX7_lowers 24 = .ok (.aload_n 0, 1) := by decide +kernel
theorem dX7_lowers_25 : decode cX7_lowers 25 = .ok (.iload_n 2, 1) := by decide +kernel
theorem dX7_lowers_26 : decode cX7_lowers 26 = .ok (.invokevirtual 96, 3) := by decide +kernel
theorem dX7_lowers_29 : decode cX7_lowers 29 = .ok (.ifCond .ge 41, 3) := by decide +kernel
theorem dX7_lowers_32 : decode cX7_lowers 32 = .ok (.aload_n 0, 1) := by decide +kernel
theorem dX7_lowers_33 : decode cX7_lowers 33 = .ok (.getfield 16, 3) := by decide +kernel
theorem dX7_lowers_36 : decode cX7_lowers 36 = .ok (.bipush 27, 2) := by decide +kernel
theorem dX7_lowers_38 : decode cX7_lowers 38 = .ok (.iload_n 1, 1) := by decide +kernel
theorem dX7_lowers_39 : decode cX7_lowers 39 = .ok (.imul, 1) := by decide +kernel
theorem dX7_lowers_40 : decode cX7_lowers 40 = .ok (.iload_n 2, 1) := by decide +kernel
theorem dX7_lowers_41 : decode cX7_lowers 41 = .ok (.iadd, 1) := by decide +kernel
theorem dX7_lowers_42 : decode cX7_lowers 42 = .ok (.laload, 1) := by decide +kernel
theorem dX7_lowers_43 : decode cX7_lowers 43 = .ok (.lconst 0, 1) := by decide +kernel
theorem dX7_lowers_44 : decode cX7_lowers 44 = .ok (.lcmp, 1) := by decide +kernel
theorem dX7_lowers_45 : decode cX7_lowers 45 = .ok (.ifCond .le 25, 3) := by decide +kernel
theorem dX7_lowers_48 : decode cX7_lowers 48 = .ok (.aload_n 0, 1) := by decide +kernel
theorem dX7_lowers_49 : decode cX7_lowers 49 = .ok (.aload_n 0, 1) := by decide +kernel
theorem dX7_lowers_50 : decode cX7_lowers 50 = .ok (.iload_n 2, 1) := by decide +kernel
theorem dX7_lowers_51 : decode cX7_lowers 51 = .ok (.invokevirtual 99, 3) := by decide +kernel
theorem dX7_lowers_54 : decode cX7_lowers 54 = .ok (.iload_n 2, 1) := by decide +kernel
theorem dX7_lowers_55 : decode cX7_lowers 55 = .ok (.invokevirtual 92, 3) := by decide +kernel
theorem dX7_lowers_58 : decode cX7_lowers 58 = .ok (.aload_n 0, 1) := by decide +kernel
theorem dX7_lowers_59 : decode cX7_lowers 59 = .ok (.bipush 21, 2) := by decide +kernel
theorem dX7_lowers_61 : decode cX7_lowers 61 = .ok (.invokevirtual 96, 3) := by decide +kernel
theorem dX7_lowers_64 : decode cX7_lowers 64 = .ok (.istore_n 1, 1) := by decide +kernel
theorem dX7_lowers_65 : decode cX7_lowers 65 = .ok (.iconst 0, 1) := by decide +kernel
theorem dX7_lowers_66 : decode cX7_lowers 66 = .ok (.istore_n 2, 1) := by decide +kernel
theorem dX7_lowers_67 : decode cX7_lowers 67 = .ok (.goto (-58), 3) := by decide +kernel
theorem dX7_lowers_70 : decode cX7_lowers 70 = .ok (.iinc 2 1, 3) := by decide +kernel
theorem dX7_lowers_73 : decode cX7_lowers 73 = .ok (.goto (-64), 3) := by decide +kernel
theorem dX7_lowers_76 : decode cX7_lowers 76 = .ok (.iload_n 1, 1) := by decide +kernel
theorem dX7_lowers_77 : decode cX7_lowers 77 = .ok (.ireturn, 1) := by decide +kernel
set_option maxRecDepth 20000 in
theorem ggX7_fits_X7_lays : GoodIn wsX7_fits wsX7_lays := goodIn_r _ [7, 1, 8, 2, 9, 10, 11, 12, 13, 14, 15, 16, 6, 17, 38, 39, 40, 41, 42, 43, 44, 45, 46, 47, 48, 49, 50, 51] (by decide +kernel) (by decide +kernel)
set_option maxRecDepth 20000 in
theorem gX7_fits_X7_lays : GoodIn wsX7_fits (wsV RX7 102 RX7 yX7_lays wsX7_lays) := goodIn_app (goodIn_of _ (by decide +kernel)) ggX7_fits_X7_lays
set_option maxRecDepth 20000 in
theorem ggX7_fits_X7_starts : GoodIn wsX7_fits wsX7_starts := goodIn_r _ [21, 9, 8, 1, 22, 23, 24, 6, 25, 2, 12, 14, 15, 16, 17, 38, 39, 40, 41, 42, 43, 44, 45, 46, 47, 48, 49, 50, 51] (by decide +kernel) (by decide +kernel)
set_option maxRecDepth 20000 in
theorem gX7_fits_X7_starts : GoodIn wsX7_fits (wsV RX7 105 RX7 yX7_starts wsX7_starts) := goodIn_app (goodIn_of _ (by decide +kernel)) ggX7_fits_X7_starts
set_option maxRecDepth 20000 in
theorem ggX7_fits_X7_lowers : GoodIn wsX7_fits wsX7_lowers := goodIn_r _ [29, 8, 1, 30, 31, 32, 6, 33, 12, 14, 15, 16, 17, 9, 34, 35, 36, 37, 22, 23, 24, 25, 2, 38, 39, 40, 41, 42, 43, 44, 45, 46, 47, 48, 49, 50, 51] (by decide +kernel) (by decide +kernel)
set_option maxRecDepth 20000 in
theorem gX7_fits_X7_lowers : GoodIn wsX7_fits (wsV RX7 108 RX7 yX7_lowers wsX7_lowers) := goodIn_app (goodIn_of _ (by decide +kernel)) ggX7_fits_X7_lowers
theorem dX7_fits_0 : decode cX7_fits 0 = .ok (.aload_n 0, 1) := by decide +kernel
theorem dX7_fits_1 : decode cX7_fits 1 = .ok (.iload_n 1, 1) := by decide +kernel
theorem dX7_fits_2 : decode cX7_fits 2 = .ok (.invokevirtual 102, 3) := by decide +kernel
theorem dX7_fits_5 : decode cX7_fits 5 = .ok (.ifCond .ne 5, 3) := by decide +kernel
theorem dX7_fits_8 : decode cX7_fits 8 = .ok (.iconst 0, 1) := by decide +kernel
theorem dX7_fits_9 : decode cX7_fits 9 = .ok (.ireturn, 1) := by decide +kernel
theorem dX7_fits_10 : decode cX7_fits 10 = .ok (.aload_n 0, 1) := by decide +kernel
theorem dX7_fits_11 : decode cX7_fits 11 = .ok (.invokevirtual 105, 3) := by decide +kernel
theorem dX7_fits_14 : decode cX7_fits 14 = .ok (.aload_n 0, 1) := by decide +kernel
theorem dX7_fits_15 : decode cX7_fits 15 = .ok (.invokevirtual 108, 3) := by decide +kernel
theorem dX7_fits_18 : decode cX7_fits 18 = .ok (.istore_n 2, 1) := by decide +kernel
theorem dX7_fits_19 : decode cX7_fits 19 = .ok (.aload_n 0, 1) := by decide +kernel
theorem dX7_fits_20 : decode cX7_fits 20 = .ok (.getfield 16, 3) := by decide +kernel
theorem dX7_fits_23 : decode cX7_fits 23 = .ok (.bipush 27, 2) := by decide +kernel
theorem dX7_fits_25 : decode cX7_fits 25 = .ok (.iload_n 2, 1) := by decide +kernel
theorem dX7_fits_26 : decode cX7_fits 26 = .ok (.imul, 1) := by decide +kernel
theorem dX7_fits_27 : decode cX7_fits 27 = .ok (.bipush 26, 2) := by decide +kernel
theorem dX7_fits_29 : decode cX7_fits 29 = .ok (.iadd, 1) := by decide +kernel
theorem dX7_fits_30 : decode cX7_fits 30 = .ok (.laload, 1) := by decide +kernel
theorem dX7_fits_31 : decode cX7_fits 31 = .ok (.iload_n 1, 1) := by decide +kernel
theorem dX7_fits_32 : decode cX7_fits 32 = .ok (.i2l, 1) := by decide +kernel
theorem dX7_fits_33 : decode cX7_fits 33 = .ok (.aload_n 0, 1) := by decide +kernel
theorem dX7_fits_34 : decode cX7_fits 34 = .ok (.getfield 84, 3) := by decide +kernel
theorem dX7_fits_37 : decode cX7_fits 37 = .ok (.lmul, 1) := by decide +kernel
theorem dX7_fits_38 : decode cX7_fits 38 = .ok (.lcmp, 1) := by decide +kernel
theorem dX7_fits_39 : decode cX7_fits 39 = .ok (.ifCond .gt 7, 3) := by decide +kernel
theorem dX7_fits_42 : decode cX7_fits 42 = .ok (.iconst 1, 1) := by decide +kernel
theorem dX7_fits_43 : decode cX7_fits 43 = .ok (.goto 4, 3) := by decide +kernel
theorem dX7_fits_46 : decode cX7_fits 46 = .ok (.iconst 0, 1) := by decide +kernel

theorem dX5_start_57 : decode cX5_start 57 = .ok (.iload_n 2, 1) := by decide +kernel
theorem dX5_start_58 : decode cX5_start 58 = .ok (.i2l, 1) := by decide +kernel
theorem dX5_start_59 : decode cX5_start 59 = .ok (.lastore, 1) := by decide +kernel
theorem dX5_start_60 : decode cX5_start 60 = .ok (.aload_n 0, 1) := by decide +kernel
theorem dX5_start_61 : decode cX5_start 61 = .ok (.getfield 16, 3) := by decide +kernel
theorem dX5_start_64 : decode cX5_start 64 = .ok (.iload 4, 2) := by decide +kernel
theorem dX5_start_66 : decode cX5_start 66 = .ok (.iload 5, 2) := by decide +kernel
theorem dX5_start_68 : decode cX5_start 68 = .ok (.iastore, 1) := by decide +kernel
theorem dX5_start_69 : decode cX5_start 69 = .ok (.aload_n 0, 1) := by decide +kernel
theorem dX5_start_70 : decode cX5_start 70 = .ok (.getfield 20, 3) := by decide +kernel
theorem dX5_start_73 : decode cX5_start 73 = .ok (.iload 5, 2) := by decide +kernel
theorem dX5_start_75 : decode cX5_start 75 = .ok (.iconst 1, 1) := by decide +kernel
theorem dX5_start_76 : decode cX5_start 76 = .ok (.bastore, 1) := by decide +kernel
theorem dX5_start_77 : decode cX5_start 77 = .ok (.iinc 4 1, 3) := by decide +kernel
theorem dX5_start_80 : decode cX5_start 80 = .ok (.goto (-69), 3) := by decide +kernel
theorem dX5_start_83 : decode cX5_start 83 = .ok (.iconst 0, 1) := by decide +kernel
theorem dX5_start_84 : decode cX5_start 84 = .ok (.istore 4, 2) := by decide +kernel
theorem dX5_start_86 : decode cX5_start 86 = .ok (.iload 4, 2) := by decide +kernel
theorem dX5_start_88 : decode cX5_start 88 = .ok (.aload_n 1, 1) := by decide +kernel
theorem dX5_start_89 : decode cX5_start 89 = .ok (.getfield 24, 3) := by decide +kernel
theorem dX5_start_92 : decode cX5_start 92 = .ok (.if_icmp .ge 29, 3) := by decide +kernel
theorem dX5_start_95 : decode cX5_start 95 = .ok (.iload 4, 2) := by decide +kernel
theorem dX5_start_97 : decode cX5_start 97 = .ok (.bipush 7, 2) := by decide +kernel
theorem dX5_start_99 : decode cX5_start 99 = .ok (.if_icmp .ge 22, 3) := by decide +kernel
theorem dX5_start_102 : decode cX5_start 102 = .ok (.aload_n 0, 1) := by decide +kernel
theorem dX5_start_103 : decode cX5_start 103 = .ok (.aload_n 1, 1) := by decide +kernel
theorem dX5_start_104 : decode cX5_start 104 = .ok (.iload 4, 2) := by decide +kernel
theorem dX5_start_106 : decode cX5_start 106 = .ok (.iload_n 3, 1) := by decide +kernel
theorem dX5_start_107 : decode cX5_start 107 = .ok (.invokevirtual 36, 3) := by decide +kernel
theorem dX5_start_110 : decode cX5_start 110 = .ok (.ifCond .ne 5, 3) := by decide +kernel
theorem dX5_start_113 : decode cX5_start 113 = .ok (.iconst 0, 1) := by decide +kernel
theorem dX5_start_114 : decode cX5_start 114 = .ok (.ireturn, 1) := by decide +kernel
theorem dX5_start_115 : decode cX5_start 115 = .ok (.iinc 4 1, 3) := by decide +kernel
theorem dX5_start_118 : decode cX5_start 118 = .ok (.goto (-32), 3) := by decide +kernel
theorem dX5_start_121 : decode cX5_start 121 = .ok (.aload_n 0, 1) := by decide +kernel
theorem dX5_start_122 : decode cX5_start 122 = .ok (.invokevirtual 40, 3) := by decide +kernel
theorem dX5_start_125 : decode cX5_start 125 = .ok (.iconst 1, 1) := by decide +kernel
theorem dX5_start_126 : decode cX5_start 126 = .ok (.ireturn, 1) := by decide +kernel
theorem dX5_clear_0 : decode cX5_clear 0 = .ok (.aload_n 0, 1) := by decide +kernel
theorem dX5_clear_1 : decode cX5_clear 1 = .ok (.iconst 3, 1) := by decide +kernel
theorem dX5_clear_2 : decode cX5_clear 2 = .ok (.iload_n 1, 1) := by decide +kernel
theorem dX5_clear_3 : decode cX5_clear 3 = .ok (.iadd, 1) := by decide +kernel
theorem dX5_clear_4 : decode cX5_clear 4 = .ok (.bipush 10, 2) := by decide +kernel
theorem dX5_clear_6 : decode cX5_clear 6 = .ok (.invokestatic 43, 3) := by decide +kernel
theorem dX5_clear_9 : decode cX5_clear 9 = .ok (.putfield 49, 3) := by decide +kernel
theorem dX5_clear_12 : decode cX5_clear 12 = .ok (.aload_n 0, 1) := by decide +kernel
theorem dX5_clear_13 : decode cX5_clear 13 = .ok (.lconst 1, 1) := by decide +kernel
theorem dX5_clear_14 : decode cX5_clear 14 = .ok (.putfield 52, 3) := by decide +kernel
theorem dX5_clear_17 : decode cX5_clear 17 = .ok (.iconst 0, 1) := by decide +kernel
theorem dX5_clear_18 : decode cX5_clear 18 = .ok (.istore_n 2, 1) := by decide +kernel
theorem dX5_clear_19 : decode cX5_clear 19 = .ok (.iload_n 2, 1) := by decide +kernel
theorem dX5_clear_20 : decode cX5_clear 20 = .ok (.bipush 10, 2) := by decide +kernel
theorem dX5_clear_22 : decode cX5_clear 22 = .ok (.if_icmp .ge 39, 3) := by decide +kernel
theorem dX5_clear_25 : decode cX5_clear 25 = .ok (.aload_n 0, 1) := by decide +kernel
theorem dX5_clear_26 : decode cX5_clear 26 = .ok (.getfield 16, 3) := by decide +kernel
theorem dX5_clear_29 : decode cX5_clear 29 = .ok (.iload_n 2, 1) := by decide +kernel
theorem dX5_clear_30 : decode cX5_clear 30 = .ok (.iconst (-1), 1) := by decide +kernel
theorem dX5_clear_31 : decode cX5_clear 31 = .ok (.iastore, 1) := by decide +kernel
theorem dX5_clear_32 : decode cX5_clear 32 = .ok (.iconst 0, 1) := by decide +kernel
theorem dX5_clear_33 : decode cX5_clear 33 = .ok (.istore_n 3, 1) := by decide +kernel
theorem dX5_clear_34 : decode cX5_clear 34 = .ok (.iload_n 3, 1) := by decide +kernel
theorem dX5_clear_35 : decode cX5_clear 35 = .ok (.bipush 25, 2) := by decide +kernel
theorem dX5_clear_37 : decode cX5_clear 37 = .ok (.if_icmp .gt 18, 3) := by decide +kernel
theorem dX5_clear_40 : decode cX5_clear 40 = .ok (.aload_n 0, 1) := by decide +kernel
theorem dX5_clear_41 : decode cX5_clear 41 = .ok (.getfield 13, 3) := by decide +kernel
theorem dX5_clear_44 : decode cX5_clear 44 = .ok (.iload_n 2, 1) := by decide +kernel
theorem dX5_clear_45 : decode cX5_clear 45 = .ok (.aaload, 1) := by decide +kernel
theorem dX5_clear_46 : decode cX5_clear 46 = .ok (.iload_n 3, 1) := by decide +kernel
theorem dX5_clear_47 : decode cX5_clear 47 = .ok (.lconst 0, 1) := by decide +kernel
theorem dX5_clear_48 : decode cX5_clear 48 = .ok (.lastore, 1) := by decide +kernel
theorem dX5_clear_49 : decode cX5_clear 49 = .ok (.iinc 3 1, 3) := by decide +kernel
theorem dX5_clear_52 : decode cX5_clear 52 = .ok (.goto (-18), 3) := by decide +kernel
theorem dX5_clear_55 : decode cX5_clear 55 = .ok (.iinc 2 1, 3) := by decide +kernel
theorem dX5_clear_58 : decode cX5_clear 58 = .ok (.goto (-39), 3) := by decide +kernel
theorem dX5_clear_61 : decode cX5_clear 61 = .ok (.iconst 0, 1) := by decide +kernel
theorem dX5_clear_62 : decode cX5_clear 62 = .ok (.istore_n 2, 1) := by decide +kernel
theorem dX5_clear_63 : decode cX5_clear 63 = .ok (.iload_n 2, 1) := by decide +kernel
theorem dX5_clear_64 : decode cX5_clear 64 = .ok (.bipush 25, 2) := by decide +kernel
theorem dX5_clear_66 : decode cX5_clear 66 = .ok (.if_icmp .ge 16, 3) := by decide +kernel
theorem dX5_clear_69 : decode cX5_clear 69 = .ok (.aload_n 0, 1) := by decide +kernel
theorem dX5_clear_70 : decode cX5_clear 70 = .ok (.getfield 20, 3) := by decide +kernel
theorem dX5_clear_73 : decode cX5_clear 73 = .ok (.iload_n 2, 1) := by decide +kernel
theorem dX5_clear_74 : decode cX5_clear 74 = .ok (.iconst 0, 1) := by decide +kernel
theorem dX5_clear_75 : decode cX5_clear 75 = .ok (.bastore, 1) := by decide +kernel
theorem dX5_clear_76 : decode cX5_clear 76 = .ok (.iinc 2 1, 3) := by decide +kernel
theorem dX5_clear_79 : decode cX5_clear 79 = .ok (.goto (-16), 3) := by decide +kernel
theorem dX5_clear_82 : decode cX5_clear 82 = .ok (.return_, 1) := by decide +kernel
set_option maxRecDepth 20000 in
theorem ggX5_layJob_X1_timeOn : GoodIn wsX5_layJob wsX1_timeOn := goodIn_r _ [8, 9, 10, 21, 22] (by decide +kernel) (by decide +kernel)
set_option maxRecDepth 20000 in
theorem gX5_layJob_X1_timeOn : GoodIn wsX5_layJob (wsV RX5 56 RX1 yX1_timeOn wsX1_timeOn) := goodIn_app (goodIn_of _ (by decide +kernel)) ggX5_layJob_X1_timeOn
set_option maxRecDepth 20000 in
theorem ggX5_layJob_X5_clearBasic : GoodIn wsX5_layJob wsX5_clearBasic := goodIn_r _ [15, 3, 1, 16, 17, 18, 19, 20] (by decide +kernel) (by decide +kernel)
set_option maxRecDepth 20000 in
theorem gX5_layJob_X5_clearBasic : GoodIn wsX5_layJob (wsV RX5 59 RX5 yX5_clearBasic wsX5_clearBasic) := goodIn_app (goodIn_of _ (by decide +kernel)) ggX5_layJob_X5_clearBasic
theorem dX5_layJob_0 : decode cX5_layJob 0 = .ok (.iconst 3, 1) := by decide +kernel
theorem dX5_layJob_1 : decode cX5_layJob 1 = .ok (.iload_n 2, 1) := by decide +kernel
theorem dX5_layJob_2 : decode cX5_layJob 2 = .ok (.iadd, 1) := by decide +kernel
theorem dX5_layJob_3 : decode cX5_layJob 3 = .ok (.istore 4, 2) := by decide +kernel
theorem dX5_layJob_5 : decode cX5_layJob 5 = .ok (.iload 4, 2) := by decide +kernel
theorem dX5_layJob_7 : decode cX5_layJob 7 = .ok (.ifCond .lt 10, 3) := by decide +kernel
theorem dX5_layJob_10 : decode cX5_layJob 10 = .ok (.iload 4, 2) := by decide +kernel
theorem dX5_layJob_12 : decode cX5_layJob 12 = .ok (.bipush 10, 2) := by decide +kernel
theorem dX5_layJob_14 : decode cX5_layJob 14 = .ok (.if_icmp .lt 5, 3) := by decide +kernel
theorem dX5_layJob_17 : decode cX5_layJob 17 = .ok (.iconst 0, 1) := by decide +kernel
theorem dX5_layJob_18 : decode cX5_layJob 18 = .ok (.ireturn, 1) := by decide +kernel
theorem dX5_layJob_19 : decode cX5_layJob 19 = .ok (.iconst 2, 1) := by decide +kernel
theorem dX5_layJob_20 : decode cX5_layJob 20 = .ok (.istore 5, 2) := by decide +kernel
theorem dX5_layJob_22 : decode cX5_layJob 22 = .ok (.iload 5, 2) := by decide +kernel
theorem dX5_layJob_24 : decode cX5_layJob 24 = .ok (.ifCond .lt 90, 3) := by decide +kernel
theorem dX5_layJob_27 : decode cX5_layJob 27 = .ok (.aload_n 1, 1) := by decide +kernel
theorem dX5_layJob_28 : decode cX5_layJob 28 = .ok (.iload_n 2, 1) := by decide +kernel
theorem dX5_layJob_29 : decode cX5_layJob 29 = .ok (.iload 5, 2) := by decide +kernel
theorem dX5_layJob_31 : decode cX5_layJob 31 = .ok (.invokevirtual 56, 3) := by decide +kernel
theorem dX5_layJob_34 : decode cX5_layJob 34 = .ok (.istore 6, 2) := by decide +kernel
theorem dX5_layJob_36 : decode cX5_layJob 36 = .ok (.iload_n 2, 1) := by decide +kernel
theorem dX5_layJob_37 : decode cX5_layJob 37 = .ok (.iconst 3, 1) := by decide +kernel
theorem dX5_layJob_38 : decode cX5_layJob 38 = .ok (.imul, 1) := by decide +kernel
theorem dX5_layJob_39 : decode cX5_layJob 39 = .ok (.iload 5, 2) := by decide +kernel
theorem dX5_layJob_41 : decode cX5_layJob 41 = .ok (.iadd, 1) := by decide +kernel
theorem dX5_layJob_42 : decode cX5_layJob 42 = .ok (.istore 7, 2) := by decide +kernel
theorem dX5_layJob_44 : decode cX5_layJob 44 = .ok (.iload 6, 2) := by decide +kernel
theorem dX5_layJob_46 : decode cX5_layJob 46 = .ok (.ifCond .le 62, 3) := by decide +kernel
theorem dX5_layJob_49 : decode cX5_layJob 49 = .ok (.iload 6, 2) := by decide +kernel
theorem dX5_layJob_51 : decode cX5_layJob 51 = .ok (.iload_n 3, 1) := by decide +kernel
theorem dX5_layJob_52 : decode cX5_layJob 52 = .ok (.if_icmp .gt 56, 3) := by decide +kernel
theorem dX5_layJob_55 : decode cX5_layJob 55 = .ok (.iload 7, 2) := by decide +kernel
theorem dX5_layJob_57 : decode cX5_layJob 57 = .ok (.ifCond .lt 51, 3) := by decide +kernel
theorem dX5_layJob_60 : decode cX5_layJob 60 = .ok (.iload 7, 2) := by decide +kernel
theorem dX5_layJob_62 : decode cX5_layJob 62 = .ok (.bipush 21, 2) := by decide +kernel
theorem dX5_layJob_64 : decode cX5_layJob 64 = .ok (.if_icmp .ge 44, 3) := by decide +kernel
theorem dX5_layJob_67 : decode cX5_layJob 67 = .ok (.aload_n 0, 1) := by decide +kernel
theorem dX5_layJob_68 : decode cX5_layJob 68 = .ok (.getfield 13, 3) := by decide +kernel
theorem dX5_layJob_71 : decode cX5_layJob 71 = .ok (.iload 4, 2) := by decide +kernel
theorem dX5_layJob_73 : decode cX5_layJob 73 = .ok (.aaload, 1) := by decide +kernel
theorem dX5_layJob_74 : decode cX5_layJob 74 = .ok (.iload 7, 2) := by decide +kernel
theorem dX5_layJob_76 : decode cX5_layJob 76 = .ok (.lconst 1, 1) := by decide +kernel
theorem dX5_layJob_77 : decode cX5_layJob 77 = .ok (.lastore, 1) := by decide +kernel
theorem dX5_layJob_78 : decode cX5_layJob 78 = .ok (.aload_n 0, 1) := by decide +kernel
theorem dX5_layJob_79 : decode cX5_layJob 79 = .ok (.getfield 13, 3) := by decide +kernel
theorem dX5_layJob_82 : decode cX5_layJob 82 = .ok (.iload 5, 2) := by decide +kernel
theorem dX5_layJob_84 : decode cX5_layJob 84 = .ok (.aaload, 1) := by decide +kernel
theorem dX5_layJob_85 : decode cX5_layJob 85 = .ok (.iload 7, 2) := by decide +kernel
theorem dX5_layJob_87 : decode cX5_layJob 87 = .ok (.iload 6, 2) := by decide +kernel
theorem dX5_layJob_89 : decode cX5_layJob 89 = .ok (.i2l, 1) := by decide +kernel
theorem dX5_layJob_90 : decode cX5_layJob 90 = .ok (.lastore, 1) := by decide +kernel
theorem dX5_layJob_91 : decode cX5_layJob 91 = .ok (.aload_n 0, 1) := by decide +kernel
theorem dX5_layJob_92 : decode cX5_layJob 92 = .ok (.getfield 20, 3) := by decide +kernel
theorem dX5_layJob_95 : decode cX5_layJob 95 = .ok (.iload 7, 2) := by decide +kernel
theorem dX5_layJob_97 : decode cX5_layJob 97 = .ok (.iconst 1, 1) := by decide +kernel
theorem dX5_layJob_98 : decode cX5_layJob 98 = .ok (.bastore, 1) := by decide +kernel
theorem dX5_layJob_99 : decode cX5_layJob 99 = .ok (.aload_n 0, 1) := by decide +kernel
theorem dX5_layJob_100 : decode cX5_layJob 100 = .ok (.getfield 16, 3) := by decide +kernel
theorem dX5_layJob_103 : decode cX5_layJob 103 = .ok (.iload 4, 2) := by decide +kernel
theorem dX5_layJob_105 : decode cX5_layJob 105 = .ok (.iload 7, 2) := by decide +kernel
theorem dX5_layJob_107 : decode cX5_layJob 107 = .ok (.iastore, 1) := by decide +kernel
theorem dX5_layJob_108 : decode cX5_layJob 108 = .ok (.iinc 5 (-1), 3) := by decide +kernel
theorem dX5_layJob_111 : decode cX5_layJob 111 = .ok (.goto (-89), 3) := by decide +kernel
theorem dX5_layJob_114 : decode cX5_layJob 114 = .ok (.aload_n 0, 1) := by decide +kernel
theorem dX5_layJob_115 : decode cX5_layJob 115 = .ok (.getfield 13, 3) := by decide +kernel
theorem dX5_layJob_118 : decode cX5_layJob 118 = .ok (.iload 4, 2) := by decide +kernel
theorem dX5_layJob_120 : decode cX5_layJob 120 = .ok (.aaload, 1) := by decide +kernel
theorem dX5_layJob_121 : decode cX5_layJob 121 = .ok (.bipush 25, 2) := by decide +kernel
theorem dX5_layJob_123 : decode cX5_layJob 123 = .ok (.lconst 1, 1) := by decide +kernel
theorem dX5_layJob_124 : decode cX5_layJob 124 = .ok (.lastore, 1) := by decide +kernel
theorem dX5_layJob_125 : decode cX5_layJob 125 = .ok (.aload_n 0, 1) := by decide +kernel
theorem dX5_layJob_126 : decode cX5_layJob 126 = .ok (.getfield 16, 3) := by decide +kernel
theorem dX5_layJob_129 : decode cX5_layJob 129 = .ok (.iload 4, 2) := by decide +kernel
theorem dX5_layJob_131 : decode cX5_layJob 131 = .ok (.iaload, 1) := by decide +kernel
theorem dX5_layJob_132 : decode cX5_layJob 132 = .ok (.iconst (-1), 1) := by decide +kernel
theorem dX5_layJob_133 : decode cX5_layJob 133 = .ok (.if_icmp .eq 16, 3) := by decide +kernel
theorem dX5_layJob_136 : decode cX5_layJob 136 = .ok (.aload_n 0, 1) := by decide +kernel
theorem dX5_layJob_137 : decode cX5_layJob 137 = .ok (.iload 4, 2) := by decide +kernel
theorem dX5_layJob_139 : decode cX5_layJob 139 = .ok (.invokevirtual 59, 3) := by decide +kernel
theorem dX5_layJob_142 : decode cX5_layJob 142 = .ok (.ifCond .eq 7, 3) := by decide +kernel
theorem dX5_layJob_145 : decode cX5_layJob 145 = .ok (.iconst 1, 1) := by decide +kernel
theorem dX5_layJob_146 : decode cX5_layJob 146 = .ok (.goto 4, 3) := by decide +kernel
theorem dX5_layJob_149 : decode cX5_layJob 149 = .ok (.iconst 0, 1) := by decide +kernel
theorem dX5_layJob_150 : decode cX5_layJob 150 = .ok (.ireturn, 1) := by decide +kernel
theorem dX5_clearBasic_0 : decode cX5_clearBasic 0 = .ok (.aload_n 0, 1) := by decide +kernel
theorem dX5_clearBasic_1 : decode cX5_clearBasic 1 = .ok (.getfield 16, 3) := by decide +kernel
theorem dX5_clearBasic_4 : decode cX5_clearBasic 4 = .ok (.iload_n 1, 1) := by decide +kernel
theorem dX5_clearBasic_5 : decode cX5_clearBasic 5 = .ok (.iaload, 1) := by decide +kernel
theorem dX5_clearBasic_6 : decode cX5_clearBasic 6 = .ok (.istore_n 2, 1) := by decide +kernel
theorem dX5_clearBasic_7 : decode cX5_clearBasic 7 = .ok (.iload_n 2, 1) := by decide +kernel
theorem dX5_clearBasic_8 : decode cX5_clearBasic 8 = .ok (.ifCond .lt 9, 3) := by decide +kernel
theorem dX5_clearBasic_11 : decode cX5_clearBasic 11 = .ok (.iload_n 2, 1) := by decide +kernel
theorem dX5_clearBasic_12 : decode cX5_clearBasic 12 = .ok (.bipush 21, 2) := by decide +kernel
theorem dX5_clearBasic_14 : decode cX5_clearBasic 14 = .ok (.if_icmp .lt 5, 3) := by decide +kernel
theorem dX5_clearBasic_17 : decode cX5_clearBasic 17 = .ok (.iconst 0, 1) := by decide +kernel
theorem dX5_clearBasic_18 : decode cX5_clearBasic 18 = .ok (.ireturn, 1) := by decide +kernel
theorem dX5_clearBasic_19 : decode cX5_clearBasic 19 = .ok (.iconst 0, 1) := by decide +kernel
theorem dX5_clearBasic_20 : decode cX5_clearBasic 20 = .ok (.istore_n 3, 1) := by decide +kernel
theorem dX5_clearBasic_21 : decode cX5_clearBasic 21 = .ok (.iload_n 3, 1) := by decide +kernel
theorem dX5_clearBasic_22 : decode cX5_clearBasic 22 = .ok (.iconst 3, 1) := by decide +kernel
theorem dX5_clearBasic_23 : decode cX5_clearBasic 23 = .ok (.if_icmp .ge 66, 3) := by decide +kernel
theorem dX5_clearBasic_26 : decode cX5_clearBasic 26 = .ok (.aload_n 0, 1) := by decide +kernel
theorem dX5_clearBasic_27 : decode cX5_clearBasic 27 = .ok (.getfield 13, 3) := by decide +kernel
theorem dX5_clearBasic_30 : decode cX5_clearBasic 30 = .ok (.iload_n 3, 1) := by decide +kernel
theorem dX5_clearBasic_31 : decode cX5_clearBasic 31 = .ok (.aaload, 1) := by decide +kernel
theorem dX5_clearBasic_32 : decode cX5_clearBasic 32 = .ok (.iload_n 2, 1) := by decide +kernel
theorem dX5_clearBasic_33 : decode cX5_clearBasic 33 = .ok (.laload, 1) := by decide +kernel
theorem dX5_clearBasic_34 : decode cX5_clearBasic 34 = .ok (.lstore 4, 2) := by decide +kernel
theorem dX5_clearBasic_36 : decode cX5_clearBasic 36 = .ok (.iconst 0, 1) := by decide +kernel
theorem dX5_clearBasic_37 : decode cX5_clearBasic 37 = .ok (.istore 6, 2) := by decide +kernel
theorem dX5_clearBasic_39 : decode cX5_clearBasic 39 = .ok (.iload 6, 2) := by decide +kernel
theorem dX5_clearBasic_41 : decode cX5_clearBasic 41 = .ok (.bipush 25, 2) := by decide +kernel
theorem dX5_clearBasic_43 : decode cX5_clearBasic 43 = .ok (.if_icmp .gt 40, 3) := by decide +kernel
theorem dX5_clearBasic_46 : decode cX5_clearBasic 46 = .ok (.lload 4, 2) := by decide +kernel
theorem dX5_clearBasic_48 : decode cX5_clearBasic 48 = .ok (.lconst 0, 1) := by decide +kernel
theorem dX5_clearBasic_49 : decode cX5_clearBasic 49 = .ok (.lcmp, 1) := by decide +kernel
theorem dX5_clearBasic_50 : decode cX5_clearBasic 50 = .ok (.ifCond .eq 33, 3) := by decide +kernel
theorem dX5_clearBasic_53 : decode cX5_clearBasic 53 = .ok (.aload_n 0, 1) := by decide +kernel
theorem dX5_clearBasic_54 : decode cX5_clearBasic 54 = .ok (.getfield 13, 3) := by decide +kernel
theorem dX5_clearBasic_57 : decode cX5_clearBasic 57 = .ok (.iload_n 3, 1) := by decide +kernel
theorem dX5_clearBasic_58 : decode cX5_clearBasic 58 = .ok (.aaload, 1) := by decide +kernel
theorem dX5_clearBasic_59 : decode cX5_clearBasic 59 = .ok (.iload 6, 2) := by decide +kernel
theorem dX5_clearBasic_61 : decode cX5_clearBasic 61 = .ok (.dup2, 1) := by decide +kernel
theorem dX5_clearBasic_62 : decode cX5_clearBasic 62 = .ok (.laload, 1) := by decide +kernel
theorem dX5_clearBasic_63 : decode cX5_clearBasic 63 = .ok (.lload 4, 2) := by decide +kernel
theorem dX5_clearBasic_65 : decode cX5_clearBasic 65 = .ok (.aload_n 0, 1) := by decide +kernel
theorem dX5_clearBasic_66 : decode cX5_clearBasic 66 = .ok (.getfield 13, 3) := by decide +kernel
theorem dX5_clearBasic_69 : decode cX5_clearBasic 69 = .ok (.iload_n 1, 1) := by decide +kernel
theorem dX5_clearBasic_70 : decode cX5_clearBasic 70 = .ok (.aaload, 1) := by decide +kernel
theorem dX5_clearBasic_71 : decode cX5_clearBasic 71 = .ok (.iload 6, 2) := by decide +kernel
theorem dX5_clearBasic_73 : decode cX5_clearBasic 73 = .ok (.laload, 1) := by decide +kernel
theorem dX5_clearBasic_74 : decode cX5_clearBasic 74 = .ok (.lmul, 1) := by decide +kernel
theorem dX5_clearBasic_75 : decode cX5_clearBasic 75 = .ok (.lsub, 1) := by decide +kernel
theorem dX5_clearBasic_76 : decode cX5_clearBasic 76 = .ok (.lastore, 1) := by decide +kernel
theorem dX5_clearBasic_77 : decode cX5_clearBasic 77 = .ok (.iinc 6 1, 3) := by decide +kernel
theorem dX5_clearBasic_80 : decode cX5_clearBasic 80 = .ok (.goto (-41), 3) := by decide +kernel
theorem dX5_clearBasic_83 : decode cX5_clearBasic 83 = .ok (.iinc 3 1, 3) := by decide +kernel
theorem dX5_clearBasic_86 : decode cX5_clearBasic 86 = .ok (.goto (-65), 3) := by decide +kernel
theorem dX5_clearBasic_89 : decode cX5_clearBasic 89 = .ok (.iconst 1, 1) := by decide +kernel
theorem dX5_clearBasic_90 : decode cX5_clearBasic 90 = .ok (.ireturn, 1) := by decide +kernel
theorem dX5_admitExcess_0 : decode cX5_admitExcess 0 = .ok (.iconst 0, 1) := by decide +kernel
theorem dX5_admitExcess_1 : decode cX5_admitExcess 1 = .ok (.istore_n 1, 1) := by decide +kernel
theorem dX5_admitExcess_2 : decode cX5_admitExcess 2 = .ok (.iconst 1, 1) := by decide +kernel
theorem dX5_admitExcess_3 : decode cX5_admitExcess 3 = .ok (.istore_n 2, 1) := by decide +kernel
theorem dX5_admitExcess_4 : decode cX5_admitExcess 4 = .ok (.iload_n 2, 1) := by decide +kernel
theorem dX5_admitExcess_5 : decode cX5_admitExcess 5 = .ok (.iconst 3, 1) := by decide +kernel
theorem dX5_admitExcess_6 : decode cX5_admitExcess 6 = .ok (.if_icmp .ge 33, 3) := by decide +kernel
theorem dX5_admitExcess_9 : decode cX5_admitExcess 9 = .ok (.aload_n 0, 1) := by decide +kernel
theorem dX5_admitExcess_10 : decode cX5_admitExcess 10 = .ok (.getfield 13, 3) := by decide +kernel
theorem dX5_admitExcess_13 : decode cX5_admitExcess 13 = .ok (.iload_n 2, 1) := by decide +kernel
theorem dX5_admitExcess_14 : decode cX5_admitExcess 14 = .ok (.aaload, 1) := by decide +kernel
theorem dX5_admitExcess_15 : decode cX5_admitExcess 15 = .ok (.bipush 25, 2) := by decide +kernel
theorem dX5_admitExcess_17 : decode cX5_admitExcess 17 = .ok (.laload, 1) := by decide +kernel
theorem dX5_admitExcess_18 : decode cX5_admitExcess 18 = .ok (.aload_n 0, 1) := by decide +kernel
theorem dX5_admitExcess_19 : decode cX5_admitExcess 19 = .ok (.getfield 13, 3) := by decide +kernel
theorem dX5_admitExcess_22 : decode cX5_admitExcess 22 = .ok (.iload_n 1, 1) := by decide +kernel
theorem dX5_admitExcess_23 : decode cX5_admitExcess 23 = .ok (.aaload, 1) := by decide +kernel
theorem dX5_admitExcess_24 : decode cX5_admitExcess 24 = .ok (.bipush 25, 2) := by decide +kernel
theorem dX5_admitExcess_26 : decode cX5_admitExcess 26 = .ok (.laload, 1) := by decide +kernel
theorem dX5_admitExcess_27 : decode cX5_admitExcess 27 = .ok (.lcmp, 1) := by decide +kernel
theorem dX5_admitExcess_28 : decode cX5_admitExcess 28 = .ok (.ifCond .ge 5, 3) := by decide +kernel
theorem dX5_admitExcess_31 : decode cX5_admitExcess 31 = .ok (.iload_n 2, 1) := by decide +kernel
theorem dX5_admitExcess_32 : decode cX5_admitExcess 32 = .ok (.istore_n 1, 1) := by decide +kernel
theorem dX5_admitExcess_33 : decode cX5_admitExcess 33 = .ok (.iinc 2 1, 3) := by decide +kernel
theorem dX5_admitExcess_36 : decode cX5_admitExcess 36 = .ok (.goto (-32), 3) := by decide +kernel
theorem dX5_admitExcess_39 : decode cX5_admitExcess 39 = .ok (.aload_n 0, 1) := by decide +kernel
theorem dX5_admitExcess_40 : decode cX5_admitExcess 40 = .ok (.getfield 13, 3) := by decide +kernel
theorem dX5_admitExcess_43 : decode cX5_admitExcess 43 = .ok (.iload_n 1, 1) := by decide +kernel
theorem dX5_admitExcess_44 : decode cX5_admitExcess 44 = .ok (.aaload, 1) := by decide +kernel
theorem dX5_admitExcess_45 : decode cX5_admitExcess 45 = .ok (.bipush 25, 2) := by decide +kernel
theorem dX5_admitExcess_47 : decode cX5_admitExcess 47 = .ok (.laload, 1) := by decide +kernel
theorem dX5_admitExcess_48 : decode cX5_admitExcess 48 = .ok (.lconst 0, 1) := by decide +kernel
theorem dX5_admitExcess_49 : decode cX5_admitExcess 49 = .ok (.lcmp, 1) := by decide +kernel
theorem dX5_admitExcess_50 : decode cX5_admitExcess 50 = .ok (.ifCond .lt 4, 3) := by decide +kernel
theorem dX5_admitExcess_53 : decode cX5_admitExcess 53 = .ok (.return_, 1) := by decide +kernel
theorem dX5_admitExcess_54 : decode cX5_admitExcess 54 = .ok (.iconst 0, 1) := by decide +kernel
theorem dX5_admitExcess_55 : decode cX5_admitExcess 55 = .ok (.istore_n 2, 1) := by decide +kernel
theorem dX5_admitExcess_56 : decode cX5_admitExcess 56 = .ok (.iload_n 2, 1) := by decide +kernel
theorem dX5_admitExcess_57 : decode cX5_admitExcess 57 = .ok (.bipush 25, 2) := by decide +kernel
theorem dX5_admitExcess_59 : decode cX5_admitExcess 59 = .ok (.if_icmp .gt 63, 3) := by decide +kernel
theorem dX5_admitExcess_62 : decode cX5_admitExcess 62 = .ok (.aload_n 0, 1) := by decide +kernel
theorem dX5_admitExcess_63 : decode cX5_admitExcess 63 = .ok (.getfield 13, 3) := by decide +kernel
theorem dX5_admitExcess_66 : decode cX5_admitExcess 66 = .ok (.iload_n 1, 1) := by decide +kernel
theorem dX5_admitExcess_67 : decode cX5_admitExcess 67 = .ok (.aaload, 1) := by decide +kernel
theorem dX5_admitExcess_68 : decode cX5_admitExcess 68 = .ok (.iload_n 2, 1) := by decide +kernel
theorem dX5_admitExcess_69 : decode cX5_admitExcess 69 = .ok (.aload_n 0, 1) := by decide +kernel
theorem dX5_admitExcess_70 : decode cX5_admitExcess 70 = .ok (.getfield 13, 3) := by decide +kernel
theorem dX5_admitExcess_73 : decode cX5_admitExcess 73 = .ok (.iload_n 1, 1) := by decide +kernel
theorem dX5_admitExcess_74 : decode cX5_admitExcess 74 = .ok (.aaload, 1) := by decide +kernel
theorem dX5_admitExcess_75 : decode cX5_admitExcess 75 = .ok (.iload_n 2, 1) := by decide +kernel
theorem dX5_admitExcess_76 : decode cX5_admitExcess 76 = .ok (.laload, 1) := by decide +kernel
theorem dX5_admitExcess_77 : decode cX5_admitExcess 77 = .ok (.lneg, 1) := by decide +kernel
theorem dX5_admitExcess_78 : decode cX5_admitExcess 78 = .ok (.lastore, 1) := by decide +kernel
theorem dX5_admitExcess_79 : decode cX5_admitExcess 79 = .ok (.iconst 0, 1) := by decide +kernel
theorem dX5_admitExcess_80 : decode cX5_admitExcess 80 = .ok (.istore_n 3, 1) := by decide +kernel
theorem dX5_admitExcess_81 : decode cX5_admitExcess 81 = .ok (.iload_n 3, 1) := by decide +kernel
theorem dX5_admitExcess_82 : decode cX5_admitExcess 82 = .ok (.iconst 3, 1) := by decide +kernel
theorem dX5_admitExcess_83 : decode cX5_admitExcess 83 = .ok (.if_icmp .ge 33, 3) := by decide +kernel
theorem dX5_admitExcess_86 : decode cX5_admitExcess 86 = .ok (.iload_n 3, 1) := by decide +kernel
theorem dX5_admitExcess_87 : decode cX5_admitExcess 87 = .ok (.iload_n 1, 1) := by decide +kernel
theorem dX5_admitExcess_88 : decode cX5_admitExcess 88 = .ok (.if_icmp .eq 22, 3) := by decide +kernel
theorem dX5_admitExcess_91 : decode cX5_admitExcess 91 = .ok (.aload_n 0, 1) := by decide +kernel
theorem dX5_admitExcess_92 : decode cX5_admitExcess 92 = .ok (.getfield 13, 3) := by decide +kernel
theorem dX5_admitExcess_95 : decode cX5_admitExcess 95 = .ok (.iload_n 3, 1) := by decide +kernel
theorem dX5_admitExcess_96 : decode cX5_admitExcess 96 = .ok (.aaload, 1) := by decide +kernel
theorem dX5_admitExcess_97 : decode cX5_admitExcess 97 = .ok (.iload_n 2, 1) := by decide +kernel
theorem dX5_admitExcess_98 : decode cX5_admitExcess 98 = .ok (.dup2, 1) := by decide +kernel
theorem dX5_admitExcess_99 : decode cX5_admitExcess 99 = .ok (.laload, 1) := by decide +kernel
theorem dX5_admitExcess_100 : decode cX5_admitExcess 100 = .ok (.aload_n 0, 1) := by decide +kernel
theorem dX5_admitExcess_101 : decode cX5_admitExcess 101 = .ok (.getfield 13, 3) := by decide +kernel
theorem dX5_admitExcess_104 : decode cX5_admitExcess 104 = .ok (.iload_n 1, 1) := by decide +kernel
theorem dX5_admitExcess_105 : decode cX5_admitExcess 105 = .ok (.aaload, 1) := by decide +kernel
theorem dX5_admitExcess_106 : decode cX5_admitExcess 106 = .ok (.iload_n 2, 1) := by decide +kernel
theorem dX5_admitExcess_107 : decode cX5_admitExcess 107 = .ok (.laload, 1) := by decide +kernel
theorem dX5_admitExcess_108 : decode cX5_admitExcess 108 = .ok (.ladd, 1) := by decide +kernel
theorem dX5_admitExcess_109 : decode cX5_admitExcess 109 = .ok (.lastore, 1) := by decide +kernel
theorem dX5_admitExcess_110 : decode cX5_admitExcess 110 = .ok (.iinc 3 1, 3) := by decide +kernel
theorem dX5_admitExcess_113 : decode cX5_admitExcess 113 = .ok (.goto (-32), 3) := by decide +kernel
theorem dX5_admitExcess_116 : decode cX5_admitExcess 116 = .ok (.iinc 2 1, 3) := by decide +kernel
theorem dX5_admitExcess_119 : decode cX5_admitExcess 119 = .ok (.goto (-63), 3) := by decide +kernel
theorem dX5_admitExcess_122 : decode cX5_admitExcess 122 = .ok (.aload_n 0, 1) := by decide +kernel
theorem dX5_admitExcess_123 : decode cX5_admitExcess 123 = .ok (.getfield 16, 3) := by decide +kernel
theorem dX5_admitExcess_126 : decode cX5_admitExcess 126 = .ok (.iload_n 1, 1) := by decide +kernel
theorem dX5_admitExcess_127 : decode cX5_admitExcess 127 = .ok (.bipush 24, 2) := by decide +kernel
theorem dX5_admitExcess_129 : decode cX5_admitExcess 129 = .ok (.iastore, 1) := by decide +kernel
theorem dX5_admitExcess_130 : decode cX5_admitExcess 130 = .ok (.return_, 1) := by decide +kernel
set_option maxRecDepth 20000 in
theorem ggX5_lowerExcess_X5_rowOf : GoodIn wsX5_lowerExcess wsX5_rowOf := goodIn_r _ [6, 7, 8, 24, 25, 26, 27, 28] (by decide +kernel) (by decide +kernel)
set_option maxRecDepth 20000 in
theorem gX5_lowerExcess_X5_rowOf : GoodIn wsX5_lowerExcess (wsV RX5 64 RX5 yX5_rowOf wsX5_rowOf) := goodIn_app (goodIn_of _ (by decide +kernel)) ggX5_lowerExcess_X5_rowOf
set_option maxRecDepth 20000 in
theorem ggX5_lowerExcess_X5_columnWithSign : GoodIn wsX5_lowerExcess wsX5_columnWithSign := goodIn_r _ [12, 13, 14, 24, 25, 26, 27, 28] (by decide +kernel) (by decide +kernel)
set_option maxRecDepth 20000 in
theorem gX5_lowerExcess_X5_columnWithSign : GoodIn wsX5_lowerExcess (wsV RX5 68 RX5 yX5_columnWithSign wsX5_columnWithSign) := goodIn_app (goodIn_of _ (by decide +kernel)) ggX5_lowerExcess_X5_columnWithSign
set_option maxRecDepth 20000 in
theorem ggX5_lowerExcess_X5_enter : GoodIn wsX5_lowerExcess wsX5_enter := goodIn_r _ [18, 19, 14, 7, 8, 20, 21, 22, 5, 23, 24, 25, 26, 27, 28] (by decide +kernel) (by decide +kernel)
set_option maxRecDepth 20000 in
theorem gX5_lowerExcess_X5_enter : GoodIn wsX5_lowerExcess (wsV RX5 71 RX5 yX5_enter wsX5_enter) := goodIn_app (goodIn_of _ (by decide +kernel)) ggX5_lowerExcess_X5_enter
theorem dX5_lowerExcess_0 : decode cX5_lowerExcess 0 = .ok (.iconst 0, 1) := by decide +kernel
theorem dX5_lowerExcess_1 : decode cX5_lowerExcess 1 = .ok (.istore_n 1, 1) := by decide +kernel
theorem dX5_lowerExcess_2 : decode cX5_lowerExcess 2 = .ok (.iload_n 1, 1) := by decide +kernel
theorem dX5_lowerExcess_3 : decode cX5_lowerExcess 3 = .ok (.ldc 63, 2) := by decide +kernel
theorem dX5_lowerExcess_5 : decode cX5_lowerExcess 5 = .ok (.if_icmp .ge 45, 3) := by decide +kernel
theorem dX5_lowerExcess_8 : decode cX5_lowerExcess 8 = .ok (.aload_n 0, 1) := by decide +kernel
theorem dX5_lowerExcess_9 : decode cX5_lowerExcess 9 = .ok (.bipush 24, 2) := by decide +kernel
theorem dX5_lowerExcess_11 : decode cX5_lowerExcess 11 = .ok (.invokevirtual 64, 3) := by decide +kernel
theorem dX5_lowerExcess_14 : decode cX5_lowerExcess 14 = .ok (.istore_n 2, 1) := by decide +kernel
theorem dX5_lowerExcess_15 : decode cX5_lowerExcess 15 = .ok (.iload_n 2, 1) := by decide +kernel
theorem dX5_lowerExcess_16 : decode cX5_lowerExcess 16 = .ok (.iconst (-1), 1) := by decide +kernel
theorem dX5_lowerExcess_17 : decode cX5_lowerExcess 17 = .ok (.if_icmp .ne 5, 3) := by decide +kernel
theorem dX5_lowerExcess_20 : decode cX5_lowerExcess 20 = .ok (.iconst 1, 1) := by decide +kernel
theorem dX5_lowerExcess_21 : decode cX5_lowerExcess 21 = .ok (.ireturn, 1) := by decide +kernel
theorem dX5_lowerExcess_22 : decode cX5_lowerExcess 22 = .ok (.aload_n 0, 1) := by decide +kernel
theorem dX5_lowerExcess_23 : decode cX5_lowerExcess 23 = .ok (.iload_n 2, 1) := by decide +kernel
theorem dX5_lowerExcess_24 : decode cX5_lowerExcess 24 = .ok (.iconst 1, 1) := by decide +kernel
theorem dX5_lowerExcess_25 : decode cX5_lowerExcess 25 = .ok (.invokevirtual 68, 3) := by decide +kernel
theorem dX5_lowerExcess_28 : decode cX5_lowerExcess 28 = .ok (.istore_n 3, 1) := by decide +kernel
theorem dX5_lowerExcess_29 : decode cX5_lowerExcess 29 = .ok (.iload_n 3, 1) := by decide +kernel
theorem dX5_lowerExcess_30 : decode cX5_lowerExcess 30 = .ok (.iconst (-1), 1) := by decide +kernel
theorem dX5_lowerExcess_31 : decode cX5_lowerExcess 31 = .ok (.if_icmp .eq 11, 3) := by decide +kernel
theorem dX5_lowerExcess_34 : decode cX5_lowerExcess 34 = .ok (.aload_n 0, 1) := by decide +kernel
theorem dX5_lowerExcess_35 : decode cX5_lowerExcess 35 = .ok (.iload_n 3, 1) := by decide +kernel
theorem dX5_lowerExcess_36 : decode cX5_lowerExcess 36 = .ok (.invokevirtual 71, 3) := by decide +kernel
theorem dX5_lowerExcess_39 : decode cX5_lowerExcess 39 = .ok (.ifCond .ne 5, 3) := by decide +kernel
theorem dX5_lowerExcess_42 : decode cX5_lowerExcess 42 = .ok (.iconst 0, 1) := by decide +kernel
theorem dX5_lowerExcess_43 : decode cX5_lowerExcess 43 = .ok (.ireturn, 1) := by decide +kernel
theorem dX5_lowerExcess_44 : decode cX5_lowerExcess 44 = .ok (.iinc 1 1, 3) := by decide +kernel
theorem dX5_lowerExcess_47 : decode cX5_lowerExcess 47 = .ok (.goto (-45), 3) := by decide +kernel
theorem dX5_lowerExcess_50 : decode cX5_lowerExcess 50 = .ok (.iconst 0, 1) := by decide +kernel
theorem dX5_lowerExcess_51 : decode cX5_lowerExcess 51 = .ok (.ireturn, 1) := by decide +kernel
set_option maxRecDepth 20000 in
theorem ggX5_raise_X5_rowOf : GoodIn wsX5_raise wsX5_rowOf := goodIn_r _ [7, 8, 9, 28, 29, 30, 31, 32] (by decide +kernel) (by decide +kernel)
set_option maxRecDepth 20000 in
theorem gX5_raise_X5_rowOf : GoodIn wsX5_raise (wsV RX5 64 RX5 yX5_rowOf wsX5_rowOf) := goodIn_app (goodIn_of _ (by decide +kernel)) ggX5_raise_X5_rowOf
set_option maxRecDepth 20000 in
theorem ggX5_raise_X5_enter : GoodIn wsX5_raise wsX5_enter := goodIn_r _ [13, 14, 15, 8, 9, 16, 17, 18, 6, 19, 28, 29, 30, 31, 32] (by decide +kernel) (by decide +kernel)
set_option maxRecDepth 20000 in
theorem gX5_raise_X5_enter : GoodIn wsX5_raise (wsV RX5 71 RX5 yX5_enter wsX5_enter) := goodIn_app (goodIn_of _ (by decide +kernel)) ggX5_raise_X5_enter
set_option maxRecDepth 20000 in
theorem ggX5_raise_X5_columnWithSign : GoodIn wsX5_raise wsX5_columnWithSign := goodIn_r _ [23, 1, 15, 28, 29, 30, 31, 32] (by decide +kernel) (by decide +kernel)
set_option maxRecDepth 20000 in
theorem gX5_raise_X5_columnWithSign : GoodIn wsX5_raise (wsV RX5 68 RX5 yX5_columnWithSign wsX5_columnWithSign) := goodIn_app (goodIn_of _ (by decide +kernel)) ggX5_raise_X5_columnWithSign
set_option maxRecDepth 20000 in
theorem ggX5_raise_X5_hold : GoodIn wsX5_raise wsX5_hold := goodIn_r _ [27, 15, 9, 1, 28, 29, 30, 31, 32] (by decide +kernel) (by decide +kernel)
set_option maxRecDepth 20000 in
theorem gX5_raise_X5_hold : GoodIn wsX5_raise (wsV RX5 74 RX5 yX5_hold wsX5_hold) := goodIn_app (goodIn_of _ (by decide +kernel)) ggX5_raise_X5_hold
theorem dX5_raise_0 : decode cX5_raise 0 = .ok (.iload_n 1, 1) := by decide +kernel
theorem dX5_raise_1 : decode cX5_raise 1 = .ok (.ifCond .lt 9, 3) := by decide +kernel
theorem dX5_raise_4 : decode cX5_raise 4 = .ok (.iload_n 1, 1) := by decide +kernel
theorem dX5_raise_5 : decode cX5_raise 5 = .ok (.bipush 25, 2) := by decide +kernel
theorem dX5_raise_7 : decode cX5_raise 7 = .ok (.if_icmp .lt 4, 3) := by decide +kernel
theorem dX5_raise_10 : decode cX5_raise 10 = .ok (.return_, 1) := by decide +kernel
theorem dX5_raise_11 : decode cX5_raise 11 = .ok (.aload_n 0, 1) := by decide +kernel
theorem dX5_raise_12 : decode cX5_raise 12 = .ok (.iload_n 1, 1) := by decide +kernel
theorem dX5_raise_13 : decode cX5_raise 13 = .ok (.invokevirtual 64, 3) := by decide +kernel
theorem dX5_raise_16 : decode cX5_raise 16 = .ok (.iconst (-1), 1) := by decide +kernel
theorem dX5_raise_17 : decode cX5_raise 17 = .ok (.if_icmp .ne 21, 3) := by decide +kernel
theorem dX5_raise_20 : decode cX5_raise 20 = .ok (.aload_n 0, 1) := by decide +kernel
theorem dX5_raise_21 : decode cX5_raise 21 = .ok (.getfield 20, 3) := by decide +kernel
theorem dX5_raise_24 : decode cX5_raise 24 = .ok (.iload_n 1, 1) := by decide +kernel
theorem dX5_raise_25 : decode cX5_raise 25 = .ok (.baload, 1) := by decide +kernel
theorem dX5_raise_26 : decode cX5_raise 26 = .ok (.ifCond .eq 11, 3) := by decide +kernel
theorem dX5_raise_29 : decode cX5_raise 29 = .ok (.aload_n 0, 1) := by decide +kernel
theorem dX5_raise_30 : decode cX5_raise 30 = .ok (.iload_n 1, 1) := by decide +kernel
theorem dX5_raise_31 : decode cX5_raise 31 = .ok (.invokevirtual 71, 3) := by decide +kernel
theorem dX5_raise_34 : decode cX5_raise 34 = .ok (.ifCond .ne 4, 3) := by decide +kernel
theorem dX5_raise_37 : decode cX5_raise 37 = .ok (.return_, 1) := by decide +kernel
theorem dX5_raise_38 : decode cX5_raise 38 = .ok (.iconst 0, 1) := by decide +kernel
theorem dX5_raise_39 : decode cX5_raise 39 = .ok (.istore_n 2, 1) := by decide +kernel
theorem dX5_raise_40 : decode cX5_raise 40 = .ok (.iload_n 2, 1) := by decide +kernel
theorem dX5_raise_41 : decode cX5_raise 41 = .ok (.ldc 63, 2) := by decide +kernel
theorem dX5_raise_43 : decode cX5_raise 43 = .ok (.if_icmp .ge 51, 3) := by decide +kernel
theorem dX5_raise_46 : decode cX5_raise 46 = .ok (.aload_n 0, 1) := by decide +kernel
theorem dX5_raise_47 : decode cX5_raise 47 = .ok (.iload_n 1, 1) := by decide +kernel
theorem dX5_raise_48 : decode cX5_raise 48 = .ok (.invokevirtual 64, 3) := by decide +kernel
theorem dX5_raise_51 : decode cX5_raise 51 = .ok (.istore_n 3, 1) := by decide +kernel
theorem dX5_raise_52 : decode cX5_raise 52 = .ok (.iload_n 3, 1) := by decide +kernel
theorem dX5_raise_53 : decode cX5_raise 53 = .ok (.iconst (-1), 1) := by decide +kernel
theorem dX5_raise_54 : decode cX5_raise 54 = .ok (.if_icmp .ne 4, 3) := by decide +kernel
theorem dX5_raise_57 : decode cX5_raise 57 = .ok (.return_, 1) := by decide +kernel
theorem dX5_raise_58 : decode cX5_raise 58 = .ok (.aload_n 0, 1) := by decide +kernel
theorem dX5_raise_59 : decode cX5_raise 59 = .ok (.iload_n 3, 1) := by decide +kernel
theorem dX5_raise_60 : decode cX5_raise 60 = .ok (.iconst (-1), 1) := by decide +kernel
theorem dX5_raise_61 : decode cX5_raise 61 = .ok (.invokevirtual 68, 3) := by decide +kernel
theorem dX5_raise_64 : decode cX5_raise 64 = .ok (.istore 4, 2) := by decide +kernel
theorem dX5_raise_66 : decode cX5_raise 66 = .ok (.iload 4, 2) := by decide +kernel
theorem dX5_raise_68 : decode cX5_raise 68 = .ok (.iconst (-1), 1) := by decide +kernel
theorem dX5_raise_69 : decode cX5_raise 69 = .ok (.if_icmp .ne 9, 3) := by decide +kernel
theorem dX5_raise_72 : decode cX5_raise 72 = .ok (.aload_n 0, 1) := by decide +kernel
theorem dX5_raise_73 : decode cX5_raise 73 = .ok (.iload_n 3, 1) := by decide +kernel
theorem dX5_raise_74 : decode cX5_raise 74 = .ok (.invokevirtual 74, 3) := by decide +kernel
theorem dX5_raise_77 : decode cX5_raise 77 = .ok (.return_, 1) := by decide +kernel
theorem dX5_raise_78 : decode cX5_raise 78 = .ok (.aload_n 0, 1) := by decide +kernel
theorem dX5_raise_79 : decode cX5_raise 79 = .ok (.iload 4, 2) := by decide +kernel
theorem dX5_raise_81 : decode cX5_raise 81 = .ok (.invokevirtual 71, 3) := by decide +kernel
theorem dX5_raise_84 : decode cX5_raise 84 = .ok (.ifCond .ne 4, 3) := by decide +kernel
theorem dX5_raise_87 : decode cX5_raise 87 = .ok (.return_, 1) := by decide +kernel
theorem dX5_raise_88 : decode cX5_raise 88 = .ok (.iinc 2 1, 3) := by decide +kernel
theorem dX5_raise_91 : decode cX5_raise 91 = .ok (.goto (-51), 3) := by decide +kernel
theorem dX5_raise_94 : decode cX5_raise 94 = .ok (.return_, 1) := by decide +kernel
theorem dX5_hold_0 : decode cX5_hold 0 = .ok (.iconst 0, 1) := by decide +kernel
theorem dX5_hold_1 : decode cX5_hold 1 = .ok (.istore_n 2, 1) := by decide +kernel
theorem dX5_hold_2 : decode cX5_hold 2 = .ok (.iload_n 2, 1) := by decide +kernel
theorem dX5_hold_3 : decode cX5_hold 3 = .ok (.bipush 25, 2) := by decide +kernel
theorem dX5_hold_5 : decode cX5_hold 5 = .ok (.if_icmp .ge 39, 3) := by decide +kernel
theorem dX5_hold_8 : decode cX5_hold 8 = .ok (.aload_n 0, 1) := by decide +kernel
theorem dX5_hold_9 : decode cX5_hold 9 = .ok (.getfield 13, 3) := by decide +kernel
theorem dX5_hold_12 : decode cX5_hold 12 = .ok (.iload_n 1, 1) := by decide +kernel
theorem dX5_hold_13 : decode cX5_hold 13 = .ok (.aaload, 1) := by decide +kernel
theorem dX5_hold_14 : decode cX5_hold 14 = .ok (.iload_n 2, 1) := by decide +kernel
theorem dX5_hold_15 : decode cX5_hold 15 = .ok (.laload, 1) := by decide +kernel
theorem dX5_hold_16 : decode cX5_hold 16 = .ok (.lconst 0, 1) := by decide +kernel
theorem dX5_hold_17 : decode cX5_hold 17 = .ok (.lcmp, 1) := by decide +kernel
theorem dX5_hold_18 : decode cX5_hold 18 = .ok (.ifCond .eq 20, 3) := by decide +kernel
theorem dX5_hold_21 : decode cX5_hold 21 = .ok (.aload_n 0, 1) := by decide +kernel
theorem dX5_hold_22 : decode cX5_hold 22 = .ok (.getfield 16, 3) := by decide +kernel
theorem dX5_hold_25 : decode cX5_hold 25 = .ok (.iload_n 1, 1) := by decide +kernel
theorem dX5_hold_26 : decode cX5_hold 26 = .ok (.iaload, 1) := by decide +kernel
theorem dX5_hold_27 : decode cX5_hold 27 = .ok (.iload_n 2, 1) := by decide +kernel
theorem dX5_hold_28 : decode cX5_hold 28 = .ok (.if_icmp .eq 10, 3) := by decide +kernel
theorem dX5_hold_31 : decode cX5_hold 31 = .ok (.aload_n 0, 1) := by decide +kernel
theorem dX5_hold_32 : decode cX5_hold 32 = .ok (.getfield 20, 3) := by decide +kernel
theorem dX5_hold_35 : decode cX5_hold 35 = .ok (.iload_n 2, 1) := by decide +kernel
theorem dX5_hold_36 : decode cX5_hold 36 = .ok (.iconst 0, 1) := by decide +kernel
theorem dX5_hold_37 : decode cX5_hold 37 = .ok (.bastore, 1) := by decide +kernel
theorem dX5_hold_38 : decode cX5_hold 38 = .ok (.iinc 2 1, 3) := by decide +kernel
theorem dX5_hold_41 : decode cX5_hold 41 = .ok (.goto (-39), 3) := by decide +kernel
theorem dX5_hold_44 : decode cX5_hold 44 = .ok (.return_, 1) := by decide +kernel
set_option maxRecDepth 20000 in
theorem ggX5_scaledValue_X5_rowOf : GoodIn wsX5_scaledValue wsX5_rowOf := goodIn_r _ [6, 7, 8, 9, 10, 11, 12, 13] (by decide +kernel) (by decide +kernel)
set_option maxRecDepth 20000 in
theorem gX5_scaledValue_X5_rowOf : GoodIn wsX5_scaledValue (wsV RX5 64 RX5 yX5_rowOf wsX5_rowOf) := goodIn_app (goodIn_of _ (by decide +kernel)) ggX5_scaledValue_X5_rowOf
theorem dX5_scaledValue_0 : decode cX5_scaledValue 0 = .ok (.aload_n 0, 1) := by decide +kernel
theorem dX5_scaledValue_1 : decode cX5_scaledValue 1 = .ok (.iload_n 1, 1) := by decide +kernel
theorem dX5_scaledValue_2 : decode cX5_scaledValue 2 = .ok (.invokevirtual 64, 3) := by decide +kernel
theorem dX5_scaledValue_5 : decode cX5_scaledValue 5 = .ok (.istore_n 2, 1) := by decide +kernel
theorem dX5_scaledValue_6 : decode cX5_scaledValue 6 = .ok (.iload_n 2, 1) := by decide +kernel
theorem dX5_scaledValue_7 : decode cX5_scaledValue 7 = .ok (.iconst (-1), 1) := by decide +kernel
theorem dX5_scaledValue_8 : decode cX5_scaledValue 8 = .ok (.if_icmp .ne 7, 3) := by decide +kernel
theorem dX5_scaledValue_11 : decode cX5_scaledValue 11 = .ok (.lconst 0, 1) := by decide +kernel
theorem dX5_scaledValue_12 : decode cX5_scaledValue 12 = .ok (.goto 12, 3) := by decide +kernel
theorem dX5_scaledValue_15 : decode cX5_scaledValue 15 = .ok (.aload_n 0, 1) := by decide +kernel
theorem dX5_scaledValue_16 : decode cX5_scaledValue 16 = .ok (.getfield 13, 3) := by decide +kernel
theorem dX5_scaledValue_19 : decode cX5_scaledValue 19 = .ok (.iload_n 2, 1) := by decide +kernel
theorem dX5_scaledValue_20 : decode cX5_scaledValue 20 = .ok (.aaload, 1) := by decide +kernel
theorem dX5_scaledValue_21 : decode cX5_scaledValue 21 = .ok (.bipush 25, 2) := by decide +kernel
theorem dX5_scaledValue_23 : decode cX5_scaledValue 23 = .ok (.laload, 1) := by decide +kernel
theorem dX5_scaledValue_24 : decode cX5_scaledValue 24 = .ok (.lreturn, 1) := by decide +kernel
theorem dX5_rowOf_0 : decode cX5_rowOf 0 = .ok (.iconst 0, 1) := by decide +kernel
theorem dX5_rowOf_1 : decode cX5_rowOf 1 = .ok (.istore_n 2, 1) := by decide +kernel
theorem dX5_rowOf_2 : decode cX5_rowOf 2 = .ok (.iload_n 2, 1) := by decide +kernel
theorem dX5_rowOf_3 : decode cX5_rowOf 3 = .ok (.aload_n 0, 1) := by decide +kernel
theorem dX5_rowOf_4 : decode cX5_rowOf 4 = .ok (.getfield 49, 3) := by decide +kernel
theorem dX5_rowOf_7 : decode cX5_rowOf 7 = .ok (.if_icmp .ge 21, 3) := by decide +kernel
theorem dX5_rowOf_10 : decode cX5_rowOf 10 = .ok (.aload_n 0, 1) := by decide +kernel
theorem dX5_rowOf_11 : decode cX5_rowOf 11 = .ok (.getfield 16, 3) := by decide +kernel
theorem dX5_rowOf_14 : decode cX5_rowOf 14 = .ok (.iload_n 2, 1) := by decide +kernel
theorem dX5_rowOf_15 : decode cX5_rowOf 15 = .ok (.iaload, 1) := by decide +kernel
theorem dX5_rowOf_16 : decode cX5_rowOf 16 = .ok (.iload_n 1, 1) := by decide +kernel
theorem dX5_rowOf_17 : decode cX5_rowOf 17 = .ok (.if_icmp .ne 5, 3) := by decide +kernel
theorem dX5_rowOf_20 : decode cX5_rowOf 20 = .ok (.iload_n 2, 1) := by decide +kernel
theorem dX5_rowOf_21 : decode cX5_rowOf 21 = .ok (.ireturn, 1) := by decide +kernel
theorem dX5_rowOf_22 : decode cX5_rowOf 22 = .ok (.iinc 2 1, 3) := by decide +kernel
theorem dX5_rowOf_25 : decode cX5_rowOf 25 = .ok (.goto (-23), 3) := by decide +kernel
theorem dX5_rowOf_28 : decode cX5_rowOf 28 = .ok (.iconst (-1), 1) := by decide +kernel
theorem dX5_rowOf_29 : decode cX5_rowOf 29 = .ok (.ireturn, 1) := by decide +kernel
theorem dX5_columnWithSign_0 : decode cX5_columnWithSign 0 = .ok (.bipush 24, 2) := by decide +kernel
theorem dX5_columnWithSign_2 : decode cX5_columnWithSign 2 = .ok (.istore_n 3, 1) := by decide +kernel
theorem dX5_columnWithSign_3 : decode cX5_columnWithSign 3 = .ok (.iload_n 3, 1) := by decide +kernel
theorem dX5_columnWithSign_4 : decode cX5_columnWithSign 4 = .ok (.ifCond .lt 36, 3) := by decide +kernel
theorem dX5_columnWithSign_7 : decode cX5_columnWithSign 7 = .ok (.aload_n 0, 1) := by decide +kernel
theorem dX5_columnWithSign_8 : decode cX5_columnWithSign 8 = .ok (.getfield 20, 3) := by decide +kernel
theorem dX5_columnWithSign_11 : decode cX5_columnWithSign 11 = .ok (.iload_n 3, 1) := by decide +kernel
theorem dX5_columnWithSign_12 : decode cX5_columnWithSign 12 = .ok (.baload, 1) := by decide +kernel
theorem dX5_columnWithSign_13 : decode cX5_columnWithSign 13 = .ok (.ifCond .eq 21, 3) := by decide +kernel
theorem dX5_columnWithSign_16 : decode cX5_columnWithSign 16 = .ok (.aload_n 0, 1) := by decide +kernel
theorem dX5_columnWithSign_17 : decode cX5_columnWithSign 17 = .ok (.getfield 13, 3) := by decide +kernel
theorem dX5_columnWithSign_20 : decode cX5_columnWithSign 20 = .ok (.iload_n 1, 1) := by decide +kernel
theorem dX5_columnWithSign_21 : decode cX5_columnWithSign 21 = .ok (.aaload, 1) := by decide +kernel
theorem dX5_columnWithSign_22 : decode cX5_columnWithSign 22 = .ok (.iload_n 3, 1) := by decide +kernel
theorem dX5_columnWithSign_23 : decode cX5_columnWithSign 23 = .ok (.laload, 1) := by decide +kernel
theorem dX5_columnWithSign_24 : decode cX5_columnWithSign 24 = .ok (.iload_n 2, 1) := by decide +kernel
theorem dX5_columnWithSign_25 : decode cX5_columnWithSign 25 = .ok (.i2l, 1) := by decide +kernel
theorem dX5_columnWithSign_26 : decode cX5_columnWithSign 26 = .ok (.lmul, 1) := by decide +kernel
theorem dX5_columnWithSign_27 : decode cX5_columnWithSign 27 = .ok (.lconst 0, 1) := by decide +kernel
theorem dX5_columnWithSign_28 : decode cX5_columnWithSign 28 = .ok (.lcmp, 1) := by decide +kernel
theorem dX5_columnWithSign_29 : decode cX5_columnWithSign 29 = .ok (.ifCond .le 5, 3) := by decide +kernel
theorem dX5_columnWithSign_32 : decode cX5_columnWithSign 32 = .ok (.iload_n 3, 1) := by decide +kernel
theorem dX5_columnWithSign_33 : decode cX5_columnWithSign 33 = .ok (.ireturn, 1) := by decide +kernel
theorem dX5_columnWithSign_34 : decode cX5_columnWithSign 34 = .ok (.iinc 3 (-1), 3) := by decide +kernel
theorem dX5_columnWithSign_37 : decode cX5_columnWithSign 37 = .ok (.goto (-34), 3) := by decide +kernel
theorem dX5_columnWithSign_40 : decode cX5_columnWithSign 40 = .ok (.iconst (-1), 1) := by decide +kernel
theorem dX5_columnWithSign_41 : decode cX5_columnWithSign 41 = .ok (.ireturn, 1) := by decide +kernel
set_option maxRecDepth 20000 in
theorem ggX5_enter_X5_leavingRow : GoodIn wsX5_enter wsX5_leavingRow := goodIn_r _ [9, 3, 2, 4, 10, 11, 12, 13, 14] (by decide +kernel) (by decide +kernel)
set_option maxRecDepth 20000 in
theorem gX5_enter_X5_leavingRow : GoodIn wsX5_enter (wsV RX5 77 RX5 yX5_leavingRow wsX5_leavingRow) := goodIn_app (goodIn_of _ (by decide +kernel)) ggX5_enter_X5_leavingRow
theorem dX5_enter_0 : decode cX5_enter 0 = .ok (.aload_n 0, 1) := by decide +kernel
theorem dX5_enter_1 : decode cX5_enter 1 = .ok (.iload_n 1, 1) := by decide +kernel
theorem dX5_enter_2 : decode cX5_enter 2 = .ok (.invokevirtual 77, 3) := by decide +kernel
theorem dX5_enter_5 : decode cX5_enter 5 = .ok (.istore_n 2, 1) := by decide +kernel
theorem dX5_enter_6 : decode cX5_enter 6 = .ok (.iload_n 2, 1) := by decide +kernel
theorem dX5_enter_7 : decode cX5_enter 7 = .ok (.iconst (-1), 1) := by decide +kernel
theorem dX5_enter_8 : decode cX5_enter 8 = .ok (.if_icmp .eq 12, 3) := by decide +kernel
theorem dX5_enter_11 : decode cX5_enter 11 = .ok (.aload_n 0, 1) := by decide +kernel
theorem dX5_enter_12 : decode cX5_enter 12 = .ok (.getfield 52, 3) := by decide +kernel
theorem dX5_enter_15 : decode cX5_enter 15 = .ok (.lconst 0, 1) := by decide +kernel
theorem dX5_enter_16 : decode cX5_enter 16 = .ok (.lcmp, 1) := by decide +kernel
theorem dX5_enter_17 : decode cX5_enter 17 = .ok (.ifCond .ne 5, 3) := by decide +kernel
theorem dX5_enter_20 : decode cX5_enter 20 = .ok (.iconst 0, 1) := by decide +kernel
theorem dX5_enter_21 : decode cX5_enter 21 = .ok (.ireturn, 1) := by decide +kernel
theorem dX5_enter_22 : decode cX5_enter 22 = .ok (.aload_n 0, 1) := by decide +kernel
theorem dX5_enter_23 : decode cX5_enter 23 = .ok (.getfield 13, 3) := by decide +kernel
theorem dX5_enter_26 : decode cX5_enter 26 = .ok (.iload_n 2, 1) := by decide +kernel
theorem dX5_enter_27 : decode cX5_enter 27 = .ok (.aaload, 1) := by decide +kernel
theorem dX5_enter_28 : decode cX5_enter 28 = .ok (.iload_n 1, 1) := by decide +kernel
theorem dX5_enter_29 : decode cX5_enter 29 = .ok (.laload, 1) := by decide +kernel
theorem dX5_enter_30 : decode cX5_enter 30 = .ok (.lstore_n 3, 1) := by decide +kernel
theorem dX5_enter_31 : decode cX5_enter 31 = .ok (.iconst 0, 1) := by decide +kernel
theorem dX5_enter_32 : decode cX5_enter 32 = .ok (.istore 5, 2) := by decide +kernel
theorem dX5_enter_34 : decode cX5_enter 34 = .ok (.iload 5, 2) := by decide +kernel
theorem dX5_enter_36 : decode cX5_enter 36 = .ok (.aload_n 0, 1) := by decide +kernel
theorem dX5_enter_37 : decode cX5_enter 37 = .ok (.getfield 49, 3) := by decide +kernel
theorem dX5_enter_40 : decode cX5_enter 40 = .ok (.if_icmp .ge 98, 3) := by decide +kernel
theorem dX5_enter_43 : decode cX5_enter 43 = .ok (.aload_n 0, 1) := by decide +kernel
theorem dX5_enter_44 : decode cX5_enter 44 = .ok (.getfield 13, 3) := by decide +kernel
theorem dX5_enter_47 : decode cX5_enter 47 = .ok (.iload 5, 2) := by decide +kernel
theorem dX5_enter_49 : decode cX5_enter 49 = .ok (.aaload, 1) := by decide +kernel
theorem dX5_enter_50 : decode cX5_enter 50 = .ok (.iload_n 1, 1) := by decide +kernel
theorem dX5_enter_51 : decode cX5_enter 51 = .ok (.laload, 1) := by decide +kernel
theorem dX5_enter_52 : decode cX5_enter 52 = .ok (.lstore 6, 2) := by decide +kernel
theorem dX5_enter_54 : decode cX5_enter 54 = .ok (.iload 5, 2) := by decide +kernel
theorem dX5_enter_56 : decode cX5_enter 56 = .ok (.iload_n 2, 1) := by decide +kernel
theorem dX5_enter_57 : decode cX5_enter 57 = .ok (.if_icmp .eq 75, 3) := by decide +kernel
theorem dX5_enter_60 : decode cX5_enter 60 = .ok (.lload 6, 2) := by decide +kernel
theorem dX5_enter_62 : decode cX5_enter 62 = .ok (.lconst 0, 1) := by decide +kernel
theorem dX5_enter_63 : decode cX5_enter 63 = .ok (.lcmp, 1) := by decide +kernel
theorem dX5_enter_64 : decode cX5_enter 64 = .ok (.ifCond .ne 12, 3) := by decide +kernel
theorem dX5_enter_67 : decode cX5_enter 67 = .ok (.lload_n 3, 1) := by decide +kernel
theorem dX5_enter_68 : decode cX5_enter 68 = .ok (.aload_n 0, 1) := by decide +kernel
theorem dX5_enter_69 : decode cX5_enter 69 = .ok (.getfield 52, 3) := by decide +kernel
theorem dX5_enter_72 : decode cX5_enter 72 = .ok (.lcmp, 1) := by decide +kernel
theorem dX5_enter_73 : decode cX5_enter 73 = .ok (.ifCond .eq 59, 3) := by decide +kernel
theorem dX5_enter_76 : decode cX5_enter 76 = .ok (.iconst 0, 1) := by decide +kernel
theorem dX5_enter_77 : decode cX5_enter 77 = .ok (.istore 8, 2) := by decide +kernel
theorem dX5_enter_79 : decode cX5_enter 79 = .ok (.iload 8, 2) := by decide +kernel
theorem dX5_enter_81 : decode cX5_enter 81 = .ok (.bipush 25, 2) := by decide +kernel
theorem dX5_enter_83 : decode cX5_enter 83 = .ok (.if_icmp .gt 49, 3) := by decide +kernel
theorem dX5_enter_86 : decode cX5_enter 86 = .ok (.aload_n 0, 1) := by decide +kernel
theorem dX5_enter_87 : decode cX5_enter 87 = .ok (.getfield 13, 3) := by decide +kernel
theorem dX5_enter_90 : decode cX5_enter 90 = .ok (.iload 5, 2) := by decide +kernel
theorem dX5_enter_92 : decode cX5_enter 92 = .ok (.aaload, 1) := by decide +kernel
theorem dX5_enter_93 : decode cX5_enter 93 = .ok (.iload 8, 2) := by decide +kernel
theorem dX5_enter_95 : decode cX5_enter 95 = .ok (.aload_n 0, 1) := by decide +kernel
theorem dX5_enter_96 : decode cX5_enter 96 = .ok (.getfield 13, 3) := by decide +kernel
theorem dX5_enter_99 : decode cX5_enter 99 = .ok (.iload 5, 2) := by decide +kernel
theorem dX5_enter_101 : decode cX5_enter 101 = .ok (.aaload, 1) := by decide +kernel
theorem dX5_enter_102 : decode cX5_enter 102 = .ok (.iload 8, 2) := by decide +kernel
theorem dX5_enter_104 : decode cX5_enter 104 = .ok (.laload, 1) := by decide +kernel
theorem dX5_enter_105 : decode cX5_enter 105 = .ok (.lload_n 3, 1) := by decide +kernel
theorem dX5_enter_106 : decode cX5_enter 106 = .ok (.lmul, 1) := by decide +kernel
theorem dX5_enter_107 : decode cX5_enter 107 = .ok (.lload 6, 2) := by decide +kernel
theorem dX5_enter_109 : decode cX5_enter 109 = .ok (.aload_n 0, 1) := by decide +kernel
theorem dX5_enter_110 : decode cX5_enter 110 = .ok (.getfield 13, 3) := by decide +kernel
theorem dX5_enter_113 : decode cX5_enter 113 = .ok (.iload_n 2, 1) := by decide +kernel
theorem dX5_enter_114 : decode cX5_enter 114 = .ok (.aaload, 1) := by decide +kernel
theorem dX5_enter_115 : decode cX5_enter 115 = .ok (.iload 8, 2) := by decide +kernel
theorem dX5_enter_117 : decode cX5_enter 117 = .ok (.laload, 1) := by decide +kernel
theorem dX5_enter_118 : decode cX5_enter 118 = .ok (.lmul, 1) := by decide +kernel
theorem dX5_enter_119 : decode cX5_enter 119 = .ok (.lsub, 1) := by decide +kernel
theorem dX5_enter_120 : decode cX5_enter 120 = .ok (.aload_n 0, 1) := by decide +kernel
theorem dX5_enter_121 : decode cX5_enter 121 = .ok (.getfield 52, 3) := by decide +kernel
theorem dX5_enter_124 : decode cX5_enter 124 = .ok (.ldiv, 1) := by decide +kernel
theorem dX5_enter_125 : decode cX5_enter 125 = .ok (.lastore, 1) := by decide +kernel
theorem dX5_enter_126 : decode cX5_enter 126 = .ok (.iinc 8 1, 3) := by decide +kernel
theorem dX5_enter_129 : decode cX5_enter 129 = .ok (.goto (-50), 3) := by decide +kernel
theorem dX5_enter_132 : decode cX5_enter 132 = .ok (.iinc 5 1, 3) := by decide +kernel
theorem dX5_enter_135 : decode cX5_enter 135 = .ok (.goto (-101), 3) := by decide +kernel
theorem dX5_enter_138 : decode cX5_enter 138 = .ok (.aload_n 0, 1) := by decide +kernel
theorem dX5_enter_139 : decode cX5_enter 139 = .ok (.lload_n 3, 1) := by decide +kernel
theorem dX5_enter_140 : decode cX5_enter 140 = .ok (.putfield 52, 3) := by decide +kernel
theorem dX5_enter_143 : decode cX5_enter 143 = .ok (.aload_n 0, 1) := by decide +kernel
theorem dX5_enter_144 : decode cX5_enter 144 = .ok (.getfield 16, 3) := by decide +kernel
theorem dX5_enter_147 : decode cX5_enter 147 = .ok (.iload_n 2, 1) := by decide +kernel
theorem dX5_enter_148 : decode cX5_enter 148 = .ok (.iload_n 1, 1) := by decide +kernel
theorem dX5_enter_149 : decode cX5_enter 149 = .ok (.iastore, 1) := by decide +kernel
theorem dX5_enter_150 : decode cX5_enter 150 = .ok (.iconst 1, 1) := by decide +kernel
theorem dX5_enter_151 : decode cX5_enter 151 = .ok (.ireturn, 1) := by decide +kernel
theorem dX5_leavingRow_0 : decode cX5_leavingRow 0 = .ok (.iconst (-1), 1) := by decide +kernel
theorem dX5_leavingRow_1 : decode cX5_leavingRow 1 = .ok (.istore_n 2, 1) := by decide +kernel
theorem dX5_leavingRow_2 : decode cX5_leavingRow 2 = .ok (.iconst 0, 1) := by decide +kernel
theorem dX5_leavingRow_3 : decode cX5_leavingRow 3 = .ok (.istore_n 3, 1) := by decide +kernel
theorem dX5_leavingRow_4 : decode cX5_leavingRow 4 = .ok (.iload_n 3, 1) := by decide +kernel
theorem dX5_leavingRow_5 : decode cX5_leavingRow 5 = .ok (.aload_n 0, 1) := by decide +kernel
theorem dX5_leavingRow_6 : decode cX5_leavingRow 6 = .ok (.getfield 49, 3) := by decide +kernel
theorem dX5_leavingRow_9 : decode cX5_leavingRow 9 = .ok (.if_icmp .ge 105, 3) := by decide +kernel
theorem dX5_leavingRow_12 : decode cX5_leavingRow 12 = .ok (.aload_n 0, 1) := by decide +kernel
theorem dX5_leavingRow_13 : decode cX5_leavingRow 13 = .ok (.getfield 13, 3) := by decide +kernel
theorem dX5_leavingRow_16 : decode cX5_leavingRow 16 = .ok (.iload_n 3, 1) := by decide +kernel
theorem dX5_leavingRow_17 : decode cX5_leavingRow 17 = .ok (.aaload, 1) := by decide +kernel
theorem dX5_leavingRow_18 : decode cX5_leavingRow 18 = .ok (.iload_n 1, 1) := by decide +kernel
theorem dX5_leavingRow_19 : decode cX5_leavingRow 19 = .ok (.laload, 1) := by decide +kernel
theorem dX5_leavingRow_20 : decode cX5_leavingRow 20 = .ok (.lconst 0, 1) := by decide +kernel
theorem dX5_leavingRow_21 : decode cX5_leavingRow 21 = .ok (.lcmp, 1) := by decide +kernel
theorem dX5_leavingRow_22 : decode cX5_leavingRow 22 = .ok (.ifCond .le 86, 3) := by decide +kernel
theorem dX5_leavingRow_25 : decode cX5_leavingRow 25 = .ok (.iload_n 2, 1) := by decide +kernel
theorem dX5_leavingRow_26 : decode cX5_leavingRow 26 = .ok (.iconst (-1), 1) := by decide +kernel
theorem dX5_leavingRow_27 : decode cX5_leavingRow 27 = .ok (.if_icmp .ne 8, 3) := by decide +kernel
theorem dX5_leavingRow_30 : decode cX5_leavingRow 30 = .ok (.iload_n 3, 1) := by decide +kernel
theorem dX5_leavingRow_31 : decode cX5_leavingRow 31 = .ok (.istore_n 2, 1) := by decide +kernel
theorem dX5_leavingRow_32 : decode cX5_leavingRow 32 = .ok (.goto 76, 3) := by decide +kernel
theorem dX5_leavingRow_35 : decode cX5_leavingRow 35 = .ok (.aload_n 0, 1) := by decide +kernel
theorem dX5_leavingRow_36 : decode cX5_leavingRow 36 = .ok (.getfield 13, 3) := by decide +kernel
theorem dX5_leavingRow_39 : decode cX5_leavingRow 39 = .ok (.iload_n 3, 1) := by decide +kernel
theorem dX5_leavingRow_40 : decode cX5_leavingRow 40 = .ok (.aaload, 1) := by decide +kernel
theorem dX5_leavingRow_41 : decode cX5_leavingRow 41 = .ok (.bipush 25, 2) := by decide +kernel
theorem dX5_leavingRow_43 : decode cX5_leavingRow 43 = .ok (.laload, 1) := by decide +kernel
theorem dX5_leavingRow_44 : decode cX5_leavingRow 44 = .ok (.aload_n 0, 1) := by decide +kernel
theorem dX5_leavingRow_45 : decode cX5_leavingRow 45 = .ok (.getfield 13, 3) := by decide +kernel
theorem dX5_leavingRow_48 : decode cX5_leavingRow 48 = .ok (.iload_n 2, 1) := by decide +kernel
theorem dX5_leavingRow_49 : decode cX5_leavingRow 49 = .ok (.aaload, 1) := by decide +kernel
theorem dX5_leavingRow_50 : decode cX5_leavingRow 50 = .ok (.iload_n 1, 1) := by decide +kernel
theorem dX5_leavingRow_51 : decode cX5_leavingRow 51 = .ok (.laload, 1) := by decide +kernel
theorem dX5_leavingRow_52 : decode cX5_leavingRow 52 = .ok (.lmul, 1) := by decide +kernel
theorem dX5_leavingRow_53 : decode cX5_leavingRow 53 = .ok (.lstore 4, 2) := by decide +kernel
theorem dX5_leavingRow_55 : decode cX5_leavingRow 55 = .ok (.aload_n 0, 1) := by decide +kernel
theorem dX5_leavingRow_56 : decode cX5_leavingRow 56 = .ok (.getfield 13, 3) := by decide +kernel
theorem dX5_leavingRow_59 : decode cX5_leavingRow 59 = .ok (.iload_n 2, 1) := by decide +kernel
theorem dX5_leavingRow_60 : decode cX5_leavingRow 60 = .ok (.aaload, 1) := by decide +kernel
theorem dX5_leavingRow_61 : decode cX5_leavingRow 61 = .ok (.bipush 25, 2) := by decide +kernel
theorem dX5_leavingRow_63 : decode cX5_leavingRow 63 = .ok (.laload, 1) := by decide +kernel
theorem dX5_leavingRow_64 : decode cX5_leavingRow 64 = .ok (.aload_n 0, 1) := by decide +kernel
theorem dX5_leavingRow_65 : decode cX5_leavingRow 65 = .ok (.getfield 13, 3) := by decide +kernel
theorem dX5_leavingRow_68 : decode cX5_leavingRow 68 = .ok (.iload_n 3, 1) := by decide +kernel
theorem dX5_leavingRow_69 : decode cX5_leavingRow 69 = .ok (.aaload, 1) := by decide +kernel
theorem dX5_leavingRow_70 : decode cX5_leavingRow 70 = .ok (.iload_n 1, 1) := by decide +kernel
theorem dX5_leavingRow_71 : decode cX5_leavingRow 71 = .ok (.laload, 1) := by decide +kernel
theorem dX5_leavingRow_72 : decode cX5_leavingRow 72 = .ok (.lmul, 1) := by decide +kernel
theorem dX5_leavingRow_73 : decode cX5_leavingRow 73 = .ok (.lstore 6, 2) := by decide +kernel
theorem dX5_leavingRow_75 : decode cX5_leavingRow 75 = .ok (.lload 4, 2) := by decide +kernel
theorem dX5_leavingRow_77 : decode cX5_leavingRow 77 = .ok (.lload 6, 2) := by decide +kernel
theorem dX5_leavingRow_79 : decode cX5_leavingRow 79 = .ok (.lcmp, 1) := by decide +kernel
theorem dX5_leavingRow_80 : decode cX5_leavingRow 80 = .ok (.ifCond .lt 26, 3) := by decide +kernel
theorem dX5_leavingRow_83 : decode cX5_leavingRow 83 = .ok (.lload 4, 2) := by decide +kernel
theorem dX5_leavingRow_85 : decode cX5_leavingRow 85 = .ok (.lload 6, 2) := by decide +kernel
theorem dX5_leavingRow_87 : decode cX5_leavingRow 87 = .ok (.lcmp, 1) := by decide +kernel
theorem dX5_leavingRow_88 : decode cX5_leavingRow 88 = .ok (.ifCond .ne 20, 3) := by decide +kernel
theorem dX5_leavingRow_91 : decode cX5_leavingRow 91 = .ok (.aload_n 0, 1) := by decide +kernel
theorem dX5_leavingRow_92 : decode cX5_leavingRow 92 = .ok (.getfield 16, 3) := by decide +kernel
theorem dX5_leavingRow_95 : decode cX5_leavingRow 95 = .ok (.iload_n 3, 1) := by decide +kernel
theorem dX5_leavingRow_96 : decode cX5_leavingRow 96 = .ok (.iaload, 1) := by decide +kernel
theorem dX5_leavingRow_97 : decode cX5_leavingRow 97 = .ok (.aload_n 0, 1) := by decide +kernel
theorem dX5_leavingRow_98 : decode cX5_leavingRow 98 = .ok (.getfield 16, 3) := by decide +kernel
theorem dX5_leavingRow_101 : decode cX5_leavingRow 101 = .ok (.iload_n 2, 1) := by decide +kernel
theorem dX5_leavingRow_102 : decode cX5_leavingRow 102 = .ok (.iaload, 1) := by decide +kernel
theorem dX5_leavingRow_103 : decode cX5_leavingRow 103 = .ok (.if_icmp .le 5, 3) := by decide +kernel
theorem dX5_leavingRow_106 : decode cX5_leavingRow 106 = .ok (.iload_n 3, 1) := by decide +kernel
theorem dX5_leavingRow_107 : decode cX5_leavingRow 107 = .ok (.istore_n 2, 1) := by decide +kernel
theorem dX5_leavingRow_108 : decode cX5_leavingRow 108 = .ok (.iinc 3 1, 3) := by decide +kernel
theorem dX5_leavingRow_111 : decode cX5_leavingRow 111 = .ok (.goto (-107), 3) := by decide +kernel
theorem dX5_leavingRow_114 : decode cX5_leavingRow 114 = .ok (.iload_n 2, 1) := by decide +kernel
theorem dX5_leavingRow_115 : decode cX5_leavingRow 115 = .ok (.ireturn, 1) := by decide +kernel
set_option maxRecDepth 20000 in
theorem ggX6_init_X1_init : GoodIn wsX6_init wsX1_init := goodIn_r _ [25, 26, 2, 3, 27, 28, 61, 62] (by decide +kernel) (by decide +kernel)
set_option maxRecDepth 20000 in
theorem gX6_init_X1_init_n11 : GoodIn wsX6_init (wsX1_init) := ggX6_init_X1_init
set_option maxRecDepth 20000 in
theorem ggX6_init_X2_init : GoodIn wsX6_init wsX2_init := goodIn_r _ [30, 31, 2, 3, 27, 32, 70, 71, 72, 73, 74] (by decide +kernel) (by decide +kernel)
set_option maxRecDepth 20000 in
theorem gX6_init_X2_init_n18 : GoodIn wsX6_init (wsX2_init) := ggX6_init_X2_init
set_option maxRecDepth 20000 in
theorem ggX6_init_X3_init : GoodIn wsX6_init wsX3_init := goodIn_r _ [34, 35, 2, 3, 27, 36, 37, 38, 75, 76, 77, 78] (by decide +kernel) (by decide +kernel)
set_option maxRecDepth 20000 in
theorem gX6_init_X3_init_n25 : GoodIn wsX6_init (wsX3_init) := ggX6_init_X3_init
set_option maxRecDepth 20000 in
theorem ggX6_init_X0_init : GoodIn wsX6_init wsX0_init := goodIn_r _ [40, 41, 2, 3, 42, 43, 44, 45, 27, 46, 47, 48, 49, 50, 51, 52, 53, 54, 55, 56, 86, 87, 88, 89, 90, 79, 80, 81, 82, 83, 84] (by decide +kernel) (by decide +kernel)
set_option maxRecDepth 20000 in
theorem gX6_init_X0_init_n32 : GoodIn wsX6_init (wsX0_init) := ggX6_init_X0_init
set_option maxRecDepth 20000 in
theorem ggX6_init_X4_init : GoodIn wsX6_init wsX4_init := goodIn_r _ [58, 59, 2, 3, 27, 60, 85] (by decide +kernel) (by decide +kernel)
set_option maxRecDepth 20000 in
theorem gX6_init_X4_init_n39 : GoodIn wsX6_init (wsX4_init) := ggX6_init_X4_init
theorem dX6_init_0 : decode cX6_init 0 = .ok (.aload_n 0, 1) := by decide +kernel
theorem dX6_init_1 : decode cX6_init 1 = .ok (.invokespecial 3, 3) := by decide +kernel
theorem dX6_init_4 : decode cX6_init 4 = .ok (.aload_n 0, 1) := by decide +kernel
theorem dX6_init_5 : decode cX6_init 5 = .ok (.new 9, 3) := by decide +kernel
theorem dX6_init_8 : decode cX6_init 8 = .ok (.dup, 1) := by decide +kernel
theorem dX6_init_9 : decode cX6_init 9 = .ok (.invokespecial 11, 3) := by decide +kernel
theorem dX6_init_12 : decode cX6_init 12 = .ok (.putfield 12, 3) := by decide +kernel
theorem dX6_init_15 : decode cX6_init 15 = .ok (.aload_n 0, 1) := by decide +kernel
theorem dX6_init_16 : decode cX6_init 16 = .ok (.new 16, 3) := by decide +kernel
theorem dX6_init_19 : decode cX6_init 19 = .ok (.dup, 1) := by decide +kernel
theorem dX6_init_20 : decode cX6_init 20 = .ok (.invokespecial 18, 3) := by decide +kernel
theorem dX6_init_23 : decode cX6_init 23 = .ok (.putfield 19, 3) := by decide +kernel
theorem dX6_init_26 : decode cX6_init 26 = .ok (.aload_n 0, 1) := by decide +kernel
theorem dX6_init_27 : decode cX6_init 27 = .ok (.new 23, 3) := by decide +kernel
theorem dX6_init_30 : decode cX6_init 30 = .ok (.dup, 1) := by decide +kernel
theorem dX6_init_31 : decode cX6_init 31 = .ok (.invokespecial 25, 3) := by decide +kernel
theorem dX6_init_34 : decode cX6_init 34 = .ok (.putfield 26, 3) := by decide +kernel
theorem dX6_init_37 : decode cX6_init 37 = .ok (.aload_n 0, 1) := by decide +kernel
theorem dX6_init_38 : decode cX6_init 38 = .ok (.new 30, 3) := by decide +kernel
theorem dX6_init_41 : decode cX6_init 41 = .ok (.dup, 1) := by decide +kernel
theorem dX6_init_42 : decode cX6_init 42 = .ok (.invokespecial 32, 3) := by decide +kernel
theorem dX6_init_45 : decode cX6_init 45 = .ok (.putfield 33, 3) := by decide +kernel
theorem dX6_init_48 : decode cX6_init 48 = .ok (.aload_n 0, 1) := by decide +kernel
theorem dX6_init_49 : decode cX6_init 49 = .ok (.new 37, 3) := by decide +kernel
theorem dX6_init_52 : decode cX6_init 52 = .ok (.dup, 1) := by decide +kernel
theorem dX6_init_53 : decode cX6_init 53 = .ok (.invokespecial 39, 3) := by decide +kernel
theorem dX6_init_56 : decode cX6_init 56 = .ok (.putfield 40, 3) := by decide +kernel
theorem dX6_init_59 : decode cX6_init 59 = .ok (.return_, 1) := by decide +kernel
set_option maxRecDepth 20000 in
theorem ggX6_addJob_X6_isTime : GoodIn wsX6_addJob wsX6_isTime := goodIn_r _ [10] (by decide +kernel) (by decide +kernel)
set_option maxRecDepth 20000 in
theorem gX6_addJob_X6_isTime : GoodIn wsX6_addJob (va_wsS RX6 44 yX6_isTime wsX6_isTime) := goodIn_app (goodIn_of _ (by decide +kernel)) ggX6_addJob_X6_isTime
set_option maxRecDepth 20000 in
theorem ggX6_addJob_X6_forgetResults : GoodIn wsX6_addJob wsX6_forgetResults := goodIn_r _ [14, 15, 16, 17, 18, 19, 20, 21, 22, 23] (by decide +kernel) (by decide +kernel)
set_option maxRecDepth 20000 in
theorem gX6_addJob_X6_forgetResults : GoodIn wsX6_addJob (wsV RX6 73 RX6 yX6_forgetResults wsX6_forgetResults) := goodIn_app (goodIn_of _ (by decide +kernel)) ggX6_addJob_X6_forgetResults
theorem dX6_addJob_0 : decode cX6_addJob 0 = .ok (.iload_n 1, 1) := by decide +kernel
theorem dX6_addJob_1 : decode cX6_addJob 1 = .ok (.invokestatic 44, 3) := by decide +kernel
theorem dX6_addJob_4 : decode cX6_addJob 4 = .ok (.ifCond .eq 17, 3) := by decide +kernel
theorem dX6_addJob_7 : decode cX6_addJob 7 = .ok (.iload_n 2, 1) := by decide +kernel
theorem dX6_addJob_8 : decode cX6_addJob 8 = .ok (.invokestatic 44, 3) := by decide +kernel
theorem dX6_addJob_11 : decode cX6_addJob 11 = .ok (.ifCond .eq 10, 3) := by decide +kernel
theorem dX6_addJob_14 : decode cX6_addJob 14 = .ok (.iload_n 3, 1) := by decide +kernel
theorem dX6_addJob_15 : decode cX6_addJob 15 = .ok (.invokestatic 44, 3) := by decide +kernel
theorem dX6_addJob_18 : decode cX6_addJob 18 = .ok (.ifCond .ne 13, 3) := by decide +kernel
theorem dX6_addJob_21 : decode cX6_addJob 21 = .ok (.new 48, 3) := by decide +kernel
theorem dX6_addJob_24 : decode cX6_addJob 24 = .ok (.dup, 1) := by decide +kernel
theorem dX6_addJob_25 : decode cX6_addJob 25 = .ok (.ldc 50, 2) := by decide +kernel
theorem dX6_addJob_27 : decode cX6_addJob 27 = .ok (.invokespecial 52, 3) := by decide +kernel
theorem dX6_addJob_30 : decode cX6_addJob 30 = .ok (.athrow, 1) := by decide +kernel
theorem dX6_addJob_31 : decode cX6_addJob 31 = .ok (.iload_n 1, 1) := by decide +kernel
theorem dX6_addJob_32 : decode cX6_addJob 32 = .ok (.ifCond .ne 21, 3) := by decide +kernel
theorem dX6_addJob_35 : decode cX6_addJob 35 = .ok (.iload_n 2, 1) := by decide +kernel
theorem dX6_addJob_36 : decode cX6_addJob 36 = .ok (.ifCond .ne 17, 3) := by decide +kernel
theorem dX6_addJob_39 : decode cX6_addJob 39 = .ok (.iload_n 3, 1) := by decide +kernel
theorem dX6_addJob_40 : decode cX6_addJob 40 = .ok (.ifCond .ne 13, 3) := by decide +kernel
theorem dX6_addJob_43 : decode cX6_addJob 43 = .ok (.new 48, 3) := by decide +kernel
theorem dX6_addJob_46 : decode cX6_addJob 46 = .ok (.dup, 1) := by decide +kernel
theorem dX6_addJob_47 : decode cX6_addJob 47 = .ok (.ldc 55, 2) := by decide +kernel
theorem dX6_addJob_49 : decode cX6_addJob 49 = .ok (.invokespecial 52, 3) := by decide +kernel
theorem dX6_addJob_52 : decode cX6_addJob 52 = .ok (.athrow, 1) := by decide +kernel
theorem dX6_addJob_53 : decode cX6_addJob 53 = .ok (.aload_n 0, 1) := by decide +kernel
theorem dX6_addJob_54 : decode cX6_addJob 54 = .ok (.getfield 12, 3) := by decide +kernel
theorem dX6_addJob_57 : decode cX6_addJob 57 = .ok (.getfield 57, 3) := by decide +kernel
theorem dX6_addJob_60 : decode cX6_addJob 60 = .ok (.istore 4, 2) := by decide +kernel
theorem dX6_addJob_62 : decode cX6_addJob 62 = .ok (.iload 4, 2) := by decide +kernel
theorem dX6_addJob_64 : decode cX6_addJob 64 = .ok (.ifCond .lt 10, 3) := by decide +kernel
theorem dX6_addJob_67 : decode cX6_addJob 67 = .ok (.iload 4, 2) := by decide +kernel
theorem dX6_addJob_69 : decode cX6_addJob 69 = .ok (.bipush 7, 2) := by decide +kernel
theorem dX6_addJob_71 : decode cX6_addJob 71 = .ok (.if_icmp .lt 13, 3) := by decide +kernel
theorem dX6_addJob_74 : decode cX6_addJob 74 = .ok (.new 61, 3) := by decide +kernel
theorem dX6_addJob_77 : decode cX6_addJob 77 = .ok (.dup, 1) := by decide +kernel
theorem dX6_addJob_78 : decode cX6_addJob 78 = .ok (.ldc 63, 2) := by decide +kernel
theorem dX6_addJob_80 : decode cX6_addJob 80 = .ok (.invokespecial 65, 3) := by decide +kernel
theorem dX6_addJob_83 : decode cX6_addJob 83 = .ok (.athrow, 1) := by decide +kernel
theorem dX6_addJob_84 : decode cX6_addJob 84 = .ok (.aload_n 0, 1) := by decide +kernel
theorem dX6_addJob_85 : decode cX6_addJob 85 = .ok (.getfield 12, 3) := by decide +kernel
theorem dX6_addJob_88 : decode cX6_addJob 88 = .ok (.iload 4, 2) := by decide +kernel
theorem dX6_addJob_90 : decode cX6_addJob 90 = .ok (.iconst 1, 1) := by decide +kernel
theorem dX6_addJob_91 : decode cX6_addJob 91 = .ok (.iadd, 1) := by decide +kernel
theorem dX6_addJob_92 : decode cX6_addJob 92 = .ok (.putfield 57, 3) := by decide +kernel
theorem dX6_addJob_95 : decode cX6_addJob 95 = .ok (.aload_n 0, 1) := by decide +kernel
theorem dX6_addJob_96 : decode cX6_addJob 96 = .ok (.getfield 12, 3) := by decide +kernel
theorem dX6_addJob_99 : decode cX6_addJob 99 = .ok (.getfield 66, 3) := by decide +kernel
theorem dX6_addJob_102 : decode cX6_addJob 102 = .ok (.iload 4, 2) := by decide +kernel
theorem dX6_addJob_104 : decode cX6_addJob 104 = .ok (.iconst 3, 1) := by decide +kernel
theorem dX6_addJob_105 : decode cX6_addJob 105 = .ok (.imul, 1) := by decide +kernel
theorem dX6_addJob_106 : decode cX6_addJob 106 = .ok (.iload_n 1, 1) := by decide +kernel
theorem dX6_addJob_107 : decode cX6_addJob 107 = .ok (.iastore, 1) := by decide +kernel
theorem dX6_addJob_108 : decode cX6_addJob 108 = .ok (.aload_n 0, 1) := by decide +kernel
theorem dX6_addJob_109 : decode cX6_addJob 109 = .ok (.getfield 12, 3) := by decide +kernel
theorem dX6_addJob_112 : decode cX6_addJob 112 = .ok (.getfield 66, 3) := by decide +kernel
theorem dX6_addJob_115 : decode cX6_addJob 115 = .ok (.iload 4, 2) := by decide +kernel
theorem dX6_addJob_117 : decode cX6_addJob 117 = .ok (.iconst 3, 1) := by decide +kernel
theorem dX6_addJob_118 : decode cX6_addJob 118 = .ok (.imul, 1) := by decide +kernel
theorem dX6_addJob_119 : decode cX6_addJob 119 = .ok (.iconst 1, 1) := by decide +kernel
theorem dX6_addJob_120 : decode cX6_addJob 120 = .ok (.iadd, 1) := by decide +kernel
theorem dX6_addJob_121 : decode cX6_addJob 121 = .ok (.iload_n 2, 1) := by decide +kernel
theorem dX6_addJob_122 : decode cX6_addJob 122 = .ok (.iastore, 1) := by decide +kernel
theorem dX6_addJob_123 : decode cX6_addJob 123 = .ok (.aload_n 0, 1) := by decide +kernel
theorem dX6_addJob_124 : decode cX6_addJob 124 = .ok (.getfield 12, 3) := by decide +kernel
theorem dX6_addJob_127 : decode cX6_addJob 127 = .ok (.getfield 66, 3) := by decide +kernel
theorem dX6_addJob_130 : decode cX6_addJob 130 = .ok (.iload 4, 2) := by decide +kernel
theorem dX6_addJob_132 : decode cX6_addJob 132 = .ok (.iconst 3, 1) := by decide +kernel
theorem dX6_addJob_133 : decode cX6_addJob 133 = .ok (.imul, 1) := by decide +kernel
theorem dX6_addJob_134 : decode cX6_addJob 134 = .ok (.iconst 2, 1) := by decide +kernel
theorem dX6_addJob_135 : decode cX6_addJob 135 = .ok (.iadd, 1) := by decide +kernel
theorem dX6_addJob_136 : decode cX6_addJob 136 = .ok (.iload_n 3, 1) := by decide +kernel
theorem dX6_addJob_137 : decode cX6_addJob 137 = .ok (.iastore, 1) := by decide +kernel
theorem dX6_addJob_138 : decode cX6_addJob 138 = .ok (.aload_n 0, 1) := by decide +kernel
theorem dX6_addJob_139 : decode cX6_addJob 139 = .ok (.getfield 19, 3) := by decide +kernel
theorem dX6_addJob_142 : decode cX6_addJob 142 = .ok (.getfield 70, 3) := by decide +kernel
theorem dX6_addJob_145 : decode cX6_addJob 145 = .ok (.iload 4, 2) := by decide +kernel
theorem dX6_addJob_147 : decode cX6_addJob 147 = .ok (.iload_n 1, 1) := by decide +kernel
theorem dX6_addJob_148 : decode cX6_addJob 148 = .ok (.ifCond .le 7, 3) := by decide +kernel
theorem dX6_addJob_151 : decode cX6_addJob 151 = .ok (.iconst 0, 1) := by decide +kernel
theorem dX6_addJob_152 : decode cX6_addJob 152 = .ok (.goto 12, 3) := by decide +kernel
theorem dX6_addJob_155 : decode cX6_addJob 155 = .ok (.iload_n 2, 1) := by decide +kernel
theorem dX6_addJob_156 : decode cX6_addJob 156 = .ok (.ifCond .le 7, 3) := by decide +kernel
theorem dX6_addJob_159 : decode cX6_addJob 159 = .ok (.iconst 1, 1) := by decide +kernel
theorem dX6_addJob_160 : decode cX6_addJob 160 = .ok (.goto 4, 3) := by decide +kernel
theorem dX6_addJob_163 : decode cX6_addJob 163 = .ok (.iconst 2, 1) := by decide +kernel
theorem dX6_addJob_164 : decode cX6_addJob 164 = .ok (.iastore, 1) := by decide +kernel
theorem dX6_addJob_165 : decode cX6_addJob 165 = .ok (.aload_n 0, 1) := by decide +kernel
theorem dX6_addJob_166 : decode cX6_addJob 166 = .ok (.invokevirtual 73, 3) := by decide +kernel
theorem dX6_addJob_169 : decode cX6_addJob 169 = .ok (.iload 4, 2) := by decide +kernel
theorem dX6_addJob_171 : decode cX6_addJob 171 = .ok (.ireturn, 1) := by decide +kernel
set_option maxRecDepth 20000 in
theorem ggX6_setTime_X6_requireJob : GoodIn wsX6_setTime wsX6_requireJob := goodIn_ca (goodIn_r _ [11, 12, 13, 6, 33, 34, 35, 36, 37, 38, 39, 45, 46] (by decide +kernel) (by decide +kernel)) (goodIn_sub (fun _ h => List.mem_cons_of_mem _ (List.mem_append_right _ h)) (by decide +kernel))
set_option maxRecDepth 20000 in
theorem gX6_setTime_X6_requireJob : GoodIn wsX6_setTime (wsV RX6 76 RX6 yX6_requireJob wsX6_requireJob) := goodIn_app (goodIn_of _ (by decide +kernel)) ggX6_setTime_X6_requireJob
set_option maxRecDepth 20000 in
theorem ggX6_setTime_X6_requireMachine : GoodIn wsX6_setTime wsX6_requireMachine := goodIn_ca (goodIn_r _ [16, 12, 13] (by decide +kernel) (by decide +kernel)) (goodIn_sub (fun _ h => List.mem_cons_of_mem _ (List.mem_append_right _ h)) (by decide +kernel))
set_option maxRecDepth 20000 in
theorem gX6_setTime_X6_requireMachine : GoodIn wsX6_setTime (va_wsS RX6 80 yX6_requireMachine wsX6_requireMachine) := goodIn_app (goodIn_of _ (by decide +kernel)) ggX6_setTime_X6_requireMachine
set_option maxRecDepth 20000 in
theorem ggX6_setTime_X6_isTime : GoodIn wsX6_setTime wsX6_isTime := goodIn_r _ [19] (by decide +kernel) (by decide +kernel)
set_option maxRecDepth 20000 in
theorem gX6_setTime_X6_isTime : GoodIn wsX6_setTime (va_wsS RX6 44 yX6_isTime wsX6_isTime) := goodIn_app (goodIn_of _ (by decide +kernel)) ggX6_setTime_X6_isTime
set_option maxRecDepth 20000 in
theorem ggX6_setTime_X1_timeOn : GoodIn wsX6_setTime wsX1_timeOn := goodIn_r _ [24, 25, 26, 45, 46] (by decide +kernel) (by decide +kernel)
set_option maxRecDepth 20000 in
theorem gX6_setTime_X1_timeOn : GoodIn wsX6_setTime (wsV RX6 87 RX1 yX1_timeOn wsX1_timeOn) := goodIn_app (goodIn_of _ (by decide +kernel)) ggX6_setTime_X1_timeOn
set_option maxRecDepth 20000 in
theorem ggX6_setTime_X6_forgetResults : GoodIn wsX6_setTime wsX6_forgetResults := goodIn_r _ [30, 31, 32, 33, 34, 35, 36, 37, 38, 39] (by decide +kernel) (by decide +kernel)
set_option maxRecDepth 20000 in
theorem gX6_setTime_X6_forgetResults : GoodIn wsX6_setTime (wsV RX6 73 RX6 yX6_forgetResults wsX6_forgetResults) := goodIn_app (goodIn_of _ (by decide +kernel)) ggX6_setTime_X6_forgetResults
theorem dX6_setTime_0 : decode cX6_setTime 0 = .ok (.aload_n 0, 1) := by decide +kernel
theorem dX6_setTime_1 : decode cX6_setTime 1 = .ok (.iload_n 1, 1) := by decide +kernel
theorem dX6_setTime_2 : decode cX6_setTime 2 = .ok (.invokevirtual 76, 3) := by decide +kernel
theorem dX6_setTime_5 : decode cX6_setTime 5 = .ok (.iload_n 2, 1) := by decide +kernel
theorem dX6_setTime_6 : decode cX6_setTime 6 = .ok (.invokestatic 80, 3) := by decide +kernel
theorem dX6_setTime_9 : decode cX6_setTime 9 = .ok (.iload_n 3, 1) := by decide +kernel
theorem dX6_setTime_10 : decode cX6_setTime 10 = .ok (.invokestatic 44, 3) := by decide +kernel
theorem dX6_setTime_13 : decode cX6_setTime 13 = .ok (.ifCond .ne 13, 3) := by decide +kernel
theorem dX6_setTime_16 : decode cX6_setTime 16 = .ok (.new 48, 3) := by decide +kernel
theorem dX6_setTime_19 : decode cX6_setTime 19 = .ok (.dup, 1) := by decide +kernel
theorem dX6_setTime_20 : decode cX6_setTime 20 = .ok (.ldc 83, 2) := by decide +kernel
theorem dX6_setTime_22 : decode cX6_setTime 22 = .ok (.invokespecial 52, 3) := by decide +kernel
theorem dX6_setTime_25 : decode cX6_setTime 25 = .ok (.athrow, 1) := by decide +kernel
theorem dX6_setTime_26 : decode cX6_setTime 26 = .ok (.iload_n 3, 1) := by decide +kernel
theorem dX6_setTime_27 : decode cX6_setTime 27 = .ok (.ifCond .ne 26, 3) := by decide +kernel
theorem dX6_setTime_30 : decode cX6_setTime 30 = .ok (.aload_n 0, 1) := by decide +kernel
theorem dX6_setTime_31 : decode cX6_setTime 31 = .ok (.getfield 19, 3) := by decide +kernel
theorem dX6_setTime_34 : decode cX6_setTime 34 = .ok (.getfield 70, 3) := by decide +kernel
theorem dX6_setTime_37 : decode cX6_setTime 37 = .ok (.iload_n 1, 1) := by decide +kernel
theorem dX6_setTime_38 : decode cX6_setTime 38 = .ok (.iaload, 1) := by decide +kernel
theorem dX6_setTime_39 : decode cX6_setTime 39 = .ok (.iload_n 2, 1) := by decide +kernel
theorem dX6_setTime_40 : decode cX6_setTime 40 = .ok (.if_icmp .ne 13, 3) := by decide +kernel
theorem dX6_setTime_43 : decode cX6_setTime 43 = .ok (.new 61, 3) := by decide +kernel
theorem dX6_setTime_46 : decode cX6_setTime 46 = .ok (.dup, 1) := by decide +kernel
theorem dX6_setTime_47 : decode cX6_setTime 47 = .ok (.ldc 85, 2) := by decide +kernel
theorem dX6_setTime_49 : decode cX6_setTime 49 = .ok (.invokespecial 65, 3) := by decide +kernel
theorem dX6_setTime_52 : decode cX6_setTime 52 = .ok (.athrow, 1) := by decide +kernel
theorem dX6_setTime_53 : decode cX6_setTime 53 = .ok (.aload_n 0, 1) := by decide +kernel
theorem dX6_setTime_54 : decode cX6_setTime 54 = .ok (.getfield 12, 3) := by decide +kernel
theorem dX6_setTime_57 : decode cX6_setTime 57 = .ok (.iload_n 1, 1) := by decide +kernel
theorem dX6_setTime_58 : decode cX6_setTime 58 = .ok (.iload_n 2, 1) := by decide +kernel
theorem dX6_setTime_59 : decode cX6_setTime 59 = .ok (.invokevirtual 87, 3) := by decide +kernel
theorem dX6_setTime_62 : decode cX6_setTime 62 = .ok (.istore 4, 2) := by decide +kernel
theorem dX6_setTime_64 : decode cX6_setTime 64 = .ok (.aload_n 0, 1) := by decide +kernel
theorem dX6_setTime_65 : decode cX6_setTime 65 = .ok (.getfield 12, 3) := by decide +kernel
theorem dX6_setTime_68 : decode cX6_setTime 68 = .ok (.getfield 66, 3) := by decide +kernel
theorem dX6_setTime_71 : decode cX6_setTime 71 = .ok (.iload_n 1, 1) := by decide +kernel
theorem dX6_setTime_72 : decode cX6_setTime 72 = .ok (.iconst 3, 1) := by decide +kernel
theorem dX6_setTime_73 : decode cX6_setTime 73 = .ok (.imul, 1) := by decide +kernel
theorem dX6_setTime_74 : decode cX6_setTime 74 = .ok (.iload_n 2, 1) := by decide +kernel
theorem dX6_setTime_75 : decode cX6_setTime 75 = .ok (.iadd, 1) := by decide +kernel
theorem dX6_setTime_76 : decode cX6_setTime 76 = .ok (.iload_n 3, 1) := by decide +kernel
theorem dX6_setTime_77 : decode cX6_setTime 77 = .ok (.iastore, 1) := by decide +kernel
theorem dX6_setTime_78 : decode cX6_setTime 78 = .ok (.aload_n 0, 1) := by decide +kernel
theorem dX6_setTime_79 : decode cX6_setTime 79 = .ok (.invokevirtual 73, 3) := by decide +kernel
theorem dX6_setTime_82 : decode cX6_setTime 82 = .ok (.iload 4, 2) := by decide +kernel
theorem dX6_setTime_84 : decode cX6_setTime 84 = .ok (.ireturn, 1) := by decide +kernel
set_option maxRecDepth 20000 in
theorem ggX6_removeLast_X6_forgetResults : GoodIn wsX6_removeLast wsX6_forgetResults := goodIn_r _ [6, 7, 8, 9, 10, 11, 12, 13, 14, 15] (by decide +kernel) (by decide +kernel)
set_option maxRecDepth 20000 in
theorem gX6_removeLast_X6_forgetResults : GoodIn wsX6_removeLast (wsV RX6 73 RX6 yX6_forgetResults wsX6_forgetResults) := goodIn_app (goodIn_of _ (by decide +kernel)) ggX6_removeLast_X6_forgetResults
theorem dX6_removeLast_0 : decode cX6_removeLast 0 = .ok (.aload_n 0, 1) := by decide +kernel
theorem dX6_removeLast_1 : decode cX6_removeLast 1 = .ok (.getfield 12, 3) := by decide +kernel
theorem dX6_removeLast_4 : decode cX6_removeLast 4 = .ok (.getfield 57, 3) := by decide +kernel
theorem dX6_removeLast_7 : decode cX6_removeLast 7 = .ok (.ifCond .gt 5, 3) := by decide +kernel
theorem dX6_removeLast_10 : decode cX6_removeLast 10 = .ok (.iconst (-1), 1) := by decide +kernel
theorem dX6_removeLast_11 : decode cX6_removeLast 11 = .ok (.ireturn, 1) := by decide +kernel
theorem dX6_removeLast_12 : decode cX6_removeLast 12 = .ok (.aload_n 0, 1) := by decide +kernel
theorem dX6_removeLast_13 : decode cX6_removeLast 13 = .ok (.getfield 12, 3) := by decide +kernel
theorem dX6_removeLast_16 : decode cX6_removeLast 16 = .ok (.dup, 1) := by decide +kernel
theorem dX6_removeLast_17 : decode cX6_removeLast 17 = .ok (.getfield 57, 3) := by decide +kernel
theorem dX6_removeLast_20 : decode cX6_removeLast 20 = .ok (.iconst 1, 1) := by decide +kernel
theorem dX6_removeLast_21 : decode cX6_removeLast 21 = .ok (.isub, 1) := by decide +kernel
theorem dX6_removeLast_22 : decode cX6_removeLast 22 = .ok (.putfield 57, 3) := by decide +kernel
theorem dX6_removeLast_25 : decode cX6_removeLast 25 = .ok (.aload_n 0, 1) := by decide +kernel
theorem dX6_removeLast_26 : decode cX6_removeLast 26 = .ok (.invokevirtual 73, 3) := by decide +kernel
theorem dX6_removeLast_29 : decode cX6_removeLast 29 = .ok (.aload_n 0, 1) := by decide +kernel
theorem dX6_removeLast_30 : decode cX6_removeLast 30 = .ok (.getfield 12, 3) := by decide +kernel
theorem dX6_removeLast_33 : decode cX6_removeLast 33 = .ok (.getfield 57, 3) := by decide +kernel
theorem dX6_removeLast_36 : decode cX6_removeLast 36 = .ok (.ireturn, 1) := by decide +kernel
theorem dX6_jobs_0 : decode cX6_jobs 0 = .ok (.aload_n 0, 1) := by decide +kernel
theorem dX6_jobs_1 : decode cX6_jobs 1 = .ok (.getfield 12, 3) := by decide +kernel
theorem dX6_jobs_4 : decode cX6_jobs 4 = .ok (.getfield 57, 3) := by decide +kernel
theorem dX6_jobs_7 : decode cX6_jobs 7 = .ok (.ireturn, 1) := by decide +kernel
set_option maxRecDepth 20000 in
theorem ggX6_time_X6_requireJob : GoodIn wsX6_time wsX6_requireJob := goodIn_ca (goodIn_r _ [6, 7, 8, 1, 19, 20, 21, 22, 23, 24, 25, 26, 27] (by decide +kernel) (by decide +kernel)) (goodIn_sub (fun _ h => List.mem_cons_of_mem _ (List.mem_append_right _ h)) (by decide +kernel))
set_option maxRecDepth 20000 in
theorem gX6_time_X6_requireJob : GoodIn wsX6_time (wsV RX6 76 RX6 yX6_requireJob wsX6_requireJob) := goodIn_app (goodIn_of _ (by decide +kernel)) ggX6_time_X6_requireJob
set_option maxRecDepth 20000 in
theorem ggX6_time_X6_requireMachine : GoodIn wsX6_time wsX6_requireMachine := goodIn_ca (goodIn_r _ [11, 7, 8] (by decide +kernel) (by decide +kernel)) (goodIn_sub (fun _ h => List.mem_cons_of_mem _ (List.mem_append_right _ h)) (by decide +kernel))
set_option maxRecDepth 20000 in
theorem gX6_time_X6_requireMachine : GoodIn wsX6_time (va_wsS RX6 80 yX6_requireMachine wsX6_requireMachine) := goodIn_app (goodIn_of _ (by decide +kernel)) ggX6_time_X6_requireMachine
set_option maxRecDepth 20000 in
theorem ggX6_time_X1_timeOn : GoodIn wsX6_time wsX1_timeOn := goodIn_r _ [16, 17, 18, 26, 27] (by decide +kernel) (by decide +kernel)
set_option maxRecDepth 20000 in
theorem gX6_time_X1_timeOn : GoodIn wsX6_time (wsV RX6 87 RX1 yX1_timeOn wsX1_timeOn) := goodIn_app (goodIn_of _ (by decide +kernel)) ggX6_time_X1_timeOn
theorem dX6_time_0 : decode cX6_time 0 = .ok (.aload_n 0, 1) := by decide +kernel
theorem dX6_time_1 : decode cX6_time 1 = .ok (.iload_n 1, 1) := by decide +kernel
theorem dX6_time_2 : decode cX6_time 2 = .ok (.invokevirtual 76, 3) := by decide +kernel
theorem dX6_time_5 : decode cX6_time 5 = .ok (.iload_n 2, 1) := by decide +kernel
theorem dX6_time_6 : decode cX6_time 6 = .ok (.invokestatic 80, 3) := by decide +kernel
theorem dX6_time_9 : decode cX6_time 9 = .ok (.aload_n 0, 1) := by decide +kernel
theorem dX6_time_10 : decode cX6_time 10 = .ok (.getfield 12, 3) := by decide +kernel
theorem dX6_time_13 : decode cX6_time 13 = .ok (.iload_n 1, 1) := by decide +kernel
theorem dX6_time_14 : decode cX6_time 14 = .ok (.iload_n 2, 1) := by decide +kernel
theorem dX6_time_15 : decode cX6_time 15 = .ok (.invokevirtual 87, 3) := by decide +kernel
theorem dX6_time_18 : decode cX6_time 18 = .ok (.ireturn, 1) := by decide +kernel
set_option maxRecDepth 20000 in
theorem ggX6_shortest_X6_refreshSearch : GoodIn wsX6_shortest wsX6_refreshSearch := goodIn_r _ [6, 7, 1, 8, 9, 10, 11, 12, 13, 14, 15, 16, 17, 18, 19, 20, 21, 22, 23, 24, 25, 26, 27, 28, 29, 30, 31, 32, 33, 34, 35, 36, 37, 38, 39, 40, 41, 42, 43, 44, 45, 46, 47, 48, 49, 50, 51, 52, 53, 54, 55, 56] (by decide +kernel) (by decide +kernel)
set_option maxRecDepth 20000 in
theorem gX6_shortest_X6_refreshSearch : GoodIn wsX6_shortest (wsV RX6 91 RX6 yX6_refreshSearch wsX6_refreshSearch) := goodIn_app (goodIn_of _ (by decide +kernel)) ggX6_shortest_X6_refreshSearch
theorem dX6_shortest_0 : decode cX6_shortest 0 = .ok (.aload_n 0, 1) := by decide +kernel
theorem dX6_shortest_1 : decode cX6_shortest 1 = .ok (.invokevirtual 91, 3) := by decide +kernel
theorem dX6_shortest_4 : decode cX6_shortest 4 = .ok (.aload_n 0, 1) := by decide +kernel
theorem dX6_shortest_5 : decode cX6_shortest 5 = .ok (.getfield 26, 3) := by decide +kernel
theorem dX6_shortest_8 : decode cX6_shortest 8 = .ok (.getfield 94, 3) := by decide +kernel
theorem dX6_shortest_11 : decode cX6_shortest 11 = .ok (.ireturn, 1) := by decide +kernel
set_option maxRecDepth 20000 in
theorem ggX6_shortestByTrying_X3_tryAll : GoodIn wsX6_shortestByTrying wsX3_tryAll := goodIn_r _ [7, 8, 9, 10, 6, 11, 12, 13, 14, 15, 16, 17, 18, 19, 20, 21, 22, 23, 24, 25, 26, 27, 28, 29, 30, 31, 32, 33, 41, 42, 43, 44, 45, 46] (by decide +kernel) (by decide +kernel)
set_option maxRecDepth 20000 in
theorem gX6_shortestByTrying_X3_tryAll : GoodIn wsX6_shortestByTrying (wsV RX6 97 RX3 yX3_tryAll wsX3_tryAll) := goodIn_app (goodIn_of _ (by decide +kernel)) ggX6_shortestByTrying_X3_tryAll
theorem dX6_shortestByTrying_0 : decode cX6_shortestByTrying 0 = .ok (.aload_n 0, 1) := by decide +kernel
theorem dX6_shortestByTrying_1 : decode cX6_shortestByTrying 1 = .ok (.getfield 26, 3) := by decide +kernel
theorem dX6_shortestByTrying_4 : decode cX6_shortestByTrying 4 = .ok (.aload_n 0, 1) := by decide +kernel
theorem dX6_shortestByTrying_5 : decode cX6_shortestByTrying 5 = .ok (.getfield 12, 3) := by decide +kernel
theorem dX6_shortestByTrying_8 : decode cX6_shortestByTrying 8 = .ok (.invokevirtual 97, 3) := by decide +kernel
theorem dX6_shortestByTrying_11 : decode cX6_shortestByTrying 11 = .ok (.ireturn, 1) := by decide +kernel
set_option maxRecDepth 20000 in
theorem ggX6_shortestMachine_X6_requireJob : GoodIn wsX6_shortestMachine wsX6_requireJob := goodIn_ca (goodIn_r _ [6, 7, 8, 9, 50, 51, 52, 53, 54, 55, 56, 61, 62] (by decide +kernel) (by decide +kernel)) (goodIn_sub (fun _ h => List.mem_cons_of_mem _ (List.mem_append_right _ h)) (by decide +kernel))
set_option maxRecDepth 20000 in
theorem gX6_shortestMachine_X6_requireJob : GoodIn wsX6_shortestMachine (wsV RX6 76 RX6 yX6_requireJob wsX6_requireJob) := goodIn_app (goodIn_of _ (by decide +kernel)) ggX6_shortestMachine_X6_requireJob
set_option maxRecDepth 20000 in
theorem ggX6_shortestMachine_X6_refreshSearch : GoodIn wsX6_shortestMachine wsX6_refreshSearch := goodIn_r _ [13, 14, 1, 9, 15, 16, 17, 18, 19, 20, 21, 22, 23, 24, 25, 26, 27, 28, 29, 30, 31, 32, 33, 34, 35, 36, 37, 38, 39, 40, 41, 42, 43, 44, 45, 46, 47, 48, 49, 50, 51, 52, 53, 54, 55, 56, 57, 58, 59, 60, 61, 62] (by decide +kernel) (by decide +kernel)
set_option maxRecDepth 20000 in
theorem gX6_shortestMachine_X6_refreshSearch : GoodIn wsX6_shortestMachine (wsV RX6 91 RX6 yX6_refreshSearch wsX6_refreshSearch) := goodIn_app (goodIn_of _ (by decide +kernel)) ggX6_shortestMachine_X6_refreshSearch
theorem dX6_shortestMachine_0 : decode cX6_shortestMachine 0 = .ok (.aload_n 0, 1) := by decide +kernel
theorem dX6_shortestMachine_1 : decode cX6_shortestMachine 1 = .ok (.iload_n 1, 1) := by decide +kernel
theorem dX6_shortestMachine_2 : decode cX6_shortestMachine 2 = .ok (.invokevirtual 76, 3) := by decide +kernel
theorem dX6_shortestMachine_5 : decode cX6_shortestMachine 5 = .ok (.aload_n 0, 1) := by decide +kernel
theorem dX6_shortestMachine_6 : decode cX6_shortestMachine 6 = .ok (.invokevirtual 91, 3) := by decide +kernel
theorem dX6_shortestMachine_9 : decode cX6_shortestMachine 9 = .ok (.aload_n 0, 1) := by decide +kernel
theorem dX6_shortestMachine_10 : decode cX6_shortestMachine 10 = .ok (.getfield 26, 3) := by decide +kernel
theorem dX6_shortestMachine_13 : decode cX6_shortestMachine 13 = .ok (.getfield 101, 3) := by decide +kernel
theorem dX6_shortestMachine_16 : decode cX6_shortestMachine 16 = .ok (.iload_n 1, 1) := by decide +kernel
theorem dX6_shortestMachine_17 : decode cX6_shortestMachine 17 = .ok (.iaload, 1) := by decide +kernel
theorem dX6_shortestMachine_18 : decode cX6_shortestMachine 18 = .ok (.ireturn, 1) := by decide +kernel
set_option maxRecDepth 20000 in
theorem ggX6_bound_X6_refreshDivision : GoodIn wsX6_bound wsX6_refreshDivision := goodIn_r _ [6, 7, 1, 8, 9, 10, 11, 12, 13, 14, 15, 16, 17, 18, 19, 20, 21, 22, 23, 24, 25, 26, 27, 28, 29, 30, 31, 32, 33, 34, 35, 36, 37, 38, 39, 40, 41, 42, 43, 44, 45, 46, 47, 48, 49, 50, 51, 52, 53, 54, 55, 56, 57, 58, 59, 60, 61, 62, 63, 64, 65, 66, 67, 68, 69, 70, 71, 72, 73, 74, 75, 76, 77, 78, 79, 80, 81, 82, 83, 84, 85, 86, 87, 88, 89, 90, 91, 92, 93, 94, 95, 96, 97, 98, 99, 100, 101, 102, 103, 104, 105, 106, 107, 108, 109, 110, 111, 112, 113, 114, 115, 116, 117, 118, 119, 120, 121, 122, 123, 124, 125, 126, 127, 128, 129, 130, 131, 132, 133, 134, 135, 136, 137, 138, 139, 140, 141, 142, 143, 144, 145, 146] (by decide +kernel) (by decide +kernel)
set_option maxRecDepth 20000 in
theorem gX6_bound_X6_refreshDivision : GoodIn wsX6_bound (wsV RX6 104 RX6 yX6_refreshDivision wsX6_refreshDivision) := goodIn_app (goodIn_of _ (by decide +kernel)) ggX6_bound_X6_refreshDivision
theorem dX6_bound_0 : decode cX6_bound 0 = .ok (.aload_n 0, 1) := by decide +kernel
theorem dX6_bound_1 : decode cX6_bound 1 = .ok (.invokevirtual 104, 3) := by decide +kernel
theorem dX6_bound_4 : decode cX6_bound 4 = .ok (.aload_n 0, 1) := by decide +kernel
theorem dX6_bound_5 : decode cX6_bound 5 = .ok (.getfield 33, 3) := by decide +kernel
theorem dX6_bound_8 : decode cX6_bound 8 = .ok (.getfield 107, 3) := by decide +kernel
theorem dX6_bound_11 : decode cX6_bound 11 = .ok (.ireturn, 1) := by decide +kernel
set_option maxRecDepth 20000 in
theorem ggX6_numerator_X6_requireJob : GoodIn wsX6_numerator wsX6_requireJob := goodIn_ca (goodIn_r _ [6, 7, 8, 9, 135, 136, 137, 138, 139, 140, 141, 148, 149] (by decide +kernel) (by decide +kernel)) (goodIn_sub (fun _ h => List.mem_cons_of_mem _ (List.mem_append_right _ h)) (by decide +kernel))
set_option maxRecDepth 20000 in
theorem gX6_numerator_X6_requireJob : GoodIn wsX6_numerator (wsV RX6 76 RX6 yX6_requireJob wsX6_requireJob) := goodIn_app (goodIn_of _ (by decide +kernel)) ggX6_numerator_X6_requireJob
set_option maxRecDepth 20000 in
theorem ggX6_numerator_X6_requireMachine : GoodIn wsX6_numerator wsX6_requireMachine := goodIn_ca (goodIn_r _ [12, 7, 8] (by decide +kernel) (by decide +kernel)) (goodIn_sub (fun _ h => List.mem_cons_of_mem _ (List.mem_append_right _ h)) (by decide +kernel))
set_option maxRecDepth 20000 in
theorem gX6_numerator_X6_requireMachine : GoodIn wsX6_numerator (va_wsS RX6 80 yX6_requireMachine wsX6_requireMachine) := goodIn_app (goodIn_of _ (by decide +kernel)) ggX6_numerator_X6_requireMachine
set_option maxRecDepth 20000 in
theorem ggX6_numerator_X6_refreshDivision : GoodIn wsX6_numerator wsX6_refreshDivision := goodIn_r _ [16, 17, 1, 9, 18, 19, 20, 21, 22, 23, 24, 25, 26, 27, 28, 29, 30, 31, 32, 33, 34, 35, 36, 37, 38, 39, 40, 41, 42, 43, 44, 45, 46, 47, 48, 49, 50, 51, 52, 53, 54, 55, 56, 57, 58, 59, 60, 61, 62, 63, 64, 65, 66, 67, 68, 69, 70, 71, 72, 73, 74, 75, 76, 77, 78, 79, 80, 81, 82, 83, 84, 85, 86, 87, 88, 89, 90, 91, 92, 93, 94, 95, 96, 97, 98, 99, 100, 101, 102, 103, 104, 105, 106, 107, 108, 109, 110, 111, 112, 113, 114, 115, 116, 117, 118, 119, 120, 121, 122, 123, 124, 125, 126, 127, 128, 129, 130, 131, 132, 133, 134, 135, 136, 137, 138, 139, 140, 141, 142, 143, 144, 145, 146, 147, 150, 151, 152, 153, 154, 148, 149, 155] (by decide +kernel) (by decide +kernel)
set_option maxRecDepth 20000 in
theorem gX6_numerator_X6_refreshDivision : GoodIn wsX6_numerator (wsV RX6 104 RX6 yX6_refreshDivision wsX6_refreshDivision) := goodIn_app (goodIn_of _ (by decide +kernel)) ggX6_numerator_X6_refreshDivision
theorem dX6_numerator_0 : decode cX6_numerator 0 = .ok (.aload_n 0, 1) := by decide +kernel
theorem dX6_numerator_1 : decode cX6_numerator 1 = .ok (.iload_n 1, 1) := by decide +kernel
theorem dX6_numerator_2 : decode cX6_numerator 2 = .ok (.invokevirtual 76, 3) := by decide +kernel
theorem dX6_numerator_5 : decode cX6_numerator 5 = .ok (.iload_n 2, 1) := by decide +kernel
theorem dX6_numerator_6 : decode cX6_numerator 6 = .ok (.invokestatic 80, 3) := by decide +kernel
theorem dX6_numerator_9 : decode cX6_numerator 9 = .ok (.aload_n 0, 1) := by decide +kernel
theorem dX6_numerator_10 : decode cX6_numerator 10 = .ok (.invokevirtual 104, 3) := by decide +kernel
theorem dX6_numerator_13 : decode cX6_numerator 13 = .ok (.aload_n 0, 1) := by decide +kernel
theorem dX6_numerator_14 : decode cX6_numerator 14 = .ok (.getfield 33, 3) := by decide +kernel
theorem dX6_numerator_17 : decode cX6_numerator 17 = .ok (.getfield 110, 3) := by decide +kernel
theorem dX6_numerator_20 : decode cX6_numerator 20 = .ok (.iload_n 1, 1) := by decide +kernel
theorem dX6_numerator_21 : decode cX6_numerator 21 = .ok (.iconst 3, 1) := by decide +kernel
theorem dX6_numerator_22 : decode cX6_numerator 22 = .ok (.imul, 1) := by decide +kernel
theorem dX6_numerator_23 : decode cX6_numerator 23 = .ok (.iload_n 2, 1) := by decide +kernel
theorem dX6_numerator_24 : decode cX6_numerator 24 = .ok (.iadd, 1) := by decide +kernel
theorem dX6_numerator_25 : decode cX6_numerator 25 = .ok (.iaload, 1) := by decide +kernel
theorem dX6_numerator_26 : decode cX6_numerator 26 = .ok (.ireturn, 1) := by decide +kernel
set_option maxRecDepth 20000 in
theorem ggX6_denominator_X6_requireJob : GoodIn wsX6_denominator wsX6_requireJob := goodIn_ca (goodIn_r _ [6, 7, 8, 9, 135, 136, 137, 138, 139, 140, 141, 148, 149] (by decide +kernel) (by decide +kernel)) (goodIn_sub (fun _ h => List.mem_cons_of_mem _ (List.mem_append_right _ h)) (by decide +kernel))
set_option maxRecDepth 20000 in
theorem gX6_denominator_X6_requireJob : GoodIn wsX6_denominator (wsV RX6 76 RX6 yX6_requireJob wsX6_requireJob) := goodIn_app (goodIn_of _ (by decide +kernel)) ggX6_denominator_X6_requireJob
set_option maxRecDepth 20000 in
theorem ggX6_denominator_X6_requireMachine : GoodIn wsX6_denominator wsX6_requireMachine := goodIn_ca (goodIn_r _ [12, 7, 8] (by decide +kernel) (by decide +kernel)) (goodIn_sub (fun _ h => List.mem_cons_of_mem _ (List.mem_append_right _ h)) (by decide +kernel))
set_option maxRecDepth 20000 in
theorem gX6_denominator_X6_requireMachine : GoodIn wsX6_denominator (va_wsS RX6 80 yX6_requireMachine wsX6_requireMachine) := goodIn_app (goodIn_of _ (by decide +kernel)) ggX6_denominator_X6_requireMachine
set_option maxRecDepth 20000 in
theorem ggX6_denominator_X6_refreshDivision : GoodIn wsX6_denominator wsX6_refreshDivision := goodIn_r _ [16, 17, 1, 9, 18, 19, 20, 21, 22, 23, 24, 25, 26, 27, 28, 29, 30, 31, 32, 33, 34, 35, 36, 37, 38, 39, 40, 41, 42, 43, 44, 45, 46, 47, 48, 49, 50, 51, 52, 53, 54, 55, 56, 57, 58, 59, 60, 61, 62, 63, 64, 65, 66, 67, 68, 69, 70, 71, 72, 73, 74, 75, 76, 77, 78, 79, 80, 81, 82, 83, 84, 85, 86, 87, 88, 89, 90, 91, 92, 93, 94, 95, 96, 97, 98, 99, 100, 101, 102, 103, 104, 105, 106, 107, 108, 109, 110, 111, 112, 113, 114, 115, 116, 117, 118, 119, 120, 121, 122, 123, 124, 125, 126, 127, 128, 129, 130, 131, 132, 133, 134, 135, 136, 137, 138, 139, 140, 141, 142, 143, 144, 145, 146, 147, 150, 151, 152, 153, 154, 148, 149, 155] (by decide +kernel) (by decide +kernel)
set_option maxRecDepth 20000 in
theorem gX6_denominator_X6_refreshDivision : GoodIn wsX6_denominator (wsV RX6 104 RX6 yX6_refreshDivision wsX6_refreshDivision) := goodIn_app (goodIn_of _ (by decide +kernel)) ggX6_denominator_X6_refreshDivision
theorem dX6_denominator_0 : decode cX6_denominator 0 = .ok (.aload_n 0, 1) := by decide +kernel
theorem dX6_denominator_1 : decode cX6_denominator 1 = .ok (.iload_n 1, 1) := by decide +kernel
theorem dX6_denominator_2 : decode cX6_denominator 2 = .ok (.invokevirtual 76, 3) := by decide +kernel
theorem dX6_denominator_5 : decode cX6_denominator 5 = .ok (.iload_n 2, 1) := by decide +kernel
theorem dX6_denominator_6 : decode cX6_denominator 6 = .ok (.invokestatic 80, 3) := by decide +kernel
theorem dX6_denominator_9 : decode cX6_denominator 9 = .ok (.aload_n 0, 1) := by decide +kernel
theorem dX6_denominator_10 : decode cX6_denominator 10 = .ok (.invokevirtual 104, 3) := by decide +kernel
theorem dX6_denominator_13 : decode cX6_denominator 13 = .ok (.aload_n 0, 1) := by decide +kernel
theorem dX6_denominator_14 : decode cX6_denominator 14 = .ok (.getfield 33, 3) := by decide +kernel
theorem dX6_denominator_17 : decode cX6_denominator 17 = .ok (.getfield 113, 3) := by decide +kernel
theorem dX6_denominator_20 : decode cX6_denominator 20 = .ok (.iload_n 1, 1) := by decide +kernel
theorem dX6_denominator_21 : decode cX6_denominator 21 = .ok (.iconst 3, 1) := by decide +kernel
theorem dX6_denominator_22 : decode cX6_denominator 22 = .ok (.imul, 1) := by decide +kernel
theorem dX6_denominator_23 : decode cX6_denominator 23 = .ok (.iload_n 2, 1) := by decide +kernel
theorem dX6_denominator_24 : decode cX6_denominator 24 = .ok (.iadd, 1) := by decide +kernel
theorem dX6_denominator_25 : decode cX6_denominator 25 = .ok (.iaload, 1) := by decide +kernel
theorem dX6_denominator_26 : decode cX6_denominator 26 = .ok (.ireturn, 1) := by decide +kernel
set_option maxRecDepth 20000 in
theorem ggX6_isDivided_X6_requireJob : GoodIn wsX6_isDivided wsX6_requireJob := goodIn_ca (goodIn_r _ [6, 7, 8, 9, 133, 134, 135, 136, 137, 138, 139, 140, 141] (by decide +kernel) (by decide +kernel)) (goodIn_sub (fun _ h => List.mem_cons_of_mem _ (List.mem_append_right _ h)) (by decide +kernel))
set_option maxRecDepth 20000 in
theorem gX6_isDivided_X6_requireJob : GoodIn wsX6_isDivided (wsV RX6 76 RX6 yX6_requireJob wsX6_requireJob) := goodIn_app (goodIn_of _ (by decide +kernel)) ggX6_isDivided_X6_requireJob
set_option maxRecDepth 20000 in
theorem ggX6_isDivided_X6_refreshDivision : GoodIn wsX6_isDivided wsX6_refreshDivision := goodIn_r _ [13, 14, 1, 9, 15, 16, 17, 18, 19, 20, 21, 22, 23, 24, 25, 26, 27, 28, 29, 30, 31, 32, 33, 34, 35, 36, 37, 38, 39, 40, 41, 42, 43, 44, 45, 46, 47, 48, 49, 50, 51, 52, 53, 54, 55, 56, 57, 58, 59, 60, 61, 62, 63, 64, 65, 66, 67, 68, 69, 70, 71, 72, 73, 74, 75, 76, 77, 78, 79, 80, 81, 82, 83, 84, 85, 86, 87, 88, 89, 90, 91, 92, 93, 94, 95, 96, 97, 98, 99, 100, 101, 102, 103, 104, 105, 106, 107, 108, 109, 110, 111, 112, 113, 114, 115, 116, 117, 118, 119, 120, 121, 122, 123, 124, 125, 126, 127, 128, 129, 130, 131, 133, 134, 135, 136, 137, 138, 139, 142, 143, 144, 145, 146, 147, 148, 149, 150, 151, 152, 140, 141, 153] (by decide +kernel) (by decide +kernel)
set_option maxRecDepth 20000 in
theorem gX6_isDivided_X6_refreshDivision : GoodIn wsX6_isDivided (wsV RX6 104 RX6 yX6_refreshDivision wsX6_refreshDivision) := goodIn_app (goodIn_of _ (by decide +kernel)) ggX6_isDivided_X6_refreshDivision
set_option maxRecDepth 20000 in
theorem ggX6_isDivided_X0_wholeMachine : GoodIn wsX6_isDivided wsX0_wholeMachine := goodIn_r _ [126, 105, 127, 128, 129, 19, 130, 104, 142, 143, 144, 145, 146, 147] (by decide +kernel) (by decide +kernel)
set_option maxRecDepth 20000 in
theorem gX6_isDivided_X0_wholeMachine : GoodIn wsX6_isDivided (wsV RX6 116 RX0 yX0_wholeMachine wsX0_wholeMachine) := goodIn_app (goodIn_of _ (by decide +kernel)) ggX6_isDivided_X0_wholeMachine
theorem dX6_isDivided_0 : decode cX6_isDivided 0 = .ok (.aload_n 0, 1) := by decide +kernel
theorem dX6_isDivided_1 : decode cX6_isDivided 1 = .ok (.iload_n 1, 1) := by decide +kernel
theorem dX6_isDivided_2 : decode cX6_isDivided 2 = .ok (.invokevirtual 76, 3) := by decide +kernel
theorem dX6_isDivided_5 : decode cX6_isDivided 5 = .ok (.aload_n 0, 1) := by decide +kernel
theorem dX6_isDivided_6 : decode cX6_isDivided 6 = .ok (.invokevirtual 104, 3) := by decide +kernel
theorem dX6_isDivided_9 : decode cX6_isDivided 9 = .ok (.aload_n 0, 1) := by decide +kernel
theorem dX6_isDivided_10 : decode cX6_isDivided 10 = .ok (.getfield 33, 3) := by decide +kernel
theorem dX6_isDivided_13 : decode cX6_isDivided 13 = .ok (.iload_n 1, 1) := by decide +kernel
theorem dX6_isDivided_14 : decode cX6_isDivided 14 = .ok (.invokevirtual 116, 3) := by decide +kernel
theorem dX6_isDivided_17 : decode cX6_isDivided 17 = .ok (.iconst (-1), 1) := by decide +kernel
theorem dX6_isDivided_18 : decode cX6_isDivided 18 = .ok (.if_icmp .ne 7, 3) := by decide +kernel
theorem dX6_isDivided_21 : decode cX6_isDivided 21 = .ok (.iconst 1, 1) := by decide +kernel
theorem dX6_isDivided_22 : decode cX6_isDivided 22 = .ok (.goto 4, 3) := by decide +kernel
theorem dX6_isDivided_25 : decode cX6_isDivided 25 = .ok (.iconst 0, 1) := by decide +kernel
theorem dX6_isDivided_26 : decode cX6_isDivided 26 = .ok (.ireturn, 1) := by decide +kernel
set_option maxRecDepth 20000 in
theorem ggX6_leastNumerator_X6_refreshDivision : GoodIn wsX6_leastNumerator wsX6_refreshDivision := goodIn_r _ [6, 7, 1, 8, 9, 10, 11, 12, 13, 14, 15, 16, 17, 18, 19, 20, 21, 22, 23, 24, 25, 26, 27, 28, 29, 30, 31, 32, 33, 34, 35, 36, 37, 38, 39, 40, 41, 42, 43, 44, 45, 46, 47, 48, 49, 50, 51, 52, 53, 54, 55, 56, 57, 58, 59, 60, 61, 62, 63, 64, 65, 66, 67, 68, 69, 70, 71, 72, 73, 74, 75, 76, 77, 78, 79, 80, 81, 82, 83, 84, 85, 86, 87, 88, 89, 90, 91, 92, 93, 94, 95, 96, 97, 98, 99, 100, 101, 102, 103, 104, 105, 106, 107, 108, 109, 110, 111, 112, 113, 114, 115, 116, 117, 118, 119, 120, 121, 122, 123, 124, 125, 126, 127, 128, 129, 130, 131, 132, 133, 134, 135, 136, 137, 138, 139, 140, 141, 142, 143, 144, 145, 146] (by decide +kernel) (by decide +kernel)
set_option maxRecDepth 20000 in
theorem gX6_leastNumerator_X6_refreshDivision : GoodIn wsX6_leastNumerator (wsV RX6 104 RX6 yX6_refreshDivision wsX6_refreshDivision) := goodIn_app (goodIn_of _ (by decide +kernel)) ggX6_leastNumerator_X6_refreshDivision

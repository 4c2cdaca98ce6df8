theorem dX7_fits_47 : decode cX7_fits 47 = .ok (.ireturn, 1) := by decide +kernel
set_option maxRecDepth 20000 in
theorem ggX7_boundOf_X7_fits : GoodIn wsX7_boundOf wsX7_fits := goodIn_r _ [6, 7, 8, 9, 10, 11, 5, 12, 13, 1, 14, 15, 16, 17, 18, 19, 20, 21, 22, 23, 24, 25, 26, 27, 28, 29, 30, 31, 32, 33, 34, 35, 36, 37, 38, 39, 40, 41, 42, 43, 44, 45, 46, 47, 48, 49, 50, 51, 52, 53, 54, 55] (by decide +kernel) (by decide +kernel)
set_option maxRecDepth 20000 in
theorem gX7_boundOf_X7_fits : GoodIn wsX7_boundOf (wsV RX7 111 RX7 yX7_fits wsX7_fits) := goodIn_app (goodIn_of _ (by decide +kernel)) ggX7_boundOf_X7_fits
theorem dX7_boundOf_0 : decode cX7_boundOf 0 = .ok (.iconst 0, 1) := by decide +kernel
theorem dX7_boundOf_1 : decode cX7_boundOf 1 = .ok (.istore_n 1, 1) := by decide +kernel
theorem dX7_boundOf_2 : decode cX7_boundOf 2 = .ok (.aload_n 0, 1) := by decide +kernel
theorem dX7_boundOf_3 : decode cX7_boundOf 3 = .ok (.getfield 49, 3) := by decide +kernel
theorem dX7_boundOf_6 : decode cX7_boundOf 6 = .ok (.ifCond .le 17, 3) := by decide +kernel
theorem dX7_boundOf_9 : decode cX7_boundOf 9 = .ok (.aload_n 0, 1) := by decide +kernel
theorem dX7_boundOf_10 : decode cX7_boundOf 10 = .ok (.iload_n 1, 1) := by decide +kernel
theorem dX7_boundOf_11 : decode cX7_boundOf 11 = .ok (.invokevirtual 111, 3) := by decide +kernel
theorem dX7_boundOf_14 : decode cX7_boundOf 14 = .ok (.ifCond .ne 9, 3) := by decide +kernel
theorem dX7_boundOf_17 : decode cX7_boundOf 17 = .ok (.iinc 1 1, 3) := by decide +kernel
theorem dX7_boundOf_20 : decode cX7_boundOf 20 = .ok (.goto (-18), 3) := by decide +kernel
theorem dX7_boundOf_23 : decode cX7_boundOf 23 = .ok (.iload_n 1, 1) := by decide +kernel
theorem dX7_boundOf_24 : decode cX7_boundOf 24 = .ok (.ireturn, 1) := by decide +kernel
set_option maxRecDepth 20000 in
theorem ggX7_raises_X7_rowOf : GoodIn wsX7_raises wsX7_rowOf := goodIn_r _ [7, 8, 9, 10, 11, 6, 12, 13, 23, 24, 25, 26, 27, 28, 29, 30, 31, 32, 33, 34, 35, 36] (by decide +kernel) (by decide +kernel)
set_option maxRecDepth 20000 in
theorem gX7_raises_X7_rowOf : GoodIn wsX7_raises (wsV RX7 96 RX7 yX7_rowOf wsX7_rowOf) := goodIn_app (goodIn_of _ (by decide +kernel)) ggX7_raises_X7_rowOf
set_option maxRecDepth 20000 in
theorem ggX7_raises_X7_leaving : GoodIn wsX7_raises wsX7_leaving := goodIn_r _ [17, 2, 8, 9, 10, 11, 6, 12, 13, 23, 24, 25, 26, 27, 28, 29, 30, 31, 32, 33, 34, 35, 36] (by decide +kernel) (by decide +kernel)
set_option maxRecDepth 20000 in
theorem gX7_raises_X7_leaving : GoodIn wsX7_raises (wsV RX7 99 RX7 yX7_leaving wsX7_leaving) := goodIn_app (goodIn_of _ (by decide +kernel)) ggX7_raises_X7_leaving
set_option maxRecDepth 20000 in
theorem ggX7_raises_X7_pivots : GoodIn wsX7_raises wsX7_pivots := goodIn_r _ [21, 2, 22, 8, 9, 10, 11, 6, 12, 13, 23, 24, 25, 26, 27, 28, 29, 30, 31, 32, 33, 34, 35, 36] (by decide +kernel) (by decide +kernel)
set_option maxRecDepth 20000 in
theorem gX7_raises_X7_pivots : GoodIn wsX7_raises (wsV RX7 92 RX7 yX7_pivots wsX7_pivots) := goodIn_app (goodIn_of _ (by decide +kernel)) ggX7_raises_X7_pivots
theorem dX7_raises_0 : decode cX7_raises 0 = .ok (.aload_n 0, 1) := by decide +kernel
theorem dX7_raises_1 : decode cX7_raises 1 = .ok (.iload_n 1, 1) := by decide +kernel
theorem dX7_raises_2 : decode cX7_raises 2 = .ok (.invokevirtual 96, 3) := by decide +kernel
theorem dX7_raises_5 : decode cX7_raises 5 = .ok (.ifCond .ge 13, 3) := by decide +kernel
theorem dX7_raises_8 : decode cX7_raises 8 = .ok (.aload_n 0, 1) := by decide +kernel
theorem dX7_raises_9 : decode cX7_raises 9 = .ok (.aload_n 0, 1) := by decide +kernel
theorem dX7_raises_10 : decode cX7_raises 10 = .ok (.iload_n 1, 1) := by decide +kernel
theorem dX7_raises_11 : decode cX7_raises 11 = .ok (.invokevirtual 99, 3) := by decide +kernel
theorem dX7_raises_14 : decode cX7_raises 14 = .ok (.iload_n 1, 1) := by decide +kernel
theorem dX7_raises_15 : decode cX7_raises 15 = .ok (.invokevirtual 92, 3) := by decide +kernel
theorem dX7_raises_18 : decode cX7_raises 18 = .ok (.aload_n 0, 1) := by decide +kernel
theorem dX7_raises_19 : decode cX7_raises 19 = .ok (.iload_n 1, 1) := by decide +kernel
theorem dX7_raises_20 : decode cX7_raises 20 = .ok (.invokevirtual 96, 3) := by decide +kernel
theorem dX7_raises_23 : decode cX7_raises 23 = .ok (.istore_n 2, 1) := by decide +kernel
theorem dX7_raises_24 : decode cX7_raises 24 = .ok (.iconst 0, 1) := by decide +kernel
theorem dX7_raises_25 : decode cX7_raises 25 = .ok (.istore_n 3, 1) := by decide +kernel
theorem dX7_raises_26 : decode cX7_raises 26 = .ok (.iload_n 3, 1) := by decide +kernel
theorem dX7_raises_27 : decode cX7_raises 27 = .ok (.bipush 26, 2) := by decide +kernel
theorem dX7_raises_29 : decode cX7_raises 29 = .ok (.if_icmp .ge 63, 3) := by decide +kernel
theorem dX7_raises_32 : decode cX7_raises 32 = .ok (.aload_n 0, 1) := by decide +kernel
theorem dX7_raises_33 : decode cX7_raises 33 = .ok (.getfield 23, 3) := by decide +kernel
theorem dX7_raises_36 : decode cX7_raises 36 = .ok (.iload_n 3, 1) := by decide +kernel
theorem dX7_raises_37 : decode cX7_raises 37 = .ok (.baload, 1) := by decide +kernel
theorem dX7_raises_38 : decode cX7_raises 38 = .ok (.ifCond .ne 48, 3) := by decide +kernel
theorem dX7_raises_41 : decode cX7_raises 41 = .ok (.aload_n 0, 1) := by decide +kernel
theorem dX7_raises_42 : decode cX7_raises 42 = .ok (.iload_n 3, 1) := by decide +kernel
theorem dX7_raises_43 : decode cX7_raises 43 = .ok (.invokevirtual 96, 3) := by decide +kernel
theorem dX7_raises_46 : decode cX7_raises 46 = .ok (.ifCond .ge 40, 3) := by decide +kernel
theorem dX7_raises_49 : decode cX7_raises 49 = .ok (.aload_n 0, 1) := by decide +kernel
theorem dX7_raises_50 : decode cX7_raises 50 = .ok (.getfield 16, 3) := by decide +kernel
theorem dX7_raises_53 : decode cX7_raises 53 = .ok (.bipush 27, 2) := by decide +kernel
theorem dX7_raises_55 : decode cX7_raises 55 = .ok (.iload_n 2, 1) := by decide +kernel
theorem dX7_raises_56 : decode cX7_raises 56 = .ok (.imul, 1) := by decide +kernel
theorem dX7_raises_57 : decode cX7_raises 57 = .ok (.iload_n 3, 1) := by decide +kernel
theorem dX7_raises_58 : decode cX7_raises 58 = .ok (.iadd, 1) := by decide +kernel
theorem dX7_raises_59 : decode cX7_raises 59 = .ok (.laload, 1) := by decide +kernel
theorem dX7_raises_60 : decode cX7_raises 60 = .ok (.lconst 0, 1) := by decide +kernel
theorem dX7_raises_61 : decode cX7_raises 61 = .ok (.lcmp, 1) := by decide +kernel
theorem dX7_raises_62 : decode cX7_raises 62 = .ok (.ifCond .ge 24, 3) := by decide +kernel
theorem dX7_raises_65 : decode cX7_raises 65 = .ok (.aload_n 0, 1) := by decide +kernel
theorem dX7_raises_66 : decode cX7_raises 66 = .ok (.aload_n 0, 1) := by decide +kernel
theorem dX7_raises_67 : decode cX7_raises 67 = .ok (.iload_n 3, 1) := by decide +kernel
theorem dX7_raises_68 : decode cX7_raises 68 = .ok (.invokevirtual 99, 3) := by decide +kernel
theorem dX7_raises_71 : decode cX7_raises 71 = .ok (.iload_n 3, 1) := by decide +kernel
theorem dX7_raises_72 : decode cX7_raises 72 = .ok (.invokevirtual 92, 3) := by decide +kernel
theorem dX7_raises_75 : decode cX7_raises 75 = .ok (.aload_n 0, 1) := by decide +kernel
theorem dX7_raises_76 : decode cX7_raises 76 = .ok (.iload_n 1, 1) := by decide +kernel
theorem dX7_raises_77 : decode cX7_raises 77 = .ok (.invokevirtual 96, 3) := by decide +kernel
theorem dX7_raises_80 : decode cX7_raises 80 = .ok (.istore_n 2, 1) := by decide +kernel
theorem dX7_raises_81 : decode cX7_raises 81 = .ok (.iconst 0, 1) := by decide +kernel
theorem dX7_raises_82 : decode cX7_raises 82 = .ok (.istore_n 3, 1) := by decide +kernel
theorem dX7_raises_83 : decode cX7_raises 83 = .ok (.goto (-57), 3) := by decide +kernel
theorem dX7_raises_86 : decode cX7_raises 86 = .ok (.iinc 3 1, 3) := by decide +kernel
theorem dX7_raises_89 : decode cX7_raises 89 = .ok (.goto (-63), 3) := by decide +kernel
theorem dX7_raises_92 : decode cX7_raises 92 = .ok (.iconst 0, 1) := by decide +kernel
theorem dX7_raises_93 : decode cX7_raises 93 = .ok (.istore 4, 2) := by decide +kernel
theorem dX7_raises_95 : decode cX7_raises 95 = .ok (.iload 4, 2) := by decide +kernel
theorem dX7_raises_97 : decode cX7_raises 97 = .ok (.bipush 26, 2) := by decide +kernel
theorem dX7_raises_99 : decode cX7_raises 99 = .ok (.if_icmp .ge 57, 3) := by decide +kernel
theorem dX7_raises_102 : decode cX7_raises 102 = .ok (.aload_n 0, 1) := by decide +kernel
theorem dX7_raises_103 : decode cX7_raises 103 = .ok (.getfield 23, 3) := by decide +kernel
theorem dX7_raises_106 : decode cX7_raises 106 = .ok (.iload 4, 2) := by decide +kernel
theorem dX7_raises_108 : decode cX7_raises 108 = .ok (.aload_n 0, 1) := by decide +kernel
theorem dX7_raises_109 : decode cX7_raises 109 = .ok (.getfield 23, 3) := by decide +kernel
theorem dX7_raises_112 : decode cX7_raises 112 = .ok (.iload 4, 2) := by decide +kernel
theorem dX7_raises_114 : decode cX7_raises 114 = .ok (.baload, 1) := by decide +kernel
theorem dX7_raises_115 : decode cX7_raises 115 = .ok (.ifCond .ne 29, 3) := by decide +kernel
theorem dX7_raises_118 : decode cX7_raises 118 = .ok (.aload_n 0, 1) := by decide +kernel
theorem dX7_raises_119 : decode cX7_raises 119 = .ok (.iload 4, 2) := by decide +kernel
theorem dX7_raises_121 : decode cX7_raises 121 = .ok (.invokevirtual 96, 3) := by decide +kernel
theorem dX7_raises_124 : decode cX7_raises 124 = .ok (.ifCond .ge 24, 3) := by decide +kernel
theorem dX7_raises_127 : decode cX7_raises 127 = .ok (.aload_n 0, 1) := by decide +kernel
theorem dX7_raises_128 : decode cX7_raises 128 = .ok (.getfield 16, 3) := by decide +kernel
theorem dX7_raises_131 : decode cX7_raises 131 = .ok (.bipush 27, 2) := by decide +kernel
theorem dX7_raises_133 : decode cX7_raises 133 = .ok (.iload_n 2, 1) := by decide +kernel
theorem dX7_raises_134 : decode cX7_raises 134 = .ok (.imul, 1) := by decide +kernel
theorem dX7_raises_135 : decode cX7_raises 135 = .ok (.iload 4, 2) := by decide +kernel
theorem dX7_raises_137 : decode cX7_raises 137 = .ok (.iadd, 1) := by decide +kernel
theorem dX7_raises_138 : decode cX7_raises 138 = .ok (.laload, 1) := by decide +kernel
theorem dX7_raises_139 : decode cX7_raises 139 = .ok (.lconst 0, 1) := by decide +kernel
theorem dX7_raises_140 : decode cX7_raises 140 = .ok (.lcmp, 1) := by decide +kernel
theorem dX7_raises_141 : decode cX7_raises 141 = .ok (.ifCond .le 7, 3) := by decide +kernel
theorem dX7_raises_144 : decode cX7_raises 144 = .ok (.iconst 1, 1) := by decide +kernel
theorem dX7_raises_145 : decode cX7_raises 145 = .ok (.goto 4, 3) := by decide +kernel
theorem dX7_raises_148 : decode cX7_raises 148 = .ok (.iconst 0, 1) := by decide +kernel
theorem dX7_raises_149 : decode cX7_raises 149 = .ok (.bastore, 1) := by decide +kernel
theorem dX7_raises_150 : decode cX7_raises 150 = .ok (.iinc 4 1, 3) := by decide +kernel
theorem dX7_raises_153 : decode cX7_raises 153 = .ok (.goto (-58), 3) := by decide +kernel
theorem dX7_raises_156 : decode cX7_raises 156 = .ok (.return_, 1) := by decide +kernel
theorem dX7_common_0 : decode cX7_common 0 = .ok (.lload_n 0, 1) := by decide +kernel
theorem dX7_common_1 : decode cX7_common 1 = .ok (.lstore 4, 2) := by decide +kernel
theorem dX7_common_3 : decode cX7_common 3 = .ok (.lload_n 2, 1) := by decide +kernel
theorem dX7_common_4 : decode cX7_common 4 = .ok (.lstore 6, 2) := by decide +kernel
theorem dX7_common_6 : decode cX7_common 6 = .ok (.lload 6, 2) := by decide +kernel
theorem dX7_common_8 : decode cX7_common 8 = .ok (.lconst 0, 1) := by decide +kernel
theorem dX7_common_9 : decode cX7_common 9 = .ok (.lcmp, 1) := by decide +kernel
theorem dX7_common_10 : decode cX7_common 10 = .ok (.ifCond .eq 21, 3) := by decide +kernel
theorem dX7_common_13 : decode cX7_common 13 = .ok (.lload 4, 2) := by decide +kernel
theorem dX7_common_15 : decode cX7_common 15 = .ok (.lload 6, 2) := by decide +kernel
theorem dX7_common_17 : decode cX7_common 17 = .ok (.lrem, 1) := by decide +kernel
theorem dX7_common_18 : decode cX7_common 18 = .ok (.lstore 8, 2) := by decide +kernel
theorem dX7_common_20 : decode cX7_common 20 = .ok (.lload 6, 2) := by decide +kernel
theorem dX7_common_22 : decode cX7_common 22 = .ok (.lstore 4, 2) := by decide +kernel
theorem dX7_common_24 : decode cX7_common 24 = .ok (.lload 8, 2) := by decide +kernel
theorem dX7_common_26 : decode cX7_common 26 = .ok (.lstore 6, 2) := by decide +kernel
theorem dX7_common_28 : decode cX7_common 28 = .ok (.goto (-22), 3) := by decide +kernel
theorem dX7_common_31 : decode cX7_common 31 = .ok (.lload 4, 2) := by decide +kernel
theorem dX7_common_33 : decode cX7_common 33 = .ok (.lreturn, 1) := by decide +kernel
set_option maxRecDepth 20000 in
theorem ggX7_divides_X7_boundOf : GoodIn wsX7_divides wsX7_boundOf := goodIn_r _ [11, 3, 12, 13, 14, 10, 15, 4, 5, 16, 17, 18, 19, 6, 20, 21, 22, 23, 24, 25, 26, 27, 28, 29, 30, 31, 32, 33, 34, 35, 36, 37, 38, 39, 40, 41, 42, 43, 44, 45, 46, 47, 55, 56, 57, 58, 59, 60, 61, 62, 63, 64, 65, 66, 67, 68] (by decide +kernel) (by decide +kernel)
set_option maxRecDepth 20000 in
theorem gX7_divides_X7_boundOf : GoodIn wsX7_divides (wsV RX7 114 RX7 yX7_boundOf wsX7_boundOf) := goodIn_app (goodIn_of _ (by decide +kernel)) ggX7_divides_X7_boundOf
set_option maxRecDepth 20000 in
theorem ggX7_divides_X7_rowOf : GoodIn wsX7_divides wsX7_rowOf := goodIn_r _ [43, 22, 24, 25, 26, 10, 27, 3, 55, 56, 57, 58, 59, 60, 61, 62, 63, 64, 65, 66, 67, 68] (by decide +kernel) (by decide +kernel)
set_option maxRecDepth 20000 in
theorem gX7_divides_X7_rowOf : GoodIn wsX7_divides (wsV RX7 96 RX7 yX7_rowOf wsX7_rowOf) := goodIn_app (goodIn_of _ (by decide +kernel)) ggX7_divides_X7_rowOf
set_option maxRecDepth 20000 in
theorem ggX7_divides_X7_raises : GoodIn wsX7_divides wsX7_raises := goodIn_r _ [51, 6, 4, 40, 41, 42, 10, 43, 22, 24, 25, 26, 27, 3, 44, 45, 46, 47, 32, 33, 34, 35, 5, 55, 56, 57, 58, 59, 60, 61, 62, 63, 64, 65, 66, 67, 68] (by decide +kernel) (by decide +kernel)
set_option maxRecDepth 20000 in
theorem gX7_divides_X7_raises : GoodIn wsX7_divides (wsV RX7 117 RX7 yX7_raises wsX7_raises) := goodIn_app (goodIn_of _ (by decide +kernel)) ggX7_divides_X7_raises
set_option maxRecDepth 20000 in
theorem ggX7_divides_X7_common : GoodIn wsX7_divides wsX7_common := goodIn_r _ [54] (by decide +kernel) (by decide +kernel)
set_option maxRecDepth 20000 in
theorem gX7_divides_X7_common : GoodIn wsX7_divides (va_wsS RX7 121 yX7_common wsX7_common) := goodIn_app (goodIn_of _ (by decide +kernel)) ggX7_divides_X7_common
theorem dX7_divides_0 : decode cX7_divides 0 = .ok (.aload_n 0, 1) := by decide +kernel
theorem dX7_divides_1 : decode cX7_divides 1 = .ok (.invokevirtual 114, 3) := by decide +kernel
theorem dX7_divides_4 : decode cX7_divides 4 = .ok (.istore_n 1, 1) := by decide +kernel
theorem dX7_divides_5 : decode cX7_divides 5 = .ok (.iconst 0, 1) := by decide +kernel
theorem dX7_divides_6 : decode cX7_divides 6 = .ok (.istore_n 2, 1) := by decide +kernel
theorem dX7_divides_7 : decode cX7_divides 7 = .ok (.iload_n 2, 1) := by decide +kernel
theorem dX7_divides_8 : decode cX7_divides 8 = .ok (.bipush 21, 2) := by decide +kernel
theorem dX7_divides_10 : decode cX7_divides 10 = .ok (.if_icmp .ge 23, 3) := by decide +kernel
theorem dX7_divides_13 : decode cX7_divides 13 = .ok (.aload_n 0, 1) := by decide +kernel
theorem dX7_divides_14 : decode cX7_divides 14 = .ok (.getfield 27, 3) := by decide +kernel
theorem dX7_divides_17 : decode cX7_divides 17 = .ok (.iload_n 2, 1) := by decide +kernel
theorem dX7_divides_18 : decode cX7_divides 18 = .ok (.lconst 0, 1) := by decide +kernel
theorem dX7_divides_19 : decode cX7_divides 19 = .ok (.lastore, 1) := by decide +kernel
theorem dX7_divides_20 : decode cX7_divides 20 = .ok (.aload_n 0, 1) := by decide +kernel
theorem dX7_divides_21 : decode cX7_divides 21 = .ok (.getfield 30, 3) := by decide +kernel
theorem dX7_divides_24 : decode cX7_divides 24 = .ok (.iload_n 2, 1) := by decide +kernel
theorem dX7_divides_25 : decode cX7_divides 25 = .ok (.lconst 1, 1) := by decide +kernel
theorem dX7_divides_26 : decode cX7_divides 26 = .ok (.lastore, 1) := by decide +kernel
theorem dX7_divides_27 : decode cX7_divides 27 = .ok (.iinc 2 1, 3) := by decide +kernel
theorem dX7_divides_30 : decode cX7_divides 30 = .ok (.goto (-23), 3) := by decide +kernel
theorem dX7_divides_33 : decode cX7_divides 33 = .ok (.aload_n 0, 1) := by decide +kernel
theorem dX7_divides_34 : decode cX7_divides 34 = .ok (.getfield 49, 3) := by decide +kernel
theorem dX7_divides_37 : decode cX7_divides 37 = .ok (.ifCond .le 147, 3) := by decide +kernel
theorem dX7_divides_40 : decode cX7_divides 40 = .ok (.aload_n 0, 1) := by decide +kernel
theorem dX7_divides_41 : decode cX7_divides 41 = .ok (.getfield 16, 3) := by decide +kernel
theorem dX7_divides_44 : decode cX7_divides 44 = .ok (.bipush 27, 2) := by decide +kernel
theorem dX7_divides_46 : decode cX7_divides 46 = .ok (.aload_n 0, 1) := by decide +kernel
theorem dX7_divides_47 : decode cX7_divides 47 = .ok (.bipush 25, 2) := by decide +kernel
theorem dX7_divides_49 : decode cX7_divides 49 = .ok (.invokevirtual 96, 3) := by decide +kernel
theorem dX7_divides_52 : decode cX7_divides 52 = .ok (.imul, 1) := by decide +kernel
theorem dX7_divides_53 : decode cX7_divides 53 = .ok (.bipush 26, 2) := by decide +kernel
theorem dX7_divides_55 : decode cX7_divides 55 = .ok (.iadd, 1) := by decide +kernel
theorem dX7_divides_56 : decode cX7_divides 56 = .ok (.dup2, 1) := by decide +kernel
theorem dX7_divides_57 : decode cX7_divides 57 = .ok (.laload, 1) := by decide +kernel
theorem dX7_divides_58 : decode cX7_divides 58 = .ok (.sipush 400, 3) := by decide +kernel
theorem dX7_divides_61 : decode cX7_divides 61 = .ok (.iload_n 1, 1) := by decide +kernel
theorem dX7_divides_62 : decode cX7_divides 62 = .ok (.isub, 1) := by decide +kernel
theorem dX7_divides_63 : decode cX7_divides 63 = .ok (.i2l, 1) := by decide +kernel
theorem dX7_divides_64 : decode cX7_divides 64 = .ok (.aload_n 0, 1) := by decide +kernel
theorem dX7_divides_65 : decode cX7_divides 65 = .ok (.getfield 84, 3) := by decide +kernel
theorem dX7_divides_68 : decode cX7_divides 68 = .ok (.lmul, 1) := by decide +kernel
theorem dX7_divides_69 : decode cX7_divides 69 = .ok (.lsub, 1) := by decide +kernel
theorem dX7_divides_70 : decode cX7_divides 70 = .ok (.lastore, 1) := by decide +kernel
theorem dX7_divides_71 : decode cX7_divides 71 = .ok (.iconst 0, 1) := by decide +kernel
theorem dX7_divides_72 : decode cX7_divides 72 = .ok (.istore_n 2, 1) := by decide +kernel
theorem dX7_divides_73 : decode cX7_divides 73 = .ok (.iload_n 2, 1) := by decide +kernel
theorem dX7_divides_74 : decode cX7_divides 74 = .ok (.iconst 3, 1) := by decide +kernel
theorem dX7_divides_75 : decode cX7_divides 75 = .ok (.aload_n 0, 1) := by decide +kernel
theorem dX7_divides_76 : decode cX7_divides 76 = .ok (.getfield 49, 3) := by decide +kernel
theorem dX7_divides_79 : decode cX7_divides 79 = .ok (.imul, 1) := by decide +kernel
theorem dX7_divides_80 : decode cX7_divides 80 = .ok (.if_icmp .ge 23, 3) := by decide +kernel
theorem dX7_divides_83 : decode cX7_divides 83 = .ok (.aload_n 0, 1) := by decide +kernel
theorem dX7_divides_84 : decode cX7_divides 84 = .ok (.getfield 23, 3) := by decide +kernel
theorem dX7_divides_87 : decode cX7_divides 87 = .ok (.iload_n 2, 1) := by decide +kernel
theorem dX7_divides_88 : decode cX7_divides 88 = .ok (.baload, 1) := by decide +kernel
theorem dX7_divides_89 : decode cX7_divides 89 = .ok (.ifCond .ne 8, 3) := by decide +kernel
theorem dX7_divides_92 : decode cX7_divides 92 = .ok (.aload_n 0, 1) := by decide +kernel
theorem dX7_divides_93 : decode cX7_divides 93 = .ok (.iload_n 2, 1) := by decide +kernel
theorem dX7_divides_94 : decode cX7_divides 94 = .ok (.invokevirtual 117, 3) := by decide +kernel
theorem dX7_divides_97 : decode cX7_divides 97 = .ok (.iinc 2 1, 3) := by decide +kernel
theorem dX7_divides_100 : decode cX7_divides 100 = .ok (.goto (-27), 3) := by decide +kernel
theorem dX7_divides_103 : decode cX7_divides 103 = .ok (.iconst 0, 1) := by decide +kernel
theorem dX7_divides_104 : decode cX7_divides 104 = .ok (.istore_n 2, 1) := by decide +kernel
theorem dX7_divides_105 : decode cX7_divides 105 = .ok (.iload_n 2, 1) := by decide +kernel
theorem dX7_divides_106 : decode cX7_divides 106 = .ok (.iconst 3, 1) := by decide +kernel
theorem dX7_divides_107 : decode cX7_divides 107 = .ok (.aload_n 0, 1) := by decide +kernel
theorem dX7_divides_108 : decode cX7_divides 108 = .ok (.getfield 49, 3) := by decide +kernel
theorem dX7_divides_111 : decode cX7_divides 111 = .ok (.imul, 1) := by decide +kernel
theorem dX7_divides_112 : decode cX7_divides 112 = .ok (.if_icmp .ge 72, 3) := by decide +kernel
theorem dX7_divides_115 : decode cX7_divides 115 = .ok (.aload_n 0, 1) := by decide +kernel
theorem dX7_divides_116 : decode cX7_divides 116 = .ok (.iload_n 2, 1) := by decide +kernel
theorem dX7_divides_117 : decode cX7_divides 117 = .ok (.invokevirtual 96, 3) := by decide +kernel
theorem dX7_divides_120 : decode cX7_divides 120 = .ok (.istore_n 3, 1) := by decide +kernel
theorem dX7_divides_121 : decode cX7_divides 121 = .ok (.iload_n 3, 1) := by decide +kernel
theorem dX7_divides_122 : decode cX7_divides 122 = .ok (.ifCond .ge 7, 3) := by decide +kernel
theorem dX7_divides_125 : decode cX7_divides 125 = .ok (.lconst 0, 1) := by decide +kernel
theorem dX7_divides_126 : decode cX7_divides 126 = .ok (.goto 15, 3) := by decide +kernel
theorem dX7_divides_129 : decode cX7_divides 129 = .ok (.aload_n 0, 1) := by decide +kernel
theorem dX7_divides_130 : decode cX7_divides 130 = .ok (.getfield 16, 3) := by decide +kernel
theorem dX7_divides_133 : decode cX7_divides 133 = .ok (.bipush 27, 2) := by decide +kernel
theorem dX7_divides_135 : decode cX7_divides 135 = .ok (.iload_n 3, 1) := by decide +kernel
theorem dX7_divides_136 : decode cX7_divides 136 = .ok (.imul, 1) := by decide +kernel
theorem dX7_divides_137 : decode cX7_divides 137 = .ok (.bipush 26, 2) := by decide +kernel
theorem dX7_divides_139 : decode cX7_divides 139 = .ok (.iadd, 1) := by decide +kernel
theorem dX7_divides_140 : decode cX7_divides 140 = .ok (.laload, 1) := by decide +kernel
theorem dX7_divides_141 : decode cX7_divides 141 = .ok (.lstore 4, 2) := by decide +kernel
theorem dX7_divides_143 : decode cX7_divides 143 = .ok (.aload_n 0, 1) := by decide +kernel
theorem dX7_divides_144 : decode cX7_divides 144 = .ok (.getfield 84, 3) := by decide +kernel
theorem dX7_divides_147 : decode cX7_divides 147 = .ok (.lload 4, 2) := by decide +kernel
theorem dX7_divides_149 : decode cX7_divides 149 = .ok (.invokestatic 121, 3) := by decide +kernel
theorem dX7_divides_152 : decode cX7_divides 152 = .ok (.lstore 6, 2) := by decide +kernel
theorem dX7_divides_154 : decode cX7_divides 154 = .ok (.aload_n 0, 1) := by decide +kernel
theorem dX7_divides_155 : decode cX7_divides 155 = .ok (.getfield 27, 3) := by decide +kernel
theorem dX7_divides_158 : decode cX7_divides 158 = .ok (.iload_n 2, 1) := by decide +kernel
theorem dX7_divides_159 : decode cX7_divides 159 = .ok (.lload 4, 2) := by decide +kernel
theorem dX7_divides_161 : decode cX7_divides 161 = .ok (.lload 6, 2) := by decide +kernel
theorem dX7_divides_163 : decode cX7_divides 163 = .ok (.ldiv, 1) := by decide +kernel
theorem dX7_divides_164 : decode cX7_divides 164 = .ok (.lastore, 1) := by decide +kernel
theorem dX7_divides_165 : decode cX7_divides 165 = .ok (.aload_n 0, 1) := by decide +kernel
theorem dX7_divides_166 : decode cX7_divides 166 = .ok (.getfield 30, 3) := by decide +kernel
theorem dX7_divides_169 : decode cX7_divides 169 = .ok (.iload_n 2, 1) := by decide +kernel
theorem dX7_divides_170 : decode cX7_divides 170 = .ok (.aload_n 0, 1) := by decide +kernel
theorem dX7_divides_171 : decode cX7_divides 171 = .ok (.getfield 84, 3) := by decide +kernel
theorem dX7_divides_174 : decode cX7_divides 174 = .ok (.lload 6, 2) := by decide +kernel
theorem dX7_divides_176 : decode cX7_divides 176 = .ok (.ldiv, 1) := by decide +kernel
theorem dX7_divides_177 : decode cX7_divides 177 = .ok (.lastore, 1) := by decide +kernel
theorem dX7_divides_178 : decode cX7_divides 178 = .ok (.iinc 2 1, 3) := by decide +kernel
theorem dX7_divides_181 : decode cX7_divides 181 = .ok (.goto (-76), 3) := by decide +kernel
theorem dX7_divides_184 : decode cX7_divides 184 = .ok (.return_, 1) := by decide +kernel
set_option maxRecDepth 20000 in
theorem ggX7_bound_X7_boundOf : GoodIn wsX7_bound wsX7_boundOf := goodIn_r _ [6, 7, 8, 9, 10, 5, 11, 12, 13, 14, 15, 16, 17, 18, 19, 20, 21, 22, 23, 24, 25, 26, 27, 28, 29, 30, 31, 32, 33, 34, 35, 36, 37, 38, 39, 40, 41, 42, 43, 44, 45, 46, 47, 48, 49, 50, 51, 52, 53, 54, 55, 56, 57, 58, 59, 60] (by decide +kernel) (by decide +kernel)
set_option maxRecDepth 20000 in
theorem gX7_bound_X7_boundOf : GoodIn wsX7_bound (wsV RX7 114 RX7 yX7_boundOf wsX7_boundOf) := goodIn_app (goodIn_of _ (by decide +kernel)) ggX7_bound_X7_boundOf
theorem dX7_bound_0 : decode cX7_bound 0 = .ok (.aload_n 0, 1) := by decide +kernel
theorem dX7_bound_1 : decode cX7_bound 1 = .ok (.iconst 0, 1) := by decide +kernel
theorem dX7_bound_2 : decode cX7_bound 2 = .ok (.putfield 45, 3) := by decide +kernel
theorem dX7_bound_5 : decode cX7_bound 5 = .ok (.aload_n 0, 1) := by decide +kernel
theorem dX7_bound_6 : decode cX7_bound 6 = .ok (.invokevirtual 114, 3) := by decide +kernel
theorem dX7_bound_9 : decode cX7_bound 9 = .ok (.ireturn, 1) := by decide +kernel
set_option maxRecDepth 20000 in
theorem ggX7_numerator_X7_isJob : GoodIn wsX7_numerator wsX7_isJob := goodIn_r _ [6, 7, 71, 72, 73, 74, 75, 76, 77, 78, 79, 80, 81, 82, 83, 84] (by decide +kernel) (by decide +kernel)
set_option maxRecDepth 20000 in
theorem gX7_numerator_X7_isJob : GoodIn wsX7_numerator (wsV RX7 64 RX7 yX7_isJob wsX7_isJob) := goodIn_app (goodIn_of _ (by decide +kernel)) ggX7_numerator_X7_isJob
set_option maxRecDepth 20000 in
theorem ggX7_numerator_X7_isMachine : GoodIn wsX7_numerator wsX7_isMachine := goodIn_r _ [10] (by decide +kernel) (by decide +kernel)
set_option maxRecDepth 20000 in
theorem gX7_numerator_X7_isMachine : GoodIn wsX7_numerator (va_wsS RX7 67 yX7_isMachine wsX7_isMachine) := goodIn_app (goodIn_of _ (by decide +kernel)) ggX7_numerator_X7_isMachine
set_option maxRecDepth 20000 in
theorem ggX7_numerator_X7_goes : GoodIn wsX7_numerator wsX7_goes := goodIn_r _ [14, 15, 71, 72, 73, 74, 75, 76, 77, 78, 79, 80, 81, 82, 83, 84] (by decide +kernel) (by decide +kernel)
set_option maxRecDepth 20000 in
theorem gX7_numerator_X7_goes : GoodIn wsX7_numerator (wsV RX7 56 RX7 yX7_goes wsX7_goes) := goodIn_app (goodIn_of _ (by decide +kernel)) ggX7_numerator_X7_goes
set_option maxRecDepth 20000 in
theorem ggX7_numerator_X7_divides : GoodIn wsX7_numerator wsX7_divides := goodIn_r _ [19, 1, 20, 7, 21, 22, 23, 24, 25, 26, 5, 27, 28, 29, 30, 31, 32, 33, 34, 35, 36, 37, 38, 39, 40, 41, 42, 43, 44, 45, 46, 47, 48, 49, 50, 51, 52, 53, 54, 55, 56, 57, 58, 59, 60, 61, 62, 63, 64, 65, 66, 67, 68, 69, 70, 71, 72, 73, 74, 75, 76, 77, 78, 79, 80, 81, 82, 83, 84] (by decide +kernel) (by decide +kernel)
set_option maxRecDepth 20000 in
theorem gX7_numerator_X7_divides : GoodIn wsX7_numerator (wsV RX7 125 RX7 yX7_divides wsX7_divides) := goodIn_app (goodIn_of _ (by decide +kernel)) ggX7_numerator_X7_divides
theorem dX7_numerator_0 : decode cX7_numerator 0 = .ok (.aload_n 0, 1) := by decide +kernel
theorem dX7_numerator_1 : decode cX7_numerator 1 = .ok (.aload_n 0, 1) := by decide +kernel
theorem dX7_numerator_2 : decode cX7_numerator 2 = .ok (.iload_n 1, 1) := by decide +kernel
theorem dX7_numerator_3 : decode cX7_numerator 3 = .ok (.invokevirtual 64, 3) := by decide +kernel
theorem dX7_numerator_6 : decode cX7_numerator 6 = .ok (.ifCond .eq 14, 3) := by decide +kernel
theorem dX7_numerator_9 : decode cX7_numerator 9 = .ok (.iload_n 2, 1) := by decide +kernel
theorem dX7_numerator_10 : decode cX7_numerator 10 = .ok (.invokestatic 67, 3) := by decide +kernel
theorem dX7_numerator_13 : decode cX7_numerator 13 = .ok (.ifCond .eq 7, 3) := by decide +kernel
theorem dX7_numerator_16 : decode cX7_numerator 16 = .ok (.iconst 1, 1) := by decide +kernel
theorem dX7_numerator_17 : decode cX7_numerator 17 = .ok (.goto 4, 3) := by decide +kernel
theorem dX7_numerator_20 : decode cX7_numerator 20 = .ok (.iconst 0, 1) := by decide +kernel
theorem dX7_numerator_21 : decode cX7_numerator 21 = .ok (.iconst 1, 1) := by decide +kernel
theorem dX7_numerator_22 : decode cX7_numerator 22 = .ok (.iconst 1, 1) := by decide +kernel
theorem dX7_numerator_23 : decode cX7_numerator 23 = .ok (.invokevirtual 56, 3) := by decide +kernel
theorem dX7_numerator_26 : decode cX7_numerator 26 = .ok (.ifCond .ne 5, 3) := by decide +kernel
theorem dX7_numerator_29 : decode cX7_numerator 29 = .ok (.iconst 0, 1) := by decide +kernel
theorem dX7_numerator_30 : decode cX7_numerator 30 = .ok (.ireturn, 1) := by decide +kernel
theorem dX7_numerator_31 : decode cX7_numerator 31 = .ok (.aload_n 0, 1) := by decide +kernel
theorem dX7_numerator_32 : decode cX7_numerator 32 = .ok (.invokevirtual 125, 3) := by decide +kernel
theorem dX7_numerator_35 : decode cX7_numerator 35 = .ok (.aload_n 0, 1) := by decide +kernel
theorem dX7_numerator_36 : decode cX7_numerator 36 = .ok (.getfield 27, 3) := by decide +kernel
theorem dX7_numerator_39 : decode cX7_numerator 39 = .ok (.iconst 3, 1) := by decide +kernel
theorem dX7_numerator_40 : decode cX7_numerator 40 = .ok (.iload_n 1, 1) := by decide +kernel
theorem dX7_numerator_41 : decode cX7_numerator 41 = .ok (.imul, 1) := by decide +kernel
theorem dX7_numerator_42 : decode cX7_numerator 42 = .ok (.iload_n 2, 1) := by decide +kernel
theorem dX7_numerator_43 : decode cX7_numerator 43 = .ok (.iadd, 1) := by decide +kernel
theorem dX7_numerator_44 : decode cX7_numerator 44 = .ok (.laload, 1) := by decide +kernel
theorem dX7_numerator_45 : decode cX7_numerator 45 = .ok (.l2i, 1) := by decide +kernel
theorem dX7_numerator_46 : decode cX7_numerator 46 = .ok (.ireturn, 1) := by decide +kernel
set_option maxRecDepth 20000 in
theorem ggX7_denominator_X7_isJob : GoodIn wsX7_denominator wsX7_isJob := goodIn_r _ [6, 7, 71, 72, 73, 74, 75, 76, 77, 78, 79, 80, 81, 82, 83, 84] (by decide +kernel) (by decide +kernel)
set_option maxRecDepth 20000 in
theorem gX7_denominator_X7_isJob : GoodIn wsX7_denominator (wsV RX7 64 RX7 yX7_isJob wsX7_isJob) := goodIn_app (goodIn_of _ (by decide +kernel)) ggX7_denominator_X7_isJob
set_option maxRecDepth 20000 in
theorem ggX7_denominator_X7_isMachine : GoodIn wsX7_denominator wsX7_isMachine := goodIn_r _ [10] (by decide +kernel) (by decide +kernel)
set_option maxRecDepth 20000 in
theorem gX7_denominator_X7_isMachine : GoodIn wsX7_denominator (va_wsS RX7 67 yX7_isMachine wsX7_isMachine) := goodIn_app (goodIn_of _ (by decide +kernel)) ggX7_denominator_X7_isMachine
set_option maxRecDepth 20000 in
theorem ggX7_denominator_X7_goes : GoodIn wsX7_denominator wsX7_goes := goodIn_r _ [14, 15, 71, 72, 73, 74, 75, 76, 77, 78, 79, 80, 81, 82, 83, 84] (by decide +kernel) (by decide +kernel)
set_option maxRecDepth 20000 in
theorem gX7_denominator_X7_goes : GoodIn wsX7_denominator (wsV RX7 56 RX7 yX7_goes wsX7_goes) := goodIn_app (goodIn_of _ (by decide +kernel)) ggX7_denominator_X7_goes
set_option maxRecDepth 20000 in
theorem ggX7_denominator_X7_divides : GoodIn wsX7_denominator wsX7_divides := goodIn_r _ [19, 20, 1, 7, 21, 22, 23, 24, 25, 26, 5, 27, 28, 29, 30, 31, 32, 33, 34, 35, 36, 37, 38, 39, 40, 41, 42, 43, 44, 45, 46, 47, 48, 49, 50, 51, 52, 53, 54, 55, 56, 57, 58, 59, 60, 61, 62, 63, 64, 65, 66, 67, 68, 69, 70, 71, 72, 73, 74, 75, 76, 77, 78, 79, 80, 81, 82, 83, 84] (by decide +kernel) (by decide +kernel)
set_option maxRecDepth 20000 in
theorem gX7_denominator_X7_divides : GoodIn wsX7_denominator (wsV RX7 125 RX7 yX7_divides wsX7_divides) := goodIn_app (goodIn_of _ (by decide +kernel)) ggX7_denominator_X7_divides
theorem dX7_denominator_0 : decode cX7_denominator 0 = .ok (.aload_n 0, 1) := by decide +kernel
theorem dX7_denominator_1 : decode cX7_denominator 1 = .ok (.aload_n 0, 1) := by decide +kernel
theorem dX7_denominator_2 : decode cX7_denominator 2 = .ok (.iload_n 1, 1) := by decide +kernel
theorem dX7_denominator_3 : decode cX7_denominator 3 = .ok (.invokevirtual 64, 3) := by decide +kernel
theorem dX7_denominator_6 : decode cX7_denominator 6 = .ok (.ifCond .eq 14, 3) := by decide +kernel
theorem dX7_denominator_9 : decode cX7_denominator 9 = .ok (.iload_n 2, 1) := by decide +kernel
theorem dX7_denominator_10 : decode cX7_denominator 10 = .ok (.invokestatic 67, 3) := by decide +kernel
theorem dX7_denominator_13 : decode cX7_denominator 13 = .ok (.ifCond .eq 7, 3) := by decide +kernel
theorem dX7_denominator_16 : decode cX7_denominator 16 = .ok (.iconst 1, 1) := by decide +kernel
theorem dX7_denominator_17 : decode cX7_denominator 17 = .ok (.goto 4, 3) := by decide +kernel
theorem dX7_denominator_20 : decode cX7_denominator 20 = .ok (.iconst 0, 1) := by decide +kernel
theorem dX7_denominator_21 : decode cX7_denominator 21 = .ok (.iconst 1, 1) := by decide +kernel
theorem dX7_denominator_22 : decode cX7_denominator 22 = .ok (.iconst 1, 1) := by decide +kernel
theorem dX7_denominator_23 : decode cX7_denominator 23 = .ok (.invokevirtual 56, 3) := by decide +kernel
theorem dX7_denominator_26 : decode cX7_denominator 26 = .ok (.ifCond .ne 5, 3) := by decide +kernel
theorem dX7_denominator_29 : decode cX7_denominator 29 = .ok (.iconst 0, 1) := by decide +kernel
theorem dX7_denominator_30 : decode cX7_denominator 30 = .ok (.ireturn, 1) := by decide +kernel
theorem dX7_denominator_31 : decode cX7_denominator 31 = .ok (.aload_n 0, 1) := by decide +kernel
theorem dX7_denominator_32 : decode cX7_denominator 32 = .ok (.invokevirtual 125, 3) := by decide +kernel
theorem dX7_denominator_35 : decode cX7_denominator 35 = .ok (.aload_n 0, 1) := by decide +kernel
theorem dX7_denominator_36 : decode cX7_denominator 36 = .ok (.getfield 30, 3) := by decide +kernel
theorem dX7_denominator_39 : decode cX7_denominator 39 = .ok (.iconst 3, 1) := by decide +kernel
theorem dX7_denominator_40 : decode cX7_denominator 40 = .ok (.iload_n 1, 1) := by decide +kernel
theorem dX7_denominator_41 : decode cX7_denominator 41 = .ok (.imul, 1) := by decide +kernel
theorem dX7_denominator_42 : decode cX7_denominator 42 = .ok (.iload_n 2, 1) := by decide +kernel
theorem dX7_denominator_43 : decode cX7_denominator 43 = .ok (.iadd, 1) := by decide +kernel
theorem dX7_denominator_44 : decode cX7_denominator 44 = .ok (.laload, 1) := by decide +kernel
theorem dX7_denominator_45 : decode cX7_denominator 45 = .ok (.l2i, 1) := by decide +kernel
theorem dX7_denominator_46 : decode cX7_denominator 46 = .ok (.ireturn, 1) := by decide +kernel
theorem dX7_whole_0 : decode cX7_whole 0 = .ok (.iconst (-1), 1) := by decide +kernel
theorem dX7_whole_1 : decode cX7_whole 1 = .ok (.istore_n 2, 1) := by decide +kernel
theorem dX7_whole_2 : decode cX7_whole 2 = .ok (.iconst 0, 1) := by decide +kernel
theorem dX7_whole_3 : decode cX7_whole 3 = .ok (.istore_n 3, 1) := by decide +kernel
theorem dX7_whole_4 : decode cX7_whole 4 = .ok (.iload_n 3, 1) := by decide +kernel
theorem dX7_whole_5 : decode cX7_whole 5 = .ok (.iconst 3, 1) := by decide +kernel
theorem dX7_whole_6 : decode cX7_whole 6 = .ok (.if_icmp .ge 40, 3) := by decide +kernel
theorem dX7_whole_9 : decode cX7_whole 9 = .ok (.iconst 3, 1) := by decide +kernel
theorem dX7_whole_10 : decode cX7_whole 10 = .ok (.iload_n 1, 1) := by decide +kernel
theorem dX7_whole_11 : decode cX7_whole 11 = .ok (.imul, 1) := by decide +kernel
theorem dX7_whole_12 : decode cX7_whole 12 = .ok (.iload_n 3, 1) := by decide +kernel
theorem dX7_whole_13 : decode cX7_whole 13 = .ok (.iadd, 1) := by decide +kernel
theorem dX7_whole_14 : decode cX7_whole 14 = .ok (.istore 4, 2) := by decide +kernel
theorem dX7_whole_16 : decode cX7_whole 16 = .ok (.aload_n 0, 1) := by decide +kernel
theorem dX7_whole_17 : decode cX7_whole 17 = .ok (.getfield 27, 3) := by decide +kernel
theorem dX7_whole_20 : decode cX7_whole 20 = .ok (.iload 4, 2) := by decide +kernel
theorem dX7_whole_22 : decode cX7_whole 22 = .ok (.laload, 1) := by decide +kernel
theorem dX7_whole_23 : decode cX7_whole 23 = .ok (.aload_n 0, 1) := by decide +kernel
theorem dX7_whole_24 : decode cX7_whole 24 = .ok (.getfield 30, 3) := by decide +kernel
theorem dX7_whole_27 : decode cX7_whole 27 = .ok (.iload 4, 2) := by decide +kernel
theorem dX7_whole_29 : decode cX7_whole 29 = .ok (.laload, 1) := by decide +kernel
theorem dX7_whole_30 : decode cX7_whole 30 = .ok (.lcmp, 1) := by decide +kernel
theorem dX7_whole_31 : decode cX7_whole 31 = .ok (.ifCond .ne 7, 3) := by decide +kernel
theorem dX7_whole_34 : decode cX7_whole 34 = .ok (.iload_n 3, 1) := by decide +kernel
theorem dX7_whole_35 : decode cX7_whole 35 = .ok (.goto 4, 3) := by decide +kernel
theorem dX7_whole_38 : decode cX7_whole 38 = .ok (.iload_n 2, 1) := by decide +kernel
theorem dX7_whole_39 : decode cX7_whole 39 = .ok (.istore_n 2, 1) := by decide +kernel
theorem dX7_whole_40 : decode cX7_whole 40 = .ok (.iinc 3 1, 3) := by decide +kernel
theorem dX7_whole_43 : decode cX7_whole 43 = .ok (.goto (-39), 3) := by decide +kernel
theorem dX7_whole_46 : decode cX7_whole 46 = .ok (.iload_n 2, 1) := by decide +kernel
theorem dX7_whole_47 : decode cX7_whole 47 = .ok (.ireturn, 1) := by decide +kernel
set_option maxRecDepth 20000 in
theorem ggX7_isDivided_X7_isJob : GoodIn wsX7_isDivided wsX7_isJob := goodIn_r _ [5, 6, 72, 73, 74, 75, 76, 77, 78, 79, 80, 81, 82, 83, 84, 85] (by decide +kernel) (by decide +kernel)
set_option maxRecDepth 20000 in
theorem gX7_isDivided_X7_isJob : GoodIn wsX7_isDivided (wsV RX7 64 RX7 yX7_isJob wsX7_isJob) := goodIn_app (goodIn_of _ (by decide +kernel)) ggX7_isDivided_X7_isJob
set_option maxRecDepth 20000 in
theorem ggX7_isDivided_X7_goes : GoodIn wsX7_isDivided wsX7_goes := goodIn_r _ [10, 11, 72, 73, 74, 75, 76, 77, 78, 79, 80, 81, 82, 83, 84, 85] (by decide +kernel) (by decide +kernel)
set_option maxRecDepth 20000 in
theorem gX7_isDivided_X7_goes : GoodIn wsX7_isDivided (wsV RX7 56 RX7 yX7_goes wsX7_goes) := goodIn_app (goodIn_of _ (by decide +kernel)) ggX7_isDivided_X7_goes
set_option maxRecDepth 20000 in
theorem ggX7_isDivided_X7_divides : GoodIn wsX7_isDivided wsX7_divides := goodIn_r _ [15, 16, 17, 6, 18, 19, 20, 21, 22, 23, 4, 24, 25, 26, 27, 28, 29, 30, 31, 32, 33, 34, 35, 36, 37, 38, 39, 40, 41, 42, 43, 44, 45, 46, 47, 48, 49, 50, 51, 52, 53, 54, 55, 56, 57, 58, 59, 60, 61, 62, 63, 64, 65, 66, 67, 72, 73, 74, 75, 76, 77, 78, 79, 80, 81, 82, 83, 84, 85] (by decide +kernel) (by decide +kernel)
set_option maxRecDepth 20000 in
theorem gX7_isDivided_X7_divides : GoodIn wsX7_isDivided (wsV RX7 125 RX7 yX7_divides wsX7_divides) := goodIn_app (goodIn_of _ (by decide +kernel)) ggX7_isDivided_X7_divides
set_option maxRecDepth 20000 in
theorem ggX7_isDivided_X7_whole : GoodIn wsX7_isDivided wsX7_whole := goodIn_r _ [71, 16, 17, 72, 73, 74, 75, 76, 77, 78, 79, 80, 81, 82, 83, 84, 85] (by decide +kernel) (by decide +kernel)
set_option maxRecDepth 20000 in
theorem gX7_isDivided_X7_whole : GoodIn wsX7_isDivided (wsV RX7 128 RX7 yX7_whole wsX7_whole) := goodIn_app (goodIn_of _ (by decide +kernel)) ggX7_isDivided_X7_whole
theorem dX7_isDivided_0 : decode cX7_isDivided 0 = .ok (.aload_n 0, 1) := by decide +kernel
theorem dX7_isDivided_1 : decode cX7_isDivided 1 = .ok (.aload_n 0, 1) := by decide +kernel
theorem dX7_isDivided_2 : decode cX7_isDivided 2 = .ok (.iload_n 1, 1) := by decide +kernel
theorem dX7_isDivided_3 : decode cX7_isDivided 3 = .ok (.invokevirtual 64, 3) := by decide +kernel
theorem dX7_isDivided_6 : decode cX7_isDivided 6 = .ok (.iconst 1, 1) := by decide +kernel
theorem dX7_isDivided_7 : decode cX7_isDivided 7 = .ok (.iconst 1, 1) := by decide +kernel
theorem dX7_isDivided_8 : decode cX7_isDivided 8 = .ok (.invokevirtual 56, 3) := by decide +kernel
theorem dX7_isDivided_11 : decode cX7_isDivided 11 = .ok (.ifCond .ne 5, 3) := by decide +kernel
theorem dX7_isDivided_14 : decode cX7_isDivided 14 = .ok (.iconst 0, 1) := by decide +kernel
theorem dX7_isDivided_15 : decode cX7_isDivided 15 = .ok (.ireturn, 1) := by decide +kernel
theorem dX7_isDivided_16 : decode cX7_isDivided 16 = .ok (.aload_n 0, 1) := by decide +kernel
theorem dX7_isDivided_17 : decode cX7_isDivided 17 = .ok (.invokevirtual 125, 3) := by decide +kernel
theorem dX7_isDivided_20 : decode cX7_isDivided 20 = .ok (.aload_n 0, 1) := by decide +kernel
theorem dX7_isDivided_21 : decode cX7_isDivided 21 = .ok (.iload_n 1, 1) := by decide +kernel
theorem dX7_isDivided_22 : decode cX7_isDivided 22 = .ok (.invokevirtual 128, 3) := by decide +kernel
theorem dX7_isDivided_25 : decode cX7_isDivided 25 = .ok (.ifCond .ge 7, 3) := by decide +kernel
theorem dX7_isDivided_28 : decode cX7_isDivided 28 = .ok (.iconst 1, 1) := by decide +kernel
theorem dX7_isDivided_29 : decode cX7_isDivided 29 = .ok (.goto 4, 3) := by decide +kernel
theorem dX7_isDivided_32 : decode cX7_isDivided 32 = .ok (.iconst 0, 1) := by decide +kernel
theorem dX7_isDivided_33 : decode cX7_isDivided 33 = .ok (.ireturn, 1) := by decide +kernel
set_option maxRecDepth 20000 in
theorem ggX7_least_X7_lays : GoodIn wsX7_least wsX7_lays := goodIn_r _ [9, 3, 10, 4, 2, 11, 12, 13, 14, 15, 16, 17, 8, 18, 42, 43, 44, 45, 46, 47, 48, 49, 50, 51, 52, 53, 54, 55] (by decide +kernel) (by decide +kernel)
set_option maxRecDepth 20000 in
theorem gX7_least_X7_lays : GoodIn wsX7_least (wsV RX7 102 RX7 yX7_lays wsX7_lays) := goodIn_app (goodIn_of _ (by decide +kernel)) ggX7_least_X7_lays
set_option maxRecDepth 20000 in
theorem ggX7_least_X7_starts : GoodIn wsX7_least wsX7_starts := goodIn_r _ [22, 2, 10, 3, 23, 24, 25, 8, 26, 4, 13, 15, 16, 17, 18, 42, 43, 44, 45, 46, 47, 48, 49, 50, 51, 52, 53, 54, 55] (by decide +kernel) (by decide +kernel)
set_option maxRecDepth 20000 in
theorem gX7_least_X7_starts : GoodIn wsX7_least (wsV RX7 105 RX7 yX7_starts wsX7_starts) := goodIn_app (goodIn_of _ (by decide +kernel)) ggX7_least_X7_starts
set_option maxRecDepth 20000 in
theorem ggX7_least_X7_lowers : GoodIn wsX7_least wsX7_lowers := goodIn_r _ [30, 10, 3, 31, 32, 33, 8, 34, 13, 15, 16, 17, 18, 2, 35, 36, 37, 38, 23, 24, 25, 26, 4, 42, 43, 44, 45, 46, 47, 48, 49, 50, 51, 52, 53, 54, 55] (by decide +kernel) (by decide +kernel)
set_option maxRecDepth 20000 in
theorem gX7_least_X7_lowers : GoodIn wsX7_least (wsV RX7 108 RX7 yX7_lowers wsX7_lowers) := goodIn_app (goodIn_of _ (by decide +kernel)) ggX7_least_X7_lowers
set_option maxRecDepth 20000 in
theorem ggX7_least_X7_common : GoodIn wsX7_least wsX7_common := goodIn_r _ [41] (by decide +kernel) (by decide +kernel)
set_option maxRecDepth 20000 in
theorem gX7_least_X7_common : GoodIn wsX7_least (va_wsS RX7 121 yX7_common wsX7_common) := goodIn_app (goodIn_of _ (by decide +kernel)) ggX7_least_X7_common
theorem dX7_least_0 : decode cX7_least 0 = .ok (.aload_n 0, 1) := by decide +kernel
theorem dX7_least_1 : decode cX7_least 1 = .ok (.iconst 0, 1) := by decide +kernel
theorem dX7_least_2 : decode cX7_least 2 = .ok (.putfield 45, 3) := by decide +kernel
theorem dX7_least_5 : decode cX7_least 5 = .ok (.aload_n 0, 1) := by decide +kernel
theorem dX7_least_6 : decode cX7_least 6 = .ok (.getfield 49, 3) := by decide +kernel
theorem dX7_least_9 : decode cX7_least 9 = .ok (.ifCond .ne 13, 3) := by decide +kernel
theorem dX7_least_12 : decode cX7_least 12 = .ok (.iload_n 1, 1) := by decide +kernel
theorem dX7_least_13 : decode cX7_least 13 = .ok (.ifCond .eq 7, 3) := by decide +kernel
theorem dX7_least_16 : decode cX7_least 16 = .ok (.iconst 0, 1) := by decide +kernel
theorem dX7_least_17 : decode cX7_least 17 = .ok (.goto 4, 3) := by decide +kernel
theorem dX7_least_20 : decode cX7_least 20 = .ok (.iconst 1, 1) := by decide +kernel
theorem dX7_least_21 : decode cX7_least 21 = .ok (.ireturn, 1) := by decide +kernel
theorem dX7_least_22 : decode cX7_least 22 = .ok (.aload_n 0, 1) := by decide +kernel
theorem dX7_least_23 : decode cX7_least 23 = .ok (.bipush 50, 2) := by decide +kernel
theorem dX7_least_25 : decode cX7_least 25 = .ok (.invokevirtual 102, 3) := by decide +kernel
theorem dX7_least_28 : decode cX7_least 28 = .ok (.pop, 1) := by decide +kernel
theorem dX7_least_29 : decode cX7_least 29 = .ok (.aload_n 0, 1) := by decide +kernel
theorem dX7_least_30 : decode cX7_least 30 = .ok (.invokevirtual 105, 3) := by decide +kernel
theorem dX7_least_33 : decode cX7_least 33 = .ok (.aload_n 0, 1) := by decide +kernel
theorem dX7_least_34 : decode cX7_least 34 = .ok (.invokevirtual 108, 3) := by decide +kernel
theorem dX7_least_37 : decode cX7_least 37 = .ok (.istore_n 2, 1) := by decide +kernel
theorem dX7_least_38 : decode cX7_least 38 = .ok (.aload_n 0, 1) := by decide +kernel
theorem dX7_least_39 : decode cX7_least 39 = .ok (.getfield 16, 3) := by decide +kernel
theorem dX7_least_42 : decode cX7_least 42 = .ok (.bipush 27, 2) := by decide +kernel
theorem dX7_least_44 : decode cX7_least 44 = .ok (.iload_n 2, 1) := by decide +kernel
theorem dX7_least_45 : decode cX7_least 45 = .ok (.imul, 1) := by decide +kernel
theorem dX7_least_46 : decode cX7_least 46 = .ok (.bipush 26, 2) := by decide +kernel
theorem dX7_least_48 : decode cX7_least 48 = .ok (.iadd, 1) := by decide +kernel
theorem dX7_least_49 : decode cX7_least 49 = .ok (.laload, 1) := by decide +kernel
theorem dX7_least_50 : decode cX7_least 50 = .ok (.lstore_n 3, 1) := by decide +kernel
theorem dX7_least_51 : decode cX7_least 51 = .ok (.aload_n 0, 1) := by decide +kernel
theorem dX7_least_52 : decode cX7_least 52 = .ok (.getfield 84, 3) := by decide +kernel
theorem dX7_least_55 : decode cX7_least 55 = .ok (.lload_n 3, 1) := by decide +kernel
theorem dX7_least_56 : decode cX7_least 56 = .ok (.invokestatic 121, 3) := by decide +kernel
theorem dX7_least_59 : decode cX7_least 59 = .ok (.lstore 5, 2) := by decide +kernel
theorem dX7_least_61 : decode cX7_least 61 = .ok (.iload_n 1, 1) := by decide +kernel
theorem dX7_least_62 : decode cX7_least 62 = .ok (.ifCond .eq 10, 3) := by decide +kernel
theorem dX7_least_65 : decode cX7_least 65 = .ok (.lload_n 3, 1) := by decide +kernel
theorem dX7_least_66 : decode cX7_least 66 = .ok (.lload 5, 2) := by decide +kernel
theorem dX7_least_68 : decode cX7_least 68 = .ok (.ldiv, 1) := by decide +kernel
theorem dX7_least_69 : decode cX7_least 69 = .ok (.goto 10, 3) := by decide +kernel
theorem dX7_least_72 : decode cX7_least 72 = .ok (.aload_n 0, 1) := by decide +kernel
theorem dX7_least_73 : decode cX7_least 73 = .ok (.getfield 84, 3) := by decide +kernel
theorem dX7_least_76 : decode cX7_least 76 = .ok (.lload 5, 2) := by decide +kernel
theorem dX7_least_78 : decode cX7_least 78 = .ok (.ldiv, 1) := by decide +kernel
theorem dX7_least_79 : decode cX7_least 79 = .ok (.l2i, 1) := by decide +kernel
theorem dX7_least_80 : decode cX7_least 80 = .ok (.ireturn, 1) := by decide +kernel
set_option maxRecDepth 20000 in
theorem ggX7_leastNumerator_X7_least : GoodIn wsX7_leastNumerator wsX7_least := goodIn_r _ [5, 6, 7, 8, 9, 10, 11, 12, 4, 13, 14, 15, 16, 17, 18, 19, 20, 21, 22, 23, 24, 25, 26, 27, 28, 29, 30, 31, 32, 33, 34, 35, 36, 37, 38, 39, 40, 41, 42, 43, 44, 45, 46, 47, 48, 49, 50, 51, 52, 53, 54, 55, 56, 57, 58, 59] (by decide +kernel) (by decide +kernel)
set_option maxRecDepth 20000 in
theorem gX7_leastNumerator_X7_least : GoodIn wsX7_leastNumerator (wsV RX7 131 RX7 yX7_least wsX7_least) := goodIn_app (goodIn_of _ (by decide +kernel)) ggX7_leastNumerator_X7_least
theorem dX7_leastNumerator_0 : decode cX7_leastNumerator 0 = .ok (.aload_n 0, 1) := by decide +kernel
theorem dX7_leastNumerator_1 : decode cX7_leastNumerator 1 = .ok (.iconst 1, 1) := by decide +kernel
theorem dX7_leastNumerator_2 : decode cX7_leastNumerator 2 = .ok (.invokevirtual 131, 3) := by decide +kernel
theorem dX7_leastNumerator_5 : decode cX7_leastNumerator 5 = .ok (.ireturn, 1) := by decide +kernel
set_option maxRecDepth 20000 in
theorem ggX7_leastDenominator_X7_least : GoodIn wsX7_leastDenominator wsX7_least := goodIn_r _ [5, 6, 7, 8, 9, 10, 11, 12, 4, 13, 14, 15, 16, 17, 18, 19, 20, 21, 22, 23, 24, 25, 26, 27, 28, 29, 30, 31, 32, 33, 34, 35, 36, 37, 38, 39, 40, 41, 42, 43, 44, 45, 46, 47, 48, 49, 50, 51, 52, 53, 54, 55, 56, 57, 58, 59] (by decide +kernel) (by decide +kernel)
set_option maxRecDepth 20000 in
theorem gX7_leastDenominator_X7_least : GoodIn wsX7_leastDenominator (wsV RX7 131 RX7 yX7_least wsX7_least) := goodIn_app (goodIn_of _ (by decide +kernel)) ggX7_leastDenominator_X7_least
theorem dX7_leastDenominator_0 : decode cX7_leastDenominator 0 = .ok (.aload_n 0, 1) := by decide +kernel
theorem dX7_leastDenominator_1 : decode cX7_leastDenominator 1 = .ok (.iconst 0, 1) := by decide +kernel
theorem dX7_leastDenominator_2 : decode cX7_leastDenominator 2 = .ok (.invokevirtual 131, 3) := by decide +kernel
theorem dX7_leastDenominator_5 : decode cX7_leastDenominator 5 = .ok (.ireturn, 1) := by decide +kernel
set_option maxRecDepth 20000 in
theorem ggX7_matches_X7_whole : GoodIn wsX7_matches wsX7_whole := goodIn_r _ [8, 2, 9, 10, 11, 12, 13, 14, 15, 16, 17, 18, 19, 20, 21, 22, 23] (by decide +kernel) (by decide +kernel)
set_option maxRecDepth 20000 in
theorem gX7_matches_X7_whole : GoodIn wsX7_matches (wsV RX7 128 RX7 yX7_whole wsX7_whole) := goodIn_app (goodIn_of _ (by decide +kernel)) ggX7_matches_X7_whole
theorem dX7_matches_0 : decode cX7_matches 0 = .ok (.iconst 0, 1) := by decide +kernel
theorem dX7_matches_1 : decode cX7_matches 1 = .ok (.istore_n 1, 1) := by decide +kernel
theorem dX7_matches_2 : decode cX7_matches 2 = .ok (.iconst 1, 1) := by decide +kernel
theorem dX7_matches_3 : decode cX7_matches 3 = .ok (.istore_n 2, 1) := by decide +kernel
theorem dX7_matches_4 : decode cX7_matches 4 = .ok (.iconst 0, 1) := by decide +kernel
theorem dX7_matches_5 : decode cX7_matches 5 = .ok (.istore_n 3, 1) := by decide +kernel
theorem dX7_matches_6 : decode cX7_matches 6 = .ok (.iload_n 3, 1) := by decide +kernel
theorem dX7_matches_7 : decode cX7_matches 7 = .ok (.aload_n 0, 1) := by decide +kernel
theorem dX7_matches_8 : decode cX7_matches 8 = .ok (.getfield 49, 3) := by decide +kernel
theorem dX7_matches_11 : decode cX7_matches 11 = .ok (.if_icmp .ge 71, 3) := by decide +kernel
theorem dX7_matches_14 : decode cX7_matches 14 = .ok (.aload_n 0, 1) := by decide +kernel
theorem dX7_matches_15 : decode cX7_matches 15 = .ok (.iload_n 3, 1) := by decide +kernel
theorem dX7_matches_16 : decode cX7_matches 16 = .ok (.invokevirtual 128, 3) := by decide +kernel
theorem dX7_matches_19 : decode cX7_matches 19 = .ok (.ifCond .ge 57, 3) := by decide +kernel
theorem dX7_matches_22 : decode cX7_matches 22 = .ok (.iload_n 2, 1) := by decide +kernel
theorem dX7_matches_23 : decode cX7_matches 23 = .ok (.ifCond .eq 40, 3) := by decide +kernel
theorem dX7_matches_26 : decode cX7_matches 26 = .ok (.aload_n 0, 1) := by decide +kernel
theorem dX7_matches_27 : decode cX7_matches 27 = .ok (.getfield 27, 3) := by decide +kernel
theorem dX7_matches_30 : decode cX7_matches 30 = .ok (.iconst 3, 1) := by decide +kernel
theorem dX7_matches_31 : decode cX7_matches 31 = .ok (.iload_n 3, 1) := by decide +kernel
theorem dX7_matches_32 : decode cX7_matches 32 = .ok (.imul, 1) := by decide +kernel
theorem dX7_matches_33 : decode cX7_matches 33 = .ok (.aload_n 0, 1) := by decide +kernel
theorem dX7_matches_34 : decode cX7_matches 34 = .ok (.getfield 33, 3) := by decide +kernel
theorem dX7_matches_37 : decode cX7_matches 37 = .ok (.iload_n 3, 1) := by decide +kernel
theorem dX7_matches_38 : decode cX7_matches 38 = .ok (.iaload, 1) := by decide +kernel
theorem dX7_matches_39 : decode cX7_matches 39 = .ok (.iadd, 1) := by decide +kernel
theorem dX7_matches_40 : decode cX7_matches 40 = .ok (.laload, 1) := by decide +kernel
theorem dX7_matches_41 : decode cX7_matches 41 = .ok (.lconst 0, 1) := by decide +kernel
theorem dX7_matches_42 : decode cX7_matches 42 = .ok (.lcmp, 1) := by decide +kernel
theorem dX7_matches_43 : decode cX7_matches 43 = .ok (.ifCond .le 20, 3) := by decide +kernel
theorem dX7_matches_46 : decode cX7_matches 46 = .ok (.iload_n 1, 1) := by decide +kernel
theorem dX7_matches_47 : decode cX7_matches 47 = .ok (.aload_n 0, 1) := by decide +kernel
theorem dX7_matches_48 : decode cX7_matches 48 = .ok (.getfield 33, 3) := by decide +kernel
theorem dX7_matches_51 : decode cX7_matches 51 = .ok (.iload_n 3, 1) := by decide +kernel
theorem dX7_matches_52 : decode cX7_matches 52 = .ok (.iaload, 1) := by decide +kernel
theorem dX7_matches_53 : decode cX7_matches 53 = .ok (.ishr, 1) := by decide +kernel
theorem dX7_matches_54 : decode cX7_matches 54 = .ok (.iconst 1, 1) := by decide +kernel
theorem dX7_matches_55 : decode cX7_matches 55 = .ok (.iand, 1) := by decide +kernel
theorem dX7_matches_56 : decode cX7_matches 56 = .ok (.ifCond .ne 7, 3) := by decide +kernel
theorem dX7_matches_59 : decode cX7_matches 59 = .ok (.iconst 1, 1) := by decide +kernel
theorem dX7_matches_60 : decode cX7_matches 60 = .ok (.goto 4, 3) := by decide +kernel
theorem dX7_matches_63 : decode cX7_matches 63 = .ok (.iconst 0, 1) := by decide +kernel
theorem dX7_matches_64 : decode cX7_matches 64 = .ok (.istore_n 2, 1) := by decide +kernel
theorem dX7_matches_65 : decode cX7_matches 65 = .ok (.iload_n 1, 1) := by decide +kernel
theorem dX7_matches_66 : decode cX7_matches 66 = .ok (.iconst 1, 1) := by decide +kernel
theorem dX7_matches_67 : decode cX7_matches 67 = .ok (.aload_n 0, 1) := by decide +kernel
theorem dX7_matches_68 : decode cX7_matches 68 = .ok (.getfield 33, 3) := by decide +kernel
theorem dX7_matches_71 : decode cX7_matches 71 = .ok (.iload_n 3, 1) := by decide +kernel
theorem dX7_matches_72 : decode cX7_matches 72 = .ok (.iaload, 1) := by decide +kernel
theorem dX7_matches_73 : decode cX7_matches 73 = .ok (.ishl, 1) := by decide +kernel
theorem dX7_matches_74 : decode cX7_matches 74 = .ok (.ior, 1) := by decide +kernel
theorem dX7_matches_75 : decode cX7_matches 75 = .ok (.istore_n 1, 1) := by decide +kernel
theorem dX7_matches_76 : decode cX7_matches 76 = .ok (.iinc 3 1, 3) := by decide +kernel
theorem dX7_matches_79 : decode cX7_matches 79 = .ok (.goto (-73), 3) := by decide +kernel
theorem dX7_matches_82 : decode cX7_matches 82 = .ok (.iload_n 2, 1) := by decide +kernel
theorem dX7_matches_83 : decode cX7_matches 83 = .ok (.ireturn, 1) := by decide +kernel
set_option maxRecDepth 20000 in
theorem ggX7_rounds_X7_divides : GoodIn wsX7_rounds wsX7_divides := goodIn_r _ [8, 9, 10, 1, 11, 12, 13, 14, 15, 16, 7, 17, 18, 19, 20, 21, 22, 23, 24, 25, 26, 27, 28, 29, 30, 31, 32, 33, 34, 35, 36, 37, 38, 39, 40, 41, 42, 43, 44, 45, 46, 47, 48, 49, 50, 51, 52, 53, 54, 55, 56, 57, 58, 59, 60, 69, 70, 71, 72, 73, 74, 75, 76, 77, 78, 79, 80, 81, 82] (by decide +kernel) (by decide +kernel)
set_option maxRecDepth 20000 in
theorem gX7_rounds_X7_divides : GoodIn wsX7_rounds (wsV RX7 125 RX7 yX7_divides wsX7_divides) := goodIn_app (goodIn_of _ (by decide +kernel)) ggX7_rounds_X7_divides
set_option maxRecDepth 20000 in
theorem ggX7_rounds_X7_whole : GoodIn wsX7_rounds wsX7_whole := goodIn_r _ [64, 9, 10, 69, 70, 71, 72, 73, 74, 75, 76, 77, 78, 79, 80, 81, 82] (by decide +kernel) (by decide +kernel)
set_option maxRecDepth 20000 in
theorem gX7_rounds_X7_whole : GoodIn wsX7_rounds (wsV RX7 128 RX7 yX7_whole wsX7_whole) := goodIn_app (goodIn_of _ (by decide +kernel)) ggX7_rounds_X7_whole
set_option maxRecDepth 20000 in
theorem ggX7_rounds_X7_matches : GoodIn wsX7_rounds wsX7_matches := goodIn_r _ [68, 1, 9, 2, 61, 62, 63, 7, 64, 10, 69, 70, 71, 72, 73, 74, 75, 76, 77, 78, 79, 80, 81, 82] (by decide +kernel) (by decide +kernel)
set_option maxRecDepth 20000 in
theorem gX7_rounds_X7_matches : GoodIn wsX7_rounds (wsV RX7 135 RX7 yX7_matches wsX7_matches) := goodIn_app (goodIn_of _ (by decide +kernel)) ggX7_rounds_X7_matches
theorem dX7_rounds_0 : decode cX7_rounds 0 = .ok (.aload_n 0, 1) := by decide +kernel
theorem dX7_rounds_1 : decode cX7_rounds 1 = .ok (.invokevirtual 125, 3) := by decide +kernel
theorem dX7_rounds_4 : decode cX7_rounds 4 = .ok (.iconst 1, 1) := by decide +kernel
theorem dX7_rounds_5 : decode cX7_rounds 5 = .ok (.istore_n 1, 1) := by decide +kernel
theorem dX7_rounds_6 : decode cX7_rounds 6 = .ok (.iconst 0, 1) := by decide +kernel
theorem dX7_rounds_7 : decode cX7_rounds 7 = .ok (.istore_n 2, 1) := by decide +kernel
theorem dX7_rounds_8 : decode cX7_rounds 8 = .ok (.iload_n 2, 1) := by decide +kernel
theorem dX7_rounds_9 : decode cX7_rounds 9 = .ok (.aload_n 0, 1) := by decide +kernel
theorem dX7_rounds_10 : decode cX7_rounds 10 = .ok (.getfield 49, 3) := by decide +kernel
theorem dX7_rounds_13 : decode cX7_rounds 13 = .ok (.if_icmp .ge 25, 3) := by decide +kernel
theorem dX7_rounds_16 : decode cX7_rounds 16 = .ok (.iload_n 1, 1) := by decide +kernel
theorem dX7_rounds_17 : decode cX7_rounds 17 = .ok (.aload_n 0, 1) := by decide +kernel
theorem dX7_rounds_18 : decode cX7_rounds 18 = .ok (.iload_n 2, 1) := by decide +kernel
theorem dX7_rounds_19 : decode cX7_rounds 19 = .ok (.invokevirtual 128, 3) := by decide +kernel
theorem dX7_rounds_22 : decode cX7_rounds 22 = .ok (.ifCond .ge 7, 3) := by decide +kernel
theorem dX7_rounds_25 : decode cX7_rounds 25 = .ok (.iconst 3, 1) := by decide +kernel
theorem dX7_rounds_26 : decode cX7_rounds 26 = .ok (.goto 4, 3) := by decide +kernel
theorem dX7_rounds_29 : decode cX7_rounds 29 = .ok (.iconst 1, 1) := by decide +kernel
theorem dX7_rounds_30 : decode cX7_rounds 30 = .ok (.imul, 1) := by decide +kernel
theorem dX7_rounds_31 : decode cX7_rounds 31 = .ok (.istore_n 1, 1) := by decide +kernel
theorem dX7_rounds_32 : decode cX7_rounds 32 = .ok (.iinc 2 1, 3) := by decide +kernel
theorem dX7_rounds_35 : decode cX7_rounds 35 = .ok (.goto (-27), 3) := by decide +kernel
theorem dX7_rounds_38 : decode cX7_rounds 38 = .ok (.iconst 0, 1) := by decide +kernel
theorem dX7_rounds_39 : decode cX7_rounds 39 = .ok (.istore_n 2, 1) := by decide +kernel
theorem dX7_rounds_40 : decode cX7_rounds 40 = .ok (.iconst 0, 1) := by decide +kernel
theorem dX7_rounds_41 : decode cX7_rounds 41 = .ok (.istore_n 3, 1) := by decide +kernel
theorem dX7_rounds_42 : decode cX7_rounds 42 = .ok (.iload_n 3, 1) := by decide +kernel
theorem dX7_rounds_43 : decode cX7_rounds 43 = .ok (.iload_n 1, 1) := by decide +kernel
theorem dX7_rounds_44 : decode cX7_rounds 44 = .ok (.if_icmp .ge 97, 3) := by decide +kernel
theorem dX7_rounds_47 : decode cX7_rounds 47 = .ok (.iload_n 2, 1) := by decide +kernel
theorem dX7_rounds_48 : decode cX7_rounds 48 = .ok (.ifCond .ne 93, 3) := by decide +kernel
theorem dX7_rounds_51 : decode cX7_rounds 51 = .ok (.iload_n 3, 1) := by decide +kernel
theorem dX7_rounds_52 : decode cX7_rounds 52 = .ok (.istore 4, 2) := by decide +kernel
theorem dX7_rounds_54 : decode cX7_rounds 54 = .ok (.aload_n 0, 1) := by decide +kernel
theorem dX7_rounds_55 : decode cX7_rounds 55 = .ok (.getfield 49, 3) := by decide +kernel
theorem dX7_rounds_58 : decode cX7_rounds 58 = .ok (.iconst 1, 1) := by decide +kernel
theorem dX7_rounds_59 : decode cX7_rounds 59 = .ok (.isub, 1) := by decide +kernel
theorem dX7_rounds_60 : decode cX7_rounds 60 = .ok (.istore 5, 2) := by decide +kernel
theorem dX7_rounds_62 : decode cX7_rounds 62 = .ok (.iload 5, 2) := by decide +kernel
theorem dX7_rounds_64 : decode cX7_rounds 64 = .ok (.ifCond .lt 66, 3) := by decide +kernel
theorem dX7_rounds_67 : decode cX7_rounds 67 = .ok (.aload_n 0, 1) := by decide +kernel
theorem dX7_rounds_68 : decode cX7_rounds 68 = .ok (.iload 5, 2) := by decide +kernel
theorem dX7_rounds_70 : decode cX7_rounds 70 = .ok (.invokevirtual 128, 3) := by decide +kernel
theorem dX7_rounds_73 : decode cX7_rounds 73 = .ok (.ifCond .ge 7, 3) := by decide +kernel
theorem dX7_rounds_76 : decode cX7_rounds 76 = .ok (.iconst 1, 1) := by decide +kernel
theorem dX7_rounds_77 : decode cX7_rounds 77 = .ok (.goto 4, 3) := by decide +kernel
theorem dX7_rounds_80 : decode cX7_rounds 80 = .ok (.iconst 0, 1) := by decide +kernel
theorem dX7_rounds_81 : decode cX7_rounds 81 = .ok (.istore 6, 2) := by decide +kernel
theorem dX7_rounds_83 : decode cX7_rounds 83 = .ok (.aload_n 0, 1) := by decide +kernel
theorem dX7_rounds_84 : decode cX7_rounds 84 = .ok (.getfield 33, 3) := by decide +kernel
theorem dX7_rounds_87 : decode cX7_rounds 87 = .ok (.iload 5, 2) := by decide +kernel
theorem dX7_rounds_89 : decode cX7_rounds 89 = .ok (.iload 6, 2) := by decide +kernel
theorem dX7_rounds_91 : decode cX7_rounds 91 = .ok (.ifCond .eq 10, 3) := by decide +kernel
theorem dX7_rounds_94 : decode cX7_rounds 94 = .ok (.iload 4, 2) := by decide +kernel
theorem dX7_rounds_96 : decode cX7_rounds 96 = .ok (.iconst 3, 1) := by decide +kernel
theorem dX7_rounds_97 : decode cX7_rounds 97 = .ok (.irem, 1) := by decide +kernel
theorem dX7_rounds_98 : decode cX7_rounds 98 = .ok (.goto 9, 3) := by decide +kernel
theorem dX7_rounds_101 : decode cX7_rounds 101 = .ok (.aload_n 0, 1) := by decide +kernel
theorem dX7_rounds_102 : decode cX7_rounds 102 = .ok (.iload 5, 2) := by decide +kernel
theorem dX7_rounds_104 : decode cX7_rounds 104 = .ok (.invokevirtual 128, 3) := by decide +kernel
theorem dX7_rounds_107 : decode cX7_rounds 107 = .ok (.iastore, 1) := by decide +kernel
theorem dX7_rounds_108 : decode cX7_rounds 108 = .ok (.iload 6, 2) := by decide +kernel
theorem dX7_rounds_110 : decode cX7_rounds 110 = .ok (.ifCond .eq 10, 3) := by decide +kernel
theorem dX7_rounds_113 : decode cX7_rounds 113 = .ok (.iload 4, 2) := by decide +kernel
theorem dX7_rounds_115 : decode cX7_rounds 115 = .ok (.iconst 3, 1) := by decide +kernel
theorem dX7_rounds_116 : decode cX7_rounds 116 = .ok (.idiv, 1) := by decide +kernel
theorem dX7_rounds_117 : decode cX7_rounds 117 = .ok (.goto 5, 3) := by decide +kernel
theorem dX7_rounds_120 : decode cX7_rounds 120 = .ok (.iload 4, 2) := by decide +kernel
theorem dX7_rounds_122 : decode cX7_rounds 122 = .ok (.istore 4, 2) := by decide +kernel
theorem dX7_rounds_124 : decode cX7_rounds 124 = .ok (.iinc 5 (-1), 3) := by decide +kernel
theorem dX7_rounds_127 : decode cX7_rounds 127 = .ok (.goto (-65), 3) := by decide +kernel
theorem dX7_rounds_130 : decode cX7_rounds 130 = .ok (.aload_n 0, 1) := by decide +kernel
theorem dX7_rounds_131 : decode cX7_rounds 131 = .ok (.invokevirtual 135, 3) := by decide +kernel
theorem dX7_rounds_134 : decode cX7_rounds 134 = .ok (.istore_n 2, 1) := by decide +kernel
theorem dX7_rounds_135 : decode cX7_rounds 135 = .ok (.iinc 3 1, 3) := by decide +kernel
theorem dX7_rounds_138 : decode cX7_rounds 138 = .ok (.goto (-96), 3) := by decide +kernel
theorem dX7_rounds_141 : decode cX7_rounds 141 = .ok (.iconst 0, 1) := by decide +kernel
theorem dX7_rounds_142 : decode cX7_rounds 142 = .ok (.istore_n 3, 1) := by decide +kernel
theorem dX7_rounds_143 : decode cX7_rounds 143 = .ok (.iload_n 3, 1) := by decide +kernel
theorem dX7_rounds_144 : decode cX7_rounds 144 = .ok (.aload_n 0, 1) := by decide +kernel
theorem dX7_rounds_145 : decode cX7_rounds 145 = .ok (.getfield 49, 3) := by decide +kernel
theorem dX7_rounds_148 : decode cX7_rounds 148 = .ok (.if_icmp .ge 21, 3) := by decide +kernel
theorem dX7_rounds_151 : decode cX7_rounds 151 = .ok (.aload_n 0, 1) := by decide +kernel
theorem dX7_rounds_152 : decode cX7_rounds 152 = .ok (.getfield 39, 3) := by decide +kernel
theorem dX7_rounds_155 : decode cX7_rounds 155 = .ok (.iload_n 3, 1) := by decide +kernel
theorem dX7_rounds_156 : decode cX7_rounds 156 = .ok (.aload_n 0, 1) := by decide +kernel
theorem dX7_rounds_157 : decode cX7_rounds 157 = .ok (.getfield 33, 3) := by decide +kernel
theorem dX7_rounds_160 : decode cX7_rounds 160 = .ok (.iload_n 3, 1) := by decide +kernel
theorem dX7_rounds_161 : decode cX7_rounds 161 = .ok (.iaload, 1) := by decide +kernel
theorem dX7_rounds_162 : decode cX7_rounds 162 = .ok (.iastore, 1) := by decide +kernel
theorem dX7_rounds_163 : decode cX7_rounds 163 = .ok (.iinc 3 1, 3) := by decide +kernel
theorem dX7_rounds_166 : decode cX7_rounds 166 = .ok (.goto (-23), 3) := by decide +kernel
theorem dX7_rounds_169 : decode cX7_rounds 169 = .ok (.return_, 1) := by decide +kernel
set_option maxRecDepth 20000 in
theorem ggX7_roundedMachine_X7_isJob : GoodIn wsX7_roundedMachine wsX7_isJob := goodIn_r _ [6, 7, 82, 83, 84, 85, 86, 87, 88, 89, 90, 91, 92, 93, 94, 95] (by decide +kernel) (by decide +kernel)
set_option maxRecDepth 20000 in
theorem gX7_roundedMachine_X7_isJob : GoodIn wsX7_roundedMachine (wsV RX7 64 RX7 yX7_isJob wsX7_isJob) := goodIn_app (goodIn_of _ (by decide +kernel)) ggX7_roundedMachine_X7_isJob
set_option maxRecDepth 20000 in
theorem ggX7_roundedMachine_X7_goes : GoodIn wsX7_roundedMachine wsX7_goes := goodIn_r _ [11, 12, 82, 83, 84, 85, 86, 87, 88, 89, 90, 91, 92, 93, 94, 95] (by decide +kernel) (by decide +kernel)
set_option maxRecDepth 20000 in
theorem gX7_roundedMachine_X7_goes : GoodIn wsX7_roundedMachine (wsV RX7 56 RX7 yX7_goes wsX7_goes) := goodIn_app (goodIn_of _ (by decide +kernel)) ggX7_roundedMachine_X7_goes
set_option maxRecDepth 20000 in
theorem ggX7_roundedMachine_X7_rounds : GoodIn wsX7_roundedMachine wsX7_rounds := goodIn_r _ [16, 7, 17, 1, 18, 19, 20, 5, 21, 22, 23, 24, 25, 26, 27, 28, 29, 30, 31, 32, 33, 34, 35, 36, 37, 38, 39, 40, 41, 42, 43, 44, 45, 46, 47, 48, 49, 50, 51, 52, 53, 54, 55, 56, 57, 58, 59, 60, 61, 62, 63, 64, 65, 66, 67, 68, 69, 70, 71, 72, 73, 74, 75, 76, 77, 78, 79, 80, 81, 82, 83, 84, 85, 86, 87, 88, 89, 90, 91, 92, 93, 94, 95] (by decide +kernel) (by decide +kernel)
set_option maxRecDepth 20000 in
theorem gX7_roundedMachine_X7_rounds : GoodIn wsX7_roundedMachine (wsV RX7 139 RX7 yX7_rounds wsX7_rounds) := goodIn_app (goodIn_of _ (by decide +kernel)) ggX7_roundedMachine_X7_rounds
theorem dX7_roundedMachine_0 : decode cX7_roundedMachine 0 = .ok (.aload_n 0, 1) := by decide +kernel
theorem dX7_roundedMachine_1 : decode cX7_roundedMachine 1 = .ok (.aload_n 0, 1) := by decide +kernel
theorem dX7_roundedMachine_2 : decode cX7_roundedMachine 2 = .ok (.iload_n 1, 1) := by decide +kernel
theorem dX7_roundedMachine_3 : decode cX7_roundedMachine 3 = .ok (.invokevirtual 64, 3) := by decide +kernel
theorem dX7_roundedMachine_6 : decode cX7_roundedMachine 6 = .ok (.iconst 1, 1) := by decide +kernel
theorem dX7_roundedMachine_7 : decode cX7_roundedMachine 7 = .ok (.iconst 1, 1) := by decide +kernel
theorem dX7_roundedMachine_8 : decode cX7_roundedMachine 8 = .ok (.invokevirtual 56, 3) := by decide +kernel
theorem dX7_roundedMachine_11 : decode cX7_roundedMachine 11 = .ok (.ifCond .ne 5, 3) := by decide +kernel
theorem dX7_roundedMachine_14 : decode cX7_roundedMachine 14 = .ok (.iconst 0, 1) := by decide +kernel
theorem dX7_roundedMachine_15 : decode cX7_roundedMachine 15 = .ok (.ireturn, 1) := by decide +kernel
theorem dX7_roundedMachine_16 : decode cX7_roundedMachine 16 = .ok (.aload_n 0, 1) := by decide +kernel
theorem dX7_roundedMachine_17 : decode cX7_roundedMachine 17 = .ok (.invokevirtual 139, 3) := by decide +kernel
theorem dX7_roundedMachine_20 : decode cX7_roundedMachine 20 = .ok (.aload_n 0, 1) := by decide +kernel
theorem dX7_roundedMachine_21 : decode cX7_roundedMachine 21 = .ok (.getfield 39, 3) := by decide +kernel
theorem dX7_roundedMachine_24 : decode cX7_roundedMachine 24 = .ok (.iload_n 1, 1) := by decide +kernel
theorem dX7_roundedMachine_25 : decode cX7_roundedMachine 25 = .ok (.iaload, 1) := by decide +kernel
theorem dX7_roundedMachine_26 : decode cX7_roundedMachine 26 = .ok (.ireturn, 1) := by decide +kernel
set_option maxRecDepth 20000 in
theorem ggX7_roundedLength_X7_rounds : GoodIn wsX7_roundedLength wsX7_rounds := goodIn_r _ [7, 8, 9, 2, 10, 11, 12, 6, 13, 14, 15, 16, 17, 18, 19, 20, 21, 22, 23, 24, 25, 26, 27, 28, 29, 30, 31, 32, 33, 34, 35, 36, 37, 38, 39, 40, 41, 42, 43, 44, 45, 46, 47, 48, 49, 50, 51, 52, 53, 54, 55, 56, 57, 58, 59, 60, 61, 62, 63, 64, 65, 66, 67, 68, 69, 70, 71, 72, 73, 79, 80, 81, 82, 83, 84, 85, 86, 87, 88, 89, 90, 91, 92] (by decide +kernel) (by decide +kernel)
set_option maxRecDepth 20000 in
theorem gX7_roundedLength_X7_rounds : GoodIn wsX7_roundedLength (wsV RX7 139 RX7 yX7_rounds wsX7_rounds) := goodIn_app (goodIn_of _ (by decide +kernel)) ggX7_roundedLength_X7_rounds
set_option maxRecDepth 20000 in
theorem ggX7_roundedLength_X7_measures : GoodIn wsX7_roundedLength wsX7_measures := goodIn_r _ [77, 78, 8, 31, 79, 80, 81, 82, 83, 84, 85, 86, 87, 88, 89, 90, 91, 92] (by decide +kernel) (by decide +kernel)
set_option maxRecDepth 20000 in
theorem gX7_roundedLength_X7_measures : GoodIn wsX7_roundedLength (wsV RX7 70 RX7 yX7_measures wsX7_measures) := goodIn_app (goodIn_of _ (by decide +kernel)) ggX7_roundedLength_X7_measures
theorem dX7_roundedLength_0 : decode cX7_roundedLength 0 = .ok (.aload_n 0, 1) := by decide +kernel
theorem dX7_roundedLength_1 : decode cX7_roundedLength 1 = .ok (.iconst 0, 1) := by decide +kernel
theorem dX7_roundedLength_2 : decode cX7_roundedLength 2 = .ok (.putfield 45, 3) := by decide +kernel
theorem dX7_roundedLength_5 : decode cX7_roundedLength 5 = .ok (.aload_n 0, 1) := by decide +kernel
theorem dX7_roundedLength_6 : decode cX7_roundedLength 6 = .ok (.invokevirtual 139, 3) := by decide +kernel
theorem dX7_roundedLength_9 : decode cX7_roundedLength 9 = .ok (.aload_n 0, 1) := by decide +kernel
theorem dX7_roundedLength_10 : decode cX7_roundedLength 10 = .ok (.aload_n 0, 1) := by decide +kernel
theorem dX7_roundedLength_11 : decode cX7_roundedLength 11 = .ok (.getfield 39, 3) := by decide +kernel
theorem dX7_roundedLength_14 : decode cX7_roundedLength 14 = .ok (.invokevirtual 70, 3) := by decide +kernel
theorem dX7_roundedLength_17 : decode cX7_roundedLength 17 = .ok (.ireturn, 1) := by decide +kernel
set_option maxRecDepth 20000 in
theorem ggX7_excess_X7_rounds : GoodIn wsX7_excess wsX7_rounds := goodIn_r _ [8, 3, 9, 2, 10, 11, 12, 7, 13, 14, 15, 16, 17, 18, 19, 20, 21, 22, 23, 24, 25, 26, 27, 28, 29, 30, 31, 32, 33, 34, 35, 36, 37, 38, 39, 40, 41, 42, 43, 44, 45, 46, 47, 48, 49, 50, 51, 52, 53, 54, 55, 56, 57, 58, 59, 60, 61, 62, 63, 64, 65, 66, 67, 68, 69, 70, 71, 72, 73, 84, 85, 86, 87, 88, 89, 90, 91, 92, 93, 94, 95, 96, 97] (by decide +kernel) (by decide +kernel)
set_option maxRecDepth 20000 in
theorem gX7_excess_X7_rounds : GoodIn wsX7_excess (wsV RX7 139 RX7 yX7_rounds wsX7_rounds) := goodIn_app (goodIn_of _ (by decide +kernel)) ggX7_excess_X7_rounds
set_option maxRecDepth 20000 in
theorem ggX7_excess_X7_measures : GoodIn wsX7_excess wsX7_measures := goodIn_r _ [77, 78, 3, 31, 84, 85, 86, 87, 88, 89, 90, 91, 92, 93, 94, 95, 96, 97] (by decide +kernel) (by decide +kernel)
set_option maxRecDepth 20000 in
theorem gX7_excess_X7_measures : GoodIn wsX7_excess (wsV RX7 70 RX7 yX7_measures wsX7_measures) := goodIn_app (goodIn_of _ (by decide +kernel)) ggX7_excess_X7_measures
set_option maxRecDepth 20000 in
theorem ggX7_excess_X7_shortestOf : GoodIn wsX7_excess wsX7_shortestOf := goodIn_r _ [82, 3, 9, 31, 83, 74, 75, 76, 7, 77, 78, 84, 85, 86, 87, 88, 89, 90, 91, 92, 93, 94, 95, 96, 97] (by decide +kernel) (by decide +kernel)
set_option maxRecDepth 20000 in
theorem gX7_excess_X7_shortestOf : GoodIn wsX7_excess (wsV RX7 74 RX7 yX7_shortestOf wsX7_shortestOf) := goodIn_app (goodIn_of _ (by decide +kernel)) ggX7_excess_X7_shortestOf
theorem dX7_excess_0 : decode cX7_excess 0 = .ok (.aload_n 0, 1) := by decide +kernel
theorem dX7_excess_1 : decode cX7_excess 1 = .ok (.iconst 0, 1) := by decide +kernel
theorem dX7_excess_2 : decode cX7_excess 2 = .ok (.putfield 45, 3) := by decide +kernel
theorem dX7_excess_5 : decode cX7_excess 5 = .ok (.aload_n 0, 1) := by decide +kernel
theorem dX7_excess_6 : decode cX7_excess 6 = .ok (.invokevirtual 139, 3) := by decide +kernel
theorem dX7_excess_9 : decode cX7_excess 9 = .ok (.aload_n 0, 1) := by decide +kernel
theorem dX7_excess_10 : decode cX7_excess 10 = .ok (.aload_n 0, 1) := by decide +kernel
theorem dX7_excess_11 : decode cX7_excess 11 = .ok (.getfield 39, 3) := by decide +kernel
theorem dX7_excess_14 : decode cX7_excess 14 = .ok (.invokevirtual 70, 3) := by decide +kernel
theorem dX7_excess_17 : decode cX7_excess 17 = .ok (.istore_n 1, 1) := by decide +kernel
theorem dX7_excess_18 : decode cX7_excess 18 = .ok (.aload_n 0, 1) := by decide +kernel
theorem dX7_excess_19 : decode cX7_excess 19 = .ok (.getfield 49, 3) := by decide +kernel
theorem dX7_excess_22 : decode cX7_excess 22 = .ok (.ifCond .ne 7, 3) := by decide +kernel
theorem dX7_excess_25 : decode cX7_excess 25 = .ok (.fconst 1, 1) := by decide +kernel
theorem dX7_excess_26 : decode cX7_excess 26 = .ok (.goto 11, 3) := by decide +kernel
theorem dX7_excess_29 : decode cX7_excess 29 = .ok (.iload_n 1, 1) := by decide +kernel
theorem dX7_excess_30 : decode cX7_excess 30 = .ok (.i2f, 1) := by decide +kernel
theorem dX7_excess_31 : decode cX7_excess 31 = .ok (.aload_n 0, 1) := by decide +kernel
theorem dX7_excess_32 : decode cX7_excess 32 = .ok (.invokevirtual 74, 3) := by decide +kernel
theorem dX7_excess_35 : decode cX7_excess 35 = .ok (.i2f, 1) := by decide +kernel
theorem dX7_excess_36 : decode cX7_excess 36 = .ok (.fdiv, 1) := by decide +kernel
theorem dX7_excess_37 : decode cX7_excess 37 = .ok (.freturn, 1) := by decide +kernel
set_option maxRecDepth 20000 in
theorem ggX7_assign_X7_isJob : GoodIn wsX7_assign wsX7_isJob := goodIn_r _ [7, 8, 17, 18, 19, 20, 21, 22, 23, 24, 25, 26, 27, 28, 29, 30] (by decide +kernel) (by decide +kernel)
set_option maxRecDepth 20000 in
theorem gX7_assign_X7_isJob : GoodIn wsX7_assign (wsV RX7 64 RX7 yX7_isJob wsX7_isJob) := goodIn_app (goodIn_of _ (by decide +kernel)) ggX7_assign_X7_isJob
set_option maxRecDepth 20000 in
theorem ggX7_assign_X7_isMachine : GoodIn wsX7_assign wsX7_isMachine := goodIn_r _ [11] (by decide +kernel) (by decide +kernel)
set_option maxRecDepth 20000 in
theorem gX7_assign_X7_isMachine : GoodIn wsX7_assign (va_wsS RX7 67 yX7_isMachine wsX7_isMachine) := goodIn_app (goodIn_of _ (by decide +kernel)) ggX7_assign_X7_isMachine
set_option maxRecDepth 20000 in
theorem ggX7_assign_X7_goes : GoodIn wsX7_assign wsX7_goes := goodIn_r _ [15, 16, 17, 18, 19, 20, 21, 22, 23, 24, 25, 26, 27, 28, 29, 30] (by decide +kernel) (by decide +kernel)
set_option maxRecDepth 20000 in
theorem gX7_assign_X7_goes : GoodIn wsX7_assign (wsV RX7 56 RX7 yX7_goes wsX7_goes) := goodIn_app (goodIn_of _ (by decide +kernel)) ggX7_assign_X7_goes
theorem dX7_assign_0 : decode cX7_assign 0 = .ok (.aload_n 0, 1) := by decide +kernel
theorem dX7_assign_1 : decode cX7_assign 1 = .ok (.iload_n 1, 1) := by decide +kernel
theorem dX7_assign_2 : decode cX7_assign 2 = .ok (.invokevirtual 64, 3) := by decide +kernel
theorem dX7_assign_5 : decode cX7_assign 5 = .ok (.ifCond .eq 14, 3) := by decide +kernel
theorem dX7_assign_8 : decode cX7_assign 8 = .ok (.iload_n 2, 1) := by decide +kernel
theorem dX7_assign_9 : decode cX7_assign 9 = .ok (.invokestatic 67, 3) := by decide +kernel
theorem dX7_assign_12 : decode cX7_assign 12 = .ok (.ifCond .eq 7, 3) := by decide +kernel
theorem dX7_assign_15 : decode cX7_assign 15 = .ok (.iconst 1, 1) := by decide +kernel
theorem dX7_assign_16 : decode cX7_assign 16 = .ok (.goto 4, 3) := by decide +kernel
theorem dX7_assign_19 : decode cX7_assign 19 = .ok (.iconst 0, 1) := by decide +kernel
theorem dX7_assign_20 : decode cX7_assign 20 = .ok (.istore_n 3, 1) := by decide +kernel
theorem dX7_assign_21 : decode cX7_assign 21 = .ok (.aload_n 0, 1) := by decide +kernel
theorem dX7_assign_22 : decode cX7_assign 22 = .ok (.iload_n 3, 1) := by decide +kernel
theorem dX7_assign_23 : decode cX7_assign 23 = .ok (.iload_n 3, 1) := by decide +kernel
theorem dX7_assign_24 : decode cX7_assign 24 = .ok (.ifCond .eq 20, 3) := by decide +kernel
theorem dX7_assign_27 : decode cX7_assign 27 = .ok (.aload_n 0, 1) := by decide +kernel
theorem dX7_assign_28 : decode cX7_assign 28 = .ok (.getfield 7, 3) := by decide +kernel
theorem dX7_assign_31 : decode cX7_assign 31 = .ok (.iconst 3, 1) := by decide +kernel
theorem dX7_assign_32 : decode cX7_assign 32 = .ok (.iload_n 1, 1) := by decide +kernel
theorem dX7_assign_33 : decode cX7_assign 33 = .ok (.imul, 1) := by decide +kernel
theorem dX7_assign_34 : decode cX7_assign 34 = .ok (.iload_n 2, 1) := by decide +kernel
theorem dX7_assign_35 : decode cX7_assign 35 = .ok (.iadd, 1) := by decide +kernel
theorem dX7_assign_36 : decode cX7_assign 36 = .ok (.iaload, 1) := by decide +kernel
theorem dX7_assign_37 : decode cX7_assign 37 = .ok (.ifCond .le 7, 3) := by decide +kernel
theorem dX7_assign_40 : decode cX7_assign 40 = .ok (.iconst 1, 1) := by decide +kernel
theorem dX7_assign_41 : decode cX7_assign 41 = .ok (.goto 4, 3) := by decide +kernel
theorem dX7_assign_44 : decode cX7_assign 44 = .ok (.iconst 0, 1) := by decide +kernel
theorem dX7_assign_45 : decode cX7_assign 45 = .ok (.iconst 1, 1) := by decide +kernel
theorem dX7_assign_46 : decode cX7_assign 46 = .ok (.invokevirtual 56, 3) := by decide +kernel
theorem dX7_assign_49 : decode cX7_assign 49 = .ok (.ifCond .ne 5, 3) := by decide +kernel
theorem dX7_assign_52 : decode cX7_assign 52 = .ok (.iconst 0, 1) := by decide +kernel
theorem dX7_assign_53 : decode cX7_assign 53 = .ok (.ireturn, 1) := by decide +kernel
theorem dX7_assign_54 : decode cX7_assign 54 = .ok (.aload_n 0, 1) := by decide +kernel
theorem dX7_assign_55 : decode cX7_assign 55 = .ok (.getfield 13, 3) := by decide +kernel
theorem dX7_assign_58 : decode cX7_assign 58 = .ok (.iload_n 1, 1) := by decide +kernel
theorem dX7_assign_59 : decode cX7_assign 59 = .ok (.iaload, 1) := by decide +kernel
theorem dX7_assign_60 : decode cX7_assign 60 = .ok (.istore 4, 2) := by decide +kernel
theorem dX7_assign_62 : decode cX7_assign 62 = .ok (.aload_n 0, 1) := by decide +kernel
theorem dX7_assign_63 : decode cX7_assign 63 = .ok (.getfield 13, 3) := by decide +kernel
theorem dX7_assign_66 : decode cX7_assign 66 = .ok (.iload_n 1, 1) := by decide +kernel
theorem dX7_assign_67 : decode cX7_assign 67 = .ok (.iload_n 2, 1) := by decide +kernel
theorem dX7_assign_68 : decode cX7_assign 68 = .ok (.iastore, 1) := by decide +kernel
theorem dX7_assign_69 : decode cX7_assign 69 = .ok (.iload 4, 2) := by decide +kernel
theorem dX7_assign_71 : decode cX7_assign 71 = .ok (.ireturn, 1) := by decide +kernel
set_option maxRecDepth 20000 in
theorem ggX7_machine_X7_isJob : GoodIn wsX7_machine wsX7_isJob := goodIn_r _ [6, 7, 13, 14, 15, 16, 17, 18, 19, 20, 21, 22, 23, 24, 25, 26] (by decide +kernel) (by decide +kernel)
set_option maxRecDepth 20000 in
theorem gX7_machine_X7_isJob : GoodIn wsX7_machine (wsV RX7 64 RX7 yX7_isJob wsX7_isJob) := goodIn_app (goodIn_of _ (by decide +kernel)) ggX7_machine_X7_isJob
set_option maxRecDepth 20000 in
theorem ggX7_machine_X7_goes : GoodIn wsX7_machine wsX7_goes := goodIn_r _ [11, 12, 13, 14, 15, 16, 17, 18, 19, 20, 21, 22, 23, 24, 25, 26] (by decide +kernel) (by decide +kernel)
set_option maxRecDepth 20000 in
theorem gX7_machine_X7_goes : GoodIn wsX7_machine (wsV RX7 56 RX7 yX7_goes wsX7_goes) := goodIn_app (goodIn_of _ (by decide +kernel)) ggX7_machine_X7_goes
theorem dX7_machine_0 : decode cX7_machine 0 = .ok (.aload_n 0, 1) := by decide +kernel
theorem dX7_machine_1 : decode cX7_machine 1 = .ok (.aload_n 0, 1) := by decide +kernel
theorem dX7_machine_2 : decode cX7_machine 2 = .ok (.iload_n 1, 1) := by decide +kernel
theorem dX7_machine_3 : decode cX7_machine 3 = .ok (.invokevirtual 64, 3) := by decide +kernel
theorem dX7_machine_6 : decode cX7_machine 6 = .ok (.iconst 1, 1) := by decide +kernel
theorem dX7_machine_7 : decode cX7_machine 7 = .ok (.iconst 1, 1) := by decide +kernel
theorem dX7_machine_8 : decode cX7_machine 8 = .ok (.invokevirtual 56, 3) := by decide +kernel
theorem dX7_machine_11 : decode cX7_machine 11 = .ok (.ifCond .eq 12, 3) := by decide +kernel
theorem dX7_machine_14 : decode cX7_machine 14 = .ok (.aload_n 0, 1) := by decide +kernel
theorem dX7_machine_15 : decode cX7_machine 15 = .ok (.getfield 13, 3) := by decide +kernel
theorem dX7_machine_18 : decode cX7_machine 18 = .ok (.iload_n 1, 1) := by decide +kernel
theorem dX7_machine_19 : decode cX7_machine 19 = .ok (.iaload, 1) := by decide +kernel
theorem dX7_machine_20 : decode cX7_machine 20 = .ok (.goto 4, 3) := by decide +kernel
theorem dX7_machine_23 : decode cX7_machine 23 = .ok (.iconst 0, 1) := by decide +kernel
theorem dX7_machine_24 : decode cX7_machine 24 = .ok (.ireturn, 1) := by decide +kernel
set_option maxRecDepth 20000 in
theorem ggX7_load_X7_isMachine : GoodIn wsX7_load wsX7_isMachine := goodIn_r _ [6] (by decide +kernel) (by decide +kernel)
set_option maxRecDepth 20000 in
theorem gX7_load_X7_isMachine : GoodIn wsX7_load (va_wsS RX7 67 yX7_isMachine wsX7_isMachine) := goodIn_app (goodIn_of _ (by decide +kernel)) ggX7_load_X7_isMachine
set_option maxRecDepth 20000 in
theorem ggX7_load_X7_goes : GoodIn wsX7_load wsX7_goes := goodIn_r _ [10, 11, 18, 19, 20, 21, 22, 23, 24, 25, 26, 27, 28, 29, 30, 31] (by decide +kernel) (by decide +kernel)
set_option maxRecDepth 20000 in
theorem gX7_load_X7_goes : GoodIn wsX7_load (wsV RX7 56 RX7 yX7_goes wsX7_goes) := goodIn_app (goodIn_of _ (by decide +kernel)) ggX7_load_X7_goes
set_option maxRecDepth 20000 in
theorem ggX7_load_X7_measures : GoodIn wsX7_load wsX7_measures := goodIn_r _ [15, 2, 16, 17, 18, 19, 20, 21, 22, 23, 24, 25, 26, 27, 28, 29, 30, 31] (by decide +kernel) (by decide +kernel)
set_option maxRecDepth 20000 in
theorem gX7_load_X7_measures : GoodIn wsX7_load (wsV RX7 70 RX7 yX7_measures wsX7_measures) := goodIn_app (goodIn_of _ (by decide +kernel)) ggX7_load_X7_measures
theorem dX7_load_0 : decode cX7_load 0 = .ok (.aload_n 0, 1) := by decide +kernel
theorem dX7_load_1 : decode cX7_load 1 = .ok (.iload_n 1, 1) := by decide +kernel
theorem dX7_load_2 : decode cX7_load 2 = .ok (.invokestatic 67, 3) := by decide +kernel
theorem dX7_load_5 : decode cX7_load 5 = .ok (.iconst 1, 1) := by decide +kernel
theorem dX7_load_6 : decode cX7_load 6 = .ok (.iconst 1, 1) := by decide +kernel
theorem dX7_load_7 : decode cX7_load 7 = .ok (.invokevirtual 56, 3) := by decide +kernel
theorem dX7_load_10 : decode cX7_load 10 = .ok (.ifCond .ne 5, 3) := by decide +kernel
theorem dX7_load_13 : decode cX7_load 13 = .ok (.iconst 0, 1) := by decide +kernel
theorem dX7_load_14 : decode cX7_load 14 = .ok (.ireturn, 1) := by decide +kernel
theorem dX7_load_15 : decode cX7_load 15 = .ok (.aload_n 0, 1) := by decide +kernel
theorem dX7_load_16 : decode cX7_load 16 = .ok (.aload_n 0, 1) := by decide +kernel
theorem dX7_load_17 : decode cX7_load 17 = .ok (.getfield 13, 3) := by decide +kernel
theorem dX7_load_20 : decode cX7_load 20 = .ok (.invokevirtual 70, 3) := by decide +kernel
theorem dX7_load_23 : decode cX7_load 23 = .ok (.pop, 1) := by decide +kernel
theorem dX7_load_24 : decode cX7_load 24 = .ok (.aload_n 0, 1) := by decide +kernel
theorem dX7_load_25 : decode cX7_load 25 = .ok (.getfield 42, 3) := by decide +kernel
theorem dX7_load_28 : decode cX7_load 28 = .ok (.iload_n 1, 1) := by decide +kernel
theorem dX7_load_29 : decode cX7_load 29 = .ok (.iaload, 1) := by decide +kernel
theorem dX7_load_30 : decode cX7_load 30 = .ok (.ireturn, 1) := by decide +kernel
set_option maxRecDepth 20000 in
theorem ggX7_length_X7_measures : GoodIn wsX7_length wsX7_measures := goodIn_r _ [7, 8, 9, 10, 11, 12, 13, 14, 15, 16, 17, 18, 19, 20, 21, 22, 23, 24] (by decide +kernel) (by decide +kernel)
set_option maxRecDepth 20000 in
theorem gX7_length_X7_measures : GoodIn wsX7_length (wsV RX7 70 RX7 yX7_measures wsX7_measures) := goodIn_app (goodIn_of _ (by decide +kernel)) ggX7_length_X7_measures
theorem dX7_length_0 : decode cX7_length 0 = .ok (.aload_n 0, 1) := by decide +kernel
theorem dX7_length_1 : decode cX7_length 1 = .ok (.iconst 0, 1) := by decide +kernel
theorem dX7_length_2 : decode cX7_length 2 = .ok (.putfield 45, 3) := by decide +kernel
theorem dX7_length_5 : decode cX7_length 5 = .ok (.aload_n 0, 1) := by decide +kernel
theorem dX7_length_6 : decode cX7_length 6 = .ok (.aload_n 0, 1) := by decide +kernel
theorem dX7_length_7 : decode cX7_length 7 = .ok (.getfield 13, 3) := by decide +kernel
theorem dX7_length_10 : decode cX7_length 10 = .ok (.invokevirtual 70, 3) := by decide +kernel
theorem dX7_length_13 : decode cX7_length 13 = .ok (.ireturn, 1) := by decide +kernel
set_option maxRecDepth 20000 in
theorem ggX7_rank_X7_measures : GoodIn wsX7_rank wsX7_measures := goodIn_r _ [8, 2, 9, 10, 11, 12, 13, 14, 15, 16, 17, 18, 19, 20, 21, 22, 23, 24] (by decide +kernel) (by decide +kernel)
set_option maxRecDepth 20000 in
theorem gX7_rank_X7_measures : GoodIn wsX7_rank (wsV RX7 70 RX7 yX7_measures wsX7_measures) := goodIn_app (goodIn_of _ (by decide +kernel)) ggX7_rank_X7_measures
theorem dX7_rank_0 : decode cX7_rank 0 = .ok (.aload_n 0, 1) := by decide +kernel
theorem dX7_rank_1 : decode cX7_rank 1 = .ok (.aload_n 0, 1) := by decide +kernel
theorem dX7_rank_2 : decode cX7_rank 2 = .ok (.getfield 13, 3) := by decide +kernel
theorem dX7_rank_5 : decode cX7_rank 5 = .ok (.invokevirtual 70, 3) := by decide +kernel
theorem dX7_rank_8 : decode cX7_rank 8 = .ok (.istore_n 1, 1) := by decide +kernel
theorem dX7_rank_9 : decode cX7_rank 9 = .ok (.aload_n 0, 1) := by decide +kernel
theorem dX7_rank_10 : decode cX7_rank 10 = .ok (.getfield 42, 3) := by decide +kernel
theorem dX7_rank_13 : decode cX7_rank 13 = .ok (.iconst 0, 1) := by decide +kernel
theorem dX7_rank_14 : decode cX7_rank 14 = .ok (.iaload, 1) := by decide +kernel
theorem dX7_rank_15 : decode cX7_rank 15 = .ok (.aload_n 0, 1) := by decide +kernel
theorem dX7_rank_16 : decode cX7_rank 16 = .ok (.getfield 42, 3) := by decide +kernel
theorem dX7_rank_19 : decode cX7_rank 19 = .ok (.iconst 1, 1) := by decide +kernel
theorem dX7_rank_20 : decode cX7_rank 20 = .ok (.iaload, 1) := by decide +kernel
theorem dX7_rank_21 : decode cX7_rank 21 = .ok (.if_icmp .ge 12, 3) := by decide +kernel
theorem dX7_rank_24 : decode cX7_rank 24 = .ok (.aload_n 0, 1) := by decide +kernel
theorem dX7_rank_25 : decode cX7_rank 25 = .ok (.getfield 42, 3) := by decide +kernel
theorem dX7_rank_28 : decode cX7_rank 28 = .ok (.iconst 0, 1) := by decide +kernel
theorem dX7_rank_29 : decode cX7_rank 29 = .ok (.iaload, 1) := by decide +kernel
theorem dX7_rank_30 : decode cX7_rank 30 = .ok (.goto 9, 3) := by decide +kernel
theorem dX7_rank_33 : decode cX7_rank 33 = .ok (.aload_n 0, 1) := by decide +kernel
theorem dX7_rank_34 : decode cX7_rank 34 = .ok (.getfield 42, 3) := by decide +kernel
theorem dX7_rank_37 : decode cX7_rank 37 = .ok (.iconst 1, 1) := by decide +kernel
theorem dX7_rank_38 : decode cX7_rank 38 = .ok (.iaload, 1) := by decide +kernel
theorem dX7_rank_39 : decode cX7_rank 39 = .ok (.istore_n 2, 1) := by decide +kernel
theorem dX7_rank_40 : decode cX7_rank 40 = .ok (.aload_n 0, 1) := by decide +kernel
theorem dX7_rank_41 : decode cX7_rank 41 = .ok (.getfield 42, 3) := by decide +kernel
theorem dX7_rank_44 : decode cX7_rank 44 = .ok (.iconst 2, 1) := by decide +kernel
theorem dX7_rank_45 : decode cX7_rank 45 = .ok (.iaload, 1) := by decide +kernel
theorem dX7_rank_46 : decode cX7_rank 46 = .ok (.iload_n 2, 1) := by decide +kernel
theorem dX7_rank_47 : decode cX7_rank 47 = .ok (.if_icmp .ge 12, 3) := by decide +kernel
theorem dX7_rank_50 : decode cX7_rank 50 = .ok (.aload_n 0, 1) := by decide +kernel
theorem dX7_rank_51 : decode cX7_rank 51 = .ok (.getfield 42, 3) := by decide +kernel
theorem dX7_rank_54 : decode cX7_rank 54 = .ok (.iconst 2, 1) := by decide +kernel
theorem dX7_rank_55 : decode cX7_rank 55 = .ok (.iaload, 1) := by decide +kernel
theorem dX7_rank_56 : decode cX7_rank 56 = .ok (.goto 4, 3) := by decide +kernel
theorem dX7_rank_59 : decode cX7_rank 59 = .ok (.iload_n 2, 1) := by decide +kernel
theorem dX7_rank_60 : decode cX7_rank 60 = .ok (.istore_n 2, 1) := by decide +kernel
theorem dX7_rank_61 : decode cX7_rank 61 = .ok (.aload_n 0, 1) := by decide +kernel
theorem dX7_rank_62 : decode cX7_rank 62 = .ok (.getfield 42, 3) := by decide +kernel
theorem dX7_rank_65 : decode cX7_rank 65 = .ok (.iconst 0, 1) := by decide +kernel
theorem dX7_rank_66 : decode cX7_rank 66 = .ok (.iaload, 1) := by decide +kernel
theorem dX7_rank_67 : decode cX7_rank 67 = .ok (.aload_n 0, 1) := by decide +kernel
theorem dX7_rank_68 : decode cX7_rank 68 = .ok (.getfield 42, 3) := by decide +kernel
theorem dX7_rank_71 : decode cX7_rank 71 = .ok (.iconst 1, 1) := by decide +kernel
theorem dX7_rank_72 : decode cX7_rank 72 = .ok (.iaload, 1) := by decide +kernel
theorem dX7_rank_73 : decode cX7_rank 73 = .ok (.iadd, 1) := by decide +kernel
theorem dX7_rank_74 : decode cX7_rank 74 = .ok (.aload_n 0, 1) := by decide +kernel
theorem dX7_rank_75 : decode cX7_rank 75 = .ok (.getfield 42, 3) := by decide +kernel
theorem dX7_rank_78 : decode cX7_rank 78 = .ok (.iconst 2, 1) := by decide +kernel
theorem dX7_rank_79 : decode cX7_rank 79 = .ok (.iaload, 1) := by decide +kernel
theorem dX7_rank_80 : decode cX7_rank 80 = .ok (.iadd, 1) := by decide +kernel
theorem dX7_rank_81 : decode cX7_rank 81 = .ok (.iload_n 1, 1) := by decide +kernel
theorem dX7_rank_82 : decode cX7_rank 82 = .ok (.isub, 1) := by decide +kernel
theorem dX7_rank_83 : decode cX7_rank 83 = .ok (.iload_n 2, 1) := by decide +kernel
theorem dX7_rank_84 : decode cX7_rank 84 = .ok (.isub, 1) := by decide +kernel
theorem dX7_rank_85 : decode cX7_rank 85 = .ok (.istore_n 3, 1) := by decide +kernel
theorem dX7_rank_86 : decode cX7_rank 86 = .ok (.ldc 142, 2) := by decide +kernel
theorem dX7_rank_88 : decode cX7_rank 88 = .ok (.iload_n 1, 1) := by decide +kernel
theorem dX7_rank_89 : decode cX7_rank 89 = .ok (.imul, 1) := by decide +kernel
theorem dX7_rank_90 : decode cX7_rank 90 = .ok (.sipush 1000, 3) := by decide +kernel
theorem dX7_rank_93 : decode cX7_rank 93 = .ok (.iload_n 3, 1) := by decide +kernel
theorem dX7_rank_94 : decode cX7_rank 94 = .ok (.imul, 1) := by decide +kernel
theorem dX7_rank_95 : decode cX7_rank 95 = .ok (.iadd, 1) := by decide +kernel
theorem dX7_rank_96 : decode cX7_rank 96 = .ok (.iload_n 2, 1) := by decide +kernel
theorem dX7_rank_97 : decode cX7_rank 97 = .ok (.iadd, 1) := by decide +kernel
theorem dX7_rank_98 : decode cX7_rank 98 = .ok (.ireturn, 1) := by decide +kernel
theorem dX7_swaps_0 : decode cX7_swaps 0 = .ok (.aload_n 0, 1) := by decide +kernel
theorem dX7_swaps_1 : decode cX7_swaps 1 = .ok (.getfield 13, 3) := by decide +kernel
theorem dX7_swaps_4 : decode cX7_swaps 4 = .ok (.iload_n 1, 1) := by decide +kernel
theorem dX7_swaps_5 : decode cX7_swaps 5 = .ok (.iaload, 1) := by decide +kernel
theorem dX7_swaps_6 : decode cX7_swaps 6 = .ok (.istore_n 3, 1) := by decide +kernel
theorem dX7_swaps_7 : decode cX7_swaps 7 = .ok (.aload_n 0, 1) := by decide +kernel
theorem dX7_swaps_8 : decode cX7_swaps 8 = .ok (.getfield 13, 3) := by decide +kernel
theorem dX7_swaps_11 : decode cX7_swaps 11 = .ok (.iload_n 1, 1) := by decide +kernel
theorem dX7_swaps_12 : decode cX7_swaps 12 = .ok (.aload_n 0, 1) := by decide +kernel
theorem dX7_swaps_13 : decode cX7_swaps 13 = .ok (.getfield 13, 3) := by decide +kernel
theorem dX7_swaps_16 : decode cX7_swaps 16 = .ok (.iload_n 2, 1) := by decide +kernel
theorem dX7_swaps_17 : decode cX7_swaps 17 = .ok (.iaload, 1) := by decide +kernel
theorem dX7_swaps_18 : decode cX7_swaps 18 = .ok (.iastore, 1) := by decide +kernel
theorem dX7_swaps_19 : decode cX7_swaps 19 = .ok (.aload_n 0, 1) := by decide +kernel
theorem dX7_swaps_20 : decode cX7_swaps 20 = .ok (.getfield 13, 3) := by decide +kernel
theorem dX7_swaps_23 : decode cX7_swaps 23 = .ok (.iload_n 2, 1) := by decide +kernel
theorem dX7_swaps_24 : decode cX7_swaps 24 = .ok (.iload_n 3, 1) := by decide +kernel
theorem dX7_swaps_25 : decode cX7_swaps 25 = .ok (.iastore, 1) := by decide +kernel
theorem dX7_swaps_26 : decode cX7_swaps 26 = .ok (.return_, 1) := by decide +kernel
theorem dX7_canSwap_0 : decode cX7_canSwap 0 = .ok (.aload_n 0, 1) := by decide +kernel
theorem dX7_canSwap_1 : decode cX7_canSwap 1 = .ok (.getfield 13, 3) := by decide +kernel
theorem dX7_canSwap_4 : decode cX7_canSwap 4 = .ok (.iload_n 1, 1) := by decide +kernel
theorem dX7_canSwap_5 : decode cX7_canSwap 5 = .ok (.iaload, 1) := by decide +kernel
theorem dX7_canSwap_6 : decode cX7_canSwap 6 = .ok (.aload_n 0, 1) := by decide +kernel
theorem dX7_canSwap_7 : decode cX7_canSwap 7 = .ok (.getfield 13, 3) := by decide +kernel
theorem dX7_canSwap_10 : decode cX7_canSwap 10 = .ok (.iload_n 2, 1) := by decide +kernel
theorem dX7_canSwap_11 : decode cX7_canSwap 11 = .ok (.iaload, 1) := by decide +kernel
theorem dX7_canSwap_12 : decode cX7_canSwap 12 = .ok (.if_icmp .eq 43, 3) := by decide +kernel
theorem dX7_canSwap_15 : decode cX7_canSwap 15 = .ok (.aload_n 0, 1) := by decide +kernel
theorem dX7_canSwap_16 : decode cX7_canSwap 16 = .ok (.getfield 7, 3) := by decide +kernel
theorem dX7_canSwap_19 : decode cX7_canSwap 19 = .ok (.iconst 3, 1) := by decide +kernel
theorem dX7_canSwap_20 : decode cX7_canSwap 20 = .ok (.iload_n 1, 1) := by decide +kernel
theorem dX7_canSwap_21 : decode cX7_canSwap 21 = .ok (.imul, 1) := by decide +kernel
theorem dX7_canSwap_22 : decode cX7_canSwap 22 = .ok (.aload_n 0, 1) := by decide +kernel
theorem dX7_canSwap_23 : decode cX7_canSwap 23 = .ok (.getfield 13, 3) := by decide +kernel
theorem dX7_canSwap_26 : decode cX7_canSwap 26 = .ok (.iload_n 2, 1) := by decide +kernel
theorem dX7_canSwap_27 : decode cX7_canSwap 27 = .ok (.iaload, 1) := by decide +kernel
theorem dX7_canSwap_28 : decode cX7_canSwap 28 = .ok (.iadd, 1) := by decide +kernel
theorem dX7_canSwap_29 : decode cX7_canSwap 29 = .ok (.iaload, 1) := by decide +kernel
theorem dX7_canSwap_30 : decode cX7_canSwap 30 = .ok (.ifCond .le 25, 3) := by decide +kernel
theorem dX7_canSwap_33 : decode cX7_canSwap 33 = .ok (.aload_n 0, 1) := by decide +kernel
theorem dX7_canSwap_34 : decode cX7_canSwap 34 = .ok (.getfield 7, 3) := by decide +kernel
theorem dX7_canSwap_37 : decode cX7_canSwap 37 = .ok (.iconst 3, 1) := by decide +kernel
theorem dX7_canSwap_38 : decode cX7_canSwap 38 = .ok (.iload_n 2, 1) := by decide +kernel
theorem dX7_canSwap_39 : decode cX7_canSwap 39 = .ok (.imul, 1) := by decide +kernel
theorem dX7_canSwap_40 : decode cX7_canSwap 40 = .ok (.aload_n 0, 1) := by decide +kernel
theorem dX7_canSwap_41 : decode cX7_canSwap 41 = .ok (.getfield 13, 3) := by decide +kernel
theorem dX7_canSwap_44 : decode cX7_canSwap 44 = .ok (.iload_n 1, 1) := by decide +kernel
theorem dX7_canSwap_45 : decode cX7_canSwap 45 = .ok (.iaload, 1) := by decide +kernel
theorem dX7_canSwap_46 : decode cX7_canSwap 46 = .ok (.iadd, 1) := by decide +kernel
theorem dX7_canSwap_47 : decode cX7_canSwap 47 = .ok (.iaload, 1) := by decide +kernel
theorem dX7_canSwap_48 : decode cX7_canSwap 48 = .ok (.ifCond .le 7, 3) := by decide +kernel
theorem dX7_canSwap_51 : decode cX7_canSwap 51 = .ok (.iconst 1, 1) := by decide +kernel
theorem dX7_canSwap_52 : decode cX7_canSwap 52 = .ok (.goto 4, 3) := by decide +kernel
theorem dX7_canSwap_55 : decode cX7_canSwap 55 = .ok (.iconst 0, 1) := by decide +kernel
theorem dX7_canSwap_56 : decode cX7_canSwap 56 = .ok (.ireturn, 1) := by decide +kernel
set_option maxRecDepth 20000 in
theorem ggX7_improve_X7_rank : GoodIn wsX7_improve wsX7_rank := goodIn_r _ [9, 3, 10, 11, 12, 13, 14, 8, 15, 2, 4, 24, 25, 26, 27, 28, 29, 30, 31, 32, 33, 34, 35, 36, 37] (by decide +kernel) (by decide +kernel)
set_option maxRecDepth 20000 in
theorem gX7_improve_X7_rank : GoodIn wsX7_improve (wsV RX7 143 RX7 yX7_rank wsX7_rank) := goodIn_app (goodIn_of _ (by decide +kernel)) ggX7_improve_X7_rank
set_option maxRecDepth 20000 in
theorem ggX7_improve_X7_canSwap : GoodIn wsX7_improve wsX7_canSwap := goodIn_r _ [19, 3, 4, 24, 25, 26, 27, 28, 29, 30, 31, 32, 33, 34, 35, 36, 37] (by decide +kernel) (by decide +kernel)
set_option maxRecDepth 20000 in
theorem gX7_improve_X7_canSwap : GoodIn wsX7_improve (wsV RX7 146 RX7 yX7_canSwap wsX7_canSwap) := goodIn_app (goodIn_of _ (by decide +kernel)) ggX7_improve_X7_canSwap
set_option maxRecDepth 20000 in
theorem ggX7_improve_X7_swaps : GoodIn wsX7_improve wsX7_swaps := goodIn_r _ [23, 3, 24, 25, 26, 27, 28, 29, 30, 31, 32, 33, 34, 35, 36, 37] (by decide +kernel) (by decide +kernel)
set_option maxRecDepth 20000 in
theorem gX7_improve_X7_swaps : GoodIn wsX7_improve (wsV RX7 150 RX7 yX7_swaps wsX7_swaps) := goodIn_app (goodIn_of _ (by decide +kernel)) ggX7_improve_X7_swaps
set_option maxRecDepth 20000 in
theorem ggX7_improve_X7_measures : GoodIn wsX7_improve wsX7_measures := goodIn_r _ [15, 10, 2, 4, 24, 25, 26, 27, 28, 29, 30, 31, 32, 33, 34, 35, 36, 37] (by decide +kernel) (by decide +kernel)
set_option maxRecDepth 20000 in
theorem gX7_improve_X7_measures : GoodIn wsX7_improve (wsV RX7 70 RX7 yX7_measures wsX7_measures) := goodIn_app (goodIn_of _ (by decide +kernel)) ggX7_improve_X7_measures
theorem dX7_improve_0 : decode cX7_improve 0 = .ok (.aload_n 0, 1) := by decide +kernel
theorem dX7_improve_1 : decode cX7_improve 1 = .ok (.iconst 0, 1) := by decide +kernel
theorem dX7_improve_2 : decode cX7_improve 2 = .ok (.putfield 45, 3) := by decide +kernel
theorem dX7_improve_5 : decode cX7_improve 5 = .ok (.aload_n 0, 1) := by decide +kernel
theorem dX7_improve_6 : decode cX7_improve 6 = .ok (.invokevirtual 143, 3) := by decide +kernel
theorem dX7_improve_9 : decode cX7_improve 9 = .ok (.istore_n 1, 1) := by decide +kernel
theorem dX7_improve_10 : decode cX7_improve 10 = .ok (.iconst (-1), 1) := by decide +kernel
theorem dX7_improve_11 : decode cX7_improve 11 = .ok (.istore_n 2, 1) := by decide +kernel
theorem dX7_improve_12 : decode cX7_improve 12 = .ok (.iconst 0, 1) := by decide +kernel
theorem dX7_improve_13 : decode cX7_improve 13 = .ok (.istore_n 3, 1) := by decide +kernel
theorem dX7_improve_14 : decode cX7_improve 14 = .ok (.iload_n 3, 1) := by decide +kernel
theorem dX7_improve_15 : decode cX7_improve 15 = .ok (.iconst 3, 1) := by decide +kernel
theorem dX7_improve_16 : decode cX7_improve 16 = .ok (.aload_n 0, 1) := by decide +kernel
theorem dX7_improve_17 : decode cX7_improve 17 = .ok (.getfield 49, 3) := by decide +kernel
theorem dX7_improve_20 : decode cX7_improve 20 = .ok (.imul, 1) := by decide +kernel
theorem dX7_improve_21 : decode cX7_improve 21 = .ok (.if_icmp .ge 90, 3) := by decide +kernel
theorem dX7_improve_24 : decode cX7_improve 24 = .ok (.iload_n 3, 1) := by decide +kernel
theorem dX7_improve_25 : decode cX7_improve 25 = .ok (.iconst 3, 1) := by decide +kernel
theorem dX7_improve_26 : decode cX7_improve 26 = .ok (.idiv, 1) := by decide +kernel
theorem dX7_improve_27 : decode cX7_improve 27 = .ok (.istore 4, 2) := by decide +kernel
theorem dX7_improve_29 : decode cX7_improve 29 = .ok (.aload_n 0, 1) := by decide +kernel
theorem dX7_improve_30 : decode cX7_improve 30 = .ok (.getfield 13, 3) := by decide +kernel
theorem dX7_improve_33 : decode cX7_improve 33 = .ok (.iload 4, 2) := by decide +kernel
theorem dX7_improve_35 : decode cX7_improve 35 = .ok (.iaload, 1) := by decide +kernel
theorem dX7_improve_36 : decode cX7_improve 36 = .ok (.istore 5, 2) := by decide +kernel
theorem dX7_improve_38 : decode cX7_improve 38 = .ok (.aload_n 0, 1) := by decide +kernel
theorem dX7_improve_39 : decode cX7_improve 39 = .ok (.getfield 7, 3) := by decide +kernel
theorem dX7_improve_42 : decode cX7_improve 42 = .ok (.iload_n 3, 1) := by decide +kernel
theorem dX7_improve_43 : decode cX7_improve 43 = .ok (.iaload, 1) := by decide +kernel
theorem dX7_improve_44 : decode cX7_improve 44 = .ok (.ifCond .le 61, 3) := by decide +kernel
theorem dX7_improve_47 : decode cX7_improve 47 = .ok (.iload_n 3, 1) := by decide +kernel
theorem dX7_improve_48 : decode cX7_improve 48 = .ok (.iconst 3, 1) := by decide +kernel
theorem dX7_improve_49 : decode cX7_improve 49 = .ok (.irem, 1) := by decide +kernel
theorem dX7_improve_50 : decode cX7_improve 50 = .ok (.iload 5, 2) := by decide +kernel
theorem dX7_improve_52 : decode cX7_improve 52 = .ok (.if_icmp .eq 53, 3) := by decide +kernel
theorem dX7_improve_55 : decode cX7_improve 55 = .ok (.aload_n 0, 1) := by decide +kernel
theorem dX7_improve_56 : decode cX7_improve 56 = .ok (.getfield 13, 3) := by decide +kernel
theorem dX7_improve_59 : decode cX7_improve 59 = .ok (.iload 4, 2) := by decide +kernel
theorem dX7_improve_61 : decode cX7_improve 61 = .ok (.iload_n 3, 1) := by decide +kernel
theorem dX7_improve_62 : decode cX7_improve 62 = .ok (.iconst 3, 1) := by decide +kernel
theorem dX7_improve_63 : decode cX7_improve 63 = .ok (.irem, 1) := by decide +kernel
theorem dX7_improve_64 : decode cX7_improve 64 = .ok (.iastore, 1) := by decide +kernel
theorem dX7_improve_65 : decode cX7_improve 65 = .ok (.aload_n 0, 1) := by decide +kernel
theorem dX7_improve_66 : decode cX7_improve 66 = .ok (.invokevirtual 143, 3) := by decide +kernel
theorem dX7_improve_69 : decode cX7_improve 69 = .ok (.istore 6, 2) := by decide +kernel
theorem dX7_improve_71 : decode cX7_improve 71 = .ok (.iload 6, 2) := by decide +kernel
theorem dX7_improve_73 : decode cX7_improve 73 = .ok (.iload_n 1, 1) := by decide +kernel
theorem dX7_improve_74 : decode cX7_improve 74 = .ok (.if_icmp .ge 7, 3) := by decide +kernel
theorem dX7_improve_77 : decode cX7_improve 77 = .ok (.iload_n 3, 1) := by decide +kernel
theorem dX7_improve_78 : decode cX7_improve 78 = .ok (.goto 4, 3) := by decide +kernel
theorem dX7_improve_81 : decode cX7_improve 81 = .ok (.iload_n 2, 1) := by decide +kernel
theorem dX7_improve_82 : decode cX7_improve 82 = .ok (.istore_n 2, 1) := by decide +kernel
theorem dX7_improve_83 : decode cX7_improve 83 = .ok (.iload 6, 2) := by decide +kernel
theorem dX7_improve_85 : decode cX7_improve 85 = .ok (.iload_n 1, 1) := by decide +kernel
theorem dX7_improve_86 : decode cX7_improve 86 = .ok (.if_icmp .ge 8, 3) := by decide +kernel
theorem dX7_improve_89 : decode cX7_improve 89 = .ok (.iload 6, 2) := by decide +kernel
theorem dX7_improve_91 : decode cX7_improve 91 = .ok (.goto 4, 3) := by decide +kernel
theorem dX7_improve_94 : decode cX7_improve 94 = .ok (.iload_n 1, 1) := by decide +kernel
theorem dX7_improve_95 : decode cX7_improve 95 = .ok (.istore_n 1, 1) := by decide +kernel
theorem dX7_improve_96 : decode cX7_improve 96 = .ok (.aload_n 0, 1) := by decide +kernel
theorem dX7_improve_97 : decode cX7_improve 97 = .ok (.getfield 13, 3) := by decide +kernel
theorem dX7_improve_100 : decode cX7_improve 100 = .ok (.iload 4, 2) := by decide +kernel
theorem dX7_improve_102 : decode cX7_improve 102 = .ok (.iload 5, 2) := by decide +kernel
theorem dX7_improve_104 : decode cX7_improve 104 = .ok (.iastore, 1) := by decide +kernel
theorem dX7_improve_105 : decode cX7_improve 105 = .ok (.iinc 3 1, 3) := by decide +kernel
theorem dX7_improve_108 : decode cX7_improve 108 = .ok (.goto (-94), 3) := by decide +kernel
theorem dX7_improve_111 : decode cX7_improve 111 = .ok (.iconst 0, 1) := by decide +kernel
theorem dX7_improve_112 : decode cX7_improve 112 = .ok (.istore_n 3, 1) := by decide +kernel
theorem dX7_improve_113 : decode cX7_improve 113 = .ok (.iload_n 3, 1) := by decide +kernel
theorem dX7_improve_114 : decode cX7_improve 114 = .ok (.aload_n 0, 1) := by decide +kernel
theorem dX7_improve_115 : decode cX7_improve 115 = .ok (.getfield 49, 3) := by decide +kernel
theorem dX7_improve_118 : decode cX7_improve 118 = .ok (.if_icmp .ge 93, 3) := by decide +kernel
theorem dX7_improve_121 : decode cX7_improve 121 = .ok (.iload_n 3, 1) := by decide +kernel
theorem dX7_improve_122 : decode cX7_improve 122 = .ok (.iconst 1, 1) := by decide +kernel
theorem dX7_improve_123 : decode cX7_improve 123 = .ok (.iadd, 1) := by decide +kernel
theorem dX7_improve_124 : decode cX7_improve 124 = .ok (.istore 4, 2) := by decide +kernel
theorem dX7_improve_126 : decode cX7_improve 126 = .ok (.iload 4, 2) := by decide +kernel
theorem dX7_improve_128 : decode cX7_improve 128 = .ok (.aload_n 0, 1) := by decide +kernel
theorem dX7_improve_129 : decode cX7_improve 129 = .ok (.getfield 49, 3) := by decide +kernel
theorem dX7_improve_132 : decode cX7_improve 132 = .ok (.if_icmp .ge 73, 3) := by decide +kernel
theorem dX7_improve_135 : decode cX7_improve 135 = .ok (.aload_n 0, 1) := by decide +kernel
theorem dX7_improve_136 : decode cX7_improve 136 = .ok (.iload_n 3, 1) := by decide +kernel
theorem dX7_improve_137 : decode cX7_improve 137 = .ok (.iload 4, 2) := by decide +kernel
theorem dX7_improve_139 : decode cX7_improve 139 = .ok (.invokevirtual 146, 3) := by decide +kernel
theorem dX7_improve_142 : decode cX7_improve 142 = .ok (.ifCond .eq 57, 3) := by decide +kernel
theorem dX7_improve_145 : decode cX7_improve 145 = .ok (.aload_n 0, 1) := by decide +kernel
theorem dX7_improve_146 : decode cX7_improve 146 = .ok (.iload_n 3, 1) := by decide +kernel
theorem dX7_improve_147 : decode cX7_improve 147 = .ok (.iload 4, 2) := by decide +kernel
theorem dX7_improve_149 : decode cX7_improve 149 = .ok (.invokevirtual 150, 3) := by decide +kernel
theorem dX7_improve_152 : decode cX7_improve 152 = .ok (.aload_n 0, 1) := by decide +kernel
theorem dX7_improve_153 : decode cX7_improve 153 = .ok (.invokevirtual 143, 3) := by decide +kernel
theorem dX7_improve_156 : decode cX7_improve 156 = .ok (.istore 5, 2) := by decide +kernel
theorem dX7_improve_158 : decode cX7_improve 158 = .ok (.iload 5, 2) := by decide +kernel
theorem dX7_improve_160 : decode cX7_improve 160 = .ok (.iload_n 1, 1) := by decide +kernel
theorem dX7_improve_161 : decode cX7_improve 161 = .ok (.if_icmp .ge 16, 3) := by decide +kernel
theorem dX7_improve_164 : decode cX7_improve 164 = .ok (.bipush 100, 2) := by decide +kernel
theorem dX7_improve_166 : decode cX7_improve 166 = .ok (.bipush 10, 2) := by decide +kernel
theorem dX7_improve_168 : decode cX7_improve 168 = .ok (.iload_n 3, 1) := by decide +kernel
theorem dX7_improve_169 : decode cX7_improve 169 = .ok (.imul, 1) := by decide +kernel
theorem dX7_improve_170 : decode cX7_improve 170 = .ok (.iadd, 1) := by decide +kernel
theorem dX7_improve_171 : decode cX7_improve 171 = .ok (.iload 4, 2) := by decide +kernel
theorem dX7_improve_173 : decode cX7_improve 173 = .ok (.iadd, 1) := by decide +kernel
theorem dX7_improve_174 : decode cX7_improve 174 = .ok (.goto 4, 3) := by decide +kernel
theorem dX7_improve_177 : decode cX7_improve 177 = .ok (.iload_n 2, 1) := by decide +kernel
theorem dX7_improve_178 : decode cX7_improve 178 = .ok (.istore_n 2, 1) := by decide +kernel
theorem dX7_improve_179 : decode cX7_improve 179 = .ok (.iload 5, 2) := by decide +kernel
theorem dX7_improve_181 : decode cX7_improve 181 = .ok (.iload_n 1, 1) := by decide +kernel
theorem dX7_improve_182 : decode cX7_improve 182 = .ok (.if_icmp .ge 8, 3) := by decide +kernel
theorem dX7_improve_185 : decode cX7_improve 185 = .ok (.iload 5, 2) := by decide +kernel
theorem dX7_improve_187 : decode cX7_improve 187 = .ok (.goto 4, 3) := by decide +kernel
theorem dX7_improve_190 : decode cX7_improve 190 = .ok (.iload_n 1, 1) := by decide +kernel
theorem dX7_improve_191 : decode cX7_improve 191 = .ok (.istore_n 1, 1) := by decide +kernel
theorem dX7_improve_192 : decode cX7_improve 192 = .ok (.aload_n 0, 1) := by decide +kernel
theorem dX7_improve_193 : decode cX7_improve 193 = .ok (.iload_n 3, 1) := by decide +kernel
theorem dX7_improve_194 : decode cX7_improve 194 = .ok (.iload 4, 2) := by decide +kernel
theorem dX7_improve_196 : decode cX7_improve 196 = .ok (.invokevirtual 150, 3) := by decide +kernel
theorem dX7_improve_199 : decode cX7_improve 199 = .ok (.iinc 4 1, 3) := by decide +kernel
theorem dX7_improve_202 : decode cX7_improve 202 = .ok (.goto (-76), 3) := by decide +kernel
theorem dX7_improve_205 : decode cX7_improve 205 = .ok (.iinc 3 1, 3) := by decide +kernel
theorem dX7_improve_208 : decode cX7_improve 208 = .ok (.goto (-95), 3) := by decide +kernel
theorem dX7_improve_211 : decode cX7_improve 211 = .ok (.iload_n 2, 1) := by decide +kernel
theorem dX7_improve_212 : decode cX7_improve 212 = .ok (.ifCond .ge 5, 3) := by decide +kernel
theorem dX7_improve_215 : decode cX7_improve 215 = .ok (.iconst (-1), 1) := by decide +kernel
theorem dX7_improve_216 : decode cX7_improve 216 = .ok (.ireturn, 1) := by decide +kernel
theorem dX7_improve_217 : decode cX7_improve 217 = .ok (.iload_n 2, 1) := by decide +kernel
theorem dX7_improve_218 : decode cX7_improve 218 = .ok (.bipush 100, 2) := by decide +kernel
theorem dX7_improve_220 : decode cX7_improve 220 = .ok (.if_icmp .ge 17, 3) := by decide +kernel
theorem dX7_improve_223 : decode cX7_improve 223 = .ok (.aload_n 0, 1) := by decide +kernel
theorem dX7_improve_224 : decode cX7_improve 224 = .ok (.getfield 13, 3) := by decide +kernel
theorem dX7_improve_227 : decode cX7_improve 227 = .ok (.iload_n 2, 1) := by decide +kernel
theorem dX7_improve_228 : decode cX7_improve 228 = .ok (.iconst 3, 1) := by decide +kernel
theorem dX7_improve_229 : decode cX7_improve 229 = .ok (.idiv, 1) := by decide +kernel
theorem dX7_improve_230 : decode cX7_improve 230 = .ok (.iload_n 2, 1) := by decide +kernel
theorem dX7_improve_231 : decode cX7_improve 231 = .ok (.iconst 3, 1) := by decide +kernel
theorem dX7_improve_232 : decode cX7_improve 232 = .ok (.irem, 1) := by decide +kernel
theorem dX7_improve_233 : decode cX7_improve 233 = .ok (.iastore, 1) := by decide +kernel
theorem dX7_improve_234 : decode cX7_improve 234 = .ok (.goto 18, 3) := by decide +kernel
theorem dX7_improve_237 : decode cX7_improve 237 = .ok (.aload_n 0, 1) := by decide +kernel
theorem dX7_improve_238 : decode cX7_improve 238 = .ok (.iload_n 2, 1) := by decide +kernel
theorem dX7_improve_239 : decode cX7_improve 239 = .ok (.bipush 100, 2) := by decide +kernel
theorem dX7_improve_241 : decode cX7_improve 241 = .ok (.isub, 1) := by decide +kernel
theorem dX7_improve_242 : decode cX7_improve 242 = .ok (.bipush 10, 2) := by decide +kernel
theorem dX7_improve_244 : decode cX7_improve 244 = .ok (.idiv, 1) := by decide +kernel
theorem dX7_improve_245 : decode cX7_improve 245 = .ok (.iload_n 2, 1) := by decide +kernel
theorem dX7_improve_246 : decode cX7_improve 246 = .ok (.bipush 10, 2) := by decide +kernel
theorem dX7_improve_248 : decode cX7_improve 248 = .ok (.irem, 1) := by decide +kernel
theorem dX7_improve_249 : decode cX7_improve 249 = .ok (.invokevirtual 150, 3) := by decide +kernel
theorem dX7_improve_252 : decode cX7_improve 252 = .ok (.aload_n 0, 1) := by decide +kernel
theorem dX7_improve_253 : decode cX7_improve 253 = .ok (.aload_n 0, 1) := by decide +kernel
theorem dX7_improve_254 : decode cX7_improve 254 = .ok (.getfield 13, 3) := by decide +kernel
theorem dX7_improve_257 : decode cX7_improve 257 = .ok (.invokevirtual 70, 3) := by decide +kernel
theorem dX7_improve_260 : decode cX7_improve 260 = .ok (.ireturn, 1) := by decide +kernel
set_option maxRecDepth 20000 in
theorem ggX7_takeRounded_X7_rounds : GoodIn wsX7_takeRounded wsX7_rounds := goodIn_r _ [9, 2, 10, 4, 11, 12, 13, 8, 14, 15, 16, 17, 18, 19, 20, 21, 22, 23, 24, 25, 26, 27, 28, 29, 30, 31, 32, 33, 34, 35, 36, 37, 38, 39, 40, 41, 42, 43, 44, 45, 46, 47, 48, 49, 50, 51, 52, 53, 54, 55, 56, 57, 58, 59, 60, 61, 62, 63, 64, 65, 66, 67, 68, 69, 70, 71, 72, 73, 74, 75, 76, 77, 78, 79, 80, 81, 82, 83, 84, 85, 86, 87, 88] (by decide +kernel) (by decide +kernel)
set_option maxRecDepth 20000 in
theorem gX7_takeRounded_X7_rounds : GoodIn wsX7_takeRounded (wsV RX7 139 RX7 yX7_rounds wsX7_rounds) := goodIn_app (goodIn_of _ (by decide +kernel)) ggX7_takeRounded_X7_rounds
theorem dX7_takeRounded_0 : decode cX7_takeRounded 0 = .ok (.aload_n 0, 1) := by decide +kernel
theorem dX7_takeRounded_1 : decode cX7_takeRounded 1 = .ok (.iconst 0, 1) := by decide +kernel
theorem dX7_takeRounded_2 : decode cX7_takeRounded 2 = .ok (.putfield 45, 3) := by decide +kernel
theorem dX7_takeRounded_5 : decode cX7_takeRounded 5 = .ok (.aload_n 0, 1) := by decide +kernel
theorem dX7_takeRounded_6 : decode cX7_takeRounded 6 = .ok (.invokevirtual 139, 3) := by decide +kernel
theorem dX7_takeRounded_9 : decode cX7_takeRounded 9 = .ok (.iconst 0, 1) := by decide +kernel
theorem dX7_takeRounded_10 : decode cX7_takeRounded 10 = .ok (.istore_n 1, 1) := by decide +kernel
theorem dX7_takeRounded_11 : decode cX7_takeRounded 11 = .ok (.iconst 0, 1) := by decide +kernel
theorem dX7_takeRounded_12 : decode cX7_takeRounded 12 = .ok (.istore_n 2, 1) := by decide +kernel
theorem dX7_takeRounded_13 : decode cX7_takeRounded 13 = .ok (.iload_n 2, 1) := by decide +kernel
theorem dX7_takeRounded_14 : decode cX7_takeRounded 14 = .ok (.aload_n 0, 1) := by decide +kernel
theorem dX7_takeRounded_15 : decode cX7_takeRounded 15 = .ok (.getfield 49, 3) := by decide +kernel
theorem dX7_takeRounded_18 : decode cX7_takeRounded 18 = .ok (.if_icmp .ge 44, 3) := by decide +kernel
theorem dX7_takeRounded_21 : decode cX7_takeRounded 21 = .ok (.iload_n 1, 1) := by decide +kernel
theorem dX7_takeRounded_22 : decode cX7_takeRounded 22 = .ok (.aload_n 0, 1) := by decide +kernel
theorem dX7_takeRounded_23 : decode cX7_takeRounded 23 = .ok (.getfield 13, 3) := by decide +kernel
theorem dX7_takeRounded_26 : decode cX7_takeRounded 26 = .ok (.iload_n 2, 1) := by decide +kernel
theorem dX7_takeRounded_27 : decode cX7_takeRounded 27 = .ok (.iaload, 1) := by decide +kernel
theorem dX7_takeRounded_28 : decode cX7_takeRounded 28 = .ok (.aload_n 0, 1) := by decide +kernel
theorem dX7_takeRounded_29 : decode cX7_takeRounded 29 = .ok (.getfield 39, 3) := by decide +kernel
theorem dX7_takeRounded_32 : decode cX7_takeRounded 32 = .ok (.iload_n 2, 1) := by decide +kernel
theorem dX7_takeRounded_33 : decode cX7_takeRounded 33 = .ok (.iaload, 1) := by decide +kernel
theorem dX7_takeRounded_34 : decode cX7_takeRounded 34 = .ok (.if_icmp .eq 7, 3) := by decide +kernel
theorem dX7_takeRounded_37 : decode cX7_takeRounded 37 = .ok (.iconst 1, 1) := by decide +kernel
theorem dX7_takeRounded_38 : decode cX7_takeRounded 38 = .ok (.goto 4, 3) := by decide +kernel
theorem dX7_takeRounded_41 : decode cX7_takeRounded 41 = .ok (.iconst 0, 1) := by decide +kernel
theorem dX7_takeRounded_42 : decode cX7_takeRounded 42 = .ok (.iadd, 1) := by decide +kernel
theorem dX7_takeRounded_43 : decode cX7_takeRounded 43 = .ok (.istore_n 1, 1) := by decide +kernel
theorem dX7_takeRounded_44 : decode cX7_takeRounded 44 = .ok (.aload_n 0, 1) := by decide +kernel
theorem dX7_takeRounded_45 : decode cX7_takeRounded 45 = .ok (.getfield 13, 3) := by decide +kernel
theorem dX7_takeRounded_48 : decode cX7_takeRounded 48 = .ok (.iload_n 2, 1) := by decide +kernel
theorem dX7_takeRounded_49 : decode cX7_takeRounded 49 = .ok (.aload_n 0, 1) := by decide +kernel
theorem dX7_takeRounded_50 : decode cX7_takeRounded 50 = .ok (.getfield 39, 3) := by decide +kernel
theorem dX7_takeRounded_53 : decode cX7_takeRounded 53 = .ok (.iload_n 2, 1) := by decide +kernel
theorem dX7_takeRounded_54 : decode cX7_takeRounded 54 = .ok (.iaload, 1) := by decide +kernel
theorem dX7_takeRounded_55 : decode cX7_takeRounded 55 = .ok (.iastore, 1) := by decide +kernel
theorem dX7_takeRounded_56 : decode cX7_takeRounded 56 = .ok (.iinc 2 1, 3) := by decide +kernel
theorem dX7_takeRounded_59 : decode cX7_takeRounded 59 = .ok (.goto (-46), 3) := by decide +kernel
theorem dX7_takeRounded_62 : decode cX7_takeRounded 62 = .ok (.iload_n 1, 1) := by decide +kernel
theorem dX7_takeRounded_63 : decode cX7_takeRounded 63 = .ok (.ireturn, 1) := by decide +kernel

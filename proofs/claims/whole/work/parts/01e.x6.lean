set_option maxRecDepth 20000 in
theorem ggX6_init_X1_init : GoodIn wsX6_init wsX1_init := goodIn_r _ [25, 26, 2, 3, 27, 28, 61, 62] (by decide +kernel) (by decide +kernel)
set_option maxRecDepth 20000 in
theorem gX6_init_X1_init_n11 : GoodIn wsX6_init (wsX1_init) := ggX6_init_X1_init
set_option maxRecDepth 20000 in
theorem ggX6_init_X2_init : GoodIn wsX6_init wsX2_init := goodIn_r _ [30, 31, 2, 3, 27, 32, 70, 71, 72, 73, 74] (by decide +kernel) (by decide +kernel)
set_option maxRecDepth 20000 in
theorem gX6_init_X2_init_n18 : GoodIn wsX6_init (wsX2_init) := ggX6_init_X2_init
set_option maxRecDepth 20000 in
theorem ggX6_init_X3_init : GoodIn wsX6_init wsX3_init := goodIn_r _ [34, 35, 2, 3, 27, 36, 37, 38, 75, 76, 77, 78] (by decide +kernel) (by decide +kernel)
set_option maxRecDepth 20000 in
theorem gX6_init_X3_init_n25 : GoodIn wsX6_init (wsX3_init) := ggX6_init_X3_init
set_option maxRecDepth 20000 in
theorem ggX6_init_X0_init : GoodIn wsX6_init wsX0_init := goodIn_r _ [40, 41, 2, 3, 42, 43, 44, 45, 27, 46, 47, 48, 49, 50, 51, 52, 53, 54, 55, 56, 86, 87, 88, 89, 90, 79, 80, 81, 82, 83, 84] (by decide +kernel) (by decide +kernel)
set_option maxRecDepth 20000 in
theorem gX6_init_X0_init_n32 : GoodIn wsX6_init (wsX0_init) := ggX6_init_X0_init
set_option maxRecDepth 20000 in
theorem ggX6_init_X4_init : GoodIn wsX6_init wsX4_init := goodIn_r _ [58, 59, 2, 3, 27, 60, 85] (by decide +kernel) (by decide +kernel)
set_option maxRecDepth 20000 in
theorem gX6_init_X4_init_n39 : GoodIn wsX6_init (wsX4_init) := ggX6_init_X4_init
theorem dX6_init_0 : decode cX6_init 0 = .ok (.aload_n 0, 1) := by decide +kernel
theorem dX6_init_1 : decode cX6_init 1 = .ok (.invokespecial 3, 3) := by decide +kernel
theorem dX6_init_4 : decode cX6_init 4 = .ok (.aload_n 0, 1) := by decide +kernel
theorem dX6_init_5 : decode cX6_init 5 = .ok (.new 9, 3) := by decide +kernel
theorem dX6_init_8 : decode cX6_init 8 = .ok (.dup, 1) := by decide +kernel
theorem dX6_init_9 : decode cX6_init 9 = .ok (.invokespecial 11, 3) := by decide +kernel
theorem dX6_init_12 : decode cX6_init 12 = .ok (.putfield 12, 3) := by decide +kernel
theorem dX6_init_15 : decode cX6_init 15 = .ok (.aload_n 0, 1) := by decide +kernel
theorem dX6_init_16 : decode cX6_init 16 = .ok (.new 16, 3) := by decide +kernel
theorem dX6_init_19 : decode cX6_init 19 = .ok (.dup, 1) := by decide +kernel
theorem dX6_init_20 : decode cX6_init 20 = .ok (.invokespecial 18, 3) := by decide +kernel
theorem dX6_init_23 : decode cX6_init 23 = .ok (.putfield 19, 3) := by decide +kernel
theorem dX6_init_26 : decode cX6_init 26 = .ok (.aload_n 0, 1) := by decide +kernel
theorem dX6_init_27 : decode cX6_init 27 = .ok (.new 23, 3) := by decide +kernel
theorem dX6_init_30 : decode cX6_init 30 = .ok (.dup, 1) := by decide +kernel
theorem dX6_init_31 : decode cX6_init 31 = .ok (.invokespecial 25, 3) := by decide +kernel
theorem dX6_init_34 : decode cX6_init 34 = .ok (.putfield 26, 3) := by decide +kernel
theorem dX6_init_37 : decode cX6_init 37 = .ok (.aload_n 0, 1) := by decide +kernel
theorem dX6_init_38 : decode cX6_init 38 = .ok (.new 30, 3) := by decide +kernel
theorem dX6_init_41 : decode cX6_init 41 = .ok (.dup, 1) := by decide +kernel
theorem dX6_init_42 : decode cX6_init 42 = .ok (.invokespecial 32, 3) := by decide +kernel
theorem dX6_init_45 : decode cX6_init 45 = .ok (.putfield 33, 3) := by decide +kernel
theorem dX6_init_48 : decode cX6_init 48 = .ok (.aload_n 0, 1) := by decide +kernel
theorem dX6_init_49 : decode cX6_init 49 = .ok (.new 37, 3) := by decide +kernel
theorem dX6_init_52 : decode cX6_init 52 = .ok (.dup, 1) := by decide +kernel
theorem dX6_init_53 : decode cX6_init 53 = .ok (.invokespecial 39, 3) := by decide +kernel
theorem dX6_init_56 : decode cX6_init 56 = .ok (.putfield 40, 3) := by decide +kernel
theorem dX6_init_59 : decode cX6_init 59 = .ok (.return_, 1) := by decide +kernel
set_option maxRecDepth 20000 in
theorem ggX6_addJob_X6_isTime : GoodIn wsX6_addJob wsX6_isTime := goodIn_r _ [10] (by decide +kernel) (by decide +kernel)
set_option maxRecDepth 20000 in
theorem gX6_addJob_X6_isTime : GoodIn wsX6_addJob (va_wsS RX6 44 yX6_isTime wsX6_isTime) := goodIn_app (goodIn_of _ (by decide +kernel)) ggX6_addJob_X6_isTime
set_option maxRecDepth 20000 in
theorem ggX6_addJob_X6_forgetResults : GoodIn wsX6_addJob wsX6_forgetResults := goodIn_r _ [14, 15, 16, 17, 18, 19, 20, 21, 22, 23] (by decide +kernel) (by decide +kernel)
set_option maxRecDepth 20000 in
theorem gX6_addJob_X6_forgetResults : GoodIn wsX6_addJob (wsV RX6 73 RX6 yX6_forgetResults wsX6_forgetResults) := goodIn_app (goodIn_of _ (by decide +kernel)) ggX6_addJob_X6_forgetResults
theorem dX6_addJob_0 : decode cX6_addJob 0 = .ok (.iload_n 1, 1) := by decide +kernel
theorem dX6_addJob_1 : decode cX6_addJob 1 = .ok (.invokestatic 44, 3) := by decide +kernel
theorem dX6_addJob_4 : decode cX6_addJob 4 = .ok (.ifCond .eq 17, 3) := by decide +kernel
theorem dX6_addJob_7 : decode cX6_addJob 7 = .ok (.iload_n 2, 1) := by decide +kernel
theorem dX6_addJob_8 : decode cX6_addJob 8 = .ok (.invokestatic 44, 3) := by decide +kernel
theorem dX6_addJob_11 : decode cX6_addJob 11 = .ok (.ifCond .eq 10, 3) := by decide +kernel
theorem dX6_addJob_14 : decode cX6_addJob 14 = .ok (.iload_n 3, 1) := by decide +kernel
theorem dX6_addJob_15 : decode cX6_addJob 15 = .ok (.invokestatic 44, 3) := by decide +kernel
theorem dX6_addJob_18 : decode cX6_addJob 18 = .ok (.ifCond .ne 13, 3) := by decide +kernel
theorem dX6_addJob_21 : decode cX6_addJob 21 = .ok (.new 48, 3) := by decide +kernel
theorem dX6_addJob_24 : decode cX6_addJob 24 = .ok (.dup, 1) := by decide +kernel
theorem dX6_addJob_25 : decode cX6_addJob 25 = .ok (.ldc 50, 2) := by decide +kernel
theorem dX6_addJob_27 : decode cX6_addJob 27 = .ok (.invokespecial 52, 3) := by decide +kernel
theorem dX6_addJob_30 : decode cX6_addJob 30 = .ok (.athrow, 1) := by decide +kernel
theorem dX6_addJob_31 : decode cX6_addJob 31 = .ok (.iload_n 1, 1) := by decide +kernel
theorem dX6_addJob_32 : decode cX6_addJob 32 = .ok (.ifCond .ne 21, 3) := by decide +kernel
theorem dX6_addJob_35 : decode cX6_addJob 35 = .ok (.iload_n 2, 1) := by decide +kernel
theorem dX6_addJob_36 : decode cX6_addJob 36 = .ok (.ifCond .ne 17, 3) := by decide +kernel
theorem dX6_addJob_39 : decode cX6_addJob 39 = .ok (.iload_n 3, 1) := by decide +kernel
theorem dX6_addJob_40 : decode cX6_addJob 40 = .ok (.ifCond .ne 13, 3) := by decide +kernel
theorem dX6_addJob_43 : decode cX6_addJob 43 = .ok (.new 48, 3) := by decide +kernel
theorem dX6_addJob_46 : decode cX6_addJob 46 = .ok (.dup, 1) := by decide +kernel
theorem dX6_addJob_47 : decode cX6_addJob 47 = .ok (.ldc 55, 2) := by decide +kernel
theorem dX6_addJob_49 : decode cX6_addJob 49 = .ok (.invokespecial 52, 3) := by decide +kernel
theorem dX6_addJob_52 : decode cX6_addJob 52 = .ok (.athrow, 1) := by decide +kernel
theorem dX6_addJob_53 : decode cX6_addJob 53 = .ok (.aload_n 0, 1) := by decide +kernel
theorem dX6_addJob_54 : decode cX6_addJob 54 = .ok (.getfield 12, 3) := by decide +kernel
theorem dX6_addJob_57 : decode cX6_addJob 57 = .ok (.getfield 57, 3) := by decide +kernel
theorem dX6_addJob_60 : decode cX6_addJob 60 = .ok (.istore 4, 2) := by decide +kernel
theorem dX6_addJob_62 : decode cX6_addJob 62 = .ok (.iload 4, 2) := by decide +kernel
theorem dX6_addJob_64 : decode cX6_addJob 64 = .ok (.ifCond .lt 10, 3) := by decide +kernel
theorem dX6_addJob_67 : decode cX6_addJob 67 = .ok (.iload 4, 2) := by decide +kernel
theorem dX6_addJob_69 : decode cX6_addJob 69 = .ok (.bipush 7, 2) := by decide +kernel
theorem dX6_addJob_71 : decode cX6_addJob 71 = .ok (.if_icmp .lt 13, 3) := by decide +kernel
theorem dX6_addJob_74 : decode cX6_addJob 74 = .ok (.new 61, 3) := by decide +kernel
theorem dX6_addJob_77 : decode cX6_addJob 77 = .ok (.dup, 1) := by decide +kernel
theorem dX6_addJob_78 : decode cX6_addJob 78 = .ok (.ldc 63, 2) := by decide +kernel
theorem dX6_addJob_80 : decode cX6_addJob 80 = .ok (.invokespecial 65, 3) := by decide +kernel
theorem dX6_addJob_83 : decode cX6_addJob 83 = .ok (.athrow, 1) := by decide +kernel
theorem dX6_addJob_84 : decode cX6_addJob 84 = .ok (.aload_n 0, 1) := by decide +kernel
theorem dX6_addJob_85 : decode cX6_addJob 85 = .ok (.getfield 12, 3) := by decide +kernel
theorem dX6_addJob_88 : decode cX6_addJob 88 = .ok (.iload 4, 2) := by decide +kernel
theorem dX6_addJob_90 : decode cX6_addJob 90 = .ok (.iconst 1, 1) := by decide +kernel
theorem dX6_addJob_91 : decode cX6_addJob 91 = .ok (.iadd, 1) := by decide +kernel
theorem dX6_addJob_92 : decode cX6_addJob 92 = .ok (.putfield 57, 3) := by decide +kernel
theorem dX6_addJob_95 : decode cX6_addJob 95 = .ok (.aload_n 0, 1) := by decide +kernel
theorem dX6_addJob_96 : decode cX6_addJob 96 = .ok (.getfield 12, 3) := by decide +kernel
theorem dX6_addJob_99 : decode cX6_addJob 99 = .ok (.getfield 66, 3) := by decide +kernel
theorem dX6_addJob_102 : decode cX6_addJob 102 = .ok (.iload 4, 2) := by decide +kernel
theorem dX6_addJob_104 : decode cX6_addJob 104 = .ok (.iconst 3, 1) := by decide +kernel
theorem dX6_addJob_105 : decode cX6_addJob 105 = .ok (.imul, 1) := by decide +kernel
theorem dX6_addJob_106 : decode cX6_addJob 106 = .ok (.iload_n 1, 1) := by decide +kernel
theorem dX6_addJob_107 : decode cX6_addJob 107 = .ok (.iastore, 1) := by decide +kernel
theorem dX6_addJob_108 : decode cX6_addJob 108 = .ok (.aload_n 0, 1) := by decide +kernel
theorem dX6_addJob_109 : decode cX6_addJob 109 = .ok (.getfield 12, 3) := by decide +kernel
theorem dX6_addJob_112 : decode cX6_addJob 112 = .ok (.getfield 66, 3) := by decide +kernel
theorem dX6_addJob_115 : decode cX6_addJob 115 = .ok (.iload 4, 2) := by decide +kernel
theorem dX6_addJob_117 : decode cX6_addJob 117 = .ok (.iconst 3, 1) := by decide +kernel
theorem dX6_addJob_118 : decode cX6_addJob 118 = .ok (.imul, 1) := by decide +kernel
theorem dX6_addJob_119 : decode cX6_addJob 119 = .ok (.iconst 1, 1) := by decide +kernel
theorem dX6_addJob_120 : decode cX6_addJob 120 = .ok (.iadd, 1) := by decide +kernel
theorem dX6_addJob_121 : decode cX6_addJob 121 = .ok (.iload_n 2, 1) := by decide +kernel
theorem dX6_addJob_122 : decode cX6_addJob 122 = .ok (.iastore, 1) := by decide +kernel
theorem dX6_addJob_123 : decode cX6_addJob 123 = .ok (.aload_n 0, 1) := by decide +kernel
theorem dX6_addJob_124 : decode cX6_addJob 124 = .ok (.getfield 12, 3) := by decide +kernel
theorem dX6_addJob_127 : decode cX6_addJob 127 = .ok (.getfield 66, 3) := by decide +kernel
theorem dX6_addJob_130 : decode cX6_addJob 130 = .ok (.iload 4, 2) := by decide +kernel
theorem dX6_addJob_132 : decode cX6_addJob 132 = .ok (.iconst 3, 1) := by decide +kernel
theorem dX6_addJob_133 : decode cX6_addJob 133 = .ok (.imul, 1) := by decide +kernel
theorem dX6_addJob_134 : decode cX6_addJob 134 = .ok (.iconst 2, 1) := by decide +kernel
theorem dX6_addJob_135 : decode cX6_addJob 135 = .ok (.iadd, 1) := by decide +kernel
theorem dX6_addJob_136 : decode cX6_addJob 136 = .ok (.iload_n 3, 1) := by decide +kernel
theorem dX6_addJob_137 : decode cX6_addJob 137 = .ok (.iastore, 1) := by decide +kernel
theorem dX6_addJob_138 : decode cX6_addJob 138 = .ok (.aload_n 0, 1) := by decide +kernel
theorem dX6_addJob_139 : decode cX6_addJob 139 = .ok (.getfield 19, 3) := by decide +kernel
theorem dX6_addJob_142 : decode cX6_addJob 142 = .ok (.getfield 70, 3) := by decide +kernel
theorem dX6_addJob_145 : decode cX6_addJob 145 = .ok (.iload 4, 2) := by decide +kernel
theorem dX6_addJob_147 : decode cX6_addJob 147 = .ok (.iload_n 1, 1) := by decide +kernel
theorem dX6_addJob_148 : decode cX6_addJob 148 = .ok (.ifCond .le 7, 3) := by decide +kernel
theorem dX6_addJob_151 : decode cX6_addJob 151 = .ok (.iconst 0, 1) := by decide +kernel
theorem dX6_addJob_152 : decode cX6_addJob 152 = .ok (.goto 12, 3) := by decide +kernel
theorem dX6_addJob_155 : decode cX6_addJob 155 = .ok (.iload_n 2, 1) := by decide +kernel
theorem dX6_addJob_156 : decode cX6_addJob 156 = .ok (.ifCond .le 7, 3) := by decide +kernel
theorem dX6_addJob_159 : decode cX6_addJob 159 = .ok (.iconst 1, 1) := by decide +kernel
theorem dX6_addJob_160 : decode cX6_addJob 160 = .ok (.goto 4, 3) := by decide +kernel
theorem dX6_addJob_163 : decode cX6_addJob 163 = .ok (.iconst 2, 1) := by decide +kernel
theorem dX6_addJob_164 : decode cX6_addJob 164 = .ok (.iastore, 1) := by decide +kernel
theorem dX6_addJob_165 : decode cX6_addJob 165 = .ok (.aload_n 0, 1) := by decide +kernel
theorem dX6_addJob_166 : decode cX6_addJob 166 = .ok (.invokevirtual 73, 3) := by decide +kernel
theorem dX6_addJob_169 : decode cX6_addJob 169 = .ok (.iload 4, 2) := by decide +kernel
theorem dX6_addJob_171 : decode cX6_addJob 171 = .ok (.ireturn, 1) := by decide +kernel
set_option maxRecDepth 20000 in
theorem ggX6_setTime_X6_requireJob : GoodIn wsX6_setTime wsX6_requireJob := goodIn_ca (goodIn_r _ [11, 12, 13, 6, 33, 34, 35, 36, 37, 38, 39, 45, 46] (by decide +kernel) (by decide +kernel)) (goodIn_sub (fun _ h => List.mem_cons_of_mem _ (List.mem_append_right _ h)) (by decide +kernel))
set_option maxRecDepth 20000 in
theorem gX6_setTime_X6_requireJob : GoodIn wsX6_setTime (wsV RX6 76 RX6 yX6_requireJob wsX6_requireJob) := goodIn_app (goodIn_of _ (by decide +kernel)) ggX6_setTime_X6_requireJob
set_option maxRecDepth 20000 in
theorem ggX6_setTime_X6_requireMachine : GoodIn wsX6_setTime wsX6_requireMachine := goodIn_ca (goodIn_r _ [16, 12, 13] (by decide +kernel) (by decide +kernel)) (goodIn_sub (fun _ h => List.mem_cons_of_mem _ (List.mem_append_right _ h)) (by decide +kernel))
set_option maxRecDepth 20000 in
theorem gX6_setTime_X6_requireMachine : GoodIn wsX6_setTime (va_wsS RX6 80 yX6_requireMachine wsX6_requireMachine) := goodIn_app (goodIn_of _ (by decide +kernel)) ggX6_setTime_X6_requireMachine
set_option maxRecDepth 20000 in
theorem ggX6_setTime_X6_isTime : GoodIn wsX6_setTime wsX6_isTime := goodIn_r _ [19] (by decide +kernel) (by decide +kernel)
set_option maxRecDepth 20000 in
theorem gX6_setTime_X6_isTime : GoodIn wsX6_setTime (va_wsS RX6 44 yX6_isTime wsX6_isTime) := goodIn_app (goodIn_of _ (by decide +kernel)) ggX6_setTime_X6_isTime
set_option maxRecDepth 20000 in
theorem ggX6_setTime_X1_timeOn : GoodIn wsX6_setTime wsX1_timeOn := goodIn_r _ [24, 25, 26, 45, 46] (by decide +kernel) (by decide +kernel)
set_option maxRecDepth 20000 in
theorem gX6_setTime_X1_timeOn : GoodIn wsX6_setTime (wsV RX6 87 RX1 yX1_timeOn wsX1_timeOn) := goodIn_app (goodIn_of _ (by decide +kernel)) ggX6_setTime_X1_timeOn
set_option maxRecDepth 20000 in
theorem ggX6_setTime_X6_forgetResults : GoodIn wsX6_setTime wsX6_forgetResults := goodIn_r _ [30, 31, 32, 33, 34, 35, 36, 37, 38, 39] (by decide +kernel) (by decide +kernel)
set_option maxRecDepth 20000 in
theorem gX6_setTime_X6_forgetResults : GoodIn wsX6_setTime (wsV RX6 73 RX6 yX6_forgetResults wsX6_forgetResults) := goodIn_app (goodIn_of _ (by decide +kernel)) ggX6_setTime_X6_forgetResults
theorem dX6_setTime_0 : decode cX6_setTime 0 = .ok (.aload_n 0, 1) := by decide +kernel
theorem dX6_setTime_1 : decode cX6_setTime 1 = .ok (.iload_n 1, 1) := by decide +kernel
theorem dX6_setTime_2 : decode cX6_setTime 2 = .ok (.invokevirtual 76, 3) := by decide +kernel
theorem dX6_setTime_5 : decode cX6_setTime 5 = .ok (.iload_n 2, 1) := by decide +kernel
theorem dX6_setTime_6 : decode cX6_setTime 6 = .ok (.invokestatic 80, 3) := by decide +kernel
theorem dX6_setTime_9 : decode cX6_setTime 9 = .ok (.iload_n 3, 1) := by decide +kernel
theorem dX6_setTime_10 : decode cX6_setTime 10 = .ok (.invokestatic 44, 3) := by decide +kernel
theorem dX6_setTime_13 : decode cX6_setTime 13 = .ok (.ifCond .ne 13, 3) := by decide +kernel
theorem dX6_setTime_16 : decode cX6_setTime 16 = .ok (.new 48, 3) := by decide +kernel
theorem dX6_setTime_19 : decode cX6_setTime 19 = .ok (.dup, 1) := by decide +kernel
theorem dX6_setTime_20 : decode cX6_setTime 20 = .ok (.ldc 83, 2) := by decide +kernel
theorem dX6_setTime_22 : decode cX6_setTime 22 = .ok (.invokespecial 52, 3) := by decide +kernel
theorem dX6_setTime_25 : decode cX6_setTime 25 = .ok (.athrow, 1) := by decide +kernel
theorem dX6_setTime_26 : decode cX6_setTime 26 = .ok (.iload_n 3, 1) := by decide +kernel
theorem dX6_setTime_27 : decode cX6_setTime 27 = .ok (.ifCond .ne 26, 3) := by decide +kernel
theorem dX6_setTime_30 : decode cX6_setTime 30 = .ok (.aload_n 0, 1) := by decide +kernel
theorem dX6_setTime_31 : decode cX6_setTime 31 = .ok (.getfield 19, 3) := by decide +kernel
theorem dX6_setTime_34 : decode cX6_setTime 34 = .ok (.getfield 70, 3) := by decide +kernel
theorem dX6_setTime_37 : decode cX6_setTime 37 = .ok (.iload_n 1, 1) := by decide +kernel
theorem dX6_setTime_38 : decode cX6_setTime 38 = .ok (.iaload, 1) := by decide +kernel
theorem dX6_setTime_39 : decode cX6_setTime 39 = .ok (.iload_n 2, 1) := by decide +kernel
theorem dX6_setTime_40 : decode cX6_setTime 40 = .ok (.if_icmp .ne 13, 3) := by decide +kernel
theorem dX6_setTime_43 : decode cX6_setTime 43 = .ok (.new 61, 3) := by decide +kernel
theorem dX6_setTime_46 : decode cX6_setTime 46 = .ok (.dup, 1) := by decide +kernel
theorem dX6_setTime_47 : decode cX6_setTime 47 = .ok (.ldc 85, 2) := by decide +kernel
theorem dX6_setTime_49 : decode cX6_setTime 49 = .ok (.invokespecial 65, 3) := by decide +kernel
theorem dX6_setTime_52 : decode cX6_setTime 52 = .ok (.athrow, 1) := by decide +kernel
theorem dX6_setTime_53 : decode cX6_setTime 53 = .ok (.aload_n 0, 1) := by decide +kernel
theorem dX6_setTime_54 : decode cX6_setTime 54 = .ok (.getfield 12, 3) := by decide +kernel
theorem dX6_setTime_57 : decode cX6_setTime 57 = .ok (.iload_n 1, 1) := by decide +kernel
theorem dX6_setTime_58 : decode cX6_setTime 58 = .ok (.iload_n 2, 1) := by decide +kernel
theorem dX6_setTime_59 : decode cX6_setTime 59 = .ok (.invokevirtual 87, 3) := by decide +kernel
theorem dX6_setTime_62 : decode cX6_setTime 62 = .ok (.istore 4, 2) := by decide +kernel
theorem dX6_setTime_64 : decode cX6_setTime 64 = .ok (.aload_n 0, 1) := by decide +kernel
theorem dX6_setTime_65 : decode cX6_setTime 65 = .ok (.getfield 12, 3) := by decide +kernel
theorem dX6_setTime_68 : decode cX6_setTime 68 = .ok (.getfield 66, 3) := by decide +kernel
theorem dX6_setTime_71 : decode cX6_setTime 71 = .ok (.iload_n 1, 1) := by decide +kernel
theorem dX6_setTime_72 : decode cX6_setTime 72 = .ok (.iconst 3, 1) := by decide +kernel
theorem dX6_setTime_73 : decode cX6_setTime 73 = .ok (.imul, 1) := by decide +kernel
theorem dX6_setTime_74 : decode cX6_setTime 74 = .ok (.iload_n 2, 1) := by decide +kernel
theorem dX6_setTime_75 : decode cX6_setTime 75 = .ok (.iadd, 1) := by decide +kernel
theorem dX6_setTime_76 : decode cX6_setTime 76 = .ok (.iload_n 3, 1) := by decide +kernel
theorem dX6_setTime_77 : decode cX6_setTime 77 = .ok (.iastore, 1) := by decide +kernel
theorem dX6_setTime_78 : decode cX6_setTime 78 = .ok (.aload_n 0, 1) := by decide +kernel
theorem dX6_setTime_79 : decode cX6_setTime 79 = .ok (.invokevirtual 73, 3) := by decide +kernel
theorem dX6_setTime_82 : decode cX6_setTime 82 = .ok (.iload 4, 2) := by decide +kernel
theorem dX6_setTime_84 : decode cX6_setTime 84 = .ok (.ireturn, 1) := by decide +kernel
set_option maxRecDepth 20000 in
theorem ggX6_removeLast_X6_forgetResults : GoodIn wsX6_removeLast wsX6_forgetResults := goodIn_r _ [6, 7, 8, 9, 10, 11, 12, 13, 14, 15] (by decide +kernel) (by decide +kernel)
set_option maxRecDepth 20000 in
theorem gX6_removeLast_X6_forgetResults : GoodIn wsX6_removeLast (wsV RX6 73 RX6 yX6_forgetResults wsX6_forgetResults) := goodIn_app (goodIn_of _ (by decide +kernel)) ggX6_removeLast_X6_forgetResults
theorem dX6_removeLast_0 : decode cX6_removeLast 0 = .ok (.aload_n 0, 1) := by decide +kernel
theorem dX6_removeLast_1 : decode cX6_removeLast 1 = .ok (.getfield 12, 3) := by decide +kernel
theorem dX6_removeLast_4 : decode cX6_removeLast 4 = .ok (.getfield 57, 3) := by decide +kernel
theorem dX6_removeLast_7 : decode cX6_removeLast 7 = .ok (.ifCond .gt 5, 3) := by decide +kernel
theorem dX6_removeLast_10 : decode cX6_removeLast 10 = .ok (.iconst (-1), 1) := by decide +kernel
theorem dX6_removeLast_11 : decode cX6_removeLast 11 = .ok (.ireturn, 1) := by decide +kernel
theorem dX6_removeLast_12 : decode cX6_removeLast 12 = .ok (.aload_n 0, 1) := by decide +kernel
theorem dX6_removeLast_13 : decode cX6_removeLast 13 = .ok (.getfield 12, 3) := by decide +kernel
theorem dX6_removeLast_16 : decode cX6_removeLast 16 = .ok (.dup, 1) := by decide +kernel
theorem dX6_removeLast_17 : decode cX6_removeLast 17 = .ok (.getfield 57, 3) := by decide +kernel
theorem dX6_removeLast_20 : decode cX6_removeLast 20 = .ok (.iconst 1, 1) := by decide +kernel
theorem dX6_removeLast_21 : decode cX6_removeLast 21 = .ok (.isub, 1) := by decide +kernel
theorem dX6_removeLast_22 : decode cX6_removeLast 22 = .ok (.putfield 57, 3) := by decide +kernel
theorem dX6_removeLast_25 : decode cX6_removeLast 25 = .ok (.aload_n 0, 1) := by decide +kernel
theorem dX6_removeLast_26 : decode cX6_removeLast 26 = .ok (.invokevirtual 73, 3) := by decide +kernel
theorem dX6_removeLast_29 : decode cX6_removeLast 29 = .ok (.aload_n 0, 1) := by decide +kernel
theorem dX6_removeLast_30 : decode cX6_removeLast 30 = .ok (.getfield 12, 3) := by decide +kernel
theorem dX6_removeLast_33 : decode cX6_removeLast 33 = .ok (.getfield 57, 3) := by decide +kernel
theorem dX6_removeLast_36 : decode cX6_removeLast 36 = .ok (.ireturn, 1) := by decide +kernel
theorem dX6_jobs_0 : decode cX6_jobs 0 = .ok (.aload_n 0, 1) := by decide +kernel
theorem dX6_jobs_1 : decode cX6_jobs 1 = .ok (.getfield 12, 3) := by decide +kernel
theorem dX6_jobs_4 : decode cX6_jobs 4 = .ok (.getfield 57, 3) := by decide +kernel
theorem dX6_jobs_7 : decode cX6_jobs 7 = .ok (.ireturn, 1) := by decide +kernel
set_option maxRecDepth 20000 in
theorem ggX6_time_X6_requireJob : GoodIn wsX6_time wsX6_requireJob := goodIn_ca (goodIn_r _ [6, 7, 8, 1, 19, 20, 21, 22, 23, 24, 25, 26, 27] (by decide +kernel) (by decide +kernel)) (goodIn_sub (fun _ h => List.mem_cons_of_mem _ (List.mem_append_right _ h)) (by decide +kernel))
set_option maxRecDepth 20000 in
theorem gX6_time_X6_requireJob : GoodIn wsX6_time (wsV RX6 76 RX6 yX6_requireJob wsX6_requireJob) := goodIn_app (goodIn_of _ (by decide +kernel)) ggX6_time_X6_requireJob
set_option maxRecDepth 20000 in
theorem ggX6_time_X6_requireMachine : GoodIn wsX6_time wsX6_requireMachine := goodIn_ca (goodIn_r _ [11, 7, 8] (by decide +kernel) (by decide +kernel)) (goodIn_sub (fun _ h => List.mem_cons_of_mem _ (List.mem_append_right _ h)) (by decide +kernel))
set_option maxRecDepth 20000 in
theorem gX6_time_X6_requireMachine : GoodIn wsX6_time (va_wsS RX6 80 yX6_requireMachine wsX6_requireMachine) := goodIn_app (goodIn_of _ (by decide +kernel)) ggX6_time_X6_requireMachine
set_option maxRecDepth 20000 in
theorem ggX6_time_X1_timeOn : GoodIn wsX6_time wsX1_timeOn := goodIn_r _ [16, 17, 18, 26, 27] (by decide +kernel) (by decide +kernel)
set_option maxRecDepth 20000 in
theorem gX6_time_X1_timeOn : GoodIn wsX6_time (wsV RX6 87 RX1 yX1_timeOn wsX1_timeOn) := goodIn_app (goodIn_of _ (by decide +kernel)) ggX6_time_X1_timeOn
theorem dX6_time_0 : decode cX6_time 0 = .ok (.aload_n 0, 1) := by decide +kernel
theorem dX6_time_1 : decode cX6_time 1 = .ok (.iload_n 1, 1) := by decide +kernel
theorem dX6_time_2 : decode cX6_time 2 = .ok (.invokevirtual 76, 3) := by decide +kernel
theorem dX6_time_5 : decode cX6_time 5 = .ok (.iload_n 2, 1) := by decide +kernel
theorem dX6_time_6 : decode cX6_time 6 = .ok (.invokestatic 80, 3) := by decide +kernel
theorem dX6_time_9 : decode cX6_time 9 = .ok (.aload_n 0, 1) := by decide +kernel
theorem dX6_time_10 : decode cX6_time 10 = .ok (.getfield 12, 3) := by decide +kernel
theorem dX6_time_13 : decode cX6_time 13 = .ok (.iload_n 1, 1) := by decide +kernel
theorem dX6_time_14 : decode cX6_time 14 = .ok (.iload_n 2, 1) := by decide +kernel
theorem dX6_time_15 : decode cX6_time 15 = .ok (.invokevirtual 87, 3) := by decide +kernel
theorem dX6_time_18 : decode cX6_time 18 = .ok (.ireturn, 1) := by decide +kernel
set_option maxRecDepth 20000 in
theorem ggX6_shortest_X6_refreshSearch : GoodIn wsX6_shortest wsX6_refreshSearch := goodIn_r _ [6, 7, 1, 8, 9, 10, 11, 12, 13, 14, 15, 16, 17, 18, 19, 20, 21, 22, 23, 24, 25, 26, 27, 28, 29, 30, 31, 32, 33, 34, 35, 36, 37, 38, 39, 40, 41, 42, 43, 44, 45, 46, 47, 48, 49, 50, 51, 52, 53, 54, 55, 56] (by decide +kernel) (by decide +kernel)
set_option maxRecDepth 20000 in
theorem gX6_shortest_X6_refreshSearch : GoodIn wsX6_shortest (wsV RX6 91 RX6 yX6_refreshSearch wsX6_refreshSearch) := goodIn_app (goodIn_of _ (by decide +kernel)) ggX6_shortest_X6_refreshSearch
theorem dX6_shortest_0 : decode cX6_shortest 0 = .ok (.aload_n 0, 1) := by decide +kernel
theorem dX6_shortest_1 : decode cX6_shortest 1 = .ok (.invokevirtual 91, 3) := by decide +kernel
theorem dX6_shortest_4 : decode cX6_shortest 4 = .ok (.aload_n 0, 1) := by decide +kernel
theorem dX6_shortest_5 : decode cX6_shortest 5 = .ok (.getfield 26, 3) := by decide +kernel
theorem dX6_shortest_8 : decode cX6_shortest 8 = .ok (.getfield 94, 3) := by decide +kernel
theorem dX6_shortest_11 : decode cX6_shortest 11 = .ok (.ireturn, 1) := by decide +kernel
set_option maxRecDepth 20000 in
theorem ggX6_shortestByTrying_X3_tryAll : GoodIn wsX6_shortestByTrying wsX3_tryAll := goodIn_r _ [7, 8, 9, 10, 6, 11, 12, 13, 14, 15, 16, 17, 18, 19, 20, 21, 22, 23, 24, 25, 26, 27, 28, 29, 30, 31, 32, 33, 41, 42, 43, 44, 45, 46] (by decide +kernel) (by decide +kernel)
set_option maxRecDepth 20000 in
theorem gX6_shortestByTrying_X3_tryAll : GoodIn wsX6_shortestByTrying (wsV RX6 97 RX3 yX3_tryAll wsX3_tryAll) := goodIn_app (goodIn_of _ (by decide +kernel)) ggX6_shortestByTrying_X3_tryAll
theorem dX6_shortestByTrying_0 : decode cX6_shortestByTrying 0 = .ok (.aload_n 0, 1) := by decide +kernel
theorem dX6_shortestByTrying_1 : decode cX6_shortestByTrying 1 = .ok (.getfield 26, 3) := by decide +kernel
theorem dX6_shortestByTrying_4 : decode cX6_shortestByTrying 4 = .ok (.aload_n 0, 1) := by decide +kernel
theorem dX6_shortestByTrying_5 : decode cX6_shortestByTrying 5 = .ok (.getfield 12, 3) := by decide +kernel
theorem dX6_shortestByTrying_8 : decode cX6_shortestByTrying 8 = .ok (.invokevirtual 97, 3) := by decide +kernel
theorem dX6_shortestByTrying_11 : decode cX6_shortestByTrying 11 = .ok (.ireturn, 1) := by decide +kernel
set_option maxRecDepth 20000 in
theorem ggX6_shortestMachine_X6_requireJob : GoodIn wsX6_shortestMachine wsX6_requireJob := goodIn_ca (goodIn_r _ [6, 7, 8, 9, 50, 51, 52, 53, 54, 55, 56, 61, 62] (by decide +kernel) (by decide +kernel)) (goodIn_sub (fun _ h => List.mem_cons_of_mem _ (List.mem_append_right _ h)) (by decide +kernel))
set_option maxRecDepth 20000 in
theorem gX6_shortestMachine_X6_requireJob : GoodIn wsX6_shortestMachine (wsV RX6 76 RX6 yX6_requireJob wsX6_requireJob) := goodIn_app (goodIn_of _ (by decide +kernel)) ggX6_shortestMachine_X6_requireJob
set_option maxRecDepth 20000 in
theorem ggX6_shortestMachine_X6_refreshSearch : GoodIn wsX6_shortestMachine wsX6_refreshSearch := goodIn_r _ [13, 14, 1, 9, 15, 16, 17, 18, 19, 20, 21, 22, 23, 24, 25, 26, 27, 28, 29, 30, 31, 32, 33, 34, 35, 36, 37, 38, 39, 40, 41, 42, 43, 44, 45, 46, 47, 48, 49, 50, 51, 52, 53, 54, 55, 56, 57, 58, 59, 60, 61, 62] (by decide +kernel) (by decide +kernel)
set_option maxRecDepth 20000 in
theorem gX6_shortestMachine_X6_refreshSearch : GoodIn wsX6_shortestMachine (wsV RX6 91 RX6 yX6_refreshSearch wsX6_refreshSearch) := goodIn_app (goodIn_of _ (by decide +kernel)) ggX6_shortestMachine_X6_refreshSearch
theorem dX6_shortestMachine_0 : decode cX6_shortestMachine 0 = .ok (.aload_n 0, 1) := by decide +kernel
theorem dX6_shortestMachine_1 : decode cX6_shortestMachine 1 = .ok (.iload_n 1, 1) := by decide +kernel
theorem dX6_shortestMachine_2 : decode cX6_shortestMachine 2 = .ok (.invokevirtual 76, 3) := by decide +kernel
theorem dX6_shortestMachine_5 : decode cX6_shortestMachine 5 = .ok (.aload_n 0, 1) := by decide +kernel
theorem dX6_shortestMachine_6 : decode cX6_shortestMachine 6 = .ok (.invokevirtual 91, 3) := by decide +kernel
theorem dX6_shortestMachine_9 : decode cX6_shortestMachine 9 = .ok (.aload_n 0, 1) := by decide +kernel
theorem dX6_shortestMachine_10 : decode cX6_shortestMachine 10 = .ok (.getfield 26, 3) := by decide +kernel
theorem dX6_shortestMachine_13 : decode cX6_shortestMachine 13 = .ok (.getfield 101, 3) := by decide +kernel
theorem dX6_shortestMachine_16 : decode cX6_shortestMachine 16 = .ok (.iload_n 1, 1) := by decide +kernel
theorem dX6_shortestMachine_17 : decode cX6_shortestMachine 17 = .ok (.iaload, 1) := by decide +kernel
theorem dX6_shortestMachine_18 : decode cX6_shortestMachine 18 = .ok (.ireturn, 1) := by decide +kernel
set_option maxRecDepth 20000 in
theorem ggX6_bound_X6_refreshDivision : GoodIn wsX6_bound wsX6_refreshDivision := goodIn_r _ [6, 7, 1, 8, 9, 10, 11, 12, 13, 14, 15, 16, 17, 18, 19, 20, 21, 22, 23, 24, 25, 26, 27, 28, 29, 30, 31, 32, 33, 34, 35, 36, 37, 38, 39, 40, 41, 42, 43, 44, 45, 46, 47, 48, 49, 50, 51, 52, 53, 54, 55, 56, 57, 58, 59, 60, 61, 62, 63, 64, 65, 66, 67, 68, 69, 70, 71, 72, 73, 74, 75, 76, 77, 78, 79, 80, 81, 82, 83, 84, 85, 86, 87, 88, 89, 90, 91, 92, 93, 94, 95, 96, 97, 98, 99, 100, 101, 102, 103, 104, 105, 106, 107, 108, 109, 110, 111, 112, 113, 114, 115, 116, 117, 118, 119, 120, 121, 122, 123, 124, 125, 126, 127, 128, 129, 130, 131, 132, 133, 134, 135, 136, 137, 138, 139, 140, 141, 142, 143, 144, 145, 146] (by decide +kernel) (by decide +kernel)
set_option maxRecDepth 20000 in
theorem gX6_bound_X6_refreshDivision : GoodIn wsX6_bound (wsV RX6 104 RX6 yX6_refreshDivision wsX6_refreshDivision) := goodIn_app (goodIn_of _ (by decide +kernel)) ggX6_bound_X6_refreshDivision
theorem dX6_bound_0 : decode cX6_bound 0 = .ok (.aload_n 0, 1) := by decide +kernel
theorem dX6_bound_1 : decode cX6_bound 1 = .ok (.invokevirtual 104, 3) := by decide +kernel
theorem dX6_bound_4 : decode cX6_bound 4 = .ok (.aload_n 0, 1) := by decide +kernel
theorem dX6_bound_5 : decode cX6_bound 5 = .ok (.getfield 33, 3) := by decide +kernel
theorem dX6_bound_8 : decode cX6_bound 8 = .ok (.getfield 107, 3) := by decide +kernel
theorem dX6_bound_11 : decode cX6_bound 11 = .ok (.ireturn, 1) := by decide +kernel
set_option maxRecDepth 20000 in
theorem ggX6_numerator_X6_requireJob : GoodIn wsX6_numerator wsX6_requireJob := goodIn_ca (goodIn_r _ [6, 7, 8, 9, 135, 136, 137, 138, 139, 140, 141, 148, 149] (by decide +kernel) (by decide +kernel)) (goodIn_sub (fun _ h => List.mem_cons_of_mem _ (List.mem_append_right _ h)) (by decide +kernel))
set_option maxRecDepth 20000 in
theorem gX6_numerator_X6_requireJob : GoodIn wsX6_numerator (wsV RX6 76 RX6 yX6_requireJob wsX6_requireJob) := goodIn_app (goodIn_of _ (by decide +kernel)) ggX6_numerator_X6_requireJob
set_option maxRecDepth 20000 in
theorem ggX6_numerator_X6_requireMachine : GoodIn wsX6_numerator wsX6_requireMachine := goodIn_ca (goodIn_r _ [12, 7, 8] (by decide +kernel) (by decide +kernel)) (goodIn_sub (fun _ h => List.mem_cons_of_mem _ (List.mem_append_right _ h)) (by decide +kernel))
set_option maxRecDepth 20000 in
theorem gX6_numerator_X6_requireMachine : GoodIn wsX6_numerator (va_wsS RX6 80 yX6_requireMachine wsX6_requireMachine) := goodIn_app (goodIn_of _ (by decide +kernel)) ggX6_numerator_X6_requireMachine
set_option maxRecDepth 20000 in
theorem ggX6_numerator_X6_refreshDivision : GoodIn wsX6_numerator wsX6_refreshDivision := goodIn_r _ [16, 17, 1, 9, 18, 19, 20, 21, 22, 23, 24, 25, 26, 27, 28, 29, 30, 31, 32, 33, 34, 35, 36, 37, 38, 39, 40, 41, 42, 43, 44, 45, 46, 47, 48, 49, 50, 51, 52, 53, 54, 55, 56, 57, 58, 59, 60, 61, 62, 63, 64, 65, 66, 67, 68, 69, 70, 71, 72, 73, 74, 75, 76, 77, 78, 79, 80, 81, 82, 83, 84, 85, 86, 87, 88, 89, 90, 91, 92, 93, 94, 95, 96, 97, 98, 99, 100, 101, 102, 103, 104, 105, 106, 107, 108, 109, 110, 111, 112, 113, 114, 115, 116, 117, 118, 119, 120, 121, 122, 123, 124, 125, 126, 127, 128, 129, 130, 131, 132, 133, 134, 135, 136, 137, 138, 139, 140, 141, 142, 143, 144, 145, 146, 147, 150, 151, 152, 153, 154, 148, 149, 155] (by decide +kernel) (by decide +kernel)
set_option maxRecDepth 20000 in
theorem gX6_numerator_X6_refreshDivision : GoodIn wsX6_numerator (wsV RX6 104 RX6 yX6_refreshDivision wsX6_refreshDivision) := goodIn_app (goodIn_of _ (by decide +kernel)) ggX6_numerator_X6_refreshDivision
theorem dX6_numerator_0 : decode cX6_numerator 0 = .ok (.aload_n 0, 1) := by decide +kernel
theorem dX6_numerator_1 : decode cX6_numerator 1 = .ok (.iload_n 1, 1) := by decide +kernel
theorem dX6_numerator_2 : decode cX6_numerator 2 = .ok (.invokevirtual 76, 3) := by decide +kernel
theorem dX6_numerator_5 : decode cX6_numerator 5 = .ok (.iload_n 2, 1) := by decide +kernel
theorem dX6_numerator_6 : decode cX6_numerator 6 = .ok (.invokestatic 80, 3) := by decide +kernel
theorem dX6_numerator_9 : decode cX6_numerator 9 = .ok (.aload_n 0, 1) := by decide +kernel
theorem dX6_numerator_10 : decode cX6_numerator 10 = .ok (.invokevirtual 104, 3) := by decide +kernel
theorem dX6_numerator_13 : decode cX6_numerator 13 = .ok (.aload_n 0, 1) := by decide +kernel
theorem dX6_numerator_14 : decode cX6_numerator 14 = .ok (.getfield 33, 3) := by decide +kernel
theorem dX6_numerator_17 : decode cX6_numerator 17 = .ok (.getfield 110, 3) := by decide +kernel
theorem dX6_numerator_20 : decode cX6_numerator 20 = .ok (.iload_n 1, 1) := by decide +kernel
theorem dX6_numerator_21 : decode cX6_numerator 21 = .ok (.iconst 3, 1) := by decide +kernel
theorem dX6_numerator_22 : decode cX6_numerator 22 = .ok (.imul, 1) := by decide +kernel
theorem dX6_numerator_23 : decode cX6_numerator 23 = .ok (.iload_n 2, 1) := by decide +kernel
theorem dX6_numerator_24 : decode cX6_numerator 24 = .ok (.iadd, 1) := by decide +kernel
theorem dX6_numerator_25 : decode cX6_numerator 25 = .ok (.iaload, 1) := by decide +kernel
theorem dX6_numerator_26 : decode cX6_numerator 26 = .ok (.ireturn, 1) := by decide +kernel
set_option maxRecDepth 20000 in
theorem ggX6_denominator_X6_requireJob : GoodIn wsX6_denominator wsX6_requireJob := goodIn_ca (goodIn_r _ [6, 7, 8, 9, 135, 136, 137, 138, 139, 140, 141, 148, 149] (by decide +kernel) (by decide +kernel)) (goodIn_sub (fun _ h => List.mem_cons_of_mem _ (List.mem_append_right _ h)) (by decide +kernel))
set_option maxRecDepth 20000 in
theorem gX6_denominator_X6_requireJob : GoodIn wsX6_denominator (wsV RX6 76 RX6 yX6_requireJob wsX6_requireJob) := goodIn_app (goodIn_of _ (by decide +kernel)) ggX6_denominator_X6_requireJob
set_option maxRecDepth 20000 in
theorem ggX6_denominator_X6_requireMachine : GoodIn wsX6_denominator wsX6_requireMachine := goodIn_ca (goodIn_r _ [12, 7, 8] (by decide +kernel) (by decide +kernel)) (goodIn_sub (fun _ h => List.mem_cons_of_mem _ (List.mem_append_right _ h)) (by decide +kernel))
set_option maxRecDepth 20000 in
theorem gX6_denominator_X6_requireMachine : GoodIn wsX6_denominator (va_wsS RX6 80 yX6_requireMachine wsX6_requireMachine) := goodIn_app (goodIn_of _ (by decide +kernel)) ggX6_denominator_X6_requireMachine
set_option maxRecDepth 20000 in
theorem ggX6_denominator_X6_refreshDivision : GoodIn wsX6_denominator wsX6_refreshDivision := goodIn_r _ [16, 17, 1, 9, 18, 19, 20, 21, 22, 23, 24, 25, 26, 27, 28, 29, 30, 31, 32, 33, 34, 35, 36, 37, 38, 39, 40, 41, 42, 43, 44, 45, 46, 47, 48, 49, 50, 51, 52, 53, 54, 55, 56, 57, 58, 59, 60, 61, 62, 63, 64, 65, 66, 67, 68, 69, 70, 71, 72, 73, 74, 75, 76, 77, 78, 79, 80, 81, 82, 83, 84, 85, 86, 87, 88, 89, 90, 91, 92, 93, 94, 95, 96, 97, 98, 99, 100, 101, 102, 103, 104, 105, 106, 107, 108, 109, 110, 111, 112, 113, 114, 115, 116, 117, 118, 119, 120, 121, 122, 123, 124, 125, 126, 127, 128, 129, 130, 131, 132, 133, 134, 135, 136, 137, 138, 139, 140, 141, 142, 143, 144, 145, 146, 147, 150, 151, 152, 153, 154, 148, 149, 155] (by decide +kernel) (by decide +kernel)
set_option maxRecDepth 20000 in
theorem gX6_denominator_X6_refreshDivision : GoodIn wsX6_denominator (wsV RX6 104 RX6 yX6_refreshDivision wsX6_refreshDivision) := goodIn_app (goodIn_of _ (by decide +kernel)) ggX6_denominator_X6_refreshDivision
theorem dX6_denominator_0 : decode cX6_denominator 0 = .ok (.aload_n 0, 1) := by decide +kernel
theorem dX6_denominator_1 : decode cX6_denominator 1 = .ok (.iload_n 1, 1) := by decide +kernel
theorem dX6_denominator_2 : decode cX6_denominator 2 = .ok (.invokevirtual 76, 3) := by decide +kernel
theorem dX6_denominator_5 : decode cX6_denominator 5 = .ok (.iload_n 2, 1) := by decide +kernel
theorem dX6_denominator_6 : decode cX6_denominator 6 = .ok (.invokestatic 80, 3) := by decide +kernel
theorem dX6_denominator_9 : decode cX6_denominator 9 = .ok (.aload_n 0, 1) := by decide +kernel
theorem dX6_denominator_10 : decode cX6_denominator 10 = .ok (.invokevirtual 104, 3) := by decide +kernel
theorem dX6_denominator_13 : decode cX6_denominator 13 = .ok (.aload_n 0, 1) := by decide +kernel
theorem dX6_denominator_14 : decode cX6_denominator 14 = .ok (.getfield 33, 3) := by decide +kernel
theorem dX6_denominator_17 : decode cX6_denominator 17 = .ok (.getfield 113, 3) := by decide +kernel
theorem dX6_denominator_20 : decode cX6_denominator 20 = .ok (.iload_n 1, 1) := by decide +kernel
theorem dX6_denominator_21 : decode cX6_denominator 21 = .ok (.iconst 3, 1) := by decide +kernel
theorem dX6_denominator_22 : decode cX6_denominator 22 = .ok (.imul, 1) := by decide +kernel
theorem dX6_denominator_23 : decode cX6_denominator 23 = .ok (.iload_n 2, 1) := by decide +kernel
theorem dX6_denominator_24 : decode cX6_denominator 24 = .ok (.iadd, 1) := by decide +kernel
theorem dX6_denominator_25 : decode cX6_denominator 25 = .ok (.iaload, 1) := by decide +kernel
theorem dX6_denominator_26 : decode cX6_denominator 26 = .ok (.ireturn, 1) := by decide +kernel
set_option maxRecDepth 20000 in
theorem ggX6_isDivided_X6_requireJob : GoodIn wsX6_isDivided wsX6_requireJob := goodIn_ca (goodIn_r _ [6, 7, 8, 9, 133, 134, 135, 136, 137, 138, 139, 140, 141] (by decide +kernel) (by decide +kernel)) (goodIn_sub (fun _ h => List.mem_cons_of_mem _ (List.mem_append_right _ h)) (by decide +kernel))
set_option maxRecDepth 20000 in
theorem gX6_isDivided_X6_requireJob : GoodIn wsX6_isDivided (wsV RX6 76 RX6 yX6_requireJob wsX6_requireJob) := goodIn_app (goodIn_of _ (by decide +kernel)) ggX6_isDivided_X6_requireJob
set_option maxRecDepth 20000 in
theorem ggX6_isDivided_X6_refreshDivision : GoodIn wsX6_isDivided wsX6_refreshDivision := goodIn_r _ [13, 14, 1, 9, 15, 16, 17, 18, 19, 20, 21, 22, 23, 24, 25, 26, 27, 28, 29, 30, 31, 32, 33, 34, 35, 36, 37, 38, 39, 40, 41, 42, 43, 44, 45, 46, 47, 48, 49, 50, 51, 52, 53, 54, 55, 56, 57, 58, 59, 60, 61, 62, 63, 64, 65, 66, 67, 68, 69, 70, 71, 72, 73, 74, 75, 76, 77, 78, 79, 80, 81, 82, 83, 84, 85, 86, 87, 88, 89, 90, 91, 92, 93, 94, 95, 96, 97, 98, 99, 100, 101, 102, 103, 104, 105, 106, 107, 108, 109, 110, 111, 112, 113, 114, 115, 116, 117, 118, 119, 120, 121, 122, 123, 124, 125, 126, 127, 128, 129, 130, 131, 133, 134, 135, 136, 137, 138, 139, 142, 143, 144, 145, 146, 147, 148, 149, 150, 151, 152, 140, 141, 153] (by decide +kernel) (by decide +kernel)
set_option maxRecDepth 20000 in
theorem gX6_isDivided_X6_refreshDivision : GoodIn wsX6_isDivided (wsV RX6 104 RX6 yX6_refreshDivision wsX6_refreshDivision) := goodIn_app (goodIn_of _ (by decide +kernel)) ggX6_isDivided_X6_refreshDivision
set_option maxRecDepth 20000 in
theorem ggX6_isDivided_X0_wholeMachine : GoodIn wsX6_isDivided wsX0_wholeMachine := goodIn_r _ [126, 105, 127, 128, 129, 19, 130, 104, 142, 143, 144, 145, 146, 147] (by decide +kernel) (by decide +kernel)
set_option maxRecDepth 20000 in
theorem gX6_isDivided_X0_wholeMachine : GoodIn wsX6_isDivided (wsV RX6 116 RX0 yX0_wholeMachine wsX0_wholeMachine) := goodIn_app (goodIn_of _ (by decide +kernel)) ggX6_isDivided_X0_wholeMachine
theorem dX6_isDivided_0 : decode cX6_isDivided 0 = .ok (.aload_n 0, 1) := by decide +kernel
theorem dX6_isDivided_1 : decode cX6_isDivided 1 = .ok (.iload_n 1, 1) := by decide +kernel
theorem dX6_isDivided_2 : decode cX6_isDivided 2 = .ok (.invokevirtual 76, 3) := by decide +kernel
theorem dX6_isDivided_5 : decode cX6_isDivided 5 = .ok (.aload_n 0, 1) := by decide +kernel
theorem dX6_isDivided_6 : decode cX6_isDivided 6 = .ok (.invokevirtual 104, 3) := by decide +kernel
theorem dX6_isDivided_9 : decode cX6_isDivided 9 = .ok (.aload_n 0, 1) := by decide +kernel
theorem dX6_isDivided_10 : decode cX6_isDivided 10 = .ok (.getfield 33, 3) := by decide +kernel
theorem dX6_isDivided_13 : decode cX6_isDivided 13 = .ok (.iload_n 1, 1) := by decide +kernel
theorem dX6_isDivided_14 : decode cX6_isDivided 14 = .ok (.invokevirtual 116, 3) := by decide +kernel
theorem dX6_isDivided_17 : decode cX6_isDivided 17 = .ok (.iconst (-1), 1) := by decide +kernel
theorem dX6_isDivided_18 : decode cX6_isDivided 18 = .ok (.if_icmp .ne 7, 3) := by decide +kernel
theorem dX6_isDivided_21 : decode cX6_isDivided 21 = .ok (.iconst 1, 1) := by decide +kernel
theorem dX6_isDivided_22 : decode cX6_isDivided 22 = .ok (.goto 4, 3) := by decide +kernel
theorem dX6_isDivided_25 : decode cX6_isDivided 25 = .ok (.iconst 0, 1) := by decide +kernel
theorem dX6_isDivided_26 : decode cX6_isDivided 26 = .ok (.ireturn, 1) := by decide +kernel
set_option maxRecDepth 20000 in
theorem ggX6_leastNumerator_X6_refreshDivision : GoodIn wsX6_leastNumerator wsX6_refreshDivision := goodIn_r _ [6, 7, 1, 8, 9, 10, 11, 12, 13, 14, 15, 16, 17, 18, 19, 20, 21, 22, 23, 24, 25, 26, 27, 28, 29, 30, 31, 32, 33, 34, 35, 36, 37, 38, 39, 40, 41, 42, 43, 44, 45, 46, 47, 48, 49, 50, 51, 52, 53, 54, 55, 56, 57, 58, 59, 60, 61, 62, 63, 64, 65, 66, 67, 68, 69, 70, 71, 72, 73, 74, 75, 76, 77, 78, 79, 80, 81, 82, 83, 84, 85, 86, 87, 88, 89, 90, 91, 92, 93, 94, 95, 96, 97, 98, 99, 100, 101, 102, 103, 104, 105, 106, 107, 108, 109, 110, 111, 112, 113, 114, 115, 116, 117, 118, 119, 120, 121, 122, 123, 124, 125, 126, 127, 128, 129, 130, 131, 132, 133, 134, 135, 136, 137, 138, 139, 140, 141, 142, 143, 144, 145, 146] (by decide +kernel) (by decide +kernel)
set_option maxRecDepth 20000 in
theorem gX6_leastNumerator_X6_refreshDivision : GoodIn wsX6_leastNumerator (wsV RX6 104 RX6 yX6_refreshDivision wsX6_refreshDivision) := goodIn_app (goodIn_of _ (by decide +kernel)) ggX6_leastNumerator_X6_refreshDivision
theorem dX6_leastNumerator_0 : decode cX6_leastNumerator 0 = .ok (.aload_n 0, 1) := by decide +kernel
theorem dX6_leastNumerator_1 : decode cX6_leastNumerator 1 = .ok (.invokevirtual 104, 3) := by decide +kernel
theorem dX6_leastNumerator_4 : decode cX6_leastNumerator 4 = .ok (.aload_n 0, 1) := by decide +kernel
theorem dX6_leastNumerator_5 : decode cX6_leastNumerator 5 = .ok (.getfield 33, 3) := by decide +kernel
theorem dX6_leastNumerator_8 : decode cX6_leastNumerator 8 = .ok (.getfield 120, 3) := by decide +kernel
theorem dX6_leastNumerator_11 : decode cX6_leastNumerator 11 = .ok (.ireturn, 1) := by decide +kernel
set_option maxRecDepth 20000 in
theorem ggX6_leastDenominator_X6_refreshDivision : GoodIn wsX6_leastDenominator wsX6_refreshDivision := goodIn_r _ [6, 7, 1, 8, 9, 10, 11, 12, 13, 14, 15, 16, 17, 18, 19, 20, 21, 22, 23, 24, 25, 26, 27, 28, 29, 30, 31, 32, 33, 34, 35, 36, 37, 38, 39, 40, 41, 42, 43, 44, 45, 46, 47, 48, 49, 50, 51, 52, 53, 54, 55, 56, 57, 58, 59, 60, 61, 62, 63, 64, 65, 66, 67, 68, 69, 70, 71, 72, 73, 74, 75, 76, 77, 78, 79, 80, 81, 82, 83, 84, 85, 86, 87, 88, 89, 90, 91, 92, 93, 94, 95, 96, 97, 98, 99, 100, 101, 102, 103, 104, 105, 106, 107, 108, 109, 110, 111, 112, 113, 114, 115, 116, 117, 118, 119, 120, 121, 122, 123, 124, 125, 126, 127, 128, 129, 130, 131, 132, 133, 134, 135, 136, 137, 138, 139, 140, 141, 142, 143, 144, 145, 146] (by decide +kernel) (by decide +kernel)
set_option maxRecDepth 20000 in
theorem gX6_leastDenominator_X6_refreshDivision : GoodIn wsX6_leastDenominator (wsV RX6 104 RX6 yX6_refreshDivision wsX6_refreshDivision) := goodIn_app (goodIn_of _ (by decide +kernel)) ggX6_leastDenominator_X6_refreshDivision
theorem dX6_leastDenominator_0 : decode cX6_leastDenominator 0 = .ok (.aload_n 0, 1) := by decide +kernel
theorem dX6_leastDenominator_1 : decode cX6_leastDenominator 1 = .ok (.invokevirtual 104, 3) := by decide +kernel
theorem dX6_leastDenominator_4 : decode cX6_leastDenominator 4 = .ok (.aload_n 0, 1) := by decide +kernel
theorem dX6_leastDenominator_5 : decode cX6_leastDenominator 5 = .ok (.getfield 33, 3) := by decide +kernel
theorem dX6_leastDenominator_8 : decode cX6_leastDenominator 8 = .ok (.getfield 123, 3) := by decide +kernel
theorem dX6_leastDenominator_11 : decode cX6_leastDenominator 11 = .ok (.ireturn, 1) := by decide +kernel
set_option maxRecDepth 20000 in
theorem ggX6_roundedMachine_X6_requireJob : GoodIn wsX6_roundedMachine wsX6_requireJob := goodIn_ca (goodIn_r _ [6, 7, 8, 9, 132, 133, 134, 135, 136, 137, 138, 140, 141] (by decide +kernel) (by decide +kernel)) (goodIn_sub (fun _ h => List.mem_cons_of_mem _ (List.mem_append_right _ h)) (by decide +kernel))
set_option maxRecDepth 20000 in
theorem gX6_roundedMachine_X6_requireJob : GoodIn wsX6_roundedMachine (wsV RX6 76 RX6 yX6_requireJob wsX6_requireJob) := goodIn_app (goodIn_of _ (by decide +kernel)) ggX6_roundedMachine_X6_requireJob
set_option maxRecDepth 20000 in
theorem ggX6_roundedMachine_X6_refreshDivision : GoodIn wsX6_roundedMachine wsX6_refreshDivision := goodIn_r _ [13, 14, 15, 9, 1, 16, 17, 18, 19, 20, 21, 22, 23, 24, 25, 26, 27, 28, 29, 30, 31, 32, 33, 34, 35, 36, 37, 38, 39, 40, 41, 42, 43, 44, 45, 46, 47, 48, 49, 50, 51, 52, 53, 54, 55, 56, 57, 58, 59, 60, 61, 62, 63, 64, 65, 66, 67, 68, 69, 70, 71, 72, 73, 74, 75, 76, 77, 78, 79, 80, 81, 82, 83, 84, 85, 86, 87, 88, 89, 90, 91, 92, 93, 94, 95, 96, 97, 98, 99, 100, 101, 102, 103, 104, 105, 106, 107, 108, 109, 110, 111, 112, 113, 114, 115, 116, 117, 118, 119, 120, 121, 122, 123, 124, 125, 126, 127, 128, 129, 130, 131, 132, 133, 134, 135, 136, 137, 138, 142, 143, 144, 145, 146, 147, 148, 149, 150, 151, 152, 140, 141, 139] (by decide +kernel) (by decide +kernel)
set_option maxRecDepth 20000 in
theorem gX6_roundedMachine_X6_refreshDivision : GoodIn wsX6_roundedMachine (wsV RX6 104 RX6 yX6_refreshDivision wsX6_refreshDivision) := goodIn_app (goodIn_of _ (by decide +kernel)) ggX6_roundedMachine_X6_refreshDivision
theorem dX6_roundedMachine_0 : decode cX6_roundedMachine 0 = .ok (.aload_n 0, 1) := by decide +kernel
theorem dX6_roundedMachine_1 : decode cX6_roundedMachine 1 = .ok (.iload_n 1, 1) := by decide +kernel
theorem dX6_roundedMachine_2 : decode cX6_roundedMachine 2 = .ok (.invokevirtual 76, 3) := by decide +kernel
theorem dX6_roundedMachine_5 : decode cX6_roundedMachine 5 = .ok (.aload_n 0, 1) := by decide +kernel
theorem dX6_roundedMachine_6 : decode cX6_roundedMachine 6 = .ok (.invokevirtual 104, 3) := by decide +kernel
theorem dX6_roundedMachine_9 : decode cX6_roundedMachine 9 = .ok (.aload_n 0, 1) := by decide +kernel
theorem dX6_roundedMachine_10 : decode cX6_roundedMachine 10 = .ok (.getfield 40, 3) := by decide +kernel
theorem dX6_roundedMachine_13 : decode cX6_roundedMachine 13 = .ok (.getfield 126, 3) := by decide +kernel
theorem dX6_roundedMachine_16 : decode cX6_roundedMachine 16 = .ok (.iload_n 1, 1) := by decide +kernel
theorem dX6_roundedMachine_17 : decode cX6_roundedMachine 17 = .ok (.iaload, 1) := by decide +kernel
theorem dX6_roundedMachine_18 : decode cX6_roundedMachine 18 = .ok (.ireturn, 1) := by decide +kernel
set_option maxRecDepth 20000 in
theorem ggX6_roundedLength_X6_refreshDivision : GoodIn wsX6_roundedLength wsX6_refreshDivision := goodIn_r _ [7, 8, 9, 1, 2, 10, 11, 12, 13, 14, 15, 16, 17, 18, 19, 20, 21, 22, 23, 24, 25, 26, 27, 28, 29, 30, 31, 32, 33, 34, 35, 36, 37, 38, 39, 40, 41, 42, 43, 44, 45, 46, 47, 48, 49, 50, 51, 52, 53, 54, 55, 56, 57, 58, 59, 60, 61, 62, 63, 64, 65, 66, 67, 68, 69, 70, 71, 72, 73, 74, 75, 76, 77, 78, 79, 80, 81, 82, 83, 84, 85, 86, 87, 88, 89, 90, 91, 92, 93, 94, 95, 96, 97, 98, 99, 100, 101, 102, 103, 104, 105, 106, 107, 108, 109, 110, 111, 112, 113, 114, 115, 116, 117, 118, 119, 120, 121, 122, 123, 124, 125, 138, 139, 140, 141, 142, 143, 144, 146, 147, 148, 149, 150, 151, 152, 153, 154, 155, 156, 157, 158, 145] (by decide +kernel) (by decide +kernel)
set_option maxRecDepth 20000 in
theorem gX6_roundedLength_X6_refreshDivision : GoodIn wsX6_roundedLength (wsV RX6 104 RX6 yX6_refreshDivision wsX6_refreshDivision) := goodIn_app (goodIn_of _ (by decide +kernel)) ggX6_roundedLength_X6_refreshDivision
set_option maxRecDepth 20000 in
theorem ggX6_roundedLength_X1_greatestLoad : GoodIn wsX6_roundedLength wsX1_greatestLoad := goodIn_r _ [129, 130, 131, 38, 132, 133, 134, 135, 49, 136, 51, 137, 47, 48, 50, 52, 157, 158] (by decide +kernel) (by decide +kernel)
set_option maxRecDepth 20000 in
theorem gX6_roundedLength_X1_greatestLoad : GoodIn wsX6_roundedLength (wsV RX6 127 RX1 yX1_greatestLoad wsX1_greatestLoad) := goodIn_app (goodIn_of _ (by decide +kernel)) ggX6_roundedLength_X1_greatestLoad
theorem dX6_roundedLength_0 : decode cX6_roundedLength 0 = .ok (.aload_n 0, 1) := by decide +kernel
theorem dX6_roundedLength_1 : decode cX6_roundedLength 1 = .ok (.invokevirtual 104, 3) := by decide +kernel
theorem dX6_roundedLength_4 : decode cX6_roundedLength 4 = .ok (.aload_n 0, 1) := by decide +kernel
theorem dX6_roundedLength_5 : decode cX6_roundedLength 5 = .ok (.getfield 12, 3) := by decide +kernel
theorem dX6_roundedLength_8 : decode cX6_roundedLength 8 = .ok (.aload_n 0, 1) := by decide +kernel
theorem dX6_roundedLength_9 : decode cX6_roundedLength 9 = .ok (.getfield 40, 3) := by decide +kernel
theorem dX6_roundedLength_12 : decode cX6_roundedLength 12 = .ok (.getfield 126, 3) := by decide +kernel
theorem dX6_roundedLength_15 : decode cX6_roundedLength 15 = .ok (.invokevirtual 127, 3) := by decide +kernel
theorem dX6_roundedLength_18 : decode cX6_roundedLength 18 = .ok (.ireturn, 1) := by decide +kernel
set_option maxRecDepth 20000 in
theorem ggX6_excess_X6_refreshSearch : GoodIn wsX6_excess wsX6_refreshSearch := goodIn_r _ [8, 9, 1, 2, 10, 11, 12, 13, 14, 15, 16, 17, 18, 19, 20, 21, 22, 23, 24, 25, 26, 27, 28, 29, 30, 31, 32, 33, 34, 35, 36, 37, 38, 39, 40, 41, 42, 43, 44, 170, 171, 172, 173, 174, 175, 176, 177, 178, 179, 180, 182, 183] (by decide +kernel) (by decide +kernel)
set_option maxRecDepth 20000 in
theorem gX6_excess_X6_refreshSearch : GoodIn wsX6_excess (wsV RX6 91 RX6 yX6_refreshSearch wsX6_refreshSearch) := goodIn_app (goodIn_of _ (by decide +kernel)) ggX6_excess_X6_refreshSearch
set_option maxRecDepth 20000 in
theorem ggX6_excess_X6_refreshDivision : GoodIn wsX6_excess wsX6_refreshDivision := goodIn_r _ [48, 49, 50, 2, 3, 51, 52, 53, 54, 55, 56, 57, 58, 59, 60, 61, 62, 63, 64, 65, 66, 67, 68, 69, 70, 71, 72, 73, 74, 75, 76, 77, 78, 31, 79, 80, 81, 82, 83, 84, 85, 86, 39, 40, 41, 42, 43, 44, 87, 88, 89, 90, 91, 92, 93, 94, 95, 96, 97, 98, 99, 100, 101, 102, 103, 104, 105, 106, 107, 108, 109, 110, 111, 112, 113, 114, 115, 116, 117, 118, 119, 120, 121, 122, 123, 124, 125, 126, 127, 128, 129, 130, 131, 132, 133, 134, 135, 136, 137, 138, 139, 140, 141, 142, 143, 144, 145, 146, 147, 148, 149, 150, 151, 152, 153, 154, 155, 156, 157, 158, 159, 170, 171, 172, 173, 174, 175, 176, 184, 185, 186, 187, 188, 189, 190, 191, 192, 193, 194, 182, 183, 181] (by decide +kernel) (by decide +kernel)
set_option maxRecDepth 20000 in
theorem gX6_excess_X6_refreshDivision : GoodIn wsX6_excess (wsV RX6 104 RX6 yX6_refreshDivision wsX6_refreshDivision) := goodIn_app (goodIn_of _ (by decide +kernel)) ggX6_excess_X6_refreshDivision
set_option maxRecDepth 20000 in
theorem ggX6_excess_X1_greatestLoad : GoodIn wsX6_excess wsX1_greatestLoad := goodIn_r _ [163, 164, 30, 31, 32, 165, 166, 167, 41, 168, 43, 169, 39, 40, 42, 44, 182, 183] (by decide +kernel) (by decide +kernel)
set_option maxRecDepth 20000 in
theorem gX6_excess_X1_greatestLoad : GoodIn wsX6_excess (wsV RX6 127 RX1 yX1_greatestLoad wsX1_greatestLoad) := goodIn_app (goodIn_of _ (by decide +kernel)) ggX6_excess_X1_greatestLoad
theorem dX6_excess_0 : decode cX6_excess 0 = .ok (.aload_n 0, 1) := by decide +kernel
theorem dX6_excess_1 : decode cX6_excess 1 = .ok (.invokevirtual 91, 3) := by decide +kernel
theorem dX6_excess_4 : decode cX6_excess 4 = .ok (.aload_n 0, 1) := by decide +kernel
theorem dX6_excess_5 : decode cX6_excess 5 = .ok (.invokevirtual 104, 3) := by decide +kernel
theorem dX6_excess_8 : decode cX6_excess 8 = .ok (.aload_n 0, 1) := by decide +kernel
theorem dX6_excess_9 : decode cX6_excess 9 = .ok (.getfield 26, 3) := by decide +kernel
theorem dX6_excess_12 : decode cX6_excess 12 = .ok (.getfield 94, 3) := by decide +kernel
theorem dX6_excess_15 : decode cX6_excess 15 = .ok (.ifCond .ne 5, 3) := by decide +kernel
theorem dX6_excess_18 : decode cX6_excess 18 = .ok (.fconst 1, 1) := by decide +kernel
theorem dX6_excess_19 : decode cX6_excess 19 = .ok (.freturn, 1) := by decide +kernel
theorem dX6_excess_20 : decode cX6_excess 20 = .ok (.aload_n 0, 1) := by decide +kernel
theorem dX6_excess_21 : decode cX6_excess 21 = .ok (.getfield 12, 3) := by decide +kernel
theorem dX6_excess_24 : decode cX6_excess 24 = .ok (.aload_n 0, 1) := by decide +kernel
theorem dX6_excess_25 : decode cX6_excess 25 = .ok (.getfield 40, 3) := by decide +kernel
theorem dX6_excess_28 : decode cX6_excess 28 = .ok (.getfield 126, 3) := by decide +kernel
theorem dX6_excess_31 : decode cX6_excess 31 = .ok (.invokevirtual 127, 3) := by decide +kernel
theorem dX6_excess_34 : decode cX6_excess 34 = .ok (.i2f, 1) := by decide +kernel
theorem dX6_excess_35 : decode cX6_excess 35 = .ok (.aload_n 0, 1) := by decide +kernel
theorem dX6_excess_36 : decode cX6_excess 36 = .ok (.getfield 26, 3) := by decide +kernel
theorem dX6_excess_39 : decode cX6_excess 39 = .ok (.getfield 94, 3) := by decide +kernel
theorem dX6_excess_42 : decode cX6_excess 42 = .ok (.i2f, 1) := by decide +kernel
theorem dX6_excess_43 : decode cX6_excess 43 = .ok (.fdiv, 1) := by decide +kernel
theorem dX6_excess_44 : decode cX6_excess 44 = .ok (.freturn, 1) := by decide +kernel
set_option maxRecDepth 20000 in
theorem ggX6_assign_X6_requireJob : GoodIn wsX6_assign wsX6_requireJob := goodIn_ca (goodIn_r _ [9, 10, 11, 3, 22, 23, 24, 25, 26, 27, 28, 34, 35] (by decide +kernel) (by decide +kernel)) (goodIn_sub (fun _ h => List.mem_cons_of_mem _ (List.mem_append_right _ h)) (by decide +kernel))
set_option maxRecDepth 20000 in
theorem gX6_assign_X6_requireJob : GoodIn wsX6_assign (wsV RX6 76 RX6 yX6_requireJob wsX6_requireJob) := goodIn_app (goodIn_of _ (by decide +kernel)) ggX6_assign_X6_requireJob
set_option maxRecDepth 20000 in
theorem ggX6_assign_X6_requireMachine : GoodIn wsX6_assign wsX6_requireMachine := goodIn_ca (goodIn_r _ [14, 10, 11] (by decide +kernel) (by decide +kernel)) (goodIn_sub (fun _ h => List.mem_cons_of_mem _ (List.mem_append_right _ h)) (by decide +kernel))
set_option maxRecDepth 20000 in
theorem gX6_assign_X6_requireMachine : GoodIn wsX6_assign (va_wsS RX6 80 yX6_requireMachine wsX6_requireMachine) := goodIn_app (goodIn_of _ (by decide +kernel)) ggX6_assign_X6_requireMachine
set_option maxRecDepth 20000 in
theorem ggX6_assign_X1_timeOn : GoodIn wsX6_assign wsX1_timeOn := goodIn_r _ [19, 20, 21, 34, 35] (by decide +kernel) (by decide +kernel)
set_option maxRecDepth 20000 in
theorem gX6_assign_X1_timeOn : GoodIn wsX6_assign (wsV RX6 87 RX1 yX1_timeOn wsX1_timeOn) := goodIn_app (goodIn_of _ (by decide +kernel)) ggX6_assign_X1_timeOn
theorem dX6_assign_0 : decode cX6_assign 0 = .ok (.aload_n 0, 1) := by decide +kernel
theorem dX6_assign_1 : decode cX6_assign 1 = .ok (.iload_n 1, 1) := by decide +kernel
theorem dX6_assign_2 : decode cX6_assign 2 = .ok (.invokevirtual 76, 3) := by decide +kernel
theorem dX6_assign_5 : decode cX6_assign 5 = .ok (.iload_n 2, 1) := by decide +kernel
theorem dX6_assign_6 : decode cX6_assign 6 = .ok (.invokestatic 80, 3) := by decide +kernel
theorem dX6_assign_9 : decode cX6_assign 9 = .ok (.aload_n 0, 1) := by decide +kernel
theorem dX6_assign_10 : decode cX6_assign 10 = .ok (.getfield 12, 3) := by decide +kernel
theorem dX6_assign_13 : decode cX6_assign 13 = .ok (.iload_n 1, 1) := by decide +kernel
theorem dX6_assign_14 : decode cX6_assign 14 = .ok (.iload_n 2, 1) := by decide +kernel
theorem dX6_assign_15 : decode cX6_assign 15 = .ok (.invokevirtual 87, 3) := by decide +kernel
theorem dX6_assign_18 : decode cX6_assign 18 = .ok (.ifCond .ne 13, 3) := by decide +kernel
theorem dX6_assign_21 : decode cX6_assign 21 = .ok (.new 61, 3) := by decide +kernel
theorem dX6_assign_24 : decode cX6_assign 24 = .ok (.dup, 1) := by decide +kernel
theorem dX6_assign_25 : decode cX6_assign 25 = .ok (.ldc 131, 2) := by decide +kernel
theorem dX6_assign_27 : decode cX6_assign 27 = .ok (.invokespecial 65, 3) := by decide +kernel
theorem dX6_assign_30 : decode cX6_assign 30 = .ok (.athrow, 1) := by decide +kernel
theorem dX6_assign_31 : decode cX6_assign 31 = .ok (.aload_n 0, 1) := by decide +kernel
theorem dX6_assign_32 : decode cX6_assign 32 = .ok (.getfield 19, 3) := by decide +kernel
theorem dX6_assign_35 : decode cX6_assign 35 = .ok (.getfield 70, 3) := by decide +kernel
theorem dX6_assign_38 : decode cX6_assign 38 = .ok (.iload_n 1, 1) := by decide +kernel
theorem dX6_assign_39 : decode cX6_assign 39 = .ok (.iaload, 1) := by decide +kernel
theorem dX6_assign_40 : decode cX6_assign 40 = .ok (.istore_n 3, 1) := by decide +kernel
theorem dX6_assign_41 : decode cX6_assign 41 = .ok (.aload_n 0, 1) := by decide +kernel
theorem dX6_assign_42 : decode cX6_assign 42 = .ok (.getfield 19, 3) := by decide +kernel
theorem dX6_assign_45 : decode cX6_assign 45 = .ok (.getfield 70, 3) := by decide +kernel
theorem dX6_assign_48 : decode cX6_assign 48 = .ok (.iload_n 1, 1) := by decide +kernel
theorem dX6_assign_49 : decode cX6_assign 49 = .ok (.iload_n 2, 1) := by decide +kernel
theorem dX6_assign_50 : decode cX6_assign 50 = .ok (.iastore, 1) := by decide +kernel
theorem dX6_assign_51 : decode cX6_assign 51 = .ok (.iload_n 3, 1) := by decide +kernel
theorem dX6_assign_52 : decode cX6_assign 52 = .ok (.ireturn, 1) := by decide +kernel
set_option maxRecDepth 20000 in
theorem ggX6_machine_X6_requireJob : GoodIn wsX6_machine wsX6_requireJob := goodIn_ca (goodIn_r _ [6, 7, 8, 9, 10, 11, 12, 13, 14, 15, 16, 22, 23] (by decide +kernel) (by decide +kernel)) (goodIn_sub (fun _ h => List.mem_cons_of_mem _ (List.mem_append_right _ h)) (by decide +kernel))
set_option maxRecDepth 20000 in
theorem gX6_machine_X6_requireJob : GoodIn wsX6_machine (wsV RX6 76 RX6 yX6_requireJob wsX6_requireJob) := goodIn_app (goodIn_of _ (by decide +kernel)) ggX6_machine_X6_requireJob
theorem dX6_machine_0 : decode cX6_machine 0 = .ok (.aload_n 0, 1) := by decide +kernel
theorem dX6_machine_1 : decode cX6_machine 1 = .ok (.iload_n 1, 1) := by decide +kernel
theorem dX6_machine_2 : decode cX6_machine 2 = .ok (.invokevirtual 76, 3) := by decide +kernel
theorem dX6_machine_5 : decode cX6_machine 5 = .ok (.aload_n 0, 1) := by decide +kernel
theorem dX6_machine_6 : decode cX6_machine 6 = .ok (.getfield 19, 3) := by decide +kernel
theorem dX6_machine_9 : decode cX6_machine 9 = .ok (.getfield 70, 3) := by decide +kernel
theorem dX6_machine_12 : decode cX6_machine 12 = .ok (.iload_n 1, 1) := by decide +kernel
theorem dX6_machine_13 : decode cX6_machine 13 = .ok (.iaload, 1) := by decide +kernel
theorem dX6_machine_14 : decode cX6_machine 14 = .ok (.ireturn, 1) := by decide +kernel
set_option maxRecDepth 20000 in
theorem ggX6_load_X6_requireMachine : GoodIn wsX6_load wsX6_requireMachine := goodIn_ca (goodIn_r _ [6, 7, 8] (by decide +kernel) (by decide +kernel)) (goodIn_sub (fun _ h => List.mem_cons_of_mem _ (List.mem_append_right _ h)) (by decide +kernel))
set_option maxRecDepth 20000 in
theorem gX6_load_X6_requireMachine : GoodIn wsX6_load (va_wsS RX6 80 yX6_requireMachine wsX6_requireMachine) := goodIn_app (goodIn_of _ (by decide +kernel)) ggX6_load_X6_requireMachine
set_option maxRecDepth 20000 in
theorem ggX6_load_X1_loadOn : GoodIn wsX6_load wsX1_loadOn := goodIn_r _ [13, 14, 15, 16, 17, 12, 18, 19, 32, 33] (by decide +kernel) (by decide +kernel)
set_option maxRecDepth 20000 in
theorem gX6_load_X1_loadOn : GoodIn wsX6_load (wsV RX6 133 RX1 yX1_loadOn wsX1_loadOn) := goodIn_app (goodIn_of _ (by decide +kernel)) ggX6_load_X1_loadOn
theorem dX6_load_0 : decode cX6_load 0 = .ok (.iload_n 1, 1) := by decide +kernel
theorem dX6_load_1 : decode cX6_load 1 = .ok (.invokestatic 80, 3) := by decide +kernel
theorem dX6_load_4 : decode cX6_load 4 = .ok (.aload_n 0, 1) := by decide +kernel
theorem dX6_load_5 : decode cX6_load 5 = .ok (.getfield 12, 3) := by decide +kernel
theorem dX6_load_8 : decode cX6_load 8 = .ok (.aload_n 0, 1) := by decide +kernel
theorem dX6_load_9 : decode cX6_load 9 = .ok (.getfield 19, 3) := by decide +kernel
theorem dX6_load_12 : decode cX6_load 12 = .ok (.getfield 70, 3) := by decide +kernel
theorem dX6_load_15 : decode cX6_load 15 = .ok (.iload_n 1, 1) := by decide +kernel
theorem dX6_load_16 : decode cX6_load 16 = .ok (.invokevirtual 133, 3) := by decide +kernel
theorem dX6_load_19 : decode cX6_load 19 = .ok (.ireturn, 1) := by decide +kernel
set_option maxRecDepth 20000 in
theorem ggX6_length_X1_greatestLoad : GoodIn wsX6_length wsX1_greatestLoad := goodIn_r _ [7, 8, 9, 10, 11, 12, 13, 14, 6, 15, 16, 17, 18, 19, 20, 21, 34, 35] (by decide +kernel) (by decide +kernel)
set_option maxRecDepth 20000 in
theorem gX6_length_X1_greatestLoad : GoodIn wsX6_length (wsV RX6 127 RX1 yX1_greatestLoad wsX1_greatestLoad) := goodIn_app (goodIn_of _ (by decide +kernel)) ggX6_length_X1_greatestLoad
theorem dX6_length_0 : decode cX6_length 0 = .ok (.aload_n 0, 1) := by decide +kernel
theorem dX6_length_1 : decode cX6_length 1 = .ok (.getfield 12, 3) := by decide +kernel
theorem dX6_length_4 : decode cX6_length 4 = .ok (.aload_n 0, 1) := by decide +kernel
theorem dX6_length_5 : decode cX6_length 5 = .ok (.getfield 19, 3) := by decide +kernel
theorem dX6_length_8 : decode cX6_length 8 = .ok (.getfield 70, 3) := by decide +kernel
theorem dX6_length_11 : decode cX6_length 11 = .ok (.invokevirtual 127, 3) := by decide +kernel
theorem dX6_length_14 : decode cX6_length 14 = .ok (.ireturn, 1) := by decide +kernel
set_option maxRecDepth 20000 in
theorem ggX6_improve_X2_makeBestChange : GoodIn wsX6_improve wsX2_makeBestChange := goodIn_r _ [7, 8, 9, 10, 11, 12, 13, 14, 15, 6, 16, 17, 18, 19, 20, 21, 22, 23, 24, 25, 26, 27, 28, 29, 30, 31, 32, 33, 34, 35, 36, 37, 38, 39, 40, 41, 42, 43, 44, 45, 46, 47, 48, 49, 50, 51, 65, 66, 67, 68, 69, 70, 71] (by decide +kernel) (by decide +kernel)
set_option maxRecDepth 20000 in
theorem gX6_improve_X2_makeBestChange : GoodIn wsX6_improve (wsV RX6 137 RX2 yX2_makeBestChange wsX2_makeBestChange) := goodIn_app (goodIn_of _ (by decide +kernel)) ggX6_improve_X2_makeBestChange
set_option maxRecDepth 20000 in
theorem ggX6_improve_X1_greatestLoad : GoodIn wsX6_improve wsX1_greatestLoad := goodIn_r _ [55, 56, 18, 19, 20, 57, 25, 26, 27, 28, 29, 30, 31, 32, 33, 34, 70, 71] (by decide +kernel) (by decide +kernel)
set_option maxRecDepth 20000 in
theorem gX6_improve_X1_greatestLoad : GoodIn wsX6_improve (wsV RX6 127 RX1 yX1_greatestLoad wsX1_greatestLoad) := goodIn_app (goodIn_of _ (by decide +kernel)) ggX6_improve_X1_greatestLoad
theorem dX6_improve_0 : decode cX6_improve 0 = .ok (.aload_n 0, 1) := by decide +kernel
theorem dX6_improve_1 : decode cX6_improve 1 = .ok (.getfield 19, 3) := by decide +kernel
theorem dX6_improve_4 : decode cX6_improve 4 = .ok (.aload_n 0, 1) := by decide +kernel
theorem dX6_improve_5 : decode cX6_improve 5 = .ok (.getfield 12, 3) := by decide +kernel
theorem dX6_improve_8 : decode cX6_improve 8 = .ok (.invokevirtual 137, 3) := by decide +kernel
theorem dX6_improve_11 : decode cX6_improve 11 = .ok (.ifCond .eq 20, 3) := by decide +kernel
theorem dX6_improve_14 : decode cX6_improve 14 = .ok (.aload_n 0, 1) := by decide +kernel
theorem dX6_improve_15 : decode cX6_improve 15 = .ok (.getfield 12, 3) := by decide +kernel
theorem dX6_improve_18 : decode cX6_improve 18 = .ok (.aload_n 0, 1) := by decide +kernel
theorem dX6_improve_19 : decode cX6_improve 19 = .ok (.getfield 19, 3) := by decide +kernel
theorem dX6_improve_22 : decode cX6_improve 22 = .ok (.getfield 70, 3) := by decide +kernel
theorem dX6_improve_25 : decode cX6_improve 25 = .ok (.invokevirtual 127, 3) := by decide +kernel
theorem dX6_improve_28 : decode cX6_improve 28 = .ok (.goto 4, 3) := by decide +kernel
theorem dX6_improve_31 : decode cX6_improve 31 = .ok (.iconst (-1), 1) := by decide +kernel
theorem dX6_improve_32 : decode cX6_improve 32 = .ok (.ireturn, 1) := by decide +kernel
set_option maxRecDepth 20000 in
theorem ggX6_takeRounded_X6_refreshDivision : GoodIn wsX6_takeRounded wsX6_refreshDivision := goodIn_r _ [8, 9, 10, 1, 3, 11, 12, 13, 14, 15, 16, 17, 18, 19, 20, 21, 22, 23, 24, 25, 26, 27, 28, 29, 30, 31, 32, 33, 34, 35, 36, 37, 38, 39, 40, 41, 42, 43, 44, 45, 46, 47, 48, 49, 50, 51, 52, 53, 54, 55, 56, 57, 58, 59, 60, 61, 62, 63, 64, 65, 66, 67, 68, 69, 70, 71, 72, 73, 74, 75, 76, 77, 78, 79, 80, 81, 82, 83, 84, 85, 86, 87, 88, 89, 90, 91, 92, 93, 94, 95, 96, 97, 98, 99, 100, 101, 102, 103, 104, 105, 106, 107, 108, 109, 110, 111, 112, 113, 114, 115, 116, 117, 118, 119, 120, 121, 122, 123, 124, 125, 126, 127, 128, 129, 130, 131, 132, 133, 142, 143, 144, 145, 146, 147, 148, 149, 150, 151, 152, 134, 135, 141] (by decide +kernel) (by decide +kernel)
set_option maxRecDepth 20000 in
theorem gX6_takeRounded_X6_refreshDivision : GoodIn wsX6_takeRounded (wsV RX6 104 RX6 yX6_refreshDivision wsX6_refreshDivision) := goodIn_app (goodIn_of _ (by decide +kernel)) ggX6_takeRounded_X6_refreshDivision
theorem dX6_takeRounded_0 : decode cX6_takeRounded 0 = .ok (.aload_n 0, 1) := by decide +kernel
theorem dX6_takeRounded_1 : decode cX6_takeRounded 1 = .ok (.invokevirtual 104, 3) := by decide +kernel
theorem dX6_takeRounded_4 : decode cX6_takeRounded 4 = .ok (.iconst 0, 1) := by decide +kernel
theorem dX6_takeRounded_5 : decode cX6_takeRounded 5 = .ok (.istore_n 1, 1) := by decide +kernel
theorem dX6_takeRounded_6 : decode cX6_takeRounded 6 = .ok (.iconst 0, 1) := by decide +kernel
theorem dX6_takeRounded_7 : decode cX6_takeRounded 7 = .ok (.istore_n 2, 1) := by decide +kernel
theorem dX6_takeRounded_8 : decode cX6_takeRounded 8 = .ok (.iload_n 2, 1) := by decide +kernel
theorem dX6_takeRounded_9 : decode cX6_takeRounded 9 = .ok (.aload_n 0, 1) := by decide +kernel
theorem dX6_takeRounded_10 : decode cX6_takeRounded 10 = .ok (.getfield 12, 3) := by decide +kernel
theorem dX6_takeRounded_13 : decode cX6_takeRounded 13 = .ok (.getfield 57, 3) := by decide +kernel
theorem dX6_takeRounded_16 : decode cX6_takeRounded 16 = .ok (.if_icmp .ge 57, 3) := by decide +kernel
theorem dX6_takeRounded_19 : decode cX6_takeRounded 19 = .ok (.iload_n 2, 1) := by decide +kernel
theorem dX6_takeRounded_20 : decode cX6_takeRounded 20 = .ok (.bipush 7, 2) := by decide +kernel
theorem dX6_takeRounded_22 : decode cX6_takeRounded 22 = .ok (.if_icmp .ge 51, 3) := by decide +kernel
theorem dX6_takeRounded_25 : decode cX6_takeRounded 25 = .ok (.aload_n 0, 1) := by decide +kernel
theorem dX6_takeRounded_26 : decode cX6_takeRounded 26 = .ok (.getfield 19, 3) := by decide +kernel
theorem dX6_takeRounded_29 : decode cX6_takeRounded 29 = .ok (.getfield 70, 3) := by decide +kernel
theorem dX6_takeRounded_32 : decode cX6_takeRounded 32 = .ok (.iload_n 2, 1) := by decide +kernel
theorem dX6_takeRounded_33 : decode cX6_takeRounded 33 = .ok (.iaload, 1) := by decide +kernel
theorem dX6_takeRounded_34 : decode cX6_takeRounded 34 = .ok (.aload_n 0, 1) := by decide +kernel
theorem dX6_takeRounded_35 : decode cX6_takeRounded 35 = .ok (.getfield 40, 3) := by decide +kernel
theorem dX6_takeRounded_38 : decode cX6_takeRounded 38 = .ok (.getfield 126, 3) := by decide +kernel
theorem dX6_takeRounded_41 : decode cX6_takeRounded 41 = .ok (.iload_n 2, 1) := by decide +kernel
theorem dX6_takeRounded_42 : decode cX6_takeRounded 42 = .ok (.iaload, 1) := by decide +kernel
theorem dX6_takeRounded_43 : decode cX6_takeRounded 43 = .ok (.if_icmp .eq 24, 3) := by decide +kernel
theorem dX6_takeRounded_46 : decode cX6_takeRounded 46 = .ok (.aload_n 0, 1) := by decide +kernel
theorem dX6_takeRounded_47 : decode cX6_takeRounded 47 = .ok (.getfield 19, 3) := by decide +kernel
theorem dX6_takeRounded_50 : decode cX6_takeRounded 50 = .ok (.getfield 70, 3) := by decide +kernel
theorem dX6_takeRounded_53 : decode cX6_takeRounded 53 = .ok (.iload_n 2, 1) := by decide +kernel
theorem dX6_takeRounded_54 : decode cX6_takeRounded 54 = .ok (.aload_n 0, 1) := by decide +kernel
theorem dX6_takeRounded_55 : decode cX6_takeRounded 55 = .ok (.getfield 40, 3) := by decide +kernel
theorem dX6_takeRounded_58 : decode cX6_takeRounded 58 = .ok (.getfield 126, 3) := by decide +kernel
theorem dX6_takeRounded_61 : decode cX6_takeRounded 61 = .ok (.iload_n 2, 1) := by decide +kernel
theorem dX6_takeRounded_62 : decode cX6_takeRounded 62 = .ok (.iaload, 1) := by decide +kernel
theorem dX6_takeRounded_63 : decode cX6_takeRounded 63 = .ok (.iastore, 1) := by decide +kernel
theorem dX6_takeRounded_64 : decode cX6_takeRounded 64 = .ok (.iinc 1 1, 3) := by decide +kernel
theorem dX6_takeRounded_67 : decode cX6_takeRounded 67 = .ok (.iinc 2 1, 3) := by decide +kernel
theorem dX6_takeRounded_70 : decode cX6_takeRounded 70 = .ok (.goto (-62), 3) := by decide +kernel
theorem dX6_takeRounded_73 : decode cX6_takeRounded 73 = .ok (.iload_n 1, 1) := by decide +kernel
theorem dX6_takeRounded_74 : decode cX6_takeRounded 74 = .ok (.ireturn, 1) := by decide +kernel
theorem dX6_isTime_0 : decode cX6_isTime 0 = .ok (.iload_n 0, 1) := by decide +kernel
theorem dX6_isTime_1 : decode cX6_isTime 1 = .ok (.ifCond .lt 13, 3) := by decide +kernel
theorem dX6_isTime_4 : decode cX6_isTime 4 = .ok (.iload_n 0, 1) := by decide +kernel
theorem dX6_isTime_5 : decode cX6_isTime 5 = .ok (.bipush 50, 2) := by decide +kernel
theorem dX6_isTime_7 : decode cX6_isTime 7 = .ok (.if_icmp .gt 7, 3) := by decide +kernel
theorem dX6_isTime_10 : decode cX6_isTime 10 = .ok (.iconst 1, 1) := by decide +kernel
theorem dX6_isTime_11 : decode cX6_isTime 11 = .ok (.goto 4, 3) := by decide +kernel
theorem dX6_isTime_14 : decode cX6_isTime 14 = .ok (.iconst 0, 1) := by decide +kernel
theorem dX6_isTime_15 : decode cX6_isTime 15 = .ok (.ireturn, 1) := by decide +kernel
theorem dX6_requireJob_0 : decode cX6_requireJob 0 = .ok (.iload_n 1, 1) := by decide +kernel
theorem dX6_requireJob_1 : decode cX6_requireJob 1 = .ok (.ifCond .lt 20, 3) := by decide +kernel
theorem dX6_requireJob_4 : decode cX6_requireJob 4 = .ok (.iload_n 1, 1) := by decide +kernel
theorem dX6_requireJob_5 : decode cX6_requireJob 5 = .ok (.aload_n 0, 1) := by decide +kernel
theorem dX6_requireJob_6 : decode cX6_requireJob 6 = .ok (.getfield 12, 3) := by decide +kernel
theorem dX6_requireJob_9 : decode cX6_requireJob 9 = .ok (.getfield 57, 3) := by decide +kernel
theorem dX6_requireJob_12 : decode cX6_requireJob 12 = .ok (.if_icmp .ge 9, 3) := by decide +kernel
theorem dX6_requireJob_15 : decode cX6_requireJob 15 = .ok (.iload_n 1, 1) := by decide +kernel
theorem dX6_requireJob_16 : decode cX6_requireJob 16 = .ok (.bipush 7, 2) := by decide +kernel
theorem dX6_requireJob_18 : decode cX6_requireJob 18 = .ok (.if_icmp .lt 13, 3) := by decide +kernel
theorem dX6_requireJob_21 : decode cX6_requireJob 21 = .ok (.new 141, 3) := by decide +kernel
theorem dX6_requireJob_24 : decode cX6_requireJob 24 = .ok (.dup, 1) := by decide +kernel
theorem dX6_requireJob_25 : decode cX6_requireJob 25 = .ok (.ldc 143, 2) := by decide +kernel
theorem dX6_requireJob_27 : decode cX6_requireJob 27 = .ok (.invokespecial 145, 3) := by decide +kernel
theorem dX6_requireJob_30 : decode cX6_requireJob 30 = .ok (.athrow, 1) := by decide +kernel
theorem dX6_requireJob_31 : decode cX6_requireJob 31 = .ok (.return_, 1) := by decide +kernel
theorem dX6_requireMachine_0 : decode cX6_requireMachine 0 = .ok (.iload_n 0, 1) := by decide +kernel
theorem dX6_requireMachine_1 : decode cX6_requireMachine 1 = .ok (.ifCond .lt 8, 3) := by decide +kernel
theorem dX6_requireMachine_4 : decode cX6_requireMachine 4 = .ok (.iload_n 0, 1) := by decide +kernel
theorem dX6_requireMachine_5 : decode cX6_requireMachine 5 = .ok (.iconst 3, 1) := by decide +kernel
theorem dX6_requireMachine_6 : decode cX6_requireMachine 6 = .ok (.if_icmp .lt 13, 3) := by decide +kernel
theorem dX6_requireMachine_9 : decode cX6_requireMachine 9 = .ok (.new 141, 3) := by decide +kernel
theorem dX6_requireMachine_12 : decode cX6_requireMachine 12 = .ok (.dup, 1) := by decide +kernel
theorem dX6_requireMachine_13 : decode cX6_requireMachine 13 = .ok (.ldc 146, 2) := by decide +kernel
theorem dX6_requireMachine_15 : decode cX6_requireMachine 15 = .ok (.invokespecial 145, 3) := by decide +kernel
theorem dX6_requireMachine_18 : decode cX6_requireMachine 18 = .ok (.athrow, 1) := by decide +kernel
theorem dX6_requireMachine_19 : decode cX6_requireMachine 19 = .ok (.return_, 1) := by decide +kernel
theorem dX6_forgetResults_0 : decode cX6_forgetResults 0 = .ok (.aload_n 0, 1) := by decide +kernel
theorem dX6_forgetResults_1 : decode cX6_forgetResults 1 = .ok (.iconst 0, 1) := by decide +kernel
theorem dX6_forgetResults_2 : decode cX6_forgetResults 2 = .ok (.putfield 148, 3) := by decide +kernel
theorem dX6_forgetResults_5 : decode cX6_forgetResults 5 = .ok (.aload_n 0, 1) := by decide +kernel
theorem dX6_forgetResults_6 : decode cX6_forgetResults 6 = .ok (.iconst 0, 1) := by decide +kernel
theorem dX6_forgetResults_7 : decode cX6_forgetResults 7 = .ok (.putfield 152, 3) := by decide +kernel
theorem dX6_forgetResults_10 : decode cX6_forgetResults 10 = .ok (.return_, 1) := by decide +kernel
set_option maxRecDepth 20000 in
theorem ggX6_refreshSearch_X3_find : GoodIn wsX6_refreshSearch wsX3_find := goodIn_r _ [8, 9, 10, 11, 12, 7, 13, 14, 15, 16, 17, 18, 19, 20, 21, 22, 23, 24, 25, 26, 27, 28, 29, 30, 31, 32, 33, 34, 35, 36, 37, 38, 46, 47, 48, 49, 50, 51] (by decide +kernel) (by decide +kernel)
set_option maxRecDepth 20000 in
theorem gX6_refreshSearch_X3_find : GoodIn wsX6_refreshSearch (wsV RX6 155 RX3 yX3_find wsX3_find) := goodIn_app (goodIn_of _ (by decide +kernel)) ggX6_refreshSearch_X3_find
theorem dX6_refreshSearch_0 : decode cX6_refreshSearch 0 = .ok (.aload_n 0, 1) := by decide +kernel
theorem dX6_refreshSearch_1 : decode cX6_refreshSearch 1 = .ok (.getfield 148, 3) := by decide +kernel
theorem dX6_refreshSearch_4 : decode cX6_refreshSearch 4 = .ok (.ifCond .ne 19, 3) := by decide +kernel
theorem dX6_refreshSearch_7 : decode cX6_refreshSearch 7 = .ok (.aload_n 0, 1) := by decide +kernel
theorem dX6_refreshSearch_8 : decode cX6_refreshSearch 8 = .ok (.getfield 26, 3) := by decide +kernel
theorem dX6_refreshSearch_11 : decode cX6_refreshSearch 11 = .ok (.aload_n 0, 1) := by decide +kernel
theorem dX6_refreshSearch_12 : decode cX6_refreshSearch 12 = .ok (.getfield 12, 3) := by decide +kernel
theorem dX6_refreshSearch_15 : decode cX6_refreshSearch 15 = .ok (.invokevirtual 155, 3) := by decide +kernel
theorem dX6_refreshSearch_18 : decode cX6_refreshSearch 18 = .ok (.aload_n 0, 1) := by decide +kernel
theorem dX6_refreshSearch_19 : decode cX6_refreshSearch 19 = .ok (.iconst 1, 1) := by decide +kernel
theorem dX6_refreshSearch_20 : decode cX6_refreshSearch 20 = .ok (.putfield 148, 3) := by decide +kernel
theorem dX6_refreshSearch_23 : decode cX6_refreshSearch 23 = .ok (.return_, 1) := by decide +kernel
set_option maxRecDepth 20000 in
theorem ggX6_refreshDivision_X0_make : GoodIn wsX6_refreshDivision wsX0_make := goodIn_r _ [9, 10, 11, 12, 13, 8, 14, 15, 16, 17, 18, 19, 20, 21, 22, 23, 24, 25, 26, 27, 28, 29, 30, 31, 32, 33, 34, 35, 36, 37, 38, 39, 40, 41, 42, 43, 44, 45, 46, 47, 48, 49, 50, 51, 52, 53, 54, 55, 56, 57, 58, 59, 60, 61, 62, 63, 64, 65, 66, 67, 68, 69, 70, 71, 72, 73, 74, 75, 76, 77, 78, 79, 80, 81, 82, 83, 84, 85, 86, 87, 88, 89, 90, 91, 92, 93, 94, 95, 96, 97, 98, 99, 100, 101, 102, 128, 129, 130, 131, 132, 133, 134, 135, 136, 137, 138, 139, 140] (by decide +kernel) (by decide +kernel)
set_option maxRecDepth 20000 in
theorem gX6_refreshDivision_X0_make : GoodIn wsX6_refreshDivision (wsV RX6 159 RX0 yX0_make wsX0_make) := goodIn_app (goodIn_of _ (by decide +kernel)) ggX6_refreshDivision_X0_make
set_option maxRecDepth 20000 in
theorem ggX6_refreshDivision_X4_make : GoodIn wsX6_refreshDivision wsX4_make := goodIn_r _ [107, 108, 109, 106, 110, 111, 112, 113, 114, 8, 115, 94, 116, 117, 118, 119, 93, 120, 139, 140, 141, 128, 129, 130, 131, 132, 133] (by decide +kernel) (by decide +kernel)
set_option maxRecDepth 20000 in
theorem gX6_refreshDivision_X4_make : GoodIn wsX6_refreshDivision (wsV RX6 162 RX4 yX4_make wsX4_make) := goodIn_app (goodIn_of _ (by decide +kernel)) ggX6_refreshDivision_X4_make
theorem dX6_refreshDivision_0 : decode cX6_refreshDivision 0 = .ok (.aload_n 0, 1) := by decide +kernel
theorem dX6_refreshDivision_1 : decode cX6_refreshDivision 1 = .ok (.getfield 152, 3) := by decide +kernel
theorem dX6_refreshDivision_4 : decode cX6_refreshDivision 4 = .ok (.ifCond .ne 34, 3) := by decide +kernel
theorem dX6_refreshDivision_7 : decode cX6_refreshDivision 7 = .ok (.aload_n 0, 1) := by decide +kernel
theorem dX6_refreshDivision_8 : decode cX6_refreshDivision 8 = .ok (.getfield 33, 3) := by decide +kernel
theorem dX6_refreshDivision_11 : decode cX6_refreshDivision 11 = .ok (.aload_n 0, 1) := by decide +kernel
theorem dX6_refreshDivision_12 : decode cX6_refreshDivision 12 = .ok (.getfield 12, 3) := by decide +kernel
theorem dX6_refreshDivision_15 : decode cX6_refreshDivision 15 = .ok (.invokevirtual 159, 3) := by decide +kernel
theorem dX6_refreshDivision_18 : decode cX6_refreshDivision 18 = .ok (.aload_n 0, 1) := by decide +kernel
theorem dX6_refreshDivision_19 : decode cX6_refreshDivision 19 = .ok (.getfield 40, 3) := by decide +kernel
theorem dX6_refreshDivision_22 : decode cX6_refreshDivision 22 = .ok (.aload_n 0, 1) := by decide +kernel
theorem dX6_refreshDivision_23 : decode cX6_refreshDivision 23 = .ok (.getfield 12, 3) := by decide +kernel
theorem dX6_refreshDivision_26 : decode cX6_refreshDivision 26 = .ok (.aload_n 0, 1) := by decide +kernel
theorem dX6_refreshDivision_27 : decode cX6_refreshDivision 27 = .ok (.getfield 33, 3) := by decide +kernel
theorem dX6_refreshDivision_30 : decode cX6_refreshDivision 30 = .ok (.invokevirtual 162, 3) := by decide +kernel
theorem dX6_refreshDivision_33 : decode cX6_refreshDivision 33 = .ok (.aload_n 0, 1) := by decide +kernel
theorem dX6_refreshDivision_34 : decode cX6_refreshDivision 34 = .ok (.iconst 1, 1) := by decide +kernel
theorem dX6_refreshDivision_35 : decode cX6_refreshDivision 35 = .ok (.putfield 152, 3) := by decide +kernel
theorem dX6_refreshDivision_38 : decode cX6_refreshDivision 38 = .ok (.return_, 1) := by decide +kernel

set_option maxRecDepth 20000 in
theorem ggX0_init_X5_init : GoodIn wsX0_init wsX5_init := goodIn_r _ [12, 13, 2, 3, 14, 15, 16, 8, 17, 18, 19, 20, 21, 22, 23, 24] (by decide +kernel) (by decide +kernel)
set_option maxRecDepth 20000 in
theorem gX0_init_X5_init_n11 : GoodIn wsX0_init (wsX5_init) := ggX0_init_X5_init
theorem dX0_init_0 : decode cX0_init 0 = .ok (.aload_n 0, 1) := by decide +kernel
theorem dX0_init_1 : decode cX0_init 1 = .ok (.invokespecial 3, 3) := by decide +kernel
theorem dX0_init_4 : decode cX0_init 4 = .ok (.aload_n 0, 1) := by decide +kernel
theorem dX0_init_5 : decode cX0_init 5 = .ok (.new 9, 3) := by decide +kernel
theorem dX0_init_8 : decode cX0_init 8 = .ok (.dup, 1) := by decide +kernel
theorem dX0_init_9 : decode cX0_init 9 = .ok (.invokespecial 11, 3) := by decide +kernel
theorem dX0_init_12 : decode cX0_init 12 = .ok (.putfield 12, 3) := by decide +kernel
theorem dX0_init_15 : decode cX0_init 15 = .ok (.aload_n 0, 1) := by decide +kernel
theorem dX0_init_16 : decode cX0_init 16 = .ok (.bipush 21, 2) := by decide +kernel
theorem dX0_init_18 : decode cX0_init 18 = .ok (.newarray .int, 2) := by decide +kernel
theorem dX0_init_20 : decode cX0_init 20 = .ok (.putfield 18, 3) := by decide +kernel
theorem dX0_init_23 : decode cX0_init 23 = .ok (.aload_n 0, 1) := by decide +kernel
theorem dX0_init_24 : decode cX0_init 24 = .ok (.bipush 21, 2) := by decide +kernel
theorem dX0_init_26 : decode cX0_init 26 = .ok (.newarray .int, 2) := by decide +kernel
theorem dX0_init_28 : decode cX0_init 28 = .ok (.putfield 22, 3) := by decide +kernel
theorem dX0_init_31 : decode cX0_init 31 = .ok (.return_, 1) := by decide +kernel
set_option maxRecDepth 20000 in
theorem ggX0_make_X0_findLeast : GoodIn wsX0_make wsX0_findLeast := goodIn_r _ [6, 7, 8, 9, 10, 11, 12, 13, 14, 15, 16, 17, 18, 19, 20, 21, 22, 23, 24, 25, 26, 27, 28, 29, 30, 31, 32, 33, 34, 35, 36, 37, 38, 39, 40, 41, 42, 43, 44, 45, 46, 47, 48, 49, 50, 51, 52, 53, 54, 55, 56, 57, 58, 59, 60, 61, 62, 63, 64, 65, 66, 67, 68, 69, 70, 71, 72, 73, 74, 5, 75, 95, 96, 97, 98, 99, 100, 101, 102, 103, 104, 105, 106, 107] (by decide +kernel) (by decide +kernel)
set_option maxRecDepth 20000 in
theorem gX0_make_X0_findLeast : GoodIn wsX0_make (wsV RX0 25 RX0 yX0_findLeast wsX0_findLeast) := goodIn_app (goodIn_of _ (by decide +kernel)) ggX0_make_X0_findLeast
set_option maxRecDepth 20000 in
theorem ggX0_make_X0_canKeep : GoodIn wsX0_make wsX0_canKeep := goodIn_r _ [79, 7, 10, 11, 12, 13, 14, 15, 16, 17, 18, 19, 20, 21, 22, 23, 24, 25, 26, 27, 28, 29, 30, 31, 32, 33, 34, 35, 36, 37, 38, 39, 40, 41, 42, 43, 44, 45, 46, 47, 48, 49, 50, 51, 52, 53, 54, 55, 56, 57, 58, 59, 60, 61, 62, 63, 64, 65, 66, 67, 68, 95, 96, 97, 98, 99, 100, 106, 107, 101, 102, 103, 104, 105] (by decide +kernel) (by decide +kernel)
set_option maxRecDepth 20000 in
theorem gX0_make_X0_canKeep : GoodIn wsX0_make (wsV RX0 29 RX0 yX0_canKeep wsX0_canKeep) := goodIn_app (goodIn_of _ (by decide +kernel)) ggX0_make_X0_canKeep
set_option maxRecDepth 20000 in
theorem ggX0_make_X0_findShares : GoodIn wsX0_make wsX0_findShares := goodIn_r _ [83, 84, 24, 25, 26, 7, 85, 86, 87, 88, 89, 13, 90, 18, 52, 53, 54, 55, 56, 27, 17, 61, 62, 63, 64, 28, 15, 65, 66, 67, 68, 57, 58, 59, 60, 91, 92, 93, 94, 69, 70, 71, 72, 73, 74, 5, 75, 106, 107, 95, 96, 97, 98, 99, 100, 101, 102, 103, 104, 105] (by decide +kernel) (by decide +kernel)
set_option maxRecDepth 20000 in
theorem gX0_make_X0_findShares : GoodIn wsX0_make (wsV RX0 37 RX0 yX0_findShares wsX0_findShares) := goodIn_app (goodIn_of _ (by decide +kernel)) ggX0_make_X0_findShares
theorem dX0_make_0 : decode cX0_make 0 = .ok (.aload_n 0, 1) := by decide +kernel
theorem dX0_make_1 : decode cX0_make 1 = .ok (.aload_n 1, 1) := by decide +kernel
theorem dX0_make_2 : decode cX0_make 2 = .ok (.invokevirtual 25, 3) := by decide +kernel
theorem dX0_make_5 : decode cX0_make 5 = .ok (.iconst (-1), 1) := by decide +kernel
theorem dX0_make_6 : decode cX0_make 6 = .ok (.istore_n 2, 1) := by decide +kernel
theorem dX0_make_7 : decode cX0_make 7 = .ok (.sipush 256, 3) := by decide +kernel
theorem dX0_make_10 : decode cX0_make 10 = .ok (.istore_n 3, 1) := by decide +kernel
theorem dX0_make_11 : decode cX0_make 11 = .ok (.iload_n 3, 1) := by decide +kernel
theorem dX0_make_12 : decode cX0_make 12 = .ok (.ifCond .le 25, 3) := by decide +kernel
theorem dX0_make_15 : decode cX0_make 15 = .ok (.aload_n 0, 1) := by decide +kernel
theorem dX0_make_16 : decode cX0_make 16 = .ok (.aload_n 1, 1) := by decide +kernel
theorem dX0_make_17 : decode cX0_make 17 = .ok (.iload_n 2, 1) := by decide +kernel
theorem dX0_make_18 : decode cX0_make 18 = .ok (.iload_n 3, 1) := by decide +kernel
theorem dX0_make_19 : decode cX0_make 19 = .ok (.iadd, 1) := by decide +kernel
theorem dX0_make_20 : decode cX0_make 20 = .ok (.invokevirtual 29, 3) := by decide +kernel
theorem dX0_make_23 : decode cX0_make 23 = .ok (.ifCond .ne 7, 3) := by decide +kernel
theorem dX0_make_26 : decode cX0_make 26 = .ok (.iload_n 2, 1) := by decide +kernel
theorem dX0_make_27 : decode cX0_make 27 = .ok (.iload_n 3, 1) := by decide +kernel
theorem dX0_make_28 : decode cX0_make 28 = .ok (.iadd, 1) := by decide +kernel
theorem dX0_make_29 : decode cX0_make 29 = .ok (.istore_n 2, 1) := by decide +kernel
theorem dX0_make_30 : decode cX0_make 30 = .ok (.iload_n 3, 1) := by decide +kernel
theorem dX0_make_31 : decode cX0_make 31 = .ok (.iconst 2, 1) := by decide +kernel
theorem dX0_make_32 : decode cX0_make 32 = .ok (.idiv, 1) := by decide +kernel
theorem dX0_make_33 : decode cX0_make 33 = .ok (.istore_n 3, 1) := by decide +kernel
theorem dX0_make_34 : decode cX0_make 34 = .ok (.goto (-23), 3) := by decide +kernel
theorem dX0_make_37 : decode cX0_make 37 = .ok (.aload_n 0, 1) := by decide +kernel
theorem dX0_make_38 : decode cX0_make 38 = .ok (.iload_n 2, 1) := by decide +kernel
theorem dX0_make_39 : decode cX0_make 39 = .ok (.iconst 1, 1) := by decide +kernel
theorem dX0_make_40 : decode cX0_make 40 = .ok (.iadd, 1) := by decide +kernel
theorem dX0_make_41 : decode cX0_make 41 = .ok (.putfield 33, 3) := by decide +kernel
theorem dX0_make_44 : decode cX0_make 44 = .ok (.aload_n 0, 1) := by decide +kernel
theorem dX0_make_45 : decode cX0_make 45 = .ok (.aload_n 1, 1) := by decide +kernel
theorem dX0_make_46 : decode cX0_make 46 = .ok (.aload_n 0, 1) := by decide +kernel
theorem dX0_make_47 : decode cX0_make 47 = .ok (.getfield 33, 3) := by decide +kernel
theorem dX0_make_50 : decode cX0_make 50 = .ok (.invokevirtual 29, 3) := by decide +kernel
theorem dX0_make_53 : decode cX0_make 53 = .ok (.ifCond .eq 8, 3) := by decide +kernel
theorem dX0_make_56 : decode cX0_make 56 = .ok (.aload_n 0, 1) := by decide +kernel
theorem dX0_make_57 : decode cX0_make 57 = .ok (.aload_n 1, 1) := by decide +kernel
theorem dX0_make_58 : decode cX0_make 58 = .ok (.invokevirtual 37, 3) := by decide +kernel
theorem dX0_make_61 : decode cX0_make 61 = .ok (.return_, 1) := by decide +kernel
set_option maxRecDepth 20000 in
theorem ggX0_findLeast_X5_start : GoodIn wsX0_findLeast wsX5_start := goodIn_r _ [8, 9, 10, 11, 12, 13, 14, 15, 7, 16, 17, 18, 19, 20, 21, 22, 23, 24, 25, 26, 27, 28, 29, 30, 31, 32, 33, 34, 35, 36, 37, 38, 39, 40, 41, 82, 83, 77, 78, 79, 80, 81] (by decide +kernel) (by decide +kernel)
set_option maxRecDepth 20000 in
theorem gX0_findLeast_X5_start : GoodIn wsX0_findLeast (wsV RX0 40 RX5 yX5_start wsX5_start) := goodIn_app (goodIn_of _ (by decide +kernel)) ggX0_findLeast_X5_start
set_option maxRecDepth 20000 in
theorem ggX0_findLeast_X5_lowerExcess : GoodIn wsX0_findLeast wsX5_lowerExcess := goodIn_r _ [45, 46, 47, 48, 49, 7, 50, 21, 11, 51, 52, 53, 54, 12, 9, 55, 56, 57, 58, 22, 59, 60, 61, 62, 77, 78, 79, 80, 81] (by decide +kernel) (by decide +kernel)
set_option maxRecDepth 20000 in
theorem gX0_findLeast_X5_lowerExcess : GoodIn wsX0_findLeast (wsV RX0 44 RX5 yX5_lowerExcess wsX5_lowerExcess) := goodIn_app (goodIn_of _ (by decide +kernel)) ggX0_findLeast_X5_lowerExcess
set_option maxRecDepth 20000 in
theorem ggX0_findLeast_X5_scaledValue : GoodIn wsX0_findLeast wsX5_scaledValue := goodIn_r _ [66, 9, 47, 48, 49, 7, 50, 21, 11, 77, 78, 79, 80, 81] (by decide +kernel) (by decide +kernel)
set_option maxRecDepth 20000 in
theorem gX0_findLeast_X5_scaledValue : GoodIn wsX0_findLeast (wsV RX0 48 RX5 yX5_scaledValue wsX5_scaledValue) := goodIn_app (goodIn_of _ (by decide +kernel)) ggX0_findLeast_X5_scaledValue
set_option maxRecDepth 20000 in
theorem ggX0_findLeast_X0_commonDivisor : GoodIn wsX0_findLeast wsX0_commonDivisor := goodIn_r _ [70] (by decide +kernel) (by decide +kernel)
set_option maxRecDepth 20000 in
theorem gX0_findLeast_X0_commonDivisor : GoodIn wsX0_findLeast (va_wsS RX0 56 yX0_commonDivisor wsX0_commonDivisor) := goodIn_app (goodIn_of _ (by decide +kernel)) ggX0_findLeast_X0_commonDivisor
theorem dX0_findLeast_0 : decode cX0_findLeast 0 = .ok (.aload_n 0, 1) := by decide +kernel
theorem dX0_findLeast_1 : decode cX0_findLeast 1 = .ok (.getfield 12, 3) := by decide +kernel
theorem dX0_findLeast_4 : decode cX0_findLeast 4 = .ok (.aload_n 1, 1) := by decide +kernel
theorem dX0_findLeast_5 : decode cX0_findLeast 5 = .ok (.iconst 0, 1) := by decide +kernel
theorem dX0_findLeast_6 : decode cX0_findLeast 6 = .ok (.bipush 50, 2) := by decide +kernel
theorem dX0_findLeast_8 : decode cX0_findLeast 8 = .ok (.invokevirtual 40, 3) := by decide +kernel
theorem dX0_findLeast_11 : decode cX0_findLeast 11 = .ok (.pop, 1) := by decide +kernel
theorem dX0_findLeast_12 : decode cX0_findLeast 12 = .ok (.aload_n 0, 1) := by decide +kernel
theorem dX0_findLeast_13 : decode cX0_findLeast 13 = .ok (.getfield 12, 3) := by decide +kernel
theorem dX0_findLeast_16 : decode cX0_findLeast 16 = .ok (.invokevirtual 44, 3) := by decide +kernel
theorem dX0_findLeast_19 : decode cX0_findLeast 19 = .ok (.pop, 1) := by decide +kernel
theorem dX0_findLeast_20 : decode cX0_findLeast 20 = .ok (.aload_n 0, 1) := by decide +kernel
theorem dX0_findLeast_21 : decode cX0_findLeast 21 = .ok (.getfield 12, 3) := by decide +kernel
theorem dX0_findLeast_24 : decode cX0_findLeast 24 = .ok (.bipush 24, 2) := by decide +kernel
theorem dX0_findLeast_26 : decode cX0_findLeast 26 = .ok (.invokevirtual 48, 3) := by decide +kernel
theorem dX0_findLeast_29 : decode cX0_findLeast 29 = .ok (.lstore_n 2, 1) := by decide +kernel
theorem dX0_findLeast_30 : decode cX0_findLeast 30 = .ok (.lload_n 2, 1) := by decide +kernel
theorem dX0_findLeast_31 : decode cX0_findLeast 31 = .ok (.aload_n 0, 1) := by decide +kernel
theorem dX0_findLeast_32 : decode cX0_findLeast 32 = .ok (.getfield 12, 3) := by decide +kernel
theorem dX0_findLeast_35 : decode cX0_findLeast 35 = .ok (.getfield 52, 3) := by decide +kernel
theorem dX0_findLeast_38 : decode cX0_findLeast 38 = .ok (.invokestatic 56, 3) := by decide +kernel
theorem dX0_findLeast_41 : decode cX0_findLeast 41 = .ok (.lstore 4, 2) := by decide +kernel
theorem dX0_findLeast_43 : decode cX0_findLeast 43 = .ok (.aload_n 0, 1) := by decide +kernel
theorem dX0_findLeast_44 : decode cX0_findLeast 44 = .ok (.lload 4, 2) := by decide +kernel
theorem dX0_findLeast_46 : decode cX0_findLeast 46 = .ok (.lconst 0, 1) := by decide +kernel
theorem dX0_findLeast_47 : decode cX0_findLeast 47 = .ok (.lcmp, 1) := by decide +kernel
theorem dX0_findLeast_48 : decode cX0_findLeast 48 = .ok (.ifCond .ne 7, 3) := by decide +kernel
theorem dX0_findLeast_51 : decode cX0_findLeast 51 = .ok (.iconst 0, 1) := by decide +kernel
theorem dX0_findLeast_52 : decode cX0_findLeast 52 = .ok (.goto 8, 3) := by decide +kernel
theorem dX0_findLeast_55 : decode cX0_findLeast 55 = .ok (.lload_n 2, 1) := by decide +kernel
theorem dX0_findLeast_56 : decode cX0_findLeast 56 = .ok (.lload 4, 2) := by decide +kernel
theorem dX0_findLeast_58 : decode cX0_findLeast 58 = .ok (.ldiv, 1) := by decide +kernel
theorem dX0_findLeast_59 : decode cX0_findLeast 59 = .ok (.l2i, 1) := by decide +kernel
theorem dX0_findLeast_60 : decode cX0_findLeast 60 = .ok (.putfield 60, 3) := by decide +kernel
theorem dX0_findLeast_63 : decode cX0_findLeast 63 = .ok (.aload_n 0, 1) := by decide +kernel
theorem dX0_findLeast_64 : decode cX0_findLeast 64 = .ok (.lload 4, 2) := by decide +kernel
theorem dX0_findLeast_66 : decode cX0_findLeast 66 = .ok (.lconst 0, 1) := by decide +kernel
theorem dX0_findLeast_67 : decode cX0_findLeast 67 = .ok (.lcmp, 1) := by decide +kernel
theorem dX0_findLeast_68 : decode cX0_findLeast 68 = .ok (.ifCond .ne 7, 3) := by decide +kernel
theorem dX0_findLeast_71 : decode cX0_findLeast 71 = .ok (.iconst 1, 1) := by decide +kernel
theorem dX0_findLeast_72 : decode cX0_findLeast 72 = .ok (.goto 14, 3) := by decide +kernel
theorem dX0_findLeast_75 : decode cX0_findLeast 75 = .ok (.aload_n 0, 1) := by decide +kernel
theorem dX0_findLeast_76 : decode cX0_findLeast 76 = .ok (.getfield 12, 3) := by decide +kernel
theorem dX0_findLeast_79 : decode cX0_findLeast 79 = .ok (.getfield 52, 3) := by decide +kernel
theorem dX0_findLeast_82 : decode cX0_findLeast 82 = .ok (.lload 4, 2) := by decide +kernel
theorem dX0_findLeast_84 : decode cX0_findLeast 84 = .ok (.ldiv, 1) := by decide +kernel
theorem dX0_findLeast_85 : decode cX0_findLeast 85 = .ok (.l2i, 1) := by decide +kernel
theorem dX0_findLeast_86 : decode cX0_findLeast 86 = .ok (.putfield 63, 3) := by decide +kernel
theorem dX0_findLeast_89 : decode cX0_findLeast 89 = .ok (.return_, 1) := by decide +kernel
set_option maxRecDepth 20000 in
theorem ggX0_canKeep_X5_start : GoodIn wsX0_canKeep wsX5_start := goodIn_r _ [6, 7, 8, 9, 10, 11, 12, 13, 5, 14, 15, 16, 17, 18, 19, 20, 21, 22, 23, 24, 25, 26, 27, 28, 29, 30, 31, 32, 33, 34, 35, 36, 37, 38, 39, 67, 68, 69, 70, 71, 72, 73] (by decide +kernel) (by decide +kernel)
set_option maxRecDepth 20000 in
theorem gX0_canKeep_X5_start : GoodIn wsX0_canKeep (wsV RX0 40 RX5 yX5_start wsX5_start) := goodIn_app (goodIn_of _ (by decide +kernel)) ggX0_canKeep_X5_start
set_option maxRecDepth 20000 in
theorem ggX0_canKeep_X5_lowerExcess : GoodIn wsX0_canKeep wsX5_lowerExcess := goodIn_r _ [43, 44, 45, 46, 47, 5, 48, 19, 9, 49, 50, 51, 52, 10, 7, 53, 54, 55, 56, 20, 57, 58, 59, 60, 69, 70, 71, 72, 73] (by decide +kernel) (by decide +kernel)
set_option maxRecDepth 20000 in
theorem gX0_canKeep_X5_lowerExcess : GoodIn wsX0_canKeep (wsV RX0 44 RX5 yX5_lowerExcess wsX5_lowerExcess) := goodIn_app (goodIn_of _ (by decide +kernel)) ggX0_canKeep_X5_lowerExcess
theorem dX0_canKeep_0 : decode cX0_canKeep 0 = .ok (.aload_n 0, 1) := by decide +kernel
theorem dX0_canKeep_1 : decode cX0_canKeep 1 = .ok (.getfield 12, 3) := by decide +kernel
theorem dX0_canKeep_4 : decode cX0_canKeep 4 = .ok (.aload_n 1, 1) := by decide +kernel
theorem dX0_canKeep_5 : decode cX0_canKeep 5 = .ok (.iload_n 2, 1) := by decide +kernel
theorem dX0_canKeep_6 : decode cX0_canKeep 6 = .ok (.iload_n 2, 1) := by decide +kernel
theorem dX0_canKeep_7 : decode cX0_canKeep 7 = .ok (.invokevirtual 40, 3) := by decide +kernel
theorem dX0_canKeep_10 : decode cX0_canKeep 10 = .ok (.ifCond .eq 17, 3) := by decide +kernel
theorem dX0_canKeep_13 : decode cX0_canKeep 13 = .ok (.aload_n 0, 1) := by decide +kernel
theorem dX0_canKeep_14 : decode cX0_canKeep 14 = .ok (.getfield 12, 3) := by decide +kernel
theorem dX0_canKeep_17 : decode cX0_canKeep 17 = .ok (.invokevirtual 44, 3) := by decide +kernel
theorem dX0_canKeep_20 : decode cX0_canKeep 20 = .ok (.ifCond .eq 7, 3) := by decide +kernel
theorem dX0_canKeep_23 : decode cX0_canKeep 23 = .ok (.iconst 1, 1) := by decide +kernel
theorem dX0_canKeep_24 : decode cX0_canKeep 24 = .ok (.goto 4, 3) := by decide +kernel
theorem dX0_canKeep_27 : decode cX0_canKeep 27 = .ok (.iconst 0, 1) := by decide +kernel
theorem dX0_canKeep_28 : decode cX0_canKeep 28 = .ok (.ireturn, 1) := by decide +kernel
set_option maxRecDepth 20000 in
theorem ggX0_findShares_X5_raise : GoodIn wsX0_findShares wsX5_raise := goodIn_r _ [12, 13, 14, 15, 16, 17, 11, 18, 19, 20, 21, 22, 23, 24, 25, 26, 27, 28, 29, 30, 31, 32, 33, 34, 35, 36, 37, 38, 55, 56, 57, 58, 59] (by decide +kernel) (by decide +kernel)
set_option maxRecDepth 20000 in
theorem gX0_findShares_X5_raise : GoodIn wsX0_findShares (wsV RX0 77 RX5 yX5_raise wsX5_raise) := goodIn_app (goodIn_of _ (by decide +kernel)) ggX0_findShares_X5_raise
set_option maxRecDepth 20000 in
theorem ggX0_findShares_X5_scaledValue : GoodIn wsX0_findShares wsX5_scaledValue := goodIn_r _ [42, 26, 15, 16, 17, 11, 18, 19, 20, 55, 56, 57, 58, 59] (by decide +kernel) (by decide +kernel)
set_option maxRecDepth 20000 in
theorem gX0_findShares_X5_scaledValue : GoodIn wsX0_findShares (wsV RX0 48 RX5 yX5_scaledValue wsX5_scaledValue) := goodIn_app (goodIn_of _ (by decide +kernel)) ggX0_findShares_X5_scaledValue
set_option maxRecDepth 20000 in
theorem ggX0_findShares_X0_commonDivisor : GoodIn wsX0_findShares wsX0_commonDivisor := goodIn_r _ [46] (by decide +kernel) (by decide +kernel)
set_option maxRecDepth 20000 in
theorem gX0_findShares_X0_commonDivisor : GoodIn wsX0_findShares (va_wsS RX0 56 yX0_commonDivisor wsX0_commonDivisor) := goodIn_app (goodIn_of _ (by decide +kernel)) ggX0_findShares_X0_commonDivisor
theorem dX0_findShares_0 : decode cX0_findShares 0 = .ok (.aload_n 1, 1) := by decide +kernel
theorem dX0_findShares_1 : decode cX0_findShares 1 = .ok (.getfield 66, 3) := by decide +kernel
theorem dX0_findShares_4 : decode cX0_findShares 4 = .ok (.iconst 3, 1) := by decide +kernel
theorem dX0_findShares_5 : decode cX0_findShares 5 = .ok (.imul, 1) := by decide +kernel
theorem dX0_findShares_6 : decode cX0_findShares 6 = .ok (.bipush 21, 2) := by decide +kernel
theorem dX0_findShares_8 : decode cX0_findShares 8 = .ok (.invokestatic 71, 3) := by decide +kernel
theorem dX0_findShares_11 : decode cX0_findShares 11 = .ok (.istore_n 2, 1) := by decide +kernel
theorem dX0_findShares_12 : decode cX0_findShares 12 = .ok (.iconst 0, 1) := by decide +kernel
theorem dX0_findShares_13 : decode cX0_findShares 13 = .ok (.istore_n 3, 1) := by decide +kernel
theorem dX0_findShares_14 : decode cX0_findShares 14 = .ok (.iload_n 3, 1) := by decide +kernel
theorem dX0_findShares_15 : decode cX0_findShares 15 = .ok (.iload_n 2, 1) := by decide +kernel
theorem dX0_findShares_16 : decode cX0_findShares 16 = .ok (.if_icmp .ge 17, 3) := by decide +kernel
theorem dX0_findShares_19 : decode cX0_findShares 19 = .ok (.aload_n 0, 1) := by decide +kernel
theorem dX0_findShares_20 : decode cX0_findShares 20 = .ok (.getfield 12, 3) := by decide +kernel
theorem dX0_findShares_23 : decode cX0_findShares 23 = .ok (.iload_n 3, 1) := by decide +kernel
theorem dX0_findShares_24 : decode cX0_findShares 24 = .ok (.invokevirtual 77, 3) := by decide +kernel
theorem dX0_findShares_27 : decode cX0_findShares 27 = .ok (.iinc 3 1, 3) := by decide +kernel
theorem dX0_findShares_30 : decode cX0_findShares 30 = .ok (.goto (-16), 3) := by decide +kernel
theorem dX0_findShares_33 : decode cX0_findShares 33 = .ok (.iconst 0, 1) := by decide +kernel
theorem dX0_findShares_34 : decode cX0_findShares 34 = .ok (.istore_n 3, 1) := by decide +kernel
theorem dX0_findShares_35 : decode cX0_findShares 35 = .ok (.iload_n 3, 1) := by decide +kernel
theorem dX0_findShares_36 : decode cX0_findShares 36 = .ok (.iload_n 2, 1) := by decide +kernel
theorem dX0_findShares_37 : decode cX0_findShares 37 = .ok (.if_icmp .ge 84, 3) := by decide +kernel
theorem dX0_findShares_40 : decode cX0_findShares 40 = .ok (.aload_n 0, 1) := by decide +kernel
theorem dX0_findShares_41 : decode cX0_findShares 41 = .ok (.getfield 12, 3) := by decide +kernel
theorem dX0_findShares_44 : decode cX0_findShares 44 = .ok (.iload_n 3, 1) := by decide +kernel
theorem dX0_findShares_45 : decode cX0_findShares 45 = .ok (.invokevirtual 48, 3) := by decide +kernel
theorem dX0_findShares_48 : decode cX0_findShares 48 = .ok (.lstore 4, 2) := by decide +kernel
theorem dX0_findShares_50 : decode cX0_findShares 50 = .ok (.lload 4, 2) := by decide +kernel
theorem dX0_findShares_52 : decode cX0_findShares 52 = .ok (.aload_n 0, 1) := by decide +kernel
theorem dX0_findShares_53 : decode cX0_findShares 53 = .ok (.getfield 12, 3) := by decide +kernel
theorem dX0_findShares_56 : decode cX0_findShares 56 = .ok (.getfield 52, 3) := by decide +kernel
theorem dX0_findShares_59 : decode cX0_findShares 59 = .ok (.invokestatic 56, 3) := by decide +kernel
theorem dX0_findShares_62 : decode cX0_findShares 62 = .ok (.lstore 6, 2) := by decide +kernel
theorem dX0_findShares_64 : decode cX0_findShares 64 = .ok (.aload_n 0, 1) := by decide +kernel
theorem dX0_findShares_65 : decode cX0_findShares 65 = .ok (.getfield 18, 3) := by decide +kernel
theorem dX0_findShares_68 : decode cX0_findShares 68 = .ok (.iload_n 3, 1) := by decide +kernel
theorem dX0_findShares_69 : decode cX0_findShares 69 = .ok (.lload 6, 2) := by decide +kernel
theorem dX0_findShares_71 : decode cX0_findShares 71 = .ok (.lconst 0, 1) := by decide +kernel
theorem dX0_findShares_72 : decode cX0_findShares 72 = .ok (.lcmp, 1) := by decide +kernel
theorem dX0_findShares_73 : decode cX0_findShares 73 = .ok (.ifCond .ne 7, 3) := by decide +kernel
theorem dX0_findShares_76 : decode cX0_findShares 76 = .ok (.iconst 0, 1) := by decide +kernel
theorem dX0_findShares_77 : decode cX0_findShares 77 = .ok (.goto 9, 3) := by decide +kernel
theorem dX0_findShares_80 : decode cX0_findShares 80 = .ok (.lload 4, 2) := by decide +kernel
theorem dX0_findShares_82 : decode cX0_findShares 82 = .ok (.lload 6, 2) := by decide +kernel
theorem dX0_findShares_84 : decode cX0_findShares 84 = .ok (.ldiv, 1) := by decide +kernel
theorem dX0_findShares_85 : decode cX0_findShares 85 = .ok (.l2i, 1) := by decide +kernel
theorem dX0_findShares_86 : decode cX0_findShares 86 = .ok (.iastore, 1) := by decide +kernel
theorem dX0_findShares_87 : decode cX0_findShares 87 = .ok (.aload_n 0, 1) := by decide +kernel
theorem dX0_findShares_88 : decode cX0_findShares 88 = .ok (.getfield 22, 3) := by decide +kernel
theorem dX0_findShares_91 : decode cX0_findShares 91 = .ok (.iload_n 3, 1) := by decide +kernel
theorem dX0_findShares_92 : decode cX0_findShares 92 = .ok (.lload 6, 2) := by decide +kernel
theorem dX0_findShares_94 : decode cX0_findShares 94 = .ok (.lconst 0, 1) := by decide +kernel
theorem dX0_findShares_95 : decode cX0_findShares 95 = .ok (.lcmp, 1) := by decide +kernel
theorem dX0_findShares_96 : decode cX0_findShares 96 = .ok (.ifCond .ne 7, 3) := by decide +kernel
theorem dX0_findShares_99 : decode cX0_findShares 99 = .ok (.iconst 1, 1) := by decide +kernel
theorem dX0_findShares_100 : decode cX0_findShares 100 = .ok (.goto 14, 3) := by decide +kernel
theorem dX0_findShares_103 : decode cX0_findShares 103 = .ok (.aload_n 0, 1) := by decide +kernel
theorem dX0_findShares_104 : decode cX0_findShares 104 = .ok (.getfield 12, 3) := by decide +kernel
theorem dX0_findShares_107 : decode cX0_findShares 107 = .ok (.getfield 52, 3) := by decide +kernel
theorem dX0_findShares_110 : decode cX0_findShares 110 = .ok (.lload 6, 2) := by decide +kernel
theorem dX0_findShares_112 : decode cX0_findShares 112 = .ok (.ldiv, 1) := by decide +kernel
theorem dX0_findShares_113 : decode cX0_findShares 113 = .ok (.l2i, 1) := by decide +kernel
theorem dX0_findShares_114 : decode cX0_findShares 114 = .ok (.iastore, 1) := by decide +kernel
theorem dX0_findShares_115 : decode cX0_findShares 115 = .ok (.iinc 3 1, 3) := by decide +kernel
theorem dX0_findShares_118 : decode cX0_findShares 118 = .ok (.goto (-83), 3) := by decide +kernel
theorem dX0_findShares_121 : decode cX0_findShares 121 = .ok (.return_, 1) := by decide +kernel
set_option maxRecDepth 20000 in
theorem ggX0_wholeMachine_X0_hasShare : GoodIn wsX0_wholeMachine wsX0_hasShare := goodIn_r _ [6, 7, 8, 9, 10, 11, 12, 13] (by decide +kernel) (by decide +kernel)
set_option maxRecDepth 20000 in
theorem gX0_wholeMachine_X0_hasShare : GoodIn wsX0_wholeMachine (wsV RX0 81 RX0 yX0_hasShare wsX0_hasShare) := goodIn_app (goodIn_of _ (by decide +kernel)) ggX0_wholeMachine_X0_hasShare
theorem dX0_wholeMachine_0 : decode cX0_wholeMachine 0 = .ok (.iconst 0, 1) := by decide +kernel
theorem dX0_wholeMachine_1 : decode cX0_wholeMachine 1 = .ok (.istore_n 2, 1) := by decide +kernel
theorem dX0_wholeMachine_2 : decode cX0_wholeMachine 2 = .ok (.iload_n 2, 1) := by decide +kernel
theorem dX0_wholeMachine_3 : decode cX0_wholeMachine 3 = .ok (.iconst 3, 1) := by decide +kernel
theorem dX0_wholeMachine_4 : decode cX0_wholeMachine 4 = .ok (.if_icmp .ge 34, 3) := by decide +kernel
theorem dX0_wholeMachine_7 : decode cX0_wholeMachine 7 = .ok (.aload_n 0, 1) := by decide +kernel
theorem dX0_wholeMachine_8 : decode cX0_wholeMachine 8 = .ok (.iload_n 1, 1) := by decide +kernel
theorem dX0_wholeMachine_9 : decode cX0_wholeMachine 9 = .ok (.iload_n 2, 1) := by decide +kernel
theorem dX0_wholeMachine_10 : decode cX0_wholeMachine 10 = .ok (.invokevirtual 81, 3) := by decide +kernel
theorem dX0_wholeMachine_13 : decode cX0_wholeMachine 13 = .ok (.ifCond .eq 19, 3) := by decide +kernel
theorem dX0_wholeMachine_16 : decode cX0_wholeMachine 16 = .ok (.aload_n 0, 1) := by decide +kernel
theorem dX0_wholeMachine_17 : decode cX0_wholeMachine 17 = .ok (.getfield 22, 3) := by decide +kernel
theorem dX0_wholeMachine_20 : decode cX0_wholeMachine 20 = .ok (.iload_n 1, 1) := by decide +kernel
theorem dX0_wholeMachine_21 : decode cX0_wholeMachine 21 = .ok (.iconst 3, 1) := by decide +kernel
theorem dX0_wholeMachine_22 : decode cX0_wholeMachine 22 = .ok (.imul, 1) := by decide +kernel
theorem dX0_wholeMachine_23 : decode cX0_wholeMachine 23 = .ok (.iload_n 2, 1) := by decide +kernel
theorem dX0_wholeMachine_24 : decode cX0_wholeMachine 24 = .ok (.iadd, 1) := by decide +kernel
theorem dX0_wholeMachine_25 : decode cX0_wholeMachine 25 = .ok (.iaload, 1) := by decide +kernel
theorem dX0_wholeMachine_26 : decode cX0_wholeMachine 26 = .ok (.iconst 1, 1) := by decide +kernel
theorem dX0_wholeMachine_27 : decode cX0_wholeMachine 27 = .ok (.if_icmp .ne 5, 3) := by decide +kernel
theorem dX0_wholeMachine_30 : decode cX0_wholeMachine 30 = .ok (.iload_n 2, 1) := by decide +kernel
theorem dX0_wholeMachine_31 : decode cX0_wholeMachine 31 = .ok (.ireturn, 1) := by decide +kernel
theorem dX0_wholeMachine_32 : decode cX0_wholeMachine 32 = .ok (.iinc 2 1, 3) := by decide +kernel
theorem dX0_wholeMachine_35 : decode cX0_wholeMachine 35 = .ok (.goto (-33), 3) := by decide +kernel
theorem dX0_wholeMachine_38 : decode cX0_wholeMachine 38 = .ok (.iconst (-1), 1) := by decide +kernel
theorem dX0_wholeMachine_39 : decode cX0_wholeMachine 39 = .ok (.ireturn, 1) := by decide +kernel
theorem dX0_hasShare_0 : decode cX0_hasShare 0 = .ok (.iload_n 1, 1) := by decide +kernel
theorem dX0_hasShare_1 : decode cX0_hasShare 1 = .ok (.ifCond .lt 35, 3) := by decide +kernel
theorem dX0_hasShare_4 : decode cX0_hasShare 4 = .ok (.iload_n 1, 1) := by decide +kernel
theorem dX0_hasShare_5 : decode cX0_hasShare 5 = .ok (.bipush 7, 2) := by decide +kernel
theorem dX0_hasShare_7 : decode cX0_hasShare 7 = .ok (.if_icmp .ge 29, 3) := by decide +kernel
theorem dX0_hasShare_10 : decode cX0_hasShare 10 = .ok (.iload_n 2, 1) := by decide +kernel
theorem dX0_hasShare_11 : decode cX0_hasShare 11 = .ok (.ifCond .lt 25, 3) := by decide +kernel
theorem dX0_hasShare_14 : decode cX0_hasShare 14 = .ok (.iload_n 2, 1) := by decide +kernel
theorem dX0_hasShare_15 : decode cX0_hasShare 15 = .ok (.iconst 3, 1) := by decide +kernel
theorem dX0_hasShare_16 : decode cX0_hasShare 16 = .ok (.if_icmp .ge 20, 3) := by decide +kernel
theorem dX0_hasShare_19 : decode cX0_hasShare 19 = .ok (.aload_n 0, 1) := by decide +kernel
theorem dX0_hasShare_20 : decode cX0_hasShare 20 = .ok (.getfield 18, 3) := by decide +kernel
theorem dX0_hasShare_23 : decode cX0_hasShare 23 = .ok (.iload_n 1, 1) := by decide +kernel
theorem dX0_hasShare_24 : decode cX0_hasShare 24 = .ok (.iconst 3, 1) := by decide +kernel
theorem dX0_hasShare_25 : decode cX0_hasShare 25 = .ok (.imul, 1) := by decide +kernel
theorem dX0_hasShare_26 : decode cX0_hasShare 26 = .ok (.iload_n 2, 1) := by decide +kernel
theorem dX0_hasShare_27 : decode cX0_hasShare 27 = .ok (.iadd, 1) := by decide +kernel
theorem dX0_hasShare_28 : decode cX0_hasShare 28 = .ok (.iaload, 1) := by decide +kernel
theorem dX0_hasShare_29 : decode cX0_hasShare 29 = .ok (.ifCond .le 7, 3) := by decide +kernel
theorem dX0_hasShare_32 : decode cX0_hasShare 32 = .ok (.iconst 1, 1) := by decide +kernel
theorem dX0_hasShare_33 : decode cX0_hasShare 33 = .ok (.goto 4, 3) := by decide +kernel
theorem dX0_hasShare_36 : decode cX0_hasShare 36 = .ok (.iconst 0, 1) := by decide +kernel
theorem dX0_hasShare_37 : decode cX0_hasShare 37 = .ok (.ireturn, 1) := by decide +kernel
theorem dX0_commonDivisor_0 : decode cX0_commonDivisor 0 = .ok (.lload_n 0, 1) := by decide +kernel
theorem dX0_commonDivisor_1 : decode cX0_commonDivisor 1 = .ok (.lstore 4, 2) := by decide +kernel
theorem dX0_commonDivisor_3 : decode cX0_commonDivisor 3 = .ok (.lload_n 2, 1) := by decide +kernel
theorem dX0_commonDivisor_4 : decode cX0_commonDivisor 4 = .ok (.lstore 6, 2) := by decide +kernel
theorem dX0_commonDivisor_6 : decode cX0_commonDivisor 6 = .ok (.iconst 0, 1) := by decide +kernel
theorem dX0_commonDivisor_7 : decode cX0_commonDivisor 7 = .ok (.istore 8, 2) := by decide +kernel
theorem dX0_commonDivisor_9 : decode cX0_commonDivisor 9 = .ok (.iload 8, 2) := by decide +kernel
theorem dX0_commonDivisor_11 : decode cX0_commonDivisor 11 = .ok (.sipush 1000, 3) := by decide +kernel
theorem dX0_commonDivisor_14 : decode cX0_commonDivisor 14 = .ok (.if_icmp .ge 31, 3) := by decide +kernel
theorem dX0_commonDivisor_17 : decode cX0_commonDivisor 17 = .ok (.lload 6, 2) := by decide +kernel
theorem dX0_commonDivisor_19 : decode cX0_commonDivisor 19 = .ok (.lconst 0, 1) := by decide +kernel
theorem dX0_commonDivisor_20 : decode cX0_commonDivisor 20 = .ok (.lcmp, 1) := by decide +kernel
theorem dX0_commonDivisor_21 : decode cX0_commonDivisor 21 = .ok (.ifCond .eq 24, 3) := by decide +kernel
theorem dX0_commonDivisor_24 : decode cX0_commonDivisor 24 = .ok (.lload 4, 2) := by decide +kernel
theorem dX0_commonDivisor_26 : decode cX0_commonDivisor 26 = .ok (.lload 6, 2) := by decide +kernel
theorem dX0_commonDivisor_28 : decode cX0_commonDivisor 28 = .ok (.lrem, 1) := by decide +kernel
theorem dX0_commonDivisor_29 : decode cX0_commonDivisor 29 = .ok (.lstore 9, 2) := by decide +kernel
theorem dX0_commonDivisor_31 : decode cX0_commonDivisor 31 = .ok (.lload 6, 2) := by decide +kernel
theorem dX0_commonDivisor_33 : decode cX0_commonDivisor 33 = .ok (.lstore 4, 2) := by decide +kernel
theorem dX0_commonDivisor_35 : decode cX0_commonDivisor 35 = .ok (.lload 9, 2) := by decide +kernel
theorem dX0_commonDivisor_37 : decode cX0_commonDivisor 37 = .ok (.lstore 6, 2) := by decide +kernel
theorem dX0_commonDivisor_39 : decode cX0_commonDivisor 39 = .ok (.iinc 8 1, 3) := by decide +kernel
theorem dX0_commonDivisor_42 : decode cX0_commonDivisor 42 = .ok (.goto (-33), 3) := by decide +kernel
theorem dX0_commonDivisor_45 : decode cX0_commonDivisor 45 = .ok (.lload 4, 2) := by decide +kernel
theorem dX0_commonDivisor_47 : decode cX0_commonDivisor 47 = .ok (.lreturn, 1) := by decide +kernel
theorem dX1_init_0 : decode cX1_init 0 = .ok (.aload_n 0, 1) := by decide +kernel
theorem dX1_init_1 : decode cX1_init 1 = .ok (.invokespecial 3, 3) := by decide +kernel
theorem dX1_init_4 : decode cX1_init 4 = .ok (.aload_n 0, 1) := by decide +kernel
theorem dX1_init_5 : decode cX1_init 5 = .ok (.bipush 21, 2) := by decide +kernel
theorem dX1_init_7 : decode cX1_init 7 = .ok (.newarray .int, 2) := by decide +kernel
theorem dX1_init_9 : decode cX1_init 9 = .ok (.putfield 9, 3) := by decide +kernel
theorem dX1_init_12 : decode cX1_init 12 = .ok (.return_, 1) := by decide +kernel
theorem dX1_timeOn_0 : decode cX1_timeOn 0 = .ok (.iload_n 1, 1) := by decide +kernel
theorem dX1_timeOn_1 : decode cX1_timeOn 1 = .ok (.ifCond .lt 26, 3) := by decide +kernel
theorem dX1_timeOn_4 : decode cX1_timeOn 4 = .ok (.iload_n 1, 1) := by decide +kernel
theorem dX1_timeOn_5 : decode cX1_timeOn 5 = .ok (.aload_n 0, 1) := by decide +kernel
theorem dX1_timeOn_6 : decode cX1_timeOn 6 = .ok (.getfield 15, 3) := by decide +kernel
theorem dX1_timeOn_9 : decode cX1_timeOn 9 = .ok (.if_icmp .ge 18, 3) := by decide +kernel
theorem dX1_timeOn_12 : decode cX1_timeOn 12 = .ok (.iload_n 1, 1) := by decide +kernel
theorem dX1_timeOn_13 : decode cX1_timeOn 13 = .ok (.bipush 7, 2) := by decide +kernel
theorem dX1_timeOn_15 : decode cX1_timeOn 15 = .ok (.if_icmp .ge 12, 3) := by decide +kernel
theorem dX1_timeOn_18 : decode cX1_timeOn 18 = .ok (.iload_n 2, 1) := by decide +kernel
theorem dX1_timeOn_19 : decode cX1_timeOn 19 = .ok (.ifCond .lt 8, 3) := by decide +kernel
theorem dX1_timeOn_22 : decode cX1_timeOn 22 = .ok (.iload_n 2, 1) := by decide +kernel
theorem dX1_timeOn_23 : decode cX1_timeOn 23 = .ok (.iconst 3, 1) := by decide +kernel
theorem dX1_timeOn_24 : decode cX1_timeOn 24 = .ok (.if_icmp .lt 5, 3) := by decide +kernel
theorem dX1_timeOn_27 : decode cX1_timeOn 27 = .ok (.iconst 0, 1) := by decide +kernel
theorem dX1_timeOn_28 : decode cX1_timeOn 28 = .ok (.ireturn, 1) := by decide +kernel
theorem dX1_timeOn_29 : decode cX1_timeOn 29 = .ok (.aload_n 0, 1) := by decide +kernel
theorem dX1_timeOn_30 : decode cX1_timeOn 30 = .ok (.getfield 9, 3) := by decide +kernel
theorem dX1_timeOn_33 : decode cX1_timeOn 33 = .ok (.iload_n 1, 1) := by decide +kernel
theorem dX1_timeOn_34 : decode cX1_timeOn 34 = .ok (.iconst 3, 1) := by decide +kernel
theorem dX1_timeOn_35 : decode cX1_timeOn 35 = .ok (.imul, 1) := by decide +kernel
theorem dX1_timeOn_36 : decode cX1_timeOn 36 = .ok (.iload_n 2, 1) := by decide +kernel
theorem dX1_timeOn_37 : decode cX1_timeOn 37 = .ok (.iadd, 1) := by decide +kernel
theorem dX1_timeOn_38 : decode cX1_timeOn 38 = .ok (.iaload, 1) := by decide +kernel
theorem dX1_timeOn_39 : decode cX1_timeOn 39 = .ok (.ireturn, 1) := by decide +kernel
set_option maxRecDepth 20000 in
theorem ggX1_loadOn_X1_timeOn : GoodIn wsX1_loadOn wsX1_timeOn := goodIn_r _ [6, 1, 7, 8, 9] (by decide +kernel) (by decide +kernel)
set_option maxRecDepth 20000 in
theorem gX1_loadOn_X1_timeOn : GoodIn wsX1_loadOn (wsV RX1 19 RX1 yX1_timeOn wsX1_timeOn) := goodIn_app (goodIn_of _ (by decide +kernel)) ggX1_loadOn_X1_timeOn
theorem dX1_loadOn_0 : decode cX1_loadOn 0 = .ok (.iconst 0, 1) := by decide +kernel
theorem dX1_loadOn_1 : decode cX1_loadOn 1 = .ok (.istore_n 3, 1) := by decide +kernel
theorem dX1_loadOn_2 : decode cX1_loadOn 2 = .ok (.iconst 0, 1) := by decide +kernel
theorem dX1_loadOn_3 : decode cX1_loadOn 3 = .ok (.istore 4, 2) := by decide +kernel
theorem dX1_loadOn_5 : decode cX1_loadOn 5 = .ok (.iload 4, 2) := by decide +kernel
theorem dX1_loadOn_7 : decode cX1_loadOn 7 = .ok (.aload_n 0, 1) := by decide +kernel
theorem dX1_loadOn_8 : decode cX1_loadOn 8 = .ok (.getfield 15, 3) := by decide +kernel
theorem dX1_loadOn_11 : decode cX1_loadOn 11 = .ok (.if_icmp .ge 34, 3) := by decide +kernel
theorem dX1_loadOn_14 : decode cX1_loadOn 14 = .ok (.iload 4, 2) := by decide +kernel
theorem dX1_loadOn_16 : decode cX1_loadOn 16 = .ok (.aload_n 1, 1) := by decide +kernel
theorem dX1_loadOn_17 : decode cX1_loadOn 17 = .ok (.arraylength, 1) := by decide +kernel
theorem dX1_loadOn_18 : decode cX1_loadOn 18 = .ok (.if_icmp .ge 27, 3) := by decide +kernel
theorem dX1_loadOn_21 : decode cX1_loadOn 21 = .ok (.aload_n 1, 1) := by decide +kernel
theorem dX1_loadOn_22 : decode cX1_loadOn 22 = .ok (.iload 4, 2) := by decide +kernel
theorem dX1_loadOn_24 : decode cX1_loadOn 24 = .ok (.iaload, 1) := by decide +kernel
theorem dX1_loadOn_25 : decode cX1_loadOn 25 = .ok (.iload_n 2, 1) := by decide +kernel
theorem dX1_loadOn_26 : decode cX1_loadOn 26 = .ok (.if_icmp .ne 13, 3) := by decide +kernel
theorem dX1_loadOn_29 : decode cX1_loadOn 29 = .ok (.iload_n 3, 1) := by decide +kernel
theorem dX1_loadOn_30 : decode cX1_loadOn 30 = .ok (.aload_n 0, 1) := by decide +kernel
theorem dX1_loadOn_31 : decode cX1_loadOn 31 = .ok (.iload 4, 2) := by decide +kernel
theorem dX1_loadOn_33 : decode cX1_loadOn 33 = .ok (.iload_n 2, 1) := by decide +kernel
theorem dX1_loadOn_34 : decode cX1_loadOn 34 = .ok (.invokevirtual 19, 3) := by decide +kernel
theorem dX1_loadOn_37 : decode cX1_loadOn 37 = .ok (.iadd, 1) := by decide +kernel
theorem dX1_loadOn_38 : decode cX1_loadOn 38 = .ok (.istore_n 3, 1) := by decide +kernel
theorem dX1_loadOn_39 : decode cX1_loadOn 39 = .ok (.iinc 4 1, 3) := by decide +kernel
theorem dX1_loadOn_42 : decode cX1_loadOn 42 = .ok (.goto (-37), 3) := by decide +kernel
theorem dX1_loadOn_45 : decode cX1_loadOn 45 = .ok (.iload_n 3, 1) := by decide +kernel
theorem dX1_loadOn_46 : decode cX1_loadOn 46 = .ok (.ireturn, 1) := by decide +kernel
set_option maxRecDepth 20000 in
theorem ggX1_greatestLoad_X1_loadOn : GoodIn wsX1_greatestLoad wsX1_loadOn := goodIn_r _ [9, 10, 11, 12, 13, 8, 14, 15, 16, 17] (by decide +kernel) (by decide +kernel)
set_option maxRecDepth 20000 in
theorem gX1_greatestLoad_X1_loadOn : GoodIn wsX1_greatestLoad (wsV RX1 23 RX1 yX1_loadOn wsX1_loadOn) := goodIn_app (goodIn_of _ (by decide +kernel)) ggX1_greatestLoad_X1_loadOn
theorem dX1_greatestLoad_0 : decode cX1_greatestLoad 0 = .ok (.aload_n 0, 1) := by decide +kernel
theorem dX1_greatestLoad_1 : decode cX1_greatestLoad 1 = .ok (.aload_n 1, 1) := by decide +kernel
theorem dX1_greatestLoad_2 : decode cX1_greatestLoad 2 = .ok (.iconst 0, 1) := by decide +kernel
theorem dX1_greatestLoad_3 : decode cX1_greatestLoad 3 = .ok (.invokevirtual 23, 3) := by decide +kernel
theorem dX1_greatestLoad_6 : decode cX1_greatestLoad 6 = .ok (.aload_n 0, 1) := by decide +kernel
theorem dX1_greatestLoad_7 : decode cX1_greatestLoad 7 = .ok (.aload_n 1, 1) := by decide +kernel
theorem dX1_greatestLoad_8 : decode cX1_greatestLoad 8 = .ok (.iconst 1, 1) := by decide +kernel
theorem dX1_greatestLoad_9 : decode cX1_greatestLoad 9 = .ok (.invokevirtual 23, 3) := by decide +kernel
theorem dX1_greatestLoad_12 : decode cX1_greatestLoad 12 = .ok (.invokestatic 27, 3) := by decide +kernel
theorem dX1_greatestLoad_15 : decode cX1_greatestLoad 15 = .ok (.aload_n 0, 1) := by decide +kernel
theorem dX1_greatestLoad_16 : decode cX1_greatestLoad 16 = .ok (.aload_n 1, 1) := by decide +kernel
theorem dX1_greatestLoad_17 : decode cX1_greatestLoad 17 = .ok (.iconst 2, 1) := by decide +kernel
theorem dX1_greatestLoad_18 : decode cX1_greatestLoad 18 = .ok (.invokevirtual 23, 3) := by decide +kernel
theorem dX1_greatestLoad_21 : decode cX1_greatestLoad 21 = .ok (.invokestatic 27, 3) := by decide +kernel
theorem dX1_greatestLoad_24 : decode cX1_greatestLoad 24 = .ok (.ireturn, 1) := by decide +kernel
theorem dX2_init_0 : decode cX2_init 0 = .ok (.aload_n 0, 1) := by decide +kernel
theorem dX2_init_1 : decode cX2_init 1 = .ok (.invokespecial 3, 3) := by decide +kernel
theorem dX2_init_4 : decode cX2_init 4 = .ok (.aload_n 0, 1) := by decide +kernel
theorem dX2_init_5 : decode cX2_init 5 = .ok (.bipush 7, 2) := by decide +kernel
theorem dX2_init_7 : decode cX2_init 7 = .ok (.newarray .int, 2) := by decide +kernel
theorem dX2_init_9 : decode cX2_init 9 = .ok (.putfield 9, 3) := by decide +kernel
theorem dX2_init_12 : decode cX2_init 12 = .ok (.return_, 1) := by decide +kernel
set_option maxRecDepth 20000 in
theorem ggX2_makeBestChange_X2_rank : GoodIn wsX2_makeBestChange wsX2_rank := goodIn_r _ [10, 5, 11, 12, 13, 14, 15, 16, 17, 18, 19, 20, 21, 22, 23, 24, 25, 26, 27, 28, 46, 47, 48, 49, 50, 51, 52] (by decide +kernel) (by decide +kernel)
set_option maxRecDepth 20000 in
theorem gX2_makeBestChange_X2_rank : GoodIn wsX2_makeBestChange (wsV RX2 15 RX2 yX2_rank wsX2_rank) := goodIn_app (goodIn_of _ (by decide +kernel)) ggX2_makeBestChange_X2_rank
set_option maxRecDepth 20000 in
theorem ggX2_makeBestChange_X2_meetMoves : GoodIn wsX2_makeBestChange wsX2_meetMoves := goodIn_r _ [32, 5, 33, 25, 26, 21, 27, 23, 28, 6, 7, 8, 9, 10, 11, 12, 13, 14, 15, 16, 17, 18, 19, 20, 22, 24, 34, 35, 36, 37, 1, 2, 3, 4, 46, 47, 48, 49, 50, 51, 52] (by decide +kernel) (by decide +kernel)
set_option maxRecDepth 20000 in
theorem gX2_makeBestChange_X2_meetMoves : GoodIn wsX2_makeBestChange (wsV RX2 37 RX2 yX2_meetMoves wsX2_meetMoves) := goodIn_app (goodIn_of _ (by decide +kernel)) ggX2_makeBestChange_X2_meetMoves
set_option maxRecDepth 20000 in
theorem ggX2_makeBestChange_X2_meetSwaps : GoodIn wsX2_makeBestChange wsX2_meetSwaps := goodIn_r _ [41, 5, 33, 25, 26, 21, 27, 23, 28, 42, 43, 44, 9, 45, 6, 7, 8, 10, 11, 12, 13, 14, 15, 16, 17, 18, 19, 20, 22, 24, 34, 35, 36, 37, 1, 2, 3, 4, 51, 52, 46, 47, 48, 49, 50] (by decide +kernel) (by decide +kernel)
set_option maxRecDepth 20000 in
theorem gX2_makeBestChange_X2_meetSwaps : GoodIn wsX2_makeBestChange (wsV RX2 41 RX2 yX2_meetSwaps wsX2_meetSwaps) := goodIn_app (goodIn_of _ (by decide +kernel)) ggX2_makeBestChange_X2_meetSwaps
set_option maxRecDepth 20000 in
theorem ggX2_makeBestChange_X2_swap : GoodIn wsX2_makeBestChange wsX2_swap := goodIn_r _ [45, 5, 46, 47, 48, 49, 50] (by decide +kernel) (by decide +kernel)
set_option maxRecDepth 20000 in
theorem gX2_makeBestChange_X2_swap : GoodIn wsX2_makeBestChange (wsV RX2 44 RX2 yX2_swap wsX2_swap) := goodIn_app (goodIn_of _ (by decide +kernel)) ggX2_makeBestChange_X2_swap
theorem dX2_makeBestChange_0 : decode cX2_makeBestChange 0 = .ok (.aload_n 0, 1) := by decide +kernel
theorem dX2_makeBestChange_1 : decode cX2_makeBestChange 1 = .ok (.aload_n 0, 1) := by decide +kernel
theorem dX2_makeBestChange_2 : decode cX2_makeBestChange 2 = .ok (.aload_n 1, 1) := by decide +kernel
theorem dX2_makeBestChange_3 : decode cX2_makeBestChange 3 = .ok (.invokevirtual 15, 3) := by decide +kernel
theorem dX2_makeBestChange_6 : decode cX2_makeBestChange 6 = .ok (.putfield 19, 3) := by decide +kernel
theorem dX2_makeBestChange_9 : decode cX2_makeBestChange 9 = .ok (.aload_n 0, 1) := by decide +kernel
theorem dX2_makeBestChange_10 : decode cX2_makeBestChange 10 = .ok (.iconst (-1), 1) := by decide +kernel
theorem dX2_makeBestChange_11 : decode cX2_makeBestChange 11 = .ok (.putfield 23, 3) := by decide +kernel
theorem dX2_makeBestChange_14 : decode cX2_makeBestChange 14 = .ok (.aload_n 0, 1) := by decide +kernel
theorem dX2_makeBestChange_15 : decode cX2_makeBestChange 15 = .ok (.iconst (-1), 1) := by decide +kernel
theorem dX2_makeBestChange_16 : decode cX2_makeBestChange 16 = .ok (.putfield 26, 3) := by decide +kernel
theorem dX2_makeBestChange_19 : decode cX2_makeBestChange 19 = .ok (.aload_n 0, 1) := by decide +kernel
theorem dX2_makeBestChange_20 : decode cX2_makeBestChange 20 = .ok (.iconst (-1), 1) := by decide +kernel
theorem dX2_makeBestChange_21 : decode cX2_makeBestChange 21 = .ok (.putfield 29, 3) := by decide +kernel
theorem dX2_makeBestChange_24 : decode cX2_makeBestChange 24 = .ok (.iconst 0, 1) := by decide +kernel
theorem dX2_makeBestChange_25 : decode cX2_makeBestChange 25 = .ok (.istore_n 2, 1) := by decide +kernel
theorem dX2_makeBestChange_26 : decode cX2_makeBestChange 26 = .ok (.iload_n 2, 1) := by decide +kernel
theorem dX2_makeBestChange_27 : decode cX2_makeBestChange 27 = .ok (.aload_n 1, 1) := by decide +kernel
theorem dX2_makeBestChange_28 : decode cX2_makeBestChange 28 = .ok (.getfield 32, 3) := by decide +kernel
theorem dX2_makeBestChange_31 : decode cX2_makeBestChange 31 = .ok (.if_icmp .ge 21, 3) := by decide +kernel
theorem dX2_makeBestChange_34 : decode cX2_makeBestChange 34 = .ok (.iload_n 2, 1) := by decide +kernel
theorem dX2_makeBestChange_35 : decode cX2_makeBestChange 35 = .ok (.bipush 7, 2) := by decide +kernel
theorem dX2_makeBestChange_37 : decode cX2_makeBestChange 37 = .ok (.if_icmp .ge 15, 3) := by decide +kernel
theorem dX2_makeBestChange_40 : decode cX2_makeBestChange 40 = .ok (.aload_n 0, 1) := by decide +kernel
theorem dX2_makeBestChange_41 : decode cX2_makeBestChange 41 = .ok (.aload_n 1, 1) := by decide +kernel
theorem dX2_makeBestChange_42 : decode cX2_makeBestChange 42 = .ok (.iload_n 2, 1) := by decide +kernel
theorem dX2_makeBestChange_43 : decode cX2_makeBestChange 43 = .ok (.invokevirtual 37, 3) := by decide +kernel
theorem dX2_makeBestChange_46 : decode cX2_makeBestChange 46 = .ok (.iinc 2 1, 3) := by decide +kernel
theorem dX2_makeBestChange_49 : decode cX2_makeBestChange 49 = .ok (.goto (-23), 3) := by decide +kernel
theorem dX2_makeBestChange_52 : decode cX2_makeBestChange 52 = .ok (.iconst 0, 1) := by decide +kernel
theorem dX2_makeBestChange_53 : decode cX2_makeBestChange 53 = .ok (.istore_n 2, 1) := by decide +kernel
theorem dX2_makeBestChange_54 : decode cX2_makeBestChange 54 = .ok (.iload_n 2, 1) := by decide +kernel
theorem dX2_makeBestChange_55 : decode cX2_makeBestChange 55 = .ok (.aload_n 1, 1) := by decide +kernel
theorem dX2_makeBestChange_56 : decode cX2_makeBestChange 56 = .ok (.getfield 32, 3) := by decide +kernel
theorem dX2_makeBestChange_59 : decode cX2_makeBestChange 59 = .ok (.if_icmp .ge 21, 3) := by decide +kernel
theorem dX2_makeBestChange_62 : decode cX2_makeBestChange 62 = .ok (.iload_n 2, 1) := by decide +kernel
theorem dX2_makeBestChange_63 : decode cX2_makeBestChange 63 = .ok (.bipush 7, 2) := by decide +kernel
theorem dX2_makeBestChange_65 : decode cX2_makeBestChange 65 = .ok (.if_icmp .ge 15, 3) := by decide +kernel
theorem dX2_makeBestChange_68 : decode cX2_makeBestChange 68 = .ok (.aload_n 0, 1) := by decide +kernel
theorem dX2_makeBestChange_69 : decode cX2_makeBestChange 69 = .ok (.aload_n 1, 1) := by decide +kernel
theorem dX2_makeBestChange_70 : decode cX2_makeBestChange 70 = .ok (.iload_n 2, 1) := by decide +kernel
theorem dX2_makeBestChange_71 : decode cX2_makeBestChange 71 = .ok (.invokevirtual 41, 3) := by decide +kernel
theorem dX2_makeBestChange_74 : decode cX2_makeBestChange 74 = .ok (.iinc 2 1, 3) := by decide +kernel
theorem dX2_makeBestChange_77 : decode cX2_makeBestChange 77 = .ok (.goto (-23), 3) := by decide +kernel
theorem dX2_makeBestChange_80 : decode cX2_makeBestChange 80 = .ok (.aload_n 0, 1) := by decide +kernel
theorem dX2_makeBestChange_81 : decode cX2_makeBestChange 81 = .ok (.getfield 23, 3) := by decide +kernel
theorem dX2_makeBestChange_84 : decode cX2_makeBestChange 84 = .ok (.ifCond .lt 12, 3) := by decide +kernel
theorem dX2_makeBestChange_87 : decode cX2_makeBestChange 87 = .ok (.aload_n 0, 1) := by decide +kernel
theorem dX2_makeBestChange_88 : decode cX2_makeBestChange 88 = .ok (.getfield 23, 3) := by decide +kernel
theorem dX2_makeBestChange_91 : decode cX2_makeBestChange 91 = .ok (.bipush 7, 2) := by decide +kernel
theorem dX2_makeBestChange_93 : decode cX2_makeBestChange 93 = .ok (.if_icmp .lt 5, 3) := by decide +kernel
theorem dX2_makeBestChange_96 : decode cX2_makeBestChange 96 = .ok (.iconst 0, 1) := by decide +kernel
theorem dX2_makeBestChange_97 : decode cX2_makeBestChange 97 = .ok (.ireturn, 1) := by decide +kernel
theorem dX2_makeBestChange_98 : decode cX2_makeBestChange 98 = .ok (.aload_n 0, 1) := by decide +kernel
theorem dX2_makeBestChange_99 : decode cX2_makeBestChange 99 = .ok (.getfield 26, 3) := by decide +kernel
theorem dX2_makeBestChange_102 : decode cX2_makeBestChange 102 = .ok (.ifCond .lt 27, 3) := by decide +kernel
theorem dX2_makeBestChange_105 : decode cX2_makeBestChange 105 = .ok (.aload_n 0, 1) := by decide +kernel
theorem dX2_makeBestChange_106 : decode cX2_makeBestChange 106 = .ok (.getfield 26, 3) := by decide +kernel
theorem dX2_makeBestChange_109 : decode cX2_makeBestChange 109 = .ok (.bipush 7, 2) := by decide +kernel
theorem dX2_makeBestChange_111 : decode cX2_makeBestChange 111 = .ok (.if_icmp .ge 18, 3) := by decide +kernel
theorem dX2_makeBestChange_114 : decode cX2_makeBestChange 114 = .ok (.aload_n 0, 1) := by decide +kernel
theorem dX2_makeBestChange_115 : decode cX2_makeBestChange 115 = .ok (.aload_n 0, 1) := by decide +kernel
theorem dX2_makeBestChange_116 : decode cX2_makeBestChange 116 = .ok (.getfield 23, 3) := by decide +kernel
theorem dX2_makeBestChange_119 : decode cX2_makeBestChange 119 = .ok (.aload_n 0, 1) := by decide +kernel
theorem dX2_makeBestChange_120 : decode cX2_makeBestChange 120 = .ok (.getfield 26, 3) := by decide +kernel
theorem dX2_makeBestChange_123 : decode cX2_makeBestChange 123 = .ok (.invokevirtual 44, 3) := by decide +kernel
theorem dX2_makeBestChange_126 : decode cX2_makeBestChange 126 = .ok (.goto 16, 3) := by decide +kernel
theorem dX2_makeBestChange_129 : decode cX2_makeBestChange 129 = .ok (.aload_n 0, 1) := by decide +kernel
theorem dX2_makeBestChange_130 : decode cX2_makeBestChange 130 = .ok (.getfield 9, 3) := by decide +kernel
theorem dX2_makeBestChange_133 : decode cX2_makeBestChange 133 = .ok (.aload_n 0, 1) := by decide +kernel
theorem dX2_makeBestChange_134 : decode cX2_makeBestChange 134 = .ok (.getfield 23, 3) := by decide +kernel
theorem dX2_makeBestChange_137 : decode cX2_makeBestChange 137 = .ok (.aload_n 0, 1) := by decide +kernel
theorem dX2_makeBestChange_138 : decode cX2_makeBestChange 138 = .ok (.getfield 29, 3) := by decide +kernel
theorem dX2_makeBestChange_141 : decode cX2_makeBestChange 141 = .ok (.iastore, 1) := by decide +kernel
theorem dX2_makeBestChange_142 : decode cX2_makeBestChange 142 = .ok (.iconst 1, 1) := by decide +kernel
theorem dX2_makeBestChange_143 : decode cX2_makeBestChange 143 = .ok (.ireturn, 1) := by decide +kernel
set_option maxRecDepth 20000 in
theorem ggX2_meetMoves_X1_timeOn : GoodIn wsX2_meetMoves wsX1_timeOn := goodIn_r _ [6, 7, 8, 39, 40] (by decide +kernel) (by decide +kernel)
set_option maxRecDepth 20000 in
theorem gX2_meetMoves_X1_timeOn : GoodIn wsX2_meetMoves (wsV RX2 48 RX1 yX1_timeOn wsX1_timeOn) := goodIn_app (goodIn_of _ (by decide +kernel)) ggX2_meetMoves_X1_timeOn
set_option maxRecDepth 20000 in
theorem ggX2_meetMoves_X2_rank : GoodIn wsX2_meetMoves wsX2_rank := goodIn_r _ [13, 1, 14, 15, 16, 17, 18, 19, 20, 21, 22, 23, 5, 24, 7, 25, 3, 4, 6, 8, 34, 35, 36, 37, 38, 39, 40] (by decide +kernel) (by decide +kernel)
set_option maxRecDepth 20000 in
theorem gX2_meetMoves_X2_rank : GoodIn wsX2_meetMoves (wsV RX2 15 RX2 yX2_rank wsX2_rank) := goodIn_app (goodIn_of _ (by decide +kernel)) ggX2_meetMoves_X2_rank
set_option maxRecDepth 20000 in
theorem ggX2_meetMoves_X2_meet : GoodIn wsX2_meetMoves wsX2_meet := goodIn_r _ [29, 30, 31, 32, 33, 34, 35, 36, 37, 38] (by decide +kernel) (by decide +kernel)
set_option maxRecDepth 20000 in
theorem gX2_meetMoves_X2_meet : GoodIn wsX2_meetMoves (wsV RX2 52 RX2 yX2_meet wsX2_meet) := goodIn_app (goodIn_of _ (by decide +kernel)) ggX2_meetMoves_X2_meet
theorem dX2_meetMoves_0 : decode cX2_meetMoves 0 = .ok (.aload_n 0, 1) := by decide +kernel
theorem dX2_meetMoves_1 : decode cX2_meetMoves 1 = .ok (.getfield 9, 3) := by decide +kernel
theorem dX2_meetMoves_4 : decode cX2_meetMoves 4 = .ok (.iload_n 2, 1) := by decide +kernel
theorem dX2_meetMoves_5 : decode cX2_meetMoves 5 = .ok (.iaload, 1) := by decide +kernel
theorem dX2_meetMoves_6 : decode cX2_meetMoves 6 = .ok (.istore_n 3, 1) := by decide +kernel
theorem dX2_meetMoves_7 : decode cX2_meetMoves 7 = .ok (.iconst 0, 1) := by decide +kernel
theorem dX2_meetMoves_8 : decode cX2_meetMoves 8 = .ok (.istore 4, 2) := by decide +kernel
theorem dX2_meetMoves_10 : decode cX2_meetMoves 10 = .ok (.iload 4, 2) := by decide +kernel
theorem dX2_meetMoves_12 : decode cX2_meetMoves 12 = .ok (.iconst 3, 1) := by decide +kernel
theorem dX2_meetMoves_13 : decode cX2_meetMoves 13 = .ok (.if_icmp .ge 46, 3) := by decide +kernel
theorem dX2_meetMoves_16 : decode cX2_meetMoves 16 = .ok (.iload 4, 2) := by decide +kernel
theorem dX2_meetMoves_18 : decode cX2_meetMoves 18 = .ok (.iload_n 3, 1) := by decide +kernel
theorem dX2_meetMoves_19 : decode cX2_meetMoves 19 = .ok (.if_icmp .eq 34, 3) := by decide +kernel
theorem dX2_meetMoves_22 : decode cX2_meetMoves 22 = .ok (.aload_n 1, 1) := by decide +kernel
theorem dX2_meetMoves_23 : decode cX2_meetMoves 23 = .ok (.iload_n 2, 1) := by decide +kernel
theorem dX2_meetMoves_24 : decode cX2_meetMoves 24 = .ok (.iload 4, 2) := by decide +kernel
theorem dX2_meetMoves_26 : decode cX2_meetMoves 26 = .ok (.invokevirtual 48, 3) := by decide +kernel
theorem dX2_meetMoves_29 : decode cX2_meetMoves 29 = .ok (.ifCond .le 24, 3) := by decide +kernel
theorem dX2_meetMoves_32 : decode cX2_meetMoves 32 = .ok (.aload_n 0, 1) := by decide +kernel
theorem dX2_meetMoves_33 : decode cX2_meetMoves 33 = .ok (.getfield 9, 3) := by decide +kernel
theorem dX2_meetMoves_36 : decode cX2_meetMoves 36 = .ok (.iload_n 2, 1) := by decide +kernel
theorem dX2_meetMoves_37 : decode cX2_meetMoves 37 = .ok (.iload 4, 2) := by decide +kernel
theorem dX2_meetMoves_39 : decode cX2_meetMoves 39 = .ok (.iastore, 1) := by decide +kernel
theorem dX2_meetMoves_40 : decode cX2_meetMoves 40 = .ok (.aload_n 0, 1) := by decide +kernel
theorem dX2_meetMoves_41 : decode cX2_meetMoves 41 = .ok (.aload_n 0, 1) := by decide +kernel
theorem dX2_meetMoves_42 : decode cX2_meetMoves 42 = .ok (.aload_n 1, 1) := by decide +kernel
theorem dX2_meetMoves_43 : decode cX2_meetMoves 43 = .ok (.invokevirtual 15, 3) := by decide +kernel
theorem dX2_meetMoves_46 : decode cX2_meetMoves 46 = .ok (.iload_n 2, 1) := by decide +kernel
theorem dX2_meetMoves_47 : decode cX2_meetMoves 47 = .ok (.iconst (-1), 1) := by decide +kernel
theorem dX2_meetMoves_48 : decode cX2_meetMoves 48 = .ok (.iload 4, 2) := by decide +kernel
theorem dX2_meetMoves_50 : decode cX2_meetMoves 50 = .ok (.invokevirtual 52, 3) := by decide +kernel
theorem dX2_meetMoves_53 : decode cX2_meetMoves 53 = .ok (.iinc 4 1, 3) := by decide +kernel
theorem dX2_meetMoves_56 : decode cX2_meetMoves 56 = .ok (.goto (-46), 3) := by decide +kernel
theorem dX2_meetMoves_59 : decode cX2_meetMoves 59 = .ok (.aload_n 0, 1) := by decide +kernel
theorem dX2_meetMoves_60 : decode cX2_meetMoves 60 = .ok (.getfield 9, 3) := by decide +kernel
theorem dX2_meetMoves_63 : decode cX2_meetMoves 63 = .ok (.iload_n 2, 1) := by decide +kernel
theorem dX2_meetMoves_64 : decode cX2_meetMoves 64 = .ok (.iload_n 3, 1) := by decide +kernel
theorem dX2_meetMoves_65 : decode cX2_meetMoves 65 = .ok (.iastore, 1) := by decide +kernel
theorem dX2_meetMoves_66 : decode cX2_meetMoves 66 = .ok (.return_, 1) := by decide +kernel
set_option maxRecDepth 20000 in
theorem ggX2_meetSwaps_X1_timeOn : GoodIn wsX2_meetSwaps wsX1_timeOn := goodIn_r _ [6, 7, 8, 38, 39] (by decide +kernel) (by decide +kernel)
set_option maxRecDepth 20000 in
theorem gX2_meetSwaps_X1_timeOn : GoodIn wsX2_meetSwaps (wsV RX2 48 RX1 yX1_timeOn wsX1_timeOn) := goodIn_app (goodIn_of _ (by decide +kernel)) ggX2_meetSwaps_X1_timeOn
set_option maxRecDepth 20000 in
theorem ggX2_meetSwaps_X2_swap : GoodIn wsX2_meetSwaps wsX2_swap := goodIn_r _ [13, 1, 40, 41, 42, 43, 44] (by decide +kernel) (by decide +kernel)
set_option maxRecDepth 20000 in
theorem gX2_meetSwaps_X2_swap : GoodIn wsX2_meetSwaps (wsV RX2 44 RX2 yX2_swap wsX2_swap) := goodIn_app (goodIn_of _ (by decide +kernel)) ggX2_meetSwaps_X2_swap
set_option maxRecDepth 20000 in
theorem ggX2_meetSwaps_X2_rank : GoodIn wsX2_meetSwaps wsX2_rank := goodIn_r _ [17, 1, 18, 19, 20, 21, 22, 23, 24, 25, 26, 27, 5, 28, 7, 29, 3, 4, 6, 8, 40, 41, 42, 43, 44, 38, 39] (by decide +kernel) (by decide +kernel)
set_option maxRecDepth 20000 in
theorem gX2_meetSwaps_X2_rank : GoodIn wsX2_meetSwaps (wsV RX2 15 RX2 yX2_rank wsX2_rank) := goodIn_app (goodIn_of _ (by decide +kernel)) ggX2_meetSwaps_X2_rank
set_option maxRecDepth 20000 in
theorem ggX2_meetSwaps_X2_meet : GoodIn wsX2_meetSwaps wsX2_meet := goodIn_r _ [33, 34, 35, 36, 37, 40, 41, 42, 43, 44] (by decide +kernel) (by decide +kernel)
set_option maxRecDepth 20000 in
theorem gX2_meetSwaps_X2_meet : GoodIn wsX2_meetSwaps (wsV RX2 52 RX2 yX2_meet wsX2_meet) := goodIn_app (goodIn_of _ (by decide +kernel)) ggX2_meetSwaps_X2_meet
theorem dX2_meetSwaps_0 : decode cX2_meetSwaps 0 = .ok (.iload_n 2, 1) := by decide +kernel
theorem dX2_meetSwaps_1 : decode cX2_meetSwaps 1 = .ok (.iconst 1, 1) := by decide +kernel
theorem dX2_meetSwaps_2 : decode cX2_meetSwaps 2 = .ok (.iadd, 1) := by decide +kernel
theorem dX2_meetSwaps_3 : decode cX2_meetSwaps 3 = .ok (.istore_n 3, 1) := by decide +kernel
theorem dX2_meetSwaps_4 : decode cX2_meetSwaps 4 = .ok (.iload_n 3, 1) := by decide +kernel
theorem dX2_meetSwaps_5 : decode cX2_meetSwaps 5 = .ok (.aload_n 1, 1) := by decide +kernel
theorem dX2_meetSwaps_6 : decode cX2_meetSwaps 6 = .ok (.getfield 32, 3) := by decide +kernel
theorem dX2_meetSwaps_9 : decode cX2_meetSwaps 9 = .ok (.if_icmp .ge 82, 3) := by decide +kernel
theorem dX2_meetSwaps_12 : decode cX2_meetSwaps 12 = .ok (.iload_n 3, 1) := by decide +kernel
theorem dX2_meetSwaps_13 : decode cX2_meetSwaps 13 = .ok (.bipush 7, 2) := by decide +kernel
theorem dX2_meetSwaps_15 : decode cX2_meetSwaps 15 = .ok (.if_icmp .ge 76, 3) := by decide +kernel
theorem dX2_meetSwaps_18 : decode cX2_meetSwaps 18 = .ok (.aload_n 0, 1) := by decide +kernel
theorem dX2_meetSwaps_19 : decode cX2_meetSwaps 19 = .ok (.getfield 9, 3) := by decide +kernel
theorem dX2_meetSwaps_22 : decode cX2_meetSwaps 22 = .ok (.iload_n 2, 1) := by decide +kernel
theorem dX2_meetSwaps_23 : decode cX2_meetSwaps 23 = .ok (.iaload, 1) := by decide +kernel
theorem dX2_meetSwaps_24 : decode cX2_meetSwaps 24 = .ok (.istore 4, 2) := by decide +kernel
theorem dX2_meetSwaps_26 : decode cX2_meetSwaps 26 = .ok (.aload_n 0, 1) := by decide +kernel
theorem dX2_meetSwaps_27 : decode cX2_meetSwaps 27 = .ok (.getfield 9, 3) := by decide +kernel
theorem dX2_meetSwaps_30 : decode cX2_meetSwaps 30 = .ok (.iload_n 3, 1) := by decide +kernel
theorem dX2_meetSwaps_31 : decode cX2_meetSwaps 31 = .ok (.iaload, 1) := by decide +kernel
theorem dX2_meetSwaps_32 : decode cX2_meetSwaps 32 = .ok (.istore 5, 2) := by decide +kernel
theorem dX2_meetSwaps_34 : decode cX2_meetSwaps 34 = .ok (.iload 4, 2) := by decide +kernel
theorem dX2_meetSwaps_36 : decode cX2_meetSwaps 36 = .ok (.iload 5, 2) := by decide +kernel
theorem dX2_meetSwaps_38 : decode cX2_meetSwaps 38 = .ok (.if_icmp .eq 47, 3) := by decide +kernel
theorem dX2_meetSwaps_41 : decode cX2_meetSwaps 41 = .ok (.aload_n 1, 1) := by decide +kernel
theorem dX2_meetSwaps_42 : decode cX2_meetSwaps 42 = .ok (.iload_n 2, 1) := by decide +kernel
theorem dX2_meetSwaps_43 : decode cX2_meetSwaps 43 = .ok (.iload 5, 2) := by decide +kernel
theorem dX2_meetSwaps_45 : decode cX2_meetSwaps 45 = .ok (.invokevirtual 48, 3) := by decide +kernel
theorem dX2_meetSwaps_48 : decode cX2_meetSwaps 48 = .ok (.ifCond .le 37, 3) := by decide +kernel
theorem dX2_meetSwaps_51 : decode cX2_meetSwaps 51 = .ok (.aload_n 1, 1) := by decide +kernel
theorem dX2_meetSwaps_52 : decode cX2_meetSwaps 52 = .ok (.iload_n 3, 1) := by decide +kernel
theorem dX2_meetSwaps_53 : decode cX2_meetSwaps 53 = .ok (.iload 4, 2) := by decide +kernel
theorem dX2_meetSwaps_55 : decode cX2_meetSwaps 55 = .ok (.invokevirtual 48, 3) := by decide +kernel
theorem dX2_meetSwaps_58 : decode cX2_meetSwaps 58 = .ok (.ifCond .le 27, 3) := by decide +kernel
theorem dX2_meetSwaps_61 : decode cX2_meetSwaps 61 = .ok (.aload_n 0, 1) := by decide +kernel
theorem dX2_meetSwaps_62 : decode cX2_meetSwaps 62 = .ok (.iload_n 2, 1) := by decide +kernel
theorem dX2_meetSwaps_63 : decode cX2_meetSwaps 63 = .ok (.iload_n 3, 1) := by decide +kernel
theorem dX2_meetSwaps_64 : decode cX2_meetSwaps 64 = .ok (.invokevirtual 44, 3) := by decide +kernel
theorem dX2_meetSwaps_67 : decode cX2_meetSwaps 67 = .ok (.aload_n 0, 1) := by decide +kernel
theorem dX2_meetSwaps_68 : decode cX2_meetSwaps 68 = .ok (.aload_n 0, 1) := by decide +kernel
theorem dX2_meetSwaps_69 : decode cX2_meetSwaps 69 = .ok (.aload_n 1, 1) := by decide +kernel
theorem dX2_meetSwaps_70 : decode cX2_meetSwaps 70 = .ok (.invokevirtual 15, 3) := by decide +kernel
theorem dX2_meetSwaps_73 : decode cX2_meetSwaps 73 = .ok (.iload_n 2, 1) := by decide +kernel
theorem dX2_meetSwaps_74 : decode cX2_meetSwaps 74 = .ok (.iload_n 3, 1) := by decide +kernel
theorem dX2_meetSwaps_75 : decode cX2_meetSwaps 75 = .ok (.iconst (-1), 1) := by decide +kernel
theorem dX2_meetSwaps_76 : decode cX2_meetSwaps 76 = .ok (.invokevirtual 52, 3) := by decide +kernel
theorem dX2_meetSwaps_79 : decode cX2_meetSwaps 79 = .ok (.aload_n 0, 1) := by decide +kernel
theorem dX2_meetSwaps_80 : decode cX2_meetSwaps 80 = .ok (.iload_n 2, 1) := by decide +kernel
theorem dX2_meetSwaps_81 : decode cX2_meetSwaps 81 = .ok (.iload_n 3, 1) := by decide +kernel
theorem dX2_meetSwaps_82 : decode cX2_meetSwaps 82 = .ok (.invokevirtual 44, 3) := by decide +kernel
theorem dX2_meetSwaps_85 : decode cX2_meetSwaps 85 = .ok (.iinc 3 1, 3) := by decide +kernel
theorem dX2_meetSwaps_88 : decode cX2_meetSwaps 88 = .ok (.goto (-84), 3) := by decide +kernel
theorem dX2_meetSwaps_91 : decode cX2_meetSwaps 91 = .ok (.return_, 1) := by decide +kernel
theorem dX2_meet_0 : decode cX2_meet 0 = .ok (.iload_n 1, 1) := by decide +kernel
theorem dX2_meet_1 : decode cX2_meet 1 = .ok (.aload_n 0, 1) := by decide +kernel
theorem dX2_meet_2 : decode cX2_meet 2 = .ok (.getfield 19, 3) := by decide +kernel
theorem dX2_meet_5 : decode cX2_meet 5 = .ok (.if_icmp .ge 24, 3) := by decide +kernel
theorem dX2_meet_8 : decode cX2_meet 8 = .ok (.aload_n 0, 1) := by decide +kernel
theorem dX2_meet_9 : decode cX2_meet 9 = .ok (.iload_n 1, 1) := by decide +kernel
theorem dX2_meet_10 : decode cX2_meet 10 = .ok (.putfield 19, 3) := by decide +kernel
theorem dX2_meet_13 : decode cX2_meet 13 = .ok (.aload_n 0, 1) := by decide +kernel
theorem dX2_meet_14 : decode cX2_meet 14 = .ok (.iload_n 2, 1) := by decide +kernel
theorem dX2_meet_15 : decode cX2_meet 15 = .ok (.putfield 23, 3) := by decide +kernel
theorem dX2_meet_18 : decode cX2_meet 18 = .ok (.aload_n 0, 1) := by decide +kernel
theorem dX2_meet_19 : decode cX2_meet 19 = .ok (.iload_n 3, 1) := by decide +kernel
theorem dX2_meet_20 : decode cX2_meet 20 = .ok (.putfield 26, 3) := by decide +kernel
theorem dX2_meet_23 : decode cX2_meet 23 = .ok (.aload_n 0, 1) := by decide +kernel
theorem dX2_meet_24 : decode cX2_meet 24 = .ok (.iload 4, 2) := by decide +kernel
theorem dX2_meet_26 : decode cX2_meet 26 = .ok (.putfield 29, 3) := by decide +kernel
theorem dX2_meet_29 : decode cX2_meet 29 = .ok (.return_, 1) := by decide +kernel
theorem dX2_swap_0 : decode cX2_swap 0 = .ok (.iload_n 1, 1) := by decide +kernel
theorem dX2_swap_1 : decode cX2_swap 1 = .ok (.ifCond .lt 45, 3) := by decide +kernel
theorem dX2_swap_4 : decode cX2_swap 4 = .ok (.iload_n 1, 1) := by decide +kernel
theorem dX2_swap_5 : decode cX2_swap 5 = .ok (.bipush 7, 2) := by decide +kernel
theorem dX2_swap_7 : decode cX2_swap 7 = .ok (.if_icmp .ge 39, 3) := by decide +kernel
theorem dX2_swap_10 : decode cX2_swap 10 = .ok (.iload_n 2, 1) := by decide +kernel
theorem dX2_swap_11 : decode cX2_swap 11 = .ok (.ifCond .lt 35, 3) := by decide +kernel
theorem dX2_swap_14 : decode cX2_swap 14 = .ok (.iload_n 2, 1) := by decide +kernel
theorem dX2_swap_15 : decode cX2_swap 15 = .ok (.bipush 7, 2) := by decide +kernel
theorem dX2_swap_17 : decode cX2_swap 17 = .ok (.if_icmp .ge 29, 3) := by decide +kernel
theorem dX2_swap_20 : decode cX2_swap 20 = .ok (.aload_n 0, 1) := by decide +kernel
theorem dX2_swap_21 : decode cX2_swap 21 = .ok (.getfield 9, 3) := by decide +kernel
theorem dX2_swap_24 : decode cX2_swap 24 = .ok (.iload_n 1, 1) := by decide +kernel
theorem dX2_swap_25 : decode cX2_swap 25 = .ok (.iaload, 1) := by decide +kernel
theorem dX2_swap_26 : decode cX2_swap 26 = .ok (.istore_n 3, 1) := by decide +kernel
theorem dX2_swap_27 : decode cX2_swap 27 = .ok (.aload_n 0, 1) := by decide +kernel
theorem dX2_swap_28 : decode cX2_swap 28 = .ok (.getfield 9, 3) := by decide +kernel
theorem dX2_swap_31 : decode cX2_swap 31 = .ok (.iload_n 1, 1) := by decide +kernel
theorem dX2_swap_32 : decode cX2_swap 32 = .ok (.aload_n 0, 1) := by decide +kernel
theorem dX2_swap_33 : decode cX2_swap 33 = .ok (.getfield 9, 3) := by decide +kernel
theorem dX2_swap_36 : decode cX2_swap 36 = .ok (.iload_n 2, 1) := by decide +kernel
theorem dX2_swap_37 : decode cX2_swap 37 = .ok (.iaload, 1) := by decide +kernel
theorem dX2_swap_38 : decode cX2_swap 38 = .ok (.iastore, 1) := by decide +kernel
theorem dX2_swap_39 : decode cX2_swap 39 = .ok (.aload_n 0, 1) := by decide +kernel
theorem dX2_swap_40 : decode cX2_swap 40 = .ok (.getfield 9, 3) := by decide +kernel
theorem dX2_swap_43 : decode cX2_swap 43 = .ok (.iload_n 2, 1) := by decide +kernel
theorem dX2_swap_44 : decode cX2_swap 44 = .ok (.iload_n 3, 1) := by decide +kernel
theorem dX2_swap_45 : decode cX2_swap 45 = .ok (.iastore, 1) := by decide +kernel
theorem dX2_swap_46 : decode cX2_swap 46 = .ok (.return_, 1) := by decide +kernel
set_option maxRecDepth 20000 in
theorem ggX2_rank_X1_loadOn : GoodIn wsX2_rank wsX1_loadOn := goodIn_r _ [13, 14, 15, 16, 17, 12, 18, 19, 25, 26] (by decide +kernel) (by decide +kernel)
set_option maxRecDepth 20000 in
theorem gX2_rank_X1_loadOn : GoodIn wsX2_rank (wsV RX2 56 RX1 yX1_loadOn wsX1_loadOn) := goodIn_app (goodIn_of _ (by decide +kernel)) ggX2_rank_X1_loadOn
theorem dX2_rank_0 : decode cX2_rank 0 = .ok (.aload_n 1, 1) := by decide +kernel
theorem dX2_rank_1 : decode cX2_rank 1 = .ok (.aload_n 0, 1) := by decide +kernel
theorem dX2_rank_2 : decode cX2_rank 2 = .ok (.getfield 9, 3) := by decide +kernel
theorem dX2_rank_5 : decode cX2_rank 5 = .ok (.iconst 0, 1) := by decide +kernel
theorem dX2_rank_6 : decode cX2_rank 6 = .ok (.invokevirtual 56, 3) := by decide +kernel
theorem dX2_rank_9 : decode cX2_rank 9 = .ok (.istore_n 2, 1) := by decide +kernel
theorem dX2_rank_10 : decode cX2_rank 10 = .ok (.aload_n 1, 1) := by decide +kernel
theorem dX2_rank_11 : decode cX2_rank 11 = .ok (.aload_n 0, 1) := by decide +kernel
theorem dX2_rank_12 : decode cX2_rank 12 = .ok (.getfield 9, 3) := by decide +kernel
theorem dX2_rank_15 : decode cX2_rank 15 = .ok (.iconst 1, 1) := by decide +kernel
theorem dX2_rank_16 : decode cX2_rank 16 = .ok (.invokevirtual 56, 3) := by decide +kernel
theorem dX2_rank_19 : decode cX2_rank 19 = .ok (.istore_n 3, 1) := by decide +kernel
theorem dX2_rank_20 : decode cX2_rank 20 = .ok (.aload_n 1, 1) := by decide +kernel
theorem dX2_rank_21 : decode cX2_rank 21 = .ok (.aload_n 0, 1) := by decide +kernel
theorem dX2_rank_22 : decode cX2_rank 22 = .ok (.getfield 9, 3) := by decide +kernel
theorem dX2_rank_25 : decode cX2_rank 25 = .ok (.iconst 2, 1) := by decide +kernel
theorem dX2_rank_26 : decode cX2_rank 26 = .ok (.invokevirtual 56, 3) := by decide +kernel
theorem dX2_rank_29 : decode cX2_rank 29 = .ok (.istore 4, 2) := by decide +kernel
theorem dX2_rank_31 : decode cX2_rank 31 = .ok (.iload_n 2, 1) := by decide +kernel
theorem dX2_rank_32 : decode cX2_rank 32 = .ok (.iload_n 3, 1) := by decide +kernel
theorem dX2_rank_33 : decode cX2_rank 33 = .ok (.invokestatic 60, 3) := by decide +kernel
theorem dX2_rank_36 : decode cX2_rank 36 = .ok (.iload 4, 2) := by decide +kernel
theorem dX2_rank_38 : decode cX2_rank 38 = .ok (.invokestatic 60, 3) := by decide +kernel
theorem dX2_rank_41 : decode cX2_rank 41 = .ok (.istore 5, 2) := by decide +kernel
theorem dX2_rank_43 : decode cX2_rank 43 = .ok (.iload_n 2, 1) := by decide +kernel
theorem dX2_rank_44 : decode cX2_rank 44 = .ok (.iload_n 3, 1) := by decide +kernel
theorem dX2_rank_45 : decode cX2_rank 45 = .ok (.invokestatic 65, 3) := by decide +kernel
theorem dX2_rank_48 : decode cX2_rank 48 = .ok (.iload 4, 2) := by decide +kernel
theorem dX2_rank_50 : decode cX2_rank 50 = .ok (.invokestatic 65, 3) := by decide +kernel
theorem dX2_rank_53 : decode cX2_rank 53 = .ok (.istore 6, 2) := by decide +kernel
theorem dX2_rank_55 : decode cX2_rank 55 = .ok (.iload_n 2, 1) := by decide +kernel
theorem dX2_rank_56 : decode cX2_rank 56 = .ok (.iload_n 3, 1) := by decide +kernel
theorem dX2_rank_57 : decode cX2_rank 57 = .ok (.iadd, 1) := by decide +kernel
theorem dX2_rank_58 : decode cX2_rank 58 = .ok (.iload 4, 2) := by decide +kernel
theorem dX2_rank_60 : decode cX2_rank 60 = .ok (.iadd, 1) := by decide +kernel
theorem dX2_rank_61 : decode cX2_rank 61 = .ok (.iload 5, 2) := by decide +kernel
theorem dX2_rank_63 : decode cX2_rank 63 = .ok (.isub, 1) := by decide +kernel
theorem dX2_rank_64 : decode cX2_rank 64 = .ok (.iload 6, 2) := by decide +kernel
theorem dX2_rank_66 : decode cX2_rank 66 = .ok (.isub, 1) := by decide +kernel
theorem dX2_rank_67 : decode cX2_rank 67 = .ok (.istore 7, 2) := by decide +kernel
theorem dX2_rank_69 : decode cX2_rank 69 = .ok (.iload 5, 2) := by decide +kernel
theorem dX2_rank_71 : decode cX2_rank 71 = .ok (.sipush 1000, 3) := by decide +kernel
theorem dX2_rank_74 : decode cX2_rank 74 = .ok (.imul, 1) := by decide +kernel
theorem dX2_rank_75 : decode cX2_rank 75 = .ok (.iload 7, 2) := by decide +kernel
theorem dX2_rank_77 : decode cX2_rank 77 = .ok (.iadd, 1) := by decide +kernel
theorem dX2_rank_78 : decode cX2_rank 78 = .ok (.sipush 1000, 3) := by decide +kernel
theorem dX2_rank_81 : decode cX2_rank 81 = .ok (.imul, 1) := by decide +kernel
theorem dX2_rank_82 : decode cX2_rank 82 = .ok (.iload 6, 2) := by decide +kernel
theorem dX2_rank_84 : decode cX2_rank 84 = .ok (.iadd, 1) := by decide +kernel
theorem dX2_rank_85 : decode cX2_rank 85 = .ok (.ireturn, 1) := by decide +kernel
theorem dX3_init_0 : decode cX3_init 0 = .ok (.aload_n 0, 1) := by decide +kernel
theorem dX3_init_1 : decode cX3_init 1 = .ok (.invokespecial 3, 3) := by decide +kernel
theorem dX3_init_4 : decode cX3_init 4 = .ok (.aload_n 0, 1) := by decide +kernel
theorem dX3_init_5 : decode cX3_init 5 = .ok (.iconst 3, 1) := by decide +kernel
theorem dX3_init_6 : decode cX3_init 6 = .ok (.newarray .int, 2) := by decide +kernel
theorem dX3_init_8 : decode cX3_init 8 = .ok (.putfield 9, 3) := by decide +kernel
theorem dX3_init_11 : decode cX3_init 11 = .ok (.aload_n 0, 1) := by decide +kernel
theorem dX3_init_12 : decode cX3_init 12 = .ok (.bipush 7, 2) := by decide +kernel
theorem dX3_init_14 : decode cX3_init 14 = .ok (.newarray .int, 2) := by decide +kernel
theorem dX3_init_16 : decode cX3_init 16 = .ok (.putfield 15, 3) := by decide +kernel
theorem dX3_init_19 : decode cX3_init 19 = .ok (.aload_n 0, 1) := by decide +kernel
theorem dX3_init_20 : decode cX3_init 20 = .ok (.bipush 7, 2) := by decide +kernel
theorem dX3_init_22 : decode cX3_init 22 = .ok (.newarray .int, 2) := by decide +kernel
theorem dX3_init_24 : decode cX3_init 24 = .ok (.putfield 18, 3) := by decide +kernel
theorem dX3_init_27 : decode cX3_init 27 = .ok (.return_, 1) := by decide +kernel
set_option maxRecDepth 20000 in
theorem ggX3_find_X3_clearLoads : GoodIn wsX3_find wsX3_clearLoads := goodIn_r _ [6, 7, 32, 33, 34, 35] (by decide +kernel) (by decide +kernel)
set_option maxRecDepth 20000 in
theorem gX3_find_X3_clearLoads : GoodIn wsX3_find (wsV RX3 21 RX3 yX3_clearLoads wsX3_clearLoads) := goodIn_app (goodIn_of _ (by decide +kernel)) ggX3_find_X3_clearLoads
set_option maxRecDepth 20000 in
theorem ggX3_find_X3_searchFrom : GoodIn wsX3_find wsX3_searchFrom := goodIn_r _ [10, 1, 11, 7, 12, 13, 14, 5, 15, 16, 17, 18, 19, 20, 21, 22, 23, 24, 25, 26, 27, 28, 29, 30, 31, 8, 9, 32, 33, 34, 35, 36, 37] (by decide +kernel) (by decide +kernel)
set_option maxRecDepth 20000 in
theorem gX3_find_X3_searchFrom : GoodIn wsX3_find (va_wsS RX3 28 yX3_searchFrom wsX3_searchFrom) := goodIn_app (goodIn_of _ (by decide +kernel)) ggX3_find_X3_searchFrom
theorem dX3_find_0 : decode cX3_find 0 = .ok (.aload_n 0, 1) := by decide +kernel
theorem dX3_find_1 : decode cX3_find 1 = .ok (.invokevirtual 21, 3) := by decide +kernel
theorem dX3_find_4 : decode cX3_find 4 = .ok (.aload_n 0, 1) := by decide +kernel
theorem dX3_find_5 : decode cX3_find 5 = .ok (.sipush 351, 3) := by decide +kernel
theorem dX3_find_8 : decode cX3_find 8 = .ok (.putfield 24, 3) := by decide +kernel
theorem dX3_find_11 : decode cX3_find 11 = .ok (.aload_n 0, 1) := by decide +kernel
theorem dX3_find_12 : decode cX3_find 12 = .ok (.aload_n 1, 1) := by decide +kernel
theorem dX3_find_13 : decode cX3_find 13 = .ok (.iconst 0, 1) := by decide +kernel
theorem dX3_find_14 : decode cX3_find 14 = .ok (.invokestatic 28, 3) := by decide +kernel
theorem dX3_find_17 : decode cX3_find 17 = .ok (.return_, 1) := by decide +kernel
set_option maxRecDepth 20000 in
theorem ggX3_tryAll_X3_clearLoads : GoodIn wsX3_tryAll wsX3_clearLoads := goodIn_r _ [5, 6, 28, 29, 30, 31] (by decide +kernel) (by decide +kernel)
set_option maxRecDepth 20000 in
theorem gX3_tryAll_X3_clearLoads : GoodIn wsX3_tryAll (wsV RX3 21 RX3 yX3_clearLoads wsX3_clearLoads) := goodIn_app (goodIn_of _ (by decide +kernel)) ggX3_tryAll_X3_clearLoads
set_option maxRecDepth 20000 in
theorem ggX3_tryAll_X3_tryFrom : GoodIn wsX3_tryAll wsX3_tryFrom := goodIn_r _ [9, 6, 10, 11, 12, 13, 14, 15, 16, 4, 17, 18, 19, 20, 21, 22, 23, 24, 25, 26, 27, 7, 8, 32, 33, 28, 29, 30, 31] (by decide +kernel) (by decide +kernel)
set_option maxRecDepth 20000 in
theorem gX3_tryAll_X3_tryFrom : GoodIn wsX3_tryAll (va_wsS RX3 32 yX3_tryFrom wsX3_tryFrom) := goodIn_app (goodIn_of _ (by decide +kernel)) ggX3_tryAll_X3_tryFrom
theorem dX3_tryAll_0 : decode cX3_tryAll 0 = .ok (.aload_n 0, 1) := by decide +kernel
theorem dX3_tryAll_1 : decode cX3_tryAll 1 = .ok (.invokevirtual 21, 3) := by decide +kernel
theorem dX3_tryAll_4 : decode cX3_tryAll 4 = .ok (.aload_n 0, 1) := by decide +kernel
theorem dX3_tryAll_5 : decode cX3_tryAll 5 = .ok (.aload_n 1, 1) := by decide +kernel
theorem dX3_tryAll_6 : decode cX3_tryAll 6 = .ok (.iconst 0, 1) := by decide +kernel
theorem dX3_tryAll_7 : decode cX3_tryAll 7 = .ok (.invokestatic 32, 3) := by decide +kernel
theorem dX3_tryAll_10 : decode cX3_tryAll 10 = .ok (.ireturn, 1) := by decide +kernel
set_option maxRecDepth 20000 in
theorem ggX3_searchFrom_X3_greatest : GoodIn wsX3_searchFrom wsX3_greatest := goodIn_r _ [8, 3, 9, 10, 11, 12, 27, 28, 29, 30] (by decide +kernel) (by decide +kernel)
set_option maxRecDepth 20000 in
theorem gX3_searchFrom_X3_greatest : GoodIn wsX3_searchFrom (wsV RX3 36 RX3 yX3_greatest wsX3_greatest) := goodIn_app (goodIn_of _ (by decide +kernel)) ggX3_searchFrom_X3_greatest
set_option maxRecDepth 20000 in
theorem ggX3_searchFrom_X3_keep : GoodIn wsX3_searchFrom wsX3_keep := goodIn_r _ [16, 1, 17, 2, 27, 28, 29, 30] (by decide +kernel) (by decide +kernel)
set_option maxRecDepth 20000 in
theorem gX3_searchFrom_X3_keep : GoodIn wsX3_searchFrom (wsV RX3 45 RX3 yX3_keep wsX3_keep) := goodIn_app (goodIn_of _ (by decide +kernel)) ggX3_searchFrom_X3_keep
set_option maxRecDepth 20000 in
theorem ggX3_searchFrom_X1_timeOn : GoodIn wsX3_searchFrom wsX1_timeOn := goodIn_r _ [22, 23, 24, 31, 32] (by decide +kernel) (by decide +kernel)
set_option maxRecDepth 20000 in
theorem gX3_searchFrom_X1_timeOn : GoodIn wsX3_searchFrom (wsV RX3 49 RX1 yX1_timeOn wsX1_timeOn) := goodIn_app (goodIn_of _ (by decide +kernel)) ggX3_searchFrom_X1_timeOn
set_option maxRecDepth 20000 in
theorem ggX3_searchFrom_X3_searchFrom : GoodIn wsX3_searchFrom wsX3_searchFrom := goodIn_r _ [0, 1, 2, 3, 4, 5, 6, 7, 8, 9, 10, 11, 12, 13, 14, 15, 16, 17, 18, 19, 20, 21, 22, 23, 24, 25, 26, 27, 28, 29, 30, 31, 32] (by decide +kernel) (by decide +kernel)
set_option maxRecDepth 20000 in
theorem gX3_searchFrom_X3_searchFrom : GoodIn wsX3_searchFrom (va_wsS RX3 28 yX3_searchFrom wsX3_searchFrom) := goodIn_app (goodIn_of _ (by decide +kernel)) ggX3_searchFrom_X3_searchFrom
theorem dX3_searchFrom_0 : decode cX3_searchFrom 0 = .ok (.aload_n 0, 1) := by decide +kernel
theorem dX3_searchFrom_1 : decode cX3_searchFrom 1 = .ok (.invokevirtual 36, 3) := by decide +kernel
theorem dX3_searchFrom_4 : decode cX3_searchFrom 4 = .ok (.istore_n 3, 1) := by decide +kernel
theorem dX3_searchFrom_5 : decode cX3_searchFrom 5 = .ok (.iload_n 3, 1) := by decide +kernel
theorem dX3_searchFrom_6 : decode cX3_searchFrom 6 = .ok (.aload_n 0, 1) := by decide +kernel
theorem dX3_searchFrom_7 : decode cX3_searchFrom 7 = .ok (.getfield 24, 3) := by decide +kernel
theorem dX3_searchFrom_10 : decode cX3_searchFrom 10 = .ok (.if_icmp .lt 4, 3) := by decide +kernel
theorem dX3_searchFrom_13 : decode cX3_searchFrom 13 = .ok (.return_, 1) := by decide +kernel
theorem dX3_searchFrom_14 : decode cX3_searchFrom 14 = .ok (.iload_n 2, 1) := by decide +kernel
theorem dX3_searchFrom_15 : decode cX3_searchFrom 15 = .ok (.aload_n 1, 1) := by decide +kernel
theorem dX3_searchFrom_16 : decode cX3_searchFrom 16 = .ok (.getfield 40, 3) := by decide +kernel
theorem dX3_searchFrom_19 : decode cX3_searchFrom 19 = .ok (.if_icmp .ge 9, 3) := by decide +kernel
theorem dX3_searchFrom_22 : decode cX3_searchFrom 22 = .ok (.iload_n 2, 1) := by decide +kernel
theorem dX3_searchFrom_23 : decode cX3_searchFrom 23 = .ok (.bipush 7, 2) := by decide +kernel
theorem dX3_searchFrom_25 : decode cX3_searchFrom 25 = .ok (.if_icmp .lt 9, 3) := by decide +kernel
theorem dX3_searchFrom_28 : decode cX3_searchFrom 28 = .ok (.aload_n 0, 1) := by decide +kernel
theorem dX3_searchFrom_29 : decode cX3_searchFrom 29 = .ok (.iload_n 3, 1) := by decide +kernel
theorem dX3_searchFrom_30 : decode cX3_searchFrom 30 = .ok (.invokevirtual 45, 3) := by decide +kernel
theorem dX3_searchFrom_33 : decode cX3_searchFrom 33 = .ok (.return_, 1) := by decide +kernel
theorem dX3_searchFrom_34 : decode cX3_searchFrom 34 = .ok (.iconst 0, 1) := by decide +kernel
theorem dX3_searchFrom_35 : decode cX3_searchFrom 35 = .ok (.istore 4, 2) := by decide +kernel
theorem dX3_searchFrom_37 : decode cX3_searchFrom 37 = .ok (.iload 4, 2) := by decide +kernel
theorem dX3_searchFrom_39 : decode cX3_searchFrom 39 = .ok (.iconst 3, 1) := by decide +kernel
theorem dX3_searchFrom_40 : decode cX3_searchFrom 40 = .ok (.if_icmp .ge 63, 3) := by decide +kernel
theorem dX3_searchFrom_43 : decode cX3_searchFrom 43 = .ok (.aload_n 1, 1) := by decide +kernel
theorem dX3_searchFrom_44 : decode cX3_searchFrom 44 = .ok (.iload_n 2, 1) := by decide +kernel
theorem dX3_searchFrom_45 : decode cX3_searchFrom 45 = .ok (.iload 4, 2) := by decide +kernel
theorem dX3_searchFrom_47 : decode cX3_searchFrom 47 = .ok (.invokevirtual 49, 3) := by decide +kernel
theorem dX3_searchFrom_50 : decode cX3_searchFrom 50 = .ok (.istore 5, 2) := by decide +kernel
theorem dX3_searchFrom_52 : decode cX3_searchFrom 52 = .ok (.iload 5, 2) := by decide +kernel
theorem dX3_searchFrom_54 : decode cX3_searchFrom 54 = .ok (.ifCond .le 43, 3) := by decide +kernel
theorem dX3_searchFrom_57 : decode cX3_searchFrom 57 = .ok (.aload_n 0, 1) := by decide +kernel
theorem dX3_searchFrom_58 : decode cX3_searchFrom 58 = .ok (.getfield 15, 3) := by decide +kernel
theorem dX3_searchFrom_61 : decode cX3_searchFrom 61 = .ok (.iload_n 2, 1) := by decide +kernel
theorem dX3_searchFrom_62 : decode cX3_searchFrom 62 = .ok (.iload 4, 2) := by decide +kernel
theorem dX3_searchFrom_64 : decode cX3_searchFrom 64 = .ok (.iastore, 1) := by decide +kernel
theorem dX3_searchFrom_65 : decode cX3_searchFrom 65 = .ok (.aload_n 0, 1) := by decide +kernel
theorem dX3_searchFrom_66 : decode cX3_searchFrom 66 = .ok (.getfield 9, 3) := by decide +kernel
theorem dX3_searchFrom_69 : decode cX3_searchFrom 69 = .ok (.iload 4, 2) := by decide +kernel
theorem dX3_searchFrom_71 : decode cX3_searchFrom 71 = .ok (.dup2, 1) := by decide +kernel
theorem dX3_searchFrom_72 : decode cX3_searchFrom 72 = .ok (.iaload, 1) := by decide +kernel
theorem dX3_searchFrom_73 : decode cX3_searchFrom 73 = .ok (.iload 5, 2) := by decide +kernel
theorem dX3_searchFrom_75 : decode cX3_searchFrom 75 = .ok (.iadd, 1) := by decide +kernel
theorem dX3_searchFrom_76 : decode cX3_searchFrom 76 = .ok (.iastore, 1) := by decide +kernel
theorem dX3_searchFrom_77 : decode cX3_searchFrom 77 = .ok (.aload_n 0, 1) := by decide +kernel
theorem dX3_searchFrom_78 : decode cX3_searchFrom 78 = .ok (.aload_n 1, 1) := by decide +kernel
theorem dX3_searchFrom_79 : decode cX3_searchFrom 79 = .ok (.iload_n 2, 1) := by decide +kernel
theorem dX3_searchFrom_80 : decode cX3_searchFrom 80 = .ok (.iconst 1, 1) := by decide +kernel
theorem dX3_searchFrom_81 : decode cX3_searchFrom 81 = .ok (.iadd, 1) := by decide +kernel
theorem dX3_searchFrom_82 : decode cX3_searchFrom 82 = .ok (.invokestatic 28, 3) := by decide +kernel
theorem dX3_searchFrom_85 : decode cX3_searchFrom 85 = .ok (.aload_n 0, 1) := by decide +kernel
theorem dX3_searchFrom_86 : decode cX3_searchFrom 86 = .ok (.getfield 9, 3) := by decide +kernel
theorem dX3_searchFrom_89 : decode cX3_searchFrom 89 = .ok (.iload 4, 2) := by decide +kernel
theorem dX3_searchFrom_91 : decode cX3_searchFrom 91 = .ok (.dup2, 1) := by decide +kernel
theorem dX3_searchFrom_92 : decode cX3_searchFrom 92 = .ok (.iaload, 1) := by decide +kernel
theorem dX3_searchFrom_93 : decode cX3_searchFrom 93 = .ok (.iload 5, 2) := by decide +kernel
theorem dX3_searchFrom_95 : decode cX3_searchFrom 95 = .ok (.isub, 1) := by decide +kernel
theorem dX3_searchFrom_96 : decode cX3_searchFrom 96 = .ok (.iastore, 1) := by decide +kernel
theorem dX3_searchFrom_97 : decode cX3_searchFrom 97 = .ok (.iinc 4 1, 3) := by decide +kernel
theorem dX3_searchFrom_100 : decode cX3_searchFrom 100 = .ok (.goto (-63), 3) := by decide +kernel
theorem dX3_searchFrom_103 : decode cX3_searchFrom 103 = .ok (.return_, 1) := by decide +kernel
set_option maxRecDepth 20000 in
theorem ggX3_tryFrom_X3_greatest : GoodIn wsX3_tryFrom wsX3_greatest := goodIn_r _ [10, 1, 11, 12, 4, 13, 25, 26, 27, 28] (by decide +kernel) (by decide +kernel)
set_option maxRecDepth 20000 in
theorem gX3_tryFrom_X3_greatest : GoodIn wsX3_tryFrom (wsV RX3 36 RX3 yX3_greatest wsX3_greatest) := goodIn_app (goodIn_of _ (by decide +kernel)) ggX3_tryFrom_X3_greatest
set_option maxRecDepth 20000 in
theorem ggX3_tryFrom_X1_timeOn : GoodIn wsX3_tryFrom wsX1_timeOn := goodIn_r _ [18, 19, 20, 23, 24] (by decide +kernel) (by decide +kernel)
set_option maxRecDepth 20000 in
theorem gX3_tryFrom_X1_timeOn : GoodIn wsX3_tryFrom (wsV RX3 49 RX1 yX1_timeOn wsX1_timeOn) := goodIn_app (goodIn_of _ (by decide +kernel)) ggX3_tryFrom_X1_timeOn
set_option maxRecDepth 20000 in
theorem ggX3_tryFrom_X3_tryFrom : GoodIn wsX3_tryFrom wsX3_tryFrom := goodIn_r _ [0, 1, 2, 3, 4, 5, 6, 7, 8, 9, 10, 11, 12, 13, 14, 15, 16, 17, 18, 19, 20, 21, 22, 23, 24, 25, 26, 27, 28] (by decide +kernel) (by decide +kernel)
set_option maxRecDepth 20000 in
theorem gX3_tryFrom_X3_tryFrom : GoodIn wsX3_tryFrom (va_wsS RX3 32 yX3_tryFrom wsX3_tryFrom) := goodIn_app (goodIn_of _ (by decide +kernel)) ggX3_tryFrom_X3_tryFrom
theorem dX3_tryFrom_0 : decode cX3_tryFrom 0 = .ok (.iload_n 2, 1) := by decide +kernel
theorem dX3_tryFrom_1 : decode cX3_tryFrom 1 = .ok (.aload_n 1, 1) := by decide +kernel
theorem dX3_tryFrom_2 : decode cX3_tryFrom 2 = .ok (.getfield 40, 3) := by decide +kernel
theorem dX3_tryFrom_5 : decode cX3_tryFrom 5 = .ok (.if_icmp .ge 9, 3) := by decide +kernel
theorem dX3_tryFrom_8 : decode cX3_tryFrom 8 = .ok (.iload_n 2, 1) := by decide +kernel
theorem dX3_tryFrom_9 : decode cX3_tryFrom 9 = .ok (.bipush 7, 2) := by decide +kernel
theorem dX3_tryFrom_11 : decode cX3_tryFrom 11 = .ok (.if_icmp .lt 8, 3) := by decide +kernel
theorem dX3_tryFrom_14 : decode cX3_tryFrom 14 = .ok (.aload_n 0, 1) := by decide +kernel
theorem dX3_tryFrom_15 : decode cX3_tryFrom 15 = .ok (.invokevirtual 36, 3) := by decide +kernel
theorem dX3_tryFrom_18 : decode cX3_tryFrom 18 = .ok (.ireturn, 1) := by decide +kernel
theorem dX3_tryFrom_19 : decode cX3_tryFrom 19 = .ok (.sipush 351, 3) := by decide +kernel
theorem dX3_tryFrom_22 : decode cX3_tryFrom 22 = .ok (.istore_n 3, 1) := by decide +kernel
theorem dX3_tryFrom_23 : decode cX3_tryFrom 23 = .ok (.iconst 0, 1) := by decide +kernel
theorem dX3_tryFrom_24 : decode cX3_tryFrom 24 = .ok (.istore 4, 2) := by decide +kernel
theorem dX3_tryFrom_26 : decode cX3_tryFrom 26 = .ok (.iload 4, 2) := by decide +kernel
theorem dX3_tryFrom_28 : decode cX3_tryFrom 28 = .ok (.iconst 3, 1) := by decide +kernel
theorem dX3_tryFrom_29 : decode cX3_tryFrom 29 = .ok (.if_icmp .ge 60, 3) := by decide +kernel
theorem dX3_tryFrom_32 : decode cX3_tryFrom 32 = .ok (.aload_n 1, 1) := by decide +kernel
theorem dX3_tryFrom_33 : decode cX3_tryFrom 33 = .ok (.iload_n 2, 1) := by decide +kernel
theorem dX3_tryFrom_34 : decode cX3_tryFrom 34 = .ok (.iload 4, 2) := by decide +kernel
theorem dX3_tryFrom_36 : decode cX3_tryFrom 36 = .ok (.invokevirtual 49, 3) := by decide +kernel
theorem dX3_tryFrom_39 : decode cX3_tryFrom 39 = .ok (.istore 5, 2) := by decide +kernel
theorem dX3_tryFrom_41 : decode cX3_tryFrom 41 = .ok (.iload 5, 2) := by decide +kernel
theorem dX3_tryFrom_43 : decode cX3_tryFrom 43 = .ok (.ifCond .le 40, 3) := by decide +kernel
theorem dX3_tryFrom_46 : decode cX3_tryFrom 46 = .ok (.aload_n 0, 1) := by decide +kernel
theorem dX3_tryFrom_47 : decode cX3_tryFrom 47 = .ok (.getfield 9, 3) := by decide +kernel
theorem dX3_tryFrom_50 : decode cX3_tryFrom 50 = .ok (.iload 4, 2) := by decide +kernel
theorem dX3_tryFrom_52 : decode cX3_tryFrom 52 = .ok (.dup2, 1) := by decide +kernel
theorem dX3_tryFrom_53 : decode cX3_tryFrom 53 = .ok (.iaload, 1) := by decide +kernel
theorem dX3_tryFrom_54 : decode cX3_tryFrom 54 = .ok (.iload 5, 2) := by decide +kernel
theorem dX3_tryFrom_56 : decode cX3_tryFrom 56 = .ok (.iadd, 1) := by decide +kernel
theorem dX3_tryFrom_57 : decode cX3_tryFrom 57 = .ok (.iastore, 1) := by decide +kernel
theorem dX3_tryFrom_58 : decode cX3_tryFrom 58 = .ok (.iload_n 3, 1) := by decide +kernel
theorem dX3_tryFrom_59 : decode cX3_tryFrom 59 = .ok (.aload_n 0, 1) := by decide +kernel
theorem dX3_tryFrom_60 : decode cX3_tryFrom 60 = .ok (.aload_n 1, 1) := by decide +kernel
theorem dX3_tryFrom_61 : decode cX3_tryFrom 61 = .ok (.iload_n 2, 1) := by decide +kernel
theorem dX3_tryFrom_62 : decode cX3_tryFrom 62 = .ok (.iconst 1, 1) := by decide +kernel
theorem dX3_tryFrom_63 : decode cX3_tryFrom 63 = .ok (.iadd, 1) := by decide +kernel
theorem dX3_tryFrom_64 : decode cX3_tryFrom 64 = .ok (.invokestatic 32, 3) := by decide +kernel
theorem dX3_tryFrom_67 : decode cX3_tryFrom 67 = .ok (.invokestatic 53, 3) := by decide +kernel
theorem dX3_tryFrom_70 : decode cX3_tryFrom 70 = .ok (.istore_n 3, 1) := by decide +kernel
theorem dX3_tryFrom_71 : decode cX3_tryFrom 71 = .ok (.aload_n 0, 1) := by decide +kernel
theorem dX3_tryFrom_72 : decode cX3_tryFrom 72 = .ok (.getfield 9, 3) := by decide +kernel
theorem dX3_tryFrom_75 : decode cX3_tryFrom 75 = .ok (.iload 4, 2) := by decide +kernel
theorem dX3_tryFrom_77 : decode cX3_tryFrom 77 = .ok (.dup2, 1) := by decide +kernel
theorem dX3_tryFrom_78 : decode cX3_tryFrom 78 = .ok (.iaload, 1) := by decide +kernel
theorem dX3_tryFrom_79 : decode cX3_tryFrom 79 = .ok (.iload 5, 2) := by decide +kernel
theorem dX3_tryFrom_81 : decode cX3_tryFrom 81 = .ok (.isub, 1) := by decide +kernel
theorem dX3_tryFrom_82 : decode cX3_tryFrom 82 = .ok (.iastore, 1) := by decide +kernel
theorem dX3_tryFrom_83 : decode cX3_tryFrom 83 = .ok (.iinc 4 1, 3) := by decide +kernel
theorem dX3_tryFrom_86 : decode cX3_tryFrom 86 = .ok (.goto (-60), 3) := by decide +kernel
theorem dX3_tryFrom_89 : decode cX3_tryFrom 89 = .ok (.iload_n 3, 1) := by decide +kernel
theorem dX3_tryFrom_90 : decode cX3_tryFrom 90 = .ok (.ireturn, 1) := by decide +kernel
theorem dX3_clearLoads_0 : decode cX3_clearLoads 0 = .ok (.iconst 0, 1) := by decide +kernel
theorem dX3_clearLoads_1 : decode cX3_clearLoads 1 = .ok (.istore_n 1, 1) := by decide +kernel
theorem dX3_clearLoads_2 : decode cX3_clearLoads 2 = .ok (.iload_n 1, 1) := by decide +kernel
theorem dX3_clearLoads_3 : decode cX3_clearLoads 3 = .ok (.iconst 3, 1) := by decide +kernel
theorem dX3_clearLoads_4 : decode cX3_clearLoads 4 = .ok (.if_icmp .ge 16, 3) := by decide +kernel
theorem dX3_clearLoads_7 : decode cX3_clearLoads 7 = .ok (.aload_n 0, 1) := by decide +kernel
theorem dX3_clearLoads_8 : decode cX3_clearLoads 8 = .ok (.getfield 9, 3) := by decide +kernel
theorem dX3_clearLoads_11 : decode cX3_clearLoads 11 = .ok (.iload_n 1, 1) := by decide +kernel
theorem dX3_clearLoads_12 : decode cX3_clearLoads 12 = .ok (.iconst 0, 1) := by decide +kernel
theorem dX3_clearLoads_13 : decode cX3_clearLoads 13 = .ok (.iastore, 1) := by decide +kernel
theorem dX3_clearLoads_14 : decode cX3_clearLoads 14 = .ok (.iinc 1 1, 3) := by decide +kernel
theorem dX3_clearLoads_17 : decode cX3_clearLoads 17 = .ok (.goto (-15), 3) := by decide +kernel
theorem dX3_clearLoads_20 : decode cX3_clearLoads 20 = .ok (.return_, 1) := by decide +kernel
theorem dX3_greatest_0 : decode cX3_greatest 0 = .ok (.aload_n 0, 1) := by decide +kernel
theorem dX3_greatest_1 : decode cX3_greatest 1 = .ok (.getfield 9, 3) := by decide +kernel
theorem dX3_greatest_4 : decode cX3_greatest 4 = .ok (.iconst 0, 1) := by decide +kernel
theorem dX3_greatest_5 : decode cX3_greatest 5 = .ok (.iaload, 1) := by decide +kernel
theorem dX3_greatest_6 : decode cX3_greatest 6 = .ok (.aload_n 0, 1) := by decide +kernel
theorem dX3_greatest_7 : decode cX3_greatest 7 = .ok (.getfield 9, 3) := by decide +kernel
theorem dX3_greatest_10 : decode cX3_greatest 10 = .ok (.iconst 1, 1) := by decide +kernel
theorem dX3_greatest_11 : decode cX3_greatest 11 = .ok (.iaload, 1) := by decide +kernel
theorem dX3_greatest_12 : decode cX3_greatest 12 = .ok (.invokestatic 58, 3) := by decide +kernel
theorem dX3_greatest_15 : decode cX3_greatest 15 = .ok (.aload_n 0, 1) := by decide +kernel
theorem dX3_greatest_16 : decode cX3_greatest 16 = .ok (.getfield 9, 3) := by decide +kernel
theorem dX3_greatest_19 : decode cX3_greatest 19 = .ok (.iconst 2, 1) := by decide +kernel
theorem dX3_greatest_20 : decode cX3_greatest 20 = .ok (.iaload, 1) := by decide +kernel
theorem dX3_greatest_21 : decode cX3_greatest 21 = .ok (.invokestatic 58, 3) := by decide +kernel
theorem dX3_greatest_24 : decode cX3_greatest 24 = .ok (.ireturn, 1) := by decide +kernel
theorem dX3_keep_0 : decode cX3_keep 0 = .ok (.aload_n 0, 1) := by decide +kernel
theorem dX3_keep_1 : decode cX3_keep 1 = .ok (.iload_n 1, 1) := by decide +kernel
theorem dX3_keep_2 : decode cX3_keep 2 = .ok (.putfield 24, 3) := by decide +kernel
theorem dX3_keep_5 : decode cX3_keep 5 = .ok (.iconst 0, 1) := by decide +kernel
theorem dX3_keep_6 : decode cX3_keep 6 = .ok (.istore_n 2, 1) := by decide +kernel
theorem dX3_keep_7 : decode cX3_keep 7 = .ok (.iload_n 2, 1) := by decide +kernel
theorem dX3_keep_8 : decode cX3_keep 8 = .ok (.bipush 7, 2) := by decide +kernel
theorem dX3_keep_10 : decode cX3_keep 10 = .ok (.if_icmp .ge 21, 3) := by decide +kernel
theorem dX3_keep_13 : decode cX3_keep 13 = .ok (.aload_n 0, 1) := by decide +kernel
theorem dX3_keep_14 : decode cX3_keep 14 = .ok (.getfield 18, 3) := by decide +kernel
theorem dX3_keep_17 : decode cX3_keep 17 = .ok (.iload_n 2, 1) := by decide +kernel
theorem dX3_keep_18 : decode cX3_keep 18 = .ok (.aload_n 0, 1) := by decide +kernel
theorem dX3_keep_19 : decode cX3_keep 19 = .ok (.getfield 15, 3) := by decide +kernel
theorem dX3_keep_22 : decode cX3_keep 22 = .ok (.iload_n 2, 1) := by decide +kernel
theorem dX3_keep_23 : decode cX3_keep 23 = .ok (.iaload, 1) := by decide +kernel
theorem dX3_keep_24 : decode cX3_keep 24 = .ok (.iastore, 1) := by decide +kernel
theorem dX3_keep_25 : decode cX3_keep 25 = .ok (.iinc 2 1, 3) := by decide +kernel
theorem dX3_keep_28 : decode cX3_keep 28 = .ok (.goto (-21), 3) := by decide +kernel
theorem dX3_keep_31 : decode cX3_keep 31 = .ok (.return_, 1) := by decide +kernel
theorem dX4_init_0 : decode cX4_init 0 = .ok (.aload_n 0, 1) := by decide +kernel
theorem dX4_init_1 : decode cX4_init 1 = .ok (.invokespecial 3, 3) := by decide +kernel
theorem dX4_init_4 : decode cX4_init 4 = .ok (.aload_n 0, 1) := by decide +kernel
theorem dX4_init_5 : decode cX4_init 5 = .ok (.bipush 7, 2) := by decide +kernel
theorem dX4_init_7 : decode cX4_init 7 = .ok (.newarray .int, 2) := by decide +kernel
theorem dX4_init_9 : decode cX4_init 9 = .ok (.putfield 9, 3) := by decide +kernel
theorem dX4_init_12 : decode cX4_init 12 = .ok (.return_, 1) := by decide +kernel
set_option maxRecDepth 20000 in
theorem ggX4_make_X4_matchFrom : GoodIn wsX4_make wsX4_matchFrom := goodIn_r _ [4, 5, 6, 7, 8, 9, 10, 11, 12, 13, 14, 15, 16, 1, 2, 3, 17, 18, 19, 20, 21, 22, 23, 24, 25, 26] (by decide +kernel) (by decide +kernel)
set_option maxRecDepth 20000 in
theorem gX4_make_X4_matchFrom : GoodIn wsX4_make (va_wsS RX4 15 yX4_matchFrom wsX4_matchFrom) := goodIn_app (goodIn_of _ (by decide +kernel)) ggX4_make_X4_matchFrom
theorem dX4_make_0 : decode cX4_make 0 = .ok (.aload_n 0, 1) := by decide +kernel
theorem dX4_make_1 : decode cX4_make 1 = .ok (.aload_n 1, 1) := by decide +kernel
theorem dX4_make_2 : decode cX4_make 2 = .ok (.aload_n 2, 1) := by decide +kernel
theorem dX4_make_3 : decode cX4_make 3 = .ok (.iconst 0, 1) := by decide +kernel
theorem dX4_make_4 : decode cX4_make 4 = .ok (.iconst 0, 1) := by decide +kernel
theorem dX4_make_5 : decode cX4_make 5 = .ok (.invokestatic 15, 3) := by decide +kernel
theorem dX4_make_8 : decode cX4_make 8 = .ok (.pop, 1) := by decide +kernel
theorem dX4_make_9 : decode cX4_make 9 = .ok (.return_, 1) := by decide +kernel
set_option maxRecDepth 20000 in
theorem ggX4_matchFrom_X0_wholeMachine : GoodIn wsX4_matchFrom wsX0_wholeMachine := goodIn_r _ [6, 7, 8, 9, 10, 5, 11, 12, 20, 21, 22, 23, 24, 25] (by decide +kernel) (by decide +kernel)
set_option maxRecDepth 20000 in
theorem gX4_matchFrom_X0_wholeMachine : GoodIn wsX4_matchFrom (wsV RX4 25 RX0 yX0_wholeMachine wsX0_wholeMachine) := goodIn_app (goodIn_of _ (by decide +kernel)) ggX4_matchFrom_X0_wholeMachine
set_option maxRecDepth 20000 in
theorem ggX4_matchFrom_X4_matchFrom : GoodIn wsX4_matchFrom wsX4_matchFrom := goodIn_r _ [0, 1, 2, 3, 4, 5, 6, 7, 8, 9, 10, 11, 12, 13, 14, 15, 16, 17, 18, 19, 20, 21, 22, 23, 24, 25] (by decide +kernel) (by decide +kernel)
set_option maxRecDepth 20000 in
theorem gX4_matchFrom_X4_matchFrom : GoodIn wsX4_matchFrom (va_wsS RX4 15 yX4_matchFrom wsX4_matchFrom) := goodIn_app (goodIn_of _ (by decide +kernel)) ggX4_matchFrom_X4_matchFrom
set_option maxRecDepth 20000 in
theorem ggX4_matchFrom_X0_hasShare : GoodIn wsX4_matchFrom wsX0_hasShare := goodIn_r _ [11, 12, 20, 21, 22, 23, 24, 25] (by decide +kernel) (by decide +kernel)
set_option maxRecDepth 20000 in
theorem gX4_matchFrom_X0_hasShare : GoodIn wsX4_matchFrom (wsV RX4 31 RX0 yX0_hasShare wsX0_hasShare) := goodIn_app (goodIn_of _ (by decide +kernel)) ggX4_matchFrom_X0_hasShare
theorem dX4_matchFrom_0 : decode cX4_matchFrom 0 = .ok (.iload_n 3, 1) := by decide +kernel
theorem dX4_matchFrom_1 : decode cX4_matchFrom 1 = .ok (.aload_n 1, 1) := by decide +kernel
theorem dX4_matchFrom_2 : decode cX4_matchFrom 2 = .ok (.getfield 19, 3) := by decide +kernel
theorem dX4_matchFrom_5 : decode cX4_matchFrom 5 = .ok (.if_icmp .ge 9, 3) := by decide +kernel
theorem dX4_matchFrom_8 : decode cX4_matchFrom 8 = .ok (.iload_n 3, 1) := by decide +kernel
theorem dX4_matchFrom_9 : decode cX4_matchFrom 9 = .ok (.bipush 7, 2) := by decide +kernel
theorem dX4_matchFrom_11 : decode cX4_matchFrom 11 = .ok (.if_icmp .lt 5, 3) := by decide +kernel
theorem dX4_matchFrom_14 : decode cX4_matchFrom 14 = .ok (.iconst 1, 1) := by decide +kernel
theorem dX4_matchFrom_15 : decode cX4_matchFrom 15 = .ok (.ireturn, 1) := by decide +kernel
theorem dX4_matchFrom_16 : decode cX4_matchFrom 16 = .ok (.aload_n 2, 1) := by decide +kernel
theorem dX4_matchFrom_17 : decode cX4_matchFrom 17 = .ok (.iload_n 3, 1) := by decide +kernel
theorem dX4_matchFrom_18 : decode cX4_matchFrom 18 = .ok (.invokevirtual 25, 3) := by decide +kernel
theorem dX4_matchFrom_21 : decode cX4_matchFrom 21 = .ok (.istore 5, 2) := by decide +kernel
theorem dX4_matchFrom_23 : decode cX4_matchFrom 23 = .ok (.iload 5, 2) := by decide +kernel
theorem dX4_matchFrom_25 : decode cX4_matchFrom 25 = .ok (.iconst (-1), 1) := by decide +kernel
theorem dX4_matchFrom_26 : decode cX4_matchFrom 26 = .ok (.if_icmp .eq 23, 3) := by decide +kernel
theorem dX4_matchFrom_29 : decode cX4_matchFrom 29 = .ok (.aload_n 0, 1) := by decide +kernel
theorem dX4_matchFrom_30 : decode cX4_matchFrom 30 = .ok (.getfield 9, 3) := by decide +kernel
theorem dX4_matchFrom_33 : decode cX4_matchFrom 33 = .ok (.iload_n 3, 1) := by decide +kernel
theorem dX4_matchFrom_34 : decode cX4_matchFrom 34 = .ok (.iload 5, 2) := by decide +kernel
theorem dX4_matchFrom_36 : decode cX4_matchFrom 36 = .ok (.iastore, 1) := by decide +kernel
theorem dX4_matchFrom_37 : decode cX4_matchFrom 37 = .ok (.aload_n 0, 1) := by decide +kernel
theorem dX4_matchFrom_38 : decode cX4_matchFrom 38 = .ok (.aload_n 1, 1) := by decide +kernel
theorem dX4_matchFrom_39 : decode cX4_matchFrom 39 = .ok (.aload_n 2, 1) := by decide +kernel
theorem dX4_matchFrom_40 : decode cX4_matchFrom 40 = .ok (.iload_n 3, 1) := by decide +kernel
theorem dX4_matchFrom_41 : decode cX4_matchFrom 41 = .ok (.iconst 1, 1) := by decide +kernel
theorem dX4_matchFrom_42 : decode cX4_matchFrom 42 = .ok (.iadd, 1) := by decide +kernel
theorem dX4_matchFrom_43 : decode cX4_matchFrom 43 = .ok (.iload 4, 2) := by decide +kernel
theorem dX4_matchFrom_45 : decode cX4_matchFrom 45 = .ok (.invokestatic 15, 3) := by decide +kernel
theorem dX4_matchFrom_48 : decode cX4_matchFrom 48 = .ok (.ireturn, 1) := by decide +kernel
theorem dX4_matchFrom_49 : decode cX4_matchFrom 49 = .ok (.iconst 0, 1) := by decide +kernel
theorem dX4_matchFrom_50 : decode cX4_matchFrom 50 = .ok (.istore 6, 2) := by decide +kernel
theorem dX4_matchFrom_52 : decode cX4_matchFrom 52 = .ok (.iload 6, 2) := by decide +kernel
theorem dX4_matchFrom_54 : decode cX4_matchFrom 54 = .ok (.iconst 3, 1) := by decide +kernel
theorem dX4_matchFrom_55 : decode cX4_matchFrom 55 = .ok (.if_icmp .ge 60, 3) := by decide +kernel
theorem dX4_matchFrom_58 : decode cX4_matchFrom 58 = .ok (.iconst 1, 1) := by decide +kernel
theorem dX4_matchFrom_59 : decode cX4_matchFrom 59 = .ok (.iload 6, 2) := by decide +kernel
theorem dX4_matchFrom_61 : decode cX4_matchFrom 61 = .ok (.ishl, 1) := by decide +kernel
theorem dX4_matchFrom_62 : decode cX4_matchFrom 62 = .ok (.istore 7, 2) := by decide +kernel
theorem dX4_matchFrom_64 : decode cX4_matchFrom 64 = .ok (.aload_n 2, 1) := by decide +kernel
theorem dX4_matchFrom_65 : decode cX4_matchFrom 65 = .ok (.iload_n 3, 1) := by decide +kernel
theorem dX4_matchFrom_66 : decode cX4_matchFrom 66 = .ok (.iload 6, 2) := by decide +kernel
theorem dX4_matchFrom_68 : decode cX4_matchFrom 68 = .ok (.invokevirtual 31, 3) := by decide +kernel
theorem dX4_matchFrom_71 : decode cX4_matchFrom 71 = .ok (.ifCond .eq 38, 3) := by decide +kernel
theorem dX4_matchFrom_74 : decode cX4_matchFrom 74 = .ok (.iload 4, 2) := by decide +kernel
theorem dX4_matchFrom_76 : decode cX4_matchFrom 76 = .ok (.iload 7, 2) := by decide +kernel
theorem dX4_matchFrom_78 : decode cX4_matchFrom 78 = .ok (.iand, 1) := by decide +kernel
theorem dX4_matchFrom_79 : decode cX4_matchFrom 79 = .ok (.ifCond .ne 30, 3) := by decide +kernel
theorem dX4_matchFrom_82 : decode cX4_matchFrom 82 = .ok (.aload_n 0, 1) := by decide +kernel
theorem dX4_matchFrom_83 : decode cX4_matchFrom 83 = .ok (.getfield 9, 3) := by decide +kernel
theorem dX4_matchFrom_86 : decode cX4_matchFrom 86 = .ok (.iload_n 3, 1) := by decide +kernel
theorem dX4_matchFrom_87 : decode cX4_matchFrom 87 = .ok (.iload 6, 2) := by decide +kernel
theorem dX4_matchFrom_89 : decode cX4_matchFrom 89 = .ok (.iastore, 1) := by decide +kernel
theorem dX4_matchFrom_90 : decode cX4_matchFrom 90 = .ok (.aload_n 0, 1) := by decide +kernel
theorem dX4_matchFrom_91 : decode cX4_matchFrom 91 = .ok (.aload_n 1, 1) := by decide +kernel
theorem dX4_matchFrom_92 : decode cX4_matchFrom 92 = .ok (.aload_n 2, 1) := by decide +kernel
theorem dX4_matchFrom_93 : decode cX4_matchFrom 93 = .ok (.iload_n 3, 1) := by decide +kernel
theorem dX4_matchFrom_94 : decode cX4_matchFrom 94 = .ok (.iconst 1, 1) := by decide +kernel
theorem dX4_matchFrom_95 : decode cX4_matchFrom 95 = .ok (.iadd, 1) := by decide +kernel
theorem dX4_matchFrom_96 : decode cX4_matchFrom 96 = .ok (.iload 4, 2) := by decide +kernel
theorem dX4_matchFrom_98 : decode cX4_matchFrom 98 = .ok (.iload 7, 2) := by decide +kernel
theorem dX4_matchFrom_100 : decode cX4_matchFrom 100 = .ok (.ior, 1) := by decide +kernel
theorem dX4_matchFrom_101 : decode cX4_matchFrom 101 = .ok (.invokestatic 15, 3) := by decide +kernel
theorem dX4_matchFrom_104 : decode cX4_matchFrom 104 = .ok (.ifCond .eq 5, 3) := by decide +kernel
theorem dX4_matchFrom_107 : decode cX4_matchFrom 107 = .ok (.iconst 1, 1) := by decide +kernel
theorem dX4_matchFrom_108 : decode cX4_matchFrom 108 = .ok (.ireturn, 1) := by decide +kernel
theorem dX4_matchFrom_109 : decode cX4_matchFrom 109 = .ok (.iinc 6 1, 3) := by decide +kernel
theorem dX4_matchFrom_112 : decode cX4_matchFrom 112 = .ok (.goto (-60), 3) := by decide +kernel
theorem dX4_matchFrom_115 : decode cX4_matchFrom 115 = .ok (.iconst 0, 1) := by decide +kernel
theorem dX4_matchFrom_116 : decode cX4_matchFrom 116 = .ok (.ireturn, 1) := by decide +kernel
theorem dX5_init_0 : decode cX5_init 0 = .ok (.aload_n 0, 1) := by decide +kernel
theorem dX5_init_1 : decode cX5_init 1 = .ok (.invokespecial 5, 3) := by decide +kernel
theorem dX5_init_4 : decode cX5_init 4 = .ok (.aload_n 0, 1) := by decide +kernel
theorem dX5_init_5 : decode cX5_init 5 = .ok (.bipush 10, 2) := by decide +kernel
theorem dX5_init_7 : decode cX5_init 7 = .ok (.bipush 26, 2) := by decide +kernel
theorem dX5_init_9 : decode cX5_init 9 = .ok (.multianewarray 11 2, 4) := by decide +kernel
theorem dX5_init_13 : decode cX5_init 13 = .ok (.putfield 13, 3) := by decide +kernel
theorem dX5_init_16 : decode cX5_init 16 = .ok (.aload_n 0, 1) := by decide +kernel
theorem dX5_init_17 : decode cX5_init 17 = .ok (.bipush 10, 2) := by decide +kernel
theorem dX5_init_19 : decode cX5_init 19 = .ok (.newarray .int, 2) := by decide +kernel
theorem dX5_init_21 : decode cX5_init 21 = .ok (.putfield 16, 3) := by decide +kernel
theorem dX5_init_24 : decode cX5_init 24 = .ok (.aload_n 0, 1) := by decide +kernel
theorem dX5_init_25 : decode cX5_init 25 = .ok (.bipush 25, 2) := by decide +kernel
theorem dX5_init_27 : decode cX5_init 27 = .ok (.newarray .boolean, 2) := by decide +kernel
theorem dX5_init_29 : decode cX5_init 29 = .ok (.putfield 20, 3) := by decide +kernel
theorem dX5_init_32 : decode cX5_init 32 = .ok (.return_, 1) := by decide +kernel
set_option maxRecDepth 20000 in
theorem ggX5_start_X5_clear : GoodIn wsX5_start wsX5_clear := goodIn_r _ [9, 10, 11, 12, 13, 14, 15, 3, 1, 4, 37, 38, 39, 40, 41] (by decide +kernel) (by decide +kernel)
set_option maxRecDepth 20000 in
theorem gX5_start_X5_clear : GoodIn wsX5_start (wsV RX5 30 RX5 yX5_clear wsX5_clear) := goodIn_app (goodIn_of _ (by decide +kernel)) ggX5_start_X5_clear
set_option maxRecDepth 20000 in
theorem ggX5_start_X5_layJob : GoodIn wsX5_start wsX5_layJob := goodIn_r _ [19, 1, 4, 3, 20, 21, 22, 23, 24, 25, 26, 27, 28, 29, 8, 30, 37, 38, 39, 40, 41, 35, 36] (by decide +kernel) (by decide +kernel)
set_option maxRecDepth 20000 in
theorem gX5_start_X5_layJob : GoodIn wsX5_start (wsV RX5 36 RX5 yX5_layJob wsX5_layJob) := goodIn_app (goodIn_of _ (by decide +kernel)) ggX5_start_X5_layJob
set_option maxRecDepth 20000 in
theorem ggX5_start_X5_admitExcess : GoodIn wsX5_start wsX5_admitExcess := goodIn_r _ [34, 1, 3, 37, 38, 39, 40, 41] (by decide +kernel) (by decide +kernel)
set_option maxRecDepth 20000 in
theorem gX5_start_X5_admitExcess : GoodIn wsX5_start (wsV RX5 40 RX5 yX5_admitExcess wsX5_admitExcess) := goodIn_app (goodIn_of _ (by decide +kernel)) ggX5_start_X5_admitExcess
theorem dX5_start_0 : decode cX5_start 0 = .ok (.aload_n 0, 1) := by decide +kernel
theorem dX5_start_1 : decode cX5_start 1 = .ok (.aload_n 1, 1) := by decide +kernel
theorem dX5_start_2 : decode cX5_start 2 = .ok (.getfield 24, 3) := by decide +kernel
theorem dX5_start_5 : decode cX5_start 5 = .ok (.invokevirtual 30, 3) := by decide +kernel
theorem dX5_start_8 : decode cX5_start 8 = .ok (.iconst 0, 1) := by decide +kernel
theorem dX5_start_9 : decode cX5_start 9 = .ok (.istore 4, 2) := by decide +kernel
theorem dX5_start_11 : decode cX5_start 11 = .ok (.iload 4, 2) := by decide +kernel
theorem dX5_start_13 : decode cX5_start 13 = .ok (.iconst 3, 1) := by decide +kernel
theorem dX5_start_14 : decode cX5_start 14 = .ok (.if_icmp .ge 69, 3) := by decide +kernel
theorem dX5_start_17 : decode cX5_start 17 = .ok (.bipush 21, 2) := by decide +kernel
theorem dX5_start_19 : decode cX5_start 19 = .ok (.iload 4, 2) := by decide +kernel
theorem dX5_start_21 : decode cX5_start 21 = .ok (.iadd, 1) := by decide +kernel
theorem dX5_start_22 : decode cX5_start 22 = .ok (.istore 5, 2) := by decide +kernel
theorem dX5_start_24 : decode cX5_start 24 = .ok (.aload_n 0, 1) := by decide +kernel
theorem dX5_start_25 : decode cX5_start 25 = .ok (.getfield 13, 3) := by decide +kernel
theorem dX5_start_28 : decode cX5_start 28 = .ok (.iload 4, 2) := by decide +kernel
theorem dX5_start_30 : decode cX5_start 30 = .ok (.aaload, 1) := by decide +kernel
theorem dX5_start_31 : decode cX5_start 31 = .ok (.iload 5, 2) := by decide +kernel
theorem dX5_start_33 : decode cX5_start 33 = .ok (.lconst 1, 1) := by decide +kernel
theorem dX5_start_34 : decode cX5_start 34 = .ok (.lastore, 1) := by decide +kernel
theorem dX5_start_35 : decode cX5_start 35 = .ok (.aload_n 0, 1) := by decide +kernel
theorem dX5_start_36 : decode cX5_start 36 = .ok (.getfield 13, 3) := by decide +kernel
theorem dX5_start_39 : decode cX5_start 39 = .ok (.iload 4, 2) := by decide +kernel
theorem dX5_start_41 : decode cX5_start 41 = .ok (.aaload, 1) := by decide +kernel
theorem dX5_start_42 : decode cX5_start 42 = .ok (.bipush 24, 2) := by decide +kernel
theorem dX5_start_44 : decode cX5_start 44 = .ok (.ldc2_w 34, 3) := by decide +kernel
theorem dX5_start_47 : decode cX5_start 47 = .ok (.lastore, 1) := by decide +kernel
theorem dX5_start_48 : decode cX5_start 48 = .ok (.aload_n 0, 1) := by decide +kernel
theorem dX5_start_49 : decode cX5_start 49 = .ok (.getfield 13, 3) := by decide +kernel
theorem dX5_start_52 : decode cX5_start 52 = .ok (.iload 4, 2) := by decide +kernel
theorem dX5_start_54 : decode cX5_start 54 = .ok (.aaload, 1) := by decide +kernel
theorem dX5_start_55 : decode cX5_start 55 = .ok (.bipush 25, 2) := by decide +kernel

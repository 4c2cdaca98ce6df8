theorem dX6_leastNumerator_0 : decode cX6_leastNumerator 0 = .ok (.aload_n 0, 1) := by decide +kernel
theorem dX6_leastNumerator_1 : decode cX6_leastNumerator 1 = .ok (.invokevirtual 104, 3) := by decide +kernel
theorem dX6_leastNumerator_4 : decode cX6_leastNumerator 4 = .ok (.aload_n 0, 1) := by decide +kernel
theorem dX6_leastNumerator_5 : decode cX6_leastNumerator 5 = .ok (.getfield 33, 3) := by decide +kernel
theorem dX6_leastNumerator_8 : decode cX6_leastNumerator 8 = .ok (.getfield 120, 3) := by decide +kernel
theorem dX6_leastNumerator_11 : decode cX6_leastNumerator 11 = .ok (.ireturn, 1) := by decide +kernel
set_option maxRecDepth 20000 in
theorem ggX6_leastDenominator_X6_refreshDivision : GoodIn wsX6_leastDenominator wsX6_refreshDivision := goodIn_r _ [6, 7, 1, 8, 9, 10, 11, 12, 13, 14, 15, 16, 17, 18, 19, 20, 21, 22, 23, 24, 25, 26, 27, 28, 29, 30, 31, 32, 33, 34, 35, 36, 37, 38, 39, 40, 41, 42, 43, 44, 45, 46, 47, 48, 49, 50, 51, 52, 53, 54, 55, 56, 57, 58, 59, 60, 61, 62, 63, 64, 65, 66, 67, 68, 69, 70, 71, 72, 73, 74, 75, 76, 77, 78, 79, 80, 81, 82, 83, 84, 85, 86, 87, 88, 89, 90, 91, 92, 93, 94, 95, 96, 97, 98, 99, 100, 101, 102, 103, 104, 105, 106, 107, 108, 109, 110, 111, 112, 113, 114, 115, 116, 117, 118, 119, 120, 121, 122, 123, 124, 125, 126, 127, 128, 129, 130, 131, 132, 133, 134, 135, 136, 137, 138, 139, 140, 141, 142, 143, 144, 145, 146] (by decide +kernel) (by decide +kernel)
set_option maxRecDepth 20000 in
theorem gX6_leastDenominator_X6_refreshDivision : GoodIn wsX6_leastDenominator (wsV RX6 104 RX6 yX6_refreshDivision wsX6_refreshDivision) := goodIn_app (goodIn_of _ (by decide +kernel)) ggX6_leastDenominator_X6_refreshDivision
theorem dX6_leastDenominator_0 : decode cX6_leastDenominator 0 = .ok (.aload_n 0, 1) := by decide +kernel
theorem dX6_leastDenominator_1 : decode cX6_leastDenominator 1 = .ok (.invokevirtual 104, 3) := by decide +kernel
theorem dX6_leastDenominator_4 : decode cX6_leastDenominator 4 = .ok (.aload_n 0, 1) := by decide +kernel
theorem dX6_leastDenominator_5 : decode cX6_leastDenominator 5 = .ok (.getfield 33, 3) := by decide +kernel
theorem dX6_leastDenominator_8 : decode cX6_leastDenominator 8 = .ok (.getfield 123, 3) := by decide +kernel
theorem dX6_leastDenominator_11 : decode cX6_leastDenominator 11 = .ok (.ireturn, 1) := by decide +kernel
set_option maxRecDepth 20000 in
theorem ggX6_roundedMachine_X6_requireJob : GoodIn wsX6_roundedMachine wsX6_requireJob := goodIn_ca (goodIn_r _ [6, 7, 8, 9, 132, 133, 134, 135, 136, 137, 138, 140, 141] (by decide +kernel) (by decide +kernel)) (goodIn_sub (fun _ h => List.mem_cons_of_mem _ (List.mem_append_right _ h)) (by decide +kernel))
set_option maxRecDepth 20000 in
theorem gX6_roundedMachine_X6_requireJob : GoodIn wsX6_roundedMachine (wsV RX6 76 RX6 yX6_requireJob wsX6_requireJob) := goodIn_app (goodIn_of _ (by decide +kernel)) ggX6_roundedMachine_X6_requireJob
set_option maxRecDepth 20000 in
theorem ggX6_roundedMachine_X6_refreshDivision : GoodIn wsX6_roundedMachine wsX6_refreshDivision := goodIn_r _ [13, 14, 15, 9, 1, 16, 17, 18, 19, 20, 21, 22, 23, 24, 25, 26, 27, 28, 29, 30, 31, 32, 33, 34, 35, 36, 37, 38, 39, 40, 41, 42, 43, 44, 45, 46, 47, 48, 49, 50, 51, 52, 53, 54, 55, 56, 57, 58, 59, 60, 61, 62, 63, 64, 65, 66, 67, 68, 69, 70, 71, 72, 73, 74, 75, 76, 77, 78, 79, 80, 81, 82, 83, 84, 85, 86, 87, 88, 89, 90, 91, 92, 93, 94, 95, 96, 97, 98, 99, 100, 101, 102, 103, 104, 105, 106, 107, 108, 109, 110, 111, 112, 113, 114, 115, 116, 117, 118, 119, 120, 121, 122, 123, 124, 125, 126, 127, 128, 129, 130, 131, 132, 133, 134, 135, 136, 137, 138, 142, 143, 144, 145, 146, 147, 148, 149, 150, 151, 152, 140, 141, 139] (by decide +kernel) (by decide +kernel)
set_option maxRecDepth 20000 in
theorem gX6_roundedMachine_X6_refreshDivision : GoodIn wsX6_roundedMachine (wsV RX6 104 RX6 yX6_refreshDivision wsX6_refreshDivision) := goodIn_app (goodIn_of _ (by decide +kernel)) ggX6_roundedMachine_X6_refreshDivision
theorem dX6_roundedMachine_0 : decode cX6_roundedMachine 0 = .ok (.aload_n 0, 1) := by decide +kernel
theorem dX6_roundedMachine_1 : decode cX6_roundedMachine 1 = .ok (.iload_n 1, 1) := by decide +kernel
theorem dX6_roundedMachine_2 : decode cX6_roundedMachine 2 = .ok (.invokevirtual 76, 3) := by decide +kernel
theorem dX6_roundedMachine_5 : decode cX6_roundedMachine 5 = .ok (.aload_n 0, 1) := by decide +kernel
theorem dX6_roundedMachine_6 : decode cX6_roundedMachine 6 = .ok (.invokevirtual 104, 3) := by decide +kernel
theorem dX6_roundedMachine_9 : decode cX6_roundedMachine 9 = .ok (.aload_n 0, 1) := by decide +kernel
theorem dX6_roundedMachine_10 : decode cX6_roundedMachine 10 = .ok (.getfield 40, 3) := by decide +kernel
theorem dX6_roundedMachine_13 : decode cX6_roundedMachine 13 = .ok (.getfield 126, 3) := by decide +kernel
theorem dX6_roundedMachine_16 : decode cX6_roundedMachine 16 = .ok (.iload_n 1, 1) := by decide +kernel
theorem dX6_roundedMachine_17 : decode cX6_roundedMachine 17 = .ok (.iaload, 1) := by decide +kernel
theorem dX6_roundedMachine_18 : decode cX6_roundedMachine 18 = .ok (.ireturn, 1) := by decide +kernel
set_option maxRecDepth 20000 in
theorem ggX6_roundedLength_X6_refreshDivision : GoodIn wsX6_roundedLength wsX6_refreshDivision := goodIn_r _ [7, 8, 9, 1, 2, 10, 11, 12, 13, 14, 15, 16, 17, 18, 19, 20, 21, 22, 23, 24, 25, 26, 27, 28, 29, 30, 31, 32, 33, 34, 35, 36, 37, 38, 39, 40, 41, 42, 43, 44, 45, 46, 47, 48, 49, 50, 51, 52, 53, 54, 55, 56, 57, 58, 59, 60, 61, 62, 63, 64, 65, 66, 67, 68, 69, 70, 71, 72, 73, 74, 75, 76, 77, 78, 79, 80, 81, 82, 83, 84, 85, 86, 87, 88, 89, 90, 91, 92, 93, 94, 95, 96, 97, 98, 99, 100, 101, 102, 103, 104, 105, 106, 107, 108, 109, 110, 111, 112, 113, 114, 115, 116, 117, 118, 119, 120, 121, 122, 123, 124, 125, 138, 139, 140, 141, 142, 143, 144, 146, 147, 148, 149, 150, 151, 152, 153, 154, 155, 156, 157, 158, 145] (by decide +kernel) (by decide +kernel)
set_option maxRecDepth 20000 in
theorem gX6_roundedLength_X6_refreshDivision : GoodIn wsX6_roundedLength (wsV RX6 104 RX6 yX6_refreshDivision wsX6_refreshDivision) := goodIn_app (goodIn_of _ (by decide +kernel)) ggX6_roundedLength_X6_refreshDivision
set_option maxRecDepth 20000 in
theorem ggX6_roundedLength_X1_greatestLoad : GoodIn wsX6_roundedLength wsX1_greatestLoad := goodIn_r _ [129, 130, 131, 38, 132, 133, 134, 135, 49, 136, 51, 137, 47, 48, 50, 52, 157, 158] (by decide +kernel) (by decide +kernel)
set_option maxRecDepth 20000 in
theorem gX6_roundedLength_X1_greatestLoad : GoodIn wsX6_roundedLength (wsV RX6 127 RX1 yX1_greatestLoad wsX1_greatestLoad) := goodIn_app (goodIn_of _ (by decide +kernel)) ggX6_roundedLength_X1_greatestLoad
theorem dX6_roundedLength_0 : decode cX6_roundedLength 0 = .ok (.aload_n 0, 1) := by decide +kernel
theorem dX6_roundedLength_1 : decode cX6_roundedLength 1 = .ok (.invokevirtual 104, 3) := by decide +kernel
theorem dX6_roundedLength_4 : decode cX6_roundedLength 4 = .ok (.aload_n 0, 1) := by decide +kernel
theorem dX6_roundedLength_5 : decode cX6_roundedLength 5 = .ok (.getfield 12, 3) := by decide +kernel
theorem dX6_roundedLength_8 : decode cX6_roundedLength 8 = .ok (.aload_n 0, 1) := by decide +kernel
theorem dX6_roundedLength_9 : decode cX6_roundedLength 9 = .ok (.getfield 40, 3) := by decide +kernel
theorem dX6_roundedLength_12 : decode cX6_roundedLength 12 = .ok (.getfield 126, 3) := by decide +kernel
theorem dX6_roundedLength_15 : decode cX6_roundedLength 15 = .ok (.invokevirtual 127, 3) := by decide +kernel
theorem dX6_roundedLength_18 : decode cX6_roundedLength 18 = .ok (.ireturn, 1) := by decide +kernel
set_option maxRecDepth 20000 in
theorem ggX6_excess_X6_refreshSearch : GoodIn wsX6_excess wsX6_refreshSearch := goodIn_r _ [8, 9, 1, 2, 10, 11, 12, 13, 14, 15, 16, 17, 18, 19, 20, 21, 22, 23, 24, 25, 26, 27, 28, 29, 30, 31, 32, 33, 34, 35, 36, 37, 38, 39, 40, 41, 42, 43, 44, 170, 171, 172, 173, 174, 175, 176, 177, 178, 179, 180, 182, 183] (by decide +kernel) (by decide +kernel)
set_option maxRecDepth 20000 in
theorem gX6_excess_X6_refreshSearch : GoodIn wsX6_excess (wsV RX6 91 RX6 yX6_refreshSearch wsX6_refreshSearch) := goodIn_app (goodIn_of _ (by decide +kernel)) ggX6_excess_X6_refreshSearch
set_option maxRecDepth 20000 in
theorem ggX6_excess_X6_refreshDivision : GoodIn wsX6_excess wsX6_refreshDivision := goodIn_r _ [48, 49, 50, 2, 3, 51, 52, 53, 54, 55, 56, 57, 58, 59, 60, 61, 62, 63, 64, 65, 66, 67, 68, 69, 70, 71, 72, 73, 74, 75, 76, 77, 78, 31, 79, 80, 81, 82, 83, 84, 85, 86, 39, 40, 41, 42, 43, 44, 87, 88, 89, 90, 91, 92, 93, 94, 95, 96, 97, 98, 99, 100, 101, 102, 103, 104, 105, 106, 107, 108, 109, 110, 111, 112, 113, 114, 115, 116, 117, 118, 119, 120, 121, 122, 123, 124, 125, 126, 127, 128, 129, 130, 131, 132, 133, 134, 135, 136, 137, 138, 139, 140, 141, 142, 143, 144, 145, 146, 147, 148, 149, 150, 151, 152, 153, 154, 155, 156, 157, 158, 159, 170, 171, 172, 173, 174, 175, 176, 184, 185, 186, 187, 188, 189, 190, 191, 192, 193, 194, 182, 183, 181] (by decide +kernel) (by decide +kernel)
set_option maxRecDepth 20000 in
theorem gX6_excess_X6_refreshDivision : GoodIn wsX6_excess (wsV RX6 104 RX6 yX6_refreshDivision wsX6_refreshDivision) := goodIn_app (goodIn_of _ (by decide +kernel)) ggX6_excess_X6_refreshDivision
set_option maxRecDepth 20000 in
theorem ggX6_excess_X1_greatestLoad : GoodIn wsX6_excess wsX1_greatestLoad := goodIn_r _ [163, 164, 30, 31, 32, 165, 166, 167, 41, 168, 43, 169, 39, 40, 42, 44, 182, 183] (by decide +kernel) (by decide +kernel)
set_option maxRecDepth 20000 in
theorem gX6_excess_X1_greatestLoad : GoodIn wsX6_excess (wsV RX6 127 RX1 yX1_greatestLoad wsX1_greatestLoad) := goodIn_app (goodIn_of _ (by decide +kernel)) ggX6_excess_X1_greatestLoad
theorem dX6_excess_0 : decode cX6_excess 0 = .ok (.aload_n 0, 1) := by decide +kernel
theorem dX6_excess_1 : decode cX6_excess 1 = .ok (.invokevirtual 91, 3) := by decide +kernel
theorem dX6_excess_4 : decode cX6_excess 4 = .ok (.aload_n 0, 1) := by decide +kernel
theorem dX6_excess_5 : decode cX6_excess 5 = .ok (.invokevirtual 104, 3) := by decide +kernel
theorem dX6_excess_8 : decode cX6_excess 8 = .ok (.aload_n 0, 1) := by decide +kernel
theorem dX6_excess_9 : decode cX6_excess 9 = .ok (.getfield 26, 3) := by decide +kernel
theorem dX6_excess_12 : decode cX6_excess 12 = .ok (.getfield 94, 3) := by decide +kernel
theorem dX6_excess_15 : decode cX6_excess 15 = .ok (.ifCond .ne 5, 3) := by decide +kernel
theorem dX6_excess_18 : decode cX6_excess 18 = .ok (.fconst 1, 1) := by decide +kernel
theorem dX6_excess_19 : decode cX6_excess 19 = .ok (.freturn, 1) := by decide +kernel
theorem dX6_excess_20 : decode cX6_excess 20 = .ok (.aload_n 0, 1) := by decide +kernel
theorem dX6_excess_21 : decode cX6_excess 21 = .ok (.getfield 12, 3) := by decide +kernel
theorem dX6_excess_24 : decode cX6_excess 24 = .ok (.aload_n 0, 1) := by decide +kernel
theorem dX6_excess_25 : decode cX6_excess 25 = .ok (.getfield 40, 3) := by decide +kernel
theorem dX6_excess_28 : decode cX6_excess 28 = .ok (.getfield 126, 3) := by decide +kernel
theorem dX6_excess_31 : decode cX6_excess 31 = .ok (.invokevirtual 127, 3) := by decide +kernel
theorem dX6_excess_34 : decode cX6_excess 34 = .ok (.i2f, 1) := by decide +kernel
theorem dX6_excess_35 : decode cX6_excess 35 = .ok (.aload_n 0, 1) := by decide +kernel
theorem dX6_excess_36 : decode cX6_excess 36 = .ok (.getfield 26, 3) := by decide +kernel
theorem dX6_excess_39 : decode cX6_excess 39 = .ok (.getfield 94, 3) := by decide +kernel
theorem dX6_excess_42 : decode cX6_excess 42 = .ok (.i2f, 1) := by decide +kernel
theorem dX6_excess_43 : decode cX6_excess 43 = .ok (.fdiv, 1) := by decide +kernel
theorem dX6_excess_44 : decode cX6_excess 44 = .ok (.freturn, 1) := by decide +kernel
set_option maxRecDepth 20000 in
theorem ggX6_assign_X6_requireJob : GoodIn wsX6_assign wsX6_requireJob := goodIn_ca (goodIn_r _ [9, 10, 11, 3, 22, 23, 24, 25, 26, 27, 28, 34, 35] (by decide +kernel) (by decide +kernel)) (goodIn_sub (fun _ h => List.mem_cons_of_mem _ (List.mem_append_right _ h)) (by decide +kernel))
set_option maxRecDepth 20000 in
theorem gX6_assign_X6_requireJob : GoodIn wsX6_assign (wsV RX6 76 RX6 yX6_requireJob wsX6_requireJob) := goodIn_app (goodIn_of _ (by decide +kernel)) ggX6_assign_X6_requireJob
set_option maxRecDepth 20000 in
theorem ggX6_assign_X6_requireMachine : GoodIn wsX6_assign wsX6_requireMachine := goodIn_ca (goodIn_r _ [14, 10, 11] (by decide +kernel) (by decide +kernel)) (goodIn_sub (fun _ h => List.mem_cons_of_mem _ (List.mem_append_right _ h)) (by decide +kernel))
set_option maxRecDepth 20000 in
theorem gX6_assign_X6_requireMachine : GoodIn wsX6_assign (va_wsS RX6 80 yX6_requireMachine wsX6_requireMachine) := goodIn_app (goodIn_of _ (by decide +kernel)) ggX6_assign_X6_requireMachine
set_option maxRecDepth 20000 in
theorem ggX6_assign_X1_timeOn : GoodIn wsX6_assign wsX1_timeOn := goodIn_r _ [19, 20, 21, 34, 35] (by decide +kernel) (by decide +kernel)
set_option maxRecDepth 20000 in
theorem gX6_assign_X1_timeOn : GoodIn wsX6_assign (wsV RX6 87 RX1 yX1_timeOn wsX1_timeOn) := goodIn_app (goodIn_of _ (by decide +kernel)) ggX6_assign_X1_timeOn
theorem dX6_assign_0 : decode cX6_assign 0 = .ok (.aload_n 0, 1) := by decide +kernel
theorem dX6_assign_1 : decode cX6_assign 1 = .ok (.iload_n 1, 1) := by decide +kernel
theorem dX6_assign_2 : decode cX6_assign 2 = .ok (.invokevirtual 76, 3) := by decide +kernel
theorem dX6_assign_5 : decode cX6_assign 5 = .ok (.iload_n 2, 1) := by decide +kernel
theorem dX6_assign_6 : decode cX6_assign 6 = .ok (.invokestatic 80, 3) := by decide +kernel
theorem dX6_assign_9 : decode cX6_assign 9 = .ok (.aload_n 0, 1) := by decide +kernel
theorem dX6_assign_10 : decode cX6_assign 10 = .ok (.getfield 12, 3) := by decide +kernel
theorem dX6_assign_13 : decode cX6_assign 13 = .ok (.iload_n 1, 1) := by decide +kernel
theorem dX6_assign_14 : decode cX6_assign 14 = .ok (.iload_n 2, 1) := by decide +kernel
theorem dX6_assign_15 : decode cX6_assign 15 = .ok (.invokevirtual 87, 3) := by decide +kernel
theorem dX6_assign_18 : decode cX6_assign 18 = .ok (.ifCond .ne 13, 3) := by decide +kernel
theorem dX6_assign_21 : decode cX6_assign 21 = .ok (.new 61, 3) := by decide +kernel
theorem dX6_assign_24 : decode cX6_assign 24 = .ok (.dup, 1) := by decide +kernel
theorem dX6_assign_25 : decode cX6_assign 25 = .ok (.ldc 131, 2) := by decide +kernel
theorem dX6_assign_27 : decode cX6_assign 27 = .ok (.invokespecial 65, 3) := by decide +kernel
theorem dX6_assign_30 : decode cX6_assign 30 = .ok (.athrow, 1) := by decide +kernel
theorem dX6_assign_31 : decode cX6_assign 31 = .ok (.aload_n 0, 1) := by decide +kernel
theorem dX6_assign_32 : decode cX6_assign 32 = .ok (.getfield 19, 3) := by decide +kernel
theorem dX6_assign_35 : decode cX6_assign 35 = .ok (.getfield 70, 3) := by decide +kernel
theorem dX6_assign_38 : decode cX6_assign 38 = .ok (.iload_n 1, 1) := by decide +kernel
theorem dX6_assign_39 : decode cX6_assign 39 = .ok (.iaload, 1) := by decide +kernel
theorem dX6_assign_40 : decode cX6_assign 40 = .ok (.istore_n 3, 1) := by decide +kernel
theorem dX6_assign_41 : decode cX6_assign 41 = .ok (.aload_n 0, 1) := by decide +kernel
theorem dX6_assign_42 : decode cX6_assign 42 = .ok (.getfield 19, 3) := by decide +kernel
theorem dX6_assign_45 : decode cX6_assign 45 = .ok (.getfield 70, 3) := by decide +kernel
theorem dX6_assign_48 : decode cX6_assign 48 = .ok (.iload_n 1, 1) := by decide +kernel
theorem dX6_assign_49 : decode cX6_assign 49 = .ok (.iload_n 2, 1) := by decide +kernel
theorem dX6_assign_50 : decode cX6_assign 50 = .ok (.iastore, 1) := by decide +kernel
theorem dX6_assign_51 : decode cX6_assign 51 = .ok (.iload_n 3, 1) := by decide +kernel
theorem dX6_assign_52 : decode cX6_assign 52 = .ok (.ireturn, 1) := by decide +kernel
set_option maxRecDepth 20000 in
theorem ggX6_machine_X6_requireJob : GoodIn wsX6_machine wsX6_requireJob := goodIn_ca (goodIn_r _ [6, 7, 8, 9, 10, 11, 12, 13, 14, 15, 16, 22, 23] (by decide +kernel) (by decide +kernel)) (goodIn_sub (fun _ h => List.mem_cons_of_mem _ (List.mem_append_right _ h)) (by decide +kernel))
set_option maxRecDepth 20000 in
theorem gX6_machine_X6_requireJob : GoodIn wsX6_machine (wsV RX6 76 RX6 yX6_requireJob wsX6_requireJob) := goodIn_app (goodIn_of _ (by decide +kernel)) ggX6_machine_X6_requireJob
theorem dX6_machine_0 : decode cX6_machine 0 = .ok (.aload_n 0, 1) := by decide +kernel
theorem dX6_machine_1 : decode cX6_machine 1 = .ok (.iload_n 1, 1) := by decide +kernel
theorem dX6_machine_2 : decode cX6_machine 2 = .ok (.invokevirtual 76, 3) := by decide +kernel
theorem dX6_machine_5 : decode cX6_machine 5 = .ok (.aload_n 0, 1) := by decide +kernel
theorem dX6_machine_6 : decode cX6_machine 6 = .ok (.getfield 19, 3) := by decide +kernel
theorem dX6_machine_9 : decode cX6_machine 9 = .ok (.getfield 70, 3) := by decide +kernel
theorem dX6_machine_12 : decode cX6_machine 12 = .ok (.iload_n 1, 1) := by decide +kernel
theorem dX6_machine_13 : decode cX6_machine 13 = .ok (.iaload, 1) := by decide +kernel
theorem dX6_machine_14 : decode cX6_machine 14 = .ok (.ireturn, 1) := by decide +kernel
set_option maxRecDepth 20000 in
theorem ggX6_load_X6_requireMachine : GoodIn wsX6_load wsX6_requireMachine := goodIn_ca (goodIn_r _ [6, 7, 8] (by decide +kernel) (by decide +kernel)) (goodIn_sub (fun _ h => List.mem_cons_of_mem _ (List.mem_append_right _ h)) (by decide +kernel))
set_option maxRecDepth 20000 in
theorem gX6_load_X6_requireMachine : GoodIn wsX6_load (va_wsS RX6 80 yX6_requireMachine wsX6_requireMachine) := goodIn_app (goodIn_of _ (by decide +kernel)) ggX6_load_X6_requireMachine
set_option maxRecDepth 20000 in
theorem ggX6_load_X1_loadOn : GoodIn wsX6_load wsX1_loadOn := goodIn_r _ [13, 14, 15, 16, 17, 12, 18, 19, 32, 33] (by decide +kernel) (by decide +kernel)
set_option maxRecDepth 20000 in
theorem gX6_load_X1_loadOn : GoodIn wsX6_load (wsV RX6 133 RX1 yX1_loadOn wsX1_loadOn) := goodIn_app (goodIn_of _ (by decide +kernel)) ggX6_load_X1_loadOn
theorem dX6_load_0 : decode cX6_load 0 = .ok (.iload_n 1, 1) := by decide +kernel
theorem dX6_load_1 : decode cX6_load 1 = .ok (.invokestatic 80, 3) := by decide +kernel
theorem dX6_load_4 : decode cX6_load 4 = .ok (.aload_n 0, 1) := by decide +kernel
theorem dX6_load_5 : decode cX6_load 5 = .ok (.getfield 12, 3) := by decide +kernel
theorem dX6_load_8 : decode cX6_load 8 = .ok (.aload_n 0, 1) := by decide +kernel
theorem dX6_load_9 : decode cX6_load 9 = .ok (.getfield 19, 3) := by decide +kernel
theorem dX6_load_12 : decode cX6_load 12 = .ok (.getfield 70, 3) := by decide +kernel
theorem dX6_load_15 : decode cX6_load 15 = .ok (.iload_n 1, 1) := by decide +kernel
theorem dX6_load_16 : decode cX6_load 16 = .ok (.invokevirtual 133, 3) := by decide +kernel
theorem dX6_load_19 : decode cX6_load 19 = .ok (.ireturn, 1) := by decide +kernel
set_option maxRecDepth 20000 in
theorem ggX6_length_X1_greatestLoad : GoodIn wsX6_length wsX1_greatestLoad := goodIn_r _ [7, 8, 9, 10, 11, 12, 13, 14, 6, 15, 16, 17, 18, 19, 20, 21, 34, 35] (by decide +kernel) (by decide +kernel)
set_option maxRecDepth 20000 in
theorem gX6_length_X1_greatestLoad : GoodIn wsX6_length (wsV RX6 127 RX1 yX1_greatestLoad wsX1_greatestLoad) := goodIn_app (goodIn_of _ (by decide +kernel)) ggX6_length_X1_greatestLoad
theorem dX6_length_0 : decode cX6_length 0 = .ok (.aload_n 0, 1) := by decide +kernel
theorem dX6_length_1 : decode cX6_length 1 = .ok (.getfield 12, 3) := by decide +kernel
theorem dX6_length_4 : decode cX6_length 4 = .ok (.aload_n 0, 1) := by decide +kernel
theorem dX6_length_5 : decode cX6_length 5 = .ok (.getfield 19, 3) := by decide +kernel
theorem dX6_length_8 : decode cX6_length 8 = .ok (.getfield 70, 3) := by decide +kernel
theorem dX6_length_11 : decode cX6_length 11 = .ok (.invokevirtual 127, 3) := by decide +kernel
theorem dX6_length_14 : decode cX6_length 14 = .ok (.ireturn, 1) := by decide +kernel
set_option maxRecDepth 20000 in
theorem ggX6_improve_X2_makeBestChange : GoodIn wsX6_improve wsX2_makeBestChange := goodIn_r _ [7, 8, 9, 10, 11, 12, 13, 14, 15, 6, 16, 17, 18, 19, 20, 21, 22, 23, 24, 25, 26, 27, 28, 29, 30, 31, 32, 33, 34, 35, 36, 37, 38, 39, 40, 41, 42, 43, 44, 45, 46, 47, 48, 49, 50, 51, 65, 66, 67, 68, 69, 70, 71] (by decide +kernel) (by decide +kernel)
set_option maxRecDepth 20000 in
theorem gX6_improve_X2_makeBestChange : GoodIn wsX6_improve (wsV RX6 137 RX2 yX2_makeBestChange wsX2_makeBestChange) := goodIn_app (goodIn_of _ (by decide +kernel)) ggX6_improve_X2_makeBestChange
set_option maxRecDepth 20000 in
theorem ggX6_improve_X1_greatestLoad : GoodIn wsX6_improve wsX1_greatestLoad := goodIn_r _ [55, 56, 18, 19, 20, 57, 25, 26, 27, 28, 29, 30, 31, 32, 33, 34, 70, 71] (by decide +kernel) (by decide +kernel)
set_option maxRecDepth 20000 in
theorem gX6_improve_X1_greatestLoad : GoodIn wsX6_improve (wsV RX6 127 RX1 yX1_greatestLoad wsX1_greatestLoad) := goodIn_app (goodIn_of _ (by decide +kernel)) ggX6_improve_X1_greatestLoad
theorem dX6_improve_0 : decode cX6_improve 0 = .ok (.aload_n 0, 1) := by decide +kernel
theorem dX6_improve_1 : decode cX6_improve 1 = .ok (.getfield 19, 3) := by decide +kernel
theorem dX6_improve_4 : decode cX6_improve 4 = .ok (.aload_n 0, 1) := by decide +kernel
theorem dX6_improve_5 : decode cX6_improve 5 = .ok (.getfield 12, 3) := by decide +kernel
theorem dX6_improve_8 : decode cX6_improve 8 = .ok (.invokevirtual 137, 3) := by decide +kernel
theorem dX6_improve_11 : decode cX6_improve 11 = .ok (.ifCond .eq 20, 3) := by decide +kernel
theorem dX6_improve_14 : decode cX6_improve 14 = .ok (.aload_n 0, 1) := by decide +kernel
theorem dX6_improve_15 : decode cX6_improve 15 = .ok (.getfield 12, 3) := by decide +kernel
theorem dX6_improve_18 : decode cX6_improve 18 = .ok (.aload_n 0, 1) := by decide +kernel
theorem dX6_improve_19 : decode cX6_improve 19 = .ok (.getfield 19, 3) := by decide +kernel
theorem dX6_improve_22 : decode cX6_improve 22 = .ok (.getfield 70, 3) := by decide +kernel
theorem dX6_improve_25 : decode cX6_improve 25 = .ok (.invokevirtual 127, 3) := by decide +kernel
theorem dX6_improve_28 : decode cX6_improve 28 = .ok (.goto 4, 3) := by decide +kernel
theorem dX6_improve_31 : decode cX6_improve 31 = .ok (.iconst (-1), 1) := by decide +kernel
theorem dX6_improve_32 : decode cX6_improve 32 = .ok (.ireturn, 1) := by decide +kernel
set_option maxRecDepth 20000 in
theorem ggX6_takeRounded_X6_refreshDivision : GoodIn wsX6_takeRounded wsX6_refreshDivision := goodIn_r _ [8, 9, 10, 1, 3, 11, 12, 13, 14, 15, 16, 17, 18, 19, 20, 21, 22, 23, 24, 25, 26, 27, 28, 29, 30, 31, 32, 33, 34, 35, 36, 37, 38, 39, 40, 41, 42, 43, 44, 45, 46, 47, 48, 49, 50, 51, 52, 53, 54, 55, 56, 57, 58, 59, 60, 61, 62, 63, 64, 65, 66, 67, 68, 69, 70, 71, 72, 73, 74, 75, 76, 77, 78, 79, 80, 81, 82, 83, 84, 85, 86, 87, 88, 89, 90, 91, 92, 93, 94, 95, 96, 97, 98, 99, 100, 101, 102, 103, 104, 105, 106, 107, 108, 109, 110, 111, 112, 113, 114, 115, 116, 117, 118, 119, 120, 121, 122, 123, 124, 125, 126, 127, 128, 129, 130, 131, 132, 133, 142, 143, 144, 145, 146, 147, 148, 149, 150, 151, 152, 134, 135, 141] (by decide +kernel) (by decide +kernel)
set_option maxRecDepth 20000 in
theorem gX6_takeRounded_X6_refreshDivision : GoodIn wsX6_takeRounded (wsV RX6 104 RX6 yX6_refreshDivision wsX6_refreshDivision) := goodIn_app (goodIn_of _ (by decide +kernel)) ggX6_takeRounded_X6_refreshDivision
theorem dX6_takeRounded_0 : decode cX6_takeRounded 0 = .ok (.aload_n 0, 1) := by decide +kernel
theorem dX6_takeRounded_1 : decode cX6_takeRounded 1 = .ok (.invokevirtual 104, 3) := by decide +kernel
theorem dX6_takeRounded_4 : decode cX6_takeRounded 4 = .ok (.iconst 0, 1) := by decide +kernel
theorem dX6_takeRounded_5 : decode cX6_takeRounded 5 = .ok (.istore_n 1, 1) := by decide +kernel
theorem dX6_takeRounded_6 : decode cX6_takeRounded 6 = .ok (.iconst 0, 1) := by decide +kernel
theorem dX6_takeRounded_7 : decode cX6_takeRounded 7 = .ok (.istore_n 2, 1) := by decide +kernel
theorem dX6_takeRounded_8 : decode cX6_takeRounded 8 = .ok (.iload_n 2, 1) := by decide +kernel
theorem dX6_takeRounded_9 : decode cX6_takeRounded 9 = .ok (.aload_n 0, 1) := by decide +kernel
theorem dX6_takeRounded_10 : decode cX6_takeRounded 10 = .ok (.getfield 12, 3) := by decide +kernel
theorem dX6_takeRounded_13 : decode cX6_takeRounded 13 = .ok (.getfield 57, 3) := by decide +kernel
theorem dX6_takeRounded_16 : decode cX6_takeRounded 16 = .ok (.if_icmp .ge 57, 3) := by decide +kernel
theorem dX6_takeRounded_19 : decode cX6_takeRounded 19 = .ok (.iload_n 2, 1) := by decide +kernel
theorem dX6_takeRounded_20 : decode cX6_takeRounded 20 = .ok (.bipush 7, 2) := by decide +kernel
theorem dX6_takeRounded_22 : decode cX6_takeRounded 22 = .ok (.if_icmp .ge 51, 3) := by decide +kernel
theorem dX6_takeRounded_25 : decode cX6_takeRounded 25 = .ok (.aload_n 0, 1) := by decide +kernel
theorem dX6_takeRounded_26 : decode cX6_takeRounded 26 = .ok (.getfield 19, 3) := by decide +kernel
theorem dX6_takeRounded_29 : decode cX6_takeRounded 29 = .ok (.getfield 70, 3) := by decide +kernel
theorem dX6_takeRounded_32 : decode cX6_takeRounded 32 = .ok (.iload_n 2, 1) := by decide +kernel
theorem dX6_takeRounded_33 : decode cX6_takeRounded 33 = .ok (.iaload, 1) := by decide +kernel
theorem dX6_takeRounded_34 : decode cX6_takeRounded 34 = .ok (.aload_n 0, 1) := by decide +kernel
theorem dX6_takeRounded_35 : decode cX6_takeRounded 35 = .ok (.getfield 40, 3) := by decide +kernel
theorem dX6_takeRounded_38 : decode cX6_takeRounded 38 = .ok (.getfield 126, 3) := by decide +kernel
theorem dX6_takeRounded_41 : decode cX6_takeRounded 41 = .ok (.iload_n 2, 1) := by decide +kernel
theorem dX6_takeRounded_42 : decode cX6_takeRounded 42 = .ok (.iaload, 1) := by decide +kernel
theorem dX6_takeRounded_43 : decode cX6_takeRounded 43 = .ok (.if_icmp .eq 24, 3) := by decide +kernel
theorem dX6_takeRounded_46 : decode cX6_takeRounded 46 = .ok (.aload_n 0, 1) := by decide +kernel
theorem dX6_takeRounded_47 : decode cX6_takeRounded 47 = .ok (.getfield 19, 3) := by decide +kernel
theorem dX6_takeRounded_50 : decode cX6_takeRounded 50 = .ok (.getfield 70, 3) := by decide +kernel
theorem dX6_takeRounded_53 : decode cX6_takeRounded 53 = .ok (.iload_n 2, 1) := by decide +kernel
theorem dX6_takeRounded_54 : decode cX6_takeRounded 54 = .ok (.aload_n 0, 1) := by decide +kernel
theorem dX6_takeRounded_55 : decode cX6_takeRounded 55 = .ok (.getfield 40, 3) := by decide +kernel
theorem dX6_takeRounded_58 : decode cX6_takeRounded 58 = .ok (.getfield 126, 3) := by decide +kernel
theorem dX6_takeRounded_61 : decode cX6_takeRounded 61 = .ok (.iload_n 2, 1) := by decide +kernel
theorem dX6_takeRounded_62 : decode cX6_takeRounded 62 = .ok (.iaload, 1) := by decide +kernel
theorem dX6_takeRounded_63 : decode cX6_takeRounded 63 = .ok (.iastore, 1) := by decide +kernel
theorem dX6_takeRounded_64 : decode cX6_takeRounded 64 = .ok (.iinc 1 1, 3) := by decide +kernel
theorem dX6_takeRounded_67 : decode cX6_takeRounded 67 = .ok (.iinc 2 1, 3) := by decide +kernel
theorem dX6_takeRounded_70 : decode cX6_takeRounded 70 = .ok (.goto (-62), 3) := by decide +kernel
theorem dX6_takeRounded_73 : decode cX6_takeRounded 73 = .ok (.iload_n 1, 1) := by decide +kernel
theorem dX6_takeRounded_74 : decode cX6_takeRounded 74 = .ok (.ireturn, 1) := by decide +kernel
theorem dX6_isTime_0 : decode cX6_isTime 0 = .ok (.iload_n 0, 1) := by decide +kernel
theorem dX6_isTime_1 : decode cX6_isTime 1 = .ok (.ifCond .lt 13, 3) := by decide +kernel
theorem dX6_isTime_4 : decode cX6_isTime 4 = .ok (.iload_n 0, 1) := by decide +kernel
theorem dX6_isTime_5 : decode cX6_isTime 5 = .ok (.bipush 50, 2) := by decide +kernel
theorem dX6_isTime_7 : decode cX6_isTime 7 = .ok (.if_icmp .gt 7, 3) := by decide +kernel
theorem dX6_isTime_10 : decode cX6_isTime 10 = .ok (.iconst 1, 1) := by decide +kernel
theorem dX6_isTime_11 : decode cX6_isTime 11 = .ok (.goto 4, 3) := by decide +kernel
theorem dX6_isTime_14 : decode cX6_isTime 14 = .ok (.iconst 0, 1) := by decide +kernel
theorem dX6_isTime_15 : decode cX6_isTime 15 = .ok (.ireturn, 1) := by decide +kernel
theorem dX6_requireJob_0 : decode cX6_requireJob 0 = .ok (.iload_n 1, 1) := by decide +kernel
theorem dX6_requireJob_1 : decode cX6_requireJob 1 = .ok (.ifCond .lt 20, 3) := by decide +kernel
theorem dX6_requireJob_4 : decode cX6_requireJob 4 = .ok (.iload_n 1, 1) := by decide +kernel
theorem dX6_requireJob_5 : decode cX6_requireJob 5 = .ok (.aload_n 0, 1) := by decide +kernel
theorem dX6_requireJob_6 : decode cX6_requireJob 6 = .ok (.getfield 12, 3) := by decide +kernel
theorem dX6_requireJob_9 : decode cX6_requireJob 9 = .ok (.getfield 57, 3) := by decide +kernel
theorem dX6_requireJob_12 : decode cX6_requireJob 12 = .ok (.if_icmp .ge 9, 3) := by decide +kernel
theorem dX6_requireJob_15 : decode cX6_requireJob 15 = .ok (.iload_n 1, 1) := by decide +kernel
theorem dX6_requireJob_16 : decode cX6_requireJob 16 = .ok (.bipush 7, 2) := by decide +kernel
theorem dX6_requireJob_18 : decode cX6_requireJob 18 = .ok (.if_icmp .lt 13, 3) := by decide +kernel
theorem dX6_requireJob_21 : decode cX6_requireJob 21 = .ok (.new 141, 3) := by decide +kernel
theorem dX6_requireJob_24 : decode cX6_requireJob 24 = .ok (.dup, 1) := by decide +kernel
theorem dX6_requireJob_25 : decode cX6_requireJob 25 = .ok (.ldc 143, 2) := by decide +kernel
theorem dX6_requireJob_27 : decode cX6_requireJob 27 = .ok (.invokespecial 145, 3) := by decide +kernel
theorem dX6_requireJob_30 : decode cX6_requireJob 30 = .ok (.athrow, 1) := by decide +kernel
theorem dX6_requireJob_31 : decode cX6_requireJob 31 = .ok (.return_, 1) := by decide +kernel
theorem dX6_requireMachine_0 : decode cX6_requireMachine 0 = .ok (.iload_n 0, 1) := by decide +kernel
theorem dX6_requireMachine_1 : decode cX6_requireMachine 1 = .ok (.ifCond .lt 8, 3) := by decide +kernel
theorem dX6_requireMachine_4 : decode cX6_requireMachine 4 = .ok (.iload_n 0, 1) := by decide +kernel
theorem dX6_requireMachine_5 : decode cX6_requireMachine 5 = .ok (.iconst 3, 1) := by decide +kernel
theorem dX6_requireMachine_6 : decode cX6_requireMachine 6 = .ok (.if_icmp .lt 13, 3) := by decide +kernel
theorem dX6_requireMachine_9 : decode cX6_requireMachine 9 = .ok (.new 141, 3) := by decide +kernel
theorem dX6_requireMachine_12 : decode cX6_requireMachine 12 = .ok (.dup, 1) := by decide +kernel
theorem dX6_requireMachine_13 : decode cX6_requireMachine 13 = .ok (.ldc 146, 2) := by decide +kernel
theorem dX6_requireMachine_15 : decode cX6_requireMachine 15 = .ok (.invokespecial 145, 3) := by decide +kernel
theorem dX6_requireMachine_18 : decode cX6_requireMachine 18 = .ok (.athrow, 1) := by decide +kernel
theorem dX6_requireMachine_19 : decode cX6_requireMachine 19 = .ok (.return_, 1) := by decide +kernel
theorem dX6_forgetResults_0 : decode cX6_forgetResults 0 = .ok (.aload_n 0, 1) := by decide +kernel
theorem dX6_forgetResults_1 : decode cX6_forgetResults 1 = .ok (.iconst 0, 1) := by decide +kernel
theorem dX6_forgetResults_2 : decode cX6_forgetResults 2 = .ok (.putfield 148, 3) := by decide +kernel
theorem dX6_forgetResults_5 : decode cX6_forgetResults 5 = .ok (.aload_n 0, 1) := by decide +kernel
theorem dX6_forgetResults_6 : decode cX6_forgetResults 6 = .ok (.iconst 0, 1) := by decide +kernel
theorem dX6_forgetResults_7 : decode cX6_forgetResults 7 = .ok (.putfield 152, 3) := by decide +kernel
theorem dX6_forgetResults_10 : decode cX6_forgetResults 10 = .ok (.return_, 1) := by decide +kernel
set_option maxRecDepth 20000 in
theorem ggX6_refreshSearch_X3_find : GoodIn wsX6_refreshSearch wsX3_find := goodIn_r _ [8, 9, 10, 11, 12, 7, 13, 14, 15, 16, 17, 18, 19, 20, 21, 22, 23, 24, 25, 26, 27, 28, 29, 30, 31, 32, 33, 34, 35, 36, 37, 38, 46, 47, 48, 49, 50, 51] (by decide +kernel) (by decide +kernel)
set_option maxRecDepth 20000 in
theorem gX6_refreshSearch_X3_find : GoodIn wsX6_refreshSearch (wsV RX6 155 RX3 yX3_find wsX3_find) := goodIn_app (goodIn_of _ (by decide +kernel)) ggX6_refreshSearch_X3_find
theorem dX6_refreshSearch_0 : decode cX6_refreshSearch 0 = .ok (.aload_n 0, 1) := by decide +kernel
theorem dX6_refreshSearch_1 : decode cX6_refreshSearch 1 = .ok (.getfield 148, 3) := by decide +kernel
theorem dX6_refreshSearch_4 : decode cX6_refreshSearch 4 = .ok (.ifCond .ne 19, 3) := by decide +kernel
theorem dX6_refreshSearch_7 : decode cX6_refreshSearch 7 = .ok (.aload_n 0, 1) := by decide +kernel
theorem dX6_refreshSearch_8 : decode cX6_refreshSearch 8 = .ok (.getfield 26, 3) := by decide +kernel
theorem dX6_refreshSearch_11 : decode cX6_refreshSearch 11 = .ok (.aload_n 0, 1) := by decide +kernel
theorem dX6_refreshSearch_12 : decode cX6_refreshSearch 12 = .ok (.getfield 12, 3) := by decide +kernel
theorem dX6_refreshSearch_15 : decode cX6_refreshSearch 15 = .ok (.invokevirtual 155, 3) := by decide +kernel
theorem dX6_refreshSearch_18 : decode cX6_refreshSearch 18 = .ok (.aload_n 0, 1) := by decide +kernel
theorem dX6_refreshSearch_19 : decode cX6_refreshSearch 19 = .ok (.iconst 1, 1) := by decide +kernel
theorem dX6_refreshSearch_20 : decode cX6_refreshSearch 20 = .ok (.putfield 148, 3) := by decide +kernel
theorem dX6_refreshSearch_23 : decode cX6_refreshSearch 23 = .ok (.return_, 1) := by decide +kernel
set_option maxRecDepth 20000 in
theorem ggX6_refreshDivision_X0_make : GoodIn wsX6_refreshDivision wsX0_make := goodIn_r _ [9, 10, 11, 12, 13, 8, 14, 15, 16, 17, 18, 19, 20, 21, 22, 23, 24, 25, 26, 27, 28, 29, 30, 31, 32, 33, 34, 35, 36, 37, 38, 39, 40, 41, 42, 43, 44, 45, 46, 47, 48, 49, 50, 51, 52, 53, 54, 55, 56, 57, 58, 59, 60, 61, 62, 63, 64, 65, 66, 67, 68, 69, 70, 71, 72, 73, 74, 75, 76, 77, 78, 79, 80, 81, 82, 83, 84, 85, 86, 87, 88, 89, 90, 91, 92, 93, 94, 95, 96, 97, 98, 99, 100, 101, 102, 128, 129, 130, 131, 132, 133, 134, 135, 136, 137, 138, 139, 140] (by decide +kernel) (by decide +kernel)
set_option maxRecDepth 20000 in
theorem gX6_refreshDivision_X0_make : GoodIn wsX6_refreshDivision (wsV RX6 159 RX0 yX0_make wsX0_make) := goodIn_app (goodIn_of _ (by decide +kernel)) ggX6_refreshDivision_X0_make
set_option maxRecDepth 20000 in
theorem ggX6_refreshDivision_X4_make : GoodIn wsX6_refreshDivision wsX4_make := goodIn_r _ [107, 108, 109, 106, 110, 111, 112, 113, 114, 8, 115, 94, 116, 117, 118, 119, 93, 120, 139, 140, 141, 128, 129, 130, 131, 132, 133] (by decide +kernel) (by decide +kernel)
set_option maxRecDepth 20000 in
theorem gX6_refreshDivision_X4_make : GoodIn wsX6_refreshDivision (wsV RX6 162 RX4 yX4_make wsX4_make) := goodIn_app (goodIn_of _ (by decide +kernel)) ggX6_refreshDivision_X4_make
theorem dX6_refreshDivision_0 : decode cX6_refreshDivision 0 = .ok (.aload_n 0, 1) := by decide +kernel
theorem dX6_refreshDivision_1 : decode cX6_refreshDivision 1 = .ok (.getfield 152, 3) := by decide +kernel
theorem dX6_refreshDivision_4 : decode cX6_refreshDivision 4 = .ok (.ifCond .ne 34, 3) := by decide +kernel
theorem dX6_refreshDivision_7 : decode cX6_refreshDivision 7 = .ok (.aload_n 0, 1) := by decide +kernel
theorem dX6_refreshDivision_8 : decode cX6_refreshDivision 8 = .ok (.getfield 33, 3) := by decide +kernel
theorem dX6_refreshDivision_11 : decode cX6_refreshDivision 11 = .ok (.aload_n 0, 1) := by decide +kernel
theorem dX6_refreshDivision_12 : decode cX6_refreshDivision 12 = .ok (.getfield 12, 3) := by decide +kernel
theorem dX6_refreshDivision_15 : decode cX6_refreshDivision 15 = .ok (.invokevirtual 159, 3) := by decide +kernel
theorem dX6_refreshDivision_18 : decode cX6_refreshDivision 18 = .ok (.aload_n 0, 1) := by decide +kernel
theorem dX6_refreshDivision_19 : decode cX6_refreshDivision 19 = .ok (.getfield 40, 3) := by decide +kernel
theorem dX6_refreshDivision_22 : decode cX6_refreshDivision 22 = .ok (.aload_n 0, 1) := by decide +kernel
theorem dX6_refreshDivision_23 : decode cX6_refreshDivision 23 = .ok (.getfield 12, 3) := by decide +kernel
theorem dX6_refreshDivision_26 : decode cX6_refreshDivision 26 = .ok (.aload_n 0, 1) := by decide +kernel
theorem dX6_refreshDivision_27 : decode cX6_refreshDivision 27 = .ok (.getfield 33, 3) := by decide +kernel
theorem dX6_refreshDivision_30 : decode cX6_refreshDivision 30 = .ok (.invokevirtual 162, 3) := by decide +kernel
theorem dX6_refreshDivision_33 : decode cX6_refreshDivision 33 = .ok (.aload_n 0, 1) := by decide +kernel
theorem dX6_refreshDivision_34 : decode cX6_refreshDivision 34 = .ok (.iconst 1, 1) := by decide +kernel
theorem dX6_refreshDivision_35 : decode cX6_refreshDivision 35 = .ok (.putfield 152, 3) := by decide +kernel
theorem dX6_refreshDivision_38 : decode cX6_refreshDivision 38 = .ok (.return_, 1) := by decide +kernel
theorem dJ9_max_7cf53_0 : decode cJ9_max_7cf53 0 = .ok (.iload_n 0, 1) := by decide +kernel
theorem dJ9_max_7cf53_1 : decode cJ9_max_7cf53 1 = .ok (.iload_n 1, 1) := by decide +kernel
theorem dJ9_max_7cf53_2 : decode cJ9_max_7cf53 2 = .ok (.if_icmp .lt 7, 3) := by decide +kernel
theorem dJ9_max_7cf53_5 : decode cJ9_max_7cf53 5 = .ok (.iload_n 0, 1) := by decide +kernel
theorem dJ9_max_7cf53_6 : decode cJ9_max_7cf53 6 = .ok (.goto 4, 3) := by decide +kernel
theorem dJ9_max_7cf53_9 : decode cJ9_max_7cf53 9 = .ok (.iload_n 1, 1) := by decide +kernel
theorem dJ9_max_7cf53_10 : decode cJ9_max_7cf53 10 = .ok (.ireturn, 1) := by decide +kernel
theorem dJ9_min_7cf53_0 : decode cJ9_min_7cf53 0 = .ok (.iload_n 0, 1) := by decide +kernel
theorem dJ9_min_7cf53_1 : decode cJ9_min_7cf53 1 = .ok (.iload_n 1, 1) := by decide +kernel
theorem dJ9_min_7cf53_2 : decode cJ9_min_7cf53 2 = .ok (.if_icmp .gt 7, 3) := by decide +kernel
theorem dJ9_min_7cf53_5 : decode cJ9_min_7cf53 5 = .ok (.iload_n 0, 1) := by decide +kernel
theorem dJ9_min_7cf53_6 : decode cJ9_min_7cf53 6 = .ok (.goto 4, 3) := by decide +kernel
theorem dJ9_min_7cf53_9 : decode cJ9_min_7cf53 9 = .ok (.iload_n 1, 1) := by decide +kernel
theorem dJ9_min_7cf53_10 : decode cJ9_min_7cf53 10 = .ok (.ireturn, 1) := by decide +kernel
theorem dL_cell_0 : decode cL_cell 0 = .ok (.iload_n 1, 1) := by decide +kernel
theorem dL_cell_1 : decode cL_cell 1 = .ok (.aload_n 0, 1) := by decide +kernel
theorem dL_cell_2 : decode cL_cell 2 = .ok (.arraylength, 1) := by decide +kernel
theorem dL_cell_3 : decode cL_cell 3 = .ok (.if_icmp .ge 9, 3) := by decide +kernel
theorem dL_cell_6 : decode cL_cell 6 = .ok (.aload_n 0, 1) := by decide +kernel
theorem dL_cell_7 : decode cL_cell 7 = .ok (.iload_n 1, 1) := by decide +kernel
theorem dL_cell_8 : decode cL_cell 8 = .ok (.iaload, 1) := by decide +kernel
theorem dL_cell_9 : decode cL_cell 9 = .ok (.goto 15, 3) := by decide +kernel
theorem dL_cell_12 : decode cL_cell 12 = .ok (.ldc 7, 2) := by decide +kernel
theorem dL_cell_14 : decode cL_cell 14 = .ok (.iload_n 1, 1) := by decide +kernel
theorem dL_cell_15 : decode cL_cell 15 = .ok (.sipush 7577, 3) := by decide +kernel
theorem dL_cell_18 : decode cL_cell 18 = .ok (.irem, 1) := by decide +kernel
theorem dL_cell_19 : decode cL_cell 19 = .ok (.imul, 1) := by decide +kernel
theorem dL_cell_20 : decode cL_cell 20 = .ok (.sipush 1301, 3) := by decide +kernel
theorem dL_cell_23 : decode cL_cell 23 = .ok (.iadd, 1) := by decide +kernel
theorem dL_cell_24 : decode cL_cell 24 = .ok (.ldc 8, 2) := by decide +kernel
theorem dL_cell_26 : decode cL_cell 26 = .ok (.iand, 1) := by decide +kernel
theorem dL_cell_27 : decode cL_cell 27 = .ok (.ireturn, 1) := by decide +kernel
set_option maxRecDepth 20000 in
theorem ggL_addJob_X6_addJob : GoodIn wsL_addJob wsX6_addJob := goodIn_ca (goodIn_ca (goodIn_r _ [7, 8, 9, 10, 11, 12, 13, 14, 15, 6, 16, 17, 18, 19, 20, 21, 22, 23, 24, 25, 26, 27, 28, 29, 30, 31, 32, 33, 34, 35, 36] (by decide +kernel) (by decide +kernel)) (goodIn_sub (fun _ h => List.mem_cons_of_mem _ (List.mem_append_left _ (List.mem_append_right _ h))) (by decide +kernel))) (goodIn_sub (fun _ h => List.mem_cons_of_mem _ (List.mem_append_right _ h)) (by decide +kernel))
set_option maxRecDepth 20000 in
theorem gL_addJob_X6_addJob : GoodIn wsL_addJob (wsV RL 9 RX6 yX6_addJob wsX6_addJob) := goodIn_app (goodIn_of _ (by decide +kernel)) ggL_addJob_X6_addJob
theorem dL_addJob_0 : decode cL_addJob 0 = .ok (.aload_n 0, 1) := by decide +kernel
theorem dL_addJob_1 : decode cL_addJob 1 = .ok (.iload_n 1, 1) := by decide +kernel
theorem dL_addJob_2 : decode cL_addJob 2 = .ok (.iload_n 2, 1) := by decide +kernel
theorem dL_addJob_3 : decode cL_addJob 3 = .ok (.iload_n 3, 1) := by decide +kernel
theorem dL_addJob_4 : decode cL_addJob 4 = .ok (.invokevirtual 9, 3) := by decide +kernel
theorem dL_addJob_7 : decode cL_addJob 7 = .ok (.ireturn, 1) := by decide +kernel
theorem dL_addJob_8 : decode cL_addJob 8 = .ok (.astore 4, 2) := by decide +kernel
theorem dL_addJob_10 : decode cL_addJob 10 = .ok (.bipush (-102), 2) := by decide +kernel
theorem dL_addJob_12 : decode cL_addJob 12 = .ok (.ireturn, 1) := by decide +kernel
theorem dL_addJob_13 : decode cL_addJob 13 = .ok (.astore 4, 2) := by decide +kernel
theorem dL_addJob_15 : decode cL_addJob 15 = .ok (.bipush (-103), 2) := by decide +kernel
theorem dL_addJob_17 : decode cL_addJob 17 = .ok (.ireturn, 1) := by decide +kernel
set_option maxRecDepth 20000 in
theorem ggL_setTime_X6_setTime : GoodIn wsL_setTime wsX6_setTime := goodIn_ca (goodIn_ca (goodIn_ca (goodIn_r _ [8, 9, 10, 11, 12, 13, 14, 15, 16, 17, 7, 18, 19, 20, 21, 22, 23, 24, 25, 26, 27, 28, 29, 30, 31, 32, 33, 34, 35, 36, 37, 38, 39, 40, 41, 42, 43, 44, 45, 46, 47, 48, 49, 50, 51, 52, 53] (by decide +kernel) (by decide +kernel)) (goodIn_sub (fun _ h => List.mem_cons_of_mem _ (List.mem_append_left _ (List.mem_append_left _ (List.mem_append_right _ h)))) (by decide +kernel))) (goodIn_sub (fun _ h => List.mem_cons_of_mem _ (List.mem_append_left _ (List.mem_append_right _ h))) (by decide +kernel))) (goodIn_sub (fun _ h => List.mem_cons_of_mem _ (List.mem_append_right _ h)) (by decide +kernel))
set_option maxRecDepth 20000 in
theorem gL_setTime_X6_setTime : GoodIn wsL_setTime (wsV RL 19 RX6 yX6_setTime wsX6_setTime) := goodIn_app (goodIn_of _ (by decide +kernel)) ggL_setTime_X6_setTime
theorem dL_setTime_0 : decode cL_setTime 0 = .ok (.aload_n 0, 1) := by decide +kernel
theorem dL_setTime_1 : decode cL_setTime 1 = .ok (.iload_n 1, 1) := by decide +kernel
theorem dL_setTime_2 : decode cL_setTime 2 = .ok (.iload_n 2, 1) := by decide +kernel
theorem dL_setTime_3 : decode cL_setTime 3 = .ok (.iload_n 3, 1) := by decide +kernel
theorem dL_setTime_4 : decode cL_setTime 4 = .ok (.invokevirtual 19, 3) := by decide +kernel
theorem dL_setTime_7 : decode cL_setTime 7 = .ok (.ireturn, 1) := by decide +kernel
theorem dL_setTime_8 : decode cL_setTime 8 = .ok (.astore 4, 2) := by decide +kernel
theorem dL_setTime_10 : decode cL_setTime 10 = .ok (.bipush (-101), 2) := by decide +kernel
theorem dL_setTime_12 : decode cL_setTime 12 = .ok (.ireturn, 1) := by decide +kernel
theorem dL_setTime_13 : decode cL_setTime 13 = .ok (.astore 4, 2) := by decide +kernel
theorem dL_setTime_15 : decode cL_setTime 15 = .ok (.bipush (-102), 2) := by decide +kernel
theorem dL_setTime_17 : decode cL_setTime 17 = .ok (.ireturn, 1) := by decide +kernel
theorem dL_setTime_18 : decode cL_setTime 18 = .ok (.astore 4, 2) := by decide +kernel
theorem dL_setTime_20 : decode cL_setTime 20 = .ok (.bipush (-103), 2) := by decide +kernel
theorem dL_setTime_22 : decode cL_setTime 22 = .ok (.ireturn, 1) := by decide +kernel
set_option maxRecDepth 20000 in
theorem ggL_time_X6_time : GoodIn wsL_time wsX6_time := goodIn_ca (goodIn_r _ [6, 7, 8, 9, 10, 5, 11, 12, 13, 14, 15, 16, 17, 18, 19, 20, 21, 22, 23, 24, 25, 26, 27, 28, 29, 30, 31, 32] (by decide +kernel) (by decide +kernel)) (goodIn_sub (fun _ h => List.mem_cons_of_mem _ (List.mem_append_right _ h)) (by decide +kernel))
set_option maxRecDepth 20000 in
theorem gL_time_X6_time : GoodIn wsL_time (wsV RL 24 RX6 yX6_time wsX6_time) := goodIn_app (goodIn_of _ (by decide +kernel)) ggL_time_X6_time
theorem dL_time_0 : decode cL_time 0 = .ok (.aload_n 0, 1) := by decide +kernel
theorem dL_time_1 : decode cL_time 1 = .ok (.iload_n 1, 1) := by decide +kernel
theorem dL_time_2 : decode cL_time 2 = .ok (.iload_n 2, 1) := by decide +kernel
theorem dL_time_3 : decode cL_time 3 = .ok (.invokevirtual 24, 3) := by decide +kernel
theorem dL_time_6 : decode cL_time 6 = .ok (.ireturn, 1) := by decide +kernel
theorem dL_time_7 : decode cL_time 7 = .ok (.astore_n 3, 1) := by decide +kernel
theorem dL_time_8 : decode cL_time 8 = .ok (.bipush (-101), 2) := by decide +kernel
theorem dL_time_10 : decode cL_time 10 = .ok (.ireturn, 1) := by decide +kernel
set_option maxRecDepth 20000 in
theorem ggL_shortestOn_X6_shortestMachine : GoodIn wsL_shortestOn wsX6_shortestMachine := goodIn_ca (goodIn_r _ [6, 7, 8, 9, 10, 5, 11, 12, 13, 14, 15, 16, 17, 18, 19, 20, 21, 22, 23, 24, 25, 26, 27, 28, 29, 30, 31, 32, 33, 34, 35, 36, 37, 38, 39, 40, 41, 42, 43, 44, 45, 46, 47, 48, 49, 50, 51, 52, 53, 54, 55, 56, 57, 58, 59, 60, 61, 62, 63, 64, 65, 66, 67] (by decide +kernel) (by decide +kernel)) (goodIn_sub (fun _ h => List.mem_cons_of_mem _ (List.mem_append_right _ h)) (by decide +kernel))
set_option maxRecDepth 20000 in
theorem gL_shortestOn_X6_shortestMachine : GoodIn wsL_shortestOn (wsV RL 28 RX6 yX6_shortestMachine wsX6_shortestMachine) := goodIn_app (goodIn_of _ (by decide +kernel)) ggL_shortestOn_X6_shortestMachine
theorem dL_shortestOn_0 : decode cL_shortestOn 0 = .ok (.aload_n 0, 1) := by decide +kernel
theorem dL_shortestOn_1 : decode cL_shortestOn 1 = .ok (.iload_n 1, 1) := by decide +kernel
theorem dL_shortestOn_2 : decode cL_shortestOn 2 = .ok (.invokevirtual 28, 3) := by decide +kernel
theorem dL_shortestOn_5 : decode cL_shortestOn 5 = .ok (.ireturn, 1) := by decide +kernel
theorem dL_shortestOn_6 : decode cL_shortestOn 6 = .ok (.astore_n 2, 1) := by decide +kernel
theorem dL_shortestOn_7 : decode cL_shortestOn 7 = .ok (.bipush (-101), 2) := by decide +kernel
theorem dL_shortestOn_9 : decode cL_shortestOn 9 = .ok (.ireturn, 1) := by decide +kernel
set_option maxRecDepth 20000 in
theorem ggL_numerator_X6_numerator : GoodIn wsL_numerator wsX6_numerator := goodIn_ca (goodIn_r _ [6, 7, 8, 9, 10, 5, 11, 12, 13, 14, 15, 16, 17, 18, 19, 20, 21, 22, 23, 24, 25, 26, 27, 28, 29, 30, 31, 32, 33, 34, 35, 36, 37, 38, 39, 40, 41, 42, 43, 44, 45, 46, 47, 48, 49, 50, 51, 52, 53, 54, 55, 56, 57, 58, 59, 60, 61, 62, 63, 64, 65, 66, 67, 68, 69, 70, 71, 72, 73, 74, 75, 76, 77, 78, 79, 80, 81, 82, 83, 84, 85, 86, 87, 88, 89, 90, 91, 92, 93, 94, 95, 96, 97, 98, 99, 100, 101, 102, 103, 104, 105, 106, 107, 108, 109, 110, 111, 112, 113, 114, 115, 116, 117, 118, 119, 120, 121, 122, 123, 124, 125, 126, 127, 128, 129, 130, 131, 132, 133, 134, 135, 136, 137, 138, 139, 140, 141, 142, 143, 144, 145, 146, 147, 148, 149, 150, 151, 152, 153, 154, 155, 156, 157, 158, 159, 160] (by decide +kernel) (by decide +kernel)) (goodIn_sub (fun _ h => List.mem_cons_of_mem _ (List.mem_append_right _ h)) (by decide +kernel))
set_option maxRecDepth 20000 in
theorem gL_numerator_X6_numerator : GoodIn wsL_numerator (wsV RL 32 RX6 yX6_numerator wsX6_numerator) := goodIn_app (goodIn_of _ (by decide +kernel)) ggL_numerator_X6_numerator
theorem dL_numerator_0 : decode cL_numerator 0 = .ok (.aload_n 0, 1) := by decide +kernel
theorem dL_numerator_1 : decode cL_numerator 1 = .ok (.iload_n 1, 1) := by decide +kernel
theorem dL_numerator_2 : decode cL_numerator 2 = .ok (.iload_n 2, 1) := by decide +kernel
theorem dL_numerator_3 : decode cL_numerator 3 = .ok (.invokevirtual 32, 3) := by decide +kernel
theorem dL_numerator_6 : decode cL_numerator 6 = .ok (.ireturn, 1) := by decide +kernel
theorem dL_numerator_7 : decode cL_numerator 7 = .ok (.astore_n 3, 1) := by decide +kernel
theorem dL_numerator_8 : decode cL_numerator 8 = .ok (.bipush (-101), 2) := by decide +kernel
theorem dL_numerator_10 : decode cL_numerator 10 = .ok (.ireturn, 1) := by decide +kernel
set_option maxRecDepth 20000 in
theorem ggL_denominator_X6_denominator : GoodIn wsL_denominator wsX6_denominator := goodIn_ca (goodIn_r _ [6, 7, 8, 9, 10, 5, 11, 12, 13, 14, 15, 16, 17, 18, 19, 20, 21, 22, 23, 24, 25, 26, 27, 28, 29, 30, 31, 32, 33, 34, 35, 36, 37, 38, 39, 40, 41, 42, 43, 44, 45, 46, 47, 48, 49, 50, 51, 52, 53, 54, 55, 56, 57, 58, 59, 60, 61, 62, 63, 64, 65, 66, 67, 68, 69, 70, 71, 72, 73, 74, 75, 76, 77, 78, 79, 80, 81, 82, 83, 84, 85, 86, 87, 88, 89, 90, 91, 92, 93, 94, 95, 96, 97, 98, 99, 100, 101, 102, 103, 104, 105, 106, 107, 108, 109, 110, 111, 112, 113, 114, 115, 116, 117, 118, 119, 120, 121, 122, 123, 124, 125, 126, 127, 128, 129, 130, 131, 132, 133, 134, 135, 136, 137, 138, 139, 140, 141, 142, 143, 144, 145, 146, 147, 148, 149, 150, 151, 152, 153, 154, 155, 156, 157, 158, 159, 160] (by decide +kernel) (by decide +kernel)) (goodIn_sub (fun _ h => List.mem_cons_of_mem _ (List.mem_append_right _ h)) (by decide +kernel))
set_option maxRecDepth 20000 in
theorem gL_denominator_X6_denominator : GoodIn wsL_denominator (wsV RL 35 RX6 yX6_denominator wsX6_denominator) := goodIn_app (goodIn_of _ (by decide +kernel)) ggL_denominator_X6_denominator
theorem dL_denominator_0 : decode cL_denominator 0 = .ok (.aload_n 0, 1) := by decide +kernel
theorem dL_denominator_1 : decode cL_denominator 1 = .ok (.iload_n 1, 1) := by decide +kernel
theorem dL_denominator_2 : decode cL_denominator 2 = .ok (.iload_n 2, 1) := by decide +kernel
theorem dL_denominator_3 : decode cL_denominator 3 = .ok (.invokevirtual 35, 3) := by decide +kernel
theorem dL_denominator_6 : decode cL_denominator 6 = .ok (.ireturn, 1) := by decide +kernel
theorem dL_denominator_7 : decode cL_denominator 7 = .ok (.astore_n 3, 1) := by decide +kernel
theorem dL_denominator_8 : decode cL_denominator 8 = .ok (.bipush (-101), 2) := by decide +kernel
theorem dL_denominator_10 : decode cL_denominator 10 = .ok (.ireturn, 1) := by decide +kernel
set_option maxRecDepth 20000 in
theorem ggL_divided_X6_isDivided : GoodIn wsL_divided wsX6_isDivided := goodIn_ca (goodIn_r _ [6, 7, 8, 9, 10, 5, 11, 12, 13, 14, 15, 16, 17, 18, 19, 20, 21, 22, 23, 24, 25, 26, 27, 28, 29, 30, 31, 32, 33, 34, 35, 36, 37, 38, 39, 40, 41, 42, 43, 44, 45, 46, 47, 48, 49, 50, 51, 52, 53, 54, 55, 56, 57, 58, 59, 60, 61, 62, 63, 64, 65, 66, 67, 68, 69, 70, 71, 72, 73, 74, 75, 76, 77, 78, 79, 80, 81, 82, 83, 84, 85, 86, 87, 88, 89, 90, 91, 92, 93, 94, 95, 96, 97, 98, 99, 100, 101, 102, 103, 104, 105, 106, 107, 108, 109, 110, 111, 112, 113, 114, 115, 116, 117, 118, 119, 120, 121, 122, 123, 124, 125, 126, 127, 128, 129, 130, 131, 132, 133, 134, 135, 136, 137, 138, 139, 140, 141, 142, 143, 144, 145, 146, 147, 148, 149, 150, 151, 152, 153, 154, 155, 156, 157, 158] (by decide +kernel) (by decide +kernel)) (goodIn_sub (fun _ h => List.mem_cons_of_mem _ (List.mem_append_right _ h)) (by decide +kernel))
set_option maxRecDepth 20000 in
theorem gL_divided_X6_isDivided : GoodIn wsL_divided (wsV RL 38 RX6 yX6_isDivided wsX6_isDivided) := goodIn_app (goodIn_of _ (by decide +kernel)) ggL_divided_X6_isDivided
theorem dL_divided_0 : decode cL_divided 0 = .ok (.aload_n 0, 1) := by decide +kernel
theorem dL_divided_1 : decode cL_divided 1 = .ok (.iload_n 1, 1) := by decide +kernel
theorem dL_divided_2 : decode cL_divided 2 = .ok (.invokevirtual 38, 3) := by decide +kernel
theorem dL_divided_5 : decode cL_divided 5 = .ok (.ifCond .eq 7, 3) := by decide +kernel
theorem dL_divided_8 : decode cL_divided 8 = .ok (.iconst 1, 1) := by decide +kernel
theorem dL_divided_9 : decode cL_divided 9 = .ok (.goto 4, 3) := by decide +kernel
theorem dL_divided_12 : decode cL_divided 12 = .ok (.iconst 0, 1) := by decide +kernel
theorem dL_divided_13 : decode cL_divided 13 = .ok (.ireturn, 1) := by decide +kernel
theorem dL_divided_14 : decode cL_divided 14 = .ok (.astore_n 2, 1) := by decide +kernel
theorem dL_divided_15 : decode cL_divided 15 = .ok (.bipush (-101), 2) := by decide +kernel
theorem dL_divided_17 : decode cL_divided 17 = .ok (.ireturn, 1) := by decide +kernel
set_option maxRecDepth 20000 in
theorem ggL_roundedOn_X6_roundedMachine : GoodIn wsL_roundedOn wsX6_roundedMachine := goodIn_ca (goodIn_r _ [6, 7, 8, 9, 10, 5, 11, 12, 13, 14, 15, 16, 17, 18, 19, 20, 21, 22, 23, 24, 25, 26, 27, 28, 29, 30, 31, 32, 33, 34, 35, 36, 37, 38, 39, 40, 41, 42, 43, 44, 45, 46, 47, 48, 49, 50, 51, 52, 53, 54, 55, 56, 57, 58, 59, 60, 61, 62, 63, 64, 65, 66, 67, 68, 69, 70, 71, 72, 73, 74, 75, 76, 77, 78, 79, 80, 81, 82, 83, 84, 85, 86, 87, 88, 89, 90, 91, 92, 93, 94, 95, 96, 97, 98, 99, 100, 101, 102, 103, 104, 105, 106, 107, 108, 109, 110, 111, 112, 113, 114, 115, 116, 117, 118, 119, 120, 121, 122, 123, 124, 125, 126, 127, 128, 129, 130, 131, 132, 133, 134, 135, 136, 137, 138, 139, 140, 141, 142, 143, 144, 145, 146, 147, 148, 149, 150, 151, 152, 153, 154, 155, 156, 157] (by decide +kernel) (by decide +kernel)) (goodIn_sub (fun _ h => List.mem_cons_of_mem _ (List.mem_append_right _ h)) (by decide +kernel))
set_option maxRecDepth 20000 in
theorem gL_roundedOn_X6_roundedMachine : GoodIn wsL_roundedOn (wsV RL 42 RX6 yX6_roundedMachine wsX6_roundedMachine) := goodIn_app (goodIn_of _ (by decide +kernel)) ggL_roundedOn_X6_roundedMachine
theorem dL_roundedOn_0 : decode cL_roundedOn 0 = .ok (.aload_n 0, 1) := by decide +kernel
theorem dL_roundedOn_1 : decode cL_roundedOn 1 = .ok (.iload_n 1, 1) := by decide +kernel
theorem dL_roundedOn_2 : decode cL_roundedOn 2 = .ok (.invokevirtual 42, 3) := by decide +kernel
theorem dL_roundedOn_5 : decode cL_roundedOn 5 = .ok (.ireturn, 1) := by decide +kernel
theorem dL_roundedOn_6 : decode cL_roundedOn 6 = .ok (.astore_n 2, 1) := by decide +kernel
theorem dL_roundedOn_7 : decode cL_roundedOn 7 = .ok (.bipush (-101), 2) := by decide +kernel
theorem dL_roundedOn_9 : decode cL_roundedOn 9 = .ok (.ireturn, 1) := by decide +kernel
set_option maxRecDepth 20000 in
theorem ggL_assign_X6_assign : GoodIn wsL_assign wsX6_assign := goodIn_ca (goodIn_ca (goodIn_r _ [7, 8, 9, 10, 11, 12, 13, 14, 6, 15, 16, 17, 18, 19, 20, 21, 22, 23, 24, 25, 26, 27, 28, 29, 30, 31, 32, 33, 34, 35, 36, 37, 38, 39, 40, 41] (by decide +kernel) (by decide +kernel)) (goodIn_sub (fun _ h => List.mem_cons_of_mem _ (List.mem_append_left _ (List.mem_append_right _ h))) (by decide +kernel))) (goodIn_sub (fun _ h => List.mem_cons_of_mem _ (List.mem_append_right _ h)) (by decide +kernel))
set_option maxRecDepth 20000 in
theorem gL_assign_X6_assign : GoodIn wsL_assign (wsV RL 45 RX6 yX6_assign wsX6_assign) := goodIn_app (goodIn_of _ (by decide +kernel)) ggL_assign_X6_assign
theorem dL_assign_0 : decode cL_assign 0 = .ok (.aload_n 0, 1) := by decide +kernel
theorem dL_assign_1 : decode cL_assign 1 = .ok (.iload_n 1, 1) := by decide +kernel
theorem dL_assign_2 : decode cL_assign 2 = .ok (.iload_n 2, 1) := by decide +kernel
theorem dL_assign_3 : decode cL_assign 3 = .ok (.invokevirtual 45, 3) := by decide +kernel
theorem dL_assign_6 : decode cL_assign 6 = .ok (.ireturn, 1) := by decide +kernel
theorem dL_assign_7 : decode cL_assign 7 = .ok (.astore_n 3, 1) := by decide +kernel
theorem dL_assign_8 : decode cL_assign 8 = .ok (.bipush (-101), 2) := by decide +kernel
theorem dL_assign_10 : decode cL_assign 10 = .ok (.ireturn, 1) := by decide +kernel
theorem dL_assign_11 : decode cL_assign 11 = .ok (.astore_n 3, 1) := by decide +kernel
theorem dL_assign_12 : decode cL_assign 12 = .ok (.bipush (-103), 2) := by decide +kernel
theorem dL_assign_14 : decode cL_assign 14 = .ok (.ireturn, 1) := by decide +kernel
set_option maxRecDepth 20000 in
theorem ggL_machine_X6_machine : GoodIn wsL_machine wsX6_machine := goodIn_ca (goodIn_r _ [6, 7, 8, 9, 10, 5, 11, 12, 13, 14, 15, 16, 17, 18, 19, 20, 21, 22, 23, 24, 25, 26, 27, 28] (by decide +kernel) (by decide +kernel)) (goodIn_sub (fun _ h => List.mem_cons_of_mem _ (List.mem_append_right _ h)) (by decide +kernel))
set_option maxRecDepth 20000 in
theorem gL_machine_X6_machine : GoodIn wsL_machine (wsV RL 48 RX6 yX6_machine wsX6_machine) := goodIn_app (goodIn_of _ (by decide +kernel)) ggL_machine_X6_machine
theorem dL_machine_0 : decode cL_machine 0 = .ok (.aload_n 0, 1) := by decide +kernel
theorem dL_machine_1 : decode cL_machine 1 = .ok (.iload_n 1, 1) := by decide +kernel
theorem dL_machine_2 : decode cL_machine 2 = .ok (.invokevirtual 48, 3) := by decide +kernel
theorem dL_machine_5 : decode cL_machine 5 = .ok (.ireturn, 1) := by decide +kernel
theorem dL_machine_6 : decode cL_machine 6 = .ok (.astore_n 2, 1) := by decide +kernel
theorem dL_machine_7 : decode cL_machine 7 = .ok (.bipush (-101), 2) := by decide +kernel
theorem dL_machine_9 : decode cL_machine 9 = .ok (.ireturn, 1) := by decide +kernel
set_option maxRecDepth 20000 in
theorem ggL_load_X6_load : GoodIn wsL_load wsX6_load := goodIn_ca (goodIn_r _ [6, 7, 8, 9, 10, 5, 11, 12, 13, 14, 15, 16, 17, 18, 19, 20, 21, 22, 23, 24, 25, 26, 27, 28, 29, 30, 31, 32, 33, 34, 35, 36, 37, 38] (by decide +kernel) (by decide +kernel)) (goodIn_sub (fun _ h => List.mem_cons_of_mem _ (List.mem_append_right _ h)) (by decide +kernel))
set_option maxRecDepth 20000 in
theorem gL_load_X6_load : GoodIn wsL_load (wsV RL 51 RX6 yX6_load wsX6_load) := goodIn_app (goodIn_of _ (by decide +kernel)) ggL_load_X6_load
theorem dL_load_0 : decode cL_load 0 = .ok (.aload_n 0, 1) := by decide +kernel
theorem dL_load_1 : decode cL_load 1 = .ok (.iload_n 1, 1) := by decide +kernel
theorem dL_load_2 : decode cL_load 2 = .ok (.invokevirtual 51, 3) := by decide +kernel
theorem dL_load_5 : decode cL_load 5 = .ok (.ireturn, 1) := by decide +kernel
theorem dL_load_6 : decode cL_load 6 = .ok (.astore_n 2, 1) := by decide +kernel
theorem dL_load_7 : decode cL_load 7 = .ok (.bipush (-101), 2) := by decide +kernel
theorem dL_load_9 : decode cL_load 9 = .ok (.ireturn, 1) := by decide +kernel
theorem dL_common_0 : decode cL_common 0 = .ok (.lload_n 0, 1) := by decide +kernel
theorem dL_common_1 : decode cL_common 1 = .ok (.lstore 4, 2) := by decide +kernel
theorem dL_common_3 : decode cL_common 3 = .ok (.lload_n 2, 1) := by decide +kernel
theorem dL_common_4 : decode cL_common 4 = .ok (.lstore 6, 2) := by decide +kernel
theorem dL_common_6 : decode cL_common 6 = .ok (.lload 6, 2) := by decide +kernel
theorem dL_common_8 : decode cL_common 8 = .ok (.lconst 0, 1) := by decide +kernel
theorem dL_common_9 : decode cL_common 9 = .ok (.lcmp, 1) := by decide +kernel
theorem dL_common_10 : decode cL_common 10 = .ok (.ifCond .eq 21, 3) := by decide +kernel
theorem dL_common_13 : decode cL_common 13 = .ok (.lload 4, 2) := by decide +kernel
theorem dL_common_15 : decode cL_common 15 = .ok (.lload 6, 2) := by decide +kernel
theorem dL_common_17 : decode cL_common 17 = .ok (.lrem, 1) := by decide +kernel
theorem dL_common_18 : decode cL_common 18 = .ok (.lstore 8, 2) := by decide +kernel
theorem dL_common_20 : decode cL_common 20 = .ok (.lload 6, 2) := by decide +kernel
theorem dL_common_22 : decode cL_common 22 = .ok (.lstore 4, 2) := by decide +kernel
theorem dL_common_24 : decode cL_common 24 = .ok (.lload 8, 2) := by decide +kernel
theorem dL_common_26 : decode cL_common 26 = .ok (.lstore 6, 2) := by decide +kernel
theorem dL_common_28 : decode cL_common 28 = .ok (.goto (-22), 3) := by decide +kernel
theorem dL_common_31 : decode cL_common 31 = .ok (.lload 4, 2) := by decide +kernel
theorem dL_common_33 : decode cL_common 33 = .ok (.lconst 1, 1) := by decide +kernel
theorem dL_common_34 : decode cL_common 34 = .ok (.lcmp, 1) := by decide +kernel
theorem dL_common_35 : decode cL_common 35 = .ok (.ifCond .ge 7, 3) := by decide +kernel
theorem dL_common_38 : decode cL_common 38 = .ok (.lconst 1, 1) := by decide +kernel
theorem dL_common_39 : decode cL_common 39 = .ok (.goto 5, 3) := by decide +kernel
theorem dL_common_42 : decode cL_common 42 = .ok (.lload 4, 2) := by decide +kernel
theorem dL_common_44 : decode cL_common 44 = .ok (.lreturn, 1) := by decide +kernel
set_option maxRecDepth 20000 in
theorem ggL_isWithin_X6_jobs : GoodIn wsL_isWithin wsX6_jobs := goodIn_r _ [5, 6, 166, 167, 168, 169, 170, 171, 172, 173, 174] (by decide +kernel) (by decide +kernel)
set_option maxRecDepth 20000 in
theorem gL_isWithin_X6_jobs : GoodIn wsL_isWithin (wsV RL 54 RX6 yX6_jobs wsX6_jobs) := goodIn_app (goodIn_of _ (by decide +kernel)) ggL_isWithin_X6_jobs
set_option maxRecDepth 20000 in
theorem ggL_isWithin_L_numerator : GoodIn wsL_isWithin wsL_numerator := goodIn_ca (goodIn_r _ [10, 11, 12, 13, 14, 4, 15, 16, 17, 18, 19, 20, 21, 22, 6, 23, 24, 25, 26, 27, 28, 29, 30, 31, 32, 33, 34, 35, 36, 37, 38, 39, 40, 41, 42, 43, 44, 45, 46, 47, 48, 49, 50, 51, 52, 53, 54, 55, 56, 57, 58, 59, 60, 61, 62, 63, 64, 65, 66, 67, 68, 69, 70, 71, 72, 73, 74, 75, 76, 77, 78, 79, 80, 81, 82, 83, 84, 85, 86, 87, 88, 89, 90, 91, 92, 93, 94, 95, 96, 97, 98, 99, 100, 101, 102, 103, 104, 105, 106, 107, 108, 109, 110, 111, 112, 113, 114, 115, 116, 117, 118, 119, 120, 121, 122, 123, 124, 125, 126, 127, 128, 129, 130, 131, 132, 133, 134, 135, 136, 137, 138, 139, 140, 141, 142, 143, 144, 145, 146, 147, 166, 167, 168, 169, 170, 171, 172, 175, 176, 177, 178, 179, 180, 173, 174, 181, 182, 183, 184, 185, 186] (by decide +kernel) (by decide +kernel)) (goodIn_sub (fun _ h => List.mem_cons_of_mem _ (List.mem_append_right _ h)) (by decide +kernel))
set_option maxRecDepth 20000 in
theorem gL_isWithin_L_numerator : GoodIn wsL_isWithin (va_wsS RL 58 yL_numerator wsL_numerator) := goodIn_app (goodIn_of _ (by decide +kernel)) ggL_isWithin_L_numerator
set_option maxRecDepth 20000 in
theorem ggL_isWithin_L_denominator : GoodIn wsL_isWithin wsL_denominator := goodIn_ca (goodIn_r _ [150, 11, 151, 152, 153, 4, 154, 16, 17, 18, 19, 20, 21, 22, 6, 23, 24, 25, 26, 27, 28, 29, 30, 31, 32, 33, 34, 35, 36, 37, 38, 39, 40, 41, 42, 43, 44, 45, 46, 47, 48, 49, 50, 51, 52, 53, 54, 55, 56, 57, 58, 59, 60, 61, 62, 63, 64, 65, 66, 67, 68, 69, 70, 71, 72, 73, 74, 75, 76, 77, 78, 79, 80, 81, 82, 83, 84, 85, 86, 87, 88, 89, 90, 91, 92, 93, 94, 95, 96, 97, 98, 99, 100, 101, 102, 103, 104, 105, 106, 107, 108, 109, 110, 111, 112, 113, 114, 115, 116, 117, 118, 119, 120, 121, 122, 123, 124, 125, 126, 127, 128, 129, 130, 131, 132, 133, 134, 135, 136, 137, 138, 139, 140, 141, 142, 143, 144, 145, 146, 147, 166, 167, 168, 169, 170, 171, 172, 175, 176, 177, 178, 179, 180, 173, 174, 181, 182, 183, 184, 185, 186] (by decide +kernel) (by decide +kernel)) (goodIn_sub (fun _ h => List.mem_cons_of_mem _ (List.mem_append_right _ h)) (by decide +kernel))
set_option maxRecDepth 20000 in
theorem gL_isWithin_L_denominator : GoodIn wsL_isWithin (va_wsS RL 63 yL_denominator wsL_denominator) := goodIn_app (goodIn_of _ (by decide +kernel)) ggL_isWithin_L_denominator
set_option maxRecDepth 20000 in
theorem ggL_isWithin_L_time : GoodIn wsL_isWithin wsL_time := goodIn_ca (goodIn_r _ [157, 11, 158, 159, 160, 4, 161, 6, 17, 18, 19, 20, 21, 22, 23, 24, 25, 162, 69, 70, 71, 72, 73, 74, 166, 167, 168, 169, 170, 171, 172, 173, 174] (by decide +kernel) (by decide +kernel)) (goodIn_sub (fun _ h => List.mem_cons_of_mem _ (List.mem_append_right _ h)) (by decide +kernel))
set_option maxRecDepth 20000 in
theorem gL_isWithin_L_time : GoodIn wsL_isWithin (va_wsS RL 65 yL_time wsL_time) := goodIn_app (goodIn_of _ (by decide +kernel)) ggL_isWithin_L_time
set_option maxRecDepth 20000 in
theorem ggL_isWithin_L_common : GoodIn wsL_isWithin wsL_common := goodIn_r _ [165] (by decide +kernel) (by decide +kernel)
set_option maxRecDepth 20000 in
theorem gL_isWithin_L_common : GoodIn wsL_isWithin (va_wsS RL 67 yL_common wsL_common) := goodIn_app (goodIn_of _ (by decide +kernel)) ggL_isWithin_L_common
theorem dL_isWithin_0 : decode cL_isWithin 0 = .ok (.lconst 0, 1) := by decide +kernel
theorem dL_isWithin_1 : decode cL_isWithin 1 = .ok (.lstore_n 3, 1) := by decide +kernel
theorem dL_isWithin_2 : decode cL_isWithin 2 = .ok (.lconst 1, 1) := by decide +kernel
theorem dL_isWithin_3 : decode cL_isWithin 3 = .ok (.lstore 5, 2) := by decide +kernel
theorem dL_isWithin_5 : decode cL_isWithin 5 = .ok (.iconst 0, 1) := by decide +kernel
theorem dL_isWithin_6 : decode cL_isWithin 6 = .ok (.istore 7, 2) := by decide +kernel
theorem dL_isWithin_8 : decode cL_isWithin 8 = .ok (.iload 7, 2) := by decide +kernel
theorem dL_isWithin_10 : decode cL_isWithin 10 = .ok (.aload_n 0, 1) := by decide +kernel
theorem dL_isWithin_11 : decode cL_isWithin 11 = .ok (.invokevirtual 54, 3) := by decide +kernel
theorem dL_isWithin_14 : decode cL_isWithin 14 = .ok (.if_icmp .ge 78, 3) := by decide +kernel
theorem dL_isWithin_17 : decode cL_isWithin 17 = .ok (.aload_n 0, 1) := by decide +kernel
theorem dL_isWithin_18 : decode cL_isWithin 18 = .ok (.iload 7, 2) := by decide +kernel
theorem dL_isWithin_20 : decode cL_isWithin 20 = .ok (.iload_n 1, 1) := by decide +kernel
theorem dL_isWithin_21 : decode cL_isWithin 21 = .ok (.invokestatic 58, 3) := by decide +kernel
theorem dL_isWithin_24 : decode cL_isWithin 24 = .ok (.i2l, 1) := by decide +kernel
theorem dL_isWithin_25 : decode cL_isWithin 25 = .ok (.lstore 8, 2) := by decide +kernel
theorem dL_isWithin_27 : decode cL_isWithin 27 = .ok (.aload_n 0, 1) := by decide +kernel
theorem dL_isWithin_28 : decode cL_isWithin 28 = .ok (.iload 7, 2) := by decide +kernel
theorem dL_isWithin_30 : decode cL_isWithin 30 = .ok (.iload_n 1, 1) := by decide +kernel
theorem dL_isWithin_31 : decode cL_isWithin 31 = .ok (.invokestatic 63, 3) := by decide +kernel
theorem dL_isWithin_34 : decode cL_isWithin 34 = .ok (.i2l, 1) := by decide +kernel
theorem dL_isWithin_35 : decode cL_isWithin 35 = .ok (.lstore 10, 2) := by decide +kernel
theorem dL_isWithin_37 : decode cL_isWithin 37 = .ok (.lload_n 3, 1) := by decide +kernel
theorem dL_isWithin_38 : decode cL_isWithin 38 = .ok (.lload 10, 2) := by decide +kernel
theorem dL_isWithin_40 : decode cL_isWithin 40 = .ok (.lmul, 1) := by decide +kernel
theorem dL_isWithin_41 : decode cL_isWithin 41 = .ok (.lload 8, 2) := by decide +kernel
theorem dL_isWithin_43 : decode cL_isWithin 43 = .ok (.aload_n 0, 1) := by decide +kernel
theorem dL_isWithin_44 : decode cL_isWithin 44 = .ok (.iload 7, 2) := by decide +kernel
theorem dL_isWithin_46 : decode cL_isWithin 46 = .ok (.iload_n 1, 1) := by decide +kernel
theorem dL_isWithin_47 : decode cL_isWithin 47 = .ok (.invokestatic 65, 3) := by decide +kernel
theorem dL_isWithin_50 : decode cL_isWithin 50 = .ok (.i2l, 1) := by decide +kernel
theorem dL_isWithin_51 : decode cL_isWithin 51 = .ok (.lmul, 1) := by decide +kernel
theorem dL_isWithin_52 : decode cL_isWithin 52 = .ok (.lload 5, 2) := by decide +kernel
theorem dL_isWithin_54 : decode cL_isWithin 54 = .ok (.lmul, 1) := by decide +kernel
theorem dL_isWithin_55 : decode cL_isWithin 55 = .ok (.ladd, 1) := by decide +kernel
theorem dL_isWithin_56 : decode cL_isWithin 56 = .ok (.lstore 12, 2) := by decide +kernel
theorem dL_isWithin_58 : decode cL_isWithin 58 = .ok (.lload 12, 2) := by decide +kernel
theorem dL_isWithin_60 : decode cL_isWithin 60 = .ok (.lload 5, 2) := by decide +kernel
theorem dL_isWithin_62 : decode cL_isWithin 62 = .ok (.lload 10, 2) := by decide +kernel
theorem dL_isWithin_64 : decode cL_isWithin 64 = .ok (.lmul, 1) := by decide +kernel
theorem dL_isWithin_65 : decode cL_isWithin 65 = .ok (.invokestatic 67, 3) := by decide +kernel
theorem dL_isWithin_68 : decode cL_isWithin 68 = .ok (.lstore 14, 2) := by decide +kernel
theorem dL_isWithin_70 : decode cL_isWithin 70 = .ok (.lload 12, 2) := by decide +kernel
theorem dL_isWithin_72 : decode cL_isWithin 72 = .ok (.lload 14, 2) := by decide +kernel
theorem dL_isWithin_74 : decode cL_isWithin 74 = .ok (.ldiv, 1) := by decide +kernel
theorem dL_isWithin_75 : decode cL_isWithin 75 = .ok (.lstore_n 3, 1) := by decide +kernel
theorem dL_isWithin_76 : decode cL_isWithin 76 = .ok (.lload 5, 2) := by decide +kernel
theorem dL_isWithin_78 : decode cL_isWithin 78 = .ok (.lload 10, 2) := by decide +kernel
theorem dL_isWithin_80 : decode cL_isWithin 80 = .ok (.lmul, 1) := by decide +kernel
theorem dL_isWithin_81 : decode cL_isWithin 81 = .ok (.lload 14, 2) := by decide +kernel
theorem dL_isWithin_83 : decode cL_isWithin 83 = .ok (.ldiv, 1) := by decide +kernel
theorem dL_isWithin_84 : decode cL_isWithin 84 = .ok (.lstore 5, 2) := by decide +kernel
theorem dL_isWithin_86 : decode cL_isWithin 86 = .ok (.iinc 7 1, 3) := by decide +kernel
theorem dL_isWithin_89 : decode cL_isWithin 89 = .ok (.goto (-81), 3) := by decide +kernel
theorem dL_isWithin_92 : decode cL_isWithin 92 = .ok (.lload_n 3, 1) := by decide +kernel
theorem dL_isWithin_93 : decode cL_isWithin 93 = .ok (.iload_n 2, 1) := by decide +kernel
theorem dL_isWithin_94 : decode cL_isWithin 94 = .ok (.i2l, 1) := by decide +kernel
theorem dL_isWithin_95 : decode cL_isWithin 95 = .ok (.lload 5, 2) := by decide +kernel
theorem dL_isWithin_97 : decode cL_isWithin 97 = .ok (.lmul, 1) := by decide +kernel
theorem dL_isWithin_98 : decode cL_isWithin 98 = .ok (.lcmp, 1) := by decide +kernel
theorem dL_isWithin_99 : decode cL_isWithin 99 = .ok (.ifCond .gt 7, 3) := by decide +kernel
theorem dL_isWithin_102 : decode cL_isWithin 102 = .ok (.iconst 1, 1) := by decide +kernel
theorem dL_isWithin_103 : decode cL_isWithin 103 = .ok (.goto 4, 3) := by decide +kernel
theorem dL_isWithin_106 : decode cL_isWithin 106 = .ok (.iconst 0, 1) := by decide +kernel
theorem dL_isWithin_107 : decode cL_isWithin 107 = .ok (.ireturn, 1) := by decide +kernel
set_option maxRecDepth 20000 in
theorem ggL_divides_X6_bound : GoodIn wsL_divides wsX6_bound := goodIn_r _ [5, 6, 7, 8, 9, 4, 10, 11, 12, 13, 14, 15, 16, 17, 18, 19, 20, 21, 22, 23, 24, 25, 26, 27, 28, 29, 30, 31, 32, 33, 34, 35, 36, 37, 38, 39, 40, 41, 42, 43, 44, 45, 46, 47, 48, 49, 50, 51, 52, 53, 54, 55, 56, 57, 58, 59, 60, 61, 62, 63, 64, 65, 66, 67, 68, 69, 70, 71, 72, 73, 74, 75, 76, 77, 78, 79, 80, 81, 82, 83, 84, 85, 86, 87, 88, 89, 90, 91, 92, 93, 94, 95, 96, 97, 98, 99, 100, 101, 102, 103, 104, 105, 106, 107, 108, 109, 110, 111, 112, 113, 114, 115, 116, 117, 118, 119, 120, 121, 122, 123, 124, 125, 126, 127, 128, 129, 196, 197, 198, 199, 200, 201, 202, 203, 204, 205, 206, 207, 208, 209, 210, 211, 212, 213, 214, 215, 216] (by decide +kernel) (by decide +kernel)
set_option maxRecDepth 20000 in
theorem gL_divides_X6_bound : GoodIn wsL_divides (wsV RL 71 RX6 yX6_bound wsX6_bound) := goodIn_app (goodIn_of _ (by decide +kernel)) ggL_divides_X6_bound
set_option maxRecDepth 20000 in
theorem ggL_divides_X6_jobs : GoodIn wsL_divides wsX6_jobs := goodIn_r _ [133, 12, 196, 197, 198, 199, 200, 201, 202, 214, 215] (by decide +kernel) (by decide +kernel)
set_option maxRecDepth 20000 in
theorem gL_divides_X6_jobs : GoodIn wsL_divides (wsV RL 54 RX6 yX6_jobs wsX6_jobs) := goodIn_app (goodIn_of _ (by decide +kernel)) ggL_divides_X6_jobs
set_option maxRecDepth 20000 in
theorem ggL_divides_L_numerator : GoodIn wsL_divides wsL_numerator := goodIn_ca (goodIn_r _ [137, 138, 139, 140, 141, 4, 142, 6, 143, 144, 145, 146, 147, 148, 12, 149, 150, 151, 7, 8, 9, 10, 11, 13, 14, 15, 16, 17, 18, 19, 20, 21, 22, 23, 24, 25, 26, 27, 28, 29, 30, 31, 32, 33, 34, 35, 36, 37, 38, 39, 40, 41, 42, 43, 44, 45, 46, 47, 48, 49, 50, 51, 52, 53, 54, 55, 56, 57, 58, 59, 60, 61, 62, 63, 64, 65, 66, 67, 68, 69, 70, 71, 72, 73, 74, 75, 76, 77, 78, 79, 80, 81, 82, 83, 84, 85, 86, 87, 88, 89, 90, 91, 92, 93, 94, 95, 96, 97, 98, 99, 100, 101, 102, 103, 104, 105, 106, 107, 108, 109, 110, 111, 112, 113, 114, 115, 116, 117, 118, 119, 120, 121, 122, 123, 124, 125, 126, 127, 128, 129, 196, 197, 198, 199, 200, 201, 202, 203, 204, 205, 206, 207, 208, 214, 215, 209, 210, 211, 212, 213, 216] (by decide +kernel) (by decide +kernel)) (goodIn_sub (fun _ h => List.mem_cons_of_mem _ (List.mem_append_right _ h)) (by decide +kernel))
set_option maxRecDepth 20000 in
theorem gL_divides_L_numerator : GoodIn wsL_divides (va_wsS RL 58 yL_numerator wsL_numerator) := goodIn_app (goodIn_of _ (by decide +kernel)) ggL_divides_L_numerator
set_option maxRecDepth 20000 in
theorem ggL_divides_L_denominator : GoodIn wsL_divides wsL_denominator := goodIn_ca (goodIn_r _ [154, 138, 155, 156, 157, 4, 158, 6, 143, 144, 145, 146, 147, 148, 12, 149, 150, 151, 7, 8, 9, 10, 11, 13, 14, 15, 16, 17, 18, 19, 20, 21, 22, 23, 24, 25, 26, 27, 28, 29, 30, 31, 32, 33, 34, 35, 36, 37, 38, 39, 40, 41, 42, 43, 44, 45, 46, 47, 48, 49, 50, 51, 52, 53, 54, 55, 56, 57, 58, 59, 60, 61, 62, 63, 64, 65, 66, 67, 68, 69, 70, 71, 72, 73, 74, 75, 76, 77, 78, 79, 80, 81, 82, 83, 84, 85, 86, 87, 88, 89, 90, 91, 92, 93, 94, 95, 96, 97, 98, 99, 100, 101, 102, 103, 104, 105, 106, 107, 108, 109, 110, 111, 112, 113, 114, 115, 116, 117, 118, 119, 120, 121, 122, 123, 124, 125, 126, 127, 128, 129, 196, 197, 198, 199, 200, 201, 202, 203, 204, 205, 206, 207, 208, 214, 215, 209, 210, 211, 212, 213, 216] (by decide +kernel) (by decide +kernel)) (goodIn_sub (fun _ h => List.mem_cons_of_mem _ (List.mem_append_right _ h)) (by decide +kernel))
set_option maxRecDepth 20000 in
theorem gL_divides_L_denominator : GoodIn wsL_divides (va_wsS RL 63 yL_denominator wsL_denominator) := goodIn_app (goodIn_of _ (by decide +kernel)) ggL_divides_L_denominator
set_option maxRecDepth 20000 in
theorem ggL_divides_L_time : GoodIn wsL_divides wsL_time := goodIn_ca (goodIn_r _ [161, 138, 162, 163, 164, 4, 165, 12, 143, 144, 145, 146, 147, 148, 149, 150, 151, 166, 51, 52, 53, 54, 55, 56, 196, 197, 198, 199, 200, 201, 202, 214, 215] (by decide +kernel) (by decide +kernel)) (goodIn_sub (fun _ h => List.mem_cons_of_mem _ (List.mem_append_right _ h)) (by decide +kernel))
set_option maxRecDepth 20000 in
theorem gL_divides_L_time : GoodIn wsL_divides (va_wsS RL 65 yL_time wsL_time) := goodIn_app (goodIn_of _ (by decide +kernel)) ggL_divides_L_time
set_option maxRecDepth 20000 in
theorem ggL_divides_L_common : GoodIn wsL_divides wsL_common := goodIn_r _ [169] (by decide +kernel) (by decide +kernel)
set_option maxRecDepth 20000 in
theorem gL_divides_L_common : GoodIn wsL_divides (va_wsS RL 67 yL_common wsL_common) := goodIn_app (goodIn_of _ (by decide +kernel)) ggL_divides_L_common
set_option maxRecDepth 20000 in
theorem ggL_divides_L_roundedOn : GoodIn wsL_divides wsL_roundedOn := goodIn_ca (goodIn_r _ [172, 138, 173, 174, 175, 4, 176, 13, 143, 144, 145, 146, 147, 148, 12, 7, 8, 9, 10, 11, 6, 14, 15, 16, 17, 18, 19, 20, 21, 22, 23, 24, 25, 26, 27, 28, 29, 30, 31, 32, 33, 34, 35, 36, 37, 38, 39, 40, 41, 42, 43, 44, 45, 46, 47, 48, 49, 50, 51, 52, 53, 54, 55, 56, 57, 58, 59, 60, 61, 62, 63, 64, 65, 66, 67, 68, 69, 70, 71, 72, 73, 74, 75, 76, 77, 78, 79, 80, 81, 82, 83, 84, 85, 86, 87, 88, 89, 90, 91, 92, 93, 94, 95, 96, 97, 98, 99, 100, 101, 102, 103, 104, 105, 106, 107, 108, 109, 110, 111, 112, 113, 114, 115, 116, 117, 118, 119, 120, 121, 122, 123, 124, 125, 126, 127, 128, 129, 196, 197, 198, 199, 200, 201, 202, 216, 214, 215, 203, 204, 205, 206, 207, 208, 209, 210, 211, 212, 213] (by decide +kernel) (by decide +kernel)) (goodIn_sub (fun _ h => List.mem_cons_of_mem _ (List.mem_append_right _ h)) (by decide +kernel))
set_option maxRecDepth 20000 in
theorem gL_divides_L_roundedOn : GoodIn wsL_divides (va_wsS RL 74 yL_roundedOn wsL_roundedOn) := goodIn_app (goodIn_of _ (by decide +kernel)) ggL_divides_L_roundedOn
set_option maxRecDepth 20000 in
theorem ggL_divides_L_divided : GoodIn wsL_divides wsL_divided := goodIn_ca (goodIn_r _ [179, 138, 180, 181, 182, 4, 183, 6, 143, 144, 145, 146, 147, 148, 12, 7, 8, 9, 10, 11, 13, 14, 15, 16, 17, 18, 19, 20, 21, 22, 23, 24, 25, 26, 27, 28, 29, 30, 31, 32, 33, 34, 35, 36, 37, 38, 39, 40, 41, 42, 43, 44, 45, 46, 47, 48, 49, 50, 51, 52, 53, 54, 55, 56, 57, 58, 59, 60, 61, 62, 63, 64, 65, 66, 67, 68, 69, 70, 71, 72, 73, 74, 75, 76, 77, 78, 79, 80, 81, 82, 83, 84, 85, 86, 87, 88, 89, 90, 91, 92, 93, 94, 95, 96, 97, 98, 99, 100, 101, 102, 103, 104, 105, 106, 107, 108, 109, 110, 111, 112, 113, 114, 115, 116, 117, 118, 119, 120, 121, 122, 123, 124, 125, 126, 127, 128, 129, 184, 196, 197, 198, 199, 200, 201, 202, 214, 215, 203, 204, 205, 206, 207, 208, 209, 210, 211, 212, 213, 216] (by decide +kernel) (by decide +kernel)) (goodIn_sub (fun _ h => List.mem_cons_of_mem _ (List.mem_append_right _ h)) (by decide +kernel))
set_option maxRecDepth 20000 in
theorem gL_divides_L_divided : GoodIn wsL_divides (va_wsS RL 78 yL_divided wsL_divided) := goodIn_app (goodIn_of _ (by decide +kernel)) ggL_divides_L_divided
set_option maxRecDepth 20000 in
theorem ggL_divides_L_isWithin : GoodIn wsL_divides wsL_isWithin := goodIn_ca (goodIn_r _ [187, 130, 131, 132, 4, 133, 12, 134, 135, 136, 137, 138, 139, 140, 141, 142, 6, 143, 144, 145, 146, 147, 148, 149, 150, 151, 7, 8, 9, 10, 11, 13, 14, 15, 16, 17, 18, 19, 20, 21, 22, 23, 24, 25, 26, 27, 28, 29, 30, 31, 32, 33, 34, 35, 36, 37, 38, 39, 40, 41, 42, 43, 44, 45, 46, 47, 48, 49, 50, 51, 52, 53, 54, 55, 56, 57, 58, 59, 60, 61, 62, 63, 64, 65, 66, 67, 68, 69, 70, 71, 72, 73, 74, 75, 76, 77, 78, 79, 80, 81, 82, 83, 84, 85, 86, 87, 88, 89, 90, 91, 92, 93, 94, 95, 96, 97, 98, 99, 100, 101, 102, 103, 104, 105, 106, 107, 108, 109, 110, 111, 112, 113, 114, 115, 116, 117, 118, 119, 120, 121, 122, 123, 124, 125, 126, 127, 128, 129, 152, 153, 154, 155, 156, 157, 158, 159, 160, 161, 162, 163, 164, 165, 166, 167, 168, 169, 196, 197, 198, 199, 200, 201, 202, 214, 215, 203, 204, 205, 206, 207, 208, 209, 210, 211, 212, 213, 216] (by decide +kernel) (by decide +kernel)) (goodIn_sub (fun _ h => List.mem_cons_of_mem _ (List.mem_append_right _ h)) (by decide +kernel))
set_option maxRecDepth 20000 in
theorem gL_divides_L_isWithin : GoodIn wsL_divides (va_wsS RL 81 yL_isWithin wsL_isWithin) := goodIn_app (goodIn_of _ (by decide +kernel)) ggL_divides_L_isWithin
set_option maxRecDepth 20000 in
theorem ggL_divides_X6_leastNumerator : GoodIn wsL_divides wsX6_leastNumerator := goodIn_r _ [191, 6, 7, 8, 9, 4, 10, 11, 12, 13, 14, 15, 16, 17, 18, 19, 20, 21, 22, 23, 24, 25, 26, 27, 28, 29, 30, 31, 32, 33, 34, 35, 36, 37, 38, 39, 40, 41, 42, 43, 44, 45, 46, 47, 48, 49, 50, 51, 52, 53, 54, 55, 56, 57, 58, 59, 60, 61, 62, 63, 64, 65, 66, 67, 68, 69, 70, 71, 72, 73, 74, 75, 76, 77, 78, 79, 80, 81, 82, 83, 84, 85, 86, 87, 88, 89, 90, 91, 92, 93, 94, 95, 96, 97, 98, 99, 100, 101, 102, 103, 104, 105, 106, 107, 108, 109, 110, 111, 112, 113, 114, 115, 116, 117, 118, 119, 120, 121, 122, 123, 124, 125, 126, 127, 128, 129, 196, 197, 198, 199, 200, 201, 202, 203, 204, 205, 206, 207, 208, 209, 210, 211, 212, 213, 214, 215, 216] (by decide +kernel) (by decide +kernel)
set_option maxRecDepth 20000 in
theorem gL_divides_X6_leastNumerator : GoodIn wsL_divides (wsV RL 85 RX6 yX6_leastNumerator wsX6_leastNumerator) := goodIn_app (goodIn_of _ (by decide +kernel)) ggL_divides_X6_leastNumerator
set_option maxRecDepth 20000 in
theorem ggL_divides_X6_leastDenominator : GoodIn wsL_divides wsX6_leastDenominator := goodIn_r _ [195, 6, 7, 8, 9, 4, 10, 11, 12, 13, 14, 15, 16, 17, 18, 19, 20, 21, 22, 23, 24, 25, 26, 27, 28, 29, 30, 31, 32, 33, 34, 35, 36, 37, 38, 39, 40, 41, 42, 43, 44, 45, 46, 47, 48, 49, 50, 51, 52, 53, 54, 55, 56, 57, 58, 59, 60, 61, 62, 63, 64, 65, 66, 67, 68, 69, 70, 71, 72, 73, 74, 75, 76, 77, 78, 79, 80, 81, 82, 83, 84, 85, 86, 87, 88, 89, 90, 91, 92, 93, 94, 95, 96, 97, 98, 99, 100, 101, 102, 103, 104, 105, 106, 107, 108, 109, 110, 111, 112, 113, 114, 115, 116, 117, 118, 119, 120, 121, 122, 123, 124, 125, 126, 127, 128, 129, 196, 197, 198, 199, 200, 201, 202, 203, 204, 205, 206, 207, 208, 209, 210, 211, 212, 213, 214, 215, 216] (by decide +kernel) (by decide +kernel)
set_option maxRecDepth 20000 in
theorem gL_divides_X6_leastDenominator : GoodIn wsL_divides (wsV RL 88 RX6 yX6_leastDenominator wsX6_leastDenominator) := goodIn_app (goodIn_of _ (by decide +kernel)) ggL_divides_X6_leastDenominator
theorem dL_divides_0 : decode cL_divides 0 = .ok (.aload_n 0, 1) := by decide +kernel
theorem dL_divides_1 : decode cL_divides 1 = .ok (.invokevirtual 71, 3) := by decide +kernel
theorem dL_divides_4 : decode cL_divides 4 = .ok (.istore_n 1, 1) := by decide +kernel
theorem dL_divides_5 : decode cL_divides 5 = .ok (.aload_n 0, 1) := by decide +kernel
theorem dL_divides_6 : decode cL_divides 6 = .ok (.invokevirtual 54, 3) := by decide +kernel
theorem dL_divides_9 : decode cL_divides 9 = .ok (.ifCond .ne 7, 3) := by decide +kernel
theorem dL_divides_12 : decode cL_divides 12 = .ok (.iconst 1, 1) := by decide +kernel
theorem dL_divides_13 : decode cL_divides 13 = .ok (.goto 4, 3) := by decide +kernel
theorem dL_divides_16 : decode cL_divides 16 = .ok (.iconst 0, 1) := by decide +kernel
theorem dL_divides_17 : decode cL_divides 17 = .ok (.iload_n 1, 1) := by decide +kernel
theorem dL_divides_18 : decode cL_divides 18 = .ok (.ifCond .ne 7, 3) := by decide +kernel
theorem dL_divides_21 : decode cL_divides 21 = .ok (.iconst 1, 1) := by decide +kernel
theorem dL_divides_22 : decode cL_divides 22 = .ok (.goto 4, 3) := by decide +kernel
theorem dL_divides_25 : decode cL_divides 25 = .ok (.iconst 0, 1) := by decide +kernel
theorem dL_divides_26 : decode cL_divides 26 = .ok (.if_icmp .ne 7, 3) := by decide +kernel
theorem dL_divides_29 : decode cL_divides 29 = .ok (.iconst 1, 1) := by decide +kernel
theorem dL_divides_30 : decode cL_divides 30 = .ok (.goto 4, 3) := by decide +kernel
theorem dL_divides_33 : decode cL_divides 33 = .ok (.iconst 0, 1) := by decide +kernel
theorem dL_divides_34 : decode cL_divides 34 = .ok (.istore_n 2, 1) := by decide +kernel
theorem dL_divides_35 : decode cL_divides 35 = .ok (.iconst 0, 1) := by decide +kernel
theorem dL_divides_36 : decode cL_divides 36 = .ok (.istore_n 3, 1) := by decide +kernel
theorem dL_divides_37 : decode cL_divides 37 = .ok (.iconst 0, 1) := by decide +kernel
theorem dL_divides_38 : decode cL_divides 38 = .ok (.istore 4, 2) := by decide +kernel
theorem dL_divides_40 : decode cL_divides 40 = .ok (.iconst 0, 1) := by decide +kernel
theorem dL_divides_41 : decode cL_divides 41 = .ok (.istore 5, 2) := by decide +kernel
theorem dL_divides_43 : decode cL_divides 43 = .ok (.iload 5, 2) := by decide +kernel
theorem dL_divides_45 : decode cL_divides 45 = .ok (.aload_n 0, 1) := by decide +kernel
theorem dL_divides_46 : decode cL_divides 46 = .ok (.invokevirtual 54, 3) := by decide +kernel
theorem dL_divides_49 : decode cL_divides 49 = .ok (.if_icmp .ge 295, 3) := by decide +kernel
theorem dL_divides_52 : decode cL_divides 52 = .ok (.iload_n 2, 1) := by decide +kernel
theorem dL_divides_53 : decode cL_divides 53 = .ok (.ifCond .eq 291, 3) := by decide +kernel
theorem dL_divides_56 : decode cL_divides 56 = .ok (.lconst 0, 1) := by decide +kernel
theorem dL_divides_57 : decode cL_divides 57 = .ok (.lstore 6, 2) := by decide +kernel
theorem dL_divides_59 : decode cL_divides 59 = .ok (.lconst 1, 1) := by decide +kernel
theorem dL_divides_60 : decode cL_divides 60 = .ok (.lstore 8, 2) := by decide +kernel
theorem dL_divides_62 : decode cL_divides 62 = .ok (.iconst 0, 1) := by decide +kernel
theorem dL_divides_63 : decode cL_divides 63 = .ok (.istore 10, 2) := by decide +kernel
theorem dL_divides_65 : decode cL_divides 65 = .ok (.iconst 0, 1) := by decide +kernel
theorem dL_divides_66 : decode cL_divides 66 = .ok (.istore 11, 2) := by decide +kernel
theorem dL_divides_68 : decode cL_divides 68 = .ok (.iload 11, 2) := by decide +kernel
theorem dL_divides_70 : decode cL_divides 70 = .ok (.iconst 3, 1) := by decide +kernel
theorem dL_divides_71 : decode cL_divides 71 = .ok (.if_icmp .ge 149, 3) := by decide +kernel
theorem dL_divides_74 : decode cL_divides 74 = .ok (.iload_n 2, 1) := by decide +kernel
theorem dL_divides_75 : decode cL_divides 75 = .ok (.ifCond .eq 145, 3) := by decide +kernel
theorem dL_divides_78 : decode cL_divides 78 = .ok (.aload_n 0, 1) := by decide +kernel
theorem dL_divides_79 : decode cL_divides 79 = .ok (.iload 5, 2) := by decide +kernel
theorem dL_divides_81 : decode cL_divides 81 = .ok (.iload 11, 2) := by decide +kernel
theorem dL_divides_83 : decode cL_divides 83 = .ok (.invokestatic 58, 3) := by decide +kernel
theorem dL_divides_86 : decode cL_divides 86 = .ok (.i2l, 1) := by decide +kernel
theorem dL_divides_87 : decode cL_divides 87 = .ok (.lstore 12, 2) := by decide +kernel
theorem dL_divides_89 : decode cL_divides 89 = .ok (.aload_n 0, 1) := by decide +kernel
theorem dL_divides_90 : decode cL_divides 90 = .ok (.iload 5, 2) := by decide +kernel
theorem dL_divides_92 : decode cL_divides 92 = .ok (.iload 11, 2) := by decide +kernel
theorem dL_divides_94 : decode cL_divides 94 = .ok (.invokestatic 63, 3) := by decide +kernel
theorem dL_divides_97 : decode cL_divides 97 = .ok (.i2l, 1) := by decide +kernel
theorem dL_divides_98 : decode cL_divides 98 = .ok (.lstore 14, 2) := by decide +kernel
theorem dL_divides_100 : decode cL_divides 100 = .ok (.aload_n 0, 1) := by decide +kernel
theorem dL_divides_101 : decode cL_divides 101 = .ok (.iload 5, 2) := by decide +kernel
theorem dL_divides_103 : decode cL_divides 103 = .ok (.iload 11, 2) := by decide +kernel
theorem dL_divides_105 : decode cL_divides 105 = .ok (.invokestatic 65, 3) := by decide +kernel
theorem dL_divides_108 : decode cL_divides 108 = .ok (.istore 16, 2) := by decide +kernel
theorem dL_divides_110 : decode cL_divides 110 = .ok (.lload 12, 2) := by decide +kernel
theorem dL_divides_112 : decode cL_divides 112 = .ok (.lconst 0, 1) := by decide +kernel
theorem dL_divides_113 : decode cL_divides 113 = .ok (.lcmp, 1) := by decide +kernel
theorem dL_divides_114 : decode cL_divides 114 = .ok (.ifCond .lt 52, 3) := by decide +kernel
theorem dL_divides_117 : decode cL_divides 117 = .ok (.lload 14, 2) := by decide +kernel
theorem dL_divides_119 : decode cL_divides 119 = .ok (.lconst 1, 1) := by decide +kernel
theorem dL_divides_120 : decode cL_divides 120 = .ok (.lcmp, 1) := by decide +kernel
theorem dL_divides_121 : decode cL_divides 121 = .ok (.ifCond .lt 45, 3) := by decide +kernel
theorem dL_divides_124 : decode cL_divides 124 = .ok (.lload 12, 2) := by decide +kernel
theorem dL_divides_126 : decode cL_divides 126 = .ok (.lload 14, 2) := by decide +kernel
theorem dL_divides_128 : decode cL_divides 128 = .ok (.lcmp, 1) := by decide +kernel
theorem dL_divides_129 : decode cL_divides 129 = .ok (.ifCond .gt 37, 3) := by decide +kernel
theorem dL_divides_132 : decode cL_divides 132 = .ok (.lload 12, 2) := by decide +kernel
theorem dL_divides_134 : decode cL_divides 134 = .ok (.lload 14, 2) := by decide +kernel
theorem dL_divides_136 : decode cL_divides 136 = .ok (.invokestatic 67, 3) := by decide +kernel
theorem dL_divides_139 : decode cL_divides 139 = .ok (.lconst 1, 1) := by decide +kernel
theorem dL_divides_140 : decode cL_divides 140 = .ok (.lcmp, 1) := by decide +kernel
theorem dL_divides_141 : decode cL_divides 141 = .ok (.ifCond .ne 25, 3) := by decide +kernel
theorem dL_divides_144 : decode cL_divides 144 = .ok (.lload 12, 2) := by decide +kernel
theorem dL_divides_146 : decode cL_divides 146 = .ok (.lconst 0, 1) := by decide +kernel
theorem dL_divides_147 : decode cL_divides 147 = .ok (.lcmp, 1) := by decide +kernel
theorem dL_divides_148 : decode cL_divides 148 = .ok (.ifCond .eq 14, 3) := by decide +kernel
theorem dL_divides_151 : decode cL_divides 151 = .ok (.iload 16, 2) := by decide +kernel
theorem dL_divides_153 : decode cL_divides 153 = .ok (.ifCond .le 13, 3) := by decide +kernel
theorem dL_divides_156 : decode cL_divides 156 = .ok (.iload 16, 2) := by decide +kernel
theorem dL_divides_158 : decode cL_divides 158 = .ok (.iload_n 1, 1) := by decide +kernel
theorem dL_divides_159 : decode cL_divides 159 = .ok (.if_icmp .gt 7, 3) := by decide +kernel
theorem dL_divides_162 : decode cL_divides 162 = .ok (.iconst 1, 1) := by decide +kernel
theorem dL_divides_163 : decode cL_divides 163 = .ok (.goto 4, 3) := by decide +kernel
theorem dL_divides_166 : decode cL_divides 166 = .ok (.iconst 0, 1) := by decide +kernel
theorem dL_divides_167 : decode cL_divides 167 = .ok (.istore_n 2, 1) := by decide +kernel
theorem dL_divides_168 : decode cL_divides 168 = .ok (.iload 10, 2) := by decide +kernel
theorem dL_divides_170 : decode cL_divides 170 = .ok (.ifCond .ne 17, 3) := by decide +kernel
theorem dL_divides_173 : decode cL_divides 173 = .ok (.lload 12, 2) := by decide +kernel
theorem dL_divides_175 : decode cL_divides 175 = .ok (.lconst 1, 1) := by decide +kernel
theorem dL_divides_176 : decode cL_divides 176 = .ok (.lcmp, 1) := by decide +kernel
theorem dL_divides_177 : decode cL_divides 177 = .ok (.ifCond .ne 14, 3) := by decide +kernel
theorem dL_divides_180 : decode cL_divides 180 = .ok (.lload 14, 2) := by decide +kernel
theorem dL_divides_182 : decode cL_divides 182 = .ok (.lconst 1, 1) := by decide +kernel
theorem dL_divides_183 : decode cL_divides 183 = .ok (.lcmp, 1) := by decide +kernel
theorem dL_divides_184 : decode cL_divides 184 = .ok (.ifCond .ne 7, 3) := by decide +kernel
theorem dL_divides_187 : decode cL_divides 187 = .ok (.iconst 1, 1) := by decide +kernel
theorem dL_divides_188 : decode cL_divides 188 = .ok (.goto 4, 3) := by decide +kernel
theorem dL_divides_191 : decode cL_divides 191 = .ok (.iconst 0, 1) := by decide +kernel
theorem dL_divides_192 : decode cL_divides 192 = .ok (.istore 10, 2) := by decide +kernel
theorem dL_divides_194 : decode cL_divides 194 = .ok (.lload 6, 2) := by decide +kernel
theorem dL_divides_196 : decode cL_divides 196 = .ok (.lload 14, 2) := by decide +kernel
theorem dL_divides_198 : decode cL_divides 198 = .ok (.lmul, 1) := by decide +kernel
theorem dL_divides_199 : decode cL_divides 199 = .ok (.lload 12, 2) := by decide +kernel
theorem dL_divides_201 : decode cL_divides 201 = .ok (.lload 8, 2) := by decide +kernel
theorem dL_divides_203 : decode cL_divides 203 = .ok (.lmul, 1) := by decide +kernel
theorem dL_divides_204 : decode cL_divides 204 = .ok (.ladd, 1) := by decide +kernel
theorem dL_divides_205 : decode cL_divides 205 = .ok (.lstore 6, 2) := by decide +kernel
theorem dL_divides_207 : decode cL_divides 207 = .ok (.lload 8, 2) := by decide +kernel
theorem dL_divides_209 : decode cL_divides 209 = .ok (.lload 14, 2) := by decide +kernel
theorem dL_divides_211 : decode cL_divides 211 = .ok (.lmul, 1) := by decide +kernel
theorem dL_divides_212 : decode cL_divides 212 = .ok (.lstore 8, 2) := by decide +kernel
theorem dL_divides_214 : decode cL_divides 214 = .ok (.iinc 11 1, 3) := by decide +kernel
theorem dL_divides_217 : decode cL_divides 217 = .ok (.goto (-149), 3) := by decide +kernel
theorem dL_divides_220 : decode cL_divides 220 = .ok (.aload_n 0, 1) := by decide +kernel
theorem dL_divides_221 : decode cL_divides 221 = .ok (.iload 5, 2) := by decide +kernel
theorem dL_divides_223 : decode cL_divides 223 = .ok (.invokestatic 74, 3) := by decide +kernel
theorem dL_divides_226 : decode cL_divides 226 = .ok (.istore 11, 2) := by decide +kernel
theorem dL_divides_228 : decode cL_divides 228 = .ok (.iload_n 2, 1) := by decide +kernel
theorem dL_divides_229 : decode cL_divides 229 = .ok (.ifCond .eq 73, 3) := by decide +kernel
theorem dL_divides_232 : decode cL_divides 232 = .ok (.lload 6, 2) := by decide +kernel
theorem dL_divides_234 : decode cL_divides 234 = .ok (.lload 8, 2) := by decide +kernel
theorem dL_divides_236 : decode cL_divides 236 = .ok (.lcmp, 1) := by decide +kernel
theorem dL_divides_237 : decode cL_divides 237 = .ok (.ifCond .ne 65, 3) := by decide +kernel
theorem dL_divides_240 : decode cL_divides 240 = .ok (.aload_n 0, 1) := by decide +kernel
theorem dL_divides_241 : decode cL_divides 241 = .ok (.iload 5, 2) := by decide +kernel
theorem dL_divides_243 : decode cL_divides 243 = .ok (.invokestatic 78, 3) := by decide +kernel
theorem dL_divides_246 : decode cL_divides 246 = .ok (.ifCond .ne 7, 3) := by decide +kernel
theorem dL_divides_249 : decode cL_divides 249 = .ok (.iconst 1, 1) := by decide +kernel
theorem dL_divides_250 : decode cL_divides 250 = .ok (.goto 4, 3) := by decide +kernel
theorem dL_divides_253 : decode cL_divides 253 = .ok (.iconst 0, 1) := by decide +kernel
theorem dL_divides_254 : decode cL_divides 254 = .ok (.iload 10, 2) := by decide +kernel
theorem dL_divides_256 : decode cL_divides 256 = .ok (.if_icmp .ne 46, 3) := by decide +kernel
theorem dL_divides_259 : decode cL_divides 259 = .ok (.iload 11, 2) := by decide +kernel
theorem dL_divides_261 : decode cL_divides 261 = .ok (.ifCond .lt 41, 3) := by decide +kernel
theorem dL_divides_264 : decode cL_divides 264 = .ok (.iload 11, 2) := by decide +kernel
theorem dL_divides_266 : decode cL_divides 266 = .ok (.iconst 3, 1) := by decide +kernel
theorem dL_divides_267 : decode cL_divides 267 = .ok (.if_icmp .ge 35, 3) := by decide +kernel
theorem dL_divides_270 : decode cL_divides 270 = .ok (.aload_n 0, 1) := by decide +kernel
theorem dL_divides_271 : decode cL_divides 271 = .ok (.iload 5, 2) := by decide +kernel
theorem dL_divides_273 : decode cL_divides 273 = .ok (.iload 11, 2) := by decide +kernel
theorem dL_divides_275 : decode cL_divides 275 = .ok (.invokestatic 58, 3) := by decide +kernel
theorem dL_divides_278 : decode cL_divides 278 = .ok (.ifCond .le 24, 3) := by decide +kernel
theorem dL_divides_281 : decode cL_divides 281 = .ok (.iload 10, 2) := by decide +kernel
theorem dL_divides_283 : decode cL_divides 283 = .ok (.ifCond .eq 15, 3) := by decide +kernel
theorem dL_divides_286 : decode cL_divides 286 = .ok (.aload_n 0, 1) := by decide +kernel
theorem dL_divides_287 : decode cL_divides 287 = .ok (.iload 5, 2) := by decide +kernel
theorem dL_divides_289 : decode cL_divides 289 = .ok (.iload 11, 2) := by decide +kernel
theorem dL_divides_291 : decode cL_divides 291 = .ok (.invokestatic 63, 3) := by decide +kernel
theorem dL_divides_294 : decode cL_divides 294 = .ok (.iconst 1, 1) := by decide +kernel
theorem dL_divides_295 : decode cL_divides 295 = .ok (.if_icmp .ne 7, 3) := by decide +kernel
theorem dL_divides_298 : decode cL_divides 298 = .ok (.iconst 1, 1) := by decide +kernel
theorem dL_divides_299 : decode cL_divides 299 = .ok (.goto 4, 3) := by decide +kernel
theorem dL_divides_302 : decode cL_divides 302 = .ok (.iconst 0, 1) := by decide +kernel
theorem dL_divides_303 : decode cL_divides 303 = .ok (.istore_n 2, 1) := by decide +kernel
theorem dL_divides_304 : decode cL_divides 304 = .ok (.iload_n 2, 1) := by decide +kernel
theorem dL_divides_305 : decode cL_divides 305 = .ok (.ifCond .eq 33, 3) := by decide +kernel
theorem dL_divides_308 : decode cL_divides 308 = .ok (.iload 10, 2) := by decide +kernel
theorem dL_divides_310 : decode cL_divides 310 = .ok (.ifCond .ne 28, 3) := by decide +kernel
theorem dL_divides_313 : decode cL_divides 313 = .ok (.iload_n 3, 1) := by decide +kernel
theorem dL_divides_314 : decode cL_divides 314 = .ok (.iload 11, 2) := by decide +kernel
theorem dL_divides_316 : decode cL_divides 316 = .ok (.ishr, 1) := by decide +kernel
theorem dL_divides_317 : decode cL_divides 317 = .ok (.iconst 1, 1) := by decide +kernel
theorem dL_divides_318 : decode cL_divides 318 = .ok (.iand, 1) := by decide +kernel
theorem dL_divides_319 : decode cL_divides 319 = .ok (.ifCond .ne 7, 3) := by decide +kernel
theorem dL_divides_322 : decode cL_divides 322 = .ok (.iconst 1, 1) := by decide +kernel
theorem dL_divides_323 : decode cL_divides 323 = .ok (.goto 4, 3) := by decide +kernel
theorem dL_divides_326 : decode cL_divides 326 = .ok (.iconst 0, 1) := by decide +kernel
theorem dL_divides_327 : decode cL_divides 327 = .ok (.istore_n 2, 1) := by decide +kernel
theorem dL_divides_328 : decode cL_divides 328 = .ok (.iload_n 3, 1) := by decide +kernel
theorem dL_divides_329 : decode cL_divides 329 = .ok (.iconst 1, 1) := by decide +kernel
theorem dL_divides_330 : decode cL_divides 330 = .ok (.iload 11, 2) := by decide +kernel
theorem dL_divides_332 : decode cL_divides 332 = .ok (.ishl, 1) := by decide +kernel
theorem dL_divides_333 : decode cL_divides 333 = .ok (.ior, 1) := by decide +kernel
theorem dL_divides_334 : decode cL_divides 334 = .ok (.istore_n 3, 1) := by decide +kernel
theorem dL_divides_335 : decode cL_divides 335 = .ok (.iinc 4 1, 3) := by decide +kernel
theorem dL_divides_338 : decode cL_divides 338 = .ok (.iinc 5 1, 3) := by decide +kernel
theorem dL_divides_341 : decode cL_divides 341 = .ok (.goto (-298), 3) := by decide +kernel
theorem dL_divides_344 : decode cL_divides 344 = .ok (.iconst 0, 1) := by decide +kernel
theorem dL_divides_345 : decode cL_divides 345 = .ok (.istore 5, 2) := by decide +kernel
theorem dL_divides_347 : decode cL_divides 347 = .ok (.iload 5, 2) := by decide +kernel
theorem dL_divides_349 : decode cL_divides 349 = .ok (.iconst 3, 1) := by decide +kernel
theorem dL_divides_350 : decode cL_divides 350 = .ok (.if_icmp .ge 21, 3) := by decide +kernel
theorem dL_divides_353 : decode cL_divides 353 = .ok (.iload_n 2, 1) := by decide +kernel
theorem dL_divides_354 : decode cL_divides 354 = .ok (.ifCond .eq 17, 3) := by decide +kernel
theorem dL_divides_357 : decode cL_divides 357 = .ok (.aload_n 0, 1) := by decide +kernel
theorem dL_divides_358 : decode cL_divides 358 = .ok (.iload 5, 2) := by decide +kernel
theorem dL_divides_360 : decode cL_divides 360 = .ok (.iload_n 1, 1) := by decide +kernel
theorem dL_divides_361 : decode cL_divides 361 = .ok (.invokestatic 81, 3) := by decide +kernel
theorem dL_divides_364 : decode cL_divides 364 = .ok (.istore_n 2, 1) := by decide +kernel
theorem dL_divides_365 : decode cL_divides 365 = .ok (.iinc 5 1, 3) := by decide +kernel
theorem dL_divides_368 : decode cL_divides 368 = .ok (.goto (-21), 3) := by decide +kernel
theorem dL_divides_371 : decode cL_divides 371 = .ok (.iload_n 2, 1) := by decide +kernel
theorem dL_divides_372 : decode cL_divides 372 = .ok (.ifCond .eq 48, 3) := by decide +kernel
theorem dL_divides_375 : decode cL_divides 375 = .ok (.iload 4, 2) := by decide +kernel
theorem dL_divides_377 : decode cL_divides 377 = .ok (.iconst 3, 1) := by decide +kernel
theorem dL_divides_378 : decode cL_divides 378 = .ok (.if_icmp .gt 42, 3) := by decide +kernel
theorem dL_divides_381 : decode cL_divides 381 = .ok (.aload_n 0, 1) := by decide +kernel
theorem dL_divides_382 : decode cL_divides 382 = .ok (.invokevirtual 85, 3) := by decide +kernel
theorem dL_divides_385 : decode cL_divides 385 = .ok (.i2l, 1) := by decide +kernel
theorem dL_divides_386 : decode cL_divides 386 = .ok (.iload_n 1, 1) := by decide +kernel
theorem dL_divides_387 : decode cL_divides 387 = .ok (.i2l, 1) := by decide +kernel
theorem dL_divides_388 : decode cL_divides 388 = .ok (.aload_n 0, 1) := by decide +kernel
theorem dL_divides_389 : decode cL_divides 389 = .ok (.invokevirtual 88, 3) := by decide +kernel
theorem dL_divides_392 : decode cL_divides 392 = .ok (.i2l, 1) := by decide +kernel
theorem dL_divides_393 : decode cL_divides 393 = .ok (.lmul, 1) := by decide +kernel
theorem dL_divides_394 : decode cL_divides 394 = .ok (.lcmp, 1) := by decide +kernel
theorem dL_divides_395 : decode cL_divides 395 = .ok (.ifCond .gt 25, 3) := by decide +kernel
theorem dL_divides_398 : decode cL_divides 398 = .ok (.aload_n 0, 1) := by decide +kernel
theorem dL_divides_399 : decode cL_divides 399 = .ok (.invokevirtual 85, 3) := by decide +kernel
theorem dL_divides_402 : decode cL_divides 402 = .ok (.i2l, 1) := by decide +kernel
theorem dL_divides_403 : decode cL_divides 403 = .ok (.aload_n 0, 1) := by decide +kernel
theorem dL_divides_404 : decode cL_divides 404 = .ok (.invokevirtual 88, 3) := by decide +kernel
theorem dL_divides_407 : decode cL_divides 407 = .ok (.i2l, 1) := by decide +kernel
theorem dL_divides_408 : decode cL_divides 408 = .ok (.invokestatic 67, 3) := by decide +kernel
theorem dL_divides_411 : decode cL_divides 411 = .ok (.lconst 1, 1) := by decide +kernel
theorem dL_divides_412 : decode cL_divides 412 = .ok (.lcmp, 1) := by decide +kernel
theorem dL_divides_413 : decode cL_divides 413 = .ok (.ifCond .ne 7, 3) := by decide +kernel
theorem dL_divides_416 : decode cL_divides 416 = .ok (.iconst 1, 1) := by decide +kernel
theorem dL_divides_417 : decode cL_divides 417 = .ok (.goto 4, 3) := by decide +kernel
theorem dL_divides_420 : decode cL_divides 420 = .ok (.iconst 0, 1) := by decide +kernel
theorem dL_divides_421 : decode cL_divides 421 = .ok (.ireturn, 1) := by decide +kernel
set_option maxRecDepth 20000 in
theorem ggL_plans_X6_shortest : GoodIn wsL_plans wsX6_shortest := goodIn_r _ [5, 6, 7, 8, 9, 4, 10, 11, 12, 13, 14, 15, 16, 17, 18, 19, 20, 21, 22, 23, 24, 25, 26, 27, 28, 29, 30, 31, 32, 33, 34, 35, 36, 37, 38, 39, 40, 41, 42, 43, 44, 45, 46, 47, 255, 256, 257, 258, 259, 260, 261, 262, 263, 264, 265, 266, 267] (by decide +kernel) (by decide +kernel)
set_option maxRecDepth 20000 in
theorem gL_plans_X6_shortest : GoodIn wsL_plans (wsV RL 91 RX6 yX6_shortest wsX6_shortest) := goodIn_app (goodIn_of _ (by decide +kernel)) ggL_plans_X6_shortest
set_option maxRecDepth 20000 in
theorem ggL_plans_X6_shortestByTrying : GoodIn wsL_plans wsX6_shortestByTrying := goodIn_r _ [51, 6, 12, 52, 53, 54, 16, 55, 19, 20, 21, 22, 23, 56, 57, 58, 59, 60, 34, 61, 28, 29, 30, 31, 32, 33, 35, 41, 42, 43, 44, 45, 46, 47, 255, 256, 257, 258, 259, 260, 261, 262, 263, 264, 265, 266, 267] (by decide +kernel) (by decide +kernel)
set_option maxRecDepth 20000 in
theorem gL_plans_X6_shortestByTrying : GoodIn wsL_plans (wsV RL 94 RX6 yX6_shortestByTrying wsX6_shortestByTrying) := goodIn_app (goodIn_of _ (by decide +kernel)) ggL_plans_X6_shortestByTrying
set_option maxRecDepth 20000 in
theorem ggL_plans_X6_jobs : GoodIn wsL_plans wsX6_jobs := goodIn_r _ [65, 12, 255, 256, 257, 258, 259, 260, 261, 266, 267] (by decide +kernel) (by decide +kernel)
set_option maxRecDepth 20000 in
theorem gL_plans_X6_jobs : GoodIn wsL_plans (wsV RL 54 RX6 yX6_jobs wsX6_jobs) := goodIn_app (goodIn_of _ (by decide +kernel)) ggL_plans_X6_jobs
set_option maxRecDepth 20000 in
theorem ggL_plans_L_time : GoodIn wsL_plans wsL_time := goodIn_ca (goodIn_r _ [69, 70, 71, 72, 73, 4, 74, 12, 75, 76, 77, 78, 79, 80, 81, 82, 83, 84, 42, 43, 44, 45, 46, 47, 255, 256, 257, 258, 259, 260, 261, 266, 267] (by decide +kernel) (by decide +kernel)) (goodIn_sub (fun _ h => List.mem_cons_of_mem _ (List.mem_append_right _ h)) (by decide +kernel))
set_option maxRecDepth 20000 in
theorem gL_plans_L_time : GoodIn wsL_plans (va_wsS RL 65 yL_time wsL_time) := goodIn_app (goodIn_of _ (by decide +kernel)) ggL_plans_L_time
set_option maxRecDepth 20000 in
theorem ggL_plans_L_shortestOn : GoodIn wsL_plans wsL_shortestOn := goodIn_ca (goodIn_r _ [87, 70, 88, 89, 90, 4, 91, 6, 75, 76, 77, 78, 79, 80, 12, 7, 8, 9, 10, 11, 13, 14, 15, 16, 17, 18, 19, 20, 21, 22, 23, 24, 25, 26, 27, 28, 29, 30, 31, 32, 33, 34, 35, 36, 37, 38, 39, 40, 41, 42, 43, 44, 45, 46, 47, 255, 256, 257, 258, 259, 260, 261, 262, 263, 264, 265, 266, 267] (by decide +kernel) (by decide +kernel)) (goodIn_sub (fun _ h => List.mem_cons_of_mem _ (List.mem_append_right _ h)) (by decide +kernel))
set_option maxRecDepth 20000 in
theorem gL_plans_L_shortestOn : GoodIn wsL_plans (va_wsS RL 97 yL_shortestOn wsL_shortestOn) := goodIn_app (goodIn_of _ (by decide +kernel)) ggL_plans_L_shortestOn
set_option maxRecDepth 20000 in
theorem ggL_plans_L_roundedOn : GoodIn wsL_plans wsL_roundedOn := goodIn_ca (goodIn_r _ [94, 70, 95, 96, 97, 4, 98, 99, 75, 76, 77, 78, 79, 80, 12, 100, 101, 102, 103, 104, 105, 106, 107, 108, 109, 110, 111, 112, 113, 114, 115, 116, 117, 118, 119, 120, 121, 122, 123, 124, 125, 126, 127, 128, 129, 130, 131, 132, 60, 34, 61, 133, 134, 135, 136, 137, 138, 139, 42, 43, 44, 45, 46, 47, 140, 141, 142, 143, 144, 145, 146, 147, 148, 149, 150, 151, 152, 153, 154, 155, 156, 157, 158, 159, 160, 161, 162, 163, 164, 165, 166, 167, 168, 169, 170, 171, 172, 173, 174, 175, 176, 177, 178, 179, 180, 181, 182, 183, 184, 185, 186, 187, 188, 189, 190, 191, 192, 193, 194, 195, 196, 197, 198, 199, 200, 201, 202, 203, 204, 205, 206, 207, 208, 209, 210, 211, 212, 255, 256, 257, 258, 259, 260, 261, 268, 266, 267, 269, 270, 271, 272, 273, 274, 275, 276, 277, 278, 279] (by decide +kernel) (by decide +kernel)) (goodIn_sub (fun _ h => List.mem_cons_of_mem _ (List.mem_append_right _ h)) (by decide +kernel))
set_option maxRecDepth 20000 in
theorem gL_plans_L_roundedOn : GoodIn wsL_plans (va_wsS RL 74 yL_roundedOn wsL_roundedOn) := goodIn_app (goodIn_of _ (by decide +kernel)) ggL_plans_L_roundedOn
set_option maxRecDepth 20000 in
theorem ggL_plans_L_machine : GoodIn wsL_plans wsL_machine := goodIn_ca (goodIn_r _ [215, 70, 216, 217, 218, 4, 219, 220, 75, 76, 77, 78, 79, 80, 12, 255, 256, 257, 258, 259, 260, 261, 280, 281, 282, 283, 284, 266, 267] (by decide +kernel) (by decide +kernel)) (goodIn_sub (fun _ h => List.mem_cons_of_mem _ (List.mem_append_right _ h)) (by decide +kernel))
set_option maxRecDepth 20000 in
theorem gL_plans_L_machine : GoodIn wsL_plans (va_wsS RL 100 yL_machine wsL_machine) := goodIn_app (goodIn_of _ (by decide +kernel)) ggL_plans_L_machine
set_option maxRecDepth 20000 in
theorem ggL_plans_L_load : GoodIn wsL_plans wsL_load := goodIn_ca (goodIn_r _ [223, 70, 224, 225, 226, 4, 227, 12, 220, 81, 82, 83, 79, 80, 228, 229, 230, 44, 231, 46, 232, 42, 43, 45, 47, 255, 256, 257, 258, 259, 260, 261, 280, 281, 282, 283, 284, 266, 267] (by decide +kernel) (by decide +kernel)) (goodIn_sub (fun _ h => List.mem_cons_of_mem _ (List.mem_append_right _ h)) (by decide +kernel))
set_option maxRecDepth 20000 in
theorem gL_plans_L_load : GoodIn wsL_plans (va_wsS RL 102 yL_load wsL_load) := goodIn_app (goodIn_of _ (by decide +kernel)) ggL_plans_L_load
set_option maxRecDepth 20000 in
theorem ggL_plans_X6_roundedLength : GoodIn wsL_plans wsX6_roundedLength := goodIn_r _ [236, 12, 99, 100, 101, 102, 4, 103, 104, 105, 106, 107, 108, 109, 110, 111, 112, 113, 114, 115, 116, 117, 118, 119, 120, 121, 122, 123, 124, 125, 126, 127, 128, 129, 130, 131, 132, 60, 34, 61, 133, 134, 135, 136, 137, 138, 139, 42, 43, 44, 45, 46, 47, 140, 141, 142, 143, 144, 145, 146, 147, 148, 149, 150, 151, 152, 153, 154, 155, 156, 157, 158, 159, 160, 161, 162, 163, 164, 165, 166, 167, 168, 169, 170, 171, 172, 173, 174, 175, 176, 177, 178, 179, 180, 181, 182, 183, 184, 185, 186, 187, 188, 189, 190, 191, 192, 193, 194, 195, 196, 197, 198, 199, 200, 201, 202, 203, 204, 205, 206, 207, 208, 209, 210, 211, 212, 237, 238, 239, 240, 241, 33, 35, 242, 229, 230, 231, 232, 255, 256, 257, 258, 259, 260, 261, 268, 269, 270, 271, 272, 273, 274, 275, 276, 277, 278, 279, 266, 267] (by decide +kernel) (by decide +kernel)
set_option maxRecDepth 20000 in
theorem gL_plans_X6_roundedLength : GoodIn wsL_plans (wsV RL 104 RX6 yX6_roundedLength wsX6_roundedLength) := goodIn_app (goodIn_of _ (by decide +kernel)) ggL_plans_X6_roundedLength

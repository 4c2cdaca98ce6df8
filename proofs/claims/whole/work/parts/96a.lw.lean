theorem dJ9_max_7cf53_0 : decode cJ9_max_7cf53 0 = .ok (.iload_n 0, 1) := by decide +kernel
theorem dJ9_max_7cf53_1 : decode cJ9_max_7cf53 1 = .ok (.iload_n 1, 1) := by decide +kernel
theorem dJ9_max_7cf53_2 : decode cJ9_max_7cf53 2 = .ok (.if_icmp .lt 7, 3) := by decide +kernel
theorem dJ9_max_7cf53_5 : decode cJ9_max_7cf53 5 = .ok (.iload_n 0, 1) := by decide +kernel
theorem dJ9_max_7cf53_6 : decode cJ9_max_7cf53 6 = .ok (.goto 4, 3) := by decide +kernel
theorem dJ9_max_7cf53_9 : decode cJ9_max_7cf53 9 = .ok (.iload_n 1, 1) := by decide +kernel
theorem dJ9_max_7cf53_10 : decode cJ9_max_7cf53 10 = .ok (.ireturn, 1) := by decide +kernel
theorem dJ9_min_7cf53_0 : decode cJ9_min_7cf53 0 = .ok (.iload_n 0, 1) := by decide +kernel
theorem dJ9_min_7cf53_1 : decode cJ9_min_7cf53 1 = .ok (.iload_n 1, 1) := by decide +kernel
theorem dJ9_min_7cf53_2 : decode cJ9_min_7cf53 2 = .ok (.if_icmp .gt 7, 3) := by decide +kernel
theorem dJ9_min_7cf53_5 : decode cJ9_min_7cf53 5 = .ok (.iload_n 0, 1) := by decide +kernel
theorem dJ9_min_7cf53_6 : decode cJ9_min_7cf53 6 = .ok (.goto 4, 3) := by decide +kernel
theorem dJ9_min_7cf53_9 : decode cJ9_min_7cf53 9 = .ok (.iload_n 1, 1) := by decide +kernel
theorem dJ9_min_7cf53_10 : decode cJ9_min_7cf53 10 = .ok (.ireturn, 1) := by decide +kernel
set_option maxRecDepth 20000 in
theorem ggL_addJob_X6_addJob : GoodIn wsL_addJob wsX6_addJob := goodIn_ca (goodIn_ca (goodIn_r _ [7, 8, 9, 10, 11, 12, 13, 14, 15, 6, 16, 17, 18, 19, 20, 21, 22, 23, 24, 25, 26, 27, 28, 29, 30, 31, 32, 33, 34, 35, 36] (by decide +kernel) (by decide +kernel)) (goodIn_sub (fun _ h => List.mem_cons_of_mem _ (List.mem_append_left _ (List.mem_append_right _ h))) (by decide +kernel))) (goodIn_sub (fun _ h => List.mem_cons_of_mem _ (List.mem_append_right _ h)) (by decide +kernel))
set_option maxRecDepth 20000 in
theorem gL_addJob_X6_addJob : GoodIn wsL_addJob (wsV RL 7 RX6 yX6_addJob wsX6_addJob) := goodIn_app (goodIn_of _ (by decide +kernel)) ggL_addJob_X6_addJob
theorem dL_addJob_0 : decode cL_addJob 0 = .ok (.aload 4, 2) := by decide +kernel
theorem dL_addJob_2 : decode cL_addJob 2 = .ok (.iconst 0, 1) := by decide +kernel
theorem dL_addJob_3 : decode cL_addJob 3 = .ok (.aload_n 0, 1) := by decide +kernel
theorem dL_addJob_4 : decode cL_addJob 4 = .ok (.iload_n 1, 1) := by decide +kernel
theorem dL_addJob_5 : decode cL_addJob 5 = .ok (.iload_n 2, 1) := by decide +kernel
theorem dL_addJob_6 : decode cL_addJob 6 = .ok (.iload_n 3, 1) := by decide +kernel
theorem dL_addJob_7 : decode cL_addJob 7 = .ok (.invokevirtual 7, 3) := by decide +kernel
theorem dL_addJob_10 : decode cL_addJob 10 = .ok (.i2l, 1) := by decide +kernel
theorem dL_addJob_11 : decode cL_addJob 11 = .ok (.lastore, 1) := by decide +kernel
theorem dL_addJob_12 : decode cL_addJob 12 = .ok (.goto 11, 3) := by decide +kernel
theorem dL_addJob_15 : decode cL_addJob 15 = .ok (.astore 5, 2) := by decide +kernel
theorem dL_addJob_17 : decode cL_addJob 17 = .ok (.iconst 1, 1) := by decide +kernel
theorem dL_addJob_18 : decode cL_addJob 18 = .ok (.ireturn, 1) := by decide +kernel
theorem dL_addJob_19 : decode cL_addJob 19 = .ok (.astore 5, 2) := by decide +kernel
theorem dL_addJob_21 : decode cL_addJob 21 = .ok (.iconst 2, 1) := by decide +kernel
theorem dL_addJob_22 : decode cL_addJob 22 = .ok (.ireturn, 1) := by decide +kernel
theorem dL_addJob_23 : decode cL_addJob 23 = .ok (.iconst 0, 1) := by decide +kernel
theorem dL_addJob_24 : decode cL_addJob 24 = .ok (.ireturn, 1) := by decide +kernel
set_option maxRecDepth 20000 in
theorem ggL_setTime_X6_setTime : GoodIn wsL_setTime wsX6_setTime := goodIn_ca (goodIn_ca (goodIn_ca (goodIn_r _ [8, 9, 10, 11, 12, 13, 14, 15, 16, 17, 7, 18, 19, 20, 21, 22, 23, 24, 25, 26, 27, 28, 29, 30, 31, 32, 33, 34, 35, 36, 37, 38, 39, 40, 41, 42, 43, 44, 45, 46, 47, 48, 49, 50, 51, 52, 53] (by decide +kernel) (by decide +kernel)) (goodIn_sub (fun _ h => List.mem_cons_of_mem _ (List.mem_append_left _ (List.mem_append_left _ (List.mem_append_right _ h)))) (by decide +kernel))) (goodIn_sub (fun _ h => List.mem_cons_of_mem _ (List.mem_append_left _ (List.mem_append_right _ h))) (by decide +kernel))) (goodIn_sub (fun _ h => List.mem_cons_of_mem _ (List.mem_append_right _ h)) (by decide +kernel))
set_option maxRecDepth 20000 in
theorem gL_setTime_X6_setTime : GoodIn wsL_setTime (wsV RL 17 RX6 yX6_setTime wsX6_setTime) := goodIn_app (goodIn_of _ (by decide +kernel)) ggL_setTime_X6_setTime
theorem dL_setTime_0 : decode cL_setTime 0 = .ok (.aload 4, 2) := by decide +kernel
theorem dL_setTime_2 : decode cL_setTime 2 = .ok (.iconst 0, 1) := by decide +kernel
theorem dL_setTime_3 : decode cL_setTime 3 = .ok (.aload_n 0, 1) := by decide +kernel
theorem dL_setTime_4 : decode cL_setTime 4 = .ok (.iload_n 1, 1) := by decide +kernel
theorem dL_setTime_5 : decode cL_setTime 5 = .ok (.iload_n 2, 1) := by decide +kernel
theorem dL_setTime_6 : decode cL_setTime 6 = .ok (.iload_n 3, 1) := by decide +kernel
theorem dL_setTime_7 : decode cL_setTime 7 = .ok (.invokevirtual 17, 3) := by decide +kernel
theorem dL_setTime_10 : decode cL_setTime 10 = .ok (.i2l, 1) := by decide +kernel
theorem dL_setTime_11 : decode cL_setTime 11 = .ok (.lastore, 1) := by decide +kernel
theorem dL_setTime_12 : decode cL_setTime 12 = .ok (.goto 15, 3) := by decide +kernel
theorem dL_setTime_15 : decode cL_setTime 15 = .ok (.astore 5, 2) := by decide +kernel
theorem dL_setTime_17 : decode cL_setTime 17 = .ok (.iconst 1, 1) := by decide +kernel
theorem dL_setTime_18 : decode cL_setTime 18 = .ok (.ireturn, 1) := by decide +kernel
theorem dL_setTime_19 : decode cL_setTime 19 = .ok (.astore 5, 2) := by decide +kernel
theorem dL_setTime_21 : decode cL_setTime 21 = .ok (.iconst 2, 1) := by decide +kernel
theorem dL_setTime_22 : decode cL_setTime 22 = .ok (.ireturn, 1) := by decide +kernel
theorem dL_setTime_23 : decode cL_setTime 23 = .ok (.astore 5, 2) := by decide +kernel
theorem dL_setTime_25 : decode cL_setTime 25 = .ok (.iconst 3, 1) := by decide +kernel
theorem dL_setTime_26 : decode cL_setTime 26 = .ok (.ireturn, 1) := by decide +kernel
theorem dL_setTime_27 : decode cL_setTime 27 = .ok (.iconst 0, 1) := by decide +kernel
theorem dL_setTime_28 : decode cL_setTime 28 = .ok (.ireturn, 1) := by decide +kernel
set_option maxRecDepth 20000 in
theorem ggL_time_X6_time : GoodIn wsL_time wsX6_time := goodIn_ca (goodIn_r _ [6, 7, 8, 9, 10, 5, 11, 12, 13, 14, 15, 16, 17, 18, 19, 20, 21, 22, 23, 24, 25, 26, 27, 28, 29, 30, 31, 32] (by decide +kernel) (by decide +kernel)) (goodIn_sub (fun _ h => List.mem_cons_of_mem _ (List.mem_append_right _ h)) (by decide +kernel))
set_option maxRecDepth 20000 in
theorem gL_time_X6_time : GoodIn wsL_time (wsV RL 22 RX6 yX6_time wsX6_time) := goodIn_app (goodIn_of _ (by decide +kernel)) ggL_time_X6_time
theorem dL_time_0 : decode cL_time 0 = .ok (.aload_n 3, 1) := by decide +kernel
theorem dL_time_1 : decode cL_time 1 = .ok (.iconst 0, 1) := by decide +kernel
theorem dL_time_2 : decode cL_time 2 = .ok (.aload_n 0, 1) := by decide +kernel
theorem dL_time_3 : decode cL_time 3 = .ok (.iload_n 1, 1) := by decide +kernel
theorem dL_time_4 : decode cL_time 4 = .ok (.iload_n 2, 1) := by decide +kernel
theorem dL_time_5 : decode cL_time 5 = .ok (.invokevirtual 22, 3) := by decide +kernel
theorem dL_time_8 : decode cL_time 8 = .ok (.i2l, 1) := by decide +kernel
theorem dL_time_9 : decode cL_time 9 = .ok (.lastore, 1) := by decide +kernel
theorem dL_time_10 : decode cL_time 10 = .ok (.goto 7, 3) := by decide +kernel
theorem dL_time_13 : decode cL_time 13 = .ok (.astore 4, 2) := by decide +kernel
theorem dL_time_15 : decode cL_time 15 = .ok (.iconst 1, 1) := by decide +kernel
theorem dL_time_16 : decode cL_time 16 = .ok (.ireturn, 1) := by decide +kernel
theorem dL_time_17 : decode cL_time 17 = .ok (.iconst 0, 1) := by decide +kernel
theorem dL_time_18 : decode cL_time 18 = .ok (.ireturn, 1) := by decide +kernel
set_option maxRecDepth 20000 in
theorem ggL_shortestMachine_X6_shortestMachine : GoodIn wsL_shortestMachine wsX6_shortestMachine := goodIn_ca (goodIn_r _ [6, 7, 8, 9, 10, 5, 11, 12, 13, 14, 15, 16, 17, 18, 19, 20, 21, 22, 23, 24, 25, 26, 27, 28, 29, 30, 31, 32, 33, 34, 35, 36, 37, 38, 39, 40, 41, 42, 43, 44, 45, 46, 47, 48, 49, 50, 51, 52, 53, 54, 55, 56, 57, 58, 59, 60, 61, 62, 63, 64, 65, 66, 67] (by decide +kernel) (by decide +kernel)) (goodIn_sub (fun _ h => List.mem_cons_of_mem _ (List.mem_append_right _ h)) (by decide +kernel))
set_option maxRecDepth 20000 in
theorem gL_shortestMachine_X6_shortestMachine : GoodIn wsL_shortestMachine (wsV RL 26 RX6 yX6_shortestMachine wsX6_shortestMachine) := goodIn_app (goodIn_of _ (by decide +kernel)) ggL_shortestMachine_X6_shortestMachine
theorem dL_shortestMachine_0 : decode cL_shortestMachine 0 = .ok (.aload_n 2, 1) := by decide +kernel
theorem dL_shortestMachine_1 : decode cL_shortestMachine 1 = .ok (.iconst 0, 1) := by decide +kernel
theorem dL_shortestMachine_2 : decode cL_shortestMachine 2 = .ok (.aload_n 0, 1) := by decide +kernel
theorem dL_shortestMachine_3 : decode cL_shortestMachine 3 = .ok (.iload_n 1, 1) := by decide +kernel
theorem dL_shortestMachine_4 : decode cL_shortestMachine 4 = .ok (.invokevirtual 26, 3) := by decide +kernel
theorem dL_shortestMachine_7 : decode cL_shortestMachine 7 = .ok (.i2l, 1) := by decide +kernel
theorem dL_shortestMachine_8 : decode cL_shortestMachine 8 = .ok (.lastore, 1) := by decide +kernel
theorem dL_shortestMachine_9 : decode cL_shortestMachine 9 = .ok (.goto 6, 3) := by decide +kernel
theorem dL_shortestMachine_12 : decode cL_shortestMachine 12 = .ok (.astore_n 3, 1) := by decide +kernel
theorem dL_shortestMachine_13 : decode cL_shortestMachine 13 = .ok (.iconst 1, 1) := by decide +kernel
theorem dL_shortestMachine_14 : decode cL_shortestMachine 14 = .ok (.ireturn, 1) := by decide +kernel
theorem dL_shortestMachine_15 : decode cL_shortestMachine 15 = .ok (.iconst 0, 1) := by decide +kernel
theorem dL_shortestMachine_16 : decode cL_shortestMachine 16 = .ok (.ireturn, 1) := by decide +kernel
set_option maxRecDepth 20000 in
theorem ggL_numerator_X6_numerator : GoodIn wsL_numerator wsX6_numerator := goodIn_ca (goodIn_r _ [6, 7, 8, 9, 10, 5, 11, 12, 13, 14, 15, 16, 17, 18, 19, 20, 21, 22, 23, 24, 25, 26, 27, 28, 29, 30, 31, 32, 33, 34, 35, 36, 37, 38, 39, 40, 41, 42, 43, 44, 45, 46, 47, 48, 49, 50, 51, 52, 53, 54, 55, 56, 57, 58, 59, 60, 61, 62, 63, 64, 65, 66, 67, 68, 69, 70, 71, 72, 73, 74, 75, 76, 77, 78, 79, 80, 81, 82, 83, 84, 85, 86, 87, 88, 89, 90, 91, 92, 93, 94, 95, 96, 97, 98, 99, 100, 101, 102, 103, 104, 105, 106, 107, 108, 109, 110, 111, 112, 113, 114, 115, 116, 117, 118, 119, 120, 121, 122, 123, 124, 125, 126, 127, 128, 129, 130, 131, 132, 133, 134, 135, 136, 137, 138, 139, 140, 141, 142, 143, 144, 145, 146, 147, 148, 149, 150, 151, 152, 153, 154, 155, 156, 157, 158, 159, 160] (by decide +kernel) (by decide +kernel)) (goodIn_sub (fun _ h => List.mem_cons_of_mem _ (List.mem_append_right _ h)) (by decide +kernel))
set_option maxRecDepth 20000 in
theorem gL_numerator_X6_numerator : GoodIn wsL_numerator (wsV RL 30 RX6 yX6_numerator wsX6_numerator) := goodIn_app (goodIn_of _ (by decide +kernel)) ggL_numerator_X6_numerator
theorem dL_numerator_0 : decode cL_numerator 0 = .ok (.aload_n 3, 1) := by decide +kernel
theorem dL_numerator_1 : decode cL_numerator 1 = .ok (.iconst 0, 1) := by decide +kernel
theorem dL_numerator_2 : decode cL_numerator 2 = .ok (.aload_n 0, 1) := by decide +kernel
theorem dL_numerator_3 : decode cL_numerator 3 = .ok (.iload_n 1, 1) := by decide +kernel
theorem dL_numerator_4 : decode cL_numerator 4 = .ok (.iload_n 2, 1) := by decide +kernel
theorem dL_numerator_5 : decode cL_numerator 5 = .ok (.invokevirtual 30, 3) := by decide +kernel
theorem dL_numerator_8 : decode cL_numerator 8 = .ok (.i2l, 1) := by decide +kernel
theorem dL_numerator_9 : decode cL_numerator 9 = .ok (.lastore, 1) := by decide +kernel
theorem dL_numerator_10 : decode cL_numerator 10 = .ok (.goto 7, 3) := by decide +kernel
theorem dL_numerator_13 : decode cL_numerator 13 = .ok (.astore 4, 2) := by decide +kernel
theorem dL_numerator_15 : decode cL_numerator 15 = .ok (.iconst 1, 1) := by decide +kernel
theorem dL_numerator_16 : decode cL_numerator 16 = .ok (.ireturn, 1) := by decide +kernel
theorem dL_numerator_17 : decode cL_numerator 17 = .ok (.iconst 0, 1) := by decide +kernel
theorem dL_numerator_18 : decode cL_numerator 18 = .ok (.ireturn, 1) := by decide +kernel
set_option maxRecDepth 20000 in
theorem ggL_denominator_X6_denominator : GoodIn wsL_denominator wsX6_denominator := goodIn_ca (goodIn_r _ [6, 7, 8, 9, 10, 5, 11, 12, 13, 14, 15, 16, 17, 18, 19, 20, 21, 22, 23, 24, 25, 26, 27, 28, 29, 30, 31, 32, 33, 34, 35, 36, 37, 38, 39, 40, 41, 42, 43, 44, 45, 46, 47, 48, 49, 50, 51, 52, 53, 54, 55, 56, 57, 58, 59, 60, 61, 62, 63, 64, 65, 66, 67, 68, 69, 70, 71, 72, 73, 74, 75, 76, 77, 78, 79, 80, 81, 82, 83, 84, 85, 86, 87, 88, 89, 90, 91, 92, 93, 94, 95, 96, 97, 98, 99, 100, 101, 102, 103, 104, 105, 106, 107, 108, 109, 110, 111, 112, 113, 114, 115, 116, 117, 118, 119, 120, 121, 122, 123, 124, 125, 126, 127, 128, 129, 130, 131, 132, 133, 134, 135, 136, 137, 138, 139, 140, 141, 142, 143, 144, 145, 146, 147, 148, 149, 150, 151, 152, 153, 154, 155, 156, 157, 158, 159, 160] (by decide +kernel) (by decide +kernel)) (goodIn_sub (fun _ h => List.mem_cons_of_mem _ (List.mem_append_right _ h)) (by decide +kernel))
set_option maxRecDepth 20000 in
theorem gL_denominator_X6_denominator : GoodIn wsL_denominator (wsV RL 33 RX6 yX6_denominator wsX6_denominator) := goodIn_app (goodIn_of _ (by decide +kernel)) ggL_denominator_X6_denominator
theorem dL_denominator_0 : decode cL_denominator 0 = .ok (.aload_n 3, 1) := by decide +kernel
theorem dL_denominator_1 : decode cL_denominator 1 = .ok (.iconst 0, 1) := by decide +kernel
theorem dL_denominator_2 : decode cL_denominator 2 = .ok (.aload_n 0, 1) := by decide +kernel
theorem dL_denominator_3 : decode cL_denominator 3 = .ok (.iload_n 1, 1) := by decide +kernel
theorem dL_denominator_4 : decode cL_denominator 4 = .ok (.iload_n 2, 1) := by decide +kernel
theorem dL_denominator_5 : decode cL_denominator 5 = .ok (.invokevirtual 33, 3) := by decide +kernel
theorem dL_denominator_8 : decode cL_denominator 8 = .ok (.i2l, 1) := by decide +kernel
theorem dL_denominator_9 : decode cL_denominator 9 = .ok (.lastore, 1) := by decide +kernel
theorem dL_denominator_10 : decode cL_denominator 10 = .ok (.goto 7, 3) := by decide +kernel
theorem dL_denominator_13 : decode cL_denominator 13 = .ok (.astore 4, 2) := by decide +kernel
theorem dL_denominator_15 : decode cL_denominator 15 = .ok (.iconst 1, 1) := by decide +kernel
theorem dL_denominator_16 : decode cL_denominator 16 = .ok (.ireturn, 1) := by decide +kernel
theorem dL_denominator_17 : decode cL_denominator 17 = .ok (.iconst 0, 1) := by decide +kernel
theorem dL_denominator_18 : decode cL_denominator 18 = .ok (.ireturn, 1) := by decide +kernel
set_option maxRecDepth 20000 in
theorem ggL_isDivided_X6_isDivided : GoodIn wsL_isDivided wsX6_isDivided := goodIn_ca (goodIn_r _ [6, 7, 8, 9, 10, 5, 11, 12, 13, 14, 15, 16, 17, 18, 19, 20, 21, 22, 23, 24, 25, 26, 27, 28, 29, 30, 31, 32, 33, 34, 35, 36, 37, 38, 39, 40, 41, 42, 43, 44, 45, 46, 47, 48, 49, 50, 51, 52, 53, 54, 55, 56, 57, 58, 59, 60, 61, 62, 63, 64, 65, 66, 67, 68, 69, 70, 71, 72, 73, 74, 75, 76, 77, 78, 79, 80, 81, 82, 83, 84, 85, 86, 87, 88, 89, 90, 91, 92, 93, 94, 95, 96, 97, 98, 99, 100, 101, 102, 103, 104, 105, 106, 107, 108, 109, 110, 111, 112, 113, 114, 115, 116, 117, 118, 119, 120, 121, 122, 123, 124, 125, 126, 127, 128, 129, 130, 131, 132, 133, 134, 135, 136, 137, 138, 139, 140, 141, 142, 143, 144, 145, 146, 147, 148, 149, 150, 151, 152, 153, 154, 155, 156, 157, 158] (by decide +kernel) (by decide +kernel)) (goodIn_sub (fun _ h => List.mem_cons_of_mem _ (List.mem_append_right _ h)) (by decide +kernel))
set_option maxRecDepth 20000 in
theorem gL_isDivided_X6_isDivided : GoodIn wsL_isDivided (wsV RL 36 RX6 yX6_isDivided wsX6_isDivided) := goodIn_app (goodIn_of _ (by decide +kernel)) ggL_isDivided_X6_isDivided
theorem dL_isDivided_0 : decode cL_isDivided 0 = .ok (.aload_n 2, 1) := by decide +kernel
theorem dL_isDivided_1 : decode cL_isDivided 1 = .ok (.iconst 0, 1) := by decide +kernel
theorem dL_isDivided_2 : decode cL_isDivided 2 = .ok (.aload_n 0, 1) := by decide +kernel
theorem dL_isDivided_3 : decode cL_isDivided 3 = .ok (.iload_n 1, 1) := by decide +kernel
theorem dL_isDivided_4 : decode cL_isDivided 4 = .ok (.invokevirtual 36, 3) := by decide +kernel
theorem dL_isDivided_7 : decode cL_isDivided 7 = .ok (.ifCond .eq 7, 3) := by decide +kernel
theorem dL_isDivided_10 : decode cL_isDivided 10 = .ok (.lconst 1, 1) := by decide +kernel
theorem dL_isDivided_11 : decode cL_isDivided 11 = .ok (.goto 4, 3) := by decide +kernel
theorem dL_isDivided_14 : decode cL_isDivided 14 = .ok (.lconst 0, 1) := by decide +kernel
theorem dL_isDivided_15 : decode cL_isDivided 15 = .ok (.lastore, 1) := by decide +kernel
theorem dL_isDivided_16 : decode cL_isDivided 16 = .ok (.goto 6, 3) := by decide +kernel
theorem dL_isDivided_19 : decode cL_isDivided 19 = .ok (.astore_n 3, 1) := by decide +kernel
theorem dL_isDivided_20 : decode cL_isDivided 20 = .ok (.iconst 1, 1) := by decide +kernel
theorem dL_isDivided_21 : decode cL_isDivided 21 = .ok (.ireturn, 1) := by decide +kernel
theorem dL_isDivided_22 : decode cL_isDivided 22 = .ok (.iconst 0, 1) := by decide +kernel
theorem dL_isDivided_23 : decode cL_isDivided 23 = .ok (.ireturn, 1) := by decide +kernel
set_option maxRecDepth 20000 in
theorem ggL_roundedMachine_X6_roundedMachine : GoodIn wsL_roundedMachine wsX6_roundedMachine := goodIn_ca (goodIn_r _ [6, 7, 8, 9, 10, 5, 11, 12, 13, 14, 15, 16, 17, 18, 19, 20, 21, 22, 23, 24, 25, 26, 27, 28, 29, 30, 31, 32, 33, 34, 35, 36, 37, 38, 39, 40, 41, 42, 43, 44, 45, 46, 47, 48, 49, 50, 51, 52, 53, 54, 55, 56, 57, 58, 59, 60, 61, 62, 63, 64, 65, 66, 67, 68, 69, 70, 71, 72, 73, 74, 75, 76, 77, 78, 79, 80, 81, 82, 83, 84, 85, 86, 87, 88, 89, 90, 91, 92, 93, 94, 95, 96, 97, 98, 99, 100, 101, 102, 103, 104, 105, 106, 107, 108, 109, 110, 111, 112, 113, 114, 115, 116, 117, 118, 119, 120, 121, 122, 123, 124, 125, 126, 127, 128, 129, 130, 131, 132, 133, 134, 135, 136, 137, 138, 139, 140, 141, 142, 143, 144, 145, 146, 147, 148, 149, 150, 151, 152, 153, 154, 155, 156, 157] (by decide +kernel) (by decide +kernel)) (goodIn_sub (fun _ h => List.mem_cons_of_mem _ (List.mem_append_right _ h)) (by decide +kernel))
set_option maxRecDepth 20000 in
theorem gL_roundedMachine_X6_roundedMachine : GoodIn wsL_roundedMachine (wsV RL 40 RX6 yX6_roundedMachine wsX6_roundedMachine) := goodIn_app (goodIn_of _ (by decide +kernel)) ggL_roundedMachine_X6_roundedMachine
theorem dL_roundedMachine_0 : decode cL_roundedMachine 0 = .ok (.aload_n 2, 1) := by decide +kernel
theorem dL_roundedMachine_1 : decode cL_roundedMachine 1 = .ok (.iconst 0, 1) := by decide +kernel
theorem dL_roundedMachine_2 : decode cL_roundedMachine 2 = .ok (.aload_n 0, 1) := by decide +kernel
theorem dL_roundedMachine_3 : decode cL_roundedMachine 3 = .ok (.iload_n 1, 1) := by decide +kernel
theorem dL_roundedMachine_4 : decode cL_roundedMachine 4 = .ok (.invokevirtual 40, 3) := by decide +kernel
theorem dL_roundedMachine_7 : decode cL_roundedMachine 7 = .ok (.i2l, 1) := by decide +kernel
theorem dL_roundedMachine_8 : decode cL_roundedMachine 8 = .ok (.lastore, 1) := by decide +kernel
theorem dL_roundedMachine_9 : decode cL_roundedMachine 9 = .ok (.goto 6, 3) := by decide +kernel
theorem dL_roundedMachine_12 : decode cL_roundedMachine 12 = .ok (.astore_n 3, 1) := by decide +kernel
theorem dL_roundedMachine_13 : decode cL_roundedMachine 13 = .ok (.iconst 1, 1) := by decide +kernel
theorem dL_roundedMachine_14 : decode cL_roundedMachine 14 = .ok (.ireturn, 1) := by decide +kernel
theorem dL_roundedMachine_15 : decode cL_roundedMachine 15 = .ok (.iconst 0, 1) := by decide +kernel
theorem dL_roundedMachine_16 : decode cL_roundedMachine 16 = .ok (.ireturn, 1) := by decide +kernel
set_option maxRecDepth 20000 in
theorem ggL_assign_X6_assign : GoodIn wsL_assign wsX6_assign := goodIn_ca (goodIn_ca (goodIn_r _ [7, 8, 9, 10, 11, 12, 13, 14, 6, 15, 16, 17, 18, 19, 20, 21, 22, 23, 24, 25, 26, 27, 28, 29, 30, 31, 32, 33, 34, 35, 36, 37, 38, 39, 40, 41] (by decide +kernel) (by decide +kernel)) (goodIn_sub (fun _ h => List.mem_cons_of_mem _ (List.mem_append_left _ (List.mem_append_right _ h))) (by decide +kernel))) (goodIn_sub (fun _ h => List.mem_cons_of_mem _ (List.mem_append_right _ h)) (by decide +kernel))
set_option maxRecDepth 20000 in
theorem gL_assign_X6_assign : GoodIn wsL_assign (wsV RL 43 RX6 yX6_assign wsX6_assign) := goodIn_app (goodIn_of _ (by decide +kernel)) ggL_assign_X6_assign
theorem dL_assign_0 : decode cL_assign 0 = .ok (.aload_n 3, 1) := by decide +kernel
theorem dL_assign_1 : decode cL_assign 1 = .ok (.iconst 0, 1) := by decide +kernel
theorem dL_assign_2 : decode cL_assign 2 = .ok (.aload_n 0, 1) := by decide +kernel
theorem dL_assign_3 : decode cL_assign 3 = .ok (.iload_n 1, 1) := by decide +kernel
theorem dL_assign_4 : decode cL_assign 4 = .ok (.iload_n 2, 1) := by decide +kernel
theorem dL_assign_5 : decode cL_assign 5 = .ok (.invokevirtual 43, 3) := by decide +kernel
theorem dL_assign_8 : decode cL_assign 8 = .ok (.i2l, 1) := by decide +kernel
theorem dL_assign_9 : decode cL_assign 9 = .ok (.lastore, 1) := by decide +kernel
theorem dL_assign_10 : decode cL_assign 10 = .ok (.goto 11, 3) := by decide +kernel
theorem dL_assign_13 : decode cL_assign 13 = .ok (.astore 4, 2) := by decide +kernel
theorem dL_assign_15 : decode cL_assign 15 = .ok (.iconst 1, 1) := by decide +kernel
theorem dL_assign_16 : decode cL_assign 16 = .ok (.ireturn, 1) := by decide +kernel
theorem dL_assign_17 : decode cL_assign 17 = .ok (.astore 4, 2) := by decide +kernel
theorem dL_assign_19 : decode cL_assign 19 = .ok (.iconst 2, 1) := by decide +kernel
theorem dL_assign_20 : decode cL_assign 20 = .ok (.ireturn, 1) := by decide +kernel
theorem dL_assign_21 : decode cL_assign 21 = .ok (.iconst 0, 1) := by decide +kernel
theorem dL_assign_22 : decode cL_assign 22 = .ok (.ireturn, 1) := by decide +kernel
set_option maxRecDepth 20000 in
theorem ggL_machine_X6_machine : GoodIn wsL_machine wsX6_machine := goodIn_ca (goodIn_r _ [6, 7, 8, 9, 10, 5, 11, 12, 13, 14, 15, 16, 17, 18, 19, 20, 21, 22, 23, 24, 25, 26, 27, 28] (by decide +kernel) (by decide +kernel)) (goodIn_sub (fun _ h => List.mem_cons_of_mem _ (List.mem_append_right _ h)) (by decide +kernel))
set_option maxRecDepth 20000 in
theorem gL_machine_X6_machine : GoodIn wsL_machine (wsV RL 46 RX6 yX6_machine wsX6_machine) := goodIn_app (goodIn_of _ (by decide +kernel)) ggL_machine_X6_machine
theorem dL_machine_0 : decode cL_machine 0 = .ok (.aload_n 2, 1) := by decide +kernel
theorem dL_machine_1 : decode cL_machine 1 = .ok (.iconst 0, 1) := by decide +kernel
theorem dL_machine_2 : decode cL_machine 2 = .ok (.aload_n 0, 1) := by decide +kernel
theorem dL_machine_3 : decode cL_machine 3 = .ok (.iload_n 1, 1) := by decide +kernel
theorem dL_machine_4 : decode cL_machine 4 = .ok (.invokevirtual 46, 3) := by decide +kernel
theorem dL_machine_7 : decode cL_machine 7 = .ok (.i2l, 1) := by decide +kernel
theorem dL_machine_8 : decode cL_machine 8 = .ok (.lastore, 1) := by decide +kernel
theorem dL_machine_9 : decode cL_machine 9 = .ok (.goto 6, 3) := by decide +kernel
theorem dL_machine_12 : decode cL_machine 12 = .ok (.astore_n 3, 1) := by decide +kernel
theorem dL_machine_13 : decode cL_machine 13 = .ok (.iconst 1, 1) := by decide +kernel
theorem dL_machine_14 : decode cL_machine 14 = .ok (.ireturn, 1) := by decide +kernel
theorem dL_machine_15 : decode cL_machine 15 = .ok (.iconst 0, 1) := by decide +kernel
theorem dL_machine_16 : decode cL_machine 16 = .ok (.ireturn, 1) := by decide +kernel
set_option maxRecDepth 20000 in
theorem ggL_load_X6_load : GoodIn wsL_load wsX6_load := goodIn_ca (goodIn_r _ [6, 7, 8, 9, 10, 5, 11, 12, 13, 14, 15, 16, 17, 18, 19, 20, 21, 22, 23, 24, 25, 26, 27, 28, 29, 30, 31, 32, 33, 34, 35, 36, 37, 38] (by decide +kernel) (by decide +kernel)) (goodIn_sub (fun _ h => List.mem_cons_of_mem _ (List.mem_append_right _ h)) (by decide +kernel))
set_option maxRecDepth 20000 in
theorem gL_load_X6_load : GoodIn wsL_load (wsV RL 49 RX6 yX6_load wsX6_load) := goodIn_app (goodIn_of _ (by decide +kernel)) ggL_load_X6_load
theorem dL_load_0 : decode cL_load 0 = .ok (.aload_n 2, 1) := by decide +kernel
theorem dL_load_1 : decode cL_load 1 = .ok (.iconst 0, 1) := by decide +kernel
theorem dL_load_2 : decode cL_load 2 = .ok (.aload_n 0, 1) := by decide +kernel
theorem dL_load_3 : decode cL_load 3 = .ok (.iload_n 1, 1) := by decide +kernel
theorem dL_load_4 : decode cL_load 4 = .ok (.invokevirtual 49, 3) := by decide +kernel
theorem dL_load_7 : decode cL_load 7 = .ok (.i2l, 1) := by decide +kernel
theorem dL_load_8 : decode cL_load 8 = .ok (.lastore, 1) := by decide +kernel
theorem dL_load_9 : decode cL_load 9 = .ok (.goto 6, 3) := by decide +kernel
theorem dL_load_12 : decode cL_load 12 = .ok (.astore_n 3, 1) := by decide +kernel
theorem dL_load_13 : decode cL_load 13 = .ok (.iconst 1, 1) := by decide +kernel
theorem dL_load_14 : decode cL_load 14 = .ok (.ireturn, 1) := by decide +kernel
theorem dL_load_15 : decode cL_load 15 = .ok (.iconst 0, 1) := by decide +kernel
theorem dL_load_16 : decode cL_load 16 = .ok (.ireturn, 1) := by decide +kernel

set_option maxRecDepth 100000 in
theorem ggL_law_X6_init : GoodIn wsL_law wsX6_init := goodIn_r _ [9, 10, 11, 12, 13, 14, 15, 16, 17, 18, 19, 20, 21, 22, 23, 24, 25, 26, 27, 28, 29, 30, 31, 32, 33, 34, 35, 36, 37, 38, 39, 40, 41, 42, 43, 44, 45, 46, 47, 48, 49, 50, 51, 52, 53, 54, 55, 56, 57, 58, 59, 60, 6, 61, 62, 63, 64, 65, 66, 67, 68, 649, 650, 628, 629, 630, 631, 632, 633, 634, 651, 652, 653, 654, 655, 656, 657, 658, 659, 660, 661, 662, 663, 664, 665, 666, 667, 668, 669, 670, 671] rfl (by decide +kernel)
set_option maxRecDepth 100000 in
theorem gL_law_X6_init : GoodIn wsL_law (wsX6_init) := ggL_law_X6_init
set_option maxRecDepth 100000 in
theorem ggL_law_X7_init : GoodIn wsL_law wsX7_init := goodIn_r _ [71, 72, 11, 12, 36, 73, 74, 6, 75, 76, 63, 77, 78, 79, 80, 81, 82, 83, 635, 636, 637, 638, 639, 640, 641, 642, 643, 644, 645, 646, 647, 648] rfl (by decide +kernel)
set_option maxRecDepth 100000 in
theorem gL_law_X7_init : GoodIn wsL_law (wsX7_init) := ggL_law_X7_init
set_option maxRecDepth 100000 in
theorem ggL_law_L_addJob : GoodIn wsL_law wsL_addJob := goodIn_ca (goodIn_ca (goodIn_r _ [87, 88, 89, 90, 91, 92, 2, 93, 94, 95, 96, 97, 16, 20, 98, 99, 100, 101, 102, 103, 104, 105, 106, 628, 629, 630, 631, 632, 633, 634, 649, 650, 651, 652, 653, 654, 655] rfl (by decide +kernel)) (goodIn_sub (fun _ h => List.mem_append_left _ (List.mem_append_left _ (List.mem_append_right _ h))) (by decide +kernel))) (goodIn_sub (fun _ h => List.mem_append_left _ (List.mem_append_right _ h)) (by decide +kernel))
set_option maxRecDepth 100000 in
theorem gL_law_L_addJob : GoodIn wsL_law (va_wsS RL 56 yL_addJob wsL_addJob) := goodIn_app (goodIn_of _ (by decide +kernel)) ggL_law_L_addJob
set_option maxRecDepth 100000 in
theorem ggL_law_X7_addJob : GoodIn wsL_law wsX7_addJob := goodIn_r _ [110, 111, 73, 74, 112, 113, 5, 114, 115, 116, 117, 118, 119, 120, 121, 122, 123, 635, 636, 637, 638, 639, 640, 641, 642, 643, 644, 645, 646, 647, 648] rfl (by decide +kernel)
set_option maxRecDepth 100000 in
theorem gL_law_X7_addJob : GoodIn wsL_law (wsV RL 61 RX7 yX7_addJob wsX7_addJob) := goodIn_app (goodIn_of _ (by decide +kernel)) ggL_law_X7_addJob
set_option maxRecDepth 100000 in
theorem ggL_law_X7_thrown : GoodIn wsL_law wsX7_thrown := goodIn_r _ [127, 119, 635, 636, 637, 638, 639, 640, 641, 642, 643, 644, 645, 646, 647, 648] rfl (by decide +kernel)
set_option maxRecDepth 100000 in
theorem gL_law_X7_thrown : GoodIn wsL_law (wsV RL 62 RX7 yX7_thrown wsX7_thrown) := goodIn_app (goodIn_of _ (by decide +kernel)) ggL_law_X7_thrown
set_option maxRecDepth 100000 in
theorem ggL_law_L_setTime : GoodIn wsL_law wsL_setTime := goodIn_ca (goodIn_ca (goodIn_ca (goodIn_r _ [130, 131, 88, 89, 132, 133, 134, 2, 135, 94, 95, 96, 97, 20, 16, 136, 137, 138, 139, 140, 141, 142, 143, 144, 98, 99, 100, 145, 146, 147, 15, 148, 149, 37, 101, 102, 103, 104, 105, 106, 628, 629, 630, 631, 632, 633, 634, 651, 652, 653, 654, 655, 649, 650] rfl (by decide +kernel)) (goodIn_sub (fun _ h => List.mem_append_left _ (List.mem_append_left _ (List.mem_append_right _ h))) (by decide +kernel))) (goodIn_sub (fun _ h => List.mem_append_left _ (List.mem_append_right _ h)) (by decide +kernel))) (goodIn_sub (fun _ h => List.mem_append_right _ h) (by decide +kernel))
set_option maxRecDepth 100000 in
theorem gL_law_L_setTime : GoodIn wsL_law (va_wsS RL 66 yL_setTime wsL_setTime) := goodIn_app (goodIn_of _ (by decide +kernel)) ggL_law_L_setTime
set_option maxRecDepth 100000 in
theorem ggL_law_X7_setTime : GoodIn wsL_law wsX7_setTime := goodIn_r _ [153, 74, 73, 154, 155, 156, 5, 157, 111, 158, 159, 160, 112, 113, 114, 115, 116, 117, 118, 119, 635, 636, 637, 638, 639, 640, 641, 642, 643, 644, 645, 646, 647, 648] rfl (by decide +kernel)
set_option maxRecDepth 100000 in
theorem gL_law_X7_setTime : GoodIn wsL_law (wsV RL 68 RX7 yX7_setTime wsX7_setTime) := goodIn_app (goodIn_of _ (by decide +kernel)) ggL_law_X7_setTime
set_option maxRecDepth 100000 in
theorem ggL_law_X6_removeLast : GoodIn wsL_law wsX6_removeLast := goodIn_r _ [164, 16, 101, 102, 103, 2, 104, 105, 106, 628, 629, 630, 631, 632, 633, 634, 649, 650] rfl (by decide +kernel)
set_option maxRecDepth 100000 in
theorem gL_law_X6_removeLast : GoodIn wsL_law (wsV RL 69 RX6 yX6_removeLast wsX6_removeLast) := goodIn_app (goodIn_of _ (by decide +kernel)) ggL_law_X6_removeLast
set_option maxRecDepth 100000 in
theorem ggL_law_X7_removeLast : GoodIn wsL_law wsX7_removeLast := goodIn_r _ [168, 119, 111, 635, 636, 637, 638, 639, 640, 641, 642, 643, 644, 645, 646, 647, 648] rfl (by decide +kernel)
set_option maxRecDepth 100000 in
theorem gL_law_X7_removeLast : GoodIn wsL_law (wsV RL 72 RX7 yX7_removeLast wsX7_removeLast) := goodIn_app (goodIn_of _ (by decide +kernel)) ggL_law_X7_removeLast
set_option maxRecDepth 100000 in
theorem ggL_law_X6_jobs : GoodIn wsL_law wsX6_jobs := goodIn_r _ [172, 16, 628, 629, 630, 631, 632, 633, 634, 649, 650] rfl (by decide +kernel)
set_option maxRecDepth 100000 in
theorem gL_law_X6_jobs : GoodIn wsL_law (wsV RL 73 RX6 yX6_jobs wsX6_jobs) := goodIn_app (goodIn_of _ (by decide +kernel)) ggL_law_X6_jobs
set_option maxRecDepth 100000 in
theorem ggL_law_X7_jobs : GoodIn wsL_law wsX7_jobs := goodIn_r _ [176, 119, 111, 635, 636, 637, 638, 639, 640, 641, 642, 643, 644, 645, 646, 647, 648] rfl (by decide +kernel)
set_option maxRecDepth 100000 in
theorem gL_law_X7_jobs : GoodIn wsL_law (wsV RL 76 RX7 yX7_jobs wsX7_jobs) := goodIn_app (goodIn_of _ (by decide +kernel)) ggL_law_X7_jobs
set_option maxRecDepth 100000 in
theorem ggL_law_L_time : GoodIn wsL_law wsL_time := goodIn_ca (goodIn_r _ [179, 131, 180, 181, 182, 2, 183, 16, 136, 137, 138, 139, 140, 141, 142, 143, 144, 145, 146, 147, 15, 148, 149, 37, 628, 629, 630, 631, 632, 633, 634, 649, 650] rfl (by decide +kernel)) (goodIn_sub (fun _ h => List.mem_append_right _ h) (by decide +kernel))
set_option maxRecDepth 100000 in
theorem gL_law_L_time : GoodIn wsL_law (va_wsS RL 77 yL_time wsL_time) := goodIn_app (goodIn_of _ (by decide +kernel)) ggL_law_L_time
set_option maxRecDepth 100000 in
theorem ggL_law_X7_time : GoodIn wsL_law wsX7_time := goodIn_r _ [187, 73, 154, 155, 156, 5, 157, 111, 158, 159, 160, 115, 116, 117, 118, 119, 635, 636, 637, 638, 639, 640, 641, 642, 643, 644, 645, 646, 647, 648] rfl (by decide +kernel)
set_option maxRecDepth 100000 in
theorem gL_law_X7_time : GoodIn wsL_law (wsV RL 80 RX7 yX7_time wsX7_time) := goodIn_app (goodIn_of _ (by decide +kernel)) ggL_law_X7_time
set_option maxRecDepth 100000 in
theorem ggL_law_X6_shortest : GoodIn wsL_law wsX6_shortest := goodIn_r _ [191, 24, 192, 193, 194, 2, 195, 105, 16, 196, 197, 198, 23, 199, 200, 201, 202, 203, 204, 45, 205, 206, 207, 46, 208, 209, 210, 211, 212, 213, 214, 215, 216, 217, 218, 219, 47, 220, 146, 147, 15, 148, 149, 37, 628, 629, 630, 631, 632, 633, 634, 656, 657, 658, 659, 649, 650] rfl (by decide +kernel)
set_option maxRecDepth 100000 in
theorem gL_law_X6_shortest : GoodIn wsL_law (wsV RL 81 RX6 yX6_shortest wsX6_shortest) := goodIn_app (goodIn_of _ (by decide +kernel)) ggL_law_X6_shortest
set_option maxRecDepth 100000 in
theorem ggL_law_X7_shortest : GoodIn wsL_law wsX7_shortest := goodIn_r _ [224, 119, 225, 226, 227, 5, 228, 111, 80, 73, 81, 229, 230, 231, 232, 83, 635, 636, 637, 638, 639, 640, 641, 642, 643, 644, 645, 646, 647, 648] rfl (by decide +kernel)
set_option maxRecDepth 100000 in
theorem gL_law_X7_shortest : GoodIn wsL_law (wsV RL 84 RX7 yX7_shortest wsX7_shortest) := goodIn_app (goodIn_of _ (by decide +kernel)) ggL_law_X7_shortest
set_option maxRecDepth 100000 in
theorem ggL_law_X6_shortestByTrying : GoodIn wsL_law wsX6_shortestByTrying := goodIn_r _ [236, 24, 16, 237, 238, 239, 23, 240, 201, 202, 203, 204, 45, 241, 242, 243, 244, 245, 214, 246, 208, 209, 210, 211, 212, 213, 215, 220, 146, 147, 15, 148, 149, 37, 628, 629, 630, 631, 632, 633, 634, 656, 657, 658, 659, 649, 650] rfl (by decide +kernel)
set_option maxRecDepth 100000 in
theorem gL_law_X6_shortestByTrying : GoodIn wsL_law (wsV RL 85 RX6 yX6_shortestByTrying wsX6_shortestByTrying) := goodIn_app (goodIn_of _ (by decide +kernel)) ggL_law_X6_shortestByTrying
set_option maxRecDepth 100000 in
theorem ggL_law_X7_shortestByTrying : GoodIn wsL_law wsX7_shortestByTrying := goodIn_r _ [250, 251, 222, 223, 5, 224, 119, 225, 226, 227, 228, 111, 80, 73, 81, 229, 230, 231, 232, 83, 635, 636, 637, 638, 639, 640, 641, 642, 643, 644, 645, 646, 647, 648] rfl (by decide +kernel)

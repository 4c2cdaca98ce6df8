set_option maxRecDepth 100000 in
theorem ggL_law_X6_roundedLength : GoodIn wsL_law wsX6_roundedLength := goodIn_r _ [502, 16, 32, 267, 268, 269, 2, 270, 106, 28, 271, 272, 273, 27, 274, 275, 276, 277, 278, 279, 54, 280, 281, 282, 283, 284, 53, 285, 61, 286, 62, 64, 287, 288, 289, 290, 291, 245, 214, 246, 292, 293, 294, 295, 296, 297, 298, 146, 147, 15, 148, 149, 37, 299, 300, 301, 302, 303, 304, 305, 306, 307, 308, 309, 310, 311, 312, 313, 314, 315, 316, 317, 318, 319, 320, 321, 322, 323, 324, 325, 326, 327, 328, 329, 330, 331, 332, 333, 334, 335, 336, 337, 338, 339, 340, 341, 342, 343, 55, 56, 344, 345, 346, 347, 348, 349, 350, 351, 352, 353, 354, 31, 355, 356, 357, 358, 68, 359, 360, 361, 362, 363, 364, 365, 366, 367, 503, 504, 505, 506, 507, 213, 215, 508, 509, 510, 511, 512, 628, 629, 630, 631, 632, 633, 634, 666, 660, 661, 662, 663, 664, 665, 667, 668, 669, 670, 671, 649, 650] rfl (by decide +kernel)
set_option maxRecDepth 100000 in
theorem gL_law_X6_roundedLength : GoodIn wsL_law (wsV RL 117 RX6 yX6_roundedLength wsX6_roundedLength) := goodIn_app (goodIn_of _ (by decide +kernel)) ggL_law_X6_roundedLength
set_option maxRecDepth 100000 in
theorem ggL_law_X7_roundedLength : GoodIn wsL_law wsX7_roundedLength := goodIn_r _ [516, 119, 82, 491, 492, 493, 5, 494, 111, 80, 422, 423, 424, 425, 78, 79, 75, 380, 77, 372, 373, 374, 375, 376, 377, 378, 379, 381, 382, 383, 384, 73, 385, 76, 386, 387, 388, 389, 390, 391, 392, 393, 394, 395, 396, 397, 398, 399, 400, 401, 402, 403, 404, 405, 406, 407, 408, 409, 410, 426, 427, 428, 429, 430, 431, 432, 456, 457, 458, 459, 495, 496, 497, 498, 229, 230, 231, 232, 83, 635, 636, 637, 638, 639, 640, 641, 642, 643, 644, 645, 646, 647, 648] rfl (by decide +kernel)
set_option maxRecDepth 100000 in
theorem gL_law_X7_roundedLength : GoodIn wsL_law (wsV RL 120 RX7 yX7_roundedLength wsX7_roundedLength) := goodIn_app (goodIn_of _ (by decide +kernel)) ggL_law_X7_roundedLength
set_option maxRecDepth 100000 in
theorem ggL_law_X6_excess : GoodIn wsL_law wsX6_excess := goodIn_r _ [520, 24, 16, 32, 192, 193, 194, 2, 195, 105, 196, 197, 198, 23, 199, 200, 201, 202, 203, 204, 45, 205, 206, 207, 46, 208, 209, 210, 211, 212, 213, 214, 215, 216, 217, 218, 219, 47, 220, 146, 147, 15, 148, 149, 37, 267, 268, 269, 270, 106, 28, 271, 272, 273, 27, 274, 275, 276, 277, 278, 279, 54, 280, 281, 282, 283, 284, 53, 285, 61, 286, 62, 64, 287, 288, 289, 290, 291, 245, 246, 292, 293, 294, 295, 296, 297, 298, 299, 300, 301, 302, 303, 304, 305, 306, 307, 308, 309, 310, 311, 312, 313, 314, 315, 316, 317, 318, 319, 320, 321, 322, 323, 324, 325, 326, 327, 328, 329, 330, 331, 332, 333, 334, 335, 336, 337, 338, 339, 340, 341, 342, 343, 55, 56, 344, 345, 346, 347, 348, 349, 350, 351, 352, 353, 354, 31, 355, 356, 357, 358, 68, 359, 360, 361, 362, 363, 364, 365, 366, 367, 503, 504, 505, 506, 507, 508, 509, 510, 511, 512, 628, 629, 630, 631, 632, 633, 634, 656, 657, 658, 659, 666, 649, 650, 660, 661, 662, 663, 664, 665, 667, 668, 669, 670, 671] rfl (by decide +kernel)
set_option maxRecDepth 100000 in
theorem gL_law_X6_excess : GoodIn wsL_law (wsV RL 121 RX6 yX6_excess wsX6_excess) := goodIn_app (goodIn_of _ (by decide +kernel)) ggL_law_X6_excess
set_option maxRecDepth 100000 in
theorem ggL_law_X7_excess : GoodIn wsL_law wsX7_excess := goodIn_r _ [524, 119, 82, 111, 491, 492, 493, 5, 494, 80, 422, 423, 424, 425, 78, 79, 75, 380, 77, 372, 373, 374, 375, 376, 377, 378, 379, 381, 382, 383, 384, 73, 385, 76, 386, 387, 388, 389, 390, 391, 392, 393, 394, 395, 396, 397, 398, 399, 400, 401, 402, 403, 404, 405, 406, 407, 408, 409, 410, 426, 427, 428, 429, 430, 431, 432, 456, 457, 458, 459, 495, 496, 497, 498, 229, 230, 231, 232, 83, 225, 226, 227, 228, 81, 635, 636, 637, 638, 639, 640, 641, 642, 643, 644, 645, 646, 647, 648] rfl (by decide +kernel)
set_option maxRecDepth 100000 in
theorem gL_law_X7_excess : GoodIn wsL_law (wsV RL 125 RX7 yX7_excess wsX7_excess) := goodIn_app (goodIn_of _ (by decide +kernel)) ggL_law_X7_excess
set_option maxRecDepth 100000 in
theorem ggL_law_L_assign : GoodIn wsL_law wsL_assign := goodIn_ca (goodIn_ca (goodIn_r _ [527, 131, 89, 528, 529, 530, 2, 531, 96, 97, 16, 20, 136, 137, 138, 139, 140, 141, 142, 143, 144, 145, 146, 147, 15, 148, 149, 37, 628, 629, 630, 631, 632, 633, 634, 651, 652, 653, 654, 655, 649, 650] rfl (by decide +kernel)) (goodIn_sub (fun _ h => List.mem_append_left _ (List.mem_append_right _ h)) (by decide +kernel))) (goodIn_sub (fun _ h => List.mem_append_right _ h) (by decide +kernel))
set_option maxRecDepth 100000 in
theorem gL_law_L_assign : GoodIn wsL_law (va_wsS RL 126 yL_assign wsL_assign) := goodIn_app (goodIn_of _ (by decide +kernel)) ggL_law_L_assign
set_option maxRecDepth 100000 in
theorem ggL_law_X7_assign : GoodIn wsL_law wsX7_assign := goodIn_r _ [535, 73, 74, 154, 155, 156, 5, 157, 111, 158, 159, 160, 115, 116, 117, 118, 119, 635, 636, 637, 638, 639, 640, 641, 642, 643, 644, 645, 646, 647, 648] rfl (by decide +kernel)
set_option maxRecDepth 100000 in
theorem gL_law_X7_assign : GoodIn wsL_law (wsV RL 128 RX7 yX7_assign wsX7_assign) := goodIn_app (goodIn_of _ (by decide +kernel)) ggL_law_X7_assign
set_option maxRecDepth 100000 in
theorem ggL_law_L_machine : GoodIn wsL_law wsL_machine := goodIn_ca (goodIn_r _ [538, 131, 539, 540, 541, 2, 542, 20, 136, 137, 138, 139, 140, 141, 16, 628, 629, 630, 631, 632, 633, 634, 651, 652, 653, 654, 655, 649, 650] rfl (by decide +kernel)) (goodIn_sub (fun _ h => List.mem_append_right _ h) (by decide +kernel))
set_option maxRecDepth 100000 in
theorem gL_law_L_machine : GoodIn wsL_law (va_wsS RL 129 yL_machine wsL_machine) := goodIn_app (goodIn_of _ (by decide +kernel)) ggL_law_L_machine
set_option maxRecDepth 100000 in
theorem ggL_law_X7_machine : GoodIn wsL_law wsX7_machine := goodIn_r _ [546, 74, 154, 155, 156, 5, 157, 111, 115, 116, 117, 118, 119, 635, 636, 637, 638, 639, 640, 641, 642, 643, 644, 645, 646, 647, 648] rfl (by decide +kernel)
set_option maxRecDepth 100000 in
theorem gL_law_X7_machine : GoodIn wsL_law (wsV RL 131 RX7 yX7_machine wsX7_machine) := goodIn_app (goodIn_of _ (by decide +kernel)) ggL_law_X7_machine
set_option maxRecDepth 100000 in
theorem ggL_law_L_load : GoodIn wsL_law wsL_load := goodIn_ca (goodIn_r _ [549, 131, 550, 551, 552, 2, 553, 16, 20, 142, 143, 144, 140, 141, 554, 509, 510, 15, 511, 149, 512, 146, 147, 148, 37, 628, 629, 630, 631, 632, 633, 634, 651, 652, 653, 654, 655, 649, 650] rfl (by decide +kernel)) (goodIn_sub (fun _ h => List.mem_append_right _ h) (by decide +kernel))
set_option maxRecDepth 100000 in
theorem gL_law_L_load : GoodIn wsL_law (va_wsS RL 132 yL_load wsL_load) := goodIn_app (goodIn_of _ (by decide +kernel)) ggL_law_L_load
set_option maxRecDepth 100000 in
theorem ggL_law_X7_load : GoodIn wsL_law wsX7_load := goodIn_r _ [558, 74, 83, 158, 159, 5, 160, 115, 116, 117, 118, 119, 229, 230, 231, 232, 111, 73, 635, 636, 637, 638, 639, 640, 641, 642, 643, 644, 645, 646, 647, 648] rfl (by decide +kernel)
set_option maxRecDepth 100000 in
theorem gL_law_X7_load : GoodIn wsL_law (wsV RL 134 RX7 yX7_load wsX7_load) := goodIn_app (goodIn_of _ (by decide +kernel)) ggL_law_X7_load
set_option maxRecDepth 100000 in
theorem ggL_law_X6_length : GoodIn wsL_law wsX6_length := goodIn_r _ [562, 16, 20, 503, 504, 505, 15, 506, 507, 213, 214, 215, 508, 509, 510, 511, 149, 512, 146, 147, 148, 37, 628, 629, 630, 631, 632, 633, 634, 651, 652, 653, 654, 655, 649, 650] rfl (by decide +kernel)
set_option maxRecDepth 100000 in
theorem gL_law_X6_length : GoodIn wsL_law (wsV RL 135 RX6 yX6_length wsX6_length) := goodIn_app (goodIn_of _ (by decide +kernel)) ggL_law_X6_length
set_option maxRecDepth 100000 in
theorem ggL_law_X7_length : GoodIn wsL_law wsX7_length := goodIn_r _ [566, 119, 74, 229, 230, 231, 5, 232, 83, 111, 73, 635, 636, 637, 638, 639, 640, 641, 642, 643, 644, 645, 646, 647, 648] rfl (by decide +kernel)
set_option maxRecDepth 100000 in
theorem gL_law_X7_length : GoodIn wsL_law (wsV RL 138 RX7 yX7_length wsX7_length) := goodIn_app (goodIn_of _ (by decide +kernel)) ggL_law_X7_length
set_option maxRecDepth 100000 in
theorem ggL_law_X6_improve : GoodIn wsL_law wsX6_improve := goodIn_r _ [570, 20, 16, 571, 572, 573, 19, 574, 575, 576, 577, 578, 41, 579, 580, 581, 582, 583, 213, 214, 215, 584, 245, 246, 585, 509, 510, 15, 511, 149, 512, 146, 147, 148, 37, 586, 587, 588, 589, 590, 591, 592, 593, 594, 595, 596, 597, 598, 599, 600, 601, 602, 503, 504, 505, 506, 507, 508, 628, 629, 630, 631, 632, 633, 634, 651, 652, 653, 654, 655, 649, 650] rfl (by decide +kernel)
set_option maxRecDepth 100000 in
theorem gL_law_X6_improve : GoodIn wsL_law (wsV RL 139 RX6 yX6_improve wsX6_improve) := goodIn_app (goodIn_of _ (by decide +kernel)) ggL_law_X6_improve
set_option maxRecDepth 100000 in
theorem ggL_law_X7_improve : GoodIn wsL_law wsX7_improve := goodIn_r _ [606, 119, 111, 74, 73, 607, 608, 609, 5, 610, 83, 611, 229, 230, 231, 232, 612, 613, 614, 615, 616, 617, 618, 619, 635, 636, 637, 638, 639, 640, 641, 642, 643, 644, 645, 646, 647, 648] rfl (by decide +kernel)
set_option maxRecDepth 100000 in
theorem gL_law_X7_improve : GoodIn wsL_law (wsV RL 142 RX7 yX7_improve wsX7_improve) := goodIn_app (goodIn_of _ (by decide +kernel)) ggL_law_X7_improve
set_option maxRecDepth 100000 in
theorem ggL_law_X6_takeRounded : GoodIn wsL_law wsX6_takeRounded := goodIn_r _ [623, 16, 20, 32, 267, 268, 269, 2, 270, 106, 28, 271, 272, 273, 27, 274, 275, 276, 277, 278, 279, 54, 280, 281, 282, 283, 284, 53, 285, 61, 286, 62, 64, 287, 288, 289, 290, 291, 245, 214, 246, 292, 293, 294, 295, 296, 297, 298, 146, 147, 15, 148, 149, 37, 299, 300, 301, 302, 303, 304, 305, 306, 307, 308, 309, 310, 311, 312, 313, 314, 315, 316, 317, 318, 319, 320, 321, 322, 323, 324, 325, 326, 327, 328, 329, 330, 331, 332, 333, 334, 335, 336, 337, 338, 339, 340, 341, 342, 343, 55, 56, 344, 345, 346, 347, 348, 349, 350, 351, 352, 353, 354, 31, 355, 356, 357, 358, 68, 359, 360, 361, 362, 363, 364, 365, 366, 367, 628, 629, 630, 631, 632, 633, 634, 649, 650, 651, 652, 653, 654, 655, 666, 660, 661, 662, 663, 664, 665, 667, 668, 669, 670, 671] rfl (by decide +kernel)
set_option maxRecDepth 100000 in
theorem gL_law_X6_takeRounded : GoodIn wsL_law (wsV RL 143 RX6 yX6_takeRounded wsX6_takeRounded) := goodIn_app (goodIn_of _ (by decide +kernel)) ggL_law_X6_takeRounded
set_option maxRecDepth 100000 in
theorem ggL_law_X7_takeRounded : GoodIn wsL_law wsX7_takeRounded := goodIn_r _ [627, 119, 111, 74, 82, 491, 492, 493, 5, 494, 80, 422, 423, 424, 425, 78, 79, 75, 380, 77, 372, 373, 374, 375, 376, 377, 378, 379, 381, 382, 383, 384, 73, 385, 76, 386, 387, 388, 389, 390, 391, 392, 393, 394, 395, 396, 397, 398, 399, 400, 401, 402, 403, 404, 405, 406, 407, 408, 409, 410, 426, 427, 428, 429, 430, 431, 432, 456, 457, 458, 459, 495, 496, 497, 498, 635, 636, 637, 638, 639, 640, 641, 642, 643, 644, 645, 646, 647, 648] rfl (by decide +kernel)
set_option maxRecDepth 100000 in
theorem gL_law_X7_takeRounded : GoodIn wsL_law (wsV RL 146 RX7 yX7_takeRounded wsX7_takeRounded) := goodIn_app (goodIn_of _ (by decide +kernel)) ggL_law_X7_takeRounded

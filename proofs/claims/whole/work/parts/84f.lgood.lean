set_option maxRecDepth 20000 in
theorem ggL_law_X5_leastCapacity : GoodIn wsL_law wsX5_leastCapacity := goodIn_r _ [556, 27, 515, 516, 481, 384, 385, 386, 2, 387, 123, 16, 364, 365, 366, 367, 244, 388, 389, 390, 26, 391, 392, 68, 69, 61, 393, 62, 63, 394, 395, 396, 397, 65, 66, 398, 399, 400, 401, 402, 403, 404, 405, 406, 407, 408, 409, 410, 411, 412, 413, 414, 64, 415, 416, 417, 418, 15, 419, 43, 42, 46, 420, 421, 422, 423, 810, 811, 812, 813, 814, 815, 816, 817, 849, 850, 851, 852, 853, 854, 855, 856, 857, 858, 839, 840, 841, 842, 843] (by decide +kernel) (by decide +kernel)
set_option maxRecDepth 20000 in
theorem gL_law_X5_leastCapacity : GoodIn wsL_law (wsV RL 81 RX5 yX5_leastCapacity wsX5_leastCapacity) := goodIn_app (goodIn_of _ (by decide +kernel)) ggL_law_X5_leastCapacity
set_option maxRecDepth 20000 in
theorem ggL_law_X6_leastCapacity : GoodIn wsL_law wsX6_leastCapacity := goodIn_r _ [560, 97, 95, 94, 140, 141, 5, 142, 522, 523, 524, 525, 90, 526, 527, 528, 529, 530, 531, 532, 533, 457, 458, 459, 460, 216, 217, 218, 175, 176, 177, 178, 445, 446, 447, 448, 441, 442, 443, 444, 449, 450, 451, 452, 453, 454, 455, 456, 818, 819, 820, 821, 822, 823, 824, 825, 826, 827, 828, 829, 830, 831, 832, 833, 834, 835, 836, 837, 838] (by decide +kernel) (by decide +kernel)
set_option maxRecDepth 20000 in
theorem gL_law_X6_leastCapacity : GoodIn wsL_law (wsV RL 84 RX6 yX6_leastCapacity wsX6_leastCapacity) := goodIn_app (goodIn_of _ (by decide +kernel)) ggL_law_X6_leastCapacity
set_option maxRecDepth 20000 in
theorem ggL_law_X5_headroom : GoodIn wsL_law wsX5_headroom := goodIn_r _ [564, 27, 16, 186, 123, 156, 157, 158, 2, 159, 109, 384, 385, 386, 387, 364, 365, 366, 367, 244, 388, 389, 390, 26, 391, 392, 68, 69, 61, 393, 62, 63, 394, 395, 396, 397, 65, 66, 398, 399, 400, 401, 402, 403, 404, 405, 406, 407, 408, 409, 410, 411, 412, 413, 414, 64, 415, 416, 417, 418, 15, 419, 43, 42, 46, 424, 425, 426, 427, 482, 483, 484, 485, 486, 487, 121, 488, 489, 490, 491, 492, 493, 494, 495, 496, 497, 421, 422, 423, 498, 499, 500, 501, 565, 566, 567, 568, 569, 570, 571, 572, 67, 573, 129, 130, 131, 810, 811, 812, 813, 814, 815, 816, 817, 839, 840, 841, 842, 843, 849, 850, 851, 852, 853, 854, 855, 856, 857, 858] (by decide +kernel) (by decide +kernel)
set_option maxRecDepth 20000 in
theorem gL_law_X5_headroom : GoodIn wsL_law (wsV RL 85 RX5 yX5_headroom wsX5_headroom) := goodIn_app (goodIn_of _ (by decide +kernel)) ggL_law_X5_headroom
set_option maxRecDepth 20000 in
theorem ggL_law_X6_headroom : GoodIn wsL_law wsX6_headroom := goodIn_r _ [577, 90, 171, 172, 173, 5, 174, 140, 141, 142, 522, 523, 524, 525, 526, 527, 528, 529, 97, 94, 95, 530, 531, 532, 533, 457, 458, 459, 460, 216, 217, 218, 175, 176, 177, 178, 445, 446, 447, 448, 441, 442, 443, 444, 449, 450, 451, 452, 453, 454, 455, 456, 534, 535, 536, 537, 578, 579, 580, 581, 818, 819, 820, 821, 822, 823, 824, 825, 826, 827, 828, 829, 830, 831, 832, 833, 834, 835, 836, 837, 838] (by decide +kernel) (by decide +kernel)
set_option maxRecDepth 20000 in
theorem gL_law_X6_headroom : GoodIn wsL_law (wsV RL 88 RX6 yX6_headroom wsX6_headroom) := goodIn_app (goodIn_of _ (by decide +kernel)) ggL_law_X6_headroom
set_option maxRecDepth 20000 in
theorem ggL_law_X5_greedy : GoodIn wsL_law wsX5_greedy := goodIn_r _ [585, 16, 109, 27, 384, 385, 386, 2, 387, 123, 364, 365, 366, 367, 244, 388, 389, 390, 26, 391, 392, 68, 69, 61, 393, 62, 63, 394, 395, 396, 397, 65, 66, 398, 399, 400, 401, 402, 403, 404, 405, 406, 407, 408, 409, 410, 411, 412, 413, 414, 64, 415, 416, 417, 418, 15, 419, 43, 42, 46, 586, 587, 588, 589, 590, 487, 121, 488, 591, 592, 593, 594, 424, 425, 426, 427, 517, 494, 495, 496, 497, 421, 422, 423, 502, 503, 504, 505, 506, 810, 811, 812, 813, 814, 815, 816, 817, 839, 840, 841, 842, 843, 849, 850, 851, 852, 853, 854, 855, 856, 857, 858] (by decide +kernel) (by decide +kernel)
set_option maxRecDepth 20000 in
theorem gL_law_X5_greedy : GoodIn wsL_law (wsV RL 89 RX5 yX5_greedy wsX5_greedy) := goodIn_app (goodIn_of _ (by decide +kernel)) ggL_law_X5_greedy
set_option maxRecDepth 20000 in
theorem ggL_law_X6_greedy : GoodIn wsL_law wsX6_greedy := goodIn_r _ [598, 90, 436, 140, 141, 5, 142, 216, 217, 218, 599, 600, 601, 602, 175, 176, 177, 178, 457, 458, 459, 460, 445, 446, 447, 448, 441, 442, 443, 444, 449, 450, 451, 452, 453, 454, 455, 456, 818, 819, 820, 821, 822, 823, 824, 825, 826, 827, 828, 829, 830, 831, 832, 833, 834, 835, 836, 837, 838] (by decide +kernel) (by decide +kernel)
set_option maxRecDepth 20000 in
theorem gL_law_X6_greedy : GoodIn wsL_law (wsV RL 92 RX6 yX6_greedy wsX6_greedy) := goodIn_app (goodIn_of _ (by decide +kernel)) ggL_law_X6_greedy
set_option maxRecDepth 20000 in
theorem ggL_law_X5_forced : GoodIn wsL_law wsX5_forced := goodIn_r _ [606, 27, 352, 353, 354, 2, 355, 16, 109, 384, 385, 386, 387, 123, 364, 365, 366, 367, 244, 388, 389, 390, 26, 391, 392, 68, 69, 61, 393, 62, 63, 394, 395, 396, 397, 65, 66, 398, 399, 400, 401, 402, 403, 404, 405, 406, 407, 408, 409, 410, 411, 412, 413, 414, 64, 415, 416, 417, 418, 15, 419, 43, 42, 46, 424, 425, 426, 427, 607, 490, 491, 492, 493, 494, 495, 496, 497, 421, 422, 423, 498, 499, 500, 501, 502, 503, 504, 505, 506, 810, 811, 812, 813, 814, 815, 816, 817, 839, 840, 841, 842, 843, 849, 850, 851, 852, 853, 854, 855, 856, 857, 858] (by decide +kernel) (by decide +kernel)
set_option maxRecDepth 20000 in
theorem gL_law_X5_forced : GoodIn wsL_law (wsV RL 93 RX5 yX5_forced wsX5_forced) := goodIn_app (goodIn_of _ (by decide +kernel)) ggL_law_X5_forced
set_option maxRecDepth 20000 in
theorem ggL_law_X6_forced : GoodIn wsL_law wsX6_forced := goodIn_r _ [611, 95, 436, 437, 438, 439, 5, 440, 90, 140, 141, 142, 522, 523, 524, 525, 526, 527, 528, 529, 97, 94, 530, 531, 532, 533, 457, 458, 459, 460, 216, 217, 218, 175, 176, 177, 178, 445, 446, 447, 448, 441, 442, 443, 444, 449, 450, 451, 452, 453, 454, 455, 456, 612, 613, 614, 615, 616, 617, 618, 619, 818, 819, 820, 821, 822, 823, 824, 825, 826, 827, 828, 829, 830, 831, 832, 833, 834, 835, 836, 837, 838] (by decide +kernel) (by decide +kernel)
set_option maxRecDepth 20000 in
theorem gL_law_X6_forced : GoodIn wsL_law (wsV RL 96 RX6 yX6_forced wsX6_forced) := goodIn_app (goodIn_of _ (by decide +kernel)) ggL_law_X6_forced

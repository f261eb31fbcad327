set_option maxRecDepth 20000 in
theorem ggL_law_X5_frontier : GoodIn wsL_law wsX5_frontier := goodIn_r _ [623, 31, 27, 624, 481, 384, 385, 386, 2, 387, 123, 16, 364, 365, 366, 367, 244, 388, 389, 390, 26, 391, 392, 68, 69, 61, 393, 62, 63, 394, 395, 396, 397, 65, 66, 398, 399, 400, 401, 402, 403, 404, 405, 406, 407, 408, 409, 410, 411, 412, 413, 414, 64, 415, 416, 417, 418, 15, 419, 43, 42, 46, 625, 626, 627, 30, 628, 629, 630, 631, 632, 633, 634, 635, 636, 120, 121, 122, 75, 637, 494, 495, 496, 497, 421, 422, 423, 638, 639, 640, 641, 642, 643, 644, 645, 76, 646, 647, 648, 649, 502, 503, 504, 505, 506, 810, 811, 812, 813, 814, 815, 816, 817, 859, 860, 849, 850, 851, 852, 853, 854, 855, 856, 857, 858, 839, 840, 841, 842, 843] (by decide +kernel) (by decide +kernel)
set_option maxRecDepth 20000 in
theorem gL_law_X5_frontier : GoodIn wsL_law (wsV RL 97 RX5 yX5_frontier wsX5_frontier) := goodIn_app (goodIn_of _ (by decide +kernel)) ggL_law_X5_frontier
set_option maxRecDepth 20000 in
theorem ggL_law_X6_frontier : GoodIn wsL_law wsX6_frontier := goodIn_r _ [653, 95, 436, 140, 141, 5, 142, 522, 523, 524, 525, 90, 526, 527, 528, 529, 97, 94, 530, 531, 532, 533, 457, 458, 459, 460, 216, 217, 218, 175, 176, 177, 178, 445, 446, 447, 448, 441, 442, 443, 444, 449, 450, 451, 452, 453, 454, 455, 456, 534, 535, 536, 537, 654, 655, 656, 657, 818, 819, 820, 821, 822, 823, 824, 825, 826, 827, 828, 829, 830, 831, 832, 833, 834, 835, 836, 837, 838] (by decide +kernel) (by decide +kernel)
set_option maxRecDepth 20000 in
theorem gL_law_X6_frontier : GoodIn wsL_law (wsV RL 100 RX6 yX6_frontier wsX6_frontier) := goodIn_app (goodIn_of _ (by decide +kernel)) ggL_law_X6_frontier
set_option maxRecDepth 20000 in
theorem ggL_law_X5_improve : GoodIn wsL_law wsX5_improve := goodIn_r _ [661, 27, 352, 353, 354, 2, 355, 16, 109, 384, 385, 386, 387, 123, 364, 365, 366, 367, 244, 388, 389, 390, 26, 391, 392, 68, 69, 61, 393, 62, 63, 394, 395, 396, 397, 65, 66, 398, 399, 400, 401, 402, 403, 404, 405, 406, 407, 408, 409, 410, 411, 412, 413, 414, 64, 415, 416, 417, 418, 15, 419, 43, 42, 46, 424, 425, 426, 427, 517, 494, 495, 496, 497, 421, 422, 423, 662, 663, 664, 665, 493, 498, 499, 500, 501, 810, 811, 812, 813, 814, 815, 816, 817, 839, 840, 841, 842, 843, 849, 850, 851, 852, 853, 854, 855, 856, 857, 858] (by decide +kernel) (by decide +kernel)
set_option maxRecDepth 20000 in
theorem gL_law_X5_improve : GoodIn wsL_law (wsV RL 101 RX5 yX5_improve wsX5_improve) := goodIn_app (goodIn_of _ (by decide +kernel)) ggL_law_X5_improve
set_option maxRecDepth 20000 in
theorem ggL_law_X6_improve : GoodIn wsL_law wsX6_improve := goodIn_r _ [669, 437, 438, 439, 5, 440, 90, 140, 141, 142, 522, 523, 524, 525, 526, 527, 528, 529, 97, 94, 95, 530, 531, 532, 533, 457, 458, 459, 460, 216, 217, 218, 175, 176, 177, 178, 445, 446, 447, 448, 441, 442, 443, 444, 449, 450, 451, 452, 453, 454, 455, 456, 612, 613, 614, 615, 670, 671, 672, 673, 616, 617, 618, 619, 818, 819, 820, 821, 822, 823, 824, 825, 826, 827, 828, 829, 830, 831, 832, 833, 834, 835, 836, 837, 838] (by decide +kernel) (by decide +kernel)
set_option maxRecDepth 20000 in
theorem gL_law_X6_improve : GoodIn wsL_law (wsV RL 104 RX6 yX6_improve wsX6_improve) := goodIn_app (goodIn_of _ (by decide +kernel)) ggL_law_X6_improve
set_option maxRecDepth 20000 in
theorem ggL_law_X5_list : GoodIn wsL_law wsX5_list := goodIn_r _ [677, 31, 27, 624, 678, 679, 680, 2, 681, 16, 109, 384, 385, 386, 387, 123, 364, 365, 366, 367, 244, 388, 389, 390, 26, 391, 392, 68, 69, 61, 393, 62, 63, 394, 395, 396, 397, 65, 66, 398, 399, 400, 401, 402, 403, 404, 405, 406, 407, 408, 409, 410, 411, 412, 413, 414, 64, 415, 416, 417, 418, 15, 419, 43, 42, 46, 424, 425, 426, 427, 682, 683, 684, 30, 685, 629, 686, 632, 633, 634, 635, 636, 120, 121, 122, 75, 638, 639, 640, 641, 642, 643, 644, 645, 76, 646, 647, 648, 649, 810, 811, 812, 813, 814, 815, 816, 817, 859, 860, 839, 840, 841, 842, 843, 849, 850, 851, 852, 853, 854, 855, 856, 857, 858] (by decide +kernel) (by decide +kernel)
set_option maxRecDepth 20000 in
theorem gL_law_X5_list : GoodIn wsL_law (wsV RL 105 RX5 yX5_list wsX5_list) := goodIn_app (goodIn_of _ (by decide +kernel)) ggL_law_X5_list
set_option maxRecDepth 20000 in
theorem ggL_law_X6_list : GoodIn wsL_law wsX6_list := goodIn_r _ [690, 90, 691, 99, 140, 141, 5, 142, 692, 693, 694, 695, 98, 94, 441, 442, 443, 444, 216, 217, 218, 175, 176, 177, 178, 445, 446, 447, 448, 449, 450, 451, 452, 818, 819, 820, 821, 822, 823, 824, 825, 826, 827, 828, 829, 830, 831, 832, 833, 834, 835, 836, 837, 838] (by decide +kernel) (by decide +kernel)
set_option maxRecDepth 20000 in
theorem gL_law_X6_list : GoodIn wsL_law (wsV RL 108 RX6 yX6_list wsX6_list) := goodIn_app (goodIn_of _ (by decide +kernel)) ggL_law_X6_list
set_option maxRecDepth 20000 in
theorem ggL_law_X5_dominator : GoodIn wsL_law wsX5_dominator := goodIn_r _ [699, 27, 481, 31, 700, 678, 679, 680, 2, 681, 16, 109, 384, 385, 386, 387, 123, 364, 365, 366, 367, 244, 388, 389, 390, 26, 391, 392, 68, 69, 61, 393, 62, 63, 394, 395, 396, 397, 65, 66, 398, 399, 400, 401, 402, 403, 404, 405, 406, 407, 408, 409, 410, 411, 412, 413, 414, 64, 415, 416, 417, 418, 15, 419, 43, 42, 46, 424, 425, 426, 427, 682, 683, 684, 30, 685, 629, 686, 632, 633, 634, 635, 636, 120, 121, 122, 75, 638, 639, 640, 641, 642, 643, 644, 645, 76, 701, 702, 703, 704, 810, 811, 812, 813, 814, 815, 816, 817, 849, 850, 851, 852, 853, 854, 855, 856, 857, 858, 839, 840, 841, 842, 843, 859, 860] (by decide +kernel) (by decide +kernel)
set_option maxRecDepth 20000 in
theorem gL_law_X5_dominator : GoodIn wsL_law (wsV RL 109 RX5 yX5_dominator wsX5_dominator) := goodIn_app (goodIn_of _ (by decide +kernel)) ggL_law_X5_dominator
set_option maxRecDepth 20000 in
theorem ggL_law_X6_dominator : GoodIn wsL_law wsX6_dominator := goodIn_r _ [708, 90, 94, 691, 99, 98, 140, 141, 5, 142, 692, 693, 694, 695, 441, 442, 443, 444, 216, 217, 218, 175, 176, 177, 178, 445, 446, 447, 448, 449, 450, 451, 452, 818, 819, 820, 821, 822, 823, 824, 825, 826, 827, 828, 829, 830, 831, 832, 833, 834, 835, 836, 837, 838] (by decide +kernel) (by decide +kernel)
set_option maxRecDepth 20000 in
theorem gL_law_X6_dominator : GoodIn wsL_law (wsV RL 112 RX6 yX6_dominator wsX6_dominator) := goodIn_app (goodIn_of _ (by decide +kernel)) ggL_law_X6_dominator

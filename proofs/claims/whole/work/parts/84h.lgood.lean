set_option maxRecDepth 20000 in
theorem ggL_law_X5_threshold : GoodIn wsL_law wsX5_threshold := goodIn_r _ [712, 713, 714, 715, 2, 716, 16, 717, 718, 719, 15, 720, 46, 42, 721, 722, 723, 724, 810, 811, 812, 813, 814, 815, 816, 817, 839, 840, 841, 842, 843] (by decide +kernel) (by decide +kernel)
set_option maxRecDepth 20000 in
theorem gL_law_X5_threshold : GoodIn wsL_law (wsV RL 113 RX5 yX5_threshold wsX5_threshold) := goodIn_app (goodIn_of _ (by decide +kernel)) ggL_law_X5_threshold
set_option maxRecDepth 20000 in
theorem ggL_law_X6_threshold : GoodIn wsL_law wsX6_threshold := goodIn_r _ [728, 100, 729, 730, 731, 5, 732, 90, 175, 176, 177, 178, 140, 141, 142, 818, 819, 820, 821, 822, 823, 824, 825, 826, 827, 828, 829, 830, 831, 832, 833, 834, 835, 836, 837, 838] (by decide +kernel) (by decide +kernel)
set_option maxRecDepth 20000 in
theorem gL_law_X6_threshold : GoodIn wsL_law (wsV RL 116 RX6 yX6_threshold wsX6_threshold) := goodIn_app (goodIn_of _ (by decide +kernel)) ggL_law_X6_threshold
set_option maxRecDepth 20000 in
theorem ggL_law_X5_plain : GoodIn wsL_law wsX5_plain := goodIn_r _ [736, 35, 27, 16, 713, 714, 715, 2, 716, 717, 718, 719, 15, 720, 46, 42, 721, 722, 723, 724, 424, 425, 426, 427, 244, 364, 365, 366, 367, 384, 385, 386, 387, 123, 388, 389, 390, 26, 391, 392, 68, 69, 61, 393, 62, 63, 394, 395, 396, 397, 65, 66, 398, 399, 400, 401, 402, 403, 404, 405, 406, 407, 408, 409, 410, 411, 412, 413, 414, 64, 415, 416, 417, 418, 419, 43, 737, 738, 739, 34, 740, 741, 742, 743, 487, 121, 488, 84, 81, 744, 745, 746, 421, 422, 423, 810, 811, 812, 813, 814, 815, 816, 817, 839, 840, 841, 842, 843, 849, 850, 851, 852, 853, 854, 855, 856, 857, 858, 861, 862, 863, 864, 865] (by decide +kernel) (by decide +kernel)
set_option maxRecDepth 20000 in
theorem gL_law_X5_plain : GoodIn wsL_law (wsV RL 117 RX5 yX5_plain wsX5_plain) := goodIn_app (goodIn_of _ (by decide +kernel)) ggL_law_X5_plain
set_option maxRecDepth 20000 in
theorem ggL_law_X6_plain : GoodIn wsL_law wsX6_plain := goodIn_r _ [750, 100, 90, 729, 730, 731, 5, 732, 175, 176, 177, 178, 140, 141, 142, 530, 531, 532, 533, 216, 217, 218, 441, 442, 443, 444, 457, 458, 459, 460, 818, 819, 820, 821, 822, 823, 824, 825, 826, 827, 828, 829, 830, 831, 832, 833, 834, 835, 836, 837, 838] (by decide +kernel) (by decide +kernel)
set_option maxRecDepth 20000 in
theorem gL_law_X6_plain : GoodIn wsL_law (wsV RL 120 RX6 yX6_plain wsX6_plain) := goodIn_app (goodIn_of _ (by decide +kernel)) ggL_law_X6_plain
set_option maxRecDepth 20000 in
theorem ggL_law_X5_recovered : GoodIn wsL_law wsX5_recovered := goodIn_r _ [754, 35, 27, 16, 351, 700, 352, 353, 354, 2, 355, 109, 469, 403, 404, 405, 406, 407, 408, 364, 365, 366, 367, 244, 384, 385, 386, 387, 123, 388, 389, 390, 26, 391, 392, 68, 69, 61, 393, 62, 63, 394, 395, 396, 397, 65, 66, 398, 399, 400, 401, 402, 409, 410, 411, 412, 413, 414, 64, 415, 416, 417, 418, 15, 419, 43, 42, 46, 755, 756, 757, 34, 758, 81, 742, 741, 82, 85, 83, 759, 746, 421, 422, 423, 424, 425, 426, 427, 760, 761, 762, 763, 810, 811, 812, 813, 814, 815, 816, 817, 849, 850, 851, 852, 853, 854, 855, 856, 857, 858, 839, 840, 841, 842, 843, 861, 862, 863, 864, 865] (by decide +kernel) (by decide +kernel)
set_option maxRecDepth 20000 in
theorem gL_law_X5_recovered : GoodIn wsL_law (wsV RL 121 RX5 yX5_recovered wsX5_recovered) := goodIn_app (goodIn_of _ (by decide +kernel)) ggL_law_X5_recovered
set_option maxRecDepth 20000 in
theorem ggL_law_X6_recovered : GoodIn wsL_law wsX6_recovered := goodIn_r _ [767, 90, 437, 438, 439, 5, 440, 140, 141, 142, 474, 475, 476, 768, 769, 770, 771, 772, 104, 101, 102, 103, 530, 531, 532, 533, 441, 442, 443, 444, 216, 217, 218, 175, 176, 177, 178, 457, 458, 459, 460, 773, 774, 775, 776, 818, 819, 820, 821, 822, 823, 824, 825, 826, 827, 828, 829, 830, 831, 832, 833, 834, 835, 836, 837, 838] (by decide +kernel) (by decide +kernel)
set_option maxRecDepth 20000 in
theorem gL_law_X6_recovered : GoodIn wsL_law (wsV RL 124 RX6 yX6_recovered wsX6_recovered) := goodIn_app (goodIn_of _ (by decide +kernel)) ggL_law_X6_recovered
set_option maxRecDepth 20000 in
theorem ggL_law_X5_adversary : GoodIn wsL_law wsX5_adversary := goodIn_r _ [780, 35, 27, 16, 351, 700, 352, 353, 354, 2, 355, 109, 384, 385, 386, 387, 123, 364, 365, 366, 367, 244, 388, 389, 390, 26, 391, 392, 68, 69, 61, 393, 62, 63, 394, 395, 396, 397, 65, 66, 398, 399, 400, 401, 402, 403, 404, 405, 406, 407, 408, 409, 410, 411, 412, 413, 414, 64, 415, 416, 417, 418, 15, 419, 43, 42, 46, 755, 756, 757, 34, 758, 81, 742, 741, 82, 85, 83, 759, 746, 421, 422, 423, 469, 424, 425, 426, 427, 760, 761, 762, 763, 810, 811, 812, 813, 814, 815, 816, 817, 849, 850, 851, 852, 853, 854, 855, 856, 857, 858, 839, 840, 841, 842, 843, 861, 862, 863, 864, 865] (by decide +kernel) (by decide +kernel)
set_option maxRecDepth 20000 in
theorem gL_law_X5_adversary : GoodIn wsL_law (wsV RL 125 RX5 yX5_adversary wsX5_adversary) := goodIn_app (goodIn_of _ (by decide +kernel)) ggL_law_X5_adversary
set_option maxRecDepth 20000 in
theorem ggL_law_X6_adversary : GoodIn wsL_law wsX6_adversary := goodIn_r _ [784, 90, 437, 438, 439, 5, 440, 140, 141, 142, 768, 769, 770, 771, 772, 104, 101, 102, 103, 530, 531, 532, 533, 441, 442, 443, 444, 216, 217, 218, 175, 176, 177, 178, 474, 475, 476, 457, 458, 459, 460, 773, 774, 775, 776, 818, 819, 820, 821, 822, 823, 824, 825, 826, 827, 828, 829, 830, 831, 832, 833, 834, 835, 836, 837, 838] (by decide +kernel) (by decide +kernel)
set_option maxRecDepth 20000 in
theorem gL_law_X6_adversary : GoodIn wsL_law (wsV RL 128 RX6 yX6_adversary wsX6_adversary) := goodIn_app (goodIn_of _ (by decide +kernel)) ggL_law_X6_adversary

set_option maxRecDepth 20000 in
theorem ggL_law_X5_choice : GoodIn wsL_law wsX5_choice := goodIn_r _ [350, 16, 351, 27, 352, 353, 354, 2, 355, 109, 356, 357, 358, 15, 359, 360, 361, 362, 363, 46, 42, 364, 365, 366, 367, 244, 368, 369, 370, 371, 372, 373, 374, 375, 376, 377, 378, 379, 380, 381, 382, 383, 384, 385, 386, 387, 123, 388, 389, 390, 26, 391, 392, 68, 69, 61, 393, 62, 63, 394, 395, 396, 397, 65, 66, 398, 399, 400, 401, 402, 403, 404, 405, 406, 407, 408, 409, 410, 411, 412, 413, 414, 64, 415, 416, 417, 418, 419, 43, 420, 421, 422, 423, 424, 425, 426, 427, 428, 429, 430, 431, 810, 811, 812, 813, 814, 815, 816, 817, 839, 840, 841, 842, 843, 849, 850, 851, 852, 853, 854, 855, 856, 857, 858] (by decide +kernel) (by decide +kernel)
set_option maxRecDepth 20000 in
theorem gL_law_X5_choice : GoodIn wsL_law (wsV RL 65 RX5 yX5_choice wsX5_choice) := goodIn_app (goodIn_of _ (by decide +kernel)) ggL_law_X5_choice
set_option maxRecDepth 20000 in
theorem ggL_law_X6_choice : GoodIn wsL_law wsX6_choice := goodIn_r _ [435, 90, 436, 437, 438, 439, 5, 440, 140, 141, 142, 441, 442, 443, 444, 216, 217, 218, 175, 176, 177, 178, 445, 446, 447, 448, 449, 450, 451, 452, 453, 454, 455, 456, 457, 458, 459, 460, 461, 462, 463, 464, 818, 819, 820, 821, 822, 823, 824, 825, 826, 827, 828, 829, 830, 831, 832, 833, 834, 835, 836, 837, 838] (by decide +kernel) (by decide +kernel)
set_option maxRecDepth 20000 in
theorem gL_law_X6_choice : GoodIn wsL_law (wsV RL 68 RX6 yX6_choice wsX6_choice) := goodIn_app (goodIn_of _ (by decide +kernel)) ggL_law_X6_choice
set_option maxRecDepth 20000 in
theorem ggL_law_X5_weightIn : GoodIn wsL_law wsX5_weightIn := goodIn_r _ [468, 16, 352, 353, 354, 2, 355, 109, 469, 403, 404, 405, 406, 407, 408, 364, 365, 366, 367, 244, 356, 357, 358, 15, 359, 360, 361, 362, 363, 46, 42, 810, 811, 812, 813, 814, 815, 816, 817, 839, 840, 841, 842, 843] (by decide +kernel) (by decide +kernel)
set_option maxRecDepth 20000 in
theorem gL_law_X5_weightIn : GoodIn wsL_law (wsV RL 69 RX5 yX5_weightIn wsX5_weightIn) := goodIn_app (goodIn_of _ (by decide +kernel)) ggL_law_X5_weightIn
set_option maxRecDepth 20000 in
theorem ggL_law_X6_weightIn : GoodIn wsL_law wsX6_weightIn := goodIn_r _ [473, 90, 437, 438, 439, 5, 440, 140, 141, 142, 474, 475, 476, 441, 442, 443, 444, 216, 217, 218, 175, 176, 177, 178, 818, 819, 820, 821, 822, 823, 824, 825, 826, 827, 828, 829, 830, 831, 832, 833, 834, 835, 836, 837, 838] (by decide +kernel) (by decide +kernel)
set_option maxRecDepth 20000 in
theorem gL_law_X6_weightIn : GoodIn wsL_law (wsV RL 72 RX6 yX6_weightIn wsX6_weightIn) := goodIn_app (goodIn_of _ (by decide +kernel)) ggL_law_X6_weightIn
set_option maxRecDepth 20000 in
theorem ggL_law_X5_best : GoodIn wsL_law wsX5_best := goodIn_r _ [480, 27, 481, 384, 385, 386, 2, 387, 123, 16, 364, 365, 366, 367, 244, 388, 389, 390, 26, 391, 392, 68, 69, 61, 393, 62, 63, 394, 395, 396, 397, 65, 66, 398, 399, 400, 401, 402, 403, 404, 405, 406, 407, 408, 409, 410, 411, 412, 413, 414, 64, 415, 416, 417, 418, 15, 419, 43, 42, 46, 424, 425, 426, 427, 482, 483, 484, 485, 486, 487, 121, 488, 489, 490, 491, 492, 493, 494, 495, 496, 497, 421, 422, 423, 498, 499, 500, 501, 502, 503, 504, 505, 506, 507, 508, 509, 510, 511, 512, 513, 514, 515, 516, 517, 810, 811, 812, 813, 814, 815, 816, 817, 849, 850, 851, 852, 853, 854, 855, 856, 857, 858, 839, 840, 841, 842, 843] (by decide +kernel) (by decide +kernel)
set_option maxRecDepth 20000 in
theorem gL_law_X5_best : GoodIn wsL_law (wsV RL 73 RX5 yX5_best wsX5_best) := goodIn_app (goodIn_of _ (by decide +kernel)) ggL_law_X5_best
set_option maxRecDepth 20000 in
theorem ggL_law_X6_best : GoodIn wsL_law wsX6_best := goodIn_r _ [521, 90, 95, 436, 94, 140, 141, 5, 142, 522, 523, 524, 525, 526, 527, 528, 529, 97, 530, 531, 532, 533, 457, 458, 459, 460, 216, 217, 218, 175, 176, 177, 178, 445, 446, 447, 448, 441, 442, 443, 444, 449, 450, 451, 452, 453, 454, 455, 456, 534, 535, 536, 537, 538, 539, 540, 541, 818, 819, 820, 821, 822, 823, 824, 825, 826, 827, 828, 829, 830, 831, 832, 833, 834, 835, 836, 837, 838] (by decide +kernel) (by decide +kernel)
set_option maxRecDepth 20000 in
theorem gL_law_X6_best : GoodIn wsL_law (wsV RL 76 RX6 yX6_best wsX6_best) := goodIn_app (goodIn_of _ (by decide +kernel)) ggL_law_X6_best
set_option maxRecDepth 20000 in
theorem ggL_law_X5_bestWith : GoodIn wsL_law wsX5_bestWith := goodIn_r _ [545, 27, 16, 123, 546, 547, 2, 548, 388, 389, 390, 26, 391, 392, 68, 69, 61, 393, 62, 63, 394, 395, 396, 397, 65, 66, 398, 399, 400, 401, 402, 403, 404, 405, 406, 407, 408, 409, 410, 411, 412, 413, 414, 64, 415, 416, 417, 418, 15, 419, 43, 42, 46, 482, 483, 484, 485, 486, 487, 121, 488, 489, 490, 491, 492, 493, 494, 495, 496, 497, 421, 422, 423, 498, 499, 500, 501, 502, 503, 504, 505, 506, 810, 811, 812, 813, 814, 815, 816, 817, 849, 850, 851, 852, 853, 854, 855, 856, 857, 858, 839, 840, 841, 842, 843] (by decide +kernel) (by decide +kernel)
set_option maxRecDepth 20000 in
theorem gL_law_X5_bestWith : GoodIn wsL_law (wsV RL 77 RX5 yX5_bestWith wsX5_bestWith) := goodIn_app (goodIn_of _ (by decide +kernel)) ggL_law_X5_bestWith
set_option maxRecDepth 20000 in
theorem ggL_law_X6_bestWith : GoodIn wsL_law wsX6_bestWith := goodIn_r _ [552, 95, 436, 140, 141, 5, 142, 526, 527, 528, 529, 97, 94, 530, 531, 532, 533, 90, 457, 458, 459, 460, 216, 217, 218, 175, 176, 177, 178, 445, 446, 447, 448, 441, 442, 443, 444, 449, 450, 451, 452, 453, 454, 455, 456, 534, 535, 536, 537, 818, 819, 820, 821, 822, 823, 824, 825, 826, 827, 828, 829, 830, 831, 832, 833, 834, 835, 836, 837, 838] (by decide +kernel) (by decide +kernel)
set_option maxRecDepth 20000 in
theorem gL_law_X6_bestWith : GoodIn wsL_law (wsV RL 80 RX6 yX6_bestWith wsX6_bestWith) := goodIn_app (goodIn_of _ (by decide +kernel)) ggL_law_X6_bestWith

set_option maxRecDepth 20000 in
theorem ggL_law_X5_item : GoodIn wsL_law wsX5_item := goodIn_r _ [201, 16, 202, 203, 156, 157, 158, 2, 159, 109, 187, 188, 189, 190, 186, 204, 205, 206, 15, 207, 46, 44, 810, 811, 812, 813, 814, 815, 816, 817, 839, 840, 841, 842, 843] (by decide +kernel) (by decide +kernel)
set_option maxRecDepth 20000 in
theorem gL_law_X5_item : GoodIn wsL_law (wsV RL 28 RX5 yX5_item wsX5_item) := goodIn_app (goodIn_of _ (by decide +kernel)) ggL_law_X5_item
set_option maxRecDepth 20000 in
theorem ggL_law_X6_item : GoodIn wsL_law wsX6_item := goodIn_r _ [211, 90, 171, 172, 173, 5, 174, 140, 141, 142, 175, 176, 177, 178, 212, 213, 214, 215, 216, 217, 218, 818, 819, 820, 821, 822, 823, 824, 825, 826, 827, 828, 829, 830, 831, 832, 833, 834, 835, 836, 837, 838] (by decide +kernel) (by decide +kernel)
set_option maxRecDepth 20000 in
theorem gL_law_X6_item : GoodIn wsL_law (wsV RL 32 RX6 yX6_item wsX6_item) := goodIn_app (goodIn_of _ (by decide +kernel)) ggL_law_X6_item
set_option maxRecDepth 20000 in
theorem ggL_law_X5_conflict : GoodIn wsL_law wsX5_conflict := goodIn_r _ [222, 16, 202, 223, 224, 225, 2, 226, 156, 157, 158, 159, 109, 115, 116, 117, 118, 17, 19, 18, 119, 120, 121, 122, 27, 123, 124, 125, 126, 15, 127, 42, 128, 129, 130, 131, 43, 44, 45, 46, 810, 811, 812, 813, 814, 815, 816, 817, 839, 840, 841, 842, 843, 849, 850, 851, 852, 853, 854, 855, 856, 857, 858] (by decide +kernel) (by decide +kernel)
set_option maxRecDepth 20000 in
theorem gL_law_X5_conflict : GoodIn wsL_law (wsV RL 33 RX5 yX5_conflict wsX5_conflict) := goodIn_app (goodIn_of _ (by decide +kernel)) ggL_law_X5_conflict
set_option maxRecDepth 20000 in
theorem ggL_law_X6_conflict : GoodIn wsL_law wsX6_conflict := goodIn_r _ [230, 90, 171, 172, 173, 5, 174, 140, 141, 142, 143, 144, 145, 146, 147, 91, 818, 819, 820, 821, 822, 823, 824, 825, 826, 827, 828, 829, 830, 831, 832, 833, 834, 835, 836, 837, 838] (by decide +kernel) (by decide +kernel)
set_option maxRecDepth 20000 in
theorem gL_law_X6_conflict : GoodIn wsL_law (wsV RL 36 RX6 yX6_conflict wsX6_conflict) := goodIn_app (goodIn_of _ (by decide +kernel)) ggL_law_X6_conflict
set_option maxRecDepth 20000 in
theorem ggL_law_X5_need : GoodIn wsL_law wsX5_need := goodIn_r _ [234, 16, 203, 223, 224, 225, 2, 226, 156, 157, 158, 159, 109, 115, 116, 117, 118, 17, 19, 18, 119, 120, 121, 122, 27, 123, 124, 125, 126, 15, 127, 42, 128, 129, 130, 131, 43, 44, 45, 46, 810, 811, 812, 813, 814, 815, 816, 817, 839, 840, 841, 842, 843, 849, 850, 851, 852, 853, 854, 855, 856, 857, 858] (by decide +kernel) (by decide +kernel)
set_option maxRecDepth 20000 in
theorem gL_law_X5_need : GoodIn wsL_law (wsV RL 37 RX5 yX5_need wsX5_need) := goodIn_app (goodIn_of _ (by decide +kernel)) ggL_law_X5_need
set_option maxRecDepth 20000 in
theorem ggL_law_X6_need : GoodIn wsL_law wsX6_need := goodIn_r _ [238, 90, 171, 172, 173, 5, 174, 140, 141, 142, 143, 144, 145, 146, 147, 91, 818, 819, 820, 821, 822, 823, 824, 825, 826, 827, 828, 829, 830, 831, 832, 833, 834, 835, 836, 837, 838] (by decide +kernel) (by decide +kernel)
set_option maxRecDepth 20000 in
theorem gL_law_X6_need : GoodIn wsL_law (wsV RL 40 RX6 yX6_need wsX6_need) := goodIn_app (goodIn_of _ (by decide +kernel)) ggL_law_X6_need
set_option maxRecDepth 20000 in
theorem ggL_law_X5_rule : GoodIn wsL_law wsX5_rule := goodIn_r _ [242, 243, 16, 244, 115, 116, 117, 2, 118, 17, 19, 18, 119, 120, 121, 122, 27, 123, 124, 125, 126, 15, 127, 42, 128, 129, 130, 131, 43, 44, 45, 46, 810, 811, 812, 813, 814, 815, 816, 817, 839, 840, 841, 842, 843, 849, 850, 851, 852, 853, 854, 855, 856, 857, 858] (by decide +kernel) (by decide +kernel)
set_option maxRecDepth 20000 in
theorem gL_law_X5_rule : GoodIn wsL_law (wsV RL 41 RX5 yX5_rule wsX5_rule) := goodIn_app (goodIn_of _ (by decide +kernel)) ggL_law_X5_rule
set_option maxRecDepth 20000 in
theorem ggL_law_X6_rule : GoodIn wsL_law wsX6_rule := goodIn_r _ [248, 90, 140, 141, 5, 142, 143, 144, 145, 146, 147, 91, 818, 819, 820, 821, 822, 823, 824, 825, 826, 827, 828, 829, 830, 831, 832, 833, 834, 835, 836, 837, 838] (by decide +kernel) (by decide +kernel)
set_option maxRecDepth 20000 in
theorem gL_law_X6_rule : GoodIn wsL_law (wsV RL 44 RX6 yX6_rule wsX6_rule) := goodIn_app (goodIn_of _ (by decide +kernel)) ggL_law_X6_rule

set_option maxRecDepth 20000 in
theorem wsL_law_in : ∀ w ∈ wsL_law, w ∈ lw_tbl := fun w h => (goodIn_p wsL_law [79, 82, 87, 123, 150, 198, 212, 667, 258, 261, 269, 279, 273, 283, 737, 740, 744, 748, 287, 291, 295, 298, 752, 756, 760, 763, 302, 306, 767, 770, 310, 314, 774, 778, 781, 318, 322, 785, 326, 789, 330, 793, 336, 339, 344, 797, 348, 802, 352, 356, 360, 364, 368, 372, 376, 380, 806, 810, 814, 818, 822, 826, 384, 830, 388, 392, 396, 400, 404, 408, 412, 416, 421, 425, 429, 433, 437, 440, 446, 450, 454, 458, 462, 466, 835, 839, 843, 847, 851, 856, 860, 864, 470, 868, 871, 475, 479, 495, 483, 487, 492, 499, 504, 508, 875, 879, 883, 887, 891, 895, 513, 516, 899, 520, 903, 524, 528, 532, 907, 911, 537, 541, 545, 915, 919, 550, 923, 927, 931, 555, 559, 563, 569, 573, 577, 935, 939, 581, 585, 943, 947, 589, 593, 597, 951, 955, 601, 605, 959, 609, 613, 617, 621, 963, 967, 625, 629, 971, 636, 640, 645, 975, 979, 983, 649, 987, 653, 991, 657, 661, 995, 999] (by decide +kernel) (by decide +kernel) w h).1
theorem inlX0 : ∀ w ∈ wsX00, w ∈ wsL_law := fun _ h => List.mem_append_left _ (List.mem_append_left _ (List.mem_append_left _ (List.mem_append_right _ h)))
theorem inX0 : ∀ w ∈ wsX00, w ∈ lw_tbl := fun w h => wsL_law_in w (inlX0 w h)
theorem inlX1 : ∀ w ∈ wsX10, w ∈ wsL_law := fun _ h => List.mem_append_left _ (List.mem_append_left _ (List.mem_append_left _ (List.mem_append_left _ (List.mem_append_right _ h))))
theorem inX1 : ∀ w ∈ wsX10, w ∈ lw_tbl := fun w h => wsL_law_in w (inlX1 w h)
theorem inlX2 : ∀ w ∈ wsX20, w ∈ wsL_law := fun _ h => List.mem_append_left _ (List.mem_append_right _ h)
theorem inX2 : ∀ w ∈ wsX20, w ∈ lw_tbl := fun w h => wsL_law_in w (inlX2 w h)
theorem inlX3 : ∀ w ∈ wsX30, w ∈ wsL_law := fun _ h => List.mem_append_left _ (List.mem_append_left _ (List.mem_append_right _ h))
theorem inX3 : ∀ w ∈ wsX30, w ∈ lw_tbl := fun w h => wsL_law_in w (inlX3 w h)
theorem inlX4 : ∀ w ∈ wsX40, w ∈ wsL_law := fun _ h => List.mem_append_left _ (List.mem_append_left _ (List.mem_append_left _ (List.mem_append_left _ (List.mem_append_left _ (List.mem_append_right _ h)))))
theorem inX4 : ∀ w ∈ wsX40, w ∈ lw_tbl := fun w h => wsL_law_in w (inlX4 w h)
theorem inlX5 : ∀ w ∈ wsX50, w ∈ wsL_law := fun _ h => List.mem_append_left _ (List.mem_append_left _ (List.mem_append_left _ (List.mem_append_left _ (List.mem_append_left _ (List.mem_append_left _ (List.mem_append_left _ (List.mem_append_right _ h)))))))
theorem inX5 : ∀ w ∈ wsX50, w ∈ lw_tbl := fun w h => wsL_law_in w (inlX5 w h)
theorem inlX6 : ∀ w ∈ wsX60, w ∈ wsL_law := fun _ h => List.mem_append_left _ (List.mem_append_left _ (List.mem_append_left _ (List.mem_append_left _ (List.mem_append_left _ (List.mem_append_left _ (List.mem_append_right _ h))))))
theorem inX6 : ∀ w ∈ wsX60, w ∈ lw_tbl := fun w h => wsL_law_in w (inlX6 w h)
set_option maxRecDepth 20000 in
theorem ggL_law_X5_init : GoodIn wsL_law wsX5_init := goodIn_r _ [9, 10, 11, 12, 13, 14, 15, 16, 17, 18, 19, 20, 21, 22, 23, 24, 25, 26, 27, 28, 29, 30, 31, 32, 33, 34, 35, 36, 37, 38, 39, 40, 41, 42, 43, 44, 45, 46, 47, 48, 49, 50, 51, 52, 53, 54, 55, 56, 57, 58, 59, 60, 61, 62, 63, 64, 65, 66, 67, 68, 69, 70, 71, 72, 73, 74, 75, 76, 77, 78, 79, 80, 81, 82, 83, 84, 85, 839, 840, 841, 842, 843, 810, 811, 812, 813, 814, 815, 816, 817, 844, 845, 846, 847, 848, 849, 850, 851, 852, 853, 854, 855, 856, 857, 858, 859, 860, 861, 862, 863, 864, 865] (by decide +kernel) (by decide +kernel)
set_option maxRecDepth 20000 in
theorem gL_law_X5_init : GoodIn wsL_law (wsX5_init) := ggL_law_X5_init
set_option maxRecDepth 20000 in
theorem ggL_law_X6_init : GoodIn wsL_law wsX6_init := goodIn_r _ [88, 89, 11, 12, 41, 90, 91, 92, 93, 94, 95, 96, 97, 98, 99, 100, 101, 102, 103, 104, 818, 819, 820, 821, 822, 823, 824, 825, 826, 827, 828, 829, 830, 831, 832, 833, 834, 835, 836, 837, 838] (by decide +kernel) (by decide +kernel)
set_option maxRecDepth 20000 in
theorem gL_law_X6_init : GoodIn wsL_law (wsX6_init) := ggL_law_X6_init
set_option maxRecDepth 20000 in
theorem ggL_law_X5_add : GoodIn wsL_law wsX5_add := goodIn_r _ [108, 16, 109, 110, 111, 2, 112, 113, 114, 115, 116, 117, 118, 17, 19, 18, 119, 120, 121, 122, 27, 123, 124, 125, 126, 15, 127, 42, 128, 129, 130, 131, 43, 44, 45, 46, 132, 133, 134, 135, 810, 811, 812, 813, 814, 815, 816, 817, 839, 840, 841, 842, 843, 849, 850, 851, 852, 853, 854, 855, 856, 857, 858] (by decide +kernel) (by decide +kernel)
set_option maxRecDepth 20000 in
theorem gL_law_X5_add : GoodIn wsL_law (wsV RL 13 RX5 yX5_add wsX5_add) := goodIn_app (goodIn_of _ (by decide +kernel)) ggL_law_X5_add
set_option maxRecDepth 20000 in
theorem ggL_law_X6_add : GoodIn wsL_law wsX6_add := goodIn_r _ [139, 90, 140, 141, 5, 142, 143, 144, 145, 146, 147, 91, 148, 149, 150, 151, 818, 819, 820, 821, 822, 823, 824, 825, 826, 827, 828, 829, 830, 831, 832, 833, 834, 835, 836, 837, 838] (by decide +kernel) (by decide +kernel)
set_option maxRecDepth 20000 in
theorem gL_law_X6_add : GoodIn wsL_law (wsV RL 17 RX6 yX6_add wsX6_add) := goodIn_app (goodIn_of _ (by decide +kernel)) ggL_law_X6_add
set_option maxRecDepth 20000 in
theorem ggL_law_X5_remove : GoodIn wsL_law wsX5_remove := goodIn_r _ [155, 16, 109, 156, 157, 158, 2, 159, 115, 116, 117, 118, 17, 19, 18, 119, 120, 121, 122, 27, 123, 124, 125, 126, 15, 127, 42, 128, 129, 130, 131, 43, 44, 45, 46, 160, 161, 162, 163, 164, 165, 166, 810, 811, 812, 813, 814, 815, 816, 817, 839, 840, 841, 842, 843, 849, 850, 851, 852, 853, 854, 855, 856, 857, 858] (by decide +kernel) (by decide +kernel)
set_option maxRecDepth 20000 in
theorem gL_law_X5_remove : GoodIn wsL_law (wsV RL 18 RX5 yX5_remove wsX5_remove) := goodIn_app (goodIn_of _ (by decide +kernel)) ggL_law_X5_remove
set_option maxRecDepth 20000 in
theorem ggL_law_X6_remove : GoodIn wsL_law wsX6_remove := goodIn_r _ [170, 90, 171, 172, 173, 5, 174, 140, 141, 142, 143, 144, 145, 146, 147, 91, 175, 176, 177, 178, 179, 180, 181, 818, 819, 820, 821, 822, 823, 824, 825, 826, 827, 828, 829, 830, 831, 832, 833, 834, 835, 836, 837, 838] (by decide +kernel) (by decide +kernel)
set_option maxRecDepth 20000 in
theorem gL_law_X6_remove : GoodIn wsL_law (wsV RL 22 RX6 yX6_remove wsX6_remove) := goodIn_app (goodIn_of _ (by decide +kernel)) ggL_law_X6_remove
set_option maxRecDepth 20000 in
theorem ggL_law_X5_set : GoodIn wsL_law wsX5_set := goodIn_r _ [185, 16, 186, 156, 157, 158, 2, 159, 109, 110, 111, 112, 113, 114, 187, 188, 189, 190, 115, 116, 117, 118, 17, 19, 18, 119, 120, 121, 122, 27, 123, 124, 125, 126, 15, 127, 42, 128, 129, 130, 131, 43, 44, 45, 46, 810, 811, 812, 813, 814, 815, 816, 817, 839, 840, 841, 842, 843, 849, 850, 851, 852, 853, 854, 855, 856, 857, 858] (by decide +kernel) (by decide +kernel)
set_option maxRecDepth 20000 in
theorem gL_law_X5_set : GoodIn wsL_law (wsV RL 23 RX5 yX5_set wsX5_set) := goodIn_app (goodIn_of _ (by decide +kernel)) ggL_law_X5_set
set_option maxRecDepth 20000 in
theorem ggL_law_X6_set : GoodIn wsL_law wsX6_set := goodIn_r _ [194, 90, 171, 172, 173, 5, 174, 140, 141, 142, 195, 196, 197, 143, 144, 145, 146, 147, 91, 175, 176, 177, 178, 818, 819, 820, 821, 822, 823, 824, 825, 826, 827, 828, 829, 830, 831, 832, 833, 834, 835, 836, 837, 838] (by decide +kernel) (by decide +kernel)
set_option maxRecDepth 20000 in
theorem gL_law_X6_set : GoodIn wsL_law (wsV RL 27 RX6 yX6_set wsX6_set) := goodIn_app (goodIn_of _ (by decide +kernel)) ggL_law_X6_set
set_option maxRecDepth 20000 in
theorem ggL_law_X5_item : GoodIn wsL_law wsX5_item := goodIn_r _ [201, 16, 202, 203, 156, 157, 158, 2, 159, 109, 187, 188, 189, 190, 186, 204, 205, 206, 15, 207, 46, 44, 810, 811, 812, 813, 814, 815, 816, 817, 839, 840, 841, 842, 843] (by decide +kernel) (by decide +kernel)
set_option maxRecDepth 20000 in
theorem gL_law_X5_item : GoodIn wsL_law (wsV RL 28 RX5 yX5_item wsX5_item) := goodIn_app (goodIn_of _ (by decide +kernel)) ggL_law_X5_item
set_option maxRecDepth 20000 in
theorem ggL_law_X6_item : GoodIn wsL_law wsX6_item := goodIn_r _ [211, 90, 171, 172, 173, 5, 174, 140, 141, 142, 175, 176, 177, 178, 212, 213, 214, 215, 216, 217, 218, 818, 819, 820, 821, 822, 823, 824, 825, 826, 827, 828, 829, 830, 831, 832, 833, 834, 835, 836, 837, 838] (by decide +kernel) (by decide +kernel)
set_option maxRecDepth 20000 in
theorem gL_law_X6_item : GoodIn wsL_law (wsV RL 32 RX6 yX6_item wsX6_item) := goodIn_app (goodIn_of _ (by decide +kernel)) ggL_law_X6_item
set_option maxRecDepth 20000 in
theorem ggL_law_X5_conflict : GoodIn wsL_law wsX5_conflict := goodIn_r _ [222, 16, 202, 223, 224, 225, 2, 226, 156, 157, 158, 159, 109, 115, 116, 117, 118, 17, 19, 18, 119, 120, 121, 122, 27, 123, 124, 125, 126, 15, 127, 42, 128, 129, 130, 131, 43, 44, 45, 46, 810, 811, 812, 813, 814, 815, 816, 817, 839, 840, 841, 842, 843, 849, 850, 851, 852, 853, 854, 855, 856, 857, 858] (by decide +kernel) (by decide +kernel)
set_option maxRecDepth 20000 in
theorem gL_law_X5_conflict : GoodIn wsL_law (wsV RL 33 RX5 yX5_conflict wsX5_conflict) := goodIn_app (goodIn_of _ (by decide +kernel)) ggL_law_X5_conflict
set_option maxRecDepth 20000 in
theorem ggL_law_X6_conflict : GoodIn wsL_law wsX6_conflict := goodIn_r _ [230, 90, 171, 172, 173, 5, 174, 140, 141, 142, 143, 144, 145, 146, 147, 91, 818, 819, 820, 821, 822, 823, 824, 825, 826, 827, 828, 829, 830, 831, 832, 833, 834, 835, 836, 837, 838] (by decide +kernel) (by decide +kernel)
set_option maxRecDepth 20000 in
theorem gL_law_X6_conflict : GoodIn wsL_law (wsV RL 36 RX6 yX6_conflict wsX6_conflict) := goodIn_app (goodIn_of _ (by decide +kernel)) ggL_law_X6_conflict
set_option maxRecDepth 20000 in
theorem ggL_law_X5_need : GoodIn wsL_law wsX5_need := goodIn_r _ [234, 16, 203, 223, 224, 225, 2, 226, 156, 157, 158, 159, 109, 115, 116, 117, 118, 17, 19, 18, 119, 120, 121, 122, 27, 123, 124, 125, 126, 15, 127, 42, 128, 129, 130, 131, 43, 44, 45, 46, 810, 811, 812, 813, 814, 815, 816, 817, 839, 840, 841, 842, 843, 849, 850, 851, 852, 853, 854, 855, 856, 857, 858] (by decide +kernel) (by decide +kernel)
set_option maxRecDepth 20000 in
theorem gL_law_X5_need : GoodIn wsL_law (wsV RL 37 RX5 yX5_need wsX5_need) := goodIn_app (goodIn_of _ (by decide +kernel)) ggL_law_X5_need
set_option maxRecDepth 20000 in
theorem ggL_law_X6_need : GoodIn wsL_law wsX6_need := goodIn_r _ [238, 90, 171, 172, 173, 5, 174, 140, 141, 142, 143, 144, 145, 146, 147, 91, 818, 819, 820, 821, 822, 823, 824, 825, 826, 827, 828, 829, 830, 831, 832, 833, 834, 835, 836, 837, 838] (by decide +kernel) (by decide +kernel)
set_option maxRecDepth 20000 in
theorem gL_law_X6_need : GoodIn wsL_law (wsV RL 40 RX6 yX6_need wsX6_need) := goodIn_app (goodIn_of _ (by decide +kernel)) ggL_law_X6_need
set_option maxRecDepth 20000 in
theorem ggL_law_X5_rule : GoodIn wsL_law wsX5_rule := goodIn_r _ [242, 243, 16, 244, 115, 116, 117, 2, 118, 17, 19, 18, 119, 120, 121, 122, 27, 123, 124, 125, 126, 15, 127, 42, 128, 129, 130, 131, 43, 44, 45, 46, 810, 811, 812, 813, 814, 815, 816, 817, 839, 840, 841, 842, 843, 849, 850, 851, 852, 853, 854, 855, 856, 857, 858] (by decide +kernel) (by decide +kernel)
set_option maxRecDepth 20000 in
theorem gL_law_X5_rule : GoodIn wsL_law (wsV RL 41 RX5 yX5_rule wsX5_rule) := goodIn_app (goodIn_of _ (by decide +kernel)) ggL_law_X5_rule
set_option maxRecDepth 20000 in
theorem ggL_law_X6_rule : GoodIn wsL_law wsX6_rule := goodIn_r _ [248, 90, 140, 141, 5, 142, 143, 144, 145, 146, 147, 91, 818, 819, 820, 821, 822, 823, 824, 825, 826, 827, 828, 829, 830, 831, 832, 833, 834, 835, 836, 837, 838] (by decide +kernel) (by decide +kernel)
set_option maxRecDepth 20000 in
theorem gL_law_X6_rule : GoodIn wsL_law (wsV RL 44 RX6 yX6_rule wsX6_rule) := goodIn_app (goodIn_of _ (by decide +kernel)) ggL_law_X6_rule
set_option maxRecDepth 20000 in
theorem ggL_law_X5_put : GoodIn wsL_law wsX5_put := goodIn_r _ [252, 23, 253, 254, 255, 22, 256, 257, 258, 259, 260, 261, 52, 51, 810, 811, 812, 813, 814, 815, 816, 817, 844, 845, 846, 847, 848] (by decide +kernel) (by decide +kernel)
set_option maxRecDepth 20000 in
theorem gL_law_X5_put : GoodIn wsL_law (wsV RL 47 RX5 yX5_put wsX5_put) := goodIn_app (goodIn_of _ (by decide +kernel)) ggL_law_X5_put
set_option maxRecDepth 20000 in
theorem ggL_law_X6_put : GoodIn wsL_law wsX6_put := goodIn_r _ [265, 266, 267, 92, 140, 141, 5, 142, 818, 819, 820, 821, 822, 823, 824, 825, 826, 827, 828, 829, 830, 831, 832, 833, 834, 835, 836, 837, 838] (by decide +kernel) (by decide +kernel)
set_option maxRecDepth 20000 in
theorem gL_law_X6_put : GoodIn wsL_law (wsV RL 51 RX6 yX6_put wsX6_put) := goodIn_app (goodIn_of _ (by decide +kernel)) ggL_law_X6_put
set_option maxRecDepth 20000 in
theorem ggL_law_X5_wipe : GoodIn wsL_law wsX5_wipe := goodIn_r _ [271, 23, 253, 810, 811, 812, 813, 814, 815, 816, 817, 844, 845, 846, 847, 848] (by decide +kernel) (by decide +kernel)
set_option maxRecDepth 20000 in
theorem gL_law_X5_wipe : GoodIn wsL_law (wsV RL 52 RX5 yX5_wipe wsX5_wipe) := goodIn_app (goodIn_of _ (by decide +kernel)) ggL_law_X5_wipe
set_option maxRecDepth 20000 in
theorem ggL_law_X6_wipe : GoodIn wsL_law wsX6_wipe := goodIn_r _ [275, 267, 818, 819, 820, 821, 822, 823, 824, 825, 826, 827, 828, 829, 830, 831, 832, 833, 834, 835, 836, 837, 838] (by decide +kernel) (by decide +kernel)
set_option maxRecDepth 20000 in
theorem gL_law_X6_wipe : GoodIn wsL_law (wsV RL 56 RX6 yX6_wipe wsX6_wipe) := goodIn_app (goodIn_of _ (by decide +kernel)) ggL_law_X6_wipe
set_option maxRecDepth 20000 in
theorem ggL_law_X5_fault : GoodIn wsL_law wsX5_fault := goodIn_r _ [279, 23, 280, 281, 282, 283, 22, 284, 56, 55, 52, 285, 286, 287, 288, 289, 290, 291, 292, 54, 293, 294, 295, 296, 51, 297, 298, 299, 300, 301, 302, 303, 304, 305, 306, 307, 308, 810, 811, 812, 813, 814, 815, 816, 817, 844, 845, 846, 847, 848] (by decide +kernel) (by decide +kernel)
set_option maxRecDepth 20000 in
theorem gL_law_X5_fault : GoodIn wsL_law (wsV RL 57 RX5 yX5_fault wsX5_fault) := goodIn_app (goodIn_of _ (by decide +kernel)) ggL_law_X5_fault
set_option maxRecDepth 20000 in
theorem ggL_law_X6_fault : GoodIn wsL_law wsX6_fault := goodIn_r _ [312, 313, 314, 315, 267, 316, 317, 318, 5, 319, 93, 320, 321, 322, 323, 324, 325, 326, 327, 92, 140, 141, 142, 328, 329, 330, 331, 332, 333, 334, 335, 818, 819, 820, 821, 822, 823, 824, 825, 826, 827, 828, 829, 830, 831, 832, 833, 834, 835, 836, 837, 838] (by decide +kernel) (by decide +kernel)
set_option maxRecDepth 20000 in
theorem gL_law_X6_fault : GoodIn wsL_law (wsV RL 60 RX6 yX6_fault wsX6_fault) := goodIn_app (goodIn_of _ (by decide +kernel)) ggL_law_X6_fault
set_option maxRecDepth 20000 in
theorem ggL_law_X5_load : GoodIn wsL_law wsX5_load := goodIn_r _ [339, 23, 16, 109, 340, 341, 253, 281, 282, 283, 22, 284, 56, 55, 52, 285, 286, 287, 288, 289, 290, 291, 292, 54, 293, 294, 295, 296, 51, 297, 298, 299, 300, 301, 302, 303, 304, 305, 306, 307, 308, 115, 116, 117, 2, 118, 17, 19, 18, 119, 120, 121, 122, 27, 123, 124, 125, 126, 15, 127, 42, 128, 129, 130, 131, 43, 44, 45, 46, 132, 133, 134, 135, 810, 811, 812, 813, 814, 815, 816, 817, 839, 840, 841, 842, 843, 844, 845, 846, 847, 848, 849, 850, 851, 852, 853, 854, 855, 856, 857, 858] (by decide +kernel) (by decide +kernel)
set_option maxRecDepth 20000 in
theorem gL_law_X5_load : GoodIn wsL_law (wsV RL 61 RX5 yX5_load wsX5_load) := goodIn_app (goodIn_of _ (by decide +kernel)) ggL_law_X5_load
set_option maxRecDepth 20000 in
theorem ggL_law_X6_load : GoodIn wsL_law wsX6_load := goodIn_r _ [345, 90, 315, 93, 267, 346, 310, 311, 5, 312, 313, 314, 316, 317, 318, 319, 320, 321, 322, 323, 324, 325, 326, 327, 92, 140, 141, 142, 328, 329, 330, 331, 332, 333, 334, 335, 143, 144, 145, 146, 147, 91, 148, 149, 150, 151, 818, 819, 820, 821, 822, 823, 824, 825, 826, 827, 828, 829, 830, 831, 832, 833, 834, 835, 836, 837, 838] (by decide +kernel) (by decide +kernel)
set_option maxRecDepth 20000 in
theorem gL_law_X6_load : GoodIn wsL_law (wsV RL 64 RX6 yX6_load wsX6_load) := goodIn_app (goodIn_of _ (by decide +kernel)) ggL_law_X6_load
set_option maxRecDepth 20000 in
theorem ggL_law_X5_choice : GoodIn wsL_law wsX5_choice := goodIn_r _ [350, 16, 351, 27, 352, 353, 354, 2, 355, 109, 356, 357, 358, 15, 359, 360, 361, 362, 363, 46, 42, 364, 365, 366, 367, 244, 368, 369, 370, 371, 372, 373, 374, 375, 376, 377, 378, 379, 380, 381, 382, 383, 384, 385, 386, 387, 123, 388, 389, 390, 26, 391, 392, 68, 69, 61, 393, 62, 63, 394, 395, 396, 397, 65, 66, 398, 399, 400, 401, 402, 403, 404, 405, 406, 407, 408, 409, 410, 411, 412, 413, 414, 64, 415, 416, 417, 418, 419, 43, 420, 421, 422, 423, 424, 425, 426, 427, 428, 429, 430, 431, 810, 811, 812, 813, 814, 815, 816, 817, 839, 840, 841, 842, 843, 849, 850, 851, 852, 853, 854, 855, 856, 857, 858] (by decide +kernel) (by decide +kernel)
set_option maxRecDepth 20000 in
theorem gL_law_X5_choice : GoodIn wsL_law (wsV RL 65 RX5 yX5_choice wsX5_choice) := goodIn_app (goodIn_of _ (by decide +kernel)) ggL_law_X5_choice
set_option maxRecDepth 20000 in
theorem ggL_law_X6_choice : GoodIn wsL_law wsX6_choice := goodIn_r _ [435, 90, 436, 437, 438, 439, 5, 440, 140, 141, 142, 441, 442, 443, 444, 216, 217, 218, 175, 176, 177, 178, 445, 446, 447, 448, 449, 450, 451, 452, 453, 454, 455, 456, 457, 458, 459, 460, 461, 462, 463, 464, 818, 819, 820, 821, 822, 823, 824, 825, 826, 827, 828, 829, 830, 831, 832, 833, 834, 835, 836, 837, 838] (by decide +kernel) (by decide +kernel)
set_option maxRecDepth 20000 in
theorem gL_law_X6_choice : GoodIn wsL_law (wsV RL 68 RX6 yX6_choice wsX6_choice) := goodIn_app (goodIn_of _ (by decide +kernel)) ggL_law_X6_choice
set_option maxRecDepth 20000 in
theorem ggL_law_X5_weightIn : GoodIn wsL_law wsX5_weightIn := goodIn_r _ [468, 16, 352, 353, 354, 2, 355, 109, 469, 403, 404, 405, 406, 407, 408, 364, 365, 366, 367, 244, 356, 357, 358, 15, 359, 360, 361, 362, 363, 46, 42, 810, 811, 812, 813, 814, 815, 816, 817, 839, 840, 841, 842, 843] (by decide +kernel) (by decide +kernel)
set_option maxRecDepth 20000 in
theorem gL_law_X5_weightIn : GoodIn wsL_law (wsV RL 69 RX5 yX5_weightIn wsX5_weightIn) := goodIn_app (goodIn_of _ (by decide +kernel)) ggL_law_X5_weightIn
set_option maxRecDepth 20000 in
theorem ggL_law_X6_weightIn : GoodIn wsL_law wsX6_weightIn := goodIn_r _ [473, 90, 437, 438, 439, 5, 440, 140, 141, 142, 474, 475, 476, 441, 442, 443, 444, 216, 217, 218, 175, 176, 177, 178, 818, 819, 820, 821, 822, 823, 824, 825, 826, 827, 828, 829, 830, 831, 832, 833, 834, 835, 836, 837, 838] (by decide +kernel) (by decide +kernel)
set_option maxRecDepth 20000 in
theorem gL_law_X6_weightIn : GoodIn wsL_law (wsV RL 72 RX6 yX6_weightIn wsX6_weightIn) := goodIn_app (goodIn_of _ (by decide +kernel)) ggL_law_X6_weightIn
set_option maxRecDepth 20000 in
theorem ggL_law_X5_best : GoodIn wsL_law wsX5_best := goodIn_r _ [480, 27, 481, 384, 385, 386, 2, 387, 123, 16, 364, 365, 366, 367, 244, 388, 389, 390, 26, 391, 392, 68, 69, 61, 393, 62, 63, 394, 395, 396, 397, 65, 66, 398, 399, 400, 401, 402, 403, 404, 405, 406, 407, 408, 409, 410, 411, 412, 413, 414, 64, 415, 416, 417, 418, 15, 419, 43, 42, 46, 424, 425, 426, 427, 482, 483, 484, 485, 486, 487, 121, 488, 489, 490, 491, 492, 493, 494, 495, 496, 497, 421, 422, 423, 498, 499, 500, 501, 502, 503, 504, 505, 506, 507, 508, 509, 510, 511, 512, 513, 514, 515, 516, 517, 810, 811, 812, 813, 814, 815, 816, 817, 849, 850, 851, 852, 853, 854, 855, 856, 857, 858, 839, 840, 841, 842, 843] (by decide +kernel) (by decide +kernel)
set_option maxRecDepth 20000 in
theorem gL_law_X5_best : GoodIn wsL_law (wsV RL 73 RX5 yX5_best wsX5_best) := goodIn_app (goodIn_of _ (by decide +kernel)) ggL_law_X5_best
set_option maxRecDepth 20000 in
theorem ggL_law_X6_best : GoodIn wsL_law wsX6_best := goodIn_r _ [521, 90, 95, 436, 94, 140, 141, 5, 142, 522, 523, 524, 525, 526, 527, 528, 529, 97, 530, 531, 532, 533, 457, 458, 459, 460, 216, 217, 218, 175, 176, 177, 178, 445, 446, 447, 448, 441, 442, 443, 444, 449, 450, 451, 452, 453, 454, 455, 456, 534, 535, 536, 537, 538, 539, 540, 541, 818, 819, 820, 821, 822, 823, 824, 825, 826, 827, 828, 829, 830, 831, 832, 833, 834, 835, 836, 837, 838] (by decide +kernel) (by decide +kernel)
set_option maxRecDepth 20000 in
theorem gL_law_X6_best : GoodIn wsL_law (wsV RL 76 RX6 yX6_best wsX6_best) := goodIn_app (goodIn_of _ (by decide +kernel)) ggL_law_X6_best
set_option maxRecDepth 20000 in
theorem ggL_law_X5_bestWith : GoodIn wsL_law wsX5_bestWith := goodIn_r _ [545, 27, 16, 123, 546, 547, 2, 548, 388, 389, 390, 26, 391, 392, 68, 69, 61, 393, 62, 63, 394, 395, 396, 397, 65, 66, 398, 399, 400, 401, 402, 403, 404, 405, 406, 407, 408, 409, 410, 411, 412, 413, 414, 64, 415, 416, 417, 418, 15, 419, 43, 42, 46, 482, 483, 484, 485, 486, 487, 121, 488, 489, 490, 491, 492, 493, 494, 495, 496, 497, 421, 422, 423, 498, 499, 500, 501, 502, 503, 504, 505, 506, 810, 811, 812, 813, 814, 815, 816, 817, 849, 850, 851, 852, 853, 854, 855, 856, 857, 858, 839, 840, 841, 842, 843] (by decide +kernel) (by decide +kernel)
set_option maxRecDepth 20000 in
theorem gL_law_X5_bestWith : GoodIn wsL_law (wsV RL 77 RX5 yX5_bestWith wsX5_bestWith) := goodIn_app (goodIn_of _ (by decide +kernel)) ggL_law_X5_bestWith
set_option maxRecDepth 20000 in
theorem ggL_law_X6_bestWith : GoodIn wsL_law wsX6_bestWith := goodIn_r _ [552, 95, 436, 140, 141, 5, 142, 526, 527, 528, 529, 97, 94, 530, 531, 532, 533, 90, 457, 458, 459, 460, 216, 217, 218, 175, 176, 177, 178, 445, 446, 447, 448, 441, 442, 443, 444, 449, 450, 451, 452, 453, 454, 455, 456, 534, 535, 536, 537, 818, 819, 820, 821, 822, 823, 824, 825, 826, 827, 828, 829, 830, 831, 832, 833, 834, 835, 836, 837, 838] (by decide +kernel) (by decide +kernel)
set_option maxRecDepth 20000 in
theorem gL_law_X6_bestWith : GoodIn wsL_law (wsV RL 80 RX6 yX6_bestWith wsX6_bestWith) := goodIn_app (goodIn_of _ (by decide +kernel)) ggL_law_X6_bestWith
set_option maxRecDepth 20000 in
theorem ggL_law_X5_leastCapacity : GoodIn wsL_law wsX5_leastCapacity := goodIn_r _ [556, 27, 515, 516, 481, 384, 385, 386, 2, 387, 123, 16, 364, 365, 366, 367, 244, 388, 389, 390, 26, 391, 392, 68, 69, 61, 393, 62, 63, 394, 395, 396, 397, 65, 66, 398, 399, 400, 401, 402, 403, 404, 405, 406, 407, 408, 409, 410, 411, 412, 413, 414, 64, 415, 416, 417, 418, 15, 419, 43, 42, 46, 420, 421, 422, 423, 810, 811, 812, 813, 814, 815, 816, 817, 849, 850, 851, 852, 853, 854, 855, 856, 857, 858, 839, 840, 841, 842, 843] (by decide +kernel) (by decide +kernel)
set_option maxRecDepth 20000 in
theorem gL_law_X5_leastCapacity : GoodIn wsL_law (wsV RL 81 RX5 yX5_leastCapacity wsX5_leastCapacity) := goodIn_app (goodIn_of _ (by decide +kernel)) ggL_law_X5_leastCapacity
set_option maxRecDepth 20000 in
theorem ggL_law_X6_leastCapacity : GoodIn wsL_law wsX6_leastCapacity := goodIn_r _ [560, 97, 95, 94, 140, 141, 5, 142, 522, 523, 524, 525, 90, 526, 527, 528, 529, 530, 531, 532, 533, 457, 458, 459, 460, 216, 217, 218, 175, 176, 177, 178, 445, 446, 447, 448, 441, 442, 443, 444, 449, 450, 451, 452, 453, 454, 455, 456, 818, 819, 820, 821, 822, 823, 824, 825, 826, 827, 828, 829, 830, 831, 832, 833, 834, 835, 836, 837, 838] (by decide +kernel) (by decide +kernel)
set_option maxRecDepth 20000 in
theorem gL_law_X6_leastCapacity : GoodIn wsL_law (wsV RL 84 RX6 yX6_leastCapacity wsX6_leastCapacity) := goodIn_app (goodIn_of _ (by decide +kernel)) ggL_law_X6_leastCapacity
set_option maxRecDepth 20000 in
theorem ggL_law_X5_headroom : GoodIn wsL_law wsX5_headroom := goodIn_r _ [564, 27, 16, 186, 123, 156, 157, 158, 2, 159, 109, 384, 385, 386, 387, 364, 365, 366, 367, 244, 388, 389, 390, 26, 391, 392, 68, 69, 61, 393, 62, 63, 394, 395, 396, 397, 65, 66, 398, 399, 400, 401, 402, 403, 404, 405, 406, 407, 408, 409, 410, 411, 412, 413, 414, 64, 415, 416, 417, 418, 15, 419, 43, 42, 46, 424, 425, 426, 427, 482, 483, 484, 485, 486, 487, 121, 488, 489, 490, 491, 492, 493, 494, 495, 496, 497, 421, 422, 423, 498, 499, 500, 501, 565, 566, 567, 568, 569, 570, 571, 572, 67, 573, 129, 130, 131, 810, 811, 812, 813, 814, 815, 816, 817, 839, 840, 841, 842, 843, 849, 850, 851, 852, 853, 854, 855, 856, 857, 858] (by decide +kernel) (by decide +kernel)
set_option maxRecDepth 20000 in
theorem gL_law_X5_headroom : GoodIn wsL_law (wsV RL 85 RX5 yX5_headroom wsX5_headroom) := goodIn_app (goodIn_of _ (by decide +kernel)) ggL_law_X5_headroom
set_option maxRecDepth 20000 in
theorem ggL_law_X6_headroom : GoodIn wsL_law wsX6_headroom := goodIn_r _ [577, 90, 171, 172, 173, 5, 174, 140, 141, 142, 522, 523, 524, 525, 526, 527, 528, 529, 97, 94, 95, 530, 531, 532, 533, 457, 458, 459, 460, 216, 217, 218, 175, 176, 177, 178, 445, 446, 447, 448, 441, 442, 443, 444, 449, 450, 451, 452, 453, 454, 455, 456, 534, 535, 536, 537, 578, 579, 580, 581, 818, 819, 820, 821, 822, 823, 824, 825, 826, 827, 828, 829, 830, 831, 832, 833, 834, 835, 836, 837, 838] (by decide +kernel) (by decide +kernel)
set_option maxRecDepth 20000 in
theorem gL_law_X6_headroom : GoodIn wsL_law (wsV RL 88 RX6 yX6_headroom wsX6_headroom) := goodIn_app (goodIn_of _ (by decide +kernel)) ggL_law_X6_headroom
set_option maxRecDepth 20000 in
theorem ggL_law_X5_greedy : GoodIn wsL_law wsX5_greedy := goodIn_r _ [585, 16, 109, 27, 384, 385, 386, 2, 387, 123, 364, 365, 366, 367, 244, 388, 389, 390, 26, 391, 392, 68, 69, 61, 393, 62, 63, 394, 395, 396, 397, 65, 66, 398, 399, 400, 401, 402, 403, 404, 405, 406, 407, 408, 409, 410, 411, 412, 413, 414, 64, 415, 416, 417, 418, 15, 419, 43, 42, 46, 586, 587, 588, 589, 590, 487, 121, 488, 591, 592, 593, 594, 424, 425, 426, 427, 517, 494, 495, 496, 497, 421, 422, 423, 502, 503, 504, 505, 506, 810, 811, 812, 813, 814, 815, 816, 817, 839, 840, 841, 842, 843, 849, 850, 851, 852, 853, 854, 855, 856, 857, 858] (by decide +kernel) (by decide +kernel)
set_option maxRecDepth 20000 in
theorem gL_law_X5_greedy : GoodIn wsL_law (wsV RL 89 RX5 yX5_greedy wsX5_greedy) := goodIn_app (goodIn_of _ (by decide +kernel)) ggL_law_X5_greedy
set_option maxRecDepth 20000 in
theorem ggL_law_X6_greedy : GoodIn wsL_law wsX6_greedy := goodIn_r _ [598, 90, 436, 140, 141, 5, 142, 216, 217, 218, 599, 600, 601, 602, 175, 176, 177, 178, 457, 458, 459, 460, 445, 446, 447, 448, 441, 442, 443, 444, 449, 450, 451, 452, 453, 454, 455, 456, 818, 819, 820, 821, 822, 823, 824, 825, 826, 827, 828, 829, 830, 831, 832, 833, 834, 835, 836, 837, 838] (by decide +kernel) (by decide +kernel)
set_option maxRecDepth 20000 in
theorem gL_law_X6_greedy : GoodIn wsL_law (wsV RL 92 RX6 yX6_greedy wsX6_greedy) := goodIn_app (goodIn_of _ (by decide +kernel)) ggL_law_X6_greedy
set_option maxRecDepth 20000 in
theorem ggL_law_X5_forced : GoodIn wsL_law wsX5_forced := goodIn_r _ [606, 27, 352, 353, 354, 2, 355, 16, 109, 384, 385, 386, 387, 123, 364, 365, 366, 367, 244, 388, 389, 390, 26, 391, 392, 68, 69, 61, 393, 62, 63, 394, 395, 396, 397, 65, 66, 398, 399, 400, 401, 402, 403, 404, 405, 406, 407, 408, 409, 410, 411, 412, 413, 414, 64, 415, 416, 417, 418, 15, 419, 43, 42, 46, 424, 425, 426, 427, 607, 490, 491, 492, 493, 494, 495, 496, 497, 421, 422, 423, 498, 499, 500, 501, 502, 503, 504, 505, 506, 810, 811, 812, 813, 814, 815, 816, 817, 839, 840, 841, 842, 843, 849, 850, 851, 852, 853, 854, 855, 856, 857, 858] (by decide +kernel) (by decide +kernel)
set_option maxRecDepth 20000 in
theorem gL_law_X5_forced : GoodIn wsL_law (wsV RL 93 RX5 yX5_forced wsX5_forced) := goodIn_app (goodIn_of _ (by decide +kernel)) ggL_law_X5_forced
set_option maxRecDepth 20000 in
theorem ggL_law_X6_forced : GoodIn wsL_law wsX6_forced := goodIn_r _ [611, 95, 436, 437, 438, 439, 5, 440, 90, 140, 141, 142, 522, 523, 524, 525, 526, 527, 528, 529, 97, 94, 530, 531, 532, 533, 457, 458, 459, 460, 216, 217, 218, 175, 176, 177, 178, 445, 446, 447, 448, 441, 442, 443, 444, 449, 450, 451, 452, 453, 454, 455, 456, 612, 613, 614, 615, 616, 617, 618, 619, 818, 819, 820, 821, 822, 823, 824, 825, 826, 827, 828, 829, 830, 831, 832, 833, 834, 835, 836, 837, 838] (by decide +kernel) (by decide +kernel)
set_option maxRecDepth 20000 in
theorem gL_law_X6_forced : GoodIn wsL_law (wsV RL 96 RX6 yX6_forced wsX6_forced) := goodIn_app (goodIn_of _ (by decide +kernel)) ggL_law_X6_forced
set_option maxRecDepth 20000 in
theorem ggL_law_X5_frontier : GoodIn wsL_law wsX5_frontier := goodIn_r _ [623, 31, 27, 624, 481, 384, 385, 386, 2, 387, 123, 16, 364, 365, 366, 367, 244, 388, 389, 390, 26, 391, 392, 68, 69, 61, 393, 62, 63, 394, 395, 396, 397, 65, 66, 398, 399, 400, 401, 402, 403, 404, 405, 406, 407, 408, 409, 410, 411, 412, 413, 414, 64, 415, 416, 417, 418, 15, 419, 43, 42, 46, 625, 626, 627, 30, 628, 629, 630, 631, 632, 633, 634, 635, 636, 120, 121, 122, 75, 637, 494, 495, 496, 497, 421, 422, 423, 638, 639, 640, 641, 642, 643, 644, 645, 76, 646, 647, 648, 649, 502, 503, 504, 505, 506, 810, 811, 812, 813, 814, 815, 816, 817, 859, 860, 849, 850, 851, 852, 853, 854, 855, 856, 857, 858, 839, 840, 841, 842, 843] (by decide +kernel) (by decide +kernel)
set_option maxRecDepth 20000 in
theorem gL_law_X5_frontier : GoodIn wsL_law (wsV RL 97 RX5 yX5_frontier wsX5_frontier) := goodIn_app (goodIn_of _ (by decide +kernel)) ggL_law_X5_frontier
set_option maxRecDepth 20000 in
theorem ggL_law_X6_frontier : GoodIn wsL_law wsX6_frontier := goodIn_r _ [653, 95, 436, 140, 141, 5, 142, 522, 523, 524, 525, 90, 526, 527, 528, 529, 97, 94, 530, 531, 532, 533, 457, 458, 459, 460, 216, 217, 218, 175, 176, 177, 178, 445, 446, 447, 448, 441, 442, 443, 444, 449, 450, 451, 452, 453, 454, 455, 456, 534, 535, 536, 537, 654, 655, 656, 657, 818, 819, 820, 821, 822, 823, 824, 825, 826, 827, 828, 829, 830, 831, 832, 833, 834, 835, 836, 837, 838] (by decide +kernel) (by decide +kernel)
set_option maxRecDepth 20000 in
theorem gL_law_X6_frontier : GoodIn wsL_law (wsV RL 100 RX6 yX6_frontier wsX6_frontier) := goodIn_app (goodIn_of _ (by decide +kernel)) ggL_law_X6_frontier
set_option maxRecDepth 20000 in
theorem ggL_law_X5_improve : GoodIn wsL_law wsX5_improve := goodIn_r _ [661, 27, 352, 353, 354, 2, 355, 16, 109, 384, 385, 386, 387, 123, 364, 365, 366, 367, 244, 388, 389, 390, 26, 391, 392, 68, 69, 61, 393, 62, 63, 394, 395, 396, 397, 65, 66, 398, 399, 400, 401, 402, 403, 404, 405, 406, 407, 408, 409, 410, 411, 412, 413, 414, 64, 415, 416, 417, 418, 15, 419, 43, 42, 46, 424, 425, 426, 427, 517, 494, 495, 496, 497, 421, 422, 423, 662, 663, 664, 665, 493, 498, 499, 500, 501, 810, 811, 812, 813, 814, 815, 816, 817, 839, 840, 841, 842, 843, 849, 850, 851, 852, 853, 854, 855, 856, 857, 858] (by decide +kernel) (by decide +kernel)
set_option maxRecDepth 20000 in
theorem gL_law_X5_improve : GoodIn wsL_law (wsV RL 101 RX5 yX5_improve wsX5_improve) := goodIn_app (goodIn_of _ (by decide +kernel)) ggL_law_X5_improve
set_option maxRecDepth 20000 in
theorem ggL_law_X6_improve : GoodIn wsL_law wsX6_improve := goodIn_r _ [669, 437, 438, 439, 5, 440, 90, 140, 141, 142, 522, 523, 524, 525, 526, 527, 528, 529, 97, 94, 95, 530, 531, 532, 533, 457, 458, 459, 460, 216, 217, 218, 175, 176, 177, 178, 445, 446, 447, 448, 441, 442, 443, 444, 449, 450, 451, 452, 453, 454, 455, 456, 612, 613, 614, 615, 670, 671, 672, 673, 616, 617, 618, 619, 818, 819, 820, 821, 822, 823, 824, 825, 826, 827, 828, 829, 830, 831, 832, 833, 834, 835, 836, 837, 838] (by decide +kernel) (by decide +kernel)
set_option maxRecDepth 20000 in
theorem gL_law_X6_improve : GoodIn wsL_law (wsV RL 104 RX6 yX6_improve wsX6_improve) := goodIn_app (goodIn_of _ (by decide +kernel)) ggL_law_X6_improve
set_option maxRecDepth 20000 in
theorem ggL_law_X5_list : GoodIn wsL_law wsX5_list := goodIn_r _ [677, 31, 27, 624, 678, 679, 680, 2, 681, 16, 109, 384, 385, 386, 387, 123, 364, 365, 366, 367, 244, 388, 389, 390, 26, 391, 392, 68, 69, 61, 393, 62, 63, 394, 395, 396, 397, 65, 66, 398, 399, 400, 401, 402, 403, 404, 405, 406, 407, 408, 409, 410, 411, 412, 413, 414, 64, 415, 416, 417, 418, 15, 419, 43, 42, 46, 424, 425, 426, 427, 682, 683, 684, 30, 685, 629, 686, 632, 633, 634, 635, 636, 120, 121, 122, 75, 638, 639, 640, 641, 642, 643, 644, 645, 76, 646, 647, 648, 649, 810, 811, 812, 813, 814, 815, 816, 817, 859, 860, 839, 840, 841, 842, 843, 849, 850, 851, 852, 853, 854, 855, 856, 857, 858] (by decide +kernel) (by decide +kernel)
set_option maxRecDepth 20000 in
theorem gL_law_X5_list : GoodIn wsL_law (wsV RL 105 RX5 yX5_list wsX5_list) := goodIn_app (goodIn_of _ (by decide +kernel)) ggL_law_X5_list
set_option maxRecDepth 20000 in
theorem ggL_law_X6_list : GoodIn wsL_law wsX6_list := goodIn_r _ [690, 90, 691, 99, 140, 141, 5, 142, 692, 693, 694, 695, 98, 94, 441, 442, 443, 444, 216, 217, 218, 175, 176, 177, 178, 445, 446, 447, 448, 449, 450, 451, 452, 818, 819, 820, 821, 822, 823, 824, 825, 826, 827, 828, 829, 830, 831, 832, 833, 834, 835, 836, 837, 838] (by decide +kernel) (by decide +kernel)
set_option maxRecDepth 20000 in
theorem gL_law_X6_list : GoodIn wsL_law (wsV RL 108 RX6 yX6_list wsX6_list) := goodIn_app (goodIn_of _ (by decide +kernel)) ggL_law_X6_list
set_option maxRecDepth 20000 in
theorem ggL_law_X5_dominator : GoodIn wsL_law wsX5_dominator := goodIn_r _ [699, 27, 481, 31, 700, 678, 679, 680, 2, 681, 16, 109, 384, 385, 386, 387, 123, 364, 365, 366, 367, 244, 388, 389, 390, 26, 391, 392, 68, 69, 61, 393, 62, 63, 394, 395, 396, 397, 65, 66, 398, 399, 400, 401, 402, 403, 404, 405, 406, 407, 408, 409, 410, 411, 412, 413, 414, 64, 415, 416, 417, 418, 15, 419, 43, 42, 46, 424, 425, 426, 427, 682, 683, 684, 30, 685, 629, 686, 632, 633, 634, 635, 636, 120, 121, 122, 75, 638, 639, 640, 641, 642, 643, 644, 645, 76, 701, 702, 703, 704, 810, 811, 812, 813, 814, 815, 816, 817, 849, 850, 851, 852, 853, 854, 855, 856, 857, 858, 839, 840, 841, 842, 843, 859, 860] (by decide +kernel) (by decide +kernel)
set_option maxRecDepth 20000 in
theorem gL_law_X5_dominator : GoodIn wsL_law (wsV RL 109 RX5 yX5_dominator wsX5_dominator) := goodIn_app (goodIn_of _ (by decide +kernel)) ggL_law_X5_dominator
set_option maxRecDepth 20000 in
theorem ggL_law_X6_dominator : GoodIn wsL_law wsX6_dominator := goodIn_r _ [708, 90, 94, 691, 99, 98, 140, 141, 5, 142, 692, 693, 694, 695, 441, 442, 443, 444, 216, 217, 218, 175, 176, 177, 178, 445, 446, 447, 448, 449, 450, 451, 452, 818, 819, 820, 821, 822, 823, 824, 825, 826, 827, 828, 829, 830, 831, 832, 833, 834, 835, 836, 837, 838] (by decide +kernel) (by decide +kernel)
set_option maxRecDepth 20000 in
theorem gL_law_X6_dominator : GoodIn wsL_law (wsV RL 112 RX6 yX6_dominator wsX6_dominator) := goodIn_app (goodIn_of _ (by decide +kernel)) ggL_law_X6_dominator
set_option maxRecDepth 20000 in
theorem ggL_law_X5_threshold : GoodIn wsL_law wsX5_threshold := goodIn_r _ [712, 713, 714, 715, 2, 716, 16, 717, 718, 719, 15, 720, 46, 42, 721, 722, 723, 724, 810, 811, 812, 813, 814, 815, 816, 817, 839, 840, 841, 842, 843] (by decide +kernel) (by decide +kernel)
set_option maxRecDepth 20000 in
theorem gL_law_X5_threshold : GoodIn wsL_law (wsV RL 113 RX5 yX5_threshold wsX5_threshold) := goodIn_app (goodIn_of _ (by decide +kernel)) ggL_law_X5_threshold
set_option maxRecDepth 20000 in
theorem ggL_law_X6_threshold : GoodIn wsL_law wsX6_threshold := goodIn_r _ [728, 100, 729, 730, 731, 5, 732, 90, 175, 176, 177, 178, 140, 141, 142, 818, 819, 820, 821, 822, 823, 824, 825, 826, 827, 828, 829, 830, 831, 832, 833, 834, 835, 836, 837, 838] (by decide +kernel) (by decide +kernel)
set_option maxRecDepth 20000 in
theorem gL_law_X6_threshold : GoodIn wsL_law (wsV RL 116 RX6 yX6_threshold wsX6_threshold) := goodIn_app (goodIn_of _ (by decide +kernel)) ggL_law_X6_threshold
set_option maxRecDepth 20000 in
theorem ggL_law_X5_plain : GoodIn wsL_law wsX5_plain := goodIn_r _ [736, 35, 27, 16, 713, 714, 715, 2, 716, 717, 718, 719, 15, 720, 46, 42, 721, 722, 723, 724, 424, 425, 426, 427, 244, 364, 365, 366, 367, 384, 385, 386, 387, 123, 388, 389, 390, 26, 391, 392, 68, 69, 61, 393, 62, 63, 394, 395, 396, 397, 65, 66, 398, 399, 400, 401, 402, 403, 404, 405, 406, 407, 408, 409, 410, 411, 412, 413, 414, 64, 415, 416, 417, 418, 419, 43, 737, 738, 739, 34, 740, 741, 742, 743, 487, 121, 488, 84, 81, 744, 745, 746, 421, 422, 423, 810, 811, 812, 813, 814, 815, 816, 817, 839, 840, 841, 842, 843, 849, 850, 851, 852, 853, 854, 855, 856, 857, 858, 861, 862, 863, 864, 865] (by decide +kernel) (by decide +kernel)
set_option maxRecDepth 20000 in
theorem gL_law_X5_plain : GoodIn wsL_law (wsV RL 117 RX5 yX5_plain wsX5_plain) := goodIn_app (goodIn_of _ (by decide +kernel)) ggL_law_X5_plain
set_option maxRecDepth 20000 in
theorem ggL_law_X6_plain : GoodIn wsL_law wsX6_plain := goodIn_r _ [750, 100, 90, 729, 730, 731, 5, 732, 175, 176, 177, 178, 140, 141, 142, 530, 531, 532, 533, 216, 217, 218, 441, 442, 443, 444, 457, 458, 459, 460, 818, 819, 820, 821, 822, 823, 824, 825, 826, 827, 828, 829, 830, 831, 832, 833, 834, 835, 836, 837, 838] (by decide +kernel) (by decide +kernel)
set_option maxRecDepth 20000 in
theorem gL_law_X6_plain : GoodIn wsL_law (wsV RL 120 RX6 yX6_plain wsX6_plain) := goodIn_app (goodIn_of _ (by decide +kernel)) ggL_law_X6_plain
set_option maxRecDepth 20000 in
theorem ggL_law_X5_recovered : GoodIn wsL_law wsX5_recovered := goodIn_r _ [754, 35, 27, 16, 351, 700, 352, 353, 354, 2, 355, 109, 469, 403, 404, 405, 406, 407, 408, 364, 365, 366, 367, 244, 384, 385, 386, 387, 123, 388, 389, 390, 26, 391, 392, 68, 69, 61, 393, 62, 63, 394, 395, 396, 397, 65, 66, 398, 399, 400, 401, 402, 409, 410, 411, 412, 413, 414, 64, 415, 416, 417, 418, 15, 419, 43, 42, 46, 755, 756, 757, 34, 758, 81, 742, 741, 82, 85, 83, 759, 746, 421, 422, 423, 424, 425, 426, 427, 760, 761, 762, 763, 810, 811, 812, 813, 814, 815, 816, 817, 849, 850, 851, 852, 853, 854, 855, 856, 857, 858, 839, 840, 841, 842, 843, 861, 862, 863, 864, 865] (by decide +kernel) (by decide +kernel)
set_option maxRecDepth 20000 in
theorem gL_law_X5_recovered : GoodIn wsL_law (wsV RL 121 RX5 yX5_recovered wsX5_recovered) := goodIn_app (goodIn_of _ (by decide +kernel)) ggL_law_X5_recovered
set_option maxRecDepth 20000 in
theorem ggL_law_X6_recovered : GoodIn wsL_law wsX6_recovered := goodIn_r _ [767, 90, 437, 438, 439, 5, 440, 140, 141, 142, 474, 475, 476, 768, 769, 770, 771, 772, 104, 101, 102, 103, 530, 531, 532, 533, 441, 442, 443, 444, 216, 217, 218, 175, 176, 177, 178, 457, 458, 459, 460, 773, 774, 775, 776, 818, 819, 820, 821, 822, 823, 824, 825, 826, 827, 828, 829, 830, 831, 832, 833, 834, 835, 836, 837, 838] (by decide +kernel) (by decide +kernel)
set_option maxRecDepth 20000 in
theorem gL_law_X6_recovered : GoodIn wsL_law (wsV RL 124 RX6 yX6_recovered wsX6_recovered) := goodIn_app (goodIn_of _ (by decide +kernel)) ggL_law_X6_recovered
set_option maxRecDepth 20000 in
theorem ggL_law_X5_adversary : GoodIn wsL_law wsX5_adversary := goodIn_r _ [780, 35, 27, 16, 351, 700, 352, 353, 354, 2, 355, 109, 384, 385, 386, 387, 123, 364, 365, 366, 367, 244, 388, 389, 390, 26, 391, 392, 68, 69, 61, 393, 62, 63, 394, 395, 396, 397, 65, 66, 398, 399, 400, 401, 402, 403, 404, 405, 406, 407, 408, 409, 410, 411, 412, 413, 414, 64, 415, 416, 417, 418, 15, 419, 43, 42, 46, 755, 756, 757, 34, 758, 81, 742, 741, 82, 85, 83, 759, 746, 421, 422, 423, 469, 424, 425, 426, 427, 760, 761, 762, 763, 810, 811, 812, 813, 814, 815, 816, 817, 849, 850, 851, 852, 853, 854, 855, 856, 857, 858, 839, 840, 841, 842, 843, 861, 862, 863, 864, 865] (by decide +kernel) (by decide +kernel)
set_option maxRecDepth 20000 in
theorem gL_law_X5_adversary : GoodIn wsL_law (wsV RL 125 RX5 yX5_adversary wsX5_adversary) := goodIn_app (goodIn_of _ (by decide +kernel)) ggL_law_X5_adversary
set_option maxRecDepth 20000 in
theorem ggL_law_X6_adversary : GoodIn wsL_law wsX6_adversary := goodIn_r _ [784, 90, 437, 438, 439, 5, 440, 140, 141, 142, 768, 769, 770, 771, 772, 104, 101, 102, 103, 530, 531, 532, 533, 441, 442, 443, 444, 216, 217, 218, 175, 176, 177, 178, 474, 475, 476, 457, 458, 459, 460, 773, 774, 775, 776, 818, 819, 820, 821, 822, 823, 824, 825, 826, 827, 828, 829, 830, 831, 832, 833, 834, 835, 836, 837, 838] (by decide +kernel) (by decide +kernel)
set_option maxRecDepth 20000 in
theorem gL_law_X6_adversary : GoodIn wsL_law (wsV RL 128 RX6 yX6_adversary wsX6_adversary) := goodIn_app (goodIn_of _ (by decide +kernel)) ggL_law_X6_adversary
set_option maxRecDepth 20000 in
theorem ggL_law_X5_undo : GoodIn wsL_law wsX5_undo := goodIn_r _ [788, 18, 19, 16, 17, 27, 123, 124, 125, 126, 15, 127, 42, 128, 129, 130, 131, 43, 44, 45, 46, 810, 811, 812, 813, 814, 815, 816, 817, 849, 850, 851, 852, 853, 854, 855, 856, 857, 858, 839, 840, 841, 842, 843] (by decide +kernel) (by decide +kernel)
set_option maxRecDepth 20000 in
theorem gL_law_X5_undo : GoodIn wsL_law (wsV RL 129 RX5 yX5_undo wsX5_undo) := goodIn_app (goodIn_of _ (by decide +kernel)) ggL_law_X5_undo
set_option maxRecDepth 20000 in
theorem ggL_law_X6_undo : GoodIn wsL_law wsX6_undo := goodIn_r _ [792, 147, 90, 91, 818, 819, 820, 821, 822, 823, 824, 825, 826, 827, 828, 829, 830, 831, 832, 833, 834, 835, 836, 837, 838] (by decide +kernel) (by decide +kernel)
set_option maxRecDepth 20000 in
theorem gL_law_X6_undo : GoodIn wsL_law (wsV RL 132 RX6 yX6_undo wsX6_undo) := goodIn_app (goodIn_of _ (by decide +kernel)) ggL_law_X6_undo
set_option maxRecDepth 20000 in
theorem ggL_law_X5_count : GoodIn wsL_law wsX5_count := goodIn_r _ [796, 16, 109, 244, 202, 203, 23, 253, 18, 797, 798, 799, 15, 800, 46, 801, 403, 404, 405, 406, 407, 408, 810, 811, 812, 813, 814, 815, 816, 817, 839, 840, 841, 842, 843, 844, 845, 846, 847, 848] (by decide +kernel) (by decide +kernel)
set_option maxRecDepth 20000 in
theorem gL_law_X5_count : GoodIn wsL_law (wsV RL 133 RX5 yX5_count wsX5_count) := goodIn_app (goodIn_of _ (by decide +kernel)) ggL_law_X5_count
set_option maxRecDepth 20000 in
theorem ggL_law_X6_count : GoodIn wsL_law wsX6_count := goodIn_r _ [805, 90, 267, 147, 806, 807, 808, 5, 809, 474, 475, 476, 818, 819, 820, 821, 822, 823, 824, 825, 826, 827, 828, 829, 830, 831, 832, 833, 834, 835, 836, 837, 838] (by decide +kernel) (by decide +kernel)
set_option maxRecDepth 20000 in
theorem gL_law_X6_count : GoodIn wsL_law (wsV RL 136 RX6 yX6_count wsX6_count) := goodIn_app (goodIn_of _ (by decide +kernel)) ggL_law_X6_count

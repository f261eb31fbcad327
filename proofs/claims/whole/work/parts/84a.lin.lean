/-! THE LAW, 0: its words, by their places in the tables (written by wip/whole/places.py) -/
theorem tb_r {ws : List Cond} (ps : List Nat) (h : ws = ps.filterMap (fun i => lw_tbl[i]?)) : ∀ w ∈ ws, w ∈ lw_tbl := by
  intro w hw
  rw [h] at hw
  obtain ⟨i, -, hi⟩ := List.mem_filterMap.mp hw
  exact List.mem_of_getElem? hi
set_option maxRecDepth 20000 in
theorem in_wsL_law_r1 : ∀ w ∈ wsL_law_r1, w ∈ lw_tbl := tb_r [75, 76, 65, 663, 664, 71, 1000, 77, 78, 79, 80, 81, 82, 83, 84, 66, 230, 231, 232, 233, 119, 120, 67, 234] (by decide +kernel)
set_option maxRecDepth 20000 in
theorem in_wsL_law_r2 : ∀ w ∈ wsL_law_r2, w ∈ lw_tbl := tb_r [146, 147, 68, 235, 194, 195, 69, 236, 208, 209, 70, 237, 85, 86, 87, 88, 89, 117, 91, 95, 97, 100, 102, 121] (by decide +kernel)
set_option maxRecDepth 20000 in
theorem in_wsL_law_r3 : ∀ w ∈ wsL_law_r3, w ∈ lw_tbl := tb_r [122, 123, 124, 126, 127, 125, 129, 131, 133, 148, 149, 150, 151, 152, 155, 158, 162, 163, 164, 165, 166, 167, 171, 196] (by decide +kernel)
set_option maxRecDepth 20000 in
theorem in_wsL_law_r4 : ∀ w ∈ wsL_law_r4, w ∈ lw_tbl := tb_r [197, 198, 199, 200, 201, 210, 211, 212, 213, 214, 215, 216, 217, 218, 665, 666, 667, 668, 669, 670, 672, 676, 678, 679] (by decide +kernel)
set_option maxRecDepth 20000 in
theorem in_wsL_law_r5 : ∀ w ∈ wsL_law_r5, w ∈ lw_tbl := tb_r [733, 680, 681, 682, 684, 685, 686, 687, 688, 255, 256, 257, 258, 105, 259, 260, 261, 262, 264, 266, 268, 0, 269, 277] (by decide +kernel)
set_option maxRecDepth 20000 in
theorem in_wsL_law_r6 : ∀ w ∈ wsL_law_r6, w ∈ lw_tbl := tb_r [278, 73, 279, 172, 270, 271, 272, 273, 274, 276, 275, 72, 280, 281, 282, 283, 734, 735, 736, 737, 738, 739, 740, 741] (by decide +kernel)
set_option maxRecDepth 20000 in
theorem in_wsL_law_r7 : ∀ w ∈ wsL_law_r7, w ∈ lw_tbl := tb_r [743, 31, 744, 671, 745, 747, 32, 748, 284, 285, 286, 287, 288, 290, 1, 291, 292, 293, 294, 295, 296, 297, 298, 749] (by decide +kernel)
set_option maxRecDepth 20000 in
theorem in_wsL_law_r8 : ∀ w ∈ wsL_law_r8, w ∈ lw_tbl := tb_r [750, 751, 752, 753, 755, 33, 756, 757, 759, 34, 760, 761, 762, 763, 299, 300, 301, 302, 94, 303, 305, 2, 306, 764] (by decide +kernel)
set_option maxRecDepth 20000 in
theorem in_wsL_law_r9 : ∀ w ∈ wsL_law_r9, w ∈ lw_tbl := tb_r [765, 766, 767, 768, 769, 770, 307, 308, 309, 310, 96, 98, 311, 312, 313, 314, 771, 772, 773, 774, 775, 777, 35, 778] (by decide +kernel)
set_option maxRecDepth 20000 in
theorem in_wsL_law_r10 : ∀ w ∈ wsL_law_r10, w ∈ lw_tbl := tb_r [779, 780, 781, 315, 316, 317, 318, 319, 321, 3, 322, 782, 783, 784, 785, 323, 324, 325, 326, 786, 787, 788, 789, 327] (by decide +kernel)
set_option maxRecDepth 20000 in
theorem in_wsL_law_r11 : ∀ w ∈ wsL_law_r11, w ∈ lw_tbl := tb_r [328, 329, 330, 331, 101, 790, 791, 792, 793, 333, 334, 335, 336, 128, 337, 338, 339, 340, 341, 342, 343, 344, 794, 795] (by decide +kernel)
set_option maxRecDepth 20000 in
theorem in_wsL_law_r12 : ∀ w ∈ wsL_law_r12, w ∈ lw_tbl := tb_r [796, 797, 798, 673, 345, 346, 347, 348, 799, 800, 801, 802, 349, 350, 351, 352, 134, 353, 354, 355, 356, 357, 359, 4] (by decide +kernel)
set_option maxRecDepth 20000 in
theorem in_wsL_law_r13 : ∀ w ∈ wsL_law_r13, w ∈ lw_tbl := tb_r [360, 361, 363, 5, 364, 365, 367, 6, 368, 369, 371, 7, 372, 373, 375, 8, 376, 377, 379, 9, 380, 803, 804, 805] (by decide +kernel)
set_option maxRecDepth 20000 in
theorem in_wsL_law_r14 : ∀ w ∈ wsL_law_r14, w ∈ lw_tbl := tb_r [806, 674, 675, 677, 807, 809, 36, 810, 811, 813, 37, 814, 815, 817, 38, 818, 819, 821, 39, 822, 823, 825, 40, 826] (by decide +kernel)
set_option maxRecDepth 20000 in
theorem in_wsL_law_r15 : ∀ w ∈ wsL_law_r15, w ∈ lw_tbl := tb_r [381, 382, 383, 384, 132, 130, 827, 828, 829, 830, 831, 385, 386, 387, 388, 417, 389, 391, 10, 392, 393, 394, 395, 396] (by decide +kernel)
set_option maxRecDepth 20000 in
theorem in_wsL_law_r16 : ∀ w ∈ wsL_law_r16, w ∈ lw_tbl := tb_r [397, 399, 11, 400, 401, 403, 12, 404, 405, 407, 13, 408, 409, 410, 411, 412, 413, 414, 415, 416, 418, 420, 14, 421] (by decide +kernel)
set_option maxRecDepth 20000 in
theorem in_wsL_law_r17 : ∀ w ∈ wsL_law_r17, w ∈ lw_tbl := tb_r [422, 424, 15, 425, 426, 427, 428, 429, 103, 93, 430, 432, 16, 433, 434, 436, 17, 437, 438, 439, 74, 440, 441, 442] (by decide +kernel)
set_option maxRecDepth 20000 in
theorem in_wsL_law_r18 : ∀ w ∈ wsL_law_r18, w ∈ lw_tbl := tb_r [443, 445, 446, 447, 449, 18, 450, 99, 451, 452, 453, 454, 455, 456, 457, 458, 459, 461, 19, 462, 463, 465, 20, 466] (by decide +kernel)
set_option maxRecDepth 20000 in
theorem in_wsL_law_r19 : ∀ w ∈ wsL_law_r19, w ∈ lw_tbl := tb_r [832, 833, 834, 835, 852, 836, 838, 41, 839, 840, 842, 42, 843, 844, 846, 43, 847, 848, 850, 44, 851, 853, 855, 45] (by decide +kernel)
set_option maxRecDepth 20000 in
theorem in_wsL_law_r20 : ∀ w ∈ wsL_law_r20, w ∈ lw_tbl := tb_r [856, 857, 859, 46, 860, 861, 863, 47, 864, 467, 468, 469, 470, 471, 865, 866, 867, 868, 869, 870, 871, 472, 473, 474] (by decide +kernel)
set_option maxRecDepth 20000 in
theorem in_wsL_law_r21 : ∀ w ∈ wsL_law_r21, w ∈ lw_tbl := tb_r [475, 154, 476, 477, 478, 479, 493, 494, 495, 480, 481, 482, 483, 484, 485, 486, 487, 488, 489, 491, 21, 492, 496, 497] (by decide +kernel)
set_option maxRecDepth 20000 in
theorem in_wsL_law_r22 : ∀ w ∈ wsL_law_r22, w ∈ lw_tbl := tb_r [498, 499, 500, 501, 502, 503, 504, 505, 507, 22, 508, 170, 157, 509, 872, 873, 874, 875, 876, 878, 48, 879, 880, 882] (by decide +kernel)
set_option maxRecDepth 20000 in
theorem in_wsL_law_r23 : ∀ w ∈ wsL_law_r23, w ∈ lw_tbl := tb_r [49, 883, 884, 886, 50, 887, 888, 890, 51, 891, 892, 894, 52, 895, 510, 511, 512, 513, 514, 515, 516, 896, 897, 898] (by decide +kernel)
set_option maxRecDepth 20000 in
theorem in_wsL_law_r24 : ∀ w ∈ wsL_law_r24, w ∈ lw_tbl := tb_r [899, 517, 518, 519, 520, 900, 901, 902, 903, 521, 522, 523, 524, 525, 527, 23, 528, 529, 530, 531, 532, 533, 904, 905] (by decide +kernel)
set_option maxRecDepth 20000 in
theorem in_wsL_law_r25 : ∀ w ∈ wsL_law_r25, w ∈ lw_tbl := tb_r [906, 907, 908, 910, 53, 911, 534, 535, 536, 537, 538, 539, 540, 541, 546, 542, 544, 24, 545, 912, 913, 914, 915, 916] (by decide +kernel)
set_option maxRecDepth 20000 in
theorem in_wsL_law_r26 : ∀ w ∈ wsL_law_r26, w ∈ lw_tbl := tb_r [918, 54, 919, 547, 548, 549, 550, 551, 920, 921, 922, 923, 924, 926, 55, 927, 928, 930, 56, 931, 552, 553, 554, 555] (by decide +kernel)
set_option maxRecDepth 20000 in
theorem in_wsL_law_r27 : ∀ w ∈ wsL_law_r27, w ∈ lw_tbl := tb_r [202, 556, 557, 558, 559, 153, 168, 156, 560, 562, 25, 563, 564, 565, 566, 568, 26, 569, 570, 572, 27, 573, 574, 575] (by decide +kernel)
set_option maxRecDepth 20000 in
theorem in_wsL_law_r28 : ∀ w ∈ wsL_law_r28, w ∈ lw_tbl := tb_r [576, 577, 932, 933, 934, 935, 936, 938, 57, 939, 578, 579, 580, 581, 582, 583, 584, 585, 940, 941, 942, 943, 944, 946] (by decide +kernel)
set_option maxRecDepth 20000 in
theorem in_wsL_law_r29 : ∀ w ∈ wsL_law_r29, w ∈ lw_tbl := tb_r [58, 947, 586, 587, 588, 589, 590, 592, 28, 593, 594, 595, 596, 597, 159, 948, 949, 950, 951, 683, 952, 954, 59, 955] (by decide +kernel)
set_option maxRecDepth 20000 in
theorem in_wsL_law_r30 : ∀ w ∈ wsL_law_r30, w ∈ lw_tbl := tb_r [598, 599, 600, 601, 161, 602, 603, 604, 605, 956, 957, 958, 959, 606, 607, 608, 609, 610, 612, 29, 613, 614, 615, 616] (by decide +kernel)
set_option maxRecDepth 20000 in
theorem in_wsL_law_r31 : ∀ w ∈ wsL_law_r31, w ∈ lw_tbl := tb_r [617, 618, 620, 30, 621, 960, 961, 962, 963, 964, 966, 60, 967, 622, 623, 624, 625, 626, 627, 628, 629, 104, 92, 630] (by decide +kernel)
set_option maxRecDepth 20000 in
theorem in_wsL_law_r32 : ∀ w ∈ wsL_law_r32, w ∈ lw_tbl := tb_r [169, 160, 632, 968, 969, 970, 971, 633, 634, 635, 636, 637, 638, 639, 640, 641, 642, 643, 644, 645, 972, 973, 974, 975] (by decide +kernel)
set_option maxRecDepth 20000 in
theorem in_wsL_law_r33 : ∀ w ∈ wsL_law_r33, w ∈ lw_tbl := tb_r [976, 978, 61, 979, 689, 980, 982, 62, 983, 646, 647, 648, 649, 984, 985, 986, 987, 650, 651, 652, 653, 988, 989, 990] (by decide +kernel)
set_option maxRecDepth 20000 in
theorem in_wsL_law_r34 : ∀ w ∈ wsL_law_r34, w ∈ lw_tbl := tb_r [991, 654, 655, 656, 657, 658, 659, 660, 661, 662, 992, 993, 994, 995, 996, 998, 63, 999] (by decide +kernel)
set_option maxRecDepth 20000 in
theorem inX0 : ∀ w ∈ wsX00, w ∈ lw_tbl := tb_r [173, 175, 177, 179, 181, 183, 185, 187, 189, 191] (by decide +kernel)
set_option maxRecDepth 20000 in
theorem inX1 : ∀ w ∈ wsX10, w ∈ lw_tbl := tb_r [135, 137, 139, 141, 143] (by decide +kernel)
set_option maxRecDepth 20000 in
theorem inX2 : ∀ w ∈ wsX20, w ∈ lw_tbl := tb_r [219, 221, 223, 225, 227] (by decide +kernel)
set_option maxRecDepth 20000 in
theorem inX3 : ∀ w ∈ wsX30, w ∈ lw_tbl := tb_r [203, 205] (by decide +kernel)
set_option maxRecDepth 20000 in
theorem inX4 : ∀ w ∈ wsX40, w ∈ lw_tbl := tb_r [106, 108, 110, 112, 114] (by decide +kernel)
set_option maxRecDepth 20000 in
theorem inX5 : ∀ w ∈ wsX50, w ∈ lw_tbl := tb_r [238, 240, 242, 244, 246, 248, 250, 252] (by decide +kernel)
set_option maxRecDepth 20000 in
theorem inX6 : ∀ w ∈ wsX60, w ∈ lw_tbl := tb_r [690, 692, 694, 696, 698, 700, 702, 704, 706, 708, 710, 712, 714, 716, 718, 720, 722, 724, 726, 728, 730] (by decide +kernel)
theorem or_in {a b : List Cond} (ha : ∀ w ∈ a, w ∈ lw_tbl) (hb : ∀ w ∈ b, w ∈ lw_tbl) : ∀ w ∈ a ++ b, w ∈ lw_tbl := fun w h => (List.mem_append.mp h).elim (ha w) (hb w)
theorem wsL_law_in : ∀ w ∈ wsL_law, w ∈ lw_tbl := or_in (or_in (or_in (or_in (or_in (or_in (or_in (or_in (or_in in_wsL_law_r1 (or_in in_wsL_law_r2 (or_in in_wsL_law_r3 (or_in in_wsL_law_r4 (or_in in_wsL_law_r5 (or_in in_wsL_law_r6 (or_in in_wsL_law_r7 (or_in in_wsL_law_r8 (or_in in_wsL_law_r9 (or_in in_wsL_law_r10 (or_in in_wsL_law_r11 (or_in in_wsL_law_r12 (or_in in_wsL_law_r13 (or_in in_wsL_law_r14 (or_in in_wsL_law_r15 (or_in in_wsL_law_r16 (or_in in_wsL_law_r17 (or_in in_wsL_law_r18 (or_in in_wsL_law_r19 (or_in in_wsL_law_r20 (or_in in_wsL_law_r21 (or_in in_wsL_law_r22 (or_in in_wsL_law_r23 (or_in in_wsL_law_r24 (or_in in_wsL_law_r25 (or_in in_wsL_law_r26 (or_in in_wsL_law_r27 (or_in in_wsL_law_r28 (or_in in_wsL_law_r29 (or_in in_wsL_law_r30 (or_in in_wsL_law_r31 (or_in in_wsL_law_r32 (or_in in_wsL_law_r33 (in_wsL_law_r34)))))))))))))))))))))))))))))))))) inX5) inX6) inX4) inX1) inX0) inX3) inX2) (fun w h => absurd h List.not_mem_nil)
theorem inlX0 : ∀ w ∈ wsX00, w ∈ wsL_law := fun _ h => List.mem_append_left _ (List.mem_append_left _ (List.mem_append_left _ (List.mem_append_right _ h)))
theorem inlX1 : ∀ w ∈ wsX10, w ∈ wsL_law := fun _ h => List.mem_append_left _ (List.mem_append_left _ (List.mem_append_left _ (List.mem_append_left _ (List.mem_append_right _ h))))
theorem inlX2 : ∀ w ∈ wsX20, w ∈ wsL_law := fun _ h => List.mem_append_left _ (List.mem_append_right _ h)
theorem inlX3 : ∀ w ∈ wsX30, w ∈ wsL_law := fun _ h => List.mem_append_left _ (List.mem_append_left _ (List.mem_append_right _ h))
theorem inlX4 : ∀ w ∈ wsX40, w ∈ wsL_law := fun _ h => List.mem_append_left _ (List.mem_append_left _ (List.mem_append_left _ (List.mem_append_left _ (List.mem_append_left _ (List.mem_append_right _ h)))))
theorem inlX5 : ∀ w ∈ wsX50, w ∈ wsL_law := fun _ h => List.mem_append_left _ (List.mem_append_left _ (List.mem_append_left _ (List.mem_append_left _ (List.mem_append_left _ (List.mem_append_left _ (List.mem_append_left _ (List.mem_append_right _ h)))))))
theorem inlX6 : ∀ w ∈ wsX60, w ∈ wsL_law := fun _ h => List.mem_append_left _ (List.mem_append_left _ (List.mem_append_left _ (List.mem_append_left _ (List.mem_append_left _ (List.mem_append_left _ (List.mem_append_right _ h))))))

theorem mem_or {a b t : List Cond} (ha : ∀ w ∈ a, w ∈ t) (hb : ∀ w ∈ b, w ∈ t) : ∀ w ∈ a ++ b, w ∈ t := fun w h => (List.mem_append.mp h).elim (ha w) (hb w)
set_option maxRecDepth 20000 in
theorem lwi_1 : ∀ w ∈ wsL_law_r1, w ∈ lw_tbl := fun w h => (goodIn_r wsL_law_r1 [57, 58, 47, 646, 647, 53, 1051, 59, 60, 61, 62, 63, 64, 65, 66, 48, 161, 80, 81, 49, 162, 163, 108, 109] (by decide +kernel) (by decide +kernel) w h).1
set_option maxRecDepth 20000 in
theorem lwi_2 : ∀ w ∈ wsL_law_r2, w ∈ lw_tbl := fun w h => (goodIn_r wsL_law_r2 [50, 164, 125, 126, 51, 165, 138, 139, 52, 166, 167, 68, 69, 70, 79, 71, 72, 83, 84, 85, 86, 90, 94, 95] (by decide +kernel) (by decide +kernel) w h).1
set_option maxRecDepth 20000 in
theorem lwi_3 : ∀ w ∈ wsL_law_r3, w ∈ lw_tbl := fun w h => (goodIn_r wsL_law_r3 [96, 111, 112, 113, 114, 115, 116, 128, 129, 130, 131, 132, 141, 142, 143, 144, 145, 146, 147, 148, 648, 649, 650, 651] (by decide +kernel) (by decide +kernel) w h).1
set_option maxRecDepth 20000 in
theorem lwi_4 : ∀ w ∈ wsL_law_r4, w ∈ lw_tbl := fun w h => (goodIn_r wsL_law_r4 [653, 657, 659, 661, 663, 664, 665, 666, 667, 669, 752, 670, 672, 673, 674, 675, 683, 684, 183, 184, 185, 186, 187, 188] (by decide +kernel) (by decide +kernel) w h).1
set_option maxRecDepth 20000 in
theorem lwi_5 : ∀ w ∈ wsL_law_r5, w ∈ lw_tbl := fun w h => (goodIn_r wsL_law_r5 [189, 190, 753, 754, 755, 756, 652, 757, 654, 758, 759, 760, 191, 192, 193, 194, 195, 196, 197, 198, 761, 762, 763, 764] (by decide +kernel) (by decide +kernel) w h).1
set_option maxRecDepth 20000 in
theorem lwi_6 : ∀ w ∈ wsL_law_r6, w ∈ lw_tbl := fun w h => (goodIn_r wsL_law_r6 [199, 200, 201, 202, 203, 204, 205, 206, 207, 208, 209, 210, 211, 213, 0, 214, 215, 217, 1, 218, 219, 221, 2, 222] (by decide +kernel) (by decide +kernel) w h).1
set_option maxRecDepth 20000 in
theorem lwi_7 : ∀ w ∈ wsL_law_r7, w ∈ lw_tbl := fun w h => (goodIn_r wsL_law_r7 [223, 225, 3, 226, 227, 228, 229, 230, 231, 233, 4, 234, 235, 236, 237, 238, 239, 241, 5, 242, 243, 245, 6, 246] (by decide +kernel) (by decide +kernel) w h).1
set_option maxRecDepth 20000 in
theorem lwi_8 : ∀ w ∈ wsL_law_r8, w ∈ lw_tbl := fun w h => (goodIn_r wsL_law_r8 [247, 249, 7, 250, 251, 253, 8, 254, 255, 256, 257, 258, 259, 260, 261, 262, 263, 264, 265, 266, 267, 268, 269, 270] (by decide +kernel) (by decide +kernel) w h).1
set_option maxRecDepth 20000 in
theorem lwi_9 : ∀ w ∈ wsL_law_r9, w ∈ lw_tbl := fun w h => (goodIn_r wsL_law_r9 [271, 272, 273, 274, 275, 276, 277, 278, 279, 280, 765, 766, 767, 768, 769, 771, 18, 772, 655, 660, 662, 773, 775, 19] (by decide +kernel) (by decide +kernel) w h).1
set_option maxRecDepth 20000 in
theorem lwi_10 : ∀ w ∈ wsL_law_r10, w ∈ lw_tbl := fun w h => (goodIn_r wsL_law_r10 [776, 777, 779, 20, 780, 781, 783, 21, 784, 785, 787, 22, 788, 789, 791, 23, 792, 793, 795, 24, 796, 797, 798, 799] (by decide +kernel) (by decide +kernel) w h).1
set_option maxRecDepth 20000 in
theorem lwi_11 : ∀ w ∈ wsL_law_r11, w ∈ lw_tbl := fun w h => (goodIn_r wsL_law_r11 [281, 282, 283, 284, 285, 286, 287, 288, 289, 290, 291, 292, 293, 294, 295, 296, 297, 800, 801, 802, 803, 656, 658, 668] (by decide +kernel) (by decide +kernel) w h).1
set_option maxRecDepth 20000 in
theorem lwi_12 : ∀ w ∈ wsL_law_r12, w ∈ lw_tbl := fun w h => (goodIn_r wsL_law_r12 [298, 299, 300, 301, 302, 303, 304, 305, 306, 307, 308, 309, 310, 311, 312, 313, 314, 315, 316, 317, 318, 319, 320, 321] (by decide +kernel) (by decide +kernel) w h).1
set_option maxRecDepth 20000 in
theorem lwi_13 : ∀ w ∈ wsL_law_r13, w ∈ lw_tbl := fun w h => (goodIn_r wsL_law_r13 [322, 323, 324, 325, 326, 327, 328, 329, 330, 331, 804, 805, 806, 807, 671, 808, 809, 810, 811, 813, 25, 814, 815, 817] (by decide +kernel) (by decide +kernel) w h).1
set_option maxRecDepth 20000 in
theorem lwi_14 : ∀ w ∈ wsL_law_r14, w ∈ lw_tbl := fun w h => (goodIn_r wsL_law_r14 [26, 818, 819, 820, 821, 822, 823, 824, 825, 826, 827, 828, 829, 830, 332, 333, 334, 335, 336, 337, 338, 339, 340, 341] (by decide +kernel) (by decide +kernel) w h).1
set_option maxRecDepth 20000 in
theorem lwi_15 : ∀ w ∈ wsL_law_r15, w ∈ lw_tbl := fun w h => (goodIn_r wsL_law_r15 [342, 343, 344, 345, 346, 347, 348, 349, 350, 351, 831, 832, 833, 834, 835, 837, 27, 838, 839, 841, 28, 842, 352, 353] (by decide +kernel) (by decide +kernel) w h).1
set_option maxRecDepth 20000 in
theorem lwi_16 : ∀ w ∈ wsL_law_r16, w ∈ lw_tbl := fun w h => (goodIn_r wsL_law_r16 [354, 355, 356, 357, 358, 359, 360, 361, 362, 363, 364, 365, 366, 367, 368, 369, 843, 844, 845, 846, 847, 849, 29, 850] (by decide +kernel) (by decide +kernel) w h).1
set_option maxRecDepth 20000 in
theorem lwi_17 : ∀ w ∈ wsL_law_r17, w ∈ lw_tbl := fun w h => (goodIn_r wsL_law_r17 [370, 371, 372, 373, 374, 375, 376, 377, 378, 379, 380, 382, 9, 383, 384, 385, 386, 387, 392, 393, 54, 394, 388, 389] (by decide +kernel) (by decide +kernel) w h).1
set_option maxRecDepth 20000 in
theorem lwi_18 : ∀ w ∈ wsL_law_r18, w ∈ lw_tbl := fun w h => (goodIn_r wsL_law_r18 [390, 391, 851, 852, 853, 854, 855, 856, 857, 858, 860, 30, 861, 862, 863, 864, 395, 396, 397, 398, 399, 400, 401, 402] (by decide +kernel) (by decide +kernel) w h).1
set_option maxRecDepth 20000 in
theorem lwi_19 : ∀ w ∈ wsL_law_r19, w ∈ lw_tbl := fun w h => (goodIn_r wsL_law_r19 [403, 404, 405, 406, 407, 409, 10, 410, 411, 413, 11, 414, 865, 866, 867, 868, 869, 870, 872, 31, 873, 874, 875, 876] (by decide +kernel) (by decide +kernel) w h).1
set_option maxRecDepth 20000 in
theorem lwi_20 : ∀ w ∈ wsL_law_r20, w ∈ lw_tbl := fun w h => (goodIn_r wsL_law_r20 [877, 878, 879, 880, 881, 882, 415, 416, 417, 418, 419, 420, 421, 422, 423, 883, 884, 885, 886, 887, 889, 32, 890, 891] (by decide +kernel) (by decide +kernel) w h).1
set_option maxRecDepth 20000 in
theorem lwi_21 : ∀ w ∈ wsL_law_r21, w ∈ lw_tbl := fun w h => (goodIn_r wsL_law_r21 [893, 33, 894, 424, 425, 426, 427, 428, 429, 430, 431, 895, 896, 897, 898, 432, 433, 434, 435, 436, 437, 438, 439, 440] (by decide +kernel) (by decide +kernel) w h).1
set_option maxRecDepth 20000 in
theorem lwi_22 : ∀ w ∈ wsL_law_r22, w ∈ lw_tbl := fun w h => (goodIn_r wsL_law_r22 [899, 900, 901, 902, 441, 442, 443, 444, 445, 446, 447, 448, 449, 450, 452, 12, 453, 454, 903, 904, 905, 906, 907, 909] (by decide +kernel) (by decide +kernel) w h).1
set_option maxRecDepth 20000 in
theorem lwi_23 : ∀ w ∈ wsL_law_r23, w ∈ lw_tbl := fun w h => (goodIn_r wsL_law_r23 [34, 910, 911, 913, 35, 914, 455, 456, 457, 458, 459, 460, 461, 462, 463, 464, 465, 466, 467, 468, 469, 915, 916, 917] (by decide +kernel) (by decide +kernel) w h).1
set_option maxRecDepth 20000 in
theorem lwi_24 : ∀ w ∈ wsL_law_r24, w ∈ lw_tbl := fun w h => (goodIn_r wsL_law_r24 [918, 470, 471, 472, 473, 474, 476, 13, 477, 919, 920, 921, 922, 923, 924, 926, 36, 927, 928, 930, 37, 931, 478, 479] (by decide +kernel) (by decide +kernel) w h).1
set_option maxRecDepth 20000 in
theorem lwi_25 : ∀ w ∈ wsL_law_r25, w ∈ lw_tbl := fun w h => (goodIn_r wsL_law_r25 [480, 481, 932, 933, 934, 935, 482, 483, 484, 485, 486, 936, 937, 938, 939, 940, 487, 488, 489, 490, 941, 942, 943, 944] (by decide +kernel) (by decide +kernel) w h).1
set_option maxRecDepth 20000 in
theorem lwi_26 : ∀ w ∈ wsL_law_r26, w ∈ lw_tbl := fun w h => (goodIn_r wsL_law_r26 [491, 492, 493, 494, 495, 496, 55, 497, 498, 499, 500, 501, 502, 503, 504, 56, 505, 506, 507, 508, 509, 510, 511, 512] (by decide +kernel) (by decide +kernel) w h).1
set_option maxRecDepth 20000 in
theorem lwi_27 : ∀ w ∈ wsL_law_r27, w ∈ lw_tbl := fun w h => (goodIn_r wsL_law_r27 [945, 946, 947, 948, 949, 677, 678, 950, 952, 38, 953, 954, 955, 956, 957, 959, 39, 960, 961, 962, 963, 513, 514, 515] (by decide +kernel) (by decide +kernel) w h).1
set_option maxRecDepth 20000 in
theorem lwi_28 : ∀ w ∈ wsL_law_r28, w ∈ lw_tbl := fun w h => (goodIn_r wsL_law_r28 [516, 517, 518, 519, 520, 521, 522, 523, 524, 525, 526, 527, 964, 965, 966, 967, 968, 969, 970, 971, 972, 973, 975, 40] (by decide +kernel) (by decide +kernel) w h).1
set_option maxRecDepth 20000 in
theorem lwi_29 : ∀ w ∈ wsL_law_r29, w ∈ lw_tbl := fun w h => (goodIn_r wsL_law_r29 [976, 977, 979, 41, 980, 981, 983, 42, 984, 985, 987, 43, 988, 528, 529, 530, 531, 532, 533, 534, 535, 536, 537, 538] (by decide +kernel) (by decide +kernel) w h).1
set_option maxRecDepth 20000 in
theorem lwi_30 : ∀ w ∈ wsL_law_r30, w ∈ lw_tbl := fun w h => (goodIn_r wsL_law_r30 [539, 540, 542, 543, 544, 989, 990, 991, 992, 993, 994, 995, 996, 997, 998, 999, 1000, 1001, 545, 546, 547, 548, 549, 550] (by decide +kernel) (by decide +kernel) w h).1
set_option maxRecDepth 20000 in
theorem lwi_31 : ∀ w ∈ wsL_law_r31, w ∈ lw_tbl := fun w h => (goodIn_r wsL_law_r31 [551, 552, 1002, 1003, 1004, 1005, 553, 554, 555, 556, 557, 558, 559, 560, 1006, 1007, 1008, 1009, 561, 562, 563, 564, 565, 566] (by decide +kernel) (by decide +kernel) w h).1
set_option maxRecDepth 20000 in
theorem lwi_32 : ∀ w ∈ wsL_law_r32, w ∈ lw_tbl := fun w h => (goodIn_r wsL_law_r32 [567, 568, 569, 570, 571, 1010, 1011, 1012, 1013, 679, 680, 1014, 1016, 44, 1017, 572, 573, 574, 575, 576, 578, 14, 579, 580] (by decide +kernel) (by decide +kernel) w h).1
set_option maxRecDepth 20000 in
theorem lwi_33 : ∀ w ∈ wsL_law_r33, w ∈ lw_tbl := fun w h => (goodIn_r wsL_law_r33 [582, 15, 583, 584, 586, 16, 587, 588, 589, 590, 591, 1018, 1019, 1020, 1021, 681, 682, 1022, 1024, 45, 1025, 592, 593, 594] (by decide +kernel) (by decide +kernel) w h).1
set_option maxRecDepth 20000 in
theorem lwi_34 : ∀ w ∈ wsL_law_r34, w ∈ lw_tbl := fun w h => (goodIn_r wsL_law_r34 [595, 596, 597, 598, 601, 599, 600, 602, 603, 604, 1026, 1027, 1028, 1029, 1030, 1031, 605, 606, 607, 608, 1032, 1033, 1034, 1035] (by decide +kernel) (by decide +kernel) w h).1
set_option maxRecDepth 20000 in
theorem lwi_35 : ∀ w ∈ wsL_law_r35, w ∈ lw_tbl := fun w h => (goodIn_r wsL_law_r35 [676, 609, 610, 611, 612, 613, 614, 615, 616, 618, 17, 619, 1036, 1037, 1038, 1039, 1040, 1041, 1042, 620, 621, 622, 623, 624] (by decide +kernel) (by decide +kernel) w h).1
set_option maxRecDepth 20000 in
theorem lwi_36 : ∀ w ∈ wsL_law_r36, w ∈ lw_tbl := fun w h => (goodIn_r wsL_law_r36 [625, 626, 627, 628, 629, 630, 631, 632, 1043, 1044, 1045, 1046, 633, 634, 635, 636, 637, 638, 639, 640, 641, 642, 643, 644] (by decide +kernel) (by decide +kernel) w h).1
set_option maxRecDepth 20000 in
theorem lwi_37 : ∀ w ∈ wsL_law_r37, w ∈ lw_tbl := fun w h => (goodIn_r wsL_law_r37 [645, 1047, 1048, 1049, 1050] (by decide +kernel) (by decide +kernel) w h).1
set_option maxRecDepth 20000 in
theorem lwx_6 : ∀ w ∈ wsX60, w ∈ lw_tbl := by decide +kernel
set_option maxRecDepth 20000 in
theorem lwx_7 : ∀ w ∈ wsX70, w ∈ lw_tbl := by decide +kernel
set_option maxRecDepth 20000 in
theorem lwx_5 : ∀ w ∈ wsX50, w ∈ lw_tbl := by decide +kernel
set_option maxRecDepth 20000 in
theorem lwx_0 : ∀ w ∈ wsX00, w ∈ lw_tbl := by decide +kernel
set_option maxRecDepth 20000 in
theorem lwx_2 : ∀ w ∈ wsX20, w ∈ lw_tbl := by decide +kernel
set_option maxRecDepth 20000 in
theorem lwx_3 : ∀ w ∈ wsX30, w ∈ lw_tbl := by decide +kernel
set_option maxRecDepth 20000 in
theorem lwx_1 : ∀ w ∈ wsX10, w ∈ lw_tbl := by decide +kernel

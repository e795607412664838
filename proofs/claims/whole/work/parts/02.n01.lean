theorem mem_r {big ws : List Cond} (ps : List Nat) (hp : ws = ps.filterMap (fun i => big[i]?)) : ∀ w ∈ ws, w ∈ big := by
  intro w hw
  rw [hp] at hw
  obtain ⟨i, -, hi⟩ := List.mem_filterMap.mp hw
  exact List.mem_of_getElem? hi
set_option maxRecDepth 20000 in
theorem wLi_wsL_law_r1 : ∀ w ∈ wsL_law_r1, w ∈ lw_tbl := mem_r [57, 58, 45, 699, 700, 50, 59, 60, 61, 62, 63, 64, 65, 66, 46, 198, 199, 200, 157, 201, 126, 127, 47, 202] (by decide +kernel)
set_option maxRecDepth 20000 in
theorem wLi_wsL_law_r2 : ∀ w ∈ wsL_law_r2, w ∈ lw_tbl := mem_r [159, 160, 48, 203, 179, 204, 124, 205, 206, 181, 49, 67, 68, 69, 70, 71, 73, 75, 78, 80, 82, 84, 88, 91] (by decide +kernel)
set_option maxRecDepth 20000 in
theorem wLi_wsL_law_r3 : ∀ w ∈ wsL_law_r3, w ∈ lw_tbl := mem_r [93, 95, 97, 128, 129, 130, 131, 158, 132, 133, 135, 137, 139, 140, 141, 161, 162, 163, 164, 165, 166, 167, 168, 182] (by decide +kernel)
set_option maxRecDepth 20000 in
theorem wLi_wsL_law_r4 : ∀ w ∈ wsL_law_r4, w ∈ lw_tbl := mem_r [183, 184, 185, 186, 188, 189, 701, 702, 703, 704, 705, 706, 707, 716, 717, 721, 723, 724, 725, 726, 727, 226, 227, 228] (by decide +kernel)
set_option maxRecDepth 20000 in
theorem wLi_wsL_law_r5 : ∀ w ∈ wsL_law_r5, w ∈ lw_tbl := mem_r [229, 134, 230, 231, 232, 233, 234, 235, 236, 778, 779, 780, 781, 782, 708, 783, 784, 785, 237, 238, 239, 240, 786, 787] (by decide +kernel)
set_option maxRecDepth 20000 in
theorem wLi_wsL_law_r6 : ∀ w ∈ wsL_law_r6, w ∈ lw_tbl := mem_r [788, 789, 241, 242, 243, 244, 136, 138, 169, 245, 246, 247, 248, 249, 250, 251, 252, 253, 254, 255, 256, 257, 259, 0] (by decide +kernel)
set_option maxRecDepth 20000 in
theorem wLi_wsL_law_r7 : ∀ w ∈ wsL_law_r7, w ∈ lw_tbl := mem_r [260, 262, 264, 1, 265, 266, 268, 2, 269, 89, 85, 270, 272, 3, 273, 274, 276, 4, 277, 278, 280, 5, 281, 283] (by decide +kernel)
set_option maxRecDepth 20000 in
theorem wLi_wsL_law_r8 : ∀ w ∈ wsL_law_r8, w ∈ lw_tbl := mem_r [285, 6, 286, 287, 288, 289, 51, 290, 1076, 291, 292, 293, 294, 295, 1077, 297, 298, 299, 300, 301, 302, 303, 304, 305] (by decide +kernel)
set_option maxRecDepth 20000 in
theorem wLi_wsL_law_r9 : ∀ w ∈ wsL_law_r9, w ∈ lw_tbl := mem_r [306, 52, 307, 308, 309, 310, 311, 313, 314, 53, 315, 316, 317, 54, 318, 319, 320, 321, 322, 323, 324, 325, 326, 327] (by decide +kernel)
set_option maxRecDepth 20000 in
theorem wLi_wsL_law_r10 : ∀ w ∈ wsL_law_r10, w ∈ lw_tbl := mem_r [328, 329, 331, 333, 340, 342, 7, 343, 344, 345, 346, 347, 348, 349, 350, 351, 352, 353, 354, 355, 356, 357, 358, 359] (by decide +kernel)
set_option maxRecDepth 20000 in
theorem wLi_wsL_law_r11 : ∀ w ∈ wsL_law_r11, w ∈ lw_tbl := mem_r [790, 791, 792, 793, 710, 712, 714, 709, 711, 722, 794, 796, 18, 797, 713, 715, 802, 803, 804, 805, 798, 800, 19, 801] (by decide +kernel)
set_option maxRecDepth 20000 in
theorem wLi_wsL_law_r12 : ∀ w ∈ wsL_law_r12, w ∈ lw_tbl := mem_r [806, 808, 20, 809, 810, 812, 21, 813, 818, 814, 816, 22, 817, 819, 821, 23, 822, 823, 825, 24, 826, 360, 361, 362] (by decide +kernel)
set_option maxRecDepth 20000 in
theorem wLi_wsL_law_r13 : ∀ w ∈ wsL_law_r13, w ∈ lw_tbl := mem_r [363, 827, 828, 829, 830, 364, 365, 366, 367, 87, 90, 94, 368, 92, 83, 369, 370, 371, 372, 373, 374, 55, 375, 376] (by decide +kernel)
set_option maxRecDepth 20000 in
theorem wLi_wsL_law_r14 : ∀ w ∈ wsL_law_r14, w ∈ lw_tbl := mem_r [377, 378, 379, 831, 832, 833, 834, 835, 836, 838, 25, 839, 840, 841, 842, 380, 381, 382, 383, 72, 74, 77, 79, 81] (by decide +kernel)
set_option maxRecDepth 20000 in
theorem wLi_wsL_law_r15 : ∀ w ∈ wsL_law_r15, w ∈ lw_tbl := mem_r [384, 386, 8, 387, 388, 389, 390, 391, 843, 844, 845, 846, 847, 849, 26, 850, 851, 853, 27, 854, 392, 393, 394, 395] (by decide +kernel)
set_option maxRecDepth 20000 in
theorem wLi_wsL_law_r16 : ∀ w ∈ wsL_law_r16, w ∈ lw_tbl := mem_r [396, 398, 9, 399, 855, 856, 857, 858, 859, 861, 28, 862, 400, 401, 402, 403, 404, 405, 406, 407, 408, 409, 410, 411] (by decide +kernel)
set_option maxRecDepth 20000 in
theorem wLi_wsL_law_r17 : ∀ w ∈ wsL_law_r17, w ∈ lw_tbl := mem_r [412, 413, 414, 863, 864, 865, 866, 867, 868, 869, 870, 872, 29, 873, 415, 416, 417, 418, 419, 874, 875, 876, 877, 878] (by decide +kernel)
set_option maxRecDepth 20000 in
theorem wLi_wsL_law_r18 : ∀ w ∈ wsL_law_r18, w ∈ lw_tbl := mem_r [880, 30, 881, 420, 421, 422, 423, 882, 883, 884, 885, 424, 425, 426, 427, 428, 429, 430, 886, 887, 888, 889, 890, 431] (by decide +kernel)
set_option maxRecDepth 20000 in
theorem wLi_wsL_law_r19 : ∀ w ∈ wsL_law_r19, w ∈ lw_tbl := mem_r [432, 433, 434, 435, 891, 892, 893, 894, 895, 897, 31, 898, 436, 437, 438, 439, 899, 900, 901, 902, 440, 441, 442, 443] (by decide +kernel)
set_option maxRecDepth 20000 in
theorem wLi_wsL_law_r20 : ∀ w ∈ wsL_law_r20, w ∈ lw_tbl := mem_r [444, 445, 446, 447, 448, 449, 450, 451, 452, 453, 454, 455, 456, 56, 457, 458, 460, 10, 461, 462, 463, 464, 903, 904] (by decide +kernel)
set_option maxRecDepth 20000 in
theorem wLi_wsL_law_r21 : ∀ w ∈ wsL_law_r21, w ∈ lw_tbl := mem_r [905, 906, 907, 909, 32, 910, 911, 913, 33, 914, 719, 718, 915, 917, 34, 918, 465, 466, 467, 468, 96, 469, 470, 471] (by decide +kernel)
set_option maxRecDepth 20000 in
theorem wLi_wsL_law_r22 : ∀ w ∈ wsL_law_r22, w ∈ lw_tbl := mem_r [472, 473, 474, 475, 476, 477, 478, 479, 919, 920, 921, 922, 923, 924, 926, 35, 927, 480, 481, 482, 483, 495, 493, 494] (by decide +kernel)
set_option maxRecDepth 20000 in
theorem wLi_wsL_law_r23 : ∀ w ∈ wsL_law_r23, w ∈ lw_tbl := mem_r [98, 484, 485, 486, 487, 488, 489, 490, 492, 491, 928, 929, 930, 931, 936, 720, 932, 933, 934, 935, 937, 939, 36, 940] (by decide +kernel)
set_option maxRecDepth 20000 in
theorem wLi_wsL_law_r24 : ∀ w ∈ wsL_law_r24, w ∈ lw_tbl := mem_r [941, 943, 37, 944, 496, 497, 498, 499, 945, 946, 947, 948, 500, 501, 502, 503, 504, 505, 506, 507, 508, 509, 510, 949] (by decide +kernel)
set_option maxRecDepth 20000 in
theorem wLi_wsL_law_r25 : ∀ w ∈ wsL_law_r25, w ∈ lw_tbl := mem_r [950, 951, 952, 953, 954, 955, 956, 957, 511, 512, 513, 514, 515, 516, 517, 518, 958, 959, 960, 961, 519, 520, 521, 522] (by decide +kernel)
set_option maxRecDepth 20000 in
theorem wLi_wsL_law_r26 : ∀ w ∈ wsL_law_r26, w ∈ lw_tbl := mem_r [523, 525, 11, 526, 530, 527, 528, 529, 962, 963, 964, 965, 966, 968, 38, 969, 970, 531, 532, 533, 534, 971, 972, 973] (by decide +kernel)
set_option maxRecDepth 20000 in
theorem wLi_wsL_law_r27 : ∀ w ∈ wsL_law_r27, w ∈ lw_tbl := mem_r [974, 535, 536, 537, 538, 539, 540, 541, 542, 543, 544, 975, 976, 977, 978, 979, 981, 39, 982, 545, 546, 547, 548, 983] (by decide +kernel)
set_option maxRecDepth 20000 in
theorem wLi_wsL_law_r28 : ∀ w ∈ wsL_law_r28, w ∈ lw_tbl := mem_r [984, 985, 986, 549, 550, 551, 552, 987, 988, 989, 990, 553, 554, 555, 556, 560, 557, 558, 559, 561, 562, 563, 564, 565] (by decide +kernel)
set_option maxRecDepth 20000 in
theorem wLi_wsL_law_r29 : ∀ w ∈ wsL_law_r29, w ∈ lw_tbl := mem_r [566, 567, 568, 569, 570, 571, 572, 573, 575, 12, 576, 577, 578, 579, 580, 581, 582, 991, 992, 993, 994, 995, 996, 997] (by decide +kernel)
set_option maxRecDepth 20000 in
theorem wLi_wsL_law_r30 : ∀ w ∈ wsL_law_r30, w ∈ lw_tbl := mem_r [1005, 998, 1000, 40, 1001, 1002, 1003, 1004, 583, 584, 585, 586, 1006, 1007, 1008, 1009, 587, 588, 589, 590, 591, 592, 593, 594] (by decide +kernel)
set_option maxRecDepth 20000 in
theorem wLi_wsL_law_r31 : ∀ w ∈ wsL_law_r31, w ∈ lw_tbl := mem_r [1010, 1011, 1012, 1013, 1014, 595, 596, 597, 598, 1015, 1016, 1017, 1018, 599, 600, 601, 602, 603, 605, 13, 606, 607, 608, 609] (by decide +kernel)
set_option maxRecDepth 20000 in
theorem wLi_wsL_law_r32 : ∀ w ∈ wsL_law_r32, w ∈ lw_tbl := mem_r [610, 611, 613, 14, 614, 615, 616, 617, 619, 15, 620, 86, 76, 1019, 1020, 1021, 1022, 1023, 1025, 41, 1026, 1027, 1029, 42] (by decide +kernel)
set_option maxRecDepth 20000 in
theorem wLi_wsL_law_r33 : ∀ w ∈ wsL_law_r33, w ∈ lw_tbl := mem_r [1030, 621, 622, 623, 624, 1031, 1032, 1033, 1034, 625, 626, 627, 628, 629, 631, 16, 632, 633, 634, 635, 636, 637, 639, 17] (by decide +kernel)
set_option maxRecDepth 20000 in
theorem wLi_wsL_law_r34 : ∀ w ∈ wsL_law_r34, w ∈ lw_tbl := mem_r [640, 1035, 1036, 1037, 1038, 1039, 1041, 43, 1042, 641, 642, 643, 644, 645, 1043, 1044, 1045, 1046, 1047, 646, 647, 648, 649, 1048] (by decide +kernel)
set_option maxRecDepth 20000 in
theorem wLi_wsL_law_r35 : ∀ w ∈ wsL_law_r35, w ∈ lw_tbl := mem_r [1049, 1050, 1051, 650, 651, 652, 653, 1052, 1053, 1054, 1055, 654, 655, 656, 657, 658, 659, 660, 661, 662, 663, 664, 1056, 1057] (by decide +kernel)
set_option maxRecDepth 20000 in
theorem wLi_wsL_law_r36 : ∀ w ∈ wsL_law_r36, w ∈ lw_tbl := mem_r [1058, 1059, 665, 666, 667, 668, 669, 670, 671, 672, 674, 675, 676, 677, 1060, 1061, 1062, 1063, 678, 679, 680, 681, 187, 682] (by decide +kernel)
set_option maxRecDepth 20000 in
theorem wLi_wsL_law_r37 : ∀ w ∈ wsL_law_r37, w ∈ lw_tbl := mem_r [683, 684, 685, 686, 1064, 1065, 1066, 1067, 728, 687, 688, 689, 690, 1068, 1069, 1070, 1071, 691, 692, 693, 694, 190, 695, 696] (by decide +kernel)
set_option maxRecDepth 20000 in
theorem wLi_wsL_law_r38 : ∀ w ∈ wsL_law_r38, w ∈ lw_tbl := mem_r [697, 698, 1072, 1073, 1074, 1075] (by decide +kernel)
set_option maxRecDepth 20000 in
theorem wLi_wsX40 : ∀ w ∈ wsX40, w ∈ lw_tbl := mem_r [207, 209, 211, 213, 215, 217, 219, 221, 223] (by decide +kernel)
set_option maxRecDepth 20000 in
theorem wLi_wsX50 : ∀ w ∈ wsX50, w ∈ lw_tbl := mem_r [729, 731, 733, 735, 737, 739, 741, 743, 745, 747, 749, 751, 753, 755, 757, 759, 761, 763, 765, 767, 769, 771, 773, 775] (by decide +kernel)
set_option maxRecDepth 20000 in
theorem wLi_wsX00 : ∀ w ∈ wsX00, w ∈ lw_tbl := mem_r [99, 101, 103, 105, 107, 109, 111, 113, 115, 117, 119, 121] (by decide +kernel)
set_option maxRecDepth 20000 in
theorem wLi_wsX30 : ∀ w ∈ wsX30, w ∈ lw_tbl := mem_r [142, 144, 146, 148, 150, 152, 154] (by decide +kernel)
set_option maxRecDepth 20000 in
theorem wLi_wsX20 : ∀ w ∈ wsX20, w ∈ lw_tbl := mem_r [170, 172, 174, 176] (by decide +kernel)
set_option maxRecDepth 20000 in
theorem wLi_wsX10 : ∀ w ∈ wsX10, w ∈ lw_tbl := mem_r [191, 193, 195] (by decide +kernel)
theorem wsL_law_in : ∀ w ∈ wsL_law, w ∈ lw_tbl := (List.forall_mem_append.mpr ⟨(List.forall_mem_append.mpr ⟨(List.forall_mem_append.mpr ⟨(List.forall_mem_append.mpr ⟨(List.forall_mem_append.mpr ⟨(List.forall_mem_append.mpr ⟨(List.forall_mem_append.mpr ⟨(List.forall_mem_append.mpr ⟨wLi_wsL_law_r1, (List.forall_mem_append.mpr ⟨wLi_wsL_law_r2, (List.forall_mem_append.mpr ⟨wLi_wsL_law_r3, (List.forall_mem_append.mpr ⟨wLi_wsL_law_r4, (List.forall_mem_append.mpr ⟨wLi_wsL_law_r5, (List.forall_mem_append.mpr ⟨wLi_wsL_law_r6, (List.forall_mem_append.mpr ⟨wLi_wsL_law_r7, (List.forall_mem_append.mpr ⟨wLi_wsL_law_r8, (List.forall_mem_append.mpr ⟨wLi_wsL_law_r9, (List.forall_mem_append.mpr ⟨wLi_wsL_law_r10, (List.forall_mem_append.mpr ⟨wLi_wsL_law_r11, (List.forall_mem_append.mpr ⟨wLi_wsL_law_r12, (List.forall_mem_append.mpr ⟨wLi_wsL_law_r13, (List.forall_mem_append.mpr ⟨wLi_wsL_law_r14, (List.forall_mem_append.mpr ⟨wLi_wsL_law_r15, (List.forall_mem_append.mpr ⟨wLi_wsL_law_r16, (List.forall_mem_append.mpr ⟨wLi_wsL_law_r17, (List.forall_mem_append.mpr ⟨wLi_wsL_law_r18, (List.forall_mem_append.mpr ⟨wLi_wsL_law_r19, (List.forall_mem_append.mpr ⟨wLi_wsL_law_r20, (List.forall_mem_append.mpr ⟨wLi_wsL_law_r21, (List.forall_mem_append.mpr ⟨wLi_wsL_law_r22, (List.forall_mem_append.mpr ⟨wLi_wsL_law_r23, (List.forall_mem_append.mpr ⟨wLi_wsL_law_r24, (List.forall_mem_append.mpr ⟨wLi_wsL_law_r25, (List.forall_mem_append.mpr ⟨wLi_wsL_law_r26, (List.forall_mem_append.mpr ⟨wLi_wsL_law_r27, (List.forall_mem_append.mpr ⟨wLi_wsL_law_r28, (List.forall_mem_append.mpr ⟨wLi_wsL_law_r29, (List.forall_mem_append.mpr ⟨wLi_wsL_law_r30, (List.forall_mem_append.mpr ⟨wLi_wsL_law_r31, (List.forall_mem_append.mpr ⟨wLi_wsL_law_r32, (List.forall_mem_append.mpr ⟨wLi_wsL_law_r33, (List.forall_mem_append.mpr ⟨wLi_wsL_law_r34, (List.forall_mem_append.mpr ⟨wLi_wsL_law_r35, (List.forall_mem_append.mpr ⟨wLi_wsL_law_r36, (List.forall_mem_append.mpr ⟨wLi_wsL_law_r37, wLi_wsL_law_r38⟩)⟩)⟩)⟩)⟩)⟩)⟩)⟩)⟩)⟩)⟩)⟩)⟩)⟩)⟩)⟩)⟩)⟩)⟩)⟩)⟩)⟩)⟩)⟩)⟩)⟩)⟩)⟩)⟩)⟩)⟩)⟩)⟩)⟩)⟩)⟩)⟩), wLi_wsX40⟩), wLi_wsX50⟩), wLi_wsX00⟩), wLi_wsX30⟩), wLi_wsX20⟩), wLi_wsX10⟩), (fun _ h => absurd h List.not_mem_nil)⟩)
theorem inlX0 : ∀ w ∈ wsX00, w ∈ wsL_law := fun _ h => List.mem_append_left _ (List.mem_append_left _ (List.mem_append_left _ (List.mem_append_left _ (List.mem_append_right _ h))))
theorem inX0 : ∀ w ∈ wsX00, w ∈ lw_tbl := fun w h => wsL_law_in w (inlX0 w h)
theorem inlX1 : ∀ w ∈ wsX10, w ∈ wsL_law := fun _ h => List.mem_append_left _ (List.mem_append_right _ h)
theorem inX1 : ∀ w ∈ wsX10, w ∈ lw_tbl := fun w h => wsL_law_in w (inlX1 w h)
theorem inlX2 : ∀ w ∈ wsX20, w ∈ wsL_law := fun _ h => List.mem_append_left _ (List.mem_append_left _ (List.mem_append_right _ h))
theorem inX2 : ∀ w ∈ wsX20, w ∈ lw_tbl := fun w h => wsL_law_in w (inlX2 w h)
theorem inlX3 : ∀ w ∈ wsX30, w ∈ wsL_law := fun _ h => List.mem_append_left _ (List.mem_append_left _ (List.mem_append_left _ (List.mem_append_right _ h)))
theorem inX3 : ∀ w ∈ wsX30, w ∈ lw_tbl := fun w h => wsL_law_in w (inlX3 w h)
theorem inlX4 : ∀ w ∈ wsX40, w ∈ wsL_law := fun _ h => List.mem_append_left _ (List.mem_append_left _ (List.mem_append_left _ (List.mem_append_left _ (List.mem_append_left _ (List.mem_append_left _ (List.mem_append_right _ h))))))
theorem inX4 : ∀ w ∈ wsX40, w ∈ lw_tbl := fun w h => wsL_law_in w (inlX4 w h)
theorem inlX5 : ∀ w ∈ wsX50, w ∈ wsL_law := fun _ h => List.mem_append_left _ (List.mem_append_left _ (List.mem_append_left _ (List.mem_append_left _ (List.mem_append_left _ (List.mem_append_right _ h)))))
theorem inX5 : ∀ w ∈ wsX50, w ∈ lw_tbl := fun w h => wsL_law_in w (inlX5 w h)
theorem inJ6 : ∀ w ∈ wsJ60, w ∈ lw_tbl := by decide +kernel
theorem inJ9 : ∀ w ∈ wsJ90, w ∈ lw_tbl := by decide +kernel
theorem inJ0 : ∀ w ∈ wsJ00, w ∈ lw_tbl := by decide +kernel
theorem inJ1 : ∀ w ∈ wsJ10, w ∈ lw_tbl := by decide +kernel
theorem inJ2 : ∀ w ∈ wsJ20, w ∈ lw_tbl := by decide +kernel
theorem inJ3 : ∀ w ∈ wsJ30, w ∈ lw_tbl := by decide +kernel

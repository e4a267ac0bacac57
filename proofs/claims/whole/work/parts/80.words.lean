/-! the law, 11: its words among the tables' -/
theorem wat_mem {ps : List Nat} {w : Cond} (h : w ∈ ps.filterMap (fun i => lw_tbl[i]?)) : w ∈ lw_tbl := by
  obtain ⟨i, -, hi⟩ := List.mem_filterMap.mp h
  exact List.mem_of_getElem? hi
set_option maxHeartbeats 8000000 in
set_option maxRecDepth 100000 in
theorem wat_L_law_r1 : wsL_law_r1 = ([50, 51, 39, 624, 625, 43, 997, 52, 53, 54, 55, 56, 57, 58, 189, 60, 100, 190, 191, 192, 193, 194, 62, 63] : List Nat).filterMap (fun i => lw_tbl[i]?) := by decide +kernel
theorem win_L_law_r1 : ∀ w ∈ wsL_law_r1, w ∈ lw_tbl := fun w h => wat_mem (wat_L_law_r1 ▸ h)
set_option maxHeartbeats 8000000 in
set_option maxRecDepth 100000 in
theorem wat_L_law_r2 : wsL_law_r2 = ([40, 195, 102, 103, 41, 196, 134, 42, 197, 65, 66, 67, 101, 68, 69, 70, 105, 106, 107, 108, 110, 111, 136, 137] : List Nat).filterMap (fun i => lw_tbl[i]?) := by decide +kernel
theorem win_L_law_r2 : ∀ w ∈ wsL_law_r2, w ∈ lw_tbl := fun w h => wat_mem (wat_L_law_r2 ▸ h)
set_option maxHeartbeats 8000000 in
set_option maxRecDepth 100000 in
theorem wat_L_law_r3 : wsL_law_r3 = ([138, 139, 145, 150, 626, 627, 628, 629, 631, 633, 634, 635, 636, 637, 640, 641, 646, 647, 648, 649, 650, 651, 653, 654] : List Nat).filterMap (fun i => lw_tbl[i]?) := by decide +kernel
theorem win_L_law_r3 : ∀ w ∈ wsL_law_r3, w ∈ lw_tbl := fun w h => wat_mem (wat_L_law_r3 ▸ h)
set_option maxHeartbeats 8000000 in
set_option maxRecDepth 100000 in
theorem wat_L_law_r4 : wsL_law_r4 = ([655, 656, 657, 658, 659, 660, 661, 662, 229, 230, 231, 232, 233, 234, 235, 236, 237, 238, 239, 154, 156, 160, 158, 167] : List Nat).filterMap (fun i => lw_tbl[i]?) := by decide +kernel
theorem win_L_law_r4 : ∀ w ∈ wsL_law_r4, w ∈ lw_tbl := fun w h => wat_mem (wat_L_law_r4 ▸ h)
set_option maxHeartbeats 8000000 in
set_option maxRecDepth 100000 in
theorem wat_L_law_r5 : wsL_law_r5 = ([730, 731, 732, 733, 638, 639, 734, 735, 736, 737, 738, 739, 740, 742, 13, 743, 240, 241, 242, 243, 244, 245, 246, 247] : List Nat).filterMap (fun i => lw_tbl[i]?) := by decide +kernel
theorem win_L_law_r5 : ∀ w ∈ wsL_law_r5, w ∈ lw_tbl := fun w h => wat_mem (wat_L_law_r5 ▸ h)
set_option maxHeartbeats 8000000 in
set_option maxRecDepth 100000 in
theorem wat_L_law_r6 : wsL_law_r6 = ([249, 0, 250, 199, 251, 253, 1, 254, 255, 256, 257, 258, 259, 261, 2, 262, 263, 264, 44, 265, 266, 267, 268, 269] : List Nat).filterMap (fun i => lw_tbl[i]?) := by decide +kernel
theorem win_L_law_r6 : ∀ w ∈ wsL_law_r6, w ∈ lw_tbl := fun w h => wat_mem (wat_L_law_r6 ▸ h)
set_option maxHeartbeats 8000000 in
set_option maxRecDepth 100000 in
theorem wat_L_law_r7 : wsL_law_r7 = ([270, 271, 272, 274, 275, 744, 745, 746, 747, 748, 749, 750, 751, 753, 14, 754, 630, 755, 756, 757, 276, 277, 278, 279] : List Nat).filterMap (fun i => lw_tbl[i]?) := by decide +kernel
theorem win_L_law_r7 : ∀ w ∈ wsL_law_r7, w ∈ lw_tbl := fun w h => wat_mem (wat_L_law_r7 ▸ h)
set_option maxHeartbeats 8000000 in
set_option maxRecDepth 100000 in
theorem wat_L_law_r8 : wsL_law_r8 = ([280, 281, 45, 282, 283, 285, 286, 287, 758, 759, 760, 761, 762, 764, 15, 765, 288, 289, 290, 291, 292, 293, 294, 295] : List Nat).filterMap (fun i => lw_tbl[i]?) := by decide +kernel
theorem win_L_law_r8 : ∀ w ∈ wsL_law_r8, w ∈ lw_tbl := fun w h => wat_mem (wat_L_law_r8 ▸ h)
set_option maxHeartbeats 8000000 in
set_option maxRecDepth 100000 in
theorem wat_L_law_r9 : wsL_law_r9 = ([296, 297, 298, 299, 300, 301, 302, 303, 304, 305, 306, 307, 766, 767, 768, 769, 778, 770, 772, 16, 773, 774, 776, 17] : List Nat).filterMap (fun i => lw_tbl[i]?) := by decide +kernel
theorem win_L_law_r9 : ∀ w ∈ wsL_law_r9, w ∈ lw_tbl := fun w h => wat_mem (wat_L_law_r9 ▸ h)
set_option maxHeartbeats 8000000 in
set_option maxRecDepth 100000 in
theorem wat_L_law_r10 : wsL_law_r10 = ([777, 308, 309, 310, 311, 312, 313, 314, 315, 317, 318, 46, 319, 316, 320, 321, 322, 323, 325, 3, 326, 779, 780, 781] : List Nat).filterMap (fun i => lw_tbl[i]?) := by decide +kernel
theorem win_L_law_r10 : ∀ w ∈ wsL_law_r10, w ∈ lw_tbl := fun w h => wat_mem (wat_L_law_r10 ▸ h)
set_option maxHeartbeats 8000000 in
set_option maxRecDepth 100000 in
theorem wat_L_law_r11 : wsL_law_r11 = ([782, 783, 785, 18, 786, 787, 789, 19, 790, 791, 792, 793, 327, 328, 329, 330, 331, 332, 333, 334, 335, 336, 337, 338] : List Nat).filterMap (fun i => lw_tbl[i]?) := by decide +kernel
theorem win_L_law_r11 : ∀ w ∈ wsL_law_r11, w ∈ lw_tbl := fun w h => wat_mem (wat_L_law_r11 ▸ h)
set_option maxHeartbeats 8000000 in
set_option maxRecDepth 100000 in
theorem wat_L_law_r12 : wsL_law_r12 = ([339, 340, 47, 341, 342, 343, 344, 345, 346, 347, 348, 349, 350, 351, 352, 354, 355, 356, 357, 358, 359, 360, 361, 362] : List Nat).filterMap (fun i => lw_tbl[i]?) := by decide +kernel
theorem win_L_law_r12 : ∀ w ∈ wsL_law_r12, w ∈ lw_tbl := fun w h => wat_mem (wat_L_law_r12 ▸ h)
set_option maxHeartbeats 8000000 in
set_option maxRecDepth 100000 in
theorem wat_L_law_r13 : wsL_law_r13 = ([363, 364, 365, 366, 367, 369, 370, 371, 372, 373, 375, 376, 377, 378, 794, 795, 796, 797, 798, 800, 20, 801, 802, 804] : List Nat).filterMap (fun i => lw_tbl[i]?) := by decide +kernel
theorem win_L_law_r13 : ∀ w ∈ wsL_law_r13, w ∈ lw_tbl := fun w h => wat_mem (wat_L_law_r13 ▸ h)
set_option maxHeartbeats 8000000 in
set_option maxRecDepth 100000 in
theorem wat_L_law_r14 : wsL_law_r14 = ([21, 805, 806, 808, 22, 809, 810, 642, 811, 813, 23, 814, 815, 817, 24, 818, 819, 821, 25, 822, 823, 825, 26, 826] : List Nat).filterMap (fun i => lw_tbl[i]?) := by decide +kernel
theorem win_L_law_r14 : ∀ w ∈ wsL_law_r14, w ∈ lw_tbl := fun w h => wat_mem (wat_L_law_r14 ▸ h)
set_option maxHeartbeats 8000000 in
set_option maxRecDepth 100000 in
theorem wat_L_law_r15 : wsL_law_r15 = ([827, 829, 27, 830, 831, 832, 833, 379, 380, 381, 382, 383, 384, 385, 386, 387, 388, 389, 390, 391, 392, 393, 394, 395] : List Nat).filterMap (fun i => lw_tbl[i]?) := by decide +kernel
theorem win_L_law_r15 : ∀ w ∈ wsL_law_r15, w ∈ lw_tbl := fun w h => wat_mem (wat_L_law_r15 ▸ h)
set_option maxHeartbeats 8000000 in
set_option maxRecDepth 100000 in
theorem wat_L_law_r16 : wsL_law_r16 = ([396, 397, 834, 835, 836, 837, 398, 399, 400, 401, 838, 839, 840, 841, 402, 403, 404, 405, 842, 843, 844, 845, 406, 407] : List Nat).filterMap (fun i => lw_tbl[i]?) := by decide +kernel
theorem win_L_law_r16 : ∀ w ∈ wsL_law_r16, w ∈ lw_tbl := fun w h => wat_mem (wat_L_law_r16 ▸ h)
set_option maxHeartbeats 8000000 in
set_option maxRecDepth 100000 in
theorem wat_L_law_r17 : wsL_law_r17 = ([408, 409, 846, 847, 848, 849, 410, 411, 412, 413, 414, 416, 4, 417, 201, 850, 851, 852, 853, 854, 856, 28, 857, 632] : List Nat).filterMap (fun i => lw_tbl[i]?) := by decide +kernel
theorem win_L_law_r17 : ∀ w ∈ wsL_law_r17, w ∈ lw_tbl := fun w h => wat_mem (wat_L_law_r17 ▸ h)
set_option maxHeartbeats 8000000 in
set_option maxRecDepth 100000 in
theorem wat_L_law_r18 : wsL_law_r18 = ([418, 419, 420, 421, 858, 859, 860, 861, 422, 423, 424, 425, 426, 427, 428, 429, 430, 431, 862, 863, 864, 865, 432, 433] : List Nat).filterMap (fun i => lw_tbl[i]?) := by decide +kernel
theorem win_L_law_r18 : ∀ w ∈ wsL_law_r18, w ∈ lw_tbl := fun w h => wat_mem (wat_L_law_r18 ▸ h)
set_option maxHeartbeats 8000000 in
set_option maxRecDepth 100000 in
theorem wat_L_law_r19 : wsL_law_r19 = ([434, 435, 866, 867, 868, 869, 436, 437, 438, 439, 440, 870, 871, 872, 873, 441, 442, 443, 444, 445, 446, 874, 875, 876] : List Nat).filterMap (fun i => lw_tbl[i]?) := by decide +kernel
theorem win_L_law_r19 : ∀ w ∈ wsL_law_r19, w ∈ lw_tbl := fun w h => wat_mem (wat_L_law_r19 ▸ h)
set_option maxHeartbeats 8000000 in
set_option maxRecDepth 100000 in
theorem wat_L_law_r20 : wsL_law_r20 = ([877, 447, 448, 449, 450, 878, 879, 880, 881, 451, 452, 453, 454, 882, 883, 884, 885, 455, 456, 457, 458, 459, 460, 461] : List Nat).filterMap (fun i => lw_tbl[i]?) := by decide +kernel
theorem win_L_law_r20 : ∀ w ∈ wsL_law_r20, w ∈ lw_tbl := fun w h => wat_mem (wat_L_law_r20 ▸ h)
set_option maxHeartbeats 8000000 in
set_option maxRecDepth 100000 in
theorem wat_L_law_r21 : wsL_law_r21 = ([462, 463, 464, 465, 466, 71, 73, 75, 77, 72, 477, 468, 470, 5, 471, 79, 472, 474, 475, 478, 480, 6, 481, 482] : List Nat).filterMap (fun i => lw_tbl[i]?) := by decide +kernel
theorem win_L_law_r21 : ∀ w ∈ wsL_law_r21, w ∈ lw_tbl := fun w h => wat_mem (wat_L_law_r21 ▸ h)
set_option maxHeartbeats 8000000 in
set_option maxRecDepth 100000 in
theorem wat_L_law_r22 : wsL_law_r22 = ([484, 7, 485, 200, 890, 891, 892, 893, 894, 896, 29, 897, 898, 643, 652, 899, 901, 30, 902, 644, 645, 903, 905, 31] : List Nat).filterMap (fun i => lw_tbl[i]?) := by decide +kernel
theorem win_L_law_r22 : ∀ w ∈ wsL_law_r22, w ∈ lw_tbl := fun w h => wat_mem (wat_L_law_r22 ▸ h)
set_option maxHeartbeats 8000000 in
set_option maxRecDepth 100000 in
theorem wat_L_law_r23 : wsL_law_r23 = ([906, 907, 909, 32, 910, 486, 487, 488, 489, 911, 912, 913, 914, 490, 491, 492, 493, 915, 916, 917, 918, 494, 495, 496] : List Nat).filterMap (fun i => lw_tbl[i]?) := by decide +kernel
theorem win_L_law_r23 : ∀ w ∈ wsL_law_r23, w ∈ lw_tbl := fun w h => wat_mem (wat_L_law_r23 ▸ h)
set_option maxHeartbeats 8000000 in
set_option maxRecDepth 100000 in
theorem wat_L_law_r24 : wsL_law_r24 = ([497, 919, 920, 921, 922, 498, 499, 500, 501, 502, 503, 504, 505, 886, 887, 888, 889, 506, 507, 508, 509, 510, 511, 48] : List Nat).filterMap (fun i => lw_tbl[i]?) := by decide +kernel
theorem win_L_law_r24 : ∀ w ∈ wsL_law_r24, w ∈ lw_tbl := fun w h => wat_mem (wat_L_law_r24 ▸ h)
set_option maxHeartbeats 8000000 in
set_option maxRecDepth 100000 in
theorem wat_L_law_r25 : wsL_law_r25 = ([512, 514, 515, 516, 517, 518, 519, 520, 521, 522, 523, 524, 525, 526, 527, 46, 528, 923, 924, 925, 926, 927, 929, 33] : List Nat).filterMap (fun i => lw_tbl[i]?) := by decide +kernel
theorem win_L_law_r25 : ∀ w ∈ wsL_law_r25, w ∈ lw_tbl := fun w h => wat_mem (wat_L_law_r25 ▸ h)
set_option maxHeartbeats 8000000 in
set_option maxRecDepth 100000 in
theorem wat_L_law_r26 : wsL_law_r26 = ([930, 931, 933, 34, 934, 529, 530, 531, 532, 198, 562, 564, 563, 49, 533, 534, 535, 536, 113, 115, 117, 112, 556, 537] : List Nat).filterMap (fun i => lw_tbl[i]?) := by decide +kernel
theorem win_L_law_r26 : ∀ w ∈ wsL_law_r26, w ∈ lw_tbl := fun w h => wat_mem (wat_L_law_r26 ▸ h)
set_option maxHeartbeats 8000000 in
set_option maxRecDepth 100000 in
theorem wat_L_law_r27 : wsL_law_r27 = ([539, 8, 540, 541, 543, 9, 544, 554, 546, 548, 10, 549, 551, 552, 553, 555, 557, 559, 11, 560, 935, 936, 937, 938] : List Nat).filterMap (fun i => lw_tbl[i]?) := by decide +kernel
theorem win_L_law_r27 : ∀ w ∈ wsL_law_r27, w ∈ lw_tbl := fun w h => wat_mem (wat_L_law_r27 ▸ h)
set_option maxHeartbeats 8000000 in
set_option maxRecDepth 100000 in
theorem wat_L_law_r28 : wsL_law_r28 = ([939, 941, 35, 942, 943, 945, 36, 946, 565, 566, 567, 568, 947, 948, 949, 950, 569, 570, 571, 572, 573, 574, 575, 576] : List Nat).filterMap (fun i => lw_tbl[i]?) := by decide +kernel
theorem win_L_law_r28 : ∀ w ∈ wsL_law_r28, w ∈ lw_tbl := fun w h => wat_mem (wat_L_law_r28 ▸ h)
set_option maxHeartbeats 8000000 in
set_option maxRecDepth 100000 in
theorem wat_L_law_r29 : wsL_law_r29 = ([951, 952, 953, 954, 577, 578, 579, 580, 955, 956, 957, 958, 581, 582, 583, 584, 959, 960, 961, 962, 963, 965, 37, 966] : List Nat).filterMap (fun i => lw_tbl[i]?) := by decide +kernel
theorem win_L_law_r29 : ∀ w ∈ wsL_law_r29, w ∈ lw_tbl := fun w h => wat_mem (wat_L_law_r29 ▸ h)
set_option maxHeartbeats 8000000 in
set_option maxRecDepth 100000 in
theorem wat_L_law_r30 : wsL_law_r30 = ([585, 586, 587, 588, 967, 968, 969, 970, 589, 590, 591, 592, 593, 595, 12, 596, 971, 972, 973, 974, 597, 598, 599, 600] : List Nat).filterMap (fun i => lw_tbl[i]?) := by decide +kernel
theorem win_L_law_r30 : ∀ w ∈ wsL_law_r30, w ∈ lw_tbl := fun w h => wat_mem (wat_L_law_r30 ▸ h)
set_option maxHeartbeats 8000000 in
set_option maxRecDepth 100000 in
theorem wat_L_law_r31 : wsL_law_r31 = ([975, 976, 977, 978, 601, 602, 603, 604, 979, 980, 981, 982, 605, 606, 607, 608, 983, 984, 985, 986, 609, 610, 611, 612] : List Nat).filterMap (fun i => lw_tbl[i]?) := by decide +kernel
theorem win_L_law_r31 : ∀ w ∈ wsL_law_r31, w ∈ lw_tbl := fun w h => wat_mem (wat_L_law_r31 ▸ h)
set_option maxHeartbeats 8000000 in
set_option maxRecDepth 100000 in
theorem wat_L_law_r32 : wsL_law_r32 = ([987, 988, 989, 990, 613, 614, 615, 616, 617, 623, 618, 619, 620, 621, 622, 991, 992, 993, 994, 995, 996] : List Nat).filterMap (fun i => lw_tbl[i]?) := by decide +kernel
theorem win_L_law_r32 : ∀ w ∈ wsL_law_r32, w ∈ lw_tbl := fun w h => wat_mem (wat_L_law_r32 ▸ h)
set_option maxHeartbeats 8000000 in
set_option maxRecDepth 100000 in
theorem wat_X60 : wsX60 = ([202, 204, 206, 208, 210, 212, 214, 216, 218, 220, 222, 224, 226] : List Nat).filterMap (fun i => lw_tbl[i]?) := by decide +kernel
theorem win_X60 : ∀ w ∈ wsX60, w ∈ lw_tbl := fun w h => wat_mem (wat_X60 ▸ h)
set_option maxHeartbeats 8000000 in
set_option maxRecDepth 100000 in
theorem wat_X70 : wsX70 = ([663, 665, 667, 669, 671, 673, 675, 677, 679, 681, 683, 685, 687, 689, 691, 693, 695, 697, 699, 701, 703, 705, 707, 709, 711, 713, 715, 717, 719, 721, 723, 725, 727] : List Nat).filterMap (fun i => lw_tbl[i]?) := by decide +kernel
theorem win_X70 : ∀ w ∈ wsX70, w ∈ lw_tbl := fun w h => wat_mem (wat_X70 ▸ h)
set_option maxHeartbeats 8000000 in
set_option maxRecDepth 100000 in
theorem wat_X40 : wsX40 = ([81, 83, 85, 87, 89, 91, 93, 95, 97] : List Nat).filterMap (fun i => lw_tbl[i]?) := by decide +kernel
theorem win_X40 : ∀ w ∈ wsX40, w ∈ lw_tbl := fun w h => wat_mem (wat_X40 ▸ h)
set_option maxHeartbeats 8000000 in
set_option maxRecDepth 100000 in
theorem wat_X20 : wsX20 = ([119, 121, 123, 125, 127, 129, 131] : List Nat).filterMap (fun i => lw_tbl[i]?) := by decide +kernel
theorem win_X20 : ∀ w ∈ wsX20, w ∈ lw_tbl := fun w h => wat_mem (wat_X20 ▸ h)
set_option maxHeartbeats 8000000 in
set_option maxRecDepth 100000 in
theorem wat_X50 : wsX50 = ([172, 174, 176, 178, 180, 182, 184, 186] : List Nat).filterMap (fun i => lw_tbl[i]?) := by decide +kernel
theorem win_X50 : ∀ w ∈ wsX50, w ∈ lw_tbl := fun w h => wat_mem (wat_X50 ▸ h)
theorem wsL_law_in : ∀ w ∈ wsL_law, w ∈ lw_tbl := List.forall_mem_append.mpr ⟨List.forall_mem_append.mpr ⟨List.forall_mem_append.mpr ⟨List.forall_mem_append.mpr ⟨List.forall_mem_append.mpr ⟨List.forall_mem_append.mpr ⟨List.forall_mem_append.mpr ⟨win_L_law_r1, List.forall_mem_append.mpr ⟨win_L_law_r2, List.forall_mem_append.mpr ⟨win_L_law_r3, List.forall_mem_append.mpr ⟨win_L_law_r4, List.forall_mem_append.mpr ⟨win_L_law_r5, List.forall_mem_append.mpr ⟨win_L_law_r6, List.forall_mem_append.mpr ⟨win_L_law_r7, List.forall_mem_append.mpr ⟨win_L_law_r8, List.forall_mem_append.mpr ⟨win_L_law_r9, List.forall_mem_append.mpr ⟨win_L_law_r10, List.forall_mem_append.mpr ⟨win_L_law_r11, List.forall_mem_append.mpr ⟨win_L_law_r12, List.forall_mem_append.mpr ⟨win_L_law_r13, List.forall_mem_append.mpr ⟨win_L_law_r14, List.forall_mem_append.mpr ⟨win_L_law_r15, List.forall_mem_append.mpr ⟨win_L_law_r16, List.forall_mem_append.mpr ⟨win_L_law_r17, List.forall_mem_append.mpr ⟨win_L_law_r18, List.forall_mem_append.mpr ⟨win_L_law_r19, List.forall_mem_append.mpr ⟨win_L_law_r20, List.forall_mem_append.mpr ⟨win_L_law_r21, List.forall_mem_append.mpr ⟨win_L_law_r22, List.forall_mem_append.mpr ⟨win_L_law_r23, List.forall_mem_append.mpr ⟨win_L_law_r24, List.forall_mem_append.mpr ⟨win_L_law_r25, List.forall_mem_append.mpr ⟨win_L_law_r26, List.forall_mem_append.mpr ⟨win_L_law_r27, List.forall_mem_append.mpr ⟨win_L_law_r28, List.forall_mem_append.mpr ⟨win_L_law_r29, List.forall_mem_append.mpr ⟨win_L_law_r30, List.forall_mem_append.mpr ⟨win_L_law_r31, win_L_law_r32⟩⟩⟩⟩⟩⟩⟩⟩⟩⟩⟩⟩⟩⟩⟩⟩⟩⟩⟩⟩⟩⟩⟩⟩⟩⟩⟩⟩⟩⟩⟩, win_X60⟩, win_X70⟩, win_X40⟩, win_X20⟩, win_X50⟩, fun _ h => absurd h List.not_mem_nil⟩
set_option maxHeartbeats 8000000 in
set_option maxRecDepth 100000 in
theorem vNw_at : vNw = ([64, 74, 76, 78, 80, 104, 109, 114, 116, 118, 135, 140, 141, 142, 143, 144, 146, 147, 148, 149, 151, 152, 153, 155, 157, 159, 161, 162, 163, 164, 165, 166, 168, 169, 170, 171, 273, 284, 353, 368, 374, 467, 473, 476, 513, 545, 550, 561] : List Nat).filterMap (fun i => lw_tbl[i]?) := by decide +kernel
theorem vNw_in : ∀ w ∈ vNw, w ∈ lw_tbl := fun w h => by
  rw [vNw_at] at h
  obtain ⟨i, -, hi⟩ := List.mem_filterMap.mp h
  exact List.mem_of_getElem? hi
theorem vNw_tb {w : Cond} (h : w ∈ vNw) : w.onTables = true := by
  rcases vNw_k w h with ⟨a, i, b, n, d, q, rfl⟩ | ⟨a, i, x, q, rfl⟩ <;> rfl
theorem ov_W : Cond.arrayOver (.object "QuadWorlds$World") ∈ lw_tbl := List.mem_of_getElem? (i := 59) (by decide +kernel)
theorem ov_A : Cond.arrayOver (.array .int) ∈ lw_tbl := List.mem_of_getElem? (i := 61) (by decide +kernel)
theorem inlX2 : ∀ w ∈ wsX20, w ∈ wsL_law := fun _ h => List.mem_append_left _ (List.mem_append_left _ (List.mem_append_right _ h))
theorem inlX4 : ∀ w ∈ wsX40, w ∈ wsL_law := fun _ h => List.mem_append_left _ (List.mem_append_left _ (List.mem_append_left _ (List.mem_append_right _ h)))
theorem inlX5 : ∀ w ∈ wsX50, w ∈ wsL_law := fun _ h => List.mem_append_left _ (List.mem_append_right _ h)
theorem inlX6 : ∀ w ∈ wsX60, w ∈ wsL_law := fun _ h => List.mem_append_left _ (List.mem_append_left _ (List.mem_append_left _ (List.mem_append_left _ (List.mem_append_left _ (List.mem_append_right _ h)))))
theorem inlX7 : ∀ w ∈ wsX70, w ∈ wsL_law := fun _ h => List.mem_append_left _ (List.mem_append_left _ (List.mem_append_left _ (List.mem_append_left _ (List.mem_append_right _ h))))

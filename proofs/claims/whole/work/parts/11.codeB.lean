def kX7_init_0 : List mI := [(0, .aload_n 0, 0, 0, 0, 0, 0, m0), (1, .invokespecial 1, 1, 0, 0, 0, 102, m0), (4, .aload_n 0, 0, 0, 0, 0, 0, m0), (5, .new 7, 2, 6, 202, 2853, 105, m0), (8, .dup, 0, 0, 0, 0, 0, m0), (9, .invokespecial 9, 0, 0, 1, 120, 107, mX2_init), (12, .putfield 10, 7, 0, 3, 1, 310, m0), (15, .aload_n 0, 0, 0, 0, 0, 0, m0), (16, .new 16, 5, 11, 202, 2853, 132, m0), (19, .dup, 0, 0, 0, 0, 0, m0), (20, .invokespecial 18, 0, 0, 6, 44, 134, mX5_init), (23, .putfield 19, 7, 1, 3, 0, 311, m0), (26, .aload_n 0, 0, 0, 0, 0, 0, m0), (27, .new 16, 5, 11, 202, 2853, 132, m0), (30, .dup, 0, 0, 0, 0, 0, m0), (31, .invokespecial 18, 0, 0, 6, 44, 134, mX5_init), (34, .putfield 23, 7, 2, 3, 0, 312, m0), (37, .aload_n 0, 0, 0, 0, 0, 0, m0), (38, .new 26, 4, 3, 202, 2853, 209, m0), (41, .dup, 0, 0, 0, 0, 0, m0), (42, .invokespecial 28, 0, 0, 56, 505, 211, mX4_init), (45, .putfield 29, 7, 3, 3, 1, 313, m0), (48, .aload_n 0, 0, 0, 0, 0, 0, m0), (49, .iconst 2, 2, 0, 0, 0, 0, m0), (50, .anewarray 26, 5, 2, 202, 2853, 209, m0), (53, .putfield 33, 7, 4, 3, 1, 314, m0), (56, .aload_n 0, 0, 0, 0, 0, 0, m0), (57, .iconst 2, 2, 0, 0, 0, 0, m0), (58, .newarray .boolean, 1, 2, 202, 2853, 0, m0), (60, .putfield 37, 7, 5, 3, 1, 315, m0), (63, .aload_n 0, 0, 0, 0, 0, 0, m0), (64, .new 41, 0, 3, 202, 2853, 256, m0), (67, .dup, 0, 0, 0, 0, 0, m0), (68, .invokespecial 43, 0, 0, 2, 8, 258, mX0_init), (71, .putfield 44, 7, 6, 3, 1, 316, m0), (74, .aload_n 0, 0, 0, 0, 0, 0, m0), (75, .new 48, 1, 6, 202, 2853, 274, m0), (78, .dup, 0, 0, 0, 0, 0, m0), (79, .invokespecial 50, 0, 0, 6, 1055, 276, mX1_init), (82, .putfield 51, 7, 7, 3, 1, 317, m0), (85, .aload_n 0, 0, 0, 0, 0, 0, m0), (86, .new 55, 6, 1, 202, 2853, 299, m0), (89, .dup, 0, 0, 0, 0, 0, m0), (90, .invokespecial 57, 0, 0, 1, 5, 301, mX6_init), (93, .putfield 58, 7, 8, 3, 1, 318, m0), (96, .aload_n 0, 0, 0, 0, 0, 0, m0), (97, .bipush 11, 11, 0, 0, 0, 0, m0), (99, .newarray .long, 3, 11, 202, 2853, 0, m0), (101, .putfield 62, 7, 9, 3, 1, 319, m0), (104, .aload_n 0, 0, 0, 0, 0, 0, m0), (105, .lconst 0, 0, 0, 0, 0, 0, m0), (106, .putfield 66, 7, 10, 2, 0, 320, m0), (109, .iconst 0, 0, 0, 0, 0, 0, m0), (110, .istore_n 1, 0, 0, 0, 0, 0, m0)]
theorem oX7_init_0 : okB mX7_init 111 kX7_init_0 0 = true := by decide +kernel
def kX7_init_111 : List mI := [(111, .iload_n 1, 0, 0, 0, 0, 0, m0), (112, .iconst 2, 2, 0, 0, 0, 0, m0), (113, .if_icmp .ge 22, 135, 0, 0, 0, 0, m0), (116, .aload_n 0, 0, 0, 0, 0, 0, m0), (117, .getfield 33, 7, 4, 0, 0, 314, m0), (120, .iload_n 1, 0, 0, 0, 0, 0, m0), (121, .new 26, 4, 3, 202, 2853, 209, m0), (124, .dup, 0, 0, 0, 0, 0, m0), (125, .invokespecial 28, 0, 0, 56, 505, 211, mX4_init), (128, .aastore, 5, 4, 0, 0, 0, m0), (129, .iinc 1 1, 1, 0, 0, 0, 0, m0), (132, .goto (-21), 111, 0, 0, 0, 0, m0)]
theorem oX7_init_111 : okB mX7_init 135 kX7_init_111 111 = true := by decide +kernel
def kX7_init_135 : List mI := [(135, .return_, 0, 0, 202, 0, 0, m0)]
theorem oX7_init_135 : okB mX7_init 136 kX7_init_135 135 = true := by decide +kernel
def kX7_type_0 : List mI := [(0, .iload_n 1, 0, 0, 0, 0, 0, m0), (1, .ifCond .lt 10, 11, 0, 0, 0, 0, m0), (4, .iload_n 1, 0, 0, 0, 0, 0, m0), (5, .sipush 255, 255, 0, 0, 0, 0, m0), (8, .if_icmp .le 5, 13, 0, 0, 0, 0, m0)]
theorem oX7_type_0 : okB mX7_type 11 kX7_type_0 0 = true := by decide +kernel
def kX7_type_11 : List mI := [(11, .iconst (-1), 1, 1, 0, 0, 0, m0), (12, .ireturn, 0, 0, 0, 0, 0, m0)]
theorem oX7_type_11 : okB mX7_type 13 kX7_type_11 11 = true := by decide +kernel
def kX7_type_13 : List mI := [(13, .aload_n 0, 0, 0, 0, 0, 0, m0), (14, .getfield 10, 7, 0, 0, 0, 310, m0), (17, .getfield 70, 2, 1, 0, 0, 113, m0), (20, .bipush 120, 120, 0, 0, 0, 0, m0), (22, .if_icmp .lt 6, 28, 0, 0, 0, 0, m0), (25, .bipush (-3), 3, 1, 0, 0, 0, m0), (27, .ireturn, 0, 0, 0, 0, 0, m0)]
theorem oX7_type_13 : okB mX7_type 28 kX7_type_13 13 = true := by decide +kernel
def kX7_type_28 : List mI := [(28, .aload_n 0, 0, 0, 0, 0, 0, m0), (29, .getfield 10, 7, 0, 0, 0, 310, m0), (32, .iload_n 1, 0, 0, 0, 0, 0, m0), (33, .invokevirtual 74, 2, 1, 0, 0, 349, mX2_add), (36, .aload_n 0, 0, 0, 0, 0, 0, m0), (37, .getfield 10, 7, 0, 0, 0, 310, m0), (40, .getfield 70, 2, 1, 0, 0, 113, m0), (43, .ireturn, 0, 0, 0, 0, 0, m0)]
theorem oX7_type_28 : okB mX7_type 44 kX7_type_28 28 = true := by decide +kernel
def kX7_clear_0 : List mI := [(0, .aload_n 0, 0, 0, 0, 0, 0, m0), (1, .getfield 10, 7, 0, 0, 0, 310, m0), (4, .getfield 70, 2, 1, 0, 0, 113, m0), (7, .istore_n 1, 0, 0, 0, 0, 0, m0), (8, .aload_n 0, 0, 0, 0, 0, 0, m0), (9, .getfield 10, 7, 0, 0, 0, 310, m0), (12, .iconst 0, 0, 0, 0, 0, 0, m0), (13, .putfield 70, 2, 1, 0, 0, 113, m0), (16, .iload_n 1, 0, 0, 0, 0, 0, m0), (17, .ireturn, 0, 0, 0, 0, 0, m0)]
theorem oX7_clear_0 : okB mX7_clear 18 kX7_clear_0 0 = true := by decide +kernel
def kX7_chapter_0 : List mI := [(0, .aload_n 0, 0, 0, 0, 0, 0, m0), (1, .getfield 10, 7, 0, 0, 0, 310, m0), (4, .aload_n 0, 0, 0, 0, 0, 0, m0), (5, .getfield 23, 7, 2, 0, 0, 312, m0), (8, .invokevirtual 78, 2, 1, 0, 0, 361, mX2_read), (11, .istore_n 1, 0, 0, 0, 0, 0, m0), (12, .iload_n 1, 0, 0, 0, 0, 0, m0), (13, .ifCond .ge 5, 18, 0, 0, 0, 0, m0), (16, .iload_n 1, 0, 0, 0, 0, 0, m0), (17, .ireturn, 0, 0, 0, 0, 0, m0)]
theorem oX7_chapter_0 : okB mX7_chapter 18 kX7_chapter_0 0 = true := by decide +kernel
def kX7_chapter_18 : List mI := [(18, .aload_n 0, 0, 0, 0, 0, 0, m0), (19, .getfield 19, 7, 1, 0, 0, 311, m0), (22, .astore_n 2, 0, 0, 0, 0, 0, m0), (23, .aload_n 0, 0, 0, 0, 0, 0, m0), (24, .aload_n 0, 0, 0, 0, 0, 0, m0), (25, .getfield 23, 7, 2, 0, 0, 312, m0), (28, .putfield 19, 7, 1, 3, 0, 311, m0), (31, .aload_n 0, 0, 0, 0, 0, 0, m0), (32, .aload_n 2, 0, 0, 0, 0, 0, m0), (33, .putfield 23, 7, 2, 3, 0, 312, m0), (36, .aload_n 0, 0, 0, 0, 0, 0, m0), (37, .getfield 10, 7, 0, 0, 0, 310, m0), (40, .iconst 0, 0, 0, 0, 0, 0, m0), (41, .putfield 70, 2, 1, 0, 0, 113, m0), (44, .aload_n 0, 0, 0, 0, 0, 0, m0), (45, .getfield 29, 7, 3, 0, 0, 313, m0), (48, .aload_n 0, 0, 0, 0, 0, 0, m0), (49, .getfield 19, 7, 1, 0, 0, 311, m0), (52, .invokevirtual 82, 4, 1, 0, 0, 418, mX4_begin), (55, .aload_n 0, 0, 0, 0, 0, 0, m0), (56, .getfield 44, 7, 6, 0, 0, 316, m0), (59, .iconst 0, 0, 0, 0, 0, 0, m0), (60, .putfield 86, 0, 0, 0, 0, 263, m0), (63, .iconst 0, 0, 0, 0, 0, 0, m0), (64, .istore_n 3, 0, 0, 0, 0, 0, m0)]
theorem oX7_chapter_18 : okB mX7_chapter 65 kX7_chapter_18 18 = true := by decide +kernel
def kX7_chapter_65 : List mI := [(65, .iload_n 3, 0, 0, 0, 0, 0, m0), (66, .iconst 2, 2, 0, 0, 0, 0, m0), (67, .if_icmp .ge 16, 83, 0, 0, 0, 0, m0), (70, .aload_n 0, 0, 0, 0, 0, 0, m0), (71, .getfield 37, 7, 5, 0, 0, 315, m0), (74, .iload_n 3, 0, 0, 0, 0, 0, m0), (75, .iconst 0, 0, 0, 0, 0, 0, m0), (76, .bastore, 1, 0, 0, 0, 0, m0), (77, .iinc 3 1, 1, 0, 0, 0, 0, m0), (80, .goto (-15), 65, 0, 0, 0, 0, m0)]
theorem oX7_chapter_65 : okB mX7_chapter 83 kX7_chapter_65 65 = true := by decide +kernel
def kX7_chapter_83 : List mI := [(83, .iload_n 1, 0, 0, 0, 0, 0, m0), (84, .ireturn, 0, 0, 0, 0, 0, m0)]
theorem oX7_chapter_83 : okB mX7_chapter 85 kX7_chapter_83 83 = true := by decide +kernel
def kX7_brick_0 : List mI := [(0, .aload_n 0, 0, 0, 0, 0, 0, m0), (1, .iload_n 1, 0, 0, 0, 0, 0, m0), (2, .invokevirtual 89, 7, 1, 0, 0, 434, mX7_noBrick), (5, .ifCond .eq 5, 10, 0, 0, 0, 0, m0), (8, .iconst (-1), 1, 1, 0, 0, 0, m0), (9, .ireturn, 0, 0, 0, 0, 0, m0)]
theorem oX7_brick_0 : okB mX7_brick 10 kX7_brick_0 0 = true := by decide +kernel
def kX7_brick_10 : List mI := [(10, .iload_n 2, 0, 0, 0, 0, 0, m0), (11, .tableswitch 123 0 5 #[37, 47, 57, 70, 83, 117], 0, 0, 0, 0, 0, m0)]
theorem oX7_brick_10 : okB mX7_brick 48 kX7_brick_10 10 = true := by decide +kernel
def kX7_brick_48 : List mI := [(48, .aload_n 0, 0, 0, 0, 0, 0, m0), (49, .getfield 19, 7, 1, 0, 0, 311, m0), (52, .getfield 93, 5, 6, 0, 0, 170, m0), (55, .iload_n 1, 0, 0, 0, 0, 0, m0), (56, .iaload, 0, 0, 0, 0, 0, m0), (57, .ireturn, 0, 0, 0, 0, 0, m0)]
theorem oX7_brick_48 : okB mX7_brick 58 kX7_brick_48 48 = true := by decide +kernel
def kX7_brick_58 : List mI := [(58, .aload_n 0, 0, 0, 0, 0, 0, m0), (59, .getfield 19, 7, 1, 0, 0, 311, m0), (62, .getfield 97, 5, 7, 0, 0, 173, m0), (65, .iload_n 1, 0, 0, 0, 0, 0, m0), (66, .iaload, 0, 0, 0, 0, 0, m0), (67, .ireturn, 0, 0, 0, 0, 0, m0)]
theorem oX7_brick_58 : okB mX7_brick 68 kX7_brick_58 58 = true := by decide +kernel
def kX7_brick_68 : List mI := [(68, .aload_n 0, 0, 0, 0, 0, 0, m0), (69, .getfield 29, 7, 3, 0, 0, 313, m0), (72, .getfield 100, 4, 0, 0, 0, 244, m0), (75, .getfield 104, 3, 2, 0, 0, 226, m0), (78, .iload_n 1, 0, 0, 0, 0, 0, m0), (79, .iaload, 0, 0, 0, 0, 0, m0), (80, .ireturn, 0, 0, 0, 0, 0, m0)]
theorem oX7_brick_68 : okB mX7_brick 81 kX7_brick_68 68 = true := by decide +kernel
def kX7_brick_81 : List mI := [(81, .aload_n 0, 0, 0, 0, 0, 0, m0), (82, .getfield 29, 7, 3, 0, 0, 313, m0), (85, .getfield 100, 4, 0, 0, 0, 244, m0), (88, .getfield 109, 3, 1, 0, 0, 224, m0), (91, .iload_n 1, 0, 0, 0, 0, 0, m0), (92, .iaload, 0, 0, 0, 0, 0, m0), (93, .ireturn, 0, 0, 0, 0, 0, m0)]
theorem oX7_brick_81 : okB mX7_brick 94 kX7_brick_81 81 = true := by decide +kernel
def kX7_brick_94 : List mI := [(94, .aload_n 0, 0, 0, 0, 0, 0, m0), (95, .getfield 29, 7, 3, 0, 0, 313, m0), (98, .getfield 100, 4, 0, 0, 0, 244, m0), (101, .getfield 109, 3, 1, 0, 0, 224, m0), (104, .iload_n 1, 0, 0, 0, 0, 0, m0), (105, .iaload, 0, 0, 0, 0, 0, m0), (106, .iconst 4, 4, 0, 0, 0, 0, m0), (107, .if_icmp .ne 18, 125, 0, 0, 0, 0, m0), (110, .aload_n 0, 0, 0, 0, 0, 0, m0), (111, .getfield 29, 7, 3, 0, 0, 313, m0), (114, .getfield 100, 4, 0, 0, 0, 244, m0), (117, .getfield 112, 3, 3, 0, 0, 228, m0), (120, .iload_n 1, 0, 0, 0, 0, 0, m0), (121, .iaload, 0, 0, 0, 0, 0, m0), (122, .goto 5, 127, 0, 0, 0, 0, m0)]
theorem oX7_brick_94 : okB mX7_brick 125 kX7_brick_94 94 = true := by decide +kernel
def kX7_brick_125 : List mI := [(125, .bipush (-9), 9, 1, 0, 0, 0, m0)]
theorem oX7_brick_125 : okB mX7_brick 127 kX7_brick_125 125 = true := by decide +kernel
def kX7_brick_127 : List mI := [(127, .ireturn, 0, 0, 0, 0, 0, m0)]
theorem oX7_brick_127 : okB mX7_brick 128 kX7_brick_127 127 = true := by decide +kernel
def kX7_brick_128 : List mI := [(128, .aload_n 0, 0, 0, 0, 0, 0, m0), (129, .iload_n 1, 0, 0, 0, 0, 0, m0), (130, .invokevirtual 115, 7, 1, 0, 0, 438, mX7_fits), (133, .ireturn, 0, 0, 0, 0, 0, m0)]
theorem oX7_brick_128 : okB mX7_brick 134 kX7_brick_128 128 = true := by decide +kernel
def kX7_brick_134 : List mI := [(134, .iconst (-1), 1, 1, 0, 0, 0, m0), (135, .ireturn, 0, 0, 0, 0, 0, m0)]
theorem oX7_brick_134 : okB mX7_brick 136 kX7_brick_134 134 = true := by decide +kernel
def kX7_place_0 : List mI := [(0, .aload_n 0, 0, 0, 0, 0, 0, m0), (1, .iload_n 1, 0, 0, 0, 0, 0, m0), (2, .invokevirtual 119, 7, 1, 0, 0, 453, mX7_noColumn), (5, .ifCond .ne 18, 23, 0, 0, 0, 0, m0), (8, .iload_n 2, 0, 0, 0, 0, 0, m0), (9, .ifCond .lt 14, 23, 0, 0, 0, 0, m0), (12, .iload_n 2, 0, 0, 0, 0, 0, m0), (13, .aload_n 0, 0, 0, 0, 0, 0, m0), (14, .getfield 19, 7, 1, 0, 0, 311, m0), (17, .getfield 122, 5, 1, 0, 0, 151, m0), (20, .if_icmp .lt 5, 25, 0, 0, 0, 0, m0)]
theorem oX7_place_0 : okB mX7_place 23 kX7_place_0 0 = true := by decide +kernel
def kX7_place_23 : List mI := [(23, .iconst (-1), 1, 1, 0, 0, 0, m0), (24, .ireturn, 0, 0, 0, 0, 0, m0)]
theorem oX7_place_23 : okB mX7_place 25 kX7_place_23 23 = true := by decide +kernel
def kX7_place_25 : List mI := [(25, .aload_n 0, 0, 0, 0, 0, 0, m0), (26, .getfield 29, 7, 3, 0, 0, 313, m0), (29, .getfield 100, 4, 0, 0, 0, 244, m0), (32, .iload_n 1, 0, 0, 0, 0, 0, m0), (33, .iload_n 2, 0, 0, 0, 0, 0, m0), (34, .invokevirtual 125, 3, 2, 0, 0, 457, mX3_brickAt), (37, .ireturn, 0, 0, 0, 0, 0, m0)]
theorem oX7_place_25 : okB mX7_place 38 kX7_place_25 25 = true := by decide +kernel
def kX7_kin_0 : List mI := [(0, .iload_n 1, 0, 0, 0, 0, 0, m0), (1, .invokestatic 129, 0, 1, 0, 0, 465, mX7_noHolder), (4, .ifCond .eq 7, 11, 0, 0, 0, 0, m0), (7, .iconst (-1), 1, 1, 0, 0, 0, m0), (8, .goto 12, 20, 0, 0, 0, 0, m0)]
theorem oX7_kin_0 : okB mX7_kin 11 kX7_kin_0 0 = true := by decide +kernel
def kX7_kin_11 : List mI := [(11, .aload_n 0, 0, 0, 0, 0, 0, m0), (12, .getfield 19, 7, 1, 0, 0, 311, m0), (15, .getfield 132, 5, 5, 0, 0, 167, m0), (18, .iload_n 1, 0, 0, 0, 0, 0, m0), (19, .iaload, 0, 0, 0, 0, 0, m0)]
theorem oX7_kin_11 : okB mX7_kin 20 kX7_kin_11 11 = true := by decide +kernel
def kX7_kin_20 : List mI := [(20, .ireturn, 0, 0, 0, 0, 0, m0)]
theorem oX7_kin_20 : okB mX7_kin 21 kX7_kin_20 20 = true := by decide +kernel
def kX7_judge_0 : List mI := [(0, .aload_n 0, 0, 0, 0, 0, 0, m0), (1, .iload_n 1, 0, 0, 0, 0, 0, m0), (2, .invokevirtual 135, 7, 1, 0, 0, 472, mX7_noJudge), (5, .ifCond .ne 12, 17, 0, 0, 0, 0, m0), (8, .iload_n 2, 0, 0, 0, 0, 0, m0), (9, .ifCond .lt 8, 17, 0, 0, 0, 0, m0), (12, .iload_n 2, 0, 0, 0, 0, 0, m0), (13, .iconst 1, 1, 0, 0, 0, 0, m0), (14, .if_icmp .le 5, 19, 0, 0, 0, 0, m0)]
theorem oX7_judge_0 : okB mX7_judge 17 kX7_judge_0 0 = true := by decide +kernel
def kX7_judge_17 : List mI := [(17, .iconst (-1), 1, 1, 0, 0, 0, m0), (18, .ireturn, 0, 0, 0, 0, 0, m0)]
theorem oX7_judge_17 : okB mX7_judge 19 kX7_judge_17 17 = true := by decide +kernel
def kX7_judge_19 : List mI := [(19, .iload_n 2, 0, 0, 0, 0, 0, m0), (20, .ifCond .ne 15, 35, 0, 0, 0, 0, m0), (23, .aload_n 0, 0, 0, 0, 0, 0, m0), (24, .getfield 19, 7, 1, 0, 0, 311, m0), (27, .getfield 138, 5, 9, 0, 0, 182, m0), (30, .iload_n 1, 0, 0, 0, 0, 0, m0), (31, .iaload, 0, 0, 0, 0, 0, m0), (32, .goto 8, 40, 0, 0, 0, 0, m0)]
theorem oX7_judge_19 : okB mX7_judge 35 kX7_judge_19 19 = true := by decide +kernel
def kX7_judge_35 : List mI := [(35, .aload_n 0, 0, 0, 0, 0, 0, m0), (36, .iload_n 1, 0, 0, 0, 0, 0, m0), (37, .invokevirtual 141, 7, 1, 0, 0, 476, mX7_wouldHold)]
theorem oX7_judge_35 : okB mX7_judge 40 kX7_judge_35 35 = true := by decide +kernel
def kX7_judge_40 : List mI := [(40, .ireturn, 0, 0, 0, 0, 0, m0)]
theorem oX7_judge_40 : okB mX7_judge 41 kX7_judge_40 40 = true := by decide +kernel
def kX7_prompts_0 : List mI := [(0, .iload_n 1, 0, 0, 0, 0, 0, m0), (1, .invokestatic 129, 0, 1, 0, 0, 465, mX7_noHolder), (4, .ifCond .eq 5, 9, 0, 0, 0, 0, m0), (7, .iconst (-1), 1, 1, 0, 0, 0, m0), (8, .ireturn, 0, 0, 0, 0, 0, m0)]
theorem oX7_prompts_0 : okB mX7_prompts 9 kX7_prompts_0 0 = true := by decide +kernel
def kX7_prompts_9 : List mI := [(9, .aload_n 0, 0, 0, 0, 0, 0, m0), (10, .getfield 29, 7, 3, 0, 0, 313, m0), (13, .invokevirtual 144, 4, 0, 0, 0, 488, mX4_remember), (16, .aload_n 0, 0, 0, 0, 0, 0, m0), (17, .getfield 19, 7, 1, 0, 0, 311, m0), (20, .iconst 1, 1, 0, 0, 0, 0, m0), (21, .iload_n 1, 0, 0, 0, 0, 0, m0), (22, .ishl, 0, 0, 0, 0, 0, m0), (23, .invokevirtual 147, 5, 1, 0, 0, 500, mX5_reach), (26, .istore_n 2, 0, 0, 0, 0, 0, m0), (27, .iconst 0, 0, 0, 0, 0, 0, m0), (28, .istore_n 3, 0, 0, 0, 0, 0, m0), (29, .iconst 0, 0, 0, 0, 0, 0, m0), (30, .istore 4, 0, 0, 0, 0, 0, m0)]
theorem oX7_prompts_9 : okB mX7_prompts 32 kX7_prompts_9 9 = true := by decide +kernel
def kX7_prompts_32 : List mI := [(32, .iload 4, 0, 0, 0, 0, 0, m0), (34, .aload_n 0, 0, 0, 0, 0, 0, m0), (35, .getfield 19, 7, 1, 0, 0, 311, m0), (38, .getfield 150, 5, 2, 0, 0, 157, m0), (41, .if_icmp .ge 59, 100, 0, 0, 0, 0, m0), (44, .aload_n 0, 0, 0, 0, 0, 0, m0), (45, .getfield 29, 7, 3, 0, 0, 313, m0), (48, .getfield 100, 4, 0, 0, 0, 244, m0), (51, .getfield 109, 3, 1, 0, 0, 224, m0), (54, .iload 4, 0, 0, 0, 0, 0, m0), (56, .iaload, 0, 0, 0, 0, 0, m0), (57, .ifCond .ne 37, 94, 0, 0, 0, 0, m0), (60, .iload_n 2, 0, 0, 0, 0, 0, m0), (61, .aload_n 0, 0, 0, 0, 0, 0, m0), (62, .getfield 19, 7, 1, 0, 0, 311, m0), (65, .getfield 97, 5, 7, 0, 0, 173, m0), (68, .iload 4, 0, 0, 0, 0, 0, m0), (70, .iaload, 0, 0, 0, 0, 0, m0), (71, .invokestatic 153, 0, 2, 0, 0, 507, mX7_hasBit), (74, .ifCond .eq 20, 94, 0, 0, 0, 0, m0), (77, .aload_n 0, 0, 0, 0, 0, 0, m0), (78, .getfield 29, 7, 3, 0, 0, 313, m0), (81, .getfield 100, 4, 0, 0, 0, 244, m0), (84, .getfield 109, 3, 1, 0, 0, 224, m0), (87, .iload 4, 0, 0, 0, 0, 0, m0), (89, .iconst 1, 1, 0, 0, 0, 0, m0), (90, .iastore, 0, 0, 0, 0, 0, m0), (91, .iinc 3 1, 1, 0, 0, 0, 0, m0)]
theorem oX7_prompts_32 : okB mX7_prompts 94 kX7_prompts_32 32 = true := by decide +kernel
def kX7_prompts_94 : List mI := [(94, .iinc 4 1, 1, 0, 0, 0, 0, m0), (97, .goto (-65), 32, 0, 0, 0, 0, m0)]
theorem oX7_prompts_94 : okB mX7_prompts 100 kX7_prompts_94 94 = true := by decide +kernel
def kX7_prompts_100 : List mI := [(100, .iload_n 3, 0, 0, 0, 0, 0, m0), (101, .ireturn, 0, 0, 0, 0, 0, m0)]
theorem oX7_prompts_100 : okB mX7_prompts 102 kX7_prompts_100 100 = true := by decide +kernel
def kX7_reads_0 : List mI := [(0, .aload_n 0, 0, 0, 0, 0, 0, m0), (1, .iload_n 1, 0, 0, 0, 0, 0, m0), (2, .invokevirtual 89, 7, 1, 0, 0, 434, mX7_noBrick), (5, .ifCond .eq 5, 10, 0, 0, 0, 0, m0), (8, .iconst (-1), 1, 1, 0, 0, 0, m0), (9, .ireturn, 0, 0, 0, 0, 0, m0)]
theorem oX7_reads_0 : okB mX7_reads 10 kX7_reads_0 0 = true := by decide +kernel
def kX7_reads_10 : List mI := [(10, .aload_n 0, 0, 0, 0, 0, 0, m0), (11, .getfield 29, 7, 3, 0, 0, 313, m0), (14, .getfield 100, 4, 0, 0, 0, 244, m0), (17, .getfield 109, 3, 1, 0, 0, 224, m0), (20, .iload_n 1, 0, 0, 0, 0, 0, m0), (21, .iaload, 0, 0, 0, 0, 0, m0), (22, .iconst 1, 1, 0, 0, 0, 0, m0), (23, .if_icmp .eq 6, 29, 0, 0, 0, 0, m0), (26, .bipush (-2), 2, 1, 0, 0, 0, m0), (28, .ireturn, 0, 0, 0, 0, 0, m0)]
theorem oX7_reads_10 : okB mX7_reads 29 kX7_reads_10 10 = true := by decide +kernel
def kX7_reads_29 : List mI := [(29, .aload_n 0, 0, 0, 0, 0, 0, m0), (30, .getfield 29, 7, 3, 0, 0, 313, m0), (33, .invokevirtual 144, 4, 0, 0, 0, 488, mX4_remember), (36, .aload_n 0, 0, 0, 0, 0, 0, m0), (37, .getfield 19, 7, 1, 0, 0, 311, m0), (40, .aload_n 0, 0, 0, 0, 0, 0, m0), (41, .getfield 19, 7, 1, 0, 0, 311, m0), (44, .aload_n 0, 0, 0, 0, 0, 0, m0), (45, .getfield 29, 7, 3, 0, 0, 313, m0), (48, .getfield 100, 4, 0, 0, 0, 244, m0), (51, .getfield 104, 3, 2, 0, 0, 226, m0), (54, .iload_n 1, 0, 0, 0, 0, 0, m0), (55, .iaload, 0, 0, 0, 0, 0, m0), (56, .invokevirtual 157, 5, 1, 0, 0, 512, mX5_judgesFor), (59, .invokevirtual 160, 5, 1, 0, 0, 517, mX5_holds), (62, .istore_n 2, 0, 0, 0, 0, 0, m0), (63, .aload_n 0, 0, 0, 0, 0, 0, m0), (64, .getfield 29, 7, 3, 0, 0, 313, m0), (67, .getfield 100, 4, 0, 0, 0, 244, m0), (70, .getfield 109, 3, 1, 0, 0, 224, m0), (73, .iload_n 1, 0, 0, 0, 0, 0, m0), (74, .iload_n 2, 0, 0, 0, 0, 0, m0), (75, .ifCond .eq 7, 82, 0, 0, 0, 0, m0), (78, .iconst 2, 2, 0, 0, 0, 0, m0), (79, .goto 4, 83, 0, 0, 0, 0, m0)]
theorem oX7_reads_29 : okB mX7_reads 82 kX7_reads_29 29 = true := by decide +kernel
def kX7_reads_82 : List mI := [(82, .iconst 3, 3, 0, 0, 0, 0, m0)]
theorem oX7_reads_82 : okB mX7_reads 83 kX7_reads_82 82 = true := by decide +kernel
def kX7_reads_83 : List mI := [(83, .iastore, 0, 0, 0, 0, 0, m0), (84, .aload_n 0, 0, 0, 0, 0, 0, m0), (85, .getfield 29, 7, 3, 0, 0, 313, m0), (88, .getfield 100, 4, 0, 0, 0, 244, m0), (91, .getfield 109, 3, 1, 0, 0, 224, m0), (94, .iload_n 1, 0, 0, 0, 0, 0, m0), (95, .iaload, 0, 0, 0, 0, 0, m0), (96, .ireturn, 0, 0, 0, 0, 0, m0)]
theorem oX7_reads_83 : okB mX7_reads 97 kX7_reads_83 83 = true := by decide +kernel
def kX7_writes_0 : List mI := [(0, .aload_n 0, 0, 0, 0, 0, 0, m0), (1, .iload_n 1, 0, 0, 0, 0, 0, m0), (2, .invokevirtual 89, 7, 1, 0, 0, 434, mX7_noBrick), (5, .ifCond .ne 13, 18, 0, 0, 0, 0, m0), (8, .iload_n 2, 0, 0, 0, 0, 0, m0), (9, .ifCond .lt 9, 18, 0, 0, 0, 0, m0), (12, .iload_n 2, 0, 0, 0, 0, 0, m0), (13, .bipush 30, 30, 0, 0, 0, 0, m0), (15, .if_icmp .le 5, 20, 0, 0, 0, 0, m0)]
theorem oX7_writes_0 : okB mX7_writes 18 kX7_writes_0 0 = true := by decide +kernel
def kX7_writes_18 : List mI := [(18, .iconst (-1), 1, 1, 0, 0, 0, m0), (19, .ireturn, 0, 0, 0, 0, 0, m0)]
theorem oX7_writes_18 : okB mX7_writes 20 kX7_writes_18 18 = true := by decide +kernel
def kX7_writes_20 : List mI := [(20, .aload_n 0, 0, 0, 0, 0, 0, m0), (21, .getfield 29, 7, 3, 0, 0, 313, m0), (24, .getfield 100, 4, 0, 0, 0, 244, m0), (27, .getfield 109, 3, 1, 0, 0, 224, m0), (30, .iload_n 1, 0, 0, 0, 0, 0, m0), (31, .iaload, 0, 0, 0, 0, 0, m0), (32, .iconst 3, 3, 0, 0, 0, 0, m0), (33, .if_icmp .eq 6, 39, 0, 0, 0, 0, m0), (36, .bipush (-2), 2, 1, 0, 0, 0, m0), (38, .ireturn, 0, 0, 0, 0, 0, m0)]
theorem oX7_writes_20 : okB mX7_writes 39 kX7_writes_20 20 = true := by decide +kernel
def kX7_writes_39 : List mI := [(39, .aload_n 0, 0, 0, 0, 0, 0, m0), (40, .getfield 29, 7, 3, 0, 0, 313, m0), (43, .invokevirtual 144, 4, 0, 0, 0, 488, mX4_remember), (46, .aload_n 0, 0, 0, 0, 0, 0, m0), (47, .getfield 29, 7, 3, 0, 0, 313, m0), (50, .getfield 100, 4, 0, 0, 0, 244, m0), (53, .getfield 104, 3, 2, 0, 0, 226, m0), (56, .iload_n 1, 0, 0, 0, 0, 0, m0), (57, .iaload, 0, 0, 0, 0, 0, m0), (58, .istore_n 3, 0, 0, 0, 0, 0, m0), (59, .aload_n 0, 0, 0, 0, 0, 0, m0), (60, .getfield 29, 7, 3, 0, 0, 313, m0), (63, .getfield 100, 4, 0, 0, 0, 244, m0), (66, .getfield 104, 3, 2, 0, 0, 226, m0), (69, .iload_n 1, 0, 0, 0, 0, 0, m0), (70, .iload_n 2, 0, 0, 0, 0, 0, m0), (71, .iastore, 0, 0, 0, 0, 0, m0), (72, .aload_n 0, 0, 0, 0, 0, 0, m0), (73, .getfield 29, 7, 3, 0, 0, 313, m0), (76, .getfield 100, 4, 0, 0, 0, 244, m0), (79, .getfield 109, 3, 1, 0, 0, 224, m0), (82, .iload_n 1, 0, 0, 0, 0, 0, m0), (83, .iconst 1, 1, 0, 0, 0, 0, m0), (84, .iastore, 0, 0, 0, 0, 0, m0), (85, .iload_n 3, 0, 0, 0, 0, 0, m0), (86, .ireturn, 0, 0, 0, 0, 0, m0)]
theorem oX7_writes_39 : okB mX7_writes 87 kX7_writes_39 39 = true := by decide +kernel
def kX7_lays_0 : List mI := [(0, .aload_n 0, 0, 0, 0, 0, 0, m0), (1, .iload_n 1, 0, 0, 0, 0, 0, m0), (2, .invokevirtual 89, 7, 1, 0, 0, 434, mX7_noBrick), (5, .ifCond .ne 11, 16, 0, 0, 0, 0, m0), (8, .aload_n 0, 0, 0, 0, 0, 0, m0), (9, .iload_n 2, 0, 0, 0, 0, 0, m0), (10, .invokevirtual 119, 7, 1, 0, 0, 453, mX7_noColumn), (13, .ifCond .eq 5, 18, 0, 0, 0, 0, m0)]
theorem oX7_lays_0 : okB mX7_lays 16 kX7_lays_0 0 = true := by decide +kernel
def kX7_lays_16 : List mI := [(16, .iconst (-1), 1, 1, 0, 0, 0, m0), (17, .ireturn, 0, 0, 0, 0, 0, m0)]
theorem oX7_lays_16 : okB mX7_lays 18 kX7_lays_16 16 = true := by decide +kernel
def kX7_lays_18 : List mI := [(18, .aload_n 0, 0, 0, 0, 0, 0, m0), (19, .getfield 29, 7, 3, 0, 0, 313, m0), (22, .getfield 100, 4, 0, 0, 0, 244, m0), (25, .getfield 109, 3, 1, 0, 0, 224, m0), (28, .iload_n 1, 0, 0, 0, 0, 0, m0), (29, .iaload, 0, 0, 0, 0, 0, m0), (30, .iconst 2, 2, 0, 0, 0, 0, m0), (31, .if_icmp .ne 15, 46, 0, 0, 0, 0, m0), (34, .aload_n 0, 0, 0, 0, 0, 0, m0), (35, .iload_n 1, 0, 0, 0, 0, 0, m0), (36, .invokevirtual 115, 7, 1, 0, 0, 438, mX7_fits), (39, .iload_n 2, 0, 0, 0, 0, 0, m0), (40, .invokestatic 153, 0, 2, 0, 0, 507, mX7_hasBit), (43, .ifCond .ne 6, 49, 0, 0, 0, 0, m0)]
theorem oX7_lays_18 : okB mX7_lays 46 kX7_lays_18 18 = true := by decide +kernel
def kX7_lays_46 : List mI := [(46, .bipush (-2), 2, 1, 0, 0, 0, m0), (48, .ireturn, 0, 0, 0, 0, 0, m0)]
theorem oX7_lays_46 : okB mX7_lays 49 kX7_lays_46 46 = true := by decide +kernel
def kX7_lays_49 : List mI := [(49, .aload_n 0, 0, 0, 0, 0, 0, m0), (50, .getfield 29, 7, 3, 0, 0, 313, m0), (53, .invokevirtual 144, 4, 0, 0, 0, 488, mX4_remember), (56, .aload_n 0, 0, 0, 0, 0, 0, m0), (57, .getfield 29, 7, 3, 0, 0, 313, m0), (60, .getfield 100, 4, 0, 0, 0, 244, m0), (63, .iload_n 2, 0, 0, 0, 0, 0, m0), (64, .invokevirtual 163, 3, 1, 0, 0, 442, mX3_height), (67, .istore_n 3, 0, 0, 0, 0, 0, m0), (68, .aload_n 0, 0, 0, 0, 0, 0, m0), (69, .getfield 29, 7, 3, 0, 0, 313, m0), (72, .getfield 100, 4, 0, 0, 0, 244, m0), (75, .getfield 109, 3, 1, 0, 0, 224, m0), (78, .iload_n 1, 0, 0, 0, 0, 0, m0), (79, .iconst 4, 4, 0, 0, 0, 0, m0), (80, .iastore, 0, 0, 0, 0, 0, m0), (81, .aload_n 0, 0, 0, 0, 0, 0, m0), (82, .getfield 29, 7, 3, 0, 0, 313, m0), (85, .getfield 100, 4, 0, 0, 0, 244, m0), (88, .getfield 112, 3, 3, 0, 0, 228, m0), (91, .iload_n 1, 0, 0, 0, 0, 0, m0), (92, .iload_n 2, 0, 0, 0, 0, 0, m0), (93, .iastore, 0, 0, 0, 0, 0, m0), (94, .aload_n 0, 0, 0, 0, 0, 0, m0), (95, .getfield 29, 7, 3, 0, 0, 313, m0), (98, .getfield 100, 4, 0, 0, 0, 244, m0), (101, .getfield 166, 3, 4, 0, 0, 230, m0), (104, .iload_n 1, 0, 0, 0, 0, 0, m0), (105, .iload_n 3, 0, 0, 0, 0, 0, m0), (106, .iastore, 0, 0, 0, 0, 0, m0), (107, .iload_n 3, 0, 0, 0, 0, 0, m0), (108, .iconst 1, 1, 0, 0, 0, 0, m0), (109, .iadd, 0, 0, 0, 0, 0, m0), (110, .ireturn, 0, 0, 0, 0, 0, m0)]
theorem oX7_lays_49 : okB mX7_lays 111 kX7_lays_49 49 = true := by decide +kernel
def kX7_falls_0 : List mI := [(0, .aload_n 0, 0, 0, 0, 0, 0, m0), (1, .iload_n 1, 0, 0, 0, 0, 0, m0), (2, .invokevirtual 119, 7, 1, 0, 0, 453, mX7_noColumn), (5, .ifCond .eq 5, 10, 0, 0, 0, 0, m0), (8, .iconst (-1), 1, 1, 0, 0, 0, m0), (9, .ireturn, 0, 0, 0, 0, 0, m0)]
theorem oX7_falls_0 : okB mX7_falls 10 kX7_falls_0 0 = true := by decide +kernel
def kX7_falls_10 : List mI := [(10, .aload_n 0, 0, 0, 0, 0, 0, m0), (11, .getfield 29, 7, 3, 0, 0, 313, m0), (14, .getfield 100, 4, 0, 0, 0, 244, m0), (17, .iload_n 1, 0, 0, 0, 0, 0, m0), (18, .aload_n 0, 0, 0, 0, 0, 0, m0), (19, .getfield 29, 7, 3, 0, 0, 313, m0), (22, .getfield 100, 4, 0, 0, 0, 244, m0), (25, .iload_n 1, 0, 0, 0, 0, 0, m0), (26, .invokevirtual 163, 3, 1, 0, 0, 442, mX3_height), (29, .iconst 1, 1, 0, 0, 0, 0, m0), (30, .isub, 0, 0, 0, 0, 0, m0), (31, .invokevirtual 125, 3, 2, 0, 0, 457, mX3_brickAt), (34, .istore_n 2, 0, 0, 0, 0, 0, m0), (35, .aload_n 0, 0, 0, 0, 0, 0, m0), (36, .iload_n 2, 0, 0, 0, 0, 0, m0), (37, .invokevirtual 89, 7, 1, 0, 0, 434, mX7_noBrick), (40, .ifCond .eq 6, 46, 0, 0, 0, 0, m0), (43, .bipush (-2), 2, 1, 0, 0, 0, m0), (45, .ireturn, 0, 0, 0, 0, 0, m0)]
theorem oX7_falls_10 : okB mX7_falls 46 kX7_falls_10 10 = true := by decide +kernel
def kX7_falls_46 : List mI := [(46, .aload_n 0, 0, 0, 0, 0, 0, m0), (47, .getfield 29, 7, 3, 0, 0, 313, m0), (50, .invokevirtual 144, 4, 0, 0, 0, 488, mX4_remember), (53, .aload_n 0, 0, 0, 0, 0, 0, m0), (54, .getfield 29, 7, 3, 0, 0, 313, m0), (57, .getfield 100, 4, 0, 0, 0, 244, m0), (60, .getfield 109, 3, 1, 0, 0, 224, m0), (63, .iload_n 2, 0, 0, 0, 0, 0, m0), (64, .iconst 2, 2, 0, 0, 0, 0, m0), (65, .iastore, 0, 0, 0, 0, 0, m0), (66, .iload_n 2, 0, 0, 0, 0, 0, m0), (67, .ireturn, 0, 0, 0, 0, 0, m0)]
theorem oX7_falls_46 : okB mX7_falls 68 kX7_falls_46 46 = true := by decide +kernel
def kX7_undo_0 : List mI := [(0, .aload_n 0, 0, 0, 0, 0, 0, m0), (1, .getfield 29, 7, 3, 0, 0, 313, m0), (4, .getfield 169, 4, 2, 0, 0, 247, m0), (7, .ifCond .gt 6, 13, 0, 0, 0, 0, m0), (10, .bipush (-2), 2, 1, 0, 0, 0, m0), (12, .ireturn, 0, 0, 0, 0, 0, m0)]
theorem oX7_undo_0 : okB mX7_undo 13 kX7_undo_0 0 = true := by decide +kernel
def kX7_undo_13 : List mI := [(13, .aload_n 0, 0, 0, 0, 0, 0, m0), (14, .getfield 29, 7, 3, 0, 0, 313, m0), (17, .invokevirtual 172, 4, 0, 0, 0, 537, mX4_stepBack), (20, .aload_n 0, 0, 0, 0, 0, 0, m0), (21, .getfield 29, 7, 3, 0, 0, 313, m0), (24, .getfield 169, 4, 2, 0, 0, 247, m0), (27, .ireturn, 0, 0, 0, 0, 0, m0)]
theorem oX7_undo_13 : okB mX7_undo 28 kX7_undo_13 13 = true := by decide +kernel
def kX7_now_0 : List mI := [(0, .iload_n 1, 0, 0, 0, 0, 0, m0), (1, .ifCond .lt 8, 9, 0, 0, 0, 0, m0), (4, .iload_n 1, 0, 0, 0, 0, 0, m0), (5, .iconst 5, 5, 0, 0, 0, 0, m0), (6, .if_icmp .le 5, 11, 0, 0, 0, 0, m0)]
theorem oX7_now_0 : okB mX7_now 9 kX7_now_0 0 = true := by decide +kernel
def kX7_now_9 : List mI := [(9, .iconst (-1), 1, 1, 0, 0, 0, m0), (10, .ireturn, 0, 0, 0, 0, 0, m0)]
theorem oX7_now_9 : okB mX7_now 11 kX7_now_9 9 = true := by decide +kernel
def kX7_now_11 : List mI := [(11, .iload_n 1, 0, 0, 0, 0, 0, m0), (12, .iconst 5, 5, 0, 0, 0, 0, m0), (13, .if_icmp .ne 24, 37, 0, 0, 0, 0, m0), (16, .aload_n 0, 0, 0, 0, 0, 0, m0), (17, .getfield 51, 7, 7, 0, 0, 317, m0), (20, .aload_n 0, 0, 0, 0, 0, 0, m0), (21, .getfield 19, 7, 1, 0, 0, 311, m0), (24, .aload_n 0, 0, 0, 0, 0, 0, m0), (25, .getfield 29, 7, 3, 0, 0, 313, m0), (28, .getfield 100, 4, 0, 0, 0, 244, m0), (31, .invokevirtual 175, 1, 2, 0, 0, 545, mX1_more), (34, .goto 14, 48, 0, 0, 0, 0, m0)]
theorem oX7_now_11 : okB mX7_now 37 kX7_now_11 11 = true := by decide +kernel
def kX7_now_37 : List mI := [(37, .aload_n 0, 0, 0, 0, 0, 0, m0), (38, .getfield 29, 7, 3, 0, 0, 313, m0), (41, .getfield 100, 4, 0, 0, 0, 244, m0), (44, .iload_n 1, 0, 0, 0, 0, 0, m0), (45, .invokevirtual 179, 3, 1, 0, 0, 573, mX3_howMany)]
theorem oX7_now_37 : okB mX7_now 48 kX7_now_37 37 = true := by decide +kernel
def kX7_now_48 : List mI := [(48, .ireturn, 0, 0, 0, 0, 0, m0)]
theorem oX7_now_48 : okB mX7_now 49 kX7_now_48 48 = true := by decide +kernel
def kX7_wall_0 : List mI := [(0, .aload_n 0, 0, 0, 0, 0, 0, m0), (1, .iload_n 1, 0, 0, 0, 0, 0, m0), (2, .invokevirtual 119, 7, 1, 0, 0, 453, mX7_noColumn), (5, .ifCond .eq 7, 12, 0, 0, 0, 0, m0), (8, .iconst (-1), 1, 1, 0, 0, 0, m0), (9, .goto 22, 31, 0, 0, 0, 0, m0)]
theorem oX7_wall_0 : okB mX7_wall 12 kX7_wall_0 0 = true := by decide +kernel
def kX7_wall_12 : List mI := [(12, .aload_n 0, 0, 0, 0, 0, 0, m0), (13, .getfield 51, 7, 7, 0, 0, 317, m0), (16, .aload_n 0, 0, 0, 0, 0, 0, m0), (17, .getfield 19, 7, 1, 0, 0, 311, m0), (20, .aload_n 0, 0, 0, 0, 0, 0, m0), (21, .getfield 29, 7, 3, 0, 0, 313, m0), (24, .getfield 100, 4, 0, 0, 0, 244, m0), (27, .iload_n 1, 0, 0, 0, 0, 0, m0), (28, .invokevirtual 182, 1, 3, 0, 0, 581, mX1_heightOf)]
theorem oX7_wall_12 : okB mX7_wall 31 kX7_wall_12 12 = true := by decide +kernel
def kX7_wall_31 : List mI := [(31, .ireturn, 0, 0, 0, 0, 0, m0)]
theorem oX7_wall_31 : okB mX7_wall 32 kX7_wall_31 31 = true := by decide +kernel
def kX7_letters_0 : List mI := [(0, .iload_n 1, 0, 0, 0, 0, 0, m0), (1, .iconst 1, 1, 0, 0, 0, 0, m0), (2, .if_icmp .lt 9, 11, 0, 0, 0, 0, m0), (5, .iload_n 1, 0, 0, 0, 0, 0, m0), (6, .bipush 24, 24, 0, 0, 0, 0, m0), (8, .if_icmp .le 5, 13, 0, 0, 0, 0, m0)]
theorem oX7_letters_0 : okB mX7_letters 11 kX7_letters_0 0 = true := by decide +kernel
def kX7_letters_11 : List mI := [(11, .iconst (-1), 1, 1, 0, 0, 0, m0), (12, .ireturn, 0, 0, 0, 0, 0, m0)]
theorem oX7_letters_11 : okB mX7_letters 13 kX7_letters_11 11 = true := by decide +kernel
def kX7_letters_13 : List mI := [(13, .aload_n 0, 0, 0, 0, 0, 0, m0), (14, .getfield 51, 7, 7, 0, 0, 317, m0), (17, .aload_n 0, 0, 0, 0, 0, 0, m0), (18, .getfield 19, 7, 1, 0, 0, 311, m0), (21, .aload_n 0, 0, 0, 0, 0, 0, m0), (22, .getfield 29, 7, 3, 0, 0, 313, m0), (25, .getfield 100, 4, 0, 0, 0, 244, m0), (28, .iload_n 1, 0, 0, 0, 0, 0, m0), (29, .invokevirtual 186, 1, 3, 0, 0, 589, mX1_fewestToPrompt), (32, .ireturn, 0, 0, 0, 0, 0, m0)]
theorem oX7_letters_13 : okB mX7_letters 33 kX7_letters_13 13 = true := by decide +kernel
def kX7_apology_0 : List mI := [(0, .iload_n 1, 0, 0, 0, 0, 0, m0), (1, .bipush (-30), 30, 1, 0, 0, 0, m0), (3, .if_icmp .lt 19, 22, 0, 0, 0, 0, m0), (6, .iload_n 1, 0, 0, 0, 0, 0, m0), (7, .bipush 30, 30, 0, 0, 0, 0, m0), (9, .if_icmp .gt 13, 22, 0, 0, 0, 0, m0), (12, .iload_n 2, 0, 0, 0, 0, 0, m0), (13, .iconst (-1), 1, 1, 0, 0, 0, m0), (14, .if_icmp .lt 8, 22, 0, 0, 0, 0, m0), (17, .iload_n 2, 0, 0, 0, 0, 0, m0), (18, .iconst 5, 5, 0, 0, 0, 0, m0), (19, .if_icmp .lt 5, 24, 0, 0, 0, 0, m0)]
theorem oX7_apology_0 : okB mX7_apology 22 kX7_apology_0 0 = true := by decide +kernel
def kX7_apology_22 : List mI := [(22, .iconst (-1), 1, 1, 0, 0, 0, m0), (23, .ireturn, 0, 0, 0, 0, 0, m0)]
theorem oX7_apology_22 : okB mX7_apology 24 kX7_apology_22 22 = true := by decide +kernel
def kX7_apology_24 : List mI := [(24, .aload_n 0, 0, 0, 0, 0, 0, m0), (25, .getfield 58, 7, 8, 0, 0, 318, m0), (28, .aload_n 0, 0, 0, 0, 0, 0, m0), (29, .getfield 19, 7, 1, 0, 0, 311, m0), (32, .iload_n 1, 0, 0, 0, 0, 0, m0), (33, .invokevirtual 189, 6, 2, 0, 0, 609, mX6_shortest), (36, .istore_n 3, 0, 0, 0, 0, 0, m0), (37, .iload_n 2, 0, 0, 0, 0, 0, m0), (38, .iconst (-1), 1, 1, 0, 0, 0, m0), (39, .if_icmp .eq 9, 48, 0, 0, 0, 0, m0), (42, .iload_n 3, 0, 0, 0, 0, 0, m0), (43, .bipush (-9), 9, 1, 0, 0, 0, m0), (45, .if_icmp .ne 5, 50, 0, 0, 0, 0, m0)]
theorem oX7_apology_24 : okB mX7_apology 48 kX7_apology_24 24 = true := by decide +kernel
def kX7_apology_48 : List mI := [(48, .iload_n 3, 0, 0, 0, 0, 0, m0), (49, .ireturn, 0, 0, 0, 0, 0, m0)]
theorem oX7_apology_48 : okB mX7_apology 50 kX7_apology_48 48 = true := by decide +kernel
def kX7_apology_50 : List mI := [(50, .iload_n 2, 0, 0, 0, 0, 0, m0), (51, .iload_n 3, 0, 0, 0, 0, 0, m0), (52, .if_icmp .ge 15, 67, 0, 0, 0, 0, m0), (55, .aload_n 0, 0, 0, 0, 0, 0, m0), (56, .getfield 58, 7, 8, 0, 0, 318, m0), (59, .getfield 193, 6, 0, 0, 0, 306, m0), (62, .iload_n 2, 0, 0, 0, 0, 0, m0), (63, .iaload, 0, 0, 0, 0, 0, m0), (64, .goto 5, 69, 0, 0, 0, 0, m0)]
theorem oX7_apology_50 : okB mX7_apology 67 kX7_apology_50 50 = true := by decide +kernel
def kX7_apology_67 : List mI := [(67, .bipush (-9), 9, 1, 0, 0, 0, m0)]
theorem oX7_apology_67 : okB mX7_apology 69 kX7_apology_67 67 = true := by decide +kernel
def kX7_apology_69 : List mI := [(69, .ireturn, 0, 0, 0, 0, 0, m0)]
theorem oX7_apology_69 : okB mX7_apology 70 kX7_apology_69 69 = true := by decide +kernel
def kX7_turn_0 : List mI := [(0, .aload_n 0, 0, 0, 0, 0, 0, m0), (1, .iload_n 1, 0, 0, 0, 0, 0, m0), (2, .invokevirtual 135, 7, 1, 0, 0, 472, mX7_noJudge), (5, .ifCond .ne 11, 16, 0, 0, 0, 0, m0), (8, .aload_n 0, 0, 0, 0, 0, 0, m0), (9, .iload_n 2, 0, 0, 0, 0, 0, m0), (10, .invokevirtual 89, 7, 1, 0, 0, 434, mX7_noBrick), (13, .ifCond .eq 5, 18, 0, 0, 0, 0, m0)]
theorem oX7_turn_0 : okB mX7_turn 16 kX7_turn_0 0 = true := by decide +kernel
def kX7_turn_16 : List mI := [(16, .iconst (-1), 1, 1, 0, 0, 0, m0), (17, .ireturn, 0, 0, 0, 0, 0, m0)]
theorem oX7_turn_16 : okB mX7_turn 18 kX7_turn_16 16 = true := by decide +kernel
def kX7_turn_18 : List mI := [(18, .aload_n 0, 0, 0, 0, 0, 0, m0), (19, .getfield 29, 7, 3, 0, 0, 313, m0), (22, .getfield 100, 4, 0, 0, 0, 244, m0), (25, .getfield 104, 3, 2, 0, 0, 226, m0), (28, .iload_n 2, 0, 0, 0, 0, 0, m0), (29, .iaload, 0, 0, 0, 0, 0, m0), (30, .istore_n 3, 0, 0, 0, 0, 0, m0), (31, .aload_n 0, 0, 0, 0, 0, 0, m0), (32, .getfield 19, 7, 1, 0, 0, 311, m0), (35, .iload_n 3, 0, 0, 0, 0, 0, m0), (36, .invokevirtual 157, 5, 1, 0, 0, 512, mX5_judgesFor), (39, .istore 4, 0, 0, 0, 0, 0, m0), (41, .aload_n 0, 0, 0, 0, 0, 0, m0), (42, .getfield 19, 7, 1, 0, 0, 311, m0), (45, .iload_n 1, 0, 0, 0, 0, 0, m0), (46, .iload_n 3, 0, 0, 0, 0, 0, m0), (47, .invokevirtual 196, 5, 2, 0, 0, 480, mX5_isFor), (50, .ifCond .eq 10, 60, 0, 0, 0, 0, m0), (53, .iload 4, 0, 0, 0, 0, 0, m0), (55, .iconst 1, 1, 0, 0, 0, 0, m0), (56, .isub, 0, 0, 0, 0, 0, m0), (57, .goto 7, 64, 0, 0, 0, 0, m0)]
theorem oX7_turn_18 : okB mX7_turn 60 kX7_turn_18 18 = true := by decide +kernel
def kX7_turn_60 : List mI := [(60, .iload 4, 0, 0, 0, 0, 0, m0), (62, .iconst 1, 1, 0, 0, 0, 0, m0), (63, .iadd, 0, 0, 0, 0, 0, m0)]
theorem oX7_turn_60 : okB mX7_turn 64 kX7_turn_60 60 = true := by decide +kernel
def kX7_turn_64 : List mI := [(64, .istore 5, 0, 0, 0, 0, 0, m0), (66, .aload_n 0, 0, 0, 0, 0, 0, m0), (67, .getfield 19, 7, 1, 0, 0, 311, m0), (70, .iload 4, 0, 0, 0, 0, 0, m0), (72, .invokevirtual 160, 5, 1, 0, 0, 517, mX5_holds), (75, .aload_n 0, 0, 0, 0, 0, 0, m0), (76, .getfield 19, 7, 1, 0, 0, 311, m0), (79, .iload 5, 0, 0, 0, 0, 0, m0), (81, .invokevirtual 160, 5, 1, 0, 0, 517, mX5_holds), (84, .if_icmp .ne 7, 91, 0, 0, 0, 0, m0), (87, .iconst 0, 0, 0, 0, 0, 0, m0), (88, .goto 4, 92, 0, 0, 0, 0, m0)]
theorem oX7_turn_64 : okB mX7_turn 91 kX7_turn_64 64 = true := by decide +kernel
def kX7_turn_91 : List mI := [(91, .iconst 1, 1, 0, 0, 0, 0, m0)]
theorem oX7_turn_91 : okB mX7_turn 92 kX7_turn_91 91 = true := by decide +kernel
def kX7_turn_92 : List mI := [(92, .ireturn, 0, 0, 0, 0, 0, m0)]
theorem oX7_turn_92 : okB mX7_turn 93 kX7_turn_92 92 = true := by decide +kernel
def kX7_odds_0 : List mI := [(0, .iload_n 1, 0, 0, 0, 0, 0, m0), (1, .ifCond .lt 19, 20, 0, 0, 0, 0, m0), (4, .iload_n 1, 0, 0, 0, 0, 0, m0), (5, .bipush 10, 10, 0, 0, 0, 0, m0), (7, .if_icmp .gt 13, 20, 0, 0, 0, 0, m0), (10, .iload_n 2, 0, 0, 0, 0, 0, m0), (11, .ifCond .lt 9, 20, 0, 0, 0, 0, m0), (14, .iload_n 2, 0, 0, 0, 0, 0, m0), (15, .bipush 10, 10, 0, 0, 0, 0, m0), (17, .if_icmp .le 5, 22, 0, 0, 0, 0, m0)]
theorem oX7_odds_0 : okB mX7_odds 20 kX7_odds_0 0 = true := by decide +kernel
def kX7_odds_20 : List mI := [(20, .iconst (-1), 1, 1, 0, 0, 0, m0), (21, .ireturn, 0, 0, 0, 0, 0, m0)]
theorem oX7_odds_20 : okB mX7_odds 22 kX7_odds_20 20 = true := by decide +kernel
def kX7_odds_22 : List mI := [(22, .aload_n 0, 0, 0, 0, 0, 0, m0), (23, .iload_n 1, 0, 0, 0, 0, 0, m0), (24, .aload_n 0, 0, 0, 0, 0, 0, m0), (25, .getfield 29, 7, 3, 0, 0, 313, m0), (28, .getfield 100, 4, 0, 0, 0, 244, m0), (31, .iconst 4, 4, 0, 0, 0, 0, m0), (32, .invokevirtual 179, 3, 1, 0, 0, 573, mX3_howMany), (35, .invokevirtual 199, 7, 2, 0, 0, 625, mX7_spreadChances), (38, .lconst 0, 0, 0, 0, 0, 0, m0), (39, .lstore_n 3, 0, 0, 0, 0, 0, m0), (40, .iconst 0, 0, 0, 0, 0, 0, m0), (41, .istore 5, 0, 0, 0, 0, 0, m0)]
theorem oX7_odds_22 : okB mX7_odds 43 kX7_odds_22 22 = true := by decide +kernel
def kX7_odds_43 : List mI := [(43, .iload 5, 0, 0, 0, 0, 0, m0), (45, .iload_n 2, 0, 0, 0, 0, 0, m0), (46, .if_icmp .gt 19, 65, 0, 0, 0, 0, m0), (49, .lload_n 3, 0, 0, 0, 0, 0, m0), (50, .aload_n 0, 0, 0, 0, 0, 0, m0), (51, .getfield 62, 7, 9, 0, 0, 319, m0), (54, .iload 5, 0, 0, 0, 0, 0, m0), (56, .laload, 0, 0, 0, 0, 0, m0), (57, .ladd, 0, 0, 0, 0, 0, m0), (58, .lstore_n 3, 0, 0, 0, 0, 0, m0), (59, .iinc 5 1, 1, 0, 0, 0, 0, m0), (62, .goto (-19), 43, 0, 0, 0, 0, m0)]
theorem oX7_odds_43 : okB mX7_odds 65 kX7_odds_43 43 = true := by decide +kernel
def kX7_odds_65 : List mI := [(65, .lload_n 3, 0, 0, 0, 0, 0, m0), (66, .ldc2_w 203, 10000, 0, 0, 0, 632, m0), (69, .ldiv, 0, 0, 0, 0, 0, m0), (70, .l2i, 0, 0, 0, 0, 0, m0), (71, .ireturn, 0, 0, 0, 0, 0, m0)]
theorem oX7_odds_65 : okB mX7_odds 72 kX7_odds_65 65 = true := by decide +kernel
def kX7_hears_0 : List mI := [(0, .aload_n 0, 0, 0, 0, 0, 0, m0), (1, .iload_n 1, 0, 0, 0, 0, 0, m0), (2, .invokevirtual 135, 7, 1, 0, 0, 472, mX7_noJudge), (5, .ifCond .ne 12, 17, 0, 0, 0, 0, m0), (8, .iload_n 2, 0, 0, 0, 0, 0, m0), (9, .ifCond .lt 8, 17, 0, 0, 0, 0, m0), (12, .iload_n 2, 0, 0, 0, 0, 0, m0), (13, .iconst 1, 1, 0, 0, 0, 0, m0), (14, .if_icmp .le 5, 19, 0, 0, 0, 0, m0)]
theorem oX7_hears_0 : okB mX7_hears 17 kX7_hears_0 0 = true := by decide +kernel
def kX7_hears_17 : List mI := [(17, .iconst (-1), 1, 1, 0, 0, 0, m0), (18, .ireturn, 0, 0, 0, 0, 0, m0)]
theorem oX7_hears_17 : okB mX7_hears 19 kX7_hears_17 17 = true := by decide +kernel
def kX7_hears_19 : List mI := [(19, .aload_n 0, 0, 0, 0, 0, 0, m0), (20, .getfield 44, 7, 6, 0, 0, 316, m0), (23, .getfield 86, 0, 0, 0, 0, 263, m0), (26, .iconst 4, 4, 0, 0, 0, 0, m0), (27, .if_icmp .lt 6, 33, 0, 0, 0, 0, m0), (30, .bipush (-3), 3, 1, 0, 0, 0, m0), (32, .ireturn, 0, 0, 0, 0, 0, m0)]
theorem oX7_hears_19 : okB mX7_hears 33 kX7_hears_19 19 = true := by decide +kernel
def kX7_hears_33 : List mI := [(33, .aload_n 0, 0, 0, 0, 0, 0, m0), (34, .getfield 44, 7, 6, 0, 0, 316, m0), (37, .iload_n 1, 0, 0, 0, 0, 0, m0), (38, .iload_n 2, 0, 0, 0, 0, 0, m0), (39, .iconst 1, 1, 0, 0, 0, 0, m0), (40, .if_icmp .ne 7, 47, 0, 0, 0, 0, m0), (43, .iconst 1, 1, 0, 0, 0, 0, m0), (44, .goto 4, 48, 0, 0, 0, 0, m0)]
theorem oX7_hears_33 : okB mX7_hears 47 kX7_hears_33 33 = true := by decide +kernel
def kX7_hears_47 : List mI := [(47, .iconst 0, 0, 0, 0, 0, 0, m0)]
theorem oX7_hears_47 : okB mX7_hears 48 kX7_hears_47 47 = true := by decide +kernel
def kX7_hears_48 : List mI := [(48, .invokevirtual 205, 0, 2, 0, 0, 637, mX0_add), (51, .aload_n 0, 0, 0, 0, 0, 0, m0), (52, .getfield 44, 7, 6, 0, 0, 316, m0), (55, .getfield 86, 0, 0, 0, 0, 263, m0), (58, .ireturn, 0, 0, 0, 0, 0, m0)]
theorem oX7_hears_48 : okB mX7_hears 59 kX7_hears_48 48 = true := by decide +kernel
def kX7_forget_0 : List mI := [(0, .aload_n 0, 0, 0, 0, 0, 0, m0), (1, .getfield 44, 7, 6, 0, 0, 316, m0), (4, .getfield 86, 0, 0, 0, 0, 263, m0), (7, .istore_n 1, 0, 0, 0, 0, 0, m0), (8, .aload_n 0, 0, 0, 0, 0, 0, m0), (9, .getfield 44, 7, 6, 0, 0, 316, m0), (12, .iconst 0, 0, 0, 0, 0, 0, m0), (13, .putfield 86, 0, 0, 0, 0, 263, m0), (16, .iload_n 1, 0, 0, 0, 0, 0, m0), (17, .ireturn, 0, 0, 0, 0, 0, m0)]
theorem oX7_forget_0 : okB mX7_forget 18 kX7_forget_0 0 = true := by decide +kernel
def kX7_worths_0 : List mI := [(0, .iload_n 1, 0, 0, 0, 0, 0, m0), (1, .tableswitch 64 0 2 #[27, 40, 52], 0, 0, 0, 0, 0, m0)]
theorem oX7_worths_0 : okB mX7_worths 28 kX7_worths_0 0 = true := by decide +kernel
def kX7_worths_28 : List mI := [(28, .aload_n 0, 0, 0, 0, 0, 0, m0), (29, .getfield 44, 7, 6, 0, 0, 316, m0), (32, .aload_n 0, 0, 0, 0, 0, 0, m0), (33, .getfield 19, 7, 1, 0, 0, 311, m0), (36, .iconst 0, 0, 0, 0, 0, 0, m0), (37, .invokevirtual 208, 0, 2, 0, 0, 649, mX0_howMany), (40, .ireturn, 0, 0, 0, 0, 0, m0)]
theorem oX7_worths_28 : okB mX7_worths 41 kX7_worths_28 28 = true := by decide +kernel
def kX7_worths_41 : List mI := [(41, .aload_n 0, 0, 0, 0, 0, 0, m0), (42, .getfield 44, 7, 6, 0, 0, 316, m0), (45, .aload_n 0, 0, 0, 0, 0, 0, m0), (46, .getfield 19, 7, 1, 0, 0, 311, m0), (49, .invokevirtual 210, 0, 1, 0, 0, 658, mX0_least), (52, .ireturn, 0, 0, 0, 0, 0, m0)]
theorem oX7_worths_41 : okB mX7_worths 53 kX7_worths_41 41 = true := by decide +kernel
def kX7_worths_53 : List mI := [(53, .aload_n 0, 0, 0, 0, 0, 0, m0), (54, .getfield 44, 7, 6, 0, 0, 316, m0), (57, .aload_n 0, 0, 0, 0, 0, 0, m0), (58, .getfield 19, 7, 1, 0, 0, 311, m0), (61, .invokevirtual 213, 0, 1, 0, 0, 662, mX0_greatest), (64, .ireturn, 0, 0, 0, 0, 0, m0)]
theorem oX7_worths_53 : okB mX7_worths 65 kX7_worths_53 53 = true := by decide +kernel
def kX7_worths_65 : List mI := [(65, .iconst (-1), 1, 1, 0, 0, 0, m0), (66, .ireturn, 0, 0, 0, 0, 0, m0)]
theorem oX7_worths_65 : okB mX7_worths 67 kX7_worths_65 65 = true := by decide +kernel
def kX7_ask_0 : List mI := [(0, .aload_n 0, 0, 0, 0, 0, 0, m0), (1, .getfield 44, 7, 6, 0, 0, 316, m0), (4, .aload_n 0, 0, 0, 0, 0, 0, m0), (5, .getfield 19, 7, 1, 0, 0, 311, m0), (8, .invokevirtual 216, 0, 1, 0, 0, 670, mX0_whomToAsk), (11, .ireturn, 0, 0, 0, 0, 0, m0)]
theorem oX7_ask_0 : okB mX7_ask 12 kX7_ask_0 0 = true := by decide +kernel
def kX7_mark_0 : List mI := [(0, .aload_n 0, 0, 0, 0, 0, 0, m0), (1, .iload_n 2, 0, 0, 0, 0, 0, m0), (2, .invokevirtual 89, 7, 1, 0, 0, 434, mX7_noBrick), (5, .ifCond .eq 6, 11, 0, 0, 0, 0, m0), (8, .ldc 219, 1000000, 1, 0, 0, 682, m0), (10, .ireturn, 0, 0, 0, 0, 0, m0)]
theorem oX7_mark_0 : okB mX7_mark 11 kX7_mark_0 0 = true := by decide +kernel
def kX7_mark_11 : List mI := [(11, .iload_n 1, 0, 0, 0, 0, 0, m0), (12, .tableswitch 76 0 5 #[40, 46, 52, 58, 64, 70], 0, 0, 0, 0, 0, m0)]
theorem oX7_mark_11 : okB mX7_mark 52 kX7_mark_11 11 = true := by decide +kernel
def kX7_mark_52 : List mI := [(52, .aload_n 0, 0, 0, 0, 0, 0, m0), (53, .iload_n 2, 0, 0, 0, 0, 0, m0), (54, .invokevirtual 220, 7, 1, 0, 0, 683, mX7_markOfBrick), (57, .ireturn, 0, 0, 0, 0, 0, m0)]
theorem oX7_mark_52 : okB mX7_mark 58 kX7_mark_52 52 = true := by decide +kernel
def kX7_mark_58 : List mI := [(58, .aload_n 0, 0, 0, 0, 0, 0, m0), (59, .iload_n 2, 0, 0, 0, 0, 0, m0), (60, .invokevirtual 223, 7, 1, 0, 0, 687, mX7_markOfArch), (63, .ireturn, 0, 0, 0, 0, 0, m0)]
theorem oX7_mark_58 : okB mX7_mark 64 kX7_mark_58 58 = true := by decide +kernel
def kX7_mark_64 : List mI := [(64, .aload_n 0, 0, 0, 0, 0, 0, m0), (65, .iload_n 2, 0, 0, 0, 0, 0, m0), (66, .invokevirtual 226, 7, 1, 0, 0, 692, mX7_markOfFont), (69, .ireturn, 0, 0, 0, 0, 0, m0)]
theorem oX7_mark_64 : okB mX7_mark 70 kX7_mark_64 64 = true := by decide +kernel
def kX7_mark_70 : List mI := [(70, .aload_n 0, 0, 0, 0, 0, 0, m0), (71, .iload_n 2, 0, 0, 0, 0, 0, m0), (72, .invokevirtual 229, 7, 1, 0, 0, 697, mX7_markOfVault), (75, .ireturn, 0, 0, 0, 0, 0, m0)]
theorem oX7_mark_70 : okB mX7_mark 76 kX7_mark_70 70 = true := by decide +kernel
def kX7_mark_76 : List mI := [(76, .aload_n 0, 0, 0, 0, 0, 0, m0), (77, .iload_n 2, 0, 0, 0, 0, 0, m0), (78, .invokevirtual 232, 7, 1, 0, 0, 702, mX7_markOfStep), (81, .ireturn, 0, 0, 0, 0, 0, m0)]
theorem oX7_mark_76 : okB mX7_mark 82 kX7_mark_76 76 = true := by decide +kernel
def kX7_mark_82 : List mI := [(82, .aload_n 0, 0, 0, 0, 0, 0, m0), (83, .iload_n 2, 0, 0, 0, 0, 0, m0), (84, .invokevirtual 235, 7, 1, 0, 0, 706, mX7_markOfChapel), (87, .ireturn, 0, 0, 0, 0, 0, m0)]
theorem oX7_mark_82 : okB mX7_mark 88 kX7_mark_82 82 = true := by decide +kernel
def kX7_mark_88 : List mI := [(88, .ldc 219, 1000000, 1, 0, 0, 682, m0), (90, .ireturn, 0, 0, 0, 0, 0, m0)]
theorem oX7_mark_88 : okB mX7_mark 91 kX7_mark_88 88 = true := by decide +kernel
def kX7_keep_0 : List mI := [(0, .iload_n 1, 0, 0, 0, 0, 0, m0), (1, .invokestatic 238, 0, 1, 0, 0, 715, mX7_noImage), (4, .ifCond .eq 5, 9, 0, 0, 0, 0, m0), (7, .iconst (-1), 1, 1, 0, 0, 0, m0), (8, .ireturn, 0, 0, 0, 0, 0, m0)]
theorem oX7_keep_0 : okB mX7_keep 9 kX7_keep_0 0 = true := by decide +kernel
def kX7_keep_9 : List mI := [(9, .aload_n 0, 0, 0, 0, 0, 0, m0), (10, .getfield 33, 7, 4, 0, 0, 314, m0), (13, .iload_n 1, 0, 0, 0, 0, 0, m0), (14, .aaload, 5, 0, 0, 0, 0, m0), (15, .aload_n 0, 0, 0, 0, 0, 0, m0), (16, .getfield 29, 7, 3, 0, 0, 313, m0), (19, .invokevirtual 241, 4, 1, 0, 0, 718, mX4_become), (22, .aload_n 0, 0, 0, 0, 0, 0, m0), (23, .getfield 37, 7, 5, 0, 0, 315, m0), (26, .iload_n 1, 0, 0, 0, 0, 0, m0), (27, .iconst 1, 1, 0, 0, 0, 0, m0), (28, .bastore, 1, 0, 0, 0, 0, m0), (29, .aload_n 0, 0, 0, 0, 0, 0, m0), (30, .getfield 29, 7, 3, 0, 0, 313, m0), (33, .getfield 100, 4, 0, 0, 0, 244, m0), (36, .iconst 4, 4, 0, 0, 0, 0, m0), (37, .invokevirtual 179, 3, 1, 0, 0, 573, mX3_howMany), (40, .ireturn, 0, 0, 0, 0, 0, m0)]
theorem oX7_keep_9 : okB mX7_keep 41 kX7_keep_9 9 = true := by decide +kernel
def kX7_back_0 : List mI := [(0, .iload_n 1, 0, 0, 0, 0, 0, m0), (1, .invokestatic 238, 0, 1, 0, 0, 715, mX7_noImage), (4, .ifCond .eq 5, 9, 0, 0, 0, 0, m0), (7, .iconst (-1), 1, 1, 0, 0, 0, m0), (8, .ireturn, 0, 0, 0, 0, 0, m0)]
theorem oX7_back_0 : okB mX7_back 9 kX7_back_0 0 = true := by decide +kernel
def kX7_back_9 : List mI := [(9, .aload_n 0, 0, 0, 0, 0, 0, m0), (10, .getfield 37, 7, 5, 0, 0, 315, m0), (13, .iload_n 1, 0, 0, 0, 0, 0, m0), (14, .baload, 1, 0, 0, 0, 0, m0), (15, .ifCond .ne 6, 21, 0, 0, 0, 0, m0), (18, .bipush (-2), 2, 1, 0, 0, 0, m0), (20, .ireturn, 0, 0, 0, 0, 0, m0)]
theorem oX7_back_9 : okB mX7_back 21 kX7_back_9 9 = true := by decide +kernel
def kX7_back_21 : List mI := [(21, .aload_n 0, 0, 0, 0, 0, 0, m0), (22, .getfield 29, 7, 3, 0, 0, 313, m0), (25, .aload_n 0, 0, 0, 0, 0, 0, m0), (26, .getfield 33, 7, 4, 0, 0, 314, m0), (29, .iload_n 1, 0, 0, 0, 0, 0, m0), (30, .aaload, 5, 0, 0, 0, 0, m0), (31, .invokevirtual 241, 4, 1, 0, 0, 718, mX4_become), (34, .aload_n 0, 0, 0, 0, 0, 0, m0), (35, .getfield 29, 7, 3, 0, 0, 313, m0), (38, .getfield 100, 4, 0, 0, 0, 244, m0), (41, .iconst 4, 4, 0, 0, 0, 0, m0), (42, .invokevirtual 179, 3, 1, 0, 0, 573, mX3_howMany), (45, .ireturn, 0, 0, 0, 0, 0, m0)]
theorem oX7_back_21 : okB mX7_back 46 kX7_back_21 21 = true := by decide +kernel
def kX7_count_0 : List mI := [(0, .iload_n 1, 0, 0, 0, 0, 0, m0), (1, .tableswitch 111 0 7 #[47, 55, 63, 71, 79, 87, 95, 103], 0, 0, 0, 0, 0, m0)]
theorem oX7_count_0 : okB mX7_count 48 kX7_count_0 0 = true := by decide +kernel
def kX7_count_48 : List mI := [(48, .aload_n 0, 0, 0, 0, 0, 0, m0), (49, .getfield 19, 7, 1, 0, 0, 311, m0), (52, .getfield 245, 5, 0, 0, 0, 148, m0), (55, .ireturn, 0, 0, 0, 0, 0, m0)]
theorem oX7_count_48 : okB mX7_count 56 kX7_count_48 48 = true := by decide +kernel
def kX7_count_56 : List mI := [(56, .aload_n 0, 0, 0, 0, 0, 0, m0), (57, .getfield 19, 7, 1, 0, 0, 311, m0), (60, .getfield 122, 5, 1, 0, 0, 151, m0), (63, .ireturn, 0, 0, 0, 0, 0, m0)]
theorem oX7_count_56 : okB mX7_count 64 kX7_count_56 56 = true := by decide +kernel
def kX7_count_64 : List mI := [(64, .aload_n 0, 0, 0, 0, 0, 0, m0), (65, .getfield 19, 7, 1, 0, 0, 311, m0), (68, .getfield 150, 5, 2, 0, 0, 157, m0), (71, .ireturn, 0, 0, 0, 0, 0, m0)]
theorem oX7_count_64 : okB mX7_count 72 kX7_count_64 64 = true := by decide +kernel
def kX7_count_72 : List mI := [(72, .aload_n 0, 0, 0, 0, 0, 0, m0), (73, .getfield 19, 7, 1, 0, 0, 311, m0), (76, .getfield 248, 5, 3, 0, 0, 161, m0), (79, .ireturn, 0, 0, 0, 0, 0, m0)]
theorem oX7_count_72 : okB mX7_count 80 kX7_count_72 72 = true := by decide +kernel
def kX7_count_80 : List mI := [(80, .aload_n 0, 0, 0, 0, 0, 0, m0), (81, .getfield 19, 7, 1, 0, 0, 311, m0), (84, .getfield 251, 5, 4, 0, 0, 165, m0), (87, .ireturn, 0, 0, 0, 0, 0, m0)]
theorem oX7_count_80 : okB mX7_count 88 kX7_count_80 80 = true := by decide +kernel
def kX7_count_88 : List mI := [(88, .aload_n 0, 0, 0, 0, 0, 0, m0), (89, .getfield 44, 7, 6, 0, 0, 316, m0), (92, .getfield 86, 0, 0, 0, 0, 263, m0), (95, .ireturn, 0, 0, 0, 0, 0, m0)]
theorem oX7_count_88 : okB mX7_count 96 kX7_count_88 88 = true := by decide +kernel
def kX7_count_96 : List mI := [(96, .aload_n 0, 0, 0, 0, 0, 0, m0), (97, .getfield 29, 7, 3, 0, 0, 313, m0), (100, .getfield 169, 4, 2, 0, 0, 247, m0), (103, .ireturn, 0, 0, 0, 0, 0, m0)]
theorem oX7_count_96 : okB mX7_count 104 kX7_count_96 96 = true := by decide +kernel
def kX7_count_104 : List mI := [(104, .aload_n 0, 0, 0, 0, 0, 0, m0), (105, .getfield 10, 7, 0, 0, 0, 310, m0), (108, .getfield 70, 2, 1, 0, 0, 113, m0), (111, .ireturn, 0, 0, 0, 0, 0, m0)]
theorem oX7_count_104 : okB mX7_count 112 kX7_count_104 104 = true := by decide +kernel
def kX7_count_112 : List mI := [(112, .iconst (-1), 1, 1, 0, 0, 0, m0), (113, .ireturn, 0, 0, 0, 0, 0, m0)]
theorem oX7_count_112 : okB mX7_count 114 kX7_count_112 112 = true := by decide +kernel
def kX7_trace_0 : List mI := [(0, .aload_n 0, 0, 0, 0, 0, 0, m0), (1, .getfield 66, 7, 10, 0, 0, 320, m0), (4, .lreturn, 0, 0, 0, 0, 0, m0)]
theorem oX7_trace_0 : okB mX7_trace 5 kX7_trace_0 0 = true := by decide +kernel
def kX7_noBrick_0 : List mI := [(0, .iload_n 1, 0, 0, 0, 0, 0, m0), (1, .ifCond .lt 14, 15, 0, 0, 0, 0, m0), (4, .iload_n 1, 0, 0, 0, 0, 0, m0), (5, .aload_n 0, 0, 0, 0, 0, 0, m0), (6, .getfield 19, 7, 1, 0, 0, 311, m0), (9, .getfield 150, 5, 2, 0, 0, 157, m0), (12, .if_icmp .lt 7, 19, 0, 0, 0, 0, m0)]
theorem oX7_noBrick_0 : okB mX7_noBrick 15 kX7_noBrick_0 0 = true := by decide +kernel
def kX7_noBrick_15 : List mI := [(15, .iconst 1, 1, 0, 0, 0, 0, m0), (16, .goto 4, 20, 0, 0, 0, 0, m0)]
theorem oX7_noBrick_15 : okB mX7_noBrick 19 kX7_noBrick_15 15 = true := by decide +kernel
def kX7_noBrick_19 : List mI := [(19, .iconst 0, 0, 0, 0, 0, 0, m0)]
theorem oX7_noBrick_19 : okB mX7_noBrick 20 kX7_noBrick_19 19 = true := by decide +kernel
def kX7_noBrick_20 : List mI := [(20, .ireturn, 1, 0, 0, 0, 0, m0)]
theorem oX7_noBrick_20 : okB mX7_noBrick 21 kX7_noBrick_20 20 = true := by decide +kernel
def kX7_noColumn_0 : List mI := [(0, .iload_n 1, 0, 0, 0, 0, 0, m0), (1, .ifCond .lt 14, 15, 0, 0, 0, 0, m0), (4, .iload_n 1, 0, 0, 0, 0, 0, m0), (5, .aload_n 0, 0, 0, 0, 0, 0, m0), (6, .getfield 19, 7, 1, 0, 0, 311, m0), (9, .getfield 245, 5, 0, 0, 0, 148, m0), (12, .if_icmp .lt 7, 19, 0, 0, 0, 0, m0)]
theorem oX7_noColumn_0 : okB mX7_noColumn 15 kX7_noColumn_0 0 = true := by decide +kernel
def kX7_noColumn_15 : List mI := [(15, .iconst 1, 1, 0, 0, 0, 0, m0), (16, .goto 4, 20, 0, 0, 0, 0, m0)]
theorem oX7_noColumn_15 : okB mX7_noColumn 19 kX7_noColumn_15 15 = true := by decide +kernel
def kX7_noColumn_19 : List mI := [(19, .iconst 0, 0, 0, 0, 0, 0, m0)]
theorem oX7_noColumn_19 : okB mX7_noColumn 20 kX7_noColumn_19 19 = true := by decide +kernel
def kX7_noColumn_20 : List mI := [(20, .ireturn, 1, 0, 0, 0, 0, m0)]
theorem oX7_noColumn_20 : okB mX7_noColumn 21 kX7_noColumn_20 20 = true := by decide +kernel
def kX7_noJudge_0 : List mI := [(0, .iload_n 1, 0, 0, 0, 0, 0, m0), (1, .ifCond .lt 14, 15, 0, 0, 0, 0, m0), (4, .iload_n 1, 0, 0, 0, 0, 0, m0), (5, .aload_n 0, 0, 0, 0, 0, 0, m0), (6, .getfield 19, 7, 1, 0, 0, 311, m0), (9, .getfield 248, 5, 3, 0, 0, 161, m0), (12, .if_icmp .lt 7, 19, 0, 0, 0, 0, m0)]
theorem oX7_noJudge_0 : okB mX7_noJudge 15 kX7_noJudge_0 0 = true := by decide +kernel
def kX7_noJudge_15 : List mI := [(15, .iconst 1, 1, 0, 0, 0, 0, m0), (16, .goto 4, 20, 0, 0, 0, 0, m0)]
theorem oX7_noJudge_15 : okB mX7_noJudge 19 kX7_noJudge_15 15 = true := by decide +kernel
def kX7_noJudge_19 : List mI := [(19, .iconst 0, 0, 0, 0, 0, 0, m0)]
theorem oX7_noJudge_19 : okB mX7_noJudge 20 kX7_noJudge_19 19 = true := by decide +kernel
def kX7_noJudge_20 : List mI := [(20, .ireturn, 1, 0, 0, 0, 0, m0)]
theorem oX7_noJudge_20 : okB mX7_noJudge 21 kX7_noJudge_20 20 = true := by decide +kernel
def kX7_noHolder_0 : List mI := [(0, .iload_n 0, 0, 0, 0, 0, 0, m0), (1, .ifCond .lt 9, 10, 0, 0, 0, 0, m0), (4, .iload_n 0, 0, 0, 0, 0, 0, m0), (5, .bipush 6, 6, 0, 0, 0, 0, m0), (7, .if_icmp .lt 7, 14, 0, 0, 0, 0, m0)]
theorem oX7_noHolder_0 : okB mX7_noHolder 10 kX7_noHolder_0 0 = true := by decide +kernel
def kX7_noHolder_10 : List mI := [(10, .iconst 1, 1, 0, 0, 0, 0, m0), (11, .goto 4, 15, 0, 0, 0, 0, m0)]
theorem oX7_noHolder_10 : okB mX7_noHolder 14 kX7_noHolder_10 10 = true := by decide +kernel
def kX7_noHolder_14 : List mI := [(14, .iconst 0, 0, 0, 0, 0, 0, m0)]
theorem oX7_noHolder_14 : okB mX7_noHolder 15 kX7_noHolder_14 14 = true := by decide +kernel
def kX7_noHolder_15 : List mI := [(15, .ireturn, 1, 0, 0, 0, 0, m0)]
theorem oX7_noHolder_15 : okB mX7_noHolder 16 kX7_noHolder_15 15 = true := by decide +kernel
def kX7_noImage_0 : List mI := [(0, .iload_n 0, 0, 0, 0, 0, 0, m0), (1, .ifCond .lt 8, 9, 0, 0, 0, 0, m0), (4, .iload_n 0, 0, 0, 0, 0, 0, m0), (5, .iconst 2, 2, 0, 0, 0, 0, m0), (6, .if_icmp .lt 7, 13, 0, 0, 0, 0, m0)]
theorem oX7_noImage_0 : okB mX7_noImage 9 kX7_noImage_0 0 = true := by decide +kernel
def kX7_noImage_9 : List mI := [(9, .iconst 1, 1, 0, 0, 0, 0, m0), (10, .goto 4, 14, 0, 0, 0, 0, m0)]
theorem oX7_noImage_9 : okB mX7_noImage 13 kX7_noImage_9 9 = true := by decide +kernel
def kX7_noImage_13 : List mI := [(13, .iconst 0, 0, 0, 0, 0, 0, m0)]
theorem oX7_noImage_13 : okB mX7_noImage 14 kX7_noImage_13 13 = true := by decide +kernel
def kX7_noImage_14 : List mI := [(14, .ireturn, 1, 0, 0, 0, 0, m0)]
theorem oX7_noImage_14 : okB mX7_noImage 15 kX7_noImage_14 14 = true := by decide +kernel
def kX7_hasBit_0 : List mI := [(0, .iload_n 0, 0, 0, 0, 0, 0, m0), (1, .iload_n 1, 0, 0, 0, 0, 0, m0), (2, .ishr, 0, 0, 0, 0, 0, m0), (3, .iconst 1, 1, 0, 0, 0, 0, m0), (4, .iand, 0, 0, 0, 0, 0, m0), (5, .iconst 1, 1, 0, 0, 0, 0, m0), (6, .if_icmp .ne 7, 13, 0, 0, 0, 0, m0), (9, .iconst 1, 1, 0, 0, 0, 0, m0), (10, .goto 4, 14, 0, 0, 0, 0, m0)]
theorem oX7_hasBit_0 : okB mX7_hasBit 13 kX7_hasBit_0 0 = true := by decide +kernel
def kX7_hasBit_13 : List mI := [(13, .iconst 0, 0, 0, 0, 0, 0, m0)]
theorem oX7_hasBit_13 : okB mX7_hasBit 14 kX7_hasBit_13 13 = true := by decide +kernel
def kX7_hasBit_14 : List mI := [(14, .ireturn, 1, 0, 0, 0, 0, m0)]
theorem oX7_hasBit_14 : okB mX7_hasBit 15 kX7_hasBit_14 14 = true := by decide +kernel
def kX7_shapeAt_0 : List mI := [(0, .iconst 2, 2, 0, 0, 0, 0, m0), (1, .iload_n 1, 0, 0, 0, 0, 0, m0), (2, .imul, 0, 0, 0, 0, 0, m0), (3, .iload_n 0, 0, 0, 0, 0, 0, m0), (4, .iadd, 0, 0, 0, 0, 0, m0), (5, .iconst 3, 3, 0, 0, 0, 0, m0), (6, .irem, 0, 0, 0, 0, 0, m0), (7, .ireturn, 0, 0, 0, 0, 0, m0)]
theorem oX7_shapeAt_0 : okB mX7_shapeAt 8 kX7_shapeAt_0 0 = true := by decide +kernel
def kX7_fits_0 : List mI := [(0, .aload_n 0, 0, 0, 0, 0, 0, m0), (1, .getfield 29, 7, 3, 0, 0, 313, m0), (4, .getfield 100, 4, 0, 0, 0, 244, m0), (7, .getfield 109, 3, 1, 0, 0, 224, m0), (10, .iload_n 1, 0, 0, 0, 0, 0, m0), (11, .iaload, 0, 0, 0, 0, 0, m0), (12, .iconst 4, 4, 0, 0, 0, 0, m0), (13, .if_icmp .ne 5, 18, 0, 0, 0, 0, m0), (16, .iconst 0, 0, 0, 0, 0, 0, m0), (17, .ireturn, 0, 0, 0, 0, 0, m0)]
theorem oX7_fits_0 : okB mX7_fits 18 kX7_fits_0 0 = true := by decide +kernel
def kX7_fits_18 : List mI := [(18, .iconst 0, 0, 0, 0, 0, 0, m0), (19, .istore_n 2, 0, 0, 0, 0, 0, m0), (20, .iconst 0, 0, 0, 0, 0, 0, m0), (21, .istore_n 3, 0, 0, 0, 0, 0, m0)]
theorem oX7_fits_18 : okB mX7_fits 22 kX7_fits_18 18 = true := by decide +kernel
def kX7_fits_22 : List mI := [(22, .iload_n 3, 0, 0, 0, 0, 0, m0), (23, .aload_n 0, 0, 0, 0, 0, 0, m0), (24, .getfield 19, 7, 1, 0, 0, 311, m0), (27, .getfield 245, 5, 0, 0, 0, 148, m0), (30, .if_icmp .ge 58, 88, 0, 0, 0, 0, m0), (33, .aload_n 0, 0, 0, 0, 0, 0, m0), (34, .getfield 29, 7, 3, 0, 0, 313, m0), (37, .getfield 100, 4, 0, 0, 0, 244, m0), (40, .iload_n 3, 0, 0, 0, 0, 0, m0), (41, .invokevirtual 163, 3, 1, 0, 0, 442, mX3_height), (44, .istore 4, 0, 0, 0, 0, 0, m0), (46, .iload 4, 0, 0, 0, 0, 0, m0), (48, .aload_n 0, 0, 0, 0, 0, 0, m0), (49, .getfield 19, 7, 1, 0, 0, 311, m0), (52, .getfield 122, 5, 1, 0, 0, 151, m0), (55, .if_icmp .ge 27, 82, 0, 0, 0, 0, m0), (58, .iload_n 3, 0, 0, 0, 0, 0, m0), (59, .iload 4, 0, 0, 0, 0, 0, m0), (61, .invokestatic 254, 0, 2, 0, 0, 446, mX7_shapeAt), (64, .aload_n 0, 0, 0, 0, 0, 0, m0), (65, .getfield 19, 7, 1, 0, 0, 311, m0), (68, .getfield 93, 5, 6, 0, 0, 170, m0), (71, .iload_n 1, 0, 0, 0, 0, 0, m0), (72, .iaload, 0, 0, 0, 0, 0, m0), (73, .if_icmp .ne 9, 82, 0, 0, 0, 0, m0), (76, .iload_n 2, 0, 0, 0, 0, 0, m0), (77, .iconst 1, 1, 0, 0, 0, 0, m0), (78, .iload_n 3, 0, 0, 0, 0, 0, m0), (79, .ishl, 0, 0, 0, 0, 0, m0), (80, .ior, 0, 0, 0, 0, 0, m0), (81, .istore_n 2, 0, 0, 0, 0, 0, m0)]
theorem oX7_fits_22 : okB mX7_fits 82 kX7_fits_22 22 = true := by decide +kernel
def kX7_fits_82 : List mI := [(82, .iinc 3 1, 1, 0, 0, 0, 0, m0), (85, .goto (-63), 22, 0, 0, 0, 0, m0)]
theorem oX7_fits_82 : okB mX7_fits 88 kX7_fits_82 82 = true := by decide +kernel
def kX7_fits_88 : List mI := [(88, .iload_n 2, 0, 0, 0, 0, 0, m0), (89, .ireturn, 0, 0, 0, 0, 0, m0)]
theorem oX7_fits_88 : okB mX7_fits 90 kX7_fits_88 88 = true := by decide +kernel
def kX7_wouldHold_0 : List mI := [(0, .iconst 0, 0, 0, 0, 0, 0, m0), (1, .istore_n 2, 0, 0, 0, 0, 0, m0), (2, .iconst 0, 0, 0, 0, 0, 0, m0), (3, .istore_n 3, 0, 0, 0, 0, 0, m0)]
theorem oX7_wouldHold_0 : okB mX7_wouldHold 4 kX7_wouldHold_0 0 = true := by decide +kernel
def kX7_wouldHold_4 : List mI := [(4, .iload_n 3, 0, 0, 0, 0, 0, m0), (5, .aload_n 0, 0, 0, 0, 0, 0, m0), (6, .getfield 19, 7, 1, 0, 0, 311, m0), (9, .getfield 150, 5, 2, 0, 0, 157, m0), (12, .if_icmp .ge 38, 50, 0, 0, 0, 0, m0), (15, .aload_n 0, 0, 0, 0, 0, 0, m0), (16, .getfield 19, 7, 1, 0, 0, 311, m0), (19, .iload_n 1, 0, 0, 0, 0, 0, m0), (20, .aload_n 0, 0, 0, 0, 0, 0, m0), (21, .getfield 29, 7, 3, 0, 0, 313, m0), (24, .getfield 100, 4, 0, 0, 0, 244, m0), (27, .getfield 104, 3, 2, 0, 0, 226, m0), (30, .iload_n 3, 0, 0, 0, 0, 0, m0), (31, .iaload, 0, 0, 0, 0, 0, m0), (32, .invokevirtual 196, 5, 2, 0, 0, 480, mX5_isFor), (35, .ifCond .eq 9, 44, 0, 0, 0, 0, m0), (38, .iload_n 2, 0, 0, 0, 0, 0, m0), (39, .iconst 1, 1, 0, 0, 0, 0, m0), (40, .iload_n 3, 0, 0, 0, 0, 0, m0), (41, .ishl, 0, 0, 0, 0, 0, m0), (42, .ior, 0, 0, 0, 0, 0, m0), (43, .istore_n 2, 0, 0, 0, 0, 0, m0)]
theorem oX7_wouldHold_4 : okB mX7_wouldHold 44 kX7_wouldHold_4 4 = true := by decide +kernel
def kX7_wouldHold_44 : List mI := [(44, .iinc 3 1, 1, 0, 0, 0, 0, m0), (47, .goto (-43), 4, 0, 0, 0, 0, m0)]
theorem oX7_wouldHold_44 : okB mX7_wouldHold 50 kX7_wouldHold_44 44 = true := by decide +kernel
def kX7_wouldHold_50 : List mI := [(50, .iload_n 2, 0, 0, 0, 0, 0, m0), (51, .ireturn, 0, 0, 0, 0, 0, m0)]
theorem oX7_wouldHold_50 : okB mX7_wouldHold 52 kX7_wouldHold_50 50 = true := by decide +kernel
def kX7_spreadChances_0 : List mI := [(0, .aload_n 0, 0, 0, 0, 0, 0, m0), (1, .getfield 62, 7, 9, 0, 0, 319, m0), (4, .lconst 0, 0, 0, 0, 0, 0, m0), (5, .invokestatic 257, 0, 2, 0, 0, 629, mJ7_fill_d0a16), (8, .aload_n 0, 0, 0, 0, 0, 0, m0), (9, .getfield 62, 7, 9, 0, 0, 319, m0), (12, .iconst 0, 0, 0, 0, 0, 0, m0), (13, .lconst 1, 1, 0, 0, 0, 0, m0), (14, .lastore, 0, 0, 0, 0, 0, m0), (15, .iconst 0, 0, 0, 0, 0, 0, m0), (16, .istore_n 3, 0, 0, 0, 0, 0, m0)]
theorem oX7_spreadChances_0 : okB mX7_spreadChances 17 kX7_spreadChances_0 0 = true := by decide +kernel
def kX7_spreadChances_17 : List mI := [(17, .iload_n 3, 0, 0, 0, 0, 0, m0), (18, .bipush 10, 10, 0, 0, 0, 0, m0), (20, .if_icmp .ge 90, 110, 0, 0, 0, 0, m0), (23, .iload_n 3, 0, 0, 0, 0, 0, m0), (24, .iload_n 2, 0, 0, 0, 0, 0, m0), (25, .if_icmp .ge 7, 32, 0, 0, 0, 0, m0), (28, .iload_n 1, 0, 0, 0, 0, 0, m0), (29, .goto 4, 33, 0, 0, 0, 0, m0)]
theorem oX7_spreadChances_17 : okB mX7_spreadChances 32 kX7_spreadChances_17 17 = true := by decide +kernel
def kX7_spreadChances_32 : List mI := [(32, .iconst 0, 0, 0, 0, 0, 0, m0)]
theorem oX7_spreadChances_32 : okB mX7_spreadChances 33 kX7_spreadChances_32 32 = true := by decide +kernel
def kX7_spreadChances_33 : List mI := [(33, .istore 4, 0, 0, 0, 0, 0, m0), (35, .bipush 10, 10, 0, 0, 0, 0, m0), (37, .istore 5, 0, 0, 0, 0, 0, m0)]
theorem oX7_spreadChances_33 : okB mX7_spreadChances 39 kX7_spreadChances_33 33 = true := by decide +kernel
def kX7_spreadChances_39 : List mI := [(39, .iload 5, 0, 0, 0, 0, 0, m0), (41, .ifCond .le 44, 85, 0, 0, 0, 0, m0), (44, .aload_n 0, 0, 0, 0, 0, 0, m0), (45, .getfield 62, 7, 9, 0, 0, 319, m0), (48, .iload 5, 0, 0, 0, 0, 0, m0), (50, .aload_n 0, 0, 0, 0, 0, 0, m0), (51, .getfield 62, 7, 9, 0, 0, 319, m0), (54, .iload 5, 0, 0, 0, 0, 0, m0), (56, .laload, 0, 0, 0, 0, 0, m0), (57, .bipush 10, 10, 0, 0, 0, 0, m0), (59, .iload 4, 0, 0, 0, 0, 0, m0), (61, .isub, 0, 0, 0, 0, 0, m0), (62, .i2l, 0, 0, 0, 0, 0, m0), (63, .lmul, 0, 0, 0, 0, 0, m0), (64, .aload_n 0, 0, 0, 0, 0, 0, m0), (65, .getfield 62, 7, 9, 0, 0, 319, m0), (68, .iload 5, 0, 0, 0, 0, 0, m0), (70, .iconst 1, 1, 0, 0, 0, 0, m0), (71, .isub, 0, 0, 0, 0, 0, m0), (72, .laload, 0, 0, 0, 0, 0, m0), (73, .iload 4, 0, 0, 0, 0, 0, m0), (75, .i2l, 0, 0, 0, 0, 0, m0), (76, .lmul, 0, 0, 0, 0, 0, m0), (77, .ladd, 0, 0, 0, 0, 0, m0), (78, .lastore, 0, 0, 0, 0, 0, m0), (79, .iinc 5 (-1), 1, 1, 0, 0, 0, m0), (82, .goto (-43), 39, 0, 0, 0, 0, m0)]
theorem oX7_spreadChances_39 : okB mX7_spreadChances 85 kX7_spreadChances_39 39 = true := by decide +kernel
def kX7_spreadChances_85 : List mI := [(85, .aload_n 0, 0, 0, 0, 0, 0, m0), (86, .getfield 62, 7, 9, 0, 0, 319, m0), (89, .iconst 0, 0, 0, 0, 0, 0, m0), (90, .aload_n 0, 0, 0, 0, 0, 0, m0), (91, .getfield 62, 7, 9, 0, 0, 319, m0), (94, .iconst 0, 0, 0, 0, 0, 0, m0), (95, .laload, 0, 0, 0, 0, 0, m0), (96, .bipush 10, 10, 0, 0, 0, 0, m0), (98, .iload 4, 0, 0, 0, 0, 0, m0), (100, .isub, 0, 0, 0, 0, 0, m0), (101, .i2l, 0, 0, 0, 0, 0, m0), (102, .lmul, 0, 0, 0, 0, 0, m0), (103, .lastore, 0, 0, 0, 0, 0, m0), (104, .iinc 3 1, 1, 0, 0, 0, 0, m0), (107, .goto (-90), 17, 0, 0, 0, 0, m0)]
theorem oX7_spreadChances_85 : okB mX7_spreadChances 110 kX7_spreadChances_85 85 = true := by decide +kernel
def kX7_spreadChances_110 : List mI := [(110, .return_, 0, 0, 0, 0, 0, m0)]
theorem oX7_spreadChances_110 : okB mX7_spreadChances 111 kX7_spreadChances_110 110 = true := by decide +kernel
def kX7_markOfBrick_0 : List mI := [(0, .aload_n 0, 0, 0, 0, 0, 0, m0), (1, .dup, 0, 0, 0, 0, 0, m0), (2, .getfield 66, 7, 10, 0, 0, 320, m0), (5, .lconst 1, 1, 0, 0, 0, 0, m0), (6, .ladd, 0, 0, 0, 0, 0, m0), (7, .putfield 66, 7, 10, 2, 0, 320, m0), (10, .aload_n 0, 0, 0, 0, 0, 0, m0), (11, .getfield 29, 7, 3, 0, 0, 313, m0), (14, .getfield 100, 4, 0, 0, 0, 244, m0), (17, .getfield 104, 3, 2, 0, 0, 226, m0), (20, .iload_n 1, 0, 0, 0, 0, 0, m0), (21, .iaload, 0, 0, 0, 0, 0, m0), (22, .ireturn, 0, 0, 0, 0, 0, m0)]
theorem oX7_markOfBrick_0 : okB mX7_markOfBrick 23 kX7_markOfBrick_0 0 = true := by decide +kernel
def kX7_markOfArch_0 : List mI := [(0, .aload_n 0, 0, 0, 0, 0, 0, m0), (1, .dup, 0, 0, 0, 0, 0, m0), (2, .getfield 66, 7, 10, 0, 0, 320, m0), (5, .ldc2_w 263, 10, 0, 0, 0, 691, m0), (8, .ladd, 0, 0, 0, 0, 0, m0), (9, .putfield 66, 7, 10, 2, 0, 320, m0), (12, .aload_n 0, 0, 0, 0, 0, 0, m0), (13, .iload_n 1, 0, 0, 0, 0, 0, m0), (14, .invokevirtual 220, 7, 1, 0, 0, 683, mX7_markOfBrick), (17, .aload_n 0, 0, 0, 0, 0, 0, m0), (18, .getfield 19, 7, 1, 0, 0, 311, m0), (21, .getfield 93, 5, 6, 0, 0, 170, m0), (24, .iload_n 1, 0, 0, 0, 0, 0, m0), (25, .iaload, 0, 0, 0, 0, 0, m0), (26, .iadd, 0, 0, 0, 0, 0, m0), (27, .ireturn, 0, 0, 0, 0, 0, m0)]
theorem oX7_markOfArch_0 : okB mX7_markOfArch 28 kX7_markOfArch_0 0 = true := by decide +kernel
def kX7_markOfFont_0 : List mI := [(0, .aload_n 0, 0, 0, 0, 0, 0, m0), (1, .dup, 0, 0, 0, 0, 0, m0), (2, .getfield 66, 7, 10, 0, 0, 320, m0), (5, .ldc2_w 265, 100, 0, 0, 0, 696, m0), (8, .ladd, 0, 0, 0, 0, 0, m0), (9, .putfield 66, 7, 10, 2, 0, 320, m0), (12, .aload_n 0, 0, 0, 0, 0, 0, m0), (13, .iload_n 1, 0, 0, 0, 0, 0, m0), (14, .invokevirtual 220, 7, 1, 0, 0, 683, mX7_markOfBrick), (17, .aload_n 0, 0, 0, 0, 0, 0, m0), (18, .getfield 29, 7, 3, 0, 0, 313, m0), (21, .getfield 100, 4, 0, 0, 0, 244, m0), (24, .iconst 4, 4, 0, 0, 0, 0, m0), (25, .invokevirtual 179, 3, 1, 0, 0, 573, mX3_howMany), (28, .isub, 0, 0, 0, 0, 0, m0), (29, .ireturn, 0, 0, 0, 0, 0, m0)]
theorem oX7_markOfFont_0 : okB mX7_markOfFont 30 kX7_markOfFont_0 0 = true := by decide +kernel
def kX7_markOfVault_0 : List mI := [(0, .aload_n 0, 0, 0, 0, 0, 0, m0), (1, .dup, 0, 0, 0, 0, 0, m0), (2, .getfield 66, 7, 10, 0, 0, 320, m0), (5, .ldc2_w 267, 1000, 0, 0, 0, 701, m0), (8, .ladd, 0, 0, 0, 0, 0, m0), (9, .putfield 66, 7, 10, 2, 0, 320, m0), (12, .aload_n 0, 0, 0, 0, 0, 0, m0), (13, .iload_n 1, 0, 0, 0, 0, 0, m0), (14, .invokevirtual 223, 7, 1, 0, 0, 687, mX7_markOfArch), (17, .iconst 2, 2, 0, 0, 0, 0, m0), (18, .imul, 0, 0, 0, 0, 0, m0), (19, .ireturn, 0, 0, 0, 0, 0, m0)]
theorem oX7_markOfVault_0 : okB mX7_markOfVault 20 kX7_markOfVault_0 0 = true := by decide +kernel
def kX7_markOfStep_0 : List mI := [(0, .aload_n 0, 0, 0, 0, 0, 0, m0), (1, .dup, 0, 0, 0, 0, 0, m0), (2, .getfield 66, 7, 10, 0, 0, 320, m0), (5, .ldc2_w 203, 10000, 0, 0, 0, 632, m0), (8, .ladd, 0, 0, 0, 0, 0, m0), (9, .putfield 66, 7, 10, 2, 0, 320, m0), (12, .aload_n 0, 0, 0, 0, 0, 0, m0), (13, .iload_n 1, 0, 0, 0, 0, 0, m0), (14, .invokevirtual 226, 7, 1, 0, 0, 692, mX7_markOfFont), (17, .iload_n 1, 0, 0, 0, 0, 0, m0), (18, .iadd, 0, 0, 0, 0, 0, m0), (19, .ireturn, 0, 0, 0, 0, 0, m0)]
theorem oX7_markOfStep_0 : okB mX7_markOfStep 20 kX7_markOfStep_0 0 = true := by decide +kernel
def kX7_markOfChapel_0 : List mI := [(0, .aload_n 0, 0, 0, 0, 0, 0, m0), (1, .dup, 0, 0, 0, 0, 0, m0), (2, .getfield 66, 7, 10, 0, 0, 320, m0), (5, .ldc2_w 269, 100000, 0, 0, 0, 710, m0), (8, .ladd, 0, 0, 0, 0, 0, m0), (9, .putfield 66, 7, 10, 2, 0, 320, m0), (12, .aload_n 0, 0, 0, 0, 0, 0, m0), (13, .iload_n 1, 0, 0, 0, 0, 0, m0), (14, .invokevirtual 220, 7, 1, 0, 0, 683, mX7_markOfBrick), (17, .aload_n 0, 0, 0, 0, 0, 0, m0), (18, .getfield 19, 7, 1, 0, 0, 311, m0), (21, .getfield 97, 5, 7, 0, 0, 173, m0), (24, .iload_n 1, 0, 0, 0, 0, 0, m0), (25, .iaload, 0, 0, 0, 0, 0, m0), (26, .iadd, 0, 0, 0, 0, 0, m0), (27, .ireturn, 0, 0, 0, 0, 0, m0)]
theorem oX7_markOfChapel_0 : okB mX7_markOfChapel 28 kX7_markOfChapel_0 0 = true := by decide +kernel

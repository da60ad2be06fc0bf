def kX7_init_0 : List mI := [(0, .aload_n 0, 0, 0, 0, 0, 0, m0), (1, .invokespecial 1, 1, 0, 0, 0, 101, m0), (4, .aload_n 0, 0, 0, 0, 0, 0, m0), (5, .bipush 120, 120, 0, 0, 0, 0, m0), (7, .newarray .int, 0, 120, 202, 2853, 0, m0), (9, .putfield 9, 7, 0, 3, 1, 320, m0), (12, .aload_n 0, 0, 0, 0, 0, 0, m0), (13, .iconst 0, 0, 0, 0, 0, 0, m0), (14, .putfield 13, 7, 1, 0, 0, 321, m0), (17, .aload_n 0, 0, 0, 0, 0, 0, m0), (18, .new 17, 2, 6, 202, 2853, 104, m0), (21, .dup, 0, 0, 0, 0, 0, m0), (22, .aload_n 0, 0, 0, 0, 0, 0, m0), (23, .getfield 9, 7, 0, 0, 0, 320, m0), (26, .invokespecial 19, 0, 1, 0, 0, 106, mX2_init), (29, .putfield 22, 7, 2, 3, 1, 322, m0), (32, .aload_n 0, 0, 0, 0, 0, 0, m0), (33, .new 26, 5, 11, 202, 2853, 130, m0), (36, .dup, 0, 0, 0, 0, 0, m0), (37, .invokespecial 28, 0, 0, 6, 44, 132, mX5_init), (40, .putfield 29, 7, 3, 3, 0, 323, m0), (43, .aload_n 0, 0, 0, 0, 0, 0, m0), (44, .new 26, 5, 11, 202, 2853, 130, m0), (47, .dup, 0, 0, 0, 0, 0, m0), (48, .invokespecial 28, 0, 0, 6, 44, 132, mX5_init), (51, .putfield 33, 7, 4, 3, 0, 324, m0), (54, .aload_n 0, 0, 0, 0, 0, 0, m0), (55, .new 36, 4, 3, 202, 2853, 207, m0), (58, .dup, 0, 0, 0, 0, 0, m0), (59, .invokespecial 38, 0, 0, 56, 505, 209, mX4_init), (62, .putfield 39, 7, 5, 3, 1, 325, m0), (65, .aload_n 0, 0, 0, 0, 0, 0, m0), (66, .iconst 2, 2, 0, 0, 0, 0, m0), (67, .anewarray 36, 5, 2, 202, 2853, 207, m0), (70, .putfield 43, 7, 6, 3, 1, 326, m0), (73, .aload_n 0, 0, 0, 0, 0, 0, m0), (74, .iconst 2, 2, 0, 0, 0, 0, m0), (75, .newarray .boolean, 1, 2, 202, 2853, 0, m0), (77, .putfield 47, 7, 7, 3, 1, 327, m0), (80, .aload_n 0, 0, 0, 0, 0, 0, m0), (81, .new 51, 0, 3, 202, 2853, 254, m0), (84, .dup, 0, 0, 0, 0, 0, m0), (85, .invokespecial 53, 0, 0, 2, 8, 256, mX0_init), (88, .putfield 54, 7, 8, 3, 1, 328, m0), (91, .aload_n 0, 0, 0, 0, 0, 0, m0), (92, .new 58, 1, 6, 202, 2853, 272, m0), (95, .dup, 0, 0, 0, 0, 0, m0), (96, .invokespecial 60, 0, 0, 6, 1055, 274, mX1_init), (99, .putfield 61, 7, 9, 3, 1, 329, m0), (102, .aload_n 0, 0, 0, 0, 0, 0, m0), (103, .new 65, 6, 1, 202, 2853, 297, m0), (106, .dup, 0, 0, 0, 0, 0, m0), (107, .invokespecial 67, 0, 0, 1, 5, 299, mX6_init), (110, .putfield 68, 7, 10, 3, 1, 330, m0), (113, .aload_n 0, 0, 0, 0, 0, 0, m0), (114, .bipush 11, 11, 0, 0, 0, 0, m0), (116, .newarray .long, 3, 11, 202, 2853, 0, m0), (118, .putfield 72, 7, 11, 3, 1, 331, m0), (121, .aload_n 0, 0, 0, 0, 0, 0, m0), (122, .lconst 0, 0, 0, 0, 0, 0, m0), (123, .putfield 76, 7, 12, 2, 0, 332, m0), (126, .iconst 0, 0, 0, 0, 0, 0, m0), (127, .istore_n 1, 0, 0, 0, 0, 0, m0)]
theorem oX7_init_0 : okB mX7_init 128 kX7_init_0 0 = true := by decide +kernel
def kX7_init_128 : List mI := [(128, .iload_n 1, 0, 0, 0, 0, 0, m0), (129, .iconst 2, 2, 0, 0, 0, 0, m0), (130, .if_icmp .ge 22, 152, 0, 0, 0, 0, m0), (133, .aload_n 0, 0, 0, 0, 0, 0, m0), (134, .getfield 43, 7, 6, 0, 0, 326, m0), (137, .iload_n 1, 0, 0, 0, 0, 0, m0), (138, .new 36, 4, 3, 202, 2853, 207, m0), (141, .dup, 0, 0, 0, 0, 0, m0), (142, .invokespecial 38, 0, 0, 56, 505, 209, mX4_init), (145, .aastore, 5, 4, 0, 0, 0, m0), (146, .iinc 1 1, 1, 0, 0, 0, 0, m0), (149, .goto (-21), 128, 0, 0, 0, 0, m0)]
theorem oX7_init_128 : okB mX7_init 152 kX7_init_128 128 = true := by decide +kernel
def kX7_init_152 : List mI := [(152, .aload_n 0, 0, 0, 0, 0, 0, m0), (153, .getfield 39, 7, 5, 0, 0, 325, m0), (156, .aload_n 0, 0, 0, 0, 0, 0, m0), (157, .getfield 29, 7, 3, 0, 0, 323, m0), (160, .invokevirtual 80, 4, 1, 0, 0, 308, mX4_begin), (163, .return_, 0, 0, 202, 0, 0, m0)]
theorem oX7_init_152 : okB mX7_init 164 kX7_init_152 152 = true := by decide +kernel
def kX7_type_0 : List mI := [(0, .iload_n 1, 0, 0, 0, 0, 0, m0), (1, .ifCond .lt 10, 11, 0, 0, 0, 0, m0), (4, .iload_n 1, 0, 0, 0, 0, 0, m0), (5, .sipush 255, 255, 0, 0, 0, 0, m0), (8, .if_icmp .le 5, 13, 0, 0, 0, 0, m0)]
theorem oX7_type_0 : okB mX7_type 11 kX7_type_0 0 = true := by decide +kernel
def kX7_type_11 : List mI := [(11, .iconst (-1), 1, 1, 0, 0, 0, m0), (12, .ireturn, 0, 0, 0, 0, 0, m0)]
theorem oX7_type_11 : okB mX7_type 13 kX7_type_11 11 = true := by decide +kernel
def kX7_type_13 : List mI := [(13, .aload_n 0, 0, 0, 0, 0, 0, m0), (14, .getfield 13, 7, 1, 0, 0, 321, m0), (17, .bipush 120, 120, 0, 0, 0, 0, m0), (19, .if_icmp .lt 6, 25, 0, 0, 0, 0, m0), (22, .bipush (-3), 3, 1, 0, 0, 0, m0), (24, .ireturn, 0, 0, 0, 0, 0, m0)]
theorem oX7_type_13 : okB mX7_type 25 kX7_type_13 13 = true := by decide +kernel
def kX7_type_25 : List mI := [(25, .aload_n 0, 0, 0, 0, 0, 0, m0), (26, .getfield 9, 7, 0, 0, 0, 320, m0), (29, .aload_n 0, 0, 0, 0, 0, 0, m0), (30, .getfield 13, 7, 1, 0, 0, 321, m0), (33, .iload_n 1, 0, 0, 0, 0, 0, m0), (34, .iastore, 0, 0, 0, 0, 0, m0), (35, .aload_n 0, 0, 0, 0, 0, 0, m0), (36, .dup, 0, 0, 0, 0, 0, m0), (37, .getfield 13, 7, 1, 0, 0, 321, m0), (40, .iconst 1, 1, 0, 0, 0, 0, m0), (41, .iadd, 0, 0, 0, 0, 0, m0), (42, .putfield 13, 7, 1, 0, 0, 321, m0), (45, .aload_n 0, 0, 0, 0, 0, 0, m0), (46, .getfield 13, 7, 1, 0, 0, 321, m0), (49, .ireturn, 0, 0, 0, 0, 0, m0)]
theorem oX7_type_25 : okB mX7_type 50 kX7_type_25 25 = true := by decide +kernel
def kX7_clear_0 : List mI := [(0, .aload_n 0, 0, 0, 0, 0, 0, m0), (1, .getfield 13, 7, 1, 0, 0, 321, m0), (4, .istore_n 1, 0, 0, 0, 0, 0, m0), (5, .aload_n 0, 0, 0, 0, 0, 0, m0), (6, .iconst 0, 0, 0, 0, 0, 0, m0), (7, .putfield 13, 7, 1, 0, 0, 321, m0), (10, .iload_n 1, 0, 0, 0, 0, 0, m0), (11, .ireturn, 0, 0, 0, 0, 0, m0)]
theorem oX7_clear_0 : okB mX7_clear 12 kX7_clear_0 0 = true := by decide +kernel
def kX7_chapter_0 : List mI := [(0, .aload_n 0, 0, 0, 0, 0, 0, m0), (1, .getfield 22, 7, 2, 0, 0, 322, m0), (4, .aload_n 0, 0, 0, 0, 0, 0, m0), (5, .getfield 13, 7, 1, 0, 0, 321, m0), (8, .aload_n 0, 0, 0, 0, 0, 0, m0), (9, .getfield 33, 7, 4, 0, 0, 324, m0), (12, .invokevirtual 84, 2, 2, 0, 0, 373, mX2_read), (15, .istore_n 1, 0, 0, 0, 0, 0, m0), (16, .iload_n 1, 0, 0, 0, 0, 0, m0), (17, .ifCond .ge 5, 22, 0, 0, 0, 0, m0), (20, .iload_n 1, 0, 0, 0, 0, 0, m0), (21, .ireturn, 0, 0, 0, 0, 0, m0)]
theorem oX7_chapter_0 : okB mX7_chapter 22 kX7_chapter_0 0 = true := by decide +kernel
def kX7_chapter_22 : List mI := [(22, .aload_n 0, 0, 0, 0, 0, 0, m0), (23, .getfield 29, 7, 3, 0, 0, 323, m0), (26, .astore_n 2, 0, 0, 0, 0, 0, m0), (27, .aload_n 0, 0, 0, 0, 0, 0, m0), (28, .aload_n 0, 0, 0, 0, 0, 0, m0), (29, .getfield 33, 7, 4, 0, 0, 324, m0), (32, .putfield 29, 7, 3, 3, 0, 323, m0), (35, .aload_n 0, 0, 0, 0, 0, 0, m0), (36, .aload_n 2, 0, 0, 0, 0, 0, m0), (37, .putfield 33, 7, 4, 3, 0, 324, m0), (40, .aload_n 0, 0, 0, 0, 0, 0, m0), (41, .iconst 0, 0, 0, 0, 0, 0, m0), (42, .putfield 13, 7, 1, 0, 0, 321, m0), (45, .aload_n 0, 0, 0, 0, 0, 0, m0), (46, .getfield 39, 7, 5, 0, 0, 325, m0), (49, .aload_n 0, 0, 0, 0, 0, 0, m0), (50, .getfield 29, 7, 3, 0, 0, 323, m0), (53, .invokevirtual 80, 4, 1, 0, 0, 308, mX4_begin), (56, .aload_n 0, 0, 0, 0, 0, 0, m0), (57, .getfield 54, 7, 8, 0, 0, 328, m0), (60, .iconst 0, 0, 0, 0, 0, 0, m0), (61, .putfield 88, 0, 0, 0, 0, 261, m0), (64, .iconst 0, 0, 0, 0, 0, 0, m0), (65, .istore_n 3, 0, 0, 0, 0, 0, m0)]
theorem oX7_chapter_22 : okB mX7_chapter 66 kX7_chapter_22 22 = true := by decide +kernel
def kX7_chapter_66 : List mI := [(66, .iload_n 3, 0, 0, 0, 0, 0, m0), (67, .iconst 2, 2, 0, 0, 0, 0, m0), (68, .if_icmp .ge 16, 84, 0, 0, 0, 0, m0), (71, .aload_n 0, 0, 0, 0, 0, 0, m0), (72, .getfield 47, 7, 7, 0, 0, 327, m0), (75, .iload_n 3, 0, 0, 0, 0, 0, m0), (76, .iconst 0, 0, 0, 0, 0, 0, m0), (77, .bastore, 1, 0, 0, 0, 0, m0), (78, .iinc 3 1, 1, 0, 0, 0, 0, m0), (81, .goto (-15), 66, 0, 0, 0, 0, m0)]
theorem oX7_chapter_66 : okB mX7_chapter 84 kX7_chapter_66 66 = true := by decide +kernel
def kX7_chapter_84 : List mI := [(84, .iload_n 1, 0, 0, 0, 0, 0, m0), (85, .ireturn, 0, 0, 0, 0, 0, m0)]
theorem oX7_chapter_84 : okB mX7_chapter 86 kX7_chapter_84 84 = true := by decide +kernel
def kX7_brick_0 : List mI := [(0, .aload_n 0, 0, 0, 0, 0, 0, m0), (1, .iload_n 1, 0, 0, 0, 0, 0, m0), (2, .invokevirtual 91, 7, 1, 0, 0, 437, mX7_noBrick), (5, .ifCond .eq 5, 10, 0, 0, 0, 0, m0), (8, .iconst (-1), 1, 1, 0, 0, 0, m0), (9, .ireturn, 0, 0, 0, 0, 0, m0)]
theorem oX7_brick_0 : okB mX7_brick 10 kX7_brick_0 0 = true := by decide +kernel
def kX7_brick_10 : List mI := [(10, .iload_n 2, 0, 0, 0, 0, 0, m0), (11, .tableswitch 123 0 5 #[37, 47, 57, 70, 83, 117], 0, 0, 0, 0, 0, m0)]
theorem oX7_brick_10 : okB mX7_brick 48 kX7_brick_10 10 = true := by decide +kernel
def kX7_brick_48 : List mI := [(48, .aload_n 0, 0, 0, 0, 0, 0, m0), (49, .getfield 29, 7, 3, 0, 0, 323, m0), (52, .getfield 95, 5, 6, 0, 0, 168, m0), (55, .iload_n 1, 0, 0, 0, 0, 0, m0), (56, .iaload, 0, 0, 0, 0, 0, m0), (57, .ireturn, 0, 0, 0, 0, 0, m0)]
theorem oX7_brick_48 : okB mX7_brick 58 kX7_brick_48 48 = true := by decide +kernel
def kX7_brick_58 : List mI := [(58, .aload_n 0, 0, 0, 0, 0, 0, m0), (59, .getfield 29, 7, 3, 0, 0, 323, m0), (62, .getfield 98, 5, 7, 0, 0, 171, m0), (65, .iload_n 1, 0, 0, 0, 0, 0, m0), (66, .iaload, 0, 0, 0, 0, 0, m0), (67, .ireturn, 0, 0, 0, 0, 0, m0)]
theorem oX7_brick_58 : okB mX7_brick 68 kX7_brick_58 58 = true := by decide +kernel
def kX7_brick_68 : List mI := [(68, .aload_n 0, 0, 0, 0, 0, 0, m0), (69, .getfield 39, 7, 5, 0, 0, 325, m0), (72, .getfield 101, 4, 0, 0, 0, 242, m0), (75, .getfield 105, 3, 2, 0, 0, 224, m0), (78, .iload_n 1, 0, 0, 0, 0, 0, m0), (79, .iaload, 0, 0, 0, 0, 0, m0), (80, .ireturn, 0, 0, 0, 0, 0, m0)]
theorem oX7_brick_68 : okB mX7_brick 81 kX7_brick_68 68 = true := by decide +kernel
def kX7_brick_81 : List mI := [(81, .aload_n 0, 0, 0, 0, 0, 0, m0), (82, .getfield 39, 7, 5, 0, 0, 325, m0), (85, .getfield 101, 4, 0, 0, 0, 242, m0), (88, .getfield 110, 3, 1, 0, 0, 222, m0), (91, .iload_n 1, 0, 0, 0, 0, 0, m0), (92, .iaload, 0, 0, 0, 0, 0, m0), (93, .ireturn, 0, 0, 0, 0, 0, m0)]
theorem oX7_brick_81 : okB mX7_brick 94 kX7_brick_81 81 = true := by decide +kernel
def kX7_brick_94 : List mI := [(94, .aload_n 0, 0, 0, 0, 0, 0, m0), (95, .getfield 39, 7, 5, 0, 0, 325, m0), (98, .getfield 101, 4, 0, 0, 0, 242, m0), (101, .getfield 110, 3, 1, 0, 0, 222, m0), (104, .iload_n 1, 0, 0, 0, 0, 0, m0), (105, .iaload, 0, 0, 0, 0, 0, m0), (106, .iconst 4, 4, 0, 0, 0, 0, m0), (107, .if_icmp .ne 18, 125, 0, 0, 0, 0, m0), (110, .aload_n 0, 0, 0, 0, 0, 0, m0), (111, .getfield 39, 7, 5, 0, 0, 325, m0), (114, .getfield 101, 4, 0, 0, 0, 242, m0), (117, .getfield 113, 3, 3, 0, 0, 226, m0), (120, .iload_n 1, 0, 0, 0, 0, 0, m0), (121, .iaload, 0, 0, 0, 0, 0, m0), (122, .goto 5, 127, 0, 0, 0, 0, m0)]
theorem oX7_brick_94 : okB mX7_brick 125 kX7_brick_94 94 = true := by decide +kernel
def kX7_brick_125 : List mI := [(125, .bipush (-9), 9, 1, 0, 0, 0, m0)]
theorem oX7_brick_125 : okB mX7_brick 127 kX7_brick_125 125 = true := by decide +kernel
def kX7_brick_127 : List mI := [(127, .ireturn, 0, 0, 0, 0, 0, m0)]
theorem oX7_brick_127 : okB mX7_brick 128 kX7_brick_127 127 = true := by decide +kernel
def kX7_brick_128 : List mI := [(128, .aload_n 0, 0, 0, 0, 0, 0, m0), (129, .iload_n 1, 0, 0, 0, 0, 0, m0), (130, .invokevirtual 116, 7, 1, 0, 0, 441, mX7_fits), (133, .ireturn, 0, 0, 0, 0, 0, m0)]
theorem oX7_brick_128 : okB mX7_brick 134 kX7_brick_128 128 = true := by decide +kernel
def kX7_brick_134 : List mI := [(134, .iconst (-1), 1, 1, 0, 0, 0, m0), (135, .ireturn, 0, 0, 0, 0, 0, m0)]
theorem oX7_brick_134 : okB mX7_brick 136 kX7_brick_134 134 = true := by decide +kernel
def kX7_place_0 : List mI := [(0, .aload_n 0, 0, 0, 0, 0, 0, m0), (1, .iload_n 1, 0, 0, 0, 0, 0, m0), (2, .invokevirtual 120, 7, 1, 0, 0, 456, mX7_noColumn), (5, .ifCond .ne 18, 23, 0, 0, 0, 0, m0), (8, .iload_n 2, 0, 0, 0, 0, 0, m0), (9, .ifCond .lt 14, 23, 0, 0, 0, 0, m0), (12, .iload_n 2, 0, 0, 0, 0, 0, m0), (13, .aload_n 0, 0, 0, 0, 0, 0, m0), (14, .getfield 29, 7, 3, 0, 0, 323, m0), (17, .getfield 123, 5, 1, 0, 0, 149, m0), (20, .if_icmp .lt 5, 25, 0, 0, 0, 0, m0)]
theorem oX7_place_0 : okB mX7_place 23 kX7_place_0 0 = true := by decide +kernel
def kX7_place_23 : List mI := [(23, .iconst (-1), 1, 1, 0, 0, 0, m0), (24, .ireturn, 0, 0, 0, 0, 0, m0)]
theorem oX7_place_23 : okB mX7_place 25 kX7_place_23 23 = true := by decide +kernel
def kX7_place_25 : List mI := [(25, .aload_n 0, 0, 0, 0, 0, 0, m0), (26, .getfield 39, 7, 5, 0, 0, 325, m0), (29, .getfield 101, 4, 0, 0, 0, 242, m0), (32, .iload_n 1, 0, 0, 0, 0, 0, m0), (33, .iload_n 2, 0, 0, 0, 0, 0, m0), (34, .invokevirtual 126, 3, 2, 0, 0, 460, mX3_brickAt), (37, .ireturn, 0, 0, 0, 0, 0, m0)]
theorem oX7_place_25 : okB mX7_place 38 kX7_place_25 25 = true := by decide +kernel
def kX7_kin_0 : List mI := [(0, .iload_n 1, 0, 0, 0, 0, 0, m0), (1, .invokestatic 130, 0, 1, 0, 0, 468, mX7_noHolder), (4, .ifCond .eq 7, 11, 0, 0, 0, 0, m0), (7, .iconst (-1), 1, 1, 0, 0, 0, m0), (8, .goto 12, 20, 0, 0, 0, 0, m0)]
theorem oX7_kin_0 : okB mX7_kin 11 kX7_kin_0 0 = true := by decide +kernel
def kX7_kin_11 : List mI := [(11, .aload_n 0, 0, 0, 0, 0, 0, m0), (12, .getfield 29, 7, 3, 0, 0, 323, m0), (15, .getfield 133, 5, 5, 0, 0, 165, m0), (18, .iload_n 1, 0, 0, 0, 0, 0, m0), (19, .iaload, 0, 0, 0, 0, 0, m0)]
theorem oX7_kin_11 : okB mX7_kin 20 kX7_kin_11 11 = true := by decide +kernel
def kX7_kin_20 : List mI := [(20, .ireturn, 0, 0, 0, 0, 0, m0)]
theorem oX7_kin_20 : okB mX7_kin 21 kX7_kin_20 20 = true := by decide +kernel
def kX7_judge_0 : List mI := [(0, .aload_n 0, 0, 0, 0, 0, 0, m0), (1, .iload_n 1, 0, 0, 0, 0, 0, m0), (2, .invokevirtual 136, 7, 1, 0, 0, 475, mX7_noJudge), (5, .ifCond .ne 12, 17, 0, 0, 0, 0, m0), (8, .iload_n 2, 0, 0, 0, 0, 0, m0), (9, .ifCond .lt 8, 17, 0, 0, 0, 0, m0), (12, .iload_n 2, 0, 0, 0, 0, 0, m0), (13, .iconst 1, 1, 0, 0, 0, 0, m0), (14, .if_icmp .le 5, 19, 0, 0, 0, 0, m0)]
theorem oX7_judge_0 : okB mX7_judge 17 kX7_judge_0 0 = true := by decide +kernel
def kX7_judge_17 : List mI := [(17, .iconst (-1), 1, 1, 0, 0, 0, m0), (18, .ireturn, 0, 0, 0, 0, 0, m0)]
theorem oX7_judge_17 : okB mX7_judge 19 kX7_judge_17 17 = true := by decide +kernel
def kX7_judge_19 : List mI := [(19, .iload_n 2, 0, 0, 0, 0, 0, m0), (20, .ifCond .ne 15, 35, 0, 0, 0, 0, m0), (23, .aload_n 0, 0, 0, 0, 0, 0, m0), (24, .getfield 29, 7, 3, 0, 0, 323, m0), (27, .getfield 139, 5, 9, 0, 0, 180, m0), (30, .iload_n 1, 0, 0, 0, 0, 0, m0), (31, .iaload, 0, 0, 0, 0, 0, m0), (32, .goto 8, 40, 0, 0, 0, 0, m0)]
theorem oX7_judge_19 : okB mX7_judge 35 kX7_judge_19 19 = true := by decide +kernel
def kX7_judge_35 : List mI := [(35, .aload_n 0, 0, 0, 0, 0, 0, m0), (36, .iload_n 1, 0, 0, 0, 0, 0, m0), (37, .invokevirtual 142, 7, 1, 0, 0, 479, mX7_wouldHold)]
theorem oX7_judge_35 : okB mX7_judge 40 kX7_judge_35 35 = true := by decide +kernel
def kX7_judge_40 : List mI := [(40, .ireturn, 0, 0, 0, 0, 0, m0)]
theorem oX7_judge_40 : okB mX7_judge 41 kX7_judge_40 40 = true := by decide +kernel
def kX7_prompts_0 : List mI := [(0, .iload_n 1, 0, 0, 0, 0, 0, m0), (1, .invokestatic 130, 0, 1, 0, 0, 468, mX7_noHolder), (4, .ifCond .eq 5, 9, 0, 0, 0, 0, m0), (7, .iconst (-1), 1, 1, 0, 0, 0, m0), (8, .ireturn, 0, 0, 0, 0, 0, m0)]
theorem oX7_prompts_0 : okB mX7_prompts 9 kX7_prompts_0 0 = true := by decide +kernel
def kX7_prompts_9 : List mI := [(9, .aload_n 0, 0, 0, 0, 0, 0, m0), (10, .getfield 39, 7, 5, 0, 0, 325, m0), (13, .invokevirtual 145, 4, 0, 0, 0, 491, mX4_remember), (16, .aload_n 0, 0, 0, 0, 0, 0, m0), (17, .getfield 29, 7, 3, 0, 0, 323, m0), (20, .iconst 1, 1, 0, 0, 0, 0, m0), (21, .iload_n 1, 0, 0, 0, 0, 0, m0), (22, .ishl, 0, 0, 0, 0, 0, m0), (23, .invokevirtual 148, 5, 1, 0, 0, 503, mX5_reach), (26, .istore_n 2, 0, 0, 0, 0, 0, m0), (27, .iconst 0, 0, 0, 0, 0, 0, m0), (28, .istore_n 3, 0, 0, 0, 0, 0, m0), (29, .iconst 0, 0, 0, 0, 0, 0, m0), (30, .istore 4, 0, 0, 0, 0, 0, m0)]
theorem oX7_prompts_9 : okB mX7_prompts 32 kX7_prompts_9 9 = true := by decide +kernel
def kX7_prompts_32 : List mI := [(32, .iload 4, 0, 0, 0, 0, 0, m0), (34, .aload_n 0, 0, 0, 0, 0, 0, m0), (35, .getfield 29, 7, 3, 0, 0, 323, m0), (38, .getfield 151, 5, 2, 0, 0, 155, m0), (41, .if_icmp .ge 59, 100, 0, 0, 0, 0, m0), (44, .aload_n 0, 0, 0, 0, 0, 0, m0), (45, .getfield 39, 7, 5, 0, 0, 325, m0), (48, .getfield 101, 4, 0, 0, 0, 242, m0), (51, .getfield 110, 3, 1, 0, 0, 222, m0), (54, .iload 4, 0, 0, 0, 0, 0, m0), (56, .iaload, 0, 0, 0, 0, 0, m0), (57, .ifCond .ne 37, 94, 0, 0, 0, 0, m0), (60, .iload_n 2, 0, 0, 0, 0, 0, m0), (61, .aload_n 0, 0, 0, 0, 0, 0, m0), (62, .getfield 29, 7, 3, 0, 0, 323, m0), (65, .getfield 98, 5, 7, 0, 0, 171, m0), (68, .iload 4, 0, 0, 0, 0, 0, m0), (70, .iaload, 0, 0, 0, 0, 0, m0), (71, .invokestatic 154, 0, 2, 0, 0, 510, mX7_hasBit), (74, .ifCond .eq 20, 94, 0, 0, 0, 0, m0), (77, .aload_n 0, 0, 0, 0, 0, 0, m0), (78, .getfield 39, 7, 5, 0, 0, 325, m0), (81, .getfield 101, 4, 0, 0, 0, 242, m0), (84, .getfield 110, 3, 1, 0, 0, 222, m0), (87, .iload 4, 0, 0, 0, 0, 0, m0), (89, .iconst 1, 1, 0, 0, 0, 0, m0), (90, .iastore, 0, 0, 0, 0, 0, m0), (91, .iinc 3 1, 1, 0, 0, 0, 0, m0)]
theorem oX7_prompts_32 : okB mX7_prompts 94 kX7_prompts_32 32 = true := by decide +kernel
def kX7_prompts_94 : List mI := [(94, .iinc 4 1, 1, 0, 0, 0, 0, m0), (97, .goto (-65), 32, 0, 0, 0, 0, m0)]
theorem oX7_prompts_94 : okB mX7_prompts 100 kX7_prompts_94 94 = true := by decide +kernel
def kX7_prompts_100 : List mI := [(100, .iload_n 3, 0, 0, 0, 0, 0, m0), (101, .ireturn, 0, 0, 0, 0, 0, m0)]
theorem oX7_prompts_100 : okB mX7_prompts 102 kX7_prompts_100 100 = true := by decide +kernel
def kX7_reads_0 : List mI := [(0, .aload_n 0, 0, 0, 0, 0, 0, m0), (1, .iload_n 1, 0, 0, 0, 0, 0, m0), (2, .invokevirtual 91, 7, 1, 0, 0, 437, mX7_noBrick), (5, .ifCond .eq 5, 10, 0, 0, 0, 0, m0), (8, .iconst (-1), 1, 1, 0, 0, 0, m0), (9, .ireturn, 0, 0, 0, 0, 0, m0)]
theorem oX7_reads_0 : okB mX7_reads 10 kX7_reads_0 0 = true := by decide +kernel
def kX7_reads_10 : List mI := [(10, .aload_n 0, 0, 0, 0, 0, 0, m0), (11, .getfield 39, 7, 5, 0, 0, 325, m0), (14, .getfield 101, 4, 0, 0, 0, 242, m0), (17, .getfield 110, 3, 1, 0, 0, 222, m0), (20, .iload_n 1, 0, 0, 0, 0, 0, m0), (21, .iaload, 0, 0, 0, 0, 0, m0), (22, .iconst 1, 1, 0, 0, 0, 0, m0), (23, .if_icmp .eq 6, 29, 0, 0, 0, 0, m0), (26, .bipush (-2), 2, 1, 0, 0, 0, m0), (28, .ireturn, 0, 0, 0, 0, 0, m0)]
theorem oX7_reads_10 : okB mX7_reads 29 kX7_reads_10 10 = true := by decide +kernel
def kX7_reads_29 : List mI := [(29, .aload_n 0, 0, 0, 0, 0, 0, m0), (30, .getfield 39, 7, 5, 0, 0, 325, m0), (33, .invokevirtual 145, 4, 0, 0, 0, 491, mX4_remember), (36, .aload_n 0, 0, 0, 0, 0, 0, m0), (37, .getfield 29, 7, 3, 0, 0, 323, m0), (40, .aload_n 0, 0, 0, 0, 0, 0, m0), (41, .getfield 29, 7, 3, 0, 0, 323, m0), (44, .aload_n 0, 0, 0, 0, 0, 0, m0), (45, .getfield 39, 7, 5, 0, 0, 325, m0), (48, .getfield 101, 4, 0, 0, 0, 242, m0), (51, .getfield 105, 3, 2, 0, 0, 224, m0), (54, .iload_n 1, 0, 0, 0, 0, 0, m0), (55, .iaload, 0, 0, 0, 0, 0, m0), (56, .invokevirtual 158, 5, 1, 0, 0, 515, mX5_judgesFor), (59, .invokevirtual 161, 5, 1, 0, 0, 520, mX5_holds), (62, .istore_n 2, 0, 0, 0, 0, 0, m0), (63, .aload_n 0, 0, 0, 0, 0, 0, m0), (64, .getfield 39, 7, 5, 0, 0, 325, m0), (67, .getfield 101, 4, 0, 0, 0, 242, m0), (70, .getfield 110, 3, 1, 0, 0, 222, m0), (73, .iload_n 1, 0, 0, 0, 0, 0, m0), (74, .iload_n 2, 0, 0, 0, 0, 0, m0), (75, .ifCond .eq 7, 82, 0, 0, 0, 0, m0), (78, .iconst 2, 2, 0, 0, 0, 0, m0), (79, .goto 4, 83, 0, 0, 0, 0, m0)]
theorem oX7_reads_29 : okB mX7_reads 82 kX7_reads_29 29 = true := by decide +kernel
def kX7_reads_82 : List mI := [(82, .iconst 3, 3, 0, 0, 0, 0, m0)]
theorem oX7_reads_82 : okB mX7_reads 83 kX7_reads_82 82 = true := by decide +kernel
def kX7_reads_83 : List mI := [(83, .iastore, 0, 0, 0, 0, 0, m0), (84, .aload_n 0, 0, 0, 0, 0, 0, m0), (85, .getfield 39, 7, 5, 0, 0, 325, m0), (88, .getfield 101, 4, 0, 0, 0, 242, m0), (91, .getfield 110, 3, 1, 0, 0, 222, m0), (94, .iload_n 1, 0, 0, 0, 0, 0, m0), (95, .iaload, 0, 0, 0, 0, 0, m0), (96, .ireturn, 0, 0, 0, 0, 0, m0)]
theorem oX7_reads_83 : okB mX7_reads 97 kX7_reads_83 83 = true := by decide +kernel
def kX7_writes_0 : List mI := [(0, .aload_n 0, 0, 0, 0, 0, 0, m0), (1, .iload_n 1, 0, 0, 0, 0, 0, m0), (2, .invokevirtual 91, 7, 1, 0, 0, 437, mX7_noBrick), (5, .ifCond .ne 13, 18, 0, 0, 0, 0, m0), (8, .iload_n 2, 0, 0, 0, 0, 0, m0), (9, .ifCond .lt 9, 18, 0, 0, 0, 0, m0), (12, .iload_n 2, 0, 0, 0, 0, 0, m0), (13, .bipush 30, 30, 0, 0, 0, 0, m0), (15, .if_icmp .le 5, 20, 0, 0, 0, 0, m0)]
theorem oX7_writes_0 : okB mX7_writes 18 kX7_writes_0 0 = true := by decide +kernel
def kX7_writes_18 : List mI := [(18, .iconst (-1), 1, 1, 0, 0, 0, m0), (19, .ireturn, 0, 0, 0, 0, 0, m0)]
theorem oX7_writes_18 : okB mX7_writes 20 kX7_writes_18 18 = true := by decide +kernel
def kX7_writes_20 : List mI := [(20, .aload_n 0, 0, 0, 0, 0, 0, m0), (21, .getfield 39, 7, 5, 0, 0, 325, m0), (24, .getfield 101, 4, 0, 0, 0, 242, m0), (27, .getfield 110, 3, 1, 0, 0, 222, m0), (30, .iload_n 1, 0, 0, 0, 0, 0, m0), (31, .iaload, 0, 0, 0, 0, 0, m0), (32, .iconst 3, 3, 0, 0, 0, 0, m0), (33, .if_icmp .eq 6, 39, 0, 0, 0, 0, m0), (36, .bipush (-2), 2, 1, 0, 0, 0, m0), (38, .ireturn, 0, 0, 0, 0, 0, m0)]
theorem oX7_writes_20 : okB mX7_writes 39 kX7_writes_20 20 = true := by decide +kernel
def kX7_writes_39 : List mI := [(39, .aload_n 0, 0, 0, 0, 0, 0, m0), (40, .getfield 39, 7, 5, 0, 0, 325, m0), (43, .invokevirtual 145, 4, 0, 0, 0, 491, mX4_remember), (46, .aload_n 0, 0, 0, 0, 0, 0, m0), (47, .getfield 39, 7, 5, 0, 0, 325, m0), (50, .getfield 101, 4, 0, 0, 0, 242, m0), (53, .getfield 105, 3, 2, 0, 0, 224, m0), (56, .iload_n 1, 0, 0, 0, 0, 0, m0), (57, .iaload, 0, 0, 0, 0, 0, m0), (58, .istore_n 3, 0, 0, 0, 0, 0, m0), (59, .aload_n 0, 0, 0, 0, 0, 0, m0), (60, .getfield 39, 7, 5, 0, 0, 325, m0), (63, .getfield 101, 4, 0, 0, 0, 242, m0), (66, .getfield 105, 3, 2, 0, 0, 224, m0), (69, .iload_n 1, 0, 0, 0, 0, 0, m0), (70, .iload_n 2, 0, 0, 0, 0, 0, m0), (71, .iastore, 0, 0, 0, 0, 0, m0), (72, .aload_n 0, 0, 0, 0, 0, 0, m0), (73, .getfield 39, 7, 5, 0, 0, 325, m0), (76, .getfield 101, 4, 0, 0, 0, 242, m0), (79, .getfield 110, 3, 1, 0, 0, 222, m0), (82, .iload_n 1, 0, 0, 0, 0, 0, m0), (83, .iconst 1, 1, 0, 0, 0, 0, m0), (84, .iastore, 0, 0, 0, 0, 0, m0), (85, .iload_n 3, 0, 0, 0, 0, 0, m0), (86, .ireturn, 0, 0, 0, 0, 0, m0)]
theorem oX7_writes_39 : okB mX7_writes 87 kX7_writes_39 39 = true := by decide +kernel
def kX7_lays_0 : List mI := [(0, .aload_n 0, 0, 0, 0, 0, 0, m0), (1, .iload_n 1, 0, 0, 0, 0, 0, m0), (2, .invokevirtual 91, 7, 1, 0, 0, 437, mX7_noBrick), (5, .ifCond .ne 11, 16, 0, 0, 0, 0, m0), (8, .aload_n 0, 0, 0, 0, 0, 0, m0), (9, .iload_n 2, 0, 0, 0, 0, 0, m0), (10, .invokevirtual 120, 7, 1, 0, 0, 456, mX7_noColumn), (13, .ifCond .eq 5, 18, 0, 0, 0, 0, m0)]
theorem oX7_lays_0 : okB mX7_lays 16 kX7_lays_0 0 = true := by decide +kernel
def kX7_lays_16 : List mI := [(16, .iconst (-1), 1, 1, 0, 0, 0, m0), (17, .ireturn, 0, 0, 0, 0, 0, m0)]
theorem oX7_lays_16 : okB mX7_lays 18 kX7_lays_16 16 = true := by decide +kernel
def kX7_lays_18 : List mI := [(18, .aload_n 0, 0, 0, 0, 0, 0, m0), (19, .getfield 39, 7, 5, 0, 0, 325, m0), (22, .getfield 101, 4, 0, 0, 0, 242, m0), (25, .getfield 110, 3, 1, 0, 0, 222, m0), (28, .iload_n 1, 0, 0, 0, 0, 0, m0), (29, .iaload, 0, 0, 0, 0, 0, m0), (30, .iconst 2, 2, 0, 0, 0, 0, m0), (31, .if_icmp .ne 15, 46, 0, 0, 0, 0, m0), (34, .aload_n 0, 0, 0, 0, 0, 0, m0), (35, .iload_n 1, 0, 0, 0, 0, 0, m0), (36, .invokevirtual 116, 7, 1, 0, 0, 441, mX7_fits), (39, .iload_n 2, 0, 0, 0, 0, 0, m0), (40, .invokestatic 154, 0, 2, 0, 0, 510, mX7_hasBit), (43, .ifCond .ne 6, 49, 0, 0, 0, 0, m0)]
theorem oX7_lays_18 : okB mX7_lays 46 kX7_lays_18 18 = true := by decide +kernel
def kX7_lays_46 : List mI := [(46, .bipush (-2), 2, 1, 0, 0, 0, m0), (48, .ireturn, 0, 0, 0, 0, 0, m0)]
theorem oX7_lays_46 : okB mX7_lays 49 kX7_lays_46 46 = true := by decide +kernel
def kX7_lays_49 : List mI := [(49, .aload_n 0, 0, 0, 0, 0, 0, m0), (50, .getfield 39, 7, 5, 0, 0, 325, m0), (53, .invokevirtual 145, 4, 0, 0, 0, 491, mX4_remember), (56, .aload_n 0, 0, 0, 0, 0, 0, m0), (57, .getfield 39, 7, 5, 0, 0, 325, m0), (60, .getfield 101, 4, 0, 0, 0, 242, m0), (63, .iload_n 2, 0, 0, 0, 0, 0, m0), (64, .invokevirtual 164, 3, 1, 0, 0, 445, mX3_height), (67, .istore_n 3, 0, 0, 0, 0, 0, m0), (68, .aload_n 0, 0, 0, 0, 0, 0, m0), (69, .getfield 39, 7, 5, 0, 0, 325, m0), (72, .getfield 101, 4, 0, 0, 0, 242, m0), (75, .getfield 110, 3, 1, 0, 0, 222, m0), (78, .iload_n 1, 0, 0, 0, 0, 0, m0), (79, .iconst 4, 4, 0, 0, 0, 0, m0), (80, .iastore, 0, 0, 0, 0, 0, m0), (81, .aload_n 0, 0, 0, 0, 0, 0, m0), (82, .getfield 39, 7, 5, 0, 0, 325, m0), (85, .getfield 101, 4, 0, 0, 0, 242, m0), (88, .getfield 113, 3, 3, 0, 0, 226, m0), (91, .iload_n 1, 0, 0, 0, 0, 0, m0), (92, .iload_n 2, 0, 0, 0, 0, 0, m0), (93, .iastore, 0, 0, 0, 0, 0, m0), (94, .aload_n 0, 0, 0, 0, 0, 0, m0), (95, .getfield 39, 7, 5, 0, 0, 325, m0), (98, .getfield 101, 4, 0, 0, 0, 242, m0), (101, .getfield 167, 3, 4, 0, 0, 228, m0), (104, .iload_n 1, 0, 0, 0, 0, 0, m0), (105, .iload_n 3, 0, 0, 0, 0, 0, m0), (106, .iastore, 0, 0, 0, 0, 0, m0), (107, .iload_n 3, 0, 0, 0, 0, 0, m0), (108, .iconst 1, 1, 0, 0, 0, 0, m0), (109, .iadd, 0, 0, 0, 0, 0, m0), (110, .ireturn, 0, 0, 0, 0, 0, m0)]
theorem oX7_lays_49 : okB mX7_lays 111 kX7_lays_49 49 = true := by decide +kernel
def kX7_falls_0 : List mI := [(0, .aload_n 0, 0, 0, 0, 0, 0, m0), (1, .iload_n 1, 0, 0, 0, 0, 0, m0), (2, .invokevirtual 120, 7, 1, 0, 0, 456, mX7_noColumn), (5, .ifCond .eq 5, 10, 0, 0, 0, 0, m0), (8, .iconst (-1), 1, 1, 0, 0, 0, m0), (9, .ireturn, 0, 0, 0, 0, 0, m0)]
theorem oX7_falls_0 : okB mX7_falls 10 kX7_falls_0 0 = true := by decide +kernel
def kX7_falls_10 : List mI := [(10, .aload_n 0, 0, 0, 0, 0, 0, m0), (11, .getfield 39, 7, 5, 0, 0, 325, m0), (14, .getfield 101, 4, 0, 0, 0, 242, m0), (17, .iload_n 1, 0, 0, 0, 0, 0, m0), (18, .aload_n 0, 0, 0, 0, 0, 0, m0), (19, .getfield 39, 7, 5, 0, 0, 325, m0), (22, .getfield 101, 4, 0, 0, 0, 242, m0), (25, .iload_n 1, 0, 0, 0, 0, 0, m0), (26, .invokevirtual 164, 3, 1, 0, 0, 445, mX3_height), (29, .iconst 1, 1, 0, 0, 0, 0, m0), (30, .isub, 0, 0, 0, 0, 0, m0), (31, .invokevirtual 126, 3, 2, 0, 0, 460, mX3_brickAt), (34, .istore_n 2, 0, 0, 0, 0, 0, m0), (35, .aload_n 0, 0, 0, 0, 0, 0, m0), (36, .iload_n 2, 0, 0, 0, 0, 0, m0), (37, .invokevirtual 91, 7, 1, 0, 0, 437, mX7_noBrick), (40, .ifCond .eq 6, 46, 0, 0, 0, 0, m0), (43, .bipush (-2), 2, 1, 0, 0, 0, m0), (45, .ireturn, 0, 0, 0, 0, 0, m0)]
theorem oX7_falls_10 : okB mX7_falls 46 kX7_falls_10 10 = true := by decide +kernel
def kX7_falls_46 : List mI := [(46, .aload_n 0, 0, 0, 0, 0, 0, m0), (47, .getfield 39, 7, 5, 0, 0, 325, m0), (50, .invokevirtual 145, 4, 0, 0, 0, 491, mX4_remember), (53, .aload_n 0, 0, 0, 0, 0, 0, m0), (54, .getfield 39, 7, 5, 0, 0, 325, m0), (57, .getfield 101, 4, 0, 0, 0, 242, m0), (60, .getfield 110, 3, 1, 0, 0, 222, m0), (63, .iload_n 2, 0, 0, 0, 0, 0, m0), (64, .iconst 2, 2, 0, 0, 0, 0, m0), (65, .iastore, 0, 0, 0, 0, 0, m0), (66, .iload_n 2, 0, 0, 0, 0, 0, m0), (67, .ireturn, 0, 0, 0, 0, 0, m0)]
theorem oX7_falls_46 : okB mX7_falls 68 kX7_falls_46 46 = true := by decide +kernel
def kX7_undo_0 : List mI := [(0, .aload_n 0, 0, 0, 0, 0, 0, m0), (1, .getfield 39, 7, 5, 0, 0, 325, m0), (4, .getfield 170, 4, 2, 0, 0, 245, m0), (7, .ifCond .gt 6, 13, 0, 0, 0, 0, m0), (10, .bipush (-2), 2, 1, 0, 0, 0, m0), (12, .ireturn, 0, 0, 0, 0, 0, m0)]
theorem oX7_undo_0 : okB mX7_undo 13 kX7_undo_0 0 = true := by decide +kernel
def kX7_undo_13 : List mI := [(13, .aload_n 0, 0, 0, 0, 0, 0, m0), (14, .getfield 39, 7, 5, 0, 0, 325, m0), (17, .invokevirtual 173, 4, 0, 0, 0, 540, mX4_stepBack), (20, .aload_n 0, 0, 0, 0, 0, 0, m0), (21, .getfield 39, 7, 5, 0, 0, 325, m0), (24, .getfield 170, 4, 2, 0, 0, 245, m0), (27, .ireturn, 0, 0, 0, 0, 0, m0)]
theorem oX7_undo_13 : okB mX7_undo 28 kX7_undo_13 13 = true := by decide +kernel
def kX7_now_0 : List mI := [(0, .iload_n 1, 0, 0, 0, 0, 0, m0), (1, .ifCond .lt 8, 9, 0, 0, 0, 0, m0), (4, .iload_n 1, 0, 0, 0, 0, 0, m0), (5, .iconst 5, 5, 0, 0, 0, 0, m0), (6, .if_icmp .le 5, 11, 0, 0, 0, 0, m0)]
theorem oX7_now_0 : okB mX7_now 9 kX7_now_0 0 = true := by decide +kernel
def kX7_now_9 : List mI := [(9, .iconst (-1), 1, 1, 0, 0, 0, m0), (10, .ireturn, 0, 0, 0, 0, 0, m0)]
theorem oX7_now_9 : okB mX7_now 11 kX7_now_9 9 = true := by decide +kernel
def kX7_now_11 : List mI := [(11, .iload_n 1, 0, 0, 0, 0, 0, m0), (12, .iconst 5, 5, 0, 0, 0, 0, m0), (13, .if_icmp .ne 24, 37, 0, 0, 0, 0, m0), (16, .aload_n 0, 0, 0, 0, 0, 0, m0), (17, .getfield 61, 7, 9, 0, 0, 329, m0), (20, .aload_n 0, 0, 0, 0, 0, 0, m0), (21, .getfield 29, 7, 3, 0, 0, 323, m0), (24, .aload_n 0, 0, 0, 0, 0, 0, m0), (25, .getfield 39, 7, 5, 0, 0, 325, m0), (28, .getfield 101, 4, 0, 0, 0, 242, m0), (31, .invokevirtual 176, 1, 2, 0, 0, 548, mX1_more), (34, .goto 14, 48, 0, 0, 0, 0, m0)]
theorem oX7_now_11 : okB mX7_now 37 kX7_now_11 11 = true := by decide +kernel
def kX7_now_37 : List mI := [(37, .aload_n 0, 0, 0, 0, 0, 0, m0), (38, .getfield 39, 7, 5, 0, 0, 325, m0), (41, .getfield 101, 4, 0, 0, 0, 242, m0), (44, .iload_n 1, 0, 0, 0, 0, 0, m0), (45, .invokevirtual 180, 3, 1, 0, 0, 576, mX3_howMany)]
theorem oX7_now_37 : okB mX7_now 48 kX7_now_37 37 = true := by decide +kernel
def kX7_now_48 : List mI := [(48, .ireturn, 0, 0, 0, 0, 0, m0)]
theorem oX7_now_48 : okB mX7_now 49 kX7_now_48 48 = true := by decide +kernel
def kX7_wall_0 : List mI := [(0, .aload_n 0, 0, 0, 0, 0, 0, m0), (1, .iload_n 1, 0, 0, 0, 0, 0, m0), (2, .invokevirtual 120, 7, 1, 0, 0, 456, mX7_noColumn), (5, .ifCond .eq 7, 12, 0, 0, 0, 0, m0), (8, .iconst (-1), 1, 1, 0, 0, 0, m0), (9, .goto 22, 31, 0, 0, 0, 0, m0)]
theorem oX7_wall_0 : okB mX7_wall 12 kX7_wall_0 0 = true := by decide +kernel
def kX7_wall_12 : List mI := [(12, .aload_n 0, 0, 0, 0, 0, 0, m0), (13, .getfield 61, 7, 9, 0, 0, 329, m0), (16, .aload_n 0, 0, 0, 0, 0, 0, m0), (17, .getfield 29, 7, 3, 0, 0, 323, m0), (20, .aload_n 0, 0, 0, 0, 0, 0, m0), (21, .getfield 39, 7, 5, 0, 0, 325, m0), (24, .getfield 101, 4, 0, 0, 0, 242, m0), (27, .iload_n 1, 0, 0, 0, 0, 0, m0), (28, .invokevirtual 183, 1, 3, 0, 0, 584, mX1_heightOf)]
theorem oX7_wall_12 : okB mX7_wall 31 kX7_wall_12 12 = true := by decide +kernel
def kX7_wall_31 : List mI := [(31, .ireturn, 0, 0, 0, 0, 0, m0)]
theorem oX7_wall_31 : okB mX7_wall 32 kX7_wall_31 31 = true := by decide +kernel
def kX7_letters_0 : List mI := [(0, .iload_n 1, 0, 0, 0, 0, 0, m0), (1, .iconst 1, 1, 0, 0, 0, 0, m0), (2, .if_icmp .lt 9, 11, 0, 0, 0, 0, m0), (5, .iload_n 1, 0, 0, 0, 0, 0, m0), (6, .bipush 24, 24, 0, 0, 0, 0, m0), (8, .if_icmp .le 5, 13, 0, 0, 0, 0, m0)]
theorem oX7_letters_0 : okB mX7_letters 11 kX7_letters_0 0 = true := by decide +kernel
def kX7_letters_11 : List mI := [(11, .iconst (-1), 1, 1, 0, 0, 0, m0), (12, .ireturn, 0, 0, 0, 0, 0, m0)]
theorem oX7_letters_11 : okB mX7_letters 13 kX7_letters_11 11 = true := by decide +kernel
def kX7_letters_13 : List mI := [(13, .aload_n 0, 0, 0, 0, 0, 0, m0), (14, .getfield 61, 7, 9, 0, 0, 329, m0), (17, .aload_n 0, 0, 0, 0, 0, 0, m0), (18, .getfield 29, 7, 3, 0, 0, 323, m0), (21, .aload_n 0, 0, 0, 0, 0, 0, m0), (22, .getfield 39, 7, 5, 0, 0, 325, m0), (25, .getfield 101, 4, 0, 0, 0, 242, m0), (28, .iload_n 1, 0, 0, 0, 0, 0, m0), (29, .invokevirtual 187, 1, 3, 0, 0, 592, mX1_fewestToPrompt), (32, .ireturn, 0, 0, 0, 0, 0, m0)]
theorem oX7_letters_13 : okB mX7_letters 33 kX7_letters_13 13 = true := by decide +kernel
def kX7_apology_0 : List mI := [(0, .iload_n 1, 0, 0, 0, 0, 0, m0), (1, .bipush (-30), 30, 1, 0, 0, 0, m0), (3, .if_icmp .lt 19, 22, 0, 0, 0, 0, m0), (6, .iload_n 1, 0, 0, 0, 0, 0, m0), (7, .bipush 30, 30, 0, 0, 0, 0, m0), (9, .if_icmp .gt 13, 22, 0, 0, 0, 0, m0), (12, .iload_n 2, 0, 0, 0, 0, 0, m0), (13, .iconst (-1), 1, 1, 0, 0, 0, m0), (14, .if_icmp .lt 8, 22, 0, 0, 0, 0, m0), (17, .iload_n 2, 0, 0, 0, 0, 0, m0), (18, .iconst 5, 5, 0, 0, 0, 0, m0), (19, .if_icmp .lt 5, 24, 0, 0, 0, 0, m0)]
theorem oX7_apology_0 : okB mX7_apology 22 kX7_apology_0 0 = true := by decide +kernel
def kX7_apology_22 : List mI := [(22, .iconst (-1), 1, 1, 0, 0, 0, m0), (23, .ireturn, 0, 0, 0, 0, 0, m0)]
theorem oX7_apology_22 : okB mX7_apology 24 kX7_apology_22 22 = true := by decide +kernel
def kX7_apology_24 : List mI := [(24, .aload_n 0, 0, 0, 0, 0, 0, m0), (25, .getfield 68, 7, 10, 0, 0, 330, m0), (28, .aload_n 0, 0, 0, 0, 0, 0, m0), (29, .getfield 29, 7, 3, 0, 0, 323, m0), (32, .iload_n 1, 0, 0, 0, 0, 0, m0), (33, .invokevirtual 190, 6, 2, 0, 0, 612, mX6_shortest), (36, .istore_n 3, 0, 0, 0, 0, 0, m0), (37, .iload_n 2, 0, 0, 0, 0, 0, m0), (38, .iconst (-1), 1, 1, 0, 0, 0, m0), (39, .if_icmp .eq 9, 48, 0, 0, 0, 0, m0), (42, .iload_n 3, 0, 0, 0, 0, 0, m0), (43, .bipush (-9), 9, 1, 0, 0, 0, m0), (45, .if_icmp .ne 5, 50, 0, 0, 0, 0, m0)]
theorem oX7_apology_24 : okB mX7_apology 48 kX7_apology_24 24 = true := by decide +kernel
def kX7_apology_48 : List mI := [(48, .iload_n 3, 0, 0, 0, 0, 0, m0), (49, .ireturn, 0, 0, 0, 0, 0, m0)]
theorem oX7_apology_48 : okB mX7_apology 50 kX7_apology_48 48 = true := by decide +kernel
def kX7_apology_50 : List mI := [(50, .iload_n 2, 0, 0, 0, 0, 0, m0), (51, .iload_n 3, 0, 0, 0, 0, 0, m0), (52, .if_icmp .ge 15, 67, 0, 0, 0, 0, m0), (55, .aload_n 0, 0, 0, 0, 0, 0, m0), (56, .getfield 68, 7, 10, 0, 0, 330, m0), (59, .getfield 194, 6, 0, 0, 0, 304, m0), (62, .iload_n 2, 0, 0, 0, 0, 0, m0), (63, .iaload, 0, 0, 0, 0, 0, m0), (64, .goto 5, 69, 0, 0, 0, 0, m0)]
theorem oX7_apology_50 : okB mX7_apology 67 kX7_apology_50 50 = true := by decide +kernel
def kX7_apology_67 : List mI := [(67, .bipush (-9), 9, 1, 0, 0, 0, m0)]
theorem oX7_apology_67 : okB mX7_apology 69 kX7_apology_67 67 = true := by decide +kernel
def kX7_apology_69 : List mI := [(69, .ireturn, 0, 0, 0, 0, 0, m0)]
theorem oX7_apology_69 : okB mX7_apology 70 kX7_apology_69 69 = true := by decide +kernel
def kX7_turn_0 : List mI := [(0, .aload_n 0, 0, 0, 0, 0, 0, m0), (1, .iload_n 1, 0, 0, 0, 0, 0, m0), (2, .invokevirtual 136, 7, 1, 0, 0, 475, mX7_noJudge), (5, .ifCond .ne 11, 16, 0, 0, 0, 0, m0), (8, .aload_n 0, 0, 0, 0, 0, 0, m0), (9, .iload_n 2, 0, 0, 0, 0, 0, m0), (10, .invokevirtual 91, 7, 1, 0, 0, 437, mX7_noBrick), (13, .ifCond .eq 5, 18, 0, 0, 0, 0, m0)]
theorem oX7_turn_0 : okB mX7_turn 16 kX7_turn_0 0 = true := by decide +kernel
def kX7_turn_16 : List mI := [(16, .iconst (-1), 1, 1, 0, 0, 0, m0), (17, .ireturn, 0, 0, 0, 0, 0, m0)]
theorem oX7_turn_16 : okB mX7_turn 18 kX7_turn_16 16 = true := by decide +kernel
def kX7_turn_18 : List mI := [(18, .aload_n 0, 0, 0, 0, 0, 0, m0), (19, .getfield 39, 7, 5, 0, 0, 325, m0), (22, .getfield 101, 4, 0, 0, 0, 242, m0), (25, .getfield 105, 3, 2, 0, 0, 224, m0), (28, .iload_n 2, 0, 0, 0, 0, 0, m0), (29, .iaload, 0, 0, 0, 0, 0, m0), (30, .istore_n 3, 0, 0, 0, 0, 0, m0), (31, .aload_n 0, 0, 0, 0, 0, 0, m0), (32, .getfield 29, 7, 3, 0, 0, 323, m0), (35, .iload_n 3, 0, 0, 0, 0, 0, m0), (36, .invokevirtual 158, 5, 1, 0, 0, 515, mX5_judgesFor), (39, .istore 4, 0, 0, 0, 0, 0, m0), (41, .aload_n 0, 0, 0, 0, 0, 0, m0), (42, .getfield 29, 7, 3, 0, 0, 323, m0), (45, .iload_n 1, 0, 0, 0, 0, 0, m0), (46, .iload_n 3, 0, 0, 0, 0, 0, m0), (47, .invokevirtual 197, 5, 2, 0, 0, 483, mX5_isFor), (50, .ifCond .eq 10, 60, 0, 0, 0, 0, m0), (53, .iload 4, 0, 0, 0, 0, 0, m0), (55, .iconst 1, 1, 0, 0, 0, 0, m0), (56, .isub, 0, 0, 0, 0, 0, m0), (57, .goto 7, 64, 0, 0, 0, 0, m0)]
theorem oX7_turn_18 : okB mX7_turn 60 kX7_turn_18 18 = true := by decide +kernel
def kX7_turn_60 : List mI := [(60, .iload 4, 0, 0, 0, 0, 0, m0), (62, .iconst 1, 1, 0, 0, 0, 0, m0), (63, .iadd, 0, 0, 0, 0, 0, m0)]
theorem oX7_turn_60 : okB mX7_turn 64 kX7_turn_60 60 = true := by decide +kernel
def kX7_turn_64 : List mI := [(64, .istore 5, 0, 0, 0, 0, 0, m0), (66, .aload_n 0, 0, 0, 0, 0, 0, m0), (67, .getfield 29, 7, 3, 0, 0, 323, m0), (70, .iload 4, 0, 0, 0, 0, 0, m0), (72, .invokevirtual 161, 5, 1, 0, 0, 520, mX5_holds), (75, .aload_n 0, 0, 0, 0, 0, 0, m0), (76, .getfield 29, 7, 3, 0, 0, 323, m0), (79, .iload 5, 0, 0, 0, 0, 0, m0), (81, .invokevirtual 161, 5, 1, 0, 0, 520, mX5_holds), (84, .if_icmp .ne 7, 91, 0, 0, 0, 0, m0), (87, .iconst 0, 0, 0, 0, 0, 0, m0), (88, .goto 4, 92, 0, 0, 0, 0, m0)]
theorem oX7_turn_64 : okB mX7_turn 91 kX7_turn_64 64 = true := by decide +kernel
def kX7_turn_91 : List mI := [(91, .iconst 1, 1, 0, 0, 0, 0, m0)]
theorem oX7_turn_91 : okB mX7_turn 92 kX7_turn_91 91 = true := by decide +kernel
def kX7_turn_92 : List mI := [(92, .ireturn, 0, 0, 0, 0, 0, m0)]
theorem oX7_turn_92 : okB mX7_turn 93 kX7_turn_92 92 = true := by decide +kernel
def kX7_odds_0 : List mI := [(0, .iload_n 1, 0, 0, 0, 0, 0, m0), (1, .ifCond .lt 19, 20, 0, 0, 0, 0, m0), (4, .iload_n 1, 0, 0, 0, 0, 0, m0), (5, .bipush 10, 10, 0, 0, 0, 0, m0), (7, .if_icmp .gt 13, 20, 0, 0, 0, 0, m0), (10, .iload_n 2, 0, 0, 0, 0, 0, m0), (11, .ifCond .lt 9, 20, 0, 0, 0, 0, m0), (14, .iload_n 2, 0, 0, 0, 0, 0, m0), (15, .bipush 10, 10, 0, 0, 0, 0, m0), (17, .if_icmp .le 5, 22, 0, 0, 0, 0, m0)]
theorem oX7_odds_0 : okB mX7_odds 20 kX7_odds_0 0 = true := by decide +kernel
def kX7_odds_20 : List mI := [(20, .iconst (-1), 1, 1, 0, 0, 0, m0), (21, .ireturn, 0, 0, 0, 0, 0, m0)]
theorem oX7_odds_20 : okB mX7_odds 22 kX7_odds_20 20 = true := by decide +kernel
def kX7_odds_22 : List mI := [(22, .aload_n 0, 0, 0, 0, 0, 0, m0), (23, .iload_n 1, 0, 0, 0, 0, 0, m0), (24, .aload_n 0, 0, 0, 0, 0, 0, m0), (25, .getfield 39, 7, 5, 0, 0, 325, m0), (28, .getfield 101, 4, 0, 0, 0, 242, m0), (31, .iconst 4, 4, 0, 0, 0, 0, m0), (32, .invokevirtual 180, 3, 1, 0, 0, 576, mX3_howMany), (35, .invokevirtual 200, 7, 2, 0, 0, 628, mX7_spreadChances), (38, .lconst 0, 0, 0, 0, 0, 0, m0), (39, .lstore_n 3, 0, 0, 0, 0, 0, m0), (40, .iconst 0, 0, 0, 0, 0, 0, m0), (41, .istore 5, 0, 0, 0, 0, 0, m0)]
theorem oX7_odds_22 : okB mX7_odds 43 kX7_odds_22 22 = true := by decide +kernel
def kX7_odds_43 : List mI := [(43, .iload 5, 0, 0, 0, 0, 0, m0), (45, .iload_n 2, 0, 0, 0, 0, 0, m0), (46, .if_icmp .gt 19, 65, 0, 0, 0, 0, m0), (49, .lload_n 3, 0, 0, 0, 0, 0, m0), (50, .aload_n 0, 0, 0, 0, 0, 0, m0), (51, .getfield 72, 7, 11, 0, 0, 331, m0), (54, .iload 5, 0, 0, 0, 0, 0, m0), (56, .laload, 0, 0, 0, 0, 0, m0), (57, .ladd, 0, 0, 0, 0, 0, m0), (58, .lstore_n 3, 0, 0, 0, 0, 0, m0), (59, .iinc 5 1, 1, 0, 0, 0, 0, m0), (62, .goto (-19), 43, 0, 0, 0, 0, m0)]
theorem oX7_odds_43 : okB mX7_odds 65 kX7_odds_43 43 = true := by decide +kernel
def kX7_odds_65 : List mI := [(65, .lload_n 3, 0, 0, 0, 0, 0, m0), (66, .ldc2_w 204, 10000, 0, 0, 0, 635, m0), (69, .ldiv, 0, 0, 0, 0, 0, m0), (70, .l2i, 0, 0, 0, 0, 0, m0), (71, .ireturn, 0, 0, 0, 0, 0, m0)]
theorem oX7_odds_65 : okB mX7_odds 72 kX7_odds_65 65 = true := by decide +kernel
def kX7_hears_0 : List mI := [(0, .aload_n 0, 0, 0, 0, 0, 0, m0), (1, .iload_n 1, 0, 0, 0, 0, 0, m0), (2, .invokevirtual 136, 7, 1, 0, 0, 475, mX7_noJudge), (5, .ifCond .ne 12, 17, 0, 0, 0, 0, m0), (8, .iload_n 2, 0, 0, 0, 0, 0, m0), (9, .ifCond .lt 8, 17, 0, 0, 0, 0, m0), (12, .iload_n 2, 0, 0, 0, 0, 0, m0), (13, .iconst 1, 1, 0, 0, 0, 0, m0), (14, .if_icmp .le 5, 19, 0, 0, 0, 0, m0)]
theorem oX7_hears_0 : okB mX7_hears 17 kX7_hears_0 0 = true := by decide +kernel
def kX7_hears_17 : List mI := [(17, .iconst (-1), 1, 1, 0, 0, 0, m0), (18, .ireturn, 0, 0, 0, 0, 0, m0)]
theorem oX7_hears_17 : okB mX7_hears 19 kX7_hears_17 17 = true := by decide +kernel
def kX7_hears_19 : List mI := [(19, .aload_n 0, 0, 0, 0, 0, 0, m0), (20, .getfield 54, 7, 8, 0, 0, 328, m0), (23, .getfield 88, 0, 0, 0, 0, 261, m0), (26, .iconst 4, 4, 0, 0, 0, 0, m0), (27, .if_icmp .lt 6, 33, 0, 0, 0, 0, m0), (30, .bipush (-3), 3, 1, 0, 0, 0, m0), (32, .ireturn, 0, 0, 0, 0, 0, m0)]
theorem oX7_hears_19 : okB mX7_hears 33 kX7_hears_19 19 = true := by decide +kernel
def kX7_hears_33 : List mI := [(33, .aload_n 0, 0, 0, 0, 0, 0, m0), (34, .getfield 54, 7, 8, 0, 0, 328, m0), (37, .iload_n 1, 0, 0, 0, 0, 0, m0), (38, .iload_n 2, 0, 0, 0, 0, 0, m0), (39, .iconst 1, 1, 0, 0, 0, 0, m0), (40, .if_icmp .ne 7, 47, 0, 0, 0, 0, m0), (43, .iconst 1, 1, 0, 0, 0, 0, m0), (44, .goto 4, 48, 0, 0, 0, 0, m0)]
theorem oX7_hears_33 : okB mX7_hears 47 kX7_hears_33 33 = true := by decide +kernel
def kX7_hears_47 : List mI := [(47, .iconst 0, 0, 0, 0, 0, 0, m0)]
theorem oX7_hears_47 : okB mX7_hears 48 kX7_hears_47 47 = true := by decide +kernel
def kX7_hears_48 : List mI := [(48, .invokevirtual 206, 0, 2, 0, 0, 640, mX0_add), (51, .aload_n 0, 0, 0, 0, 0, 0, m0), (52, .getfield 54, 7, 8, 0, 0, 328, m0), (55, .getfield 88, 0, 0, 0, 0, 261, m0), (58, .ireturn, 0, 0, 0, 0, 0, m0)]
theorem oX7_hears_48 : okB mX7_hears 59 kX7_hears_48 48 = true := by decide +kernel
def kX7_forget_0 : List mI := [(0, .aload_n 0, 0, 0, 0, 0, 0, m0), (1, .getfield 54, 7, 8, 0, 0, 328, m0), (4, .getfield 88, 0, 0, 0, 0, 261, m0), (7, .istore_n 1, 0, 0, 0, 0, 0, m0), (8, .aload_n 0, 0, 0, 0, 0, 0, m0), (9, .getfield 54, 7, 8, 0, 0, 328, m0), (12, .iconst 0, 0, 0, 0, 0, 0, m0), (13, .putfield 88, 0, 0, 0, 0, 261, m0), (16, .iload_n 1, 0, 0, 0, 0, 0, m0), (17, .ireturn, 0, 0, 0, 0, 0, m0)]
theorem oX7_forget_0 : okB mX7_forget 18 kX7_forget_0 0 = true := by decide +kernel
def kX7_worths_0 : List mI := [(0, .iload_n 1, 0, 0, 0, 0, 0, m0), (1, .tableswitch 64 0 2 #[27, 40, 52], 0, 0, 0, 0, 0, m0)]
theorem oX7_worths_0 : okB mX7_worths 28 kX7_worths_0 0 = true := by decide +kernel
def kX7_worths_28 : List mI := [(28, .aload_n 0, 0, 0, 0, 0, 0, m0), (29, .getfield 54, 7, 8, 0, 0, 328, m0), (32, .aload_n 0, 0, 0, 0, 0, 0, m0), (33, .getfield 29, 7, 3, 0, 0, 323, m0), (36, .iconst 0, 0, 0, 0, 0, 0, m0), (37, .invokevirtual 210, 0, 2, 0, 0, 652, mX0_howMany), (40, .ireturn, 0, 0, 0, 0, 0, m0)]
theorem oX7_worths_28 : okB mX7_worths 41 kX7_worths_28 28 = true := by decide +kernel
def kX7_worths_41 : List mI := [(41, .aload_n 0, 0, 0, 0, 0, 0, m0), (42, .getfield 54, 7, 8, 0, 0, 328, m0), (45, .aload_n 0, 0, 0, 0, 0, 0, m0), (46, .getfield 29, 7, 3, 0, 0, 323, m0), (49, .invokevirtual 212, 0, 1, 0, 0, 661, mX0_least), (52, .ireturn, 0, 0, 0, 0, 0, m0)]
theorem oX7_worths_41 : okB mX7_worths 53 kX7_worths_41 41 = true := by decide +kernel
def kX7_worths_53 : List mI := [(53, .aload_n 0, 0, 0, 0, 0, 0, m0), (54, .getfield 54, 7, 8, 0, 0, 328, m0), (57, .aload_n 0, 0, 0, 0, 0, 0, m0), (58, .getfield 29, 7, 3, 0, 0, 323, m0), (61, .invokevirtual 216, 0, 1, 0, 0, 665, mX0_greatest), (64, .ireturn, 0, 0, 0, 0, 0, m0)]
theorem oX7_worths_53 : okB mX7_worths 65 kX7_worths_53 53 = true := by decide +kernel
def kX7_worths_65 : List mI := [(65, .iconst (-1), 1, 1, 0, 0, 0, m0), (66, .ireturn, 0, 0, 0, 0, 0, m0)]
theorem oX7_worths_65 : okB mX7_worths 67 kX7_worths_65 65 = true := by decide +kernel
def kX7_ask_0 : List mI := [(0, .aload_n 0, 0, 0, 0, 0, 0, m0), (1, .getfield 54, 7, 8, 0, 0, 328, m0), (4, .aload_n 0, 0, 0, 0, 0, 0, m0), (5, .getfield 29, 7, 3, 0, 0, 323, m0), (8, .invokevirtual 219, 0, 1, 0, 0, 673, mX0_whomToAsk), (11, .ireturn, 0, 0, 0, 0, 0, m0)]
theorem oX7_ask_0 : okB mX7_ask 12 kX7_ask_0 0 = true := by decide +kernel
def kX7_mark_0 : List mI := [(0, .aload_n 0, 0, 0, 0, 0, 0, m0), (1, .iload_n 2, 0, 0, 0, 0, 0, m0), (2, .invokevirtual 91, 7, 1, 0, 0, 437, mX7_noBrick), (5, .ifCond .eq 6, 11, 0, 0, 0, 0, m0), (8, .ldc 222, 1000000, 1, 0, 0, 685, m0), (10, .ireturn, 0, 0, 0, 0, 0, m0)]
theorem oX7_mark_0 : okB mX7_mark 11 kX7_mark_0 0 = true := by decide +kernel
def kX7_mark_11 : List mI := [(11, .iload_n 1, 0, 0, 0, 0, 0, m0), (12, .tableswitch 76 0 5 #[40, 46, 52, 58, 64, 70], 0, 0, 0, 0, 0, m0)]
theorem oX7_mark_11 : okB mX7_mark 52 kX7_mark_11 11 = true := by decide +kernel
def kX7_mark_52 : List mI := [(52, .aload_n 0, 0, 0, 0, 0, 0, m0), (53, .iload_n 2, 0, 0, 0, 0, 0, m0), (54, .invokevirtual 223, 7, 1, 0, 0, 686, mX7_markOfBrick), (57, .ireturn, 0, 0, 0, 0, 0, m0)]
theorem oX7_mark_52 : okB mX7_mark 58 kX7_mark_52 52 = true := by decide +kernel
def kX7_mark_58 : List mI := [(58, .aload_n 0, 0, 0, 0, 0, 0, m0), (59, .iload_n 2, 0, 0, 0, 0, 0, m0), (60, .invokevirtual 226, 7, 1, 0, 0, 690, mX7_markOfArch), (63, .ireturn, 0, 0, 0, 0, 0, m0)]
theorem oX7_mark_58 : okB mX7_mark 64 kX7_mark_58 58 = true := by decide +kernel
def kX7_mark_64 : List mI := [(64, .aload_n 0, 0, 0, 0, 0, 0, m0), (65, .iload_n 2, 0, 0, 0, 0, 0, m0), (66, .invokevirtual 229, 7, 1, 0, 0, 695, mX7_markOfFont), (69, .ireturn, 0, 0, 0, 0, 0, m0)]
theorem oX7_mark_64 : okB mX7_mark 70 kX7_mark_64 64 = true := by decide +kernel
def kX7_mark_70 : List mI := [(70, .aload_n 0, 0, 0, 0, 0, 0, m0), (71, .iload_n 2, 0, 0, 0, 0, 0, m0), (72, .invokevirtual 232, 7, 1, 0, 0, 700, mX7_markOfVault), (75, .ireturn, 0, 0, 0, 0, 0, m0)]
theorem oX7_mark_70 : okB mX7_mark 76 kX7_mark_70 70 = true := by decide +kernel
def kX7_mark_76 : List mI := [(76, .aload_n 0, 0, 0, 0, 0, 0, m0), (77, .iload_n 2, 0, 0, 0, 0, 0, m0), (78, .invokevirtual 235, 7, 1, 0, 0, 705, mX7_markOfStep), (81, .ireturn, 0, 0, 0, 0, 0, m0)]
theorem oX7_mark_76 : okB mX7_mark 82 kX7_mark_76 76 = true := by decide +kernel
def kX7_mark_82 : List mI := [(82, .aload_n 0, 0, 0, 0, 0, 0, m0), (83, .iload_n 2, 0, 0, 0, 0, 0, m0), (84, .invokevirtual 238, 7, 1, 0, 0, 709, mX7_markOfChapel), (87, .ireturn, 0, 0, 0, 0, 0, m0)]
theorem oX7_mark_82 : okB mX7_mark 88 kX7_mark_82 82 = true := by decide +kernel
def kX7_mark_88 : List mI := [(88, .ldc 222, 1000000, 1, 0, 0, 685, m0), (90, .ireturn, 0, 0, 0, 0, 0, m0)]
theorem oX7_mark_88 : okB mX7_mark 91 kX7_mark_88 88 = true := by decide +kernel
def kX7_keep_0 : List mI := [(0, .iload_n 1, 0, 0, 0, 0, 0, m0), (1, .invokestatic 241, 0, 1, 0, 0, 718, mX7_noImage), (4, .ifCond .eq 5, 9, 0, 0, 0, 0, m0), (7, .iconst (-1), 1, 1, 0, 0, 0, m0), (8, .ireturn, 0, 0, 0, 0, 0, m0)]
theorem oX7_keep_0 : okB mX7_keep 9 kX7_keep_0 0 = true := by decide +kernel
def kX7_keep_9 : List mI := [(9, .aload_n 0, 0, 0, 0, 0, 0, m0), (10, .getfield 43, 7, 6, 0, 0, 326, m0), (13, .iload_n 1, 0, 0, 0, 0, 0, m0), (14, .aaload, 5, 0, 0, 0, 0, m0), (15, .aload_n 0, 0, 0, 0, 0, 0, m0), (16, .getfield 39, 7, 5, 0, 0, 325, m0), (19, .invokevirtual 244, 4, 1, 0, 0, 721, mX4_become), (22, .aload_n 0, 0, 0, 0, 0, 0, m0), (23, .getfield 47, 7, 7, 0, 0, 327, m0), (26, .iload_n 1, 0, 0, 0, 0, 0, m0), (27, .iconst 1, 1, 0, 0, 0, 0, m0), (28, .bastore, 1, 0, 0, 0, 0, m0), (29, .aload_n 0, 0, 0, 0, 0, 0, m0), (30, .getfield 39, 7, 5, 0, 0, 325, m0), (33, .getfield 101, 4, 0, 0, 0, 242, m0), (36, .iconst 4, 4, 0, 0, 0, 0, m0), (37, .invokevirtual 180, 3, 1, 0, 0, 576, mX3_howMany), (40, .ireturn, 0, 0, 0, 0, 0, m0)]
theorem oX7_keep_9 : okB mX7_keep 41 kX7_keep_9 9 = true := by decide +kernel
def kX7_back_0 : List mI := [(0, .iload_n 1, 0, 0, 0, 0, 0, m0), (1, .invokestatic 241, 0, 1, 0, 0, 718, mX7_noImage), (4, .ifCond .eq 5, 9, 0, 0, 0, 0, m0), (7, .iconst (-1), 1, 1, 0, 0, 0, m0), (8, .ireturn, 0, 0, 0, 0, 0, m0)]
theorem oX7_back_0 : okB mX7_back 9 kX7_back_0 0 = true := by decide +kernel
def kX7_back_9 : List mI := [(9, .aload_n 0, 0, 0, 0, 0, 0, m0), (10, .getfield 47, 7, 7, 0, 0, 327, m0), (13, .iload_n 1, 0, 0, 0, 0, 0, m0), (14, .baload, 1, 0, 0, 0, 0, m0), (15, .ifCond .ne 6, 21, 0, 0, 0, 0, m0), (18, .bipush (-2), 2, 1, 0, 0, 0, m0), (20, .ireturn, 0, 0, 0, 0, 0, m0)]
theorem oX7_back_9 : okB mX7_back 21 kX7_back_9 9 = true := by decide +kernel
def kX7_back_21 : List mI := [(21, .aload_n 0, 0, 0, 0, 0, 0, m0), (22, .getfield 39, 7, 5, 0, 0, 325, m0), (25, .aload_n 0, 0, 0, 0, 0, 0, m0), (26, .getfield 43, 7, 6, 0, 0, 326, m0), (29, .iload_n 1, 0, 0, 0, 0, 0, m0), (30, .aaload, 5, 0, 0, 0, 0, m0), (31, .invokevirtual 244, 4, 1, 0, 0, 721, mX4_become), (34, .aload_n 0, 0, 0, 0, 0, 0, m0), (35, .getfield 39, 7, 5, 0, 0, 325, m0), (38, .getfield 101, 4, 0, 0, 0, 242, m0), (41, .iconst 4, 4, 0, 0, 0, 0, m0), (42, .invokevirtual 180, 3, 1, 0, 0, 576, mX3_howMany), (45, .ireturn, 0, 0, 0, 0, 0, m0)]
theorem oX7_back_21 : okB mX7_back 46 kX7_back_21 21 = true := by decide +kernel
def kX7_count_0 : List mI := [(0, .iload_n 1, 0, 0, 0, 0, 0, m0), (1, .tableswitch 108 0 7 #[47, 55, 63, 71, 79, 87, 95, 103], 0, 0, 0, 0, 0, m0)]
theorem oX7_count_0 : okB mX7_count 48 kX7_count_0 0 = true := by decide +kernel
def kX7_count_48 : List mI := [(48, .aload_n 0, 0, 0, 0, 0, 0, m0), (49, .getfield 29, 7, 3, 0, 0, 323, m0), (52, .getfield 248, 5, 0, 0, 0, 146, m0), (55, .ireturn, 0, 0, 0, 0, 0, m0)]
theorem oX7_count_48 : okB mX7_count 56 kX7_count_48 48 = true := by decide +kernel
def kX7_count_56 : List mI := [(56, .aload_n 0, 0, 0, 0, 0, 0, m0), (57, .getfield 29, 7, 3, 0, 0, 323, m0), (60, .getfield 123, 5, 1, 0, 0, 149, m0), (63, .ireturn, 0, 0, 0, 0, 0, m0)]
theorem oX7_count_56 : okB mX7_count 64 kX7_count_56 56 = true := by decide +kernel
def kX7_count_64 : List mI := [(64, .aload_n 0, 0, 0, 0, 0, 0, m0), (65, .getfield 29, 7, 3, 0, 0, 323, m0), (68, .getfield 151, 5, 2, 0, 0, 155, m0), (71, .ireturn, 0, 0, 0, 0, 0, m0)]
theorem oX7_count_64 : okB mX7_count 72 kX7_count_64 64 = true := by decide +kernel
def kX7_count_72 : List mI := [(72, .aload_n 0, 0, 0, 0, 0, 0, m0), (73, .getfield 29, 7, 3, 0, 0, 323, m0), (76, .getfield 251, 5, 3, 0, 0, 159, m0), (79, .ireturn, 0, 0, 0, 0, 0, m0)]
theorem oX7_count_72 : okB mX7_count 80 kX7_count_72 72 = true := by decide +kernel
def kX7_count_80 : List mI := [(80, .aload_n 0, 0, 0, 0, 0, 0, m0), (81, .getfield 29, 7, 3, 0, 0, 323, m0), (84, .getfield 254, 5, 4, 0, 0, 163, m0), (87, .ireturn, 0, 0, 0, 0, 0, m0)]
theorem oX7_count_80 : okB mX7_count 88 kX7_count_80 80 = true := by decide +kernel
def kX7_count_88 : List mI := [(88, .aload_n 0, 0, 0, 0, 0, 0, m0), (89, .getfield 54, 7, 8, 0, 0, 328, m0), (92, .getfield 88, 0, 0, 0, 0, 261, m0), (95, .ireturn, 0, 0, 0, 0, 0, m0)]
theorem oX7_count_88 : okB mX7_count 96 kX7_count_88 88 = true := by decide +kernel
def kX7_count_96 : List mI := [(96, .aload_n 0, 0, 0, 0, 0, 0, m0), (97, .getfield 39, 7, 5, 0, 0, 325, m0), (100, .getfield 170, 4, 2, 0, 0, 245, m0), (103, .ireturn, 0, 0, 0, 0, 0, m0)]
theorem oX7_count_96 : okB mX7_count 104 kX7_count_96 96 = true := by decide +kernel
def kX7_count_104 : List mI := [(104, .aload_n 0, 0, 0, 0, 0, 0, m0), (105, .getfield 13, 7, 1, 0, 0, 321, m0), (108, .ireturn, 0, 0, 0, 0, 0, m0)]
theorem oX7_count_104 : okB mX7_count 109 kX7_count_104 104 = true := by decide +kernel
def kX7_count_109 : List mI := [(109, .iconst (-1), 1, 1, 0, 0, 0, m0), (110, .ireturn, 0, 0, 0, 0, 0, m0)]
theorem oX7_count_109 : okB mX7_count 111 kX7_count_109 109 = true := by decide +kernel
def kX7_trace_0 : List mI := [(0, .aload_n 0, 0, 0, 0, 0, 0, m0), (1, .getfield 76, 7, 12, 0, 0, 332, m0), (4, .lreturn, 0, 0, 0, 0, 0, m0)]
theorem oX7_trace_0 : okB mX7_trace 5 kX7_trace_0 0 = true := by decide +kernel
def kX7_noBrick_0 : List mI := [(0, .iload_n 1, 0, 0, 0, 0, 0, m0), (1, .ifCond .lt 14, 15, 0, 0, 0, 0, m0), (4, .iload_n 1, 0, 0, 0, 0, 0, m0), (5, .aload_n 0, 0, 0, 0, 0, 0, m0), (6, .getfield 29, 7, 3, 0, 0, 323, m0), (9, .getfield 151, 5, 2, 0, 0, 155, m0), (12, .if_icmp .lt 7, 19, 0, 0, 0, 0, m0)]
theorem oX7_noBrick_0 : okB mX7_noBrick 15 kX7_noBrick_0 0 = true := by decide +kernel
def kX7_noBrick_15 : List mI := [(15, .iconst 1, 1, 0, 0, 0, 0, m0), (16, .goto 4, 20, 0, 0, 0, 0, m0)]
theorem oX7_noBrick_15 : okB mX7_noBrick 19 kX7_noBrick_15 15 = true := by decide +kernel
def kX7_noBrick_19 : List mI := [(19, .iconst 0, 0, 0, 0, 0, 0, m0)]
theorem oX7_noBrick_19 : okB mX7_noBrick 20 kX7_noBrick_19 19 = true := by decide +kernel
def kX7_noBrick_20 : List mI := [(20, .ireturn, 1, 0, 0, 0, 0, m0)]
theorem oX7_noBrick_20 : okB mX7_noBrick 21 kX7_noBrick_20 20 = true := by decide +kernel
def kX7_noColumn_0 : List mI := [(0, .iload_n 1, 0, 0, 0, 0, 0, m0), (1, .ifCond .lt 14, 15, 0, 0, 0, 0, m0), (4, .iload_n 1, 0, 0, 0, 0, 0, m0), (5, .aload_n 0, 0, 0, 0, 0, 0, m0), (6, .getfield 29, 7, 3, 0, 0, 323, m0), (9, .getfield 248, 5, 0, 0, 0, 146, m0), (12, .if_icmp .lt 7, 19, 0, 0, 0, 0, m0)]
theorem oX7_noColumn_0 : okB mX7_noColumn 15 kX7_noColumn_0 0 = true := by decide +kernel
def kX7_noColumn_15 : List mI := [(15, .iconst 1, 1, 0, 0, 0, 0, m0), (16, .goto 4, 20, 0, 0, 0, 0, m0)]
theorem oX7_noColumn_15 : okB mX7_noColumn 19 kX7_noColumn_15 15 = true := by decide +kernel
def kX7_noColumn_19 : List mI := [(19, .iconst 0, 0, 0, 0, 0, 0, m0)]
theorem oX7_noColumn_19 : okB mX7_noColumn 20 kX7_noColumn_19 19 = true := by decide +kernel
def kX7_noColumn_20 : List mI := [(20, .ireturn, 1, 0, 0, 0, 0, m0)]
theorem oX7_noColumn_20 : okB mX7_noColumn 21 kX7_noColumn_20 20 = true := by decide +kernel
def kX7_noJudge_0 : List mI := [(0, .iload_n 1, 0, 0, 0, 0, 0, m0), (1, .ifCond .lt 14, 15, 0, 0, 0, 0, m0), (4, .iload_n 1, 0, 0, 0, 0, 0, m0), (5, .aload_n 0, 0, 0, 0, 0, 0, m0), (6, .getfield 29, 7, 3, 0, 0, 323, m0), (9, .getfield 251, 5, 3, 0, 0, 159, m0), (12, .if_icmp .lt 7, 19, 0, 0, 0, 0, m0)]
theorem oX7_noJudge_0 : okB mX7_noJudge 15 kX7_noJudge_0 0 = true := by decide +kernel
def kX7_noJudge_15 : List mI := [(15, .iconst 1, 1, 0, 0, 0, 0, m0), (16, .goto 4, 20, 0, 0, 0, 0, m0)]
theorem oX7_noJudge_15 : okB mX7_noJudge 19 kX7_noJudge_15 15 = true := by decide +kernel
def kX7_noJudge_19 : List mI := [(19, .iconst 0, 0, 0, 0, 0, 0, m0)]
theorem oX7_noJudge_19 : okB mX7_noJudge 20 kX7_noJudge_19 19 = true := by decide +kernel
def kX7_noJudge_20 : List mI := [(20, .ireturn, 1, 0, 0, 0, 0, m0)]
theorem oX7_noJudge_20 : okB mX7_noJudge 21 kX7_noJudge_20 20 = true := by decide +kernel
def kX7_noHolder_0 : List mI := [(0, .iload_n 0, 0, 0, 0, 0, 0, m0), (1, .ifCond .lt 9, 10, 0, 0, 0, 0, m0), (4, .iload_n 0, 0, 0, 0, 0, 0, m0), (5, .bipush 6, 6, 0, 0, 0, 0, m0), (7, .if_icmp .lt 7, 14, 0, 0, 0, 0, m0)]
theorem oX7_noHolder_0 : okB mX7_noHolder 10 kX7_noHolder_0 0 = true := by decide +kernel
def kX7_noHolder_10 : List mI := [(10, .iconst 1, 1, 0, 0, 0, 0, m0), (11, .goto 4, 15, 0, 0, 0, 0, m0)]
theorem oX7_noHolder_10 : okB mX7_noHolder 14 kX7_noHolder_10 10 = true := by decide +kernel
def kX7_noHolder_14 : List mI := [(14, .iconst 0, 0, 0, 0, 0, 0, m0)]
theorem oX7_noHolder_14 : okB mX7_noHolder 15 kX7_noHolder_14 14 = true := by decide +kernel
def kX7_noHolder_15 : List mI := [(15, .ireturn, 1, 0, 0, 0, 0, m0)]
theorem oX7_noHolder_15 : okB mX7_noHolder 16 kX7_noHolder_15 15 = true := by decide +kernel
def kX7_noImage_0 : List mI := [(0, .iload_n 0, 0, 0, 0, 0, 0, m0), (1, .ifCond .lt 8, 9, 0, 0, 0, 0, m0), (4, .iload_n 0, 0, 0, 0, 0, 0, m0), (5, .iconst 2, 2, 0, 0, 0, 0, m0), (6, .if_icmp .lt 7, 13, 0, 0, 0, 0, m0)]
theorem oX7_noImage_0 : okB mX7_noImage 9 kX7_noImage_0 0 = true := by decide +kernel
def kX7_noImage_9 : List mI := [(9, .iconst 1, 1, 0, 0, 0, 0, m0), (10, .goto 4, 14, 0, 0, 0, 0, m0)]
theorem oX7_noImage_9 : okB mX7_noImage 13 kX7_noImage_9 9 = true := by decide +kernel
def kX7_noImage_13 : List mI := [(13, .iconst 0, 0, 0, 0, 0, 0, m0)]
theorem oX7_noImage_13 : okB mX7_noImage 14 kX7_noImage_13 13 = true := by decide +kernel
def kX7_noImage_14 : List mI := [(14, .ireturn, 1, 0, 0, 0, 0, m0)]
theorem oX7_noImage_14 : okB mX7_noImage 15 kX7_noImage_14 14 = true := by decide +kernel
def kX7_hasBit_0 : List mI := [(0, .iload_n 0, 0, 0, 0, 0, 0, m0), (1, .iload_n 1, 0, 0, 0, 0, 0, m0), (2, .ishr, 0, 0, 0, 0, 0, m0), (3, .iconst 1, 1, 0, 0, 0, 0, m0), (4, .iand, 0, 0, 0, 0, 0, m0), (5, .iconst 1, 1, 0, 0, 0, 0, m0), (6, .if_icmp .ne 7, 13, 0, 0, 0, 0, m0), (9, .iconst 1, 1, 0, 0, 0, 0, m0), (10, .goto 4, 14, 0, 0, 0, 0, m0)]
theorem oX7_hasBit_0 : okB mX7_hasBit 13 kX7_hasBit_0 0 = true := by decide +kernel
def kX7_hasBit_13 : List mI := [(13, .iconst 0, 0, 0, 0, 0, 0, m0)]
theorem oX7_hasBit_13 : okB mX7_hasBit 14 kX7_hasBit_13 13 = true := by decide +kernel
def kX7_hasBit_14 : List mI := [(14, .ireturn, 1, 0, 0, 0, 0, m0)]
theorem oX7_hasBit_14 : okB mX7_hasBit 15 kX7_hasBit_14 14 = true := by decide +kernel
def kX7_shapeAt_0 : List mI := [(0, .iconst 2, 2, 0, 0, 0, 0, m0), (1, .iload_n 1, 0, 0, 0, 0, 0, m0), (2, .imul, 0, 0, 0, 0, 0, m0), (3, .iload_n 0, 0, 0, 0, 0, 0, m0), (4, .iadd, 0, 0, 0, 0, 0, m0), (5, .iconst 3, 3, 0, 0, 0, 0, m0), (6, .irem, 0, 0, 0, 0, 0, m0), (7, .ireturn, 0, 0, 0, 0, 0, m0)]
theorem oX7_shapeAt_0 : okB mX7_shapeAt 8 kX7_shapeAt_0 0 = true := by decide +kernel
def kX7_fits_0 : List mI := [(0, .aload_n 0, 0, 0, 0, 0, 0, m0), (1, .getfield 39, 7, 5, 0, 0, 325, m0), (4, .getfield 101, 4, 0, 0, 0, 242, m0), (7, .getfield 110, 3, 1, 0, 0, 222, m0), (10, .iload_n 1, 0, 0, 0, 0, 0, m0), (11, .iaload, 0, 0, 0, 0, 0, m0), (12, .iconst 4, 4, 0, 0, 0, 0, m0), (13, .if_icmp .ne 5, 18, 0, 0, 0, 0, m0), (16, .iconst 0, 0, 0, 0, 0, 0, m0), (17, .ireturn, 0, 0, 0, 0, 0, m0)]
theorem oX7_fits_0 : okB mX7_fits 18 kX7_fits_0 0 = true := by decide +kernel
def kX7_fits_18 : List mI := [(18, .iconst 0, 0, 0, 0, 0, 0, m0), (19, .istore_n 2, 0, 0, 0, 0, 0, m0), (20, .iconst 0, 0, 0, 0, 0, 0, m0), (21, .istore_n 3, 0, 0, 0, 0, 0, m0)]
theorem oX7_fits_18 : okB mX7_fits 22 kX7_fits_18 18 = true := by decide +kernel
def kX7_fits_22 : List mI := [(22, .iload_n 3, 0, 0, 0, 0, 0, m0), (23, .aload_n 0, 0, 0, 0, 0, 0, m0), (24, .getfield 29, 7, 3, 0, 0, 323, m0), (27, .getfield 248, 5, 0, 0, 0, 146, m0), (30, .if_icmp .ge 58, 88, 0, 0, 0, 0, m0), (33, .aload_n 0, 0, 0, 0, 0, 0, m0), (34, .getfield 39, 7, 5, 0, 0, 325, m0), (37, .getfield 101, 4, 0, 0, 0, 242, m0), (40, .iload_n 3, 0, 0, 0, 0, 0, m0), (41, .invokevirtual 164, 3, 1, 0, 0, 445, mX3_height), (44, .istore 4, 0, 0, 0, 0, 0, m0), (46, .iload 4, 0, 0, 0, 0, 0, m0), (48, .aload_n 0, 0, 0, 0, 0, 0, m0), (49, .getfield 29, 7, 3, 0, 0, 323, m0), (52, .getfield 123, 5, 1, 0, 0, 149, m0), (55, .if_icmp .ge 27, 82, 0, 0, 0, 0, m0), (58, .iload_n 3, 0, 0, 0, 0, 0, m0), (59, .iload 4, 0, 0, 0, 0, 0, m0), (61, .invokestatic 257, 0, 2, 0, 0, 449, mX7_shapeAt), (64, .aload_n 0, 0, 0, 0, 0, 0, m0), (65, .getfield 29, 7, 3, 0, 0, 323, m0), (68, .getfield 95, 5, 6, 0, 0, 168, m0), (71, .iload_n 1, 0, 0, 0, 0, 0, m0), (72, .iaload, 0, 0, 0, 0, 0, m0), (73, .if_icmp .ne 9, 82, 0, 0, 0, 0, m0), (76, .iload_n 2, 0, 0, 0, 0, 0, m0), (77, .iconst 1, 1, 0, 0, 0, 0, m0), (78, .iload_n 3, 0, 0, 0, 0, 0, m0), (79, .ishl, 0, 0, 0, 0, 0, m0), (80, .ior, 0, 0, 0, 0, 0, m0), (81, .istore_n 2, 0, 0, 0, 0, 0, m0)]
theorem oX7_fits_22 : okB mX7_fits 82 kX7_fits_22 22 = true := by decide +kernel
def kX7_fits_82 : List mI := [(82, .iinc 3 1, 1, 0, 0, 0, 0, m0), (85, .goto (-63), 22, 0, 0, 0, 0, m0)]
theorem oX7_fits_82 : okB mX7_fits 88 kX7_fits_82 82 = true := by decide +kernel
def kX7_fits_88 : List mI := [(88, .iload_n 2, 0, 0, 0, 0, 0, m0), (89, .ireturn, 0, 0, 0, 0, 0, m0)]
theorem oX7_fits_88 : okB mX7_fits 90 kX7_fits_88 88 = true := by decide +kernel
def kX7_wouldHold_0 : List mI := [(0, .iconst 0, 0, 0, 0, 0, 0, m0), (1, .istore_n 2, 0, 0, 0, 0, 0, m0), (2, .iconst 0, 0, 0, 0, 0, 0, m0), (3, .istore_n 3, 0, 0, 0, 0, 0, m0)]
theorem oX7_wouldHold_0 : okB mX7_wouldHold 4 kX7_wouldHold_0 0 = true := by decide +kernel
def kX7_wouldHold_4 : List mI := [(4, .iload_n 3, 0, 0, 0, 0, 0, m0), (5, .aload_n 0, 0, 0, 0, 0, 0, m0), (6, .getfield 29, 7, 3, 0, 0, 323, m0), (9, .getfield 151, 5, 2, 0, 0, 155, m0), (12, .if_icmp .ge 38, 50, 0, 0, 0, 0, m0), (15, .aload_n 0, 0, 0, 0, 0, 0, m0), (16, .getfield 29, 7, 3, 0, 0, 323, m0), (19, .iload_n 1, 0, 0, 0, 0, 0, m0), (20, .aload_n 0, 0, 0, 0, 0, 0, m0), (21, .getfield 39, 7, 5, 0, 0, 325, m0), (24, .getfield 101, 4, 0, 0, 0, 242, m0), (27, .getfield 105, 3, 2, 0, 0, 224, m0), (30, .iload_n 3, 0, 0, 0, 0, 0, m0), (31, .iaload, 0, 0, 0, 0, 0, m0), (32, .invokevirtual 197, 5, 2, 0, 0, 483, mX5_isFor), (35, .ifCond .eq 9, 44, 0, 0, 0, 0, m0), (38, .iload_n 2, 0, 0, 0, 0, 0, m0), (39, .iconst 1, 1, 0, 0, 0, 0, m0), (40, .iload_n 3, 0, 0, 0, 0, 0, m0), (41, .ishl, 0, 0, 0, 0, 0, m0), (42, .ior, 0, 0, 0, 0, 0, m0), (43, .istore_n 2, 0, 0, 0, 0, 0, m0)]
theorem oX7_wouldHold_4 : okB mX7_wouldHold 44 kX7_wouldHold_4 4 = true := by decide +kernel
def kX7_wouldHold_44 : List mI := [(44, .iinc 3 1, 1, 0, 0, 0, 0, m0), (47, .goto (-43), 4, 0, 0, 0, 0, m0)]
theorem oX7_wouldHold_44 : okB mX7_wouldHold 50 kX7_wouldHold_44 44 = true := by decide +kernel
def kX7_wouldHold_50 : List mI := [(50, .iload_n 2, 0, 0, 0, 0, 0, m0), (51, .ireturn, 0, 0, 0, 0, 0, m0)]
theorem oX7_wouldHold_50 : okB mX7_wouldHold 52 kX7_wouldHold_50 50 = true := by decide +kernel
def kX7_spreadChances_0 : List mI := [(0, .aload_n 0, 0, 0, 0, 0, 0, m0), (1, .getfield 72, 7, 11, 0, 0, 331, m0), (4, .lconst 0, 0, 0, 0, 0, 0, m0), (5, .invokestatic 260, 0, 2, 0, 0, 632, mJ7_fill_d0a16), (8, .aload_n 0, 0, 0, 0, 0, 0, m0), (9, .getfield 72, 7, 11, 0, 0, 331, m0), (12, .iconst 0, 0, 0, 0, 0, 0, m0), (13, .lconst 1, 1, 0, 0, 0, 0, m0), (14, .lastore, 0, 0, 0, 0, 0, m0), (15, .iconst 0, 0, 0, 0, 0, 0, m0), (16, .istore_n 3, 0, 0, 0, 0, 0, m0)]
theorem oX7_spreadChances_0 : okB mX7_spreadChances 17 kX7_spreadChances_0 0 = true := by decide +kernel
def kX7_spreadChances_17 : List mI := [(17, .iload_n 3, 0, 0, 0, 0, 0, m0), (18, .bipush 10, 10, 0, 0, 0, 0, m0), (20, .if_icmp .ge 90, 110, 0, 0, 0, 0, m0), (23, .iload_n 3, 0, 0, 0, 0, 0, m0), (24, .iload_n 2, 0, 0, 0, 0, 0, m0), (25, .if_icmp .ge 7, 32, 0, 0, 0, 0, m0), (28, .iload_n 1, 0, 0, 0, 0, 0, m0), (29, .goto 4, 33, 0, 0, 0, 0, m0)]
theorem oX7_spreadChances_17 : okB mX7_spreadChances 32 kX7_spreadChances_17 17 = true := by decide +kernel
def kX7_spreadChances_32 : List mI := [(32, .iconst 0, 0, 0, 0, 0, 0, m0)]
theorem oX7_spreadChances_32 : okB mX7_spreadChances 33 kX7_spreadChances_32 32 = true := by decide +kernel
def kX7_spreadChances_33 : List mI := [(33, .istore 4, 0, 0, 0, 0, 0, m0), (35, .bipush 10, 10, 0, 0, 0, 0, m0), (37, .istore 5, 0, 0, 0, 0, 0, m0)]
theorem oX7_spreadChances_33 : okB mX7_spreadChances 39 kX7_spreadChances_33 33 = true := by decide +kernel
def kX7_spreadChances_39 : List mI := [(39, .iload 5, 0, 0, 0, 0, 0, m0), (41, .ifCond .le 44, 85, 0, 0, 0, 0, m0), (44, .aload_n 0, 0, 0, 0, 0, 0, m0), (45, .getfield 72, 7, 11, 0, 0, 331, m0), (48, .iload 5, 0, 0, 0, 0, 0, m0), (50, .aload_n 0, 0, 0, 0, 0, 0, m0), (51, .getfield 72, 7, 11, 0, 0, 331, m0), (54, .iload 5, 0, 0, 0, 0, 0, m0), (56, .laload, 0, 0, 0, 0, 0, m0), (57, .bipush 10, 10, 0, 0, 0, 0, m0), (59, .iload 4, 0, 0, 0, 0, 0, m0), (61, .isub, 0, 0, 0, 0, 0, m0), (62, .i2l, 0, 0, 0, 0, 0, m0), (63, .lmul, 0, 0, 0, 0, 0, m0), (64, .aload_n 0, 0, 0, 0, 0, 0, m0), (65, .getfield 72, 7, 11, 0, 0, 331, m0), (68, .iload 5, 0, 0, 0, 0, 0, m0), (70, .iconst 1, 1, 0, 0, 0, 0, m0), (71, .isub, 0, 0, 0, 0, 0, m0), (72, .laload, 0, 0, 0, 0, 0, m0), (73, .iload 4, 0, 0, 0, 0, 0, m0), (75, .i2l, 0, 0, 0, 0, 0, m0), (76, .lmul, 0, 0, 0, 0, 0, m0), (77, .ladd, 0, 0, 0, 0, 0, m0), (78, .lastore, 0, 0, 0, 0, 0, m0), (79, .iinc 5 (-1), 1, 1, 0, 0, 0, m0), (82, .goto (-43), 39, 0, 0, 0, 0, m0)]
theorem oX7_spreadChances_39 : okB mX7_spreadChances 85 kX7_spreadChances_39 39 = true := by decide +kernel
def kX7_spreadChances_85 : List mI := [(85, .aload_n 0, 0, 0, 0, 0, 0, m0), (86, .getfield 72, 7, 11, 0, 0, 331, m0), (89, .iconst 0, 0, 0, 0, 0, 0, m0), (90, .aload_n 0, 0, 0, 0, 0, 0, m0), (91, .getfield 72, 7, 11, 0, 0, 331, m0), (94, .iconst 0, 0, 0, 0, 0, 0, m0), (95, .laload, 0, 0, 0, 0, 0, m0), (96, .bipush 10, 10, 0, 0, 0, 0, m0), (98, .iload 4, 0, 0, 0, 0, 0, m0), (100, .isub, 0, 0, 0, 0, 0, m0), (101, .i2l, 0, 0, 0, 0, 0, m0), (102, .lmul, 0, 0, 0, 0, 0, m0), (103, .lastore, 0, 0, 0, 0, 0, m0), (104, .iinc 3 1, 1, 0, 0, 0, 0, m0), (107, .goto (-90), 17, 0, 0, 0, 0, m0)]
theorem oX7_spreadChances_85 : okB mX7_spreadChances 110 kX7_spreadChances_85 85 = true := by decide +kernel
def kX7_spreadChances_110 : List mI := [(110, .return_, 0, 0, 0, 0, 0, m0)]
theorem oX7_spreadChances_110 : okB mX7_spreadChances 111 kX7_spreadChances_110 110 = true := by decide +kernel
def kX7_markOfBrick_0 : List mI := [(0, .aload_n 0, 0, 0, 0, 0, 0, m0), (1, .dup, 0, 0, 0, 0, 0, m0), (2, .getfield 76, 7, 12, 0, 0, 332, m0), (5, .lconst 1, 1, 0, 0, 0, 0, m0), (6, .ladd, 0, 0, 0, 0, 0, m0), (7, .putfield 76, 7, 12, 2, 0, 332, m0), (10, .aload_n 0, 0, 0, 0, 0, 0, m0), (11, .getfield 39, 7, 5, 0, 0, 325, m0), (14, .getfield 101, 4, 0, 0, 0, 242, m0), (17, .getfield 105, 3, 2, 0, 0, 224, m0), (20, .iload_n 1, 0, 0, 0, 0, 0, m0), (21, .iaload, 0, 0, 0, 0, 0, m0), (22, .ireturn, 0, 0, 0, 0, 0, m0)]
theorem oX7_markOfBrick_0 : okB mX7_markOfBrick 23 kX7_markOfBrick_0 0 = true := by decide +kernel
def kX7_markOfArch_0 : List mI := [(0, .aload_n 0, 0, 0, 0, 0, 0, m0), (1, .dup, 0, 0, 0, 0, 0, m0), (2, .getfield 76, 7, 12, 0, 0, 332, m0), (5, .ldc2_w 266, 10, 0, 0, 0, 694, m0), (8, .ladd, 0, 0, 0, 0, 0, m0), (9, .putfield 76, 7, 12, 2, 0, 332, m0), (12, .aload_n 0, 0, 0, 0, 0, 0, m0), (13, .iload_n 1, 0, 0, 0, 0, 0, m0), (14, .invokevirtual 223, 7, 1, 0, 0, 686, mX7_markOfBrick), (17, .aload_n 0, 0, 0, 0, 0, 0, m0), (18, .getfield 29, 7, 3, 0, 0, 323, m0), (21, .getfield 95, 5, 6, 0, 0, 168, m0), (24, .iload_n 1, 0, 0, 0, 0, 0, m0), (25, .iaload, 0, 0, 0, 0, 0, m0), (26, .iadd, 0, 0, 0, 0, 0, m0), (27, .ireturn, 0, 0, 0, 0, 0, m0)]
theorem oX7_markOfArch_0 : okB mX7_markOfArch 28 kX7_markOfArch_0 0 = true := by decide +kernel
def kX7_markOfFont_0 : List mI := [(0, .aload_n 0, 0, 0, 0, 0, 0, m0), (1, .dup, 0, 0, 0, 0, 0, m0), (2, .getfield 76, 7, 12, 0, 0, 332, m0), (5, .ldc2_w 268, 100, 0, 0, 0, 699, m0), (8, .ladd, 0, 0, 0, 0, 0, m0), (9, .putfield 76, 7, 12, 2, 0, 332, m0), (12, .aload_n 0, 0, 0, 0, 0, 0, m0), (13, .iload_n 1, 0, 0, 0, 0, 0, m0), (14, .invokevirtual 223, 7, 1, 0, 0, 686, mX7_markOfBrick), (17, .aload_n 0, 0, 0, 0, 0, 0, m0), (18, .getfield 39, 7, 5, 0, 0, 325, m0), (21, .getfield 101, 4, 0, 0, 0, 242, m0), (24, .iconst 4, 4, 0, 0, 0, 0, m0), (25, .invokevirtual 180, 3, 1, 0, 0, 576, mX3_howMany), (28, .isub, 0, 0, 0, 0, 0, m0), (29, .ireturn, 0, 0, 0, 0, 0, m0)]
theorem oX7_markOfFont_0 : okB mX7_markOfFont 30 kX7_markOfFont_0 0 = true := by decide +kernel
def kX7_markOfVault_0 : List mI := [(0, .aload_n 0, 0, 0, 0, 0, 0, m0), (1, .dup, 0, 0, 0, 0, 0, m0), (2, .getfield 76, 7, 12, 0, 0, 332, m0), (5, .ldc2_w 270, 1000, 0, 0, 0, 704, m0), (8, .ladd, 0, 0, 0, 0, 0, m0), (9, .putfield 76, 7, 12, 2, 0, 332, m0), (12, .aload_n 0, 0, 0, 0, 0, 0, m0), (13, .iload_n 1, 0, 0, 0, 0, 0, m0), (14, .invokevirtual 226, 7, 1, 0, 0, 690, mX7_markOfArch), (17, .iconst 2, 2, 0, 0, 0, 0, m0), (18, .imul, 0, 0, 0, 0, 0, m0), (19, .ireturn, 0, 0, 0, 0, 0, m0)]
theorem oX7_markOfVault_0 : okB mX7_markOfVault 20 kX7_markOfVault_0 0 = true := by decide +kernel
def kX7_markOfStep_0 : List mI := [(0, .aload_n 0, 0, 0, 0, 0, 0, m0), (1, .dup, 0, 0, 0, 0, 0, m0), (2, .getfield 76, 7, 12, 0, 0, 332, m0), (5, .ldc2_w 204, 10000, 0, 0, 0, 635, m0), (8, .ladd, 0, 0, 0, 0, 0, m0), (9, .putfield 76, 7, 12, 2, 0, 332, m0), (12, .aload_n 0, 0, 0, 0, 0, 0, m0), (13, .iload_n 1, 0, 0, 0, 0, 0, m0), (14, .invokevirtual 229, 7, 1, 0, 0, 695, mX7_markOfFont), (17, .iload_n 1, 0, 0, 0, 0, 0, m0), (18, .iadd, 0, 0, 0, 0, 0, m0), (19, .ireturn, 0, 0, 0, 0, 0, m0)]
theorem oX7_markOfStep_0 : okB mX7_markOfStep 20 kX7_markOfStep_0 0 = true := by decide +kernel
def kX7_markOfChapel_0 : List mI := [(0, .aload_n 0, 0, 0, 0, 0, 0, m0), (1, .dup, 0, 0, 0, 0, 0, m0), (2, .getfield 76, 7, 12, 0, 0, 332, m0), (5, .ldc2_w 272, 100000, 0, 0, 0, 713, m0), (8, .ladd, 0, 0, 0, 0, 0, m0), (9, .putfield 76, 7, 12, 2, 0, 332, m0), (12, .aload_n 0, 0, 0, 0, 0, 0, m0), (13, .iload_n 1, 0, 0, 0, 0, 0, m0), (14, .invokevirtual 223, 7, 1, 0, 0, 686, mX7_markOfBrick), (17, .aload_n 0, 0, 0, 0, 0, 0, m0), (18, .getfield 29, 7, 3, 0, 0, 323, m0), (21, .getfield 98, 5, 7, 0, 0, 171, m0), (24, .iload_n 1, 0, 0, 0, 0, 0, m0), (25, .iaload, 0, 0, 0, 0, 0, m0), (26, .iadd, 0, 0, 0, 0, 0, m0), (27, .ireturn, 0, 0, 0, 0, 0, m0)]
theorem oX7_markOfChapel_0 : okB mX7_markOfChapel 28 kX7_markOfChapel_0 0 = true := by decide +kernel

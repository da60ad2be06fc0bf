def kX8_init_0 : List mI := [(0, .aload_n 0, 0, 0, 0, 0, 0, m0), (1, .invokespecial 1, 1, 0, 0, 0, 739, m0), (4, .aload_n 0, 0, 0, 0, 0, 0, m0), (5, .bipush 120, 120, 0, 0, 0, 0, m0), (7, .newarray .byte, 2, 120, 20, 2533, 0, m0), (9, .putfield 7, 8, 0, 3, 1, 740, m0), (12, .aload_n 0, 0, 0, 0, 0, 0, m0), (13, .iconst 4, 4, 0, 0, 0, 0, m0), (14, .newarray .int, 0, 4, 20, 2533, 0, m0), (16, .putfield 13, 8, 2, 3, 1, 742, m0), (19, .aload_n 0, 0, 0, 0, 0, 0, m0), (20, .bipush 12, 12, 0, 0, 0, 0, m0), (22, .newarray .int, 0, 12, 20, 2533, 0, m0), (24, .putfield 17, 8, 3, 3, 1, 743, m0), (27, .aload_n 0, 0, 0, 0, 0, 0, m0), (28, .iconst 2, 2, 0, 0, 0, 0, m0), (29, .newarray .int, 0, 2, 20, 2533, 0, m0), (31, .putfield 20, 8, 4, 3, 1, 744, m0), (34, .aload_n 0, 0, 0, 0, 0, 0, m0), (35, .bipush 20, 20, 0, 0, 0, 0, m0), (37, .newarray .int, 0, 20, 20, 2533, 0, m0), (39, .putfield 23, 8, 5, 3, 1, 745, m0), (42, .aload_n 0, 0, 0, 0, 0, 0, m0), (43, .bipush 20, 20, 0, 0, 0, 0, m0), (45, .newarray .int, 0, 20, 20, 2533, 0, m0), (47, .putfield 26, 8, 6, 3, 1, 746, m0), (50, .aload_n 0, 0, 0, 0, 0, 0, m0), (51, .bipush 20, 20, 0, 0, 0, 0, m0), (53, .newarray .int, 0, 20, 20, 2533, 0, m0), (55, .putfield 29, 8, 7, 3, 1, 747, m0), (58, .aload_n 0, 0, 0, 0, 0, 0, m0), (59, .iconst 2, 2, 0, 0, 0, 0, m0), (60, .newarray .int, 0, 2, 20, 2533, 0, m0), (62, .putfield 32, 8, 8, 3, 1, 748, m0), (65, .aload_n 0, 0, 0, 0, 0, 0, m0), (66, .bipush 6, 6, 0, 0, 0, 0, m0), (68, .newarray .int, 0, 6, 20, 2533, 0, m0), (70, .putfield 35, 8, 9, 3, 1, 749, m0), (73, .aload_n 0, 0, 0, 0, 0, 0, m0), (74, .iconst 2, 2, 0, 0, 0, 0, m0), (75, .newarray .int, 0, 2, 20, 2533, 0, m0), (77, .putfield 38, 8, 10, 3, 1, 750, m0), (80, .aload_n 0, 0, 0, 0, 0, 0, m0), (81, .bipush 10, 10, 0, 0, 0, 0, m0), (83, .newarray .int, 0, 10, 20, 2533, 0, m0), (85, .putfield 41, 8, 11, 3, 1, 751, m0), (88, .aload_n 0, 0, 0, 0, 0, 0, m0), (89, .bipush 44, 44, 0, 0, 0, 0, m0), (91, .newarray .int, 0, 44, 20, 2533, 0, m0), (93, .putfield 44, 8, 18, 3, 1, 758, m0), (96, .aload_n 0, 0, 0, 0, 0, 0, m0), (97, .iconst 3, 3, 0, 0, 0, 0, m0), (98, .newarray .int, 0, 3, 20, 2533, 0, m0), (100, .putfield 47, 8, 19, 3, 1, 759, m0), (103, .aload_n 0, 0, 0, 0, 0, 0, m0), (104, .sipush 1320, 1320, 0, 0, 0, 0, m0), (107, .newarray .int, 0, 1320, 20, 2533, 0, m0), (109, .putfield 50, 8, 20, 3, 1, 760, m0), (112, .aload_n 0, 0, 0, 0, 0, 0, m0), (113, .bipush 88, 88, 0, 0, 0, 0, m0), (115, .newarray .int, 0, 88, 20, 2533, 0, m0), (117, .putfield 53, 8, 21, 3, 1, 761, m0), (120, .aload_n 0, 0, 0, 0, 0, 0, m0), (121, .iconst 2, 2, 0, 0, 0, 0, m0), (122, .newarray .boolean, 1, 2, 20, 2533, 0, m0), (124, .putfield 56, 8, 22, 3, 1, 762, m0), (127, .aload_n 0, 0, 0, 0, 0, 0, m0), (128, .iconst 3, 3, 0, 0, 0, 0, m0), (129, .newarray .int, 0, 3, 20, 2533, 0, m0), (131, .putfield 60, 8, 23, 3, 1, 763, m0), (134, .aload_n 0, 0, 0, 0, 0, 0, m0), (135, .sipush 847, 847, 0, 0, 0, 0, m0), (138, .newarray .int, 0, 847, 20, 2533, 0, m0), (140, .putfield 63, 8, 24, 3, 1, 764, m0), (143, .aload_n 0, 0, 0, 0, 0, 0, m0), (144, .iconst 4, 4, 0, 0, 0, 0, m0), (145, .newarray .int, 0, 4, 20, 2533, 0, m0), (147, .putfield 66, 8, 25, 3, 1, 765, m0), (150, .aload_n 0, 0, 0, 0, 0, 0, m0), (151, .iconst 4, 4, 0, 0, 0, 0, m0), (152, .newarray .int, 0, 4, 20, 2533, 0, m0), (154, .putfield 69, 8, 26, 3, 1, 766, m0), (157, .aload_n 0, 0, 0, 0, 0, 0, m0), (158, .getfield 13, 8, 2, 0, 0, 742, m0), (161, .iconst 0, 0, 0, 0, 0, 0, m0), (162, .iconst 4, 4, 0, 0, 0, 0, m0), (163, .iastore, 0, 0, 0, 0, 0, m0), (164, .aload_n 0, 0, 0, 0, 0, 0, m0), (165, .getfield 13, 8, 2, 0, 0, 742, m0), (168, .iconst 1, 1, 0, 0, 0, 0, m0), (169, .iconst 3, 3, 0, 0, 0, 0, m0), (170, .iastore, 0, 0, 0, 0, 0, m0), (171, .return_, 0, 0, 20, 0, 0, m0)]
theorem oX8_init_0 : okB mX8_init 172 kX8_init_0 0 = true := by decide +kernel
def kX8_in_0 : List mI := [(0, .iload_n 0, 0, 0, 0, 0, 0, m0), (1, .iload_n 1, 0, 0, 0, 0, 0, m0), (2, .if_icmp .lt 12, 14, 0, 0, 0, 0, m0), (5, .iload_n 0, 0, 0, 0, 0, 0, m0), (6, .iload_n 2, 0, 0, 0, 0, 0, m0), (7, .if_icmp .gt 7, 14, 0, 0, 0, 0, m0), (10, .iconst 1, 1, 0, 0, 0, 0, m0), (11, .goto 4, 15, 0, 0, 0, 0, m0)]
theorem oX8_in_0 : okB mX8_in 14 kX8_in_0 0 = true := by decide +kernel
def kX8_in_14 : List mI := [(14, .iconst 0, 0, 0, 0, 0, 0, m0)]
theorem oX8_in_14 : okB mX8_in 15 kX8_in_14 14 = true := by decide +kernel
def kX8_in_15 : List mI := [(15, .ireturn, 1, 0, 0, 0, 0, m0)]
theorem oX8_in_15 : okB mX8_in 16 kX8_in_15 15 = true := by decide +kernel
def kX8_has_0 : List mI := [(0, .iload_n 0, 0, 0, 0, 0, 0, m0), (1, .iload_n 1, 0, 0, 0, 0, 0, m0), (2, .ishr, 0, 0, 0, 0, 0, m0), (3, .iconst 1, 1, 0, 0, 0, 0, m0), (4, .iand, 0, 0, 0, 0, 0, m0), (5, .iconst 1, 1, 0, 0, 0, 0, m0), (6, .if_icmp .ne 7, 13, 0, 0, 0, 0, m0), (9, .iconst 1, 1, 0, 0, 0, 0, m0), (10, .goto 4, 14, 0, 0, 0, 0, m0)]
theorem oX8_has_0 : okB mX8_has 13 kX8_has_0 0 = true := by decide +kernel
def kX8_has_13 : List mI := [(13, .iconst 0, 0, 0, 0, 0, 0, m0)]
theorem oX8_has_13 : okB mX8_has 14 kX8_has_13 13 = true := by decide +kernel
def kX8_has_14 : List mI := [(14, .ireturn, 1, 0, 0, 0, 0, m0)]
theorem oX8_has_14 : okB mX8_has 15 kX8_has_14 14 = true := by decide +kernel
def kX8_bitsOf_0 : List mI := [(0, .iconst 0, 0, 0, 0, 0, 0, m0), (1, .istore_n 1, 0, 0, 0, 0, 0, m0), (2, .iconst 0, 0, 0, 0, 0, 0, m0), (3, .istore_n 2, 0, 0, 0, 0, 0, m0)]
theorem oX8_bitsOf_0 : okB mX8_bitsOf 4 kX8_bitsOf_0 0 = true := by decide +kernel
def kX8_bitsOf_4 : List mI := [(4, .iload_n 2, 0, 0, 0, 0, 0, m0), (5, .bipush 10, 10, 0, 0, 0, 0, m0), (7, .if_icmp .ge 17, 24, 0, 0, 0, 0, m0), (10, .iload_n 1, 0, 0, 0, 0, 0, m0), (11, .iload_n 0, 0, 0, 0, 0, 0, m0), (12, .iload_n 2, 0, 0, 0, 0, 0, m0), (13, .ishr, 0, 0, 0, 0, 0, m0), (14, .iconst 1, 1, 0, 0, 0, 0, m0), (15, .iand, 0, 0, 0, 0, 0, m0), (16, .iadd, 0, 0, 0, 0, 0, m0), (17, .istore_n 1, 0, 0, 0, 0, 0, m0), (18, .iinc 2 1, 1, 0, 0, 0, 0, m0), (21, .goto (-17), 4, 0, 0, 0, 0, m0)]
theorem oX8_bitsOf_4 : okB mX8_bitsOf 24 kX8_bitsOf_4 4 = true := by decide +kernel
def kX8_bitsOf_24 : List mI := [(24, .iload_n 1, 0, 0, 0, 0, 0, m0), (25, .ireturn, 0, 0, 0, 0, 0, m0)]
theorem oX8_bitsOf_24 : okB mX8_bitsOf 26 kX8_bitsOf_24 24 = true := by decide +kernel
def kX8_type_0 : List mI := [(0, .iload_n 1, 0, 0, 0, 0, 0, m0), (1, .iconst 0, 0, 0, 0, 0, 0, m0), (2, .sipush 255, 255, 0, 0, 0, 0, m0), (5, .invokestatic 72, 0, 3, 0, 0, 833, mX8_in), (8, .ifCond .ne 5, 13, 0, 0, 0, 0, m0), (11, .iconst (-1), 1, 1, 0, 0, 0, m0), (12, .ireturn, 0, 0, 0, 0, 0, m0)]
theorem oX8_type_0 : okB mX8_type 13 kX8_type_0 0 = true := by decide +kernel
def kX8_type_13 : List mI := [(13, .aload_n 0, 0, 0, 0, 0, 0, m0), (14, .getfield 76, 8, 1, 0, 0, 741, m0), (17, .bipush 120, 120, 0, 0, 0, 0, m0), (19, .if_icmp .ne 6, 25, 0, 0, 0, 0, m0), (22, .bipush (-3), 3, 1, 0, 0, 0, m0), (24, .ireturn, 0, 0, 0, 0, 0, m0)]
theorem oX8_type_13 : okB mX8_type 25 kX8_type_13 13 = true := by decide +kernel
def kX8_type_25 : List mI := [(25, .aload_n 0, 0, 0, 0, 0, 0, m0), (26, .getfield 7, 8, 0, 0, 0, 740, m0), (29, .aload_n 0, 0, 0, 0, 0, 0, m0), (30, .getfield 76, 8, 1, 0, 0, 741, m0), (33, .iload_n 1, 0, 0, 0, 0, 0, m0), (34, .i2b, 0, 0, 0, 0, 0, m0), (35, .bastore, 2, 0, 0, 0, 0, m0), (36, .aload_n 0, 0, 0, 0, 0, 0, m0), (37, .dup, 0, 0, 0, 0, 0, m0), (38, .getfield 76, 8, 1, 0, 0, 741, m0), (41, .iconst 1, 1, 0, 0, 0, 0, m0), (42, .iadd, 0, 0, 0, 0, 0, m0), (43, .putfield 76, 8, 1, 0, 0, 741, m0), (46, .aload_n 0, 0, 0, 0, 0, 0, m0), (47, .getfield 76, 8, 1, 0, 0, 741, m0), (50, .ireturn, 0, 0, 0, 0, 0, m0)]
theorem oX8_type_25 : okB mX8_type 51 kX8_type_25 25 = true := by decide +kernel
def kX8_clear_0 : List mI := [(0, .aload_n 0, 0, 0, 0, 0, 0, m0), (1, .getfield 76, 8, 1, 0, 0, 741, m0), (4, .istore_n 1, 0, 0, 0, 0, 0, m0), (5, .aload_n 0, 0, 0, 0, 0, 0, m0), (6, .iconst 0, 0, 0, 0, 0, 0, m0), (7, .putfield 76, 8, 1, 0, 0, 741, m0), (10, .iload_n 1, 0, 0, 0, 0, 0, m0), (11, .ireturn, 0, 0, 0, 0, 0, m0)]
theorem oX8_clear_0 : okB mX8_clear 12 kX8_clear_0 0 = true := by decide +kernel
def kX8_here_0 : List mI := [(0, .aload_n 0, 0, 0, 0, 0, 0, m0), (1, .getfield 80, 8, 12, 0, 0, 752, m0), (4, .aload_n 0, 0, 0, 0, 0, 0, m0), (5, .getfield 76, 8, 1, 0, 0, 741, m0), (8, .if_icmp .ge 19, 27, 0, 0, 0, 0, m0), (11, .aload_n 0, 0, 0, 0, 0, 0, m0), (12, .getfield 7, 8, 0, 0, 0, 740, m0), (15, .aload_n 0, 0, 0, 0, 0, 0, m0), (16, .getfield 80, 8, 12, 0, 0, 752, m0), (19, .baload, 2, 0, 0, 0, 0, m0), (20, .sipush 255, 255, 0, 0, 0, 0, m0), (23, .iand, 0, 0, 0, 0, 0, m0), (24, .goto 5, 29, 0, 0, 0, 0, m0)]
theorem oX8_here_0 : okB mX8_here 27 kX8_here_0 0 = true := by decide +kernel
def kX8_here_27 : List mI := [(27, .bipush (-9), 9, 1, 0, 0, 0, m0)]
theorem oX8_here_27 : okB mX8_here 29 kX8_here_27 27 = true := by decide +kernel
def kX8_here_29 : List mI := [(29, .ireturn, 0, 0, 0, 0, 0, m0)]
theorem oX8_here_29 : okB mX8_here 30 kX8_here_29 29 = true := by decide +kernel
def kX8_step_0 : List mI := [(0, .aload_n 0, 0, 0, 0, 0, 0, m0), (1, .invokevirtual 83, 8, 0, 0, 0, 852, mX8_here), (4, .bipush 32, 32, 0, 0, 0, 0, m0), (6, .if_icmp .ne 16, 22, 0, 0, 0, 0, m0), (9, .aload_n 0, 0, 0, 0, 0, 0, m0), (10, .dup, 0, 0, 0, 0, 0, m0), (11, .getfield 80, 8, 12, 0, 0, 752, m0), (14, .iconst 1, 1, 0, 0, 0, 0, m0), (15, .iadd, 0, 0, 0, 0, 0, m0), (16, .putfield 80, 8, 12, 0, 0, 752, m0), (19, .goto (-19), 0, 0, 0, 0, 0, m0)]
theorem oX8_step_0 : okB mX8_step 22 kX8_step_0 0 = true := by decide +kernel
def kX8_step_22 : List mI := [(22, .aload_n 0, 0, 0, 0, 0, 0, m0), (23, .aload_n 0, 0, 0, 0, 0, 0, m0), (24, .getfield 80, 8, 12, 0, 0, 752, m0), (27, .putfield 87, 8, 13, 0, 0, 753, m0), (30, .aload_n 0, 0, 0, 0, 0, 0, m0), (31, .iconst 0, 0, 0, 0, 0, 0, m0), (32, .putfield 90, 8, 15, 0, 0, 755, m0), (35, .aload_n 0, 0, 0, 0, 0, 0, m0), (36, .invokevirtual 83, 8, 0, 0, 0, 852, mX8_here), (39, .istore_n 1, 0, 0, 0, 0, 0, m0), (40, .iload_n 1, 0, 0, 0, 0, 0, m0), (41, .bipush (-9), 9, 1, 0, 0, 0, m0), (43, .if_icmp .ne 11, 54, 0, 0, 0, 0, m0), (46, .aload_n 0, 0, 0, 0, 0, 0, m0), (47, .iconst 4, 4, 0, 0, 0, 0, m0), (48, .putfield 93, 8, 14, 0, 0, 754, m0), (51, .goto 209, 260, 0, 0, 0, 0, m0)]
theorem oX8_step_22 : okB mX8_step 54 kX8_step_22 22 = true := by decide +kernel
def kX8_step_54 : List mI := [(54, .iload_n 1, 0, 0, 0, 0, 0, m0), (55, .bipush 48, 48, 0, 0, 0, 0, m0), (57, .bipush 57, 57, 0, 0, 0, 0, m0), (59, .invokestatic 72, 0, 3, 0, 0, 833, mX8_in), (62, .ifCond .eq 105, 167, 0, 0, 0, 0, m0)]
theorem oX8_step_54 : okB mX8_step 65 kX8_step_54 54 = true := by decide +kernel
def kX8_step_65 : List mI := [(65, .aload_n 0, 0, 0, 0, 0, 0, m0), (66, .invokevirtual 83, 8, 0, 0, 0, 852, mX8_here), (69, .bipush 48, 48, 0, 0, 0, 0, m0), (71, .bipush 57, 57, 0, 0, 0, 0, m0), (73, .invokestatic 72, 0, 3, 0, 0, 833, mX8_in), (76, .ifCond .eq 51, 127, 0, 0, 0, 0, m0), (79, .aload_n 0, 0, 0, 0, 0, 0, m0), (80, .aload_n 0, 0, 0, 0, 0, 0, m0), (81, .getfield 90, 8, 15, 0, 0, 755, m0), (84, .bipush 99, 99, 0, 0, 0, 0, m0), (86, .if_icmp .le 10, 96, 0, 0, 0, 0, m0), (89, .aload_n 0, 0, 0, 0, 0, 0, m0), (90, .getfield 90, 8, 15, 0, 0, 755, m0), (93, .goto 18, 111, 0, 0, 0, 0, m0)]
theorem oX8_step_65 : okB mX8_step 96 kX8_step_65 65 = true := by decide +kernel
def kX8_step_96 : List mI := [(96, .bipush 10, 10, 0, 0, 0, 0, m0), (98, .aload_n 0, 0, 0, 0, 0, 0, m0), (99, .getfield 90, 8, 15, 0, 0, 755, m0), (102, .imul, 0, 0, 0, 0, 0, m0), (103, .aload_n 0, 0, 0, 0, 0, 0, m0), (104, .invokevirtual 83, 8, 0, 0, 0, 852, mX8_here), (107, .iadd, 0, 0, 0, 0, 0, m0), (108, .bipush 48, 48, 0, 0, 0, 0, m0), (110, .isub, 0, 0, 0, 0, 0, m0)]
theorem oX8_step_96 : okB mX8_step 111 kX8_step_96 96 = true := by decide +kernel
def kX8_step_111 : List mI := [(111, .putfield 90, 8, 15, 0, 0, 755, m0), (114, .aload_n 0, 0, 0, 0, 0, 0, m0), (115, .dup, 0, 0, 0, 0, 0, m0), (116, .getfield 80, 8, 12, 0, 0, 752, m0), (119, .iconst 1, 1, 0, 0, 0, 0, m0), (120, .iadd, 0, 0, 0, 0, 0, m0), (121, .putfield 80, 8, 12, 0, 0, 752, m0), (124, .goto (-59), 65, 0, 0, 0, 0, m0)]
theorem oX8_step_111 : okB mX8_step 127 kX8_step_111 111 = true := by decide +kernel
def kX8_step_127 : List mI := [(127, .aload_n 0, 0, 0, 0, 0, 0, m0), (128, .aload_n 0, 0, 0, 0, 0, 0, m0), (129, .getfield 90, 8, 15, 0, 0, 755, m0), (132, .bipush 99, 99, 0, 0, 0, 0, m0), (134, .if_icmp .gt 22, 156, 0, 0, 0, 0, m0), (137, .iload_n 1, 0, 0, 0, 0, 0, m0), (138, .bipush 48, 48, 0, 0, 0, 0, m0), (140, .if_icmp .ne 20, 160, 0, 0, 0, 0, m0), (143, .aload_n 0, 0, 0, 0, 0, 0, m0), (144, .getfield 80, 8, 12, 0, 0, 752, m0), (147, .aload_n 0, 0, 0, 0, 0, 0, m0), (148, .getfield 87, 8, 13, 0, 0, 753, m0), (151, .isub, 0, 0, 0, 0, 0, m0), (152, .iconst 1, 1, 0, 0, 0, 0, m0), (153, .if_icmp .le 7, 160, 0, 0, 0, 0, m0)]
theorem oX8_step_127 : okB mX8_step 156 kX8_step_127 127 = true := by decide +kernel
def kX8_step_156 : List mI := [(156, .iconst 5, 5, 0, 0, 0, 0, m0), (157, .goto 4, 161, 0, 0, 0, 0, m0)]
theorem oX8_step_156 : okB mX8_step 160 kX8_step_156 156 = true := by decide +kernel
def kX8_step_160 : List mI := [(160, .iconst 2, 2, 0, 0, 0, 0, m0)]
theorem oX8_step_160 : okB mX8_step 161 kX8_step_160 160 = true := by decide +kernel
def kX8_step_161 : List mI := [(161, .putfield 93, 8, 14, 0, 0, 754, m0), (164, .goto 96, 260, 0, 0, 0, 0, m0)]
theorem oX8_step_161 : okB mX8_step 167 kX8_step_161 161 = true := by decide +kernel
def kX8_step_167 : List mI := [(167, .iload_n 1, 0, 0, 0, 0, 0, m0), (168, .bipush 97, 97, 0, 0, 0, 0, m0), (170, .bipush 122, 122, 0, 0, 0, 0, m0), (172, .invokestatic 72, 0, 3, 0, 0, 833, mX8_in), (175, .ifCond .eq 60, 235, 0, 0, 0, 0, m0)]
theorem oX8_step_167 : okB mX8_step 178 kX8_step_167 167 = true := by decide +kernel
def kX8_step_178 : List mI := [(178, .aload_n 0, 0, 0, 0, 0, 0, m0), (179, .invokevirtual 83, 8, 0, 0, 0, 852, mX8_here), (182, .bipush 97, 97, 0, 0, 0, 0, m0), (184, .bipush 122, 122, 0, 0, 0, 0, m0), (186, .invokestatic 72, 0, 3, 0, 0, 833, mX8_in), (189, .ifCond .eq 16, 205, 0, 0, 0, 0, m0), (192, .aload_n 0, 0, 0, 0, 0, 0, m0), (193, .dup, 0, 0, 0, 0, 0, m0), (194, .getfield 80, 8, 12, 0, 0, 752, m0), (197, .iconst 1, 1, 0, 0, 0, 0, m0), (198, .iadd, 0, 0, 0, 0, 0, m0), (199, .putfield 80, 8, 12, 0, 0, 752, m0), (202, .goto (-24), 178, 0, 0, 0, 0, m0)]
theorem oX8_step_178 : okB mX8_step 205 kX8_step_178 178 = true := by decide +kernel
def kX8_step_205 : List mI := [(205, .aload_n 0, 0, 0, 0, 0, 0, m0), (206, .aload_n 0, 0, 0, 0, 0, 0, m0), (207, .getfield 80, 8, 12, 0, 0, 752, m0), (210, .aload_n 0, 0, 0, 0, 0, 0, m0), (211, .getfield 87, 8, 13, 0, 0, 753, m0), (214, .isub, 0, 0, 0, 0, 0, m0), (215, .iconst 1, 1, 0, 0, 0, 0, m0), (216, .if_icmp .ne 7, 223, 0, 0, 0, 0, m0), (219, .iload_n 1, 0, 0, 0, 0, 0, m0), (220, .goto 4, 224, 0, 0, 0, 0, m0)]
theorem oX8_step_205 : okB mX8_step 223 kX8_step_205 205 = true := by decide +kernel
def kX8_step_223 : List mI := [(223, .iconst 0, 0, 0, 0, 0, 0, m0)]
theorem oX8_step_223 : okB mX8_step 224 kX8_step_223 223 = true := by decide +kernel
def kX8_step_224 : List mI := [(224, .putfield 90, 8, 15, 0, 0, 755, m0), (227, .aload_n 0, 0, 0, 0, 0, 0, m0), (228, .iconst 1, 1, 0, 0, 0, 0, m0), (229, .putfield 93, 8, 14, 0, 0, 754, m0), (232, .goto 28, 260, 0, 0, 0, 0, m0)]
theorem oX8_step_224 : okB mX8_step 235 kX8_step_224 224 = true := by decide +kernel
def kX8_step_235 : List mI := [(235, .aload_n 0, 0, 0, 0, 0, 0, m0), (236, .dup, 0, 0, 0, 0, 0, m0), (237, .getfield 80, 8, 12, 0, 0, 752, m0), (240, .iconst 1, 1, 0, 0, 0, 0, m0), (241, .iadd, 0, 0, 0, 0, 0, m0), (242, .putfield 80, 8, 12, 0, 0, 752, m0), (245, .aload_n 0, 0, 0, 0, 0, 0, m0), (246, .iload_n 1, 0, 0, 0, 0, 0, m0), (247, .bipush 59, 59, 0, 0, 0, 0, m0), (249, .if_icmp .ne 7, 256, 0, 0, 0, 0, m0), (252, .iconst 3, 3, 0, 0, 0, 0, m0), (253, .goto 4, 257, 0, 0, 0, 0, m0)]
theorem oX8_step_235 : okB mX8_step 256 kX8_step_235 235 = true := by decide +kernel
def kX8_step_256 : List mI := [(256, .iconst 5, 5, 0, 0, 0, 0, m0)]
theorem oX8_step_256 : okB mX8_step 257 kX8_step_256 256 = true := by decide +kernel
def kX8_step_257 : List mI := [(257, .putfield 93, 8, 14, 0, 0, 754, m0)]
theorem oX8_step_257 : okB mX8_step 260 kX8_step_257 257 = true := by decide +kernel
def kX8_step_260 : List mI := [(260, .return_, 0, 0, 0, 0, 0, m0)]
theorem oX8_step_260 : okB mX8_step 261 kX8_step_260 260 = true := by decide +kernel
def kX8_due_0 : List mI := [(0, .aload_n 0, 0, 0, 0, 0, 0, m0), (1, .getfield 96, 8, 16, 0, 0, 756, m0), (4, .ifCond .eq 4, 8, 0, 0, 0, 0, m0), (7, .return_, 0, 0, 0, 0, 0, m0)]
theorem oX8_due_0 : okB mX8_due 8 kX8_due_0 0 = true := by decide +kernel
def kX8_due_8 : List mI := [(8, .iload_n 1, 0, 0, 0, 0, 0, m0), (9, .ifCond .eq 10, 19, 0, 0, 0, 0, m0), (12, .aload_n 0, 0, 0, 0, 0, 0, m0), (13, .invokevirtual 100, 8, 0, 0, 0, 848, mX8_step), (16, .goto 8, 24, 0, 0, 0, 0, m0)]
theorem oX8_due_8 : okB mX8_due 19 kX8_due_8 8 = true := by decide +kernel
def kX8_due_19 : List mI := [(19, .aload_n 0, 0, 0, 0, 0, 0, m0), (20, .iconst 1, 1, 0, 0, 0, 0, m0), (21, .putfield 96, 8, 16, 1, 0, 756, m0)]
theorem oX8_due_19 : okB mX8_due 24 kX8_due_19 19 = true := by decide +kernel
def kX8_due_24 : List mI := [(24, .return_, 0, 0, 0, 0, 0, m0)]
theorem oX8_due_24 : okB mX8_due 25 kX8_due_24 24 = true := by decide +kernel
def kX8_number_0 : List mI := [(0, .aload_n 0, 0, 0, 0, 0, 0, m0), (1, .getfield 90, 8, 15, 0, 0, 755, m0), (4, .istore_n 3, 0, 0, 0, 0, 0, m0), (5, .aload_n 0, 0, 0, 0, 0, 0, m0), (6, .aload_n 0, 0, 0, 0, 0, 0, m0), (7, .getfield 93, 8, 14, 0, 0, 754, m0), (10, .iconst 2, 2, 0, 0, 0, 0, m0), (11, .if_icmp .ne 16, 27, 0, 0, 0, 0, m0), (14, .iload_n 3, 0, 0, 0, 0, 0, m0), (15, .iload_n 1, 0, 0, 0, 0, 0, m0), (16, .iload_n 2, 0, 0, 0, 0, 0, m0), (17, .invokestatic 72, 0, 3, 0, 0, 833, mX8_in), (20, .ifCond .eq 7, 27, 0, 0, 0, 0, m0), (23, .iconst 1, 1, 0, 0, 0, 0, m0), (24, .goto 4, 28, 0, 0, 0, 0, m0)]
theorem oX8_number_0 : okB mX8_number 27 kX8_number_0 0 = true := by decide +kernel
def kX8_number_27 : List mI := [(27, .iconst 0, 0, 0, 0, 0, 0, m0)]
theorem oX8_number_27 : okB mX8_number 28 kX8_number_27 27 = true := by decide +kernel
def kX8_number_28 : List mI := [(28, .invokevirtual 103, 8, 1, 0, 0, 860, mX8_due), (31, .iload_n 3, 0, 0, 0, 0, 0, m0), (32, .ireturn, 0, 0, 0, 0, 0, m0)]
theorem oX8_number_28 : okB mX8_number 33 kX8_number_28 28 = true := by decide +kernel
def kX8_readKin_0 : List mI := [(0, .aload_n 0, 0, 0, 0, 0, 0, m0), (1, .iconst 0, 0, 0, 0, 0, 0, m0), (2, .iconst 5, 5, 0, 0, 0, 0, m0), (3, .invokevirtual 107, 8, 2, 0, 0, 868, mX8_number), (6, .istore_n 1, 0, 0, 0, 0, 0, m0), (7, .aload_n 0, 0, 0, 0, 0, 0, m0), (8, .getfield 90, 8, 15, 0, 0, 755, m0), (11, .istore_n 2, 0, 0, 0, 0, 0, m0), (12, .aload_n 0, 0, 0, 0, 0, 0, m0), (13, .aload_n 0, 0, 0, 0, 0, 0, m0), (14, .getfield 93, 8, 14, 0, 0, 754, m0), (17, .iconst 2, 2, 0, 0, 0, 0, m0), (18, .if_icmp .ne 18, 36, 0, 0, 0, 0, m0), (21, .iload_n 2, 0, 0, 0, 0, 0, m0), (22, .bipush 6, 6, 0, 0, 0, 0, m0), (24, .if_icmp .ge 12, 36, 0, 0, 0, 0, m0), (27, .iload_n 2, 0, 0, 0, 0, 0, m0), (28, .iload_n 1, 0, 0, 0, 0, 0, m0), (29, .if_icmp .eq 7, 36, 0, 0, 0, 0, m0), (32, .iconst 1, 1, 0, 0, 0, 0, m0), (33, .goto 4, 37, 0, 0, 0, 0, m0)]
theorem oX8_readKin_0 : okB mX8_readKin 36 kX8_readKin_0 0 = true := by decide +kernel
def kX8_readKin_36 : List mI := [(36, .iconst 0, 0, 0, 0, 0, 0, m0)]
theorem oX8_readKin_36 : okB mX8_readKin 37 kX8_readKin_36 36 = true := by decide +kernel
def kX8_readKin_37 : List mI := [(37, .invokevirtual 103, 8, 1, 0, 0, 860, mX8_due), (40, .aload_n 0, 0, 0, 0, 0, 0, m0), (41, .getfield 96, 8, 16, 0, 0, 756, m0), (44, .ifCond .ne 33, 77, 0, 0, 0, 0, m0), (47, .aload_n 0, 0, 0, 0, 0, 0, m0), (48, .getfield 17, 8, 3, 0, 0, 743, m0), (51, .bipush 6, 6, 0, 0, 0, 0, m0), (53, .iload_n 1, 0, 0, 0, 0, 0, m0), (54, .iadd, 0, 0, 0, 0, 0, m0), (55, .dup2, 0, 0, 0, 0, 0, m0), (56, .iaload, 0, 0, 0, 0, 0, m0), (57, .iconst 1, 1, 0, 0, 0, 0, m0), (58, .iload_n 2, 0, 0, 0, 0, 0, m0), (59, .ishl, 0, 0, 0, 0, 0, m0), (60, .ior, 0, 0, 0, 0, 0, m0), (61, .iastore, 0, 0, 0, 0, 0, m0), (62, .aload_n 0, 0, 0, 0, 0, 0, m0), (63, .getfield 17, 8, 3, 0, 0, 743, m0), (66, .bipush 6, 6, 0, 0, 0, 0, m0), (68, .iload_n 2, 0, 0, 0, 0, 0, m0), (69, .iadd, 0, 0, 0, 0, 0, m0), (70, .dup2, 0, 0, 0, 0, 0, m0), (71, .iaload, 0, 0, 0, 0, 0, m0), (72, .iconst 1, 1, 0, 0, 0, 0, m0), (73, .iload_n 1, 0, 0, 0, 0, 0, m0), (74, .ishl, 0, 0, 0, 0, 0, m0), (75, .ior, 0, 0, 0, 0, 0, m0), (76, .iastore, 0, 0, 0, 0, 0, m0)]
theorem oX8_readKin_37 : okB mX8_readKin 77 kX8_readKin_37 37 = true := by decide +kernel
def kX8_readKin_77 : List mI := [(77, .return_, 0, 0, 0, 0, 0, m0)]
theorem oX8_readKin_77 : okB mX8_readKin 78 kX8_readKin_77 77 = true := by decide +kernel
def kX8_item_0 : List mI := [(0, .iload_n 1, 0, 0, 0, 0, 0, m0), (1, .lookupswitch 171 #[(98, 78), (106, 138), (107, 71), (119, 43)], 0, 0, 0, 0, 0, m0)]
theorem oX8_item_0 : okB mX8_item 44 kX8_item_0 0 = true := by decide +kernel
def kX8_item_44 : List mI := [(44, .aload_n 0, 0, 0, 0, 0, 0, m0), (45, .getfield 13, 8, 2, 0, 0, 742, m0), (48, .iconst 2, 2, 0, 0, 0, 0, m0), (49, .aload_n 0, 0, 0, 0, 0, 0, m0), (50, .iconst 1, 1, 0, 0, 0, 0, m0), (51, .bipush 6, 6, 0, 0, 0, 0, m0), (53, .invokevirtual 107, 8, 2, 0, 0, 868, mX8_number), (56, .iastore, 0, 0, 0, 0, 0, m0), (57, .aload_n 0, 0, 0, 0, 0, 0, m0), (58, .getfield 13, 8, 2, 0, 0, 742, m0), (61, .iconst 3, 3, 0, 0, 0, 0, m0), (62, .aload_n 0, 0, 0, 0, 0, 0, m0), (63, .iconst 1, 1, 0, 0, 0, 0, m0), (64, .iconst 4, 4, 0, 0, 0, 0, m0), (65, .invokevirtual 107, 8, 2, 0, 0, 868, mX8_number), (68, .iastore, 0, 0, 0, 0, 0, m0), (69, .goto 136, 205, 0, 0, 0, 0, m0)]
theorem oX8_item_44 : okB mX8_item 72 kX8_item_44 44 = true := by decide +kernel
def kX8_item_72 : List mI := [(72, .aload_n 0, 0, 0, 0, 0, 0, m0), (73, .invokevirtual 111, 8, 0, 0, 0, 872, mX8_readKin), (76, .goto 129, 205, 0, 0, 0, 0, m0)]
theorem oX8_item_72 : okB mX8_item 79 kX8_item_72 72 = true := by decide +kernel
def kX8_item_79 : List mI := [(79, .bipush 10, 10, 0, 0, 0, 0, m0), (81, .aload_n 0, 0, 0, 0, 0, 0, m0), (82, .getfield 20, 8, 4, 0, 0, 744, m0), (85, .iconst 1, 1, 0, 0, 0, 0, m0), (86, .iaload, 0, 0, 0, 0, 0, m0), (87, .iadd, 0, 0, 0, 0, 0, m0), (88, .istore_n 2, 0, 0, 0, 0, 0, m0), (89, .aload_n 0, 0, 0, 0, 0, 0, m0), (90, .getfield 23, 8, 5, 0, 0, 745, m0), (93, .iload_n 2, 0, 0, 0, 0, 0, m0), (94, .aload_n 0, 0, 0, 0, 0, 0, m0), (95, .iconst 0, 0, 0, 0, 0, 0, m0), (96, .iconst 2, 2, 0, 0, 0, 0, m0), (97, .invokevirtual 107, 8, 2, 0, 0, 868, mX8_number), (100, .iastore, 0, 0, 0, 0, 0, m0), (101, .aload_n 0, 0, 0, 0, 0, 0, m0), (102, .getfield 26, 8, 6, 0, 0, 746, m0), (105, .iload_n 2, 0, 0, 0, 0, 0, m0), (106, .aload_n 0, 0, 0, 0, 0, 0, m0), (107, .iconst 0, 0, 0, 0, 0, 0, m0), (108, .iconst 5, 5, 0, 0, 0, 0, m0), (109, .invokevirtual 107, 8, 2, 0, 0, 868, mX8_number), (112, .iastore, 0, 0, 0, 0, 0, m0), (113, .aload_n 0, 0, 0, 0, 0, 0, m0), (114, .getfield 29, 8, 7, 0, 0, 747, m0), (117, .iload_n 2, 0, 0, 0, 0, 0, m0), (118, .aload_n 0, 0, 0, 0, 0, 0, m0), (119, .iconst 0, 0, 0, 0, 0, 0, m0), (120, .bipush 30, 30, 0, 0, 0, 0, m0), (122, .invokevirtual 107, 8, 2, 0, 0, 868, mX8_number), (125, .iastore, 0, 0, 0, 0, 0, m0), (126, .aload_n 0, 0, 0, 0, 0, 0, m0), (127, .getfield 20, 8, 4, 0, 0, 744, m0), (130, .iconst 1, 1, 0, 0, 0, 0, m0), (131, .dup2, 0, 0, 0, 0, 0, m0), (132, .iaload, 0, 0, 0, 0, 0, m0), (133, .iconst 1, 1, 0, 0, 0, 0, m0), (134, .iadd, 0, 0, 0, 0, 0, m0), (135, .iastore, 0, 0, 0, 0, 0, m0), (136, .goto 69, 205, 0, 0, 0, 0, m0)]
theorem oX8_item_79 : okB mX8_item 139 kX8_item_79 79 = true := by decide +kernel
def kX8_item_139 : List mI := [(139, .aload_n 0, 0, 0, 0, 0, 0, m0), (140, .getfield 35, 8, 9, 0, 0, 749, m0), (143, .iconst 3, 3, 0, 0, 0, 0, m0), (144, .aload_n 0, 0, 0, 0, 0, 0, m0), (145, .getfield 32, 8, 8, 0, 0, 748, m0), (148, .iconst 1, 1, 0, 0, 0, 0, m0), (149, .iaload, 0, 0, 0, 0, 0, m0), (150, .iadd, 0, 0, 0, 0, 0, m0), (151, .aload_n 0, 0, 0, 0, 0, 0, m0), (152, .iconst 0, 0, 0, 0, 0, 0, m0), (153, .bipush 30, 30, 0, 0, 0, 0, m0), (155, .invokevirtual 107, 8, 2, 0, 0, 868, mX8_number), (158, .iastore, 0, 0, 0, 0, 0, m0), (159, .aload_n 0, 0, 0, 0, 0, 0, m0), (160, .getfield 32, 8, 8, 0, 0, 748, m0), (163, .iconst 1, 1, 0, 0, 0, 0, m0), (164, .dup2, 0, 0, 0, 0, 0, m0), (165, .iaload, 0, 0, 0, 0, 0, m0), (166, .iconst 1, 1, 0, 0, 0, 0, m0), (167, .iadd, 0, 0, 0, 0, 0, m0), (168, .iastore, 0, 0, 0, 0, 0, m0), (169, .goto 36, 205, 0, 0, 0, 0, m0)]
theorem oX8_item_139 : okB mX8_item 172 kX8_item_139 139 = true := by decide +kernel
def kX8_item_172 : List mI := [(172, .aload_n 0, 0, 0, 0, 0, 0, m0), (173, .getfield 41, 8, 11, 0, 0, 751, m0), (176, .iconst 5, 5, 0, 0, 0, 0, m0), (177, .aload_n 0, 0, 0, 0, 0, 0, m0), (178, .getfield 38, 8, 10, 0, 0, 750, m0), (181, .iconst 1, 1, 0, 0, 0, 0, m0), (182, .iaload, 0, 0, 0, 0, 0, m0), (183, .iadd, 0, 0, 0, 0, 0, m0), (184, .aload_n 0, 0, 0, 0, 0, 0, m0), (185, .iconst 0, 0, 0, 0, 0, 0, m0), (186, .bipush 18, 18, 0, 0, 0, 0, m0), (188, .invokevirtual 107, 8, 2, 0, 0, 868, mX8_number), (191, .bipush 9, 9, 0, 0, 0, 0, m0), (193, .isub, 0, 0, 0, 0, 0, m0), (194, .iastore, 0, 0, 0, 0, 0, m0), (195, .aload_n 0, 0, 0, 0, 0, 0, m0), (196, .getfield 38, 8, 10, 0, 0, 750, m0), (199, .iconst 1, 1, 0, 0, 0, 0, m0), (200, .dup2, 0, 0, 0, 0, 0, m0), (201, .iaload, 0, 0, 0, 0, 0, m0), (202, .iconst 1, 1, 0, 0, 0, 0, m0), (203, .iadd, 0, 0, 0, 0, 0, m0), (204, .iastore, 0, 0, 0, 0, 0, m0)]
theorem oX8_item_172 : okB mX8_item 205 kX8_item_172 172 = true := by decide +kernel
def kX8_item_205 : List mI := [(205, .return_, 0, 0, 0, 0, 0, m0)]
theorem oX8_item_205 : okB mX8_item 206 kX8_item_205 205 = true := by decide +kernel
def kX8_may_0 : List mI := [(0, .iload_n 1, 0, 0, 0, 0, 0, m0), (1, .lookupswitch 91 #[(98, 58), (106, 75), (107, 56), (119, 43)], 0, 0, 0, 0, 0, m0)]
theorem oX8_may_0 : okB mX8_may 44 kX8_may_0 0 = true := by decide +kernel
def kX8_may_44 : List mI := [(44, .aload_n 0, 0, 0, 0, 0, 0, m0), (45, .getfield 114, 8, 17, 0, 0, 757, m0), (48, .ifCond .ne 7, 55, 0, 0, 0, 0, m0), (51, .iconst 1, 1, 0, 0, 0, 0, m0), (52, .goto 4, 56, 0, 0, 0, 0, m0)]
theorem oX8_may_44 : okB mX8_may 55 kX8_may_44 44 = true := by decide +kernel
def kX8_may_55 : List mI := [(55, .iconst 0, 0, 0, 0, 0, 0, m0)]
theorem oX8_may_55 : okB mX8_may 56 kX8_may_55 55 = true := by decide +kernel
def kX8_may_56 : List mI := [(56, .ireturn, 1, 0, 0, 0, 0, m0)]
theorem oX8_may_56 : okB mX8_may 57 kX8_may_56 56 = true := by decide +kernel
def kX8_may_57 : List mI := [(57, .iconst 1, 1, 0, 0, 0, 0, m0), (58, .ireturn, 1, 0, 0, 0, 0, m0)]
theorem oX8_may_57 : okB mX8_may 59 kX8_may_57 57 = true := by decide +kernel
def kX8_may_59 : List mI := [(59, .aload_n 0, 0, 0, 0, 0, 0, m0), (60, .getfield 20, 8, 4, 0, 0, 744, m0), (63, .iconst 1, 1, 0, 0, 0, 0, m0), (64, .iaload, 0, 0, 0, 0, 0, m0), (65, .bipush 10, 10, 0, 0, 0, 0, m0), (67, .if_icmp .ge 7, 74, 0, 0, 0, 0, m0), (70, .iconst 1, 1, 0, 0, 0, 0, m0), (71, .goto 4, 75, 0, 0, 0, 0, m0)]
theorem oX8_may_59 : okB mX8_may 74 kX8_may_59 59 = true := by decide +kernel
def kX8_may_74 : List mI := [(74, .iconst 0, 0, 0, 0, 0, 0, m0)]
theorem oX8_may_74 : okB mX8_may 75 kX8_may_74 74 = true := by decide +kernel
def kX8_may_75 : List mI := [(75, .ireturn, 1, 0, 0, 0, 0, m0)]
theorem oX8_may_75 : okB mX8_may 76 kX8_may_75 75 = true := by decide +kernel
def kX8_may_76 : List mI := [(76, .aload_n 0, 0, 0, 0, 0, 0, m0), (77, .getfield 32, 8, 8, 0, 0, 748, m0), (80, .iconst 1, 1, 0, 0, 0, 0, m0), (81, .iaload, 0, 0, 0, 0, 0, m0), (82, .iconst 3, 3, 0, 0, 0, 0, m0), (83, .if_icmp .ge 7, 90, 0, 0, 0, 0, m0), (86, .iconst 1, 1, 0, 0, 0, 0, m0), (87, .goto 4, 91, 0, 0, 0, 0, m0)]
theorem oX8_may_76 : okB mX8_may 90 kX8_may_76 76 = true := by decide +kernel
def kX8_may_90 : List mI := [(90, .iconst 0, 0, 0, 0, 0, 0, m0)]
theorem oX8_may_90 : okB mX8_may 91 kX8_may_90 90 = true := by decide +kernel
def kX8_may_91 : List mI := [(91, .ireturn, 1, 0, 0, 0, 0, m0)]
theorem oX8_may_91 : okB mX8_may 92 kX8_may_91 91 = true := by decide +kernel
def kX8_may_92 : List mI := [(92, .iload_n 1, 0, 0, 0, 0, 0, m0), (93, .bipush 115, 115, 0, 0, 0, 0, m0), (95, .if_icmp .ne 17, 112, 0, 0, 0, 0, m0), (98, .aload_n 0, 0, 0, 0, 0, 0, m0), (99, .getfield 38, 8, 10, 0, 0, 750, m0), (102, .iconst 1, 1, 0, 0, 0, 0, m0), (103, .iaload, 0, 0, 0, 0, 0, m0), (104, .iconst 5, 5, 0, 0, 0, 0, m0), (105, .if_icmp .ge 7, 112, 0, 0, 0, 0, m0), (108, .iconst 1, 1, 0, 0, 0, 0, m0), (109, .goto 4, 113, 0, 0, 0, 0, m0)]
theorem oX8_may_92 : okB mX8_may 112 kX8_may_92 92 = true := by decide +kernel
def kX8_may_112 : List mI := [(112, .iconst 0, 0, 0, 0, 0, 0, m0)]
theorem oX8_may_112 : okB mX8_may 113 kX8_may_112 112 = true := by decide +kernel
def kX8_may_113 : List mI := [(113, .ireturn, 1, 0, 0, 0, 0, m0)]
theorem oX8_may_113 : okB mX8_may 114 kX8_may_113 113 = true := by decide +kernel
def kX8_read_0 : List mI := [(0, .aload_n 0, 0, 0, 0, 0, 0, m0), (1, .iconst 0, 0, 0, 0, 0, 0, m0), (2, .putfield 80, 8, 12, 0, 0, 752, m0), (5, .aload_n 0, 0, 0, 0, 0, 0, m0), (6, .iconst 0, 0, 0, 0, 0, 0, m0), (7, .putfield 96, 8, 16, 1, 0, 756, m0), (10, .aload_n 0, 0, 0, 0, 0, 0, m0), (11, .iconst 0, 0, 0, 0, 0, 0, m0), (12, .putfield 114, 8, 17, 0, 0, 757, m0), (15, .aload_n 0, 0, 0, 0, 0, 0, m0), (16, .getfield 13, 8, 2, 0, 0, 742, m0), (19, .iconst 2, 2, 0, 0, 0, 0, m0), (20, .iconst 4, 4, 0, 0, 0, 0, m0), (21, .iastore, 0, 0, 0, 0, 0, m0), (22, .aload_n 0, 0, 0, 0, 0, 0, m0), (23, .getfield 13, 8, 2, 0, 0, 742, m0), (26, .iconst 3, 3, 0, 0, 0, 0, m0), (27, .iconst 3, 3, 0, 0, 0, 0, m0), (28, .iastore, 0, 0, 0, 0, 0, m0), (29, .aload_n 0, 0, 0, 0, 0, 0, m0), (30, .getfield 20, 8, 4, 0, 0, 744, m0), (33, .iconst 1, 1, 0, 0, 0, 0, m0), (34, .iconst 0, 0, 0, 0, 0, 0, m0), (35, .iastore, 0, 0, 0, 0, 0, m0), (36, .aload_n 0, 0, 0, 0, 0, 0, m0), (37, .getfield 32, 8, 8, 0, 0, 748, m0), (40, .iconst 1, 1, 0, 0, 0, 0, m0), (41, .iconst 0, 0, 0, 0, 0, 0, m0), (42, .iastore, 0, 0, 0, 0, 0, m0), (43, .aload_n 0, 0, 0, 0, 0, 0, m0), (44, .getfield 38, 8, 10, 0, 0, 750, m0), (47, .iconst 1, 1, 0, 0, 0, 0, m0), (48, .iconst 0, 0, 0, 0, 0, 0, m0), (49, .iastore, 0, 0, 0, 0, 0, m0), (50, .iconst 0, 0, 0, 0, 0, 0, m0), (51, .istore_n 1, 0, 0, 0, 0, 0, m0)]
theorem oX8_read_0 : okB mX8_read 52 kX8_read_0 0 = true := by decide +kernel
def kX8_read_52 : List mI := [(52, .iload_n 1, 0, 0, 0, 0, 0, m0), (53, .bipush 6, 6, 0, 0, 0, 0, m0), (55, .if_icmp .ge 19, 74, 0, 0, 0, 0, m0), (58, .aload_n 0, 0, 0, 0, 0, 0, m0), (59, .getfield 17, 8, 3, 0, 0, 743, m0), (62, .bipush 6, 6, 0, 0, 0, 0, m0), (64, .iload_n 1, 0, 0, 0, 0, 0, m0), (65, .iadd, 0, 0, 0, 0, 0, m0), (66, .iconst 0, 0, 0, 0, 0, 0, m0), (67, .iastore, 0, 0, 0, 0, 0, m0), (68, .iinc 1 1, 1, 0, 0, 0, 0, m0), (71, .goto (-19), 52, 0, 0, 0, 0, m0)]
theorem oX8_read_52 : okB mX8_read 74 kX8_read_52 52 = true := by decide +kernel
def kX8_read_74 : List mI := [(74, .aload_n 0, 0, 0, 0, 0, 0, m0), (75, .invokevirtual 100, 8, 0, 0, 0, 848, mX8_step)]
theorem oX8_read_74 : okB mX8_read 78 kX8_read_74 74 = true := by decide +kernel
def kX8_read_78 : List mI := [(78, .aload_n 0, 0, 0, 0, 0, 0, m0), (79, .getfield 93, 8, 14, 0, 0, 754, m0), (82, .iconst 4, 4, 0, 0, 0, 0, m0), (83, .if_icmp .eq 94, 177, 0, 0, 0, 0, m0), (86, .aload_n 0, 0, 0, 0, 0, 0, m0), (87, .getfield 96, 8, 16, 0, 0, 756, m0), (90, .ifCond .ne 87, 177, 0, 0, 0, 0, m0), (93, .aload_n 0, 0, 0, 0, 0, 0, m0), (94, .getfield 93, 8, 14, 0, 0, 754, m0), (97, .iconst 1, 1, 0, 0, 0, 0, m0), (98, .if_icmp .ne 10, 108, 0, 0, 0, 0, m0), (101, .aload_n 0, 0, 0, 0, 0, 0, m0), (102, .getfield 90, 8, 15, 0, 0, 755, m0), (105, .goto 4, 109, 0, 0, 0, 0, m0)]
theorem oX8_read_78 : okB mX8_read 108 kX8_read_78 78 = true := by decide +kernel
def kX8_read_108 : List mI := [(108, .iconst 0, 0, 0, 0, 0, 0, m0)]
theorem oX8_read_108 : okB mX8_read 109 kX8_read_108 108 = true := by decide +kernel
def kX8_read_109 : List mI := [(109, .istore_n 1, 0, 0, 0, 0, 0, m0), (110, .aload_n 0, 0, 0, 0, 0, 0, m0), (111, .aload_n 0, 0, 0, 0, 0, 0, m0), (112, .getfield 93, 8, 14, 0, 0, 754, m0), (115, .iconst 1, 1, 0, 0, 0, 0, m0), (116, .if_icmp .ne 15, 131, 0, 0, 0, 0, m0), (119, .aload_n 0, 0, 0, 0, 0, 0, m0), (120, .iload_n 1, 0, 0, 0, 0, 0, m0), (121, .invokevirtual 117, 8, 1, 0, 0, 856, mX8_may), (124, .ifCond .eq 7, 131, 0, 0, 0, 0, m0), (127, .iconst 1, 1, 0, 0, 0, 0, m0), (128, .goto 4, 132, 0, 0, 0, 0, m0)]
theorem oX8_read_109 : okB mX8_read 131 kX8_read_109 109 = true := by decide +kernel
def kX8_read_131 : List mI := [(131, .iconst 0, 0, 0, 0, 0, 0, m0)]
theorem oX8_read_131 : okB mX8_read 132 kX8_read_131 131 = true := by decide +kernel
def kX8_read_132 : List mI := [(132, .invokevirtual 103, 8, 1, 0, 0, 860, mX8_due), (135, .aload_n 0, 0, 0, 0, 0, 0, m0), (136, .getfield 96, 8, 16, 0, 0, 756, m0), (139, .ifCond .ne 35, 174, 0, 0, 0, 0, m0), (142, .aload_n 0, 0, 0, 0, 0, 0, m0), (143, .iload_n 1, 0, 0, 0, 0, 0, m0), (144, .invokevirtual 121, 8, 1, 0, 0, 864, mX8_item), (147, .aload_n 0, 0, 0, 0, 0, 0, m0), (148, .aload_n 0, 0, 0, 0, 0, 0, m0), (149, .getfield 93, 8, 14, 0, 0, 754, m0), (152, .iconst 3, 3, 0, 0, 0, 0, m0), (153, .if_icmp .ne 7, 160, 0, 0, 0, 0, m0), (156, .iconst 1, 1, 0, 0, 0, 0, m0), (157, .goto 4, 161, 0, 0, 0, 0, m0)]
theorem oX8_read_132 : okB mX8_read 160 kX8_read_132 132 = true := by decide +kernel
def kX8_read_160 : List mI := [(160, .iconst 0, 0, 0, 0, 0, 0, m0)]
theorem oX8_read_160 : okB mX8_read 161 kX8_read_160 160 = true := by decide +kernel
def kX8_read_161 : List mI := [(161, .invokevirtual 103, 8, 1, 0, 0, 860, mX8_due), (164, .aload_n 0, 0, 0, 0, 0, 0, m0), (165, .dup, 0, 0, 0, 0, 0, m0), (166, .getfield 114, 8, 17, 0, 0, 757, m0), (169, .iconst 1, 1, 0, 0, 0, 0, m0), (170, .iadd, 0, 0, 0, 0, 0, m0), (171, .putfield 114, 8, 17, 0, 0, 757, m0)]
theorem oX8_read_161 : okB mX8_read 174 kX8_read_161 161 = true := by decide +kernel
def kX8_read_174 : List mI := [(174, .goto (-96), 78, 0, 0, 0, 0, m0)]
theorem oX8_read_174 : okB mX8_read 177 kX8_read_174 174 = true := by decide +kernel
def kX8_read_177 : List mI := [(177, .return_, 0, 0, 0, 0, 0, m0)]
theorem oX8_read_177 : okB mX8_read 178 kX8_read_177 177 = true := by decide +kernel
def kX8_chapter_0 : List mI := [(0, .aload_n 0, 0, 0, 0, 0, 0, m0), (1, .invokevirtual 125, 8, 0, 0, 0, 844, mX8_read), (4, .aload_n 0, 0, 0, 0, 0, 0, m0), (5, .getfield 96, 8, 16, 0, 0, 756, m0), (8, .ifCond .eq 11, 19, 0, 0, 0, 0, m0), (11, .bipush (-10), 10, 1, 0, 0, 0, m0), (13, .aload_n 0, 0, 0, 0, 0, 0, m0), (14, .getfield 87, 8, 13, 0, 0, 753, m0), (17, .isub, 0, 0, 0, 0, 0, m0), (18, .ireturn, 0, 0, 0, 0, 0, m0)]
theorem oX8_chapter_0 : okB mX8_chapter 19 kX8_chapter_0 0 = true := by decide +kernel
def kX8_chapter_19 : List mI := [(19, .aload_n 0, 0, 0, 0, 0, 0, m0), (20, .getfield 13, 8, 2, 0, 0, 742, m0), (23, .iconst 0, 0, 0, 0, 0, 0, m0), (24, .aload_n 0, 0, 0, 0, 0, 0, m0), (25, .getfield 13, 8, 2, 0, 0, 742, m0), (28, .iconst 2, 2, 0, 0, 0, 0, m0), (29, .iaload, 0, 0, 0, 0, 0, m0), (30, .iastore, 0, 0, 0, 0, 0, m0), (31, .aload_n 0, 0, 0, 0, 0, 0, m0), (32, .getfield 13, 8, 2, 0, 0, 742, m0), (35, .iconst 1, 1, 0, 0, 0, 0, m0), (36, .aload_n 0, 0, 0, 0, 0, 0, m0), (37, .getfield 13, 8, 2, 0, 0, 742, m0), (40, .iconst 3, 3, 0, 0, 0, 0, m0), (41, .iaload, 0, 0, 0, 0, 0, m0), (42, .iastore, 0, 0, 0, 0, 0, m0), (43, .aload_n 0, 0, 0, 0, 0, 0, m0), (44, .getfield 20, 8, 4, 0, 0, 744, m0), (47, .iconst 0, 0, 0, 0, 0, 0, m0), (48, .aload_n 0, 0, 0, 0, 0, 0, m0), (49, .getfield 20, 8, 4, 0, 0, 744, m0), (52, .iconst 1, 1, 0, 0, 0, 0, m0), (53, .iaload, 0, 0, 0, 0, 0, m0), (54, .iastore, 0, 0, 0, 0, 0, m0), (55, .aload_n 0, 0, 0, 0, 0, 0, m0), (56, .getfield 32, 8, 8, 0, 0, 748, m0), (59, .iconst 0, 0, 0, 0, 0, 0, m0), (60, .aload_n 0, 0, 0, 0, 0, 0, m0), (61, .getfield 32, 8, 8, 0, 0, 748, m0), (64, .iconst 1, 1, 0, 0, 0, 0, m0), (65, .iaload, 0, 0, 0, 0, 0, m0), (66, .iastore, 0, 0, 0, 0, 0, m0), (67, .aload_n 0, 0, 0, 0, 0, 0, m0), (68, .getfield 38, 8, 10, 0, 0, 750, m0), (71, .iconst 0, 0, 0, 0, 0, 0, m0), (72, .aload_n 0, 0, 0, 0, 0, 0, m0), (73, .getfield 38, 8, 10, 0, 0, 750, m0), (76, .iconst 1, 1, 0, 0, 0, 0, m0), (77, .iaload, 0, 0, 0, 0, 0, m0), (78, .iastore, 0, 0, 0, 0, 0, m0), (79, .iconst 0, 0, 0, 0, 0, 0, m0), (80, .istore_n 1, 0, 0, 0, 0, 0, m0)]
theorem oX8_chapter_19 : okB mX8_chapter 81 kX8_chapter_19 19 = true := by decide +kernel
def kX8_chapter_81 : List mI := [(81, .iload_n 1, 0, 0, 0, 0, 0, m0), (82, .bipush 44, 44, 0, 0, 0, 0, m0), (84, .if_icmp .ge 16, 100, 0, 0, 0, 0, m0), (87, .aload_n 0, 0, 0, 0, 0, 0, m0), (88, .getfield 44, 8, 18, 0, 0, 758, m0), (91, .iload_n 1, 0, 0, 0, 0, 0, m0), (92, .iconst 0, 0, 0, 0, 0, 0, m0), (93, .iastore, 0, 0, 0, 0, 0, m0), (94, .iinc 1 1, 1, 0, 0, 0, 0, m0), (97, .goto (-16), 81, 0, 0, 0, 0, m0)]
theorem oX8_chapter_81 : okB mX8_chapter 100 kX8_chapter_81 81 = true := by decide +kernel
def kX8_chapter_100 : List mI := [(100, .iconst 0, 0, 0, 0, 0, 0, m0), (101, .istore_n 1, 0, 0, 0, 0, 0, m0)]
theorem oX8_chapter_100 : okB mX8_chapter 102 kX8_chapter_100 100 = true := by decide +kernel
def kX8_chapter_102 : List mI := [(102, .iload_n 1, 0, 0, 0, 0, 0, m0), (103, .bipush 6, 6, 0, 0, 0, 0, m0), (105, .if_icmp .ge 24, 129, 0, 0, 0, 0, m0), (108, .aload_n 0, 0, 0, 0, 0, 0, m0), (109, .getfield 17, 8, 3, 0, 0, 743, m0), (112, .iload_n 1, 0, 0, 0, 0, 0, m0), (113, .aload_n 0, 0, 0, 0, 0, 0, m0), (114, .getfield 17, 8, 3, 0, 0, 743, m0), (117, .bipush 6, 6, 0, 0, 0, 0, m0), (119, .iload_n 1, 0, 0, 0, 0, 0, m0), (120, .iadd, 0, 0, 0, 0, 0, m0), (121, .iaload, 0, 0, 0, 0, 0, m0), (122, .iastore, 0, 0, 0, 0, 0, m0), (123, .iinc 1 1, 1, 0, 0, 0, 0, m0), (126, .goto (-24), 102, 0, 0, 0, 0, m0)]
theorem oX8_chapter_102 : okB mX8_chapter 129 kX8_chapter_102 102 = true := by decide +kernel
def kX8_chapter_129 : List mI := [(129, .iconst 0, 0, 0, 0, 0, 0, m0), (130, .istore_n 1, 0, 0, 0, 0, 0, m0)]
theorem oX8_chapter_129 : okB mX8_chapter 131 kX8_chapter_129 129 = true := by decide +kernel
def kX8_chapter_131 : List mI := [(131, .iload_n 1, 0, 0, 0, 0, 0, m0), (132, .bipush 10, 10, 0, 0, 0, 0, m0), (134, .if_icmp .ge 71, 205, 0, 0, 0, 0, m0), (137, .aload_n 0, 0, 0, 0, 0, 0, m0), (138, .getfield 23, 8, 5, 0, 0, 745, m0), (141, .iload_n 1, 0, 0, 0, 0, 0, m0), (142, .aload_n 0, 0, 0, 0, 0, 0, m0), (143, .getfield 23, 8, 5, 0, 0, 745, m0), (146, .bipush 10, 10, 0, 0, 0, 0, m0), (148, .iload_n 1, 0, 0, 0, 0, 0, m0), (149, .iadd, 0, 0, 0, 0, 0, m0), (150, .iaload, 0, 0, 0, 0, 0, m0), (151, .iastore, 0, 0, 0, 0, 0, m0), (152, .aload_n 0, 0, 0, 0, 0, 0, m0), (153, .getfield 26, 8, 6, 0, 0, 746, m0), (156, .iload_n 1, 0, 0, 0, 0, 0, m0), (157, .aload_n 0, 0, 0, 0, 0, 0, m0), (158, .getfield 26, 8, 6, 0, 0, 746, m0), (161, .bipush 10, 10, 0, 0, 0, 0, m0), (163, .iload_n 1, 0, 0, 0, 0, 0, m0), (164, .iadd, 0, 0, 0, 0, 0, m0), (165, .iaload, 0, 0, 0, 0, 0, m0), (166, .iastore, 0, 0, 0, 0, 0, m0), (167, .aload_n 0, 0, 0, 0, 0, 0, m0), (168, .getfield 44, 8, 18, 0, 0, 758, m0), (171, .bipush 10, 10, 0, 0, 0, 0, m0), (173, .iload_n 1, 0, 0, 0, 0, 0, m0), (174, .iadd, 0, 0, 0, 0, 0, m0), (175, .iload_n 1, 0, 0, 0, 0, 0, m0), (176, .aload_n 0, 0, 0, 0, 0, 0, m0), (177, .getfield 20, 8, 4, 0, 0, 744, m0), (180, .iconst 0, 0, 0, 0, 0, 0, m0), (181, .iaload, 0, 0, 0, 0, 0, m0), (182, .if_icmp .ge 15, 197, 0, 0, 0, 0, m0), (185, .aload_n 0, 0, 0, 0, 0, 0, m0), (186, .getfield 29, 8, 7, 0, 0, 747, m0), (189, .bipush 10, 10, 0, 0, 0, 0, m0), (191, .iload_n 1, 0, 0, 0, 0, 0, m0), (192, .iadd, 0, 0, 0, 0, 0, m0), (193, .iaload, 0, 0, 0, 0, 0, m0), (194, .goto 4, 198, 0, 0, 0, 0, m0)]
theorem oX8_chapter_131 : okB mX8_chapter 197 kX8_chapter_131 131 = true := by decide +kernel
def kX8_chapter_197 : List mI := [(197, .iconst 0, 0, 0, 0, 0, 0, m0)]
theorem oX8_chapter_197 : okB mX8_chapter 198 kX8_chapter_197 197 = true := by decide +kernel
def kX8_chapter_198 : List mI := [(198, .iastore, 0, 0, 0, 0, 0, m0), (199, .iinc 1 1, 1, 0, 0, 0, 0, m0), (202, .goto (-71), 131, 0, 0, 0, 0, m0)]
theorem oX8_chapter_198 : okB mX8_chapter 205 kX8_chapter_198 198 = true := by decide +kernel
def kX8_chapter_205 : List mI := [(205, .iconst 0, 0, 0, 0, 0, 0, m0), (206, .istore_n 1, 0, 0, 0, 0, 0, m0)]
theorem oX8_chapter_205 : okB mX8_chapter 207 kX8_chapter_205 205 = true := by decide +kernel
def kX8_chapter_207 : List mI := [(207, .iload_n 1, 0, 0, 0, 0, 0, m0), (208, .iconst 3, 3, 0, 0, 0, 0, m0), (209, .if_icmp .ge 23, 232, 0, 0, 0, 0, m0), (212, .aload_n 0, 0, 0, 0, 0, 0, m0), (213, .getfield 35, 8, 9, 0, 0, 749, m0), (216, .iload_n 1, 0, 0, 0, 0, 0, m0), (217, .aload_n 0, 0, 0, 0, 0, 0, m0), (218, .getfield 35, 8, 9, 0, 0, 749, m0), (221, .iconst 3, 3, 0, 0, 0, 0, m0), (222, .iload_n 1, 0, 0, 0, 0, 0, m0), (223, .iadd, 0, 0, 0, 0, 0, m0), (224, .iaload, 0, 0, 0, 0, 0, m0), (225, .iastore, 0, 0, 0, 0, 0, m0), (226, .iinc 1 1, 1, 0, 0, 0, 0, m0), (229, .goto (-22), 207, 0, 0, 0, 0, m0)]
theorem oX8_chapter_207 : okB mX8_chapter 232 kX8_chapter_207 207 = true := by decide +kernel
def kX8_chapter_232 : List mI := [(232, .iconst 0, 0, 0, 0, 0, 0, m0), (233, .istore_n 1, 0, 0, 0, 0, 0, m0)]
theorem oX8_chapter_232 : okB mX8_chapter 234 kX8_chapter_232 232 = true := by decide +kernel
def kX8_chapter_234 : List mI := [(234, .iload_n 1, 0, 0, 0, 0, 0, m0), (235, .iconst 5, 5, 0, 0, 0, 0, m0), (236, .if_icmp .ge 23, 259, 0, 0, 0, 0, m0), (239, .aload_n 0, 0, 0, 0, 0, 0, m0), (240, .getfield 41, 8, 11, 0, 0, 751, m0), (243, .iload_n 1, 0, 0, 0, 0, 0, m0), (244, .aload_n 0, 0, 0, 0, 0, 0, m0), (245, .getfield 41, 8, 11, 0, 0, 751, m0), (248, .iconst 5, 5, 0, 0, 0, 0, m0), (249, .iload_n 1, 0, 0, 0, 0, 0, m0), (250, .iadd, 0, 0, 0, 0, 0, m0), (251, .iaload, 0, 0, 0, 0, 0, m0), (252, .iastore, 0, 0, 0, 0, 0, m0), (253, .iinc 1 1, 1, 0, 0, 0, 0, m0), (256, .goto (-22), 234, 0, 0, 0, 0, m0)]
theorem oX8_chapter_234 : okB mX8_chapter 259 kX8_chapter_234 234 = true := by decide +kernel
def kX8_chapter_259 : List mI := [(259, .aload_n 0, 0, 0, 0, 0, 0, m0), (260, .getfield 47, 8, 19, 0, 0, 759, m0), (263, .iconst 0, 0, 0, 0, 0, 0, m0), (264, .iconst 0, 0, 0, 0, 0, 0, m0), (265, .iastore, 0, 0, 0, 0, 0, m0), (266, .aload_n 0, 0, 0, 0, 0, 0, m0), (267, .getfield 56, 8, 22, 0, 0, 762, m0), (270, .iconst 0, 0, 0, 0, 0, 0, m0), (271, .iconst 0, 0, 0, 0, 0, 0, m0), (272, .bastore, 1, 0, 0, 0, 0, m0), (273, .aload_n 0, 0, 0, 0, 0, 0, m0), (274, .getfield 56, 8, 22, 0, 0, 762, m0), (277, .iconst 1, 1, 0, 0, 0, 0, m0), (278, .iconst 0, 0, 0, 0, 0, 0, m0), (279, .bastore, 1, 0, 0, 0, 0, m0), (280, .aload_n 0, 0, 0, 0, 0, 0, m0), (281, .iconst 0, 0, 0, 0, 0, 0, m0), (282, .putfield 128, 8, 27, 0, 0, 767, m0), (285, .aload_n 0, 0, 0, 0, 0, 0, m0), (286, .iconst 0, 0, 0, 0, 0, 0, m0), (287, .putfield 76, 8, 1, 0, 0, 741, m0), (290, .aload_n 0, 0, 0, 0, 0, 0, m0), (291, .getfield 114, 8, 17, 0, 0, 757, m0), (294, .ireturn, 0, 0, 0, 0, 0, m0)]
theorem oX8_chapter_259 : okB mX8_chapter 295 kX8_chapter_259 259 = true := by decide +kernel
def kX8_isBrick_0 : List mI := [(0, .iload_n 1, 0, 0, 0, 0, 0, m0), (1, .iconst 0, 0, 0, 0, 0, 0, m0), (2, .aload_n 0, 0, 0, 0, 0, 0, m0), (3, .getfield 20, 8, 4, 0, 0, 744, m0), (6, .iconst 0, 0, 0, 0, 0, 0, m0), (7, .iaload, 0, 0, 0, 0, 0, m0), (8, .iconst 1, 1, 0, 0, 0, 0, m0), (9, .isub, 0, 0, 0, 0, 0, m0), (10, .invokestatic 72, 0, 3, 0, 0, 833, mX8_in), (13, .ireturn, 1, 0, 0, 0, 0, m0)]
theorem oX8_isBrick_0 : okB mX8_isBrick 14 kX8_isBrick_0 0 = true := by decide +kernel
def kX8_isColumn_0 : List mI := [(0, .iload_n 1, 0, 0, 0, 0, 0, m0), (1, .iconst 0, 0, 0, 0, 0, 0, m0), (2, .aload_n 0, 0, 0, 0, 0, 0, m0), (3, .getfield 13, 8, 2, 0, 0, 742, m0), (6, .iconst 0, 0, 0, 0, 0, 0, m0), (7, .iaload, 0, 0, 0, 0, 0, m0), (8, .iconst 1, 1, 0, 0, 0, 0, m0), (9, .isub, 0, 0, 0, 0, 0, m0), (10, .invokestatic 72, 0, 3, 0, 0, 833, mX8_in), (13, .ireturn, 1, 0, 0, 0, 0, m0)]
theorem oX8_isColumn_0 : okB mX8_isColumn 14 kX8_isColumn_0 0 = true := by decide +kernel
def kX8_isJudge_0 : List mI := [(0, .iload_n 1, 0, 0, 0, 0, 0, m0), (1, .iconst 0, 0, 0, 0, 0, 0, m0), (2, .aload_n 0, 0, 0, 0, 0, 0, m0), (3, .getfield 32, 8, 8, 0, 0, 748, m0), (6, .iconst 0, 0, 0, 0, 0, 0, m0), (7, .iaload, 0, 0, 0, 0, 0, m0), (8, .iconst 1, 1, 0, 0, 0, 0, m0), (9, .isub, 0, 0, 0, 0, 0, m0), (10, .invokestatic 72, 0, 3, 0, 0, 833, mX8_in), (13, .ireturn, 1, 0, 0, 0, 0, m0)]
theorem oX8_isJudge_0 : okB mX8_isJudge 14 kX8_isJudge_0 0 = true := by decide +kernel
def kX8_shapeOf_0 : List mI := [(0, .iconst 2, 2, 0, 0, 0, 0, m0), (1, .iload_n 1, 0, 0, 0, 0, 0, m0), (2, .imul, 0, 0, 0, 0, 0, m0), (3, .iload_n 0, 0, 0, 0, 0, 0, m0), (4, .iadd, 0, 0, 0, 0, 0, m0), (5, .iconst 3, 3, 0, 0, 0, 0, m0), (6, .irem, 0, 0, 0, 0, 0, m0), (7, .ireturn, 0, 0, 0, 0, 0, m0)]
theorem oX8_shapeOf_0 : okB mX8_shapeOf 8 kX8_shapeOf_0 0 = true := by decide +kernel
def kX8_heightOf_0 : List mI := [(0, .iconst 0, 0, 0, 0, 0, 0, m0), (1, .istore_n 2, 0, 0, 0, 0, 0, m0), (2, .iconst 0, 0, 0, 0, 0, 0, m0), (3, .istore_n 3, 0, 0, 0, 0, 0, m0)]
theorem oX8_heightOf_0 : okB mX8_heightOf 4 kX8_heightOf_0 0 = true := by decide +kernel
def kX8_heightOf_4 : List mI := [(4, .iload_n 3, 0, 0, 0, 0, 0, m0), (5, .iconst 4, 4, 0, 0, 0, 0, m0), (6, .if_icmp .ge 33, 39, 0, 0, 0, 0, m0), (9, .iload_n 2, 0, 0, 0, 0, 0, m0), (10, .aload_n 0, 0, 0, 0, 0, 0, m0), (11, .getfield 44, 8, 18, 0, 0, 758, m0), (14, .bipush 20, 20, 0, 0, 0, 0, m0), (16, .iconst 4, 4, 0, 0, 0, 0, m0), (17, .iload_n 1, 0, 0, 0, 0, 0, m0), (18, .imul, 0, 0, 0, 0, 0, m0), (19, .iadd, 0, 0, 0, 0, 0, m0), (20, .iload_n 3, 0, 0, 0, 0, 0, m0), (21, .iadd, 0, 0, 0, 0, 0, m0), (22, .iaload, 0, 0, 0, 0, 0, m0), (23, .ifCond .le 7, 30, 0, 0, 0, 0, m0), (26, .iconst 1, 1, 0, 0, 0, 0, m0), (27, .goto 4, 31, 0, 0, 0, 0, m0)]
theorem oX8_heightOf_4 : okB mX8_heightOf 30 kX8_heightOf_4 4 = true := by decide +kernel
def kX8_heightOf_30 : List mI := [(30, .iconst 0, 0, 0, 0, 0, 0, m0)]
theorem oX8_heightOf_30 : okB mX8_heightOf 31 kX8_heightOf_30 30 = true := by decide +kernel
def kX8_heightOf_31 : List mI := [(31, .iadd, 0, 0, 0, 0, 0, m0), (32, .istore_n 2, 0, 0, 0, 0, 0, m0), (33, .iinc 3 1, 1, 0, 0, 0, 0, m0), (36, .goto (-32), 4, 0, 0, 0, 0, m0)]
theorem oX8_heightOf_31 : okB mX8_heightOf 39 kX8_heightOf_31 31 = true := by decide +kernel
def kX8_heightOf_39 : List mI := [(39, .iload_n 2, 0, 0, 0, 0, 0, m0), (40, .ireturn, 0, 0, 0, 0, 0, m0)]
theorem oX8_heightOf_39 : okB mX8_heightOf 41 kX8_heightOf_39 39 = true := by decide +kernel
def kX8_doesFit_0 : List mI := [(0, .aload_n 0, 0, 0, 0, 0, 0, m0), (1, .iload_n 2, 0, 0, 0, 0, 0, m0), (2, .invokevirtual 131, 8, 1, 0, 0, 888, mX8_heightOf), (5, .istore_n 3, 0, 0, 0, 0, 0, m0), (6, .iload_n 3, 0, 0, 0, 0, 0, m0), (7, .aload_n 0, 0, 0, 0, 0, 0, m0), (8, .getfield 13, 8, 2, 0, 0, 742, m0), (11, .iconst 1, 1, 0, 0, 0, 0, m0), (12, .iaload, 0, 0, 0, 0, 0, m0), (13, .if_icmp .ge 21, 34, 0, 0, 0, 0, m0), (16, .aload_n 0, 0, 0, 0, 0, 0, m0), (17, .getfield 23, 8, 5, 0, 0, 745, m0), (20, .iload_n 1, 0, 0, 0, 0, 0, m0), (21, .iaload, 0, 0, 0, 0, 0, m0), (22, .iload_n 2, 0, 0, 0, 0, 0, m0), (23, .iload_n 3, 0, 0, 0, 0, 0, m0), (24, .invokestatic 135, 0, 2, 0, 0, 892, mX8_shapeOf), (27, .if_icmp .ne 7, 34, 0, 0, 0, 0, m0), (30, .iconst 1, 1, 0, 0, 0, 0, m0), (31, .goto 4, 35, 0, 0, 0, 0, m0)]
theorem oX8_doesFit_0 : okB mX8_doesFit 34 kX8_doesFit_0 0 = true := by decide +kernel
def kX8_doesFit_34 : List mI := [(34, .iconst 0, 0, 0, 0, 0, 0, m0)]
theorem oX8_doesFit_34 : okB mX8_doesFit 35 kX8_doesFit_34 34 = true := by decide +kernel
def kX8_doesFit_35 : List mI := [(35, .ireturn, 1, 0, 0, 0, 0, m0)]
theorem oX8_doesFit_35 : okB mX8_doesFit 36 kX8_doesFit_35 35 = true := by decide +kernel
def kX8_manyOf_0 : List mI := [(0, .iconst 0, 0, 0, 0, 0, 0, m0), (1, .istore_n 2, 0, 0, 0, 0, 0, m0), (2, .iconst 0, 0, 0, 0, 0, 0, m0), (3, .istore_n 3, 0, 0, 0, 0, 0, m0)]
theorem oX8_manyOf_0 : okB mX8_manyOf 4 kX8_manyOf_0 0 = true := by decide +kernel
def kX8_manyOf_4 : List mI := [(4, .iload_n 3, 0, 0, 0, 0, 0, m0), (5, .aload_n 0, 0, 0, 0, 0, 0, m0), (6, .getfield 20, 8, 4, 0, 0, 744, m0), (9, .iconst 0, 0, 0, 0, 0, 0, m0), (10, .iaload, 0, 0, 0, 0, 0, m0), (11, .if_icmp .ge 29, 40, 0, 0, 0, 0, m0), (14, .iload_n 2, 0, 0, 0, 0, 0, m0), (15, .aload_n 0, 0, 0, 0, 0, 0, m0), (16, .getfield 44, 8, 18, 0, 0, 758, m0), (19, .iconst 0, 0, 0, 0, 0, 0, m0), (20, .iload_n 3, 0, 0, 0, 0, 0, m0), (21, .iadd, 0, 0, 0, 0, 0, m0), (22, .iaload, 0, 0, 0, 0, 0, m0), (23, .iload_n 1, 0, 0, 0, 0, 0, m0), (24, .if_icmp .ne 7, 31, 0, 0, 0, 0, m0), (27, .iconst 1, 1, 0, 0, 0, 0, m0), (28, .goto 4, 32, 0, 0, 0, 0, m0)]
theorem oX8_manyOf_4 : okB mX8_manyOf 31 kX8_manyOf_4 4 = true := by decide +kernel
def kX8_manyOf_31 : List mI := [(31, .iconst 0, 0, 0, 0, 0, 0, m0)]
theorem oX8_manyOf_31 : okB mX8_manyOf 32 kX8_manyOf_31 31 = true := by decide +kernel
def kX8_manyOf_32 : List mI := [(32, .iadd, 0, 0, 0, 0, 0, m0), (33, .istore_n 2, 0, 0, 0, 0, 0, m0), (34, .iinc 3 1, 1, 0, 0, 0, 0, m0), (37, .goto (-33), 4, 0, 0, 0, 0, m0)]
theorem oX8_manyOf_32 : okB mX8_manyOf 40 kX8_manyOf_32 32 = true := by decide +kernel
def kX8_manyOf_40 : List mI := [(40, .iload_n 2, 0, 0, 0, 0, 0, m0), (41, .ireturn, 0, 0, 0, 0, 0, m0)]
theorem oX8_manyOf_40 : okB mX8_manyOf 42 kX8_manyOf_40 40 = true := by decide +kernel
def kX8_brick_0 : List mI := [(0, .aload_n 0, 0, 0, 0, 0, 0, m0), (1, .iload_n 1, 0, 0, 0, 0, 0, m0), (2, .invokevirtual 138, 8, 1, 0, 0, 880, mX8_isBrick), (5, .ifCond .ne 5, 10, 0, 0, 0, 0, m0), (8, .iconst (-1), 1, 1, 0, 0, 0, m0), (9, .ireturn, 0, 0, 0, 0, 0, m0)]
theorem oX8_brick_0 : okB mX8_brick 10 kX8_brick_0 0 = true := by decide +kernel
def kX8_brick_10 : List mI := [(10, .iconst 0, 0, 0, 0, 0, 0, m0), (11, .istore_n 3, 0, 0, 0, 0, 0, m0), (12, .iload_n 2, 0, 0, 0, 0, 0, m0), (13, .tableswitch 167 0 5 #[39, 46, 53, 63, 72, 112], 0, 0, 0, 0, 0, m0)]
theorem oX8_brick_10 : okB mX8_brick 52 kX8_brick_10 10 = true := by decide +kernel
def kX8_brick_52 : List mI := [(52, .aload_n 0, 0, 0, 0, 0, 0, m0), (53, .getfield 23, 8, 5, 0, 0, 745, m0), (56, .iload_n 1, 0, 0, 0, 0, 0, m0), (57, .iaload, 0, 0, 0, 0, 0, m0), (58, .ireturn, 0, 0, 0, 0, 0, m0)]
theorem oX8_brick_52 : okB mX8_brick 59 kX8_brick_52 52 = true := by decide +kernel
def kX8_brick_59 : List mI := [(59, .aload_n 0, 0, 0, 0, 0, 0, m0), (60, .getfield 26, 8, 6, 0, 0, 746, m0), (63, .iload_n 1, 0, 0, 0, 0, 0, m0), (64, .iaload, 0, 0, 0, 0, 0, m0), (65, .ireturn, 0, 0, 0, 0, 0, m0)]
theorem oX8_brick_59 : okB mX8_brick 66 kX8_brick_59 59 = true := by decide +kernel
def kX8_brick_66 : List mI := [(66, .aload_n 0, 0, 0, 0, 0, 0, m0), (67, .getfield 44, 8, 18, 0, 0, 758, m0), (70, .bipush 10, 10, 0, 0, 0, 0, m0), (72, .iload_n 1, 0, 0, 0, 0, 0, m0), (73, .iadd, 0, 0, 0, 0, 0, m0), (74, .iaload, 0, 0, 0, 0, 0, m0), (75, .ireturn, 0, 0, 0, 0, 0, m0)]
theorem oX8_brick_66 : okB mX8_brick 76 kX8_brick_66 66 = true := by decide +kernel
def kX8_brick_76 : List mI := [(76, .aload_n 0, 0, 0, 0, 0, 0, m0), (77, .getfield 44, 8, 18, 0, 0, 758, m0), (80, .iconst 0, 0, 0, 0, 0, 0, m0), (81, .iload_n 1, 0, 0, 0, 0, 0, m0), (82, .iadd, 0, 0, 0, 0, 0, m0), (83, .iaload, 0, 0, 0, 0, 0, m0), (84, .ireturn, 0, 0, 0, 0, 0, m0)]
theorem oX8_brick_76 : okB mX8_brick 85 kX8_brick_76 76 = true := by decide +kernel
def kX8_brick_85 : List mI := [(85, .iconst 0, 0, 0, 0, 0, 0, m0), (86, .istore 4, 0, 0, 0, 0, 0, m0)]
theorem oX8_brick_85 : okB mX8_brick 88 kX8_brick_85 85 = true := by decide +kernel
def kX8_brick_88 : List mI := [(88, .iload 4, 0, 0, 0, 0, 0, m0), (90, .bipush 24, 24, 0, 0, 0, 0, m0), (92, .if_icmp .ge 30, 122, 0, 0, 0, 0, m0), (95, .aload_n 0, 0, 0, 0, 0, 0, m0), (96, .getfield 44, 8, 18, 0, 0, 758, m0), (99, .bipush 20, 20, 0, 0, 0, 0, m0), (101, .iload 4, 0, 0, 0, 0, 0, m0), (103, .iadd, 0, 0, 0, 0, 0, m0), (104, .iaload, 0, 0, 0, 0, 0, m0), (105, .iload_n 1, 0, 0, 0, 0, 0, m0), (106, .iconst 1, 1, 0, 0, 0, 0, m0), (107, .iadd, 0, 0, 0, 0, 0, m0), (108, .if_icmp .ne 8, 116, 0, 0, 0, 0, m0), (111, .iload 4, 0, 0, 0, 0, 0, m0), (113, .iconst 4, 4, 0, 0, 0, 0, m0), (114, .idiv, 0, 0, 0, 0, 0, m0), (115, .ireturn, 0, 0, 0, 0, 0, m0)]
theorem oX8_brick_88 : okB mX8_brick 116 kX8_brick_88 88 = true := by decide +kernel
def kX8_brick_116 : List mI := [(116, .iinc 4 1, 1, 0, 0, 0, 0, m0), (119, .goto (-31), 88, 0, 0, 0, 0, m0)]
theorem oX8_brick_116 : okB mX8_brick 122 kX8_brick_116 116 = true := by decide +kernel
def kX8_brick_122 : List mI := [(122, .bipush (-9), 9, 1, 0, 0, 0, m0), (124, .ireturn, 0, 0, 0, 0, 0, m0)]
theorem oX8_brick_122 : okB mX8_brick 125 kX8_brick_122 122 = true := by decide +kernel
def kX8_brick_125 : List mI := [(125, .iconst 0, 0, 0, 0, 0, 0, m0), (126, .istore 4, 0, 0, 0, 0, 0, m0)]
theorem oX8_brick_125 : okB mX8_brick 128 kX8_brick_125 125 = true := by decide +kernel
def kX8_brick_128 : List mI := [(128, .iload 4, 0, 0, 0, 0, 0, m0), (130, .aload_n 0, 0, 0, 0, 0, 0, m0), (131, .getfield 13, 8, 2, 0, 0, 742, m0), (134, .iconst 0, 0, 0, 0, 0, 0, m0), (135, .iaload, 0, 0, 0, 0, 0, m0), (136, .if_icmp .ge 42, 178, 0, 0, 0, 0, m0), (139, .iload_n 3, 0, 0, 0, 0, 0, m0), (140, .aload_n 0, 0, 0, 0, 0, 0, m0), (141, .getfield 44, 8, 18, 0, 0, 758, m0), (144, .iconst 0, 0, 0, 0, 0, 0, m0), (145, .iload_n 1, 0, 0, 0, 0, 0, m0), (146, .iadd, 0, 0, 0, 0, 0, m0), (147, .iaload, 0, 0, 0, 0, 0, m0), (148, .iconst 4, 4, 0, 0, 0, 0, m0), (149, .if_icmp .eq 20, 169, 0, 0, 0, 0, m0), (152, .aload_n 0, 0, 0, 0, 0, 0, m0), (153, .iload_n 1, 0, 0, 0, 0, 0, m0), (154, .iload 4, 0, 0, 0, 0, 0, m0), (156, .invokevirtual 141, 8, 2, 0, 0, 884, mX8_doesFit), (159, .ifCond .eq 10, 169, 0, 0, 0, 0, m0), (162, .iconst 1, 1, 0, 0, 0, 0, m0), (163, .iload 4, 0, 0, 0, 0, 0, m0), (165, .ishl, 0, 0, 0, 0, 0, m0), (166, .goto 4, 170, 0, 0, 0, 0, m0)]
theorem oX8_brick_128 : okB mX8_brick 169 kX8_brick_128 128 = true := by decide +kernel
def kX8_brick_169 : List mI := [(169, .iconst 0, 0, 0, 0, 0, 0, m0)]
theorem oX8_brick_169 : okB mX8_brick 170 kX8_brick_169 169 = true := by decide +kernel
def kX8_brick_170 : List mI := [(170, .ior, 0, 0, 0, 0, 0, m0), (171, .istore_n 3, 0, 0, 0, 0, 0, m0), (172, .iinc 4 1, 1, 0, 0, 0, 0, m0), (175, .goto (-47), 128, 0, 0, 0, 0, m0)]
theorem oX8_brick_170 : okB mX8_brick 178 kX8_brick_170 170 = true := by decide +kernel
def kX8_brick_178 : List mI := [(178, .iload_n 3, 0, 0, 0, 0, 0, m0), (179, .ireturn, 0, 0, 0, 0, 0, m0)]
theorem oX8_brick_178 : okB mX8_brick 180 kX8_brick_178 178 = true := by decide +kernel
def kX8_brick_180 : List mI := [(180, .iconst (-1), 1, 1, 0, 0, 0, m0), (181, .ireturn, 0, 0, 0, 0, 0, m0)]
theorem oX8_brick_180 : okB mX8_brick 182 kX8_brick_180 180 = true := by decide +kernel
def kX8_place_0 : List mI := [(0, .aload_n 0, 0, 0, 0, 0, 0, m0), (1, .iload_n 1, 0, 0, 0, 0, 0, m0), (2, .invokevirtual 145, 8, 1, 0, 0, 899, mX8_isColumn), (5, .ifCond .eq 19, 24, 0, 0, 0, 0, m0), (8, .iload_n 2, 0, 0, 0, 0, 0, m0), (9, .iconst 0, 0, 0, 0, 0, 0, m0), (10, .aload_n 0, 0, 0, 0, 0, 0, m0), (11, .getfield 13, 8, 2, 0, 0, 742, m0), (14, .iconst 1, 1, 0, 0, 0, 0, m0), (15, .iaload, 0, 0, 0, 0, 0, m0), (16, .iconst 1, 1, 0, 0, 0, 0, m0), (17, .isub, 0, 0, 0, 0, 0, m0), (18, .invokestatic 72, 0, 3, 0, 0, 833, mX8_in), (21, .ifCond .ne 5, 26, 0, 0, 0, 0, m0)]
theorem oX8_place_0 : okB mX8_place 24 kX8_place_0 0 = true := by decide +kernel
def kX8_place_24 : List mI := [(24, .iconst (-1), 1, 1, 0, 0, 0, m0), (25, .ireturn, 0, 0, 0, 0, 0, m0)]
theorem oX8_place_24 : okB mX8_place 26 kX8_place_24 24 = true := by decide +kernel
def kX8_place_26 : List mI := [(26, .aload_n 0, 0, 0, 0, 0, 0, m0), (27, .getfield 44, 8, 18, 0, 0, 758, m0), (30, .bipush 20, 20, 0, 0, 0, 0, m0), (32, .iconst 4, 4, 0, 0, 0, 0, m0), (33, .iload_n 1, 0, 0, 0, 0, 0, m0), (34, .imul, 0, 0, 0, 0, 0, m0), (35, .iadd, 0, 0, 0, 0, 0, m0), (36, .iload_n 2, 0, 0, 0, 0, 0, m0), (37, .iadd, 0, 0, 0, 0, 0, m0), (38, .iaload, 0, 0, 0, 0, 0, m0), (39, .istore_n 3, 0, 0, 0, 0, 0, m0), (40, .iload_n 3, 0, 0, 0, 0, 0, m0), (41, .ifCond .ne 8, 49, 0, 0, 0, 0, m0), (44, .bipush (-9), 9, 1, 0, 0, 0, m0), (46, .goto 6, 52, 0, 0, 0, 0, m0)]
theorem oX8_place_26 : okB mX8_place 49 kX8_place_26 26 = true := by decide +kernel
def kX8_place_49 : List mI := [(49, .iload_n 3, 0, 0, 0, 0, 0, m0), (50, .iconst 1, 1, 0, 0, 0, 0, m0), (51, .isub, 0, 0, 0, 0, 0, m0)]
theorem oX8_place_49 : okB mX8_place 52 kX8_place_49 49 = true := by decide +kernel
def kX8_place_52 : List mI := [(52, .ireturn, 0, 0, 0, 0, 0, m0)]
theorem oX8_place_52 : okB mX8_place 53 kX8_place_52 52 = true := by decide +kernel
def kX8_kin_0 : List mI := [(0, .iload_n 1, 0, 0, 0, 0, 0, m0), (1, .iconst 0, 0, 0, 0, 0, 0, m0), (2, .iconst 5, 5, 0, 0, 0, 0, m0), (3, .invokestatic 72, 0, 3, 0, 0, 833, mX8_in), (6, .ifCond .eq 12, 18, 0, 0, 0, 0, m0), (9, .aload_n 0, 0, 0, 0, 0, 0, m0), (10, .getfield 17, 8, 3, 0, 0, 743, m0), (13, .iload_n 1, 0, 0, 0, 0, 0, m0), (14, .iaload, 0, 0, 0, 0, 0, m0), (15, .goto 4, 19, 0, 0, 0, 0, m0)]
theorem oX8_kin_0 : okB mX8_kin 18 kX8_kin_0 0 = true := by decide +kernel
def kX8_kin_18 : List mI := [(18, .iconst (-1), 1, 1, 0, 0, 0, m0)]
theorem oX8_kin_18 : okB mX8_kin 19 kX8_kin_18 18 = true := by decide +kernel
def kX8_kin_19 : List mI := [(19, .ireturn, 0, 0, 0, 0, 0, m0)]
theorem oX8_kin_19 : okB mX8_kin 20 kX8_kin_19 19 = true := by decide +kernel
def kX8_judge_0 : List mI := [(0, .aload_n 0, 0, 0, 0, 0, 0, m0), (1, .iload_n 1, 0, 0, 0, 0, 0, m0), (2, .invokevirtual 148, 8, 1, 0, 0, 911, mX8_isJudge), (5, .ifCond .eq 12, 17, 0, 0, 0, 0, m0), (8, .iload_n 2, 0, 0, 0, 0, 0, m0), (9, .iconst 0, 0, 0, 0, 0, 0, m0), (10, .iconst 1, 1, 0, 0, 0, 0, m0), (11, .invokestatic 72, 0, 3, 0, 0, 833, mX8_in), (14, .ifCond .ne 5, 19, 0, 0, 0, 0, m0)]
theorem oX8_judge_0 : okB mX8_judge 17 kX8_judge_0 0 = true := by decide +kernel
def kX8_judge_17 : List mI := [(17, .iconst (-1), 1, 1, 0, 0, 0, m0), (18, .ireturn, 0, 0, 0, 0, 0, m0)]
theorem oX8_judge_17 : okB mX8_judge 19 kX8_judge_17 17 = true := by decide +kernel
def kX8_judge_19 : List mI := [(19, .iconst 0, 0, 0, 0, 0, 0, m0), (20, .istore_n 3, 0, 0, 0, 0, 0, m0), (21, .iconst 0, 0, 0, 0, 0, 0, m0), (22, .istore 4, 0, 0, 0, 0, 0, m0)]
theorem oX8_judge_19 : okB mX8_judge 24 kX8_judge_19 19 = true := by decide +kernel
def kX8_judge_24 : List mI := [(24, .iload 4, 0, 0, 0, 0, 0, m0), (26, .aload_n 0, 0, 0, 0, 0, 0, m0), (27, .getfield 20, 8, 4, 0, 0, 744, m0), (30, .iconst 0, 0, 0, 0, 0, 0, m0), (31, .iaload, 0, 0, 0, 0, 0, m0), (32, .if_icmp .ge 39, 71, 0, 0, 0, 0, m0), (35, .iload_n 3, 0, 0, 0, 0, 0, m0), (36, .aload_n 0, 0, 0, 0, 0, 0, m0), (37, .getfield 35, 8, 9, 0, 0, 749, m0), (40, .iload_n 1, 0, 0, 0, 0, 0, m0), (41, .iaload, 0, 0, 0, 0, 0, m0), (42, .aload_n 0, 0, 0, 0, 0, 0, m0), (43, .getfield 44, 8, 18, 0, 0, 758, m0), (46, .bipush 10, 10, 0, 0, 0, 0, m0), (48, .iload 4, 0, 0, 0, 0, 0, m0), (50, .iadd, 0, 0, 0, 0, 0, m0), (51, .iaload, 0, 0, 0, 0, 0, m0), (52, .if_icmp .gt 10, 62, 0, 0, 0, 0, m0), (55, .iconst 1, 1, 0, 0, 0, 0, m0), (56, .iload 4, 0, 0, 0, 0, 0, m0), (58, .ishl, 0, 0, 0, 0, 0, m0), (59, .goto 4, 63, 0, 0, 0, 0, m0)]
theorem oX8_judge_24 : okB mX8_judge 62 kX8_judge_24 24 = true := by decide +kernel
def kX8_judge_62 : List mI := [(62, .iconst 0, 0, 0, 0, 0, 0, m0)]
theorem oX8_judge_62 : okB mX8_judge 63 kX8_judge_62 62 = true := by decide +kernel
def kX8_judge_63 : List mI := [(63, .ior, 0, 0, 0, 0, 0, m0), (64, .istore_n 3, 0, 0, 0, 0, 0, m0), (65, .iinc 4 1, 1, 0, 0, 0, 0, m0), (68, .goto (-44), 24, 0, 0, 0, 0, m0)]
theorem oX8_judge_63 : okB mX8_judge 71 kX8_judge_63 63 = true := by decide +kernel
def kX8_judge_71 : List mI := [(71, .iload_n 2, 0, 0, 0, 0, 0, m0), (72, .ifCond .ne 12, 84, 0, 0, 0, 0, m0), (75, .aload_n 0, 0, 0, 0, 0, 0, m0), (76, .getfield 35, 8, 9, 0, 0, 749, m0), (79, .iload_n 1, 0, 0, 0, 0, 0, m0), (80, .iaload, 0, 0, 0, 0, 0, m0), (81, .goto 4, 85, 0, 0, 0, 0, m0)]
theorem oX8_judge_71 : okB mX8_judge 84 kX8_judge_71 71 = true := by decide +kernel
def kX8_judge_84 : List mI := [(84, .iload_n 3, 0, 0, 0, 0, 0, m0)]
theorem oX8_judge_84 : okB mX8_judge 85 kX8_judge_84 84 = true := by decide +kernel
def kX8_judge_85 : List mI := [(85, .ireturn, 0, 0, 0, 0, 0, m0)]
theorem oX8_judge_85 : okB mX8_judge 86 kX8_judge_85 85 = true := by decide +kernel
def kX8_know_0 : List mI := [(0, .aload_n 0, 0, 0, 0, 0, 0, m0), (1, .getfield 47, 8, 19, 0, 0, 759, m0), (4, .iconst 0, 0, 0, 0, 0, 0, m0), (5, .iaload, 0, 0, 0, 0, 0, m0), (6, .bipush 10, 10, 0, 0, 0, 0, m0), (8, .if_icmp .ne 43, 51, 0, 0, 0, 0, m0), (11, .iconst 0, 0, 0, 0, 0, 0, m0), (12, .istore_n 1, 0, 0, 0, 0, 0, m0)]
theorem oX8_know_0 : okB mX8_know 13 kX8_know_0 0 = true := by decide +kernel
def kX8_know_13 : List mI := [(13, .iload_n 1, 0, 0, 0, 0, 0, m0), (14, .sipush 396, 396, 0, 0, 0, 0, m0), (17, .if_icmp .ge 24, 41, 0, 0, 0, 0, m0), (20, .aload_n 0, 0, 0, 0, 0, 0, m0), (21, .getfield 50, 8, 20, 0, 0, 760, m0), (24, .iload_n 1, 0, 0, 0, 0, 0, m0), (25, .aload_n 0, 0, 0, 0, 0, 0, m0), (26, .getfield 50, 8, 20, 0, 0, 760, m0), (29, .bipush 44, 44, 0, 0, 0, 0, m0), (31, .iload_n 1, 0, 0, 0, 0, 0, m0), (32, .iadd, 0, 0, 0, 0, 0, m0), (33, .iaload, 0, 0, 0, 0, 0, m0), (34, .iastore, 0, 0, 0, 0, 0, m0), (35, .iinc 1 1, 1, 0, 0, 0, 0, m0), (38, .goto (-25), 13, 0, 0, 0, 0, m0)]
theorem oX8_know_13 : okB mX8_know 41 kX8_know_13 13 = true := by decide +kernel
def kX8_know_41 : List mI := [(41, .aload_n 0, 0, 0, 0, 0, 0, m0), (42, .getfield 47, 8, 19, 0, 0, 759, m0), (45, .iconst 0, 0, 0, 0, 0, 0, m0), (46, .dup2, 0, 0, 0, 0, 0, m0), (47, .iaload, 0, 0, 0, 0, 0, m0), (48, .iconst 1, 1, 0, 0, 0, 0, m0), (49, .isub, 0, 0, 0, 0, 0, m0), (50, .iastore, 0, 0, 0, 0, 0, m0)]
theorem oX8_know_41 : okB mX8_know 51 kX8_know_41 41 = true := by decide +kernel
def kX8_know_51 : List mI := [(51, .iconst 0, 0, 0, 0, 0, 0, m0), (52, .istore_n 1, 0, 0, 0, 0, 0, m0)]
theorem oX8_know_51 : okB mX8_know 53 kX8_know_51 51 = true := by decide +kernel
def kX8_know_53 : List mI := [(53, .iload_n 1, 0, 0, 0, 0, 0, m0), (54, .bipush 44, 44, 0, 0, 0, 0, m0), (56, .if_icmp .ge 31, 87, 0, 0, 0, 0, m0), (59, .aload_n 0, 0, 0, 0, 0, 0, m0), (60, .getfield 50, 8, 20, 0, 0, 760, m0), (63, .bipush 44, 44, 0, 0, 0, 0, m0), (65, .aload_n 0, 0, 0, 0, 0, 0, m0), (66, .getfield 47, 8, 19, 0, 0, 759, m0), (69, .iconst 0, 0, 0, 0, 0, 0, m0), (70, .iaload, 0, 0, 0, 0, 0, m0), (71, .imul, 0, 0, 0, 0, 0, m0), (72, .iload_n 1, 0, 0, 0, 0, 0, m0), (73, .iadd, 0, 0, 0, 0, 0, m0), (74, .aload_n 0, 0, 0, 0, 0, 0, m0), (75, .getfield 44, 8, 18, 0, 0, 758, m0), (78, .iload_n 1, 0, 0, 0, 0, 0, m0), (79, .iaload, 0, 0, 0, 0, 0, m0), (80, .iastore, 0, 0, 0, 0, 0, m0), (81, .iinc 1 1, 1, 0, 0, 0, 0, m0), (84, .goto (-31), 53, 0, 0, 0, 0, m0)]
theorem oX8_know_53 : okB mX8_know 87 kX8_know_53 53 = true := by decide +kernel
def kX8_know_87 : List mI := [(87, .aload_n 0, 0, 0, 0, 0, 0, m0), (88, .getfield 47, 8, 19, 0, 0, 759, m0), (91, .iconst 0, 0, 0, 0, 0, 0, m0), (92, .dup2, 0, 0, 0, 0, 0, m0), (93, .iaload, 0, 0, 0, 0, 0, m0), (94, .iconst 1, 1, 0, 0, 0, 0, m0), (95, .iadd, 0, 0, 0, 0, 0, m0), (96, .iastore, 0, 0, 0, 0, 0, m0), (97, .return_, 0, 0, 0, 0, 0, m0)]
theorem oX8_know_87 : okB mX8_know 98 kX8_know_87 87 = true := by decide +kernel
def kX8_doesCome_0 : List mI := [(0, .aload_n 0, 0, 0, 0, 0, 0, m0), (1, .getfield 44, 8, 18, 0, 0, 758, m0), (4, .iconst 0, 0, 0, 0, 0, 0, m0), (5, .iload_n 1, 0, 0, 0, 0, 0, m0), (6, .iadd, 0, 0, 0, 0, 0, m0), (7, .iaload, 0, 0, 0, 0, 0, m0), (8, .ifCond .ne 35, 43, 0, 0, 0, 0, m0), (11, .aload_n 0, 0, 0, 0, 0, 0, m0), (12, .getfield 26, 8, 6, 0, 0, 746, m0), (15, .iload_n 1, 0, 0, 0, 0, 0, m0), (16, .iaload, 0, 0, 0, 0, 0, m0), (17, .iload_n 2, 0, 0, 0, 0, 0, m0), (18, .if_icmp .eq 21, 39, 0, 0, 0, 0, m0), (21, .aload_n 0, 0, 0, 0, 0, 0, m0), (22, .getfield 17, 8, 3, 0, 0, 743, m0), (25, .iload_n 2, 0, 0, 0, 0, 0, m0), (26, .iaload, 0, 0, 0, 0, 0, m0), (27, .aload_n 0, 0, 0, 0, 0, 0, m0), (28, .getfield 26, 8, 6, 0, 0, 746, m0), (31, .iload_n 1, 0, 0, 0, 0, 0, m0), (32, .iaload, 0, 0, 0, 0, 0, m0), (33, .invokestatic 151, 0, 2, 0, 0, 927, mX8_has), (36, .ifCond .eq 7, 43, 0, 0, 0, 0, m0)]
theorem oX8_doesCome_0 : okB mX8_doesCome 39 kX8_doesCome_0 0 = true := by decide +kernel
def kX8_doesCome_39 : List mI := [(39, .iconst 1, 1, 0, 0, 0, 0, m0), (40, .goto 4, 44, 0, 0, 0, 0, m0)]
theorem oX8_doesCome_39 : okB mX8_doesCome 43 kX8_doesCome_39 39 = true := by decide +kernel
def kX8_doesCome_43 : List mI := [(43, .iconst 0, 0, 0, 0, 0, 0, m0)]
theorem oX8_doesCome_43 : okB mX8_doesCome 44 kX8_doesCome_43 43 = true := by decide +kernel
def kX8_doesCome_44 : List mI := [(44, .ireturn, 1, 0, 0, 0, 0, m0)]
theorem oX8_doesCome_44 : okB mX8_doesCome 45 kX8_doesCome_44 44 = true := by decide +kernel
def kX8_prompts_0 : List mI := [(0, .iload_n 1, 0, 0, 0, 0, 0, m0), (1, .iconst 0, 0, 0, 0, 0, 0, m0), (2, .iconst 5, 5, 0, 0, 0, 0, m0), (3, .invokestatic 72, 0, 3, 0, 0, 833, mX8_in), (6, .ifCond .ne 5, 11, 0, 0, 0, 0, m0), (9, .iconst (-1), 1, 1, 0, 0, 0, m0), (10, .ireturn, 0, 0, 0, 0, 0, m0)]
theorem oX8_prompts_0 : okB mX8_prompts 11 kX8_prompts_0 0 = true := by decide +kernel
def kX8_prompts_11 : List mI := [(11, .aload_n 0, 0, 0, 0, 0, 0, m0), (12, .invokevirtual 154, 8, 0, 0, 0, 919, mX8_know), (15, .iconst 0, 0, 0, 0, 0, 0, m0), (16, .istore_n 2, 0, 0, 0, 0, 0, m0), (17, .iconst 0, 0, 0, 0, 0, 0, m0), (18, .istore_n 3, 0, 0, 0, 0, 0, m0)]
theorem oX8_prompts_11 : okB mX8_prompts 19 kX8_prompts_11 11 = true := by decide +kernel
def kX8_prompts_19 : List mI := [(19, .iload_n 3, 0, 0, 0, 0, 0, m0), (20, .aload_n 0, 0, 0, 0, 0, 0, m0), (21, .getfield 20, 8, 4, 0, 0, 744, m0), (24, .iconst 0, 0, 0, 0, 0, 0, m0), (25, .iaload, 0, 0, 0, 0, 0, m0), (26, .if_icmp .ge 30, 56, 0, 0, 0, 0, m0), (29, .aload_n 0, 0, 0, 0, 0, 0, m0), (30, .iload_n 3, 0, 0, 0, 0, 0, m0), (31, .iload_n 1, 0, 0, 0, 0, 0, m0), (32, .invokevirtual 157, 8, 2, 0, 0, 923, mX8_doesCome), (35, .ifCond .eq 15, 50, 0, 0, 0, 0, m0), (38, .aload_n 0, 0, 0, 0, 0, 0, m0), (39, .getfield 44, 8, 18, 0, 0, 758, m0), (42, .iconst 0, 0, 0, 0, 0, 0, m0), (43, .iload_n 3, 0, 0, 0, 0, 0, m0), (44, .iadd, 0, 0, 0, 0, 0, m0), (45, .iconst 1, 1, 0, 0, 0, 0, m0), (46, .iastore, 0, 0, 0, 0, 0, m0), (47, .iinc 2 1, 1, 0, 0, 0, 0, m0)]
theorem oX8_prompts_19 : okB mX8_prompts 50 kX8_prompts_19 19 = true := by decide +kernel
def kX8_prompts_50 : List mI := [(50, .iinc 3 1, 1, 0, 0, 0, 0, m0), (53, .goto (-34), 19, 0, 0, 0, 0, m0)]
theorem oX8_prompts_50 : okB mX8_prompts 56 kX8_prompts_50 50 = true := by decide +kernel
def kX8_prompts_56 : List mI := [(56, .iload_n 2, 0, 0, 0, 0, 0, m0), (57, .ireturn, 0, 0, 0, 0, 0, m0)]
theorem oX8_prompts_56 : okB mX8_prompts 58 kX8_prompts_56 56 = true := by decide +kernel
def kX8_forOf_0 : List mI := [(0, .iconst 0, 0, 0, 0, 0, 0, m0), (1, .istore_n 2, 0, 0, 0, 0, 0, m0), (2, .iconst 0, 0, 0, 0, 0, 0, m0), (3, .istore_n 3, 0, 0, 0, 0, 0, m0)]
theorem oX8_forOf_0 : okB mX8_forOf 4 kX8_forOf_0 0 = true := by decide +kernel
def kX8_forOf_4 : List mI := [(4, .iload_n 3, 0, 0, 0, 0, 0, m0), (5, .aload_n 0, 0, 0, 0, 0, 0, m0), (6, .getfield 32, 8, 8, 0, 0, 748, m0), (9, .iconst 0, 0, 0, 0, 0, 0, m0), (10, .iaload, 0, 0, 0, 0, 0, m0), (11, .if_icmp .ge 35, 46, 0, 0, 0, 0, m0), (14, .iload_n 2, 0, 0, 0, 0, 0, m0), (15, .aload_n 0, 0, 0, 0, 0, 0, m0), (16, .getfield 35, 8, 9, 0, 0, 749, m0), (19, .iload_n 3, 0, 0, 0, 0, 0, m0), (20, .iaload, 0, 0, 0, 0, 0, m0), (21, .aload_n 0, 0, 0, 0, 0, 0, m0), (22, .getfield 44, 8, 18, 0, 0, 758, m0), (25, .bipush 10, 10, 0, 0, 0, 0, m0), (27, .iload_n 1, 0, 0, 0, 0, 0, m0), (28, .iadd, 0, 0, 0, 0, 0, m0), (29, .iaload, 0, 0, 0, 0, 0, m0), (30, .if_icmp .gt 7, 37, 0, 0, 0, 0, m0), (33, .iconst 1, 1, 0, 0, 0, 0, m0), (34, .goto 4, 38, 0, 0, 0, 0, m0)]
theorem oX8_forOf_4 : okB mX8_forOf 37 kX8_forOf_4 4 = true := by decide +kernel
def kX8_forOf_37 : List mI := [(37, .iconst 0, 0, 0, 0, 0, 0, m0)]
theorem oX8_forOf_37 : okB mX8_forOf 38 kX8_forOf_37 37 = true := by decide +kernel
def kX8_forOf_38 : List mI := [(38, .iadd, 0, 0, 0, 0, 0, m0), (39, .istore_n 2, 0, 0, 0, 0, 0, m0), (40, .iinc 3 1, 1, 0, 0, 0, 0, m0), (43, .goto (-39), 4, 0, 0, 0, 0, m0)]
theorem oX8_forOf_38 : okB mX8_forOf 46 kX8_forOf_38 38 = true := by decide +kernel
def kX8_forOf_46 : List mI := [(46, .iload_n 2, 0, 0, 0, 0, 0, m0), (47, .ireturn, 0, 0, 0, 0, 0, m0)]
theorem oX8_forOf_46 : okB mX8_forOf 48 kX8_forOf_46 46 = true := by decide +kernel
def kX8_isHeldBy_0 : List mI := [(0, .aload_n 0, 0, 0, 0, 0, 0, m0), (1, .getfield 32, 8, 8, 0, 0, 748, m0), (4, .iconst 0, 0, 0, 0, 0, 0, m0), (5, .iaload, 0, 0, 0, 0, 0, m0), (6, .ifCond .eq 15, 21, 0, 0, 0, 0, m0), (9, .iload_n 1, 0, 0, 0, 0, 0, m0), (10, .aload_n 0, 0, 0, 0, 0, 0, m0), (11, .getfield 32, 8, 8, 0, 0, 748, m0), (14, .iconst 0, 0, 0, 0, 0, 0, m0), (15, .iaload, 0, 0, 0, 0, 0, m0), (16, .iload_n 1, 0, 0, 0, 0, 0, m0), (17, .isub, 0, 0, 0, 0, 0, m0), (18, .if_icmp .le 7, 25, 0, 0, 0, 0, m0)]
theorem oX8_isHeldBy_0 : okB mX8_isHeldBy 21 kX8_isHeldBy_0 0 = true := by decide +kernel
def kX8_isHeldBy_21 : List mI := [(21, .iconst 1, 1, 0, 0, 0, 0, m0), (22, .goto 4, 26, 0, 0, 0, 0, m0)]
theorem oX8_isHeldBy_21 : okB mX8_isHeldBy 25 kX8_isHeldBy_21 21 = true := by decide +kernel
def kX8_isHeldBy_25 : List mI := [(25, .iconst 0, 0, 0, 0, 0, 0, m0)]
theorem oX8_isHeldBy_25 : okB mX8_isHeldBy 26 kX8_isHeldBy_25 25 = true := by decide +kernel
def kX8_isHeldBy_26 : List mI := [(26, .ireturn, 1, 0, 0, 0, 0, m0)]
theorem oX8_isHeldBy_26 : okB mX8_isHeldBy 27 kX8_isHeldBy_26 26 = true := by decide +kernel
def kX8_reads_0 : List mI := [(0, .aload_n 0, 0, 0, 0, 0, 0, m0), (1, .iload_n 1, 0, 0, 0, 0, 0, m0), (2, .invokevirtual 138, 8, 1, 0, 0, 880, mX8_isBrick), (5, .ifCond .ne 5, 10, 0, 0, 0, 0, m0), (8, .iconst (-1), 1, 1, 0, 0, 0, m0), (9, .ireturn, 0, 0, 0, 0, 0, m0)]
theorem oX8_reads_0 : okB mX8_reads 10 kX8_reads_0 0 = true := by decide +kernel
def kX8_reads_10 : List mI := [(10, .aload_n 0, 0, 0, 0, 0, 0, m0), (11, .getfield 44, 8, 18, 0, 0, 758, m0), (14, .iconst 0, 0, 0, 0, 0, 0, m0), (15, .iload_n 1, 0, 0, 0, 0, 0, m0), (16, .iadd, 0, 0, 0, 0, 0, m0), (17, .iaload, 0, 0, 0, 0, 0, m0), (18, .iconst 1, 1, 0, 0, 0, 0, m0), (19, .if_icmp .eq 6, 25, 0, 0, 0, 0, m0), (22, .bipush (-2), 2, 1, 0, 0, 0, m0), (24, .ireturn, 0, 0, 0, 0, 0, m0)]
theorem oX8_reads_10 : okB mX8_reads 25 kX8_reads_10 10 = true := by decide +kernel
def kX8_reads_25 : List mI := [(25, .aload_n 0, 0, 0, 0, 0, 0, m0), (26, .invokevirtual 154, 8, 0, 0, 0, 919, mX8_know), (29, .aload_n 0, 0, 0, 0, 0, 0, m0), (30, .getfield 44, 8, 18, 0, 0, 758, m0), (33, .iconst 0, 0, 0, 0, 0, 0, m0), (34, .iload_n 1, 0, 0, 0, 0, 0, m0), (35, .iadd, 0, 0, 0, 0, 0, m0), (36, .aload_n 0, 0, 0, 0, 0, 0, m0), (37, .aload_n 0, 0, 0, 0, 0, 0, m0), (38, .iload_n 1, 0, 0, 0, 0, 0, m0), (39, .invokevirtual 160, 8, 1, 0, 0, 934, mX8_forOf), (42, .invokevirtual 163, 8, 1, 0, 0, 938, mX8_isHeldBy), (45, .ifCond .eq 7, 52, 0, 0, 0, 0, m0), (48, .iconst 2, 2, 0, 0, 0, 0, m0), (49, .goto 4, 53, 0, 0, 0, 0, m0)]
theorem oX8_reads_25 : okB mX8_reads 52 kX8_reads_25 25 = true := by decide +kernel
def kX8_reads_52 : List mI := [(52, .iconst 3, 3, 0, 0, 0, 0, m0)]
theorem oX8_reads_52 : okB mX8_reads 53 kX8_reads_52 52 = true := by decide +kernel
def kX8_reads_53 : List mI := [(53, .iastore, 0, 0, 0, 0, 0, m0), (54, .aload_n 0, 0, 0, 0, 0, 0, m0), (55, .getfield 44, 8, 18, 0, 0, 758, m0), (58, .iconst 0, 0, 0, 0, 0, 0, m0), (59, .iload_n 1, 0, 0, 0, 0, 0, m0), (60, .iadd, 0, 0, 0, 0, 0, m0), (61, .iaload, 0, 0, 0, 0, 0, m0), (62, .ireturn, 0, 0, 0, 0, 0, m0)]
theorem oX8_reads_53 : okB mX8_reads 63 kX8_reads_53 53 = true := by decide +kernel
def kX8_writes_0 : List mI := [(0, .aload_n 0, 0, 0, 0, 0, 0, m0), (1, .iload_n 1, 0, 0, 0, 0, 0, m0), (2, .invokevirtual 138, 8, 1, 0, 0, 880, mX8_isBrick), (5, .ifCond .eq 13, 18, 0, 0, 0, 0, m0), (8, .iload_n 2, 0, 0, 0, 0, 0, m0), (9, .iconst 0, 0, 0, 0, 0, 0, m0), (10, .bipush 30, 30, 0, 0, 0, 0, m0), (12, .invokestatic 72, 0, 3, 0, 0, 833, mX8_in), (15, .ifCond .ne 5, 20, 0, 0, 0, 0, m0)]
theorem oX8_writes_0 : okB mX8_writes 18 kX8_writes_0 0 = true := by decide +kernel
def kX8_writes_18 : List mI := [(18, .iconst (-1), 1, 1, 0, 0, 0, m0), (19, .ireturn, 0, 0, 0, 0, 0, m0)]
theorem oX8_writes_18 : okB mX8_writes 20 kX8_writes_18 18 = true := by decide +kernel
def kX8_writes_20 : List mI := [(20, .aload_n 0, 0, 0, 0, 0, 0, m0), (21, .getfield 44, 8, 18, 0, 0, 758, m0), (24, .iconst 0, 0, 0, 0, 0, 0, m0), (25, .iload_n 1, 0, 0, 0, 0, 0, m0), (26, .iadd, 0, 0, 0, 0, 0, m0), (27, .iaload, 0, 0, 0, 0, 0, m0), (28, .iconst 3, 3, 0, 0, 0, 0, m0), (29, .if_icmp .eq 6, 35, 0, 0, 0, 0, m0), (32, .bipush (-2), 2, 1, 0, 0, 0, m0), (34, .ireturn, 0, 0, 0, 0, 0, m0)]
theorem oX8_writes_20 : okB mX8_writes 35 kX8_writes_20 20 = true := by decide +kernel
def kX8_writes_35 : List mI := [(35, .aload_n 0, 0, 0, 0, 0, 0, m0), (36, .invokevirtual 154, 8, 0, 0, 0, 919, mX8_know), (39, .aload_n 0, 0, 0, 0, 0, 0, m0), (40, .getfield 44, 8, 18, 0, 0, 758, m0), (43, .bipush 10, 10, 0, 0, 0, 0, m0), (45, .iload_n 1, 0, 0, 0, 0, 0, m0), (46, .iadd, 0, 0, 0, 0, 0, m0), (47, .iaload, 0, 0, 0, 0, 0, m0), (48, .istore_n 3, 0, 0, 0, 0, 0, m0), (49, .aload_n 0, 0, 0, 0, 0, 0, m0), (50, .getfield 44, 8, 18, 0, 0, 758, m0), (53, .bipush 10, 10, 0, 0, 0, 0, m0), (55, .iload_n 1, 0, 0, 0, 0, 0, m0), (56, .iadd, 0, 0, 0, 0, 0, m0), (57, .iload_n 2, 0, 0, 0, 0, 0, m0), (58, .iastore, 0, 0, 0, 0, 0, m0), (59, .aload_n 0, 0, 0, 0, 0, 0, m0), (60, .getfield 44, 8, 18, 0, 0, 758, m0), (63, .iconst 0, 0, 0, 0, 0, 0, m0), (64, .iload_n 1, 0, 0, 0, 0, 0, m0), (65, .iadd, 0, 0, 0, 0, 0, m0), (66, .iconst 1, 1, 0, 0, 0, 0, m0), (67, .iastore, 0, 0, 0, 0, 0, m0), (68, .iload_n 3, 0, 0, 0, 0, 0, m0), (69, .ireturn, 0, 0, 0, 0, 0, m0)]
theorem oX8_writes_35 : okB mX8_writes 70 kX8_writes_35 35 = true := by decide +kernel
def kX8_lays_0 : List mI := [(0, .aload_n 0, 0, 0, 0, 0, 0, m0), (1, .iload_n 1, 0, 0, 0, 0, 0, m0), (2, .invokevirtual 138, 8, 1, 0, 0, 880, mX8_isBrick), (5, .ifCond .eq 11, 16, 0, 0, 0, 0, m0), (8, .aload_n 0, 0, 0, 0, 0, 0, m0), (9, .iload_n 2, 0, 0, 0, 0, 0, m0), (10, .invokevirtual 145, 8, 1, 0, 0, 899, mX8_isColumn), (13, .ifCond .ne 5, 18, 0, 0, 0, 0, m0)]
theorem oX8_lays_0 : okB mX8_lays 16 kX8_lays_0 0 = true := by decide +kernel
def kX8_lays_16 : List mI := [(16, .iconst (-1), 1, 1, 0, 0, 0, m0), (17, .ireturn, 0, 0, 0, 0, 0, m0)]
theorem oX8_lays_16 : okB mX8_lays 18 kX8_lays_16 16 = true := by decide +kernel
def kX8_lays_18 : List mI := [(18, .aload_n 0, 0, 0, 0, 0, 0, m0), (19, .getfield 44, 8, 18, 0, 0, 758, m0), (22, .iconst 0, 0, 0, 0, 0, 0, m0), (23, .iload_n 1, 0, 0, 0, 0, 0, m0), (24, .iadd, 0, 0, 0, 0, 0, m0), (25, .iaload, 0, 0, 0, 0, 0, m0), (26, .iconst 2, 2, 0, 0, 0, 0, m0), (27, .if_icmp .ne 12, 39, 0, 0, 0, 0, m0), (30, .aload_n 0, 0, 0, 0, 0, 0, m0), (31, .iload_n 1, 0, 0, 0, 0, 0, m0), (32, .iload_n 2, 0, 0, 0, 0, 0, m0), (33, .invokevirtual 141, 8, 2, 0, 0, 884, mX8_doesFit), (36, .ifCond .ne 6, 42, 0, 0, 0, 0, m0)]
theorem oX8_lays_18 : okB mX8_lays 39 kX8_lays_18 18 = true := by decide +kernel
def kX8_lays_39 : List mI := [(39, .bipush (-2), 2, 1, 0, 0, 0, m0), (41, .ireturn, 0, 0, 0, 0, 0, m0)]
theorem oX8_lays_39 : okB mX8_lays 42 kX8_lays_39 39 = true := by decide +kernel
def kX8_lays_42 : List mI := [(42, .aload_n 0, 0, 0, 0, 0, 0, m0), (43, .invokevirtual 154, 8, 0, 0, 0, 919, mX8_know), (46, .aload_n 0, 0, 0, 0, 0, 0, m0), (47, .iload_n 2, 0, 0, 0, 0, 0, m0), (48, .invokevirtual 131, 8, 1, 0, 0, 888, mX8_heightOf), (51, .istore_n 3, 0, 0, 0, 0, 0, m0), (52, .aload_n 0, 0, 0, 0, 0, 0, m0), (53, .getfield 44, 8, 18, 0, 0, 758, m0), (56, .bipush 20, 20, 0, 0, 0, 0, m0), (58, .iconst 4, 4, 0, 0, 0, 0, m0), (59, .iload_n 2, 0, 0, 0, 0, 0, m0), (60, .imul, 0, 0, 0, 0, 0, m0), (61, .iadd, 0, 0, 0, 0, 0, m0), (62, .iload_n 3, 0, 0, 0, 0, 0, m0), (63, .iadd, 0, 0, 0, 0, 0, m0), (64, .iload_n 1, 0, 0, 0, 0, 0, m0), (65, .iconst 1, 1, 0, 0, 0, 0, m0), (66, .iadd, 0, 0, 0, 0, 0, m0), (67, .iastore, 0, 0, 0, 0, 0, m0), (68, .aload_n 0, 0, 0, 0, 0, 0, m0), (69, .getfield 44, 8, 18, 0, 0, 758, m0), (72, .iconst 0, 0, 0, 0, 0, 0, m0), (73, .iload_n 1, 0, 0, 0, 0, 0, m0), (74, .iadd, 0, 0, 0, 0, 0, m0), (75, .iconst 4, 4, 0, 0, 0, 0, m0), (76, .iastore, 0, 0, 0, 0, 0, m0), (77, .iload_n 3, 0, 0, 0, 0, 0, m0), (78, .iconst 1, 1, 0, 0, 0, 0, m0), (79, .iadd, 0, 0, 0, 0, 0, m0), (80, .ireturn, 0, 0, 0, 0, 0, m0)]
theorem oX8_lays_42 : okB mX8_lays 81 kX8_lays_42 42 = true := by decide +kernel
def kX8_falls_0 : List mI := [(0, .aload_n 0, 0, 0, 0, 0, 0, m0), (1, .iload_n 1, 0, 0, 0, 0, 0, m0), (2, .invokevirtual 145, 8, 1, 0, 0, 899, mX8_isColumn), (5, .ifCond .ne 5, 10, 0, 0, 0, 0, m0), (8, .iconst (-1), 1, 1, 0, 0, 0, m0), (9, .ireturn, 0, 0, 0, 0, 0, m0)]
theorem oX8_falls_0 : okB mX8_falls 10 kX8_falls_0 0 = true := by decide +kernel
def kX8_falls_10 : List mI := [(10, .aload_n 0, 0, 0, 0, 0, 0, m0), (11, .iload_n 1, 0, 0, 0, 0, 0, m0), (12, .invokevirtual 131, 8, 1, 0, 0, 888, mX8_heightOf), (15, .iconst 1, 1, 0, 0, 0, 0, m0), (16, .isub, 0, 0, 0, 0, 0, m0), (17, .istore_n 2, 0, 0, 0, 0, 0, m0), (18, .iload_n 2, 0, 0, 0, 0, 0, m0), (19, .ifCond .ge 6, 25, 0, 0, 0, 0, m0), (22, .bipush (-2), 2, 1, 0, 0, 0, m0), (24, .ireturn, 0, 0, 0, 0, 0, m0)]
theorem oX8_falls_10 : okB mX8_falls 25 kX8_falls_10 10 = true := by decide +kernel
def kX8_falls_25 : List mI := [(25, .aload_n 0, 0, 0, 0, 0, 0, m0), (26, .invokevirtual 154, 8, 0, 0, 0, 919, mX8_know), (29, .aload_n 0, 0, 0, 0, 0, 0, m0), (30, .getfield 44, 8, 18, 0, 0, 758, m0), (33, .bipush 20, 20, 0, 0, 0, 0, m0), (35, .iconst 4, 4, 0, 0, 0, 0, m0), (36, .iload_n 1, 0, 0, 0, 0, 0, m0), (37, .imul, 0, 0, 0, 0, 0, m0), (38, .iadd, 0, 0, 0, 0, 0, m0), (39, .iload_n 2, 0, 0, 0, 0, 0, m0), (40, .iadd, 0, 0, 0, 0, 0, m0), (41, .iaload, 0, 0, 0, 0, 0, m0), (42, .iconst 1, 1, 0, 0, 0, 0, m0), (43, .isub, 0, 0, 0, 0, 0, m0), (44, .istore_n 3, 0, 0, 0, 0, 0, m0), (45, .aload_n 0, 0, 0, 0, 0, 0, m0), (46, .getfield 44, 8, 18, 0, 0, 758, m0), (49, .bipush 20, 20, 0, 0, 0, 0, m0), (51, .iconst 4, 4, 0, 0, 0, 0, m0), (52, .iload_n 1, 0, 0, 0, 0, 0, m0), (53, .imul, 0, 0, 0, 0, 0, m0), (54, .iadd, 0, 0, 0, 0, 0, m0), (55, .iload_n 2, 0, 0, 0, 0, 0, m0), (56, .iadd, 0, 0, 0, 0, 0, m0), (57, .iconst 0, 0, 0, 0, 0, 0, m0), (58, .iastore, 0, 0, 0, 0, 0, m0), (59, .aload_n 0, 0, 0, 0, 0, 0, m0), (60, .getfield 44, 8, 18, 0, 0, 758, m0), (63, .iconst 0, 0, 0, 0, 0, 0, m0), (64, .iload_n 3, 0, 0, 0, 0, 0, m0), (65, .iadd, 0, 0, 0, 0, 0, m0), (66, .iconst 2, 2, 0, 0, 0, 0, m0), (67, .iastore, 0, 0, 0, 0, 0, m0), (68, .iload_n 3, 0, 0, 0, 0, 0, m0), (69, .ireturn, 0, 0, 0, 0, 0, m0)]
theorem oX8_falls_25 : okB mX8_falls 70 kX8_falls_25 25 = true := by decide +kernel
def kX8_undo_0 : List mI := [(0, .aload_n 0, 0, 0, 0, 0, 0, m0), (1, .getfield 47, 8, 19, 0, 0, 759, m0), (4, .iconst 0, 0, 0, 0, 0, 0, m0), (5, .iaload, 0, 0, 0, 0, 0, m0), (6, .ifCond .ne 6, 12, 0, 0, 0, 0, m0), (9, .bipush (-2), 2, 1, 0, 0, 0, m0), (11, .ireturn, 0, 0, 0, 0, 0, m0)]
theorem oX8_undo_0 : okB mX8_undo 12 kX8_undo_0 0 = true := by decide +kernel
def kX8_undo_12 : List mI := [(12, .aload_n 0, 0, 0, 0, 0, 0, m0), (13, .getfield 47, 8, 19, 0, 0, 759, m0), (16, .iconst 0, 0, 0, 0, 0, 0, m0), (17, .dup2, 0, 0, 0, 0, 0, m0), (18, .iaload, 0, 0, 0, 0, 0, m0), (19, .iconst 1, 1, 0, 0, 0, 0, m0), (20, .isub, 0, 0, 0, 0, 0, m0), (21, .iastore, 0, 0, 0, 0, 0, m0), (22, .iconst 0, 0, 0, 0, 0, 0, m0), (23, .istore_n 1, 0, 0, 0, 0, 0, m0)]
theorem oX8_undo_12 : okB mX8_undo 24 kX8_undo_12 12 = true := by decide +kernel
def kX8_undo_24 : List mI := [(24, .iload_n 1, 0, 0, 0, 0, 0, m0), (25, .bipush 44, 44, 0, 0, 0, 0, m0), (27, .if_icmp .ge 31, 58, 0, 0, 0, 0, m0), (30, .aload_n 0, 0, 0, 0, 0, 0, m0), (31, .getfield 44, 8, 18, 0, 0, 758, m0), (34, .iload_n 1, 0, 0, 0, 0, 0, m0), (35, .aload_n 0, 0, 0, 0, 0, 0, m0), (36, .getfield 50, 8, 20, 0, 0, 760, m0), (39, .bipush 44, 44, 0, 0, 0, 0, m0), (41, .aload_n 0, 0, 0, 0, 0, 0, m0), (42, .getfield 47, 8, 19, 0, 0, 759, m0), (45, .iconst 0, 0, 0, 0, 0, 0, m0), (46, .iaload, 0, 0, 0, 0, 0, m0), (47, .imul, 0, 0, 0, 0, 0, m0), (48, .iload_n 1, 0, 0, 0, 0, 0, m0), (49, .iadd, 0, 0, 0, 0, 0, m0), (50, .iaload, 0, 0, 0, 0, 0, m0), (51, .iastore, 0, 0, 0, 0, 0, m0), (52, .iinc 1 1, 1, 0, 0, 0, 0, m0), (55, .goto (-31), 24, 0, 0, 0, 0, m0)]
theorem oX8_undo_24 : okB mX8_undo 58 kX8_undo_24 24 = true := by decide +kernel
def kX8_undo_58 : List mI := [(58, .aload_n 0, 0, 0, 0, 0, 0, m0), (59, .getfield 47, 8, 19, 0, 0, 759, m0), (62, .iconst 0, 0, 0, 0, 0, 0, m0), (63, .iaload, 0, 0, 0, 0, 0, m0), (64, .ireturn, 0, 0, 0, 0, 0, m0)]
theorem oX8_undo_58 : okB mX8_undo 65 kX8_undo_58 58 = true := by decide +kernel
def kX8_now_0 : List mI := [(0, .iload_n 1, 0, 0, 0, 0, 0, m0), (1, .tableswitch 58 0 5 #[39, 39, 39, 39, 39, 45], 0, 0, 0, 0, 0, m0)]
theorem oX8_now_0 : okB mX8_now 40 kX8_now_0 0 = true := by decide +kernel
def kX8_now_40 : List mI := [(40, .aload_n 0, 0, 0, 0, 0, 0, m0), (41, .iload_n 1, 0, 0, 0, 0, 0, m0), (42, .invokevirtual 166, 8, 1, 0, 0, 962, mX8_manyOf), (45, .ireturn, 0, 0, 0, 0, 0, m0)]
theorem oX8_now_40 : okB mX8_now 46 kX8_now_40 40 = true := by decide +kernel
def kX8_now_46 : List mI := [(46, .aload_n 0, 0, 0, 0, 0, 0, m0), (47, .invokevirtual 169, 8, 0, 0, 0, 966, mX8_countHeld), (50, .aload_n 0, 0, 0, 0, 0, 0, m0), (51, .invokevirtual 172, 8, 0, 0, 0, 970, mX8_tellTakes), (54, .aload_n 0, 0, 0, 0, 0, 0, m0), (55, .invokevirtual 175, 8, 0, 0, 0, 977, mX8_mostOf), (58, .ireturn, 0, 0, 0, 0, 0, m0)]
theorem oX8_now_46 : okB mX8_now 59 kX8_now_46 46 = true := by decide +kernel
def kX8_now_59 : List mI := [(59, .iconst (-1), 1, 1, 0, 0, 0, m0), (60, .ireturn, 0, 0, 0, 0, 0, m0)]
theorem oX8_now_59 : okB mX8_now 61 kX8_now_59 59 = true := by decide +kernel
def kX8_countHeld_0 : List mI := [(0, .iconst 0, 0, 0, 0, 0, 0, m0), (1, .istore_n 1, 0, 0, 0, 0, 0, m0)]
theorem oX8_countHeld_0 : okB mX8_countHeld 2 kX8_countHeld_0 0 = true := by decide +kernel
def kX8_countHeld_2 : List mI := [(2, .iload_n 1, 0, 0, 0, 0, 0, m0), (3, .iconst 3, 3, 0, 0, 0, 0, m0), (4, .if_icmp .ge 16, 20, 0, 0, 0, 0, m0), (7, .aload_n 0, 0, 0, 0, 0, 0, m0), (8, .getfield 60, 8, 23, 0, 0, 763, m0), (11, .iload_n 1, 0, 0, 0, 0, 0, m0), (12, .iconst 0, 0, 0, 0, 0, 0, m0), (13, .iastore, 0, 0, 0, 0, 0, m0), (14, .iinc 1 1, 1, 0, 0, 0, 0, m0), (17, .goto (-15), 2, 0, 0, 0, 0, m0)]
theorem oX8_countHeld_2 : okB mX8_countHeld 20 kX8_countHeld_2 2 = true := by decide +kernel
def kX8_countHeld_20 : List mI := [(20, .iconst 0, 0, 0, 0, 0, 0, m0), (21, .istore_n 1, 0, 0, 0, 0, 0, m0)]
theorem oX8_countHeld_20 : okB mX8_countHeld 22 kX8_countHeld_20 20 = true := by decide +kernel
def kX8_countHeld_22 : List mI := [(22, .iload_n 1, 0, 0, 0, 0, 0, m0), (23, .aload_n 0, 0, 0, 0, 0, 0, m0), (24, .getfield 20, 8, 4, 0, 0, 744, m0), (27, .iconst 0, 0, 0, 0, 0, 0, m0), (28, .iaload, 0, 0, 0, 0, 0, m0), (29, .if_icmp .ge 40, 69, 0, 0, 0, 0, m0), (32, .aload_n 0, 0, 0, 0, 0, 0, m0), (33, .getfield 60, 8, 23, 0, 0, 763, m0), (36, .aload_n 0, 0, 0, 0, 0, 0, m0), (37, .getfield 23, 8, 5, 0, 0, 745, m0), (40, .iload_n 1, 0, 0, 0, 0, 0, m0), (41, .iaload, 0, 0, 0, 0, 0, m0), (42, .dup2, 0, 0, 0, 0, 0, m0), (43, .iaload, 0, 0, 0, 0, 0, m0), (44, .aload_n 0, 0, 0, 0, 0, 0, m0), (45, .getfield 44, 8, 18, 0, 0, 758, m0), (48, .iconst 0, 0, 0, 0, 0, 0, m0), (49, .iload_n 1, 0, 0, 0, 0, 0, m0), (50, .iadd, 0, 0, 0, 0, 0, m0), (51, .iaload, 0, 0, 0, 0, 0, m0), (52, .iconst 2, 2, 0, 0, 0, 0, m0), (53, .if_icmp .ne 7, 60, 0, 0, 0, 0, m0), (56, .iconst 1, 1, 0, 0, 0, 0, m0), (57, .goto 4, 61, 0, 0, 0, 0, m0)]
theorem oX8_countHeld_22 : okB mX8_countHeld 60 kX8_countHeld_22 22 = true := by decide +kernel
def kX8_countHeld_60 : List mI := [(60, .iconst 0, 0, 0, 0, 0, 0, m0)]
theorem oX8_countHeld_60 : okB mX8_countHeld 61 kX8_countHeld_60 60 = true := by decide +kernel
def kX8_countHeld_61 : List mI := [(61, .iadd, 0, 0, 0, 0, 0, m0), (62, .iastore, 0, 0, 0, 0, 0, m0), (63, .iinc 1 1, 1, 0, 0, 0, 0, m0), (66, .goto (-44), 22, 0, 0, 0, 0, m0)]
theorem oX8_countHeld_61 : okB mX8_countHeld 69 kX8_countHeld_61 61 = true := by decide +kernel
def kX8_countHeld_69 : List mI := [(69, .return_, 0, 0, 0, 0, 0, m0)]
theorem oX8_countHeld_69 : okB mX8_countHeld 70 kX8_countHeld_69 69 = true := by decide +kernel
def kX8_placesOf_0 : List mI := [(0, .iconst 0, 0, 0, 0, 0, 0, m0), (1, .istore 4, 0, 0, 0, 0, 0, m0), (3, .iload_n 1, 0, 0, 0, 0, 0, m0), (4, .istore 5, 0, 0, 0, 0, 0, m0)]
theorem oX8_placesOf_0 : okB mX8_placesOf 6 kX8_placesOf_0 0 = true := by decide +kernel
def kX8_placesOf_6 : List mI := [(6, .iload 5, 0, 0, 0, 0, 0, m0), (8, .iload_n 2, 0, 0, 0, 0, 0, m0), (9, .if_icmp .ge 29, 38, 0, 0, 0, 0, m0), (12, .iload 4, 0, 0, 0, 0, 0, m0), (14, .iload_n 0, 0, 0, 0, 0, 0, m0), (15, .iload 5, 0, 0, 0, 0, 0, m0), (17, .invokestatic 135, 0, 2, 0, 0, 892, mX8_shapeOf), (20, .iload_n 3, 0, 0, 0, 0, 0, m0), (21, .if_icmp .ne 7, 28, 0, 0, 0, 0, m0), (24, .iconst 1, 1, 0, 0, 0, 0, m0), (25, .goto 4, 29, 0, 0, 0, 0, m0)]
theorem oX8_placesOf_6 : okB mX8_placesOf 28 kX8_placesOf_6 6 = true := by decide +kernel
def kX8_placesOf_28 : List mI := [(28, .iconst 0, 0, 0, 0, 0, 0, m0)]
theorem oX8_placesOf_28 : okB mX8_placesOf 29 kX8_placesOf_28 28 = true := by decide +kernel
def kX8_placesOf_29 : List mI := [(29, .iadd, 0, 0, 0, 0, 0, m0), (30, .istore 4, 0, 0, 0, 0, 0, m0), (32, .iinc 5 1, 1, 0, 0, 0, 0, m0), (35, .goto (-29), 6, 0, 0, 0, 0, m0)]
theorem oX8_placesOf_29 : okB mX8_placesOf 38 kX8_placesOf_29 29 = true := by decide +kernel
def kX8_placesOf_38 : List mI := [(38, .iload 4, 0, 0, 0, 0, 0, m0), (40, .ireturn, 0, 0, 0, 0, 0, m0)]
theorem oX8_placesOf_38 : okB mX8_placesOf 41 kX8_placesOf_38 38 = true := by decide +kernel
def kX8_tellTakes_0 : List mI := [(0, .iconst 0, 0, 0, 0, 0, 0, m0), (1, .istore_n 1, 0, 0, 0, 0, 0, m0)]
theorem oX8_tellTakes_0 : okB mX8_tellTakes 2 kX8_tellTakes_0 0 = true := by decide +kernel
def kX8_tellTakes_2 : List mI := [(2, .iload_n 1, 0, 0, 0, 0, 0, m0), (3, .sipush 847, 847, 0, 0, 0, 0, m0), (6, .if_icmp .ge 16, 22, 0, 0, 0, 0, m0), (9, .aload_n 0, 0, 0, 0, 0, 0, m0), (10, .getfield 63, 8, 24, 0, 0, 764, m0), (13, .iload_n 1, 0, 0, 0, 0, 0, m0), (14, .iconst 0, 0, 0, 0, 0, 0, m0), (15, .iastore, 0, 0, 0, 0, 0, m0), (16, .iinc 1 1, 1, 0, 0, 0, 0, m0), (19, .goto (-17), 2, 0, 0, 0, 0, m0)]
theorem oX8_tellTakes_2 : okB mX8_tellTakes 22 kX8_tellTakes_2 2 = true := by decide +kernel
def kX8_tellTakes_22 : List mI := [(22, .aload_n 0, 0, 0, 0, 0, 0, m0), (23, .getfield 63, 8, 24, 0, 0, 764, m0), (26, .bipush 121, 121, 0, 0, 0, 0, m0), (28, .aload_n 0, 0, 0, 0, 0, 0, m0), (29, .getfield 13, 8, 2, 0, 0, 742, m0), (32, .iconst 0, 0, 0, 0, 0, 0, m0), (33, .iaload, 0, 0, 0, 0, 0, m0), (34, .imul, 0, 0, 0, 0, 0, m0), (35, .iconst 1, 1, 0, 0, 0, 0, m0), (36, .iastore, 0, 0, 0, 0, 0, m0), (37, .aload_n 0, 0, 0, 0, 0, 0, m0), (38, .getfield 13, 8, 2, 0, 0, 742, m0), (41, .iconst 0, 0, 0, 0, 0, 0, m0), (42, .iaload, 0, 0, 0, 0, 0, m0), (43, .iconst 1, 1, 0, 0, 0, 0, m0), (44, .isub, 0, 0, 0, 0, 0, m0), (45, .istore_n 1, 0, 0, 0, 0, 0, m0)]
theorem oX8_tellTakes_22 : okB mX8_tellTakes 46 kX8_tellTakes_22 22 = true := by decide +kernel
def kX8_tellTakes_46 : List mI := [(46, .iload_n 1, 0, 0, 0, 0, 0, m0), (47, .ifCond .lt 144, 191, 0, 0, 0, 0, m0), (50, .aload_n 0, 0, 0, 0, 0, 0, m0), (51, .iload_n 1, 0, 0, 0, 0, 0, m0), (52, .invokevirtual 131, 8, 1, 0, 0, 888, mX8_heightOf), (55, .istore_n 2, 0, 0, 0, 0, 0, m0), (56, .iload_n 2, 0, 0, 0, 0, 0, m0), (57, .istore_n 3, 0, 0, 0, 0, 0, m0)]
theorem oX8_tellTakes_46 : okB mX8_tellTakes 58 kX8_tellTakes_46 46 = true := by decide +kernel
def kX8_tellTakes_58 : List mI := [(58, .iload_n 3, 0, 0, 0, 0, 0, m0), (59, .aload_n 0, 0, 0, 0, 0, 0, m0), (60, .getfield 13, 8, 2, 0, 0, 742, m0), (63, .iconst 1, 1, 0, 0, 0, 0, m0), (64, .iaload, 0, 0, 0, 0, 0, m0), (65, .if_icmp .gt 120, 185, 0, 0, 0, 0, m0), (68, .iload_n 1, 0, 0, 0, 0, 0, m0), (69, .iload_n 2, 0, 0, 0, 0, 0, m0), (70, .iload_n 3, 0, 0, 0, 0, 0, m0), (71, .iconst 0, 0, 0, 0, 0, 0, m0), (72, .invokestatic 178, 0, 4, 0, 0, 974, mX8_placesOf), (75, .istore 4, 0, 0, 0, 0, 0, m0), (77, .iload_n 1, 0, 0, 0, 0, 0, m0), (78, .iload_n 2, 0, 0, 0, 0, 0, m0), (79, .iload_n 3, 0, 0, 0, 0, 0, m0), (80, .iconst 1, 1, 0, 0, 0, 0, m0), (81, .invokestatic 178, 0, 4, 0, 0, 974, mX8_placesOf), (84, .istore 5, 0, 0, 0, 0, 0, m0), (86, .iload_n 1, 0, 0, 0, 0, 0, m0), (87, .iload_n 2, 0, 0, 0, 0, 0, m0), (88, .iload_n 3, 0, 0, 0, 0, 0, m0), (89, .iconst 2, 2, 0, 0, 0, 0, m0), (90, .invokestatic 178, 0, 4, 0, 0, 974, mX8_placesOf), (93, .istore 6, 0, 0, 0, 0, 0, m0), (95, .iload 4, 0, 0, 0, 0, 0, m0), (97, .istore 7, 0, 0, 0, 0, 0, m0)]
theorem oX8_tellTakes_58 : okB mX8_tellTakes 99 kX8_tellTakes_58 58 = true := by decide +kernel
def kX8_tellTakes_99 : List mI := [(99, .iload 7, 0, 0, 0, 0, 0, m0), (101, .bipush 11, 11, 0, 0, 0, 0, m0), (103, .if_icmp .ge 76, 179, 0, 0, 0, 0, m0), (106, .iload 5, 0, 0, 0, 0, 0, m0), (108, .istore 8, 0, 0, 0, 0, 0, m0)]
theorem oX8_tellTakes_99 : okB mX8_tellTakes 110 kX8_tellTakes_99 99 = true := by decide +kernel
def kX8_tellTakes_110 : List mI := [(110, .iload 8, 0, 0, 0, 0, 0, m0), (112, .bipush 11, 11, 0, 0, 0, 0, m0), (114, .if_icmp .ge 59, 173, 0, 0, 0, 0, m0), (117, .aload_n 0, 0, 0, 0, 0, 0, m0), (118, .getfield 63, 8, 24, 0, 0, 764, m0), (121, .bipush 121, 121, 0, 0, 0, 0, m0), (123, .iload_n 1, 0, 0, 0, 0, 0, m0), (124, .imul, 0, 0, 0, 0, 0, m0), (125, .bipush 11, 11, 0, 0, 0, 0, m0), (127, .iload 7, 0, 0, 0, 0, 0, m0), (129, .imul, 0, 0, 0, 0, 0, m0), (130, .iadd, 0, 0, 0, 0, 0, m0), (131, .iload 8, 0, 0, 0, 0, 0, m0), (133, .iadd, 0, 0, 0, 0, 0, m0), (134, .dup2, 0, 0, 0, 0, 0, m0), (135, .iaload, 0, 0, 0, 0, 0, m0), (136, .aload_n 0, 0, 0, 0, 0, 0, m0), (137, .getfield 63, 8, 24, 0, 0, 764, m0), (140, .bipush 121, 121, 0, 0, 0, 0, m0), (142, .iload_n 1, 0, 0, 0, 0, 0, m0), (143, .iconst 1, 1, 0, 0, 0, 0, m0), (144, .iadd, 0, 0, 0, 0, 0, m0), (145, .imul, 0, 0, 0, 0, 0, m0), (146, .bipush 11, 11, 0, 0, 0, 0, m0), (148, .iload 7, 0, 0, 0, 0, 0, m0), (150, .iload 4, 0, 0, 0, 0, 0, m0), (152, .isub, 0, 0, 0, 0, 0, m0), (153, .imul, 0, 0, 0, 0, 0, m0), (154, .iadd, 0, 0, 0, 0, 0, m0), (155, .iload 8, 0, 0, 0, 0, 0, m0), (157, .iadd, 0, 0, 0, 0, 0, m0), (158, .iload 5, 0, 0, 0, 0, 0, m0), (160, .isub, 0, 0, 0, 0, 0, m0), (161, .iaload, 0, 0, 0, 0, 0, m0), (162, .iload 6, 0, 0, 0, 0, 0, m0), (164, .ishl, 0, 0, 0, 0, 0, m0), (165, .ior, 0, 0, 0, 0, 0, m0), (166, .iastore, 0, 0, 0, 0, 0, m0), (167, .iinc 8 1, 1, 0, 0, 0, 0, m0), (170, .goto (-60), 110, 0, 0, 0, 0, m0)]
theorem oX8_tellTakes_110 : okB mX8_tellTakes 173 kX8_tellTakes_110 110 = true := by decide +kernel
def kX8_tellTakes_173 : List mI := [(173, .iinc 7 1, 1, 0, 0, 0, 0, m0), (176, .goto (-77), 99, 0, 0, 0, 0, m0)]
theorem oX8_tellTakes_173 : okB mX8_tellTakes 179 kX8_tellTakes_173 173 = true := by decide +kernel
def kX8_tellTakes_179 : List mI := [(179, .iinc 3 1, 1, 0, 0, 0, 0, m0), (182, .goto (-124), 58, 0, 0, 0, 0, m0)]
theorem oX8_tellTakes_179 : okB mX8_tellTakes 185 kX8_tellTakes_179 179 = true := by decide +kernel
def kX8_tellTakes_185 : List mI := [(185, .iinc 1 (-1), 1, 1, 0, 0, 0, m0), (188, .goto (-142), 46, 0, 0, 0, 0, m0)]
theorem oX8_tellTakes_185 : okB mX8_tellTakes 191 kX8_tellTakes_185 185 = true := by decide +kernel
def kX8_tellTakes_191 : List mI := [(191, .return_, 0, 0, 0, 0, 0, m0)]
theorem oX8_tellTakes_191 : okB mX8_tellTakes 192 kX8_tellTakes_191 191 = true := by decide +kernel
def kX8_mostFrom_0 : List mI := [(0, .iconst 0, 0, 0, 0, 0, 0, m0), (1, .istore 5, 0, 0, 0, 0, 0, m0), (3, .iconst 0, 0, 0, 0, 0, 0, m0), (4, .istore 6, 0, 0, 0, 0, 0, m0)]
theorem oX8_mostFrom_0 : okB mX8_mostFrom 6 kX8_mostFrom_0 0 = true := by decide +kernel
def kX8_mostFrom_6 : List mI := [(6, .iload 6, 0, 0, 0, 0, 0, m0), (8, .iload_n 2, 0, 0, 0, 0, 0, m0), (9, .if_icmp .gt 98, 107, 0, 0, 0, 0, m0), (12, .iconst 0, 0, 0, 0, 0, 0, m0), (13, .istore 7, 0, 0, 0, 0, 0, m0)]
theorem oX8_mostFrom_6 : okB mX8_mostFrom 15 kX8_mostFrom_6 6 = true := by decide +kernel
def kX8_mostFrom_15 : List mI := [(15, .iload 7, 0, 0, 0, 0, 0, m0), (17, .iload_n 3, 0, 0, 0, 0, 0, m0), (18, .if_icmp .gt 83, 101, 0, 0, 0, 0, m0), (21, .iconst 0, 0, 0, 0, 0, 0, m0), (22, .istore 8, 0, 0, 0, 0, 0, m0)]
theorem oX8_mostFrom_15 : okB mX8_mostFrom 24 kX8_mostFrom_15 15 = true := by decide +kernel
def kX8_mostFrom_24 : List mI := [(24, .iload 8, 0, 0, 0, 0, 0, m0), (26, .iload 4, 0, 0, 0, 0, 0, m0), (28, .if_icmp .gt 67, 95, 0, 0, 0, 0, m0), (31, .aload_n 0, 0, 0, 0, 0, 0, m0), (32, .getfield 63, 8, 24, 0, 0, 764, m0), (35, .bipush 121, 121, 0, 0, 0, 0, m0), (37, .iload_n 1, 0, 0, 0, 0, 0, m0), (38, .imul, 0, 0, 0, 0, 0, m0), (39, .bipush 11, 11, 0, 0, 0, 0, m0), (41, .iload 6, 0, 0, 0, 0, 0, m0), (43, .imul, 0, 0, 0, 0, 0, m0), (44, .iadd, 0, 0, 0, 0, 0, m0), (45, .iload 7, 0, 0, 0, 0, 0, m0), (47, .iadd, 0, 0, 0, 0, 0, m0), (48, .iaload, 0, 0, 0, 0, 0, m0), (49, .iload 8, 0, 0, 0, 0, 0, m0), (51, .invokestatic 151, 0, 2, 0, 0, 927, mX8_has), (54, .istore 9, 0, 0, 0, 0, 0, m0), (56, .iload 9, 0, 0, 0, 0, 0, m0), (58, .ifCond .eq 27, 85, 0, 0, 0, 0, m0), (61, .iload 6, 0, 0, 0, 0, 0, m0), (63, .iload 7, 0, 0, 0, 0, 0, m0), (65, .iadd, 0, 0, 0, 0, 0, m0), (66, .iload 8, 0, 0, 0, 0, 0, m0), (68, .iadd, 0, 0, 0, 0, 0, m0), (69, .iload 5, 0, 0, 0, 0, 0, m0), (71, .if_icmp .le 14, 85, 0, 0, 0, 0, m0), (74, .iload 6, 0, 0, 0, 0, 0, m0), (76, .iload 7, 0, 0, 0, 0, 0, m0), (78, .iadd, 0, 0, 0, 0, 0, m0), (79, .iload 8, 0, 0, 0, 0, 0, m0), (81, .iadd, 0, 0, 0, 0, 0, m0), (82, .goto 5, 87, 0, 0, 0, 0, m0)]
theorem oX8_mostFrom_24 : okB mX8_mostFrom 85 kX8_mostFrom_24 24 = true := by decide +kernel
def kX8_mostFrom_85 : List mI := [(85, .iload 5, 0, 0, 0, 0, 0, m0)]
theorem oX8_mostFrom_85 : okB mX8_mostFrom 87 kX8_mostFrom_85 85 = true := by decide +kernel
def kX8_mostFrom_87 : List mI := [(87, .istore 5, 0, 0, 0, 0, 0, m0), (89, .iinc 8 1, 1, 0, 0, 0, 0, m0), (92, .goto (-68), 24, 0, 0, 0, 0, m0)]
theorem oX8_mostFrom_87 : okB mX8_mostFrom 95 kX8_mostFrom_87 87 = true := by decide +kernel
def kX8_mostFrom_95 : List mI := [(95, .iinc 7 1, 1, 0, 0, 0, 0, m0), (98, .goto (-83), 15, 0, 0, 0, 0, m0)]
theorem oX8_mostFrom_95 : okB mX8_mostFrom 101 kX8_mostFrom_95 95 = true := by decide +kernel
def kX8_mostFrom_101 : List mI := [(101, .iinc 6 1, 1, 0, 0, 0, 0, m0), (104, .goto (-98), 6, 0, 0, 0, 0, m0)]
theorem oX8_mostFrom_101 : okB mX8_mostFrom 107 kX8_mostFrom_101 101 = true := by decide +kernel
def kX8_mostFrom_107 : List mI := [(107, .iload 5, 0, 0, 0, 0, 0, m0), (109, .ireturn, 0, 0, 0, 0, 0, m0)]
theorem oX8_mostFrom_107 : okB mX8_mostFrom 110 kX8_mostFrom_107 107 = true := by decide +kernel
def kX8_mostOf_0 : List mI := [(0, .aload_n 0, 0, 0, 0, 0, 0, m0), (1, .iconst 0, 0, 0, 0, 0, 0, m0), (2, .aload_n 0, 0, 0, 0, 0, 0, m0), (3, .getfield 60, 8, 23, 0, 0, 763, m0), (6, .iconst 0, 0, 0, 0, 0, 0, m0), (7, .iaload, 0, 0, 0, 0, 0, m0), (8, .aload_n 0, 0, 0, 0, 0, 0, m0), (9, .getfield 60, 8, 23, 0, 0, 763, m0), (12, .iconst 1, 1, 0, 0, 0, 0, m0), (13, .iaload, 0, 0, 0, 0, 0, m0), (14, .aload_n 0, 0, 0, 0, 0, 0, m0), (15, .getfield 60, 8, 23, 0, 0, 763, m0), (18, .iconst 2, 2, 0, 0, 0, 0, m0), (19, .iaload, 0, 0, 0, 0, 0, m0), (20, .invokevirtual 182, 8, 4, 0, 0, 981, mX8_mostFrom), (23, .ireturn, 0, 0, 0, 0, 0, m0)]
theorem oX8_mostOf_0 : okB mX8_mostOf 24 kX8_mostOf_0 0 = true := by decide +kernel
def kX8_wall_0 : List mI := [(0, .aload_n 0, 0, 0, 0, 0, 0, m0), (1, .iload_n 1, 0, 0, 0, 0, 0, m0), (2, .invokevirtual 145, 8, 1, 0, 0, 899, mX8_isColumn), (5, .ifCond .ne 5, 10, 0, 0, 0, 0, m0), (8, .iconst (-1), 1, 1, 0, 0, 0, m0), (9, .ireturn, 0, 0, 0, 0, 0, m0)]
theorem oX8_wall_0 : okB mX8_wall 10 kX8_wall_0 0 = true := by decide +kernel
def kX8_wall_10 : List mI := [(10, .aload_n 0, 0, 0, 0, 0, 0, m0), (11, .invokevirtual 169, 8, 0, 0, 0, 966, mX8_countHeld), (14, .aload_n 0, 0, 0, 0, 0, 0, m0), (15, .invokevirtual 172, 8, 0, 0, 0, 970, mX8_tellTakes), (18, .aload_n 0, 0, 0, 0, 0, 0, m0), (19, .invokevirtual 175, 8, 0, 0, 0, 977, mX8_mostOf), (22, .istore_n 2, 0, 0, 0, 0, 0, m0), (23, .iconst 0, 0, 0, 0, 0, 0, m0), (24, .istore_n 3, 0, 0, 0, 0, 0, m0), (25, .iconst 0, 0, 0, 0, 0, 0, m0), (26, .istore 4, 0, 0, 0, 0, 0, m0)]
theorem oX8_wall_10 : okB mX8_wall 28 kX8_wall_10 10 = true := by decide +kernel
def kX8_wall_28 : List mI := [(28, .iload 4, 0, 0, 0, 0, 0, m0), (30, .iload_n 1, 0, 0, 0, 0, 0, m0), (31, .if_icmp .gt 200, 231, 0, 0, 0, 0, m0), (34, .aload_n 0, 0, 0, 0, 0, 0, m0), (35, .iload 4, 0, 0, 0, 0, 0, m0), (37, .invokevirtual 131, 8, 1, 0, 0, 888, mX8_heightOf), (40, .istore 5, 0, 0, 0, 0, 0, m0), (42, .iload 5, 0, 0, 0, 0, 0, m0), (44, .istore_n 3, 0, 0, 0, 0, 0, m0), (45, .iload 5, 0, 0, 0, 0, 0, m0), (47, .iconst 1, 1, 0, 0, 0, 0, m0), (48, .iadd, 0, 0, 0, 0, 0, m0), (49, .istore 6, 0, 0, 0, 0, 0, m0)]
theorem oX8_wall_28 : okB mX8_wall 51 kX8_wall_28 28 = true := by decide +kernel
def kX8_wall_51 : List mI := [(51, .iload 6, 0, 0, 0, 0, 0, m0), (53, .aload_n 0, 0, 0, 0, 0, 0, m0), (54, .getfield 13, 8, 2, 0, 0, 742, m0), (57, .iconst 1, 1, 0, 0, 0, 0, m0), (58, .iaload, 0, 0, 0, 0, 0, m0), (59, .if_icmp .gt 124, 183, 0, 0, 0, 0, m0), (62, .aload_n 0, 0, 0, 0, 0, 0, m0), (63, .getfield 60, 8, 23, 0, 0, 763, m0), (66, .iconst 0, 0, 0, 0, 0, 0, m0), (67, .iaload, 0, 0, 0, 0, 0, m0), (68, .iload 4, 0, 0, 0, 0, 0, m0), (70, .iload 5, 0, 0, 0, 0, 0, m0), (72, .iload 6, 0, 0, 0, 0, 0, m0), (74, .iconst 0, 0, 0, 0, 0, 0, m0), (75, .invokestatic 178, 0, 4, 0, 0, 974, mX8_placesOf), (78, .isub, 0, 0, 0, 0, 0, m0), (79, .istore 7, 0, 0, 0, 0, 0, m0), (81, .aload_n 0, 0, 0, 0, 0, 0, m0), (82, .getfield 60, 8, 23, 0, 0, 763, m0), (85, .iconst 1, 1, 0, 0, 0, 0, m0), (86, .iaload, 0, 0, 0, 0, 0, m0), (87, .iload 4, 0, 0, 0, 0, 0, m0), (89, .iload 5, 0, 0, 0, 0, 0, m0), (91, .iload 6, 0, 0, 0, 0, 0, m0), (93, .iconst 1, 1, 0, 0, 0, 0, m0), (94, .invokestatic 178, 0, 4, 0, 0, 974, mX8_placesOf), (97, .isub, 0, 0, 0, 0, 0, m0), (98, .istore 8, 0, 0, 0, 0, 0, m0), (100, .aload_n 0, 0, 0, 0, 0, 0, m0), (101, .getfield 60, 8, 23, 0, 0, 763, m0), (104, .iconst 2, 2, 0, 0, 0, 0, m0), (105, .iaload, 0, 0, 0, 0, 0, m0), (106, .iload 4, 0, 0, 0, 0, 0, m0), (108, .iload 5, 0, 0, 0, 0, 0, m0), (110, .iload 6, 0, 0, 0, 0, 0, m0), (112, .iconst 2, 2, 0, 0, 0, 0, m0), (113, .invokestatic 178, 0, 4, 0, 0, 974, mX8_placesOf), (116, .isub, 0, 0, 0, 0, 0, m0), (117, .istore 9, 0, 0, 0, 0, 0, m0), (119, .iload 7, 0, 0, 0, 0, 0, m0), (121, .ifCond .lt 17, 138, 0, 0, 0, 0, m0), (124, .iload 8, 0, 0, 0, 0, 0, m0), (126, .ifCond .lt 12, 138, 0, 0, 0, 0, m0), (129, .iload 9, 0, 0, 0, 0, 0, m0), (131, .ifCond .lt 7, 138, 0, 0, 0, 0, m0), (134, .iconst 1, 1, 0, 0, 0, 0, m0), (135, .goto 4, 139, 0, 0, 0, 0, m0)]
theorem oX8_wall_51 : okB mX8_wall 138 kX8_wall_51 51 = true := by decide +kernel
def kX8_wall_138 : List mI := [(138, .iconst 0, 0, 0, 0, 0, 0, m0)]
theorem oX8_wall_138 : okB mX8_wall 139 kX8_wall_138 138 = true := by decide +kernel
def kX8_wall_139 : List mI := [(139, .istore 10, 0, 0, 0, 0, 0, m0), (141, .iload 10, 0, 0, 0, 0, 0, m0), (143, .ifCond .eq 32, 175, 0, 0, 0, 0, m0), (146, .iload 6, 0, 0, 0, 0, 0, m0), (148, .iload 5, 0, 0, 0, 0, 0, m0), (150, .isub, 0, 0, 0, 0, 0, m0), (151, .aload_n 0, 0, 0, 0, 0, 0, m0), (152, .iload 4, 0, 0, 0, 0, 0, m0), (154, .iconst 1, 1, 0, 0, 0, 0, m0), (155, .iadd, 0, 0, 0, 0, 0, m0), (156, .iload 7, 0, 0, 0, 0, 0, m0), (158, .iload 8, 0, 0, 0, 0, 0, m0), (160, .iload 9, 0, 0, 0, 0, 0, m0), (162, .invokevirtual 182, 8, 4, 0, 0, 981, mX8_mostFrom), (165, .iadd, 0, 0, 0, 0, 0, m0), (166, .iload_n 2, 0, 0, 0, 0, 0, m0), (167, .if_icmp .ne 8, 175, 0, 0, 0, 0, m0), (170, .iload 6, 0, 0, 0, 0, 0, m0), (172, .goto 4, 176, 0, 0, 0, 0, m0)]
theorem oX8_wall_139 : okB mX8_wall 175 kX8_wall_139 139 = true := by decide +kernel
def kX8_wall_175 : List mI := [(175, .iload_n 3, 0, 0, 0, 0, 0, m0)]
theorem oX8_wall_175 : okB mX8_wall 176 kX8_wall_175 175 = true := by decide +kernel
def kX8_wall_176 : List mI := [(176, .istore_n 3, 0, 0, 0, 0, 0, m0), (177, .iinc 6 1, 1, 0, 0, 0, 0, m0), (180, .goto (-129), 51, 0, 0, 0, 0, m0)]
theorem oX8_wall_176 : okB mX8_wall 183 kX8_wall_176 176 = true := by decide +kernel
def kX8_wall_183 : List mI := [(183, .iconst 0, 0, 0, 0, 0, 0, m0), (184, .istore 6, 0, 0, 0, 0, 0, m0)]
theorem oX8_wall_183 : okB mX8_wall 186 kX8_wall_183 183 = true := by decide +kernel
def kX8_wall_186 : List mI := [(186, .iload 6, 0, 0, 0, 0, 0, m0), (188, .iconst 3, 3, 0, 0, 0, 0, m0), (189, .if_icmp .ge 29, 218, 0, 0, 0, 0, m0), (192, .aload_n 0, 0, 0, 0, 0, 0, m0), (193, .getfield 60, 8, 23, 0, 0, 763, m0), (196, .iload 6, 0, 0, 0, 0, 0, m0), (198, .dup2, 0, 0, 0, 0, 0, m0), (199, .iaload, 0, 0, 0, 0, 0, m0), (200, .iload 4, 0, 0, 0, 0, 0, m0), (202, .iload 5, 0, 0, 0, 0, 0, m0), (204, .iload_n 3, 0, 0, 0, 0, 0, m0), (205, .iload 6, 0, 0, 0, 0, 0, m0), (207, .invokestatic 178, 0, 4, 0, 0, 974, mX8_placesOf), (210, .isub, 0, 0, 0, 0, 0, m0), (211, .iastore, 0, 0, 0, 0, 0, m0), (212, .iinc 6 1, 1, 0, 0, 0, 0, m0), (215, .goto (-29), 186, 0, 0, 0, 0, m0)]
theorem oX8_wall_186 : okB mX8_wall 218 kX8_wall_186 186 = true := by decide +kernel
def kX8_wall_218 : List mI := [(218, .iload_n 2, 0, 0, 0, 0, 0, m0), (219, .iload_n 3, 0, 0, 0, 0, 0, m0), (220, .iload 5, 0, 0, 0, 0, 0, m0), (222, .isub, 0, 0, 0, 0, 0, m0), (223, .isub, 0, 0, 0, 0, 0, m0), (224, .istore_n 2, 0, 0, 0, 0, 0, m0), (225, .iinc 4 1, 1, 0, 0, 0, 0, m0), (228, .goto (-200), 28, 0, 0, 0, 0, m0)]
theorem oX8_wall_218 : okB mX8_wall 231 kX8_wall_218 218 = true := by decide +kernel
def kX8_wall_231 : List mI := [(231, .iload_n 3, 0, 0, 0, 0, 0, m0), (232, .ireturn, 0, 0, 0, 0, 0, m0)]
theorem oX8_wall_231 : okB mX8_wall 233 kX8_wall_231 231 = true := by decide +kernel
def kX8_letters_0 : List mI := [(0, .iload_n 1, 0, 0, 0, 0, 0, m0), (1, .iconst 1, 1, 0, 0, 0, 0, m0), (2, .bipush 24, 24, 0, 0, 0, 0, m0), (4, .invokestatic 72, 0, 3, 0, 0, 833, mX8_in), (7, .ifCond .ne 5, 12, 0, 0, 0, 0, m0), (10, .iconst (-1), 1, 1, 0, 0, 0, m0), (11, .ireturn, 0, 0, 0, 0, 0, m0)]
theorem oX8_letters_0 : okB mX8_letters 12 kX8_letters_0 0 = true := by decide +kernel
def kX8_letters_12 : List mI := [(12, .aload_n 0, 0, 0, 0, 0, 0, m0), (13, .invokevirtual 172, 8, 0, 0, 0, 970, mX8_tellTakes), (16, .bipush (-9), 9, 1, 0, 0, 0, m0), (18, .istore_n 2, 0, 0, 0, 0, 0, m0), (19, .iconst 0, 0, 0, 0, 0, 0, m0), (20, .istore_n 3, 0, 0, 0, 0, 0, m0)]
theorem oX8_letters_12 : okB mX8_letters 21 kX8_letters_12 12 = true := by decide +kernel
def kX8_letters_21 : List mI := [(21, .iload_n 3, 0, 0, 0, 0, 0, m0), (22, .bipush 64, 64, 0, 0, 0, 0, m0), (24, .if_icmp .ge 157, 181, 0, 0, 0, 0, m0), (27, .iload_n 2, 0, 0, 0, 0, 0, m0), (28, .bipush (-9), 9, 1, 0, 0, 0, m0), (30, .if_icmp .eq 14, 44, 0, 0, 0, 0, m0), (33, .iload_n 3, 0, 0, 0, 0, 0, m0), (34, .invokestatic 185, 0, 1, 0, 0, 993, mX8_bitsOf), (37, .iload_n 2, 0, 0, 0, 0, 0, m0), (38, .invokestatic 185, 0, 1, 0, 0, 993, mX8_bitsOf), (41, .if_icmp .ge 134, 175, 0, 0, 0, 0, m0)]
theorem oX8_letters_21 : okB mX8_letters 44 kX8_letters_21 21 = true := by decide +kernel
def kX8_letters_44 : List mI := [(44, .aload_n 0, 0, 0, 0, 0, 0, m0), (45, .invokevirtual 169, 8, 0, 0, 0, 966, mX8_countHeld), (48, .iconst 0, 0, 0, 0, 0, 0, m0), (49, .istore 4, 0, 0, 0, 0, 0, m0)]
theorem oX8_letters_44 : okB mX8_letters 51 kX8_letters_44 44 = true := by decide +kernel
def kX8_letters_51 : List mI := [(51, .iload 4, 0, 0, 0, 0, 0, m0), (53, .aload_n 0, 0, 0, 0, 0, 0, m0), (54, .getfield 20, 8, 4, 0, 0, 744, m0), (57, .iconst 0, 0, 0, 0, 0, 0, m0), (58, .iaload, 0, 0, 0, 0, 0, m0), (59, .if_icmp .ge 102, 161, 0, 0, 0, 0, m0), (62, .aload_n 0, 0, 0, 0, 0, 0, m0), (63, .getfield 44, 8, 18, 0, 0, 758, m0), (66, .iconst 0, 0, 0, 0, 0, 0, m0), (67, .iload 4, 0, 0, 0, 0, 0, m0), (69, .iadd, 0, 0, 0, 0, 0, m0), (70, .iaload, 0, 0, 0, 0, 0, m0), (71, .iconst 1, 1, 0, 0, 0, 0, m0), (72, .if_icmp .ne 7, 79, 0, 0, 0, 0, m0), (75, .iconst 1, 1, 0, 0, 0, 0, m0), (76, .goto 4, 80, 0, 0, 0, 0, m0)]
theorem oX8_letters_51 : okB mX8_letters 79 kX8_letters_51 51 = true := by decide +kernel
def kX8_letters_79 : List mI := [(79, .iconst 0, 0, 0, 0, 0, 0, m0)]
theorem oX8_letters_79 : okB mX8_letters 80 kX8_letters_79 79 = true := by decide +kernel
def kX8_letters_80 : List mI := [(80, .istore 5, 0, 0, 0, 0, 0, m0), (82, .iconst 0, 0, 0, 0, 0, 0, m0), (83, .istore 6, 0, 0, 0, 0, 0, m0)]
theorem oX8_letters_80 : okB mX8_letters 85 kX8_letters_80 80 = true := by decide +kernel
def kX8_letters_85 : List mI := [(85, .iload 6, 0, 0, 0, 0, 0, m0), (87, .bipush 6, 6, 0, 0, 0, 0, m0), (89, .if_icmp .ge 41, 130, 0, 0, 0, 0, m0), (92, .iload 5, 0, 0, 0, 0, 0, m0), (94, .ifCond .ne 23, 117, 0, 0, 0, 0, m0), (97, .iload_n 3, 0, 0, 0, 0, 0, m0), (98, .iload 6, 0, 0, 0, 0, 0, m0), (100, .invokestatic 151, 0, 2, 0, 0, 927, mX8_has), (103, .ifCond .eq 18, 121, 0, 0, 0, 0, m0), (106, .aload_n 0, 0, 0, 0, 0, 0, m0), (107, .iload 4, 0, 0, 0, 0, 0, m0), (109, .iload 6, 0, 0, 0, 0, 0, m0), (111, .invokevirtual 157, 8, 2, 0, 0, 923, mX8_doesCome), (114, .ifCond .eq 7, 121, 0, 0, 0, 0, m0)]
theorem oX8_letters_85 : okB mX8_letters 117 kX8_letters_85 85 = true := by decide +kernel
def kX8_letters_117 : List mI := [(117, .iconst 1, 1, 0, 0, 0, 0, m0), (118, .goto 4, 122, 0, 0, 0, 0, m0)]
theorem oX8_letters_117 : okB mX8_letters 121 kX8_letters_117 117 = true := by decide +kernel
def kX8_letters_121 : List mI := [(121, .iconst 0, 0, 0, 0, 0, 0, m0)]
theorem oX8_letters_121 : okB mX8_letters 122 kX8_letters_121 121 = true := by decide +kernel
def kX8_letters_122 : List mI := [(122, .istore 5, 0, 0, 0, 0, 0, m0), (124, .iinc 6 1, 1, 0, 0, 0, 0, m0), (127, .goto (-42), 85, 0, 0, 0, 0, m0)]
theorem oX8_letters_122 : okB mX8_letters 130 kX8_letters_122 122 = true := by decide +kernel
def kX8_letters_130 : List mI := [(130, .aload_n 0, 0, 0, 0, 0, 0, m0), (131, .getfield 60, 8, 23, 0, 0, 763, m0), (134, .aload_n 0, 0, 0, 0, 0, 0, m0), (135, .getfield 23, 8, 5, 0, 0, 745, m0), (138, .iload 4, 0, 0, 0, 0, 0, m0), (140, .iaload, 0, 0, 0, 0, 0, m0), (141, .dup2, 0, 0, 0, 0, 0, m0), (142, .iaload, 0, 0, 0, 0, 0, m0), (143, .iload 5, 0, 0, 0, 0, 0, m0), (145, .ifCond .eq 7, 152, 0, 0, 0, 0, m0), (148, .iconst 1, 1, 0, 0, 0, 0, m0), (149, .goto 4, 153, 0, 0, 0, 0, m0)]
theorem oX8_letters_130 : okB mX8_letters 152 kX8_letters_130 130 = true := by decide +kernel
def kX8_letters_152 : List mI := [(152, .iconst 0, 0, 0, 0, 0, 0, m0)]
theorem oX8_letters_152 : okB mX8_letters 153 kX8_letters_152 152 = true := by decide +kernel
def kX8_letters_153 : List mI := [(153, .iadd, 0, 0, 0, 0, 0, m0), (154, .iastore, 0, 0, 0, 0, 0, m0), (155, .iinc 4 1, 1, 0, 0, 0, 0, m0), (158, .goto (-107), 51, 0, 0, 0, 0, m0)]
theorem oX8_letters_153 : okB mX8_letters 161 kX8_letters_153 153 = true := by decide +kernel
def kX8_letters_161 : List mI := [(161, .aload_n 0, 0, 0, 0, 0, 0, m0), (162, .invokevirtual 175, 8, 0, 0, 0, 977, mX8_mostOf), (165, .iload_n 1, 0, 0, 0, 0, 0, m0), (166, .if_icmp .lt 7, 173, 0, 0, 0, 0, m0), (169, .iload_n 3, 0, 0, 0, 0, 0, m0), (170, .goto 4, 174, 0, 0, 0, 0, m0)]
theorem oX8_letters_161 : okB mX8_letters 173 kX8_letters_161 161 = true := by decide +kernel
def kX8_letters_173 : List mI := [(173, .iload_n 2, 0, 0, 0, 0, 0, m0)]
theorem oX8_letters_173 : okB mX8_letters 174 kX8_letters_173 173 = true := by decide +kernel
def kX8_letters_174 : List mI := [(174, .istore_n 2, 0, 0, 0, 0, 0, m0)]
theorem oX8_letters_174 : okB mX8_letters 175 kX8_letters_174 174 = true := by decide +kernel
def kX8_letters_175 : List mI := [(175, .iinc 3 1, 1, 0, 0, 0, 0, m0), (178, .goto (-157), 21, 0, 0, 0, 0, m0)]
theorem oX8_letters_175 : okB mX8_letters 181 kX8_letters_175 175 = true := by decide +kernel
def kX8_letters_181 : List mI := [(181, .iload_n 2, 0, 0, 0, 0, 0, m0), (182, .ireturn, 0, 0, 0, 0, 0, m0)]
theorem oX8_letters_181 : okB mX8_letters 183 kX8_letters_181 181 = true := by decide +kernel
def kX8_isOfWorth_0 : List mI := [(0, .iconst 0, 0, 0, 0, 0, 0, m0), (1, .istore 4, 0, 0, 0, 0, 0, m0), (3, .iload_n 1, 0, 0, 0, 0, 0, m0), (4, .istore 5, 0, 0, 0, 0, 0, m0), (6, .bipush (-9), 9, 1, 0, 0, 0, m0), (8, .istore 6, 0, 0, 0, 0, 0, m0), (10, .iconst 0, 0, 0, 0, 0, 0, m0), (11, .istore 7, 0, 0, 0, 0, 0, m0)]
theorem oX8_isOfWorth_0 : okB mX8_isOfWorth 13 kX8_isOfWorth_0 0 = true := by decide +kernel
def kX8_isOfWorth_13 : List mI := [(13, .iload 7, 0, 0, 0, 0, 0, m0), (15, .iload_n 2, 0, 0, 0, 0, 0, m0), (16, .if_icmp .ge 57, 73, 0, 0, 0, 0, m0), (19, .iload 5, 0, 0, 0, 0, 0, m0), (21, .iconst 5, 5, 0, 0, 0, 0, m0), (22, .irem, 0, 0, 0, 0, 0, m0), (23, .istore 8, 0, 0, 0, 0, 0, m0), (25, .iload 5, 0, 0, 0, 0, 0, m0), (27, .iconst 5, 5, 0, 0, 0, 0, m0), (28, .idiv, 0, 0, 0, 0, 0, m0), (29, .istore 5, 0, 0, 0, 0, 0, m0), (31, .iload 8, 0, 0, 0, 0, 0, m0), (33, .aload_n 0, 0, 0, 0, 0, 0, m0), (34, .getfield 38, 8, 10, 0, 0, 750, m0), (37, .iconst 0, 0, 0, 0, 0, 0, m0), (38, .iaload, 0, 0, 0, 0, 0, m0), (39, .if_icmp .ge 10, 49, 0, 0, 0, 0, m0), (42, .iload 8, 0, 0, 0, 0, 0, m0), (44, .iload 6, 0, 0, 0, 0, 0, m0), (46, .if_icmp .ne 5, 51, 0, 0, 0, 0, m0)]
theorem oX8_isOfWorth_13 : okB mX8_isOfWorth 49 kX8_isOfWorth_13 13 = true := by decide +kernel
def kX8_isOfWorth_49 : List mI := [(49, .iconst 0, 0, 0, 0, 0, 0, m0), (50, .ireturn, 1, 0, 0, 0, 0, m0)]
theorem oX8_isOfWorth_49 : okB mX8_isOfWorth 51 kX8_isOfWorth_49 49 = true := by decide +kernel
def kX8_isOfWorth_51 : List mI := [(51, .iload 4, 0, 0, 0, 0, 0, m0), (53, .aload_n 0, 0, 0, 0, 0, 0, m0), (54, .getfield 41, 8, 11, 0, 0, 751, m0), (57, .iload 8, 0, 0, 0, 0, 0, m0), (59, .iaload, 0, 0, 0, 0, 0, m0), (60, .iadd, 0, 0, 0, 0, 0, m0), (61, .istore 4, 0, 0, 0, 0, 0, m0), (63, .iload 8, 0, 0, 0, 0, 0, m0), (65, .istore 6, 0, 0, 0, 0, 0, m0), (67, .iinc 7 1, 1, 0, 0, 0, 0, m0), (70, .goto (-57), 13, 0, 0, 0, 0, m0)]
theorem oX8_isOfWorth_51 : okB mX8_isOfWorth 73 kX8_isOfWorth_51 51 = true := by decide +kernel
def kX8_isOfWorth_73 : List mI := [(73, .iload 4, 0, 0, 0, 0, 0, m0), (75, .iload_n 3, 0, 0, 0, 0, 0, m0), (76, .if_icmp .ne 7, 83, 0, 0, 0, 0, m0), (79, .iconst 1, 1, 0, 0, 0, 0, m0), (80, .goto 4, 84, 0, 0, 0, 0, m0)]
theorem oX8_isOfWorth_73 : okB mX8_isOfWorth 83 kX8_isOfWorth_73 73 = true := by decide +kernel
def kX8_isOfWorth_83 : List mI := [(83, .iconst 0, 0, 0, 0, 0, 0, m0)]
theorem oX8_isOfWorth_83 : okB mX8_isOfWorth 84 kX8_isOfWorth_83 83 = true := by decide +kernel
def kX8_isOfWorth_84 : List mI := [(84, .ireturn, 1, 0, 0, 0, 0, m0)]
theorem oX8_isOfWorth_84 : okB mX8_isOfWorth 85 kX8_isOfWorth_84 84 = true := by decide +kernel
def kX8_apology_0 : List mI := [(0, .iload_n 1, 0, 0, 0, 0, 0, m0), (1, .bipush (-30), 30, 1, 0, 0, 0, m0), (3, .bipush 30, 30, 0, 0, 0, 0, m0), (5, .invokestatic 72, 0, 3, 0, 0, 833, mX8_in), (8, .ifCond .eq 12, 20, 0, 0, 0, 0, m0), (11, .iload_n 2, 0, 0, 0, 0, 0, m0), (12, .iconst (-1), 1, 1, 0, 0, 0, m0), (13, .iconst 4, 4, 0, 0, 0, 0, m0), (14, .invokestatic 72, 0, 3, 0, 0, 833, mX8_in), (17, .ifCond .ne 5, 22, 0, 0, 0, 0, m0)]
theorem oX8_apology_0 : okB mX8_apology 20 kX8_apology_0 0 = true := by decide +kernel
def kX8_apology_20 : List mI := [(20, .iconst (-1), 1, 1, 0, 0, 0, m0), (21, .ireturn, 0, 0, 0, 0, 0, m0)]
theorem oX8_apology_20 : okB mX8_apology 22 kX8_apology_20 20 = true := by decide +kernel
def kX8_apology_22 : List mI := [(22, .iconst 1, 1, 0, 0, 0, 0, m0), (23, .istore_n 3, 0, 0, 0, 0, 0, m0), (24, .iconst 0, 0, 0, 0, 0, 0, m0), (25, .istore 4, 0, 0, 0, 0, 0, m0)]
theorem oX8_apology_22 : okB mX8_apology 27 kX8_apology_22 22 = true := by decide +kernel
def kX8_apology_27 : List mI := [(27, .iload 4, 0, 0, 0, 0, 0, m0), (29, .iconst 5, 5, 0, 0, 0, 0, m0), (30, .if_icmp .gt 94, 124, 0, 0, 0, 0, m0), (33, .iconst 0, 0, 0, 0, 0, 0, m0), (34, .istore 5, 0, 0, 0, 0, 0, m0)]
theorem oX8_apology_27 : okB mX8_apology 36 kX8_apology_27 27 = true := by decide +kernel
def kX8_apology_36 : List mI := [(36, .iload 5, 0, 0, 0, 0, 0, m0), (38, .iload_n 3, 0, 0, 0, 0, 0, m0), (39, .if_icmp .ge 75, 114, 0, 0, 0, 0, m0), (42, .aload_n 0, 0, 0, 0, 0, 0, m0), (43, .iload 5, 0, 0, 0, 0, 0, m0), (45, .iload 4, 0, 0, 0, 0, 0, m0), (47, .iload_n 1, 0, 0, 0, 0, 0, m0), (48, .invokevirtual 188, 8, 3, 0, 0, 1000, mX8_isOfWorth), (51, .ifCond .eq 57, 108, 0, 0, 0, 0, m0), (54, .iload 5, 0, 0, 0, 0, 0, m0), (56, .istore 6, 0, 0, 0, 0, 0, m0), (58, .iload 4, 0, 0, 0, 0, 0, m0), (60, .iconst 1, 1, 0, 0, 0, 0, m0), (61, .isub, 0, 0, 0, 0, 0, m0), (62, .istore 7, 0, 0, 0, 0, 0, m0)]
theorem oX8_apology_36 : okB mX8_apology 64 kX8_apology_36 36 = true := by decide +kernel
def kX8_apology_64 : List mI := [(64, .iload 7, 0, 0, 0, 0, 0, m0), (66, .iload_n 2, 0, 0, 0, 0, 0, m0), (67, .if_icmp .le 15, 82, 0, 0, 0, 0, m0), (70, .iload 6, 0, 0, 0, 0, 0, m0), (72, .iconst 5, 5, 0, 0, 0, 0, m0), (73, .idiv, 0, 0, 0, 0, 0, m0), (74, .istore 6, 0, 0, 0, 0, 0, m0), (76, .iinc 7 (-1), 1, 1, 0, 0, 0, m0), (79, .goto (-15), 64, 0, 0, 0, 0, m0)]
theorem oX8_apology_64 : okB mX8_apology 82 kX8_apology_64 64 = true := by decide +kernel
def kX8_apology_82 : List mI := [(82, .iload_n 2, 0, 0, 0, 0, 0, m0), (83, .iconst (-1), 1, 1, 0, 0, 0, m0), (84, .if_icmp .ne 8, 92, 0, 0, 0, 0, m0), (87, .iload 4, 0, 0, 0, 0, 0, m0), (89, .goto 18, 107, 0, 0, 0, 0, m0)]
theorem oX8_apology_82 : okB mX8_apology 92 kX8_apology_82 82 = true := by decide +kernel
def kX8_apology_92 : List mI := [(92, .iload_n 2, 0, 0, 0, 0, 0, m0), (93, .iload 4, 0, 0, 0, 0, 0, m0), (95, .if_icmp .ge 10, 105, 0, 0, 0, 0, m0), (98, .iload 6, 0, 0, 0, 0, 0, m0), (100, .iconst 5, 5, 0, 0, 0, 0, m0), (101, .irem, 0, 0, 0, 0, 0, m0), (102, .goto 5, 107, 0, 0, 0, 0, m0)]
theorem oX8_apology_92 : okB mX8_apology 105 kX8_apology_92 92 = true := by decide +kernel
def kX8_apology_105 : List mI := [(105, .bipush (-9), 9, 1, 0, 0, 0, m0)]
theorem oX8_apology_105 : okB mX8_apology 107 kX8_apology_105 105 = true := by decide +kernel
def kX8_apology_107 : List mI := [(107, .ireturn, 0, 0, 0, 0, 0, m0)]
theorem oX8_apology_107 : okB mX8_apology 108 kX8_apology_107 107 = true := by decide +kernel
def kX8_apology_108 : List mI := [(108, .iinc 5 1, 1, 0, 0, 0, 0, m0), (111, .goto (-75), 36, 0, 0, 0, 0, m0)]
theorem oX8_apology_108 : okB mX8_apology 114 kX8_apology_108 108 = true := by decide +kernel
def kX8_apology_114 : List mI := [(114, .iload_n 3, 0, 0, 0, 0, 0, m0), (115, .iconst 5, 5, 0, 0, 0, 0, m0), (116, .imul, 0, 0, 0, 0, 0, m0), (117, .istore_n 3, 0, 0, 0, 0, 0, m0), (118, .iinc 4 1, 1, 0, 0, 0, 0, m0), (121, .goto (-94), 27, 0, 0, 0, 0, m0)]
theorem oX8_apology_114 : okB mX8_apology 124 kX8_apology_114 114 = true := by decide +kernel
def kX8_apology_124 : List mI := [(124, .bipush (-9), 9, 1, 0, 0, 0, m0), (126, .ireturn, 0, 0, 0, 0, 0, m0)]
theorem oX8_apology_124 : okB mX8_apology 127 kX8_apology_124 124 = true := by decide +kernel
def kX8_turn_0 : List mI := [(0, .aload_n 0, 0, 0, 0, 0, 0, m0), (1, .iload_n 1, 0, 0, 0, 0, 0, m0), (2, .invokevirtual 148, 8, 1, 0, 0, 911, mX8_isJudge), (5, .ifCond .eq 11, 16, 0, 0, 0, 0, m0), (8, .aload_n 0, 0, 0, 0, 0, 0, m0), (9, .iload_n 2, 0, 0, 0, 0, 0, m0), (10, .invokevirtual 138, 8, 1, 0, 0, 880, mX8_isBrick), (13, .ifCond .ne 5, 18, 0, 0, 0, 0, m0)]
theorem oX8_turn_0 : okB mX8_turn 16 kX8_turn_0 0 = true := by decide +kernel
def kX8_turn_16 : List mI := [(16, .iconst (-1), 1, 1, 0, 0, 0, m0), (17, .ireturn, 0, 0, 0, 0, 0, m0)]
theorem oX8_turn_16 : okB mX8_turn 18 kX8_turn_16 16 = true := by decide +kernel
def kX8_turn_18 : List mI := [(18, .aload_n 0, 0, 0, 0, 0, 0, m0), (19, .iload_n 2, 0, 0, 0, 0, 0, m0), (20, .invokevirtual 160, 8, 1, 0, 0, 934, mX8_forOf), (23, .istore_n 3, 0, 0, 0, 0, 0, m0), (24, .iload_n 3, 0, 0, 0, 0, 0, m0), (25, .aload_n 0, 0, 0, 0, 0, 0, m0), (26, .getfield 35, 8, 9, 0, 0, 749, m0), (29, .iload_n 1, 0, 0, 0, 0, 0, m0), (30, .iaload, 0, 0, 0, 0, 0, m0), (31, .aload_n 0, 0, 0, 0, 0, 0, m0), (32, .getfield 44, 8, 18, 0, 0, 758, m0), (35, .bipush 10, 10, 0, 0, 0, 0, m0), (37, .iload_n 2, 0, 0, 0, 0, 0, m0), (38, .iadd, 0, 0, 0, 0, 0, m0), (39, .iaload, 0, 0, 0, 0, 0, m0), (40, .if_icmp .gt 7, 47, 0, 0, 0, 0, m0), (43, .iconst (-1), 1, 1, 0, 0, 0, m0), (44, .goto 4, 48, 0, 0, 0, 0, m0)]
theorem oX8_turn_18 : okB mX8_turn 47 kX8_turn_18 18 = true := by decide +kernel
def kX8_turn_47 : List mI := [(47, .iconst 1, 1, 0, 0, 0, 0, m0)]
theorem oX8_turn_47 : okB mX8_turn 48 kX8_turn_47 47 = true := by decide +kernel
def kX8_turn_48 : List mI := [(48, .iadd, 0, 0, 0, 0, 0, m0), (49, .istore 4, 0, 0, 0, 0, 0, m0), (51, .aload_n 0, 0, 0, 0, 0, 0, m0), (52, .iload_n 3, 0, 0, 0, 0, 0, m0), (53, .invokevirtual 163, 8, 1, 0, 0, 938, mX8_isHeldBy), (56, .aload_n 0, 0, 0, 0, 0, 0, m0), (57, .iload 4, 0, 0, 0, 0, 0, m0), (59, .invokevirtual 163, 8, 1, 0, 0, 938, mX8_isHeldBy), (62, .if_icmp .ne 7, 69, 0, 0, 0, 0, m0), (65, .iconst 0, 0, 0, 0, 0, 0, m0), (66, .goto 4, 70, 0, 0, 0, 0, m0)]
theorem oX8_turn_48 : okB mX8_turn 69 kX8_turn_48 48 = true := by decide +kernel
def kX8_turn_69 : List mI := [(69, .iconst 1, 1, 0, 0, 0, 0, m0)]
theorem oX8_turn_69 : okB mX8_turn 70 kX8_turn_69 69 = true := by decide +kernel
def kX8_turn_70 : List mI := [(70, .ireturn, 0, 0, 0, 0, 0, m0)]
theorem oX8_turn_70 : okB mX8_turn 71 kX8_turn_70 70 = true := by decide +kernel
def kX8_odds_0 : List mI := [(0, .iload_n 1, 0, 0, 0, 0, 0, m0), (1, .iconst 0, 0, 0, 0, 0, 0, m0), (2, .bipush 10, 10, 0, 0, 0, 0, m0), (4, .invokestatic 72, 0, 3, 0, 0, 833, mX8_in), (7, .ifCond .eq 13, 20, 0, 0, 0, 0, m0), (10, .iload_n 2, 0, 0, 0, 0, 0, m0), (11, .iconst 0, 0, 0, 0, 0, 0, m0), (12, .bipush 10, 10, 0, 0, 0, 0, m0), (14, .invokestatic 72, 0, 3, 0, 0, 833, mX8_in), (17, .ifCond .ne 5, 22, 0, 0, 0, 0, m0)]
theorem oX8_odds_0 : okB mX8_odds 20 kX8_odds_0 0 = true := by decide +kernel
def kX8_odds_20 : List mI := [(20, .iconst (-1), 1, 1, 0, 0, 0, m0), (21, .ireturn, 0, 0, 0, 0, 0, m0)]
theorem oX8_odds_20 : okB mX8_odds 22 kX8_odds_20 20 = true := by decide +kernel
def kX8_odds_22 : List mI := [(22, .aload_n 0, 0, 0, 0, 0, 0, m0), (23, .iconst 4, 4, 0, 0, 0, 0, m0), (24, .invokevirtual 166, 8, 1, 0, 0, 962, mX8_manyOf), (27, .istore_n 3, 0, 0, 0, 0, 0, m0), (28, .lconst 0, 0, 0, 0, 0, 0, m0), (29, .lstore 4, 0, 0, 0, 0, 0, m0), (31, .lconst 1, 1, 0, 0, 0, 0, m0), (32, .lstore 6, 0, 0, 0, 0, 0, m0), (34, .iconst 0, 0, 0, 0, 0, 0, m0), (35, .istore 8, 0, 0, 0, 0, 0, m0)]
theorem oX8_odds_22 : okB mX8_odds 37 kX8_odds_22 22 = true := by decide +kernel
def kX8_odds_37 : List mI := [(37, .iload 8, 0, 0, 0, 0, 0, m0), (39, .iload_n 3, 0, 0, 0, 0, 0, m0), (40, .if_icmp .ge 17, 57, 0, 0, 0, 0, m0), (43, .lload 6, 0, 0, 0, 0, 0, m0), (45, .ldc2_w 191, 10, 0, 0, 0, 1012, m0), (48, .lmul, 0, 0, 0, 0, 0, m0), (49, .lstore 6, 0, 0, 0, 0, 0, m0), (51, .iinc 8 1, 1, 0, 0, 0, 0, m0), (54, .goto (-17), 37, 0, 0, 0, 0, m0)]
theorem oX8_odds_37 : okB mX8_odds 57 kX8_odds_37 37 = true := by decide +kernel
def kX8_odds_57 : List mI := [(57, .lconst 1, 1, 0, 0, 0, 0, m0), (58, .lstore 8, 0, 0, 0, 0, 0, m0), (60, .iconst 0, 0, 0, 0, 0, 0, m0), (61, .istore 10, 0, 0, 0, 0, 0, m0)]
theorem oX8_odds_57 : okB mX8_odds 63 kX8_odds_57 57 = true := by decide +kernel
def kX8_odds_63 : List mI := [(63, .iload 10, 0, 0, 0, 0, 0, m0), (65, .iload_n 3, 0, 0, 0, 0, 0, m0), (66, .if_icmp .gt 79, 145, 0, 0, 0, 0, m0), (69, .iload 10, 0, 0, 0, 0, 0, m0), (71, .iload_n 2, 0, 0, 0, 0, 0, m0), (72, .if_icmp .gt 73, 145, 0, 0, 0, 0, m0), (75, .lload 8, 0, 0, 0, 0, 0, m0), (77, .lstore 11, 0, 0, 0, 0, 0, m0), (79, .iconst 0, 0, 0, 0, 0, 0, m0), (80, .istore 13, 0, 0, 0, 0, 0, m0)]
theorem oX8_odds_63 : okB mX8_odds 82 kX8_odds_63 63 = true := by decide +kernel
def kX8_odds_82 : List mI := [(82, .iload 13, 0, 0, 0, 0, 0, m0), (84, .iload_n 3, 0, 0, 0, 0, 0, m0), (85, .if_icmp .ge 31, 116, 0, 0, 0, 0, m0), (88, .lload 11, 0, 0, 0, 0, 0, m0), (90, .iload 13, 0, 0, 0, 0, 0, m0), (92, .iload 10, 0, 0, 0, 0, 0, m0), (94, .if_icmp .ge 8, 102, 0, 0, 0, 0, m0), (97, .iload_n 1, 0, 0, 0, 0, 0, m0), (98, .i2l, 0, 0, 0, 0, 0, m0), (99, .goto 8, 107, 0, 0, 0, 0, m0)]
theorem oX8_odds_82 : okB mX8_odds 102 kX8_odds_82 82 = true := by decide +kernel
def kX8_odds_102 : List mI := [(102, .bipush 10, 10, 0, 0, 0, 0, m0), (104, .iload_n 1, 0, 0, 0, 0, 0, m0), (105, .isub, 0, 0, 0, 0, 0, m0), (106, .i2l, 0, 0, 0, 0, 0, m0)]
theorem oX8_odds_102 : okB mX8_odds 107 kX8_odds_102 102 = true := by decide +kernel
def kX8_odds_107 : List mI := [(107, .lmul, 0, 0, 0, 0, 0, m0), (108, .lstore 11, 0, 0, 0, 0, 0, m0), (110, .iinc 13 1, 1, 0, 0, 0, 0, m0), (113, .goto (-31), 82, 0, 0, 0, 0, m0)]
theorem oX8_odds_107 : okB mX8_odds 116 kX8_odds_107 107 = true := by decide +kernel
def kX8_odds_116 : List mI := [(116, .lload 4, 0, 0, 0, 0, 0, m0), (118, .lload 11, 0, 0, 0, 0, 0, m0), (120, .ladd, 0, 0, 0, 0, 0, m0), (121, .lstore 4, 0, 0, 0, 0, 0, m0), (123, .lload 8, 0, 0, 0, 0, 0, m0), (125, .iload_n 3, 0, 0, 0, 0, 0, m0), (126, .iload 10, 0, 0, 0, 0, 0, m0), (128, .isub, 0, 0, 0, 0, 0, m0), (129, .i2l, 0, 0, 0, 0, 0, m0), (130, .lmul, 0, 0, 0, 0, 0, m0), (131, .iload 10, 0, 0, 0, 0, 0, m0), (133, .iconst 1, 1, 0, 0, 0, 0, m0), (134, .iadd, 0, 0, 0, 0, 0, m0), (135, .i2l, 0, 0, 0, 0, 0, m0), (136, .ldiv, 0, 0, 0, 0, 0, m0), (137, .lstore 8, 0, 0, 0, 0, 0, m0), (139, .iinc 10 1, 1, 0, 0, 0, 0, m0), (142, .goto (-79), 63, 0, 0, 0, 0, m0)]
theorem oX8_odds_116 : okB mX8_odds 145 kX8_odds_116 116 = true := by decide +kernel
def kX8_odds_145 : List mI := [(145, .lload 4, 0, 0, 0, 0, 0, m0), (147, .ldc2_w 193, 1000000, 0, 0, 0, 1013, m0), (150, .lmul, 0, 0, 0, 0, 0, m0), (151, .lload 6, 0, 0, 0, 0, 0, m0), (153, .ldiv, 0, 0, 0, 0, 0, m0), (154, .l2i, 0, 0, 0, 0, 0, m0), (155, .ireturn, 0, 0, 0, 0, 0, m0)]
theorem oX8_odds_145 : okB mX8_odds 156 kX8_odds_145 145 = true := by decide +kernel
def kX8_hears_0 : List mI := [(0, .aload_n 0, 0, 0, 0, 0, 0, m0), (1, .iload_n 1, 0, 0, 0, 0, 0, m0), (2, .invokevirtual 148, 8, 1, 0, 0, 911, mX8_isJudge), (5, .ifCond .eq 12, 17, 0, 0, 0, 0, m0), (8, .iload_n 2, 0, 0, 0, 0, 0, m0), (9, .iconst 0, 0, 0, 0, 0, 0, m0), (10, .iconst 1, 1, 0, 0, 0, 0, m0), (11, .invokestatic 72, 0, 3, 0, 0, 833, mX8_in), (14, .ifCond .ne 5, 19, 0, 0, 0, 0, m0)]
theorem oX8_hears_0 : okB mX8_hears 17 kX8_hears_0 0 = true := by decide +kernel
def kX8_hears_17 : List mI := [(17, .iconst (-1), 1, 1, 0, 0, 0, m0), (18, .ireturn, 0, 0, 0, 0, 0, m0)]
theorem oX8_hears_17 : okB mX8_hears 19 kX8_hears_17 17 = true := by decide +kernel
def kX8_hears_19 : List mI := [(19, .aload_n 0, 0, 0, 0, 0, 0, m0), (20, .getfield 128, 8, 27, 0, 0, 767, m0), (23, .iconst 4, 4, 0, 0, 0, 0, m0), (24, .if_icmp .ne 6, 30, 0, 0, 0, 0, m0), (27, .bipush (-3), 3, 1, 0, 0, 0, m0), (29, .ireturn, 0, 0, 0, 0, 0, m0)]
theorem oX8_hears_19 : okB mX8_hears 30 kX8_hears_19 19 = true := by decide +kernel
def kX8_hears_30 : List mI := [(30, .aload_n 0, 0, 0, 0, 0, 0, m0), (31, .getfield 66, 8, 25, 0, 0, 765, m0), (34, .aload_n 0, 0, 0, 0, 0, 0, m0), (35, .getfield 128, 8, 27, 0, 0, 767, m0), (38, .iload_n 1, 0, 0, 0, 0, 0, m0), (39, .iastore, 0, 0, 0, 0, 0, m0), (40, .aload_n 0, 0, 0, 0, 0, 0, m0), (41, .getfield 69, 8, 26, 0, 0, 766, m0), (44, .aload_n 0, 0, 0, 0, 0, 0, m0), (45, .getfield 128, 8, 27, 0, 0, 767, m0), (48, .iload_n 2, 0, 0, 0, 0, 0, m0), (49, .iastore, 0, 0, 0, 0, 0, m0), (50, .aload_n 0, 0, 0, 0, 0, 0, m0), (51, .dup, 0, 0, 0, 0, 0, m0), (52, .getfield 128, 8, 27, 0, 0, 767, m0), (55, .iconst 1, 1, 0, 0, 0, 0, m0), (56, .iadd, 0, 0, 0, 0, 0, m0), (57, .putfield 128, 8, 27, 0, 0, 767, m0), (60, .aload_n 0, 0, 0, 0, 0, 0, m0), (61, .getfield 128, 8, 27, 0, 0, 767, m0), (64, .ireturn, 0, 0, 0, 0, 0, m0)]
theorem oX8_hears_30 : okB mX8_hears 65 kX8_hears_30 30 = true := by decide +kernel
def kX8_forget_0 : List mI := [(0, .aload_n 0, 0, 0, 0, 0, 0, m0), (1, .getfield 128, 8, 27, 0, 0, 767, m0), (4, .istore_n 1, 0, 0, 0, 0, 0, m0), (5, .aload_n 0, 0, 0, 0, 0, 0, m0), (6, .iconst 0, 0, 0, 0, 0, 0, m0), (7, .putfield 128, 8, 27, 0, 0, 767, m0), (10, .iload_n 1, 0, 0, 0, 0, 0, m0), (11, .ireturn, 0, 0, 0, 0, 0, m0)]
theorem oX8_forget_0 : okB mX8_forget 12 kX8_forget_0 0 = true := by decide +kernel
def kX8_isSo_0 : List mI := [(0, .iconst 1, 1, 0, 0, 0, 0, m0), (1, .istore_n 2, 0, 0, 0, 0, 0, m0), (2, .iconst 0, 0, 0, 0, 0, 0, m0), (3, .istore_n 3, 0, 0, 0, 0, 0, m0)]
theorem oX8_isSo_0 : okB mX8_isSo 4 kX8_isSo_0 0 = true := by decide +kernel
def kX8_isSo_4 : List mI := [(4, .iload_n 3, 0, 0, 0, 0, 0, m0), (5, .aload_n 0, 0, 0, 0, 0, 0, m0), (6, .getfield 128, 8, 27, 0, 0, 767, m0), (9, .if_icmp .ge 57, 66, 0, 0, 0, 0, m0), (12, .iload_n 2, 0, 0, 0, 0, 0, m0), (13, .ifCond .eq 45, 58, 0, 0, 0, 0, m0), (16, .aload_n 0, 0, 0, 0, 0, 0, m0), (17, .getfield 35, 8, 9, 0, 0, 749, m0), (20, .aload_n 0, 0, 0, 0, 0, 0, m0), (21, .getfield 66, 8, 25, 0, 0, 765, m0), (24, .iload_n 3, 0, 0, 0, 0, 0, m0), (25, .iaload, 0, 0, 0, 0, 0, m0), (26, .iaload, 0, 0, 0, 0, 0, m0), (27, .iload_n 1, 0, 0, 0, 0, 0, m0), (28, .if_icmp .gt 7, 35, 0, 0, 0, 0, m0), (31, .iconst 1, 1, 0, 0, 0, 0, m0), (32, .goto 4, 36, 0, 0, 0, 0, m0)]
theorem oX8_isSo_4 : okB mX8_isSo 35 kX8_isSo_4 4 = true := by decide +kernel
def kX8_isSo_35 : List mI := [(35, .iconst 0, 0, 0, 0, 0, 0, m0)]
theorem oX8_isSo_35 : okB mX8_isSo 36 kX8_isSo_35 35 = true := by decide +kernel
def kX8_isSo_36 : List mI := [(36, .aload_n 0, 0, 0, 0, 0, 0, m0), (37, .getfield 69, 8, 26, 0, 0, 766, m0), (40, .iload_n 3, 0, 0, 0, 0, 0, m0), (41, .iaload, 0, 0, 0, 0, 0, m0), (42, .iconst 1, 1, 0, 0, 0, 0, m0), (43, .if_icmp .ne 7, 50, 0, 0, 0, 0, m0), (46, .iconst 1, 1, 0, 0, 0, 0, m0), (47, .goto 4, 51, 0, 0, 0, 0, m0)]
theorem oX8_isSo_36 : okB mX8_isSo 50 kX8_isSo_36 36 = true := by decide +kernel
def kX8_isSo_50 : List mI := [(50, .iconst 0, 0, 0, 0, 0, 0, m0)]
theorem oX8_isSo_50 : okB mX8_isSo 51 kX8_isSo_50 50 = true := by decide +kernel
def kX8_isSo_51 : List mI := [(51, .if_icmp .ne 7, 58, 0, 0, 0, 0, m0), (54, .iconst 1, 1, 0, 0, 0, 0, m0), (55, .goto 4, 59, 0, 0, 0, 0, m0)]
theorem oX8_isSo_51 : okB mX8_isSo 58 kX8_isSo_51 51 = true := by decide +kernel
def kX8_isSo_58 : List mI := [(58, .iconst 0, 0, 0, 0, 0, 0, m0)]
theorem oX8_isSo_58 : okB mX8_isSo 59 kX8_isSo_58 58 = true := by decide +kernel
def kX8_isSo_59 : List mI := [(59, .istore_n 2, 0, 0, 0, 0, 0, m0), (60, .iinc 3 1, 1, 0, 0, 0, 0, m0), (63, .goto (-59), 4, 0, 0, 0, 0, m0)]
theorem oX8_isSo_59 : okB mX8_isSo 66 kX8_isSo_59 59 = true := by decide +kernel
def kX8_isSo_66 : List mI := [(66, .iload_n 2, 0, 0, 0, 0, 0, m0), (67, .ireturn, 1, 0, 0, 0, 0, m0)]
theorem oX8_isSo_66 : okB mX8_isSo 68 kX8_isSo_66 66 = true := by decide +kernel
def kX8_worths_0 : List mI := [(0, .iload_n 1, 0, 0, 0, 0, 0, m0), (1, .iconst 0, 0, 0, 0, 0, 0, m0), (2, .iconst 2, 2, 0, 0, 0, 0, m0), (3, .invokestatic 72, 0, 3, 0, 0, 833, mX8_in), (6, .ifCond .ne 5, 11, 0, 0, 0, 0, m0), (9, .iconst (-1), 1, 1, 0, 0, 0, m0), (10, .ireturn, 0, 0, 0, 0, 0, m0)]
theorem oX8_worths_0 : okB mX8_worths 11 kX8_worths_0 0 = true := by decide +kernel
def kX8_worths_11 : List mI := [(11, .iconst 0, 0, 0, 0, 0, 0, m0), (12, .istore_n 2, 0, 0, 0, 0, 0, m0), (13, .bipush (-9), 9, 1, 0, 0, 0, m0), (15, .istore_n 3, 0, 0, 0, 0, 0, m0), (16, .bipush (-9), 9, 1, 0, 0, 0, m0), (18, .istore 4, 0, 0, 0, 0, 0, m0), (20, .iconst 0, 0, 0, 0, 0, 0, m0), (21, .istore 5, 0, 0, 0, 0, 0, m0)]
theorem oX8_worths_11 : okB mX8_worths 23 kX8_worths_11 11 = true := by decide +kernel
def kX8_worths_23 : List mI := [(23, .iload 5, 0, 0, 0, 0, 0, m0), (25, .bipush 30, 30, 0, 0, 0, 0, m0), (27, .if_icmp .gt 36, 63, 0, 0, 0, 0, m0), (30, .aload_n 0, 0, 0, 0, 0, 0, m0), (31, .iload 5, 0, 0, 0, 0, 0, m0), (33, .invokevirtual 195, 8, 1, 0, 0, 1026, mX8_isSo), (36, .ifCond .eq 21, 57, 0, 0, 0, 0, m0), (39, .iload_n 2, 0, 0, 0, 0, 0, m0), (40, .ifCond .ne 8, 48, 0, 0, 0, 0, m0), (43, .iload 5, 0, 0, 0, 0, 0, m0), (45, .goto 4, 49, 0, 0, 0, 0, m0)]
theorem oX8_worths_23 : okB mX8_worths 48 kX8_worths_23 23 = true := by decide +kernel
def kX8_worths_48 : List mI := [(48, .iload_n 3, 0, 0, 0, 0, 0, m0)]
theorem oX8_worths_48 : okB mX8_worths 49 kX8_worths_48 48 = true := by decide +kernel
def kX8_worths_49 : List mI := [(49, .istore_n 3, 0, 0, 0, 0, 0, m0), (50, .iload 5, 0, 0, 0, 0, 0, m0), (52, .istore 4, 0, 0, 0, 0, 0, m0), (54, .iinc 2 1, 1, 0, 0, 0, 0, m0)]
theorem oX8_worths_49 : okB mX8_worths 57 kX8_worths_49 49 = true := by decide +kernel
def kX8_worths_57 : List mI := [(57, .iinc 5 1, 1, 0, 0, 0, 0, m0), (60, .goto (-37), 23, 0, 0, 0, 0, m0)]
theorem oX8_worths_57 : okB mX8_worths 63 kX8_worths_57 57 = true := by decide +kernel
def kX8_worths_63 : List mI := [(63, .iload_n 1, 0, 0, 0, 0, 0, m0), (64, .ifCond .ne 7, 71, 0, 0, 0, 0, m0), (67, .iload_n 2, 0, 0, 0, 0, 0, m0), (68, .goto 14, 82, 0, 0, 0, 0, m0)]
theorem oX8_worths_63 : okB mX8_worths 71 kX8_worths_63 63 = true := by decide +kernel
def kX8_worths_71 : List mI := [(71, .iload_n 1, 0, 0, 0, 0, 0, m0), (72, .iconst 1, 1, 0, 0, 0, 0, m0), (73, .if_icmp .ne 7, 80, 0, 0, 0, 0, m0), (76, .iload_n 3, 0, 0, 0, 0, 0, m0), (77, .goto 5, 82, 0, 0, 0, 0, m0)]
theorem oX8_worths_71 : okB mX8_worths 80 kX8_worths_71 71 = true := by decide +kernel
def kX8_worths_80 : List mI := [(80, .iload 4, 0, 0, 0, 0, 0, m0)]
theorem oX8_worths_80 : okB mX8_worths 82 kX8_worths_80 80 = true := by decide +kernel
def kX8_worths_82 : List mI := [(82, .ireturn, 0, 0, 0, 0, 0, m0)]
theorem oX8_worths_82 : okB mX8_worths 83 kX8_worths_82 82 = true := by decide +kernel
def kX8_ask_0 : List mI := [(0, .aload_n 0, 0, 0, 0, 0, 0, m0), (1, .iconst 0, 0, 0, 0, 0, 0, m0), (2, .invokevirtual 198, 8, 1, 0, 0, 1034, mX8_worths), (5, .istore_n 1, 0, 0, 0, 0, 0, m0), (6, .bipush (-9), 9, 1, 0, 0, 0, m0), (8, .istore_n 2, 0, 0, 0, 0, 0, m0), (9, .iload_n 1, 0, 0, 0, 0, 0, m0), (10, .istore_n 3, 0, 0, 0, 0, 0, m0), (11, .iconst 0, 0, 0, 0, 0, 0, m0), (12, .istore 4, 0, 0, 0, 0, 0, m0)]
theorem oX8_ask_0 : okB mX8_ask 14 kX8_ask_0 0 = true := by decide +kernel
def kX8_ask_14 : List mI := [(14, .iload 4, 0, 0, 0, 0, 0, m0), (16, .aload_n 0, 0, 0, 0, 0, 0, m0), (17, .getfield 32, 8, 8, 0, 0, 748, m0), (20, .iconst 0, 0, 0, 0, 0, 0, m0), (21, .iaload, 0, 0, 0, 0, 0, m0), (22, .if_icmp .ge 105, 127, 0, 0, 0, 0, m0), (25, .iconst 0, 0, 0, 0, 0, 0, m0), (26, .istore 5, 0, 0, 0, 0, 0, m0), (28, .iconst 0, 0, 0, 0, 0, 0, m0), (29, .istore 6, 0, 0, 0, 0, 0, m0)]
theorem oX8_ask_14 : okB mX8_ask 31 kX8_ask_14 14 = true := by decide +kernel
def kX8_ask_31 : List mI := [(31, .iload 6, 0, 0, 0, 0, 0, m0), (33, .bipush 30, 30, 0, 0, 0, 0, m0), (35, .if_icmp .gt 40, 75, 0, 0, 0, 0, m0), (38, .iload 5, 0, 0, 0, 0, 0, m0), (40, .aload_n 0, 0, 0, 0, 0, 0, m0), (41, .iload 6, 0, 0, 0, 0, 0, m0), (43, .invokevirtual 195, 8, 1, 0, 0, 1026, mX8_isSo), (46, .ifCond .eq 19, 65, 0, 0, 0, 0, m0), (49, .aload_n 0, 0, 0, 0, 0, 0, m0), (50, .getfield 35, 8, 9, 0, 0, 749, m0), (53, .iload 4, 0, 0, 0, 0, 0, m0), (55, .iaload, 0, 0, 0, 0, 0, m0), (56, .iload 6, 0, 0, 0, 0, 0, m0), (58, .if_icmp .gt 7, 65, 0, 0, 0, 0, m0), (61, .iconst 1, 1, 0, 0, 0, 0, m0), (62, .goto 4, 66, 0, 0, 0, 0, m0)]
theorem oX8_ask_31 : okB mX8_ask 65 kX8_ask_31 31 = true := by decide +kernel
def kX8_ask_65 : List mI := [(65, .iconst 0, 0, 0, 0, 0, 0, m0)]
theorem oX8_ask_65 : okB mX8_ask 66 kX8_ask_65 65 = true := by decide +kernel
def kX8_ask_66 : List mI := [(66, .iadd, 0, 0, 0, 0, 0, m0), (67, .istore 5, 0, 0, 0, 0, 0, m0), (69, .iinc 6 1, 1, 0, 0, 0, 0, m0), (72, .goto (-41), 31, 0, 0, 0, 0, m0)]
theorem oX8_ask_66 : okB mX8_ask 75 kX8_ask_66 66 = true := by decide +kernel
def kX8_ask_75 : List mI := [(75, .iload 5, 0, 0, 0, 0, 0, m0), (77, .iload_n 1, 0, 0, 0, 0, 0, m0), (78, .iload 5, 0, 0, 0, 0, 0, m0), (80, .isub, 0, 0, 0, 0, 0, m0), (81, .if_icmp .le 8, 89, 0, 0, 0, 0, m0), (84, .iload 5, 0, 0, 0, 0, 0, m0), (86, .goto 7, 93, 0, 0, 0, 0, m0)]
theorem oX8_ask_75 : okB mX8_ask 89 kX8_ask_75 75 = true := by decide +kernel
def kX8_ask_89 : List mI := [(89, .iload_n 1, 0, 0, 0, 0, 0, m0), (90, .iload 5, 0, 0, 0, 0, 0, m0), (92, .isub, 0, 0, 0, 0, 0, m0)]
theorem oX8_ask_89 : okB mX8_ask 93 kX8_ask_89 89 = true := by decide +kernel
def kX8_ask_93 : List mI := [(93, .istore 6, 0, 0, 0, 0, 0, m0), (95, .iload 6, 0, 0, 0, 0, 0, m0), (97, .iload_n 3, 0, 0, 0, 0, 0, m0), (98, .if_icmp .ge 8, 106, 0, 0, 0, 0, m0), (101, .iload 4, 0, 0, 0, 0, 0, m0), (103, .goto 4, 107, 0, 0, 0, 0, m0)]
theorem oX8_ask_93 : okB mX8_ask 106 kX8_ask_93 93 = true := by decide +kernel
def kX8_ask_106 : List mI := [(106, .iload_n 2, 0, 0, 0, 0, 0, m0)]
theorem oX8_ask_106 : okB mX8_ask 107 kX8_ask_106 106 = true := by decide +kernel
def kX8_ask_107 : List mI := [(107, .istore_n 2, 0, 0, 0, 0, 0, m0), (108, .iload 6, 0, 0, 0, 0, 0, m0), (110, .iload_n 3, 0, 0, 0, 0, 0, m0), (111, .if_icmp .ge 8, 119, 0, 0, 0, 0, m0), (114, .iload 6, 0, 0, 0, 0, 0, m0), (116, .goto 4, 120, 0, 0, 0, 0, m0)]
theorem oX8_ask_107 : okB mX8_ask 119 kX8_ask_107 107 = true := by decide +kernel
def kX8_ask_119 : List mI := [(119, .iload_n 3, 0, 0, 0, 0, 0, m0)]
theorem oX8_ask_119 : okB mX8_ask 120 kX8_ask_119 119 = true := by decide +kernel
def kX8_ask_120 : List mI := [(120, .istore_n 3, 0, 0, 0, 0, 0, m0), (121, .iinc 4 1, 1, 0, 0, 0, 0, m0), (124, .goto (-110), 14, 0, 0, 0, 0, m0)]
theorem oX8_ask_120 : okB mX8_ask 127 kX8_ask_120 120 = true := by decide +kernel
def kX8_ask_127 : List mI := [(127, .iload_n 2, 0, 0, 0, 0, 0, m0), (128, .ireturn, 0, 0, 0, 0, 0, m0)]
theorem oX8_ask_127 : okB mX8_ask 129 kX8_ask_127 127 = true := by decide +kernel
def kX8_bodiesOf_0 : List mI := [(0, .iload_n 0, 0, 0, 0, 0, 0, m0), (1, .tableswitch 47 0 4 #[35, 37, 39, 41, 44], 0, 0, 0, 0, 0, m0)]
theorem oX8_bodiesOf_0 : okB mX8_bodiesOf 36 kX8_bodiesOf_0 0 = true := by decide +kernel
def kX8_bodiesOf_36 : List mI := [(36, .iconst 1, 1, 0, 0, 0, 0, m0), (37, .ireturn, 0, 0, 0, 0, 0, m0)]
theorem oX8_bodiesOf_36 : okB mX8_bodiesOf 38 kX8_bodiesOf_36 36 = true := by decide +kernel
def kX8_bodiesOf_38 : List mI := [(38, .iconst 3, 3, 0, 0, 0, 0, m0), (39, .ireturn, 0, 0, 0, 0, 0, m0)]
theorem oX8_bodiesOf_38 : okB mX8_bodiesOf 40 kX8_bodiesOf_38 38 = true := by decide +kernel
def kX8_bodiesOf_40 : List mI := [(40, .iconst 5, 5, 0, 0, 0, 0, m0), (41, .ireturn, 0, 0, 0, 0, 0, m0)]
theorem oX8_bodiesOf_40 : okB mX8_bodiesOf 42 kX8_bodiesOf_40 40 = true := by decide +kernel
def kX8_bodiesOf_42 : List mI := [(42, .bipush 11, 11, 0, 0, 0, 0, m0), (44, .ireturn, 0, 0, 0, 0, 0, m0)]
theorem oX8_bodiesOf_42 : okB mX8_bodiesOf 45 kX8_bodiesOf_42 42 = true := by decide +kernel
def kX8_bodiesOf_45 : List mI := [(45, .bipush 21, 21, 0, 0, 0, 0, m0), (47, .ireturn, 0, 0, 0, 0, 0, m0)]
theorem oX8_bodiesOf_45 : okB mX8_bodiesOf 48 kX8_bodiesOf_45 45 = true := by decide +kernel
def kX8_bodiesOf_48 : List mI := [(48, .bipush 33, 33, 0, 0, 0, 0, m0), (50, .ireturn, 0, 0, 0, 0, 0, m0)]
theorem oX8_bodiesOf_48 : okB mX8_bodiesOf 51 kX8_bodiesOf_48 48 = true := by decide +kernel
def kX8_mark_0 : List mI := [(0, .iload_n 1, 0, 0, 0, 0, 0, m0), (1, .iconst 0, 0, 0, 0, 0, 0, m0), (2, .iconst 5, 5, 0, 0, 0, 0, m0), (3, .invokestatic 72, 0, 3, 0, 0, 833, mX8_in), (6, .ifCond .eq 11, 17, 0, 0, 0, 0, m0), (9, .aload_n 0, 0, 0, 0, 0, 0, m0), (10, .iload_n 2, 0, 0, 0, 0, 0, m0), (11, .invokevirtual 138, 8, 1, 0, 0, 880, mX8_isBrick), (14, .ifCond .ne 6, 20, 0, 0, 0, 0, m0)]
theorem oX8_mark_0 : okB mX8_mark 17 kX8_mark_0 0 = true := by decide +kernel
def kX8_mark_17 : List mI := [(17, .ldc 201, 1000000, 1, 0, 0, 1039, m0), (19, .ireturn, 0, 0, 0, 0, 0, m0)]
theorem oX8_mark_17 : okB mX8_mark 20 kX8_mark_17 17 = true := by decide +kernel
def kX8_mark_20 : List mI := [(20, .iload_n 1, 0, 0, 0, 0, 0, m0), (21, .invokestatic 202, 0, 1, 0, 0, 1040, mX8_bodiesOf), (24, .istore_n 3, 0, 0, 0, 0, 0, m0), (25, .lconst 1, 1, 0, 0, 0, 0, m0), (26, .lstore 4, 0, 0, 0, 0, 0, m0), (28, .iconst 0, 0, 0, 0, 0, 0, m0), (29, .istore 6, 0, 0, 0, 0, 0, m0)]
theorem oX8_mark_20 : okB mX8_mark 31 kX8_mark_20 20 = true := by decide +kernel
def kX8_mark_31 : List mI := [(31, .iload 6, 0, 0, 0, 0, 0, m0), (33, .bipush 6, 6, 0, 0, 0, 0, m0), (35, .if_icmp .ge 41, 76, 0, 0, 0, 0, m0), (38, .aload_n 0, 0, 0, 0, 0, 0, m0), (39, .dup, 0, 0, 0, 0, 0, m0), (40, .getfield 205, 8, 28, 0, 0, 768, m0), (43, .iload_n 3, 0, 0, 0, 0, 0, m0), (44, .iload 6, 0, 0, 0, 0, 0, m0), (46, .invokestatic 151, 0, 2, 0, 0, 927, mX8_has), (49, .ifCond .eq 8, 57, 0, 0, 0, 0, m0), (52, .lload 4, 0, 0, 0, 0, 0, m0), (54, .goto 4, 58, 0, 0, 0, 0, m0)]
theorem oX8_mark_31 : okB mX8_mark 57 kX8_mark_31 31 = true := by decide +kernel
def kX8_mark_57 : List mI := [(57, .lconst 0, 0, 0, 0, 0, 0, m0)]
theorem oX8_mark_57 : okB mX8_mark 58 kX8_mark_57 57 = true := by decide +kernel
def kX8_mark_58 : List mI := [(58, .ladd, 0, 0, 0, 0, 0, m0), (59, .putfield 205, 8, 28, 2, 0, 768, m0), (62, .lload 4, 0, 0, 0, 0, 0, m0), (64, .ldc2_w 191, 10, 0, 0, 0, 1012, m0), (67, .lmul, 0, 0, 0, 0, 0, m0), (68, .lstore 4, 0, 0, 0, 0, 0, m0), (70, .iinc 6 1, 1, 0, 0, 0, 0, m0), (73, .goto (-42), 31, 0, 0, 0, 0, m0)]
theorem oX8_mark_58 : okB mX8_mark 76 kX8_mark_58 58 = true := by decide +kernel
def kX8_mark_76 : List mI := [(76, .aload_n 0, 0, 0, 0, 0, 0, m0), (77, .getfield 44, 8, 18, 0, 0, 758, m0), (80, .bipush 10, 10, 0, 0, 0, 0, m0), (82, .iload_n 2, 0, 0, 0, 0, 0, m0), (83, .iadd, 0, 0, 0, 0, 0, m0), (84, .iaload, 0, 0, 0, 0, 0, m0), (85, .istore 6, 0, 0, 0, 0, 0, m0), (87, .iload 6, 0, 0, 0, 0, 0, m0), (89, .iload_n 3, 0, 0, 0, 0, 0, m0), (90, .iconst 1, 1, 0, 0, 0, 0, m0), (91, .invokestatic 151, 0, 2, 0, 0, 927, mX8_has), (94, .ifCond .eq 12, 106, 0, 0, 0, 0, m0), (97, .aload_n 0, 0, 0, 0, 0, 0, m0), (98, .getfield 23, 8, 5, 0, 0, 745, m0), (101, .iload_n 2, 0, 0, 0, 0, 0, m0), (102, .iaload, 0, 0, 0, 0, 0, m0), (103, .goto 4, 107, 0, 0, 0, 0, m0)]
theorem oX8_mark_76 : okB mX8_mark 106 kX8_mark_76 76 = true := by decide +kernel
def kX8_mark_106 : List mI := [(106, .iconst 0, 0, 0, 0, 0, 0, m0)]
theorem oX8_mark_106 : okB mX8_mark 107 kX8_mark_106 106 = true := by decide +kernel
def kX8_mark_107 : List mI := [(107, .iadd, 0, 0, 0, 0, 0, m0), (108, .istore 6, 0, 0, 0, 0, 0, m0), (110, .iload 6, 0, 0, 0, 0, 0, m0), (112, .iload_n 3, 0, 0, 0, 0, 0, m0), (113, .iconst 2, 2, 0, 0, 0, 0, m0), (114, .invokestatic 151, 0, 2, 0, 0, 927, mX8_has), (117, .ifCond .eq 11, 128, 0, 0, 0, 0, m0), (120, .aload_n 0, 0, 0, 0, 0, 0, m0), (121, .iconst 4, 4, 0, 0, 0, 0, m0), (122, .invokevirtual 166, 8, 1, 0, 0, 962, mX8_manyOf), (125, .goto 4, 129, 0, 0, 0, 0, m0)]
theorem oX8_mark_107 : okB mX8_mark 128 kX8_mark_107 107 = true := by decide +kernel
def kX8_mark_128 : List mI := [(128, .iconst 0, 0, 0, 0, 0, 0, m0)]
theorem oX8_mark_128 : okB mX8_mark 129 kX8_mark_128 128 = true := by decide +kernel
def kX8_mark_129 : List mI := [(129, .isub, 0, 0, 0, 0, 0, m0), (130, .istore 6, 0, 0, 0, 0, 0, m0), (132, .iload_n 3, 0, 0, 0, 0, 0, m0), (133, .iconst 3, 3, 0, 0, 0, 0, m0), (134, .invokestatic 151, 0, 2, 0, 0, 927, mX8_has), (137, .ifCond .eq 10, 147, 0, 0, 0, 0, m0), (140, .iconst 2, 2, 0, 0, 0, 0, m0), (141, .iload 6, 0, 0, 0, 0, 0, m0), (143, .imul, 0, 0, 0, 0, 0, m0), (144, .goto 5, 149, 0, 0, 0, 0, m0)]
theorem oX8_mark_129 : okB mX8_mark 147 kX8_mark_129 129 = true := by decide +kernel
def kX8_mark_147 : List mI := [(147, .iload 6, 0, 0, 0, 0, 0, m0)]
theorem oX8_mark_147 : okB mX8_mark 149 kX8_mark_147 147 = true := by decide +kernel
def kX8_mark_149 : List mI := [(149, .istore 6, 0, 0, 0, 0, 0, m0), (151, .iload 6, 0, 0, 0, 0, 0, m0), (153, .iload_n 3, 0, 0, 0, 0, 0, m0), (154, .iconst 4, 4, 0, 0, 0, 0, m0), (155, .invokestatic 151, 0, 2, 0, 0, 927, mX8_has), (158, .ifCond .eq 7, 165, 0, 0, 0, 0, m0), (161, .iload_n 2, 0, 0, 0, 0, 0, m0), (162, .goto 4, 166, 0, 0, 0, 0, m0)]
theorem oX8_mark_149 : okB mX8_mark 165 kX8_mark_149 149 = true := by decide +kernel
def kX8_mark_165 : List mI := [(165, .iconst 0, 0, 0, 0, 0, 0, m0)]
theorem oX8_mark_165 : okB mX8_mark 166 kX8_mark_165 165 = true := by decide +kernel
def kX8_mark_166 : List mI := [(166, .iadd, 0, 0, 0, 0, 0, m0), (167, .istore 6, 0, 0, 0, 0, 0, m0), (169, .iload 6, 0, 0, 0, 0, 0, m0), (171, .iload_n 3, 0, 0, 0, 0, 0, m0), (172, .iconst 5, 5, 0, 0, 0, 0, m0), (173, .invokestatic 151, 0, 2, 0, 0, 927, mX8_has), (176, .ifCond .eq 12, 188, 0, 0, 0, 0, m0), (179, .aload_n 0, 0, 0, 0, 0, 0, m0), (180, .getfield 26, 8, 6, 0, 0, 746, m0), (183, .iload_n 2, 0, 0, 0, 0, 0, m0), (184, .iaload, 0, 0, 0, 0, 0, m0), (185, .goto 4, 189, 0, 0, 0, 0, m0)]
theorem oX8_mark_166 : okB mX8_mark 188 kX8_mark_166 166 = true := by decide +kernel
def kX8_mark_188 : List mI := [(188, .iconst 0, 0, 0, 0, 0, 0, m0)]
theorem oX8_mark_188 : okB mX8_mark 189 kX8_mark_188 188 = true := by decide +kernel
def kX8_mark_189 : List mI := [(189, .iadd, 0, 0, 0, 0, 0, m0), (190, .istore 6, 0, 0, 0, 0, 0, m0), (192, .iload 6, 0, 0, 0, 0, 0, m0), (194, .ireturn, 0, 0, 0, 0, 0, m0)]
theorem oX8_mark_189 : okB mX8_mark 195 kX8_mark_189 189 = true := by decide +kernel
def kX8_trace_0 : List mI := [(0, .aload_n 0, 0, 0, 0, 0, 0, m0), (1, .getfield 205, 8, 28, 0, 0, 768, m0), (4, .lreturn, 0, 0, 0, 0, 0, m0)]
theorem oX8_trace_0 : okB mX8_trace 5 kX8_trace_0 0 = true := by decide +kernel
def kX8_keep_0 : List mI := [(0, .iload_n 1, 0, 0, 0, 0, 0, m0), (1, .iconst 0, 0, 0, 0, 0, 0, m0), (2, .iconst 1, 1, 0, 0, 0, 0, m0), (3, .invokestatic 72, 0, 3, 0, 0, 833, mX8_in), (6, .ifCond .ne 5, 11, 0, 0, 0, 0, m0), (9, .iconst (-1), 1, 1, 0, 0, 0, m0), (10, .ireturn, 0, 0, 0, 0, 0, m0)]
theorem oX8_keep_0 : okB mX8_keep 11 kX8_keep_0 0 = true := by decide +kernel
def kX8_keep_11 : List mI := [(11, .iconst 0, 0, 0, 0, 0, 0, m0), (12, .istore_n 2, 0, 0, 0, 0, 0, m0)]
theorem oX8_keep_11 : okB mX8_keep 13 kX8_keep_11 11 = true := by decide +kernel
def kX8_keep_13 : List mI := [(13, .iload_n 2, 0, 0, 0, 0, 0, m0), (14, .bipush 44, 44, 0, 0, 0, 0, m0), (16, .if_icmp .ge 26, 42, 0, 0, 0, 0, m0), (19, .aload_n 0, 0, 0, 0, 0, 0, m0), (20, .getfield 53, 8, 21, 0, 0, 761, m0), (23, .bipush 44, 44, 0, 0, 0, 0, m0), (25, .iload_n 1, 0, 0, 0, 0, 0, m0), (26, .imul, 0, 0, 0, 0, 0, m0), (27, .iload_n 2, 0, 0, 0, 0, 0, m0), (28, .iadd, 0, 0, 0, 0, 0, m0), (29, .aload_n 0, 0, 0, 0, 0, 0, m0), (30, .getfield 44, 8, 18, 0, 0, 758, m0), (33, .iload_n 2, 0, 0, 0, 0, 0, m0), (34, .iaload, 0, 0, 0, 0, 0, m0), (35, .iastore, 0, 0, 0, 0, 0, m0), (36, .iinc 2 1, 1, 0, 0, 0, 0, m0), (39, .goto (-26), 13, 0, 0, 0, 0, m0)]
theorem oX8_keep_13 : okB mX8_keep 42 kX8_keep_13 13 = true := by decide +kernel
def kX8_keep_42 : List mI := [(42, .iconst 0, 0, 0, 0, 0, 0, m0), (43, .istore_n 2, 0, 0, 0, 0, 0, m0)]
theorem oX8_keep_42 : okB mX8_keep 44 kX8_keep_42 42 = true := by decide +kernel
def kX8_keep_44 : List mI := [(44, .iload_n 2, 0, 0, 0, 0, 0, m0), (45, .sipush 440, 440, 0, 0, 0, 0, m0), (48, .if_icmp .ge 29, 77, 0, 0, 0, 0, m0), (51, .aload_n 0, 0, 0, 0, 0, 0, m0), (52, .getfield 50, 8, 20, 0, 0, 760, m0), (55, .sipush 440, 440, 0, 0, 0, 0, m0), (58, .iconst 1, 1, 0, 0, 0, 0, m0), (59, .iload_n 1, 0, 0, 0, 0, 0, m0), (60, .iadd, 0, 0, 0, 0, 0, m0), (61, .imul, 0, 0, 0, 0, 0, m0), (62, .iload_n 2, 0, 0, 0, 0, 0, m0), (63, .iadd, 0, 0, 0, 0, 0, m0), (64, .aload_n 0, 0, 0, 0, 0, 0, m0), (65, .getfield 50, 8, 20, 0, 0, 760, m0), (68, .iload_n 2, 0, 0, 0, 0, 0, m0), (69, .iaload, 0, 0, 0, 0, 0, m0), (70, .iastore, 0, 0, 0, 0, 0, m0), (71, .iinc 2 1, 1, 0, 0, 0, 0, m0), (74, .goto (-30), 44, 0, 0, 0, 0, m0)]
theorem oX8_keep_44 : okB mX8_keep 77 kX8_keep_44 44 = true := by decide +kernel
def kX8_keep_77 : List mI := [(77, .aload_n 0, 0, 0, 0, 0, 0, m0), (78, .getfield 47, 8, 19, 0, 0, 759, m0), (81, .iconst 1, 1, 0, 0, 0, 0, m0), (82, .iload_n 1, 0, 0, 0, 0, 0, m0), (83, .iadd, 0, 0, 0, 0, 0, m0), (84, .aload_n 0, 0, 0, 0, 0, 0, m0), (85, .getfield 47, 8, 19, 0, 0, 759, m0), (88, .iconst 0, 0, 0, 0, 0, 0, m0), (89, .iaload, 0, 0, 0, 0, 0, m0), (90, .iastore, 0, 0, 0, 0, 0, m0), (91, .aload_n 0, 0, 0, 0, 0, 0, m0), (92, .getfield 56, 8, 22, 0, 0, 762, m0), (95, .iload_n 1, 0, 0, 0, 0, 0, m0), (96, .iconst 1, 1, 0, 0, 0, 0, m0), (97, .bastore, 1, 0, 0, 0, 0, m0), (98, .aload_n 0, 0, 0, 0, 0, 0, m0), (99, .iconst 4, 4, 0, 0, 0, 0, m0), (100, .invokevirtual 166, 8, 1, 0, 0, 962, mX8_manyOf), (103, .ireturn, 0, 0, 0, 0, 0, m0)]
theorem oX8_keep_77 : okB mX8_keep 104 kX8_keep_77 77 = true := by decide +kernel
def kX8_back_0 : List mI := [(0, .iload_n 1, 0, 0, 0, 0, 0, m0), (1, .iconst 0, 0, 0, 0, 0, 0, m0), (2, .iconst 1, 1, 0, 0, 0, 0, m0), (3, .invokestatic 72, 0, 3, 0, 0, 833, mX8_in), (6, .ifCond .ne 5, 11, 0, 0, 0, 0, m0), (9, .iconst (-1), 1, 1, 0, 0, 0, m0), (10, .ireturn, 0, 0, 0, 0, 0, m0)]
theorem oX8_back_0 : okB mX8_back 11 kX8_back_0 0 = true := by decide +kernel
def kX8_back_11 : List mI := [(11, .aload_n 0, 0, 0, 0, 0, 0, m0), (12, .getfield 56, 8, 22, 0, 0, 762, m0), (15, .iload_n 1, 0, 0, 0, 0, 0, m0), (16, .baload, 1, 0, 0, 0, 0, m0), (17, .ifCond .ne 6, 23, 0, 0, 0, 0, m0), (20, .bipush (-2), 2, 1, 0, 0, 0, m0), (22, .ireturn, 0, 0, 0, 0, 0, m0)]
theorem oX8_back_11 : okB mX8_back 23 kX8_back_11 11 = true := by decide +kernel
def kX8_back_23 : List mI := [(23, .iconst 0, 0, 0, 0, 0, 0, m0), (24, .istore_n 2, 0, 0, 0, 0, 0, m0)]
theorem oX8_back_23 : okB mX8_back 25 kX8_back_23 23 = true := by decide +kernel
def kX8_back_25 : List mI := [(25, .iload_n 2, 0, 0, 0, 0, 0, m0), (26, .bipush 44, 44, 0, 0, 0, 0, m0), (28, .if_icmp .ge 26, 54, 0, 0, 0, 0, m0), (31, .aload_n 0, 0, 0, 0, 0, 0, m0), (32, .getfield 44, 8, 18, 0, 0, 758, m0), (35, .iload_n 2, 0, 0, 0, 0, 0, m0), (36, .aload_n 0, 0, 0, 0, 0, 0, m0), (37, .getfield 53, 8, 21, 0, 0, 761, m0), (40, .bipush 44, 44, 0, 0, 0, 0, m0), (42, .iload_n 1, 0, 0, 0, 0, 0, m0), (43, .imul, 0, 0, 0, 0, 0, m0), (44, .iload_n 2, 0, 0, 0, 0, 0, m0), (45, .iadd, 0, 0, 0, 0, 0, m0), (46, .iaload, 0, 0, 0, 0, 0, m0), (47, .iastore, 0, 0, 0, 0, 0, m0), (48, .iinc 2 1, 1, 0, 0, 0, 0, m0), (51, .goto (-26), 25, 0, 0, 0, 0, m0)]
theorem oX8_back_25 : okB mX8_back 54 kX8_back_25 25 = true := by decide +kernel
def kX8_back_54 : List mI := [(54, .iconst 0, 0, 0, 0, 0, 0, m0), (55, .istore_n 2, 0, 0, 0, 0, 0, m0)]
theorem oX8_back_54 : okB mX8_back 56 kX8_back_54 54 = true := by decide +kernel
def kX8_back_56 : List mI := [(56, .iload_n 2, 0, 0, 0, 0, 0, m0), (57, .sipush 440, 440, 0, 0, 0, 0, m0), (60, .if_icmp .ge 29, 89, 0, 0, 0, 0, m0), (63, .aload_n 0, 0, 0, 0, 0, 0, m0), (64, .getfield 50, 8, 20, 0, 0, 760, m0), (67, .iload_n 2, 0, 0, 0, 0, 0, m0), (68, .aload_n 0, 0, 0, 0, 0, 0, m0), (69, .getfield 50, 8, 20, 0, 0, 760, m0), (72, .sipush 440, 440, 0, 0, 0, 0, m0), (75, .iconst 1, 1, 0, 0, 0, 0, m0), (76, .iload_n 1, 0, 0, 0, 0, 0, m0), (77, .iadd, 0, 0, 0, 0, 0, m0), (78, .imul, 0, 0, 0, 0, 0, m0), (79, .iload_n 2, 0, 0, 0, 0, 0, m0), (80, .iadd, 0, 0, 0, 0, 0, m0), (81, .iaload, 0, 0, 0, 0, 0, m0), (82, .iastore, 0, 0, 0, 0, 0, m0), (83, .iinc 2 1, 1, 0, 0, 0, 0, m0), (86, .goto (-30), 56, 0, 0, 0, 0, m0)]
theorem oX8_back_56 : okB mX8_back 89 kX8_back_56 56 = true := by decide +kernel
def kX8_back_89 : List mI := [(89, .aload_n 0, 0, 0, 0, 0, 0, m0), (90, .getfield 47, 8, 19, 0, 0, 759, m0), (93, .iconst 0, 0, 0, 0, 0, 0, m0), (94, .aload_n 0, 0, 0, 0, 0, 0, m0), (95, .getfield 47, 8, 19, 0, 0, 759, m0), (98, .iconst 1, 1, 0, 0, 0, 0, m0), (99, .iload_n 1, 0, 0, 0, 0, 0, m0), (100, .iadd, 0, 0, 0, 0, 0, m0), (101, .iaload, 0, 0, 0, 0, 0, m0), (102, .iastore, 0, 0, 0, 0, 0, m0), (103, .aload_n 0, 0, 0, 0, 0, 0, m0), (104, .iconst 4, 4, 0, 0, 0, 0, m0), (105, .invokevirtual 166, 8, 1, 0, 0, 962, mX8_manyOf), (108, .ireturn, 0, 0, 0, 0, 0, m0)]
theorem oX8_back_89 : okB mX8_back 109 kX8_back_89 89 = true := by decide +kernel
def kX8_count_0 : List mI := [(0, .iload_n 1, 0, 0, 0, 0, 0, m0), (1, .tableswitch 99 0 7 #[47, 54, 61, 68, 75, 82, 87, 94], 0, 0, 0, 0, 0, m0)]
theorem oX8_count_0 : okB mX8_count 48 kX8_count_0 0 = true := by decide +kernel
def kX8_count_48 : List mI := [(48, .aload_n 0, 0, 0, 0, 0, 0, m0), (49, .getfield 13, 8, 2, 0, 0, 742, m0), (52, .iconst 0, 0, 0, 0, 0, 0, m0), (53, .iaload, 0, 0, 0, 0, 0, m0), (54, .ireturn, 0, 0, 0, 0, 0, m0)]
theorem oX8_count_48 : okB mX8_count 55 kX8_count_48 48 = true := by decide +kernel
def kX8_count_55 : List mI := [(55, .aload_n 0, 0, 0, 0, 0, 0, m0), (56, .getfield 13, 8, 2, 0, 0, 742, m0), (59, .iconst 1, 1, 0, 0, 0, 0, m0), (60, .iaload, 0, 0, 0, 0, 0, m0), (61, .ireturn, 0, 0, 0, 0, 0, m0)]
theorem oX8_count_55 : okB mX8_count 62 kX8_count_55 55 = true := by decide +kernel
def kX8_count_62 : List mI := [(62, .aload_n 0, 0, 0, 0, 0, 0, m0), (63, .getfield 20, 8, 4, 0, 0, 744, m0), (66, .iconst 0, 0, 0, 0, 0, 0, m0), (67, .iaload, 0, 0, 0, 0, 0, m0), (68, .ireturn, 0, 0, 0, 0, 0, m0)]
theorem oX8_count_62 : okB mX8_count 69 kX8_count_62 62 = true := by decide +kernel
def kX8_count_69 : List mI := [(69, .aload_n 0, 0, 0, 0, 0, 0, m0), (70, .getfield 32, 8, 8, 0, 0, 748, m0), (73, .iconst 0, 0, 0, 0, 0, 0, m0), (74, .iaload, 0, 0, 0, 0, 0, m0), (75, .ireturn, 0, 0, 0, 0, 0, m0)]
theorem oX8_count_69 : okB mX8_count 76 kX8_count_69 69 = true := by decide +kernel
def kX8_count_76 : List mI := [(76, .aload_n 0, 0, 0, 0, 0, 0, m0), (77, .getfield 38, 8, 10, 0, 0, 750, m0), (80, .iconst 0, 0, 0, 0, 0, 0, m0), (81, .iaload, 0, 0, 0, 0, 0, m0), (82, .ireturn, 0, 0, 0, 0, 0, m0)]
theorem oX8_count_76 : okB mX8_count 83 kX8_count_76 76 = true := by decide +kernel
def kX8_count_83 : List mI := [(83, .aload_n 0, 0, 0, 0, 0, 0, m0), (84, .getfield 128, 8, 27, 0, 0, 767, m0), (87, .ireturn, 0, 0, 0, 0, 0, m0)]
theorem oX8_count_83 : okB mX8_count 88 kX8_count_83 83 = true := by decide +kernel
def kX8_count_88 : List mI := [(88, .aload_n 0, 0, 0, 0, 0, 0, m0), (89, .getfield 47, 8, 19, 0, 0, 759, m0), (92, .iconst 0, 0, 0, 0, 0, 0, m0), (93, .iaload, 0, 0, 0, 0, 0, m0), (94, .ireturn, 0, 0, 0, 0, 0, m0)]
theorem oX8_count_88 : okB mX8_count 95 kX8_count_88 88 = true := by decide +kernel
def kX8_count_95 : List mI := [(95, .aload_n 0, 0, 0, 0, 0, 0, m0), (96, .getfield 76, 8, 1, 0, 0, 741, m0), (99, .ireturn, 0, 0, 0, 0, 0, m0)]
theorem oX8_count_95 : okB mX8_count 100 kX8_count_95 95 = true := by decide +kernel
def kX8_count_100 : List mI := [(100, .iconst (-1), 1, 1, 0, 0, 0, m0), (101, .ireturn, 0, 0, 0, 0, 0, m0)]
theorem oX8_count_100 : okB mX8_count 102 kX8_count_100 100 = true := by decide +kernel

/-! the code of the methods, each entry checked -/
def zl_135 : List (Nat × zx_En) := [(0, .aload_n 0, 0, 0, 0), (1, .iload_n 1, 0, 0, 0), (2, .iload_n 2, 0, 0, 0), (3, .iconst (0), 0, 0, 0), (4, .invokevirtual 266, 136, 4, 4), (7, .istore_n 3, 0, 0, 0), (8, .iload_n 3, 0, 0, 0), (9, .ifCond .eq (11), 0, 20, 0),
  (12, .aload_n 0, 0, 0, 0), (13, .iload_n 3, 0, 0, 0), (14, .invokevirtual 69, 10, 2, 4), (17, .goto (10), 0, 27, 0), (20, .aload_n 0, 0, 0, 0), (21, .iload_n 1, 0, 0, 0), (22, .iload_n 2, 0, 0, 0), (23, .iconst (-1), 0, 0, 0),
  (24, .invokevirtual 270, 137, 4, 4), (27, .ireturn, 0, 0, 0)]
theorem zc_135 : zl_135.all (fun q => zt_chk 135 q.1 q.2) = true := by decide +kernel
def zl_136 : List (Nat × zx_En) := [(0, .iload_n 1, 0, 0, 0), (1, .invokestatic 62, 8, 1, -1), (4, .ifCond .eq (14), 0, 18, 0), (7, .iload_n 2, 0, 0, 0), (8, .iload_n 3, 0, 0, 0), (9, .if_icmp .lt (9), 0, 18, 0), (12, .iload_n 2, 0, 0, 0), (13, .bipush (8), 0, 0, 0),
  (15, .if_icmp .le (6), 0, 21, 0), (18, .bipush (-2), 0, 0, 0), (20, .ireturn, 0, 0, 0), (21, .aload_n 0, 0, 0, 0), (22, .getfield 32, 4, 4, 1), (25, .iload_n 1, 0, 0, 0), (26, .invokevirtual 77, 19, 2, 2), (29, .istore 4, 0, 0, 0),
  (31, .iload 4, 0, 0, 0), (33, .ifCond .eq (6), 0, 39, 0), (36, .iload 4, 0, 0, 0), (38, .ireturn, 0, 0, 0), (39, .iload_n 2, 0, 0, 0), (40, .aload_n 0, 0, 0, 0), (41, .getfield 32, 4, 4, 1), (44, .iload_n 1, 0, 0, 0),
  (45, .invokevirtual 80, 15, 2, 2), (48, .if_icmp .le (8), 0, 56, 0), (51, .bipush (-2), 0, 0, 0), (53, .goto (4), 0, 57, 0), (56, .iconst (0), 0, 0, 0), (57, .ireturn, 0, 0, 0)]
theorem zc_136 : zl_136.all (fun q => zt_chk 136 q.1 q.2) = true := by decide +kernel
def zl_137 : List (Nat × zx_En) := [(0, .aload_n 0, 0, 0, 0), (1, .getfield 12, 4, 0, 1), (4, .iconst (-1), 0, 0, 0), (5, .invokevirtual 210, 43, 2, 0), (8, .istore 4, 0, 0, 0), (10, .aload_n 0, 0, 0, 0), (11, .getfield 12, 4, 0, 1), (14, .getfield 181, 0, 3, 0),
  (17, .istore 5, 0, 0, 0), (19, .iconst (0), 0, 0, 0), (20, .istore 6, 0, 0, 0), (22, .iload 6, 0, 0, 0), (24, .iload_n 2, 0, 0, 0), (25, .if_icmp .ge (101), 0, 126, 0), (28, .iload 6, 0, 0, 0), (30, .iload_n 3, 0, 0, 0),
  (31, .if_icmp .ne (6), 0, 37, 0), (34, .goto (86), 0, 120, 0), (37, .aload_n 0, 0, 0, 0), (38, .getfield 32, 4, 4, 1), (41, .iload_n 1, 0, 0, 0), (42, .iload 6, 0, 0, 0), (44, .invokevirtual 95, 23, 3, 2), (47, .lstore 7, 0, 0, 0),
  (49, .lload 7, 0, 0, 0), (51, .lconst 0, 0, 0, 0), (52, .lcmp, 0, 0, 0), (53, .ifCond .lt (30), 0, 83, 0), (56, .lload 7, 0, 0, 0), (58, .ldc2_w 276, 0, 0, 10), (61, .ldiv, 0, 0, 0), (62, .aload_n 0, 0, 0, 0),
  (63, .getfield 12, 4, 0, 1), (66, .aload_n 0, 0, 0, 0), (67, .getfield 12, 4, 0, 1), (70, .getfield 167, 0, 2, 0), (73, .iload 5, 0, 0, 0), (75, .invokevirtual 213, 46, 3, 0), (78, .i2l, 0, 0, 0), (79, .lcmp, 0, 0, 0),
  (80, .ifCond .eq (6), 0, 86, 0), (83, .iload 6, 0, 0, 0), (85, .ireturn, 0, 0, 0), (86, .lload 7, 0, 0, 0), (88, .ldc2_w 276, 0, 0, 10), (91, .lrem, 0, 0, 0), (92, .l2i, 0, 0, 0), (93, .istore 9, 0, 0, 0),
  (95, .iload 4, 0, 0, 0), (97, .iload 9, 0, 0, 0), (99, .invokestatic 347, 53, 2, -1), (102, .ifCond .ne (6), 0, 108, 0), (105, .iload 6, 0, 0, 0), (107, .ireturn, 0, 0, 0), (108, .iload 4, 0, 0, 0), (110, .iload 9, 0, 0, 0),
  (112, .invokestatic 281, 61, 2, -1), (115, .istore 4, 0, 0, 0), (117, .iinc 5 (1), 0, 0, 0), (120, .iinc 6 (1), 0, 0, 0), (123, .goto (-101), 0, 22, 0), (126, .iconst (-1), 0, 0, 0), (127, .ireturn, 0, 0, 0)]
theorem zc_137 : zl_137.all (fun q => zt_chk 137 q.1 q.2) = true := by decide +kernel
def zl_138 : List (Nat × zx_En) := [(0, .aload_n 0, 0, 0, 0), (1, .iload_n 1, 0, 0, 0), (2, .iload_n 2, 0, 0, 0), (3, .iconst (1), 0, 0, 0), (4, .invokevirtual 266, 136, 4, 4), (7, .istore_n 3, 0, 0, 0), (8, .iload_n 3, 0, 0, 0), (9, .ifCond .eq (9), 0, 18, 0),
  (12, .aload_n 0, 0, 0, 0), (13, .iload_n 3, 0, 0, 0), (14, .invokevirtual 69, 10, 2, 4), (17, .ireturn, 0, 0, 0), (18, .iconst (0), 0, 0, 0), (19, .istore 4, 0, 0, 0), (21, .iload 4, 0, 0, 0), (23, .iload_n 2, 0, 0, 0),
  (24, .if_icmp .ge (24), 0, 48, 0), (27, .aload_n 0, 0, 0, 0), (28, .iload_n 1, 0, 0, 0), (29, .iload_n 2, 0, 0, 0), (30, .iload 4, 0, 0, 0), (32, .invokevirtual 270, 137, 4, 4), (35, .iconst (-1), 0, 0, 0), (36, .if_icmp .ne (6), 0, 42, 0),
  (39, .iload 4, 0, 0, 0), (41, .ireturn, 0, 0, 0), (42, .iinc 4 (1), 0, 0, 0), (45, .goto (-24), 0, 21, 0), (48, .iconst (-1), 0, 0, 0), (49, .ireturn, 0, 0, 0)]
theorem zc_138 : zl_138.all (fun q => zt_chk 138 q.1 q.2) = true := by decide +kernel
def zl_139 : List (Nat × zx_En) := [(0, .aload_n 0, 0, 0, 0), (1, .getfield 12, 4, 0, 1), (4, .iload_n 3, 0, 0, 0), (5, .invokevirtual 102, 27, 2, 0), (8, .ifCond .eq (13), 0, 21, 0), (11, .aload_n 0, 0, 0, 0), (12, .iload_n 1, 0, 0, 0), (13, .iload_n 2, 0, 0, 0),
  (14, .iconst (0), 0, 0, 0), (15, .invokevirtual 266, 136, 4, 4), (18, .goto (5), 0, 23, 0), (21, .bipush (-2), 0, 0, 0), (23, .istore 4, 0, 0, 0), (25, .iload 4, 0, 0, 0), (27, .ifCond .eq (10), 0, 37, 0), (30, .aload_n 0, 0, 0, 0),
  (31, .iload 4, 0, 0, 0), (33, .invokevirtual 69, 10, 2, 4), (36, .ireturn, 0, 0, 0), (37, .aload_n 0, 0, 0, 0), (38, .iload_n 1, 0, 0, 0), (39, .iload_n 2, 0, 0, 0), (40, .iconst (-1), 0, 0, 0), (41, .invokevirtual 270, 137, 4, 4),
  (44, .iconst (-1), 0, 0, 0), (45, .if_icmp .eq (10), 0, 55, 0), (48, .aload_n 0, 0, 0, 0), (49, .bipush (-5), 0, 0, 0), (51, .invokevirtual 69, 10, 2, 4), (54, .ireturn, 0, 0, 0), (55, .aload_n 0, 0, 0, 0), (56, .getfield 43, 4, 7, 1),
  (59, .aload_n 0, 0, 0, 0), (60, .getfield 12, 4, 0, 1), (63, .invokevirtual 258, 38, 2, 1), (66, .aload_n 0, 0, 0, 0), (67, .getfield 43, 4, 7, 1), (70, .aload_n 0, 0, 0, 0), (71, .getfield 12, 4, 0, 1), (74, .aload_n 0, 0, 0, 0),
  (75, .getfield 12, 4, 0, 1), (78, .getfield 167, 0, 2, 0), (81, .invokevirtual 227, 45, 3, 1), (84, .bipush (63), 0, 0, 0), (86, .istore 5, 0, 0, 0), (88, .aload_n 0, 0, 0, 0), (89, .getfield 43, 4, 7, 1), (92, .getfield 273, 1, 5, 0),
  (95, .istore 6, 0, 0, 0), (97, .iconst (0), 0, 0, 0), (98, .istore 7, 0, 0, 0), (100, .iload 7, 0, 0, 0), (102, .iload_n 2, 0, 0, 0), (103, .if_icmp .ge (68), 0, 171, 0), (106, .aload_n 0, 0, 0, 0), (107, .getfield 32, 4, 4, 1),
  (110, .iload_n 1, 0, 0, 0), (111, .iload 7, 0, 0, 0), (113, .invokevirtual 95, 23, 3, 2), (116, .lstore 8, 0, 0, 0), (118, .lload 8, 0, 0, 0), (120, .ldc2_w 276, 0, 0, 10), (123, .lrem, 0, 0, 0), (124, .l2i, 0, 0, 0),
  (125, .istore 10, 0, 0, 0), (127, .lload 8, 0, 0, 0), (129, .ldc2_w 276, 0, 0, 10), (132, .ldiv, 0, 0, 0), (133, .iload_n 3, 0, 0, 0), (134, .i2l, 0, 0, 0), (135, .lcmp, 0, 0, 0), (136, .ifCond .ne (20), 0, 156, 0),
  (139, .iload 5, 0, 0, 0), (141, .aload_n 0, 0, 0, 0), (142, .getfield 43, 4, 7, 1), (145, .iload_n 3, 0, 0, 0), (146, .iload 10, 0, 0, 0), (148, .iload 6, 0, 0, 0), (150, .invokevirtual 278, 140, 4, 1), (153, .iand, 0, 0, 0),
  (154, .istore 5, 0, 0, 0), (156, .iload 6, 0, 0, 0), (158, .iload 10, 0, 0, 0), (160, .invokestatic 281, 61, 2, -1), (163, .istore 6, 0, 0, 0), (165, .iinc 7 (1), 0, 0, 0), (168, .goto (-68), 0, 100, 0), (171, .iload 5, 0, 0, 0),
  (173, .ireturn, 0, 0, 0)]
theorem zc_139 : zl_139.all (fun q => zt_chk 139 q.1 q.2) = true := by decide +kernel
def zl_140 : List (Nat × zx_En) := [(0, .iconst (0), 0, 0, 0), (1, .istore 4, 0, 0, 0), (3, .iconst (0), 0, 0, 0), (4, .istore 5, 0, 0, 0), (6, .iload 5, 0, 0, 0), (8, .iconst (5), 0, 0, 0), (9, .if_icmp .gt (30), 0, 39, 0), (12, .aload_n 0, 0, 0, 0),
  (13, .iload_n 1, 0, 0, 0), (14, .iload 5, 0, 0, 0), (16, .iload_n 3, 0, 0, 0), (17, .invokevirtual 97, 50, 4, 1), (20, .iload_n 2, 0, 0, 0), (21, .if_icmp .ne (12), 0, 33, 0), (24, .iload 4, 0, 0, 0), (26, .iconst (1), 0, 0, 0),
  (27, .iload 5, 0, 0, 0), (29, .ishl, 0, 0, 0), (30, .ior, 0, 0, 0), (31, .istore 4, 0, 0, 0), (33, .iinc 5 (1), 0, 0, 0), (36, .goto (-30), 0, 6, 0), (39, .iload 4, 0, 0, 0), (41, .ireturn, 0, 0, 0)]
theorem zc_140 : zl_140.all (fun q => zt_chk 140 q.1 q.2) = true := by decide +kernel
def zl_141 : List (Nat × zx_En) := [(0, .aload_n 0, 0, 0, 0), (1, .iload_n 1, 0, 0, 0), (2, .iload_n 2, 0, 0, 0), (3, .iconst (0), 0, 0, 0), (4, .invokevirtual 266, 136, 4, 4), (7, .istore_n 3, 0, 0, 0), (8, .iload_n 3, 0, 0, 0), (9, .ifCond .eq (9), 0, 18, 0),
  (12, .aload_n 0, 0, 0, 0), (13, .iload_n 3, 0, 0, 0), (14, .invokevirtual 69, 10, 2, 4), (17, .ireturn, 0, 0, 0), (18, .aload_n 0, 0, 0, 0), (19, .iload_n 1, 0, 0, 0), (20, .iload_n 2, 0, 0, 0), (21, .iconst (-1), 0, 0, 0),
  (22, .invokevirtual 270, 137, 4, 4), (25, .iconst (-1), 0, 0, 0), (26, .if_icmp .ne (17), 0, 43, 0), (29, .iload_n 2, 0, 0, 0), (30, .ldc 180, 0, 0, 1000000000), (32, .aload_n 0, 0, 0, 0), (33, .getfield 12, 4, 0, 1), (36, .getfield 181, 0, 3, 0),
  (39, .isub, 0, 0, 0), (40, .if_icmp .le (10), 0, 50, 0), (43, .aload_n 0, 0, 0, 0), (44, .bipush (-5), 0, 0, 0), (46, .invokevirtual 69, 10, 2, 4), (49, .ireturn, 0, 0, 0), (50, .iconst (0), 0, 0, 0), (51, .istore 4, 0, 0, 0),
  (53, .iload 4, 0, 0, 0), (55, .iload_n 2, 0, 0, 0), (56, .if_icmp .ge (31), 0, 87, 0), (59, .aload_n 0, 0, 0, 0), (60, .getfield 12, 4, 0, 1), (63, .aload_n 0, 0, 0, 0), (64, .getfield 32, 4, 4, 1), (67, .iload_n 1, 0, 0, 0),
  (68, .iload 4, 0, 0, 0), (70, .invokevirtual 95, 23, 3, 2), (73, .ldc2_w 276, 0, 0, 10), (76, .lrem, 0, 0, 0), (77, .l2i, 0, 0, 0), (78, .invokevirtual 284, 142, 2, 0), (81, .iinc 4 (1), 0, 0, 0), (84, .goto (-31), 0, 53, 0),
  (87, .iload_n 2, 0, 0, 0), (88, .ireturn, 0, 0, 0)]
theorem zc_141 : zl_141.all (fun q => zt_chk 141 q.1 q.2) = true := by decide +kernel
def zl_142 : List (Nat × zx_En) := [(0, .aload_n 0, 0, 0, 0), (1, .getfield 28, 0, 8, 1), (4, .iload_n 1, 0, 0, 0), (5, .aload_n 0, 0, 0, 0), (6, .aload_n 0, 0, 0, 0), (7, .getfield 37, 0, 2, 0), (10, .aload_n 0, 0, 0, 0), (11, .getfield 40, 0, 3, 0),
  (14, .invokevirtual 69, 46, 3, 0), (17, .invokestatic 65, 12, 3, -1), (20, .aload_n 0, 0, 0, 0), (21, .dup, 0, 0, 0), (22, .getfield 40, 0, 3, 0), (25, .iconst (1), 0, 0, 0), (26, .iadd, 0, 0, 0), (27, .putfield 40, 0, 3, 0),
  (30, .return_, 0, 0, 0)]
theorem zc_142 : zl_142.all (fun q => zt_chk 142 q.1 q.2) = true := by decide +kernel
def zl_143 : List (Nat × zx_En) := [(0, .iload_n 1, 0, 0, 0), (1, .ifCond .lt (8), 0, 9, 0), (4, .iload_n 1, 0, 0, 0), (5, .iconst (1), 0, 0, 0), (6, .if_icmp .le (10), 0, 16, 0), (9, .aload_n 0, 0, 0, 0), (10, .bipush (-2), 0, 0, 0), (12, .invokevirtual 69, 10, 2, 4),
  (15, .ireturn, 0, 0, 0), (16, .iconst (0), 0, 0, 0), (17, .istore_n 2, 0, 0, 0), (18, .iconst (0), 0, 0, 0), (19, .istore_n 3, 0, 0, 0), (20, .bipush (-5), 0, 0, 0), (22, .istore 4, 0, 0, 0), (24, .iconst (0), 0, 0, 0),
  (25, .istore 5, 0, 0, 0), (27, .iload 5, 0, 0, 0), (29, .aload_n 0, 0, 0, 0), (30, .getfield 12, 4, 0, 1), (33, .getfield 132, 0, 1, 0), (36, .if_icmp .ge (78), 0, 114, 0), (39, .iload 5, 0, 0, 0), (41, .iconst (1), 0, 0, 0),
  (42, .iadd, 0, 0, 0), (43, .istore 6, 0, 0, 0), (45, .iload 6, 0, 0, 0), (47, .aload_n 0, 0, 0, 0), (48, .getfield 12, 4, 0, 1), (51, .getfield 132, 0, 1, 0), (54, .if_icmp .ge (54), 0, 108, 0), (57, .aload_n 0, 0, 0, 0),
  (58, .getfield 12, 4, 0, 1), (61, .iload 5, 0, 0, 0), (63, .iload 6, 0, 0, 0), (65, .invokevirtual 287, 144, 3, 0), (68, .istore 7, 0, 0, 0), (70, .iload_n 2, 0, 0, 0), (71, .iload 7, 0, 0, 0), (73, .ifCond .le (7), 0, 80, 0),
  (76, .iconst (1), 0, 0, 0), (77, .goto (4), 0, 81, 0), (80, .iconst (0), 0, 0, 0), (81, .iadd, 0, 0, 0), (82, .istore_n 2, 0, 0, 0), (83, .iload 7, 0, 0, 0), (85, .iload_n 3, 0, 0, 0), (86, .if_icmp .le (16), 0, 102, 0),
  (89, .iload 7, 0, 0, 0), (91, .istore_n 3, 0, 0, 0), (92, .bipush (10), 0, 0, 0), (94, .iload 5, 0, 0, 0), (96, .imul, 0, 0, 0), (97, .iload 6, 0, 0, 0), (99, .iadd, 0, 0, 0), (100, .istore 4, 0, 0, 0),
  (102, .iinc 6 (1), 0, 0, 0), (105, .goto (-60), 0, 45, 0), (108, .iinc 5 (1), 0, 0, 0), (111, .goto (-84), 0, 27, 0), (114, .iload_n 1, 0, 0, 0), (115, .ifCond .ne (5), 0, 120, 0), (118, .iload_n 2, 0, 0, 0), (119, .ireturn, 0, 0, 0),
  (120, .iload_n 2, 0, 0, 0), (121, .ifCond .ne (12), 0, 133, 0), (124, .aload_n 0, 0, 0, 0), (125, .bipush (-5), 0, 0, 0), (127, .invokevirtual 69, 10, 2, 4), (130, .goto (5), 0, 135, 0), (133, .iload 4, 0, 0, 0), (135, .ireturn, 0, 0, 0)]
theorem zc_143 : zl_143.all (fun q => zt_chk 143 q.1 q.2) = true := by decide +kernel
def zl_144 : List (Nat × zx_En) := [(0, .aload_n 0, 0, 0, 0), (1, .iload_n 1, 0, 0, 0), (2, .invokevirtual 72, 80, 2, 0), (5, .istore_n 3, 0, 0, 0), (6, .aload_n 0, 0, 0, 0), (7, .iload_n 2, 0, 0, 0), (8, .invokevirtual 72, 80, 2, 0), (11, .istore 4, 0, 0, 0),
  (13, .iload_n 3, 0, 0, 0), (14, .iconst (-1), 0, 0, 0), (15, .if_icmp .eq (15), 0, 30, 0), (18, .iload 4, 0, 0, 0), (20, .iconst (-1), 0, 0, 0), (21, .if_icmp .eq (9), 0, 30, 0), (24, .iload_n 3, 0, 0, 0), (25, .iload 4, 0, 0, 0),
  (27, .if_icmp .ne (5), 0, 32, 0), (30, .iconst (0), 0, 0, 0), (31, .ireturn, 0, 0, 0), (32, .aload_n 0, 0, 0, 0), (33, .iload_n 3, 0, 0, 0), (34, .iload_n 2, 0, 0, 0), (35, .invokevirtual 58, 41, 3, 0), (38, .aload_n 0, 0, 0, 0),
  (39, .iload_n 3, 0, 0, 0), (40, .iload_n 1, 0, 0, 0), (41, .invokevirtual 58, 41, 3, 0), (44, .isub, 0, 0, 0), (45, .istore 5, 0, 0, 0), (47, .aload_n 0, 0, 0, 0), (48, .iload 4, 0, 0, 0), (50, .iload_n 1, 0, 0, 0),
  (51, .invokevirtual 58, 41, 3, 0), (54, .aload_n 0, 0, 0, 0), (55, .iload 4, 0, 0, 0), (57, .iload_n 2, 0, 0, 0), (58, .invokevirtual 58, 41, 3, 0), (61, .isub, 0, 0, 0), (62, .istore 6, 0, 0, 0), (64, .iload 5, 0, 0, 0),
  (66, .ifCond .le (16), 0, 82, 0), (69, .iload 6, 0, 0, 0), (71, .ifCond .le (11), 0, 82, 0), (74, .iload 5, 0, 0, 0), (76, .iload 6, 0, 0, 0), (78, .iadd, 0, 0, 0), (79, .goto (4), 0, 83, 0), (82, .iconst (0), 0, 0, 0),
  (83, .ireturn, 0, 0, 0)]
theorem zc_144 : zl_144.all (fun q => zt_chk 144 q.1 q.2) = true := by decide +kernel
def zl_145 : List (Nat × zx_En) := [(0, .aload_n 0, 0, 0, 0), (1, .getfield 12, 4, 0, 1), (4, .iload_n 1, 0, 0, 0), (5, .invokevirtual 148, 42, 2, 0), (8, .ifCond .eq (19), 0, 27, 0), (11, .aload_n 0, 0, 0, 0), (12, .getfield 12, 4, 0, 1), (15, .iload_n 2, 0, 0, 0),
  (16, .invokevirtual 148, 42, 2, 0), (19, .ifCond .eq (8), 0, 27, 0), (22, .iload_n 1, 0, 0, 0), (23, .iload_n 2, 0, 0, 0), (24, .if_icmp .ne (10), 0, 34, 0), (27, .aload_n 0, 0, 0, 0), (28, .bipush (-2), 0, 0, 0), (30, .invokevirtual 69, 10, 2, 4),
  (33, .ireturn, 0, 0, 0), (34, .aload_n 0, 0, 0, 0), (35, .getfield 12, 4, 0, 1), (38, .iload_n 1, 0, 0, 0), (39, .invokevirtual 184, 80, 2, 0), (42, .istore_n 3, 0, 0, 0), (43, .aload_n 0, 0, 0, 0), (44, .getfield 12, 4, 0, 1),
  (47, .iload_n 2, 0, 0, 0), (48, .invokevirtual 184, 80, 2, 0), (51, .istore 4, 0, 0, 0), (53, .iload_n 3, 0, 0, 0), (54, .iload 4, 0, 0, 0), (56, .if_icmp .ne (5), 0, 61, 0), (59, .iconst (0), 0, 0, 0), (60, .ireturn, 0, 0, 0),
  (61, .iload_n 3, 0, 0, 0), (62, .iconst (-1), 0, 0, 0), (63, .if_icmp .eq (9), 0, 72, 0), (66, .iload 4, 0, 0, 0), (68, .iconst (-1), 0, 0, 0), (69, .if_icmp .ne (10), 0, 79, 0), (72, .aload_n 0, 0, 0, 0), (73, .bipush (-5), 0, 0, 0),
  (75, .invokevirtual 69, 10, 2, 4), (78, .ireturn, 0, 0, 0), (79, .aload_n 0, 0, 0, 0), (80, .getfield 12, 4, 0, 1), (83, .getfield 187, 0, 8, 1), (86, .iload_n 1, 0, 0, 0), (87, .iload 4, 0, 0, 0), (89, .invokestatic 157, 12, 3, -1),
  (92, .aload_n 0, 0, 0, 0), (93, .getfield 12, 4, 0, 1), (96, .getfield 187, 0, 8, 1), (99, .iload_n 2, 0, 0, 0), (100, .iload_n 3, 0, 0, 0), (101, .invokestatic 157, 12, 3, -1), (104, .iconst (1), 0, 0, 0), (105, .ireturn, 0, 0, 0)]
theorem zc_145 : zl_145.all (fun q => zt_chk 145 q.1 q.2) = true := by decide +kernel
def zl_146 : List (Nat × zx_En) := [(0, .aload_n 0, 0, 0, 0), (1, .getfield 12, 4, 0, 1), (4, .iload_n 1, 0, 0, 0), (5, .invokevirtual 148, 42, 2, 0), (8, .ifCond .ne (10), 0, 18, 0), (11, .aload_n 0, 0, 0, 0), (12, .bipush (-2), 0, 0, 0), (14, .invokevirtual 69, 10, 2, 4),
  (17, .ireturn, 0, 0, 0), (18, .aload_n 0, 0, 0, 0), (19, .getfield 12, 4, 0, 1), (22, .iload_n 1, 0, 0, 0), (23, .invokevirtual 184, 80, 2, 0), (26, .iconst (-1), 0, 0, 0), (27, .if_icmp .ne (15), 0, 42, 0), (30, .aload_n 0, 0, 0, 0),
  (31, .getfield 12, 4, 0, 1), (34, .getfield 181, 0, 3, 0), (37, .ldc 180, 0, 0, 1000000000), (39, .if_icmp .lt (10), 0, 49, 0), (42, .aload_n 0, 0, 0, 0), (43, .bipush (-5), 0, 0, 0), (45, .invokevirtual 69, 10, 2, 4), (48, .ireturn, 0, 0, 0),
  (49, .aload_n 0, 0, 0, 0), (50, .getfield 12, 4, 0, 1), (53, .iload_n 1, 0, 0, 0), (54, .invokevirtual 284, 142, 2, 0), (57, .aload_n 0, 0, 0, 0), (58, .getfield 12, 4, 0, 1), (61, .iload_n 1, 0, 0, 0), (62, .invokevirtual 184, 80, 2, 0),
  (65, .ireturn, 0, 0, 0)]
theorem zc_146 : zl_146.all (fun q => zt_chk 146 q.1 q.2) = true := by decide +kernel
def zl_147 : List (Nat × zx_En) := [(0, .iload_n 1, 0, 0, 0), (1, .iconst (1), 0, 0, 0), (2, .if_icmp .lt (9), 0, 11, 0), (5, .iload_n 1, 0, 0, 0), (6, .bipush (8), 0, 0, 0), (8, .if_icmp .le (10), 0, 18, 0), (11, .aload_n 0, 0, 0, 0), (12, .bipush (-2), 0, 0, 0),
  (14, .invokevirtual 69, 10, 2, 4), (17, .ireturn, 0, 0, 0), (18, .iload_n 1, 0, 0, 0), (19, .ldc 180, 0, 0, 1000000000), (21, .aload_n 0, 0, 0, 0), (22, .getfield 12, 4, 0, 1), (25, .getfield 181, 0, 3, 0), (28, .isub, 0, 0, 0),
  (29, .if_icmp .le (10), 0, 39, 0), (32, .aload_n 0, 0, 0, 0), (33, .bipush (-5), 0, 0, 0), (35, .invokevirtual 69, 10, 2, 4), (38, .ireturn, 0, 0, 0), (39, .aload_n 0, 0, 0, 0), (40, .aload_n 0, 0, 0, 0), (41, .getfield 12, 4, 0, 1),
  (44, .getfield 167, 0, 2, 0), (47, .invokevirtual 239, 119, 2, 4), (50, .iload_n 1, 0, 0, 0), (51, .aload_n 0, 0, 0, 0), (52, .getfield 290, 4, 10, 0), (55, .invokestatic 293, 0, 2, 98), (58, .istore_n 2, 0, 0, 0), (59, .iconst (0), 0, 0, 0),
  (60, .istore_n 3, 0, 0, 0), (61, .iload_n 3, 0, 0, 0), (62, .iload_n 2, 0, 0, 0), (63, .if_icmp .ge (24), 0, 87, 0), (66, .aload_n 0, 0, 0, 0), (67, .getfield 12, 4, 0, 1), (70, .aload_n 0, 0, 0, 0), (71, .getfield 50, 4, 9, 1),
  (74, .iload_n 3, 0, 0, 0), (75, .invokestatic 242, 11, 2, -1), (78, .invokevirtual 284, 142, 2, 0), (81, .iinc 3 (1), 0, 0, 0), (84, .goto (-23), 0, 61, 0), (87, .iload_n 2, 0, 0, 0), (88, .ireturn, 0, 0, 0)]
theorem zc_147 : zl_147.all (fun q => zt_chk 147 q.1 q.2) = true := by decide +kernel
def zl_148 : List (Nat × zx_En) := [(0, .iconst (0), 0, 0, 0), (1, .istore_n 1, 0, 0, 0), (2, .iconst (0), 0, 0, 0), (3, .istore_n 2, 0, 0, 0), (4, .iload_n 2, 0, 0, 0), (5, .aload_n 0, 0, 0, 0), (6, .getfield 12, 4, 0, 1), (9, .getfield 132, 0, 1, 0),
  (12, .if_icmp .ge (41), 0, 53, 0), (15, .iload_n 1, 0, 0, 0), (16, .aload_n 0, 0, 0, 0), (17, .getfield 12, 4, 0, 1), (20, .iload_n 2, 0, 0, 0), (21, .invokevirtual 184, 80, 2, 0), (24, .iconst (-1), 0, 0, 0), (25, .if_icmp .ne (7), 0, 32, 0),
  (28, .iconst (0), 0, 0, 0), (29, .goto (4), 0, 33, 0), (32, .iconst (1), 0, 0, 0), (33, .iadd, 0, 0, 0), (34, .istore_n 1, 0, 0, 0), (35, .aload_n 0, 0, 0, 0), (36, .getfield 12, 4, 0, 1), (39, .getfield 187, 0, 8, 1),
  (42, .iload_n 2, 0, 0, 0), (43, .iconst (-1), 0, 0, 0), (44, .invokestatic 157, 12, 3, -1), (47, .iinc 2 (1), 0, 0, 0), (50, .goto (-46), 0, 4, 0), (53, .aload_n 0, 0, 0, 0), (54, .getfield 12, 4, 0, 1), (57, .iconst (0), 0, 0, 0),
  (58, .putfield 181, 0, 3, 0), (61, .iload_n 1, 0, 0, 0), (62, .ireturn, 0, 0, 0)]
theorem zc_148 : zl_148.all (fun q => zt_chk 148 q.1 q.2) = true := by decide +kernel
def zl_149 : List (Nat × zx_En) := [(0, .iload_n 1, 0, 0, 0), (1, .iconst (1), 0, 0, 0), (2, .if_icmp .lt (9), 0, 11, 0), (5, .iload_n 1, 0, 0, 0), (6, .bipush (8), 0, 0, 0), (8, .if_icmp .le (10), 0, 18, 0), (11, .aload_n 0, 0, 0, 0), (12, .bipush (-2), 0, 0, 0),
  (14, .invokevirtual 69, 10, 2, 4), (17, .ireturn, 0, 0, 0), (18, .iload_n 1, 0, 0, 0), (19, .bipush (8), 0, 0, 0), (21, .aload_n 0, 0, 0, 0), (22, .getfield 12, 4, 0, 1), (25, .getfield 132, 0, 1, 0), (28, .isub, 0, 0, 0),
  (29, .invokestatic 293, 0, 2, 98), (32, .istore_n 2, 0, 0, 0), (33, .iconst (0), 0, 0, 0), (34, .istore_n 3, 0, 0, 0), (35, .iload_n 3, 0, 0, 0), (36, .iload_n 2, 0, 0, 0), (37, .if_icmp .ge (70), 0, 107, 0), (40, .aload_n 0, 0, 0, 0),
  (41, .getfield 12, 4, 0, 1), (44, .bipush (100), 0, 0, 0), (46, .invokevirtual 296, 150, 2, 0), (49, .istore 4, 0, 0, 0), (51, .aload_n 0, 0, 0, 0), (52, .getfield 12, 4, 0, 1), (55, .bipush (100), 0, 0, 0), (57, .invokevirtual 296, 150, 2, 0),
  (60, .istore 5, 0, 0, 0), (62, .aload_n 0, 0, 0, 0), (63, .getfield 12, 4, 0, 1), (66, .getfield 136, 0, 0, 0), (69, .iconst (2), 0, 0, 0), (70, .if_icmp .le (15), 0, 85, 0), (73, .aload_n 0, 0, 0, 0), (74, .getfield 12, 4, 0, 1),
  (77, .bipush (100), 0, 0, 0), (79, .invokevirtual 296, 150, 2, 0), (82, .goto (4), 0, 86, 0), (85, .iconst (0), 0, 0, 0), (86, .istore 6, 0, 0, 0), (88, .aload_n 0, 0, 0, 0), (89, .getfield 12, 4, 0, 1), (92, .iload 4, 0, 0, 0),
  (94, .iload 5, 0, 0, 0), (96, .iload 6, 0, 0, 0), (98, .invokevirtual 145, 71, 4, 0), (101, .iinc 3 (1), 0, 0, 0), (104, .goto (-69), 0, 35, 0), (107, .iload_n 2, 0, 0, 0), (108, .ireturn, 0, 0, 0)]
theorem zc_149 : zl_149.all (fun q => zt_chk 149 q.1 q.2) = true := by decide +kernel
def zl_150 : List (Nat × zx_En) := [(0, .aload_n 0, 0, 0, 0), (1, .aload_n 0, 0, 0, 0), (2, .getfield 15, 0, 4, 0), (5, .ldc 76, 0, 0, 1103515245), (7, .imul, 0, 0, 0), (8, .sipush (12345), 0, 0, 0), (11, .iadd, 0, 0, 0), (12, .putfield 15, 0, 4, 0),
  (15, .iload_n 1, 0, 0, 0), (16, .ifCond .le (15), 0, 31, 0), (19, .aload_n 0, 0, 0, 0), (20, .getfield 15, 0, 4, 0), (23, .bipush (16), 0, 0, 0), (25, .iushr, 0, 0, 0), (26, .iload_n 1, 0, 0, 0), (27, .irem, 0, 0, 0),
  (28, .goto (4), 0, 32, 0), (31, .iconst (0), 0, 0, 0), (32, .ireturn, 0, 0, 0)]
theorem zc_150 : zl_150.all (fun q => zt_chk 150 q.1 q.2) = true := by decide +kernel
def zl_151 : List (Nat × zx_En) := [(0, .aload_n 0, 0, 0, 0), (1, .getfield 12, 4, 0, 1), (4, .getfield 299, 0, 4, 0), (7, .istore_n 2, 0, 0, 0), (8, .aload_n 0, 0, 0, 0), (9, .getfield 12, 4, 0, 1), (12, .iload_n 1, 0, 0, 0), (13, .putfield 299, 0, 4, 0),
  (16, .iload_n 2, 0, 0, 0), (17, .ireturn, 0, 0, 0)]
theorem zc_151 : zl_151.all (fun q => zt_chk 151 q.1 q.2) = true := by decide +kernel
def zl_152 : List (Nat × zx_En) := [(0, .aload_n 0, 0, 0, 0), (1, .getfield 16, 4, 1, 1), (4, .aload_n 0, 0, 0, 0), (5, .getfield 12, 4, 0, 1), (8, .invokevirtual 196, 84, 2, 0), (11, .aload_n 0, 0, 0, 0), (12, .iconst (1), 0, 0, 0), (13, .putfield 302, 4, 6, 4),
  (16, .iconst (1), 0, 0, 0), (17, .ireturn, 0, 0, 0)]
theorem zc_152 : zl_152.all (fun q => zt_chk 152 q.1 q.2) = true := by decide +kernel
def zl_153 : List (Nat × zx_En) := [(0, .aload_n 0, 0, 0, 0), (1, .getfield 302, 4, 6, 0), (4, .ifCond .ne (10), 0, 14, 0), (7, .aload_n 0, 0, 0, 0), (8, .bipush (-5), 0, 0, 0), (10, .invokevirtual 69, 10, 2, 4), (13, .ireturn, 0, 0, 0), (14, .aload_n 0, 0, 0, 0),
  (15, .getfield 12, 4, 0, 1), (18, .aload_n 0, 0, 0, 0), (19, .getfield 16, 4, 1, 1), (22, .invokevirtual 196, 84, 2, 0), (25, .iconst (1), 0, 0, 0), (26, .ireturn, 0, 0, 0)]
theorem zc_153 : zl_153.all (fun q => zt_chk 153 q.1 q.2) = true := by decide +kernel
def zl_154 : List (Nat × zx_En) := [(0, .iload_n 1, 0, 0, 0), (1, .tableswitch (133) (0) (9) #[55, 63, 71, 80, 88, 96, 104, 109, 117, 125], 0, 0, 0), (56, .aload_n 0, 0, 0, 0), (57, .getfield 12, 4, 0, 1), (60, .getfield 136, 0, 0, 0), (63, .ireturn, 0, 0, 0), (64, .aload_n 0, 0, 0, 0), (65, .getfield 12, 4, 0, 1),
  (68, .getfield 132, 0, 1, 0), (71, .ireturn, 0, 0, 0), (72, .aload_n 0, 0, 0, 0), (73, .getfield 12, 4, 0, 1), (76, .iconst (-1), 0, 0, 0), (77, .invokevirtual 210, 43, 2, 0), (80, .ireturn, 0, 0, 0), (81, .aload_n 0, 0, 0, 0),
  (82, .getfield 12, 4, 0, 1), (85, .getfield 167, 0, 2, 0), (88, .ireturn, 0, 0, 0), (89, .aload_n 0, 0, 0, 0), (90, .getfield 12, 4, 0, 1), (93, .getfield 181, 0, 3, 0), (96, .ireturn, 0, 0, 0), (97, .aload_n 0, 0, 0, 0),
  (98, .getfield 12, 4, 0, 1), (101, .getfield 177, 0, 5, 0), (104, .ireturn, 0, 0, 0), (105, .aload_n 0, 0, 0, 0), (106, .invokevirtual 306, 155, 1, 4), (109, .ireturn, 0, 0, 0), (110, .aload_n 0, 0, 0, 0), (111, .getfield 25, 4, 3, 1),
  (114, .getfield 190, 3, 1, 0), (117, .ireturn, 0, 0, 0), (118, .aload_n 0, 0, 0, 0), (119, .getfield 12, 4, 0, 1), (122, .getfield 299, 0, 4, 0), (125, .ireturn, 0, 0, 0), (126, .aload_n 0, 0, 0, 0), (127, .getfield 32, 4, 4, 1),
  (130, .invokevirtual 309, 156, 1, 2), (133, .ireturn, 0, 0, 0), (134, .iload_n 1, 0, 0, 0), (135, .bipush (12), 0, 0, 0), (137, .if_icmp .lt (23), 0, 160, 0), (140, .iload_n 1, 0, 0, 0), (141, .bipush (16), 0, 0, 0), (143, .if_icmp .gt (17), 0, 160, 0),
  (146, .aload_n 0, 0, 0, 0), (147, .getfield 36, 4, 5, 1), (150, .iload_n 1, 0, 0, 0), (151, .bipush (12), 0, 0, 0), (153, .isub, 0, 0, 0), (154, .invokestatic 242, 11, 2, -1), (157, .goto (4), 0, 161, 0), (160, .iconst (-1), 0, 0, 0),
  (161, .ireturn, 0, 0, 0)]
theorem zc_154 : zl_154.all (fun q => zt_chk 154 q.1 q.2) = true := by decide +kernel
def zl_155 : List (Nat × zx_En) := [(0, .iconst (0), 0, 0, 0), (1, .istore_n 1, 0, 0, 0), (2, .iload_n 1, 0, 0, 0), (3, .iconst (3), 0, 0, 0), (4, .if_icmp .ge (25), 0, 29, 0), (7, .aload_n 0, 0, 0, 0), (8, .getfield 53, 4, 11, 1), (11, .iload_n 1, 0, 0, 0),
  (12, .aload_n 0, 0, 0, 0), (13, .getfield 12, 4, 0, 1), (16, .iload_n 1, 0, 0, 0), (17, .invokevirtual 207, 40, 2, 0), (20, .invokestatic 157, 12, 3, -1), (23, .iinc 1 (1), 0, 0, 0), (26, .goto (-24), 0, 2, 0), (29, .aload_n 0, 0, 0, 0),
  (30, .invokevirtual 246, 124, 1, 4), (33, .ireturn, 0, 0, 0)]
theorem zc_155 : zl_155.all (fun q => zt_chk 155 q.1 q.2) = true := by decide +kernel
def zl_156 : List (Nat × zx_En) := [(0, .iconst (0), 0, 0, 0), (1, .istore_n 1, 0, 0, 0), (2, .iconst (0), 0, 0, 0), (3, .istore_n 2, 0, 0, 0), (4, .iload_n 2, 0, 0, 0), (5, .bipush (8), 0, 0, 0), (7, .if_icmp .ge (26), 0, 33, 0), (10, .iload_n 1, 0, 0, 0),
  (11, .aload_n 0, 0, 0, 0), (12, .iload_n 2, 0, 0, 0), (13, .invokevirtual 33, 16, 2, 2), (16, .iconst (-1), 0, 0, 0), (17, .if_icmp .ne (7), 0, 24, 0), (20, .iconst (0), 0, 0, 0), (21, .goto (4), 0, 25, 0), (24, .iconst (1), 0, 0, 0),
  (25, .iadd, 0, 0, 0), (26, .istore_n 1, 0, 0, 0), (27, .iinc 2 (1), 0, 0, 0), (30, .goto (-26), 0, 4, 0), (33, .iload_n 1, 0, 0, 0), (34, .ireturn, 0, 0, 0)]
theorem zc_156 : zl_156.all (fun q => zt_chk 156 q.1 q.2) = true := by decide +kernel
def zl_157 : List (Nat × zx_En) := [(0, .aload_n 0, 0, 0, 0), (1, .invokespecial 1, 0, 1, 99), (4, .aload_n 0, 0, 0, 0), (5, .bipush (8), 0, 0, 0), (7, .newarray .int, 0, 0, 0), (9, .putfield 7, 5, 0, 1), (12, .aload_n 0, 0, 0, 0), (13, .bipush (8), 0, 0, 0),
  (15, .newarray .int, 0, 0, 0), (17, .putfield 13, 5, 1, 1), (20, .aload_n 0, 0, 0, 0), (21, .bipush (8), 0, 0, 0), (23, .newarray .int, 0, 0, 0), (25, .putfield 16, 5, 2, 1), (28, .aload_n 0, 0, 0, 0), (29, .bipush (8), 0, 0, 0),
  (31, .bipush (40), 0, 0, 0), (33, .multianewarray 19 2, 1, 0, 0), (37, .putfield 21, 5, 3, 1), (40, .aload_n 0, 0, 0, 0), (41, .bipush (40), 0, 0, 0), (43, .newarray .long, 0, 0, 0), (45, .putfield 24, 5, 4, 1), (48, .aload_n 0, 0, 0, 0),
  (49, .bipush (8), 0, 0, 0), (51, .newarray .int, 0, 0, 0), (53, .putfield 28, 5, 5, 1), (56, .aload_n 0, 0, 0, 0), (57, .bipush (8), 0, 0, 0), (59, .newarray .int, 0, 0, 0), (61, .putfield 31, 5, 6, 1), (64, .aload_n 0, 0, 0, 0),
  (65, .sipush (250), 0, 0, 0), (68, .newarray .int, 0, 0, 0), (70, .putfield 34, 5, 7, 1), (73, .aload_n 0, 0, 0, 0), (74, .bipush (8), 0, 0, 0), (76, .newarray .int, 0, 0, 0), (78, .putfield 37, 5, 9, 1), (81, .aload_n 0, 0, 0, 0),
  (82, .iconst (2), 0, 0, 0), (83, .putfield 40, 5, 10, 0), (86, .aload_n 0, 0, 0, 0), (87, .bipush (8), 0, 0, 0), (89, .iconst (3), 0, 0, 0), (90, .multianewarray 44 2, 0, 0, 0), (94, .putfield 46, 5, 12, 1), (97, .aload_n 0, 0, 0, 0),
  (98, .bipush (8), 0, 0, 0), (100, .newarray .int, 0, 0, 0), (102, .putfield 49, 5, 13, 1), (105, .aload_n 0, 0, 0, 0), (106, .bipush (12), 0, 0, 0), (108, .newarray .int, 0, 0, 0), (110, .putfield 52, 5, 15, 1), (113, .aload_n 0, 0, 0, 0),
  (114, .iconst (1), 0, 0, 0), (115, .putfield 55, 5, 16, 0), (118, .aload_n 0, 0, 0, 0), (119, .iconst (3), 0, 0, 0), (120, .newarray .int, 0, 0, 0), (122, .putfield 58, 5, 17, 1), (125, .aload_n 0, 0, 0, 0), (126, .iconst (1), 0, 0, 0),
  (127, .putfield 61, 5, 19, 0), (130, .aload_n 0, 0, 0, 0), (131, .iconst (3), 0, 0, 0), (132, .newarray .int, 0, 0, 0), (134, .putfield 64, 5, 27, 1), (137, .aload_n 0, 0, 0, 0), (138, .bipush (8), 0, 0, 0), (140, .newarray .int, 0, 0, 0),
  (142, .putfield 67, 5, 30, 1), (145, .aload_n 0, 0, 0, 0), (146, .iconst (-1), 0, 0, 0), (147, .putfield 70, 5, 33, 0), (150, .aload_n 0, 0, 0, 0), (151, .bipush (8), 0, 0, 0), (153, .newarray .int, 0, 0, 0), (155, .putfield 73, 5, 34, 1),
  (158, .aload_n 0, 0, 0, 0), (159, .bipush (8), 0, 0, 0), (161, .newarray .int, 0, 0, 0), (163, .putfield 76, 5, 35, 1), (166, .aload_n 0, 0, 0, 0), (167, .iconst (3), 0, 0, 0), (168, .newarray .int, 0, 0, 0), (170, .putfield 79, 5, 37, 1),
  (173, .aload_n 0, 0, 0, 0), (174, .sipush (256), 0, 0, 0), (177, .newarray .int, 0, 0, 0), (179, .putfield 82, 5, 38, 1), (182, .aload_n 0, 0, 0, 0), (183, .sipush (256), 0, 0, 0), (186, .iconst (3), 0, 0, 0), (187, .multianewarray 44 2, 0, 0, 0),
  (191, .putfield 85, 5, 39, 1), (194, .aload_n 0, 0, 0, 0), (195, .bipush (8), 0, 0, 0), (197, .newarray .int, 0, 0, 0), (199, .putfield 88, 5, 40, 1), (202, .aload_n 0, 0, 0, 0), (203, .iconst (3), 0, 0, 0), (204, .newarray .int, 0, 0, 0),
  (206, .putfield 91, 5, 42, 1), (209, .return_, 0, 0, 0)]
theorem zc_157 : zl_157.all (fun q => zt_chk 157 q.1 q.2) = true := by decide +kernel
def zl_158 : List (Nat × zx_En) := [(0, .iload_n 1, 0, 0, 0), (1, .i2l, 0, 0, 0), (2, .lconst 0, 0, 0, 0), (3, .ldc2_w 101, 0, 0, 7), (6, .invokestatic 94, 159, 3, -1), (9, .ifCond .eq (27), 0, 36, 0), (12, .iload_n 2, 0, 0, 0), (13, .i2l, 0, 0, 0),
  (14, .lconst 0, 0, 0, 0), (15, .ldc2_w 103, 0, 0, 4), (18, .invokestatic 94, 159, 3, -1), (21, .ifCond .eq (15), 0, 36, 0), (24, .iload_n 3, 0, 0, 0), (25, .i2l, 0, 0, 0), (26, .lconst 0, 0, 0, 0), (27, .ldc2_w 105, 0, 0, 40),
  (30, .invokestatic 94, 159, 3, -1), (33, .ifCond .ne (10), 0, 43, 0), (36, .aload_n 0, 0, 0, 0), (37, .bipush (-2), 0, 0, 0), (39, .invokevirtual 107, 160, 2, 5), (42, .ireturn, 0, 0, 0), (43, .aload_n 0, 0, 0, 0), (44, .getfield 7, 5, 0, 1),
  (47, .iload_n 1, 0, 0, 0), (48, .iconst (1), 0, 0, 0), (49, .iastore, 0, 0, 0), (50, .aload_n 0, 0, 0, 0), (51, .getfield 13, 5, 1, 1), (54, .iload_n 1, 0, 0, 0), (55, .iload_n 2, 0, 0, 0), (56, .iastore, 0, 0, 0),
  (57, .aload_n 0, 0, 0, 0), (58, .getfield 16, 5, 2, 1), (61, .iload_n 1, 0, 0, 0), (62, .iload_n 3, 0, 0, 0), (63, .iastore, 0, 0, 0), (64, .iconst (0), 0, 0, 0), (65, .istore 4, 0, 0, 0), (67, .iload 4, 0, 0, 0),
  (69, .bipush (40), 0, 0, 0), (71, .if_icmp .ge (19), 0, 90, 0), (74, .aload_n 0, 0, 0, 0), (75, .getfield 21, 5, 3, 1), (78, .iload_n 1, 0, 0, 0), (79, .aaload, 0, 0, 0), (80, .iload 4, 0, 0, 0), (82, .lconst 0, 0, 0, 0),
  (83, .lastore, 0, 0, 0), (84, .iinc 4 (1), 0, 0, 0), (87, .goto (-20), 0, 67, 0), (90, .iconst (1), 0, 0, 0), (91, .ireturn, 0, 0, 0)]
theorem zc_158 : zl_158.all (fun q => zt_chk 158 q.1 q.2) = true := by decide +kernel
def zl_159 : List (Nat × zx_En) := [(0, .lload_n 0, 0, 0, 0), (1, .lload_n 2, 0, 0, 0), (2, .lcmp, 0, 0, 0), (3, .ifCond .lt (14), 0, 17, 0), (6, .lload_n 0, 0, 0, 0), (7, .lload 4, 0, 0, 0), (9, .lcmp, 0, 0, 0), (10, .ifCond .gt (7), 0, 17, 0),
  (13, .iconst (1), 0, 0, 0), (14, .goto (4), 0, 18, 0), (17, .iconst (0), 0, 0, 0), (18, .ireturn, 1, 0, 0)]
theorem zc_159 : zl_159.all (fun q => zt_chk 159 q.1 q.2) = true := by decide +kernel
def zl_160 : List (Nat × zx_En) := [(0, .aload_n 0, 0, 0, 0), (1, .getfield 37, 5, 9, 1), (4, .iload_n 1, 0, 0, 0), (5, .ineg, 0, 0, 0), (6, .dup2, 0, 0, 0), (7, .iaload, 0, 0, 0), (8, .iconst (1), 0, 0, 0), (9, .iadd, 0, 0, 0),
  (10, .iastore, 0, 0, 0), (11, .iload_n 1, 0, 0, 0), (12, .ireturn, 0, 0, 0)]
theorem zc_160 : zl_160.all (fun q => zt_chk 160 q.1 q.2) = true := by decide +kernel
def zl_161 : List (Nat × zx_En) := [(0, .aload_n 0, 0, 0, 0), (1, .iload_n 1, 0, 0, 0), (2, .invokevirtual 111, 162, 2, 5), (5, .istore 5, 0, 0, 0), (7, .iload 5, 0, 0, 0), (9, .ifCond .eq (10), 0, 19, 0), (12, .aload_n 0, 0, 0, 0), (13, .iload 5, 0, 0, 0),
  (15, .invokevirtual 107, 160, 2, 5), (18, .ireturn, 0, 0, 0), (19, .iload_n 2, 0, 0, 0), (20, .i2l, 0, 0, 0), (21, .lconst 0, 0, 0, 0), (22, .aload_n 0, 0, 0, 0), (23, .getfield 16, 5, 2, 1), (26, .iload_n 1, 0, 0, 0),
  (27, .iaload, 0, 0, 0), (28, .iconst (1), 0, 0, 0), (29, .isub, 0, 0, 0), (30, .i2l, 0, 0, 0), (31, .invokestatic 94, 159, 3, -1), (34, .ifCond .ne (10), 0, 44, 0), (37, .aload_n 0, 0, 0, 0), (38, .bipush (-2), 0, 0, 0),
  (40, .invokevirtual 107, 160, 2, 5), (43, .ireturn, 0, 0, 0), (44, .aload_n 0, 0, 0, 0), (45, .getfield 21, 5, 3, 1), (48, .iload_n 1, 0, 0, 0), (49, .aaload, 0, 0, 0), (50, .iload_n 2, 0, 0, 0), (51, .aload_n 0, 0, 0, 0),
  (52, .getfield 13, 5, 1, 1), (55, .iload_n 1, 0, 0, 0), (56, .iaload, 0, 0, 0), (57, .lload_n 3, 0, 0, 0), (58, .invokestatic 114, 163, 2, -1), (61, .lastore, 0, 0, 0), (62, .iconst (1), 0, 0, 0), (63, .ireturn, 0, 0, 0)]
theorem zc_161 : zl_161.all (fun q => zt_chk 161 q.1 q.2) = true := by decide +kernel
def zl_162 : List (Nat × zx_En) := [(0, .iload_n 1, 0, 0, 0), (1, .i2l, 0, 0, 0), (2, .lconst 0, 0, 0, 0), (3, .ldc2_w 101, 0, 0, 7), (6, .invokestatic 94, 159, 3, -1), (9, .ifCond .ne (6), 0, 15, 0), (12, .bipush (-2), 0, 0, 0), (14, .ireturn, 0, 0, 0),
  (15, .aload_n 0, 0, 0, 0), (16, .getfield 7, 5, 0, 1), (19, .iload_n 1, 0, 0, 0), (20, .iaload, 0, 0, 0), (21, .iconst (2), 0, 0, 0), (22, .if_icmp .ne (8), 0, 30, 0), (25, .bipush (-3), 0, 0, 0), (27, .goto (18), 0, 45, 0),
  (30, .aload_n 0, 0, 0, 0), (31, .getfield 7, 5, 0, 1), (34, .iload_n 1, 0, 0, 0), (35, .iaload, 0, 0, 0), (36, .ifCond .ne (8), 0, 44, 0), (39, .bipush (-4), 0, 0, 0), (41, .goto (4), 0, 45, 0), (44, .iconst (0), 0, 0, 0),
  (45, .ireturn, 0, 0, 0)]
theorem zc_162 : zl_162.all (fun q => zt_chk 162 q.1 q.2) = true := by decide +kernel
def zl_163 : List (Nat × zx_En) := [(0, .iload_n 0, 0, 0, 0), (1, .tableswitch (47) (0) (3) #[31, 36, 41, 45], 0, 0, 0), (32, .lload_n 1, 0, 0, 0), (33, .l2i, 0, 0, 0), (34, .i2b, 0, 0, 0), (35, .i2l, 0, 0, 0), (36, .lreturn, 0, 0, 0), (37, .lload_n 1, 0, 0, 0),
  (38, .l2i, 0, 0, 0), (39, .i2s, 0, 0, 0), (40, .i2l, 0, 0, 0), (41, .lreturn, 0, 0, 0), (42, .lload_n 1, 0, 0, 0), (43, .l2i, 0, 0, 0), (44, .i2l, 0, 0, 0), (45, .lreturn, 0, 0, 0),
  (46, .lload_n 1, 0, 0, 0), (47, .lreturn, 0, 0, 0), (48, .lload_n 1, 0, 0, 0), (49, .lconst 0, 0, 0, 0), (50, .lcmp, 0, 0, 0), (51, .ifCond .eq (7), 0, 58, 0), (54, .lconst 1, 0, 0, 0), (55, .goto (4), 0, 59, 0),
  (58, .lconst 0, 0, 0, 0), (59, .lreturn, 0, 0, 0)]
theorem zc_163 : zl_163.all (fun q => zt_chk 163 q.1 q.2) = true := by decide +kernel
def zl_164 : List (Nat × zx_En) := [(0, .iload_n 1, 0, 0, 0), (1, .i2l, 0, 0, 0), (2, .lconst 0, 0, 0, 0), (3, .ldc2_w 101, 0, 0, 7), (6, .invokestatic 94, 159, 3, -1), (9, .ifCond .eq (15), 0, 24, 0), (12, .iload_n 2, 0, 0, 0), (13, .i2l, 0, 0, 0),
  (14, .lconst 0, 0, 0, 0), (15, .ldc2_w 101, 0, 0, 7), (18, .invokestatic 94, 159, 3, -1), (21, .ifCond .ne (10), 0, 31, 0), (24, .aload_n 0, 0, 0, 0), (25, .bipush (-2), 0, 0, 0), (27, .invokevirtual 107, 160, 2, 5), (30, .ireturn, 0, 0, 0),
  (31, .aload_n 0, 0, 0, 0), (32, .getfield 7, 5, 0, 1), (35, .iload_n 1, 0, 0, 0), (36, .iaload, 0, 0, 0), (37, .iconst (2), 0, 0, 0), (38, .if_icmp .eq (48), 0, 86, 0), (41, .aload_n 0, 0, 0, 0), (42, .getfield 7, 5, 0, 1),
  (45, .iload_n 2, 0, 0, 0), (46, .iaload, 0, 0, 0), (47, .iconst (2), 0, 0, 0), (48, .if_icmp .eq (38), 0, 86, 0), (51, .aload_n 0, 0, 0, 0), (52, .getfield 7, 5, 0, 1), (55, .iload_n 1, 0, 0, 0), (56, .iaload, 0, 0, 0),
  (57, .iconst (1), 0, 0, 0), (58, .if_icmp .ne (35), 0, 93, 0), (61, .aload_n 0, 0, 0, 0), (62, .getfield 7, 5, 0, 1), (65, .iload_n 2, 0, 0, 0), (66, .iaload, 0, 0, 0), (67, .iconst (1), 0, 0, 0), (68, .if_icmp .ne (25), 0, 93, 0),
  (71, .aload_n 0, 0, 0, 0), (72, .getfield 13, 5, 1, 1), (75, .iload_n 1, 0, 0, 0), (76, .iaload, 0, 0, 0), (77, .aload_n 0, 0, 0, 0), (78, .getfield 13, 5, 1, 1), (81, .iload_n 2, 0, 0, 0), (82, .iaload, 0, 0, 0),
  (83, .if_icmp .eq (10), 0, 93, 0), (86, .aload_n 0, 0, 0, 0), (87, .bipush (-3), 0, 0, 0), (89, .invokevirtual 107, 160, 2, 5), (92, .ireturn, 0, 0, 0), (93, .aload_n 0, 0, 0, 0), (94, .getfield 7, 5, 0, 1), (97, .iload_n 1, 0, 0, 0),
  (98, .iaload, 0, 0, 0), (99, .ifCond .eq (12), 0, 111, 0), (102, .aload_n 0, 0, 0, 0), (103, .getfield 7, 5, 0, 1), (106, .iload_n 2, 0, 0, 0), (107, .iaload, 0, 0, 0), (108, .ifCond .ne (10), 0, 118, 0), (111, .aload_n 0, 0, 0, 0),
  (112, .bipush (-4), 0, 0, 0), (114, .invokevirtual 107, 160, 2, 5), (117, .ireturn, 0, 0, 0), (118, .iload 5, 0, 0, 0), (120, .ifCond .lt (61), 0, 181, 0), (123, .iload_n 3, 0, 0, 0), (124, .ifCond .lt (57), 0, 181, 0), (127, .iload 4, 0, 0, 0),
  (129, .ifCond .lt (52), 0, 181, 0), (132, .iload 5, 0, 0, 0), (134, .aload_n 0, 0, 0, 0), (135, .getfield 16, 5, 2, 1), (138, .iload_n 1, 0, 0, 0), (139, .iaload, 0, 0, 0), (140, .if_icmp .gt (41), 0, 181, 0), (143, .iload 5, 0, 0, 0),
  (145, .aload_n 0, 0, 0, 0), (146, .getfield 16, 5, 2, 1), (149, .iload_n 2, 0, 0, 0), (150, .iaload, 0, 0, 0), (151, .if_icmp .gt (30), 0, 181, 0), (154, .iload_n 3, 0, 0, 0), (155, .aload_n 0, 0, 0, 0), (156, .getfield 16, 5, 2, 1),
  (159, .iload_n 1, 0, 0, 0), (160, .iaload, 0, 0, 0), (161, .iload 5, 0, 0, 0), (163, .isub, 0, 0, 0), (164, .if_icmp .gt (17), 0, 181, 0), (167, .iload 4, 0, 0, 0), (169, .aload_n 0, 0, 0, 0), (170, .getfield 16, 5, 2, 1),
  (173, .iload_n 2, 0, 0, 0), (174, .iaload, 0, 0, 0), (175, .iload 5, 0, 0, 0), (177, .isub, 0, 0, 0), (178, .if_icmp .le (10), 0, 188, 0), (181, .aload_n 0, 0, 0, 0), (182, .bipush (-2), 0, 0, 0), (184, .invokevirtual 107, 160, 2, 5),
  (187, .ireturn, 0, 0, 0), (188, .iconst (0), 0, 0, 0), (189, .istore 6, 0, 0, 0), (191, .iload 6, 0, 0, 0), (193, .iload 5, 0, 0, 0), (195, .if_icmp .ge (27), 0, 222, 0), (198, .aload_n 0, 0, 0, 0), (199, .getfield 24, 5, 4, 1),
  (202, .iload 6, 0, 0, 0), (204, .aload_n 0, 0, 0, 0), (205, .getfield 21, 5, 3, 1), (208, .iload_n 1, 0, 0, 0), (209, .aaload, 0, 0, 0), (210, .iload_n 3, 0, 0, 0), (211, .iload 6, 0, 0, 0), (213, .iadd, 0, 0, 0),
  (214, .laload, 0, 0, 0), (215, .lastore, 0, 0, 0), (216, .iinc 6 (1), 0, 0, 0), (219, .goto (-28), 0, 191, 0), (222, .iconst (0), 0, 0, 0), (223, .istore 6, 0, 0, 0), (225, .iload 6, 0, 0, 0), (227, .iload 5, 0, 0, 0),
  (229, .if_icmp .ge (28), 0, 257, 0), (232, .aload_n 0, 0, 0, 0), (233, .getfield 21, 5, 3, 1), (236, .iload_n 2, 0, 0, 0), (237, .aaload, 0, 0, 0), (238, .iload 4, 0, 0, 0), (240, .iload 6, 0, 0, 0), (242, .iadd, 0, 0, 0),
  (243, .aload_n 0, 0, 0, 0), (244, .getfield 24, 5, 4, 1), (247, .iload 6, 0, 0, 0), (249, .laload, 0, 0, 0), (250, .lastore, 0, 0, 0), (251, .iinc 6 (1), 0, 0, 0), (254, .goto (-29), 0, 225, 0), (257, .iload 5, 0, 0, 0),
  (259, .ireturn, 0, 0, 0)]
theorem zc_164 : zl_164.all (fun q => zt_chk 164 q.1 q.2) = true := by decide +kernel
def zl_165 : List (Nat × zx_En) := [(0, .iload_n 1, 0, 0, 0), (1, .i2l, 0, 0, 0), (2, .lconst 0, 0, 0, 0), (3, .ldc2_w 101, 0, 0, 7), (6, .invokestatic 94, 159, 3, -1), (9, .ifCond .eq (42), 0, 51, 0), (12, .aload_n 0, 0, 0, 0), (13, .getfield 7, 5, 0, 1),
  (16, .iload_n 1, 0, 0, 0), (17, .iaload, 0, 0, 0), (18, .iconst (1), 0, 0, 0), (19, .if_icmp .ne (32), 0, 51, 0), (22, .iload_n 2, 0, 0, 0), (23, .i2l, 0, 0, 0), (24, .lconst 0, 0, 0, 0), (25, .aload_n 0, 0, 0, 0),
  (26, .getfield 16, 5, 2, 1), (29, .iload_n 1, 0, 0, 0), (30, .iaload, 0, 0, 0), (31, .iconst (1), 0, 0, 0), (32, .isub, 0, 0, 0), (33, .i2l, 0, 0, 0), (34, .invokestatic 94, 159, 3, -1), (37, .ifCond .eq (14), 0, 51, 0),
  (40, .aload_n 0, 0, 0, 0), (41, .getfield 21, 5, 3, 1), (44, .iload_n 1, 0, 0, 0), (45, .aaload, 0, 0, 0), (46, .iload_n 2, 0, 0, 0), (47, .laload, 0, 0, 0), (48, .goto (4), 0, 52, 0), (51, .lconst 0, 0, 0, 0),
  (52, .lreturn, 0, 0, 0)]
theorem zc_165 : zl_165.all (fun q => zt_chk 165 q.1 q.2) = true := by decide +kernel
def zl_166 : List (Nat × zx_En) := [(0, .iload_n 1, 0, 0, 0), (1, .i2l, 0, 0, 0), (2, .lconst 0, 0, 0, 0), (3, .ldc2_w 101, 0, 0, 7), (6, .invokestatic 94, 159, 3, -1), (9, .ifCond .eq (12), 0, 21, 0), (12, .aload_n 0, 0, 0, 0), (13, .getfield 7, 5, 0, 1),
  (16, .iload_n 1, 0, 0, 0), (17, .iaload, 0, 0, 0), (18, .ifCond .ne (5), 0, 23, 0), (21, .iconst (-1), 0, 0, 0), (22, .ireturn, 0, 0, 0), (23, .aload_n 0, 0, 0, 0), (24, .getfield 7, 5, 0, 1), (27, .iload_n 1, 0, 0, 0),
  (28, .iaload, 0, 0, 0), (29, .iconst (1), 0, 0, 0), (30, .if_icmp .ne (12), 0, 42, 0), (33, .aload_n 0, 0, 0, 0), (34, .getfield 13, 5, 1, 1), (37, .iload_n 1, 0, 0, 0), (38, .iaload, 0, 0, 0), (39, .goto (12), 0, 51, 0),
  (42, .bipush (10), 0, 0, 0), (44, .aload_n 0, 0, 0, 0), (45, .getfield 28, 5, 5, 1), (48, .iload_n 1, 0, 0, 0), (49, .iaload, 0, 0, 0), (50, .iadd, 0, 0, 0), (51, .ireturn, 0, 0, 0)]
theorem zc_166 : zl_166.all (fun q => zt_chk 166 q.1 q.2) = true := by decide +kernel
def zl_167 : List (Nat × zx_En) := [(0, .iload_n 1, 0, 0, 0), (1, .i2l, 0, 0, 0), (2, .lconst 0, 0, 0, 0), (3, .ldc2_w 101, 0, 0, 7), (6, .invokestatic 94, 159, 3, -1), (9, .ifCond .eq (16), 0, 25, 0), (12, .iload_n 2, 0, 0, 0), (13, .iconst (-1), 0, 0, 0),
  (14, .if_icmp .eq (18), 0, 32, 0), (17, .aload_n 0, 0, 0, 0), (18, .iload_n 2, 0, 0, 0), (19, .invokevirtual 118, 168, 2, 5), (22, .ifCond .ne (10), 0, 32, 0), (25, .aload_n 0, 0, 0, 0), (26, .bipush (-2), 0, 0, 0), (28, .invokevirtual 107, 160, 2, 5),
  (31, .ireturn, 0, 0, 0), (32, .aload_n 0, 0, 0, 0), (33, .getfield 7, 5, 0, 1), (36, .iload_n 1, 0, 0, 0), (37, .iload_n 2, 0, 0, 0), (38, .iconst (-1), 0, 0, 0), (39, .if_icmp .ne (7), 0, 46, 0), (42, .iconst (0), 0, 0, 0),
  (43, .goto (4), 0, 47, 0), (46, .iconst (2), 0, 0, 0), (47, .iastore, 0, 0, 0), (48, .iload_n 2, 0, 0, 0), (49, .iconst (-1), 0, 0, 0), (50, .if_icmp .eq (22), 0, 72, 0), (53, .aload_n 0, 0, 0, 0), (54, .getfield 28, 5, 5, 1),
  (57, .iload_n 1, 0, 0, 0), (58, .aload_n 0, 0, 0, 0), (59, .getfield 58, 5, 17, 1), (62, .iload_n 2, 0, 0, 0), (63, .iaload, 0, 0, 0), (64, .iastore, 0, 0, 0), (65, .aload_n 0, 0, 0, 0), (66, .getfield 31, 5, 6, 1),
  (69, .iload_n 1, 0, 0, 0), (70, .iload_n 2, 0, 0, 0), (71, .iastore, 0, 0, 0), (72, .iconst (1), 0, 0, 0), (73, .ireturn, 0, 0, 0)]
theorem zc_167 : zl_167.all (fun q => zt_chk 167 q.1 q.2) = true := by decide +kernel
def zl_168 : List (Nat × zx_En) := [(0, .iload_n 1, 0, 0, 0), (1, .i2l, 0, 0, 0), (2, .lconst 0, 0, 0, 0), (3, .aload_n 0, 0, 0, 0), (4, .getfield 40, 5, 10, 0), (7, .iconst (1), 0, 0, 0), (8, .isub, 0, 0, 0), (9, .i2l, 0, 0, 0),
  (10, .invokestatic 94, 159, 3, -1), (13, .ireturn, 1, 0, 0)]
theorem zc_168 : zl_168.all (fun q => zt_chk 168 q.1 q.2) = true := by decide +kernel
def zl_169 : List (Nat × zx_En) := [(0, .iload_n 1, 0, 0, 0), (1, .i2l, 0, 0, 0), (2, .lconst 0, 0, 0, 0), (3, .ldc2_w 101, 0, 0, 7), (6, .invokestatic 94, 159, 3, -1), (9, .ifCond .eq (15), 0, 24, 0), (12, .iload_n 2, 0, 0, 0), (13, .i2l, 0, 0, 0),
  (14, .lconst 0, 0, 0, 0), (15, .ldc2_w 122, 0, 0, 5), (18, .invokestatic 94, 159, 3, -1), (21, .ifCond .ne (10), 0, 31, 0), (24, .aload_n 0, 0, 0, 0), (25, .bipush (-2), 0, 0, 0), (27, .invokevirtual 107, 160, 2, 5), (30, .ireturn, 0, 0, 0),
  (31, .aload_n 0, 0, 0, 0), (32, .getfield 7, 5, 0, 1), (35, .iload_n 1, 0, 0, 0), (36, .iaload, 0, 0, 0), (37, .iconst (1), 0, 0, 0), (38, .if_icmp .eq (26), 0, 64, 0), (41, .aload_n 0, 0, 0, 0), (42, .getfield 7, 5, 0, 1),
  (45, .iload_n 1, 0, 0, 0), (46, .iaload, 0, 0, 0), (47, .iconst (2), 0, 0, 0), (48, .if_icmp .ne (23), 0, 71, 0), (51, .aload_n 0, 0, 0, 0), (52, .getfield 28, 5, 5, 1), (55, .iload_n 1, 0, 0, 0), (56, .iaload, 0, 0, 0),
  (57, .iload_n 2, 0, 0, 0), (58, .invokestatic 124, 170, 2, -1), (61, .ifCond .ne (10), 0, 71, 0), (64, .aload_n 0, 0, 0, 0), (65, .bipush (-3), 0, 0, 0), (67, .invokevirtual 107, 160, 2, 5), (70, .ireturn, 0, 0, 0), (71, .aload_n 0, 0, 0, 0),
  (72, .getfield 7, 5, 0, 1), (75, .iload_n 1, 0, 0, 0), (76, .iaload, 0, 0, 0), (77, .ifCond .ne (10), 0, 87, 0), (80, .aload_n 0, 0, 0, 0), (81, .bipush (-4), 0, 0, 0), (83, .invokevirtual 107, 160, 2, 5), (86, .ireturn, 0, 0, 0),
  (87, .aload_n 0, 0, 0, 0), (88, .aload_n 0, 0, 0, 0), (89, .getfield 31, 5, 6, 1), (92, .iload_n 1, 0, 0, 0), (93, .iaload, 0, 0, 0), (94, .invokevirtual 118, 168, 2, 5), (97, .ifCond .ne (10), 0, 107, 0), (100, .aload_n 0, 0, 0, 0),
  (101, .bipush (-2), 0, 0, 0), (103, .invokevirtual 107, 160, 2, 5), (106, .ireturn, 0, 0, 0), (107, .aload_n 0, 0, 0, 0), (108, .aload_n 0, 0, 0, 0), (109, .getfield 128, 5, 14, 0), (112, .invokevirtual 131, 171, 2, 5), (115, .aload_n 0, 0, 0, 0),
  (116, .aload_n 0, 0, 0, 0), (117, .getfield 31, 5, 6, 1), (120, .iload_n 1, 0, 0, 0), (121, .iaload, 0, 0, 0), (122, .aload_n 0, 0, 0, 0), (123, .getfield 31, 5, 6, 1), (126, .iload_n 1, 0, 0, 0), (127, .iaload, 0, 0, 0),
  (128, .aload_n 0, 0, 0, 0), (129, .getfield 28, 5, 5, 1), (132, .iload_n 1, 0, 0, 0), (133, .iaload, 0, 0, 0), (134, .aload_n 0, 0, 0, 0), (135, .invokevirtual 135, 172, 1, 5), (138, .aload_n 0, 0, 0, 0), (139, .getfield 139, 5, 18, 0),
  (142, .invokevirtual 142, 173, 6, 5), (145, .ireturn, 0, 0, 0)]
theorem zc_169 : zl_169.all (fun q => zt_chk 169 q.1 q.2) = true := by decide +kernel
def zl_170 : List (Nat × zx_En) := [(0, .iload_n 1, 0, 0, 0), (1, .ifCond .eq (8), 0, 9, 0), (4, .iload_n 0, 0, 0, 0), (5, .iload_n 1, 0, 0, 0), (6, .if_icmp .ne (5), 0, 11, 0), (9, .iconst (1), 0, 0, 0), (10, .ireturn, 1, 0, 0), (11, .iload_n 1, 0, 0, 0),
  (12, .iconst (1), 0, 0, 0), (13, .if_icmp .ne (22), 0, 35, 0), (16, .iload_n 0, 0, 0, 0), (17, .iconst (2), 0, 0, 0), (18, .if_icmp .eq (13), 0, 31, 0), (21, .iload_n 0, 0, 0, 0), (22, .iconst (3), 0, 0, 0), (23, .if_icmp .eq (8), 0, 31, 0),
  (26, .iload_n 0, 0, 0, 0), (27, .iconst (5), 0, 0, 0), (28, .if_icmp .ne (7), 0, 35, 0), (31, .iconst (1), 0, 0, 0), (32, .goto (4), 0, 36, 0), (35, .iconst (0), 0, 0, 0), (36, .ireturn, 1, 0, 0)]
theorem zc_170 : zl_170.all (fun q => zt_chk 170 q.1 q.2) = true := by decide +kernel
def zl_171 : List (Nat × zx_En) := [(0, .aload_n 0, 0, 0, 0), (1, .iload_n 1, 0, 0, 0), (2, .putfield 271, 5, 29, 0), (5, .aload_n 0, 0, 0, 0), (6, .iconst (-1), 0, 0, 0), (7, .putfield 70, 5, 33, 0), (10, .return_, 0, 0, 0)]
theorem zc_171 : zl_171.all (fun q => zt_chk 171 q.1 q.2) = true := by decide +kernel
def zl_172 : List (Nat × zx_En) := [(0, .iconst (0), 0, 0, 0), (1, .istore_n 1, 0, 0, 0), (2, .iconst (0), 0, 0, 0), (3, .istore_n 2, 0, 0, 0), (4, .iload_n 2, 0, 0, 0), (5, .aload_n 0, 0, 0, 0), (6, .getfield 98, 5, 11, 0), (9, .if_icmp .ge (29), 0, 38, 0),
  (12, .iload_n 1, 0, 0, 0), (13, .aload_n 0, 0, 0, 0), (14, .getfield 49, 5, 13, 1), (17, .iload_n 2, 0, 0, 0), (18, .iaload, 0, 0, 0), (19, .iconst (-1), 0, 0, 0), (20, .if_icmp .ne (9), 0, 29, 0), (23, .iconst (1), 0, 0, 0),
  (24, .iload_n 2, 0, 0, 0), (25, .ishl, 0, 0, 0), (26, .goto (4), 0, 30, 0), (29, .iconst (0), 0, 0, 0), (30, .ior, 0, 0, 0), (31, .istore_n 1, 0, 0, 0), (32, .iinc 2 (1), 0, 0, 0), (35, .goto (-31), 0, 4, 0),
  (38, .iload_n 1, 0, 0, 0), (39, .ireturn, 0, 0, 0)]
theorem zc_172 : zl_172.all (fun q => zt_chk 172 q.1 q.2) = true := by decide +kernel
def zl_173 : List (Nat × zx_En) := [(0, .iload 4, 0, 0, 0), (2, .ifCond .ne (5), 0, 7, 0), (5, .iconst (-1), 0, 0, 0), (6, .ireturn, 0, 0, 0), (7, .iload_n 3, 0, 0, 0), (8, .ifCond .eq (8), 0, 16, 0), (11, .iload_n 3, 0, 0, 0), (12, .iconst (4), 0, 0, 0),
  (13, .if_icmp .ne (49), 0, 62, 0), (16, .iload_n 3, 0, 0, 0), (17, .ifCond .ne (7), 0, 24, 0), (20, .iconst (0), 0, 0, 0), (21, .goto (9), 0, 30, 0), (24, .aload_n 0, 0, 0, 0), (25, .getfield 98, 5, 11, 0), (28, .iconst (1), 0, 0, 0),
  (29, .isub, 0, 0, 0), (30, .istore 6, 0, 0, 0), (32, .iload 4, 0, 0, 0), (34, .iload 6, 0, 0, 0), (36, .invokestatic 252, 174, 2, -1), (39, .ifCond .ne (20), 0, 59, 0), (42, .iload 6, 0, 0, 0), (44, .iload_n 3, 0, 0, 0),
  (45, .ifCond .ne (7), 0, 52, 0), (48, .iconst (1), 0, 0, 0), (49, .goto (4), 0, 53, 0), (52, .iconst (-1), 0, 0, 0), (53, .iadd, 0, 0, 0), (54, .istore 6, 0, 0, 0), (56, .goto (-24), 0, 32, 0), (59, .iload 6, 0, 0, 0),
  (61, .ireturn, 0, 0, 0), (62, .iload_n 3, 0, 0, 0), (63, .iconst (5), 0, 0, 0), (64, .if_icmp .ne (13), 0, 77, 0), (67, .aload_n 0, 0, 0, 0), (68, .iload_n 2, 0, 0, 0), (69, .iload 4, 0, 0, 0), (71, .iload 5, 0, 0, 0),
  (73, .invokevirtual 290, 175, 4, 5), (76, .ireturn, 0, 0, 0), (77, .iload_n 3, 0, 0, 0), (78, .iconst (1), 0, 0, 0), (79, .if_icmp .ne (7), 0, 86, 0), (82, .iconst (-1), 0, 0, 0), (83, .goto (10), 0, 93, 0), (86, .aload_n 0, 0, 0, 0),
  (87, .iload_n 2, 0, 0, 0), (88, .iload 5, 0, 0, 0), (90, .invokevirtual 283, 179, 3, 5), (93, .istore 6, 0, 0, 0), (95, .iload 6, 0, 0, 0), (97, .iconst (-1), 0, 0, 0), (98, .if_icmp .ne (12), 0, 110, 0), (101, .aload_n 0, 0, 0, 0),
  (102, .iload_n 1, 0, 0, 0), (103, .iload_n 2, 0, 0, 0), (104, .iload 4, 0, 0, 0), (106, .invokevirtual 293, 180, 4, 5), (109, .ireturn, 0, 0, 0), (110, .iload_n 3, 0, 0, 0), (111, .iconst (2), 0, 0, 0), (112, .if_icmp .ne (14), 0, 126, 0),
  (115, .aload_n 0, 0, 0, 0), (116, .iload_n 1, 0, 0, 0), (117, .iload_n 2, 0, 0, 0), (118, .iload 6, 0, 0, 0), (120, .iload 4, 0, 0, 0), (122, .invokevirtual 296, 182, 5, 5), (125, .ireturn, 0, 0, 0), (126, .aload_n 0, 0, 0, 0),
  (127, .iload_n 1, 0, 0, 0), (128, .iload_n 2, 0, 0, 0), (129, .iload 4, 0, 0, 0), (131, .invokestatic 300, 183, 1, -1), (134, .iconst (1), 0, 0, 0), (135, .if_icmp .ne (8), 0, 143, 0), (138, .iload 4, 0, 0, 0), (140, .goto (20), 0, 160, 0),
  (143, .iload 4, 0, 0, 0), (145, .iconst (1), 0, 0, 0), (146, .aload_n 0, 0, 0, 0), (147, .iload_n 1, 0, 0, 0), (148, .iload_n 2, 0, 0, 0), (149, .iload 6, 0, 0, 0), (151, .iload 4, 0, 0, 0), (153, .invokevirtual 303, 184, 5, 5),
  (156, .ishl, 0, 0, 0), (157, .iconst (-1), 0, 0, 0), (158, .ixor, 0, 0, 0), (159, .iand, 0, 0, 0), (160, .invokevirtual 293, 180, 4, 5), (163, .ireturn, 0, 0, 0)]
theorem zc_173 : zl_173.all (fun q => zt_chk 173 q.1 q.2) = true := by decide +kernel
def zl_174 : List (Nat × zx_En) := [(0, .iload_n 0, 0, 0, 0), (1, .iload_n 1, 0, 0, 0), (2, .ishr, 0, 0, 0), (3, .iconst (1), 0, 0, 0), (4, .iand, 0, 0, 0), (5, .ifCond .eq (7), 0, 12, 0), (8, .iconst (1), 0, 0, 0), (9, .goto (4), 0, 13, 0),
  (12, .iconst (0), 0, 0, 0), (13, .ireturn, 1, 0, 0)]
theorem zc_174 : zl_174.all (fun q => zt_chk 174 q.1 q.2) = true := by decide +kernel
def zl_175 : List (Nat × zx_En) := [(0, .iconst (-1), 0, 0, 0), (1, .istore 4, 0, 0, 0), (3, .iconst (0), 0, 0, 0), (4, .istore 5, 0, 0, 0), (6, .iconst (0), 0, 0, 0), (7, .istore 6, 0, 0, 0), (9, .iload 6, 0, 0, 0), (11, .aload_n 0, 0, 0, 0),
  (12, .getfield 98, 5, 11, 0), (15, .if_icmp .ge (67), 0, 82, 0), (18, .iload_n 2, 0, 0, 0), (19, .iload 6, 0, 0, 0), (21, .invokestatic 252, 174, 2, -1), (24, .ifCond .eq (52), 0, 76, 0), (27, .aload_n 0, 0, 0, 0), (28, .getfield 46, 5, 12, 1),
  (31, .iload 6, 0, 0, 0), (33, .aaload, 0, 0, 0), (34, .iload_n 1, 0, 0, 0), (35, .iaload, 0, 0, 0), (36, .aload_n 0, 0, 0, 0), (37, .iload_n 1, 0, 0, 0), (38, .iload_n 2, 0, 0, 0), (39, .iconst (1), 0, 0, 0),
  (40, .iload 6, 0, 0, 0), (42, .ishl, 0, 0, 0), (43, .iconst (-1), 0, 0, 0), (44, .ixor, 0, 0, 0), (45, .iand, 0, 0, 0), (46, .iload_n 3, 0, 0, 0), (47, .iconst (1), 0, 0, 0), (48, .iadd, 0, 0, 0),
  (49, .invokevirtual 306, 176, 4, 5), (52, .iadd, 0, 0, 0), (53, .istore 7, 0, 0, 0), (55, .iload 4, 0, 0, 0), (57, .iconst (-1), 0, 0, 0), (58, .if_icmp .eq (10), 0, 68, 0), (61, .iload 7, 0, 0, 0), (63, .iload 5, 0, 0, 0),
  (65, .if_icmp .le (11), 0, 76, 0), (68, .iload 6, 0, 0, 0), (70, .istore 4, 0, 0, 0), (72, .iload 7, 0, 0, 0), (74, .istore 5, 0, 0, 0), (76, .iinc 6 (1), 0, 0, 0), (79, .goto (-70), 0, 9, 0), (82, .iload 4, 0, 0, 0),
  (84, .ireturn, 0, 0, 0)]
theorem zc_175 : zl_175.all (fun q => zt_chk 175 q.1 q.2) = true := by decide +kernel
def zl_176 : List (Nat × zx_En) := [(0, .iload_n 2, 0, 0, 0), (1, .ifCond .ne (5), 0, 6, 0), (4, .iconst (0), 0, 0, 0), (5, .ireturn, 0, 0, 0), (6, .aload_n 0, 0, 0, 0), (7, .iload_n 3, 0, 0, 0), (8, .invokevirtual 280, 177, 2, 5), (11, .istore 4, 0, 0, 0),
  (13, .iload 4, 0, 0, 0), (15, .iconst (-1), 0, 0, 0), (16, .if_icmp .ne (5), 0, 21, 0), (19, .iconst (0), 0, 0, 0), (20, .ireturn, 0, 0, 0), (21, .iload 4, 0, 0, 0), (23, .iload_n 1, 0, 0, 0), (24, .if_icmp .ne (39), 0, 63, 0),
  (27, .aload_n 0, 0, 0, 0), (28, .iload_n 1, 0, 0, 0), (29, .iload_n 2, 0, 0, 0), (30, .iload_n 3, 0, 0, 0), (31, .invokevirtual 290, 175, 4, 5), (34, .istore 5, 0, 0, 0), (36, .aload_n 0, 0, 0, 0), (37, .getfield 46, 5, 12, 1),
  (40, .iload 5, 0, 0, 0), (42, .aaload, 0, 0, 0), (43, .iload_n 1, 0, 0, 0), (44, .iaload, 0, 0, 0), (45, .aload_n 0, 0, 0, 0), (46, .iload_n 1, 0, 0, 0), (47, .iload_n 2, 0, 0, 0), (48, .iconst (1), 0, 0, 0),
  (49, .iload 5, 0, 0, 0), (51, .ishl, 0, 0, 0), (52, .iconst (-1), 0, 0, 0), (53, .ixor, 0, 0, 0), (54, .iand, 0, 0, 0), (55, .iload_n 3, 0, 0, 0), (56, .iconst (1), 0, 0, 0), (57, .iadd, 0, 0, 0),
  (58, .invokevirtual 306, 176, 4, 5), (61, .iadd, 0, 0, 0), (62, .ireturn, 0, 0, 0), (63, .aload_n 0, 0, 0, 0), (64, .iload_n 1, 0, 0, 0), (65, .iload 4, 0, 0, 0), (67, .aload_n 0, 0, 0, 0), (68, .getfield 58, 5, 17, 1),
  (71, .iload 4, 0, 0, 0), (73, .iaload, 0, 0, 0), (74, .iconst (5), 0, 0, 0), (75, .if_icmp .ne (7), 0, 82, 0), (78, .iconst (1), 0, 0, 0), (79, .goto (10), 0, 89, 0), (82, .aload_n 0, 0, 0, 0), (83, .getfield 58, 5, 17, 1),
  (86, .iload 4, 0, 0, 0), (88, .iaload, 0, 0, 0), (89, .iload_n 2, 0, 0, 0), (90, .iload_n 3, 0, 0, 0), (91, .invokevirtual 142, 173, 6, 5), (94, .istore 5, 0, 0, 0), (96, .aload_n 0, 0, 0, 0), (97, .iload_n 1, 0, 0, 0),
  (98, .iload_n 2, 0, 0, 0), (99, .iconst (1), 0, 0, 0), (100, .iload 5, 0, 0, 0), (102, .ishl, 0, 0, 0), (103, .iconst (-1), 0, 0, 0), (104, .ixor, 0, 0, 0), (105, .iand, 0, 0, 0), (106, .iload_n 3, 0, 0, 0),
  (107, .iconst (1), 0, 0, 0), (108, .iadd, 0, 0, 0), (109, .invokevirtual 306, 176, 4, 5), (112, .ireturn, 0, 0, 0)]
theorem zc_176 : zl_176.all (fun q => zt_chk 176 q.1 q.2) = true := by decide +kernel
def zl_177 : List (Nat × zx_En) := [(0, .aload_n 0, 0, 0, 0), (1, .getfield 271, 5, 29, 0), (4, .ifCond .lt (13), 0, 17, 0), (7, .aload_n 0, 0, 0, 0), (8, .aload_n 0, 0, 0, 0), (9, .getfield 271, 5, 29, 0), (12, .iload_n 1, 0, 0, 0), (13, .invokevirtual 262, 178, 3, 5),
  (16, .ireturn, 0, 0, 0), (17, .iload_n 1, 0, 0, 0), (18, .aload_n 0, 0, 0, 0), (19, .getfield 274, 5, 32, 0), (22, .isub, 0, 0, 0), (23, .i2l, 0, 0, 0), (24, .lconst 0, 0, 0, 0), (25, .aload_n 0, 0, 0, 0),
  (26, .getfield 277, 5, 31, 0), (29, .iconst (1), 0, 0, 0), (30, .isub, 0, 0, 0), (31, .i2l, 0, 0, 0), (32, .invokestatic 94, 159, 3, -1), (35, .ifCond .eq (17), 0, 52, 0), (38, .aload_n 0, 0, 0, 0), (39, .getfield 67, 5, 30, 1),
  (42, .iload_n 1, 0, 0, 0), (43, .aload_n 0, 0, 0, 0), (44, .getfield 274, 5, 32, 0), (47, .isub, 0, 0, 0), (48, .iaload, 0, 0, 0), (49, .goto (4), 0, 53, 0), (52, .iconst (-1), 0, 0, 0), (53, .ireturn, 0, 0, 0)]
theorem zc_177 : zl_177.all (fun q => zt_chk 177 q.1 q.2) = true := by decide +kernel
def zl_178 : List (Nat × zx_En) := [(0, .iload_n 1, 0, 0, 0), (1, .ifCond .ne (10), 0, 11, 0), (4, .iload_n 2, 0, 0, 0), (5, .aload_n 0, 0, 0, 0), (6, .getfield 40, 5, 10, 0), (9, .irem, 0, 0, 0), (10, .ireturn, 0, 0, 0), (11, .iload_n 1, 0, 0, 0),
  (12, .iconst (1), 0, 0, 0), (13, .if_icmp .ne (35), 0, 48, 0), (16, .iload_n 2, 0, 0, 0), (17, .iconst (2), 0, 0, 0), (18, .aload_n 0, 0, 0, 0), (19, .getfield 40, 5, 10, 0), (22, .imul, 0, 0, 0), (23, .irem, 0, 0, 0),
  (24, .istore_n 3, 0, 0, 0), (25, .iload_n 3, 0, 0, 0), (26, .aload_n 0, 0, 0, 0), (27, .getfield 40, 5, 10, 0), (30, .if_icmp .ge (7), 0, 37, 0), (33, .iload_n 3, 0, 0, 0), (34, .goto (13), 0, 47, 0), (37, .iconst (2), 0, 0, 0),
  (38, .aload_n 0, 0, 0, 0), (39, .getfield 40, 5, 10, 0), (42, .imul, 0, 0, 0), (43, .iconst (1), 0, 0, 0), (44, .isub, 0, 0, 0), (45, .iload_n 3, 0, 0, 0), (46, .isub, 0, 0, 0), (47, .ireturn, 0, 0, 0),
  (48, .iload_n 1, 0, 0, 0), (49, .iconst (3), 0, 0, 0), (50, .if_icmp .ne (15), 0, 65, 0), (53, .aload_n 0, 0, 0, 0), (54, .getfield 52, 5, 15, 1), (57, .iload_n 2, 0, 0, 0), (58, .aload_n 0, 0, 0, 0), (59, .getfield 55, 5, 16, 0),
  (62, .irem, 0, 0, 0), (63, .iaload, 0, 0, 0), (64, .ireturn, 0, 0, 0), (65, .iconst (0), 0, 0, 0), (66, .istore_n 3, 0, 0, 0), (67, .iload_n 2, 0, 0, 0), (68, .istore 4, 0, 0, 0), (70, .iload 4, 0, 0, 0),
  (72, .ifCond .le (25), 0, 97, 0), (75, .iload_n 3, 0, 0, 0), (76, .iload 4, 0, 0, 0), (78, .aload_n 0, 0, 0, 0), (79, .getfield 40, 5, 10, 0), (82, .irem, 0, 0, 0), (83, .iadd, 0, 0, 0), (84, .istore_n 3, 0, 0, 0),
  (85, .iload 4, 0, 0, 0), (87, .aload_n 0, 0, 0, 0), (88, .getfield 40, 5, 10, 0), (91, .idiv, 0, 0, 0), (92, .istore 4, 0, 0, 0), (94, .goto (-24), 0, 70, 0), (97, .iload_n 3, 0, 0, 0), (98, .aload_n 0, 0, 0, 0),
  (99, .getfield 40, 5, 10, 0), (102, .irem, 0, 0, 0), (103, .ireturn, 0, 0, 0)]
theorem zc_178 : zl_178.all (fun q => zt_chk 178 q.1 q.2) = true := by decide +kernel
def zl_179 : List (Nat × zx_En) := [(0, .iconst (1), 0, 0, 0), (1, .istore_n 3, 0, 0, 0), (2, .iload_n 3, 0, 0, 0), (3, .bipush (24), 0, 0, 0), (5, .if_icmp .gt (33), 0, 38, 0), (8, .aload_n 0, 0, 0, 0), (9, .iload_n 2, 0, 0, 0), (10, .iload_n 3, 0, 0, 0),
  (11, .iadd, 0, 0, 0), (12, .invokevirtual 280, 177, 2, 5), (15, .istore 4, 0, 0, 0), (17, .iload 4, 0, 0, 0), (19, .iconst (-1), 0, 0, 0), (20, .if_icmp .eq (12), 0, 32, 0), (23, .iload 4, 0, 0, 0), (25, .iload_n 1, 0, 0, 0),
  (26, .if_icmp .eq (6), 0, 32, 0), (29, .iload 4, 0, 0, 0), (31, .ireturn, 0, 0, 0), (32, .iinc 3 (1), 0, 0, 0), (35, .goto (-33), 0, 2, 0), (38, .iconst (-1), 0, 0, 0), (39, .ireturn, 0, 0, 0)]
theorem zc_179 : zl_179.all (fun q => zt_chk 179 q.1 q.2) = true := by decide +kernel
def zl_180 : List (Nat × zx_En) := [(0, .iconst (-1), 0, 0, 0), (1, .istore 4, 0, 0, 0), (3, .iconst (0), 0, 0, 0), (4, .istore 5, 0, 0, 0), (6, .iload 5, 0, 0, 0), (8, .aload_n 0, 0, 0, 0), (9, .getfield 98, 5, 11, 0), (12, .if_icmp .ge (47), 0, 59, 0),
  (15, .iload_n 3, 0, 0, 0), (16, .iload 5, 0, 0, 0), (18, .invokestatic 252, 174, 2, -1), (21, .ifCond .eq (32), 0, 53, 0), (24, .iload 4, 0, 0, 0), (26, .iconst (-1), 0, 0, 0), (27, .if_icmp .eq (22), 0, 49, 0), (30, .aload_n 0, 0, 0, 0),
  (31, .iload_n 1, 0, 0, 0), (32, .iload_n 2, 0, 0, 0), (33, .iload 5, 0, 0, 0), (35, .invokevirtual 286, 181, 4, 5), (38, .aload_n 0, 0, 0, 0), (39, .iload_n 1, 0, 0, 0), (40, .iload_n 2, 0, 0, 0), (41, .iload 4, 0, 0, 0),
  (43, .invokevirtual 286, 181, 4, 5), (46, .if_icmp .le (7), 0, 53, 0), (49, .iload 5, 0, 0, 0), (51, .istore 4, 0, 0, 0), (53, .iinc 5 (1), 0, 0, 0), (56, .goto (-50), 0, 6, 0), (59, .iload 4, 0, 0, 0), (61, .ireturn, 0, 0, 0)]
theorem zc_180 : zl_180.all (fun q => zt_chk 180 q.1 q.2) = true := by decide +kernel
def zl_181 : List (Nat × zx_En) := [(0, .iload_n 2, 0, 0, 0), (1, .aload_n 0, 0, 0, 0), (2, .getfield 70, 5, 33, 0), (5, .if_icmp .ne (17), 0, 22, 0), (8, .iload_n 1, 0, 0, 0), (9, .iload_n 2, 0, 0, 0), (10, .if_icmp .eq (12), 0, 22, 0), (13, .aload_n 0, 0, 0, 0),
  (14, .getfield 73, 5, 34, 1), (17, .iload_n 3, 0, 0, 0), (18, .iaload, 0, 0, 0), (19, .goto (11), 0, 30, 0), (22, .aload_n 0, 0, 0, 0), (23, .getfield 46, 5, 12, 1), (26, .iload_n 3, 0, 0, 0), (27, .aaload, 0, 0, 0),
  (28, .iload_n 2, 0, 0, 0), (29, .iaload, 0, 0, 0), (30, .ireturn, 0, 0, 0)]
theorem zc_181 : zl_181.all (fun q => zt_chk 181 q.1 q.2) = true := by decide +kernel
def zl_182 : List (Nat × zx_En) := [(0, .iconst (-1), 0, 0, 0), (1, .istore 5, 0, 0, 0), (3, .iconst (0), 0, 0, 0), (4, .istore 6, 0, 0, 0), (6, .iload 6, 0, 0, 0), (8, .aload_n 0, 0, 0, 0), (9, .getfield 98, 5, 11, 0), (12, .if_icmp .ge (98), 0, 110, 0),
  (15, .iload 4, 0, 0, 0), (17, .iload 6, 0, 0, 0), (19, .invokestatic 252, 174, 2, -1), (22, .ifCond .eq (82), 0, 104, 0), (25, .iload 5, 0, 0, 0), (27, .iconst (-1), 0, 0, 0), (28, .if_icmp .ne (7), 0, 35, 0), (31, .iconst (1), 0, 0, 0),
  (32, .goto (20), 0, 52, 0), (35, .aload_n 0, 0, 0, 0), (36, .iload_n 1, 0, 0, 0), (37, .iload_n 3, 0, 0, 0), (38, .iload 6, 0, 0, 0), (40, .invokevirtual 286, 181, 4, 5), (43, .aload_n 0, 0, 0, 0), (44, .iload_n 1, 0, 0, 0),
  (45, .iload_n 3, 0, 0, 0), (46, .iload 5, 0, 0, 0), (48, .invokevirtual 286, 181, 4, 5), (51, .isub, 0, 0, 0), (52, .istore 7, 0, 0, 0), (54, .iload 7, 0, 0, 0), (56, .ifCond .gt (27), 0, 83, 0), (59, .iload 7, 0, 0, 0),
  (61, .ifCond .ne (26), 0, 87, 0), (64, .aload_n 0, 0, 0, 0), (65, .iload_n 1, 0, 0, 0), (66, .iload_n 2, 0, 0, 0), (67, .iload 6, 0, 0, 0), (69, .invokevirtual 286, 181, 4, 5), (72, .aload_n 0, 0, 0, 0), (73, .iload_n 1, 0, 0, 0),
  (74, .iload_n 2, 0, 0, 0), (75, .iload 5, 0, 0, 0), (77, .invokevirtual 286, 181, 4, 5), (80, .if_icmp .le (7), 0, 87, 0), (83, .iconst (1), 0, 0, 0), (84, .goto (4), 0, 88, 0), (87, .iconst (0), 0, 0, 0), (88, .istore 8, 0, 0, 0),
  (90, .iload 8, 0, 0, 0), (92, .ifCond .eq (8), 0, 100, 0), (95, .iload 6, 0, 0, 0), (97, .goto (5), 0, 102, 0), (100, .iload 5, 0, 0, 0), (102, .istore 5, 0, 0, 0), (104, .iinc 6 (1), 0, 0, 0), (107, .goto (-101), 0, 6, 0),
  (110, .iload 5, 0, 0, 0), (112, .ireturn, 0, 0, 0)]
theorem zc_182 : zl_182.all (fun q => zt_chk 182 q.1 q.2) = true := by decide +kernel
def zl_183 : List (Nat × zx_En) := [(0, .iconst (0), 0, 0, 0), (1, .istore_n 1, 0, 0, 0), (2, .iconst (0), 0, 0, 0), (3, .istore_n 2, 0, 0, 0), (4, .iload_n 2, 0, 0, 0), (5, .bipush (8), 0, 0, 0), (7, .if_icmp .ge (17), 0, 24, 0), (10, .iload_n 1, 0, 0, 0),
  (11, .iload_n 0, 0, 0, 0), (12, .iload_n 2, 0, 0, 0), (13, .ishr, 0, 0, 0), (14, .iconst (1), 0, 0, 0), (15, .iand, 0, 0, 0), (16, .iadd, 0, 0, 0), (17, .istore_n 1, 0, 0, 0), (18, .iinc 2 (1), 0, 0, 0),
  (21, .goto (-17), 0, 4, 0), (24, .iload_n 1, 0, 0, 0), (25, .ireturn, 0, 0, 0)]
theorem zc_183 : zl_183.all (fun q => zt_chk 183 q.1 q.2) = true := by decide +kernel
def zl_184 : List (Nat × zx_En) := [(0, .iconst (-1), 0, 0, 0), (1, .istore 5, 0, 0, 0), (3, .iconst (0), 0, 0, 0), (4, .istore 6, 0, 0, 0), (6, .iload 6, 0, 0, 0), (8, .aload_n 0, 0, 0, 0), (9, .getfield 98, 5, 11, 0), (12, .if_icmp .ge (48), 0, 60, 0),
  (15, .iload 4, 0, 0, 0), (17, .iload 6, 0, 0, 0), (19, .invokestatic 252, 174, 2, -1), (22, .ifCond .eq (32), 0, 54, 0), (25, .iload 5, 0, 0, 0), (27, .iconst (-1), 0, 0, 0), (28, .if_icmp .eq (22), 0, 50, 0), (31, .aload_n 0, 0, 0, 0),
  (32, .iload_n 1, 0, 0, 0), (33, .iload_n 3, 0, 0, 0), (34, .iload 6, 0, 0, 0), (36, .invokevirtual 286, 181, 4, 5), (39, .aload_n 0, 0, 0, 0), (40, .iload_n 1, 0, 0, 0), (41, .iload_n 3, 0, 0, 0), (42, .iload 5, 0, 0, 0),
  (44, .invokevirtual 286, 181, 4, 5), (47, .if_icmp .gt (7), 0, 54, 0), (50, .iload 6, 0, 0, 0), (52, .istore 5, 0, 0, 0), (54, .iinc 6 (1), 0, 0, 0), (57, .goto (-51), 0, 6, 0), (60, .iload 5, 0, 0, 0), (62, .ireturn, 0, 0, 0)]
theorem zc_184 : zl_184.all (fun q => zt_chk 184 q.1 q.2) = true := by decide +kernel
def zl_185 : List (Nat × zx_En) := [(0, .iload_n 1, 0, 0, 0), (1, .i2l, 0, 0, 0), (2, .ldc2_w 146, 0, 0, 2), (5, .ldc2_w 148, 0, 0, 3), (8, .invokestatic 94, 159, 3, -1), (11, .ifCond .ne (10), 0, 21, 0), (14, .aload_n 0, 0, 0, 0), (15, .bipush (-2), 0, 0, 0),
  (17, .invokevirtual 107, 160, 2, 5), (20, .ireturn, 0, 0, 0), (21, .aload_n 0, 0, 0, 0), (22, .getfield 98, 5, 11, 0), (25, .ifCond .le (10), 0, 35, 0), (28, .aload_n 0, 0, 0, 0), (29, .bipush (-5), 0, 0, 0), (31, .invokevirtual 107, 160, 2, 5),
  (34, .ireturn, 0, 0, 0), (35, .aload_n 0, 0, 0, 0), (36, .getfield 40, 5, 10, 0), (39, .istore_n 2, 0, 0, 0), (40, .aload_n 0, 0, 0, 0), (41, .iload_n 1, 0, 0, 0), (42, .invokevirtual 150, 186, 2, 5), (45, .iload_n 2, 0, 0, 0),
  (46, .ireturn, 0, 0, 0)]
theorem zc_185 : zl_185.all (fun q => zt_chk 185 q.1 q.2) = true := by decide +kernel
def zl_186 : List (Nat × zx_En) := [(0, .aload_n 0, 0, 0, 0), (1, .iload_n 1, 0, 0, 0), (2, .putfield 40, 5, 10, 0), (5, .aload_n 0, 0, 0, 0), (6, .iconst (1), 0, 0, 0), (7, .putfield 55, 5, 16, 0), (10, .aload_n 0, 0, 0, 0), (11, .getfield 52, 5, 15, 1),
  (14, .iconst (0), 0, 0, 0), (15, .iconst (0), 0, 0, 0), (16, .iastore, 0, 0, 0), (17, .iconst (0), 0, 0, 0), (18, .istore_n 2, 0, 0, 0), (19, .iload_n 2, 0, 0, 0), (20, .iconst (3), 0, 0, 0), (21, .if_icmp .ge (16), 0, 37, 0),
  (24, .aload_n 0, 0, 0, 0), (25, .getfield 58, 5, 17, 1), (28, .iload_n 2, 0, 0, 0), (29, .iconst (0), 0, 0, 0), (30, .iastore, 0, 0, 0), (31, .iinc 2 (1), 0, 0, 0), (34, .goto (-15), 0, 19, 0), (37, .return_, 0, 0, 0)]
theorem zc_186 : zl_186.all (fun q => zt_chk 186 q.1 q.2) = true := by decide +kernel
def zl_187 : List (Nat × zx_En) := [(0, .iload_n 1, 0, 0, 0), (1, .i2l, 0, 0, 0), (2, .lconst 0, 0, 0, 0), (3, .ldc2_w 153, 0, 0, 99), (6, .invokestatic 94, 159, 3, -1), (9, .ifCond .eq (35), 0, 44, 0), (12, .iload_n 2, 0, 0, 0), (13, .i2l, 0, 0, 0),
  (14, .lconst 0, 0, 0, 0), (15, .ldc2_w 153, 0, 0, 99), (18, .invokestatic 94, 159, 3, -1), (21, .ifCond .eq (23), 0, 44, 0), (24, .aload_n 0, 0, 0, 0), (25, .getfield 40, 5, 10, 0), (28, .iconst (3), 0, 0, 0), (29, .if_icmp .ne (22), 0, 51, 0),
  (32, .iload_n 3, 0, 0, 0), (33, .i2l, 0, 0, 0), (34, .lconst 0, 0, 0, 0), (35, .ldc2_w 153, 0, 0, 99), (38, .invokestatic 94, 159, 3, -1), (41, .ifCond .ne (10), 0, 51, 0), (44, .aload_n 0, 0, 0, 0), (45, .bipush (-2), 0, 0, 0),
  (47, .invokevirtual 107, 160, 2, 5), (50, .ireturn, 0, 0, 0), (51, .aload_n 0, 0, 0, 0), (52, .getfield 98, 5, 11, 0), (55, .bipush (8), 0, 0, 0), (57, .if_icmp .ne (10), 0, 67, 0), (60, .aload_n 0, 0, 0, 0), (61, .bipush (-6), 0, 0, 0),
  (63, .invokevirtual 107, 160, 2, 5), (66, .ireturn, 0, 0, 0), (67, .aload_n 0, 0, 0, 0), (68, .iload_n 1, 0, 0, 0), (69, .iload_n 2, 0, 0, 0), (70, .iload_n 3, 0, 0, 0), (71, .invokevirtual 155, 188, 4, 5), (74, .aload_n 0, 0, 0, 0),
  (75, .getfield 98, 5, 11, 0), (78, .iconst (1), 0, 0, 0), (79, .isub, 0, 0, 0), (80, .ireturn, 0, 0, 0)]
theorem zc_187 : zl_187.all (fun q => zt_chk 187 q.1 q.2) = true := by decide +kernel
def zl_188 : List (Nat × zx_En) := [(0, .aload_n 0, 0, 0, 0), (1, .getfield 46, 5, 12, 1), (4, .aload_n 0, 0, 0, 0), (5, .getfield 98, 5, 11, 0), (8, .aaload, 0, 0, 0), (9, .iconst (0), 0, 0, 0), (10, .iload_n 1, 0, 0, 0), (11, .iastore, 0, 0, 0),
  (12, .aload_n 0, 0, 0, 0), (13, .getfield 46, 5, 12, 1), (16, .aload_n 0, 0, 0, 0), (17, .getfield 98, 5, 11, 0), (20, .aaload, 0, 0, 0), (21, .iconst (1), 0, 0, 0), (22, .iload_n 2, 0, 0, 0), (23, .iastore, 0, 0, 0),
  (24, .aload_n 0, 0, 0, 0), (25, .getfield 46, 5, 12, 1), (28, .aload_n 0, 0, 0, 0), (29, .getfield 98, 5, 11, 0), (32, .aaload, 0, 0, 0), (33, .iconst (2), 0, 0, 0), (34, .aload_n 0, 0, 0, 0), (35, .getfield 40, 5, 10, 0),
  (38, .iconst (3), 0, 0, 0), (39, .if_icmp .ne (7), 0, 46, 0), (42, .iload_n 3, 0, 0, 0), (43, .goto (4), 0, 47, 0), (46, .iconst (0), 0, 0, 0), (47, .iastore, 0, 0, 0), (48, .aload_n 0, 0, 0, 0), (49, .getfield 49, 5, 13, 1),
  (52, .aload_n 0, 0, 0, 0), (53, .getfield 98, 5, 11, 0), (56, .iconst (-1), 0, 0, 0), (57, .iastore, 0, 0, 0), (58, .aload_n 0, 0, 0, 0), (59, .dup, 0, 0, 0), (60, .getfield 98, 5, 11, 0), (63, .iconst (1), 0, 0, 0),
  (64, .iadd, 0, 0, 0), (65, .putfield 98, 5, 11, 0), (68, .return_, 0, 0, 0)]
theorem zc_188 : zl_188.all (fun q => zt_chk 188 q.1 q.2) = true := by decide +kernel
def zl_189 : List (Nat × zx_En) := [(0, .aload_n 0, 0, 0, 0), (1, .iload_n 1, 0, 0, 0), (2, .invokevirtual 118, 168, 2, 5), (5, .ifCond .eq (23), 0, 28, 0), (8, .aload_n 0, 0, 0, 0), (9, .iload_n 2, 0, 0, 0), (10, .invokevirtual 159, 190, 2, 5), (13, .ifCond .eq (15), 0, 28, 0),
  (16, .iload_n 3, 0, 0, 0), (17, .i2l, 0, 0, 0), (18, .lconst 0, 0, 0, 0), (19, .ldc2_w 153, 0, 0, 99), (22, .invokestatic 94, 159, 3, -1), (25, .ifCond .ne (10), 0, 35, 0), (28, .aload_n 0, 0, 0, 0), (29, .bipush (-2), 0, 0, 0),
  (31, .invokevirtual 107, 160, 2, 5), (34, .ireturn, 0, 0, 0), (35, .aload_n 0, 0, 0, 0), (36, .getfield 46, 5, 12, 1), (39, .iload_n 2, 0, 0, 0), (40, .aaload, 0, 0, 0), (41, .iload_n 1, 0, 0, 0), (42, .iaload, 0, 0, 0),
  (43, .istore 4, 0, 0, 0), (45, .aload_n 0, 0, 0, 0), (46, .getfield 46, 5, 12, 1), (49, .iload_n 2, 0, 0, 0), (50, .aaload, 0, 0, 0), (51, .iload_n 1, 0, 0, 0), (52, .iload_n 3, 0, 0, 0), (53, .iastore, 0, 0, 0),
  (54, .iload 4, 0, 0, 0), (56, .ireturn, 0, 0, 0)]
theorem zc_189 : zl_189.all (fun q => zt_chk 189 q.1 q.2) = true := by decide +kernel
def zl_190 : List (Nat × zx_En) := [(0, .iload_n 1, 0, 0, 0), (1, .i2l, 0, 0, 0), (2, .lconst 0, 0, 0, 0), (3, .aload_n 0, 0, 0, 0), (4, .getfield 98, 5, 11, 0), (7, .iconst (1), 0, 0, 0), (8, .isub, 0, 0, 0), (9, .i2l, 0, 0, 0),
  (10, .invokestatic 94, 159, 3, -1), (13, .ireturn, 1, 0, 0)]
theorem zc_190 : zl_190.all (fun q => zt_chk 190 q.1 q.2) = true := by decide +kernel
def zl_191 : List (Nat × zx_En) := [(0, .aload_n 0, 0, 0, 0), (1, .iload_n 1, 0, 0, 0), (2, .invokevirtual 118, 168, 2, 5), (5, .ifCond .eq (15), 0, 20, 0), (8, .iload_n 2, 0, 0, 0), (9, .i2l, 0, 0, 0), (10, .lconst 0, 0, 0, 0), (11, .ldc2_w 122, 0, 0, 5),
  (14, .invokestatic 94, 159, 3, -1), (17, .ifCond .ne (10), 0, 27, 0), (20, .aload_n 0, 0, 0, 0), (21, .bipush (-2), 0, 0, 0), (23, .invokevirtual 107, 160, 2, 5), (26, .ireturn, 0, 0, 0), (27, .aload_n 0, 0, 0, 0), (28, .getfield 58, 5, 17, 1),
  (31, .iload_n 1, 0, 0, 0), (32, .iaload, 0, 0, 0), (33, .istore_n 3, 0, 0, 0), (34, .aload_n 0, 0, 0, 0), (35, .getfield 58, 5, 17, 1), (38, .iload_n 1, 0, 0, 0), (39, .iload_n 2, 0, 0, 0), (40, .iastore, 0, 0, 0),
  (41, .iload_n 3, 0, 0, 0), (42, .ireturn, 0, 0, 0)]
theorem zc_191 : zl_191.all (fun q => zt_chk 191 q.1 q.2) = true := by decide +kernel
def zl_192 : List (Nat × zx_En) := [(0, .iload_n 1, 0, 0, 0), (1, .i2l, 0, 0, 0), (2, .lconst 0, 0, 0, 0), (3, .ldc2_w 148, 0, 0, 3), (6, .invokestatic 94, 159, 3, -1), (9, .ifCond .ne (10), 0, 19, 0), (12, .aload_n 0, 0, 0, 0), (13, .bipush (-2), 0, 0, 0),
  (15, .invokevirtual 107, 160, 2, 5), (18, .ireturn, 0, 0, 0), (19, .aload_n 0, 0, 0, 0), (20, .getfield 128, 5, 14, 0), (23, .istore_n 2, 0, 0, 0), (24, .aload_n 0, 0, 0, 0), (25, .iload_n 1, 0, 0, 0), (26, .putfield 128, 5, 14, 0),
  (29, .iload_n 2, 0, 0, 0), (30, .ireturn, 0, 0, 0)]
theorem zc_192 : zl_192.all (fun q => zt_chk 192 q.1 q.2) = true := by decide +kernel
def zl_193 : List (Nat × zx_En) := [(0, .iload_n 1, 0, 0, 0), (1, .i2l, 0, 0, 0), (2, .lconst 0, 0, 0, 0), (3, .ldc2_w 101, 0, 0, 7), (6, .invokestatic 94, 159, 3, -1), (9, .ifCond .eq (15), 0, 24, 0), (12, .iload_n 2, 0, 0, 0), (13, .i2l, 0, 0, 0),
  (14, .lconst 1, 0, 0, 0), (15, .ldc2_w 162, 0, 0, 12), (18, .invokestatic 94, 159, 3, -1), (21, .ifCond .ne (10), 0, 31, 0), (24, .aload_n 0, 0, 0, 0), (25, .bipush (-2), 0, 0, 0), (27, .invokevirtual 107, 160, 2, 5), (30, .ireturn, 0, 0, 0),
  (31, .aload_n 0, 0, 0, 0), (32, .iload_n 1, 0, 0, 0), (33, .invokevirtual 111, 162, 2, 5), (36, .istore_n 3, 0, 0, 0), (37, .iload_n 3, 0, 0, 0), (38, .ifCond .eq (9), 0, 47, 0), (41, .aload_n 0, 0, 0, 0), (42, .iload_n 3, 0, 0, 0),
  (43, .invokevirtual 107, 160, 2, 5), (46, .ireturn, 0, 0, 0), (47, .aload_n 0, 0, 0, 0), (48, .getfield 16, 5, 2, 1), (51, .iload_n 1, 0, 0, 0), (52, .iaload, 0, 0, 0), (53, .iload_n 2, 0, 0, 0), (54, .if_icmp .ge (10), 0, 64, 0),
  (57, .aload_n 0, 0, 0, 0), (58, .bipush (-2), 0, 0, 0), (60, .invokevirtual 107, 160, 2, 5), (63, .ireturn, 0, 0, 0), (64, .iconst (0), 0, 0, 0), (65, .istore 4, 0, 0, 0), (67, .iload 4, 0, 0, 0), (69, .iload_n 2, 0, 0, 0),
  (70, .if_icmp .ge (39), 0, 109, 0), (73, .aload_n 0, 0, 0, 0), (74, .getfield 21, 5, 3, 1), (77, .iload_n 1, 0, 0, 0), (78, .aaload, 0, 0, 0), (79, .iload 4, 0, 0, 0), (81, .laload, 0, 0, 0), (82, .lconst 0, 0, 0, 0),
  (83, .aload_n 0, 0, 0, 0), (84, .getfield 40, 5, 10, 0), (87, .iconst (1), 0, 0, 0), (88, .isub, 0, 0, 0), (89, .i2l, 0, 0, 0), (90, .invokestatic 94, 159, 3, -1), (93, .ifCond .ne (10), 0, 103, 0), (96, .aload_n 0, 0, 0, 0),
  (97, .bipush (-2), 0, 0, 0), (99, .invokevirtual 107, 160, 2, 5), (102, .ireturn, 0, 0, 0), (103, .iinc 4 (1), 0, 0, 0), (106, .goto (-39), 0, 67, 0), (109, .iconst (0), 0, 0, 0), (110, .istore 4, 0, 0, 0), (112, .iload 4, 0, 0, 0),
  (114, .iload_n 2, 0, 0, 0), (115, .if_icmp .ge (26), 0, 141, 0), (118, .aload_n 0, 0, 0, 0), (119, .getfield 52, 5, 15, 1), (122, .iload 4, 0, 0, 0), (124, .aload_n 0, 0, 0, 0), (125, .getfield 21, 5, 3, 1), (128, .iload_n 1, 0, 0, 0),
  (129, .aaload, 0, 0, 0), (130, .iload 4, 0, 0, 0), (132, .laload, 0, 0, 0), (133, .l2i, 0, 0, 0), (134, .iastore, 0, 0, 0), (135, .iinc 4 (1), 0, 0, 0), (138, .goto (-26), 0, 112, 0), (141, .aload_n 0, 0, 0, 0),
  (142, .iload_n 2, 0, 0, 0), (143, .putfield 55, 5, 16, 0), (146, .iload_n 2, 0, 0, 0), (147, .ireturn, 0, 0, 0)]
theorem zc_193 : zl_193.all (fun q => zt_chk 193 q.1 q.2) = true := by decide +kernel
def zl_194 : List (Nat × zx_En) := [(0, .iload_n 1, 0, 0, 0), (1, .i2l, 0, 0, 0), (2, .lconst 0, 0, 0, 0), (3, .ldc2_w 164, 0, 0, 1000000000), (6, .invokestatic 94, 159, 3, -1), (9, .ifCond .ne (10), 0, 19, 0), (12, .aload_n 0, 0, 0, 0), (13, .bipush (-2), 0, 0, 0),
  (15, .invokevirtual 107, 160, 2, 5), (18, .ireturn, 0, 0, 0), (19, .aload_n 0, 0, 0, 0), (20, .getfield 139, 5, 18, 0), (23, .istore_n 2, 0, 0, 0), (24, .aload_n 0, 0, 0, 0), (25, .iload_n 1, 0, 0, 0), (26, .putfield 139, 5, 18, 0),
  (29, .iload_n 2, 0, 0, 0), (30, .ireturn, 0, 0, 0)]
theorem zc_194 : zl_194.all (fun q => zt_chk 194 q.1 q.2) = true := by decide +kernel
def zl_195 : List (Nat × zx_En) := [(0, .aload_n 0, 0, 0, 0), (1, .iload_n 1, 0, 0, 0), (2, .invokevirtual 159, 190, 2, 5), (5, .ifCond .eq (16), 0, 21, 0), (8, .iload_n 2, 0, 0, 0), (9, .iconst (-1), 0, 0, 0), (10, .if_icmp .eq (18), 0, 28, 0), (13, .aload_n 0, 0, 0, 0),
  (14, .iload_n 2, 0, 0, 0), (15, .invokevirtual 118, 168, 2, 5), (18, .ifCond .ne (10), 0, 28, 0), (21, .aload_n 0, 0, 0, 0), (22, .bipush (-2), 0, 0, 0), (24, .invokevirtual 107, 160, 2, 5), (27, .ireturn, 0, 0, 0), (28, .aload_n 0, 0, 0, 0),
  (29, .getfield 49, 5, 13, 1), (32, .iload_n 1, 0, 0, 0), (33, .iaload, 0, 0, 0), (34, .istore_n 3, 0, 0, 0), (35, .aload_n 0, 0, 0, 0), (36, .getfield 49, 5, 13, 1), (39, .iload_n 1, 0, 0, 0), (40, .iload_n 2, 0, 0, 0),
  (41, .iastore, 0, 0, 0), (42, .iload_n 3, 0, 0, 0), (43, .ireturn, 0, 0, 0)]
theorem zc_195 : zl_195.all (fun q => zt_chk 195 q.1 q.2) = true := by decide +kernel
def zl_196 : List (Nat × zx_En) := [(0, .iload_n 1, 0, 0, 0), (1, .i2l, 0, 0, 0), (2, .lconst 0, 0, 0, 0), (3, .ldc2_w 166, 0, 0, 255), (6, .invokestatic 94, 159, 3, -1), (9, .ifCond .ne (10), 0, 19, 0), (12, .aload_n 0, 0, 0, 0), (13, .bipush (-2), 0, 0, 0),
  (15, .invokevirtual 107, 160, 2, 5), (18, .ireturn, 0, 0, 0), (19, .aload_n 0, 0, 0, 0), (20, .getfield 168, 5, 8, 0), (23, .sipush (250), 0, 0, 0), (26, .if_icmp .ne (10), 0, 36, 0), (29, .aload_n 0, 0, 0, 0), (30, .bipush (-6), 0, 0, 0),
  (32, .invokevirtual 107, 160, 2, 5), (35, .ireturn, 0, 0, 0), (36, .aload_n 0, 0, 0, 0), (37, .getfield 34, 5, 7, 1), (40, .aload_n 0, 0, 0, 0), (41, .dup, 0, 0, 0), (42, .getfield 168, 5, 8, 0), (45, .dup_x1, 0, 0, 0),
  (46, .iconst (1), 0, 0, 0), (47, .iadd, 0, 0, 0), (48, .putfield 168, 5, 8, 0), (51, .iload_n 1, 0, 0, 0), (52, .iastore, 0, 0, 0), (53, .aload_n 0, 0, 0, 0), (54, .getfield 168, 5, 8, 0), (57, .ireturn, 0, 0, 0)]
theorem zc_196 : zl_196.all (fun q => zt_chk 196 q.1 q.2) = true := by decide +kernel
def zl_197 : List (Nat × zx_En) := [(0, .aload_n 0, 0, 0, 0), (1, .getfield 168, 5, 8, 0), (4, .istore_n 1, 0, 0, 0), (5, .aload_n 0, 0, 0, 0), (6, .iconst (0), 0, 0, 0), (7, .putfield 168, 5, 8, 0), (10, .iload_n 1, 0, 0, 0), (11, .ireturn, 0, 0, 0)]
theorem zc_197 : zl_197.all (fun q => zt_chk 197 q.1 q.2) = true := by decide +kernel
def zl_198 : List (Nat × zx_En) := [(0, .aload_n 0, 0, 0, 0), (1, .invokevirtual 241, 199, 1, 5), (4, .astore_n 1, 0, 0, 0), (5, .aload_n 0, 0, 0, 0), (6, .invokevirtual 245, 202, 1, 5), (9, .istore_n 2, 0, 0, 0), (10, .aload_n 0, 0, 0, 0), (11, .iconst (0), 0, 0, 0),
  (12, .putfield 168, 5, 8, 0), (15, .iload_n 2, 0, 0, 0), (16, .ifCond .ne (23), 0, 39, 0), (19, .aload_n 0, 0, 0, 0), (20, .aload_n 1, 0, 0, 0), (21, .invokevirtual 248, 200, 2, 5), (24, .aload_n 0, 0, 0, 0), (25, .bipush (-2), 0, 0, 0),
  (27, .invokevirtual 107, 160, 2, 5), (30, .pop, 0, 0, 0), (31, .bipush (-20), 0, 0, 0), (33, .aload_n 0, 0, 0, 0), (34, .getfield 190, 5, 26, 0), (37, .isub, 0, 0, 0), (38, .ireturn, 0, 0, 0), (39, .aload_n 0, 0, 0, 0),
  (40, .getfield 235, 5, 28, 0), (43, .ireturn, 0, 0, 0)]
theorem zc_198 : zl_198.all (fun q => zt_chk 198 q.1 q.2) = true := by decide +kernel
def zl_199 : List (Nat × zx_En) := [(0, .aload_n 0, 0, 0, 0), (1, .getfield 361, 5, 21, 1), (4, .ifnonnull (14), 0, 18, 0), (7, .aload_n 0, 0, 0, 0), (8, .new 8, 5, 0, 0), (11, .dup, 0, 0, 0), (12, .invokespecial 365, 157, 1, 100), (15, .putfield 361, 5, 21, 1),
  (18, .aload_n 0, 0, 0, 0), (19, .getfield 361, 5, 21, 1), (22, .aload_n 0, 0, 0, 0), (23, .invokevirtual 248, 200, 2, 5), (26, .aload_n 0, 0, 0, 0), (27, .getfield 361, 5, 21, 1), (30, .areturn, 0, 0, 0)]
theorem zc_199 : zl_199.all (fun q => zt_chk 199 q.1 q.2) = true := by decide +kernel

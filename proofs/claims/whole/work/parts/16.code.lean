/-! the code of the methods, each entry checked -/
def zl_60 : List (Nat × zx_En) := [(0, .ldc 125, 0, 0, 1000000), (2, .istore_n 3, 0, 0, 0), (3, .iconst (-1), 0, 0, 0), (4, .istore 4, 0, 0, 0), (6, .iconst (0), 0, 0, 0), (7, .istore 5, 0, 0, 0), (9, .iload 5, 0, 0, 0), (11, .bipush (8), 0, 0, 0),
  (13, .if_icmp .ge (41), 0, 54, 0), (16, .iload_n 2, 0, 0, 0), (17, .iload 5, 0, 0, 0), (19, .invokestatic 118, 53, 2, -1), (22, .ifCond .eq (26), 0, 48, 0), (25, .aload_n 0, 0, 0, 0), (26, .iload_n 1, 0, 0, 0), (27, .iload 5, 0, 0, 0),
  (29, .invokevirtual 122, 59, 3, 1), (32, .iload_n 3, 0, 0, 0), (33, .if_icmp .gt (15), 0, 48, 0), (36, .aload_n 0, 0, 0, 0), (37, .iload_n 1, 0, 0, 0), (38, .iload 5, 0, 0, 0), (40, .invokevirtual 122, 59, 3, 1), (43, .istore_n 3, 0, 0, 0),
  (44, .iload 5, 0, 0, 0), (46, .istore 4, 0, 0, 0), (48, .iinc 5 (1), 0, 0, 0), (51, .goto (-42), 0, 9, 0), (54, .iload 4, 0, 0, 0), (56, .ireturn, 0, 0, 0)]
theorem zc_60 : zl_60.all (fun q => zt_chk 60 q.1 q.2) = true := by decide +kernel
def zl_61 : List (Nat × zx_En) := [(0, .iload_n 0, 0, 0, 0), (1, .iconst (1), 0, 0, 0), (2, .iload_n 1, 0, 0, 0), (3, .ishl, 0, 0, 0), (4, .iconst (-1), 0, 0, 0), (5, .ixor, 0, 0, 0), (6, .iand, 0, 0, 0), (7, .ireturn, 0, 0, 0)]
theorem zc_61 : zl_61.all (fun q => zt_chk 61 q.1 q.2) = true := by decide +kernel
def zl_62 : List (Nat × zx_En) := [(0, .aload_n 0, 0, 0, 0), (1, .getfield 27, 1, 8, 1), (4, .iload_n 1, 0, 0, 0), (5, .invokestatic 74, 11, 2, -1), (8, .istore_n 3, 0, 0, 0), (9, .iconst (1), 0, 0, 0), (10, .istore 4, 0, 0, 0), (12, .iload 4, 0, 0, 0),
  (14, .aload_n 0, 0, 0, 0), (15, .getfield 49, 1, 5, 0), (18, .if_icmp .gt (156), 0, 174, 0), (21, .iload 4, 0, 0, 0), (23, .sipush (256), 0, 0, 0), (26, .if_icmp .ge (148), 0, 174, 0), (29, .iload_n 3, 0, 0, 0), (30, .iload_n 2, 0, 0, 0),
  (31, .if_icmp .ge (143), 0, 174, 0), (34, .iload 4, 0, 0, 0), (36, .invokestatic 53, 44, 1, -1), (39, .istore 5, 0, 0, 0), (41, .iload 4, 0, 0, 0), (43, .aload_n 0, 0, 0, 0), (44, .getfield 49, 1, 5, 0), (47, .iconst (-1), 0, 0, 0),
  (48, .ixor, 0, 0, 0), (49, .iand, 0, 0, 0), (50, .ifCond .ne (118), 0, 168, 0), (53, .iload 5, 0, 0, 0), (55, .iload_n 3, 0, 0, 0), (56, .if_icmp .le (112), 0, 168, 0), (59, .iload 5, 0, 0, 0), (61, .iload_n 2, 0, 0, 0),
  (62, .if_icmp .gt (106), 0, 168, 0), (65, .aload_n 0, 0, 0, 0), (66, .iload 4, 0, 0, 0), (68, .invokevirtual 129, 63, 2, 1), (71, .istore 6, 0, 0, 0), (73, .aload_n 0, 0, 0, 0), (74, .iload 6, 0, 0, 0), (76, .invokevirtual 132, 64, 2, 1),
  (79, .istore 7, 0, 0, 0), (81, .iload 6, 0, 0, 0), (83, .iload_n 1, 0, 0, 0), (84, .if_icmp .ne (13), 0, 97, 0), (87, .aload_n 0, 0, 0, 0), (88, .iload_n 1, 0, 0, 0), (89, .iload 4, 0, 0, 0), (91, .invokevirtual 94, 65, 3, 1),
  (94, .goto (23), 0, 117, 0), (97, .aload_n 0, 0, 0, 0), (98, .iload 6, 0, 0, 0), (100, .iload 7, 0, 0, 0), (102, .iconst (5), 0, 0, 0), (103, .if_icmp .ne (7), 0, 110, 0), (106, .iconst (1), 0, 0, 0), (107, .goto (5), 0, 112, 0),
  (110, .iload 7, 0, 0, 0), (112, .iload 4, 0, 0, 0), (114, .invokevirtual 86, 51, 4, 1), (117, .istore 8, 0, 0, 0), (119, .iload 6, 0, 0, 0), (121, .iload_n 1, 0, 0, 0), (122, .if_icmp .ne (13), 0, 135, 0), (125, .aload_n 0, 0, 0, 0),
  (126, .iload_n 1, 0, 0, 0), (127, .iload 8, 0, 0, 0), (129, .invokevirtual 122, 59, 3, 1), (132, .goto (4), 0, 136, 0), (135, .iconst (0), 0, 0, 0), (136, .istore 9, 0, 0, 0), (138, .aload_n 0, 0, 0, 0), (139, .getfield 24, 1, 7, 1),
  (142, .iload_n 1, 0, 0, 0), (143, .sipush (256), 0, 0, 0), (146, .imul, 0, 0, 0), (147, .iload 4, 0, 0, 0), (149, .iadd, 0, 0, 0), (150, .iload 9, 0, 0, 0), (152, .aload_n 0, 0, 0, 0), (153, .iload_n 1, 0, 0, 0),
  (154, .iload 4, 0, 0, 0), (156, .iload 8, 0, 0, 0), (158, .invokestatic 115, 61, 2, -1), (161, .invokevirtual 126, 66, 3, 1), (164, .iadd, 0, 0, 0), (165, .invokestatic 42, 12, 3, -1), (168, .iinc 4 (1), 0, 0, 0), (171, .goto (-159), 0, 12, 0),
  (174, .aload_n 0, 0, 0, 0), (175, .getfield 27, 1, 8, 1), (178, .iload_n 1, 0, 0, 0), (179, .iload_n 3, 0, 0, 0), (180, .iload_n 2, 0, 0, 0), (181, .invokestatic 135, 0, 2, 97), (184, .invokestatic 42, 12, 3, -1), (187, .return_, 0, 0, 0)]
theorem zc_62 : zl_62.all (fun q => zt_chk 62 q.1 q.2) = true := by decide +kernel
def zl_63 : List (Nat × zx_En) := [(0, .aload_n 0, 0, 0, 0), (1, .getfield 21, 1, 3, 1), (4, .aload_n 0, 0, 0, 0), (5, .iload_n 1, 0, 0, 0), (6, .invokevirtual 83, 55, 2, 1), (9, .invokestatic 74, 11, 2, -1), (12, .ireturn, 0, 0, 0)]
theorem zc_63 : zl_63.all (fun q => zt_chk 63 q.1 q.2) = true := by decide +kernel
def zl_64 : List (Nat × zx_En) := [(0, .aload_n 0, 0, 0, 0), (1, .getfield 15, 1, 1, 1), (4, .iload_n 1, 0, 0, 0), (5, .invokestatic 74, 11, 2, -1), (8, .ireturn, 0, 0, 0)]
theorem zc_64 : zl_64.all (fun q => zt_chk 64 q.1 q.2) = true := by decide +kernel
def zl_65 : List (Nat × zx_En) := [(0, .iconst (-1), 0, 0, 0), (1, .istore_n 3, 0, 0, 0), (2, .iconst (-1), 0, 0, 0), (3, .istore 4, 0, 0, 0), (5, .iconst (0), 0, 0, 0), (6, .istore 5, 0, 0, 0), (8, .iload 5, 0, 0, 0), (10, .bipush (8), 0, 0, 0),
  (12, .if_icmp .ge (52), 0, 64, 0), (15, .iload_n 2, 0, 0, 0), (16, .iload 5, 0, 0, 0), (18, .invokestatic 118, 53, 2, -1), (21, .ifCond .eq (37), 0, 58, 0), (24, .aload_n 0, 0, 0, 0), (25, .iload_n 1, 0, 0, 0), (26, .iload 5, 0, 0, 0),
  (28, .invokevirtual 122, 59, 3, 1), (31, .aload_n 0, 0, 0, 0), (32, .iload_n 1, 0, 0, 0), (33, .iload_n 2, 0, 0, 0), (34, .iload 5, 0, 0, 0), (36, .invokestatic 115, 61, 2, -1), (39, .invokevirtual 126, 66, 3, 1), (42, .iadd, 0, 0, 0),
  (43, .istore 6, 0, 0, 0), (45, .iload 6, 0, 0, 0), (47, .iload_n 3, 0, 0, 0), (48, .if_icmp .le (10), 0, 58, 0), (51, .iload 6, 0, 0, 0), (53, .istore_n 3, 0, 0, 0), (54, .iload 5, 0, 0, 0), (56, .istore 4, 0, 0, 0),
  (58, .iinc 5 (1), 0, 0, 0), (61, .goto (-53), 0, 8, 0), (64, .iload 4, 0, 0, 0), (66, .ireturn, 0, 0, 0)]
theorem zc_65 : zl_65.all (fun q => zt_chk 65 q.1 q.2) = true := by decide +kernel
def zl_66 : List (Nat × zx_En) := [(0, .iload_n 1, 0, 0, 0), (1, .sipush (256), 0, 0, 0), (4, .imul, 0, 0, 0), (5, .iload_n 2, 0, 0, 0), (6, .iadd, 0, 0, 0), (7, .istore_n 3, 0, 0, 0), (8, .iload_n 3, 0, 0, 0), (9, .ifCond .lt (21), 0, 30, 0),
  (12, .iload_n 3, 0, 0, 0), (13, .aload_n 0, 0, 0, 0), (14, .getfield 24, 1, 7, 1), (17, .arraylength, 0, 0, 0), (18, .if_icmp .ge (12), 0, 30, 0), (21, .aload_n 0, 0, 0, 0), (22, .getfield 24, 1, 7, 1), (25, .iload_n 3, 0, 0, 0),
  (26, .iaload, 0, 0, 0), (27, .goto (4), 0, 31, 0), (30, .iconst (0), 0, 0, 0), (31, .ireturn, 0, 0, 0)]
theorem zc_66 : zl_66.all (fun q => zt_chk 66 q.1 q.2) = true := by decide +kernel
def zl_67 : List (Nat × zx_En) := [(0, .iload_n 1, 0, 0, 0), (1, .iconst (2), 0, 0, 0), (2, .if_icmp .lt (8), 0, 10, 0), (5, .iload_n 1, 0, 0, 0), (6, .iconst (3), 0, 0, 0), (7, .if_icmp .le (10), 0, 17, 0), (10, .aload_n 0, 0, 0, 0), (11, .bipush (-2), 0, 0, 0),
  (13, .invokevirtual 69, 10, 2, 4), (16, .ireturn, 0, 0, 0), (17, .aload_n 0, 0, 0, 0), (18, .getfield 12, 4, 0, 1), (21, .getfield 132, 0, 1, 0), (24, .ifCond .le (10), 0, 34, 0), (27, .aload_n 0, 0, 0, 0), (28, .bipush (-5), 0, 0, 0),
  (30, .invokevirtual 69, 10, 2, 4), (33, .ireturn, 0, 0, 0), (34, .aload_n 0, 0, 0, 0), (35, .getfield 12, 4, 0, 1), (38, .getfield 136, 0, 0, 0), (41, .istore_n 2, 0, 0, 0), (42, .aload_n 0, 0, 0, 0), (43, .getfield 12, 4, 0, 1),
  (46, .iload_n 1, 0, 0, 0), (47, .invokevirtual 139, 68, 2, 0), (50, .iload_n 2, 0, 0, 0), (51, .ireturn, 0, 0, 0)]
theorem zc_67 : zl_67.all (fun q => zt_chk 67 q.1 q.2) = true := by decide +kernel
def zl_68 : List (Nat × zx_En) := [(0, .aload_n 0, 0, 0, 0), (1, .iload_n 1, 0, 0, 0), (2, .putfield 9, 0, 0, 0), (5, .aload_n 0, 0, 0, 0), (6, .iconst (1), 0, 0, 0), (7, .putfield 18, 0, 5, 0), (10, .aload_n 0, 0, 0, 0), (11, .getfield 21, 0, 6, 1),
  (14, .iconst (0), 0, 0, 0), (15, .iconst (0), 0, 0, 0), (16, .invokestatic 65, 12, 3, -1), (19, .iconst (0), 0, 0, 0), (20, .istore_n 2, 0, 0, 0), (21, .iload_n 2, 0, 0, 0), (22, .iconst (3), 0, 0, 0), (23, .if_icmp .ge (18), 0, 41, 0),
  (26, .aload_n 0, 0, 0, 0), (27, .getfield 25, 0, 7, 1), (30, .iload_n 2, 0, 0, 0), (31, .iconst (0), 0, 0, 0), (32, .invokestatic 65, 12, 3, -1), (35, .iinc 2 (1), 0, 0, 0), (38, .goto (-17), 0, 21, 0), (41, .return_, 0, 0, 0)]
theorem zc_68 : zl_68.all (fun q => zt_chk 68 q.1 q.2) = true := by decide +kernel
def zl_69 : List (Nat × zx_En) := [(0, .iload_n 1, 0, 0, 0), (1, .invokestatic 142, 70, 1, -1), (4, .ifCond .eq (28), 0, 32, 0), (7, .iload_n 2, 0, 0, 0), (8, .invokestatic 142, 70, 1, -1), (11, .ifCond .eq (21), 0, 32, 0), (14, .aload_n 0, 0, 0, 0), (15, .getfield 12, 4, 0, 1),
  (18, .getfield 136, 0, 0, 0), (21, .iconst (2), 0, 0, 0), (22, .if_icmp .le (17), 0, 39, 0), (25, .iload_n 3, 0, 0, 0), (26, .invokestatic 142, 70, 1, -1), (29, .ifCond .ne (10), 0, 39, 0), (32, .aload_n 0, 0, 0, 0), (33, .bipush (-2), 0, 0, 0),
  (35, .invokevirtual 69, 10, 2, 4), (38, .ireturn, 0, 0, 0), (39, .aload_n 0, 0, 0, 0), (40, .getfield 12, 4, 0, 1), (43, .getfield 132, 0, 1, 0), (46, .bipush (8), 0, 0, 0), (48, .if_icmp .lt (10), 0, 58, 0), (51, .aload_n 0, 0, 0, 0),
  (52, .bipush (-6), 0, 0, 0), (54, .invokevirtual 69, 10, 2, 4), (57, .ireturn, 0, 0, 0), (58, .aload_n 0, 0, 0, 0), (59, .getfield 12, 4, 0, 1), (62, .iload_n 1, 0, 0, 0), (63, .iload_n 2, 0, 0, 0), (64, .iload_n 3, 0, 0, 0),
  (65, .invokevirtual 145, 71, 4, 0), (68, .aload_n 0, 0, 0, 0), (69, .getfield 12, 4, 0, 1), (72, .getfield 132, 0, 1, 0), (75, .iconst (1), 0, 0, 0), (76, .isub, 0, 0, 0), (77, .ireturn, 0, 0, 0)]
theorem zc_69 : zl_69.all (fun q => zt_chk 69 q.1 q.2) = true := by decide +kernel
def zl_70 : List (Nat × zx_En) := [(0, .iload_n 0, 0, 0, 0), (1, .ifCond .lt (13), 0, 14, 0), (4, .iload_n 0, 0, 0, 0), (5, .bipush (99), 0, 0, 0), (7, .if_icmp .gt (7), 0, 14, 0), (10, .iconst (1), 0, 0, 0), (11, .goto (4), 0, 15, 0), (14, .iconst (0), 0, 0, 0),
  (15, .ireturn, 1, 0, 0)]
theorem zc_70 : zl_70.all (fun q => zt_chk 70 q.1 q.2) = true := by decide +kernel
def zl_71 : List (Nat × zx_En) := [(0, .aload_n 0, 0, 0, 0), (1, .getfield 31, 0, 9, 1), (4, .aload_n 0, 0, 0, 0), (5, .getfield 34, 0, 1, 0), (8, .iload_n 1, 0, 0, 0), (9, .invokestatic 65, 12, 3, -1), (12, .aload_n 0, 0, 0, 0), (13, .getfield 31, 0, 9, 1),
  (16, .bipush (8), 0, 0, 0), (18, .aload_n 0, 0, 0, 0), (19, .getfield 34, 0, 1, 0), (22, .iadd, 0, 0, 0), (23, .iload_n 2, 0, 0, 0), (24, .invokestatic 65, 12, 3, -1), (27, .aload_n 0, 0, 0, 0), (28, .getfield 31, 0, 9, 1),
  (31, .bipush (16), 0, 0, 0), (33, .aload_n 0, 0, 0, 0), (34, .getfield 34, 0, 1, 0), (37, .iadd, 0, 0, 0), (38, .iload_n 3, 0, 0, 0), (39, .invokestatic 65, 12, 3, -1), (42, .aload_n 0, 0, 0, 0), (43, .getfield 28, 0, 8, 1),
  (46, .aload_n 0, 0, 0, 0), (47, .getfield 34, 0, 1, 0), (50, .iconst (-1), 0, 0, 0), (51, .invokestatic 65, 12, 3, -1), (54, .aload_n 0, 0, 0, 0), (55, .dup, 0, 0, 0), (56, .getfield 34, 0, 1, 0), (59, .iconst (1), 0, 0, 0),
  (60, .iadd, 0, 0, 0), (61, .putfield 34, 0, 1, 0), (64, .return_, 0, 0, 0)]
theorem zc_71 : zl_71.all (fun q => zt_chk 71 q.1 q.2) = true := by decide +kernel
def zl_72 : List (Nat × zx_En) := [(0, .aload_n 0, 0, 0, 0), (1, .getfield 12, 4, 0, 1), (4, .iload_n 1, 0, 0, 0), (5, .invokevirtual 102, 27, 2, 0), (8, .ifCond .eq (21), 0, 29, 0), (11, .aload_n 0, 0, 0, 0), (12, .getfield 12, 4, 0, 1), (15, .iload_n 2, 0, 0, 0),
  (16, .invokevirtual 148, 42, 2, 0), (19, .ifCond .eq (10), 0, 29, 0), (22, .iload_n 3, 0, 0, 0), (23, .invokestatic 142, 70, 1, -1), (26, .ifCond .ne (10), 0, 36, 0), (29, .aload_n 0, 0, 0, 0), (30, .bipush (-2), 0, 0, 0), (32, .invokevirtual 69, 10, 2, 4),
  (35, .ireturn, 0, 0, 0), (36, .aload_n 0, 0, 0, 0), (37, .getfield 12, 4, 0, 1), (40, .iload_n 1, 0, 0, 0), (41, .iload_n 2, 0, 0, 0), (42, .invokevirtual 151, 41, 3, 0), (45, .istore 4, 0, 0, 0), (47, .aload_n 0, 0, 0, 0),
  (48, .getfield 12, 4, 0, 1), (51, .getfield 154, 0, 9, 1), (54, .iload_n 1, 0, 0, 0), (55, .bipush (8), 0, 0, 0), (57, .imul, 0, 0, 0), (58, .iload_n 2, 0, 0, 0), (59, .iadd, 0, 0, 0), (60, .iload_n 3, 0, 0, 0),
  (61, .invokestatic 157, 12, 3, -1), (64, .iload 4, 0, 0, 0), (66, .ireturn, 0, 0, 0)]
theorem zc_72 : zl_72.all (fun q => zt_chk 72 q.1 q.2) = true := by decide +kernel
def zl_73 : List (Nat × zx_En) := [(0, .aload_n 0, 0, 0, 0), (1, .getfield 12, 4, 0, 1), (4, .iload_n 1, 0, 0, 0), (5, .invokevirtual 102, 27, 2, 0), (8, .ifCond .eq (10), 0, 18, 0), (11, .iload_n 2, 0, 0, 0), (12, .invokestatic 115, 32, 1, -1), (15, .ifCond .ne (10), 0, 25, 0),
  (18, .aload_n 0, 0, 0, 0), (19, .bipush (-2), 0, 0, 0), (21, .invokevirtual 69, 10, 2, 4), (24, .ireturn, 0, 0, 0), (25, .aload_n 0, 0, 0, 0), (26, .getfield 12, 4, 0, 1), (29, .iload_n 1, 0, 0, 0), (30, .invokevirtual 109, 29, 2, 0),
  (33, .istore_n 3, 0, 0, 0), (34, .aload_n 0, 0, 0, 0), (35, .getfield 12, 4, 0, 1), (38, .getfield 161, 0, 7, 1), (41, .iload_n 1, 0, 0, 0), (42, .iload_n 2, 0, 0, 0), (43, .invokestatic 157, 12, 3, -1), (46, .iload_n 3, 0, 0, 0),
  (47, .ireturn, 0, 0, 0)]
theorem zc_73 : zl_73.all (fun q => zt_chk 73 q.1 q.2) = true := by decide +kernel
def zl_74 : List (Nat × zx_En) := [(0, .iload_n 1, 0, 0, 0), (1, .invokestatic 164, 75, 1, -1), (4, .ifCond .ne (10), 0, 14, 0), (7, .aload_n 0, 0, 0, 0), (8, .bipush (-2), 0, 0, 0), (10, .invokevirtual 69, 10, 2, 4), (13, .ireturn, 0, 0, 0), (14, .aload_n 0, 0, 0, 0),
  (15, .getfield 12, 4, 0, 1), (18, .getfield 167, 0, 2, 0), (21, .istore_n 2, 0, 0, 0), (22, .aload_n 0, 0, 0, 0), (23, .getfield 12, 4, 0, 1), (26, .iload_n 1, 0, 0, 0), (27, .putfield 167, 0, 2, 0), (30, .iload_n 2, 0, 0, 0),
  (31, .ireturn, 0, 0, 0)]
theorem zc_74 : zl_74.all (fun q => zt_chk 74 q.1 q.2) = true := by decide +kernel
def zl_75 : List (Nat × zx_En) := [(0, .iload_n 0, 0, 0, 0), (1, .ifCond .lt (12), 0, 13, 0), (4, .iload_n 0, 0, 0, 0), (5, .iconst (3), 0, 0, 0), (6, .if_icmp .gt (7), 0, 13, 0), (9, .iconst (1), 0, 0, 0), (10, .goto (4), 0, 14, 0), (13, .iconst (0), 0, 0, 0),
  (14, .ireturn, 1, 0, 0)]
theorem zc_75 : zl_75.all (fun q => zt_chk 75 q.1 q.2) = true := by decide +kernel
def zl_76 : List (Nat × zx_En) := [(0, .iload_n 1, 0, 0, 0), (1, .invokestatic 62, 8, 1, -1), (4, .ifCond .eq (14), 0, 18, 0), (7, .iload_n 2, 0, 0, 0), (8, .iconst (1), 0, 0, 0), (9, .if_icmp .lt (9), 0, 18, 0), (12, .iload_n 2, 0, 0, 0), (13, .bipush (12), 0, 0, 0),
  (15, .if_icmp .le (10), 0, 25, 0), (18, .aload_n 0, 0, 0, 0), (19, .bipush (-2), 0, 0, 0), (21, .invokevirtual 69, 10, 2, 4), (24, .ireturn, 0, 0, 0), (25, .aload_n 0, 0, 0, 0), (26, .getfield 32, 4, 4, 1), (29, .iload_n 1, 0, 0, 0),
  (30, .invokevirtual 77, 19, 2, 2), (33, .istore_n 3, 0, 0, 0), (34, .iload_n 3, 0, 0, 0), (35, .ifCond .eq (9), 0, 44, 0), (38, .aload_n 0, 0, 0, 0), (39, .iload_n 3, 0, 0, 0), (40, .invokevirtual 69, 10, 2, 4), (43, .ireturn, 0, 0, 0),
  (44, .aload_n 0, 0, 0, 0), (45, .getfield 32, 4, 4, 1), (48, .iload_n 1, 0, 0, 0), (49, .iload_n 2, 0, 0, 0), (50, .aload_n 0, 0, 0, 0), (51, .getfield 12, 4, 0, 1), (54, .getfield 136, 0, 0, 0), (57, .invokevirtual 170, 77, 4, 2),
  (60, .ifCond .ne (10), 0, 70, 0), (63, .aload_n 0, 0, 0, 0), (64, .bipush (-2), 0, 0, 0), (66, .invokevirtual 69, 10, 2, 4), (69, .ireturn, 0, 0, 0), (70, .iconst (0), 0, 0, 0), (71, .istore 4, 0, 0, 0), (73, .iload 4, 0, 0, 0),
  (75, .iload_n 2, 0, 0, 0), (76, .if_icmp .ge (32), 0, 108, 0), (79, .aload_n 0, 0, 0, 0), (80, .getfield 12, 4, 0, 1), (83, .getfield 174, 0, 6, 1), (86, .iload 4, 0, 0, 0), (88, .aload_n 0, 0, 0, 0), (89, .getfield 32, 4, 4, 1),
  (92, .iload_n 1, 0, 0, 0), (93, .iload 4, 0, 0, 0), (95, .invokevirtual 95, 23, 3, 2), (98, .l2i, 0, 0, 0), (99, .invokestatic 157, 12, 3, -1), (102, .iinc 4 (1), 0, 0, 0), (105, .goto (-32), 0, 73, 0), (108, .aload_n 0, 0, 0, 0),
  (109, .getfield 12, 4, 0, 1), (112, .iload_n 2, 0, 0, 0), (113, .putfield 177, 0, 5, 0), (116, .iload_n 2, 0, 0, 0), (117, .ireturn, 0, 0, 0)]
theorem zc_76 : zl_76.all (fun q => zt_chk 76 q.1 q.2) = true := by decide +kernel
def zl_77 : List (Nat × zx_En) := [(0, .iload_n 2, 0, 0, 0), (1, .aload_n 0, 0, 0, 0), (2, .iload_n 1, 0, 0, 0), (3, .invokevirtual 51, 15, 2, 2), (6, .if_icmp .le (5), 0, 11, 0), (9, .iconst (0), 0, 0, 0), (10, .ireturn, 1, 0, 0), (11, .iconst (0), 0, 0, 0),
  (12, .istore 4, 0, 0, 0), (14, .iload 4, 0, 0, 0), (16, .iload_n 2, 0, 0, 0), (17, .if_icmp .ge (35), 0, 52, 0), (20, .aload_n 0, 0, 0, 0), (21, .iload_n 1, 0, 0, 0), (22, .iload 4, 0, 0, 0), (24, .invokevirtual 58, 23, 3, 2),
  (27, .lstore 5, 0, 0, 0), (29, .lload 5, 0, 0, 0), (31, .lconst 0, 0, 0, 0), (32, .lcmp, 0, 0, 0), (33, .ifCond .lt (11), 0, 44, 0), (36, .lload 5, 0, 0, 0), (38, .iload_n 3, 0, 0, 0), (39, .i2l, 0, 0, 0),
  (40, .lcmp, 0, 0, 0), (41, .ifCond .lt (5), 0, 46, 0), (44, .iconst (0), 0, 0, 0), (45, .ireturn, 1, 0, 0), (46, .iinc 4 (1), 0, 0, 0), (49, .goto (-35), 0, 14, 0), (52, .iconst (1), 0, 0, 0), (53, .ireturn, 1, 0, 0)]
theorem zc_77 : zl_77.all (fun q => zt_chk 77 q.1 q.2) = true := by decide +kernel
def zl_78 : List (Nat × zx_En) := [(0, .iload_n 1, 0, 0, 0), (1, .ifCond .lt (9), 0, 10, 0), (4, .iload_n 1, 0, 0, 0), (5, .ldc 180, 0, 0, 1000000000), (7, .if_icmp .le (10), 0, 17, 0), (10, .aload_n 0, 0, 0, 0), (11, .bipush (-2), 0, 0, 0), (13, .invokevirtual 69, 10, 2, 4),
  (16, .ireturn, 0, 0, 0), (17, .aload_n 0, 0, 0, 0), (18, .getfield 12, 4, 0, 1), (21, .getfield 181, 0, 3, 0), (24, .istore_n 2, 0, 0, 0), (25, .aload_n 0, 0, 0, 0), (26, .getfield 12, 4, 0, 1), (29, .iload_n 1, 0, 0, 0),
  (30, .putfield 181, 0, 3, 0), (33, .iload_n 2, 0, 0, 0), (34, .ireturn, 0, 0, 0)]
theorem zc_78 : zl_78.all (fun q => zt_chk 78 q.1 q.2) = true := by decide +kernel
def zl_79 : List (Nat × zx_En) := [(0, .aload_n 0, 0, 0, 0), (1, .getfield 12, 4, 0, 1), (4, .iload_n 1, 0, 0, 0), (5, .invokevirtual 148, 42, 2, 0), (8, .ifCond .eq (19), 0, 27, 0), (11, .iload_n 2, 0, 0, 0), (12, .iconst (-1), 0, 0, 0), (13, .if_icmp .eq (21), 0, 34, 0),
  (16, .aload_n 0, 0, 0, 0), (17, .getfield 12, 4, 0, 1), (20, .iload_n 2, 0, 0, 0), (21, .invokevirtual 102, 27, 2, 0), (24, .ifCond .ne (10), 0, 34, 0), (27, .aload_n 0, 0, 0, 0), (28, .bipush (-2), 0, 0, 0), (30, .invokevirtual 69, 10, 2, 4),
  (33, .ireturn, 0, 0, 0), (34, .aload_n 0, 0, 0, 0), (35, .getfield 12, 4, 0, 1), (38, .iload_n 1, 0, 0, 0), (39, .invokevirtual 184, 80, 2, 0), (42, .istore_n 3, 0, 0, 0), (43, .aload_n 0, 0, 0, 0), (44, .getfield 12, 4, 0, 1),
  (47, .getfield 187, 0, 8, 1), (50, .iload_n 1, 0, 0, 0), (51, .iload_n 2, 0, 0, 0), (52, .invokestatic 157, 12, 3, -1), (55, .iload_n 3, 0, 0, 0), (56, .ireturn, 0, 0, 0)]
theorem zc_79 : zl_79.all (fun q => zt_chk 79 q.1 q.2) = true := by decide +kernel
def zl_80 : List (Nat × zx_En) := [(0, .aload_n 0, 0, 0, 0), (1, .iload_n 1, 0, 0, 0), (2, .invokevirtual 51, 42, 2, 0), (5, .ifCond .eq (14), 0, 19, 0), (8, .aload_n 0, 0, 0, 0), (9, .getfield 28, 0, 8, 1), (12, .iload_n 1, 0, 0, 0), (13, .invokestatic 47, 11, 2, -1),
  (16, .goto (4), 0, 20, 0), (19, .iconst (-1), 0, 0, 0), (20, .ireturn, 0, 0, 0)]
theorem zc_80 : zl_80.all (fun q => zt_chk 80 q.1 q.2) = true := by decide +kernel
def zl_81 : List (Nat × zx_En) := [(0, .iload_n 1, 0, 0, 0), (1, .ifCond .lt (10), 0, 11, 0), (4, .iload_n 1, 0, 0, 0), (5, .sipush (255), 0, 0, 0), (8, .if_icmp .le (10), 0, 18, 0), (11, .aload_n 0, 0, 0, 0), (12, .bipush (-2), 0, 0, 0), (14, .invokevirtual 69, 10, 2, 4),
  (17, .ireturn, 0, 0, 0), (18, .aload_n 0, 0, 0, 0), (19, .getfield 25, 4, 3, 1), (22, .getfield 190, 3, 1, 0), (25, .sipush (250), 0, 0, 0), (28, .if_icmp .lt (10), 0, 38, 0), (31, .aload_n 0, 0, 0, 0), (32, .bipush (-6), 0, 0, 0),
  (34, .invokevirtual 69, 10, 2, 4), (37, .ireturn, 0, 0, 0), (38, .aload_n 0, 0, 0, 0), (39, .getfield 25, 4, 3, 1), (42, .getfield 193, 3, 0, 1), (45, .aload_n 0, 0, 0, 0), (46, .getfield 25, 4, 3, 1), (49, .getfield 190, 3, 1, 0),
  (52, .iload_n 1, 0, 0, 0), (53, .invokestatic 157, 12, 3, -1), (56, .aload_n 0, 0, 0, 0), (57, .getfield 25, 4, 3, 1), (60, .dup, 0, 0, 0), (61, .getfield 190, 3, 1, 0), (64, .iconst (1), 0, 0, 0), (65, .iadd, 0, 0, 0),
  (66, .putfield 190, 3, 1, 0), (69, .aload_n 0, 0, 0, 0), (70, .getfield 25, 4, 3, 1), (73, .getfield 190, 3, 1, 0), (76, .ireturn, 0, 0, 0)]
theorem zc_81 : zl_81.all (fun q => zt_chk 81 q.1 q.2) = true := by decide +kernel
def zl_82 : List (Nat × zx_En) := [(0, .aload_n 0, 0, 0, 0), (1, .getfield 25, 4, 3, 1), (4, .getfield 190, 3, 1, 0), (7, .istore_n 1, 0, 0, 0), (8, .aload_n 0, 0, 0, 0), (9, .getfield 25, 4, 3, 1), (12, .iconst (0), 0, 0, 0), (13, .putfield 190, 3, 1, 0),
  (16, .iload_n 1, 0, 0, 0), (17, .ireturn, 0, 0, 0)]
theorem zc_82 : zl_82.all (fun q => zt_chk 82 q.1 q.2) = true := by decide +kernel
def zl_83 : List (Nat × zx_En) := [(0, .aload_n 0, 0, 0, 0), (1, .getfield 19, 4, 2, 1), (4, .aload_n 0, 0, 0, 0), (5, .getfield 12, 4, 0, 1), (8, .invokevirtual 196, 84, 2, 0), (11, .aload_n 0, 0, 0, 0), (12, .getfield 25, 4, 3, 1), (15, .aload_n 0, 0, 0, 0),
  (16, .getfield 19, 4, 2, 1), (19, .invokevirtual 200, 85, 2, 3), (22, .istore_n 1, 0, 0, 0), (23, .aload_n 0, 0, 0, 0), (24, .getfield 25, 4, 3, 1), (27, .iconst (0), 0, 0, 0), (28, .putfield 190, 3, 1, 0), (31, .aload_n 0, 0, 0, 0),
  (32, .getfield 25, 4, 3, 1), (35, .getfield 204, 3, 2, 0), (38, .iconst (-1), 0, 0, 0), (39, .if_icmp .eq (21), 0, 60, 0), (42, .aload_n 0, 0, 0, 0), (43, .bipush (-2), 0, 0, 0), (45, .invokevirtual 69, 10, 2, 4), (48, .pop, 0, 0, 0),
  (49, .bipush (-20), 0, 0, 0), (51, .aload_n 0, 0, 0, 0), (52, .getfield 25, 4, 3, 1), (55, .getfield 204, 3, 2, 0), (58, .isub, 0, 0, 0), (59, .ireturn, 0, 0, 0), (60, .aload_n 0, 0, 0, 0), (61, .getfield 12, 4, 0, 1),
  (64, .aload_n 0, 0, 0, 0), (65, .getfield 19, 4, 2, 1), (68, .invokevirtual 196, 84, 2, 0), (71, .iload_n 1, 0, 0, 0), (72, .ireturn, 0, 0, 0)]
theorem zc_83 : zl_83.all (fun q => zt_chk 83 q.1 q.2) = true := by decide +kernel
def zl_84 : List (Nat × zx_En) := [(0, .aload_n 1, 0, 0, 0), (1, .ifnull (95), 0, 96, 0), (4, .aload_n 0, 0, 0, 0), (5, .aload_n 1, 0, 0, 0), (6, .getfield 9, 0, 0, 0), (9, .putfield 9, 0, 0, 0), (12, .aload_n 0, 0, 0, 0), (13, .aload_n 1, 0, 0, 0),
  (14, .getfield 34, 0, 1, 0), (17, .putfield 34, 0, 1, 0), (20, .aload_n 0, 0, 0, 0), (21, .aload_n 1, 0, 0, 0), (22, .getfield 37, 0, 2, 0), (25, .putfield 37, 0, 2, 0), (28, .aload_n 0, 0, 0, 0), (29, .aload_n 1, 0, 0, 0),
  (30, .getfield 40, 0, 3, 0), (33, .putfield 40, 0, 3, 0), (36, .aload_n 0, 0, 0, 0), (37, .aload_n 1, 0, 0, 0), (38, .getfield 15, 0, 4, 0), (41, .putfield 15, 0, 4, 0), (44, .aload_n 0, 0, 0, 0), (45, .aload_n 1, 0, 0, 0),
  (46, .getfield 18, 0, 5, 0), (49, .putfield 18, 0, 5, 0), (52, .aload_n 1, 0, 0, 0), (53, .getfield 21, 0, 6, 1), (56, .aload_n 0, 0, 0, 0), (57, .getfield 21, 0, 6, 1), (60, .invokestatic 43, 39, 2, -1), (63, .aload_n 1, 0, 0, 0),
  (64, .getfield 25, 0, 7, 1), (67, .aload_n 0, 0, 0, 0), (68, .getfield 25, 0, 7, 1), (71, .invokestatic 43, 39, 2, -1), (74, .aload_n 1, 0, 0, 0), (75, .getfield 28, 0, 8, 1), (78, .aload_n 0, 0, 0, 0), (79, .getfield 28, 0, 8, 1),
  (82, .invokestatic 43, 39, 2, -1), (85, .aload_n 1, 0, 0, 0), (86, .getfield 31, 0, 9, 1), (89, .aload_n 0, 0, 0, 0), (90, .getfield 31, 0, 9, 1), (93, .invokestatic 43, 39, 2, -1), (96, .return_, 0, 0, 0)]
theorem zc_84 : zl_84.all (fun q => zt_chk 84 q.1 q.2) = true := by decide +kernel
def zl_85 : List (Nat × zx_En) := [(0, .aload_n 0, 0, 0, 0), (1, .iconst (-1), 0, 0, 0), (2, .putfield 15, 3, 2, 0), (5, .aload_n 0, 0, 0, 0), (6, .iconst (0), 0, 0, 0), (7, .putfield 19, 3, 5, 0), (10, .iconst (0), 0, 0, 0), (11, .istore_n 2, 0, 0, 0),
  (12, .iconst (1), 0, 0, 0), (13, .istore_n 3, 0, 0, 0), (14, .iconst (0), 0, 0, 0), (15, .istore 4, 0, 0, 0), (17, .iload 4, 0, 0, 0), (19, .aload_n 0, 0, 0, 0), (20, .getfield 22, 3, 1, 0), (23, .if_icmp .gt (47), 0, 70, 0),
  (26, .iload_n 3, 0, 0, 0), (27, .ifCond .eq (43), 0, 70, 0), (30, .aload_n 0, 0, 0, 0), (31, .getfield 15, 3, 2, 0), (34, .iconst (-1), 0, 0, 0), (35, .if_icmp .ne (35), 0, 70, 0), (38, .aload_n 0, 0, 0, 0), (39, .invokevirtual 25, 86, 1, 3),
  (42, .aload_n 0, 0, 0, 0), (43, .aload_n 1, 0, 0, 0), (44, .invokevirtual 28, 88, 2, 3), (47, .iinc 2 (1), 0, 0, 0), (50, .aload_n 0, 0, 0, 0), (51, .getfield 32, 3, 3, 0), (54, .iconst (3), 0, 0, 0), (55, .if_icmp .ne (7), 0, 62, 0),
  (58, .iconst (1), 0, 0, 0), (59, .goto (4), 0, 63, 0), (62, .iconst (0), 0, 0, 0), (63, .istore_n 3, 0, 0, 0), (64, .iinc 4 (1), 0, 0, 0), (67, .goto (-50), 0, 17, 0), (70, .aload_n 0, 0, 0, 0), (71, .getfield 15, 3, 2, 0),
  (74, .iconst (-1), 0, 0, 0), (75, .if_icmp .ne (18), 0, 93, 0), (78, .aload_n 0, 0, 0, 0), (79, .getfield 32, 3, 3, 0), (82, .ifCond .eq (11), 0, 93, 0), (85, .aload_n 0, 0, 0, 0), (86, .aload_n 0, 0, 0, 0), (87, .getfield 35, 3, 4, 0),
  (90, .putfield 15, 3, 2, 0), (93, .iload_n 2, 0, 0, 0), (94, .ireturn, 0, 0, 0)]
theorem zc_85 : zl_85.all (fun q => zt_chk 85 q.1 q.2) = true := by decide +kernel
def zl_86 : List (Nat × zx_En) := [(0, .aload_n 0, 0, 0, 0), (1, .getfield 19, 3, 5, 0), (4, .aload_n 0, 0, 0, 0), (5, .getfield 22, 3, 1, 0), (8, .if_icmp .ge (28), 0, 36, 0), (11, .aload_n 0, 0, 0, 0), (12, .aload_n 0, 0, 0, 0), (13, .getfield 19, 3, 5, 0),
  (16, .invokevirtual 42, 87, 2, 3), (19, .iconst (4), 0, 0, 0), (20, .if_icmp .ne (16), 0, 36, 0), (23, .aload_n 0, 0, 0, 0), (24, .dup, 0, 0, 0), (25, .getfield 19, 3, 5, 0), (28, .iconst (1), 0, 0, 0), (29, .iadd, 0, 0, 0),
  (30, .putfield 19, 3, 5, 0), (33, .goto (-33), 0, 0, 0), (36, .aload_n 0, 0, 0, 0), (37, .aload_n 0, 0, 0, 0), (38, .getfield 19, 3, 5, 0), (41, .putfield 35, 3, 4, 0), (44, .aload_n 0, 0, 0, 0), (45, .aload_n 0, 0, 0, 0),
  (46, .aload_n 0, 0, 0, 0), (47, .getfield 19, 3, 5, 0), (50, .invokevirtual 42, 87, 2, 3), (53, .putfield 32, 3, 3, 0), (56, .aload_n 0, 0, 0, 0), (57, .getfield 32, 3, 3, 0), (60, .iconst (1), 0, 0, 0), (61, .if_icmp .eq (11), 0, 72, 0),
  (64, .aload_n 0, 0, 0, 0), (65, .getfield 32, 3, 3, 0), (68, .iconst (2), 0, 0, 0), (69, .if_icmp .ne (7), 0, 76, 0), (72, .iconst (1), 0, 0, 0), (73, .goto (4), 0, 77, 0), (76, .iconst (0), 0, 0, 0), (77, .istore_n 1, 0, 0, 0),
  (78, .aload_n 0, 0, 0, 0), (79, .getfield 32, 3, 3, 0), (82, .ifCond .eq (13), 0, 95, 0), (85, .aload_n 0, 0, 0, 0), (86, .dup, 0, 0, 0), (87, .getfield 19, 3, 5, 0), (90, .iconst (1), 0, 0, 0), (91, .iadd, 0, 0, 0),
  (92, .putfield 19, 3, 5, 0), (95, .iload_n 1, 0, 0, 0), (96, .ifCond .eq (42), 0, 138, 0), (99, .aload_n 0, 0, 0, 0), (100, .getfield 19, 3, 5, 0), (103, .aload_n 0, 0, 0, 0), (104, .getfield 22, 3, 1, 0), (107, .if_icmp .ge (31), 0, 138, 0),
  (110, .aload_n 0, 0, 0, 0), (111, .aload_n 0, 0, 0, 0), (112, .getfield 19, 3, 5, 0), (115, .invokevirtual 42, 87, 2, 3), (118, .aload_n 0, 0, 0, 0), (119, .getfield 32, 3, 3, 0), (122, .if_icmp .ne (16), 0, 138, 0), (125, .aload_n 0, 0, 0, 0),
  (126, .dup, 0, 0, 0), (127, .getfield 19, 3, 5, 0), (130, .iconst (1), 0, 0, 0), (131, .iadd, 0, 0, 0), (132, .putfield 19, 3, 5, 0), (135, .goto (-40), 0, 95, 0), (138, .return_, 0, 0, 0)]
theorem zc_86 : zl_86.all (fun q => zt_chk 86 q.1 q.2) = true := by decide +kernel
def zl_87 : List (Nat × zx_En) := [(0, .iload_n 1, 0, 0, 0), (1, .aload_n 0, 0, 0, 0), (2, .getfield 22, 3, 1, 0), (5, .if_icmp .lt (5), 0, 10, 0), (8, .iconst (0), 0, 0, 0), (9, .ireturn, 0, 0, 0), (10, .aload_n 0, 0, 0, 0), (11, .getfield 9, 3, 0, 1),
  (14, .iload_n 1, 0, 0, 0), (15, .invokestatic 38, 11, 2, -1), (18, .istore_n 2, 0, 0, 0), (19, .iload_n 2, 0, 0, 0), (20, .bipush (97), 0, 0, 0), (22, .if_icmp .lt (11), 0, 33, 0), (25, .iload_n 2, 0, 0, 0), (26, .bipush (122), 0, 0, 0),
  (28, .if_icmp .gt (5), 0, 33, 0), (31, .iconst (1), 0, 0, 0), (32, .ireturn, 0, 0, 0), (33, .iload_n 2, 0, 0, 0), (34, .bipush (48), 0, 0, 0), (36, .if_icmp .lt (11), 0, 47, 0), (39, .iload_n 2, 0, 0, 0), (40, .bipush (57), 0, 0, 0),
  (42, .if_icmp .gt (5), 0, 47, 0), (45, .iconst (2), 0, 0, 0), (46, .ireturn, 0, 0, 0), (47, .iload_n 2, 0, 0, 0), (48, .bipush (59), 0, 0, 0), (50, .if_icmp .ne (5), 0, 55, 0), (53, .iconst (3), 0, 0, 0), (54, .ireturn, 0, 0, 0),
  (55, .iload_n 2, 0, 0, 0), (56, .bipush (32), 0, 0, 0), (58, .if_icmp .ne (7), 0, 65, 0), (61, .iconst (4), 0, 0, 0), (62, .goto (4), 0, 66, 0), (65, .iconst (5), 0, 0, 0), (66, .ireturn, 0, 0, 0)]
theorem zc_87 : zl_87.all (fun q => zt_chk 87 q.1 q.2) = true := by decide +kernel
def zl_88 : List (Nat × zx_En) := [(0, .aload_n 1, 0, 0, 0), (1, .ifnonnull (14), 0, 15, 0), (4, .aload_n 0, 0, 0, 0), (5, .aload_n 0, 0, 0, 0), (6, .getfield 35, 3, 4, 0), (9, .putfield 15, 3, 2, 0), (12, .goto (146), 0, 158, 0), (15, .aload_n 0, 0, 0, 0),
  (16, .ldc 56, 1, 0, 0), (18, .invokevirtual 58, 89, 2, 3), (21, .ifCond .eq (18), 0, 39, 0), (24, .aload_n 1, 0, 0, 0), (25, .getfield 62, 0, 1, 0), (28, .ifCond .ne (11), 0, 39, 0), (31, .aload_n 0, 0, 0, 0), (32, .aload_n 1, 0, 0, 0),
  (33, .invokevirtual 67, 101, 2, 3), (36, .goto (122), 0, 158, 0), (39, .aload_n 0, 0, 0, 0), (40, .ldc 70, 1, 1, 0), (42, .invokevirtual 58, 89, 2, 3), (45, .ifCond .eq (20), 0, 65, 0), (48, .aload_n 1, 0, 0, 0), (49, .getfield 62, 0, 1, 0),
  (52, .bipush (8), 0, 0, 0), (54, .if_icmp .ge (11), 0, 65, 0), (57, .aload_n 0, 0, 0, 0), (58, .aload_n 1, 0, 0, 0), (59, .invokevirtual 72, 103, 2, 3), (62, .goto (96), 0, 158, 0), (65, .aload_n 0, 0, 0, 0), (66, .ldc 75, 1, 2, 0),
  (68, .invokevirtual 58, 89, 2, 3), (71, .ifCond .eq (11), 0, 82, 0), (74, .aload_n 0, 0, 0, 0), (75, .aload_n 1, 0, 0, 0), (76, .invokevirtual 77, 104, 2, 3), (79, .goto (79), 0, 158, 0), (82, .aload_n 0, 0, 0, 0), (83, .ldc 80, 1, 3, 0),
  (85, .invokevirtual 58, 89, 2, 3), (88, .ifCond .eq (11), 0, 99, 0), (91, .aload_n 0, 0, 0, 0), (92, .aload_n 1, 0, 0, 0), (93, .invokevirtual 82, 105, 2, 3), (96, .goto (62), 0, 158, 0), (99, .aload_n 0, 0, 0, 0), (100, .ldc 85, 1, 4, 0),
  (102, .invokevirtual 58, 89, 2, 3), (105, .ifCond .eq (11), 0, 116, 0), (108, .aload_n 0, 0, 0, 0), (109, .aload_n 1, 0, 0, 0), (110, .invokevirtual 87, 106, 2, 3), (113, .goto (45), 0, 158, 0), (116, .aload_n 0, 0, 0, 0), (117, .ldc 90, 1, 5, 0),
  (119, .invokevirtual 58, 89, 2, 3), (122, .ifCond .eq (11), 0, 133, 0), (125, .aload_n 0, 0, 0, 0), (126, .aload_n 1, 0, 0, 0), (127, .invokevirtual 92, 107, 2, 3), (130, .goto (28), 0, 158, 0), (133, .aload_n 0, 0, 0, 0), (134, .ldc 95, 1, 6, 0),
  (136, .invokevirtual 58, 89, 2, 3), (139, .ifCond .eq (11), 0, 150, 0), (142, .aload_n 0, 0, 0, 0), (143, .aload_n 1, 0, 0, 0), (144, .invokevirtual 97, 108, 2, 3), (147, .goto (11), 0, 158, 0), (150, .aload_n 0, 0, 0, 0), (151, .aload_n 0, 0, 0, 0),
  (152, .getfield 35, 3, 4, 0), (155, .putfield 15, 3, 2, 0), (158, .return_, 0, 0, 0)]
theorem zc_88 : zl_88.all (fun q => zt_chk 88 q.1 q.2) = true := by decide +kernel
def zl_89 : List (Nat × zx_En) := [(0, .aload_n 0, 0, 0, 0), (1, .getfield 32, 3, 3, 0), (4, .iconst (1), 0, 0, 0), (5, .if_icmp .ne (23), 0, 28, 0), (8, .aload_n 1, 0, 0, 0), (9, .ifnull (19), 0, 28, 0), (12, .aload_n 1, 0, 0, 0), (13, .invokevirtual 46, 90, 1, 6),
  (16, .aload_n 0, 0, 0, 0), (17, .getfield 19, 3, 5, 0), (20, .aload_n 0, 0, 0, 0), (21, .getfield 35, 3, 4, 0), (24, .isub, 0, 0, 0), (25, .if_icmp .eq (5), 0, 30, 0), (28, .iconst (0), 0, 0, 0), (29, .ireturn, 1, 0, 0),
  (30, .iconst (0), 0, 0, 0), (31, .istore_n 2, 0, 0, 0), (32, .iload_n 2, 0, 0, 0), (33, .aload_n 1, 0, 0, 0), (34, .invokevirtual 46, 90, 1, 6), (37, .if_icmp .ge (32), 0, 69, 0), (40, .aload_n 1, 0, 0, 0), (41, .iload_n 2, 0, 0, 0),
  (42, .invokevirtual 52, 92, 2, 6), (45, .aload_n 0, 0, 0, 0), (46, .getfield 9, 3, 0, 1), (49, .aload_n 0, 0, 0, 0), (50, .getfield 35, 3, 4, 0), (53, .iload_n 2, 0, 0, 0), (54, .iadd, 0, 0, 0), (55, .invokestatic 38, 11, 2, -1),
  (58, .if_icmp .eq (5), 0, 63, 0), (61, .iconst (0), 0, 0, 0), (62, .ireturn, 1, 0, 0), (63, .iinc 2 (1), 0, 0, 0), (66, .goto (-34), 0, 32, 0), (69, .iconst (1), 0, 0, 0), (70, .ireturn, 1, 0, 0)]
theorem zc_89 : zl_89.all (fun q => zt_chk 89 q.1 q.2) = true := by decide +kernel
def zl_90 : List (Nat × zx_En) := [(0, .aload_n 0, 0, 0, 0), (1, .getfield 9, 6, 0, 3), (4, .arraylength, 0, 0, 0), (5, .aload_n 0, 0, 0, 0), (6, .invokevirtual 335, 91, 1, 6), (9, .ishr, 0, 0, 0), (10, .ireturn, 0, 0, 0)]
theorem zc_90 : zl_90.all (fun q => zt_chk 90 q.1 q.2) = true := by decide +kernel
def zl_91 : List (Nat × zx_En) := [(0, .getstatic 38, 0, 0, 0), (3, .ifCond .eq (10), 0, 13, 0), (6, .aload_n 0, 0, 0, 0), (7, .getfield 15, 6, 0, 2), (10, .goto (4), 0, 14, 0), (13, .iconst (1), 0, 0, 0), (14, .ireturn, 3, 0, 0)]
theorem zc_91 : zl_91.all (fun q => zt_chk 91 q.1 q.2) = true := by decide +kernel
def zl_92 : List (Nat × zx_En) := [(0, .aload_n 0, 0, 0, 0), (1, .invokevirtual 492, 93, 1, 6), (4, .ifCond .eq (12), 0, 16, 0), (7, .aload_n 0, 0, 0, 0), (8, .getfield 9, 6, 0, 3), (11, .iload_n 1, 0, 0, 0), (12, .invokestatic 495, 94, 2, -1), (15, .ireturn, 2, 0, 0),
  (16, .aload_n 0, 0, 0, 0), (17, .getfield 9, 6, 0, 3), (20, .iload_n 1, 0, 0, 0), (21, .invokestatic 498, 97, 2, -1), (24, .ireturn, 2, 0, 0)]
theorem zc_92 : zl_92.all (fun q => zt_chk 92 q.1 q.2) = true := by decide +kernel
def zl_93 : List (Nat × zx_En) := [(0, .getstatic 38, 0, 0, 0), (3, .ifCond .eq (14), 0, 17, 0), (6, .aload_n 0, 0, 0, 0), (7, .getfield 15, 6, 0, 2), (10, .ifCond .ne (7), 0, 17, 0), (13, .iconst (1), 0, 0, 0), (14, .goto (4), 0, 18, 0), (17, .iconst (0), 0, 0, 0),
  (18, .ireturn, 1, 0, 0)]
theorem zc_93 : zl_93.all (fun q => zt_chk 93 q.1 q.2) = true := by decide +kernel
def zl_94 : List (Nat × zx_En) := [(0, .iload_n 1, 0, 0, 0), (1, .aload_n 0, 0, 0, 0), (2, .arraylength, 0, 0, 0), (3, .invokestatic 9, 95, 2, -1), (6, .aload_n 0, 0, 0, 0), (7, .iload_n 1, 0, 0, 0), (8, .baload, 0, 0, 0), (9, .sipush (255), 0, 0, 0),
  (12, .iand, 0, 0, 0), (13, .i2c, 0, 0, 0), (14, .ireturn, 2, 0, 0)]
theorem zc_94 : zl_94.all (fun q => zt_chk 94 q.1 q.2) = true := by decide +kernel
def zl_95 : List (Nat × zx_En) := [(0, .iload_n 0, 0, 0, 0), (1, .iload_n 1, 0, 0, 0), (2, .getstatic 1053, 1, 0, 0), (5, .invokestatic 1059, 96, 3, -1), (8, .pop, 0, 0, 0), (9, .return_, 0, 0, 0)]
theorem zc_95 : zl_95.all (fun q => zt_chk 95 q.1 q.2) = true := by decide +kernel
def zl_96 : List (Nat × zx_En) := [(0, .iload_n 0, 0, 0, 0), (1, .ifCond .lt (8), 0, 9, 0), (4, .iload_n 0, 0, 0, 0), (5, .iload_n 1, 0, 0, 0), (6, .if_icmp .lt (10), 0, 16, 0), (9, .aload_n 2, 0, 0, 0), (10, .iload_n 0, 0, 0, 0), (11, .iload_n 1, 0, 0, 0),
  (16, .iload_n 0, 0, 0, 0), (17, .ireturn, 0, 0, 0)]
theorem zc_96 : zl_96.all (fun q => zt_chk 96 q.1 q.2) = true := by decide +kernel
def zl_97 : List (Nat × zx_En) := []
theorem zc_97 : zl_97.all (fun q => zt_chk 97 q.1 q.2) = true := by decide +kernel
def zl_98 : List (Nat × zx_En) := []
theorem zc_98 : zl_98.all (fun q => zt_chk 98 q.1 q.2) = true := by decide +kernel
def zl_99 : List (Nat × zx_En) := []
theorem zc_99 : zl_99.all (fun q => zt_chk 99 q.1 q.2) = true := by decide +kernel
def zl_100 : List (Nat × zx_En) := []
theorem zc_100 : zl_100.all (fun q => zt_chk 100 q.1 q.2) = true := by decide +kernel
def zl_101 : List (Nat × zx_En) := [(0, .aload_n 0, 0, 0, 0), (1, .invokevirtual 25, 86, 1, 3), (4, .aload_n 0, 0, 0, 0), (5, .iconst (2), 0, 0, 0), (6, .iconst (3), 0, 0, 0), (7, .invokevirtual 100, 102, 3, 3), (10, .istore_n 2, 0, 0, 0), (11, .aload_n 0, 0, 0, 0),
  (12, .getfield 15, 3, 2, 0), (15, .iconst (-1), 0, 0, 0), (16, .if_icmp .ne (8), 0, 24, 0), (19, .aload_n 1, 0, 0, 0), (20, .iload_n 2, 0, 0, 0), (21, .invokevirtual 104, 68, 2, 0), (24, .return_, 0, 0, 0)]
theorem zc_101 : zl_101.all (fun q => zt_chk 101 q.1 q.2) = true := by decide +kernel
def zl_102 : List (Nat × zx_En) := [(0, .aload_n 0, 0, 0, 0), (1, .getfield 15, 3, 2, 0), (4, .iconst (-1), 0, 0, 0), (5, .if_icmp .eq (5), 0, 10, 0), (8, .iconst (-1), 0, 0, 0), (9, .ireturn, 0, 0, 0), (10, .iconst (0), 0, 0, 0), (11, .istore_n 3, 0, 0, 0),
  (12, .aload_n 0, 0, 0, 0), (13, .getfield 32, 3, 3, 0), (16, .iconst (2), 0, 0, 0), (17, .if_icmp .ne (20), 0, 37, 0), (20, .aload_n 0, 0, 0, 0), (21, .getfield 19, 3, 5, 0), (24, .aload_n 0, 0, 0, 0), (25, .getfield 35, 3, 4, 0),
  (28, .isub, 0, 0, 0), (29, .iconst (4), 0, 0, 0), (30, .if_icmp .gt (7), 0, 37, 0), (33, .iconst (1), 0, 0, 0), (34, .goto (4), 0, 38, 0), (37, .iconst (0), 0, 0, 0), (38, .istore 4, 0, 0, 0), (40, .aload_n 0, 0, 0, 0),
  (41, .getfield 35, 3, 4, 0), (44, .istore 5, 0, 0, 0), (46, .iload 4, 0, 0, 0), (48, .ifCond .eq (36), 0, 84, 0), (51, .iload 5, 0, 0, 0), (53, .aload_n 0, 0, 0, 0), (54, .getfield 19, 3, 5, 0), (57, .if_icmp .ge (27), 0, 84, 0),
  (60, .bipush (10), 0, 0, 0), (62, .iload_n 3, 0, 0, 0), (63, .imul, 0, 0, 0), (64, .aload_n 0, 0, 0, 0), (65, .getfield 9, 3, 0, 1), (68, .iload 5, 0, 0, 0), (70, .invokestatic 38, 11, 2, -1), (73, .iadd, 0, 0, 0),
  (74, .bipush (48), 0, 0, 0), (76, .isub, 0, 0, 0), (77, .istore_n 3, 0, 0, 0), (78, .iinc 5 (1), 0, 0, 0), (81, .goto (-35), 0, 46, 0), (84, .iload 4, 0, 0, 0), (86, .ifCond .eq (13), 0, 99, 0), (89, .iload_n 3, 0, 0, 0),
  (90, .iload_n 1, 0, 0, 0), (91, .if_icmp .lt (8), 0, 99, 0), (94, .iload_n 3, 0, 0, 0), (95, .iload_n 2, 0, 0, 0), (96, .if_icmp .le (13), 0, 109, 0), (99, .aload_n 0, 0, 0, 0), (100, .aload_n 0, 0, 0, 0), (101, .getfield 35, 3, 4, 0),
  (104, .putfield 15, 3, 2, 0), (107, .iconst (-1), 0, 0, 0), (108, .ireturn, 0, 0, 0), (109, .aload_n 0, 0, 0, 0), (110, .invokevirtual 25, 86, 1, 3), (113, .iload_n 3, 0, 0, 0), (114, .ireturn, 0, 0, 0)]
theorem zc_102 : zl_102.all (fun q => zt_chk 102 q.1 q.2) = true := by decide +kernel
def zl_103 : List (Nat × zx_En) := [(0, .aload_n 0, 0, 0, 0), (1, .invokevirtual 25, 86, 1, 3), (4, .aload_n 0, 0, 0, 0), (5, .iconst (0), 0, 0, 0), (6, .bipush (99), 0, 0, 0), (8, .invokevirtual 100, 102, 3, 3), (11, .istore_n 2, 0, 0, 0), (12, .aload_n 0, 0, 0, 0),
  (13, .iconst (0), 0, 0, 0), (14, .bipush (99), 0, 0, 0), (16, .invokevirtual 100, 102, 3, 3), (19, .istore_n 3, 0, 0, 0), (20, .aload_n 1, 0, 0, 0), (21, .getfield 108, 0, 0, 0), (24, .iconst (2), 0, 0, 0), (25, .if_icmp .le (13), 0, 38, 0),
  (28, .aload_n 0, 0, 0, 0), (29, .iconst (0), 0, 0, 0), (30, .bipush (99), 0, 0, 0), (32, .invokevirtual 100, 102, 3, 3), (35, .goto (4), 0, 39, 0), (38, .iconst (0), 0, 0, 0), (39, .istore 4, 0, 0, 0), (41, .aload_n 0, 0, 0, 0),
  (42, .getfield 15, 3, 2, 0), (45, .iconst (-1), 0, 0, 0), (46, .if_icmp .ne (11), 0, 57, 0), (49, .aload_n 1, 0, 0, 0), (50, .iload_n 2, 0, 0, 0), (51, .iload_n 3, 0, 0, 0), (52, .iload 4, 0, 0, 0), (54, .invokevirtual 110, 71, 4, 0),
  (57, .return_, 0, 0, 0)]
theorem zc_103 : zl_103.all (fun q => zt_chk 103 q.1 q.2) = true := by decide +kernel
def zl_104 : List (Nat × zx_En) := [(0, .aload_n 0, 0, 0, 0), (1, .invokevirtual 25, 86, 1, 3), (4, .aload_n 0, 0, 0, 0), (5, .iconst (0), 0, 0, 0), (6, .iconst (3), 0, 0, 0), (7, .invokevirtual 100, 102, 3, 3), (10, .istore_n 2, 0, 0, 0), (11, .aload_n 0, 0, 0, 0),
  (12, .getfield 15, 3, 2, 0), (15, .iconst (-1), 0, 0, 0), (16, .if_icmp .ne (8), 0, 24, 0), (19, .aload_n 1, 0, 0, 0), (20, .iload_n 2, 0, 0, 0), (21, .putfield 114, 0, 2, 0), (24, .return_, 0, 0, 0)]
theorem zc_104 : zl_104.all (fun q => zt_chk 104 q.1 q.2) = true := by decide +kernel
def zl_105 : List (Nat × zx_En) := [(0, .aload_n 0, 0, 0, 0), (1, .invokevirtual 25, 86, 1, 3), (4, .iconst (1), 0, 0, 0), (5, .istore_n 2, 0, 0, 0), (6, .iconst (0), 0, 0, 0), (7, .istore_n 3, 0, 0, 0), (8, .iload_n 3, 0, 0, 0), (9, .bipush (12), 0, 0, 0),
  (11, .if_icmp .ge (61), 0, 72, 0), (14, .iload_n 2, 0, 0, 0), (15, .ifCond .eq (57), 0, 72, 0), (18, .aload_n 1, 0, 0, 0), (19, .getfield 116, 0, 6, 1), (22, .iload_n 3, 0, 0, 0), (23, .aload_n 0, 0, 0, 0), (24, .iconst (0), 0, 0, 0),
  (25, .aload_n 1, 0, 0, 0), (26, .getfield 108, 0, 0, 0), (29, .iconst (1), 0, 0, 0), (30, .isub, 0, 0, 0), (31, .invokevirtual 100, 102, 3, 3), (34, .invokestatic 118, 12, 3, -1), (37, .aload_n 1, 0, 0, 0), (38, .iload_n 3, 0, 0, 0),
  (39, .iconst (1), 0, 0, 0), (40, .iadd, 0, 0, 0), (41, .putfield 122, 0, 5, 0), (44, .aload_n 0, 0, 0, 0), (45, .getfield 15, 3, 2, 0), (48, .iconst (-1), 0, 0, 0), (49, .if_icmp .ne (15), 0, 64, 0), (52, .aload_n 0, 0, 0, 0),
  (53, .getfield 32, 3, 3, 0), (56, .iconst (2), 0, 0, 0), (57, .if_icmp .ne (7), 0, 64, 0), (60, .iconst (1), 0, 0, 0), (61, .goto (4), 0, 65, 0), (64, .iconst (0), 0, 0, 0), (65, .istore_n 2, 0, 0, 0), (66, .iinc 3 (1), 0, 0, 0),
  (69, .goto (-61), 0, 8, 0), (72, .return_, 0, 0, 0)]
theorem zc_105 : zl_105.all (fun q => zt_chk 105 q.1 q.2) = true := by decide +kernel
def zl_106 : List (Nat × zx_En) := [(0, .aload_n 0, 0, 0, 0), (1, .invokevirtual 25, 86, 1, 3), (4, .aload_n 0, 0, 0, 0), (5, .iconst (0), 0, 0, 0), (6, .aload_n 1, 0, 0, 0), (7, .getfield 108, 0, 0, 0), (10, .iconst (1), 0, 0, 0), (11, .isub, 0, 0, 0),
  (12, .invokevirtual 100, 102, 3, 3), (15, .istore_n 2, 0, 0, 0), (16, .aload_n 0, 0, 0, 0), (17, .iconst (0), 0, 0, 0), (18, .iconst (5), 0, 0, 0), (19, .invokevirtual 100, 102, 3, 3), (22, .istore_n 3, 0, 0, 0), (23, .aload_n 0, 0, 0, 0),
  (24, .getfield 15, 3, 2, 0), (27, .iconst (-1), 0, 0, 0), (28, .if_icmp .ne (12), 0, 40, 0), (31, .aload_n 1, 0, 0, 0), (32, .getfield 125, 0, 7, 1), (35, .iload_n 2, 0, 0, 0), (36, .iload_n 3, 0, 0, 0), (37, .invokestatic 118, 12, 3, -1),
  (40, .return_, 0, 0, 0)]
theorem zc_106 : zl_106.all (fun q => zt_chk 106 q.1 q.2) = true := by decide +kernel
def zl_107 : List (Nat × zx_En) := [(0, .aload_n 0, 0, 0, 0), (1, .invokevirtual 25, 86, 1, 3), (4, .aload_n 0, 0, 0, 0), (5, .iconst (0), 0, 0, 0), (6, .sipush (9999), 0, 0, 0), (9, .invokevirtual 100, 102, 3, 3), (12, .istore_n 2, 0, 0, 0), (13, .aload_n 0, 0, 0, 0),
  (14, .getfield 15, 3, 2, 0), (17, .iconst (-1), 0, 0, 0), (18, .if_icmp .ne (8), 0, 26, 0), (21, .aload_n 1, 0, 0, 0), (22, .iload_n 2, 0, 0, 0), (23, .putfield 128, 0, 3, 0), (26, .return_, 0, 0, 0)]
theorem zc_107 : zl_107.all (fun q => zt_chk 107 q.1 q.2) = true := by decide +kernel
def zl_108 : List (Nat × zx_En) := [(0, .aload_n 0, 0, 0, 0), (1, .invokevirtual 25, 86, 1, 3), (4, .aload_n 0, 0, 0, 0), (5, .iconst (0), 0, 0, 0), (6, .aload_n 1, 0, 0, 0), (7, .getfield 108, 0, 0, 0), (10, .iconst (1), 0, 0, 0), (11, .isub, 0, 0, 0),
  (12, .invokevirtual 100, 102, 3, 3), (15, .istore_n 2, 0, 0, 0), (16, .aload_n 0, 0, 0, 0), (17, .iconst (0), 0, 0, 0), (18, .aload_n 1, 0, 0, 0), (19, .getfield 62, 0, 1, 0), (22, .iconst (1), 0, 0, 0), (23, .isub, 0, 0, 0),
  (24, .invokevirtual 100, 102, 3, 3), (27, .istore_n 3, 0, 0, 0), (28, .aload_n 0, 0, 0, 0), (29, .getfield 15, 3, 2, 0), (32, .iconst (-1), 0, 0, 0), (33, .if_icmp .ne (12), 0, 45, 0), (36, .aload_n 1, 0, 0, 0), (37, .getfield 130, 0, 8, 1),
  (40, .iload_n 3, 0, 0, 0), (41, .iload_n 2, 0, 0, 0), (42, .invokestatic 118, 12, 3, -1), (45, .return_, 0, 0, 0)]
theorem zc_108 : zl_108.all (fun q => zt_chk 108 q.1 q.2) = true := by decide +kernel
def zl_109 : List (Nat × zx_En) := [(0, .aload_n 0, 0, 0, 0), (1, .getfield 12, 4, 0, 1), (4, .iload_n 1, 0, 0, 0), (5, .invokevirtual 148, 42, 2, 0), (8, .ifCond .eq (18), 0, 26, 0), (11, .iload_n 2, 0, 0, 0), (12, .ifCond .lt (14), 0, 26, 0), (15, .iload_n 2, 0, 0, 0),
  (16, .aload_n 0, 0, 0, 0), (17, .getfield 12, 4, 0, 1), (20, .getfield 136, 0, 0, 0), (23, .if_icmp .le (10), 0, 33, 0), (26, .aload_n 0, 0, 0, 0), (27, .bipush (-2), 0, 0, 0), (29, .invokevirtual 69, 10, 2, 4), (32, .ireturn, 0, 0, 0),
  (33, .iload_n 2, 0, 0, 0), (34, .ifCond .ne (14), 0, 48, 0), (37, .aload_n 0, 0, 0, 0), (38, .getfield 12, 4, 0, 1), (41, .iload_n 1, 0, 0, 0), (42, .invokevirtual 184, 80, 2, 0), (45, .goto (14), 0, 59, 0), (48, .aload_n 0, 0, 0, 0),
  (49, .getfield 12, 4, 0, 1), (52, .iload_n 2, 0, 0, 0), (53, .iconst (1), 0, 0, 0), (54, .isub, 0, 0, 0), (55, .iload_n 1, 0, 0, 0), (56, .invokevirtual 151, 41, 3, 0), (59, .ireturn, 0, 0, 0)]
theorem zc_109 : zl_109.all (fun q => zt_chk 109 q.1 q.2) = true := by decide +kernel
def zl_110 : List (Nat × zx_En) := [(0, .aload_n 0, 0, 0, 0), (1, .getfield 12, 4, 0, 1), (4, .iload_n 1, 0, 0, 0), (5, .invokevirtual 102, 27, 2, 0), (8, .ifCond .eq (12), 0, 20, 0), (11, .iload_n 2, 0, 0, 0), (12, .ifCond .lt (8), 0, 20, 0), (15, .iload_n 2, 0, 0, 0),
  (16, .iconst (2), 0, 0, 0), (17, .if_icmp .le (10), 0, 27, 0), (20, .aload_n 0, 0, 0, 0), (21, .bipush (-2), 0, 0, 0), (23, .invokevirtual 69, 10, 2, 4), (26, .ireturn, 0, 0, 0), (27, .iload_n 2, 0, 0, 0), (28, .ifCond .ne (12), 0, 40, 0),
  (31, .aload_n 0, 0, 0, 0), (32, .getfield 12, 4, 0, 1), (35, .iload_n 1, 0, 0, 0), (36, .invokevirtual 109, 29, 2, 0), (39, .ireturn, 0, 0, 0), (40, .iload_n 2, 0, 0, 0), (41, .iconst (1), 0, 0, 0), (42, .if_icmp .ne (14), 0, 56, 0),
  (45, .aload_n 0, 0, 0, 0), (46, .getfield 12, 4, 0, 1), (49, .iload_n 1, 0, 0, 0), (50, .invokevirtual 207, 40, 2, 0), (53, .goto (11), 0, 64, 0), (56, .aload_n 0, 0, 0, 0), (57, .getfield 12, 4, 0, 1), (60, .iload_n 1, 0, 0, 0),
  (61, .invokevirtual 210, 43, 2, 0), (64, .ireturn, 0, 0, 0)]
theorem zc_110 : zl_110.all (fun q => zt_chk 110 q.1 q.2) = true := by decide +kernel
def zl_111 : List (Nat × zx_En) := [(0, .iload_n 1, 0, 0, 0), (1, .invokestatic 164, 75, 1, -1), (4, .ifCond .eq (13), 0, 17, 0), (7, .iload_n 2, 0, 0, 0), (8, .ifCond .lt (9), 0, 17, 0), (11, .iload_n 2, 0, 0, 0), (12, .ldc 180, 0, 0, 1000000000), (14, .if_icmp .le (10), 0, 24, 0),
  (17, .aload_n 0, 0, 0, 0), (18, .bipush (-2), 0, 0, 0), (20, .invokevirtual 69, 10, 2, 4), (23, .ireturn, 0, 0, 0), (24, .aload_n 0, 0, 0, 0), (25, .getfield 12, 4, 0, 1), (28, .iload_n 1, 0, 0, 0), (29, .iload_n 2, 0, 0, 0),
  (30, .invokevirtual 213, 46, 3, 0), (33, .ireturn, 0, 0, 0)]
theorem zc_111 : zl_111.all (fun q => zt_chk 111 q.1 q.2) = true := by decide +kernel
def zl_112 : List (Nat × zx_En) := [(0, .iload_n 1, 0, 0, 0), (1, .invokestatic 164, 75, 1, -1), (4, .ifCond .eq (15), 0, 19, 0), (7, .iload_n 2, 0, 0, 0), (8, .iconst (1), 0, 0, 0), (9, .if_icmp .lt (10), 0, 19, 0), (12, .iload_n 2, 0, 0, 0), (13, .sipush (4000), 0, 0, 0),
  (16, .if_icmp .le (10), 0, 26, 0), (19, .aload_n 0, 0, 0, 0), (20, .bipush (-2), 0, 0, 0), (22, .invokevirtual 69, 10, 2, 4), (25, .ireturn, 0, 0, 0), (26, .iconst (0), 0, 0, 0), (27, .istore_n 3, 0, 0, 0), (28, .iconst (0), 0, 0, 0),
  (29, .istore 4, 0, 0, 0), (31, .iconst (-1), 0, 0, 0), (32, .istore 5, 0, 0, 0), (34, .iconst (0), 0, 0, 0), (35, .istore 6, 0, 0, 0), (37, .iload 6, 0, 0, 0), (39, .iload_n 2, 0, 0, 0), (40, .if_icmp .ge (49), 0, 89, 0),
  (43, .aload_n 0, 0, 0, 0), (44, .getfield 12, 4, 0, 1), (47, .iload_n 1, 0, 0, 0), (48, .iload 6, 0, 0, 0), (50, .invokevirtual 213, 46, 3, 0), (53, .istore 7, 0, 0, 0), (55, .iload 7, 0, 0, 0), (57, .iload 5, 0, 0, 0),
  (59, .if_icmp .ne (10), 0, 69, 0), (62, .iload 4, 0, 0, 0), (64, .iconst (1), 0, 0, 0), (65, .iadd, 0, 0, 0), (66, .goto (4), 0, 70, 0), (69, .iconst (1), 0, 0, 0), (70, .istore 4, 0, 0, 0), (72, .iload 7, 0, 0, 0),
  (74, .istore 5, 0, 0, 0), (76, .iload_n 3, 0, 0, 0), (77, .iload 4, 0, 0, 0), (79, .invokestatic 216, 0, 2, 97), (82, .istore_n 3, 0, 0, 0), (83, .iinc 6 (1), 0, 0, 0), (86, .goto (-49), 0, 37, 0), (89, .iload_n 3, 0, 0, 0),
  (90, .ireturn, 0, 0, 0)]
theorem zc_112 : zl_112.all (fun q => zt_chk 112 q.1 q.2) = true := by decide +kernel
def zl_113 : List (Nat × zx_En) := []
theorem zc_113 : zl_113.all (fun q => zt_chk 113 q.1 q.2) = true := by decide +kernel
def zl_114 : List (Nat × zx_En) := [(0, .iload_n 1, 0, 0, 0), (1, .invokestatic 164, 75, 1, -1), (4, .ifCond .eq (23), 0, 27, 0), (7, .iload_n 2, 0, 0, 0), (8, .ifCond .lt (19), 0, 27, 0), (11, .iload_n 2, 0, 0, 0), (12, .sipush (1000), 0, 0, 0), (15, .if_icmp .gt (12), 0, 27, 0),
  (18, .iload_n 3, 0, 0, 0), (19, .ifCond .lt (8), 0, 27, 0), (22, .iload_n 3, 0, 0, 0), (23, .iconst (3), 0, 0, 0), (24, .if_icmp .le (15), 0, 39, 0), (27, .ldc2_w 221, 0, 0, -10000000000000), (30, .aload_n 0, 0, 0, 0), (31, .bipush (-2), 0, 0, 0),
  (33, .invokevirtual 69, 10, 2, 4), (36, .i2l, 0, 0, 0), (37, .ladd, 0, 0, 0), (38, .lreturn, 0, 0, 0), (39, .lconst 0, 0, 0, 0), (40, .lstore 4, 0, 0, 0), (42, .iconst (0), 0, 0, 0), (43, .istore 6, 0, 0, 0),
  (45, .iload 6, 0, 0, 0), (47, .iload_n 2, 0, 0, 0), (48, .if_icmp .ge (59), 0, 107, 0), (51, .aload_n 0, 0, 0, 0), (52, .getfield 12, 4, 0, 1), (55, .iload_n 1, 0, 0, 0), (56, .iload 6, 0, 0, 0), (58, .invokevirtual 213, 46, 3, 0),
  (61, .istore 7, 0, 0, 0), (63, .iload 7, 0, 0, 0), (65, .ifCond .ne (18), 0, 83, 0), (68, .lload 4, 0, 0, 0), (70, .iload 6, 0, 0, 0), (72, .i2l, 0, 0, 0), (73, .iload_n 3, 0, 0, 0), (74, .invokestatic 223, 115, 2, -1),
  (77, .ladd, 0, 0, 0), (78, .lstore 4, 0, 0, 0), (80, .goto (21), 0, 101, 0), (83, .iload 7, 0, 0, 0), (85, .iconst (1), 0, 0, 0), (86, .if_icmp .ne (15), 0, 101, 0), (89, .lload 4, 0, 0, 0), (91, .iload 6, 0, 0, 0),
  (93, .i2l, 0, 0, 0), (94, .iload_n 3, 0, 0, 0), (95, .invokestatic 223, 115, 2, -1), (98, .lsub, 0, 0, 0), (99, .lstore 4, 0, 0, 0), (101, .iinc 6 (1), 0, 0, 0), (104, .goto (-59), 0, 45, 0), (107, .lload 4, 0, 0, 0),
  (109, .lreturn, 0, 0, 0)]
theorem zc_114 : zl_114.all (fun q => zt_chk 114 q.1 q.2) = true := by decide +kernel
def zl_115 : List (Nat × zx_En) := [(0, .lconst 1, 0, 0, 0), (1, .lstore_n 3, 0, 0, 0), (2, .iconst (0), 0, 0, 0), (3, .istore 5, 0, 0, 0), (5, .iload 5, 0, 0, 0), (7, .iload_n 2, 0, 0, 0), (8, .if_icmp .ge (13), 0, 21, 0), (11, .lload_n 3, 0, 0, 0),
  (12, .lload_n 0, 0, 0, 0), (13, .lmul, 0, 0, 0), (14, .lstore_n 3, 0, 0, 0), (15, .iinc 5 (1), 0, 0, 0), (18, .goto (-13), 0, 5, 0), (21, .lload_n 3, 0, 0, 0), (22, .lreturn, 0, 0, 0)]
theorem zc_115 : zl_115.all (fun q => zt_chk 115 q.1 q.2) = true := by decide +kernel
def zl_116 : List (Nat × zx_En) := [(0, .aload_n 0, 0, 0, 0), (1, .getfield 12, 4, 0, 1), (4, .iload_n 1, 0, 0, 0), (5, .invokevirtual 102, 27, 2, 0), (8, .ifCond .ne (10), 0, 18, 0), (11, .aload_n 0, 0, 0, 0), (12, .bipush (-2), 0, 0, 0), (14, .invokevirtual 69, 10, 2, 4),
  (17, .ireturn, 0, 0, 0), (18, .aload_n 0, 0, 0, 0), (19, .getfield 43, 4, 7, 1), (22, .aload_n 0, 0, 0, 0), (23, .getfield 12, 4, 0, 1), (26, .aload_n 0, 0, 0, 0), (27, .getfield 12, 4, 0, 1), (30, .getfield 167, 0, 2, 0),
  (33, .invokevirtual 227, 45, 3, 1), (36, .aload_n 0, 0, 0, 0), (37, .getfield 43, 4, 7, 1), (40, .iload_n 1, 0, 0, 0), (41, .iconst (0), 0, 0, 0), (42, .invokevirtual 231, 56, 3, 1), (45, .ireturn, 0, 0, 0)]
theorem zc_116 : zl_116.all (fun q => zt_chk 116 q.1 q.2) = true := by decide +kernel
def zl_117 : List (Nat × zx_En) := [(0, .aload_n 0, 0, 0, 0), (1, .getfield 12, 4, 0, 1), (4, .iload_n 1, 0, 0, 0), (5, .invokevirtual 102, 27, 2, 0), (8, .ifCond .ne (10), 0, 18, 0), (11, .aload_n 0, 0, 0, 0), (12, .bipush (-2), 0, 0, 0), (14, .invokevirtual 69, 10, 2, 4),
  (17, .ireturn, 0, 0, 0), (18, .aload_n 0, 0, 0, 0), (19, .getfield 12, 4, 0, 1), (22, .iconst (-1), 0, 0, 0), (23, .invokevirtual 210, 43, 2, 0), (26, .ifCond .ne (10), 0, 36, 0), (29, .aload_n 0, 0, 0, 0), (30, .bipush (-5), 0, 0, 0),
  (32, .invokevirtual 69, 10, 2, 4), (35, .ireturn, 0, 0, 0), (36, .aload_n 0, 0, 0, 0), (37, .iload_n 1, 0, 0, 0), (38, .aload_n 0, 0, 0, 0), (39, .getfield 12, 4, 0, 1), (42, .iload_n 1, 0, 0, 0), (43, .invokevirtual 109, 29, 2, 0),
  (46, .invokevirtual 129, 37, 3, 4), (49, .ireturn, 0, 0, 0)]
theorem zc_117 : zl_117.all (fun q => zt_chk 117 q.1 q.2) = true := by decide +kernel
def zl_118 : List (Nat × zx_En) := [(0, .iload_n 1, 0, 0, 0), (1, .invokestatic 164, 75, 1, -1), (4, .ifCond .eq (7), 0, 11, 0), (7, .iload_n 2, 0, 0, 0), (8, .ifCond .ge (10), 0, 18, 0), (11, .aload_n 0, 0, 0, 0), (12, .bipush (-2), 0, 0, 0), (14, .invokevirtual 69, 10, 2, 4),
  (17, .ireturn, 0, 0, 0), (18, .iload_n 2, 0, 0, 0), (19, .aload_n 0, 0, 0, 0), (20, .getfield 12, 4, 0, 1), (23, .iconst (-1), 0, 0, 0), (24, .invokevirtual 210, 43, 2, 0), (27, .invokestatic 234, 44, 1, -1), (30, .if_icmp .lt (10), 0, 40, 0),
  (33, .aload_n 0, 0, 0, 0), (34, .bipush (-5), 0, 0, 0), (36, .invokevirtual 69, 10, 2, 4), (39, .ireturn, 0, 0, 0), (40, .aload_n 0, 0, 0, 0), (41, .iload_n 1, 0, 0, 0), (42, .invokevirtual 239, 119, 2, 4), (45, .aload_n 0, 0, 0, 0),
  (46, .getfield 50, 4, 9, 1), (49, .iload_n 2, 0, 0, 0), (50, .invokestatic 242, 11, 2, -1), (53, .ireturn, 0, 0, 0)]
theorem zc_118 : zl_118.all (fun q => zt_chk 118 q.1 q.2) = true := by decide +kernel
def zl_119 : List (Nat × zx_En) := [(0, .aload_n 0, 0, 0, 0), (1, .getfield 43, 4, 7, 1), (4, .aload_n 0, 0, 0, 0), (5, .getfield 12, 4, 0, 1), (8, .invokevirtual 258, 38, 2, 1), (11, .aload_n 0, 0, 0, 0), (12, .getfield 43, 4, 7, 1), (15, .aload_n 0, 0, 0, 0),
  (16, .getfield 12, 4, 0, 1), (19, .iload_n 1, 0, 0, 0), (20, .invokevirtual 227, 45, 3, 1), (23, .aload_n 0, 0, 0, 0), (24, .aload_n 0, 0, 0, 0), (25, .getfield 43, 4, 7, 1), (28, .iconst (-1), 0, 0, 0), (29, .invokevirtual 262, 120, 3, 4),
  (32, .return_, 0, 0, 0)]
theorem zc_119 : zl_119.all (fun q => zt_chk 119 q.1 q.2) = true := by decide +kernel
def zl_120 : List (Nat × zx_En) := [(0, .iconst (0), 0, 0, 0), (1, .istore_n 3, 0, 0, 0), (2, .iload_n 3, 0, 0, 0), (3, .iconst (3), 0, 0, 0), (4, .if_icmp .ge (25), 0, 29, 0), (7, .aload_n 0, 0, 0, 0), (8, .getfield 53, 4, 11, 1), (11, .iload_n 3, 0, 0, 0),
  (12, .aload_n 0, 0, 0, 0), (13, .getfield 43, 4, 7, 1), (16, .iload_n 3, 0, 0, 0), (17, .invokevirtual 315, 121, 2, 1), (20, .invokestatic 157, 12, 3, -1), (23, .iinc 3 (1), 0, 0, 0), (26, .goto (-24), 0, 2, 0), (29, .aload_n 0, 0, 0, 0),
  (30, .getfield 43, 4, 7, 1), (33, .getfield 273, 1, 5, 0), (36, .istore_n 3, 0, 0, 0), (37, .aload_n 0, 0, 0, 0), (38, .iconst (0), 0, 0, 0), (39, .putfield 290, 4, 10, 0), (42, .iconst (0), 0, 0, 0), (43, .istore 4, 0, 0, 0),
  (45, .iload 4, 0, 0, 0), (47, .bipush (8), 0, 0, 0), (49, .if_icmp .ge (112), 0, 161, 0), (52, .iload_n 3, 0, 0, 0), (53, .ifCond .eq (108), 0, 161, 0), (56, .aload_n 0, 0, 0, 0), (57, .getfield 43, 4, 7, 1), (60, .iload_n 3, 0, 0, 0),
  (61, .invokevirtual 318, 63, 2, 1), (64, .istore 5, 0, 0, 0), (66, .iload 5, 0, 0, 0), (68, .iload_n 2, 0, 0, 0), (69, .if_icmp .ne (10), 0, 79, 0), (72, .aload_n 0, 0, 0, 0), (73, .getfield 43, 4, 7, 1), (76, .goto (4), 0, 80, 0),
  (79, .aload_n 1, 0, 0, 0), (80, .astore 6, 0, 0, 0), (82, .aload 6, 0, 0, 0), (84, .iload 5, 0, 0, 0), (86, .aload 6, 0, 0, 0), (88, .iload 5, 0, 0, 0), (90, .invokevirtual 321, 64, 2, 1), (93, .iload_n 3, 0, 0, 0),
  (94, .invokevirtual 312, 50, 4, 1), (97, .istore 7, 0, 0, 0), (99, .aload_n 0, 0, 0, 0), (100, .getfield 50, 4, 9, 1), (103, .iload 4, 0, 0, 0), (105, .iload 7, 0, 0, 0), (107, .invokestatic 157, 12, 3, -1), (110, .aload_n 0, 0, 0, 0),
  (111, .getfield 53, 4, 11, 1), (114, .iload 5, 0, 0, 0), (116, .aload_n 0, 0, 0, 0), (117, .getfield 53, 4, 11, 1), (120, .iload 5, 0, 0, 0), (122, .invokestatic 242, 11, 2, -1), (125, .aload_n 0, 0, 0, 0), (126, .getfield 43, 4, 7, 1),
  (129, .iload 5, 0, 0, 0), (131, .iload 7, 0, 0, 0), (133, .invokevirtual 322, 59, 3, 1), (136, .iadd, 0, 0, 0), (137, .invokestatic 157, 12, 3, -1), (140, .iload_n 3, 0, 0, 0), (141, .iload 7, 0, 0, 0), (143, .invokestatic 281, 61, 2, -1),
  (146, .istore_n 3, 0, 0, 0), (147, .aload_n 0, 0, 0, 0), (148, .iload 4, 0, 0, 0), (150, .iconst (1), 0, 0, 0), (151, .iadd, 0, 0, 0), (152, .putfield 290, 4, 10, 0), (155, .iinc 4 (1), 0, 0, 0), (158, .goto (-113), 0, 45, 0),
  (161, .return_, 0, 0, 0)]
theorem zc_120 : zl_120.all (fun q => zt_chk 120 q.1 q.2) = true := by decide +kernel
def zl_121 : List (Nat × zx_En) := [(0, .aload_n 0, 0, 0, 0), (1, .getfield 18, 1, 2, 1), (4, .iload_n 1, 0, 0, 0), (5, .invokestatic 74, 11, 2, -1), (8, .ireturn, 0, 0, 0)]
theorem zc_121 : zl_121.all (fun q => zt_chk 121 q.1 q.2) = true := by decide +kernel
def zl_122 : List (Nat × zx_En) := [(0, .iload_n 1, 0, 0, 0), (1, .invokestatic 164, 75, 1, -1), (4, .ifCond .eq (14), 0, 18, 0), (7, .aload_n 0, 0, 0, 0), (8, .getfield 12, 4, 0, 1), (11, .iload_n 2, 0, 0, 0), (12, .invokevirtual 102, 27, 2, 0), (15, .ifCond .ne (10), 0, 25, 0),
  (18, .aload_n 0, 0, 0, 0), (19, .bipush (-2), 0, 0, 0), (21, .invokevirtual 69, 10, 2, 4), (24, .ireturn, 0, 0, 0), (25, .aload_n 0, 0, 0, 0), (26, .iload_n 1, 0, 0, 0), (27, .invokevirtual 239, 119, 2, 4), (30, .aload_n 0, 0, 0, 0),
  (31, .getfield 53, 4, 11, 1), (34, .iload_n 2, 0, 0, 0), (35, .invokestatic 242, 11, 2, -1), (38, .ireturn, 0, 0, 0)]
theorem zc_122 : zl_122.all (fun q => zt_chk 122 q.1 q.2) = true := by decide +kernel
def zl_123 : List (Nat × zx_En) := [(0, .iload_n 1, 0, 0, 0), (1, .invokestatic 164, 75, 1, -1), (4, .ifCond .ne (10), 0, 14, 0), (7, .aload_n 0, 0, 0, 0), (8, .bipush (-2), 0, 0, 0), (10, .invokevirtual 69, 10, 2, 4), (13, .ireturn, 0, 0, 0), (14, .aload_n 0, 0, 0, 0),
  (15, .iload_n 1, 0, 0, 0), (16, .invokevirtual 239, 119, 2, 4), (19, .aload_n 0, 0, 0, 0), (20, .invokevirtual 246, 124, 1, 4), (23, .ireturn, 0, 0, 0)]
theorem zc_123 : zl_123.all (fun q => zt_chk 123 q.1 q.2) = true := by decide +kernel
def zl_124 : List (Nat × zx_En) := [(0, .aload_n 0, 0, 0, 0), (1, .getfield 53, 4, 11, 1), (4, .iconst (0), 0, 0, 0), (5, .invokestatic 242, 11, 2, -1), (8, .istore_n 1, 0, 0, 0), (9, .iload_n 1, 0, 0, 0), (10, .istore_n 2, 0, 0, 0), (11, .iconst (1), 0, 0, 0),
  (12, .istore_n 3, 0, 0, 0), (13, .iload_n 3, 0, 0, 0), (14, .aload_n 0, 0, 0, 0), (15, .getfield 12, 4, 0, 1), (18, .getfield 136, 0, 0, 0), (21, .if_icmp .ge (35), 0, 56, 0), (24, .iload_n 1, 0, 0, 0), (25, .aload_n 0, 0, 0, 0),
  (26, .getfield 53, 4, 11, 1), (29, .iload_n 3, 0, 0, 0), (30, .invokestatic 242, 11, 2, -1), (33, .invokestatic 216, 0, 2, 97), (36, .istore_n 1, 0, 0, 0), (37, .iload_n 2, 0, 0, 0), (38, .aload_n 0, 0, 0, 0), (39, .getfield 53, 4, 11, 1),
  (42, .iload_n 3, 0, 0, 0), (43, .invokestatic 242, 11, 2, -1), (46, .invokestatic 293, 0, 2, 98), (49, .istore_n 2, 0, 0, 0), (50, .iinc 3 (1), 0, 0, 0), (53, .goto (-40), 0, 13, 0), (56, .iload_n 1, 0, 0, 0), (57, .iload_n 2, 0, 0, 0),
  (58, .isub, 0, 0, 0), (59, .ireturn, 0, 0, 0)]
theorem zc_124 : zl_124.all (fun q => zt_chk 124 q.1 q.2) = true := by decide +kernel
def zl_125 : List (Nat × zx_En) := [(0, .iload_n 1, 0, 0, 0), (1, .invokestatic 164, 75, 1, -1), (4, .ifCond .eq (19), 0, 23, 0), (7, .iload_n 2, 0, 0, 0), (8, .iconst (-1), 0, 0, 0), (9, .if_icmp .eq (21), 0, 30, 0), (12, .aload_n 0, 0, 0, 0), (13, .getfield 12, 4, 0, 1),
  (16, .iload_n 2, 0, 0, 0), (17, .invokevirtual 102, 27, 2, 0), (20, .ifCond .ne (10), 0, 30, 0), (23, .aload_n 0, 0, 0, 0), (24, .bipush (-2), 0, 0, 0), (26, .invokevirtual 69, 10, 2, 4), (29, .ireturn, 0, 0, 0), (30, .aload_n 0, 0, 0, 0),
  (31, .iload_n 1, 0, 0, 0), (32, .invokevirtual 250, 126, 2, 4), (35, .pop, 0, 0, 0), (36, .iload_n 2, 0, 0, 0), (37, .iconst (-1), 0, 0, 0), (38, .if_icmp .ne (10), 0, 48, 0), (41, .aload_n 0, 0, 0, 0), (42, .invokevirtual 246, 124, 1, 4),
  (45, .goto (11), 0, 56, 0), (48, .aload_n 0, 0, 0, 0), (49, .getfield 53, 4, 11, 1), (52, .iload_n 2, 0, 0, 0), (53, .invokestatic 242, 11, 2, -1), (56, .ireturn, 0, 0, 0)]
theorem zc_125 : zl_125.all (fun q => zt_chk 125 q.1 q.2) = true := by decide +kernel
def zl_126 : List (Nat × zx_En) := [(0, .aload_n 0, 0, 0, 0), (1, .getfield 43, 4, 7, 1), (4, .aload_n 0, 0, 0, 0), (5, .getfield 12, 4, 0, 1), (8, .invokevirtual 258, 38, 2, 1), (11, .aload_n 0, 0, 0, 0), (12, .getfield 43, 4, 7, 1), (15, .aload_n 0, 0, 0, 0),
  (16, .getfield 12, 4, 0, 1), (19, .iload_n 1, 0, 0, 0), (20, .invokevirtual 227, 45, 3, 1), (23, .aload_n 0, 0, 0, 0), (24, .getfield 43, 4, 7, 1), (27, .invokevirtual 323, 127, 1, 1), (30, .istore_n 2, 0, 0, 0), (31, .iconst (0), 0, 0, 0),
  (32, .istore_n 3, 0, 0, 0), (33, .iload_n 3, 0, 0, 0), (34, .iconst (3), 0, 0, 0), (35, .if_icmp .ge (41), 0, 76, 0), (38, .aload_n 0, 0, 0, 0), (39, .getfield 53, 4, 11, 1), (42, .iload_n 3, 0, 0, 0), (43, .aload_n 0, 0, 0, 0),
  (44, .getfield 43, 4, 7, 1), (47, .iload_n 3, 0, 0, 0), (48, .invokevirtual 315, 121, 2, 1), (51, .aload_n 0, 0, 0, 0), (52, .getfield 43, 4, 7, 1), (55, .iload_n 3, 0, 0, 0), (56, .aload_n 0, 0, 0, 0), (57, .getfield 43, 4, 7, 1),
  (60, .getfield 273, 1, 5, 0), (63, .invokevirtual 326, 66, 3, 1), (66, .iadd, 0, 0, 0), (67, .invokestatic 157, 12, 3, -1), (70, .iinc 3 (1), 0, 0, 0), (73, .goto (-40), 0, 33, 0), (76, .iload_n 2, 0, 0, 0), (77, .ireturn, 0, 0, 0)]
theorem zc_126 : zl_126.all (fun q => zt_chk 126 q.1 q.2) = true := by decide +kernel
def zl_127 : List (Nat × zx_En) := [(0, .iconst (-1), 0, 0, 0), (1, .istore_n 1, 0, 0, 0), (2, .iconst (1), 0, 0, 0), (3, .istore_n 2, 0, 0, 0), (4, .iload_n 2, 0, 0, 0), (5, .aload_n 0, 0, 0, 0), (6, .getfield 49, 1, 5, 0), (9, .if_icmp .gt (103), 0, 112, 0),
  (12, .iload_n 2, 0, 0, 0), (13, .sipush (256), 0, 0, 0), (16, .if_icmp .ge (96), 0, 112, 0), (19, .iload_n 2, 0, 0, 0), (20, .aload_n 0, 0, 0, 0), (21, .getfield 49, 1, 5, 0), (24, .iconst (-1), 0, 0, 0), (25, .ixor, 0, 0, 0),
  (26, .iand, 0, 0, 0), (27, .ifCond .ne (79), 0, 106, 0), (30, .aload_n 0, 0, 0, 0), (31, .iload_n 2, 0, 0, 0), (32, .invokevirtual 129, 63, 2, 1), (35, .istore_n 3, 0, 0, 0), (36, .aload_n 0, 0, 0, 0), (37, .iload_n 3, 0, 0, 0),
  (38, .iload_n 2, 0, 0, 0), (39, .invokevirtual 94, 65, 3, 1), (42, .istore_n 1, 0, 0, 0), (43, .iconst (0), 0, 0, 0), (44, .istore 4, 0, 0, 0), (46, .iload 4, 0, 0, 0), (48, .iconst (3), 0, 0, 0), (49, .if_icmp .ge (57), 0, 106, 0),
  (52, .iload 4, 0, 0, 0), (54, .iload_n 3, 0, 0, 0), (55, .if_icmp .ne (13), 0, 68, 0), (58, .aload_n 0, 0, 0, 0), (59, .iload 4, 0, 0, 0), (61, .iload_n 1, 0, 0, 0), (62, .invokevirtual 122, 59, 3, 1), (65, .goto (4), 0, 69, 0),
  (68, .iconst (0), 0, 0, 0), (69, .istore 5, 0, 0, 0), (71, .aload_n 0, 0, 0, 0), (72, .getfield 24, 1, 7, 1), (75, .iload 4, 0, 0, 0), (77, .sipush (256), 0, 0, 0), (80, .imul, 0, 0, 0), (81, .iload_n 2, 0, 0, 0),
  (82, .iadd, 0, 0, 0), (83, .iload 5, 0, 0, 0), (85, .aload_n 0, 0, 0, 0), (86, .iload 4, 0, 0, 0), (88, .iload_n 2, 0, 0, 0), (89, .iload_n 1, 0, 0, 0), (90, .invokestatic 115, 61, 2, -1), (93, .invokevirtual 126, 66, 3, 1),
  (96, .iadd, 0, 0, 0), (97, .invokestatic 42, 12, 3, -1), (100, .iinc 4 (1), 0, 0, 0), (103, .goto (-57), 0, 46, 0), (106, .iinc 2 (1), 0, 0, 0), (109, .goto (-105), 0, 4, 0), (112, .iload_n 1, 0, 0, 0), (113, .ireturn, 0, 0, 0)]
theorem zc_127 : zl_127.all (fun q => zt_chk 127 q.1 q.2) = true := by decide +kernel
def zl_128 : List (Nat × zx_En) := [(0, .iload_n 1, 0, 0, 0), (1, .invokestatic 164, 75, 1, -1), (4, .ifCond .ne (10), 0, 14, 0), (7, .aload_n 0, 0, 0, 0), (8, .bipush (-2), 0, 0, 0), (10, .invokevirtual 69, 10, 2, 4), (13, .ireturn, 0, 0, 0), (14, .aload_n 0, 0, 0, 0),
  (15, .getfield 12, 4, 0, 1), (18, .iconst (-1), 0, 0, 0), (19, .invokevirtual 210, 43, 2, 0), (22, .ifCond .ne (10), 0, 32, 0), (25, .aload_n 0, 0, 0, 0), (26, .bipush (-5), 0, 0, 0), (28, .invokevirtual 69, 10, 2, 4), (31, .ireturn, 0, 0, 0),
  (32, .aload_n 0, 0, 0, 0), (33, .iload_n 1, 0, 0, 0), (34, .invokevirtual 250, 126, 2, 4), (37, .ireturn, 0, 0, 0)]
theorem zc_128 : zl_128.all (fun q => zt_chk 128 q.1 q.2) = true := by decide +kernel
def zl_129 : List (Nat × zx_En) := [(0, .iload_n 1, 0, 0, 0), (1, .iconst (-1), 0, 0, 0), (2, .if_icmp .ge (10), 0, 12, 0), (5, .aload_n 0, 0, 0, 0), (6, .bipush (-2), 0, 0, 0), (8, .invokevirtual 69, 10, 2, 4), (11, .ireturn, 0, 0, 0), (12, .aload_n 0, 0, 0, 0),
  (13, .getfield 12, 4, 0, 1), (16, .iconst (-1), 0, 0, 0), (17, .invokevirtual 210, 43, 2, 0), (20, .invokestatic 234, 44, 1, -1), (23, .istore_n 2, 0, 0, 0), (24, .iload_n 1, 0, 0, 0), (25, .iload_n 2, 0, 0, 0), (26, .if_icmp .lt (10), 0, 36, 0),
  (29, .aload_n 0, 0, 0, 0), (30, .bipush (-5), 0, 0, 0), (32, .invokevirtual 69, 10, 2, 4), (35, .ireturn, 0, 0, 0), (36, .aload_n 0, 0, 0, 0), (37, .iload_n 2, 0, 0, 0), (38, .invokevirtual 253, 130, 2, 4), (41, .istore_n 3, 0, 0, 0),
  (42, .iload_n 1, 0, 0, 0), (43, .iconst (-1), 0, 0, 0), (44, .if_icmp .ne (7), 0, 51, 0), (47, .iload_n 3, 0, 0, 0), (48, .goto (11), 0, 59, 0), (51, .aload_n 0, 0, 0, 0), (52, .getfield 59, 4, 13, 1), (55, .iload_n 1, 0, 0, 0),
  (56, .invokestatic 242, 11, 2, -1), (59, .ireturn, 0, 0, 0)]
theorem zc_129 : zl_129.all (fun q => zt_chk 129 q.1 q.2) = true := by decide +kernel
def zl_130 : List (Nat × zx_En) := [(0, .aload_n 0, 0, 0, 0), (1, .getfield 43, 4, 7, 1), (4, .aload_n 0, 0, 0, 0), (5, .getfield 12, 4, 0, 1), (8, .invokevirtual 258, 38, 2, 1), (11, .aload_n 0, 0, 0, 0), (12, .getfield 43, 4, 7, 1), (15, .invokevirtual 329, 49, 1, 1),
  (18, .aload_n 0, 0, 0, 0), (19, .getfield 12, 4, 0, 1), (22, .getfield 136, 0, 0, 0), (25, .i2l, 0, 0, 0), (26, .iload_n 1, 0, 0, 0), (27, .invokestatic 223, 115, 2, -1), (30, .lstore_n 2, 0, 0, 0), (31, .ldc_w 256, 0, 0, 1000000),
  (34, .istore 4, 0, 0, 0), (36, .iconst (0), 0, 0, 0), (37, .istore 5, 0, 0, 0), (39, .iload 5, 0, 0, 0), (41, .i2l, 0, 0, 0), (42, .lload_n 2, 0, 0, 0), (43, .lcmp, 0, 0, 0), (44, .ifCond .ge (113), 0, 157, 0),
  (47, .aload_n 0, 0, 0, 0), (48, .iload 5, 0, 0, 0), (50, .iload_n 1, 0, 0, 0), (51, .invokevirtual 332, 131, 3, 4), (54, .ifCond .eq (97), 0, 151, 0), (57, .iload 4, 0, 0, 0), (59, .ifCond .ne (21), 0, 80, 0), (62, .aload_n 0, 0, 0, 0),
  (63, .getfield 56, 4, 12, 1), (66, .aload_n 0, 0, 0, 0), (67, .getfield 59, 4, 13, 1), (70, .iload_n 1, 0, 0, 0), (71, .invokestatic 335, 256, 3, -1), (74, .ifCond .ne (6), 0, 80, 0), (77, .goto (74), 0, 151, 0), (80, .aload_n 0, 0, 0, 0),
  (81, .getfield 43, 4, 7, 1), (84, .aload_n 0, 0, 0, 0), (85, .getfield 56, 4, 12, 1), (88, .iload_n 1, 0, 0, 0), (89, .invokevirtual 339, 132, 3, 1), (92, .aload_n 0, 0, 0, 0), (93, .aload_n 0, 0, 0, 0), (94, .getfield 43, 4, 7, 1),
  (97, .iconst (-1), 0, 0, 0), (98, .invokevirtual 262, 120, 3, 4), (101, .aload_n 0, 0, 0, 0), (102, .invokevirtual 246, 124, 1, 4), (105, .istore 6, 0, 0, 0), (107, .iload 6, 0, 0, 0), (109, .iload 4, 0, 0, 0), (111, .if_icmp .lt (25), 0, 136, 0),
  (114, .iload 6, 0, 0, 0), (116, .iload 4, 0, 0, 0), (118, .if_icmp .ne (33), 0, 151, 0), (121, .aload_n 0, 0, 0, 0), (122, .getfield 56, 4, 12, 1), (125, .aload_n 0, 0, 0, 0), (126, .getfield 59, 4, 13, 1), (129, .iload_n 1, 0, 0, 0),
  (130, .invokestatic 335, 256, 3, -1), (133, .ifCond .eq (18), 0, 151, 0), (136, .iload 6, 0, 0, 0), (138, .istore 4, 0, 0, 0), (140, .aload_n 0, 0, 0, 0), (141, .getfield 56, 4, 12, 1), (144, .aload_n 0, 0, 0, 0), (145, .getfield 59, 4, 13, 1),
  (148, .invokestatic 343, 39, 2, -1), (151, .iinc 5 (1), 0, 0, 0), (154, .goto (-115), 0, 39, 0), (157, .iload 4, 0, 0, 0), (159, .ireturn, 0, 0, 0)]
theorem zc_130 : zl_130.all (fun q => zt_chk 130 q.1 q.2) = true := by decide +kernel
def zl_131 : List (Nat × zx_En) := [(0, .aload_n 0, 0, 0, 0), (1, .getfield 12, 4, 0, 1), (4, .getfield 136, 0, 0, 0), (7, .iconst (2), 0, 0, 0), (8, .if_icmp .le (7), 0, 15, 0), (11, .iconst (3), 0, 0, 0), (12, .goto (4), 0, 16, 0), (15, .iconst (2), 0, 0, 0),
  (16, .istore_n 3, 0, 0, 0), (17, .iload_n 1, 0, 0, 0), (18, .istore 4, 0, 0, 0), (20, .iconst (0), 0, 0, 0), (21, .istore 5, 0, 0, 0), (23, .iload 5, 0, 0, 0), (25, .iload_n 2, 0, 0, 0), (26, .if_icmp .ge (28), 0, 54, 0),
  (29, .aload_n 0, 0, 0, 0), (30, .getfield 56, 4, 12, 1), (33, .iload 5, 0, 0, 0), (35, .iload 4, 0, 0, 0), (37, .iload_n 3, 0, 0, 0), (38, .irem, 0, 0, 0), (39, .invokestatic 157, 12, 3, -1), (42, .iload 4, 0, 0, 0),
  (44, .iload_n 3, 0, 0, 0), (45, .idiv, 0, 0, 0), (46, .istore 4, 0, 0, 0), (48, .iinc 5 (1), 0, 0, 0), (51, .goto (-28), 0, 23, 0), (54, .iload_n 2, 0, 0, 0), (55, .iload_n 3, 0, 0, 0), (56, .idiv, 0, 0, 0),
  (57, .istore 5, 0, 0, 0), (59, .iload_n 2, 0, 0, 0), (60, .iload_n 3, 0, 0, 0), (61, .irem, 0, 0, 0), (62, .ifCond .ne (8), 0, 70, 0), (65, .iload 5, 0, 0, 0), (67, .goto (7), 0, 74, 0), (70, .iload 5, 0, 0, 0),
  (72, .iconst (1), 0, 0, 0), (73, .iadd, 0, 0, 0), (74, .istore 6, 0, 0, 0), (76, .iconst (0), 0, 0, 0), (77, .istore 7, 0, 0, 0), (79, .iload 7, 0, 0, 0), (81, .iload_n 3, 0, 0, 0), (82, .if_icmp .ge (67), 0, 149, 0),
  (85, .iconst (0), 0, 0, 0), (86, .istore 8, 0, 0, 0), (88, .iconst (0), 0, 0, 0), (89, .istore 9, 0, 0, 0), (91, .iload 9, 0, 0, 0), (93, .iload_n 2, 0, 0, 0), (94, .if_icmp .ge (33), 0, 127, 0), (97, .iload 8, 0, 0, 0),
  (99, .aload_n 0, 0, 0, 0), (100, .getfield 56, 4, 12, 1), (103, .iload 9, 0, 0, 0), (105, .invokestatic 242, 11, 2, -1), (108, .iload 7, 0, 0, 0), (110, .if_icmp .ne (7), 0, 117, 0), (113, .iconst (1), 0, 0, 0), (114, .goto (4), 0, 118, 0),
  (117, .iconst (0), 0, 0, 0), (118, .iadd, 0, 0, 0), (119, .istore 8, 0, 0, 0), (121, .iinc 9 (1), 0, 0, 0), (124, .goto (-33), 0, 91, 0), (127, .iload 8, 0, 0, 0), (129, .iload 5, 0, 0, 0), (131, .if_icmp .lt (10), 0, 141, 0),
  (134, .iload 8, 0, 0, 0), (136, .iload 6, 0, 0, 0), (138, .if_icmp .le (5), 0, 143, 0), (141, .iconst (0), 0, 0, 0), (142, .ireturn, 1, 0, 0), (143, .iinc 7 (1), 0, 0, 0), (146, .goto (-67), 0, 79, 0), (149, .iconst (1), 0, 0, 0),
  (150, .ireturn, 1, 0, 0)]
theorem zc_131 : zl_131.all (fun q => zt_chk 131 q.1 q.2) = true := by decide +kernel
def zl_132 : List (Nat × zx_En) := [(0, .iconst (0), 0, 0, 0), (1, .istore_n 3, 0, 0, 0), (2, .iload_n 3, 0, 0, 0), (3, .iload_n 2, 0, 0, 0), (4, .if_icmp .ge (41), 0, 45, 0), (7, .aload_n 0, 0, 0, 0), (8, .getfield 68, 1, 4, 0), (11, .iload_n 2, 0, 0, 0),
  (12, .if_icmp .ne (33), 0, 45, 0), (15, .aload_n 1, 0, 0, 0), (16, .iload_n 2, 0, 0, 0), (17, .iconst (1), 0, 0, 0), (18, .isub, 0, 0, 0), (19, .iload_n 3, 0, 0, 0), (20, .isub, 0, 0, 0), (21, .invokestatic 74, 11, 2, -1),
  (24, .aload_n 0, 0, 0, 0), (25, .getfield 21, 1, 3, 1), (28, .iload_n 2, 0, 0, 0), (29, .iconst (1), 0, 0, 0), (30, .isub, 0, 0, 0), (31, .iload_n 3, 0, 0, 0), (32, .isub, 0, 0, 0), (33, .invokestatic 74, 11, 2, -1),
  (36, .if_icmp .ne (9), 0, 45, 0), (39, .iinc 3 (1), 0, 0, 0), (42, .goto (-40), 0, 2, 0), (45, .iconst (0), 0, 0, 0), (46, .istore 4, 0, 0, 0), (48, .iload 4, 0, 0, 0), (50, .iconst (3), 0, 0, 0), (51, .if_icmp .ge (31), 0, 82, 0),
  (54, .aload_n 0, 0, 0, 0), (55, .getfield 27, 1, 8, 1), (58, .iload 4, 0, 0, 0), (60, .iload_n 3, 0, 0, 0), (61, .aload_n 0, 0, 0, 0), (62, .getfield 27, 1, 8, 1), (65, .iload 4, 0, 0, 0), (67, .invokestatic 74, 11, 2, -1),
  (70, .invokestatic 78, 0, 2, 98), (73, .invokestatic 42, 12, 3, -1), (76, .iinc 4 (1), 0, 0, 0), (79, .goto (-31), 0, 48, 0), (82, .aload_n 1, 0, 0, 0), (83, .aload_n 0, 0, 0, 0), (84, .getfield 21, 1, 3, 1), (87, .invokestatic 33, 39, 2, -1),
  (90, .aload_n 0, 0, 0, 0), (91, .iload_n 2, 0, 0, 0), (92, .putfield 68, 1, 4, 0), (95, .return_, 0, 0, 0)]
theorem zc_132 : zl_132.all (fun q => zt_chk 132 q.1 q.2) = true := by decide +kernel
def zl_133 : List (Nat × zx_En) := [(0, .iconst (0), 0, 0, 0), (1, .istore_n 1, 0, 0, 0), (2, .ldc_w 256, 0, 0, 1000000), (5, .istore_n 2, 0, 0, 0), (6, .iconst (0), 0, 0, 0), (7, .istore_n 3, 0, 0, 0), (8, .iload_n 3, 0, 0, 0), (9, .iconst (3), 0, 0, 0),
  (10, .if_icmp .gt (31), 0, 41, 0), (13, .aload_n 0, 0, 0, 0), (14, .iload_n 3, 0, 0, 0), (15, .invokevirtual 239, 119, 2, 4), (18, .aload_n 0, 0, 0, 0), (19, .invokevirtual 246, 124, 1, 4), (22, .istore 4, 0, 0, 0), (24, .iload 4, 0, 0, 0),
  (26, .iload_n 2, 0, 0, 0), (27, .if_icmp .ge (8), 0, 35, 0), (30, .iload 4, 0, 0, 0), (32, .istore_n 2, 0, 0, 0), (33, .iload_n 3, 0, 0, 0), (34, .istore_n 1, 0, 0, 0), (35, .iinc 3 (1), 0, 0, 0), (38, .goto (-30), 0, 8, 0),
  (41, .iload_n 1, 0, 0, 0), (42, .ireturn, 0, 0, 0)]
theorem zc_133 : zl_133.all (fun q => zt_chk 133 q.1 q.2) = true := by decide +kernel
def zl_134 : List (Nat × zx_En) := [(0, .iload_n 2, 0, 0, 0), (1, .invokestatic 62, 8, 1, -1), (4, .ifCond .eq (14), 0, 18, 0), (7, .aload_n 0, 0, 0, 0), (8, .getfield 12, 4, 0, 1), (11, .iload_n 1, 0, 0, 0), (12, .invokevirtual 102, 27, 2, 0), (15, .ifCond .ne (14), 0, 29, 0),
  (18, .ldc_w 257, 0, 0, -10000000), (21, .aload_n 0, 0, 0, 0), (22, .bipush (-2), 0, 0, 0), (24, .invokevirtual 69, 10, 2, 4), (27, .iadd, 0, 0, 0), (28, .ireturn, 0, 0, 0), (29, .aload_n 0, 0, 0, 0), (30, .getfield 32, 4, 4, 1),
  (33, .iload_n 2, 0, 0, 0), (34, .invokevirtual 77, 19, 2, 2), (37, .istore_n 3, 0, 0, 0), (38, .iload_n 3, 0, 0, 0), (39, .ifCond .eq (13), 0, 52, 0), (42, .ldc_w 257, 0, 0, -10000000), (45, .aload_n 0, 0, 0, 0), (46, .iload_n 3, 0, 0, 0),
  (47, .invokevirtual 69, 10, 2, 4), (50, .iadd, 0, 0, 0), (51, .ireturn, 0, 0, 0), (52, .aload_n 0, 0, 0, 0), (53, .getfield 32, 4, 4, 1), (56, .iload_n 2, 0, 0, 0), (57, .aload_n 0, 0, 0, 0), (58, .getfield 12, 4, 0, 1),
  (61, .getfield 132, 0, 1, 0), (64, .bipush (100), 0, 0, 0), (66, .invokevirtual 170, 77, 4, 2), (69, .ifCond .ne (14), 0, 83, 0), (72, .ldc_w 257, 0, 0, -10000000), (75, .aload_n 0, 0, 0, 0), (76, .bipush (-2), 0, 0, 0), (78, .invokevirtual 69, 10, 2, 4),
  (81, .iadd, 0, 0, 0), (82, .ireturn, 0, 0, 0), (83, .aload_n 0, 0, 0, 0), (84, .aload_n 0, 0, 0, 0), (85, .getfield 12, 4, 0, 1), (88, .getfield 167, 0, 2, 0), (91, .invokevirtual 239, 119, 2, 4), (94, .aload_n 0, 0, 0, 0),
  (95, .getfield 53, 4, 11, 1), (98, .iload_n 1, 0, 0, 0), (99, .invokestatic 242, 11, 2, -1), (102, .istore 4, 0, 0, 0), (104, .aload_n 0, 0, 0, 0), (105, .getfield 47, 4, 8, 1), (108, .aload_n 0, 0, 0, 0), (109, .getfield 12, 4, 0, 1),
  (112, .invokevirtual 258, 38, 2, 1), (115, .iconst (0), 0, 0, 0), (116, .istore 5, 0, 0, 0), (118, .iload 5, 0, 0, 0), (120, .aload_n 0, 0, 0, 0), (121, .getfield 12, 4, 0, 1), (124, .getfield 132, 0, 1, 0), (127, .if_icmp .ge (37), 0, 164, 0),
  (130, .aload_n 0, 0, 0, 0), (131, .getfield 47, 4, 8, 1), (134, .getfield 261, 1, 0, 1), (137, .iload_n 1, 0, 0, 0), (138, .bipush (8), 0, 0, 0), (140, .imul, 0, 0, 0), (141, .iload 5, 0, 0, 0), (143, .iadd, 0, 0, 0),
  (144, .aload_n 0, 0, 0, 0), (145, .getfield 32, 4, 4, 1), (148, .iload_n 2, 0, 0, 0), (149, .iload 5, 0, 0, 0), (151, .invokevirtual 95, 23, 3, 2), (154, .l2i, 0, 0, 0), (155, .invokestatic 157, 12, 3, -1), (158, .iinc 5 (1), 0, 0, 0),
  (161, .goto (-43), 0, 118, 0), (164, .aload_n 0, 0, 0, 0), (165, .getfield 47, 4, 8, 1), (168, .aload_n 0, 0, 0, 0), (169, .getfield 12, 4, 0, 1), (172, .aload_n 0, 0, 0, 0), (173, .getfield 12, 4, 0, 1), (176, .getfield 167, 0, 2, 0),
  (179, .invokevirtual 227, 45, 3, 1), (182, .aload_n 0, 0, 0, 0), (183, .aload_n 0, 0, 0, 0), (184, .getfield 47, 4, 8, 1), (187, .iload_n 1, 0, 0, 0), (188, .invokevirtual 262, 120, 3, 4), (191, .aload_n 0, 0, 0, 0), (192, .getfield 53, 4, 11, 1),
  (195, .iload_n 1, 0, 0, 0), (196, .invokestatic 242, 11, 2, -1), (199, .iload 4, 0, 0, 0), (201, .isub, 0, 0, 0), (202, .ireturn, 0, 0, 0)]
theorem zc_134 : zl_134.all (fun q => zt_chk 134 q.1 q.2) = true := by decide +kernel

/-! the code of the methods, each entry checked -/
def zl_1 : List (Nat × zx_En) := [(0, .aload_n 0, 0, 0, 0), (1, .invokespecial 3, 0, 1, 99), (4, .aload_n 0, 0, 0, 0), (5, .new 9, 0, 0, 0), (8, .dup, 0, 0, 0), (9, .invokespecial 11, 3, 1, 100), (12, .putfield 12, 4, 0, 1), (15, .aload_n 0, 0, 0, 0),
  (16, .new 9, 0, 0, 0), (19, .dup, 0, 0, 0), (20, .invokespecial 11, 3, 1, 100), (23, .putfield 16, 4, 1, 1), (26, .aload_n 0, 0, 0, 0), (27, .new 9, 0, 0, 0), (30, .dup, 0, 0, 0), (31, .invokespecial 11, 3, 1, 100),
  (34, .putfield 19, 4, 2, 1), (37, .aload_n 0, 0, 0, 0), (38, .new 22, 3, 0, 0), (41, .dup, 0, 0, 0), (42, .invokespecial 24, 4, 1, 100), (45, .putfield 25, 4, 3, 1), (48, .aload_n 0, 0, 0, 0), (49, .new 29, 2, 0, 0),
  (52, .dup, 0, 0, 0), (53, .invokespecial 31, 5, 1, 100), (56, .putfield 32, 4, 4, 1), (59, .aload_n 0, 0, 0, 0), (60, .iconst (5), 0, 0, 0), (61, .newarray .int, 0, 0, 0), (63, .putfield 36, 4, 5, 1), (66, .aload_n 0, 0, 0, 0),
  (67, .new 40, 1, 0, 0), (70, .dup, 0, 0, 0), (71, .invokespecial 42, 6, 1, 100), (74, .putfield 43, 4, 7, 1), (77, .aload_n 0, 0, 0, 0), (78, .new 40, 1, 0, 0), (81, .dup, 0, 0, 0), (82, .invokespecial 42, 6, 1, 100),
  (85, .putfield 47, 4, 8, 1), (88, .aload_n 0, 0, 0, 0), (89, .bipush (8), 0, 0, 0), (91, .newarray .int, 0, 0, 0), (93, .putfield 50, 4, 9, 1), (96, .aload_n 0, 0, 0, 0), (97, .iconst (3), 0, 0, 0), (98, .newarray .int, 0, 0, 0),
  (100, .putfield 53, 4, 11, 1), (103, .aload_n 0, 0, 0, 0), (104, .bipush (8), 0, 0, 0), (106, .newarray .int, 0, 0, 0), (108, .putfield 56, 4, 12, 1), (111, .aload_n 0, 0, 0, 0), (112, .bipush (8), 0, 0, 0), (114, .newarray .int, 0, 0, 0),
  (116, .putfield 59, 4, 13, 1), (119, .return_, 0, 0, 0)]
theorem zc_1 : zl_1.all (fun q => zt_chk 1 q.1 q.2) = true := by decide +kernel
def zl_2 : List (Nat × zx_En) := []
theorem zc_2 : zl_2.all (fun q => zt_chk 2 q.1 q.2) = true := by decide +kernel
def zl_3 : List (Nat × zx_En) := [(0, .aload_n 0, 0, 0, 0), (1, .invokespecial 3, 0, 1, 99), (4, .aload_n 0, 0, 0, 0), (5, .iconst (2), 0, 0, 0), (6, .putfield 9, 0, 0, 0), (9, .aload_n 0, 0, 0, 0), (10, .iconst (1), 0, 0, 0), (11, .putfield 15, 0, 4, 0),
  (14, .aload_n 0, 0, 0, 0), (15, .iconst (1), 0, 0, 0), (16, .putfield 18, 0, 5, 0), (19, .aload_n 0, 0, 0, 0), (20, .bipush (12), 0, 0, 0), (22, .newarray .int, 0, 0, 0), (24, .putfield 21, 0, 6, 1), (27, .aload_n 0, 0, 0, 0),
  (28, .iconst (3), 0, 0, 0), (29, .newarray .int, 0, 0, 0), (31, .putfield 25, 0, 7, 1), (34, .aload_n 0, 0, 0, 0), (35, .bipush (8), 0, 0, 0), (37, .newarray .int, 0, 0, 0), (39, .putfield 28, 0, 8, 1), (42, .aload_n 0, 0, 0, 0),
  (43, .bipush (24), 0, 0, 0), (45, .newarray .int, 0, 0, 0), (47, .putfield 31, 0, 9, 1), (50, .return_, 0, 0, 0)]
theorem zc_3 : zl_3.all (fun q => zt_chk 3 q.1 q.2) = true := by decide +kernel
def zl_4 : List (Nat × zx_En) := [(0, .aload_n 0, 0, 0, 0), (1, .invokespecial 3, 0, 1, 99), (4, .aload_n 0, 0, 0, 0), (5, .sipush (250), 0, 0, 0), (8, .newarray .int, 0, 0, 0), (10, .putfield 9, 3, 0, 1), (13, .return_, 0, 0, 0)]
theorem zc_4 : zl_4.all (fun q => zt_chk 4 q.1 q.2) = true := by decide +kernel
def zl_5 : List (Nat × zx_En) := [(0, .aload_n 0, 0, 0, 0), (1, .invokespecial 3, 0, 1, 99), (4, .aload_n 0, 0, 0, 0), (5, .bipush (8), 0, 0, 0), (7, .newarray .int, 0, 0, 0), (9, .dup, 0, 0, 0), (10, .iconst (0), 0, 0, 0), (11, .iconst (-1), 0, 0, 0),
  (12, .iastore, 0, 0, 0), (13, .dup, 0, 0, 0), (14, .iconst (1), 0, 0, 0), (15, .iconst (-1), 0, 0, 0), (16, .iastore, 0, 0, 0), (17, .dup, 0, 0, 0), (18, .iconst (2), 0, 0, 0), (19, .iconst (-1), 0, 0, 0),
  (20, .iastore, 0, 0, 0), (21, .dup, 0, 0, 0), (22, .iconst (3), 0, 0, 0), (23, .iconst (-1), 0, 0, 0), (24, .iastore, 0, 0, 0), (25, .dup, 0, 0, 0), (26, .iconst (4), 0, 0, 0), (27, .iconst (-1), 0, 0, 0),
  (28, .iastore, 0, 0, 0), (29, .dup, 0, 0, 0), (30, .iconst (5), 0, 0, 0), (31, .iconst (-1), 0, 0, 0), (32, .iastore, 0, 0, 0), (33, .dup, 0, 0, 0), (34, .bipush (6), 0, 0, 0), (36, .iconst (-1), 0, 0, 0),
  (37, .iastore, 0, 0, 0), (38, .dup, 0, 0, 0), (39, .bipush (7), 0, 0, 0), (41, .iconst (-1), 0, 0, 0), (42, .iastore, 0, 0, 0), (43, .putfield 9, 2, 0, 1), (46, .aload_n 0, 0, 0, 0), (47, .bipush (8), 0, 0, 0),
  (49, .newarray .int, 0, 0, 0), (51, .putfield 15, 2, 1, 1), (54, .aload_n 0, 0, 0, 0), (55, .bipush (8), 0, 0, 0), (57, .newarray .int, 0, 0, 0), (59, .putfield 18, 2, 2, 1), (62, .aload_n 0, 0, 0, 0), (63, .sipush (320), 0, 0, 0),
  (66, .newarray .long, 0, 0, 0), (68, .putfield 21, 2, 3, 1), (71, .return_, 0, 0, 0)]
theorem zc_5 : zl_5.all (fun q => zt_chk 5 q.1 q.2) = true := by decide +kernel
def zl_6 : List (Nat × zx_En) := [(0, .aload_n 0, 0, 0, 0), (1, .invokespecial 3, 0, 1, 99), (4, .aload_n 0, 0, 0, 0), (5, .bipush (24), 0, 0, 0), (7, .newarray .int, 0, 0, 0), (9, .putfield 9, 1, 0, 1), (12, .aload_n 0, 0, 0, 0), (13, .iconst (3), 0, 0, 0),
  (14, .newarray .int, 0, 0, 0), (16, .putfield 15, 1, 1, 1), (19, .aload_n 0, 0, 0, 0), (20, .iconst (3), 0, 0, 0), (21, .newarray .int, 0, 0, 0), (23, .putfield 18, 1, 2, 1), (26, .aload_n 0, 0, 0, 0), (27, .bipush (32), 0, 0, 0),
  (29, .newarray .int, 0, 0, 0), (31, .putfield 21, 1, 3, 1), (34, .aload_n 0, 0, 0, 0), (35, .sipush (768), 0, 0, 0), (38, .newarray .int, 0, 0, 0), (40, .putfield 24, 1, 7, 1), (43, .aload_n 0, 0, 0, 0), (44, .iconst (3), 0, 0, 0),
  (45, .newarray .int, 0, 0, 0), (47, .putfield 27, 1, 8, 1), (50, .return_, 0, 0, 0)]
theorem zc_6 : zl_6.all (fun q => zt_chk 6 q.1 q.2) = true := by decide +kernel
def zl_7 : List (Nat × zx_En) := [(0, .iload_n 1, 0, 0, 0), (1, .invokestatic 62, 8, 1, -1), (4, .ifCond .eq (20), 0, 24, 0), (7, .iload_n 2, 0, 0, 0), (8, .invokestatic 66, 9, 1, -1), (11, .ifCond .eq (13), 0, 24, 0), (14, .iload_n 3, 0, 0, 0), (15, .ifCond .lt (9), 0, 24, 0),
  (18, .iload_n 3, 0, 0, 0), (19, .bipush (40), 0, 0, 0), (21, .if_icmp .le (10), 0, 31, 0), (24, .aload_n 0, 0, 0, 0), (25, .bipush (-2), 0, 0, 0), (27, .invokevirtual 69, 10, 2, 4), (30, .ireturn, 0, 0, 0), (31, .aload_n 0, 0, 0, 0),
  (32, .getfield 32, 4, 4, 1), (35, .iload_n 1, 0, 0, 0), (36, .iload_n 2, 0, 0, 0), (37, .iload_n 3, 0, 0, 0), (38, .invokevirtual 73, 13, 4, 2), (41, .iconst (1), 0, 0, 0), (42, .ireturn, 0, 0, 0)]
theorem zc_7 : zl_7.all (fun q => zt_chk 7 q.1 q.2) = true := by decide +kernel
def zl_8 : List (Nat × zx_En) := [(0, .iload_n 0, 0, 0, 0), (1, .ifCond .lt (13), 0, 14, 0), (4, .iload_n 0, 0, 0, 0), (5, .bipush (8), 0, 0, 0), (7, .if_icmp .ge (7), 0, 14, 0), (10, .iconst (1), 0, 0, 0), (11, .goto (4), 0, 15, 0), (14, .iconst (0), 0, 0, 0),
  (15, .ireturn, 1, 0, 0)]
theorem zc_8 : zl_8.all (fun q => zt_chk 8 q.1 q.2) = true := by decide +kernel
def zl_9 : List (Nat × zx_En) := [(0, .iload_n 0, 0, 0, 0), (1, .ifCond .lt (12), 0, 13, 0), (4, .iload_n 0, 0, 0, 0), (5, .iconst (4), 0, 0, 0), (6, .if_icmp .gt (7), 0, 13, 0), (9, .iconst (1), 0, 0, 0), (10, .goto (4), 0, 14, 0), (13, .iconst (0), 0, 0, 0),
  (14, .ireturn, 1, 0, 0)]
theorem zc_9 : zl_9.all (fun q => zt_chk 9 q.1 q.2) = true := by decide +kernel
def zl_10 : List (Nat × zx_En) := [(0, .bipush (-2), 0, 0, 0), (2, .iload_n 1, 0, 0, 0), (3, .isub, 0, 0, 0), (4, .istore_n 2, 0, 0, 0), (5, .aload_n 0, 0, 0, 0), (6, .getfield 36, 4, 5, 1), (9, .iload_n 2, 0, 0, 0), (10, .aload_n 0, 0, 0, 0),
  (11, .getfield 36, 4, 5, 1), (14, .iload_n 2, 0, 0, 0), (15, .invokestatic 245, 11, 2, -1), (18, .iconst (1), 0, 0, 0), (19, .iadd, 0, 0, 0), (20, .invokestatic 157, 12, 3, -1), (23, .iload_n 1, 0, 0, 0), (24, .ireturn, 0, 0, 0)]
theorem zc_10 : zl_10.all (fun q => zt_chk 10 q.1 q.2) = true := by decide +kernel

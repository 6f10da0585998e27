/-! the code of the methods, each entry checked -/
theorem zt_alla {α : Type} {a b : List α} {f : α → Bool} (h1 : a.all f = true) (h2 : b.all f = true) : (a ++ b).all f = true := by rw [List.all_append, h1, h2]; rfl
def zl_1 : List (Nat × zx_En) := [(0, .aload_n 0, 0, 0, 0), (1, .invokespecial 3, 0, 1, 99), (4, .aload_n 0, 0, 0, 0), (5, .new 9, 0, 0, 0), (8, .dup, 0, 0, 0), (9, .invokespecial 11, 3, 1, 100), (12, .putfield 12, 4, 0, 1), (15, .aload_n 0, 0, 0, 0),
  (16, .new 9, 0, 0, 0), (19, .dup, 0, 0, 0), (20, .invokespecial 11, 3, 1, 100), (23, .putfield 16, 4, 1, 1), (26, .aload_n 0, 0, 0, 0), (27, .new 9, 0, 0, 0), (30, .dup, 0, 0, 0), (31, .invokespecial 11, 3, 1, 100),
  (34, .putfield 19, 4, 2, 1), (37, .aload_n 0, 0, 0, 0), (38, .new 22, 3, 0, 0), (41, .dup, 0, 0, 0), (42, .invokespecial 24, 4, 1, 100), (45, .putfield 25, 4, 3, 1), (48, .aload_n 0, 0, 0, 0), (49, .new 29, 2, 0, 0),
  (52, .dup, 0, 0, 0), (53, .invokespecial 31, 5, 1, 100), (56, .putfield 32, 4, 4, 1), (59, .aload_n 0, 0, 0, 0), (60, .iconst (5), 0, 0, 0), (61, .newarray .int, 0, 0, 0), (63, .putfield 36, 4, 5, 1), (66, .aload_n 0, 0, 0, 0),
  (67, .new 40, 1, 0, 0), (70, .dup, 0, 0, 0), (71, .invokespecial 42, 6, 1, 100), (74, .putfield 43, 4, 7, 1), (77, .aload_n 0, 0, 0, 0), (78, .new 40, 1, 0, 0), (81, .dup, 0, 0, 0), (82, .invokespecial 42, 6, 1, 100),
  (85, .putfield 47, 4, 8, 1), (88, .aload_n 0, 0, 0, 0), (89, .bipush (8), 0, 0, 0), (91, .newarray .int, 0, 0, 0), (93, .putfield 50, 4, 9, 1), (96, .aload_n 0, 0, 0, 0), (97, .iconst (3), 0, 0, 0), (98, .newarray .int, 0, 0, 0),
  (100, .putfield 53, 4, 11, 1), (103, .aload_n 0, 0, 0, 0), (104, .bipush (8), 0, 0, 0), (106, .newarray .int, 0, 0, 0), (108, .putfield 56, 4, 12, 1), (111, .aload_n 0, 0, 0, 0), (112, .bipush (8), 0, 0, 0), (114, .newarray .int, 0, 0, 0),
  (116, .putfield 59, 4, 13, 1), (119, .return_, 0, 0, 0)]
theorem zc_1 : zl_1.all (fun q => zt_chk 1 q.1 q.2) = true := by decide +kernel
def zl_2 : List (Nat × zx_En) := []
theorem zc_2 : zl_2.all (fun q => zt_chk 2 q.1 q.2) = true := by decide +kernel
def zl_3 : List (Nat × zx_En) := [(0, .aload_n 0, 0, 0, 0), (1, .invokespecial 3, 0, 1, 99), (4, .aload_n 0, 0, 0, 0), (5, .iconst (2), 0, 0, 0), (6, .putfield 9, 0, 0, 0), (9, .aload_n 0, 0, 0, 0), (10, .iconst (1), 0, 0, 0), (11, .putfield 15, 0, 4, 0),
  (14, .aload_n 0, 0, 0, 0), (15, .iconst (1), 0, 0, 0), (16, .putfield 18, 0, 5, 0), (19, .aload_n 0, 0, 0, 0), (20, .bipush (12), 0, 0, 0), (22, .newarray .int, 0, 0, 0), (24, .putfield 21, 0, 6, 1), (27, .aload_n 0, 0, 0, 0),
  (28, .iconst (3), 0, 0, 0), (29, .newarray .int, 0, 0, 0), (31, .putfield 25, 0, 7, 1), (34, .aload_n 0, 0, 0, 0), (35, .bipush (8), 0, 0, 0), (37, .newarray .int, 0, 0, 0), (39, .putfield 28, 0, 8, 1), (42, .aload_n 0, 0, 0, 0),
  (43, .bipush (24), 0, 0, 0), (45, .newarray .int, 0, 0, 0), (47, .putfield 31, 0, 9, 1), (50, .return_, 0, 0, 0)]
theorem zc_3 : zl_3.all (fun q => zt_chk 3 q.1 q.2) = true := by decide +kernel
def zl_4 : List (Nat × zx_En) := [(0, .aload_n 0, 0, 0, 0), (1, .invokespecial 3, 0, 1, 99), (4, .aload_n 0, 0, 0, 0), (5, .sipush (250), 0, 0, 0), (8, .newarray .int, 0, 0, 0), (10, .putfield 9, 3, 0, 1), (13, .return_, 0, 0, 0)]
theorem zc_4 : zl_4.all (fun q => zt_chk 4 q.1 q.2) = true := by decide +kernel
def zl_5 : List (Nat × zx_En) := [(0, .aload_n 0, 0, 0, 0), (1, .invokespecial 3, 0, 1, 99), (4, .aload_n 0, 0, 0, 0), (5, .bipush (8), 0, 0, 0), (7, .newarray .int, 0, 0, 0), (9, .dup, 0, 0, 0), (10, .iconst (0), 0, 0, 0), (11, .iconst (-1), 0, 0, 0),
  (12, .iastore, 0, 0, 0), (13, .dup, 0, 0, 0), (14, .iconst (1), 0, 0, 0), (15, .iconst (-1), 0, 0, 0), (16, .iastore, 0, 0, 0), (17, .dup, 0, 0, 0), (18, .iconst (2), 0, 0, 0), (19, .iconst (-1), 0, 0, 0),
  (20, .iastore, 0, 0, 0), (21, .dup, 0, 0, 0), (22, .iconst (3), 0, 0, 0), (23, .iconst (-1), 0, 0, 0), (24, .iastore, 0, 0, 0), (25, .dup, 0, 0, 0), (26, .iconst (4), 0, 0, 0), (27, .iconst (-1), 0, 0, 0),
  (28, .iastore, 0, 0, 0), (29, .dup, 0, 0, 0), (30, .iconst (5), 0, 0, 0), (31, .iconst (-1), 0, 0, 0), (32, .iastore, 0, 0, 0), (33, .dup, 0, 0, 0), (34, .bipush (6), 0, 0, 0), (36, .iconst (-1), 0, 0, 0),
  (37, .iastore, 0, 0, 0), (38, .dup, 0, 0, 0), (39, .bipush (7), 0, 0, 0), (41, .iconst (-1), 0, 0, 0), (42, .iastore, 0, 0, 0), (43, .putfield 9, 2, 0, 1), (46, .aload_n 0, 0, 0, 0), (47, .bipush (8), 0, 0, 0),
  (49, .newarray .int, 0, 0, 0), (51, .putfield 15, 2, 1, 1), (54, .aload_n 0, 0, 0, 0), (55, .bipush (8), 0, 0, 0), (57, .newarray .int, 0, 0, 0), (59, .putfield 18, 2, 2, 1), (62, .aload_n 0, 0, 0, 0), (63, .sipush (320), 0, 0, 0),
  (66, .newarray .long, 0, 0, 0), (68, .putfield 21, 2, 3, 1), (71, .return_, 0, 0, 0)]
theorem zc_5 : zl_5.all (fun q => zt_chk 5 q.1 q.2) = true := by decide +kernel
def zl_6 : List (Nat × zx_En) := [(0, .aload_n 0, 0, 0, 0), (1, .invokespecial 3, 0, 1, 99), (4, .aload_n 0, 0, 0, 0), (5, .bipush (24), 0, 0, 0), (7, .newarray .int, 0, 0, 0), (9, .putfield 9, 1, 0, 1), (12, .aload_n 0, 0, 0, 0), (13, .iconst (3), 0, 0, 0),
  (14, .newarray .int, 0, 0, 0), (16, .putfield 15, 1, 1, 1), (19, .aload_n 0, 0, 0, 0), (20, .iconst (3), 0, 0, 0), (21, .newarray .int, 0, 0, 0), (23, .putfield 18, 1, 2, 1), (26, .aload_n 0, 0, 0, 0), (27, .bipush (32), 0, 0, 0),
  (29, .newarray .int, 0, 0, 0), (31, .putfield 21, 1, 3, 1), (34, .aload_n 0, 0, 0, 0), (35, .sipush (768), 0, 0, 0), (38, .newarray .int, 0, 0, 0), (40, .putfield 24, 1, 7, 1), (43, .aload_n 0, 0, 0, 0), (44, .iconst (3), 0, 0, 0),
  (45, .newarray .int, 0, 0, 0), (47, .putfield 27, 1, 8, 1), (50, .return_, 0, 0, 0)]
theorem zc_6 : zl_6.all (fun q => zt_chk 6 q.1 q.2) = true := by decide +kernel
def zl_7 : List (Nat × zx_En) := [(0, .iload_n 1, 0, 0, 0), (1, .invokestatic 62, 8, 1, -1), (4, .ifCond .eq (20), 0, 24, 0), (7, .iload_n 2, 0, 0, 0), (8, .invokestatic 66, 9, 1, -1), (11, .ifCond .eq (13), 0, 24, 0), (14, .iload_n 3, 0, 0, 0), (15, .ifCond .lt (9), 0, 24, 0),
  (18, .iload_n 3, 0, 0, 0), (19, .bipush (40), 0, 0, 0), (21, .if_icmp .le (10), 0, 31, 0), (24, .aload_n 0, 0, 0, 0), (25, .bipush (-2), 0, 0, 0), (27, .invokevirtual 69, 10, 2, 4), (30, .ireturn, 0, 0, 0), (31, .aload_n 0, 0, 0, 0),
  (32, .getfield 32, 4, 4, 1), (35, .iload_n 1, 0, 0, 0), (36, .iload_n 2, 0, 0, 0), (37, .iload_n 3, 0, 0, 0), (38, .invokevirtual 73, 13, 4, 2), (41, .iconst (1), 0, 0, 0), (42, .ireturn, 0, 0, 0)]
theorem zc_7 : zl_7.all (fun q => zt_chk 7 q.1 q.2) = true := by decide +kernel
def zl_8 : List (Nat × zx_En) := [(0, .iload_n 0, 0, 0, 0), (1, .ifCond .lt (13), 0, 14, 0), (4, .iload_n 0, 0, 0, 0), (5, .bipush (8), 0, 0, 0), (7, .if_icmp .ge (7), 0, 14, 0), (10, .iconst (1), 0, 0, 0), (11, .goto (4), 0, 15, 0), (14, .iconst (0), 0, 0, 0),
  (15, .ireturn, 1, 0, 0)]
theorem zc_8 : zl_8.all (fun q => zt_chk 8 q.1 q.2) = true := by decide +kernel
def zl_9 : List (Nat × zx_En) := [(0, .iload_n 0, 0, 0, 0), (1, .ifCond .lt (12), 0, 13, 0), (4, .iload_n 0, 0, 0, 0), (5, .iconst (4), 0, 0, 0), (6, .if_icmp .gt (7), 0, 13, 0), (9, .iconst (1), 0, 0, 0), (10, .goto (4), 0, 14, 0), (13, .iconst (0), 0, 0, 0),
  (14, .ireturn, 1, 0, 0)]
theorem zc_9 : zl_9.all (fun q => zt_chk 9 q.1 q.2) = true := by decide +kernel
def zl_10 : List (Nat × zx_En) := [(0, .bipush (-2), 0, 0, 0), (2, .iload_n 1, 0, 0, 0), (3, .isub, 0, 0, 0), (4, .istore_n 2, 0, 0, 0), (5, .aload_n 0, 0, 0, 0), (6, .getfield 36, 4, 5, 1), (9, .iload_n 2, 0, 0, 0), (10, .aload_n 0, 0, 0, 0),
  (11, .getfield 36, 4, 5, 1), (14, .iload_n 2, 0, 0, 0), (15, .invokestatic 242, 11, 2, -1), (18, .iconst (1), 0, 0, 0), (19, .iadd, 0, 0, 0), (20, .invokestatic 157, 12, 3, -1), (23, .iload_n 1, 0, 0, 0), (24, .ireturn, 0, 0, 0)]
theorem zc_10 : zl_10.all (fun q => zt_chk 10 q.1 q.2) = true := by decide +kernel
def zl_11 : List (Nat × zx_En) := [(0, .aload_n 0, 0, 0, 0), (1, .ifnull (19), 0, 20, 0), (4, .iload_n 1, 0, 0, 0), (5, .ifCond .lt (15), 0, 20, 0), (8, .iload_n 1, 0, 0, 0), (9, .aload_n 0, 0, 0, 0), (10, .arraylength, 0, 0, 0), (11, .if_icmp .ge (9), 0, 20, 0),
  (14, .aload_n 0, 0, 0, 0), (15, .iload_n 1, 0, 0, 0), (16, .iaload, 0, 0, 0), (17, .goto (4), 0, 21, 0), (20, .iconst (0), 0, 0, 0), (21, .ireturn, 0, 0, 0)]
theorem zc_11 : zl_11.all (fun q => zt_chk 11 q.1 q.2) = true := by decide +kernel
def zl_12 : List (Nat × zx_En) := [(0, .aload_n 0, 0, 0, 0), (1, .ifnull (17), 0, 18, 0), (4, .iload_n 1, 0, 0, 0), (5, .ifCond .lt (13), 0, 18, 0), (8, .iload_n 1, 0, 0, 0), (9, .aload_n 0, 0, 0, 0), (10, .arraylength, 0, 0, 0), (11, .if_icmp .ge (7), 0, 18, 0),
  (14, .aload_n 0, 0, 0, 0), (15, .iload_n 1, 0, 0, 0), (16, .iload_n 2, 0, 0, 0), (17, .iastore, 0, 0, 0), (18, .return_, 0, 0, 0)]
theorem zc_12 : zl_12.all (fun q => zt_chk 12 q.1 q.2) = true := by decide +kernel
def zl_13 : List (Nat × zx_En) := [(0, .aload_n 0, 0, 0, 0), (1, .getfield 9, 2, 0, 1), (4, .iload_n 1, 0, 0, 0), (5, .iload_n 2, 0, 0, 0), (6, .invokestatic 43, 12, 3, -1), (9, .aload_n 0, 0, 0, 0), (10, .getfield 15, 2, 1, 1), (13, .iload_n 1, 0, 0, 0),
  (14, .iload_n 3, 0, 0, 0), (15, .invokestatic 43, 12, 3, -1), (18, .iconst (0), 0, 0, 0), (19, .istore 4, 0, 0, 0), (21, .iload 4, 0, 0, 0), (23, .iload_n 3, 0, 0, 0), (24, .if_icmp .ge (17), 0, 41, 0), (27, .aload_n 0, 0, 0, 0),
  (28, .iload_n 1, 0, 0, 0), (29, .iload 4, 0, 0, 0), (31, .lconst 0, 0, 0, 0), (32, .invokevirtual 47, 14, 4, 2), (35, .iinc 4 (1), 0, 0, 0), (38, .goto (-17), 0, 21, 0), (41, .return_, 0, 0, 0)]
theorem zc_13 : zl_13.all (fun q => zt_chk 13 q.1 q.2) = true := by decide +kernel
def zl_14 : List (Nat × zx_En) := [(0, .iload_n 1, 0, 0, 0), (1, .bipush (40), 0, 0, 0), (3, .imul, 0, 0, 0), (4, .iload_n 2, 0, 0, 0), (5, .iadd, 0, 0, 0), (6, .istore 5, 0, 0, 0), (8, .iload_n 2, 0, 0, 0), (9, .ifCond .lt (43), 0, 52, 0),
  (12, .iload_n 2, 0, 0, 0), (13, .aload_n 0, 0, 0, 0), (14, .iload_n 1, 0, 0, 0), (15, .invokevirtual 51, 15, 2, 2), (18, .if_icmp .ge (34), 0, 52, 0), (21, .iload 5, 0, 0, 0), (23, .ifCond .lt (29), 0, 52, 0), (26, .iload 5, 0, 0, 0),
  (28, .aload_n 0, 0, 0, 0), (29, .getfield 21, 2, 3, 1), (32, .arraylength, 0, 0, 0), (33, .if_icmp .ge (19), 0, 52, 0), (36, .aload_n 0, 0, 0, 0), (37, .getfield 21, 2, 3, 1), (40, .iload 5, 0, 0, 0), (42, .aload_n 0, 0, 0, 0),
  (43, .iload_n 1, 0, 0, 0), (44, .invokevirtual 33, 16, 2, 2), (47, .lload_n 3, 0, 0, 0), (48, .invokestatic 54, 17, 2, -1), (51, .lastore, 0, 0, 0), (52, .return_, 0, 0, 0)]
theorem zc_14 : zl_14.all (fun q => zt_chk 14 q.1 q.2) = true := by decide +kernel
def zl_15 : List (Nat × zx_En) := [(0, .aload_n 0, 0, 0, 0), (1, .iload_n 1, 0, 0, 0), (2, .invokevirtual 33, 16, 2, 2), (5, .invokestatic 37, 9, 1, -1), (8, .ifCond .eq (14), 0, 22, 0), (11, .aload_n 0, 0, 0, 0), (12, .getfield 15, 2, 1, 1), (15, .iload_n 1, 0, 0, 0),
  (16, .invokestatic 29, 11, 2, -1), (19, .goto (4), 0, 23, 0), (22, .iconst (0), 0, 0, 0), (23, .ireturn, 0, 0, 0)]
theorem zc_15 : zl_15.all (fun q => zt_chk 15 q.1 q.2) = true := by decide +kernel
def zl_16 : List (Nat × zx_En) := [(0, .iload_n 1, 0, 0, 0), (1, .invokestatic 25, 8, 1, -1), (4, .ifCond .eq (14), 0, 18, 0), (7, .aload_n 0, 0, 0, 0), (8, .getfield 9, 2, 0, 1), (11, .iload_n 1, 0, 0, 0), (12, .invokestatic 29, 11, 2, -1), (15, .goto (4), 0, 19, 0),
  (18, .iconst (-1), 0, 0, 0), (19, .ireturn, 0, 0, 0)]
theorem zc_16 : zl_16.all (fun q => zt_chk 16 q.1 q.2) = true := by decide +kernel
def zl_17 : List (Nat × zx_En) := [(0, .iload_n 0, 0, 0, 0), (1, .tableswitch (47) (0) (3) #[31, 36, 41, 45], 0, 0, 0), (32, .lload_n 1, 0, 0, 0), (33, .l2i, 0, 0, 0), (34, .i2b, 0, 0, 0), (35, .i2l, 0, 0, 0), (36, .lreturn, 0, 0, 0), (37, .lload_n 1, 0, 0, 0),
  (38, .l2i, 0, 0, 0), (39, .i2s, 0, 0, 0), (40, .i2l, 0, 0, 0), (41, .lreturn, 0, 0, 0), (42, .lload_n 1, 0, 0, 0), (43, .l2i, 0, 0, 0), (44, .i2l, 0, 0, 0), (45, .lreturn, 0, 0, 0),
  (46, .lload_n 1, 0, 0, 0), (47, .lreturn, 0, 0, 0), (48, .lload_n 1, 0, 0, 0), (49, .lconst 0, 0, 0, 0), (50, .lcmp, 0, 0, 0), (51, .ifCond .eq (7), 0, 58, 0), (54, .lconst 1, 0, 0, 0), (55, .goto (4), 0, 59, 0),
  (58, .lconst 0, 0, 0, 0), (59, .lreturn, 0, 0, 0)]
theorem zc_17 : zl_17.all (fun q => zt_chk 17 q.1 q.2) = true := by decide +kernel
def zl_18 : List (Nat × zx_En) := [(0, .iload_n 1, 0, 0, 0), (1, .invokestatic 62, 8, 1, -1), (4, .ifCond .ne (10), 0, 14, 0), (7, .aload_n 0, 0, 0, 0), (8, .bipush (-2), 0, 0, 0), (10, .invokevirtual 69, 10, 2, 4), (13, .ireturn, 0, 0, 0), (14, .aload_n 0, 0, 0, 0),
  (15, .getfield 32, 4, 4, 1), (18, .iload_n 1, 0, 0, 0), (19, .invokevirtual 77, 19, 2, 2), (22, .istore 5, 0, 0, 0), (24, .iload 5, 0, 0, 0), (26, .ifCond .eq (10), 0, 36, 0), (29, .aload_n 0, 0, 0, 0), (30, .iload 5, 0, 0, 0),
  (32, .invokevirtual 69, 10, 2, 4), (35, .ireturn, 0, 0, 0), (36, .iload_n 2, 0, 0, 0), (37, .ifCond .lt (15), 0, 52, 0), (40, .iload_n 2, 0, 0, 0), (41, .aload_n 0, 0, 0, 0), (42, .getfield 32, 4, 4, 1), (45, .iload_n 1, 0, 0, 0),
  (46, .invokevirtual 80, 15, 2, 2), (49, .if_icmp .lt (10), 0, 59, 0), (52, .aload_n 0, 0, 0, 0), (53, .bipush (-2), 0, 0, 0), (55, .invokevirtual 69, 10, 2, 4), (58, .ireturn, 0, 0, 0), (59, .aload_n 0, 0, 0, 0), (60, .getfield 32, 4, 4, 1),
  (63, .iload_n 1, 0, 0, 0), (64, .iload_n 2, 0, 0, 0), (65, .lload_n 3, 0, 0, 0), (66, .invokevirtual 83, 14, 4, 2), (69, .iconst (1), 0, 0, 0), (70, .ireturn, 0, 0, 0)]
theorem zc_18 : zl_18.all (fun q => zt_chk 18 q.1 q.2) = true := by decide +kernel
def zl_19 : List (Nat × zx_En) := [(0, .aload_n 0, 0, 0, 0), (1, .iload_n 1, 0, 0, 0), (2, .invokevirtual 33, 16, 2, 2), (5, .iconst (-1), 0, 0, 0), (6, .if_icmp .ne (6), 0, 12, 0), (9, .bipush (-4), 0, 0, 0), (11, .ireturn, 0, 0, 0), (12, .aload_n 0, 0, 0, 0),
  (13, .iload_n 1, 0, 0, 0), (14, .invokevirtual 33, 16, 2, 2), (17, .invokestatic 37, 9, 1, -1), (20, .ifCond .eq (7), 0, 27, 0), (23, .iconst (0), 0, 0, 0), (24, .goto (5), 0, 29, 0), (27, .bipush (-3), 0, 0, 0), (29, .ireturn, 0, 0, 0)]
theorem zc_19 : zl_19.all (fun q => zt_chk 19 q.1 q.2) = true := by decide +kernel
def zl_20 : List (Nat × zx_En) := [(0, .iload_n 1, 0, 0, 0), (1, .invokestatic 62, 8, 1, -1), (4, .ifCond .eq (10), 0, 14, 0), (7, .iload_n 2, 0, 0, 0), (8, .invokestatic 62, 8, 1, -1), (11, .ifCond .ne (10), 0, 21, 0), (14, .aload_n 0, 0, 0, 0), (15, .bipush (-2), 0, 0, 0),
  (17, .invokevirtual 69, 10, 2, 4), (20, .ireturn, 0, 0, 0), (21, .aload_n 0, 0, 0, 0), (22, .getfield 32, 4, 4, 1), (25, .iload_n 1, 0, 0, 0), (26, .iload_n 2, 0, 0, 0), (27, .invokevirtual 87, 21, 3, 2), (30, .istore 6, 0, 0, 0),
  (32, .iload 6, 0, 0, 0), (34, .ifCond .eq (10), 0, 44, 0), (37, .aload_n 0, 0, 0, 0), (38, .iload 6, 0, 0, 0), (40, .invokevirtual 69, 10, 2, 4), (43, .ireturn, 0, 0, 0), (44, .iload_n 3, 0, 0, 0), (45, .ifCond .lt (44), 0, 89, 0),
  (48, .iload 4, 0, 0, 0), (50, .ifCond .lt (39), 0, 89, 0), (53, .iload 5, 0, 0, 0), (55, .ifCond .lt (34), 0, 89, 0), (58, .iload 5, 0, 0, 0), (60, .aload_n 0, 0, 0, 0), (61, .getfield 32, 4, 4, 1), (64, .iload_n 1, 0, 0, 0),
  (65, .invokevirtual 80, 15, 2, 2), (68, .iload_n 3, 0, 0, 0), (69, .isub, 0, 0, 0), (70, .if_icmp .gt (19), 0, 89, 0), (73, .iload 5, 0, 0, 0), (75, .aload_n 0, 0, 0, 0), (76, .getfield 32, 4, 4, 1), (79, .iload_n 2, 0, 0, 0),
  (80, .invokevirtual 80, 15, 2, 2), (83, .iload 4, 0, 0, 0), (85, .isub, 0, 0, 0), (86, .if_icmp .le (10), 0, 96, 0), (89, .aload_n 0, 0, 0, 0), (90, .bipush (-2), 0, 0, 0), (92, .invokevirtual 69, 10, 2, 4), (95, .ireturn, 0, 0, 0),
  (96, .aload_n 0, 0, 0, 0), (97, .getfield 32, 4, 4, 1), (100, .iload_n 1, 0, 0, 0), (101, .iload_n 2, 0, 0, 0), (102, .iload_n 3, 0, 0, 0), (103, .iload 4, 0, 0, 0), (105, .iload 5, 0, 0, 0), (107, .invokevirtual 91, 22, 6, 2),
  (110, .iload 5, 0, 0, 0), (112, .ireturn, 0, 0, 0)]
theorem zc_20 : zl_20.all (fun q => zt_chk 20 q.1 q.2) = true := by decide +kernel
def zl_21 : List (Nat × zx_En) := [(0, .aload_n 0, 0, 0, 0), (1, .iload_n 1, 0, 0, 0), (2, .invokevirtual 40, 19, 2, 2), (5, .istore_n 3, 0, 0, 0), (6, .aload_n 0, 0, 0, 0), (7, .iload_n 2, 0, 0, 0), (8, .invokevirtual 40, 19, 2, 2), (11, .istore 4, 0, 0, 0),
  (13, .iload_n 3, 0, 0, 0), (14, .bipush (-3), 0, 0, 0), (16, .if_icmp .eq (10), 0, 26, 0), (19, .iload 4, 0, 0, 0), (21, .bipush (-3), 0, 0, 0), (23, .if_icmp .ne (6), 0, 29, 0), (26, .bipush (-3), 0, 0, 0), (28, .ireturn, 0, 0, 0),
  (29, .iload_n 3, 0, 0, 0), (30, .bipush (-4), 0, 0, 0), (32, .if_icmp .eq (10), 0, 42, 0), (35, .iload 4, 0, 0, 0), (37, .bipush (-4), 0, 0, 0), (39, .if_icmp .ne (6), 0, 45, 0), (42, .bipush (-4), 0, 0, 0), (44, .ireturn, 0, 0, 0),
  (45, .aload_n 0, 0, 0, 0), (46, .iload_n 1, 0, 0, 0), (47, .invokevirtual 33, 16, 2, 2), (50, .aload_n 0, 0, 0, 0), (51, .iload_n 2, 0, 0, 0), (52, .invokevirtual 33, 16, 2, 2), (55, .if_icmp .ne (7), 0, 62, 0), (58, .iconst (0), 0, 0, 0),
  (59, .goto (5), 0, 64, 0), (62, .bipush (-3), 0, 0, 0), (64, .ireturn, 0, 0, 0)]
theorem zc_21 : zl_21.all (fun q => zt_chk 21 q.1 q.2) = true := by decide +kernel
def zl_22 : List (Nat × zx_En) := [(0, .iconst (0), 0, 0, 0), (1, .istore 6, 0, 0, 0), (3, .iload 6, 0, 0, 0), (5, .iload 5, 0, 0, 0), (7, .if_icmp .ge (48), 0, 55, 0), (10, .iload_n 3, 0, 0, 0), (11, .iload 4, 0, 0, 0), (13, .if_icmp .ge (13), 0, 26, 0),
  (16, .iload 5, 0, 0, 0), (18, .iconst (1), 0, 0, 0), (19, .isub, 0, 0, 0), (20, .iload 6, 0, 0, 0), (22, .isub, 0, 0, 0), (23, .goto (5), 0, 28, 0), (26, .iload 6, 0, 0, 0), (28, .istore 7, 0, 0, 0),
  (30, .aload_n 0, 0, 0, 0), (31, .iload_n 2, 0, 0, 0), (32, .iload 4, 0, 0, 0), (34, .iload 7, 0, 0, 0), (36, .iadd, 0, 0, 0), (37, .aload_n 0, 0, 0, 0), (38, .iload_n 1, 0, 0, 0), (39, .iload_n 3, 0, 0, 0),
  (40, .iload 7, 0, 0, 0), (42, .iadd, 0, 0, 0), (43, .invokevirtual 58, 23, 3, 2), (46, .invokevirtual 47, 14, 4, 2), (49, .iinc 6 (1), 0, 0, 0), (52, .goto (-49), 0, 3, 0), (55, .return_, 0, 0, 0)]
theorem zc_22 : zl_22.all (fun q => zt_chk 22 q.1 q.2) = true := by decide +kernel
def zl_23 : List (Nat × zx_En) := [(0, .iload_n 1, 0, 0, 0), (1, .bipush (40), 0, 0, 0), (3, .imul, 0, 0, 0), (4, .iload_n 2, 0, 0, 0), (5, .iadd, 0, 0, 0), (6, .istore_n 3, 0, 0, 0), (7, .iload_n 2, 0, 0, 0), (8, .ifCond .lt (29), 0, 37, 0),
  (11, .iload_n 2, 0, 0, 0), (12, .aload_n 0, 0, 0, 0), (13, .iload_n 1, 0, 0, 0), (14, .invokevirtual 51, 15, 2, 2), (17, .if_icmp .ge (20), 0, 37, 0), (20, .iload_n 3, 0, 0, 0), (21, .ifCond .lt (16), 0, 37, 0), (24, .iload_n 3, 0, 0, 0),
  (25, .aload_n 0, 0, 0, 0), (26, .getfield 21, 2, 3, 1), (29, .arraylength, 0, 0, 0), (30, .if_icmp .ge (7), 0, 37, 0), (33, .iconst (1), 0, 0, 0), (34, .goto (4), 0, 38, 0), (37, .iconst (0), 0, 0, 0), (38, .istore 4, 0, 0, 0),
  (40, .iload 4, 0, 0, 0), (42, .ifCond .eq (12), 0, 54, 0), (45, .aload_n 0, 0, 0, 0), (46, .getfield 21, 2, 3, 1), (49, .iload_n 3, 0, 0, 0), (50, .laload, 0, 0, 0), (51, .goto (4), 0, 55, 0), (54, .lconst 0, 0, 0, 0),
  (55, .lreturn, 0, 0, 0)]
theorem zc_23 : zl_23.all (fun q => zt_chk 23 q.1 q.2) = true := by decide +kernel
def zl_24 : List (Nat × zx_En) := [(0, .aload_n 0, 0, 0, 0), (1, .getfield 32, 4, 4, 1), (4, .iload_n 1, 0, 0, 0), (5, .iload_n 2, 0, 0, 0), (6, .invokevirtual 95, 23, 3, 2), (9, .lreturn, 0, 0, 0)]
theorem zc_24 : zl_24.all (fun q => zt_chk 24 q.1 q.2) = true := by decide +kernel
def zl_25 : List (Nat × zx_En) := [(0, .aload_n 0, 0, 0, 0), (1, .getfield 32, 4, 4, 1), (4, .iload_n 1, 0, 0, 0), (5, .invokevirtual 99, 16, 2, 2), (8, .ireturn, 0, 0, 0)]
theorem zc_25 : zl_25.all (fun q => zt_chk 25 q.1 q.2) = true := by decide +kernel
def zl_26 : List (Nat × zx_En) := [(0, .iload_n 1, 0, 0, 0), (1, .invokestatic 62, 8, 1, -1), (4, .ifCond .eq (19), 0, 23, 0), (7, .iload_n 2, 0, 0, 0), (8, .iconst (-1), 0, 0, 0), (9, .if_icmp .eq (21), 0, 30, 0), (12, .aload_n 0, 0, 0, 0), (13, .getfield 12, 4, 0, 1),
  (16, .iload_n 2, 0, 0, 0), (17, .invokevirtual 102, 27, 2, 0), (20, .ifCond .ne (10), 0, 30, 0), (23, .aload_n 0, 0, 0, 0), (24, .bipush (-2), 0, 0, 0), (26, .invokevirtual 69, 10, 2, 4), (29, .ireturn, 0, 0, 0), (30, .iload_n 2, 0, 0, 0),
  (31, .iconst (-1), 0, 0, 0), (32, .if_icmp .ne (14), 0, 46, 0), (35, .aload_n 0, 0, 0, 0), (36, .getfield 32, 4, 4, 1), (39, .iload_n 1, 0, 0, 0), (40, .invokevirtual 105, 28, 2, 2), (43, .goto (20), 0, 63, 0), (46, .aload_n 0, 0, 0, 0),
  (47, .getfield 32, 4, 4, 1), (50, .iload_n 1, 0, 0, 0), (51, .iload_n 2, 0, 0, 0), (52, .aload_n 0, 0, 0, 0), (53, .getfield 12, 4, 0, 1), (56, .iload_n 2, 0, 0, 0), (57, .invokevirtual 109, 29, 2, 0), (60, .invokevirtual 112, 30, 4, 2),
  (63, .iconst (1), 0, 0, 0), (64, .ireturn, 0, 0, 0)]
theorem zc_26 : zl_26.all (fun q => zt_chk 26 q.1 q.2) = true := by decide +kernel
def zl_27 : List (Nat × zx_En) := [(0, .iload_n 1, 0, 0, 0), (1, .ifCond .lt (15), 0, 16, 0), (4, .iload_n 1, 0, 0, 0), (5, .aload_n 0, 0, 0, 0), (6, .getfield 9, 0, 0, 0), (9, .if_icmp .ge (7), 0, 16, 0), (12, .iconst (1), 0, 0, 0), (13, .goto (4), 0, 17, 0),
  (16, .iconst (0), 0, 0, 0), (17, .ireturn, 1, 0, 0)]
theorem zc_27 : zl_27.all (fun q => zt_chk 27 q.1 q.2) = true := by decide +kernel
def zl_28 : List (Nat × zx_En) := [(0, .aload_n 0, 0, 0, 0), (1, .getfield 9, 2, 0, 1), (4, .iload_n 1, 0, 0, 0), (5, .iconst (-1), 0, 0, 0), (6, .invokestatic 43, 12, 3, -1), (9, .return_, 0, 0, 0)]
theorem zc_28 : zl_28.all (fun q => zt_chk 28 q.1 q.2) = true := by decide +kernel
def zl_29 : List (Nat × zx_En) := [(0, .aload_n 0, 0, 0, 0), (1, .getfield 25, 0, 7, 1), (4, .iload_n 1, 0, 0, 0), (5, .invokestatic 47, 11, 2, -1), (8, .ireturn, 0, 0, 0)]
theorem zc_29 : zl_29.all (fun q => zt_chk 29 q.1 q.2) = true := by decide +kernel
def zl_30 : List (Nat × zx_En) := [(0, .aload_n 0, 0, 0, 0), (1, .getfield 9, 2, 0, 1), (4, .iload_n 1, 0, 0, 0), (5, .bipush (10), 0, 0, 0), (7, .iload_n 3, 0, 0, 0), (8, .iadd, 0, 0, 0), (9, .invokestatic 43, 12, 3, -1), (12, .aload_n 0, 0, 0, 0),
  (13, .getfield 18, 2, 2, 1), (16, .iload_n 1, 0, 0, 0), (17, .iload_n 2, 0, 0, 0), (18, .invokestatic 43, 12, 3, -1), (21, .return_, 0, 0, 0)]
theorem zc_30 : zl_30.all (fun q => zt_chk 30 q.1 q.2) = true := by decide +kernel
def zl_31 : List (Nat × zx_En) := [(0, .iload_n 1, 0, 0, 0), (1, .invokestatic 62, 8, 1, -1), (4, .ifCond .eq (10), 0, 14, 0), (7, .iload_n 2, 0, 0, 0), (8, .invokestatic 115, 32, 1, -1), (11, .ifCond .ne (10), 0, 21, 0), (14, .aload_n 0, 0, 0, 0), (15, .bipush (-2), 0, 0, 0),
  (17, .invokevirtual 69, 10, 2, 4), (20, .ireturn, 0, 0, 0), (21, .aload_n 0, 0, 0, 0), (22, .getfield 32, 4, 4, 1), (25, .iload_n 1, 0, 0, 0), (26, .invokevirtual 118, 33, 2, 2), (29, .istore_n 3, 0, 0, 0), (30, .iload_n 3, 0, 0, 0),
  (31, .ifCond .eq (9), 0, 40, 0), (34, .aload_n 0, 0, 0, 0), (35, .iload_n 3, 0, 0, 0), (36, .invokevirtual 69, 10, 2, 4), (39, .ireturn, 0, 0, 0), (40, .aload_n 0, 0, 0, 0), (41, .getfield 32, 4, 4, 1), (44, .iload_n 1, 0, 0, 0),
  (45, .invokevirtual 121, 34, 2, 2), (48, .istore 4, 0, 0, 0), (50, .iload 4, 0, 0, 0), (52, .iload_n 2, 0, 0, 0), (53, .invokestatic 122, 35, 2, -1), (56, .ifCond .ne (10), 0, 66, 0), (59, .aload_n 0, 0, 0, 0), (60, .bipush (-3), 0, 0, 0),
  (62, .invokevirtual 69, 10, 2, 4), (65, .ireturn, 0, 0, 0), (66, .aload_n 0, 0, 0, 0), (67, .getfield 32, 4, 4, 1), (70, .iload_n 1, 0, 0, 0), (71, .invokevirtual 126, 36, 2, 2), (74, .istore 5, 0, 0, 0), (76, .aload_n 0, 0, 0, 0),
  (77, .getfield 12, 4, 0, 1), (80, .iload 5, 0, 0, 0), (82, .invokevirtual 102, 27, 2, 0), (85, .ifCond .ne (10), 0, 95, 0), (88, .aload_n 0, 0, 0, 0), (89, .bipush (-2), 0, 0, 0), (91, .invokevirtual 69, 10, 2, 4), (94, .ireturn, 0, 0, 0),
  (95, .aload_n 0, 0, 0, 0), (96, .iload 5, 0, 0, 0), (98, .iload 4, 0, 0, 0), (100, .invokevirtual 129, 37, 3, 4), (103, .ireturn, 0, 0, 0)]
theorem zc_31 : zl_31.all (fun q => zt_chk 31 q.1 q.2) = true := by decide +kernel
def zl_32 : List (Nat × zx_En) := [(0, .iload_n 0, 0, 0, 0), (1, .ifCond .lt (12), 0, 13, 0), (4, .iload_n 0, 0, 0, 0), (5, .iconst (5), 0, 0, 0), (6, .if_icmp .gt (7), 0, 13, 0), (9, .iconst (1), 0, 0, 0), (10, .goto (4), 0, 14, 0), (13, .iconst (0), 0, 0, 0),
  (14, .ireturn, 1, 0, 0)]
theorem zc_32 : zl_32.all (fun q => zt_chk 32 q.1 q.2) = true := by decide +kernel
def zl_33 : List (Nat × zx_En) := [(0, .aload_n 0, 0, 0, 0), (1, .iload_n 1, 0, 0, 0), (2, .invokevirtual 33, 16, 2, 2), (5, .iconst (-1), 0, 0, 0), (6, .if_icmp .ne (6), 0, 12, 0), (9, .bipush (-4), 0, 0, 0), (11, .ireturn, 0, 0, 0), (12, .aload_n 0, 0, 0, 0),
  (13, .iload_n 1, 0, 0, 0), (14, .invokevirtual 33, 16, 2, 2), (17, .invokestatic 37, 9, 1, -1), (20, .ifCond .eq (8), 0, 28, 0), (23, .bipush (-3), 0, 0, 0), (25, .goto (4), 0, 29, 0), (28, .iconst (0), 0, 0, 0), (29, .ireturn, 0, 0, 0)]
theorem zc_33 : zl_33.all (fun q => zt_chk 33 q.1 q.2) = true := by decide +kernel
def zl_34 : List (Nat × zx_En) := [(0, .aload_n 0, 0, 0, 0), (1, .iload_n 1, 0, 0, 0), (2, .invokevirtual 33, 16, 2, 2), (5, .bipush (10), 0, 0, 0), (7, .isub, 0, 0, 0), (8, .ireturn, 0, 0, 0)]
theorem zc_34 : zl_34.all (fun q => zt_chk 34 q.1 q.2) = true := by decide +kernel
def zl_35 : List (Nat × zx_En) := [(0, .iload_n 0, 0, 0, 0), (1, .iload_n 1, 0, 0, 0), (2, .if_icmp .eq (7), 0, 9, 0), (5, .iload_n 1, 0, 0, 0), (6, .ifCond .ne (5), 0, 11, 0), (9, .iconst (1), 0, 0, 0), (10, .ireturn, 1, 0, 0), (11, .iload_n 1, 0, 0, 0),
  (12, .iconst (1), 0, 0, 0), (13, .if_icmp .ne (22), 0, 35, 0), (16, .iload_n 0, 0, 0, 0), (17, .iconst (2), 0, 0, 0), (18, .if_icmp .eq (13), 0, 31, 0), (21, .iload_n 0, 0, 0, 0), (22, .iconst (3), 0, 0, 0), (23, .if_icmp .eq (8), 0, 31, 0),
  (26, .iload_n 0, 0, 0, 0), (27, .iconst (5), 0, 0, 0), (28, .if_icmp .ne (7), 0, 35, 0), (31, .iconst (1), 0, 0, 0), (32, .goto (4), 0, 36, 0), (35, .iconst (0), 0, 0, 0), (36, .ireturn, 1, 0, 0)]
theorem zc_35 : zl_35.all (fun q => zt_chk 35 q.1 q.2) = true := by decide +kernel
def zl_36 : List (Nat × zx_En) := [(0, .aload_n 0, 0, 0, 0), (1, .getfield 18, 2, 2, 1), (4, .iload_n 1, 0, 0, 0), (5, .invokestatic 29, 11, 2, -1), (8, .ireturn, 0, 0, 0)]
theorem zc_36 : zl_36.all (fun q => zt_chk 36 q.1 q.2) = true := by decide +kernel
def zl_37 : List (Nat × zx_En) := [(0, .aload_n 0, 0, 0, 0), (1, .getfield 43, 4, 7, 1), (4, .aload_n 0, 0, 0, 0), (5, .getfield 12, 4, 0, 1), (8, .invokevirtual 258, 38, 2, 1), (11, .aload_n 0, 0, 0, 0), (12, .getfield 43, 4, 7, 1), (15, .aload_n 0, 0, 0, 0),
  (16, .getfield 12, 4, 0, 1), (19, .aload_n 0, 0, 0, 0), (20, .getfield 12, 4, 0, 1), (23, .getfield 167, 0, 2, 0), (26, .invokevirtual 227, 45, 3, 1), (29, .aload_n 0, 0, 0, 0), (30, .getfield 43, 4, 7, 1), (33, .iload_n 1, 0, 0, 0),
  (34, .iload_n 2, 0, 0, 0), (35, .aload_n 0, 0, 0, 0), (36, .getfield 43, 4, 7, 1), (39, .getfield 273, 1, 5, 0), (42, .invokevirtual 312, 50, 4, 1), (45, .ireturn, 0, 0, 0)]
theorem zc_37 : zl_37.all (fun q => zt_chk 37 q.1 q.2) = true := by decide +kernel
def zl_38 : List (Nat × zx_En) := [(0, .aload_n 1, 0, 0, 0), (1, .ifnull (71), 0, 72, 0), (4, .aload_n 1, 0, 0, 0), (5, .getfield 30, 0, 9, 1), (8, .aload_n 0, 0, 0, 0), (9, .getfield 9, 1, 0, 1), (12, .invokestatic 33, 39, 2, -1), (15, .aload_n 1, 0, 0, 0),
  (16, .getfield 37, 0, 7, 1), (19, .aload_n 0, 0, 0, 0), (20, .getfield 15, 1, 1, 1), (23, .invokestatic 33, 39, 2, -1), (26, .iconst (0), 0, 0, 0), (27, .istore_n 2, 0, 0, 0), (28, .iload_n 2, 0, 0, 0), (29, .iconst (3), 0, 0, 0),
  (30, .if_icmp .ge (22), 0, 52, 0), (33, .aload_n 0, 0, 0, 0), (34, .getfield 18, 1, 2, 1), (37, .iload_n 2, 0, 0, 0), (38, .aload_n 1, 0, 0, 0), (39, .iload_n 2, 0, 0, 0), (40, .invokevirtual 38, 40, 2, 0), (43, .invokestatic 42, 12, 3, -1),
  (46, .iinc 2 (1), 0, 0, 0), (49, .goto (-21), 0, 28, 0), (52, .aload_n 0, 0, 0, 0), (53, .aload_n 1, 0, 0, 0), (54, .iconst (-1), 0, 0, 0), (55, .invokevirtual 46, 43, 2, 0), (58, .putfield 49, 1, 5, 0), (61, .aload_n 0, 0, 0, 0),
  (62, .aload_n 0, 0, 0, 0), (63, .getfield 49, 1, 5, 0), (66, .invokestatic 53, 44, 1, -1), (69, .putfield 58, 1, 6, 0), (72, .return_, 0, 0, 0)]
theorem zc_38 : zl_38.all (fun q => zt_chk 38 q.1 q.2) = true := by decide +kernel
def zl_39 : List (Nat × zx_En) := [(0, .aload_n 0, 0, 0, 0), (1, .ifnull (33), 0, 34, 0), (4, .aload_n 1, 0, 0, 0), (5, .ifnull (29), 0, 34, 0), (8, .iconst (0), 0, 0, 0), (9, .istore_n 2, 0, 0, 0), (10, .iload_n 2, 0, 0, 0), (11, .aload_n 0, 0, 0, 0),
  (12, .arraylength, 0, 0, 0), (13, .if_icmp .ge (21), 0, 34, 0), (16, .iload_n 2, 0, 0, 0), (17, .aload_n 1, 0, 0, 0), (18, .arraylength, 0, 0, 0), (19, .if_icmp .ge (15), 0, 34, 0), (22, .aload_n 1, 0, 0, 0), (23, .iload_n 2, 0, 0, 0),
  (24, .aload_n 0, 0, 0, 0), (25, .iload_n 2, 0, 0, 0), (26, .iaload, 0, 0, 0), (27, .iastore, 0, 0, 0), (28, .iinc 2 (1), 0, 0, 0), (31, .goto (-21), 0, 10, 0), (34, .return_, 0, 0, 0)]
theorem zc_39 : zl_39.all (fun q => zt_chk 39 q.1 q.2) = true := by decide +kernel
def zl_40 : List (Nat × zx_En) := [(0, .iconst (0), 0, 0, 0), (1, .istore_n 2, 0, 0, 0), (2, .iconst (0), 0, 0, 0), (3, .istore_n 3, 0, 0, 0), (4, .iload_n 3, 0, 0, 0), (5, .aload_n 0, 0, 0, 0), (6, .getfield 34, 0, 1, 0), (9, .if_icmp .ge (30), 0, 39, 0),
  (12, .aload_n 0, 0, 0, 0), (13, .getfield 28, 0, 8, 1), (16, .iload_n 3, 0, 0, 0), (17, .invokestatic 47, 11, 2, -1), (20, .iload_n 1, 0, 0, 0), (21, .if_icmp .ne (12), 0, 33, 0), (24, .iload_n 2, 0, 0, 0), (25, .aload_n 0, 0, 0, 0),
  (26, .iload_n 1, 0, 0, 0), (27, .iload_n 3, 0, 0, 0), (28, .invokevirtual 58, 41, 3, 0), (31, .iadd, 0, 0, 0), (32, .istore_n 2, 0, 0, 0), (33, .iinc 3 (1), 0, 0, 0), (36, .goto (-32), 0, 4, 0), (39, .iload_n 2, 0, 0, 0),
  (40, .ireturn, 0, 0, 0)]
theorem zc_40 : zl_40.all (fun q => zt_chk 40 q.1 q.2) = true := by decide +kernel
def zl_41 : List (Nat × zx_En) := [(0, .aload_n 0, 0, 0, 0), (1, .iload_n 1, 0, 0, 0), (2, .invokevirtual 55, 27, 2, 0), (5, .ifCond .eq (27), 0, 32, 0), (8, .aload_n 0, 0, 0, 0), (9, .iload_n 2, 0, 0, 0), (10, .invokevirtual 51, 42, 2, 0), (13, .ifCond .eq (19), 0, 32, 0),
  (16, .aload_n 0, 0, 0, 0), (17, .getfield 31, 0, 9, 1), (20, .iload_n 1, 0, 0, 0), (21, .bipush (8), 0, 0, 0), (23, .imul, 0, 0, 0), (24, .iload_n 2, 0, 0, 0), (25, .iadd, 0, 0, 0), (26, .invokestatic 47, 11, 2, -1),
  (29, .goto (4), 0, 33, 0), (32, .iconst (0), 0, 0, 0), (33, .ireturn, 0, 0, 0)]
theorem zc_41 : zl_41.all (fun q => zt_chk 41 q.1 q.2) = true := by decide +kernel
def zl_42 : List (Nat × zx_En) := [(0, .iload_n 1, 0, 0, 0), (1, .ifCond .lt (15), 0, 16, 0), (4, .iload_n 1, 0, 0, 0), (5, .aload_n 0, 0, 0, 0), (6, .getfield 34, 0, 1, 0), (9, .if_icmp .ge (7), 0, 16, 0), (12, .iconst (1), 0, 0, 0), (13, .goto (4), 0, 17, 0),
  (16, .iconst (0), 0, 0, 0), (17, .ireturn, 1, 0, 0)]
theorem zc_42 : zl_42.all (fun q => zt_chk 42 q.1 q.2) = true := by decide +kernel
def zl_43 : List (Nat × zx_En) := [(0, .iconst (0), 0, 0, 0), (1, .istore_n 2, 0, 0, 0), (2, .iconst (0), 0, 0, 0), (3, .istore_n 3, 0, 0, 0), (4, .iload_n 3, 0, 0, 0), (5, .aload_n 0, 0, 0, 0), (6, .getfield 34, 0, 1, 0), (9, .if_icmp .ge (27), 0, 36, 0),
  (12, .aload_n 0, 0, 0, 0), (13, .getfield 28, 0, 8, 1), (16, .iload_n 3, 0, 0, 0), (17, .invokestatic 47, 11, 2, -1), (20, .iload_n 1, 0, 0, 0), (21, .if_icmp .ne (9), 0, 30, 0), (24, .iload_n 2, 0, 0, 0), (25, .iconst (1), 0, 0, 0),
  (26, .iload_n 3, 0, 0, 0), (27, .ishl, 0, 0, 0), (28, .ior, 0, 0, 0), (29, .istore_n 2, 0, 0, 0), (30, .iinc 3 (1), 0, 0, 0), (33, .goto (-29), 0, 4, 0), (36, .iload_n 2, 0, 0, 0), (37, .ireturn, 0, 0, 0)]
theorem zc_43 : zl_43.all (fun q => zt_chk 43 q.1 q.2) = true := by decide +kernel
def zl_44 : List (Nat × zx_En) := [(0, .iload_n 0, 0, 0, 0), (1, .iload_n 0, 0, 0, 0), (2, .iconst (1), 0, 0, 0), (3, .iushr, 0, 0, 0), (4, .ldc_w 265, 0, 0, 1431655765), (7, .iand, 0, 0, 0), (8, .isub, 0, 0, 0), (9, .istore_n 0, 0, 0, 0),
  (10, .iload_n 0, 0, 0, 0), (11, .ldc_w 266, 0, 0, 858993459), (14, .iand, 0, 0, 0), (15, .iload_n 0, 0, 0, 0), (16, .iconst (2), 0, 0, 0), (17, .iushr, 0, 0, 0), (18, .ldc_w 266, 0, 0, 858993459), (21, .iand, 0, 0, 0),
  (22, .iadd, 0, 0, 0), (23, .istore_n 0, 0, 0, 0), (24, .iload_n 0, 0, 0, 0), (25, .iload_n 0, 0, 0, 0), (26, .iconst (4), 0, 0, 0), (27, .iushr, 0, 0, 0), (28, .iadd, 0, 0, 0), (29, .ldc_w 267, 0, 0, 252645135),
  (32, .iand, 0, 0, 0), (33, .istore_n 0, 0, 0, 0), (34, .iload_n 0, 0, 0, 0), (35, .iload_n 0, 0, 0, 0), (36, .bipush (8), 0, 0, 0), (38, .iushr, 0, 0, 0), (39, .iadd, 0, 0, 0), (40, .istore_n 0, 0, 0, 0),
  (41, .iload_n 0, 0, 0, 0), (42, .iload_n 0, 0, 0, 0), (43, .bipush (16), 0, 0, 0), (45, .iushr, 0, 0, 0), (46, .iadd, 0, 0, 0), (47, .istore_n 0, 0, 0, 0), (48, .iload_n 0, 0, 0, 0), (49, .bipush (63), 0, 0, 0),
  (51, .iand, 0, 0, 0), (52, .ireturn, 0, 0, 0)]
theorem zc_44 : zl_44.all (fun q => zt_chk 44 q.1 q.2) = true := by decide +kernel
def zl_45 : List (Nat × zx_En) := [(0, .aload_n 1, 0, 0, 0), (1, .ifnull (50), 0, 51, 0), (4, .iconst (0), 0, 0, 0), (5, .istore_n 3, 0, 0, 0), (6, .iload_n 3, 0, 0, 0), (7, .aload_n 0, 0, 0, 0), (8, .getfield 21, 1, 3, 1), (11, .arraylength, 0, 0, 0),
  (12, .if_icmp .ge (26), 0, 38, 0), (15, .aload_n 0, 0, 0, 0), (16, .getfield 21, 1, 3, 1), (19, .iload_n 3, 0, 0, 0), (20, .aload_n 1, 0, 0, 0), (21, .iload_n 2, 0, 0, 0), (22, .aload_n 1, 0, 0, 0), (23, .getfield 61, 0, 3, 0),
  (26, .iload_n 3, 0, 0, 0), (27, .iadd, 0, 0, 0), (28, .invokevirtual 64, 46, 3, 0), (31, .iastore, 0, 0, 0), (32, .iinc 3 (1), 0, 0, 0), (35, .goto (-29), 0, 6, 0), (38, .aload_n 0, 0, 0, 0), (39, .aload_n 0, 0, 0, 0),
  (40, .getfield 21, 1, 3, 1), (43, .arraylength, 0, 0, 0), (44, .putfield 68, 1, 4, 0), (47, .aload_n 0, 0, 0, 0), (48, .invokevirtual 71, 48, 1, 1), (51, .return_, 0, 0, 0)]
theorem zc_45 : zl_45.all (fun q => zt_chk 45 q.1 q.2) = true := by decide +kernel
def zl_46 : List (Nat × zx_En) := [(0, .aload_n 0, 0, 0, 0), (1, .getfield 9, 0, 0, 0), (4, .iconst (2), 0, 0, 0), (5, .if_icmp .le (7), 0, 12, 0), (8, .iconst (3), 0, 0, 0), (9, .goto (4), 0, 13, 0), (12, .iconst (2), 0, 0, 0), (13, .istore_n 3, 0, 0, 0),
  (14, .iload_n 1, 0, 0, 0), (15, .tableswitch (64) (0) (2) #[25, 29, 56], 0, 0, 0), (40, .iload_n 2, 0, 0, 0), (41, .iload_n 3, 0, 0, 0), (42, .irem, 0, 0, 0), (43, .ireturn, 0, 0, 0), (44, .iload_n 2, 0, 0, 0), (45, .iconst (2), 0, 0, 0),
  (46, .iload_n 3, 0, 0, 0), (47, .imul, 0, 0, 0), (48, .irem, 0, 0, 0), (49, .istore 4, 0, 0, 0), (51, .iload 4, 0, 0, 0), (53, .iload_n 3, 0, 0, 0), (54, .if_icmp .ge (8), 0, 62, 0), (57, .iload 4, 0, 0, 0),
  (59, .goto (11), 0, 70, 0), (62, .iconst (2), 0, 0, 0), (63, .iload_n 3, 0, 0, 0), (64, .imul, 0, 0, 0), (65, .iconst (1), 0, 0, 0), (66, .isub, 0, 0, 0), (67, .iload 4, 0, 0, 0), (69, .isub, 0, 0, 0),
  (70, .ireturn, 0, 0, 0), (71, .iload_n 2, 0, 0, 0), (72, .iload_n 3, 0, 0, 0), (73, .invokestatic 62, 47, 2, -1), (76, .iload_n 3, 0, 0, 0), (77, .irem, 0, 0, 0), (78, .ireturn, 0, 0, 0), (79, .aload_n 0, 0, 0, 0),
  (80, .getfield 18, 0, 5, 0), (83, .ifCond .le (19), 0, 102, 0), (86, .aload_n 0, 0, 0, 0), (87, .getfield 21, 0, 6, 1), (90, .iload_n 2, 0, 0, 0), (91, .aload_n 0, 0, 0, 0), (92, .getfield 18, 0, 5, 0), (95, .irem, 0, 0, 0),
  (96, .invokestatic 47, 11, 2, -1), (99, .goto (4), 0, 103, 0), (102, .iconst (0), 0, 0, 0), (103, .ireturn, 0, 0, 0)]
theorem zc_46 : zl_46.all (fun q => zt_chk 46 q.1 q.2) = true := by decide +kernel
def zl_47 : List (Nat × zx_En) := [(0, .iconst (0), 0, 0, 0), (1, .istore_n 2, 0, 0, 0), (2, .iload_n 0, 0, 0, 0), (3, .istore_n 3, 0, 0, 0), (4, .iconst (0), 0, 0, 0), (5, .istore 4, 0, 0, 0), (7, .iload 4, 0, 0, 0), (9, .bipush (31), 0, 0, 0),
  (11, .if_icmp .ge (28), 0, 39, 0), (14, .iload_n 3, 0, 0, 0), (15, .ifCond .le (24), 0, 39, 0), (18, .iload_n 1, 0, 0, 0), (19, .iconst (1), 0, 0, 0), (20, .if_icmp .le (19), 0, 39, 0), (23, .iload_n 2, 0, 0, 0), (24, .iload_n 3, 0, 0, 0),
  (25, .iload_n 1, 0, 0, 0), (26, .irem, 0, 0, 0), (27, .iadd, 0, 0, 0), (28, .istore_n 2, 0, 0, 0), (29, .iload_n 3, 0, 0, 0), (30, .iload_n 1, 0, 0, 0), (31, .idiv, 0, 0, 0), (32, .istore_n 3, 0, 0, 0),
  (33, .iinc 4 (1), 0, 0, 0), (36, .goto (-29), 0, 7, 0), (39, .iload_n 2, 0, 0, 0), (40, .ireturn, 0, 0, 0)]
theorem zc_47 : zl_47.all (fun q => zt_chk 47 q.1 q.2) = true := by decide +kernel
def zl_48 : List (Nat × zx_En) := [(0, .iconst (0), 0, 0, 0), (1, .istore_n 1, 0, 0, 0), (2, .iload_n 1, 0, 0, 0), (3, .iconst (3), 0, 0, 0), (4, .if_icmp .ge (18), 0, 22, 0), (7, .aload_n 0, 0, 0, 0), (8, .getfield 27, 1, 8, 1), (11, .iload_n 1, 0, 0, 0),
  (12, .iconst (0), 0, 0, 0), (13, .invokestatic 42, 12, 3, -1), (16, .iinc 1 (1), 0, 0, 0), (19, .goto (-17), 0, 2, 0), (22, .return_, 0, 0, 0)]
theorem zc_48 : zl_48.all (fun q => zt_chk 48 q.1 q.2) = true := by decide +kernel
def zl_49 : List (Nat × zx_En) := [(0, .aload_n 0, 0, 0, 0), (1, .iconst (0), 0, 0, 0), (2, .putfield 68, 1, 4, 0), (5, .aload_n 0, 0, 0, 0), (6, .invokevirtual 71, 48, 1, 1), (9, .return_, 0, 0, 0)]
theorem zc_49 : zl_49.all (fun q => zt_chk 49 q.1 q.2) = true := by decide +kernel
def zl_50 : List (Nat × zx_En) := [(0, .iload_n 2, 0, 0, 0), (1, .iconst (5), 0, 0, 0), (2, .if_icmp .eq (11), 0, 13, 0), (5, .aload_n 0, 0, 0, 0), (6, .iload_n 1, 0, 0, 0), (7, .iload_n 2, 0, 0, 0), (8, .iload_n 3, 0, 0, 0), (9, .invokevirtual 86, 51, 4, 1),
  (12, .ireturn, 0, 0, 0), (13, .aload_n 0, 0, 0, 0), (14, .iload_n 1, 0, 0, 0), (15, .iload_n 3, 0, 0, 0), (16, .invokestatic 53, 44, 1, -1), (19, .iconst (1), 0, 0, 0), (20, .isub, 0, 0, 0), (21, .invokevirtual 90, 62, 3, 1),
  (24, .aload_n 0, 0, 0, 0), (25, .iload_n 1, 0, 0, 0), (26, .iload_n 3, 0, 0, 0), (27, .invokevirtual 94, 65, 3, 1), (30, .ireturn, 0, 0, 0)]
theorem zc_50 : zl_50.all (fun q => zt_chk 50 q.1 q.2) = true := by decide +kernel
def zl_51 : List (Nat × zx_En) := [(0, .iload_n 2, 0, 0, 0), (1, .tableswitch (136) (0) (4) #[35, 136, 45, 76, 40], 0, 0, 0), (36, .iload_n 3, 0, 0, 0), (37, .invokestatic 100, 52, 1, -1), (40, .ireturn, 0, 0, 0), (41, .iload_n 3, 0, 0, 0), (42, .invokestatic 103, 54, 1, -1), (45, .ireturn, 0, 0, 0),
  (46, .aload_n 0, 0, 0, 0), (47, .iload_n 1, 0, 0, 0), (48, .aload_n 0, 0, 0, 0), (49, .iload_n 3, 0, 0, 0), (50, .invokevirtual 83, 55, 2, 1), (53, .invokevirtual 106, 56, 3, 1), (56, .istore 4, 0, 0, 0), (58, .aload_n 0, 0, 0, 0),
  (59, .iload 4, 0, 0, 0), (61, .iconst (-1), 0, 0, 0), (62, .if_icmp .ne (7), 0, 69, 0), (65, .iload_n 1, 0, 0, 0), (66, .goto (5), 0, 71, 0), (69, .iload 4, 0, 0, 0), (71, .iload_n 1, 0, 0, 0), (72, .iload_n 3, 0, 0, 0),
  (73, .invokevirtual 109, 58, 4, 1), (76, .ireturn, 0, 0, 0), (77, .aload_n 0, 0, 0, 0), (78, .iload_n 1, 0, 0, 0), (79, .aload_n 0, 0, 0, 0), (80, .iload_n 3, 0, 0, 0), (81, .invokevirtual 83, 55, 2, 1), (84, .invokevirtual 106, 56, 3, 1),
  (87, .istore 5, 0, 0, 0), (89, .iload 5, 0, 0, 0), (91, .iconst (-1), 0, 0, 0), (92, .if_icmp .eq (15), 0, 107, 0), (95, .iload_n 3, 0, 0, 0), (96, .invokestatic 53, 44, 1, -1), (99, .iconst (1), 0, 0, 0), (100, .if_icmp .le (7), 0, 107, 0),
  (103, .iconst (1), 0, 0, 0), (104, .goto (4), 0, 108, 0), (107, .iconst (0), 0, 0, 0), (108, .istore 6, 0, 0, 0), (110, .aload_n 0, 0, 0, 0), (111, .iload_n 1, 0, 0, 0), (112, .iload_n 1, 0, 0, 0), (113, .iload 6, 0, 0, 0),
  (115, .ifCond .eq (17), 0, 132, 0), (118, .iload_n 3, 0, 0, 0), (119, .aload_n 0, 0, 0, 0), (120, .iload 5, 0, 0, 0), (122, .iload_n 3, 0, 0, 0), (123, .invokevirtual 112, 60, 3, 1), (126, .invokestatic 115, 61, 2, -1), (129, .goto (4), 0, 133, 0),
  (132, .iload_n 3, 0, 0, 0), (133, .invokevirtual 109, 58, 4, 1), (136, .ireturn, 0, 0, 0), (137, .aload_n 0, 0, 0, 0), (138, .iload_n 1, 0, 0, 0), (139, .iload_n 1, 0, 0, 0), (140, .iload_n 3, 0, 0, 0), (141, .invokevirtual 109, 58, 4, 1),
  (144, .ireturn, 0, 0, 0)]
theorem zc_51 : zl_51.all (fun q => zt_chk 51 q.1 q.2) = true := by decide +kernel
def zl_52 : List (Nat × zx_En) := [(0, .iconst (0), 0, 0, 0), (1, .istore_n 1, 0, 0, 0), (2, .iload_n 1, 0, 0, 0), (3, .bipush (8), 0, 0, 0), (5, .if_icmp .ge (19), 0, 24, 0), (8, .iload_n 0, 0, 0, 0), (9, .iload_n 1, 0, 0, 0), (10, .invokestatic 118, 53, 2, -1),
  (13, .ifCond .eq (5), 0, 18, 0), (16, .iload_n 1, 0, 0, 0), (17, .ireturn, 0, 0, 0), (18, .iinc 1 (1), 0, 0, 0), (21, .goto (-19), 0, 2, 0), (24, .iconst (-1), 0, 0, 0), (25, .ireturn, 0, 0, 0)]
theorem zc_52 : zl_52.all (fun q => zt_chk 52 q.1 q.2) = true := by decide +kernel
def zl_53 : List (Nat × zx_En) := [(0, .iload_n 0, 0, 0, 0), (1, .iload_n 1, 0, 0, 0), (2, .ishr, 0, 0, 0), (3, .iconst (1), 0, 0, 0), (4, .iand, 0, 0, 0), (5, .ifCond .eq (7), 0, 12, 0), (8, .iconst (1), 0, 0, 0), (9, .goto (4), 0, 13, 0),
  (12, .iconst (0), 0, 0, 0), (13, .ireturn, 1, 0, 0)]
theorem zc_53 : zl_53.all (fun q => zt_chk 53 q.1 q.2) = true := by decide +kernel
def zl_54 : List (Nat × zx_En) := [(0, .bipush (7), 0, 0, 0), (2, .istore_n 1, 0, 0, 0), (3, .iload_n 1, 0, 0, 0), (4, .ifCond .lt (19), 0, 23, 0), (7, .iload_n 0, 0, 0, 0), (8, .iload_n 1, 0, 0, 0), (9, .invokestatic 118, 53, 2, -1), (12, .ifCond .eq (5), 0, 17, 0),
  (15, .iload_n 1, 0, 0, 0), (16, .ireturn, 0, 0, 0), (17, .iinc 1 (-1), 0, 0, 0), (20, .goto (-17), 0, 3, 0), (23, .iconst (-1), 0, 0, 0), (24, .ireturn, 0, 0, 0)]
theorem zc_54 : zl_54.all (fun q => zt_chk 54 q.1 q.2) = true := by decide +kernel
def zl_55 : List (Nat × zx_En) := [(0, .aload_n 0, 0, 0, 0), (1, .getfield 58, 1, 6, 0), (4, .iload_n 1, 0, 0, 0), (5, .invokestatic 53, 44, 1, -1), (8, .isub, 0, 0, 0), (9, .ireturn, 0, 0, 0)]
theorem zc_55 : zl_55.all (fun q => zt_chk 55 q.1 q.2) = true := by decide +kernel
def zl_56 : List (Nat × zx_En) := [(0, .aload_n 0, 0, 0, 0), (1, .getfield 68, 1, 4, 0), (4, .iload_n 2, 0, 0, 0), (5, .bipush (24), 0, 0, 0), (7, .iadd, 0, 0, 0), (8, .iconst (1), 0, 0, 0), (9, .iadd, 0, 0, 0), (10, .invokestatic 78, 0, 2, 98),
  (13, .istore_n 3, 0, 0, 0), (14, .iload_n 2, 0, 0, 0), (15, .iconst (1), 0, 0, 0), (16, .iadd, 0, 0, 0), (17, .istore 4, 0, 0, 0), (19, .iload 4, 0, 0, 0), (21, .iload_n 3, 0, 0, 0), (22, .if_icmp .ge (32), 0, 54, 0),
  (25, .aload_n 0, 0, 0, 0), (26, .getfield 21, 1, 3, 1), (29, .iload 4, 0, 0, 0), (31, .invokestatic 74, 11, 2, -1), (34, .iload_n 1, 0, 0, 0), (35, .if_icmp .eq (13), 0, 48, 0), (38, .aload_n 0, 0, 0, 0), (39, .getfield 21, 1, 3, 1),
  (42, .iload 4, 0, 0, 0), (44, .invokestatic 74, 11, 2, -1), (47, .ireturn, 0, 0, 0), (48, .iinc 4 (1), 0, 0, 0), (51, .goto (-32), 0, 19, 0), (54, .iconst (-1), 0, 0, 0), (55, .ireturn, 0, 0, 0)]
theorem zc_56 : zl_56.all (fun q => zt_chk 56 q.1 q.2) = true := by decide +kernel
def zl_57 : List (Nat × zx_En) := []
theorem zc_57 : zl_57.all (fun q => zt_chk 57 q.1 q.2) = true := by decide +kernel
def zl_58 : List (Nat × zx_En) := [(0, .iconst (-1), 0, 0, 0), (1, .istore 4, 0, 0, 0), (3, .iconst (-1), 0, 0, 0), (4, .istore 5, 0, 0, 0), (6, .iconst (0), 0, 0, 0), (7, .istore 6, 0, 0, 0), (9, .iload 6, 0, 0, 0), (11, .bipush (8), 0, 0, 0),
  (13, .if_icmp .ge (53), 0, 66, 0), (16, .iload_n 3, 0, 0, 0), (17, .iload 6, 0, 0, 0), (19, .invokestatic 118, 53, 2, -1), (22, .ifCond .eq (38), 0, 60, 0), (25, .aload_n 0, 0, 0, 0), (26, .iload_n 1, 0, 0, 0), (27, .iload 6, 0, 0, 0),
  (29, .invokevirtual 122, 59, 3, 1), (32, .bipush (100), 0, 0, 0), (34, .imul, 0, 0, 0), (35, .aload_n 0, 0, 0, 0), (36, .iload_n 2, 0, 0, 0), (37, .iload 6, 0, 0, 0), (39, .invokevirtual 122, 59, 3, 1), (42, .iadd, 0, 0, 0),
  (43, .istore 7, 0, 0, 0), (45, .iload 7, 0, 0, 0), (47, .iload 4, 0, 0, 0), (49, .if_icmp .le (11), 0, 60, 0), (52, .iload 7, 0, 0, 0), (54, .istore 4, 0, 0, 0), (56, .iload 6, 0, 0, 0), (58, .istore 5, 0, 0, 0),
  (60, .iinc 6 (1), 0, 0, 0), (63, .goto (-54), 0, 9, 0), (66, .iload 5, 0, 0, 0), (68, .ireturn, 0, 0, 0)]
theorem zc_58 : zl_58.all (fun q => zt_chk 58 q.1 q.2) = true := by decide +kernel
def zl_59 : List (Nat × zx_En) := [(0, .iload_n 1, 0, 0, 0), (1, .bipush (8), 0, 0, 0), (3, .imul, 0, 0, 0), (4, .iload_n 2, 0, 0, 0), (5, .iadd, 0, 0, 0), (6, .istore_n 3, 0, 0, 0), (7, .iload_n 3, 0, 0, 0), (8, .ifCond .lt (21), 0, 29, 0),
  (11, .iload_n 3, 0, 0, 0), (12, .aload_n 0, 0, 0, 0), (13, .getfield 9, 1, 0, 1), (16, .arraylength, 0, 0, 0), (17, .if_icmp .ge (12), 0, 29, 0), (20, .aload_n 0, 0, 0, 0), (21, .getfield 9, 1, 0, 1), (24, .iload_n 3, 0, 0, 0),
  (25, .iaload, 0, 0, 0), (26, .goto (4), 0, 30, 0), (29, .iconst (0), 0, 0, 0), (30, .ireturn, 0, 0, 0)]
theorem zc_59 : zl_59.all (fun q => zt_chk 59 q.1 q.2) = true := by decide +kernel

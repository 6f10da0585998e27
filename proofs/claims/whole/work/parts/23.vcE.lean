set_option maxRecDepth 20000 in
theorem zf10 (pc : Nat) : zt_code 10 pc = zt_fd zl_10 pc := rfl
theorem d10_0 : zt_code 10 0 = some (.bipush (-2), 0, 0, 0) := (zf10 0).trans rfl
theorem d10_2 : zt_code 10 2 = some (.iload_n 1, 0, 0, 0) := (zf10 2).trans rfl
theorem d10_3 : zt_code 10 3 = some (.isub, 0, 0, 0) := (zf10 3).trans rfl
theorem d10_4 : zt_code 10 4 = some (.istore_n 2, 0, 0, 0) := (zf10 4).trans rfl
theorem d10_5 : zt_code 10 5 = some (.aload_n 0, 0, 0, 0) := (zf10 5).trans rfl
theorem d10_6 : zt_code 10 6 = some (.getfield 36, 4, 5, 1) := (zf10 6).trans rfl
theorem d10_9 : zt_code 10 9 = some (.iload_n 2, 0, 0, 0) := (zf10 9).trans rfl
theorem d10_10 : zt_code 10 10 = some (.aload_n 0, 0, 0, 0) := (zf10 10).trans rfl
theorem d10_11 : zt_code 10 11 = some (.getfield 36, 4, 5, 1) := (zf10 11).trans rfl
theorem d10_14 : zt_code 10 14 = some (.iload_n 2, 0, 0, 0) := (zf10 14).trans rfl
theorem d10_15 : zt_code 10 15 = some (.invokestatic 242, 11, 2, -1) := (zf10 15).trans rfl
theorem d10_18 : zt_code 10 18 = some (.iconst (1), 0, 0, 0) := (zf10 18).trans rfl
theorem d10_19 : zt_code 10 19 = some (.iadd, 0, 0, 0) := (zf10 19).trans rfl
theorem d10_20 : zt_code 10 20 = some (.invokestatic 157, 12, 3, -1) := (zf10 20).trans rfl
theorem d10_23 : zt_code 10 23 = some (.iload_n 1, 0, 0, 0) := (zf10 23).trans rfl
theorem d10_24 : zt_code 10 24 = some (.ireturn, 0, 0, 0) := (zf10 24).trans rfl
/-- FirstAtTheFirst.refuse(I)I -/
theorem vc10 {X : zX} {S : zx_S} {C : zx_C} {q : Int32 → zx_C → Prop} {e : Nat} {a1 : Int32} (hS : zs_4 S e) (h : zCd X 0 11 [.ref (e + 23), .int ((-2) - a1)] S C (zQi (fun r1 C1 => zCd X 0 12 [.ref (e + 23), .int ((-2) - a1), .int (r1 + 1)] S C1 (zQv (fun C2 => q a1 C2))))) : zCd X 1 10 [.ref e, .int a1] S C (zQi q) := by
  refine zc_in ml_10 rfl ?_
  refine zw_bipush (n := 2) d10_0 rfl zk_b_m2 ?_
  refine zw_iload_n (n := 3) d10_2 rfl rfl ?_
  refine zw_isub (n := 4) d10_3 rfl ?_
  refine zw_istore_n (n := 5) d10_4 rfl rfl rfl ?_
  refine zw_aload_n (n := 6) d10_5 rfl rfl ?_
  refine zw_getr (n := 9) d10_6 rfl (zj_4 hS).1 (zj_4 hS).2 (zr_4_5 hS) ?_
  refine zw_iload_n (n := 10) d10_9 rfl rfl ?_
  refine zw_aload_n (n := 11) d10_10 rfl rfl ?_
  refine zw_getr (n := 14) d10_11 rfl (zj_4 hS).1 (zj_4 hS).2 (zr_4_5 hS) ?_
  refine zw_iload_n (n := 15) d10_14 rfl rfl ?_
  refine zw_cI (n := 18) d10_15 (zs_S rfl rfl rfl rfl) (by rw [ml_11]; rfl) (by decide) rfl (zc_mI h (fun r1 C1 h => ?_))
  refine zw_iconst (n := 19) d10_18 rfl zk_i_1 ?_
  refine zw_iadd (n := 20) d10_19 rfl ?_
  refine zw_cV (n := 23) d10_20 (zs_S rfl rfl rfl rfl) (by rw [ml_12]; rfl) (by decide) rfl (zc_mV h (fun C2 h => ?_))
  refine zw_iload_n (n := 24) d10_23 rfl rfl ?_
  exact zw_iret d10_24 rfl ⟨_, rfl, h⟩

set_option maxRecDepth 20000 in
theorem zf11 (pc : Nat) : zt_code 11 pc = zt_fd zl_11 pc := rfl
theorem d11_0 : zt_code 11 0 = some (.aload_n 0, 0, 0, 0) := (zf11 0).trans rfl
theorem d11_1 : zt_code 11 1 = some (.ifnull (19), 0, 20, 0) := (zf11 1).trans rfl
theorem d11_4 : zt_code 11 4 = some (.iload_n 1, 0, 0, 0) := (zf11 4).trans rfl
theorem d11_5 : zt_code 11 5 = some (.ifCond .lt (15), 0, 20, 0) := (zf11 5).trans rfl
theorem d11_8 : zt_code 11 8 = some (.iload_n 1, 0, 0, 0) := (zf11 8).trans rfl
theorem d11_9 : zt_code 11 9 = some (.aload_n 0, 0, 0, 0) := (zf11 9).trans rfl
theorem d11_10 : zt_code 11 10 = some (.arraylength, 0, 0, 0) := (zf11 10).trans rfl
theorem d11_11 : zt_code 11 11 = some (.if_icmp .ge (9), 0, 20, 0) := (zf11 11).trans rfl
theorem d11_14 : zt_code 11 14 = some (.aload_n 0, 0, 0, 0) := (zf11 14).trans rfl
theorem d11_15 : zt_code 11 15 = some (.iload_n 1, 0, 0, 0) := (zf11 15).trans rfl
theorem d11_16 : zt_code 11 16 = some (.iaload, 0, 0, 0) := (zf11 16).trans rfl
theorem d11_17 : zt_code 11 17 = some (.goto (4), 0, 21, 0) := (zf11 17).trans rfl
theorem d11_20 : zt_code 11 20 = some (.iconst (0), 0, 0, 0) := (zf11 20).trans rfl
theorem d11_21 : zt_code 11 21 = some (.ireturn, 0, 0, 0) := (zf11 21).trans rfl
/-- FirstAtTheFirst.at([II)I -/
theorem vc11 {X : zX} {S : zx_S} {C : zx_C} {q : Int32 → zx_C → Prop} {a1 n1 : Nat} {a2 : Int32} (h1 : a1 < 900000 ∧ S.1 a1 = (10, n1)) (h : if (a2 : Int32) < 0 then (q 0 C) else (if (a2 : Int32) < (Int32.ofNat n1) then (vp_in a2 n1 ∧ (q (C.1 a1 (Int32.toNatClampNeg a2)) C)) else (q 0 C))) : zCd X 0 11 [.ref a1, .int a2] S C (zQi q) := by
  refine zc_in ml_11 rfl ?_
  refine zw_aload_n (n := 1) d11_0 rfl rfl ?_
  refine zw_ifnull (n := 4) d11_1 rfl ?_
  refine zw_iload_n (n := 5) d11_4 rfl rfl ?_
  refine zw_if_lt (n := 8) d11_5 rfl (zite h (fun h => ?_) (fun h => ?_))
  · skip
    refine zw_iconst (n := 21) d11_20 rfl zk_i_0 ?_
    exact zw_iret d11_21 rfl ⟨_, rfl, h⟩
  · skip
    refine zw_iload_n (n := 9) d11_8 rfl rfl ?_
    refine zw_aload_n (n := 10) d11_9 rfl rfl ?_
    refine zw_alen (n := 11) d11_10 rfl h1.1 h1.2 (by decide) rfl ?_
    refine zw_ic_ge (n := 14) d11_11 rfl (zite h (fun h => ?_) (fun h => ?_))
    · skip
      refine zw_aload_n (n := 15) d11_14 rfl rfl ?_
      refine zw_iload_n (n := 16) d11_15 rfl rfl ?_
      obtain ⟨hi, h⟩ := h
      refine zw_iald (n := 17) d11_16 rfl h1.1 h1.2 hi ?_
      refine zw_goto d11_17 ?_
      exact zw_iret d11_21 rfl ⟨_, rfl, h⟩
    · skip
      refine zw_iconst (n := 21) d11_20 rfl zk_i_0 ?_
      exact zw_iret d11_21 rfl ⟨_, rfl, h⟩

set_option maxRecDepth 20000 in
theorem zf12 (pc : Nat) : zt_code 12 pc = zt_fd zl_12 pc := rfl
theorem d12_0 : zt_code 12 0 = some (.aload_n 0, 0, 0, 0) := (zf12 0).trans rfl
theorem d12_1 : zt_code 12 1 = some (.ifnull (17), 0, 18, 0) := (zf12 1).trans rfl
theorem d12_4 : zt_code 12 4 = some (.iload_n 1, 0, 0, 0) := (zf12 4).trans rfl
theorem d12_5 : zt_code 12 5 = some (.ifCond .lt (13), 0, 18, 0) := (zf12 5).trans rfl
theorem d12_8 : zt_code 12 8 = some (.iload_n 1, 0, 0, 0) := (zf12 8).trans rfl
theorem d12_9 : zt_code 12 9 = some (.aload_n 0, 0, 0, 0) := (zf12 9).trans rfl
theorem d12_10 : zt_code 12 10 = some (.arraylength, 0, 0, 0) := (zf12 10).trans rfl
theorem d12_11 : zt_code 12 11 = some (.if_icmp .ge (7), 0, 18, 0) := (zf12 11).trans rfl
theorem d12_14 : zt_code 12 14 = some (.aload_n 0, 0, 0, 0) := (zf12 14).trans rfl
theorem d12_15 : zt_code 12 15 = some (.iload_n 1, 0, 0, 0) := (zf12 15).trans rfl
theorem d12_16 : zt_code 12 16 = some (.iload_n 2, 0, 0, 0) := (zf12 16).trans rfl
theorem d12_17 : zt_code 12 17 = some (.iastore, 0, 0, 0) := (zf12 17).trans rfl
theorem d12_18 : zt_code 12 18 = some (.return_, 0, 0, 0) := (zf12 18).trans rfl
/-- FirstAtTheFirst.put([III)V -/
theorem vc12 {X : zX} {S : zx_S} {C : zx_C} {q : zx_C → Prop} {a1 n1 : Nat} {a2 : Int32} {a3 : Int32} (h1 : a1 < 900000 ∧ S.1 a1 = (10, n1)) (h : if (a2 : Int32) < 0 then (q C) else (if (a2 : Int32) < (Int32.ofNat n1) then (vp_in a2 n1 ∧ (q (zp C a1 (Int32.toNatClampNeg a2) a3))) else (q C))) : zCd X 0 12 [.ref a1, .int a2, .int a3] S C (zQv q) := by
  refine zc_in ml_12 rfl ?_
  refine zw_aload_n (n := 1) d12_0 rfl rfl ?_
  refine zw_ifnull (n := 4) d12_1 rfl ?_
  refine zw_iload_n (n := 5) d12_4 rfl rfl ?_
  refine zw_if_lt (n := 8) d12_5 rfl (zite h (fun h => ?_) (fun h => ?_))
  · skip
    exact zw_ret d12_18 ⟨rfl, h⟩
  · skip
    refine zw_iload_n (n := 9) d12_8 rfl rfl ?_
    refine zw_aload_n (n := 10) d12_9 rfl rfl ?_
    refine zw_alen (n := 11) d12_10 rfl h1.1 h1.2 (by decide) rfl ?_
    refine zw_ic_ge (n := 14) d12_11 rfl (zite h (fun h => ?_) (fun h => ?_))
    · skip
      refine zw_aload_n (n := 15) d12_14 rfl rfl ?_
      refine zw_iload_n (n := 16) d12_15 rfl rfl ?_
      refine zw_iload_n (n := 17) d12_16 rfl rfl ?_
      obtain ⟨hi, h⟩ := h
      refine zw_iast (n := 18) d12_17 rfl h1.1 h1.2 hi ?_
      exact zw_ret d12_18 ⟨rfl, h⟩
    · skip
      exact zw_ret d12_18 ⟨rfl, h⟩

set_option maxRecDepth 20000 in
theorem zf27 (pc : Nat) : zt_code 27 pc = zt_fd zl_27 pc := rfl
theorem d27_0 : zt_code 27 0 = some (.iload_n 1, 0, 0, 0) := (zf27 0).trans rfl
theorem d27_1 : zt_code 27 1 = some (.ifCond .lt (15), 0, 16, 0) := (zf27 1).trans rfl
theorem d27_4 : zt_code 27 4 = some (.iload_n 1, 0, 0, 0) := (zf27 4).trans rfl
theorem d27_5 : zt_code 27 5 = some (.aload_n 0, 0, 0, 0) := (zf27 5).trans rfl
theorem d27_6 : zt_code 27 6 = some (.getfield 9, 0, 0, 0) := (zf27 6).trans rfl
theorem d27_9 : zt_code 27 9 = some (.if_icmp .ge (7), 0, 16, 0) := (zf27 9).trans rfl
theorem d27_12 : zt_code 27 12 = some (.iconst (1), 0, 0, 0) := (zf27 12).trans rfl
theorem d27_13 : zt_code 27 13 = some (.goto (4), 0, 17, 0) := (zf27 13).trans rfl
theorem d27_16 : zt_code 27 16 = some (.iconst (0), 0, 0, 0) := (zf27 16).trans rfl
theorem d27_17 : zt_code 27 17 = some (.ireturn, 1, 0, 0) := (zf27 17).trans rfl
/-- FirstAtTheFirst$Estate.isSide(I)Z -/
theorem vc27 {X : zX} {S : zx_S} {C : zx_C} {q : Int32 → zx_C → Prop} {e : Nat} {a1 : Int32} (hS : zs_0 S e) (h : if (a1 : Int32) < 0 then (q 0 C) else (if (a1 : Int32) < (C.1 e 0) then (q 1 C) else (q 0 C))) : zCd X 0 27 [.ref e, .int a1] S C (zQi q) := by
  refine zc_in ml_27 rfl ?_
  refine zw_iload_n (n := 1) d27_0 rfl rfl ?_
  refine zw_if_lt (n := 4) d27_1 rfl (zite h (fun h => ?_) (fun h => ?_))
  · skip
    refine zw_iconst (n := 17) d27_16 rfl zk_i_0 ?_
    exact zw_iret d27_17 rfl ⟨_, rfl, h⟩
  · skip
    refine zw_iload_n (n := 5) d27_4 rfl rfl ?_
    refine zw_aload_n (n := 6) d27_5 rfl rfl ?_
    refine zw_geti (n := 9) d27_6 rfl (zj_0 hS).1 (zj_0 hS).2 ?_
    refine zw_ic_ge (n := 12) d27_9 rfl (zite h (fun h => ?_) (fun h => ?_))
    · skip
      refine zw_iconst (n := 13) d27_12 rfl zk_i_1 ?_
      refine zw_goto d27_13 ?_
      exact zw_iret d27_17 rfl ⟨_, rfl, h⟩
    · skip
      refine zw_iconst (n := 17) d27_16 rfl zk_i_0 ?_
      exact zw_iret d27_17 rfl ⟨_, rfl, h⟩

set_option maxRecDepth 20000 in
theorem zf29 (pc : Nat) : zt_code 29 pc = zt_fd zl_29 pc := rfl
theorem d29_0 : zt_code 29 0 = some (.aload_n 0, 0, 0, 0) := (zf29 0).trans rfl
theorem d29_1 : zt_code 29 1 = some (.getfield 25, 0, 7, 1) := (zf29 1).trans rfl
theorem d29_4 : zt_code 29 4 = some (.iload_n 1, 0, 0, 0) := (zf29 4).trans rfl
theorem d29_5 : zt_code 29 5 = some (.invokestatic 47, 11, 2, -1) := (zf29 5).trans rfl
theorem d29_8 : zt_code 29 8 = some (.ireturn, 0, 0, 0) := (zf29 8).trans rfl
/-- FirstAtTheFirst$Estate.bentOf(I)I -/
theorem vc29 {X : zX} {S : zx_S} {C : zx_C} {q : Int32 → zx_C → Prop} {e : Nat} {a1 : Int32} (hS : zs_0 S e) (h : zCd X 0 11 [.ref (e + 2), .int a1] S C (zQi (fun r1 C1 => q r1 C1))) : zCd X 1 29 [.ref e, .int a1] S C (zQi q) := by
  refine zc_in ml_29 rfl ?_
  refine zw_aload_n (n := 1) d29_0 rfl rfl ?_
  refine zw_getr (n := 4) d29_1 rfl (zj_0 hS).1 (zj_0 hS).2 (zr_0_7 hS) ?_
  refine zw_iload_n (n := 5) d29_4 rfl rfl ?_
  refine zw_cI (n := 8) d29_5 (zs_S rfl rfl rfl rfl) (by rw [ml_11]; rfl) (by decide) rfl (zc_mI h (fun r1 C1 h => ?_))
  exact zw_iret d29_8 rfl ⟨_, rfl, h⟩

set_option maxRecDepth 20000 in
theorem zf32 (pc : Nat) : zt_code 32 pc = zt_fd zl_32 pc := rfl
theorem d32_0 : zt_code 32 0 = some (.iload_n 0, 0, 0, 0) := (zf32 0).trans rfl
theorem d32_1 : zt_code 32 1 = some (.ifCond .lt (12), 0, 13, 0) := (zf32 1).trans rfl
theorem d32_4 : zt_code 32 4 = some (.iload_n 0, 0, 0, 0) := (zf32 4).trans rfl
theorem d32_5 : zt_code 32 5 = some (.iconst (5), 0, 0, 0) := (zf32 5).trans rfl
theorem d32_6 : zt_code 32 6 = some (.if_icmp .gt (7), 0, 13, 0) := (zf32 6).trans rfl
theorem d32_9 : zt_code 32 9 = some (.iconst (1), 0, 0, 0) := (zf32 9).trans rfl
theorem d32_10 : zt_code 32 10 = some (.goto (4), 0, 14, 0) := (zf32 10).trans rfl
theorem d32_13 : zt_code 32 13 = some (.iconst (0), 0, 0, 0) := (zf32 13).trans rfl
theorem d32_14 : zt_code 32 14 = some (.ireturn, 1, 0, 0) := (zf32 14).trans rfl
/-- FirstAtTheFirst.isBent(I)Z -/
theorem vc32 {X : zX} {S : zx_S} {C : zx_C} {q : Int32 → zx_C → Prop} {a1 : Int32}  (h : if (a1 : Int32) < 0 then (q 0 C) else (if (5 : Int32) < a1 then (q 0 C) else (q 1 C))) : zCd X 0 32 [.int a1] S C (zQi q) := by
  refine zc_in ml_32 rfl ?_
  refine zw_iload_n (n := 1) d32_0 rfl rfl ?_
  refine zw_if_lt (n := 4) d32_1 rfl (zite h (fun h => ?_) (fun h => ?_))
  · skip
    refine zw_iconst (n := 14) d32_13 rfl zk_i_0 ?_
    exact zw_iret d32_14 rfl ⟨_, rfl, h⟩
  · skip
    refine zw_iload_n (n := 5) d32_4 rfl rfl ?_
    refine zw_iconst (n := 6) d32_5 rfl zk_i_5 ?_
    refine zw_ic_gt (n := 9) d32_6 rfl (zite h (fun h => ?_) (fun h => ?_))
    · skip
      refine zw_iconst (n := 14) d32_13 rfl zk_i_0 ?_
      exact zw_iret d32_14 rfl ⟨_, rfl, h⟩
    · skip
      refine zw_iconst (n := 10) d32_9 rfl zk_i_1 ?_
      refine zw_goto d32_10 ?_
      exact zw_iret d32_14 rfl ⟨_, rfl, h⟩

set_option maxRecDepth 20000 in
theorem zf35 (pc : Nat) : zt_code 35 pc = zt_fd zl_35 pc := rfl
theorem d35_0 : zt_code 35 0 = some (.iload_n 0, 0, 0, 0) := (zf35 0).trans rfl
theorem d35_1 : zt_code 35 1 = some (.iload_n 1, 0, 0, 0) := (zf35 1).trans rfl
theorem d35_2 : zt_code 35 2 = some (.if_icmp .eq (7), 0, 9, 0) := (zf35 2).trans rfl
theorem d35_5 : zt_code 35 5 = some (.iload_n 1, 0, 0, 0) := (zf35 5).trans rfl
theorem d35_6 : zt_code 35 6 = some (.ifCond .ne (5), 0, 11, 0) := (zf35 6).trans rfl
theorem d35_9 : zt_code 35 9 = some (.iconst (1), 0, 0, 0) := (zf35 9).trans rfl
theorem d35_10 : zt_code 35 10 = some (.ireturn, 1, 0, 0) := (zf35 10).trans rfl
theorem d35_11 : zt_code 35 11 = some (.iload_n 1, 0, 0, 0) := (zf35 11).trans rfl
theorem d35_12 : zt_code 35 12 = some (.iconst (1), 0, 0, 0) := (zf35 12).trans rfl
theorem d35_13 : zt_code 35 13 = some (.if_icmp .ne (22), 0, 35, 0) := (zf35 13).trans rfl
theorem d35_16 : zt_code 35 16 = some (.iload_n 0, 0, 0, 0) := (zf35 16).trans rfl
theorem d35_17 : zt_code 35 17 = some (.iconst (2), 0, 0, 0) := (zf35 17).trans rfl
theorem d35_18 : zt_code 35 18 = some (.if_icmp .eq (13), 0, 31, 0) := (zf35 18).trans rfl
theorem d35_21 : zt_code 35 21 = some (.iload_n 0, 0, 0, 0) := (zf35 21).trans rfl
theorem d35_22 : zt_code 35 22 = some (.iconst (3), 0, 0, 0) := (zf35 22).trans rfl
theorem d35_23 : zt_code 35 23 = some (.if_icmp .eq (8), 0, 31, 0) := (zf35 23).trans rfl
theorem d35_26 : zt_code 35 26 = some (.iload_n 0, 0, 0, 0) := (zf35 26).trans rfl
theorem d35_27 : zt_code 35 27 = some (.iconst (5), 0, 0, 0) := (zf35 27).trans rfl
theorem d35_28 : zt_code 35 28 = some (.if_icmp .ne (7), 0, 35, 0) := (zf35 28).trans rfl
theorem d35_31 : zt_code 35 31 = some (.iconst (1), 0, 0, 0) := (zf35 31).trans rfl
theorem d35_32 : zt_code 35 32 = some (.goto (4), 0, 36, 0) := (zf35 32).trans rfl
theorem d35_35 : zt_code 35 35 = some (.iconst (0), 0, 0, 0) := (zf35 35).trans rfl
theorem d35_36 : zt_code 35 36 = some (.ireturn, 1, 0, 0) := (zf35 36).trans rfl
/-- FirstAtTheFirst.isUnder(II)Z -/
theorem vc35 {X : zX} {S : zx_S} {C : zx_C} {q : Int32 → zx_C → Prop} {a1 : Int32} {a2 : Int32}  (h : if (a1 : Int32) = a2 then (q 1 C) else (if (a2 : Int32) = 0 then (q 1 C) else (if (a2 : Int32) = 1 then (if (a1 : Int32) = 2 then (q 1 C) else (if (a1 : Int32) = 3 then (q 1 C) else (if (a1 : Int32) = 5 then (q 1 C) else (q 0 C)))) else (q 0 C)))) : zCd X 0 35 [.int a1, .int a2] S C (zQi q) := by
  refine zc_in ml_35 rfl ?_
  refine zw_iload_n (n := 1) d35_0 rfl rfl ?_
  refine zw_iload_n (n := 2) d35_1 rfl rfl ?_
  refine zw_ic_eq (n := 5) d35_2 rfl (zite h (fun h => ?_) (fun h => ?_))
  · skip
    refine zw_iconst (n := 10) d35_9 rfl zk_i_1 ?_
    exact zw_iret d35_10 rfl ⟨_, rfl, h⟩
  · skip
    refine zw_iload_n (n := 6) d35_5 rfl rfl ?_
    refine zw_if_ne (n := 9) d35_6 rfl (zite h (fun h => ?_) (fun h => ?_))
    · skip
      refine zw_iconst (n := 10) d35_9 rfl zk_i_1 ?_
      exact zw_iret d35_10 rfl ⟨_, rfl, h⟩
    · skip
      refine zw_iload_n (n := 12) d35_11 rfl rfl ?_
      refine zw_iconst (n := 13) d35_12 rfl zk_i_1 ?_
      refine zw_ic_ne (n := 16) d35_13 rfl (zite h (fun h => ?_) (fun h => ?_))
      · skip
        refine zw_iload_n (n := 17) d35_16 rfl rfl ?_
        refine zw_iconst (n := 18) d35_17 rfl zk_i_2 ?_
        refine zw_ic_eq (n := 21) d35_18 rfl (zite h (fun h => ?_) (fun h => ?_))
        · skip
          refine zw_iconst (n := 32) d35_31 rfl zk_i_1 ?_
          refine zw_goto d35_32 ?_
          exact zw_iret d35_36 rfl ⟨_, rfl, h⟩
        · skip
          refine zw_iload_n (n := 22) d35_21 rfl rfl ?_
          refine zw_iconst (n := 23) d35_22 rfl zk_i_3 ?_
          refine zw_ic_eq (n := 26) d35_23 rfl (zite h (fun h => ?_) (fun h => ?_))
          · skip
            refine zw_iconst (n := 32) d35_31 rfl zk_i_1 ?_
            refine zw_goto d35_32 ?_
            exact zw_iret d35_36 rfl ⟨_, rfl, h⟩
          · skip
            refine zw_iload_n (n := 27) d35_26 rfl rfl ?_
            refine zw_iconst (n := 28) d35_27 rfl zk_i_5 ?_
            refine zw_ic_ne (n := 31) d35_28 rfl (zite h (fun h => ?_) (fun h => ?_))
            · skip
              refine zw_iconst (n := 32) d35_31 rfl zk_i_1 ?_
              refine zw_goto d35_32 ?_
              exact zw_iret d35_36 rfl ⟨_, rfl, h⟩
            · skip
              refine zw_iconst (n := 36) d35_35 rfl zk_i_0 ?_
              exact zw_iret d35_36 rfl ⟨_, rfl, h⟩
      · skip
        refine zw_iconst (n := 36) d35_35 rfl zk_i_0 ?_
        exact zw_iret d35_36 rfl ⟨_, rfl, h⟩

set_option maxRecDepth 20000 in
theorem zf39 (pc : Nat) : zt_code 39 pc = zt_fd zl_39 pc := rfl
theorem d39_0 : zt_code 39 0 = some (.aload_n 0, 0, 0, 0) := (zf39 0).trans rfl
theorem d39_1 : zt_code 39 1 = some (.ifnull (33), 0, 34, 0) := (zf39 1).trans rfl
theorem d39_4 : zt_code 39 4 = some (.aload_n 1, 0, 0, 0) := (zf39 4).trans rfl
theorem d39_5 : zt_code 39 5 = some (.ifnull (29), 0, 34, 0) := (zf39 5).trans rfl
theorem d39_8 : zt_code 39 8 = some (.iconst (0), 0, 0, 0) := (zf39 8).trans rfl
theorem d39_9 : zt_code 39 9 = some (.istore_n 2, 0, 0, 0) := (zf39 9).trans rfl
theorem d39_10 : zt_code 39 10 = some (.iload_n 2, 0, 0, 0) := (zf39 10).trans rfl
theorem d39_11 : zt_code 39 11 = some (.aload_n 0, 0, 0, 0) := (zf39 11).trans rfl
theorem d39_12 : zt_code 39 12 = some (.arraylength, 0, 0, 0) := (zf39 12).trans rfl
theorem d39_13 : zt_code 39 13 = some (.if_icmp .ge (21), 0, 34, 0) := (zf39 13).trans rfl
theorem d39_16 : zt_code 39 16 = some (.iload_n 2, 0, 0, 0) := (zf39 16).trans rfl
theorem d39_17 : zt_code 39 17 = some (.aload_n 1, 0, 0, 0) := (zf39 17).trans rfl
theorem d39_18 : zt_code 39 18 = some (.arraylength, 0, 0, 0) := (zf39 18).trans rfl
theorem d39_19 : zt_code 39 19 = some (.if_icmp .ge (15), 0, 34, 0) := (zf39 19).trans rfl
theorem d39_22 : zt_code 39 22 = some (.aload_n 1, 0, 0, 0) := (zf39 22).trans rfl
theorem d39_23 : zt_code 39 23 = some (.iload_n 2, 0, 0, 0) := (zf39 23).trans rfl
theorem d39_24 : zt_code 39 24 = some (.aload_n 0, 0, 0, 0) := (zf39 24).trans rfl
theorem d39_25 : zt_code 39 25 = some (.iload_n 2, 0, 0, 0) := (zf39 25).trans rfl
theorem d39_26 : zt_code 39 26 = some (.iaload, 0, 0, 0) := (zf39 26).trans rfl
theorem d39_27 : zt_code 39 27 = some (.iastore, 0, 0, 0) := (zf39 27).trans rfl
theorem d39_28 : zt_code 39 28 = some (.iinc 2 (1), 0, 0, 0) := (zf39 28).trans rfl
theorem d39_31 : zt_code 39 31 = some (.goto (-21), 0, 10, 0) := (zf39 31).trans rfl
theorem d39_34 : zt_code 39 34 = some (.return_, 0, 0, 0) := (zf39 34).trans rfl
/-- FirstAtTheFirst.copyAll([I[I)V -/
theorem vc39 {X : zX} {S : zx_S} {C : zx_C} {q : zx_C → Prop} {a1 n1 : Nat} {a2 n2 : Nat} (h1 : a1 < 900000 ∧ S.1 a1 = (10, n1)) (h2 : a2 < 900000 ∧ S.1 a2 = (10, n2)) (h : zW X 0 39 10 [.ref a1, .ref a2, .int 0] [] S C (zQv q)) : zCd X 0 39 [.ref a1, .ref a2] S C (zQv q) := by
  refine zc_in ml_39 rfl ?_
  refine zw_aload_n (n := 1) d39_0 rfl rfl ?_
  refine zw_ifnull (n := 4) d39_1 rfl ?_
  refine zw_aload_n (n := 5) d39_4 rfl rfl ?_
  refine zw_ifnull (n := 8) d39_5 rfl ?_
  refine zw_iconst (n := 9) d39_8 rfl zk_i_0 ?_
  refine zw_istore_n (n := 10) d39_9 rfl rfl rfl ?_
  exact h
theorem vc39_10 {X : zX} {S : zx_S} {C : zx_C} {q : zx_C → Prop} {a1 n1 : Nat} {a2 n2 : Nat} {i2 : Int32} (h1 : a1 < 900000 ∧ S.1 a1 = (10, n1)) (h2 : a2 < 900000 ∧ S.1 a2 = (10, n2)) (h : if (i2 : Int32) < (Int32.ofNat n1) then (if (i2 : Int32) < (Int32.ofNat n2) then (vp_in i2 n1 ∧ (vp_in i2 n2 ∧ (zW X 0 39 10 [.ref a1, .ref a2, .int (i2 + 1)] [] S (zp C a2 (Int32.toNatClampNeg i2) (C.1 a1 (Int32.toNatClampNeg i2))) (zQv q)))) else (q C)) else (q C)) : zW X 0 39 10 [.ref a1, .ref a2, .int i2] [] S C (zQv q) := by
  refine zw_iload_n (n := 11) d39_10 rfl rfl ?_
  refine zw_aload_n (n := 12) d39_11 rfl rfl ?_
  refine zw_alen (n := 13) d39_12 rfl h1.1 h1.2 (by decide) rfl ?_
  refine zw_ic_ge (n := 16) d39_13 rfl (zite h (fun h => ?_) (fun h => ?_))
  · skip
    refine zw_iload_n (n := 17) d39_16 rfl rfl ?_
    refine zw_aload_n (n := 18) d39_17 rfl rfl ?_
    refine zw_alen (n := 19) d39_18 rfl h2.1 h2.2 (by decide) rfl ?_
    refine zw_ic_ge (n := 22) d39_19 rfl (zite h (fun h => ?_) (fun h => ?_))
    · skip
      refine zw_aload_n (n := 23) d39_22 rfl rfl ?_
      refine zw_iload_n (n := 24) d39_23 rfl rfl ?_
      refine zw_aload_n (n := 25) d39_24 rfl rfl ?_
      refine zw_iload_n (n := 26) d39_25 rfl rfl ?_
      obtain ⟨hi, h⟩ := h
      refine zw_iald (n := 27) d39_26 rfl h1.1 h1.2 hi ?_
      obtain ⟨hi, h⟩ := h
      refine zw_iast (n := 28) d39_27 rfl h2.1 h2.2 hi ?_
      refine zw_iinc (n := 31) d39_28 rfl rfl zk_i_1 rfl ?_
      refine zw_goto d39_31 ?_
      exact h
    · skip
      exact zw_ret d39_34 ⟨rfl, h⟩
  · skip
    exact zw_ret d39_34 ⟨rfl, h⟩

set_option maxRecDepth 20000 in
theorem zf40 (pc : Nat) : zt_code 40 pc = zt_fd zl_40 pc := rfl
theorem d40_0 : zt_code 40 0 = some (.iconst (0), 0, 0, 0) := (zf40 0).trans rfl
theorem d40_1 : zt_code 40 1 = some (.istore_n 2, 0, 0, 0) := (zf40 1).trans rfl
theorem d40_2 : zt_code 40 2 = some (.iconst (0), 0, 0, 0) := (zf40 2).trans rfl
theorem d40_3 : zt_code 40 3 = some (.istore_n 3, 0, 0, 0) := (zf40 3).trans rfl
theorem d40_4 : zt_code 40 4 = some (.iload_n 3, 0, 0, 0) := (zf40 4).trans rfl
theorem d40_5 : zt_code 40 5 = some (.aload_n 0, 0, 0, 0) := (zf40 5).trans rfl
theorem d40_6 : zt_code 40 6 = some (.getfield 34, 0, 1, 0) := (zf40 6).trans rfl
theorem d40_9 : zt_code 40 9 = some (.if_icmp .ge (30), 0, 39, 0) := (zf40 9).trans rfl
theorem d40_12 : zt_code 40 12 = some (.aload_n 0, 0, 0, 0) := (zf40 12).trans rfl
theorem d40_13 : zt_code 40 13 = some (.getfield 28, 0, 8, 1) := (zf40 13).trans rfl
theorem d40_16 : zt_code 40 16 = some (.iload_n 3, 0, 0, 0) := (zf40 16).trans rfl
theorem d40_17 : zt_code 40 17 = some (.invokestatic 47, 11, 2, -1) := (zf40 17).trans rfl
theorem d40_20 : zt_code 40 20 = some (.iload_n 1, 0, 0, 0) := (zf40 20).trans rfl
theorem d40_21 : zt_code 40 21 = some (.if_icmp .ne (12), 0, 33, 0) := (zf40 21).trans rfl
theorem d40_24 : zt_code 40 24 = some (.iload_n 2, 0, 0, 0) := (zf40 24).trans rfl
theorem d40_25 : zt_code 40 25 = some (.aload_n 0, 0, 0, 0) := (zf40 25).trans rfl
theorem d40_26 : zt_code 40 26 = some (.iload_n 1, 0, 0, 0) := (zf40 26).trans rfl
theorem d40_27 : zt_code 40 27 = some (.iload_n 3, 0, 0, 0) := (zf40 27).trans rfl
theorem d40_28 : zt_code 40 28 = some (.invokevirtual 58, 41, 3, 0) := (zf40 28).trans rfl
theorem d40_31 : zt_code 40 31 = some (.iadd, 0, 0, 0) := (zf40 31).trans rfl
theorem d40_32 : zt_code 40 32 = some (.istore_n 2, 0, 0, 0) := (zf40 32).trans rfl
theorem d40_33 : zt_code 40 33 = some (.iinc 3 (1), 0, 0, 0) := (zf40 33).trans rfl
theorem d40_36 : zt_code 40 36 = some (.goto (-32), 0, 4, 0) := (zf40 36).trans rfl
theorem d40_39 : zt_code 40 39 = some (.iload_n 2, 0, 0, 0) := (zf40 39).trans rfl
theorem d40_40 : zt_code 40 40 = some (.ireturn, 0, 0, 0) := (zf40 40).trans rfl
/-- FirstAtTheFirst$Estate.hasNow(I)I -/
theorem vc40 {X : zX} {S : zx_S} {C : zx_C} {q : Int32 → zx_C → Prop} {e : Nat} {a1 : Int32} (hS : zs_0 S e) (h : zW X 2 40 4 [.ref e, .int a1, .int 0, .int 0] [] S C (zQi q)) : zCd X 2 40 [.ref e, .int a1] S C (zQi q) := by
  refine zc_in ml_40 rfl ?_
  refine zw_iconst (n := 1) d40_0 rfl zk_i_0 ?_
  refine zw_istore_n (n := 2) d40_1 rfl rfl rfl ?_
  refine zw_iconst (n := 3) d40_2 rfl zk_i_0 ?_
  refine zw_istore_n (n := 4) d40_3 rfl rfl rfl ?_
  exact h
theorem vc40_4 {X : zX} {S : zx_S} {C : zx_C} {q : Int32 → zx_C → Prop} {e : Nat} {a1 : Int32} {i1 : Int32} {i2 : Int32} {i3 : Int32} (hS : zs_0 S e) (h : if (i3 : Int32) < (C.1 e 1) then (zCd X 0 11 [.ref (e + 3), .int i3] S C (zQi (fun r1 C1 => if (r1 : Int32) = i1 then (zCd X 1 41 [.ref e, .int i1, .int i3] S C1 (zQi (fun r2 C2 => zW X 2 40 4 [.ref e, .int i1, .int (i2 + r2), .int (i3 + 1)] [] S C2 (zQi q)))) else (zW X 2 40 4 [.ref e, .int i1, .int i2, .int (i3 + 1)] [] S C1 (zQi q))))) else (q i2 C)) : zW X 2 40 4 [.ref e, .int i1, .int i2, .int i3] [] S C (zQi q) := by
  refine zw_iload_n (n := 5) d40_4 rfl rfl ?_
  refine zw_aload_n (n := 6) d40_5 rfl rfl ?_
  refine zw_geti (n := 9) d40_6 rfl (zj_0 hS).1 (zj_0 hS).2 ?_
  refine zw_ic_ge (n := 12) d40_9 rfl (zite h (fun h => ?_) (fun h => ?_))
  · skip
    refine zw_aload_n (n := 13) d40_12 rfl rfl ?_
    refine zw_getr (n := 16) d40_13 rfl (zj_0 hS).1 (zj_0 hS).2 (zr_0_8 hS) ?_
    refine zw_iload_n (n := 17) d40_16 rfl rfl ?_
    refine zw_cI (n := 20) d40_17 (zs_S rfl rfl rfl rfl) (by rw [ml_11]; rfl) (by decide) rfl (zc_mI h (fun r1 C1 h => ?_))
    refine zw_iload_n (n := 21) d40_20 rfl rfl ?_
    refine zw_ic_ne (n := 24) d40_21 rfl (zite h (fun h => ?_) (fun h => ?_))
    · skip
      refine zw_iload_n (n := 25) d40_24 rfl rfl ?_
      refine zw_aload_n (n := 26) d40_25 rfl rfl ?_
      refine zw_iload_n (n := 27) d40_26 rfl rfl ?_
      refine zw_iload_n (n := 28) d40_27 rfl rfl ?_
      refine zw_cI (n := 31) d40_28 (zs_V rfl rfl rfl rfl (by decide) (zj_0 hS).1 (zq_0 hS)) (by rw [ml_41]; rfl) (by decide) rfl (zc_mI h (fun r2 C2 h => ?_))
      refine zw_iadd (n := 32) d40_31 rfl ?_
      refine zw_istore_n (n := 33) d40_32 rfl rfl rfl ?_
      refine zw_iinc (n := 36) d40_33 rfl rfl zk_i_1 rfl ?_
      refine zw_goto d40_36 ?_
      exact h
    · skip
      refine zw_iinc (n := 36) d40_33 rfl rfl zk_i_1 rfl ?_
      refine zw_goto d40_36 ?_
      exact h
  · skip
    refine zw_iload_n (n := 40) d40_39 rfl rfl ?_
    exact zw_iret d40_40 rfl ⟨_, rfl, h⟩

set_option maxRecDepth 20000 in
theorem zf41 (pc : Nat) : zt_code 41 pc = zt_fd zl_41 pc := rfl
theorem d41_0 : zt_code 41 0 = some (.aload_n 0, 0, 0, 0) := (zf41 0).trans rfl
theorem d41_1 : zt_code 41 1 = some (.iload_n 1, 0, 0, 0) := (zf41 1).trans rfl
theorem d41_2 : zt_code 41 2 = some (.invokevirtual 55, 27, 2, 0) := (zf41 2).trans rfl
theorem d41_5 : zt_code 41 5 = some (.ifCond .eq (27), 0, 32, 0) := (zf41 5).trans rfl
theorem d41_8 : zt_code 41 8 = some (.aload_n 0, 0, 0, 0) := (zf41 8).trans rfl
theorem d41_9 : zt_code 41 9 = some (.iload_n 2, 0, 0, 0) := (zf41 9).trans rfl
theorem d41_10 : zt_code 41 10 = some (.invokevirtual 51, 42, 2, 0) := (zf41 10).trans rfl
theorem d41_13 : zt_code 41 13 = some (.ifCond .eq (19), 0, 32, 0) := (zf41 13).trans rfl
theorem d41_16 : zt_code 41 16 = some (.aload_n 0, 0, 0, 0) := (zf41 16).trans rfl
theorem d41_17 : zt_code 41 17 = some (.getfield 31, 0, 9, 1) := (zf41 17).trans rfl
theorem d41_20 : zt_code 41 20 = some (.iload_n 1, 0, 0, 0) := (zf41 20).trans rfl
theorem d41_21 : zt_code 41 21 = some (.bipush (8), 0, 0, 0) := (zf41 21).trans rfl
theorem d41_23 : zt_code 41 23 = some (.imul, 0, 0, 0) := (zf41 23).trans rfl
theorem d41_24 : zt_code 41 24 = some (.iload_n 2, 0, 0, 0) := (zf41 24).trans rfl
theorem d41_25 : zt_code 41 25 = some (.iadd, 0, 0, 0) := (zf41 25).trans rfl
theorem d41_26 : zt_code 41 26 = some (.invokestatic 47, 11, 2, -1) := (zf41 26).trans rfl
theorem d41_29 : zt_code 41 29 = some (.goto (4), 0, 33, 0) := (zf41 29).trans rfl
theorem d41_32 : zt_code 41 32 = some (.iconst (0), 0, 0, 0) := (zf41 32).trans rfl
theorem d41_33 : zt_code 41 33 = some (.ireturn, 0, 0, 0) := (zf41 33).trans rfl
/-- FirstAtTheFirst$Estate.worthTo(II)I -/
theorem vc41 {X : zX} {S : zx_S} {C : zx_C} {q : Int32 → zx_C → Prop} {e : Nat} {a1 : Int32} {a2 : Int32} (hS : zs_0 S e) (h : zCd X 0 27 [.ref e, .int a1] S C (zQi (fun r1 C1 => if (r1 : Int32) = 0 then (q 0 C1) else (zCd X 0 42 [.ref e, .int a2] S C1 (zQi (fun r2 C2 => if (r2 : Int32) = 0 then (q 0 C2) else (zCd X 0 11 [.ref (e + 4), .int ((a1 * 8) + a2)] S C2 (zQi (fun r3 C3 => q r3 C3))))))))) : zCd X 1 41 [.ref e, .int a1, .int a2] S C (zQi q) := by
  refine zc_in ml_41 rfl ?_
  refine zw_aload_n (n := 1) d41_0 rfl rfl ?_
  refine zw_iload_n (n := 2) d41_1 rfl rfl ?_
  refine zw_cI (n := 5) d41_2 (zs_V rfl rfl rfl rfl (by decide) (zj_0 hS).1 (zq_0 hS)) (by rw [ml_27]; rfl) (by decide) rfl (zc_mI h (fun r1 C1 h => ?_))
  refine zw_if_eq (n := 8) d41_5 rfl (zite h (fun h => ?_) (fun h => ?_))
  · skip
    refine zw_iconst (n := 33) d41_32 rfl zk_i_0 ?_
    exact zw_iret d41_33 rfl ⟨_, rfl, h⟩
  · skip
    refine zw_aload_n (n := 9) d41_8 rfl rfl ?_
    refine zw_iload_n (n := 10) d41_9 rfl rfl ?_
    refine zw_cI (n := 13) d41_10 (zs_V rfl rfl rfl rfl (by decide) (zj_0 hS).1 (zq_0 hS)) (by rw [ml_42]; rfl) (by decide) rfl (zc_mI h (fun r2 C2 h => ?_))
    refine zw_if_eq (n := 16) d41_13 rfl (zite h (fun h => ?_) (fun h => ?_))
    · skip
      refine zw_iconst (n := 33) d41_32 rfl zk_i_0 ?_
      exact zw_iret d41_33 rfl ⟨_, rfl, h⟩
    · skip
      refine zw_aload_n (n := 17) d41_16 rfl rfl ?_
      refine zw_getr (n := 20) d41_17 rfl (zj_0 hS).1 (zj_0 hS).2 (zr_0_9 hS) ?_
      refine zw_iload_n (n := 21) d41_20 rfl rfl ?_
      refine zw_bipush (n := 23) d41_21 rfl zk_b_8 ?_
      refine zw_imul (n := 24) d41_23 rfl ?_
      refine zw_iload_n (n := 25) d41_24 rfl rfl ?_
      refine zw_iadd (n := 26) d41_25 rfl ?_
      refine zw_cI (n := 29) d41_26 (zs_S rfl rfl rfl rfl) (by rw [ml_11]; rfl) (by decide) rfl (zc_mI h (fun r3 C3 h => ?_))
      refine zw_goto d41_29 ?_
      exact zw_iret d41_33 rfl ⟨_, rfl, h⟩

set_option maxRecDepth 20000 in
theorem zf42 (pc : Nat) : zt_code 42 pc = zt_fd zl_42 pc := rfl
theorem d42_0 : zt_code 42 0 = some (.iload_n 1, 0, 0, 0) := (zf42 0).trans rfl
theorem d42_1 : zt_code 42 1 = some (.ifCond .lt (15), 0, 16, 0) := (zf42 1).trans rfl
theorem d42_4 : zt_code 42 4 = some (.iload_n 1, 0, 0, 0) := (zf42 4).trans rfl
theorem d42_5 : zt_code 42 5 = some (.aload_n 0, 0, 0, 0) := (zf42 5).trans rfl
theorem d42_6 : zt_code 42 6 = some (.getfield 34, 0, 1, 0) := (zf42 6).trans rfl
theorem d42_9 : zt_code 42 9 = some (.if_icmp .ge (7), 0, 16, 0) := (zf42 9).trans rfl
theorem d42_12 : zt_code 42 12 = some (.iconst (1), 0, 0, 0) := (zf42 12).trans rfl
theorem d42_13 : zt_code 42 13 = some (.goto (4), 0, 17, 0) := (zf42 13).trans rfl
theorem d42_16 : zt_code 42 16 = some (.iconst (0), 0, 0, 0) := (zf42 16).trans rfl
theorem d42_17 : zt_code 42 17 = some (.ireturn, 1, 0, 0) := (zf42 17).trans rfl
/-- FirstAtTheFirst$Estate.isThing(I)Z -/
theorem vc42 {X : zX} {S : zx_S} {C : zx_C} {q : Int32 → zx_C → Prop} {e : Nat} {a1 : Int32} (hS : zs_0 S e) (h : if (a1 : Int32) < 0 then (q 0 C) else (if (a1 : Int32) < (C.1 e 1) then (q 1 C) else (q 0 C))) : zCd X 0 42 [.ref e, .int a1] S C (zQi q) := by
  refine zc_in ml_42 rfl ?_
  refine zw_iload_n (n := 1) d42_0 rfl rfl ?_
  refine zw_if_lt (n := 4) d42_1 rfl (zite h (fun h => ?_) (fun h => ?_))
  · skip
    refine zw_iconst (n := 17) d42_16 rfl zk_i_0 ?_
    exact zw_iret d42_17 rfl ⟨_, rfl, h⟩
  · skip
    refine zw_iload_n (n := 5) d42_4 rfl rfl ?_
    refine zw_aload_n (n := 6) d42_5 rfl rfl ?_
    refine zw_geti (n := 9) d42_6 rfl (zj_0 hS).1 (zj_0 hS).2 ?_
    refine zw_ic_ge (n := 12) d42_9 rfl (zite h (fun h => ?_) (fun h => ?_))
    · skip
      refine zw_iconst (n := 13) d42_12 rfl zk_i_1 ?_
      refine zw_goto d42_13 ?_
      exact zw_iret d42_17 rfl ⟨_, rfl, h⟩
    · skip
      refine zw_iconst (n := 17) d42_16 rfl zk_i_0 ?_
      exact zw_iret d42_17 rfl ⟨_, rfl, h⟩

set_option maxRecDepth 20000 in
theorem zf43 (pc : Nat) : zt_code 43 pc = zt_fd zl_43 pc := rfl
theorem d43_0 : zt_code 43 0 = some (.iconst (0), 0, 0, 0) := (zf43 0).trans rfl
theorem d43_1 : zt_code 43 1 = some (.istore_n 2, 0, 0, 0) := (zf43 1).trans rfl
theorem d43_2 : zt_code 43 2 = some (.iconst (0), 0, 0, 0) := (zf43 2).trans rfl
theorem d43_3 : zt_code 43 3 = some (.istore_n 3, 0, 0, 0) := (zf43 3).trans rfl
theorem d43_4 : zt_code 43 4 = some (.iload_n 3, 0, 0, 0) := (zf43 4).trans rfl
theorem d43_5 : zt_code 43 5 = some (.aload_n 0, 0, 0, 0) := (zf43 5).trans rfl
theorem d43_6 : zt_code 43 6 = some (.getfield 34, 0, 1, 0) := (zf43 6).trans rfl
theorem d43_9 : zt_code 43 9 = some (.if_icmp .ge (27), 0, 36, 0) := (zf43 9).trans rfl
theorem d43_12 : zt_code 43 12 = some (.aload_n 0, 0, 0, 0) := (zf43 12).trans rfl
theorem d43_13 : zt_code 43 13 = some (.getfield 28, 0, 8, 1) := (zf43 13).trans rfl
theorem d43_16 : zt_code 43 16 = some (.iload_n 3, 0, 0, 0) := (zf43 16).trans rfl
theorem d43_17 : zt_code 43 17 = some (.invokestatic 47, 11, 2, -1) := (zf43 17).trans rfl
theorem d43_20 : zt_code 43 20 = some (.iload_n 1, 0, 0, 0) := (zf43 20).trans rfl
theorem d43_21 : zt_code 43 21 = some (.if_icmp .ne (9), 0, 30, 0) := (zf43 21).trans rfl
theorem d43_24 : zt_code 43 24 = some (.iload_n 2, 0, 0, 0) := (zf43 24).trans rfl
theorem d43_25 : zt_code 43 25 = some (.iconst (1), 0, 0, 0) := (zf43 25).trans rfl
theorem d43_26 : zt_code 43 26 = some (.iload_n 3, 0, 0, 0) := (zf43 26).trans rfl
theorem d43_27 : zt_code 43 27 = some (.ishl, 0, 0, 0) := (zf43 27).trans rfl
theorem d43_28 : zt_code 43 28 = some (.ior, 0, 0, 0) := (zf43 28).trans rfl
theorem d43_29 : zt_code 43 29 = some (.istore_n 2, 0, 0, 0) := (zf43 29).trans rfl
theorem d43_30 : zt_code 43 30 = some (.iinc 3 (1), 0, 0, 0) := (zf43 30).trans rfl
theorem d43_33 : zt_code 43 33 = some (.goto (-29), 0, 4, 0) := (zf43 33).trans rfl
theorem d43_36 : zt_code 43 36 = some (.iload_n 2, 0, 0, 0) := (zf43 36).trans rfl
theorem d43_37 : zt_code 43 37 = some (.ireturn, 0, 0, 0) := (zf43 37).trans rfl
/-- FirstAtTheFirst$Estate.setOf(I)I -/
theorem vc43 {X : zX} {S : zx_S} {C : zx_C} {q : Int32 → zx_C → Prop} {e : Nat} {a1 : Int32} (hS : zs_0 S e) (h : zW X 1 43 4 [.ref e, .int a1, .int 0, .int 0] [] S C (zQi q)) : zCd X 1 43 [.ref e, .int a1] S C (zQi q) := by
  refine zc_in ml_43 rfl ?_
  refine zw_iconst (n := 1) d43_0 rfl zk_i_0 ?_
  refine zw_istore_n (n := 2) d43_1 rfl rfl rfl ?_
  refine zw_iconst (n := 3) d43_2 rfl zk_i_0 ?_
  refine zw_istore_n (n := 4) d43_3 rfl rfl rfl ?_
  exact h
theorem vc43_4 {X : zX} {S : zx_S} {C : zx_C} {q : Int32 → zx_C → Prop} {e : Nat} {a1 : Int32} {i1 : Int32} {i2 : Int32} {i3 : Int32} (hS : zs_0 S e) (h : if (i3 : Int32) < (C.1 e 1) then (zCd X 0 11 [.ref (e + 3), .int i3] S C (zQi (fun r1 C1 => if (r1 : Int32) = i1 then (zW X 1 43 4 [.ref e, .int i1, .int (i2 ||| (1 <<< (i3 &&& 31))), .int (i3 + 1)] [] S C1 (zQi q)) else (zW X 1 43 4 [.ref e, .int i1, .int i2, .int (i3 + 1)] [] S C1 (zQi q))))) else (q i2 C)) : zW X 1 43 4 [.ref e, .int i1, .int i2, .int i3] [] S C (zQi q) := by
  refine zw_iload_n (n := 5) d43_4 rfl rfl ?_
  refine zw_aload_n (n := 6) d43_5 rfl rfl ?_
  refine zw_geti (n := 9) d43_6 rfl (zj_0 hS).1 (zj_0 hS).2 ?_
  refine zw_ic_ge (n := 12) d43_9 rfl (zite h (fun h => ?_) (fun h => ?_))
  · skip
    refine zw_aload_n (n := 13) d43_12 rfl rfl ?_
    refine zw_getr (n := 16) d43_13 rfl (zj_0 hS).1 (zj_0 hS).2 (zr_0_8 hS) ?_
    refine zw_iload_n (n := 17) d43_16 rfl rfl ?_
    refine zw_cI (n := 20) d43_17 (zs_S rfl rfl rfl rfl) (by rw [ml_11]; rfl) (by decide) rfl (zc_mI h (fun r1 C1 h => ?_))
    refine zw_iload_n (n := 21) d43_20 rfl rfl ?_
    refine zw_ic_ne (n := 24) d43_21 rfl (zite h (fun h => ?_) (fun h => ?_))
    · skip
      refine zw_iload_n (n := 25) d43_24 rfl rfl ?_
      refine zw_iconst (n := 26) d43_25 rfl zk_i_1 ?_
      refine zw_iload_n (n := 27) d43_26 rfl rfl ?_
      refine zw_ishl (n := 28) d43_27 rfl ?_
      refine zw_ior (n := 29) d43_28 rfl ?_
      refine zw_istore_n (n := 30) d43_29 rfl rfl rfl ?_
      refine zw_iinc (n := 33) d43_30 rfl rfl zk_i_1 rfl ?_
      refine zw_goto d43_33 ?_
      exact h
    · skip
      refine zw_iinc (n := 33) d43_30 rfl rfl zk_i_1 rfl ?_
      refine zw_goto d43_33 ?_
      exact h
  · skip
    refine zw_iload_n (n := 37) d43_36 rfl rfl ?_
    exact zw_iret d43_37 rfl ⟨_, rfl, h⟩

set_option maxRecDepth 20000 in
theorem zf44 (pc : Nat) : zt_code 44 pc = zt_fd zl_44 pc := rfl
theorem d44_0 : zt_code 44 0 = some (.iload_n 0, 0, 0, 0) := (zf44 0).trans rfl
theorem d44_1 : zt_code 44 1 = some (.iload_n 0, 0, 0, 0) := (zf44 1).trans rfl
theorem d44_2 : zt_code 44 2 = some (.iconst (1), 0, 0, 0) := (zf44 2).trans rfl
theorem d44_3 : zt_code 44 3 = some (.iushr, 0, 0, 0) := (zf44 3).trans rfl
theorem d44_4 : zt_code 44 4 = some (.ldc_w 265, 0, 0, 1431655765) := (zf44 4).trans rfl
theorem d44_7 : zt_code 44 7 = some (.iand, 0, 0, 0) := (zf44 7).trans rfl
theorem d44_8 : zt_code 44 8 = some (.isub, 0, 0, 0) := (zf44 8).trans rfl
theorem d44_9 : zt_code 44 9 = some (.istore_n 0, 0, 0, 0) := (zf44 9).trans rfl
theorem d44_10 : zt_code 44 10 = some (.iload_n 0, 0, 0, 0) := (zf44 10).trans rfl
theorem d44_11 : zt_code 44 11 = some (.ldc_w 266, 0, 0, 858993459) := (zf44 11).trans rfl
theorem d44_14 : zt_code 44 14 = some (.iand, 0, 0, 0) := (zf44 14).trans rfl
theorem d44_15 : zt_code 44 15 = some (.iload_n 0, 0, 0, 0) := (zf44 15).trans rfl
theorem d44_16 : zt_code 44 16 = some (.iconst (2), 0, 0, 0) := (zf44 16).trans rfl
theorem d44_17 : zt_code 44 17 = some (.iushr, 0, 0, 0) := (zf44 17).trans rfl
theorem d44_18 : zt_code 44 18 = some (.ldc_w 266, 0, 0, 858993459) := (zf44 18).trans rfl
theorem d44_21 : zt_code 44 21 = some (.iand, 0, 0, 0) := (zf44 21).trans rfl
theorem d44_22 : zt_code 44 22 = some (.iadd, 0, 0, 0) := (zf44 22).trans rfl
theorem d44_23 : zt_code 44 23 = some (.istore_n 0, 0, 0, 0) := (zf44 23).trans rfl
theorem d44_24 : zt_code 44 24 = some (.iload_n 0, 0, 0, 0) := (zf44 24).trans rfl
theorem d44_25 : zt_code 44 25 = some (.iload_n 0, 0, 0, 0) := (zf44 25).trans rfl
theorem d44_26 : zt_code 44 26 = some (.iconst (4), 0, 0, 0) := (zf44 26).trans rfl
theorem d44_27 : zt_code 44 27 = some (.iushr, 0, 0, 0) := (zf44 27).trans rfl
theorem d44_28 : zt_code 44 28 = some (.iadd, 0, 0, 0) := (zf44 28).trans rfl
theorem d44_29 : zt_code 44 29 = some (.ldc_w 267, 0, 0, 252645135) := (zf44 29).trans rfl
theorem d44_32 : zt_code 44 32 = some (.iand, 0, 0, 0) := (zf44 32).trans rfl
theorem d44_33 : zt_code 44 33 = some (.istore_n 0, 0, 0, 0) := (zf44 33).trans rfl
theorem d44_34 : zt_code 44 34 = some (.iload_n 0, 0, 0, 0) := (zf44 34).trans rfl
theorem d44_35 : zt_code 44 35 = some (.iload_n 0, 0, 0, 0) := (zf44 35).trans rfl
theorem d44_36 : zt_code 44 36 = some (.bipush (8), 0, 0, 0) := (zf44 36).trans rfl
theorem d44_38 : zt_code 44 38 = some (.iushr, 0, 0, 0) := (zf44 38).trans rfl
theorem d44_39 : zt_code 44 39 = some (.iadd, 0, 0, 0) := (zf44 39).trans rfl
theorem d44_40 : zt_code 44 40 = some (.istore_n 0, 0, 0, 0) := (zf44 40).trans rfl
theorem d44_41 : zt_code 44 41 = some (.iload_n 0, 0, 0, 0) := (zf44 41).trans rfl
theorem d44_42 : zt_code 44 42 = some (.iload_n 0, 0, 0, 0) := (zf44 42).trans rfl
theorem d44_43 : zt_code 44 43 = some (.bipush (16), 0, 0, 0) := (zf44 43).trans rfl
theorem d44_45 : zt_code 44 45 = some (.iushr, 0, 0, 0) := (zf44 45).trans rfl
theorem d44_46 : zt_code 44 46 = some (.iadd, 0, 0, 0) := (zf44 46).trans rfl
theorem d44_47 : zt_code 44 47 = some (.istore_n 0, 0, 0, 0) := (zf44 47).trans rfl
theorem d44_48 : zt_code 44 48 = some (.iload_n 0, 0, 0, 0) := (zf44 48).trans rfl
theorem d44_49 : zt_code 44 49 = some (.bipush (63), 0, 0, 0) := (zf44 49).trans rfl
theorem d44_51 : zt_code 44 51 = some (.iand, 0, 0, 0) := (zf44 51).trans rfl
theorem d44_52 : zt_code 44 52 = some (.ireturn, 0, 0, 0) := (zf44 52).trans rfl
/-- java/lang/Integer.bitCount(I)I -/
theorem vc44 {X : zX} {S : zx_S} {C : zx_C} {q : Int32 → zx_C → Prop} {a1 : Int32}  (h : q ((((((((a1 - ((Int32.toUInt32 a1 >>> (Int32.toUInt32 1 &&& Int32.toUInt32 31)).toInt32 &&& 1431655765)) &&& 858993459) + ((Int32.toUInt32 (a1 - ((Int32.toUInt32 a1 >>> (Int32.toUInt32 1 &&& Int32.toUInt32 31)).toInt32 &&& 1431655765)) >>> (Int32.toUInt32 2 &&& Int32.toUInt32 31)).toInt32 &&& 858993459)) + (Int32.toUInt32 (((a1 - ((Int32.toUInt32 a1 >>> (Int32.toUInt32 1 &&& Int32.toUInt32 31)).toInt32 &&& 1431655765)) &&& 858993459) + ((Int32.toUInt32 (a1 - ((Int32.toUInt32 a1 >>> (Int32.toUInt32 1 &&& Int32.toUInt32 31)).toInt32 &&& 1431655765)) >>> (Int32.toUInt32 2 &&& Int32.toUInt32 31)).toInt32 &&& 858993459)) >>> (Int32.toUInt32 4 &&& Int32.toUInt32 31)).toInt32) &&& 252645135) + (Int32.toUInt32 (((((a1 - ((Int32.toUInt32 a1 >>> (Int32.toUInt32 1 &&& Int32.toUInt32 31)).toInt32 &&& 1431655765)) &&& 858993459) + ((Int32.toUInt32 (a1 - ((Int32.toUInt32 a1 >>> (Int32.toUInt32 1 &&& Int32.toUInt32 31)).toInt32 &&& 1431655765)) >>> (Int32.toUInt32 2 &&& Int32.toUInt32 31)).toInt32 &&& 858993459)) + (Int32.toUInt32 (((a1 - ((Int32.toUInt32 a1 >>> (Int32.toUInt32 1 &&& Int32.toUInt32 31)).toInt32 &&& 1431655765)) &&& 858993459) + ((Int32.toUInt32 (a1 - ((Int32.toUInt32 a1 >>> (Int32.toUInt32 1 &&& Int32.toUInt32 31)).toInt32 &&& 1431655765)) >>> (Int32.toUInt32 2 &&& Int32.toUInt32 31)).toInt32 &&& 858993459)) >>> (Int32.toUInt32 4 &&& Int32.toUInt32 31)).toInt32) &&& 252645135) >>> (Int32.toUInt32 8 &&& Int32.toUInt32 31)).toInt32) + (Int32.toUInt32 ((((((a1 - ((Int32.toUInt32 a1 >>> (Int32.toUInt32 1 &&& Int32.toUInt32 31)).toInt32 &&& 1431655765)) &&& 858993459) + ((Int32.toUInt32 (a1 - ((Int32.toUInt32 a1 >>> (Int32.toUInt32 1 &&& Int32.toUInt32 31)).toInt32 &&& 1431655765)) >>> (Int32.toUInt32 2 &&& Int32.toUInt32 31)).toInt32 &&& 858993459)) + (Int32.toUInt32 (((a1 - ((Int32.toUInt32 a1 >>> (Int32.toUInt32 1 &&& Int32.toUInt32 31)).toInt32 &&& 1431655765)) &&& 858993459) + ((Int32.toUInt32 (a1 - ((Int32.toUInt32 a1 >>> (Int32.toUInt32 1 &&& Int32.toUInt32 31)).toInt32 &&& 1431655765)) >>> (Int32.toUInt32 2 &&& Int32.toUInt32 31)).toInt32 &&& 858993459)) >>> (Int32.toUInt32 4 &&& Int32.toUInt32 31)).toInt32) &&& 252645135) + (Int32.toUInt32 (((((a1 - ((Int32.toUInt32 a1 >>> (Int32.toUInt32 1 &&& Int32.toUInt32 31)).toInt32 &&& 1431655765)) &&& 858993459) + ((Int32.toUInt32 (a1 - ((Int32.toUInt32 a1 >>> (Int32.toUInt32 1 &&& Int32.toUInt32 31)).toInt32 &&& 1431655765)) >>> (Int32.toUInt32 2 &&& Int32.toUInt32 31)).toInt32 &&& 858993459)) + (Int32.toUInt32 (((a1 - ((Int32.toUInt32 a1 >>> (Int32.toUInt32 1 &&& Int32.toUInt32 31)).toInt32 &&& 1431655765)) &&& 858993459) + ((Int32.toUInt32 (a1 - ((Int32.toUInt32 a1 >>> (Int32.toUInt32 1 &&& Int32.toUInt32 31)).toInt32 &&& 1431655765)) >>> (Int32.toUInt32 2 &&& Int32.toUInt32 31)).toInt32 &&& 858993459)) >>> (Int32.toUInt32 4 &&& Int32.toUInt32 31)).toInt32) &&& 252645135) >>> (Int32.toUInt32 8 &&& Int32.toUInt32 31)).toInt32) >>> (Int32.toUInt32 16 &&& Int32.toUInt32 31)).toInt32) &&& 63) C) : zCd X 0 44 [.int a1] S C (zQi q) := by
  refine zc_in ml_44 rfl ?_
  refine zw_iload_n (n := 1) d44_0 rfl rfl ?_
  refine zw_iload_n (n := 2) d44_1 rfl rfl ?_
  refine zw_iconst (n := 3) d44_2 rfl zk_i_1 ?_
  refine zw_iushr (n := 4) d44_3 rfl ?_
  refine zw_ldcw (n := 7) d44_4 rfl zk_i_1431655765 ?_
  refine zw_iand (n := 8) d44_7 rfl ?_
  refine zw_isub (n := 9) d44_8 rfl ?_
  refine zw_istore_n (n := 10) d44_9 rfl rfl rfl ?_
  refine zw_iload_n (n := 11) d44_10 rfl rfl ?_
  refine zw_ldcw (n := 14) d44_11 rfl zk_i_858993459 ?_
  refine zw_iand (n := 15) d44_14 rfl ?_
  refine zw_iload_n (n := 16) d44_15 rfl rfl ?_
  refine zw_iconst (n := 17) d44_16 rfl zk_i_2 ?_
  refine zw_iushr (n := 18) d44_17 rfl ?_
  refine zw_ldcw (n := 21) d44_18 rfl zk_i_858993459 ?_
  refine zw_iand (n := 22) d44_21 rfl ?_
  refine zw_iadd (n := 23) d44_22 rfl ?_
  refine zw_istore_n (n := 24) d44_23 rfl rfl rfl ?_
  refine zw_iload_n (n := 25) d44_24 rfl rfl ?_
  refine zw_iload_n (n := 26) d44_25 rfl rfl ?_
  refine zw_iconst (n := 27) d44_26 rfl zk_i_4 ?_
  refine zw_iushr (n := 28) d44_27 rfl ?_
  refine zw_iadd (n := 29) d44_28 rfl ?_
  refine zw_ldcw (n := 32) d44_29 rfl zk_i_252645135 ?_
  refine zw_iand (n := 33) d44_32 rfl ?_
  refine zw_istore_n (n := 34) d44_33 rfl rfl rfl ?_
  refine zw_iload_n (n := 35) d44_34 rfl rfl ?_
  refine zw_iload_n (n := 36) d44_35 rfl rfl ?_
  refine zw_bipush (n := 38) d44_36 rfl zk_b_8 ?_
  refine zw_iushr (n := 39) d44_38 rfl ?_
  refine zw_iadd (n := 40) d44_39 rfl ?_
  refine zw_istore_n (n := 41) d44_40 rfl rfl rfl ?_
  refine zw_iload_n (n := 42) d44_41 rfl rfl ?_
  refine zw_iload_n (n := 43) d44_42 rfl rfl ?_
  refine zw_bipush (n := 45) d44_43 rfl zk_b_16 ?_
  refine zw_iushr (n := 46) d44_45 rfl ?_
  refine zw_iadd (n := 47) d44_46 rfl ?_
  refine zw_istore_n (n := 48) d44_47 rfl rfl rfl ?_
  refine zw_iload_n (n := 49) d44_48 rfl rfl ?_
  refine zw_bipush (n := 51) d44_49 rfl zk_b_63 ?_
  refine zw_iand (n := 52) d44_51 rfl ?_
  exact zw_iret d44_52 rfl ⟨_, rfl, h⟩

set_option maxRecDepth 20000 in
theorem zf46 (pc : Nat) : zt_code 46 pc = zt_fd zl_46 pc := rfl
theorem d46_0 : zt_code 46 0 = some (.aload_n 0, 0, 0, 0) := (zf46 0).trans rfl
theorem d46_1 : zt_code 46 1 = some (.getfield 9, 0, 0, 0) := (zf46 1).trans rfl
theorem d46_4 : zt_code 46 4 = some (.iconst (2), 0, 0, 0) := (zf46 4).trans rfl
theorem d46_5 : zt_code 46 5 = some (.if_icmp .le (7), 0, 12, 0) := (zf46 5).trans rfl
theorem d46_8 : zt_code 46 8 = some (.iconst (3), 0, 0, 0) := (zf46 8).trans rfl
theorem d46_9 : zt_code 46 9 = some (.goto (4), 0, 13, 0) := (zf46 9).trans rfl
theorem d46_12 : zt_code 46 12 = some (.iconst (2), 0, 0, 0) := (zf46 12).trans rfl
theorem d46_13 : zt_code 46 13 = some (.istore_n 3, 0, 0, 0) := (zf46 13).trans rfl
theorem d46_14 : zt_code 46 14 = some (.iload_n 1, 0, 0, 0) := (zf46 14).trans rfl
theorem d46_15 : zt_code 46 15 = some (.tableswitch (64) (0) (2) #[25, 29, 56], 0, 0, 0) := (zf46 15).trans rfl
theorem d46_40 : zt_code 46 40 = some (.iload_n 2, 0, 0, 0) := (zf46 40).trans rfl
theorem d46_41 : zt_code 46 41 = some (.iload_n 3, 0, 0, 0) := (zf46 41).trans rfl
theorem d46_42 : zt_code 46 42 = some (.irem, 0, 0, 0) := (zf46 42).trans rfl
theorem d46_43 : zt_code 46 43 = some (.ireturn, 0, 0, 0) := (zf46 43).trans rfl
theorem d46_44 : zt_code 46 44 = some (.iload_n 2, 0, 0, 0) := (zf46 44).trans rfl
theorem d46_45 : zt_code 46 45 = some (.iconst (2), 0, 0, 0) := (zf46 45).trans rfl
theorem d46_46 : zt_code 46 46 = some (.iload_n 3, 0, 0, 0) := (zf46 46).trans rfl
theorem d46_47 : zt_code 46 47 = some (.imul, 0, 0, 0) := (zf46 47).trans rfl
theorem d46_48 : zt_code 46 48 = some (.irem, 0, 0, 0) := (zf46 48).trans rfl
theorem d46_49 : zt_code 46 49 = some (.istore 4, 0, 0, 0) := (zf46 49).trans rfl
theorem d46_51 : zt_code 46 51 = some (.iload 4, 0, 0, 0) := (zf46 51).trans rfl
theorem d46_53 : zt_code 46 53 = some (.iload_n 3, 0, 0, 0) := (zf46 53).trans rfl
theorem d46_54 : zt_code 46 54 = some (.if_icmp .ge (8), 0, 62, 0) := (zf46 54).trans rfl
theorem d46_57 : zt_code 46 57 = some (.iload 4, 0, 0, 0) := (zf46 57).trans rfl
theorem d46_59 : zt_code 46 59 = some (.goto (11), 0, 70, 0) := (zf46 59).trans rfl
theorem d46_62 : zt_code 46 62 = some (.iconst (2), 0, 0, 0) := (zf46 62).trans rfl
theorem d46_63 : zt_code 46 63 = some (.iload_n 3, 0, 0, 0) := (zf46 63).trans rfl
theorem d46_64 : zt_code 46 64 = some (.imul, 0, 0, 0) := (zf46 64).trans rfl
theorem d46_65 : zt_code 46 65 = some (.iconst (1), 0, 0, 0) := (zf46 65).trans rfl
theorem d46_66 : zt_code 46 66 = some (.isub, 0, 0, 0) := (zf46 66).trans rfl
theorem d46_67 : zt_code 46 67 = some (.iload 4, 0, 0, 0) := (zf46 67).trans rfl
theorem d46_69 : zt_code 46 69 = some (.isub, 0, 0, 0) := (zf46 69).trans rfl
theorem d46_70 : zt_code 46 70 = some (.ireturn, 0, 0, 0) := (zf46 70).trans rfl
theorem d46_71 : zt_code 46 71 = some (.iload_n 2, 0, 0, 0) := (zf46 71).trans rfl
theorem d46_72 : zt_code 46 72 = some (.iload_n 3, 0, 0, 0) := (zf46 72).trans rfl
theorem d46_73 : zt_code 46 73 = some (.invokestatic 62, 47, 2, -1) := (zf46 73).trans rfl
theorem d46_76 : zt_code 46 76 = some (.iload_n 3, 0, 0, 0) := (zf46 76).trans rfl
theorem d46_77 : zt_code 46 77 = some (.irem, 0, 0, 0) := (zf46 77).trans rfl
theorem d46_78 : zt_code 46 78 = some (.ireturn, 0, 0, 0) := (zf46 78).trans rfl
theorem d46_79 : zt_code 46 79 = some (.aload_n 0, 0, 0, 0) := (zf46 79).trans rfl
theorem d46_80 : zt_code 46 80 = some (.getfield 18, 0, 5, 0) := (zf46 80).trans rfl
theorem d46_83 : zt_code 46 83 = some (.ifCond .le (19), 0, 102, 0) := (zf46 83).trans rfl
theorem d46_86 : zt_code 46 86 = some (.aload_n 0, 0, 0, 0) := (zf46 86).trans rfl
theorem d46_87 : zt_code 46 87 = some (.getfield 21, 0, 6, 1) := (zf46 87).trans rfl
theorem d46_90 : zt_code 46 90 = some (.iload_n 2, 0, 0, 0) := (zf46 90).trans rfl
theorem d46_91 : zt_code 46 91 = some (.aload_n 0, 0, 0, 0) := (zf46 91).trans rfl
theorem d46_92 : zt_code 46 92 = some (.getfield 18, 0, 5, 0) := (zf46 92).trans rfl
theorem d46_95 : zt_code 46 95 = some (.irem, 0, 0, 0) := (zf46 95).trans rfl
theorem d46_96 : zt_code 46 96 = some (.invokestatic 47, 11, 2, -1) := (zf46 96).trans rfl
theorem d46_99 : zt_code 46 99 = some (.goto (4), 0, 103, 0) := (zf46 99).trans rfl
theorem d46_102 : zt_code 46 102 = some (.iconst (0), 0, 0, 0) := (zf46 102).trans rfl
theorem d46_103 : zt_code 46 103 = some (.ireturn, 0, 0, 0) := (zf46 103).trans rfl
/-- FirstAtTheFirst$Estate.sideAt(II)I -/
theorem vc46 {X : zX} {S : zx_S} {C : zx_C} {q : Int32 → zx_C → Prop} {e : Nat} {a1 : Int32} {a2 : Int32} (hS : zs_0 S e) (h : if (2 : Int32) < (C.1 e 0) then (if Int32.toInt a1 = 0 then (q (a2 - a2 / 3 * 3) C) else (if Int32.toInt a1 = 0 + 1 then (¬ ((2 * 3) : Int32) = 0 ∧ (if ((a2 - a2 / (2 * 3) * (2 * 3)) : Int32) < 3 then (q (a2 - a2 / (2 * 3) * (2 * 3)) C) else (q (((2 * 3) - 1) - (a2 - a2 / (2 * 3) * (2 * 3))) C))) else (if Int32.toInt a1 = 0 + 1 + 1 then (zCd X 0 47 [.int a2, .int 3] S C (zQi (fun r1 C1 => q (r1 - r1 / 3 * 3) C1))) else (if (0 : Int32) < (C.1 e 5) then (¬ ((C.1 e 5) : Int32) = 0 ∧ (zCd X 0 11 [.ref (e + 1), .int (a2 - a2 / (C.1 e 5) * (C.1 e 5))] S C (zQi (fun r2 C2 => q r2 C2)))) else (q 0 C))))) else (if Int32.toInt a1 = 0 then (q (a2 - a2 / 2 * 2) C) else (if Int32.toInt a1 = 0 + 1 then (¬ ((2 * 2) : Int32) = 0 ∧ (if ((a2 - a2 / (2 * 2) * (2 * 2)) : Int32) < 2 then (q (a2 - a2 / (2 * 2) * (2 * 2)) C) else (q (((2 * 2) - 1) - (a2 - a2 / (2 * 2) * (2 * 2))) C))) else (if Int32.toInt a1 = 0 + 1 + 1 then (zCd X 0 47 [.int a2, .int 2] S C (zQi (fun r3 C3 => q (r3 - r3 / 2 * 2) C3))) else (if (0 : Int32) < (C.1 e 5) then (¬ ((C.1 e 5) : Int32) = 0 ∧ (zCd X 0 11 [.ref (e + 1), .int (a2 - a2 / (C.1 e 5) * (C.1 e 5))] S C (zQi (fun r4 C4 => q r4 C4)))) else (q 0 C)))))) : zCd X 1 46 [.ref e, .int a1, .int a2] S C (zQi q) := by
  refine zc_in ml_46 rfl ?_
  refine zw_aload_n (n := 1) d46_0 rfl rfl ?_
  refine zw_geti (n := 4) d46_1 rfl (zj_0 hS).1 (zj_0 hS).2 ?_
  refine zw_iconst (n := 5) d46_4 rfl zk_i_2 ?_
  refine zw_ic_le (n := 8) d46_5 rfl (zite h (fun h => ?_) (fun h => ?_))
  · skip
    refine zw_iconst (n := 9) d46_8 rfl zk_i_3 ?_
    refine zw_goto d46_9 ?_
    refine zw_istore_n (n := 14) d46_13 rfl rfl rfl ?_
    refine zw_iload_n (n := 15) d46_14 rfl rfl ?_
    refine zw_tsw d46_15 rfl ?_
    refine zw_sw1 (t := 40) rfl (zite h (fun h => ?_) (fun h => ?_))
    · skip
      refine zw_iload_n (n := 41) d46_40 rfl rfl ?_
      refine zw_iload_n (n := 42) d46_41 rfl rfl ?_
      refine zw_irem (n := 43) d46_42 rfl (by decide) ?_
      exact zw_iret d46_43 rfl ⟨_, rfl, h⟩
    · skip
      refine zw_sw1 (t := 44) rfl (zite h (fun h => ?_) (fun h => ?_))
      · skip
        refine zw_iload_n (n := 45) d46_44 rfl rfl ?_
        refine zw_iconst (n := 46) d46_45 rfl zk_i_2 ?_
        refine zw_iload_n (n := 47) d46_46 rfl rfl ?_
        refine zw_imul (n := 48) d46_47 rfl ?_
        obtain ⟨hy, h⟩ := h
        refine zw_irem (n := 49) d46_48 rfl hy ?_
        refine zw_istore (n := 51) d46_49 rfl rfl rfl ?_
        refine zw_iload (n := 53) d46_51 rfl rfl ?_
        refine zw_iload_n (n := 54) d46_53 rfl rfl ?_
        refine zw_ic_ge (n := 57) d46_54 rfl (zite h (fun h => ?_) (fun h => ?_))
        · skip
          refine zw_iload (n := 59) d46_57 rfl rfl ?_
          refine zw_goto d46_59 ?_
          exact zw_iret d46_70 rfl ⟨_, rfl, h⟩
        · skip
          refine zw_iconst (n := 63) d46_62 rfl zk_i_2 ?_
          refine zw_iload_n (n := 64) d46_63 rfl rfl ?_
          refine zw_imul (n := 65) d46_64 rfl ?_
          refine zw_iconst (n := 66) d46_65 rfl zk_i_1 ?_
          refine zw_isub (n := 67) d46_66 rfl ?_
          refine zw_iload (n := 69) d46_67 rfl rfl ?_
          refine zw_isub (n := 70) d46_69 rfl ?_
          exact zw_iret d46_70 rfl ⟨_, rfl, h⟩
      · skip
        refine zw_sw1 (t := 71) rfl (zite h (fun h => ?_) (fun h => ?_))
        · skip
          refine zw_iload_n (n := 72) d46_71 rfl rfl ?_
          refine zw_iload_n (n := 73) d46_72 rfl rfl ?_
          refine zw_cI (n := 76) d46_73 (zs_S rfl rfl rfl rfl) (by rw [ml_47]; rfl) (by decide) rfl (zc_mI h (fun r1 C1 h => ?_))
          refine zw_iload_n (n := 77) d46_76 rfl rfl ?_
          refine zw_irem (n := 78) d46_77 rfl (by decide) ?_
          exact zw_iret d46_78 rfl ⟨_, rfl, h⟩
        · skip
          refine zw_sw0 (t := 79) rfl ?_
          refine zw_aload_n (n := 80) d46_79 rfl rfl ?_
          refine zw_geti (n := 83) d46_80 rfl (zj_0 hS).1 (zj_0 hS).2 ?_
          refine zw_if_le (n := 86) d46_83 rfl (zite h (fun h => ?_) (fun h => ?_))
          · skip
            refine zw_aload_n (n := 87) d46_86 rfl rfl ?_
            refine zw_getr (n := 90) d46_87 rfl (zj_0 hS).1 (zj_0 hS).2 (zr_0_6 hS) ?_
            refine zw_iload_n (n := 91) d46_90 rfl rfl ?_
            refine zw_aload_n (n := 92) d46_91 rfl rfl ?_
            refine zw_geti (n := 95) d46_92 rfl (zj_0 hS).1 (zj_0 hS).2 ?_
            obtain ⟨hy, h⟩ := h
            refine zw_irem (n := 96) d46_95 rfl hy ?_
            refine zw_cI (n := 99) d46_96 (zs_S rfl rfl rfl rfl) (by rw [ml_11]; rfl) (by decide) rfl (zc_mI h (fun r2 C2 h => ?_))
            refine zw_goto d46_99 ?_
            exact zw_iret d46_103 rfl ⟨_, rfl, h⟩
          · skip
            refine zw_iconst (n := 103) d46_102 rfl zk_i_0 ?_
            exact zw_iret d46_103 rfl ⟨_, rfl, h⟩
  · skip
    refine zw_iconst (n := 13) d46_12 rfl zk_i_2 ?_
    refine zw_istore_n (n := 14) d46_13 rfl rfl rfl ?_
    refine zw_iload_n (n := 15) d46_14 rfl rfl ?_
    refine zw_tsw d46_15 rfl ?_
    refine zw_sw1 (t := 40) rfl (zite h (fun h => ?_) (fun h => ?_))
    · skip
      refine zw_iload_n (n := 41) d46_40 rfl rfl ?_
      refine zw_iload_n (n := 42) d46_41 rfl rfl ?_
      refine zw_irem (n := 43) d46_42 rfl (by decide) ?_
      exact zw_iret d46_43 rfl ⟨_, rfl, h⟩
    · skip
      refine zw_sw1 (t := 44) rfl (zite h (fun h => ?_) (fun h => ?_))
      · skip
        refine zw_iload_n (n := 45) d46_44 rfl rfl ?_
        refine zw_iconst (n := 46) d46_45 rfl zk_i_2 ?_
        refine zw_iload_n (n := 47) d46_46 rfl rfl ?_
        refine zw_imul (n := 48) d46_47 rfl ?_
        obtain ⟨hy, h⟩ := h
        refine zw_irem (n := 49) d46_48 rfl hy ?_
        refine zw_istore (n := 51) d46_49 rfl rfl rfl ?_
        refine zw_iload (n := 53) d46_51 rfl rfl ?_
        refine zw_iload_n (n := 54) d46_53 rfl rfl ?_
        refine zw_ic_ge (n := 57) d46_54 rfl (zite h (fun h => ?_) (fun h => ?_))
        · skip
          refine zw_iload (n := 59) d46_57 rfl rfl ?_
          refine zw_goto d46_59 ?_
          exact zw_iret d46_70 rfl ⟨_, rfl, h⟩
        · skip
          refine zw_iconst (n := 63) d46_62 rfl zk_i_2 ?_
          refine zw_iload_n (n := 64) d46_63 rfl rfl ?_
          refine zw_imul (n := 65) d46_64 rfl ?_
          refine zw_iconst (n := 66) d46_65 rfl zk_i_1 ?_
          refine zw_isub (n := 67) d46_66 rfl ?_
          refine zw_iload (n := 69) d46_67 rfl rfl ?_
          refine zw_isub (n := 70) d46_69 rfl ?_
          exact zw_iret d46_70 rfl ⟨_, rfl, h⟩
      · skip
        refine zw_sw1 (t := 71) rfl (zite h (fun h => ?_) (fun h => ?_))
        · skip
          refine zw_iload_n (n := 72) d46_71 rfl rfl ?_
          refine zw_iload_n (n := 73) d46_72 rfl rfl ?_
          refine zw_cI (n := 76) d46_73 (zs_S rfl rfl rfl rfl) (by rw [ml_47]; rfl) (by decide) rfl (zc_mI h (fun r3 C3 h => ?_))
          refine zw_iload_n (n := 77) d46_76 rfl rfl ?_
          refine zw_irem (n := 78) d46_77 rfl (by decide) ?_
          exact zw_iret d46_78 rfl ⟨_, rfl, h⟩
        · skip
          refine zw_sw0 (t := 79) rfl ?_
          refine zw_aload_n (n := 80) d46_79 rfl rfl ?_
          refine zw_geti (n := 83) d46_80 rfl (zj_0 hS).1 (zj_0 hS).2 ?_
          refine zw_if_le (n := 86) d46_83 rfl (zite h (fun h => ?_) (fun h => ?_))
          · skip
            refine zw_aload_n (n := 87) d46_86 rfl rfl ?_
            refine zw_getr (n := 90) d46_87 rfl (zj_0 hS).1 (zj_0 hS).2 (zr_0_6 hS) ?_
            refine zw_iload_n (n := 91) d46_90 rfl rfl ?_
            refine zw_aload_n (n := 92) d46_91 rfl rfl ?_
            refine zw_geti (n := 95) d46_92 rfl (zj_0 hS).1 (zj_0 hS).2 ?_
            obtain ⟨hy, h⟩ := h
            refine zw_irem (n := 96) d46_95 rfl hy ?_
            refine zw_cI (n := 99) d46_96 (zs_S rfl rfl rfl rfl) (by rw [ml_11]; rfl) (by decide) rfl (zc_mI h (fun r4 C4 h => ?_))
            refine zw_goto d46_99 ?_
            exact zw_iret d46_103 rfl ⟨_, rfl, h⟩
          · skip
            refine zw_iconst (n := 103) d46_102 rfl zk_i_0 ?_
            exact zw_iret d46_103 rfl ⟨_, rfl, h⟩

set_option maxRecDepth 20000 in
theorem zf47 (pc : Nat) : zt_code 47 pc = zt_fd zl_47 pc := rfl
theorem d47_0 : zt_code 47 0 = some (.iconst (0), 0, 0, 0) := (zf47 0).trans rfl
theorem d47_1 : zt_code 47 1 = some (.istore_n 2, 0, 0, 0) := (zf47 1).trans rfl
theorem d47_2 : zt_code 47 2 = some (.iload_n 0, 0, 0, 0) := (zf47 2).trans rfl
theorem d47_3 : zt_code 47 3 = some (.istore_n 3, 0, 0, 0) := (zf47 3).trans rfl
theorem d47_4 : zt_code 47 4 = some (.iconst (0), 0, 0, 0) := (zf47 4).trans rfl
theorem d47_5 : zt_code 47 5 = some (.istore 4, 0, 0, 0) := (zf47 5).trans rfl
theorem d47_7 : zt_code 47 7 = some (.iload 4, 0, 0, 0) := (zf47 7).trans rfl
theorem d47_9 : zt_code 47 9 = some (.bipush (31), 0, 0, 0) := (zf47 9).trans rfl
theorem d47_11 : zt_code 47 11 = some (.if_icmp .ge (28), 0, 39, 0) := (zf47 11).trans rfl
theorem d47_14 : zt_code 47 14 = some (.iload_n 3, 0, 0, 0) := (zf47 14).trans rfl
theorem d47_15 : zt_code 47 15 = some (.ifCond .le (24), 0, 39, 0) := (zf47 15).trans rfl
theorem d47_18 : zt_code 47 18 = some (.iload_n 1, 0, 0, 0) := (zf47 18).trans rfl
theorem d47_19 : zt_code 47 19 = some (.iconst (1), 0, 0, 0) := (zf47 19).trans rfl
theorem d47_20 : zt_code 47 20 = some (.if_icmp .le (19), 0, 39, 0) := (zf47 20).trans rfl
theorem d47_23 : zt_code 47 23 = some (.iload_n 2, 0, 0, 0) := (zf47 23).trans rfl
theorem d47_24 : zt_code 47 24 = some (.iload_n 3, 0, 0, 0) := (zf47 24).trans rfl
theorem d47_25 : zt_code 47 25 = some (.iload_n 1, 0, 0, 0) := (zf47 25).trans rfl
theorem d47_26 : zt_code 47 26 = some (.irem, 0, 0, 0) := (zf47 26).trans rfl
theorem d47_27 : zt_code 47 27 = some (.iadd, 0, 0, 0) := (zf47 27).trans rfl
theorem d47_28 : zt_code 47 28 = some (.istore_n 2, 0, 0, 0) := (zf47 28).trans rfl
theorem d47_29 : zt_code 47 29 = some (.iload_n 3, 0, 0, 0) := (zf47 29).trans rfl
theorem d47_30 : zt_code 47 30 = some (.iload_n 1, 0, 0, 0) := (zf47 30).trans rfl
theorem d47_31 : zt_code 47 31 = some (.idiv, 0, 0, 0) := (zf47 31).trans rfl
theorem d47_32 : zt_code 47 32 = some (.istore_n 3, 0, 0, 0) := (zf47 32).trans rfl
theorem d47_33 : zt_code 47 33 = some (.iinc 4 (1), 0, 0, 0) := (zf47 33).trans rfl
theorem d47_36 : zt_code 47 36 = some (.goto (-29), 0, 7, 0) := (zf47 36).trans rfl
theorem d47_39 : zt_code 47 39 = some (.iload_n 2, 0, 0, 0) := (zf47 39).trans rfl
theorem d47_40 : zt_code 47 40 = some (.ireturn, 0, 0, 0) := (zf47 40).trans rfl
/-- FirstAtTheFirst$Estate.digitSum(II)I -/
theorem vc47 {X : zX} {S : zx_S} {C : zx_C} {q : Int32 → zx_C → Prop} {a1 : Int32} {a2 : Int32}  (h : zW X 0 47 7 [.int a1, .int a2, .int 0, .int a1, .int 0] [] S C (zQi q)) : zCd X 0 47 [.int a1, .int a2] S C (zQi q) := by
  refine zc_in ml_47 rfl ?_
  refine zw_iconst (n := 1) d47_0 rfl zk_i_0 ?_
  refine zw_istore_n (n := 2) d47_1 rfl rfl rfl ?_
  refine zw_iload_n (n := 3) d47_2 rfl rfl ?_
  refine zw_istore_n (n := 4) d47_3 rfl rfl rfl ?_
  refine zw_iconst (n := 5) d47_4 rfl zk_i_0 ?_
  refine zw_istore (n := 7) d47_5 rfl rfl rfl ?_
  exact h
theorem vc47_7 {X : zX} {S : zx_S} {C : zx_C} {q : Int32 → zx_C → Prop} {a1 : Int32} {a2 : Int32} {z0 : Value} {i1 : Int32} {i2 : Int32} {i3 : Int32} {i4 : Int32}  (h : if (i4 : Int32) < 31 then (if (0 : Int32) < i3 then (if (1 : Int32) < i1 then (¬ (i1 : Int32) = 0 ∧ (¬ (i1 : Int32) = 0 ∧ (zW X 0 47 7 [z0, .int i1, .int (i2 + (i3 - i3 / i1 * i1)), .int (i3 / i1), .int (i4 + 1)] [] S C (zQi q)))) else (q i2 C)) else (q i2 C)) else (q i2 C)) : zW X 0 47 7 [z0, .int i1, .int i2, .int i3, .int i4] [] S C (zQi q) := by
  refine zw_iload (n := 9) d47_7 rfl rfl ?_
  refine zw_bipush (n := 11) d47_9 rfl zk_b_31 ?_
  refine zw_ic_ge (n := 14) d47_11 rfl (zite h (fun h => ?_) (fun h => ?_))
  · skip
    refine zw_iload_n (n := 15) d47_14 rfl rfl ?_
    refine zw_if_le (n := 18) d47_15 rfl (zite h (fun h => ?_) (fun h => ?_))
    · skip
      refine zw_iload_n (n := 19) d47_18 rfl rfl ?_
      refine zw_iconst (n := 20) d47_19 rfl zk_i_1 ?_
      refine zw_ic_le (n := 23) d47_20 rfl (zite h (fun h => ?_) (fun h => ?_))
      · skip
        refine zw_iload_n (n := 24) d47_23 rfl rfl ?_
        refine zw_iload_n (n := 25) d47_24 rfl rfl ?_
        refine zw_iload_n (n := 26) d47_25 rfl rfl ?_
        obtain ⟨hy, h⟩ := h
        refine zw_irem (n := 27) d47_26 rfl hy ?_
        refine zw_iadd (n := 28) d47_27 rfl ?_
        refine zw_istore_n (n := 29) d47_28 rfl rfl rfl ?_
        refine zw_iload_n (n := 30) d47_29 rfl rfl ?_
        refine zw_iload_n (n := 31) d47_30 rfl rfl ?_
        obtain ⟨hy, h⟩ := h
        refine zw_idiv (n := 32) d47_31 rfl hy ?_
        refine zw_istore_n (n := 33) d47_32 rfl rfl rfl ?_
        refine zw_iinc (n := 36) d47_33 rfl rfl zk_i_1 rfl ?_
        refine zw_goto d47_36 ?_
        exact h
      · skip
        refine zw_iload_n (n := 40) d47_39 rfl rfl ?_
        exact zw_iret d47_40 rfl ⟨_, rfl, h⟩
    · skip
      refine zw_iload_n (n := 40) d47_39 rfl rfl ?_
      exact zw_iret d47_40 rfl ⟨_, rfl, h⟩
  · skip
    refine zw_iload_n (n := 40) d47_39 rfl rfl ?_
    exact zw_iret d47_40 rfl ⟨_, rfl, h⟩

set_option maxRecDepth 20000 in
theorem zf53 (pc : Nat) : zt_code 53 pc = zt_fd zl_53 pc := rfl
theorem d53_0 : zt_code 53 0 = some (.iload_n 0, 0, 0, 0) := (zf53 0).trans rfl
theorem d53_1 : zt_code 53 1 = some (.iload_n 1, 0, 0, 0) := (zf53 1).trans rfl
theorem d53_2 : zt_code 53 2 = some (.ishr, 0, 0, 0) := (zf53 2).trans rfl
theorem d53_3 : zt_code 53 3 = some (.iconst (1), 0, 0, 0) := (zf53 3).trans rfl
theorem d53_4 : zt_code 53 4 = some (.iand, 0, 0, 0) := (zf53 4).trans rfl
theorem d53_5 : zt_code 53 5 = some (.ifCond .eq (7), 0, 12, 0) := (zf53 5).trans rfl
theorem d53_8 : zt_code 53 8 = some (.iconst (1), 0, 0, 0) := (zf53 8).trans rfl
theorem d53_9 : zt_code 53 9 = some (.goto (4), 0, 13, 0) := (zf53 9).trans rfl
theorem d53_12 : zt_code 53 12 = some (.iconst (0), 0, 0, 0) := (zf53 12).trans rfl
theorem d53_13 : zt_code 53 13 = some (.ireturn, 1, 0, 0) := (zf53 13).trans rfl
/-- FirstAtTheFirst.isIn(II)Z -/
theorem vc53 {X : zX} {S : zx_S} {C : zx_C} {q : Int32 → zx_C → Prop} {a1 : Int32} {a2 : Int32}  (h : if (((a1 >>> (a2 &&& 31)) &&& 1) : Int32) = 0 then (q 0 C) else (q 1 C)) : zCd X 0 53 [.int a1, .int a2] S C (zQi q) := by
  refine zc_in ml_53 rfl ?_
  refine zw_iload_n (n := 1) d53_0 rfl rfl ?_
  refine zw_iload_n (n := 2) d53_1 rfl rfl ?_
  refine zw_ishr (n := 3) d53_2 rfl ?_
  refine zw_iconst (n := 4) d53_3 rfl zk_i_1 ?_
  refine zw_iand (n := 5) d53_4 rfl ?_
  refine zw_if_eq (n := 8) d53_5 rfl (zite h (fun h => ?_) (fun h => ?_))
  · skip
    refine zw_iconst (n := 13) d53_12 rfl zk_i_0 ?_
    exact zw_iret d53_13 rfl ⟨_, rfl, h⟩
  · skip
    refine zw_iconst (n := 9) d53_8 rfl zk_i_1 ?_
    refine zw_goto d53_9 ?_
    exact zw_iret d53_13 rfl ⟨_, rfl, h⟩

set_option maxRecDepth 20000 in
theorem zf61 (pc : Nat) : zt_code 61 pc = zt_fd zl_61 pc := rfl
theorem d61_0 : zt_code 61 0 = some (.iload_n 0, 0, 0, 0) := (zf61 0).trans rfl
theorem d61_1 : zt_code 61 1 = some (.iconst (1), 0, 0, 0) := (zf61 1).trans rfl
theorem d61_2 : zt_code 61 2 = some (.iload_n 1, 0, 0, 0) := (zf61 2).trans rfl
theorem d61_3 : zt_code 61 3 = some (.ishl, 0, 0, 0) := (zf61 3).trans rfl
theorem d61_4 : zt_code 61 4 = some (.iconst (-1), 0, 0, 0) := (zf61 4).trans rfl
theorem d61_5 : zt_code 61 5 = some (.ixor, 0, 0, 0) := (zf61 5).trans rfl
theorem d61_6 : zt_code 61 6 = some (.iand, 0, 0, 0) := (zf61 6).trans rfl
theorem d61_7 : zt_code 61 7 = some (.ireturn, 0, 0, 0) := (zf61 7).trans rfl
/-- FirstAtTheFirst.without(II)I -/
theorem vc61 {X : zX} {S : zx_S} {C : zx_C} {q : Int32 → zx_C → Prop} {a1 : Int32} {a2 : Int32}  (h : q (a1 &&& ((1 <<< (a2 &&& 31)) ^^^ (-1))) C) : zCd X 0 61 [.int a1, .int a2] S C (zQi q) := by
  refine zc_in ml_61 rfl ?_
  refine zw_iload_n (n := 1) d61_0 rfl rfl ?_
  refine zw_iconst (n := 2) d61_1 rfl zk_i_1 ?_
  refine zw_iload_n (n := 3) d61_2 rfl rfl ?_
  refine zw_ishl (n := 4) d61_3 rfl ?_
  refine zw_iconst (n := 5) d61_4 rfl zk_i_m1 ?_
  refine zw_ixor (n := 6) d61_5 rfl ?_
  refine zw_iand (n := 7) d61_6 rfl ?_
  exact zw_iret d61_7 rfl ⟨_, rfl, h⟩

set_option maxRecDepth 20000 in
theorem zf68 (pc : Nat) : zt_code 68 pc = zt_fd zl_68 pc := rfl
theorem d68_0 : zt_code 68 0 = some (.aload_n 0, 0, 0, 0) := (zf68 0).trans rfl
theorem d68_1 : zt_code 68 1 = some (.iload_n 1, 0, 0, 0) := (zf68 1).trans rfl
theorem d68_2 : zt_code 68 2 = some (.putfield 9, 0, 0, 0) := (zf68 2).trans rfl
theorem d68_5 : zt_code 68 5 = some (.aload_n 0, 0, 0, 0) := (zf68 5).trans rfl
theorem d68_6 : zt_code 68 6 = some (.iconst (1), 0, 0, 0) := (zf68 6).trans rfl
theorem d68_7 : zt_code 68 7 = some (.putfield 18, 0, 5, 0) := (zf68 7).trans rfl
theorem d68_10 : zt_code 68 10 = some (.aload_n 0, 0, 0, 0) := (zf68 10).trans rfl
theorem d68_11 : zt_code 68 11 = some (.getfield 21, 0, 6, 1) := (zf68 11).trans rfl
theorem d68_14 : zt_code 68 14 = some (.iconst (0), 0, 0, 0) := (zf68 14).trans rfl
theorem d68_15 : zt_code 68 15 = some (.iconst (0), 0, 0, 0) := (zf68 15).trans rfl
theorem d68_16 : zt_code 68 16 = some (.invokestatic 65, 12, 3, -1) := (zf68 16).trans rfl
theorem d68_19 : zt_code 68 19 = some (.iconst (0), 0, 0, 0) := (zf68 19).trans rfl
theorem d68_20 : zt_code 68 20 = some (.istore_n 2, 0, 0, 0) := (zf68 20).trans rfl
theorem d68_21 : zt_code 68 21 = some (.iload_n 2, 0, 0, 0) := (zf68 21).trans rfl
theorem d68_22 : zt_code 68 22 = some (.iconst (3), 0, 0, 0) := (zf68 22).trans rfl
theorem d68_23 : zt_code 68 23 = some (.if_icmp .ge (18), 0, 41, 0) := (zf68 23).trans rfl
theorem d68_26 : zt_code 68 26 = some (.aload_n 0, 0, 0, 0) := (zf68 26).trans rfl
theorem d68_27 : zt_code 68 27 = some (.getfield 25, 0, 7, 1) := (zf68 27).trans rfl
theorem d68_30 : zt_code 68 30 = some (.iload_n 2, 0, 0, 0) := (zf68 30).trans rfl
theorem d68_31 : zt_code 68 31 = some (.iconst (0), 0, 0, 0) := (zf68 31).trans rfl
theorem d68_32 : zt_code 68 32 = some (.invokestatic 65, 12, 3, -1) := (zf68 32).trans rfl
theorem d68_35 : zt_code 68 35 = some (.iinc 2 (1), 0, 0, 0) := (zf68 35).trans rfl
theorem d68_38 : zt_code 68 38 = some (.goto (-17), 0, 21, 0) := (zf68 38).trans rfl
theorem d68_41 : zt_code 68 41 = some (.return_, 0, 0, 0) := (zf68 41).trans rfl
/-- FirstAtTheFirst$Estate.becomeSides(I)V -/
theorem vc68 {X : zX} {S : zx_S} {C : zx_C} {q : zx_C → Prop} {e : Nat} {a1 : Int32} (hS : zs_0 S e) (h : zCd X 0 12 [.ref (e + 1), .int 0, .int 0] S (zp (zp C e 0 a1) e 5 1) (zQv (fun C1 => zW X 1 68 21 [.ref e, .int a1, .int 0] [] S C1 (zQv q)))) : zCd X 1 68 [.ref e, .int a1] S C (zQv q) := by
  refine zc_in ml_68 rfl ?_
  refine zw_aload_n (n := 1) d68_0 rfl rfl ?_
  refine zw_iload_n (n := 2) d68_1 rfl rfl ?_
  refine zw_puti (n := 5) d68_2 rfl (zj_0 hS).1 (zj_0 hS).2 ?_
  refine zw_aload_n (n := 6) d68_5 rfl rfl ?_
  refine zw_iconst (n := 7) d68_6 rfl zk_i_1 ?_
  refine zw_puti (n := 10) d68_7 rfl (zj_0 hS).1 (zj_0 hS).2 ?_
  refine zw_aload_n (n := 11) d68_10 rfl rfl ?_
  refine zw_getr (n := 14) d68_11 rfl (zj_0 hS).1 (zj_0 hS).2 (zr_0_6 hS) ?_
  refine zw_iconst (n := 15) d68_14 rfl zk_i_0 ?_
  refine zw_iconst (n := 16) d68_15 rfl zk_i_0 ?_
  refine zw_cV (n := 19) d68_16 (zs_S rfl rfl rfl rfl) (by rw [ml_12]; rfl) (by decide) rfl (zc_mV h (fun C1 h => ?_))
  refine zw_iconst (n := 20) d68_19 rfl zk_i_0 ?_
  refine zw_istore_n (n := 21) d68_20 rfl rfl rfl ?_
  exact h
theorem vc68_21 {X : zX} {S : zx_S} {C : zx_C} {q : zx_C → Prop} {e : Nat} {a1 : Int32} {z1 : Value} {i2 : Int32} (hS : zs_0 S e) (h : if (i2 : Int32) < 3 then (zCd X 0 12 [.ref (e + 2), .int i2, .int 0] S C (zQv (fun C1 => zW X 1 68 21 [.ref e, z1, .int (i2 + 1)] [] S C1 (zQv q)))) else (q C)) : zW X 1 68 21 [.ref e, z1, .int i2] [] S C (zQv q) := by
  refine zw_iload_n (n := 22) d68_21 rfl rfl ?_
  refine zw_iconst (n := 23) d68_22 rfl zk_i_3 ?_
  refine zw_ic_ge (n := 26) d68_23 rfl (zite h (fun h => ?_) (fun h => ?_))
  · skip
    refine zw_aload_n (n := 27) d68_26 rfl rfl ?_
    refine zw_getr (n := 30) d68_27 rfl (zj_0 hS).1 (zj_0 hS).2 (zr_0_7 hS) ?_
    refine zw_iload_n (n := 31) d68_30 rfl rfl ?_
    refine zw_iconst (n := 32) d68_31 rfl zk_i_0 ?_
    refine zw_cV (n := 35) d68_32 (zs_S rfl rfl rfl rfl) (by rw [ml_12]; rfl) (by decide) rfl (zc_mV h (fun C1 h => ?_))
    refine zw_iinc (n := 38) d68_35 rfl rfl zk_i_1 rfl ?_
    refine zw_goto d68_38 ?_
    exact h
  · skip
    exact zw_ret d68_41 ⟨rfl, h⟩

set_option maxRecDepth 20000 in
theorem zf70 (pc : Nat) : zt_code 70 pc = zt_fd zl_70 pc := rfl
theorem d70_0 : zt_code 70 0 = some (.iload_n 0, 0, 0, 0) := (zf70 0).trans rfl
theorem d70_1 : zt_code 70 1 = some (.ifCond .lt (13), 0, 14, 0) := (zf70 1).trans rfl
theorem d70_4 : zt_code 70 4 = some (.iload_n 0, 0, 0, 0) := (zf70 4).trans rfl
theorem d70_5 : zt_code 70 5 = some (.bipush (99), 0, 0, 0) := (zf70 5).trans rfl
theorem d70_7 : zt_code 70 7 = some (.if_icmp .gt (7), 0, 14, 0) := (zf70 7).trans rfl
theorem d70_10 : zt_code 70 10 = some (.iconst (1), 0, 0, 0) := (zf70 10).trans rfl
theorem d70_11 : zt_code 70 11 = some (.goto (4), 0, 15, 0) := (zf70 11).trans rfl
theorem d70_14 : zt_code 70 14 = some (.iconst (0), 0, 0, 0) := (zf70 14).trans rfl
theorem d70_15 : zt_code 70 15 = some (.ireturn, 1, 0, 0) := (zf70 15).trans rfl
/-- FirstAtTheFirst.isWorth(I)Z -/
theorem vc70 {X : zX} {S : zx_S} {C : zx_C} {q : Int32 → zx_C → Prop} {a1 : Int32}  (h : if (a1 : Int32) < 0 then (q 0 C) else (if (99 : Int32) < a1 then (q 0 C) else (q 1 C))) : zCd X 0 70 [.int a1] S C (zQi q) := by
  refine zc_in ml_70 rfl ?_
  refine zw_iload_n (n := 1) d70_0 rfl rfl ?_
  refine zw_if_lt (n := 4) d70_1 rfl (zite h (fun h => ?_) (fun h => ?_))
  · skip
    refine zw_iconst (n := 15) d70_14 rfl zk_i_0 ?_
    exact zw_iret d70_15 rfl ⟨_, rfl, h⟩
  · skip
    refine zw_iload_n (n := 5) d70_4 rfl rfl ?_
    refine zw_bipush (n := 7) d70_5 rfl zk_b_99 ?_
    refine zw_ic_gt (n := 10) d70_7 rfl (zite h (fun h => ?_) (fun h => ?_))
    · skip
      refine zw_iconst (n := 15) d70_14 rfl zk_i_0 ?_
      exact zw_iret d70_15 rfl ⟨_, rfl, h⟩
    · skip
      refine zw_iconst (n := 11) d70_10 rfl zk_i_1 ?_
      refine zw_goto d70_11 ?_
      exact zw_iret d70_15 rfl ⟨_, rfl, h⟩

set_option maxRecDepth 20000 in
theorem zf71 (pc : Nat) : zt_code 71 pc = zt_fd zl_71 pc := rfl
theorem d71_0 : zt_code 71 0 = some (.aload_n 0, 0, 0, 0) := (zf71 0).trans rfl
theorem d71_1 : zt_code 71 1 = some (.getfield 31, 0, 9, 1) := (zf71 1).trans rfl
theorem d71_4 : zt_code 71 4 = some (.aload_n 0, 0, 0, 0) := (zf71 4).trans rfl
theorem d71_5 : zt_code 71 5 = some (.getfield 34, 0, 1, 0) := (zf71 5).trans rfl
theorem d71_8 : zt_code 71 8 = some (.iload_n 1, 0, 0, 0) := (zf71 8).trans rfl
theorem d71_9 : zt_code 71 9 = some (.invokestatic 65, 12, 3, -1) := (zf71 9).trans rfl
theorem d71_12 : zt_code 71 12 = some (.aload_n 0, 0, 0, 0) := (zf71 12).trans rfl
theorem d71_13 : zt_code 71 13 = some (.getfield 31, 0, 9, 1) := (zf71 13).trans rfl
theorem d71_16 : zt_code 71 16 = some (.bipush (8), 0, 0, 0) := (zf71 16).trans rfl
theorem d71_18 : zt_code 71 18 = some (.aload_n 0, 0, 0, 0) := (zf71 18).trans rfl
theorem d71_19 : zt_code 71 19 = some (.getfield 34, 0, 1, 0) := (zf71 19).trans rfl
theorem d71_22 : zt_code 71 22 = some (.iadd, 0, 0, 0) := (zf71 22).trans rfl
theorem d71_23 : zt_code 71 23 = some (.iload_n 2, 0, 0, 0) := (zf71 23).trans rfl
theorem d71_24 : zt_code 71 24 = some (.invokestatic 65, 12, 3, -1) := (zf71 24).trans rfl
theorem d71_27 : zt_code 71 27 = some (.aload_n 0, 0, 0, 0) := (zf71 27).trans rfl
theorem d71_28 : zt_code 71 28 = some (.getfield 31, 0, 9, 1) := (zf71 28).trans rfl
theorem d71_31 : zt_code 71 31 = some (.bipush (16), 0, 0, 0) := (zf71 31).trans rfl
theorem d71_33 : zt_code 71 33 = some (.aload_n 0, 0, 0, 0) := (zf71 33).trans rfl
theorem d71_34 : zt_code 71 34 = some (.getfield 34, 0, 1, 0) := (zf71 34).trans rfl
theorem d71_37 : zt_code 71 37 = some (.iadd, 0, 0, 0) := (zf71 37).trans rfl
theorem d71_38 : zt_code 71 38 = some (.iload_n 3, 0, 0, 0) := (zf71 38).trans rfl
theorem d71_39 : zt_code 71 39 = some (.invokestatic 65, 12, 3, -1) := (zf71 39).trans rfl
theorem d71_42 : zt_code 71 42 = some (.aload_n 0, 0, 0, 0) := (zf71 42).trans rfl
theorem d71_43 : zt_code 71 43 = some (.getfield 28, 0, 8, 1) := (zf71 43).trans rfl
theorem d71_46 : zt_code 71 46 = some (.aload_n 0, 0, 0, 0) := (zf71 46).trans rfl
theorem d71_47 : zt_code 71 47 = some (.getfield 34, 0, 1, 0) := (zf71 47).trans rfl
theorem d71_50 : zt_code 71 50 = some (.iconst (-1), 0, 0, 0) := (zf71 50).trans rfl
theorem d71_51 : zt_code 71 51 = some (.invokestatic 65, 12, 3, -1) := (zf71 51).trans rfl
theorem d71_54 : zt_code 71 54 = some (.aload_n 0, 0, 0, 0) := (zf71 54).trans rfl
theorem d71_55 : zt_code 71 55 = some (.dup, 0, 0, 0) := (zf71 55).trans rfl
theorem d71_56 : zt_code 71 56 = some (.getfield 34, 0, 1, 0) := (zf71 56).trans rfl
theorem d71_59 : zt_code 71 59 = some (.iconst (1), 0, 0, 0) := (zf71 59).trans rfl
theorem d71_60 : zt_code 71 60 = some (.iadd, 0, 0, 0) := (zf71 60).trans rfl
theorem d71_61 : zt_code 71 61 = some (.putfield 34, 0, 1, 0) := (zf71 61).trans rfl
theorem d71_64 : zt_code 71 64 = some (.return_, 0, 0, 0) := (zf71 64).trans rfl
/-- FirstAtTheFirst$Estate.addThing(III)V -/
theorem vc71 {X : zX} {S : zx_S} {C : zx_C} {q : zx_C → Prop} {e : Nat} {a1 : Int32} {a2 : Int32} {a3 : Int32} (hS : zs_0 S e) (h : zCd X 0 12 [.ref (e + 4), .int (C.1 e 1), .int a1] S C (zQv (fun C1 => zCd X 0 12 [.ref (e + 4), .int (8 + (C1.1 e 1)), .int a2] S C1 (zQv (fun C2 => zCd X 0 12 [.ref (e + 4), .int (16 + (C2.1 e 1)), .int a3] S C2 (zQv (fun C3 => zCd X 0 12 [.ref (e + 3), .int (C3.1 e 1), .int (-1)] S C3 (zQv (fun C4 => q (zp C4 e 1 ((C4.1 e 1) + 1))))))))))) : zCd X 1 71 [.ref e, .int a1, .int a2, .int a3] S C (zQv q) := by
  refine zc_in ml_71 rfl ?_
  refine zw_aload_n (n := 1) d71_0 rfl rfl ?_
  refine zw_getr (n := 4) d71_1 rfl (zj_0 hS).1 (zj_0 hS).2 (zr_0_9 hS) ?_
  refine zw_aload_n (n := 5) d71_4 rfl rfl ?_
  refine zw_geti (n := 8) d71_5 rfl (zj_0 hS).1 (zj_0 hS).2 ?_
  refine zw_iload_n (n := 9) d71_8 rfl rfl ?_
  refine zw_cV (n := 12) d71_9 (zs_S rfl rfl rfl rfl) (by rw [ml_12]; rfl) (by decide) rfl (zc_mV h (fun C1 h => ?_))
  refine zw_aload_n (n := 13) d71_12 rfl rfl ?_
  refine zw_getr (n := 16) d71_13 rfl (zj_0 hS).1 (zj_0 hS).2 (zr_0_9 hS) ?_
  refine zw_bipush (n := 18) d71_16 rfl zk_b_8 ?_
  refine zw_aload_n (n := 19) d71_18 rfl rfl ?_
  refine zw_geti (n := 22) d71_19 rfl (zj_0 hS).1 (zj_0 hS).2 ?_
  refine zw_iadd (n := 23) d71_22 rfl ?_
  refine zw_iload_n (n := 24) d71_23 rfl rfl ?_
  refine zw_cV (n := 27) d71_24 (zs_S rfl rfl rfl rfl) (by rw [ml_12]; rfl) (by decide) rfl (zc_mV h (fun C2 h => ?_))
  refine zw_aload_n (n := 28) d71_27 rfl rfl ?_
  refine zw_getr (n := 31) d71_28 rfl (zj_0 hS).1 (zj_0 hS).2 (zr_0_9 hS) ?_
  refine zw_bipush (n := 33) d71_31 rfl zk_b_16 ?_
  refine zw_aload_n (n := 34) d71_33 rfl rfl ?_
  refine zw_geti (n := 37) d71_34 rfl (zj_0 hS).1 (zj_0 hS).2 ?_
  refine zw_iadd (n := 38) d71_37 rfl ?_
  refine zw_iload_n (n := 39) d71_38 rfl rfl ?_
  refine zw_cV (n := 42) d71_39 (zs_S rfl rfl rfl rfl) (by rw [ml_12]; rfl) (by decide) rfl (zc_mV h (fun C3 h => ?_))
  refine zw_aload_n (n := 43) d71_42 rfl rfl ?_
  refine zw_getr (n := 46) d71_43 rfl (zj_0 hS).1 (zj_0 hS).2 (zr_0_8 hS) ?_
  refine zw_aload_n (n := 47) d71_46 rfl rfl ?_
  refine zw_geti (n := 50) d71_47 rfl (zj_0 hS).1 (zj_0 hS).2 ?_
  refine zw_iconst (n := 51) d71_50 rfl zk_i_m1 ?_
  refine zw_cV (n := 54) d71_51 (zs_S rfl rfl rfl rfl) (by rw [ml_12]; rfl) (by decide) rfl (zc_mV h (fun C4 h => ?_))
  refine zw_aload_n (n := 55) d71_54 rfl rfl ?_
  refine zw_dup (n := 56) d71_55 rfl rfl ?_
  refine zw_geti (n := 59) d71_56 rfl (zj_0 hS).1 (zj_0 hS).2 ?_
  refine zw_iconst (n := 60) d71_59 rfl zk_i_1 ?_
  refine zw_iadd (n := 61) d71_60 rfl ?_
  refine zw_puti (n := 64) d71_61 rfl (zj_0 hS).1 (zj_0 hS).2 ?_
  exact zw_ret d71_64 ⟨rfl, h⟩

set_option maxRecDepth 20000 in
theorem zf75 (pc : Nat) : zt_code 75 pc = zt_fd zl_75 pc := rfl
theorem d75_0 : zt_code 75 0 = some (.iload_n 0, 0, 0, 0) := (zf75 0).trans rfl
theorem d75_1 : zt_code 75 1 = some (.ifCond .lt (12), 0, 13, 0) := (zf75 1).trans rfl
theorem d75_4 : zt_code 75 4 = some (.iload_n 0, 0, 0, 0) := (zf75 4).trans rfl
theorem d75_5 : zt_code 75 5 = some (.iconst (3), 0, 0, 0) := (zf75 5).trans rfl
theorem d75_6 : zt_code 75 6 = some (.if_icmp .gt (7), 0, 13, 0) := (zf75 6).trans rfl
theorem d75_9 : zt_code 75 9 = some (.iconst (1), 0, 0, 0) := (zf75 9).trans rfl
theorem d75_10 : zt_code 75 10 = some (.goto (4), 0, 14, 0) := (zf75 10).trans rfl
theorem d75_13 : zt_code 75 13 = some (.iconst (0), 0, 0, 0) := (zf75 13).trans rfl
theorem d75_14 : zt_code 75 14 = some (.ireturn, 1, 0, 0) := (zf75 14).trans rfl
/-- FirstAtTheFirst.isLaw(I)Z -/
theorem vc75 {X : zX} {S : zx_S} {C : zx_C} {q : Int32 → zx_C → Prop} {a1 : Int32}  (h : if (a1 : Int32) < 0 then (q 0 C) else (if (3 : Int32) < a1 then (q 0 C) else (q 1 C))) : zCd X 0 75 [.int a1] S C (zQi q) := by
  refine zc_in ml_75 rfl ?_
  refine zw_iload_n (n := 1) d75_0 rfl rfl ?_
  refine zw_if_lt (n := 4) d75_1 rfl (zite h (fun h => ?_) (fun h => ?_))
  · skip
    refine zw_iconst (n := 14) d75_13 rfl zk_i_0 ?_
    exact zw_iret d75_14 rfl ⟨_, rfl, h⟩
  · skip
    refine zw_iload_n (n := 5) d75_4 rfl rfl ?_
    refine zw_iconst (n := 6) d75_5 rfl zk_i_3 ?_
    refine zw_ic_gt (n := 9) d75_6 rfl (zite h (fun h => ?_) (fun h => ?_))
    · skip
      refine zw_iconst (n := 14) d75_13 rfl zk_i_0 ?_
      exact zw_iret d75_14 rfl ⟨_, rfl, h⟩
    · skip
      refine zw_iconst (n := 10) d75_9 rfl zk_i_1 ?_
      refine zw_goto d75_10 ?_
      exact zw_iret d75_14 rfl ⟨_, rfl, h⟩

set_option maxRecDepth 20000 in
theorem zf80 (pc : Nat) : zt_code 80 pc = zt_fd zl_80 pc := rfl
theorem d80_0 : zt_code 80 0 = some (.aload_n 0, 0, 0, 0) := (zf80 0).trans rfl
theorem d80_1 : zt_code 80 1 = some (.iload_n 1, 0, 0, 0) := (zf80 1).trans rfl
theorem d80_2 : zt_code 80 2 = some (.invokevirtual 51, 42, 2, 0) := (zf80 2).trans rfl
theorem d80_5 : zt_code 80 5 = some (.ifCond .eq (14), 0, 19, 0) := (zf80 5).trans rfl
theorem d80_8 : zt_code 80 8 = some (.aload_n 0, 0, 0, 0) := (zf80 8).trans rfl
theorem d80_9 : zt_code 80 9 = some (.getfield 28, 0, 8, 1) := (zf80 9).trans rfl
theorem d80_12 : zt_code 80 12 = some (.iload_n 1, 0, 0, 0) := (zf80 12).trans rfl
theorem d80_13 : zt_code 80 13 = some (.invokestatic 47, 11, 2, -1) := (zf80 13).trans rfl
theorem d80_16 : zt_code 80 16 = some (.goto (4), 0, 20, 0) := (zf80 16).trans rfl
theorem d80_19 : zt_code 80 19 = some (.iconst (-1), 0, 0, 0) := (zf80 19).trans rfl
theorem d80_20 : zt_code 80 20 = some (.ireturn, 0, 0, 0) := (zf80 20).trans rfl
/-- FirstAtTheFirst$Estate.ownerOf(I)I -/
theorem vc80 {X : zX} {S : zx_S} {C : zx_C} {q : Int32 → zx_C → Prop} {e : Nat} {a1 : Int32} (hS : zs_0 S e) (h : zCd X 0 42 [.ref e, .int a1] S C (zQi (fun r1 C1 => if (r1 : Int32) = 0 then (q (-1) C1) else (zCd X 0 11 [.ref (e + 3), .int a1] S C1 (zQi (fun r2 C2 => q r2 C2)))))) : zCd X 1 80 [.ref e, .int a1] S C (zQi q) := by
  refine zc_in ml_80 rfl ?_
  refine zw_aload_n (n := 1) d80_0 rfl rfl ?_
  refine zw_iload_n (n := 2) d80_1 rfl rfl ?_
  refine zw_cI (n := 5) d80_2 (zs_V rfl rfl rfl rfl (by decide) (zj_0 hS).1 (zq_0 hS)) (by rw [ml_42]; rfl) (by decide) rfl (zc_mI h (fun r1 C1 h => ?_))
  refine zw_if_eq (n := 8) d80_5 rfl (zite h (fun h => ?_) (fun h => ?_))
  · skip
    refine zw_iconst (n := 20) d80_19 rfl zk_i_m1 ?_
    exact zw_iret d80_20 rfl ⟨_, rfl, h⟩
  · skip
    refine zw_aload_n (n := 9) d80_8 rfl rfl ?_
    refine zw_getr (n := 12) d80_9 rfl (zj_0 hS).1 (zj_0 hS).2 (zr_0_8 hS) ?_
    refine zw_iload_n (n := 13) d80_12 rfl rfl ?_
    refine zw_cI (n := 16) d80_13 (zs_S rfl rfl rfl rfl) (by rw [ml_11]; rfl) (by decide) rfl (zc_mI h (fun r2 C2 h => ?_))
    refine zw_goto d80_16 ?_
    exact zw_iret d80_20 rfl ⟨_, rfl, h⟩

set_option maxRecDepth 20000 in
theorem zf84 (pc : Nat) : zt_code 84 pc = zt_fd zl_84 pc := rfl
theorem d84_0 : zt_code 84 0 = some (.aload_n 1, 0, 0, 0) := (zf84 0).trans rfl
theorem d84_1 : zt_code 84 1 = some (.ifnull (95), 0, 96, 0) := (zf84 1).trans rfl
theorem d84_4 : zt_code 84 4 = some (.aload_n 0, 0, 0, 0) := (zf84 4).trans rfl
theorem d84_5 : zt_code 84 5 = some (.aload_n 1, 0, 0, 0) := (zf84 5).trans rfl
theorem d84_6 : zt_code 84 6 = some (.getfield 9, 0, 0, 0) := (zf84 6).trans rfl
theorem d84_9 : zt_code 84 9 = some (.putfield 9, 0, 0, 0) := (zf84 9).trans rfl
theorem d84_12 : zt_code 84 12 = some (.aload_n 0, 0, 0, 0) := (zf84 12).trans rfl
theorem d84_13 : zt_code 84 13 = some (.aload_n 1, 0, 0, 0) := (zf84 13).trans rfl
theorem d84_14 : zt_code 84 14 = some (.getfield 34, 0, 1, 0) := (zf84 14).trans rfl
theorem d84_17 : zt_code 84 17 = some (.putfield 34, 0, 1, 0) := (zf84 17).trans rfl
theorem d84_20 : zt_code 84 20 = some (.aload_n 0, 0, 0, 0) := (zf84 20).trans rfl
theorem d84_21 : zt_code 84 21 = some (.aload_n 1, 0, 0, 0) := (zf84 21).trans rfl
theorem d84_22 : zt_code 84 22 = some (.getfield 37, 0, 2, 0) := (zf84 22).trans rfl
theorem d84_25 : zt_code 84 25 = some (.putfield 37, 0, 2, 0) := (zf84 25).trans rfl
theorem d84_28 : zt_code 84 28 = some (.aload_n 0, 0, 0, 0) := (zf84 28).trans rfl
theorem d84_29 : zt_code 84 29 = some (.aload_n 1, 0, 0, 0) := (zf84 29).trans rfl
theorem d84_30 : zt_code 84 30 = some (.getfield 40, 0, 3, 0) := (zf84 30).trans rfl
theorem d84_33 : zt_code 84 33 = some (.putfield 40, 0, 3, 0) := (zf84 33).trans rfl
theorem d84_36 : zt_code 84 36 = some (.aload_n 0, 0, 0, 0) := (zf84 36).trans rfl
theorem d84_37 : zt_code 84 37 = some (.aload_n 1, 0, 0, 0) := (zf84 37).trans rfl
theorem d84_38 : zt_code 84 38 = some (.getfield 15, 0, 4, 0) := (zf84 38).trans rfl
theorem d84_41 : zt_code 84 41 = some (.putfield 15, 0, 4, 0) := (zf84 41).trans rfl
theorem d84_44 : zt_code 84 44 = some (.aload_n 0, 0, 0, 0) := (zf84 44).trans rfl
theorem d84_45 : zt_code 84 45 = some (.aload_n 1, 0, 0, 0) := (zf84 45).trans rfl
theorem d84_46 : zt_code 84 46 = some (.getfield 18, 0, 5, 0) := (zf84 46).trans rfl
theorem d84_49 : zt_code 84 49 = some (.putfield 18, 0, 5, 0) := (zf84 49).trans rfl
theorem d84_52 : zt_code 84 52 = some (.aload_n 1, 0, 0, 0) := (zf84 52).trans rfl
theorem d84_53 : zt_code 84 53 = some (.getfield 21, 0, 6, 1) := (zf84 53).trans rfl
theorem d84_56 : zt_code 84 56 = some (.aload_n 0, 0, 0, 0) := (zf84 56).trans rfl
theorem d84_57 : zt_code 84 57 = some (.getfield 21, 0, 6, 1) := (zf84 57).trans rfl
theorem d84_60 : zt_code 84 60 = some (.invokestatic 43, 39, 2, -1) := (zf84 60).trans rfl
theorem d84_63 : zt_code 84 63 = some (.aload_n 1, 0, 0, 0) := (zf84 63).trans rfl
theorem d84_64 : zt_code 84 64 = some (.getfield 25, 0, 7, 1) := (zf84 64).trans rfl
theorem d84_67 : zt_code 84 67 = some (.aload_n 0, 0, 0, 0) := (zf84 67).trans rfl
theorem d84_68 : zt_code 84 68 = some (.getfield 25, 0, 7, 1) := (zf84 68).trans rfl
theorem d84_71 : zt_code 84 71 = some (.invokestatic 43, 39, 2, -1) := (zf84 71).trans rfl
theorem d84_74 : zt_code 84 74 = some (.aload_n 1, 0, 0, 0) := (zf84 74).trans rfl
theorem d84_75 : zt_code 84 75 = some (.getfield 28, 0, 8, 1) := (zf84 75).trans rfl
theorem d84_78 : zt_code 84 78 = some (.aload_n 0, 0, 0, 0) := (zf84 78).trans rfl
theorem d84_79 : zt_code 84 79 = some (.getfield 28, 0, 8, 1) := (zf84 79).trans rfl
theorem d84_82 : zt_code 84 82 = some (.invokestatic 43, 39, 2, -1) := (zf84 82).trans rfl
theorem d84_85 : zt_code 84 85 = some (.aload_n 1, 0, 0, 0) := (zf84 85).trans rfl
theorem d84_86 : zt_code 84 86 = some (.getfield 31, 0, 9, 1) := (zf84 86).trans rfl
theorem d84_89 : zt_code 84 89 = some (.aload_n 0, 0, 0, 0) := (zf84 89).trans rfl
theorem d84_90 : zt_code 84 90 = some (.getfield 31, 0, 9, 1) := (zf84 90).trans rfl
theorem d84_93 : zt_code 84 93 = some (.invokestatic 43, 39, 2, -1) := (zf84 93).trans rfl
theorem d84_96 : zt_code 84 96 = some (.return_, 0, 0, 0) := (zf84 96).trans rfl
/-- FirstAtTheFirst$Estate.become(LFirstAtTheFirst$Estate;)V -/
theorem vc84 {X : zX} {S : zx_S} {C : zx_C} {q : zx_C → Prop} {e : Nat} {a1 : Nat} (hS : zs_0 S e) (h1 : zs_0 S a1) (h : zCd X 0 39 [.ref (a1 + 1), .ref (e + 1)] S (zp (zp (zp (zp (zp (zp C e 0 (C.1 a1 0)) e 1 (Prod.fst (zp C e 0 (C.1 a1 0)) a1 1)) e 2 (Prod.fst (zp (zp C e 0 (C.1 a1 0)) e 1 (Prod.fst (zp C e 0 (C.1 a1 0)) a1 1)) a1 2)) e 3 (Prod.fst (zp (zp (zp C e 0 (C.1 a1 0)) e 1 (Prod.fst (zp C e 0 (C.1 a1 0)) a1 1)) e 2 (Prod.fst (zp (zp C e 0 (C.1 a1 0)) e 1 (Prod.fst (zp C e 0 (C.1 a1 0)) a1 1)) a1 2)) a1 3)) e 4 (Prod.fst (zp (zp (zp (zp C e 0 (C.1 a1 0)) e 1 (Prod.fst (zp C e 0 (C.1 a1 0)) a1 1)) e 2 (Prod.fst (zp (zp C e 0 (C.1 a1 0)) e 1 (Prod.fst (zp C e 0 (C.1 a1 0)) a1 1)) a1 2)) e 3 (Prod.fst (zp (zp (zp C e 0 (C.1 a1 0)) e 1 (Prod.fst (zp C e 0 (C.1 a1 0)) a1 1)) e 2 (Prod.fst (zp (zp C e 0 (C.1 a1 0)) e 1 (Prod.fst (zp C e 0 (C.1 a1 0)) a1 1)) a1 2)) a1 3)) a1 4)) e 5 (Prod.fst (zp (zp (zp (zp (zp C e 0 (C.1 a1 0)) e 1 (Prod.fst (zp C e 0 (C.1 a1 0)) a1 1)) e 2 (Prod.fst (zp (zp C e 0 (C.1 a1 0)) e 1 (Prod.fst (zp C e 0 (C.1 a1 0)) a1 1)) a1 2)) e 3 (Prod.fst (zp (zp (zp C e 0 (C.1 a1 0)) e 1 (Prod.fst (zp C e 0 (C.1 a1 0)) a1 1)) e 2 (Prod.fst (zp (zp C e 0 (C.1 a1 0)) e 1 (Prod.fst (zp C e 0 (C.1 a1 0)) a1 1)) a1 2)) a1 3)) e 4 (Prod.fst (zp (zp (zp (zp C e 0 (C.1 a1 0)) e 1 (Prod.fst (zp C e 0 (C.1 a1 0)) a1 1)) e 2 (Prod.fst (zp (zp C e 0 (C.1 a1 0)) e 1 (Prod.fst (zp C e 0 (C.1 a1 0)) a1 1)) a1 2)) e 3 (Prod.fst (zp (zp (zp C e 0 (C.1 a1 0)) e 1 (Prod.fst (zp C e 0 (C.1 a1 0)) a1 1)) e 2 (Prod.fst (zp (zp C e 0 (C.1 a1 0)) e 1 (Prod.fst (zp C e 0 (C.1 a1 0)) a1 1)) a1 2)) a1 3)) a1 4)) a1 5)) (zQv (fun C1 => zCd X 0 39 [.ref (a1 + 2), .ref (e + 2)] S C1 (zQv (fun C2 => zCd X 0 39 [.ref (a1 + 3), .ref (e + 3)] S C2 (zQv (fun C3 => zCd X 0 39 [.ref (a1 + 4), .ref (e + 4)] S C3 (zQv (fun C4 => q C4))))))))) : zCd X 1 84 [.ref e, .ref a1] S C (zQv q) := by
  refine zc_in ml_84 rfl ?_
  refine zw_aload_n (n := 1) d84_0 rfl rfl ?_
  refine zw_ifnull (n := 4) d84_1 rfl ?_
  refine zw_aload_n (n := 5) d84_4 rfl rfl ?_
  refine zw_aload_n (n := 6) d84_5 rfl rfl ?_
  refine zw_geti (n := 9) d84_6 rfl (zj_0 h1).1 (zj_0 h1).2 ?_
  refine zw_puti (n := 12) d84_9 rfl (zj_0 hS).1 (zj_0 hS).2 ?_
  refine zw_aload_n (n := 13) d84_12 rfl rfl ?_
  refine zw_aload_n (n := 14) d84_13 rfl rfl ?_
  refine zw_geti (n := 17) d84_14 rfl (zj_0 h1).1 (zj_0 h1).2 ?_
  refine zw_puti (n := 20) d84_17 rfl (zj_0 hS).1 (zj_0 hS).2 ?_
  refine zw_aload_n (n := 21) d84_20 rfl rfl ?_
  refine zw_aload_n (n := 22) d84_21 rfl rfl ?_
  refine zw_geti (n := 25) d84_22 rfl (zj_0 h1).1 (zj_0 h1).2 ?_
  refine zw_puti (n := 28) d84_25 rfl (zj_0 hS).1 (zj_0 hS).2 ?_
  refine zw_aload_n (n := 29) d84_28 rfl rfl ?_
  refine zw_aload_n (n := 30) d84_29 rfl rfl ?_
  refine zw_geti (n := 33) d84_30 rfl (zj_0 h1).1 (zj_0 h1).2 ?_
  refine zw_puti (n := 36) d84_33 rfl (zj_0 hS).1 (zj_0 hS).2 ?_
  refine zw_aload_n (n := 37) d84_36 rfl rfl ?_
  refine zw_aload_n (n := 38) d84_37 rfl rfl ?_
  refine zw_geti (n := 41) d84_38 rfl (zj_0 h1).1 (zj_0 h1).2 ?_
  refine zw_puti (n := 44) d84_41 rfl (zj_0 hS).1 (zj_0 hS).2 ?_
  refine zw_aload_n (n := 45) d84_44 rfl rfl ?_
  refine zw_aload_n (n := 46) d84_45 rfl rfl ?_
  refine zw_geti (n := 49) d84_46 rfl (zj_0 h1).1 (zj_0 h1).2 ?_
  refine zw_puti (n := 52) d84_49 rfl (zj_0 hS).1 (zj_0 hS).2 ?_
  refine zw_aload_n (n := 53) d84_52 rfl rfl ?_
  refine zw_getr (n := 56) d84_53 rfl (zj_0 h1).1 (zj_0 h1).2 (zr_0_6 h1) ?_
  refine zw_aload_n (n := 57) d84_56 rfl rfl ?_
  refine zw_getr (n := 60) d84_57 rfl (zj_0 hS).1 (zj_0 hS).2 (zr_0_6 hS) ?_
  refine zw_cV (n := 63) d84_60 (zs_S rfl rfl rfl rfl) (by rw [ml_39]; rfl) (by decide) rfl (zc_mV h (fun C1 h => ?_))
  refine zw_aload_n (n := 64) d84_63 rfl rfl ?_
  refine zw_getr (n := 67) d84_64 rfl (zj_0 h1).1 (zj_0 h1).2 (zr_0_7 h1) ?_
  refine zw_aload_n (n := 68) d84_67 rfl rfl ?_
  refine zw_getr (n := 71) d84_68 rfl (zj_0 hS).1 (zj_0 hS).2 (zr_0_7 hS) ?_
  refine zw_cV (n := 74) d84_71 (zs_S rfl rfl rfl rfl) (by rw [ml_39]; rfl) (by decide) rfl (zc_mV h (fun C2 h => ?_))
  refine zw_aload_n (n := 75) d84_74 rfl rfl ?_
  refine zw_getr (n := 78) d84_75 rfl (zj_0 h1).1 (zj_0 h1).2 (zr_0_8 h1) ?_
  refine zw_aload_n (n := 79) d84_78 rfl rfl ?_
  refine zw_getr (n := 82) d84_79 rfl (zj_0 hS).1 (zj_0 hS).2 (zr_0_8 hS) ?_
  refine zw_cV (n := 85) d84_82 (zs_S rfl rfl rfl rfl) (by rw [ml_39]; rfl) (by decide) rfl (zc_mV h (fun C3 h => ?_))
  refine zw_aload_n (n := 86) d84_85 rfl rfl ?_
  refine zw_getr (n := 89) d84_86 rfl (zj_0 h1).1 (zj_0 h1).2 (zr_0_9 h1) ?_
  refine zw_aload_n (n := 90) d84_89 rfl rfl ?_
  refine zw_getr (n := 93) d84_90 rfl (zj_0 hS).1 (zj_0 hS).2 (zr_0_9 hS) ?_
  refine zw_cV (n := 96) d84_93 (zs_S rfl rfl rfl rfl) (by rw [ml_39]; rfl) (by decide) rfl (zc_mV h (fun C4 h => ?_))
  exact zw_ret d84_96 ⟨rfl, h⟩

set_option maxRecDepth 20000 in
theorem zf115 (pc : Nat) : zt_code 115 pc = zt_fd zl_115 pc := rfl
theorem d115_0 : zt_code 115 0 = some (.lconst 1, 0, 0, 0) := (zf115 0).trans rfl
theorem d115_1 : zt_code 115 1 = some (.lstore_n 3, 0, 0, 0) := (zf115 1).trans rfl
theorem d115_2 : zt_code 115 2 = some (.iconst (0), 0, 0, 0) := (zf115 2).trans rfl
theorem d115_3 : zt_code 115 3 = some (.istore 5, 0, 0, 0) := (zf115 3).trans rfl
theorem d115_5 : zt_code 115 5 = some (.iload 5, 0, 0, 0) := (zf115 5).trans rfl
theorem d115_7 : zt_code 115 7 = some (.iload_n 2, 0, 0, 0) := (zf115 7).trans rfl
theorem d115_8 : zt_code 115 8 = some (.if_icmp .ge (13), 0, 21, 0) := (zf115 8).trans rfl
theorem d115_11 : zt_code 115 11 = some (.lload_n 3, 0, 0, 0) := (zf115 11).trans rfl
theorem d115_12 : zt_code 115 12 = some (.lload_n 0, 0, 0, 0) := (zf115 12).trans rfl
theorem d115_13 : zt_code 115 13 = some (.lmul, 0, 0, 0) := (zf115 13).trans rfl
theorem d115_14 : zt_code 115 14 = some (.lstore_n 3, 0, 0, 0) := (zf115 14).trans rfl
theorem d115_15 : zt_code 115 15 = some (.iinc 5 (1), 0, 0, 0) := (zf115 15).trans rfl
theorem d115_18 : zt_code 115 18 = some (.goto (-13), 0, 5, 0) := (zf115 18).trans rfl
theorem d115_21 : zt_code 115 21 = some (.lload_n 3, 0, 0, 0) := (zf115 21).trans rfl
theorem d115_22 : zt_code 115 22 = some (.lreturn, 0, 0, 0) := (zf115 22).trans rfl
/-- FirstAtTheFirst.power(JI)J -/
theorem vc115 {X : zX} {S : zx_S} {C : zx_C} {q : Int64 → zx_C → Prop} {a1 : Int64} {a2 : Int32}  (h : zW X 0 115 5 [.long a1, .retAddr 1, .int a2, .long 1, .retAddr 1, .int 0] [] S C (zQl q)) : zCd X 0 115 [.long a1, .int a2] S C (zQl q) := by
  refine zc_in ml_115 rfl ?_
  refine zw_lconst (n := 1) d115_0 rfl zk_c_1 ?_
  refine zw_lstore_n (n := 2) d115_1 rfl rfl rfl ?_
  refine zw_iconst (n := 3) d115_2 rfl zk_i_0 ?_
  refine zw_istore (n := 5) d115_3 rfl rfl rfl ?_
  exact h
theorem vc115_5 {X : zX} {S : zx_S} {C : zx_C} {q : Int64 → zx_C → Prop} {a1 : Int64} {a2 : Int32} {i0 : Int64} {i2 : Int32} {i3 : Int64} {i5 : Int32}  (h : if (i5 : Int32) < i2 then (zW X 0 115 5 [.long i0, .retAddr 1, .int i2, .long (i3 * i0), .retAddr 1, .int (i5 + 1)] [] S C (zQl q)) else (q i3 C)) : zW X 0 115 5 [.long i0, .retAddr 1, .int i2, .long i3, .retAddr 1, .int i5] [] S C (zQl q) := by
  refine zw_iload (n := 7) d115_5 rfl rfl ?_
  refine zw_iload_n (n := 8) d115_7 rfl rfl ?_
  refine zw_ic_ge (n := 11) d115_8 rfl (zite h (fun h => ?_) (fun h => ?_))
  · skip
    refine zw_lload_n (n := 12) d115_11 rfl rfl rfl ?_
    refine zw_lload_n (n := 13) d115_12 rfl rfl rfl ?_
    refine zw_lmul (n := 14) d115_13 rfl ?_
    refine zw_lstore_n (n := 15) d115_14 rfl rfl rfl ?_
    refine zw_iinc (n := 18) d115_15 rfl rfl zk_i_1 rfl ?_
    refine zw_goto d115_18 ?_
    exact h
  · skip
    refine zw_lload_n (n := 22) d115_21 rfl rfl rfl ?_
    exact zw_lret d115_22 ⟨_, rfl, h⟩

set_option maxRecDepth 20000 in
theorem zf142 (pc : Nat) : zt_code 142 pc = zt_fd zl_142 pc := rfl
theorem d142_0 : zt_code 142 0 = some (.aload_n 0, 0, 0, 0) := (zf142 0).trans rfl
theorem d142_1 : zt_code 142 1 = some (.getfield 28, 0, 8, 1) := (zf142 1).trans rfl
theorem d142_4 : zt_code 142 4 = some (.iload_n 1, 0, 0, 0) := (zf142 4).trans rfl
theorem d142_5 : zt_code 142 5 = some (.aload_n 0, 0, 0, 0) := (zf142 5).trans rfl
theorem d142_6 : zt_code 142 6 = some (.aload_n 0, 0, 0, 0) := (zf142 6).trans rfl
theorem d142_7 : zt_code 142 7 = some (.getfield 37, 0, 2, 0) := (zf142 7).trans rfl
theorem d142_10 : zt_code 142 10 = some (.aload_n 0, 0, 0, 0) := (zf142 10).trans rfl
theorem d142_11 : zt_code 142 11 = some (.getfield 40, 0, 3, 0) := (zf142 11).trans rfl
theorem d142_14 : zt_code 142 14 = some (.invokevirtual 69, 46, 3, 0) := (zf142 14).trans rfl
theorem d142_17 : zt_code 142 17 = some (.invokestatic 65, 12, 3, -1) := (zf142 17).trans rfl
theorem d142_20 : zt_code 142 20 = some (.aload_n 0, 0, 0, 0) := (zf142 20).trans rfl
theorem d142_21 : zt_code 142 21 = some (.dup, 0, 0, 0) := (zf142 21).trans rfl
theorem d142_22 : zt_code 142 22 = some (.getfield 40, 0, 3, 0) := (zf142 22).trans rfl
theorem d142_25 : zt_code 142 25 = some (.iconst (1), 0, 0, 0) := (zf142 25).trans rfl
theorem d142_26 : zt_code 142 26 = some (.iadd, 0, 0, 0) := (zf142 26).trans rfl
theorem d142_27 : zt_code 142 27 = some (.putfield 40, 0, 3, 0) := (zf142 27).trans rfl
theorem d142_30 : zt_code 142 30 = some (.return_, 0, 0, 0) := (zf142 30).trans rfl
/-- FirstAtTheFirst$Estate.takeInTruth(I)V -/
theorem vc142 {X : zX} {S : zx_S} {C : zx_C} {q : zx_C → Prop} {e : Nat} {a1 : Int32} (hS : zs_0 S e) (h : zCd X 1 46 [.ref e, .int (C.1 e 2), .int (C.1 e 3)] S C (zQi (fun r1 C1 => zCd X 0 12 [.ref (e + 3), .int a1, .int r1] S C1 (zQv (fun C2 => q (zp C2 e 3 ((C2.1 e 3) + 1))))))) : zCd X 2 142 [.ref e, .int a1] S C (zQv q) := by
  refine zc_in ml_142 rfl ?_
  refine zw_aload_n (n := 1) d142_0 rfl rfl ?_
  refine zw_getr (n := 4) d142_1 rfl (zj_0 hS).1 (zj_0 hS).2 (zr_0_8 hS) ?_
  refine zw_iload_n (n := 5) d142_4 rfl rfl ?_
  refine zw_aload_n (n := 6) d142_5 rfl rfl ?_
  refine zw_aload_n (n := 7) d142_6 rfl rfl ?_
  refine zw_geti (n := 10) d142_7 rfl (zj_0 hS).1 (zj_0 hS).2 ?_
  refine zw_aload_n (n := 11) d142_10 rfl rfl ?_
  refine zw_geti (n := 14) d142_11 rfl (zj_0 hS).1 (zj_0 hS).2 ?_
  refine zw_cI (n := 17) d142_14 (zs_V rfl rfl rfl rfl (by decide) (zj_0 hS).1 (zq_0 hS)) (by rw [ml_46]; rfl) (by decide) rfl (zc_mI h (fun r1 C1 h => ?_))
  refine zw_cV (n := 20) d142_17 (zs_S rfl rfl rfl rfl) (by rw [ml_12]; rfl) (by decide) rfl (zc_mV h (fun C2 h => ?_))
  refine zw_aload_n (n := 21) d142_20 rfl rfl ?_
  refine zw_dup (n := 22) d142_21 rfl rfl ?_
  refine zw_geti (n := 25) d142_22 rfl (zj_0 hS).1 (zj_0 hS).2 ?_
  refine zw_iconst (n := 26) d142_25 rfl zk_i_1 ?_
  refine zw_iadd (n := 27) d142_26 rfl ?_
  refine zw_puti (n := 30) d142_27 rfl (zj_0 hS).1 (zj_0 hS).2 ?_
  exact zw_ret d142_30 ⟨rfl, h⟩

set_option maxRecDepth 20000 in
theorem zf144 (pc : Nat) : zt_code 144 pc = zt_fd zl_144 pc := rfl
theorem d144_0 : zt_code 144 0 = some (.aload_n 0, 0, 0, 0) := (zf144 0).trans rfl
theorem d144_1 : zt_code 144 1 = some (.iload_n 1, 0, 0, 0) := (zf144 1).trans rfl
theorem d144_2 : zt_code 144 2 = some (.invokevirtual 72, 80, 2, 0) := (zf144 2).trans rfl
theorem d144_5 : zt_code 144 5 = some (.istore_n 3, 0, 0, 0) := (zf144 5).trans rfl
theorem d144_6 : zt_code 144 6 = some (.aload_n 0, 0, 0, 0) := (zf144 6).trans rfl
theorem d144_7 : zt_code 144 7 = some (.iload_n 2, 0, 0, 0) := (zf144 7).trans rfl
theorem d144_8 : zt_code 144 8 = some (.invokevirtual 72, 80, 2, 0) := (zf144 8).trans rfl
theorem d144_11 : zt_code 144 11 = some (.istore 4, 0, 0, 0) := (zf144 11).trans rfl
theorem d144_13 : zt_code 144 13 = some (.iload_n 3, 0, 0, 0) := (zf144 13).trans rfl
theorem d144_14 : zt_code 144 14 = some (.iconst (-1), 0, 0, 0) := (zf144 14).trans rfl
theorem d144_15 : zt_code 144 15 = some (.if_icmp .eq (15), 0, 30, 0) := (zf144 15).trans rfl
theorem d144_18 : zt_code 144 18 = some (.iload 4, 0, 0, 0) := (zf144 18).trans rfl
theorem d144_20 : zt_code 144 20 = some (.iconst (-1), 0, 0, 0) := (zf144 20).trans rfl
theorem d144_21 : zt_code 144 21 = some (.if_icmp .eq (9), 0, 30, 0) := (zf144 21).trans rfl
theorem d144_24 : zt_code 144 24 = some (.iload_n 3, 0, 0, 0) := (zf144 24).trans rfl
theorem d144_25 : zt_code 144 25 = some (.iload 4, 0, 0, 0) := (zf144 25).trans rfl
theorem d144_27 : zt_code 144 27 = some (.if_icmp .ne (5), 0, 32, 0) := (zf144 27).trans rfl
theorem d144_30 : zt_code 144 30 = some (.iconst (0), 0, 0, 0) := (zf144 30).trans rfl
theorem d144_31 : zt_code 144 31 = some (.ireturn, 0, 0, 0) := (zf144 31).trans rfl
theorem d144_32 : zt_code 144 32 = some (.aload_n 0, 0, 0, 0) := (zf144 32).trans rfl
theorem d144_33 : zt_code 144 33 = some (.iload_n 3, 0, 0, 0) := (zf144 33).trans rfl
theorem d144_34 : zt_code 144 34 = some (.iload_n 2, 0, 0, 0) := (zf144 34).trans rfl
theorem d144_35 : zt_code 144 35 = some (.invokevirtual 58, 41, 3, 0) := (zf144 35).trans rfl
theorem d144_38 : zt_code 144 38 = some (.aload_n 0, 0, 0, 0) := (zf144 38).trans rfl
theorem d144_39 : zt_code 144 39 = some (.iload_n 3, 0, 0, 0) := (zf144 39).trans rfl
theorem d144_40 : zt_code 144 40 = some (.iload_n 1, 0, 0, 0) := (zf144 40).trans rfl
theorem d144_41 : zt_code 144 41 = some (.invokevirtual 58, 41, 3, 0) := (zf144 41).trans rfl
theorem d144_44 : zt_code 144 44 = some (.isub, 0, 0, 0) := (zf144 44).trans rfl
theorem d144_45 : zt_code 144 45 = some (.istore 5, 0, 0, 0) := (zf144 45).trans rfl
theorem d144_47 : zt_code 144 47 = some (.aload_n 0, 0, 0, 0) := (zf144 47).trans rfl
theorem d144_48 : zt_code 144 48 = some (.iload 4, 0, 0, 0) := (zf144 48).trans rfl
theorem d144_50 : zt_code 144 50 = some (.iload_n 1, 0, 0, 0) := (zf144 50).trans rfl
theorem d144_51 : zt_code 144 51 = some (.invokevirtual 58, 41, 3, 0) := (zf144 51).trans rfl
theorem d144_54 : zt_code 144 54 = some (.aload_n 0, 0, 0, 0) := (zf144 54).trans rfl
theorem d144_55 : zt_code 144 55 = some (.iload 4, 0, 0, 0) := (zf144 55).trans rfl
theorem d144_57 : zt_code 144 57 = some (.iload_n 2, 0, 0, 0) := (zf144 57).trans rfl
theorem d144_58 : zt_code 144 58 = some (.invokevirtual 58, 41, 3, 0) := (zf144 58).trans rfl
theorem d144_61 : zt_code 144 61 = some (.isub, 0, 0, 0) := (zf144 61).trans rfl
theorem d144_62 : zt_code 144 62 = some (.istore 6, 0, 0, 0) := (zf144 62).trans rfl
theorem d144_64 : zt_code 144 64 = some (.iload 5, 0, 0, 0) := (zf144 64).trans rfl
theorem d144_66 : zt_code 144 66 = some (.ifCond .le (16), 0, 82, 0) := (zf144 66).trans rfl
theorem d144_69 : zt_code 144 69 = some (.iload 6, 0, 0, 0) := (zf144 69).trans rfl
theorem d144_71 : zt_code 144 71 = some (.ifCond .le (11), 0, 82, 0) := (zf144 71).trans rfl
theorem d144_74 : zt_code 144 74 = some (.iload 5, 0, 0, 0) := (zf144 74).trans rfl
theorem d144_76 : zt_code 144 76 = some (.iload 6, 0, 0, 0) := (zf144 76).trans rfl
theorem d144_78 : zt_code 144 78 = some (.iadd, 0, 0, 0) := (zf144 78).trans rfl
theorem d144_79 : zt_code 144 79 = some (.goto (4), 0, 83, 0) := (zf144 79).trans rfl
theorem d144_82 : zt_code 144 82 = some (.iconst (0), 0, 0, 0) := (zf144 82).trans rfl
theorem d144_83 : zt_code 144 83 = some (.ireturn, 0, 0, 0) := (zf144 83).trans rfl
/-- FirstAtTheFirst$Estate.gainOfTrade(II)I -/
theorem vc144 {X : zX} {S : zx_S} {C : zx_C} {q : Int32 → zx_C → Prop} {e : Nat} {a1 : Int32} {a2 : Int32} (hS : zs_0 S e) (h : zCd X 1 80 [.ref e, .int a1] S C (zQi (fun r1 C1 => zCd X 1 80 [.ref e, .int a2] S C1 (zQi (fun r2 C2 => if (r1 : Int32) = (-1) then (q 0 C2) else (if (r2 : Int32) = (-1) then (q 0 C2) else (if (r1 : Int32) = r2 then (q 0 C2) else (zCd X 1 41 [.ref e, .int r1, .int a2] S C2 (zQi (fun r3 C3 => zCd X 1 41 [.ref e, .int r1, .int a1] S C3 (zQi (fun r4 C4 => zCd X 1 41 [.ref e, .int r2, .int a1] S C4 (zQi (fun r5 C5 => zCd X 1 41 [.ref e, .int r2, .int a2] S C5 (zQi (fun r6 C6 => if (0 : Int32) < (r3 - r4) then (if (0 : Int32) < (r5 - r6) then (q ((r3 - r4) + (r5 - r6)) C6) else (q 0 C6)) else (q 0 C6))))))))))))))))) : zCd X 2 144 [.ref e, .int a1, .int a2] S C (zQi q) := by
  refine zc_in ml_144 rfl ?_
  refine zw_aload_n (n := 1) d144_0 rfl rfl ?_
  refine zw_iload_n (n := 2) d144_1 rfl rfl ?_
  refine zw_cI (n := 5) d144_2 (zs_V rfl rfl rfl rfl (by decide) (zj_0 hS).1 (zq_0 hS)) (by rw [ml_80]; rfl) (by decide) rfl (zc_mI h (fun r1 C1 h => ?_))
  refine zw_istore_n (n := 6) d144_5 rfl rfl rfl ?_
  refine zw_aload_n (n := 7) d144_6 rfl rfl ?_
  refine zw_iload_n (n := 8) d144_7 rfl rfl ?_
  refine zw_cI (n := 11) d144_8 (zs_V rfl rfl rfl rfl (by decide) (zj_0 hS).1 (zq_0 hS)) (by rw [ml_80]; rfl) (by decide) rfl (zc_mI h (fun r2 C2 h => ?_))
  refine zw_istore (n := 13) d144_11 rfl rfl rfl ?_
  refine zw_iload_n (n := 14) d144_13 rfl rfl ?_
  refine zw_iconst (n := 15) d144_14 rfl zk_i_m1 ?_
  refine zw_ic_eq (n := 18) d144_15 rfl (zite h (fun h => ?_) (fun h => ?_))
  · skip
    refine zw_iconst (n := 31) d144_30 rfl zk_i_0 ?_
    exact zw_iret d144_31 rfl ⟨_, rfl, h⟩
  · skip
    refine zw_iload (n := 20) d144_18 rfl rfl ?_
    refine zw_iconst (n := 21) d144_20 rfl zk_i_m1 ?_
    refine zw_ic_eq (n := 24) d144_21 rfl (zite h (fun h => ?_) (fun h => ?_))
    · skip
      refine zw_iconst (n := 31) d144_30 rfl zk_i_0 ?_
      exact zw_iret d144_31 rfl ⟨_, rfl, h⟩
    · skip
      refine zw_iload_n (n := 25) d144_24 rfl rfl ?_
      refine zw_iload (n := 27) d144_25 rfl rfl ?_
      refine zw_ic_ne (n := 30) d144_27 rfl (zite h (fun h => ?_) (fun h => ?_))
      · skip
        refine zw_iconst (n := 31) d144_30 rfl zk_i_0 ?_
        exact zw_iret d144_31 rfl ⟨_, rfl, h⟩
      · skip
        refine zw_aload_n (n := 33) d144_32 rfl rfl ?_
        refine zw_iload_n (n := 34) d144_33 rfl rfl ?_
        refine zw_iload_n (n := 35) d144_34 rfl rfl ?_
        refine zw_cI (n := 38) d144_35 (zs_V rfl rfl rfl rfl (by decide) (zj_0 hS).1 (zq_0 hS)) (by rw [ml_41]; rfl) (by decide) rfl (zc_mI h (fun r3 C3 h => ?_))
        refine zw_aload_n (n := 39) d144_38 rfl rfl ?_
        refine zw_iload_n (n := 40) d144_39 rfl rfl ?_
        refine zw_iload_n (n := 41) d144_40 rfl rfl ?_
        refine zw_cI (n := 44) d144_41 (zs_V rfl rfl rfl rfl (by decide) (zj_0 hS).1 (zq_0 hS)) (by rw [ml_41]; rfl) (by decide) rfl (zc_mI h (fun r4 C4 h => ?_))
        refine zw_isub (n := 45) d144_44 rfl ?_
        refine zw_istore (n := 47) d144_45 rfl rfl rfl ?_
        refine zw_aload_n (n := 48) d144_47 rfl rfl ?_
        refine zw_iload (n := 50) d144_48 rfl rfl ?_
        refine zw_iload_n (n := 51) d144_50 rfl rfl ?_
        refine zw_cI (n := 54) d144_51 (zs_V rfl rfl rfl rfl (by decide) (zj_0 hS).1 (zq_0 hS)) (by rw [ml_41]; rfl) (by decide) rfl (zc_mI h (fun r5 C5 h => ?_))
        refine zw_aload_n (n := 55) d144_54 rfl rfl ?_
        refine zw_iload (n := 57) d144_55 rfl rfl ?_
        refine zw_iload_n (n := 58) d144_57 rfl rfl ?_
        refine zw_cI (n := 61) d144_58 (zs_V rfl rfl rfl rfl (by decide) (zj_0 hS).1 (zq_0 hS)) (by rw [ml_41]; rfl) (by decide) rfl (zc_mI h (fun r6 C6 h => ?_))
        refine zw_isub (n := 62) d144_61 rfl ?_
        refine zw_istore (n := 64) d144_62 rfl rfl rfl ?_
        refine zw_iload (n := 66) d144_64 rfl rfl ?_
        refine zw_if_le (n := 69) d144_66 rfl (zite h (fun h => ?_) (fun h => ?_))
        · skip
          refine zw_iload (n := 71) d144_69 rfl rfl ?_
          refine zw_if_le (n := 74) d144_71 rfl (zite h (fun h => ?_) (fun h => ?_))
          · skip
            refine zw_iload (n := 76) d144_74 rfl rfl ?_
            refine zw_iload (n := 78) d144_76 rfl rfl ?_
            refine zw_iadd (n := 79) d144_78 rfl ?_
            refine zw_goto d144_79 ?_
            exact zw_iret d144_83 rfl ⟨_, rfl, h⟩
          · skip
            refine zw_iconst (n := 83) d144_82 rfl zk_i_0 ?_
            exact zw_iret d144_83 rfl ⟨_, rfl, h⟩
        · skip
          refine zw_iconst (n := 83) d144_82 rfl zk_i_0 ?_
          exact zw_iret d144_83 rfl ⟨_, rfl, h⟩

set_option maxRecDepth 20000 in
theorem zf150 (pc : Nat) : zt_code 150 pc = zt_fd zl_150 pc := rfl
theorem d150_0 : zt_code 150 0 = some (.aload_n 0, 0, 0, 0) := (zf150 0).trans rfl
theorem d150_1 : zt_code 150 1 = some (.aload_n 0, 0, 0, 0) := (zf150 1).trans rfl
theorem d150_2 : zt_code 150 2 = some (.getfield 15, 0, 4, 0) := (zf150 2).trans rfl
theorem d150_5 : zt_code 150 5 = some (.ldc 76, 0, 0, 1103515245) := (zf150 5).trans rfl
theorem d150_7 : zt_code 150 7 = some (.imul, 0, 0, 0) := (zf150 7).trans rfl
theorem d150_8 : zt_code 150 8 = some (.sipush (12345), 0, 0, 0) := (zf150 8).trans rfl
theorem d150_11 : zt_code 150 11 = some (.iadd, 0, 0, 0) := (zf150 11).trans rfl
theorem d150_12 : zt_code 150 12 = some (.putfield 15, 0, 4, 0) := (zf150 12).trans rfl
theorem d150_15 : zt_code 150 15 = some (.iload_n 1, 0, 0, 0) := (zf150 15).trans rfl
theorem d150_16 : zt_code 150 16 = some (.ifCond .le (15), 0, 31, 0) := (zf150 16).trans rfl
theorem d150_19 : zt_code 150 19 = some (.aload_n 0, 0, 0, 0) := (zf150 19).trans rfl
theorem d150_20 : zt_code 150 20 = some (.getfield 15, 0, 4, 0) := (zf150 20).trans rfl
theorem d150_23 : zt_code 150 23 = some (.bipush (16), 0, 0, 0) := (zf150 23).trans rfl
theorem d150_25 : zt_code 150 25 = some (.iushr, 0, 0, 0) := (zf150 25).trans rfl
theorem d150_26 : zt_code 150 26 = some (.iload_n 1, 0, 0, 0) := (zf150 26).trans rfl
theorem d150_27 : zt_code 150 27 = some (.irem, 0, 0, 0) := (zf150 27).trans rfl
theorem d150_28 : zt_code 150 28 = some (.goto (4), 0, 32, 0) := (zf150 28).trans rfl
theorem d150_31 : zt_code 150 31 = some (.iconst (0), 0, 0, 0) := (zf150 31).trans rfl
theorem d150_32 : zt_code 150 32 = some (.ireturn, 0, 0, 0) := (zf150 32).trans rfl
/-- FirstAtTheFirst$Estate.draw(I)I -/
theorem vc150 {X : zX} {S : zx_S} {C : zx_C} {q : Int32 → zx_C → Prop} {e : Nat} {a1 : Int32} (hS : zs_0 S e) (h : if (0 : Int32) < a1 then (¬ (a1 : Int32) = 0 ∧ (q ((Int32.toUInt32 (Prod.fst (zp C e 4 (((C.1 e 4) * 1103515245) + 12345)) e 4) >>> (Int32.toUInt32 16 &&& Int32.toUInt32 31)).toInt32 - (Int32.toUInt32 (Prod.fst (zp C e 4 (((C.1 e 4) * 1103515245) + 12345)) e 4) >>> (Int32.toUInt32 16 &&& Int32.toUInt32 31)).toInt32 / a1 * a1) (zp C e 4 (((C.1 e 4) * 1103515245) + 12345)))) else (q 0 (zp C e 4 (((C.1 e 4) * 1103515245) + 12345)))) : zCd X 0 150 [.ref e, .int a1] S C (zQi q) := by
  refine zc_in ml_150 rfl ?_
  refine zw_aload_n (n := 1) d150_0 rfl rfl ?_
  refine zw_aload_n (n := 2) d150_1 rfl rfl ?_
  refine zw_geti (n := 5) d150_2 rfl (zj_0 hS).1 (zj_0 hS).2 ?_
  refine zw_ldci (n := 7) d150_5 rfl zk_i_1103515245 ?_
  refine zw_imul (n := 8) d150_7 rfl ?_
  refine zw_sipush (n := 11) d150_8 rfl zk_s_12345 ?_
  refine zw_iadd (n := 12) d150_11 rfl ?_
  refine zw_puti (n := 15) d150_12 rfl (zj_0 hS).1 (zj_0 hS).2 ?_
  refine zw_iload_n (n := 16) d150_15 rfl rfl ?_
  refine zw_if_le (n := 19) d150_16 rfl (zite h (fun h => ?_) (fun h => ?_))
  · skip
    refine zw_aload_n (n := 20) d150_19 rfl rfl ?_
    refine zw_geti (n := 23) d150_20 rfl (zj_0 hS).1 (zj_0 hS).2 ?_
    refine zw_bipush (n := 25) d150_23 rfl zk_b_16 ?_
    refine zw_iushr (n := 26) d150_25 rfl ?_
    refine zw_iload_n (n := 27) d150_26 rfl rfl ?_
    obtain ⟨hy, h⟩ := h
    refine zw_irem (n := 28) d150_27 rfl hy ?_
    refine zw_goto d150_28 ?_
    exact zw_iret d150_32 rfl ⟨_, rfl, h⟩
  · skip
    refine zw_iconst (n := 32) d150_31 rfl zk_i_0 ?_
    exact zw_iret d150_32 rfl ⟨_, rfl, h⟩

set_option maxRecDepth 20000 in
theorem zf256 (pc : Nat) : zt_code 256 pc = zt_fd zl_256 pc := rfl
theorem d256_0 : zt_code 256 0 = some (.iconst (0), 0, 0, 0) := (zf256 0).trans rfl
theorem d256_1 : zt_code 256 1 = some (.istore_n 3, 0, 0, 0) := (zf256 1).trans rfl
theorem d256_2 : zt_code 256 2 = some (.iload_n 3, 0, 0, 0) := (zf256 2).trans rfl
theorem d256_3 : zt_code 256 3 = some (.iload_n 2, 0, 0, 0) := (zf256 3).trans rfl
theorem d256_4 : zt_code 256 4 = some (.if_icmp .ge (41), 0, 45, 0) := (zf256 4).trans rfl
theorem d256_7 : zt_code 256 7 = some (.aload_n 0, 0, 0, 0) := (zf256 7).trans rfl
theorem d256_8 : zt_code 256 8 = some (.iload_n 3, 0, 0, 0) := (zf256 8).trans rfl
theorem d256_9 : zt_code 256 9 = some (.invokestatic 242, 11, 2, -1) := (zf256 9).trans rfl
theorem d256_12 : zt_code 256 12 = some (.aload_n 1, 0, 0, 0) := (zf256 12).trans rfl
theorem d256_13 : zt_code 256 13 = some (.iload_n 3, 0, 0, 0) := (zf256 13).trans rfl
theorem d256_14 : zt_code 256 14 = some (.invokestatic 242, 11, 2, -1) := (zf256 14).trans rfl
theorem d256_17 : zt_code 256 17 = some (.if_icmp .eq (22), 0, 39, 0) := (zf256 17).trans rfl
theorem d256_20 : zt_code 256 20 = some (.aload_n 0, 0, 0, 0) := (zf256 20).trans rfl
theorem d256_21 : zt_code 256 21 = some (.iload_n 3, 0, 0, 0) := (zf256 21).trans rfl
theorem d256_22 : zt_code 256 22 = some (.invokestatic 242, 11, 2, -1) := (zf256 22).trans rfl
theorem d256_25 : zt_code 256 25 = some (.aload_n 1, 0, 0, 0) := (zf256 25).trans rfl
theorem d256_26 : zt_code 256 26 = some (.iload_n 3, 0, 0, 0) := (zf256 26).trans rfl
theorem d256_27 : zt_code 256 27 = some (.invokestatic 242, 11, 2, -1) := (zf256 27).trans rfl
theorem d256_30 : zt_code 256 30 = some (.if_icmp .ge (7), 0, 37, 0) := (zf256 30).trans rfl
theorem d256_33 : zt_code 256 33 = some (.iconst (1), 0, 0, 0) := (zf256 33).trans rfl
theorem d256_34 : zt_code 256 34 = some (.goto (4), 0, 38, 0) := (zf256 34).trans rfl
theorem d256_37 : zt_code 256 37 = some (.iconst (0), 0, 0, 0) := (zf256 37).trans rfl
theorem d256_38 : zt_code 256 38 = some (.ireturn, 1, 0, 0) := (zf256 38).trans rfl
theorem d256_39 : zt_code 256 39 = some (.iinc 3 (1), 0, 0, 0) := (zf256 39).trans rfl
theorem d256_42 : zt_code 256 42 = some (.goto (-40), 0, 2, 0) := (zf256 42).trans rfl
theorem d256_45 : zt_code 256 45 = some (.iconst (0), 0, 0, 0) := (zf256 45).trans rfl
theorem d256_46 : zt_code 256 46 = some (.ireturn, 1, 0, 0) := (zf256 46).trans rfl
/-- FirstAtTheFirst.isBefore([I[II)Z -/
theorem vc256 {X : zX} {S : zx_S} {C : zx_C} {q : Int32 → zx_C → Prop} {a1 n1 : Nat} {a2 n2 : Nat} {a3 : Int32} (h1 : a1 < 900000 ∧ S.1 a1 = (10, n1)) (h2 : a2 < 900000 ∧ S.1 a2 = (10, n2)) (h : zW X 1 256 2 [.ref a1, .ref a2, .int a3, .int 0] [] S C (zQi q)) : zCd X 1 256 [.ref a1, .ref a2, .int a3] S C (zQi q) := by
  refine zc_in ml_256 rfl ?_
  refine zw_iconst (n := 1) d256_0 rfl zk_i_0 ?_
  refine zw_istore_n (n := 2) d256_1 rfl rfl rfl ?_
  exact h
theorem vc256_2 {X : zX} {S : zx_S} {C : zx_C} {q : Int32 → zx_C → Prop} {a1 n1 : Nat} {a2 n2 : Nat} {a3 : Int32} {i2 : Int32} {i3 : Int32} (h1 : a1 < 900000 ∧ S.1 a1 = (10, n1)) (h2 : a2 < 900000 ∧ S.1 a2 = (10, n2)) (h : if (i3 : Int32) < i2 then (zCd X 0 11 [.ref a1, .int i3] S C (zQi (fun r1 C1 => zCd X 0 11 [.ref a2, .int i3] S C1 (zQi (fun r2 C2 => if (r1 : Int32) = r2 then (zW X 1 256 2 [.ref a1, .ref a2, .int i2, .int (i3 + 1)] [] S C2 (zQi q)) else (zCd X 0 11 [.ref a1, .int i3] S C2 (zQi (fun r3 C3 => zCd X 0 11 [.ref a2, .int i3] S C3 (zQi (fun r4 C4 => if (r3 : Int32) < r4 then (q 1 C4) else (q 0 C4))))))))))) else (q 0 C)) : zW X 1 256 2 [.ref a1, .ref a2, .int i2, .int i3] [] S C (zQi q) := by
  refine zw_iload_n (n := 3) d256_2 rfl rfl ?_
  refine zw_iload_n (n := 4) d256_3 rfl rfl ?_
  refine zw_ic_ge (n := 7) d256_4 rfl (zite h (fun h => ?_) (fun h => ?_))
  · skip
    refine zw_aload_n (n := 8) d256_7 rfl rfl ?_
    refine zw_iload_n (n := 9) d256_8 rfl rfl ?_
    refine zw_cI (n := 12) d256_9 (zs_S rfl rfl rfl rfl) (by rw [ml_11]; rfl) (by decide) rfl (zc_mI h (fun r1 C1 h => ?_))
    refine zw_aload_n (n := 13) d256_12 rfl rfl ?_
    refine zw_iload_n (n := 14) d256_13 rfl rfl ?_
    refine zw_cI (n := 17) d256_14 (zs_S rfl rfl rfl rfl) (by rw [ml_11]; rfl) (by decide) rfl (zc_mI h (fun r2 C2 h => ?_))
    refine zw_ic_eq (n := 20) d256_17 rfl (zite h (fun h => ?_) (fun h => ?_))
    · skip
      refine zw_iinc (n := 42) d256_39 rfl rfl zk_i_1 rfl ?_
      refine zw_goto d256_42 ?_
      exact h
    · skip
      refine zw_aload_n (n := 21) d256_20 rfl rfl ?_
      refine zw_iload_n (n := 22) d256_21 rfl rfl ?_
      refine zw_cI (n := 25) d256_22 (zs_S rfl rfl rfl rfl) (by rw [ml_11]; rfl) (by decide) rfl (zc_mI h (fun r3 C3 h => ?_))
      refine zw_aload_n (n := 26) d256_25 rfl rfl ?_
      refine zw_iload_n (n := 27) d256_26 rfl rfl ?_
      refine zw_cI (n := 30) d256_27 (zs_S rfl rfl rfl rfl) (by rw [ml_11]; rfl) (by decide) rfl (zc_mI h (fun r4 C4 h => ?_))
      refine zw_ic_ge (n := 33) d256_30 rfl (zite h (fun h => ?_) (fun h => ?_))
      · skip
        refine zw_iconst (n := 34) d256_33 rfl zk_i_1 ?_
        refine zw_goto d256_34 ?_
        exact zw_iret d256_38 rfl ⟨_, rfl, h⟩
      · skip
        refine zw_iconst (n := 38) d256_37 rfl zk_i_0 ?_
        exact zw_iret d256_38 rfl ⟨_, rfl, h⟩
  · skip
    refine zw_iconst (n := 46) d256_45 rfl zk_i_0 ?_
    exact zw_iret d256_46 rfl ⟨_, rfl, h⟩

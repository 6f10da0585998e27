set_option maxRecDepth 20000 in
theorem zf8 (pc : Nat) : zt_code 8 pc = zt_fd zl_8 pc := rfl
theorem d8_0 : zt_code 8 0 = some (.iload_n 0, 0, 0, 0) := (zf8 0).trans rfl
theorem d8_1 : zt_code 8 1 = some (.ifCond .lt (13), 0, 14, 0) := (zf8 1).trans rfl
theorem d8_4 : zt_code 8 4 = some (.iload_n 0, 0, 0, 0) := (zf8 4).trans rfl
theorem d8_5 : zt_code 8 5 = some (.bipush (8), 0, 0, 0) := (zf8 5).trans rfl
theorem d8_7 : zt_code 8 7 = some (.if_icmp .ge (7), 0, 14, 0) := (zf8 7).trans rfl
theorem d8_10 : zt_code 8 10 = some (.iconst (1), 0, 0, 0) := (zf8 10).trans rfl
theorem d8_11 : zt_code 8 11 = some (.goto (4), 0, 15, 0) := (zf8 11).trans rfl
theorem d8_14 : zt_code 8 14 = some (.iconst (0), 0, 0, 0) := (zf8 14).trans rfl
theorem d8_15 : zt_code 8 15 = some (.ireturn, 1, 0, 0) := (zf8 15).trans rfl
/-- FirstAtTheFirst$Shelves.isShelf(I)Z -/
theorem vc8 {X : zX} {S : zx_S} {C : zx_C} {q : Int32 → zx_C → Prop} {a1 : Int32}  (h : if (a1 : Int32) < 0 then (q 0 C) else (if (a1 : Int32) < 8 then (q 1 C) else (q 0 C))) : zCd X 0 8 [.int a1] S C (zQi q) := by
  refine zc_in ml_8 rfl ?_
  refine zw_iload_n (n := 1) d8_0 rfl rfl ?_
  refine zw_if_lt (n := 4) d8_1 rfl (zite h (fun h => ?_) (fun h => ?_))
  · skip
    refine zw_iconst (n := 15) d8_14 rfl zk_i_0 ?_
    exact zw_iret d8_15 rfl ⟨_, rfl, h⟩
  · skip
    refine zw_iload_n (n := 5) d8_4 rfl rfl ?_
    refine zw_bipush (n := 7) d8_5 rfl zk_b_8 ?_
    refine zw_ic_ge (n := 10) d8_7 rfl (zite h (fun h => ?_) (fun h => ?_))
    · skip
      refine zw_iconst (n := 11) d8_10 rfl zk_i_1 ?_
      refine zw_goto d8_11 ?_
      exact zw_iret d8_15 rfl ⟨_, rfl, h⟩
    · skip
      refine zw_iconst (n := 15) d8_14 rfl zk_i_0 ?_
      exact zw_iret d8_15 rfl ⟨_, rfl, h⟩

set_option maxRecDepth 20000 in
theorem zf9 (pc : Nat) : zt_code 9 pc = zt_fd zl_9 pc := rfl
theorem d9_0 : zt_code 9 0 = some (.iload_n 0, 0, 0, 0) := (zf9 0).trans rfl
theorem d9_1 : zt_code 9 1 = some (.ifCond .lt (12), 0, 13, 0) := (zf9 1).trans rfl
theorem d9_4 : zt_code 9 4 = some (.iload_n 0, 0, 0, 0) := (zf9 4).trans rfl
theorem d9_5 : zt_code 9 5 = some (.iconst (4), 0, 0, 0) := (zf9 5).trans rfl
theorem d9_6 : zt_code 9 6 = some (.if_icmp .gt (7), 0, 13, 0) := (zf9 6).trans rfl
theorem d9_9 : zt_code 9 9 = some (.iconst (1), 0, 0, 0) := (zf9 9).trans rfl
theorem d9_10 : zt_code 9 10 = some (.goto (4), 0, 14, 0) := (zf9 10).trans rfl
theorem d9_13 : zt_code 9 13 = some (.iconst (0), 0, 0, 0) := (zf9 13).trans rfl
theorem d9_14 : zt_code 9 14 = some (.ireturn, 1, 0, 0) := (zf9 14).trans rfl
/-- FirstAtTheFirst$Shelves.isSort(I)Z -/
theorem vc9 {X : zX} {S : zx_S} {C : zx_C} {q : Int32 → zx_C → Prop} {a1 : Int32}  (h : if (a1 : Int32) < 0 then (q 0 C) else (if (4 : Int32) < a1 then (q 0 C) else (q 1 C))) : zCd X 0 9 [.int a1] S C (zQi q) := by
  refine zc_in ml_9 rfl ?_
  refine zw_iload_n (n := 1) d9_0 rfl rfl ?_
  refine zw_if_lt (n := 4) d9_1 rfl (zite h (fun h => ?_) (fun h => ?_))
  · skip
    refine zw_iconst (n := 14) d9_13 rfl zk_i_0 ?_
    exact zw_iret d9_14 rfl ⟨_, rfl, h⟩
  · skip
    refine zw_iload_n (n := 5) d9_4 rfl rfl ?_
    refine zw_iconst (n := 6) d9_5 rfl zk_i_4 ?_
    refine zw_ic_gt (n := 9) d9_6 rfl (zite h (fun h => ?_) (fun h => ?_))
    · skip
      refine zw_iconst (n := 14) d9_13 rfl zk_i_0 ?_
      exact zw_iret d9_14 rfl ⟨_, rfl, h⟩
    · skip
      refine zw_iconst (n := 10) d9_9 rfl zk_i_1 ?_
      refine zw_goto d9_10 ?_
      exact zw_iret d9_14 rfl ⟨_, rfl, h⟩

set_option maxRecDepth 20000 in
theorem zf13 (pc : Nat) : zt_code 13 pc = zt_fd zl_13 pc := rfl
theorem d13_0 : zt_code 13 0 = some (.aload_n 0, 0, 0, 0) := (zf13 0).trans rfl
theorem d13_1 : zt_code 13 1 = some (.getfield 9, 2, 0, 1) := (zf13 1).trans rfl
theorem d13_4 : zt_code 13 4 = some (.iload_n 1, 0, 0, 0) := (zf13 4).trans rfl
theorem d13_5 : zt_code 13 5 = some (.iload_n 2, 0, 0, 0) := (zf13 5).trans rfl
theorem d13_6 : zt_code 13 6 = some (.invokestatic 43, 12, 3, -1) := (zf13 6).trans rfl
theorem d13_9 : zt_code 13 9 = some (.aload_n 0, 0, 0, 0) := (zf13 9).trans rfl
theorem d13_10 : zt_code 13 10 = some (.getfield 15, 2, 1, 1) := (zf13 10).trans rfl
theorem d13_13 : zt_code 13 13 = some (.iload_n 1, 0, 0, 0) := (zf13 13).trans rfl
theorem d13_14 : zt_code 13 14 = some (.iload_n 3, 0, 0, 0) := (zf13 14).trans rfl
theorem d13_15 : zt_code 13 15 = some (.invokestatic 43, 12, 3, -1) := (zf13 15).trans rfl
theorem d13_18 : zt_code 13 18 = some (.iconst (0), 0, 0, 0) := (zf13 18).trans rfl
theorem d13_19 : zt_code 13 19 = some (.istore 4, 0, 0, 0) := (zf13 19).trans rfl
theorem d13_21 : zt_code 13 21 = some (.iload 4, 0, 0, 0) := (zf13 21).trans rfl
theorem d13_23 : zt_code 13 23 = some (.iload_n 3, 0, 0, 0) := (zf13 23).trans rfl
theorem d13_24 : zt_code 13 24 = some (.if_icmp .ge (17), 0, 41, 0) := (zf13 24).trans rfl
theorem d13_27 : zt_code 13 27 = some (.aload_n 0, 0, 0, 0) := (zf13 27).trans rfl
theorem d13_28 : zt_code 13 28 = some (.iload_n 1, 0, 0, 0) := (zf13 28).trans rfl
theorem d13_29 : zt_code 13 29 = some (.iload 4, 0, 0, 0) := (zf13 29).trans rfl
theorem d13_31 : zt_code 13 31 = some (.lconst 0, 0, 0, 0) := (zf13 31).trans rfl
theorem d13_32 : zt_code 13 32 = some (.invokevirtual 47, 14, 4, 2) := (zf13 32).trans rfl
theorem d13_35 : zt_code 13 35 = some (.iinc 4 (1), 0, 0, 0) := (zf13 35).trans rfl
theorem d13_38 : zt_code 13 38 = some (.goto (-17), 0, 21, 0) := (zf13 38).trans rfl
theorem d13_41 : zt_code 13 41 = some (.return_, 0, 0, 0) := (zf13 41).trans rfl
/-- FirstAtTheFirst$Shelves.putRow(III)V -/
theorem vc13 {X : zX} {S : zx_S} {C : zx_C} {q : zx_C → Prop} {e : Nat} {a1 : Int32} {a2 : Int32} {a3 : Int32} (hS : zs_2 S e) (h : zCd X 0 12 [.ref (e + 1), .int a1, .int a2] S C (zQv (fun C1 => zCd X 0 12 [.ref (e + 2), .int a1, .int a3] S C1 (zQv (fun C2 => zW X 4 13 21 [.ref e, .int a1, .int a2, .int a3, .int 0] [] S C2 (zQv q)))))) : zCd X 4 13 [.ref e, .int a1, .int a2, .int a3] S C (zQv q) := by
  refine zc_in ml_13 rfl ?_
  refine zw_aload_n (n := 1) d13_0 rfl rfl ?_
  refine zw_getr (n := 4) d13_1 rfl (zj_2 hS).1 (zj_2 hS).2 (zr_2_0 hS) ?_
  refine zw_iload_n (n := 5) d13_4 rfl rfl ?_
  refine zw_iload_n (n := 6) d13_5 rfl rfl ?_
  refine zw_cV (n := 9) d13_6 (zs_S rfl rfl rfl rfl) (by rw [ml_12]; rfl) (by decide) rfl (zc_mV h (fun C1 h => ?_))
  refine zw_aload_n (n := 10) d13_9 rfl rfl ?_
  refine zw_getr (n := 13) d13_10 rfl (zj_2 hS).1 (zj_2 hS).2 (zr_2_1 hS) ?_
  refine zw_iload_n (n := 14) d13_13 rfl rfl ?_
  refine zw_iload_n (n := 15) d13_14 rfl rfl ?_
  refine zw_cV (n := 18) d13_15 (zs_S rfl rfl rfl rfl) (by rw [ml_12]; rfl) (by decide) rfl (zc_mV h (fun C2 h => ?_))
  refine zw_iconst (n := 19) d13_18 rfl zk_i_0 ?_
  refine zw_istore (n := 21) d13_19 rfl rfl rfl ?_
  exact h
theorem vc13_21 {X : zX} {S : zx_S} {C : zx_C} {q : zx_C → Prop} {e : Nat} {a1 : Int32} {a2 : Int32} {a3 : Int32} {i1 : Int32} {z2 : Value} {i3 : Int32} {i4 : Int32} (hS : zs_2 S e) (h : if (i4 : Int32) < i3 then (zCd X 3 14 [.ref e, .int i1, .int i4, .long 0] S C (zQv (fun C1 => zW X 4 13 21 [.ref e, .int i1, z2, .int i3, .int (i4 + 1)] [] S C1 (zQv q)))) else (q C)) : zW X 4 13 21 [.ref e, .int i1, z2, .int i3, .int i4] [] S C (zQv q) := by
  refine zw_iload (n := 23) d13_21 rfl rfl ?_
  refine zw_iload_n (n := 24) d13_23 rfl rfl ?_
  refine zw_ic_ge (n := 27) d13_24 rfl (zite h (fun h => ?_) (fun h => ?_))
  · skip
    refine zw_aload_n (n := 28) d13_27 rfl rfl ?_
    refine zw_iload_n (n := 29) d13_28 rfl rfl ?_
    refine zw_iload (n := 31) d13_29 rfl rfl ?_
    refine zw_lconst (n := 32) d13_31 rfl zk_c_0 ?_
    refine zw_cV (n := 35) d13_32 (zs_V rfl rfl rfl rfl (by decide) (zj_2 hS).1 (zq_2 hS)) (by rw [ml_14]; rfl) (by decide) rfl (zc_mV h (fun C1 h => ?_))
    refine zw_iinc (n := 38) d13_35 rfl rfl zk_i_1 rfl ?_
    refine zw_goto d13_38 ?_
    exact h
  · skip
    exact zw_ret d13_41 ⟨rfl, h⟩

set_option maxRecDepth 20000 in
theorem zf14 (pc : Nat) : zt_code 14 pc = zt_fd zl_14 pc := rfl
theorem d14_0 : zt_code 14 0 = some (.iload_n 1, 0, 0, 0) := (zf14 0).trans rfl
theorem d14_1 : zt_code 14 1 = some (.bipush (40), 0, 0, 0) := (zf14 1).trans rfl
theorem d14_3 : zt_code 14 3 = some (.imul, 0, 0, 0) := (zf14 3).trans rfl
theorem d14_4 : zt_code 14 4 = some (.iload_n 2, 0, 0, 0) := (zf14 4).trans rfl
theorem d14_5 : zt_code 14 5 = some (.iadd, 0, 0, 0) := (zf14 5).trans rfl
theorem d14_6 : zt_code 14 6 = some (.istore 5, 0, 0, 0) := (zf14 6).trans rfl
theorem d14_8 : zt_code 14 8 = some (.iload_n 2, 0, 0, 0) := (zf14 8).trans rfl
theorem d14_9 : zt_code 14 9 = some (.ifCond .lt (43), 0, 52, 0) := (zf14 9).trans rfl
theorem d14_12 : zt_code 14 12 = some (.iload_n 2, 0, 0, 0) := (zf14 12).trans rfl
theorem d14_13 : zt_code 14 13 = some (.aload_n 0, 0, 0, 0) := (zf14 13).trans rfl
theorem d14_14 : zt_code 14 14 = some (.iload_n 1, 0, 0, 0) := (zf14 14).trans rfl
theorem d14_15 : zt_code 14 15 = some (.invokevirtual 51, 15, 2, 2) := (zf14 15).trans rfl
theorem d14_18 : zt_code 14 18 = some (.if_icmp .ge (34), 0, 52, 0) := (zf14 18).trans rfl
theorem d14_21 : zt_code 14 21 = some (.iload 5, 0, 0, 0) := (zf14 21).trans rfl
theorem d14_23 : zt_code 14 23 = some (.ifCond .lt (29), 0, 52, 0) := (zf14 23).trans rfl
theorem d14_26 : zt_code 14 26 = some (.iload 5, 0, 0, 0) := (zf14 26).trans rfl
theorem d14_28 : zt_code 14 28 = some (.aload_n 0, 0, 0, 0) := (zf14 28).trans rfl
theorem d14_29 : zt_code 14 29 = some (.getfield 21, 2, 3, 1) := (zf14 29).trans rfl
theorem d14_32 : zt_code 14 32 = some (.arraylength, 0, 0, 0) := (zf14 32).trans rfl
theorem d14_33 : zt_code 14 33 = some (.if_icmp .ge (19), 0, 52, 0) := (zf14 33).trans rfl
theorem d14_36 : zt_code 14 36 = some (.aload_n 0, 0, 0, 0) := (zf14 36).trans rfl
theorem d14_37 : zt_code 14 37 = some (.getfield 21, 2, 3, 1) := (zf14 37).trans rfl
theorem d14_40 : zt_code 14 40 = some (.iload 5, 0, 0, 0) := (zf14 40).trans rfl
theorem d14_42 : zt_code 14 42 = some (.aload_n 0, 0, 0, 0) := (zf14 42).trans rfl
theorem d14_43 : zt_code 14 43 = some (.iload_n 1, 0, 0, 0) := (zf14 43).trans rfl
theorem d14_44 : zt_code 14 44 = some (.invokevirtual 33, 16, 2, 2) := (zf14 44).trans rfl
theorem d14_47 : zt_code 14 47 = some (.lload_n 3, 0, 0, 0) := (zf14 47).trans rfl
theorem d14_48 : zt_code 14 48 = some (.invokestatic 54, 17, 2, -1) := (zf14 48).trans rfl
theorem d14_51 : zt_code 14 51 = some (.lastore, 0, 0, 0) := (zf14 51).trans rfl
theorem d14_52 : zt_code 14 52 = some (.return_, 0, 0, 0) := (zf14 52).trans rfl
/-- FirstAtTheFirst$Shelves.putElement(IIJ)V -/
theorem vc14 {X : zX} {S : zx_S} {C : zx_C} {q : zx_C → Prop} {e : Nat} {a1 : Int32} {a2 : Int32} {a3 : Int64} (hS : zs_2 S e) (h : if (a2 : Int32) < 0 then (q C) else (zCd X 2 15 [.ref e, .int a1] S C (zQi (fun r1 C1 => if (a2 : Int32) < r1 then (if (((a1 * 40) + a2) : Int32) < 0 then (q C1) else (if (((a1 * 40) + a2) : Int32) < (Int32.ofNat 320) then (zCd X 1 16 [.ref e, .int a1] S C1 (zQi (fun r2 C2 => zCd X 0 17 [.int r2, .long a3] S C2 (zQl (fun r3 C3 => vp_in ((a1 * 40) + a2) 320 ∧ (q (zpl C3 (e + 4) (Int32.toNatClampNeg ((a1 * 40) + a2)) r3))))))) else (q C1))) else (q C1))))) : zCd X 3 14 [.ref e, .int a1, .int a2, .long a3] S C (zQv q) := by
  refine zc_in ml_14 rfl ?_
  refine zw_iload_n (n := 1) d14_0 rfl rfl ?_
  refine zw_bipush (n := 3) d14_1 rfl zk_b_40 ?_
  refine zw_imul (n := 4) d14_3 rfl ?_
  refine zw_iload_n (n := 5) d14_4 rfl rfl ?_
  refine zw_iadd (n := 6) d14_5 rfl ?_
  refine zw_istore (n := 8) d14_6 rfl rfl rfl ?_
  refine zw_iload_n (n := 9) d14_8 rfl rfl ?_
  refine zw_if_lt (n := 12) d14_9 rfl (zite h (fun h => ?_) (fun h => ?_))
  · skip
    exact zw_ret d14_52 ⟨rfl, h⟩
  · skip
    refine zw_iload_n (n := 13) d14_12 rfl rfl ?_
    refine zw_aload_n (n := 14) d14_13 rfl rfl ?_
    refine zw_iload_n (n := 15) d14_14 rfl rfl ?_
    refine zw_cI (n := 18) d14_15 (zs_V rfl rfl rfl rfl (by decide) (zj_2 hS).1 (zq_2 hS)) (by rw [ml_15]; rfl) (by decide) rfl (zc_mI h (fun r1 C1 h => ?_))
    refine zw_ic_ge (n := 21) d14_18 rfl (zite h (fun h => ?_) (fun h => ?_))
    · skip
      refine zw_iload (n := 23) d14_21 rfl rfl ?_
      refine zw_if_lt (n := 26) d14_23 rfl (zite h (fun h => ?_) (fun h => ?_))
      · skip
        exact zw_ret d14_52 ⟨rfl, h⟩
      · skip
        refine zw_iload (n := 28) d14_26 rfl rfl ?_
        refine zw_aload_n (n := 29) d14_28 rfl rfl ?_
        refine zw_getr (n := 32) d14_29 rfl (zj_2 hS).1 (zj_2 hS).2 (zr_2_3 hS) ?_
        refine zw_alen (n := 33) d14_32 rfl (za_2_3 hS).1 (za_2_3 hS).2 (by decide) rfl ?_
        refine zw_ic_ge (n := 36) d14_33 rfl (zite h (fun h => ?_) (fun h => ?_))
        · skip
          refine zw_aload_n (n := 37) d14_36 rfl rfl ?_
          refine zw_getr (n := 40) d14_37 rfl (zj_2 hS).1 (zj_2 hS).2 (zr_2_3 hS) ?_
          refine zw_iload (n := 42) d14_40 rfl rfl ?_
          refine zw_aload_n (n := 43) d14_42 rfl rfl ?_
          refine zw_iload_n (n := 44) d14_43 rfl rfl ?_
          refine zw_cI (n := 47) d14_44 (zs_V rfl rfl rfl rfl (by decide) (zj_2 hS).1 (zq_2 hS)) (by rw [ml_16]; rfl) (by decide) rfl (zc_mI h (fun r2 C2 h => ?_))
          refine zw_lload_n (n := 48) d14_47 rfl rfl rfl ?_
          refine zw_cL (n := 51) d14_48 (zs_S rfl rfl rfl rfl) (by rw [ml_17]; rfl) (by decide) rfl (zc_mL h (fun r3 C3 h => ?_))
          obtain ⟨hi, h⟩ := h
          refine zw_last (n := 52) d14_51 rfl (za_2_3 hS).1 (za_2_3 hS).2 hi ?_
          exact zw_ret d14_52 ⟨rfl, h⟩
        · skip
          exact zw_ret d14_52 ⟨rfl, h⟩
    · skip
      exact zw_ret d14_52 ⟨rfl, h⟩

set_option maxRecDepth 20000 in
theorem zf15 (pc : Nat) : zt_code 15 pc = zt_fd zl_15 pc := rfl
theorem d15_0 : zt_code 15 0 = some (.aload_n 0, 0, 0, 0) := (zf15 0).trans rfl
theorem d15_1 : zt_code 15 1 = some (.iload_n 1, 0, 0, 0) := (zf15 1).trans rfl
theorem d15_2 : zt_code 15 2 = some (.invokevirtual 33, 16, 2, 2) := (zf15 2).trans rfl
theorem d15_5 : zt_code 15 5 = some (.invokestatic 37, 9, 1, -1) := (zf15 5).trans rfl
theorem d15_8 : zt_code 15 8 = some (.ifCond .eq (14), 0, 22, 0) := (zf15 8).trans rfl
theorem d15_11 : zt_code 15 11 = some (.aload_n 0, 0, 0, 0) := (zf15 11).trans rfl
theorem d15_12 : zt_code 15 12 = some (.getfield 15, 2, 1, 1) := (zf15 12).trans rfl
theorem d15_15 : zt_code 15 15 = some (.iload_n 1, 0, 0, 0) := (zf15 15).trans rfl
theorem d15_16 : zt_code 15 16 = some (.invokestatic 29, 11, 2, -1) := (zf15 16).trans rfl
theorem d15_19 : zt_code 15 19 = some (.goto (4), 0, 23, 0) := (zf15 19).trans rfl
theorem d15_22 : zt_code 15 22 = some (.iconst (0), 0, 0, 0) := (zf15 22).trans rfl
theorem d15_23 : zt_code 15 23 = some (.ireturn, 0, 0, 0) := (zf15 23).trans rfl
/-- FirstAtTheFirst$Shelves.sizeOf(I)I -/
theorem vc15 {X : zX} {S : zx_S} {C : zx_C} {q : Int32 → zx_C → Prop} {e : Nat} {a1 : Int32} (hS : zs_2 S e) (h : zCd X 1 16 [.ref e, .int a1] S C (zQi (fun r1 C1 => zCd X 0 9 [.int r1] S C1 (zQi (fun r2 C2 => if (r2 : Int32) = 0 then (q 0 C2) else (zCd X 0 11 [.ref (e + 2), .int a1] S C2 (zQi (fun r3 C3 => q r3 C3)))))))) : zCd X 2 15 [.ref e, .int a1] S C (zQi q) := by
  refine zc_in ml_15 rfl ?_
  refine zw_aload_n (n := 1) d15_0 rfl rfl ?_
  refine zw_iload_n (n := 2) d15_1 rfl rfl ?_
  refine zw_cI (n := 5) d15_2 (zs_V rfl rfl rfl rfl (by decide) (zj_2 hS).1 (zq_2 hS)) (by rw [ml_16]; rfl) (by decide) rfl (zc_mI h (fun r1 C1 h => ?_))
  refine zw_cI (n := 8) d15_5 (zs_S rfl rfl rfl rfl) (by rw [ml_9]; rfl) (by decide) rfl (zc_mI h (fun r2 C2 h => ?_))
  refine zw_if_eq (n := 11) d15_8 rfl (zite h (fun h => ?_) (fun h => ?_))
  · skip
    refine zw_iconst (n := 23) d15_22 rfl zk_i_0 ?_
    exact zw_iret d15_23 rfl ⟨_, rfl, h⟩
  · skip
    refine zw_aload_n (n := 12) d15_11 rfl rfl ?_
    refine zw_getr (n := 15) d15_12 rfl (zj_2 hS).1 (zj_2 hS).2 (zr_2_1 hS) ?_
    refine zw_iload_n (n := 16) d15_15 rfl rfl ?_
    refine zw_cI (n := 19) d15_16 (zs_S rfl rfl rfl rfl) (by rw [ml_11]; rfl) (by decide) rfl (zc_mI h (fun r3 C3 h => ?_))
    refine zw_goto d15_19 ?_
    exact zw_iret d15_23 rfl ⟨_, rfl, h⟩

set_option maxRecDepth 20000 in
theorem zf16 (pc : Nat) : zt_code 16 pc = zt_fd zl_16 pc := rfl
theorem d16_0 : zt_code 16 0 = some (.iload_n 1, 0, 0, 0) := (zf16 0).trans rfl
theorem d16_1 : zt_code 16 1 = some (.invokestatic 25, 8, 1, -1) := (zf16 1).trans rfl
theorem d16_4 : zt_code 16 4 = some (.ifCond .eq (14), 0, 18, 0) := (zf16 4).trans rfl
theorem d16_7 : zt_code 16 7 = some (.aload_n 0, 0, 0, 0) := (zf16 7).trans rfl
theorem d16_8 : zt_code 16 8 = some (.getfield 9, 2, 0, 1) := (zf16 8).trans rfl
theorem d16_11 : zt_code 16 11 = some (.iload_n 1, 0, 0, 0) := (zf16 11).trans rfl
theorem d16_12 : zt_code 16 12 = some (.invokestatic 29, 11, 2, -1) := (zf16 12).trans rfl
theorem d16_15 : zt_code 16 15 = some (.goto (4), 0, 19, 0) := (zf16 15).trans rfl
theorem d16_18 : zt_code 16 18 = some (.iconst (-1), 0, 0, 0) := (zf16 18).trans rfl
theorem d16_19 : zt_code 16 19 = some (.ireturn, 0, 0, 0) := (zf16 19).trans rfl
/-- FirstAtTheFirst$Shelves.kindOf(I)I -/
theorem vc16 {X : zX} {S : zx_S} {C : zx_C} {q : Int32 → zx_C → Prop} {e : Nat} {a1 : Int32} (hS : zs_2 S e) (h : zCd X 0 8 [.int a1] S C (zQi (fun r1 C1 => if (r1 : Int32) = 0 then (q (-1) C1) else (zCd X 0 11 [.ref (e + 1), .int a1] S C1 (zQi (fun r2 C2 => q r2 C2)))))) : zCd X 1 16 [.ref e, .int a1] S C (zQi q) := by
  refine zc_in ml_16 rfl ?_
  refine zw_iload_n (n := 1) d16_0 rfl rfl ?_
  refine zw_cI (n := 4) d16_1 (zs_S rfl rfl rfl rfl) (by rw [ml_8]; rfl) (by decide) rfl (zc_mI h (fun r1 C1 h => ?_))
  refine zw_if_eq (n := 7) d16_4 rfl (zite h (fun h => ?_) (fun h => ?_))
  · skip
    refine zw_iconst (n := 19) d16_18 rfl zk_i_m1 ?_
    exact zw_iret d16_19 rfl ⟨_, rfl, h⟩
  · skip
    refine zw_aload_n (n := 8) d16_7 rfl rfl ?_
    refine zw_getr (n := 11) d16_8 rfl (zj_2 hS).1 (zj_2 hS).2 (zr_2_0 hS) ?_
    refine zw_iload_n (n := 12) d16_11 rfl rfl ?_
    refine zw_cI (n := 15) d16_12 (zs_S rfl rfl rfl rfl) (by rw [ml_11]; rfl) (by decide) rfl (zc_mI h (fun r2 C2 h => ?_))
    refine zw_goto d16_15 ?_
    exact zw_iret d16_19 rfl ⟨_, rfl, h⟩

set_option maxRecDepth 20000 in
theorem zf17 (pc : Nat) : zt_code 17 pc = zt_fd zl_17 pc := rfl
theorem d17_0 : zt_code 17 0 = some (.iload_n 0, 0, 0, 0) := (zf17 0).trans rfl
theorem d17_1 : zt_code 17 1 = some (.tableswitch (47) (0) (3) #[31, 36, 41, 45], 0, 0, 0) := (zf17 1).trans rfl
theorem d17_32 : zt_code 17 32 = some (.lload_n 1, 0, 0, 0) := (zf17 32).trans rfl
theorem d17_33 : zt_code 17 33 = some (.l2i, 0, 0, 0) := (zf17 33).trans rfl
theorem d17_34 : zt_code 17 34 = some (.i2b, 0, 0, 0) := (zf17 34).trans rfl
theorem d17_35 : zt_code 17 35 = some (.i2l, 0, 0, 0) := (zf17 35).trans rfl
theorem d17_36 : zt_code 17 36 = some (.lreturn, 0, 0, 0) := (zf17 36).trans rfl
theorem d17_37 : zt_code 17 37 = some (.lload_n 1, 0, 0, 0) := (zf17 37).trans rfl
theorem d17_38 : zt_code 17 38 = some (.l2i, 0, 0, 0) := (zf17 38).trans rfl
theorem d17_39 : zt_code 17 39 = some (.i2s, 0, 0, 0) := (zf17 39).trans rfl
theorem d17_40 : zt_code 17 40 = some (.i2l, 0, 0, 0) := (zf17 40).trans rfl
theorem d17_41 : zt_code 17 41 = some (.lreturn, 0, 0, 0) := (zf17 41).trans rfl
theorem d17_42 : zt_code 17 42 = some (.lload_n 1, 0, 0, 0) := (zf17 42).trans rfl
theorem d17_43 : zt_code 17 43 = some (.l2i, 0, 0, 0) := (zf17 43).trans rfl
theorem d17_44 : zt_code 17 44 = some (.i2l, 0, 0, 0) := (zf17 44).trans rfl
theorem d17_45 : zt_code 17 45 = some (.lreturn, 0, 0, 0) := (zf17 45).trans rfl
theorem d17_46 : zt_code 17 46 = some (.lload_n 1, 0, 0, 0) := (zf17 46).trans rfl
theorem d17_47 : zt_code 17 47 = some (.lreturn, 0, 0, 0) := (zf17 47).trans rfl
theorem d17_48 : zt_code 17 48 = some (.lload_n 1, 0, 0, 0) := (zf17 48).trans rfl
theorem d17_49 : zt_code 17 49 = some (.lconst 0, 0, 0, 0) := (zf17 49).trans rfl
theorem d17_50 : zt_code 17 50 = some (.lcmp, 0, 0, 0) := (zf17 50).trans rfl
theorem d17_51 : zt_code 17 51 = some (.ifCond .eq (7), 0, 58, 0) := (zf17 51).trans rfl
theorem d17_54 : zt_code 17 54 = some (.lconst 1, 0, 0, 0) := (zf17 54).trans rfl
theorem d17_55 : zt_code 17 55 = some (.goto (4), 0, 59, 0) := (zf17 55).trans rfl
theorem d17_58 : zt_code 17 58 = some (.lconst 0, 0, 0, 0) := (zf17 58).trans rfl
theorem d17_59 : zt_code 17 59 = some (.lreturn, 0, 0, 0) := (zf17 59).trans rfl
/-- FirstAtTheFirst$Shelves.lowestBits(IJ)J -/
theorem vc17 {X : zX} {S : zx_S} {C : zx_C} {q : Int64 → zx_C → Prop} {a1 : Int32} {a2 : Int64}  (h : if Int32.toInt a1 = 0 then (q (Int32.toInt64 (Int8.toInt32 (Int32.toInt8 (Int64.toInt32 a2)))) C) else (if Int32.toInt a1 = 0 + 1 then (q (Int32.toInt64 (Int16.toInt32 (Int32.toInt16 (Int64.toInt32 a2)))) C) else (if Int32.toInt a1 = 0 + 1 + 1 then (q (Int32.toInt64 (Int64.toInt32 a2)) C) else (if Int32.toInt a1 = 0 + 1 + 1 + 1 then (q a2 C) else (if ((lg_cmp a2 0) : Int32) = 0 then (q 0 C) else (q 1 C)))))) : zCd X 0 17 [.int a1, .long a2] S C (zQl q) := by
  refine zc_in ml_17 rfl ?_
  refine zw_iload_n (n := 1) d17_0 rfl rfl ?_
  refine zw_tsw d17_1 rfl ?_
  refine zw_sw1 (t := 32) rfl (zite h (fun h => ?_) (fun h => ?_))
  · skip
    refine zw_lload_n (n := 33) d17_32 rfl rfl rfl ?_
    refine zw_l2i (n := 34) d17_33 rfl ?_
    refine zw_i2b (n := 35) d17_34 rfl ?_
    refine zw_i2l (n := 36) d17_35 rfl ?_
    exact zw_lret d17_36 ⟨_, rfl, h⟩
  · skip
    refine zw_sw1 (t := 37) rfl (zite h (fun h => ?_) (fun h => ?_))
    · skip
      refine zw_lload_n (n := 38) d17_37 rfl rfl rfl ?_
      refine zw_l2i (n := 39) d17_38 rfl ?_
      refine zw_i2s (n := 40) d17_39 rfl ?_
      refine zw_i2l (n := 41) d17_40 rfl ?_
      exact zw_lret d17_41 ⟨_, rfl, h⟩
    · skip
      refine zw_sw1 (t := 42) rfl (zite h (fun h => ?_) (fun h => ?_))
      · skip
        refine zw_lload_n (n := 43) d17_42 rfl rfl rfl ?_
        refine zw_l2i (n := 44) d17_43 rfl ?_
        refine zw_i2l (n := 45) d17_44 rfl ?_
        exact zw_lret d17_45 ⟨_, rfl, h⟩
      · skip
        refine zw_sw1 (t := 46) rfl (zite h (fun h => ?_) (fun h => ?_))
        · skip
          refine zw_lload_n (n := 47) d17_46 rfl rfl rfl ?_
          exact zw_lret d17_47 ⟨_, rfl, h⟩
        · skip
          refine zw_sw0 (t := 48) rfl ?_
          refine zw_lload_n (n := 49) d17_48 rfl rfl rfl ?_
          refine zw_lconst (n := 50) d17_49 rfl zk_c_0 ?_
          refine zw_lcmp (n := 51) d17_50 rfl ?_
          refine zw_if_eq (n := 54) d17_51 rfl (zite h (fun h => ?_) (fun h => ?_))
          · skip
            refine zw_lconst (n := 59) d17_58 rfl zk_c_0 ?_
            exact zw_lret d17_59 ⟨_, rfl, h⟩
          · skip
            refine zw_lconst (n := 55) d17_54 rfl zk_c_1 ?_
            refine zw_goto d17_55 ?_
            exact zw_lret d17_59 ⟨_, rfl, h⟩

set_option maxRecDepth 20000 in
theorem zf19 (pc : Nat) : zt_code 19 pc = zt_fd zl_19 pc := rfl
theorem d19_0 : zt_code 19 0 = some (.aload_n 0, 0, 0, 0) := (zf19 0).trans rfl
theorem d19_1 : zt_code 19 1 = some (.iload_n 1, 0, 0, 0) := (zf19 1).trans rfl
theorem d19_2 : zt_code 19 2 = some (.invokevirtual 33, 16, 2, 2) := (zf19 2).trans rfl
theorem d19_5 : zt_code 19 5 = some (.iconst (-1), 0, 0, 0) := (zf19 5).trans rfl
theorem d19_6 : zt_code 19 6 = some (.if_icmp .ne (6), 0, 12, 0) := (zf19 6).trans rfl
theorem d19_9 : zt_code 19 9 = some (.bipush (-4), 0, 0, 0) := (zf19 9).trans rfl
theorem d19_11 : zt_code 19 11 = some (.ireturn, 0, 0, 0) := (zf19 11).trans rfl
theorem d19_12 : zt_code 19 12 = some (.aload_n 0, 0, 0, 0) := (zf19 12).trans rfl
theorem d19_13 : zt_code 19 13 = some (.iload_n 1, 0, 0, 0) := (zf19 13).trans rfl
theorem d19_14 : zt_code 19 14 = some (.invokevirtual 33, 16, 2, 2) := (zf19 14).trans rfl
theorem d19_17 : zt_code 19 17 = some (.invokestatic 37, 9, 1, -1) := (zf19 17).trans rfl
theorem d19_20 : zt_code 19 20 = some (.ifCond .eq (7), 0, 27, 0) := (zf19 20).trans rfl
theorem d19_23 : zt_code 19 23 = some (.iconst (0), 0, 0, 0) := (zf19 23).trans rfl
theorem d19_24 : zt_code 19 24 = some (.goto (5), 0, 29, 0) := (zf19 24).trans rfl
theorem d19_27 : zt_code 19 27 = some (.bipush (-3), 0, 0, 0) := (zf19 27).trans rfl
theorem d19_29 : zt_code 19 29 = some (.ireturn, 0, 0, 0) := (zf19 29).trans rfl
/-- FirstAtTheFirst$Shelves.rowTrouble(I)I -/
theorem vc19 {X : zX} {S : zx_S} {C : zx_C} {q : Int32 → zx_C → Prop} {e : Nat} {a1 : Int32} (hS : zs_2 S e) (h : zCd X 1 16 [.ref e, .int a1] S C (zQi (fun r1 C1 => if (r1 : Int32) = (-1) then (q (-4) C1) else (zCd X 1 16 [.ref e, .int a1] S C1 (zQi (fun r2 C2 => zCd X 0 9 [.int r2] S C2 (zQi (fun r3 C3 => if (r3 : Int32) = 0 then (q (-3) C3) else (q 0 C3))))))))) : zCd X 2 19 [.ref e, .int a1] S C (zQi q) := by
  refine zc_in ml_19 rfl ?_
  refine zw_aload_n (n := 1) d19_0 rfl rfl ?_
  refine zw_iload_n (n := 2) d19_1 rfl rfl ?_
  refine zw_cI (n := 5) d19_2 (zs_V rfl rfl rfl rfl (by decide) (zj_2 hS).1 (zq_2 hS)) (by rw [ml_16]; rfl) (by decide) rfl (zc_mI h (fun r1 C1 h => ?_))
  refine zw_iconst (n := 6) d19_5 rfl zk_i_m1 ?_
  refine zw_ic_ne (n := 9) d19_6 rfl (zite h (fun h => ?_) (fun h => ?_))
  · skip
    refine zw_bipush (n := 11) d19_9 rfl zk_b_m4 ?_
    exact zw_iret d19_11 rfl ⟨_, rfl, h⟩
  · skip
    refine zw_aload_n (n := 13) d19_12 rfl rfl ?_
    refine zw_iload_n (n := 14) d19_13 rfl rfl ?_
    refine zw_cI (n := 17) d19_14 (zs_V rfl rfl rfl rfl (by decide) (zj_2 hS).1 (zq_2 hS)) (by rw [ml_16]; rfl) (by decide) rfl (zc_mI h (fun r2 C2 h => ?_))
    refine zw_cI (n := 20) d19_17 (zs_S rfl rfl rfl rfl) (by rw [ml_9]; rfl) (by decide) rfl (zc_mI h (fun r3 C3 h => ?_))
    refine zw_if_eq (n := 23) d19_20 rfl (zite h (fun h => ?_) (fun h => ?_))
    · skip
      refine zw_bipush (n := 29) d19_27 rfl zk_b_m3 ?_
      exact zw_iret d19_29 rfl ⟨_, rfl, h⟩
    · skip
      refine zw_iconst (n := 24) d19_23 rfl zk_i_0 ?_
      refine zw_goto d19_24 ?_
      exact zw_iret d19_29 rfl ⟨_, rfl, h⟩

set_option maxRecDepth 20000 in
theorem zf21 (pc : Nat) : zt_code 21 pc = zt_fd zl_21 pc := rfl
theorem d21_0 : zt_code 21 0 = some (.aload_n 0, 0, 0, 0) := (zf21 0).trans rfl
theorem d21_1 : zt_code 21 1 = some (.iload_n 1, 0, 0, 0) := (zf21 1).trans rfl
theorem d21_2 : zt_code 21 2 = some (.invokevirtual 40, 19, 2, 2) := (zf21 2).trans rfl
theorem d21_5 : zt_code 21 5 = some (.istore_n 3, 0, 0, 0) := (zf21 5).trans rfl
theorem d21_6 : zt_code 21 6 = some (.aload_n 0, 0, 0, 0) := (zf21 6).trans rfl
theorem d21_7 : zt_code 21 7 = some (.iload_n 2, 0, 0, 0) := (zf21 7).trans rfl
theorem d21_8 : zt_code 21 8 = some (.invokevirtual 40, 19, 2, 2) := (zf21 8).trans rfl
theorem d21_11 : zt_code 21 11 = some (.istore 4, 0, 0, 0) := (zf21 11).trans rfl
theorem d21_13 : zt_code 21 13 = some (.iload_n 3, 0, 0, 0) := (zf21 13).trans rfl
theorem d21_14 : zt_code 21 14 = some (.bipush (-3), 0, 0, 0) := (zf21 14).trans rfl
theorem d21_16 : zt_code 21 16 = some (.if_icmp .eq (10), 0, 26, 0) := (zf21 16).trans rfl
theorem d21_19 : zt_code 21 19 = some (.iload 4, 0, 0, 0) := (zf21 19).trans rfl
theorem d21_21 : zt_code 21 21 = some (.bipush (-3), 0, 0, 0) := (zf21 21).trans rfl
theorem d21_23 : zt_code 21 23 = some (.if_icmp .ne (6), 0, 29, 0) := (zf21 23).trans rfl
theorem d21_26 : zt_code 21 26 = some (.bipush (-3), 0, 0, 0) := (zf21 26).trans rfl
theorem d21_28 : zt_code 21 28 = some (.ireturn, 0, 0, 0) := (zf21 28).trans rfl
theorem d21_29 : zt_code 21 29 = some (.iload_n 3, 0, 0, 0) := (zf21 29).trans rfl
theorem d21_30 : zt_code 21 30 = some (.bipush (-4), 0, 0, 0) := (zf21 30).trans rfl
theorem d21_32 : zt_code 21 32 = some (.if_icmp .eq (10), 0, 42, 0) := (zf21 32).trans rfl
theorem d21_35 : zt_code 21 35 = some (.iload 4, 0, 0, 0) := (zf21 35).trans rfl
theorem d21_37 : zt_code 21 37 = some (.bipush (-4), 0, 0, 0) := (zf21 37).trans rfl
theorem d21_39 : zt_code 21 39 = some (.if_icmp .ne (6), 0, 45, 0) := (zf21 39).trans rfl
theorem d21_42 : zt_code 21 42 = some (.bipush (-4), 0, 0, 0) := (zf21 42).trans rfl
theorem d21_44 : zt_code 21 44 = some (.ireturn, 0, 0, 0) := (zf21 44).trans rfl
theorem d21_45 : zt_code 21 45 = some (.aload_n 0, 0, 0, 0) := (zf21 45).trans rfl
theorem d21_46 : zt_code 21 46 = some (.iload_n 1, 0, 0, 0) := (zf21 46).trans rfl
theorem d21_47 : zt_code 21 47 = some (.invokevirtual 33, 16, 2, 2) := (zf21 47).trans rfl
theorem d21_50 : zt_code 21 50 = some (.aload_n 0, 0, 0, 0) := (zf21 50).trans rfl
theorem d21_51 : zt_code 21 51 = some (.iload_n 2, 0, 0, 0) := (zf21 51).trans rfl
theorem d21_52 : zt_code 21 52 = some (.invokevirtual 33, 16, 2, 2) := (zf21 52).trans rfl
theorem d21_55 : zt_code 21 55 = some (.if_icmp .ne (7), 0, 62, 0) := (zf21 55).trans rfl
theorem d21_58 : zt_code 21 58 = some (.iconst (0), 0, 0, 0) := (zf21 58).trans rfl
theorem d21_59 : zt_code 21 59 = some (.goto (5), 0, 64, 0) := (zf21 59).trans rfl
theorem d21_62 : zt_code 21 62 = some (.bipush (-3), 0, 0, 0) := (zf21 62).trans rfl
theorem d21_64 : zt_code 21 64 = some (.ireturn, 0, 0, 0) := (zf21 64).trans rfl
/-- FirstAtTheFirst$Shelves.pairTrouble(II)I -/
theorem vc21 {X : zX} {S : zx_S} {C : zx_C} {q : Int32 → zx_C → Prop} {e : Nat} {a1 : Int32} {a2 : Int32} (hS : zs_2 S e) (h : zCd X 2 19 [.ref e, .int a1] S C (zQi (fun r1 C1 => zCd X 2 19 [.ref e, .int a2] S C1 (zQi (fun r2 C2 => if (r1 : Int32) = (-3) then (q (-3) C2) else (if (r2 : Int32) = (-3) then (q (-3) C2) else (if (r1 : Int32) = (-4) then (q (-4) C2) else (if (r2 : Int32) = (-4) then (q (-4) C2) else (zCd X 1 16 [.ref e, .int a1] S C2 (zQi (fun r3 C3 => zCd X 1 16 [.ref e, .int a2] S C3 (zQi (fun r4 C4 => if (r3 : Int32) = r4 then (q 0 C4) else (q (-3) C4)))))))))))))) : zCd X 3 21 [.ref e, .int a1, .int a2] S C (zQi q) := by
  refine zc_in ml_21 rfl ?_
  refine zw_aload_n (n := 1) d21_0 rfl rfl ?_
  refine zw_iload_n (n := 2) d21_1 rfl rfl ?_
  refine zw_cI (n := 5) d21_2 (zs_V rfl rfl rfl rfl (by decide) (zj_2 hS).1 (zq_2 hS)) (by rw [ml_19]; rfl) (by decide) rfl (zc_mI h (fun r1 C1 h => ?_))
  refine zw_istore_n (n := 6) d21_5 rfl rfl rfl ?_
  refine zw_aload_n (n := 7) d21_6 rfl rfl ?_
  refine zw_iload_n (n := 8) d21_7 rfl rfl ?_
  refine zw_cI (n := 11) d21_8 (zs_V rfl rfl rfl rfl (by decide) (zj_2 hS).1 (zq_2 hS)) (by rw [ml_19]; rfl) (by decide) rfl (zc_mI h (fun r2 C2 h => ?_))
  refine zw_istore (n := 13) d21_11 rfl rfl rfl ?_
  refine zw_iload_n (n := 14) d21_13 rfl rfl ?_
  refine zw_bipush (n := 16) d21_14 rfl zk_b_m3 ?_
  refine zw_ic_eq (n := 19) d21_16 rfl (zite h (fun h => ?_) (fun h => ?_))
  · skip
    refine zw_bipush (n := 28) d21_26 rfl zk_b_m3 ?_
    exact zw_iret d21_28 rfl ⟨_, rfl, h⟩
  · skip
    refine zw_iload (n := 21) d21_19 rfl rfl ?_
    refine zw_bipush (n := 23) d21_21 rfl zk_b_m3 ?_
    refine zw_ic_ne (n := 26) d21_23 rfl (zite h (fun h => ?_) (fun h => ?_))
    · skip
      refine zw_bipush (n := 28) d21_26 rfl zk_b_m3 ?_
      exact zw_iret d21_28 rfl ⟨_, rfl, h⟩
    · skip
      refine zw_iload_n (n := 30) d21_29 rfl rfl ?_
      refine zw_bipush (n := 32) d21_30 rfl zk_b_m4 ?_
      refine zw_ic_eq (n := 35) d21_32 rfl (zite h (fun h => ?_) (fun h => ?_))
      · skip
        refine zw_bipush (n := 44) d21_42 rfl zk_b_m4 ?_
        exact zw_iret d21_44 rfl ⟨_, rfl, h⟩
      · skip
        refine zw_iload (n := 37) d21_35 rfl rfl ?_
        refine zw_bipush (n := 39) d21_37 rfl zk_b_m4 ?_
        refine zw_ic_ne (n := 42) d21_39 rfl (zite h (fun h => ?_) (fun h => ?_))
        · skip
          refine zw_bipush (n := 44) d21_42 rfl zk_b_m4 ?_
          exact zw_iret d21_44 rfl ⟨_, rfl, h⟩
        · skip
          refine zw_aload_n (n := 46) d21_45 rfl rfl ?_
          refine zw_iload_n (n := 47) d21_46 rfl rfl ?_
          refine zw_cI (n := 50) d21_47 (zs_V rfl rfl rfl rfl (by decide) (zj_2 hS).1 (zq_2 hS)) (by rw [ml_16]; rfl) (by decide) rfl (zc_mI h (fun r3 C3 h => ?_))
          refine zw_aload_n (n := 51) d21_50 rfl rfl ?_
          refine zw_iload_n (n := 52) d21_51 rfl rfl ?_
          refine zw_cI (n := 55) d21_52 (zs_V rfl rfl rfl rfl (by decide) (zj_2 hS).1 (zq_2 hS)) (by rw [ml_16]; rfl) (by decide) rfl (zc_mI h (fun r4 C4 h => ?_))
          refine zw_ic_ne (n := 58) d21_55 rfl (zite h (fun h => ?_) (fun h => ?_))
          · skip
            refine zw_iconst (n := 59) d21_58 rfl zk_i_0 ?_
            refine zw_goto d21_59 ?_
            exact zw_iret d21_64 rfl ⟨_, rfl, h⟩
          · skip
            refine zw_bipush (n := 64) d21_62 rfl zk_b_m3 ?_
            exact zw_iret d21_64 rfl ⟨_, rfl, h⟩

set_option maxRecDepth 20000 in
theorem zf22 (pc : Nat) : zt_code 22 pc = zt_fd zl_22 pc := rfl
theorem d22_0 : zt_code 22 0 = some (.iconst (0), 0, 0, 0) := (zf22 0).trans rfl
theorem d22_1 : zt_code 22 1 = some (.istore 6, 0, 0, 0) := (zf22 1).trans rfl
theorem d22_3 : zt_code 22 3 = some (.iload 6, 0, 0, 0) := (zf22 3).trans rfl
theorem d22_5 : zt_code 22 5 = some (.iload 5, 0, 0, 0) := (zf22 5).trans rfl
theorem d22_7 : zt_code 22 7 = some (.if_icmp .ge (48), 0, 55, 0) := (zf22 7).trans rfl
theorem d22_10 : zt_code 22 10 = some (.iload_n 3, 0, 0, 0) := (zf22 10).trans rfl
theorem d22_11 : zt_code 22 11 = some (.iload 4, 0, 0, 0) := (zf22 11).trans rfl
theorem d22_13 : zt_code 22 13 = some (.if_icmp .ge (13), 0, 26, 0) := (zf22 13).trans rfl
theorem d22_16 : zt_code 22 16 = some (.iload 5, 0, 0, 0) := (zf22 16).trans rfl
theorem d22_18 : zt_code 22 18 = some (.iconst (1), 0, 0, 0) := (zf22 18).trans rfl
theorem d22_19 : zt_code 22 19 = some (.isub, 0, 0, 0) := (zf22 19).trans rfl
theorem d22_20 : zt_code 22 20 = some (.iload 6, 0, 0, 0) := (zf22 20).trans rfl
theorem d22_22 : zt_code 22 22 = some (.isub, 0, 0, 0) := (zf22 22).trans rfl
theorem d22_23 : zt_code 22 23 = some (.goto (5), 0, 28, 0) := (zf22 23).trans rfl
theorem d22_26 : zt_code 22 26 = some (.iload 6, 0, 0, 0) := (zf22 26).trans rfl
theorem d22_28 : zt_code 22 28 = some (.istore 7, 0, 0, 0) := (zf22 28).trans rfl
theorem d22_30 : zt_code 22 30 = some (.aload_n 0, 0, 0, 0) := (zf22 30).trans rfl
theorem d22_31 : zt_code 22 31 = some (.iload_n 2, 0, 0, 0) := (zf22 31).trans rfl
theorem d22_32 : zt_code 22 32 = some (.iload 4, 0, 0, 0) := (zf22 32).trans rfl
theorem d22_34 : zt_code 22 34 = some (.iload 7, 0, 0, 0) := (zf22 34).trans rfl
theorem d22_36 : zt_code 22 36 = some (.iadd, 0, 0, 0) := (zf22 36).trans rfl
theorem d22_37 : zt_code 22 37 = some (.aload_n 0, 0, 0, 0) := (zf22 37).trans rfl
theorem d22_38 : zt_code 22 38 = some (.iload_n 1, 0, 0, 0) := (zf22 38).trans rfl
theorem d22_39 : zt_code 22 39 = some (.iload_n 3, 0, 0, 0) := (zf22 39).trans rfl
theorem d22_40 : zt_code 22 40 = some (.iload 7, 0, 0, 0) := (zf22 40).trans rfl
theorem d22_42 : zt_code 22 42 = some (.iadd, 0, 0, 0) := (zf22 42).trans rfl
theorem d22_43 : zt_code 22 43 = some (.invokevirtual 58, 23, 3, 2) := (zf22 43).trans rfl
theorem d22_46 : zt_code 22 46 = some (.invokevirtual 47, 14, 4, 2) := (zf22 46).trans rfl
theorem d22_49 : zt_code 22 49 = some (.iinc 6 (1), 0, 0, 0) := (zf22 49).trans rfl
theorem d22_52 : zt_code 22 52 = some (.goto (-49), 0, 3, 0) := (zf22 52).trans rfl
theorem d22_55 : zt_code 22 55 = some (.return_, 0, 0, 0) := (zf22 55).trans rfl
/-- FirstAtTheFirst$Shelves.copyElements(IIIII)V -/
theorem vc22 {X : zX} {S : zx_S} {C : zx_C} {q : zx_C → Prop} {e : Nat} {a1 : Int32} {a2 : Int32} {a3 : Int32} {a4 : Int32} {a5 : Int32} (hS : zs_2 S e) (h : zW X 4 22 3 [.ref e, .int a1, .int a2, .int a3, .int a4, .int a5, .int 0, .retAddr 0] [] S C (zQv q)) : zCd X 4 22 [.ref e, .int a1, .int a2, .int a3, .int a4, .int a5] S C (zQv q) := by
  refine zc_in ml_22 rfl ?_
  refine zw_iconst (n := 1) d22_0 rfl zk_i_0 ?_
  refine zw_istore (n := 3) d22_1 rfl rfl rfl ?_
  exact h
theorem vc22_3 {X : zX} {S : zx_S} {C : zx_C} {q : zx_C → Prop} {e : Nat} {a1 : Int32} {a2 : Int32} {a3 : Int32} {a4 : Int32} {a5 : Int32} {i1 : Int32} {i2 : Int32} {i3 : Int32} {i4 : Int32} {i5 : Int32} {i6 : Int32} {z7 : Value} (hS : zs_2 S e) (h : if (i6 : Int32) < i5 then (if (i3 : Int32) < i4 then (zCd X 3 23 [.ref e, .int i1, .int (i3 + ((i5 - 1) - i6))] S C (zQl (fun r1 C1 => zCd X 3 14 [.ref e, .int i2, .int (i4 + ((i5 - 1) - i6)), .long r1] S C1 (zQv (fun C2 => zW X 4 22 3 [.ref e, .int i1, .int i2, .int i3, .int i4, .int i5, .int (i6 + 1), .int ((i5 - 1) - i6)] [] S C2 (zQv q)))))) else (zCd X 3 23 [.ref e, .int i1, .int (i3 + i6)] S C (zQl (fun r3 C3 => zCd X 3 14 [.ref e, .int i2, .int (i4 + i6), .long r3] S C3 (zQv (fun C4 => zW X 4 22 3 [.ref e, .int i1, .int i2, .int i3, .int i4, .int i5, .int (i6 + 1), .int i6] [] S C4 (zQv q))))))) else (q C)) : zW X 4 22 3 [.ref e, .int i1, .int i2, .int i3, .int i4, .int i5, .int i6, z7] [] S C (zQv q) := by
  refine zw_iload (n := 5) d22_3 rfl rfl ?_
  refine zw_iload (n := 7) d22_5 rfl rfl ?_
  refine zw_ic_ge (n := 10) d22_7 rfl (zite h (fun h => ?_) (fun h => ?_))
  · skip
    refine zw_iload_n (n := 11) d22_10 rfl rfl ?_
    refine zw_iload (n := 13) d22_11 rfl rfl ?_
    refine zw_ic_ge (n := 16) d22_13 rfl (zite h (fun h => ?_) (fun h => ?_))
    · skip
      refine zw_iload (n := 18) d22_16 rfl rfl ?_
      refine zw_iconst (n := 19) d22_18 rfl zk_i_1 ?_
      refine zw_isub (n := 20) d22_19 rfl ?_
      refine zw_iload (n := 22) d22_20 rfl rfl ?_
      refine zw_isub (n := 23) d22_22 rfl ?_
      refine zw_goto d22_23 ?_
      refine zw_istore (n := 30) d22_28 rfl rfl rfl ?_
      refine zw_aload_n (n := 31) d22_30 rfl rfl ?_
      refine zw_iload_n (n := 32) d22_31 rfl rfl ?_
      refine zw_iload (n := 34) d22_32 rfl rfl ?_
      refine zw_iload (n := 36) d22_34 rfl rfl ?_
      refine zw_iadd (n := 37) d22_36 rfl ?_
      refine zw_aload_n (n := 38) d22_37 rfl rfl ?_
      refine zw_iload_n (n := 39) d22_38 rfl rfl ?_
      refine zw_iload_n (n := 40) d22_39 rfl rfl ?_
      refine zw_iload (n := 42) d22_40 rfl rfl ?_
      refine zw_iadd (n := 43) d22_42 rfl ?_
      refine zw_cL (n := 46) d22_43 (zs_V rfl rfl rfl rfl (by decide) (zj_2 hS).1 (zq_2 hS)) (by rw [ml_23]; rfl) (by decide) rfl (zc_mL h (fun r1 C1 h => ?_))
      refine zw_cV (n := 49) d22_46 (zs_V rfl rfl rfl rfl (by decide) (zj_2 hS).1 (zq_2 hS)) (by rw [ml_14]; rfl) (by decide) rfl (zc_mV h (fun C2 h => ?_))
      refine zw_iinc (n := 52) d22_49 rfl rfl zk_i_1 rfl ?_
      refine zw_goto d22_52 ?_
      exact h
    · skip
      refine zw_iload (n := 28) d22_26 rfl rfl ?_
      refine zw_istore (n := 30) d22_28 rfl rfl rfl ?_
      refine zw_aload_n (n := 31) d22_30 rfl rfl ?_
      refine zw_iload_n (n := 32) d22_31 rfl rfl ?_
      refine zw_iload (n := 34) d22_32 rfl rfl ?_
      refine zw_iload (n := 36) d22_34 rfl rfl ?_
      refine zw_iadd (n := 37) d22_36 rfl ?_
      refine zw_aload_n (n := 38) d22_37 rfl rfl ?_
      refine zw_iload_n (n := 39) d22_38 rfl rfl ?_
      refine zw_iload_n (n := 40) d22_39 rfl rfl ?_
      refine zw_iload (n := 42) d22_40 rfl rfl ?_
      refine zw_iadd (n := 43) d22_42 rfl ?_
      refine zw_cL (n := 46) d22_43 (zs_V rfl rfl rfl rfl (by decide) (zj_2 hS).1 (zq_2 hS)) (by rw [ml_23]; rfl) (by decide) rfl (zc_mL h (fun r3 C3 h => ?_))
      refine zw_cV (n := 49) d22_46 (zs_V rfl rfl rfl rfl (by decide) (zj_2 hS).1 (zq_2 hS)) (by rw [ml_14]; rfl) (by decide) rfl (zc_mV h (fun C4 h => ?_))
      refine zw_iinc (n := 52) d22_49 rfl rfl zk_i_1 rfl ?_
      refine zw_goto d22_52 ?_
      exact h
  · skip
    exact zw_ret d22_55 ⟨rfl, h⟩

set_option maxRecDepth 20000 in
theorem zf23 (pc : Nat) : zt_code 23 pc = zt_fd zl_23 pc := rfl
theorem d23_0 : zt_code 23 0 = some (.iload_n 1, 0, 0, 0) := (zf23 0).trans rfl
theorem d23_1 : zt_code 23 1 = some (.bipush (40), 0, 0, 0) := (zf23 1).trans rfl
theorem d23_3 : zt_code 23 3 = some (.imul, 0, 0, 0) := (zf23 3).trans rfl
theorem d23_4 : zt_code 23 4 = some (.iload_n 2, 0, 0, 0) := (zf23 4).trans rfl
theorem d23_5 : zt_code 23 5 = some (.iadd, 0, 0, 0) := (zf23 5).trans rfl
theorem d23_6 : zt_code 23 6 = some (.istore_n 3, 0, 0, 0) := (zf23 6).trans rfl
theorem d23_7 : zt_code 23 7 = some (.iload_n 2, 0, 0, 0) := (zf23 7).trans rfl
theorem d23_8 : zt_code 23 8 = some (.ifCond .lt (29), 0, 37, 0) := (zf23 8).trans rfl
theorem d23_11 : zt_code 23 11 = some (.iload_n 2, 0, 0, 0) := (zf23 11).trans rfl
theorem d23_12 : zt_code 23 12 = some (.aload_n 0, 0, 0, 0) := (zf23 12).trans rfl
theorem d23_13 : zt_code 23 13 = some (.iload_n 1, 0, 0, 0) := (zf23 13).trans rfl
theorem d23_14 : zt_code 23 14 = some (.invokevirtual 51, 15, 2, 2) := (zf23 14).trans rfl
theorem d23_17 : zt_code 23 17 = some (.if_icmp .ge (20), 0, 37, 0) := (zf23 17).trans rfl
theorem d23_20 : zt_code 23 20 = some (.iload_n 3, 0, 0, 0) := (zf23 20).trans rfl
theorem d23_21 : zt_code 23 21 = some (.ifCond .lt (16), 0, 37, 0) := (zf23 21).trans rfl
theorem d23_24 : zt_code 23 24 = some (.iload_n 3, 0, 0, 0) := (zf23 24).trans rfl
theorem d23_25 : zt_code 23 25 = some (.aload_n 0, 0, 0, 0) := (zf23 25).trans rfl
theorem d23_26 : zt_code 23 26 = some (.getfield 21, 2, 3, 1) := (zf23 26).trans rfl
theorem d23_29 : zt_code 23 29 = some (.arraylength, 0, 0, 0) := (zf23 29).trans rfl
theorem d23_30 : zt_code 23 30 = some (.if_icmp .ge (7), 0, 37, 0) := (zf23 30).trans rfl
theorem d23_33 : zt_code 23 33 = some (.iconst (1), 0, 0, 0) := (zf23 33).trans rfl
theorem d23_34 : zt_code 23 34 = some (.goto (4), 0, 38, 0) := (zf23 34).trans rfl
theorem d23_37 : zt_code 23 37 = some (.iconst (0), 0, 0, 0) := (zf23 37).trans rfl
theorem d23_38 : zt_code 23 38 = some (.istore 4, 0, 0, 0) := (zf23 38).trans rfl
theorem d23_40 : zt_code 23 40 = some (.iload 4, 0, 0, 0) := (zf23 40).trans rfl
theorem d23_42 : zt_code 23 42 = some (.ifCond .eq (12), 0, 54, 0) := (zf23 42).trans rfl
theorem d23_45 : zt_code 23 45 = some (.aload_n 0, 0, 0, 0) := (zf23 45).trans rfl
theorem d23_46 : zt_code 23 46 = some (.getfield 21, 2, 3, 1) := (zf23 46).trans rfl
theorem d23_49 : zt_code 23 49 = some (.iload_n 3, 0, 0, 0) := (zf23 49).trans rfl
theorem d23_50 : zt_code 23 50 = some (.laload, 0, 0, 0) := (zf23 50).trans rfl
theorem d23_51 : zt_code 23 51 = some (.goto (4), 0, 55, 0) := (zf23 51).trans rfl
theorem d23_54 : zt_code 23 54 = some (.lconst 0, 0, 0, 0) := (zf23 54).trans rfl
theorem d23_55 : zt_code 23 55 = some (.lreturn, 0, 0, 0) := (zf23 55).trans rfl
/-- FirstAtTheFirst$Shelves.elementOf(II)J -/
theorem vc23 {X : zX} {S : zx_S} {C : zx_C} {q : Int64 → zx_C → Prop} {e : Nat} {a1 : Int32} {a2 : Int32} (hS : zs_2 S e) (h : if (a2 : Int32) < 0 then (if (0 : Int32) = 0 then (q 0 C) else (vp_in ((a1 * 40) + a2) 320 ∧ (q (C.2 (e + 4) (Int32.toNatClampNeg ((a1 * 40) + a2))) C))) else (zCd X 2 15 [.ref e, .int a1] S C (zQi (fun r1 C1 => if (a2 : Int32) < r1 then (if (((a1 * 40) + a2) : Int32) < 0 then (if (0 : Int32) = 0 then (q 0 C1) else (vp_in ((a1 * 40) + a2) 320 ∧ (q (C1.2 (e + 4) (Int32.toNatClampNeg ((a1 * 40) + a2))) C1))) else (if (((a1 * 40) + a2) : Int32) < (Int32.ofNat 320) then (if (1 : Int32) = 0 then (q 0 C1) else (vp_in ((a1 * 40) + a2) 320 ∧ (q (C1.2 (e + 4) (Int32.toNatClampNeg ((a1 * 40) + a2))) C1))) else (if (0 : Int32) = 0 then (q 0 C1) else (vp_in ((a1 * 40) + a2) 320 ∧ (q (C1.2 (e + 4) (Int32.toNatClampNeg ((a1 * 40) + a2))) C1))))) else (if (0 : Int32) = 0 then (q 0 C1) else (vp_in ((a1 * 40) + a2) 320 ∧ (q (C1.2 (e + 4) (Int32.toNatClampNeg ((a1 * 40) + a2))) C1))))))) : zCd X 3 23 [.ref e, .int a1, .int a2] S C (zQl q) := by
  refine zc_in ml_23 rfl ?_
  refine zw_iload_n (n := 1) d23_0 rfl rfl ?_
  refine zw_bipush (n := 3) d23_1 rfl zk_b_40 ?_
  refine zw_imul (n := 4) d23_3 rfl ?_
  refine zw_iload_n (n := 5) d23_4 rfl rfl ?_
  refine zw_iadd (n := 6) d23_5 rfl ?_
  refine zw_istore_n (n := 7) d23_6 rfl rfl rfl ?_
  refine zw_iload_n (n := 8) d23_7 rfl rfl ?_
  refine zw_if_lt (n := 11) d23_8 rfl (zite h (fun h => ?_) (fun h => ?_))
  · skip
    refine zw_iconst (n := 38) d23_37 rfl zk_i_0 ?_
    refine zw_istore (n := 40) d23_38 rfl rfl rfl ?_
    refine zw_iload (n := 42) d23_40 rfl rfl ?_
    refine zw_if_eq (n := 45) d23_42 rfl (zite h (fun h => ?_) (fun h => ?_))
    · skip
      refine zw_lconst (n := 55) d23_54 rfl zk_c_0 ?_
      exact zw_lret d23_55 ⟨_, rfl, h⟩
    · skip
      refine zw_aload_n (n := 46) d23_45 rfl rfl ?_
      refine zw_getr (n := 49) d23_46 rfl (zj_2 hS).1 (zj_2 hS).2 (zr_2_3 hS) ?_
      refine zw_iload_n (n := 50) d23_49 rfl rfl ?_
      obtain ⟨hi, h⟩ := h
      refine zw_lald (n := 51) d23_50 rfl (za_2_3 hS).1 (za_2_3 hS).2 hi ?_
      refine zw_goto d23_51 ?_
      exact zw_lret d23_55 ⟨_, rfl, h⟩
  · skip
    refine zw_iload_n (n := 12) d23_11 rfl rfl ?_
    refine zw_aload_n (n := 13) d23_12 rfl rfl ?_
    refine zw_iload_n (n := 14) d23_13 rfl rfl ?_
    refine zw_cI (n := 17) d23_14 (zs_V rfl rfl rfl rfl (by decide) (zj_2 hS).1 (zq_2 hS)) (by rw [ml_15]; rfl) (by decide) rfl (zc_mI h (fun r1 C1 h => ?_))
    refine zw_ic_ge (n := 20) d23_17 rfl (zite h (fun h => ?_) (fun h => ?_))
    · skip
      refine zw_iload_n (n := 21) d23_20 rfl rfl ?_
      refine zw_if_lt (n := 24) d23_21 rfl (zite h (fun h => ?_) (fun h => ?_))
      · skip
        refine zw_iconst (n := 38) d23_37 rfl zk_i_0 ?_
        refine zw_istore (n := 40) d23_38 rfl rfl rfl ?_
        refine zw_iload (n := 42) d23_40 rfl rfl ?_
        refine zw_if_eq (n := 45) d23_42 rfl (zite h (fun h => ?_) (fun h => ?_))
        · skip
          refine zw_lconst (n := 55) d23_54 rfl zk_c_0 ?_
          exact zw_lret d23_55 ⟨_, rfl, h⟩
        · skip
          refine zw_aload_n (n := 46) d23_45 rfl rfl ?_
          refine zw_getr (n := 49) d23_46 rfl (zj_2 hS).1 (zj_2 hS).2 (zr_2_3 hS) ?_
          refine zw_iload_n (n := 50) d23_49 rfl rfl ?_
          obtain ⟨hi, h⟩ := h
          refine zw_lald (n := 51) d23_50 rfl (za_2_3 hS).1 (za_2_3 hS).2 hi ?_
          refine zw_goto d23_51 ?_
          exact zw_lret d23_55 ⟨_, rfl, h⟩
      · skip
        refine zw_iload_n (n := 25) d23_24 rfl rfl ?_
        refine zw_aload_n (n := 26) d23_25 rfl rfl ?_
        refine zw_getr (n := 29) d23_26 rfl (zj_2 hS).1 (zj_2 hS).2 (zr_2_3 hS) ?_
        refine zw_alen (n := 30) d23_29 rfl (za_2_3 hS).1 (za_2_3 hS).2 (by decide) rfl ?_
        refine zw_ic_ge (n := 33) d23_30 rfl (zite h (fun h => ?_) (fun h => ?_))
        · skip
          refine zw_iconst (n := 34) d23_33 rfl zk_i_1 ?_
          refine zw_goto d23_34 ?_
          refine zw_istore (n := 40) d23_38 rfl rfl rfl ?_
          refine zw_iload (n := 42) d23_40 rfl rfl ?_
          refine zw_if_eq (n := 45) d23_42 rfl (zite h (fun h => ?_) (fun h => ?_))
          · skip
            refine zw_lconst (n := 55) d23_54 rfl zk_c_0 ?_
            exact zw_lret d23_55 ⟨_, rfl, h⟩
          · skip
            refine zw_aload_n (n := 46) d23_45 rfl rfl ?_
            refine zw_getr (n := 49) d23_46 rfl (zj_2 hS).1 (zj_2 hS).2 (zr_2_3 hS) ?_
            refine zw_iload_n (n := 50) d23_49 rfl rfl ?_
            obtain ⟨hi, h⟩ := h
            refine zw_lald (n := 51) d23_50 rfl (za_2_3 hS).1 (za_2_3 hS).2 hi ?_
            refine zw_goto d23_51 ?_
            exact zw_lret d23_55 ⟨_, rfl, h⟩
        · skip
          refine zw_iconst (n := 38) d23_37 rfl zk_i_0 ?_
          refine zw_istore (n := 40) d23_38 rfl rfl rfl ?_
          refine zw_iload (n := 42) d23_40 rfl rfl ?_
          refine zw_if_eq (n := 45) d23_42 rfl (zite h (fun h => ?_) (fun h => ?_))
          · skip
            refine zw_lconst (n := 55) d23_54 rfl zk_c_0 ?_
            exact zw_lret d23_55 ⟨_, rfl, h⟩
          · skip
            refine zw_aload_n (n := 46) d23_45 rfl rfl ?_
            refine zw_getr (n := 49) d23_46 rfl (zj_2 hS).1 (zj_2 hS).2 (zr_2_3 hS) ?_
            refine zw_iload_n (n := 50) d23_49 rfl rfl ?_
            obtain ⟨hi, h⟩ := h
            refine zw_lald (n := 51) d23_50 rfl (za_2_3 hS).1 (za_2_3 hS).2 hi ?_
            refine zw_goto d23_51 ?_
            exact zw_lret d23_55 ⟨_, rfl, h⟩
    · skip
      refine zw_iconst (n := 38) d23_37 rfl zk_i_0 ?_
      refine zw_istore (n := 40) d23_38 rfl rfl rfl ?_
      refine zw_iload (n := 42) d23_40 rfl rfl ?_
      refine zw_if_eq (n := 45) d23_42 rfl (zite h (fun h => ?_) (fun h => ?_))
      · skip
        refine zw_lconst (n := 55) d23_54 rfl zk_c_0 ?_
        exact zw_lret d23_55 ⟨_, rfl, h⟩
      · skip
        refine zw_aload_n (n := 46) d23_45 rfl rfl ?_
        refine zw_getr (n := 49) d23_46 rfl (zj_2 hS).1 (zj_2 hS).2 (zr_2_3 hS) ?_
        refine zw_iload_n (n := 50) d23_49 rfl rfl ?_
        obtain ⟨hi, h⟩ := h
        refine zw_lald (n := 51) d23_50 rfl (za_2_3 hS).1 (za_2_3 hS).2 hi ?_
        refine zw_goto d23_51 ?_
        exact zw_lret d23_55 ⟨_, rfl, h⟩

set_option maxRecDepth 20000 in
theorem zf28 (pc : Nat) : zt_code 28 pc = zt_fd zl_28 pc := rfl
theorem d28_0 : zt_code 28 0 = some (.aload_n 0, 0, 0, 0) := (zf28 0).trans rfl
theorem d28_1 : zt_code 28 1 = some (.getfield 9, 2, 0, 1) := (zf28 1).trans rfl
theorem d28_4 : zt_code 28 4 = some (.iload_n 1, 0, 0, 0) := (zf28 4).trans rfl
theorem d28_5 : zt_code 28 5 = some (.iconst (-1), 0, 0, 0) := (zf28 5).trans rfl
theorem d28_6 : zt_code 28 6 = some (.invokestatic 43, 12, 3, -1) := (zf28 6).trans rfl
theorem d28_9 : zt_code 28 9 = some (.return_, 0, 0, 0) := (zf28 9).trans rfl
/-- FirstAtTheFirst$Shelves.putNothing(I)V -/
theorem vc28 {X : zX} {S : zx_S} {C : zx_C} {q : zx_C → Prop} {e : Nat} {a1 : Int32} (hS : zs_2 S e) (h : zCd X 0 12 [.ref (e + 1), .int a1, .int (-1)] S C (zQv (fun C1 => q C1))) : zCd X 1 28 [.ref e, .int a1] S C (zQv q) := by
  refine zc_in ml_28 rfl ?_
  refine zw_aload_n (n := 1) d28_0 rfl rfl ?_
  refine zw_getr (n := 4) d28_1 rfl (zj_2 hS).1 (zj_2 hS).2 (zr_2_0 hS) ?_
  refine zw_iload_n (n := 5) d28_4 rfl rfl ?_
  refine zw_iconst (n := 6) d28_5 rfl zk_i_m1 ?_
  refine zw_cV (n := 9) d28_6 (zs_S rfl rfl rfl rfl) (by rw [ml_12]; rfl) (by decide) rfl (zc_mV h (fun C1 h => ?_))
  exact zw_ret d28_9 ⟨rfl, h⟩

set_option maxRecDepth 20000 in
theorem zf30 (pc : Nat) : zt_code 30 pc = zt_fd zl_30 pc := rfl
theorem d30_0 : zt_code 30 0 = some (.aload_n 0, 0, 0, 0) := (zf30 0).trans rfl
theorem d30_1 : zt_code 30 1 = some (.getfield 9, 2, 0, 1) := (zf30 1).trans rfl
theorem d30_4 : zt_code 30 4 = some (.iload_n 1, 0, 0, 0) := (zf30 4).trans rfl
theorem d30_5 : zt_code 30 5 = some (.bipush (10), 0, 0, 0) := (zf30 5).trans rfl
theorem d30_7 : zt_code 30 7 = some (.iload_n 3, 0, 0, 0) := (zf30 7).trans rfl
theorem d30_8 : zt_code 30 8 = some (.iadd, 0, 0, 0) := (zf30 8).trans rfl
theorem d30_9 : zt_code 30 9 = some (.invokestatic 43, 12, 3, -1) := (zf30 9).trans rfl
theorem d30_12 : zt_code 30 12 = some (.aload_n 0, 0, 0, 0) := (zf30 12).trans rfl
theorem d30_13 : zt_code 30 13 = some (.getfield 18, 2, 2, 1) := (zf30 13).trans rfl
theorem d30_16 : zt_code 30 16 = some (.iload_n 1, 0, 0, 0) := (zf30 16).trans rfl
theorem d30_17 : zt_code 30 17 = some (.iload_n 2, 0, 0, 0) := (zf30 17).trans rfl
theorem d30_18 : zt_code 30 18 = some (.invokestatic 43, 12, 3, -1) := (zf30 18).trans rfl
theorem d30_21 : zt_code 30 21 = some (.return_, 0, 0, 0) := (zf30 21).trans rfl
/-- FirstAtTheFirst$Shelves.putBent(III)V -/
theorem vc30 {X : zX} {S : zx_S} {C : zx_C} {q : zx_C → Prop} {e : Nat} {a1 : Int32} {a2 : Int32} {a3 : Int32} (hS : zs_2 S e) (h : zCd X 0 12 [.ref (e + 1), .int a1, .int (10 + a3)] S C (zQv (fun C1 => zCd X 0 12 [.ref (e + 3), .int a1, .int a2] S C1 (zQv (fun C2 => q C2))))) : zCd X 1 30 [.ref e, .int a1, .int a2, .int a3] S C (zQv q) := by
  refine zc_in ml_30 rfl ?_
  refine zw_aload_n (n := 1) d30_0 rfl rfl ?_
  refine zw_getr (n := 4) d30_1 rfl (zj_2 hS).1 (zj_2 hS).2 (zr_2_0 hS) ?_
  refine zw_iload_n (n := 5) d30_4 rfl rfl ?_
  refine zw_bipush (n := 7) d30_5 rfl zk_b_10 ?_
  refine zw_iload_n (n := 8) d30_7 rfl rfl ?_
  refine zw_iadd (n := 9) d30_8 rfl ?_
  refine zw_cV (n := 12) d30_9 (zs_S rfl rfl rfl rfl) (by rw [ml_12]; rfl) (by decide) rfl (zc_mV h (fun C1 h => ?_))
  refine zw_aload_n (n := 13) d30_12 rfl rfl ?_
  refine zw_getr (n := 16) d30_13 rfl (zj_2 hS).1 (zj_2 hS).2 (zr_2_2 hS) ?_
  refine zw_iload_n (n := 17) d30_16 rfl rfl ?_
  refine zw_iload_n (n := 18) d30_17 rfl rfl ?_
  refine zw_cV (n := 21) d30_18 (zs_S rfl rfl rfl rfl) (by rw [ml_12]; rfl) (by decide) rfl (zc_mV h (fun C2 h => ?_))
  exact zw_ret d30_21 ⟨rfl, h⟩

set_option maxRecDepth 20000 in
theorem zf33 (pc : Nat) : zt_code 33 pc = zt_fd zl_33 pc := rfl
theorem d33_0 : zt_code 33 0 = some (.aload_n 0, 0, 0, 0) := (zf33 0).trans rfl
theorem d33_1 : zt_code 33 1 = some (.iload_n 1, 0, 0, 0) := (zf33 1).trans rfl
theorem d33_2 : zt_code 33 2 = some (.invokevirtual 33, 16, 2, 2) := (zf33 2).trans rfl
theorem d33_5 : zt_code 33 5 = some (.iconst (-1), 0, 0, 0) := (zf33 5).trans rfl
theorem d33_6 : zt_code 33 6 = some (.if_icmp .ne (6), 0, 12, 0) := (zf33 6).trans rfl
theorem d33_9 : zt_code 33 9 = some (.bipush (-4), 0, 0, 0) := (zf33 9).trans rfl
theorem d33_11 : zt_code 33 11 = some (.ireturn, 0, 0, 0) := (zf33 11).trans rfl
theorem d33_12 : zt_code 33 12 = some (.aload_n 0, 0, 0, 0) := (zf33 12).trans rfl
theorem d33_13 : zt_code 33 13 = some (.iload_n 1, 0, 0, 0) := (zf33 13).trans rfl
theorem d33_14 : zt_code 33 14 = some (.invokevirtual 33, 16, 2, 2) := (zf33 14).trans rfl
theorem d33_17 : zt_code 33 17 = some (.invokestatic 37, 9, 1, -1) := (zf33 17).trans rfl
theorem d33_20 : zt_code 33 20 = some (.ifCond .eq (8), 0, 28, 0) := (zf33 20).trans rfl
theorem d33_23 : zt_code 33 23 = some (.bipush (-3), 0, 0, 0) := (zf33 23).trans rfl
theorem d33_25 : zt_code 33 25 = some (.goto (4), 0, 29, 0) := (zf33 25).trans rfl
theorem d33_28 : zt_code 33 28 = some (.iconst (0), 0, 0, 0) := (zf33 28).trans rfl
theorem d33_29 : zt_code 33 29 = some (.ireturn, 0, 0, 0) := (zf33 29).trans rfl
/-- FirstAtTheFirst$Shelves.bentTrouble(I)I -/
theorem vc33 {X : zX} {S : zx_S} {C : zx_C} {q : Int32 → zx_C → Prop} {e : Nat} {a1 : Int32} (hS : zs_2 S e) (h : zCd X 1 16 [.ref e, .int a1] S C (zQi (fun r1 C1 => if (r1 : Int32) = (-1) then (q (-4) C1) else (zCd X 1 16 [.ref e, .int a1] S C1 (zQi (fun r2 C2 => zCd X 0 9 [.int r2] S C2 (zQi (fun r3 C3 => if (r3 : Int32) = 0 then (q 0 C3) else (q (-3) C3))))))))) : zCd X 2 33 [.ref e, .int a1] S C (zQi q) := by
  refine zc_in ml_33 rfl ?_
  refine zw_aload_n (n := 1) d33_0 rfl rfl ?_
  refine zw_iload_n (n := 2) d33_1 rfl rfl ?_
  refine zw_cI (n := 5) d33_2 (zs_V rfl rfl rfl rfl (by decide) (zj_2 hS).1 (zq_2 hS)) (by rw [ml_16]; rfl) (by decide) rfl (zc_mI h (fun r1 C1 h => ?_))
  refine zw_iconst (n := 6) d33_5 rfl zk_i_m1 ?_
  refine zw_ic_ne (n := 9) d33_6 rfl (zite h (fun h => ?_) (fun h => ?_))
  · skip
    refine zw_bipush (n := 11) d33_9 rfl zk_b_m4 ?_
    exact zw_iret d33_11 rfl ⟨_, rfl, h⟩
  · skip
    refine zw_aload_n (n := 13) d33_12 rfl rfl ?_
    refine zw_iload_n (n := 14) d33_13 rfl rfl ?_
    refine zw_cI (n := 17) d33_14 (zs_V rfl rfl rfl rfl (by decide) (zj_2 hS).1 (zq_2 hS)) (by rw [ml_16]; rfl) (by decide) rfl (zc_mI h (fun r2 C2 h => ?_))
    refine zw_cI (n := 20) d33_17 (zs_S rfl rfl rfl rfl) (by rw [ml_9]; rfl) (by decide) rfl (zc_mI h (fun r3 C3 h => ?_))
    refine zw_if_eq (n := 23) d33_20 rfl (zite h (fun h => ?_) (fun h => ?_))
    · skip
      refine zw_iconst (n := 29) d33_28 rfl zk_i_0 ?_
      exact zw_iret d33_29 rfl ⟨_, rfl, h⟩
    · skip
      refine zw_bipush (n := 25) d33_23 rfl zk_b_m3 ?_
      refine zw_goto d33_25 ?_
      exact zw_iret d33_29 rfl ⟨_, rfl, h⟩

set_option maxRecDepth 20000 in
theorem zf34 (pc : Nat) : zt_code 34 pc = zt_fd zl_34 pc := rfl
theorem d34_0 : zt_code 34 0 = some (.aload_n 0, 0, 0, 0) := (zf34 0).trans rfl
theorem d34_1 : zt_code 34 1 = some (.iload_n 1, 0, 0, 0) := (zf34 1).trans rfl
theorem d34_2 : zt_code 34 2 = some (.invokevirtual 33, 16, 2, 2) := (zf34 2).trans rfl
theorem d34_5 : zt_code 34 5 = some (.bipush (10), 0, 0, 0) := (zf34 5).trans rfl
theorem d34_7 : zt_code 34 7 = some (.isub, 0, 0, 0) := (zf34 7).trans rfl
theorem d34_8 : zt_code 34 8 = some (.ireturn, 0, 0, 0) := (zf34 8).trans rfl
/-- FirstAtTheFirst$Shelves.bentOf(I)I -/
theorem vc34 {X : zX} {S : zx_S} {C : zx_C} {q : Int32 → zx_C → Prop} {e : Nat} {a1 : Int32} (hS : zs_2 S e) (h : zCd X 1 16 [.ref e, .int a1] S C (zQi (fun r1 C1 => q (r1 - 10) C1))) : zCd X 2 34 [.ref e, .int a1] S C (zQi q) := by
  refine zc_in ml_34 rfl ?_
  refine zw_aload_n (n := 1) d34_0 rfl rfl ?_
  refine zw_iload_n (n := 2) d34_1 rfl rfl ?_
  refine zw_cI (n := 5) d34_2 (zs_V rfl rfl rfl rfl (by decide) (zj_2 hS).1 (zq_2 hS)) (by rw [ml_16]; rfl) (by decide) rfl (zc_mI h (fun r1 C1 h => ?_))
  refine zw_bipush (n := 7) d34_5 rfl zk_b_10 ?_
  refine zw_isub (n := 8) d34_7 rfl ?_
  exact zw_iret d34_8 rfl ⟨_, rfl, h⟩

set_option maxRecDepth 20000 in
theorem zf36 (pc : Nat) : zt_code 36 pc = zt_fd zl_36 pc := rfl
theorem d36_0 : zt_code 36 0 = some (.aload_n 0, 0, 0, 0) := (zf36 0).trans rfl
theorem d36_1 : zt_code 36 1 = some (.getfield 18, 2, 2, 1) := (zf36 1).trans rfl
theorem d36_4 : zt_code 36 4 = some (.iload_n 1, 0, 0, 0) := (zf36 4).trans rfl
theorem d36_5 : zt_code 36 5 = some (.invokestatic 29, 11, 2, -1) := (zf36 5).trans rfl
theorem d36_8 : zt_code 36 8 = some (.ireturn, 0, 0, 0) := (zf36 8).trans rfl
/-- FirstAtTheFirst$Shelves.sideOfBent(I)I -/
theorem vc36 {X : zX} {S : zx_S} {C : zx_C} {q : Int32 → zx_C → Prop} {e : Nat} {a1 : Int32} (hS : zs_2 S e) (h : zCd X 0 11 [.ref (e + 3), .int a1] S C (zQi (fun r1 C1 => q r1 C1))) : zCd X 1 36 [.ref e, .int a1] S C (zQi q) := by
  refine zc_in ml_36 rfl ?_
  refine zw_aload_n (n := 1) d36_0 rfl rfl ?_
  refine zw_getr (n := 4) d36_1 rfl (zj_2 hS).1 (zj_2 hS).2 (zr_2_2 hS) ?_
  refine zw_iload_n (n := 5) d36_4 rfl rfl ?_
  refine zw_cI (n := 8) d36_5 (zs_S rfl rfl rfl rfl) (by rw [ml_11]; rfl) (by decide) rfl (zc_mI h (fun r1 C1 h => ?_))
  exact zw_iret d36_8 rfl ⟨_, rfl, h⟩

set_option maxRecDepth 20000 in
theorem zf77 (pc : Nat) : zt_code 77 pc = zt_fd zl_77 pc := rfl
theorem d77_0 : zt_code 77 0 = some (.iload_n 2, 0, 0, 0) := (zf77 0).trans rfl
theorem d77_1 : zt_code 77 1 = some (.aload_n 0, 0, 0, 0) := (zf77 1).trans rfl
theorem d77_2 : zt_code 77 2 = some (.iload_n 1, 0, 0, 0) := (zf77 2).trans rfl
theorem d77_3 : zt_code 77 3 = some (.invokevirtual 51, 15, 2, 2) := (zf77 3).trans rfl
theorem d77_6 : zt_code 77 6 = some (.if_icmp .le (5), 0, 11, 0) := (zf77 6).trans rfl
theorem d77_9 : zt_code 77 9 = some (.iconst (0), 0, 0, 0) := (zf77 9).trans rfl
theorem d77_10 : zt_code 77 10 = some (.ireturn, 1, 0, 0) := (zf77 10).trans rfl
theorem d77_11 : zt_code 77 11 = some (.iconst (0), 0, 0, 0) := (zf77 11).trans rfl
theorem d77_12 : zt_code 77 12 = some (.istore 4, 0, 0, 0) := (zf77 12).trans rfl
theorem d77_14 : zt_code 77 14 = some (.iload 4, 0, 0, 0) := (zf77 14).trans rfl
theorem d77_16 : zt_code 77 16 = some (.iload_n 2, 0, 0, 0) := (zf77 16).trans rfl
theorem d77_17 : zt_code 77 17 = some (.if_icmp .ge (35), 0, 52, 0) := (zf77 17).trans rfl
theorem d77_20 : zt_code 77 20 = some (.aload_n 0, 0, 0, 0) := (zf77 20).trans rfl
theorem d77_21 : zt_code 77 21 = some (.iload_n 1, 0, 0, 0) := (zf77 21).trans rfl
theorem d77_22 : zt_code 77 22 = some (.iload 4, 0, 0, 0) := (zf77 22).trans rfl
theorem d77_24 : zt_code 77 24 = some (.invokevirtual 58, 23, 3, 2) := (zf77 24).trans rfl
theorem d77_27 : zt_code 77 27 = some (.lstore 5, 0, 0, 0) := (zf77 27).trans rfl
theorem d77_29 : zt_code 77 29 = some (.lload 5, 0, 0, 0) := (zf77 29).trans rfl
theorem d77_31 : zt_code 77 31 = some (.lconst 0, 0, 0, 0) := (zf77 31).trans rfl
theorem d77_32 : zt_code 77 32 = some (.lcmp, 0, 0, 0) := (zf77 32).trans rfl
theorem d77_33 : zt_code 77 33 = some (.ifCond .lt (11), 0, 44, 0) := (zf77 33).trans rfl
theorem d77_36 : zt_code 77 36 = some (.lload 5, 0, 0, 0) := (zf77 36).trans rfl
theorem d77_38 : zt_code 77 38 = some (.iload_n 3, 0, 0, 0) := (zf77 38).trans rfl
theorem d77_39 : zt_code 77 39 = some (.i2l, 0, 0, 0) := (zf77 39).trans rfl
theorem d77_40 : zt_code 77 40 = some (.lcmp, 0, 0, 0) := (zf77 40).trans rfl
theorem d77_41 : zt_code 77 41 = some (.ifCond .lt (5), 0, 46, 0) := (zf77 41).trans rfl
theorem d77_44 : zt_code 77 44 = some (.iconst (0), 0, 0, 0) := (zf77 44).trans rfl
theorem d77_45 : zt_code 77 45 = some (.ireturn, 1, 0, 0) := (zf77 45).trans rfl
theorem d77_46 : zt_code 77 46 = some (.iinc 4 (1), 0, 0, 0) := (zf77 46).trans rfl
theorem d77_49 : zt_code 77 49 = some (.goto (-35), 0, 14, 0) := (zf77 49).trans rfl
theorem d77_52 : zt_code 77 52 = some (.iconst (1), 0, 0, 0) := (zf77 52).trans rfl
theorem d77_53 : zt_code 77 53 = some (.ireturn, 1, 0, 0) := (zf77 53).trans rfl
/-- FirstAtTheFirst$Shelves.isRowBelow(III)Z -/
theorem vc77 {X : zX} {S : zx_S} {C : zx_C} {q : Int32 → zx_C → Prop} {e : Nat} {a1 : Int32} {a2 : Int32} {a3 : Int32} (hS : zs_2 S e) (h : zCd X 2 15 [.ref e, .int a1] S C (zQi (fun r1 C1 => if (r1 : Int32) < a2 then (q 0 C1) else (zW X 4 77 14 [.ref e, .int a1, .int a2, .int a3, .int 0, .retAddr 0, .retAddr 0] [] S C1 (zQi q))))) : zCd X 4 77 [.ref e, .int a1, .int a2, .int a3] S C (zQi q) := by
  refine zc_in ml_77 rfl ?_
  refine zw_iload_n (n := 1) d77_0 rfl rfl ?_
  refine zw_aload_n (n := 2) d77_1 rfl rfl ?_
  refine zw_iload_n (n := 3) d77_2 rfl rfl ?_
  refine zw_cI (n := 6) d77_3 (zs_V rfl rfl rfl rfl (by decide) (zj_2 hS).1 (zq_2 hS)) (by rw [ml_15]; rfl) (by decide) rfl (zc_mI h (fun r1 C1 h => ?_))
  refine zw_ic_le (n := 9) d77_6 rfl (zite h (fun h => ?_) (fun h => ?_))
  · skip
    refine zw_iconst (n := 10) d77_9 rfl zk_i_0 ?_
    exact zw_iret d77_10 rfl ⟨_, rfl, h⟩
  · skip
    refine zw_iconst (n := 12) d77_11 rfl zk_i_0 ?_
    refine zw_istore (n := 14) d77_12 rfl rfl rfl ?_
    exact h
theorem vc77_14 {X : zX} {S : zx_S} {C : zx_C} {q : Int32 → zx_C → Prop} {e : Nat} {a1 : Int32} {a2 : Int32} {a3 : Int32} {i1 : Int32} {i2 : Int32} {i3 : Int32} {i4 : Int32} {z5 : Value} {z6 : Value} (hS : zs_2 S e) (h : if (i4 : Int32) < i2 then (zCd X 3 23 [.ref e, .int i1, .int i4] S C (zQl (fun r1 C1 => if ((lg_cmp r1 0) : Int32) < 0 then (q 0 C1) else (if ((lg_cmp r1 (Int32.toInt64 i3)) : Int32) < 0 then (zW X 4 77 14 [.ref e, .int i1, .int i2, .int i3, .int (i4 + 1), .long r1, .retAddr 1] [] S C1 (zQi q)) else (q 0 C1))))) else (q 1 C)) : zW X 4 77 14 [.ref e, .int i1, .int i2, .int i3, .int i4, z5, z6] [] S C (zQi q) := by
  refine zw_iload (n := 16) d77_14 rfl rfl ?_
  refine zw_iload_n (n := 17) d77_16 rfl rfl ?_
  refine zw_ic_ge (n := 20) d77_17 rfl (zite h (fun h => ?_) (fun h => ?_))
  · skip
    refine zw_aload_n (n := 21) d77_20 rfl rfl ?_
    refine zw_iload_n (n := 22) d77_21 rfl rfl ?_
    refine zw_iload (n := 24) d77_22 rfl rfl ?_
    refine zw_cL (n := 27) d77_24 (zs_V rfl rfl rfl rfl (by decide) (zj_2 hS).1 (zq_2 hS)) (by rw [ml_23]; rfl) (by decide) rfl (zc_mL h (fun r1 C1 h => ?_))
    refine zw_lstore (n := 29) d77_27 rfl rfl rfl ?_
    refine zw_lload (n := 31) d77_29 rfl rfl rfl ?_
    refine zw_lconst (n := 32) d77_31 rfl zk_c_0 ?_
    refine zw_lcmp (n := 33) d77_32 rfl ?_
    refine zw_if_lt (n := 36) d77_33 rfl (zite h (fun h => ?_) (fun h => ?_))
    · skip
      refine zw_iconst (n := 45) d77_44 rfl zk_i_0 ?_
      exact zw_iret d77_45 rfl ⟨_, rfl, h⟩
    · skip
      refine zw_lload (n := 38) d77_36 rfl rfl rfl ?_
      refine zw_iload_n (n := 39) d77_38 rfl rfl ?_
      refine zw_i2l (n := 40) d77_39 rfl ?_
      refine zw_lcmp (n := 41) d77_40 rfl ?_
      refine zw_if_lt (n := 44) d77_41 rfl (zite h (fun h => ?_) (fun h => ?_))
      · skip
        refine zw_iinc (n := 49) d77_46 rfl rfl zk_i_1 rfl ?_
        refine zw_goto d77_49 ?_
        exact h
      · skip
        refine zw_iconst (n := 45) d77_44 rfl zk_i_0 ?_
        exact zw_iret d77_45 rfl ⟨_, rfl, h⟩
  · skip
    refine zw_iconst (n := 53) d77_52 rfl zk_i_1 ?_
    exact zw_iret d77_53 rfl ⟨_, rfl, h⟩

set_option maxRecDepth 20000 in
theorem zf156 (pc : Nat) : zt_code 156 pc = zt_fd zl_156 pc := rfl
theorem d156_0 : zt_code 156 0 = some (.iconst (0), 0, 0, 0) := (zf156 0).trans rfl
theorem d156_1 : zt_code 156 1 = some (.istore_n 1, 0, 0, 0) := (zf156 1).trans rfl
theorem d156_2 : zt_code 156 2 = some (.iconst (0), 0, 0, 0) := (zf156 2).trans rfl
theorem d156_3 : zt_code 156 3 = some (.istore_n 2, 0, 0, 0) := (zf156 3).trans rfl
theorem d156_4 : zt_code 156 4 = some (.iload_n 2, 0, 0, 0) := (zf156 4).trans rfl
theorem d156_5 : zt_code 156 5 = some (.bipush (8), 0, 0, 0) := (zf156 5).trans rfl
theorem d156_7 : zt_code 156 7 = some (.if_icmp .ge (26), 0, 33, 0) := (zf156 7).trans rfl
theorem d156_10 : zt_code 156 10 = some (.iload_n 1, 0, 0, 0) := (zf156 10).trans rfl
theorem d156_11 : zt_code 156 11 = some (.aload_n 0, 0, 0, 0) := (zf156 11).trans rfl
theorem d156_12 : zt_code 156 12 = some (.iload_n 2, 0, 0, 0) := (zf156 12).trans rfl
theorem d156_13 : zt_code 156 13 = some (.invokevirtual 33, 16, 2, 2) := (zf156 13).trans rfl
theorem d156_16 : zt_code 156 16 = some (.iconst (-1), 0, 0, 0) := (zf156 16).trans rfl
theorem d156_17 : zt_code 156 17 = some (.if_icmp .ne (7), 0, 24, 0) := (zf156 17).trans rfl
theorem d156_20 : zt_code 156 20 = some (.iconst (0), 0, 0, 0) := (zf156 20).trans rfl
theorem d156_21 : zt_code 156 21 = some (.goto (4), 0, 25, 0) := (zf156 21).trans rfl
theorem d156_24 : zt_code 156 24 = some (.iconst (1), 0, 0, 0) := (zf156 24).trans rfl
theorem d156_25 : zt_code 156 25 = some (.iadd, 0, 0, 0) := (zf156 25).trans rfl
theorem d156_26 : zt_code 156 26 = some (.istore_n 1, 0, 0, 0) := (zf156 26).trans rfl
theorem d156_27 : zt_code 156 27 = some (.iinc 2 (1), 0, 0, 0) := (zf156 27).trans rfl
theorem d156_30 : zt_code 156 30 = some (.goto (-26), 0, 4, 0) := (zf156 30).trans rfl
theorem d156_33 : zt_code 156 33 = some (.iload_n 1, 0, 0, 0) := (zf156 33).trans rfl
theorem d156_34 : zt_code 156 34 = some (.ireturn, 0, 0, 0) := (zf156 34).trans rfl
/-- FirstAtTheFirst$Shelves.countHeld()I -/
theorem vc156 {X : zX} {S : zx_S} {C : zx_C} {q : Int32 → zx_C → Prop} {e : Nat} (hS : zs_2 S e) (h : zW X 2 156 4 [.ref e, .int 0, .int 0] [] S C (zQi q)) : zCd X 2 156 [.ref e] S C (zQi q) := by
  refine zc_in ml_156 rfl ?_
  refine zw_iconst (n := 1) d156_0 rfl zk_i_0 ?_
  refine zw_istore_n (n := 2) d156_1 rfl rfl rfl ?_
  refine zw_iconst (n := 3) d156_2 rfl zk_i_0 ?_
  refine zw_istore_n (n := 4) d156_3 rfl rfl rfl ?_
  exact h
theorem vc156_4 {X : zX} {S : zx_S} {C : zx_C} {q : Int32 → zx_C → Prop} {e : Nat} {i1 : Int32} {i2 : Int32} (hS : zs_2 S e) (h : if (i2 : Int32) < 8 then (zCd X 1 16 [.ref e, .int i2] S C (zQi (fun r1 C1 => if (r1 : Int32) = (-1) then (zW X 2 156 4 [.ref e, .int (i1 + 0), .int (i2 + 1)] [] S C1 (zQi q)) else (zW X 2 156 4 [.ref e, .int (i1 + 1), .int (i2 + 1)] [] S C1 (zQi q))))) else (q i1 C)) : zW X 2 156 4 [.ref e, .int i1, .int i2] [] S C (zQi q) := by
  refine zw_iload_n (n := 5) d156_4 rfl rfl ?_
  refine zw_bipush (n := 7) d156_5 rfl zk_b_8 ?_
  refine zw_ic_ge (n := 10) d156_7 rfl (zite h (fun h => ?_) (fun h => ?_))
  · skip
    refine zw_iload_n (n := 11) d156_10 rfl rfl ?_
    refine zw_aload_n (n := 12) d156_11 rfl rfl ?_
    refine zw_iload_n (n := 13) d156_12 rfl rfl ?_
    refine zw_cI (n := 16) d156_13 (zs_V rfl rfl rfl rfl (by decide) (zj_2 hS).1 (zq_2 hS)) (by rw [ml_16]; rfl) (by decide) rfl (zc_mI h (fun r1 C1 h => ?_))
    refine zw_iconst (n := 17) d156_16 rfl zk_i_m1 ?_
    refine zw_ic_ne (n := 20) d156_17 rfl (zite h (fun h => ?_) (fun h => ?_))
    · skip
      refine zw_iconst (n := 21) d156_20 rfl zk_i_0 ?_
      refine zw_goto d156_21 ?_
      refine zw_iadd (n := 26) d156_25 rfl ?_
      refine zw_istore_n (n := 27) d156_26 rfl rfl rfl ?_
      refine zw_iinc (n := 30) d156_27 rfl rfl zk_i_1 rfl ?_
      refine zw_goto d156_30 ?_
      exact h
    · skip
      refine zw_iconst (n := 25) d156_24 rfl zk_i_1 ?_
      refine zw_iadd (n := 26) d156_25 rfl ?_
      refine zw_istore_n (n := 27) d156_26 rfl rfl rfl ?_
      refine zw_iinc (n := 30) d156_27 rfl rfl zk_i_1 rfl ?_
      refine zw_goto d156_30 ?_
      exact h
  · skip
    refine zw_iload_n (n := 34) d156_33 rfl rfl ?_
    exact zw_iret d156_34 rfl ⟨_, rfl, h⟩

set_option maxRecDepth 20000 in
theorem zf85 (pc : Nat) : zt_code 85 pc = zt_fd zl_85 pc := rfl
theorem d85_0 : zt_code 85 0 = some (.aload_n 0, 0, 0, 0) := (zf85 0).trans rfl
theorem d85_1 : zt_code 85 1 = some (.iconst (-1), 0, 0, 0) := (zf85 1).trans rfl
theorem d85_2 : zt_code 85 2 = some (.putfield 15, 3, 2, 0) := (zf85 2).trans rfl
theorem d85_5 : zt_code 85 5 = some (.aload_n 0, 0, 0, 0) := (zf85 5).trans rfl
theorem d85_6 : zt_code 85 6 = some (.iconst (0), 0, 0, 0) := (zf85 6).trans rfl
theorem d85_7 : zt_code 85 7 = some (.putfield 19, 3, 5, 0) := (zf85 7).trans rfl
theorem d85_10 : zt_code 85 10 = some (.iconst (0), 0, 0, 0) := (zf85 10).trans rfl
theorem d85_11 : zt_code 85 11 = some (.istore_n 2, 0, 0, 0) := (zf85 11).trans rfl
theorem d85_12 : zt_code 85 12 = some (.iconst (1), 0, 0, 0) := (zf85 12).trans rfl
theorem d85_13 : zt_code 85 13 = some (.istore_n 3, 0, 0, 0) := (zf85 13).trans rfl
theorem d85_14 : zt_code 85 14 = some (.iconst (0), 0, 0, 0) := (zf85 14).trans rfl
theorem d85_15 : zt_code 85 15 = some (.istore 4, 0, 0, 0) := (zf85 15).trans rfl
theorem d85_17 : zt_code 85 17 = some (.iload 4, 0, 0, 0) := (zf85 17).trans rfl
theorem d85_19 : zt_code 85 19 = some (.aload_n 0, 0, 0, 0) := (zf85 19).trans rfl
theorem d85_20 : zt_code 85 20 = some (.getfield 22, 3, 1, 0) := (zf85 20).trans rfl
theorem d85_23 : zt_code 85 23 = some (.if_icmp .gt (47), 0, 70, 0) := (zf85 23).trans rfl
theorem d85_26 : zt_code 85 26 = some (.iload_n 3, 0, 0, 0) := (zf85 26).trans rfl
theorem d85_27 : zt_code 85 27 = some (.ifCond .eq (43), 0, 70, 0) := (zf85 27).trans rfl
theorem d85_30 : zt_code 85 30 = some (.aload_n 0, 0, 0, 0) := (zf85 30).trans rfl
theorem d85_31 : zt_code 85 31 = some (.getfield 15, 3, 2, 0) := (zf85 31).trans rfl
theorem d85_34 : zt_code 85 34 = some (.iconst (-1), 0, 0, 0) := (zf85 34).trans rfl
theorem d85_35 : zt_code 85 35 = some (.if_icmp .ne (35), 0, 70, 0) := (zf85 35).trans rfl
theorem d85_38 : zt_code 85 38 = some (.aload_n 0, 0, 0, 0) := (zf85 38).trans rfl
theorem d85_39 : zt_code 85 39 = some (.invokevirtual 25, 86, 1, 3) := (zf85 39).trans rfl
theorem d85_42 : zt_code 85 42 = some (.aload_n 0, 0, 0, 0) := (zf85 42).trans rfl
theorem d85_43 : zt_code 85 43 = some (.aload_n 1, 0, 0, 0) := (zf85 43).trans rfl
theorem d85_44 : zt_code 85 44 = some (.invokevirtual 28, 88, 2, 3) := (zf85 44).trans rfl
theorem d85_47 : zt_code 85 47 = some (.iinc 2 (1), 0, 0, 0) := (zf85 47).trans rfl
theorem d85_50 : zt_code 85 50 = some (.aload_n 0, 0, 0, 0) := (zf85 50).trans rfl
theorem d85_51 : zt_code 85 51 = some (.getfield 32, 3, 3, 0) := (zf85 51).trans rfl
theorem d85_54 : zt_code 85 54 = some (.iconst (3), 0, 0, 0) := (zf85 54).trans rfl
theorem d85_55 : zt_code 85 55 = some (.if_icmp .ne (7), 0, 62, 0) := (zf85 55).trans rfl
theorem d85_58 : zt_code 85 58 = some (.iconst (1), 0, 0, 0) := (zf85 58).trans rfl
theorem d85_59 : zt_code 85 59 = some (.goto (4), 0, 63, 0) := (zf85 59).trans rfl
theorem d85_62 : zt_code 85 62 = some (.iconst (0), 0, 0, 0) := (zf85 62).trans rfl
theorem d85_63 : zt_code 85 63 = some (.istore_n 3, 0, 0, 0) := (zf85 63).trans rfl
theorem d85_64 : zt_code 85 64 = some (.iinc 4 (1), 0, 0, 0) := (zf85 64).trans rfl
theorem d85_67 : zt_code 85 67 = some (.goto (-50), 0, 17, 0) := (zf85 67).trans rfl
theorem d85_70 : zt_code 85 70 = some (.aload_n 0, 0, 0, 0) := (zf85 70).trans rfl
theorem d85_71 : zt_code 85 71 = some (.getfield 15, 3, 2, 0) := (zf85 71).trans rfl
theorem d85_74 : zt_code 85 74 = some (.iconst (-1), 0, 0, 0) := (zf85 74).trans rfl
theorem d85_75 : zt_code 85 75 = some (.if_icmp .ne (18), 0, 93, 0) := (zf85 75).trans rfl
theorem d85_78 : zt_code 85 78 = some (.aload_n 0, 0, 0, 0) := (zf85 78).trans rfl
theorem d85_79 : zt_code 85 79 = some (.getfield 32, 3, 3, 0) := (zf85 79).trans rfl
theorem d85_82 : zt_code 85 82 = some (.ifCond .eq (11), 0, 93, 0) := (zf85 82).trans rfl
theorem d85_85 : zt_code 85 85 = some (.aload_n 0, 0, 0, 0) := (zf85 85).trans rfl
theorem d85_86 : zt_code 85 86 = some (.aload_n 0, 0, 0, 0) := (zf85 86).trans rfl
theorem d85_87 : zt_code 85 87 = some (.getfield 35, 3, 4, 0) := (zf85 87).trans rfl
theorem d85_90 : zt_code 85 90 = some (.putfield 15, 3, 2, 0) := (zf85 90).trans rfl
theorem d85_93 : zt_code 85 93 = some (.iload_n 2, 0, 0, 0) := (zf85 93).trans rfl
theorem d85_94 : zt_code 85 94 = some (.ireturn, 0, 0, 0) := (zf85 94).trans rfl
/-- FirstAtTheFirst$Tape.readEstate(LFirstAtTheFirst$Estate;)I -/
theorem vc85 {X : zX} {S : zx_S} {C : zx_C} {q : Int32 → zx_C → Prop} {e : Nat} {a1 : Nat} (hS : zs_3 S e) (h1 : zs_0 S a1) (h : zW X 6 85 17 [.ref e, .ref a1, .int 0, .int 1, .int 0] [] S (zp (zp C e 2 (-1)) e 5 0) (zQi q)) : zCd X 6 85 [.ref e, .ref a1] S C (zQi q) := by
  refine zc_in ml_85 rfl ?_
  refine zw_aload_n (n := 1) d85_0 rfl rfl ?_
  refine zw_iconst (n := 2) d85_1 rfl zk_i_m1 ?_
  refine zw_puti (n := 5) d85_2 rfl (zj_3 hS).1 (zj_3 hS).2 ?_
  refine zw_aload_n (n := 6) d85_5 rfl rfl ?_
  refine zw_iconst (n := 7) d85_6 rfl zk_i_0 ?_
  refine zw_puti (n := 10) d85_7 rfl (zj_3 hS).1 (zj_3 hS).2 ?_
  refine zw_iconst (n := 11) d85_10 rfl zk_i_0 ?_
  refine zw_istore_n (n := 12) d85_11 rfl rfl rfl ?_
  refine zw_iconst (n := 13) d85_12 rfl zk_i_1 ?_
  refine zw_istore_n (n := 14) d85_13 rfl rfl rfl ?_
  refine zw_iconst (n := 15) d85_14 rfl zk_i_0 ?_
  refine zw_istore (n := 17) d85_15 rfl rfl rfl ?_
  exact h
theorem vc85_17 {X : zX} {S : zx_S} {C : zx_C} {q : Int32 → zx_C → Prop} {e : Nat} {a1 : Nat} {i2 : Int32} {i3 : Int32} {i4 : Int32} (hS : zs_3 S e) (h1 : zs_0 S a1) (h : if ((C.1 e 1) : Int32) < i4 then (if ((C.1 e 2) : Int32) = (-1) then (if ((C.1 e 3) : Int32) = 0 then (q i2 C) else (q i2 (zp C e 2 (C.1 e 4)))) else (q i2 C)) else (if (i3 : Int32) = 0 then (if ((C.1 e 2) : Int32) = (-1) then (if ((C.1 e 3) : Int32) = 0 then (q i2 C) else (q i2 (zp C e 2 (C.1 e 4)))) else (q i2 C)) else (if ((C.1 e 2) : Int32) = (-1) then (zCd X 2 86 [.ref e] S C (zQv (fun C1 => zCd X 5 88 [.ref e, .ref a1] S C1 (zQv (fun C2 => if ((C2.1 e 3) : Int32) = 3 then (zW X 6 85 17 [.ref e, .ref a1, .int (i2 + 1), .int 1, .int (i4 + 1)] [] S C2 (zQi q)) else (zW X 6 85 17 [.ref e, .ref a1, .int (i2 + 1), .int 0, .int (i4 + 1)] [] S C2 (zQi q))))))) else (if ((C.1 e 2) : Int32) = (-1) then (if ((C.1 e 3) : Int32) = 0 then (q i2 C) else (q i2 (zp C e 2 (C.1 e 4)))) else (q i2 C))))) : zW X 6 85 17 [.ref e, .ref a1, .int i2, .int i3, .int i4] [] S C (zQi q) := by
  refine zw_iload (n := 19) d85_17 rfl rfl ?_
  refine zw_aload_n (n := 20) d85_19 rfl rfl ?_
  refine zw_geti (n := 23) d85_20 rfl (zj_3 hS).1 (zj_3 hS).2 ?_
  refine zw_ic_gt (n := 26) d85_23 rfl (zite h (fun h => ?_) (fun h => ?_))
  · skip
    refine zw_aload_n (n := 71) d85_70 rfl rfl ?_
    refine zw_geti (n := 74) d85_71 rfl (zj_3 hS).1 (zj_3 hS).2 ?_
    refine zw_iconst (n := 75) d85_74 rfl zk_i_m1 ?_
    refine zw_ic_ne (n := 78) d85_75 rfl (zite h (fun h => ?_) (fun h => ?_))
    · skip
      refine zw_aload_n (n := 79) d85_78 rfl rfl ?_
      refine zw_geti (n := 82) d85_79 rfl (zj_3 hS).1 (zj_3 hS).2 ?_
      refine zw_if_eq (n := 85) d85_82 rfl (zite h (fun h => ?_) (fun h => ?_))
      · skip
        refine zw_iload_n (n := 94) d85_93 rfl rfl ?_
        exact zw_iret d85_94 rfl ⟨_, rfl, h⟩
      · skip
        refine zw_aload_n (n := 86) d85_85 rfl rfl ?_
        refine zw_aload_n (n := 87) d85_86 rfl rfl ?_
        refine zw_geti (n := 90) d85_87 rfl (zj_3 hS).1 (zj_3 hS).2 ?_
        refine zw_puti (n := 93) d85_90 rfl (zj_3 hS).1 (zj_3 hS).2 ?_
        refine zw_iload_n (n := 94) d85_93 rfl rfl ?_
        exact zw_iret d85_94 rfl ⟨_, rfl, h⟩
    · skip
      refine zw_iload_n (n := 94) d85_93 rfl rfl ?_
      exact zw_iret d85_94 rfl ⟨_, rfl, h⟩
  · skip
    refine zw_iload_n (n := 27) d85_26 rfl rfl ?_
    refine zw_if_eq (n := 30) d85_27 rfl (zite h (fun h => ?_) (fun h => ?_))
    · skip
      refine zw_aload_n (n := 71) d85_70 rfl rfl ?_
      refine zw_geti (n := 74) d85_71 rfl (zj_3 hS).1 (zj_3 hS).2 ?_
      refine zw_iconst (n := 75) d85_74 rfl zk_i_m1 ?_
      refine zw_ic_ne (n := 78) d85_75 rfl (zite h (fun h => ?_) (fun h => ?_))
      · skip
        refine zw_aload_n (n := 79) d85_78 rfl rfl ?_
        refine zw_geti (n := 82) d85_79 rfl (zj_3 hS).1 (zj_3 hS).2 ?_
        refine zw_if_eq (n := 85) d85_82 rfl (zite h (fun h => ?_) (fun h => ?_))
        · skip
          refine zw_iload_n (n := 94) d85_93 rfl rfl ?_
          exact zw_iret d85_94 rfl ⟨_, rfl, h⟩
        · skip
          refine zw_aload_n (n := 86) d85_85 rfl rfl ?_
          refine zw_aload_n (n := 87) d85_86 rfl rfl ?_
          refine zw_geti (n := 90) d85_87 rfl (zj_3 hS).1 (zj_3 hS).2 ?_
          refine zw_puti (n := 93) d85_90 rfl (zj_3 hS).1 (zj_3 hS).2 ?_
          refine zw_iload_n (n := 94) d85_93 rfl rfl ?_
          exact zw_iret d85_94 rfl ⟨_, rfl, h⟩
      · skip
        refine zw_iload_n (n := 94) d85_93 rfl rfl ?_
        exact zw_iret d85_94 rfl ⟨_, rfl, h⟩
    · skip
      refine zw_aload_n (n := 31) d85_30 rfl rfl ?_
      refine zw_geti (n := 34) d85_31 rfl (zj_3 hS).1 (zj_3 hS).2 ?_
      refine zw_iconst (n := 35) d85_34 rfl zk_i_m1 ?_
      refine zw_ic_ne (n := 38) d85_35 rfl (zite h (fun h => ?_) (fun h => ?_))
      · skip
        refine zw_aload_n (n := 39) d85_38 rfl rfl ?_
        refine zw_cV (n := 42) d85_39 (zs_V rfl rfl rfl rfl (by decide) (zj_3 hS).1 (zq_3 hS)) (by rw [ml_86]; rfl) (by decide) rfl (zc_mV h (fun C1 h => ?_))
        refine zw_aload_n (n := 43) d85_42 rfl rfl ?_
        refine zw_aload_n (n := 44) d85_43 rfl rfl ?_
        refine zw_cV (n := 47) d85_44 (zs_V rfl rfl rfl rfl (by decide) (zj_3 hS).1 (zq_3 hS)) (by rw [ml_88]; rfl) (by decide) rfl (zc_mV h (fun C2 h => ?_))
        refine zw_iinc (n := 50) d85_47 rfl rfl zk_i_1 rfl ?_
        refine zw_aload_n (n := 51) d85_50 rfl rfl ?_
        refine zw_geti (n := 54) d85_51 rfl (zj_3 hS).1 (zj_3 hS).2 ?_
        refine zw_iconst (n := 55) d85_54 rfl zk_i_3 ?_
        refine zw_ic_ne (n := 58) d85_55 rfl (zite h (fun h => ?_) (fun h => ?_))
        · skip
          refine zw_iconst (n := 59) d85_58 rfl zk_i_1 ?_
          refine zw_goto d85_59 ?_
          refine zw_istore_n (n := 64) d85_63 rfl rfl rfl ?_
          refine zw_iinc (n := 67) d85_64 rfl rfl zk_i_1 rfl ?_
          refine zw_goto d85_67 ?_
          exact h
        · skip
          refine zw_iconst (n := 63) d85_62 rfl zk_i_0 ?_
          refine zw_istore_n (n := 64) d85_63 rfl rfl rfl ?_
          refine zw_iinc (n := 67) d85_64 rfl rfl zk_i_1 rfl ?_
          refine zw_goto d85_67 ?_
          exact h
      · skip
        refine zw_aload_n (n := 71) d85_70 rfl rfl ?_
        refine zw_geti (n := 74) d85_71 rfl (zj_3 hS).1 (zj_3 hS).2 ?_
        refine zw_iconst (n := 75) d85_74 rfl zk_i_m1 ?_
        refine zw_ic_ne (n := 78) d85_75 rfl (zite h (fun h => ?_) (fun h => ?_))
        · skip
          refine zw_aload_n (n := 79) d85_78 rfl rfl ?_
          refine zw_geti (n := 82) d85_79 rfl (zj_3 hS).1 (zj_3 hS).2 ?_
          refine zw_if_eq (n := 85) d85_82 rfl (zite h (fun h => ?_) (fun h => ?_))
          · skip
            refine zw_iload_n (n := 94) d85_93 rfl rfl ?_
            exact zw_iret d85_94 rfl ⟨_, rfl, h⟩
          · skip
            refine zw_aload_n (n := 86) d85_85 rfl rfl ?_
            refine zw_aload_n (n := 87) d85_86 rfl rfl ?_
            refine zw_geti (n := 90) d85_87 rfl (zj_3 hS).1 (zj_3 hS).2 ?_
            refine zw_puti (n := 93) d85_90 rfl (zj_3 hS).1 (zj_3 hS).2 ?_
            refine zw_iload_n (n := 94) d85_93 rfl rfl ?_
            exact zw_iret d85_94 rfl ⟨_, rfl, h⟩
        · skip
          refine zw_iload_n (n := 94) d85_93 rfl rfl ?_
          exact zw_iret d85_94 rfl ⟨_, rfl, h⟩

set_option maxRecDepth 20000 in
theorem zf86 (pc : Nat) : zt_code 86 pc = zt_fd zl_86 pc := rfl
theorem d86_0 : zt_code 86 0 = some (.aload_n 0, 0, 0, 0) := (zf86 0).trans rfl
theorem d86_1 : zt_code 86 1 = some (.getfield 19, 3, 5, 0) := (zf86 1).trans rfl
theorem d86_4 : zt_code 86 4 = some (.aload_n 0, 0, 0, 0) := (zf86 4).trans rfl
theorem d86_5 : zt_code 86 5 = some (.getfield 22, 3, 1, 0) := (zf86 5).trans rfl
theorem d86_8 : zt_code 86 8 = some (.if_icmp .ge (28), 0, 36, 0) := (zf86 8).trans rfl
theorem d86_11 : zt_code 86 11 = some (.aload_n 0, 0, 0, 0) := (zf86 11).trans rfl
theorem d86_12 : zt_code 86 12 = some (.aload_n 0, 0, 0, 0) := (zf86 12).trans rfl
theorem d86_13 : zt_code 86 13 = some (.getfield 19, 3, 5, 0) := (zf86 13).trans rfl
theorem d86_16 : zt_code 86 16 = some (.invokevirtual 42, 87, 2, 3) := (zf86 16).trans rfl
theorem d86_19 : zt_code 86 19 = some (.iconst (4), 0, 0, 0) := (zf86 19).trans rfl
theorem d86_20 : zt_code 86 20 = some (.if_icmp .ne (16), 0, 36, 0) := (zf86 20).trans rfl
theorem d86_23 : zt_code 86 23 = some (.aload_n 0, 0, 0, 0) := (zf86 23).trans rfl
theorem d86_24 : zt_code 86 24 = some (.dup, 0, 0, 0) := (zf86 24).trans rfl
theorem d86_25 : zt_code 86 25 = some (.getfield 19, 3, 5, 0) := (zf86 25).trans rfl
theorem d86_28 : zt_code 86 28 = some (.iconst (1), 0, 0, 0) := (zf86 28).trans rfl
theorem d86_29 : zt_code 86 29 = some (.iadd, 0, 0, 0) := (zf86 29).trans rfl
theorem d86_30 : zt_code 86 30 = some (.putfield 19, 3, 5, 0) := (zf86 30).trans rfl
theorem d86_33 : zt_code 86 33 = some (.goto (-33), 0, 0, 0) := (zf86 33).trans rfl
theorem d86_36 : zt_code 86 36 = some (.aload_n 0, 0, 0, 0) := (zf86 36).trans rfl
theorem d86_37 : zt_code 86 37 = some (.aload_n 0, 0, 0, 0) := (zf86 37).trans rfl
theorem d86_38 : zt_code 86 38 = some (.getfield 19, 3, 5, 0) := (zf86 38).trans rfl
theorem d86_41 : zt_code 86 41 = some (.putfield 35, 3, 4, 0) := (zf86 41).trans rfl
theorem d86_44 : zt_code 86 44 = some (.aload_n 0, 0, 0, 0) := (zf86 44).trans rfl
theorem d86_45 : zt_code 86 45 = some (.aload_n 0, 0, 0, 0) := (zf86 45).trans rfl
theorem d86_46 : zt_code 86 46 = some (.aload_n 0, 0, 0, 0) := (zf86 46).trans rfl
theorem d86_47 : zt_code 86 47 = some (.getfield 19, 3, 5, 0) := (zf86 47).trans rfl
theorem d86_50 : zt_code 86 50 = some (.invokevirtual 42, 87, 2, 3) := (zf86 50).trans rfl
theorem d86_53 : zt_code 86 53 = some (.putfield 32, 3, 3, 0) := (zf86 53).trans rfl
theorem d86_56 : zt_code 86 56 = some (.aload_n 0, 0, 0, 0) := (zf86 56).trans rfl
theorem d86_57 : zt_code 86 57 = some (.getfield 32, 3, 3, 0) := (zf86 57).trans rfl
theorem d86_60 : zt_code 86 60 = some (.iconst (1), 0, 0, 0) := (zf86 60).trans rfl
theorem d86_61 : zt_code 86 61 = some (.if_icmp .eq (11), 0, 72, 0) := (zf86 61).trans rfl
theorem d86_64 : zt_code 86 64 = some (.aload_n 0, 0, 0, 0) := (zf86 64).trans rfl
theorem d86_65 : zt_code 86 65 = some (.getfield 32, 3, 3, 0) := (zf86 65).trans rfl
theorem d86_68 : zt_code 86 68 = some (.iconst (2), 0, 0, 0) := (zf86 68).trans rfl
theorem d86_69 : zt_code 86 69 = some (.if_icmp .ne (7), 0, 76, 0) := (zf86 69).trans rfl
theorem d86_72 : zt_code 86 72 = some (.iconst (1), 0, 0, 0) := (zf86 72).trans rfl
theorem d86_73 : zt_code 86 73 = some (.goto (4), 0, 77, 0) := (zf86 73).trans rfl
theorem d86_76 : zt_code 86 76 = some (.iconst (0), 0, 0, 0) := (zf86 76).trans rfl
theorem d86_77 : zt_code 86 77 = some (.istore_n 1, 0, 0, 0) := (zf86 77).trans rfl
theorem d86_78 : zt_code 86 78 = some (.aload_n 0, 0, 0, 0) := (zf86 78).trans rfl
theorem d86_79 : zt_code 86 79 = some (.getfield 32, 3, 3, 0) := (zf86 79).trans rfl
theorem d86_82 : zt_code 86 82 = some (.ifCond .eq (13), 0, 95, 0) := (zf86 82).trans rfl
theorem d86_85 : zt_code 86 85 = some (.aload_n 0, 0, 0, 0) := (zf86 85).trans rfl
theorem d86_86 : zt_code 86 86 = some (.dup, 0, 0, 0) := (zf86 86).trans rfl
theorem d86_87 : zt_code 86 87 = some (.getfield 19, 3, 5, 0) := (zf86 87).trans rfl
theorem d86_90 : zt_code 86 90 = some (.iconst (1), 0, 0, 0) := (zf86 90).trans rfl
theorem d86_91 : zt_code 86 91 = some (.iadd, 0, 0, 0) := (zf86 91).trans rfl
theorem d86_92 : zt_code 86 92 = some (.putfield 19, 3, 5, 0) := (zf86 92).trans rfl
theorem d86_95 : zt_code 86 95 = some (.iload_n 1, 0, 0, 0) := (zf86 95).trans rfl
theorem d86_96 : zt_code 86 96 = some (.ifCond .eq (42), 0, 138, 0) := (zf86 96).trans rfl
theorem d86_99 : zt_code 86 99 = some (.aload_n 0, 0, 0, 0) := (zf86 99).trans rfl
theorem d86_100 : zt_code 86 100 = some (.getfield 19, 3, 5, 0) := (zf86 100).trans rfl
theorem d86_103 : zt_code 86 103 = some (.aload_n 0, 0, 0, 0) := (zf86 103).trans rfl
theorem d86_104 : zt_code 86 104 = some (.getfield 22, 3, 1, 0) := (zf86 104).trans rfl
theorem d86_107 : zt_code 86 107 = some (.if_icmp .ge (31), 0, 138, 0) := (zf86 107).trans rfl
theorem d86_110 : zt_code 86 110 = some (.aload_n 0, 0, 0, 0) := (zf86 110).trans rfl
theorem d86_111 : zt_code 86 111 = some (.aload_n 0, 0, 0, 0) := (zf86 111).trans rfl
theorem d86_112 : zt_code 86 112 = some (.getfield 19, 3, 5, 0) := (zf86 112).trans rfl
theorem d86_115 : zt_code 86 115 = some (.invokevirtual 42, 87, 2, 3) := (zf86 115).trans rfl
theorem d86_118 : zt_code 86 118 = some (.aload_n 0, 0, 0, 0) := (zf86 118).trans rfl
theorem d86_119 : zt_code 86 119 = some (.getfield 32, 3, 3, 0) := (zf86 119).trans rfl
theorem d86_122 : zt_code 86 122 = some (.if_icmp .ne (16), 0, 138, 0) := (zf86 122).trans rfl
theorem d86_125 : zt_code 86 125 = some (.aload_n 0, 0, 0, 0) := (zf86 125).trans rfl
theorem d86_126 : zt_code 86 126 = some (.dup, 0, 0, 0) := (zf86 126).trans rfl
theorem d86_127 : zt_code 86 127 = some (.getfield 19, 3, 5, 0) := (zf86 127).trans rfl
theorem d86_130 : zt_code 86 130 = some (.iconst (1), 0, 0, 0) := (zf86 130).trans rfl
theorem d86_131 : zt_code 86 131 = some (.iadd, 0, 0, 0) := (zf86 131).trans rfl
theorem d86_132 : zt_code 86 132 = some (.putfield 19, 3, 5, 0) := (zf86 132).trans rfl
theorem d86_135 : zt_code 86 135 = some (.goto (-40), 0, 95, 0) := (zf86 135).trans rfl
theorem d86_138 : zt_code 86 138 = some (.return_, 0, 0, 0) := (zf86 138).trans rfl
/-- FirstAtTheFirst$Tape.nextToken()V -/
theorem vc86 {X : zX} {S : zx_S} {C : zx_C} {q : zx_C → Prop} {e : Nat} (hS : zs_3 S e) (h : zW X 2 86 0 [.ref e, .retAddr 0] [] S C (zQv q)) : zCd X 2 86 [.ref e] S C (zQv q) := by
  refine zc_in ml_86 rfl ?_
  exact h
theorem vc86_0 {X : zX} {S : zx_S} {C : zx_C} {q : zx_C → Prop} {e : Nat} {z1 : Value} (hS : zs_3 S e) (h : if ((C.1 e 5) : Int32) < (C.1 e 1) then (zCd X 1 87 [.ref e, .int (C.1 e 5)] S C (zQi (fun r1 C1 => if (r1 : Int32) = 4 then (zW X 2 86 0 [.ref e, z1] [] S (zp C1 e 5 ((C1.1 e 5) + 1)) (zQv q)) else (zCd X 1 87 [.ref e, .int (Prod.fst (zp C1 e 4 (C1.1 e 5)) e 5)] S (zp C1 e 4 (C1.1 e 5)) (zQi (fun r2 C2 => if ((Prod.fst (zp C2 e 3 r2) e 3) : Int32) = 1 then (if ((Prod.fst (zp C2 e 3 r2) e 3) : Int32) = 0 then (zW X 2 86 95 [.ref e, .int 1] [] S (zp C2 e 3 r2) (zQv q)) else (zW X 2 86 95 [.ref e, .int 1] [] S (zp (zp C2 e 3 r2) e 5 ((Prod.fst (zp C2 e 3 r2) e 5) + 1)) (zQv q))) else (if ((Prod.fst (zp C2 e 3 r2) e 3) : Int32) = 2 then (if ((Prod.fst (zp C2 e 3 r2) e 3) : Int32) = 0 then (zW X 2 86 95 [.ref e, .int 1] [] S (zp C2 e 3 r2) (zQv q)) else (zW X 2 86 95 [.ref e, .int 1] [] S (zp (zp C2 e 3 r2) e 5 ((Prod.fst (zp C2 e 3 r2) e 5) + 1)) (zQv q))) else (if ((Prod.fst (zp C2 e 3 r2) e 3) : Int32) = 0 then (zW X 2 86 95 [.ref e, .int 0] [] S (zp C2 e 3 r2) (zQv q)) else (zW X 2 86 95 [.ref e, .int 0] [] S (zp (zp C2 e 3 r2) e 5 ((Prod.fst (zp C2 e 3 r2) e 5) + 1)) (zQv q)))))))))) else (zCd X 1 87 [.ref e, .int (Prod.fst (zp C e 4 (C.1 e 5)) e 5)] S (zp C e 4 (C.1 e 5)) (zQi (fun r3 C3 => if ((Prod.fst (zp C3 e 3 r3) e 3) : Int32) = 1 then (if ((Prod.fst (zp C3 e 3 r3) e 3) : Int32) = 0 then (zW X 2 86 95 [.ref e, .int 1] [] S (zp C3 e 3 r3) (zQv q)) else (zW X 2 86 95 [.ref e, .int 1] [] S (zp (zp C3 e 3 r3) e 5 ((Prod.fst (zp C3 e 3 r3) e 5) + 1)) (zQv q))) else (if ((Prod.fst (zp C3 e 3 r3) e 3) : Int32) = 2 then (if ((Prod.fst (zp C3 e 3 r3) e 3) : Int32) = 0 then (zW X 2 86 95 [.ref e, .int 1] [] S (zp C3 e 3 r3) (zQv q)) else (zW X 2 86 95 [.ref e, .int 1] [] S (zp (zp C3 e 3 r3) e 5 ((Prod.fst (zp C3 e 3 r3) e 5) + 1)) (zQv q))) else (if ((Prod.fst (zp C3 e 3 r3) e 3) : Int32) = 0 then (zW X 2 86 95 [.ref e, .int 0] [] S (zp C3 e 3 r3) (zQv q)) else (zW X 2 86 95 [.ref e, .int 0] [] S (zp (zp C3 e 3 r3) e 5 ((Prod.fst (zp C3 e 3 r3) e 5) + 1)) (zQv q)))))))) : zW X 2 86 0 [.ref e, z1] [] S C (zQv q) := by
  refine zw_aload_n (n := 1) d86_0 rfl rfl ?_
  refine zw_geti (n := 4) d86_1 rfl (zj_3 hS).1 (zj_3 hS).2 ?_
  refine zw_aload_n (n := 5) d86_4 rfl rfl ?_
  refine zw_geti (n := 8) d86_5 rfl (zj_3 hS).1 (zj_3 hS).2 ?_
  refine zw_ic_ge (n := 11) d86_8 rfl (zite h (fun h => ?_) (fun h => ?_))
  · skip
    refine zw_aload_n (n := 12) d86_11 rfl rfl ?_
    refine zw_aload_n (n := 13) d86_12 rfl rfl ?_
    refine zw_geti (n := 16) d86_13 rfl (zj_3 hS).1 (zj_3 hS).2 ?_
    refine zw_cI (n := 19) d86_16 (zs_V rfl rfl rfl rfl (by decide) (zj_3 hS).1 (zq_3 hS)) (by rw [ml_87]; rfl) (by decide) rfl (zc_mI h (fun r1 C1 h => ?_))
    refine zw_iconst (n := 20) d86_19 rfl zk_i_4 ?_
    refine zw_ic_ne (n := 23) d86_20 rfl (zite h (fun h => ?_) (fun h => ?_))
    · skip
      refine zw_aload_n (n := 24) d86_23 rfl rfl ?_
      refine zw_dup (n := 25) d86_24 rfl rfl ?_
      refine zw_geti (n := 28) d86_25 rfl (zj_3 hS).1 (zj_3 hS).2 ?_
      refine zw_iconst (n := 29) d86_28 rfl zk_i_1 ?_
      refine zw_iadd (n := 30) d86_29 rfl ?_
      refine zw_puti (n := 33) d86_30 rfl (zj_3 hS).1 (zj_3 hS).2 ?_
      refine zw_goto d86_33 ?_
      exact h
    · skip
      refine zw_aload_n (n := 37) d86_36 rfl rfl ?_
      refine zw_aload_n (n := 38) d86_37 rfl rfl ?_
      refine zw_geti (n := 41) d86_38 rfl (zj_3 hS).1 (zj_3 hS).2 ?_
      refine zw_puti (n := 44) d86_41 rfl (zj_3 hS).1 (zj_3 hS).2 ?_
      refine zw_aload_n (n := 45) d86_44 rfl rfl ?_
      refine zw_aload_n (n := 46) d86_45 rfl rfl ?_
      refine zw_aload_n (n := 47) d86_46 rfl rfl ?_
      refine zw_geti (n := 50) d86_47 rfl (zj_3 hS).1 (zj_3 hS).2 ?_
      refine zw_cI (n := 53) d86_50 (zs_V rfl rfl rfl rfl (by decide) (zj_3 hS).1 (zq_3 hS)) (by rw [ml_87]; rfl) (by decide) rfl (zc_mI h (fun r2 C2 h => ?_))
      refine zw_puti (n := 56) d86_53 rfl (zj_3 hS).1 (zj_3 hS).2 ?_
      refine zw_aload_n (n := 57) d86_56 rfl rfl ?_
      refine zw_geti (n := 60) d86_57 rfl (zj_3 hS).1 (zj_3 hS).2 ?_
      refine zw_iconst (n := 61) d86_60 rfl zk_i_1 ?_
      refine zw_ic_eq (n := 64) d86_61 rfl (zite h (fun h => ?_) (fun h => ?_))
      · skip
        refine zw_iconst (n := 73) d86_72 rfl zk_i_1 ?_
        refine zw_goto d86_73 ?_
        refine zw_istore_n (n := 78) d86_77 rfl rfl rfl ?_
        refine zw_aload_n (n := 79) d86_78 rfl rfl ?_
        refine zw_geti (n := 82) d86_79 rfl (zj_3 hS).1 (zj_3 hS).2 ?_
        refine zw_if_eq (n := 85) d86_82 rfl (zite h (fun h => ?_) (fun h => ?_))
        · skip
          exact h
        · skip
          refine zw_aload_n (n := 86) d86_85 rfl rfl ?_
          refine zw_dup (n := 87) d86_86 rfl rfl ?_
          refine zw_geti (n := 90) d86_87 rfl (zj_3 hS).1 (zj_3 hS).2 ?_
          refine zw_iconst (n := 91) d86_90 rfl zk_i_1 ?_
          refine zw_iadd (n := 92) d86_91 rfl ?_
          refine zw_puti (n := 95) d86_92 rfl (zj_3 hS).1 (zj_3 hS).2 ?_
          exact h
      · skip
        refine zw_aload_n (n := 65) d86_64 rfl rfl ?_
        refine zw_geti (n := 68) d86_65 rfl (zj_3 hS).1 (zj_3 hS).2 ?_
        refine zw_iconst (n := 69) d86_68 rfl zk_i_2 ?_
        refine zw_ic_ne (n := 72) d86_69 rfl (zite h (fun h => ?_) (fun h => ?_))
        · skip
          refine zw_iconst (n := 73) d86_72 rfl zk_i_1 ?_
          refine zw_goto d86_73 ?_
          refine zw_istore_n (n := 78) d86_77 rfl rfl rfl ?_
          refine zw_aload_n (n := 79) d86_78 rfl rfl ?_
          refine zw_geti (n := 82) d86_79 rfl (zj_3 hS).1 (zj_3 hS).2 ?_
          refine zw_if_eq (n := 85) d86_82 rfl (zite h (fun h => ?_) (fun h => ?_))
          · skip
            exact h
          · skip
            refine zw_aload_n (n := 86) d86_85 rfl rfl ?_
            refine zw_dup (n := 87) d86_86 rfl rfl ?_
            refine zw_geti (n := 90) d86_87 rfl (zj_3 hS).1 (zj_3 hS).2 ?_
            refine zw_iconst (n := 91) d86_90 rfl zk_i_1 ?_
            refine zw_iadd (n := 92) d86_91 rfl ?_
            refine zw_puti (n := 95) d86_92 rfl (zj_3 hS).1 (zj_3 hS).2 ?_
            exact h
        · skip
          refine zw_iconst (n := 77) d86_76 rfl zk_i_0 ?_
          refine zw_istore_n (n := 78) d86_77 rfl rfl rfl ?_
          refine zw_aload_n (n := 79) d86_78 rfl rfl ?_
          refine zw_geti (n := 82) d86_79 rfl (zj_3 hS).1 (zj_3 hS).2 ?_
          refine zw_if_eq (n := 85) d86_82 rfl (zite h (fun h => ?_) (fun h => ?_))
          · skip
            exact h
          · skip
            refine zw_aload_n (n := 86) d86_85 rfl rfl ?_
            refine zw_dup (n := 87) d86_86 rfl rfl ?_
            refine zw_geti (n := 90) d86_87 rfl (zj_3 hS).1 (zj_3 hS).2 ?_
            refine zw_iconst (n := 91) d86_90 rfl zk_i_1 ?_
            refine zw_iadd (n := 92) d86_91 rfl ?_
            refine zw_puti (n := 95) d86_92 rfl (zj_3 hS).1 (zj_3 hS).2 ?_
            exact h
  · skip
    refine zw_aload_n (n := 37) d86_36 rfl rfl ?_
    refine zw_aload_n (n := 38) d86_37 rfl rfl ?_
    refine zw_geti (n := 41) d86_38 rfl (zj_3 hS).1 (zj_3 hS).2 ?_
    refine zw_puti (n := 44) d86_41 rfl (zj_3 hS).1 (zj_3 hS).2 ?_
    refine zw_aload_n (n := 45) d86_44 rfl rfl ?_
    refine zw_aload_n (n := 46) d86_45 rfl rfl ?_
    refine zw_aload_n (n := 47) d86_46 rfl rfl ?_
    refine zw_geti (n := 50) d86_47 rfl (zj_3 hS).1 (zj_3 hS).2 ?_
    refine zw_cI (n := 53) d86_50 (zs_V rfl rfl rfl rfl (by decide) (zj_3 hS).1 (zq_3 hS)) (by rw [ml_87]; rfl) (by decide) rfl (zc_mI h (fun r3 C3 h => ?_))
    refine zw_puti (n := 56) d86_53 rfl (zj_3 hS).1 (zj_3 hS).2 ?_
    refine zw_aload_n (n := 57) d86_56 rfl rfl ?_
    refine zw_geti (n := 60) d86_57 rfl (zj_3 hS).1 (zj_3 hS).2 ?_
    refine zw_iconst (n := 61) d86_60 rfl zk_i_1 ?_
    refine zw_ic_eq (n := 64) d86_61 rfl (zite h (fun h => ?_) (fun h => ?_))
    · skip
      refine zw_iconst (n := 73) d86_72 rfl zk_i_1 ?_
      refine zw_goto d86_73 ?_
      refine zw_istore_n (n := 78) d86_77 rfl rfl rfl ?_
      refine zw_aload_n (n := 79) d86_78 rfl rfl ?_
      refine zw_geti (n := 82) d86_79 rfl (zj_3 hS).1 (zj_3 hS).2 ?_
      refine zw_if_eq (n := 85) d86_82 rfl (zite h (fun h => ?_) (fun h => ?_))
      · skip
        exact h
      · skip
        refine zw_aload_n (n := 86) d86_85 rfl rfl ?_
        refine zw_dup (n := 87) d86_86 rfl rfl ?_
        refine zw_geti (n := 90) d86_87 rfl (zj_3 hS).1 (zj_3 hS).2 ?_
        refine zw_iconst (n := 91) d86_90 rfl zk_i_1 ?_
        refine zw_iadd (n := 92) d86_91 rfl ?_
        refine zw_puti (n := 95) d86_92 rfl (zj_3 hS).1 (zj_3 hS).2 ?_
        exact h
    · skip
      refine zw_aload_n (n := 65) d86_64 rfl rfl ?_
      refine zw_geti (n := 68) d86_65 rfl (zj_3 hS).1 (zj_3 hS).2 ?_
      refine zw_iconst (n := 69) d86_68 rfl zk_i_2 ?_
      refine zw_ic_ne (n := 72) d86_69 rfl (zite h (fun h => ?_) (fun h => ?_))
      · skip
        refine zw_iconst (n := 73) d86_72 rfl zk_i_1 ?_
        refine zw_goto d86_73 ?_
        refine zw_istore_n (n := 78) d86_77 rfl rfl rfl ?_
        refine zw_aload_n (n := 79) d86_78 rfl rfl ?_
        refine zw_geti (n := 82) d86_79 rfl (zj_3 hS).1 (zj_3 hS).2 ?_
        refine zw_if_eq (n := 85) d86_82 rfl (zite h (fun h => ?_) (fun h => ?_))
        · skip
          exact h
        · skip
          refine zw_aload_n (n := 86) d86_85 rfl rfl ?_
          refine zw_dup (n := 87) d86_86 rfl rfl ?_
          refine zw_geti (n := 90) d86_87 rfl (zj_3 hS).1 (zj_3 hS).2 ?_
          refine zw_iconst (n := 91) d86_90 rfl zk_i_1 ?_
          refine zw_iadd (n := 92) d86_91 rfl ?_
          refine zw_puti (n := 95) d86_92 rfl (zj_3 hS).1 (zj_3 hS).2 ?_
          exact h
      · skip
        refine zw_iconst (n := 77) d86_76 rfl zk_i_0 ?_
        refine zw_istore_n (n := 78) d86_77 rfl rfl rfl ?_
        refine zw_aload_n (n := 79) d86_78 rfl rfl ?_
        refine zw_geti (n := 82) d86_79 rfl (zj_3 hS).1 (zj_3 hS).2 ?_
        refine zw_if_eq (n := 85) d86_82 rfl (zite h (fun h => ?_) (fun h => ?_))
        · skip
          exact h
        · skip
          refine zw_aload_n (n := 86) d86_85 rfl rfl ?_
          refine zw_dup (n := 87) d86_86 rfl rfl ?_
          refine zw_geti (n := 90) d86_87 rfl (zj_3 hS).1 (zj_3 hS).2 ?_
          refine zw_iconst (n := 91) d86_90 rfl zk_i_1 ?_
          refine zw_iadd (n := 92) d86_91 rfl ?_
          refine zw_puti (n := 95) d86_92 rfl (zj_3 hS).1 (zj_3 hS).2 ?_
          exact h
theorem vc86_95 {X : zX} {S : zx_S} {C : zx_C} {q : zx_C → Prop} {e : Nat} {i1 : Int32} (hS : zs_3 S e) (h : if (i1 : Int32) = 0 then (q C) else (if ((C.1 e 5) : Int32) < (C.1 e 1) then (zCd X 1 87 [.ref e, .int (C.1 e 5)] S C (zQi (fun r1 C1 => if (r1 : Int32) = (C1.1 e 3) then (zW X 2 86 95 [.ref e, .int i1] [] S (zp C1 e 5 ((C1.1 e 5) + 1)) (zQv q)) else (q C1)))) else (q C))) : zW X 2 86 95 [.ref e, .int i1] [] S C (zQv q) := by
  refine zw_iload_n (n := 96) d86_95 rfl rfl ?_
  refine zw_if_eq (n := 99) d86_96 rfl (zite h (fun h => ?_) (fun h => ?_))
  · skip
    exact zw_ret d86_138 ⟨rfl, h⟩
  · skip
    refine zw_aload_n (n := 100) d86_99 rfl rfl ?_
    refine zw_geti (n := 103) d86_100 rfl (zj_3 hS).1 (zj_3 hS).2 ?_
    refine zw_aload_n (n := 104) d86_103 rfl rfl ?_
    refine zw_geti (n := 107) d86_104 rfl (zj_3 hS).1 (zj_3 hS).2 ?_
    refine zw_ic_ge (n := 110) d86_107 rfl (zite h (fun h => ?_) (fun h => ?_))
    · skip
      refine zw_aload_n (n := 111) d86_110 rfl rfl ?_
      refine zw_aload_n (n := 112) d86_111 rfl rfl ?_
      refine zw_geti (n := 115) d86_112 rfl (zj_3 hS).1 (zj_3 hS).2 ?_
      refine zw_cI (n := 118) d86_115 (zs_V rfl rfl rfl rfl (by decide) (zj_3 hS).1 (zq_3 hS)) (by rw [ml_87]; rfl) (by decide) rfl (zc_mI h (fun r1 C1 h => ?_))
      refine zw_aload_n (n := 119) d86_118 rfl rfl ?_
      refine zw_geti (n := 122) d86_119 rfl (zj_3 hS).1 (zj_3 hS).2 ?_
      refine zw_ic_ne (n := 125) d86_122 rfl (zite h (fun h => ?_) (fun h => ?_))
      · skip
        refine zw_aload_n (n := 126) d86_125 rfl rfl ?_
        refine zw_dup (n := 127) d86_126 rfl rfl ?_
        refine zw_geti (n := 130) d86_127 rfl (zj_3 hS).1 (zj_3 hS).2 ?_
        refine zw_iconst (n := 131) d86_130 rfl zk_i_1 ?_
        refine zw_iadd (n := 132) d86_131 rfl ?_
        refine zw_puti (n := 135) d86_132 rfl (zj_3 hS).1 (zj_3 hS).2 ?_
        refine zw_goto d86_135 ?_
        exact h
      · skip
        exact zw_ret d86_138 ⟨rfl, h⟩
    · skip
      exact zw_ret d86_138 ⟨rfl, h⟩

set_option maxRecDepth 20000 in
theorem zf87 (pc : Nat) : zt_code 87 pc = zt_fd zl_87 pc := rfl
theorem d87_0 : zt_code 87 0 = some (.iload_n 1, 0, 0, 0) := (zf87 0).trans rfl
theorem d87_1 : zt_code 87 1 = some (.aload_n 0, 0, 0, 0) := (zf87 1).trans rfl
theorem d87_2 : zt_code 87 2 = some (.getfield 22, 3, 1, 0) := (zf87 2).trans rfl
theorem d87_5 : zt_code 87 5 = some (.if_icmp .lt (5), 0, 10, 0) := (zf87 5).trans rfl
theorem d87_8 : zt_code 87 8 = some (.iconst (0), 0, 0, 0) := (zf87 8).trans rfl
theorem d87_9 : zt_code 87 9 = some (.ireturn, 0, 0, 0) := (zf87 9).trans rfl
theorem d87_10 : zt_code 87 10 = some (.aload_n 0, 0, 0, 0) := (zf87 10).trans rfl
theorem d87_11 : zt_code 87 11 = some (.getfield 9, 3, 0, 1) := (zf87 11).trans rfl
theorem d87_14 : zt_code 87 14 = some (.iload_n 1, 0, 0, 0) := (zf87 14).trans rfl
theorem d87_15 : zt_code 87 15 = some (.invokestatic 38, 11, 2, -1) := (zf87 15).trans rfl
theorem d87_18 : zt_code 87 18 = some (.istore_n 2, 0, 0, 0) := (zf87 18).trans rfl
theorem d87_19 : zt_code 87 19 = some (.iload_n 2, 0, 0, 0) := (zf87 19).trans rfl
theorem d87_20 : zt_code 87 20 = some (.bipush (97), 0, 0, 0) := (zf87 20).trans rfl
theorem d87_22 : zt_code 87 22 = some (.if_icmp .lt (11), 0, 33, 0) := (zf87 22).trans rfl
theorem d87_25 : zt_code 87 25 = some (.iload_n 2, 0, 0, 0) := (zf87 25).trans rfl
theorem d87_26 : zt_code 87 26 = some (.bipush (122), 0, 0, 0) := (zf87 26).trans rfl
theorem d87_28 : zt_code 87 28 = some (.if_icmp .gt (5), 0, 33, 0) := (zf87 28).trans rfl
theorem d87_31 : zt_code 87 31 = some (.iconst (1), 0, 0, 0) := (zf87 31).trans rfl
theorem d87_32 : zt_code 87 32 = some (.ireturn, 0, 0, 0) := (zf87 32).trans rfl
theorem d87_33 : zt_code 87 33 = some (.iload_n 2, 0, 0, 0) := (zf87 33).trans rfl
theorem d87_34 : zt_code 87 34 = some (.bipush (48), 0, 0, 0) := (zf87 34).trans rfl
theorem d87_36 : zt_code 87 36 = some (.if_icmp .lt (11), 0, 47, 0) := (zf87 36).trans rfl
theorem d87_39 : zt_code 87 39 = some (.iload_n 2, 0, 0, 0) := (zf87 39).trans rfl
theorem d87_40 : zt_code 87 40 = some (.bipush (57), 0, 0, 0) := (zf87 40).trans rfl
theorem d87_42 : zt_code 87 42 = some (.if_icmp .gt (5), 0, 47, 0) := (zf87 42).trans rfl
theorem d87_45 : zt_code 87 45 = some (.iconst (2), 0, 0, 0) := (zf87 45).trans rfl
theorem d87_46 : zt_code 87 46 = some (.ireturn, 0, 0, 0) := (zf87 46).trans rfl
theorem d87_47 : zt_code 87 47 = some (.iload_n 2, 0, 0, 0) := (zf87 47).trans rfl
theorem d87_48 : zt_code 87 48 = some (.bipush (59), 0, 0, 0) := (zf87 48).trans rfl
theorem d87_50 : zt_code 87 50 = some (.if_icmp .ne (5), 0, 55, 0) := (zf87 50).trans rfl
theorem d87_53 : zt_code 87 53 = some (.iconst (3), 0, 0, 0) := (zf87 53).trans rfl
theorem d87_54 : zt_code 87 54 = some (.ireturn, 0, 0, 0) := (zf87 54).trans rfl
theorem d87_55 : zt_code 87 55 = some (.iload_n 2, 0, 0, 0) := (zf87 55).trans rfl
theorem d87_56 : zt_code 87 56 = some (.bipush (32), 0, 0, 0) := (zf87 56).trans rfl
theorem d87_58 : zt_code 87 58 = some (.if_icmp .ne (7), 0, 65, 0) := (zf87 58).trans rfl
theorem d87_61 : zt_code 87 61 = some (.iconst (4), 0, 0, 0) := (zf87 61).trans rfl
theorem d87_62 : zt_code 87 62 = some (.goto (4), 0, 66, 0) := (zf87 62).trans rfl
theorem d87_65 : zt_code 87 65 = some (.iconst (5), 0, 0, 0) := (zf87 65).trans rfl
theorem d87_66 : zt_code 87 66 = some (.ireturn, 0, 0, 0) := (zf87 66).trans rfl
/-- FirstAtTheFirst$Tape.kindAt(I)I -/
theorem vc87 {X : zX} {S : zx_S} {C : zx_C} {q : Int32 → zx_C → Prop} {e : Nat} {a1 : Int32} (hS : zs_3 S e) (h : if (a1 : Int32) < (C.1 e 1) then (zCd X 0 11 [.ref (e + 1), .int a1] S C (zQi (fun r1 C1 => if (r1 : Int32) < 97 then (if (r1 : Int32) < 48 then (if (r1 : Int32) = 59 then (q 3 C1) else (if (r1 : Int32) = 32 then (q 4 C1) else (q 5 C1))) else (if (57 : Int32) < r1 then (if (r1 : Int32) = 59 then (q 3 C1) else (if (r1 : Int32) = 32 then (q 4 C1) else (q 5 C1))) else (q 2 C1))) else (if (122 : Int32) < r1 then (if (r1 : Int32) < 48 then (if (r1 : Int32) = 59 then (q 3 C1) else (if (r1 : Int32) = 32 then (q 4 C1) else (q 5 C1))) else (if (57 : Int32) < r1 then (if (r1 : Int32) = 59 then (q 3 C1) else (if (r1 : Int32) = 32 then (q 4 C1) else (q 5 C1))) else (q 2 C1))) else (q 1 C1))))) else (q 0 C)) : zCd X 1 87 [.ref e, .int a1] S C (zQi q) := by
  refine zc_in ml_87 rfl ?_
  refine zw_iload_n (n := 1) d87_0 rfl rfl ?_
  refine zw_aload_n (n := 2) d87_1 rfl rfl ?_
  refine zw_geti (n := 5) d87_2 rfl (zj_3 hS).1 (zj_3 hS).2 ?_
  refine zw_ic_lt (n := 8) d87_5 rfl (zite h (fun h => ?_) (fun h => ?_))
  · skip
    refine zw_aload_n (n := 11) d87_10 rfl rfl ?_
    refine zw_getr (n := 14) d87_11 rfl (zj_3 hS).1 (zj_3 hS).2 (zr_3_0 hS) ?_
    refine zw_iload_n (n := 15) d87_14 rfl rfl ?_
    refine zw_cI (n := 18) d87_15 (zs_S rfl rfl rfl rfl) (by rw [ml_11]; rfl) (by decide) rfl (zc_mI h (fun r1 C1 h => ?_))
    refine zw_istore_n (n := 19) d87_18 rfl rfl rfl ?_
    refine zw_iload_n (n := 20) d87_19 rfl rfl ?_
    refine zw_bipush (n := 22) d87_20 rfl zk_b_97 ?_
    refine zw_ic_lt (n := 25) d87_22 rfl (zite h (fun h => ?_) (fun h => ?_))
    · skip
      refine zw_iload_n (n := 34) d87_33 rfl rfl ?_
      refine zw_bipush (n := 36) d87_34 rfl zk_b_48 ?_
      refine zw_ic_lt (n := 39) d87_36 rfl (zite h (fun h => ?_) (fun h => ?_))
      · skip
        refine zw_iload_n (n := 48) d87_47 rfl rfl ?_
        refine zw_bipush (n := 50) d87_48 rfl zk_b_59 ?_
        refine zw_ic_ne (n := 53) d87_50 rfl (zite h (fun h => ?_) (fun h => ?_))
        · skip
          refine zw_iconst (n := 54) d87_53 rfl zk_i_3 ?_
          exact zw_iret d87_54 rfl ⟨_, rfl, h⟩
        · skip
          refine zw_iload_n (n := 56) d87_55 rfl rfl ?_
          refine zw_bipush (n := 58) d87_56 rfl zk_b_32 ?_
          refine zw_ic_ne (n := 61) d87_58 rfl (zite h (fun h => ?_) (fun h => ?_))
          · skip
            refine zw_iconst (n := 62) d87_61 rfl zk_i_4 ?_
            refine zw_goto d87_62 ?_
            exact zw_iret d87_66 rfl ⟨_, rfl, h⟩
          · skip
            refine zw_iconst (n := 66) d87_65 rfl zk_i_5 ?_
            exact zw_iret d87_66 rfl ⟨_, rfl, h⟩
      · skip
        refine zw_iload_n (n := 40) d87_39 rfl rfl ?_
        refine zw_bipush (n := 42) d87_40 rfl zk_b_57 ?_
        refine zw_ic_gt (n := 45) d87_42 rfl (zite h (fun h => ?_) (fun h => ?_))
        · skip
          refine zw_iload_n (n := 48) d87_47 rfl rfl ?_
          refine zw_bipush (n := 50) d87_48 rfl zk_b_59 ?_
          refine zw_ic_ne (n := 53) d87_50 rfl (zite h (fun h => ?_) (fun h => ?_))
          · skip
            refine zw_iconst (n := 54) d87_53 rfl zk_i_3 ?_
            exact zw_iret d87_54 rfl ⟨_, rfl, h⟩
          · skip
            refine zw_iload_n (n := 56) d87_55 rfl rfl ?_
            refine zw_bipush (n := 58) d87_56 rfl zk_b_32 ?_
            refine zw_ic_ne (n := 61) d87_58 rfl (zite h (fun h => ?_) (fun h => ?_))
            · skip
              refine zw_iconst (n := 62) d87_61 rfl zk_i_4 ?_
              refine zw_goto d87_62 ?_
              exact zw_iret d87_66 rfl ⟨_, rfl, h⟩
            · skip
              refine zw_iconst (n := 66) d87_65 rfl zk_i_5 ?_
              exact zw_iret d87_66 rfl ⟨_, rfl, h⟩
        · skip
          refine zw_iconst (n := 46) d87_45 rfl zk_i_2 ?_
          exact zw_iret d87_46 rfl ⟨_, rfl, h⟩
    · skip
      refine zw_iload_n (n := 26) d87_25 rfl rfl ?_
      refine zw_bipush (n := 28) d87_26 rfl zk_b_122 ?_
      refine zw_ic_gt (n := 31) d87_28 rfl (zite h (fun h => ?_) (fun h => ?_))
      · skip
        refine zw_iload_n (n := 34) d87_33 rfl rfl ?_
        refine zw_bipush (n := 36) d87_34 rfl zk_b_48 ?_
        refine zw_ic_lt (n := 39) d87_36 rfl (zite h (fun h => ?_) (fun h => ?_))
        · skip
          refine zw_iload_n (n := 48) d87_47 rfl rfl ?_
          refine zw_bipush (n := 50) d87_48 rfl zk_b_59 ?_
          refine zw_ic_ne (n := 53) d87_50 rfl (zite h (fun h => ?_) (fun h => ?_))
          · skip
            refine zw_iconst (n := 54) d87_53 rfl zk_i_3 ?_
            exact zw_iret d87_54 rfl ⟨_, rfl, h⟩
          · skip
            refine zw_iload_n (n := 56) d87_55 rfl rfl ?_
            refine zw_bipush (n := 58) d87_56 rfl zk_b_32 ?_
            refine zw_ic_ne (n := 61) d87_58 rfl (zite h (fun h => ?_) (fun h => ?_))
            · skip
              refine zw_iconst (n := 62) d87_61 rfl zk_i_4 ?_
              refine zw_goto d87_62 ?_
              exact zw_iret d87_66 rfl ⟨_, rfl, h⟩
            · skip
              refine zw_iconst (n := 66) d87_65 rfl zk_i_5 ?_
              exact zw_iret d87_66 rfl ⟨_, rfl, h⟩
        · skip
          refine zw_iload_n (n := 40) d87_39 rfl rfl ?_
          refine zw_bipush (n := 42) d87_40 rfl zk_b_57 ?_
          refine zw_ic_gt (n := 45) d87_42 rfl (zite h (fun h => ?_) (fun h => ?_))
          · skip
            refine zw_iload_n (n := 48) d87_47 rfl rfl ?_
            refine zw_bipush (n := 50) d87_48 rfl zk_b_59 ?_
            refine zw_ic_ne (n := 53) d87_50 rfl (zite h (fun h => ?_) (fun h => ?_))
            · skip
              refine zw_iconst (n := 54) d87_53 rfl zk_i_3 ?_
              exact zw_iret d87_54 rfl ⟨_, rfl, h⟩
            · skip
              refine zw_iload_n (n := 56) d87_55 rfl rfl ?_
              refine zw_bipush (n := 58) d87_56 rfl zk_b_32 ?_
              refine zw_ic_ne (n := 61) d87_58 rfl (zite h (fun h => ?_) (fun h => ?_))
              · skip
                refine zw_iconst (n := 62) d87_61 rfl zk_i_4 ?_
                refine zw_goto d87_62 ?_
                exact zw_iret d87_66 rfl ⟨_, rfl, h⟩
              · skip
                refine zw_iconst (n := 66) d87_65 rfl zk_i_5 ?_
                exact zw_iret d87_66 rfl ⟨_, rfl, h⟩
          · skip
            refine zw_iconst (n := 46) d87_45 rfl zk_i_2 ?_
            exact zw_iret d87_46 rfl ⟨_, rfl, h⟩
      · skip
        refine zw_iconst (n := 32) d87_31 rfl zk_i_1 ?_
        exact zw_iret d87_32 rfl ⟨_, rfl, h⟩
  · skip
    refine zw_iconst (n := 9) d87_8 rfl zk_i_0 ?_
    exact zw_iret d87_9 rfl ⟨_, rfl, h⟩

set_option maxRecDepth 20000 in
theorem zf88 (pc : Nat) : zt_code 88 pc = zt_fd zl_88 pc := rfl
theorem d88_0 : zt_code 88 0 = some (.aload_n 1, 0, 0, 0) := (zf88 0).trans rfl
theorem d88_1 : zt_code 88 1 = some (.ifnonnull (14), 0, 15, 0) := (zf88 1).trans rfl
theorem d88_15 : zt_code 88 15 = some (.aload_n 0, 0, 0, 0) := (zf88 15).trans rfl
theorem d88_16 : zt_code 88 16 = some (.ldc 56, 1, 0, 0) := (zf88 16).trans rfl
theorem d88_18 : zt_code 88 18 = some (.invokevirtual 58, 89, 2, 3) := (zf88 18).trans rfl
theorem d88_21 : zt_code 88 21 = some (.ifCond .eq (18), 0, 39, 0) := (zf88 21).trans rfl
theorem d88_24 : zt_code 88 24 = some (.aload_n 1, 0, 0, 0) := (zf88 24).trans rfl
theorem d88_25 : zt_code 88 25 = some (.getfield 62, 0, 1, 0) := (zf88 25).trans rfl
theorem d88_28 : zt_code 88 28 = some (.ifCond .ne (11), 0, 39, 0) := (zf88 28).trans rfl
theorem d88_31 : zt_code 88 31 = some (.aload_n 0, 0, 0, 0) := (zf88 31).trans rfl
theorem d88_32 : zt_code 88 32 = some (.aload_n 1, 0, 0, 0) := (zf88 32).trans rfl
theorem d88_33 : zt_code 88 33 = some (.invokevirtual 67, 101, 2, 3) := (zf88 33).trans rfl
theorem d88_36 : zt_code 88 36 = some (.goto (122), 0, 158, 0) := (zf88 36).trans rfl
theorem d88_39 : zt_code 88 39 = some (.aload_n 0, 0, 0, 0) := (zf88 39).trans rfl
theorem d88_40 : zt_code 88 40 = some (.ldc 70, 1, 1, 0) := (zf88 40).trans rfl
theorem d88_42 : zt_code 88 42 = some (.invokevirtual 58, 89, 2, 3) := (zf88 42).trans rfl
theorem d88_45 : zt_code 88 45 = some (.ifCond .eq (20), 0, 65, 0) := (zf88 45).trans rfl
theorem d88_48 : zt_code 88 48 = some (.aload_n 1, 0, 0, 0) := (zf88 48).trans rfl
theorem d88_49 : zt_code 88 49 = some (.getfield 62, 0, 1, 0) := (zf88 49).trans rfl
theorem d88_52 : zt_code 88 52 = some (.bipush (8), 0, 0, 0) := (zf88 52).trans rfl
theorem d88_54 : zt_code 88 54 = some (.if_icmp .ge (11), 0, 65, 0) := (zf88 54).trans rfl
theorem d88_57 : zt_code 88 57 = some (.aload_n 0, 0, 0, 0) := (zf88 57).trans rfl
theorem d88_58 : zt_code 88 58 = some (.aload_n 1, 0, 0, 0) := (zf88 58).trans rfl
theorem d88_59 : zt_code 88 59 = some (.invokevirtual 72, 103, 2, 3) := (zf88 59).trans rfl
theorem d88_62 : zt_code 88 62 = some (.goto (96), 0, 158, 0) := (zf88 62).trans rfl
theorem d88_65 : zt_code 88 65 = some (.aload_n 0, 0, 0, 0) := (zf88 65).trans rfl
theorem d88_66 : zt_code 88 66 = some (.ldc 75, 1, 2, 0) := (zf88 66).trans rfl
theorem d88_68 : zt_code 88 68 = some (.invokevirtual 58, 89, 2, 3) := (zf88 68).trans rfl
theorem d88_71 : zt_code 88 71 = some (.ifCond .eq (11), 0, 82, 0) := (zf88 71).trans rfl
theorem d88_74 : zt_code 88 74 = some (.aload_n 0, 0, 0, 0) := (zf88 74).trans rfl
theorem d88_75 : zt_code 88 75 = some (.aload_n 1, 0, 0, 0) := (zf88 75).trans rfl
theorem d88_76 : zt_code 88 76 = some (.invokevirtual 77, 104, 2, 3) := (zf88 76).trans rfl
theorem d88_79 : zt_code 88 79 = some (.goto (79), 0, 158, 0) := (zf88 79).trans rfl
theorem d88_82 : zt_code 88 82 = some (.aload_n 0, 0, 0, 0) := (zf88 82).trans rfl
theorem d88_83 : zt_code 88 83 = some (.ldc 80, 1, 3, 0) := (zf88 83).trans rfl
theorem d88_85 : zt_code 88 85 = some (.invokevirtual 58, 89, 2, 3) := (zf88 85).trans rfl
theorem d88_88 : zt_code 88 88 = some (.ifCond .eq (11), 0, 99, 0) := (zf88 88).trans rfl
theorem d88_91 : zt_code 88 91 = some (.aload_n 0, 0, 0, 0) := (zf88 91).trans rfl
theorem d88_92 : zt_code 88 92 = some (.aload_n 1, 0, 0, 0) := (zf88 92).trans rfl
theorem d88_93 : zt_code 88 93 = some (.invokevirtual 82, 105, 2, 3) := (zf88 93).trans rfl
theorem d88_96 : zt_code 88 96 = some (.goto (62), 0, 158, 0) := (zf88 96).trans rfl
theorem d88_99 : zt_code 88 99 = some (.aload_n 0, 0, 0, 0) := (zf88 99).trans rfl
theorem d88_100 : zt_code 88 100 = some (.ldc 85, 1, 4, 0) := (zf88 100).trans rfl
theorem d88_102 : zt_code 88 102 = some (.invokevirtual 58, 89, 2, 3) := (zf88 102).trans rfl
theorem d88_105 : zt_code 88 105 = some (.ifCond .eq (11), 0, 116, 0) := (zf88 105).trans rfl
theorem d88_108 : zt_code 88 108 = some (.aload_n 0, 0, 0, 0) := (zf88 108).trans rfl
theorem d88_109 : zt_code 88 109 = some (.aload_n 1, 0, 0, 0) := (zf88 109).trans rfl
theorem d88_110 : zt_code 88 110 = some (.invokevirtual 87, 106, 2, 3) := (zf88 110).trans rfl
theorem d88_113 : zt_code 88 113 = some (.goto (45), 0, 158, 0) := (zf88 113).trans rfl
theorem d88_116 : zt_code 88 116 = some (.aload_n 0, 0, 0, 0) := (zf88 116).trans rfl
theorem d88_117 : zt_code 88 117 = some (.ldc 90, 1, 5, 0) := (zf88 117).trans rfl
theorem d88_119 : zt_code 88 119 = some (.invokevirtual 58, 89, 2, 3) := (zf88 119).trans rfl
theorem d88_122 : zt_code 88 122 = some (.ifCond .eq (11), 0, 133, 0) := (zf88 122).trans rfl
theorem d88_125 : zt_code 88 125 = some (.aload_n 0, 0, 0, 0) := (zf88 125).trans rfl
theorem d88_126 : zt_code 88 126 = some (.aload_n 1, 0, 0, 0) := (zf88 126).trans rfl
theorem d88_127 : zt_code 88 127 = some (.invokevirtual 92, 107, 2, 3) := (zf88 127).trans rfl
theorem d88_130 : zt_code 88 130 = some (.goto (28), 0, 158, 0) := (zf88 130).trans rfl
theorem d88_133 : zt_code 88 133 = some (.aload_n 0, 0, 0, 0) := (zf88 133).trans rfl
theorem d88_134 : zt_code 88 134 = some (.ldc 95, 1, 6, 0) := (zf88 134).trans rfl
theorem d88_136 : zt_code 88 136 = some (.invokevirtual 58, 89, 2, 3) := (zf88 136).trans rfl
theorem d88_139 : zt_code 88 139 = some (.ifCond .eq (11), 0, 150, 0) := (zf88 139).trans rfl
theorem d88_142 : zt_code 88 142 = some (.aload_n 0, 0, 0, 0) := (zf88 142).trans rfl
theorem d88_143 : zt_code 88 143 = some (.aload_n 1, 0, 0, 0) := (zf88 143).trans rfl
theorem d88_144 : zt_code 88 144 = some (.invokevirtual 97, 108, 2, 3) := (zf88 144).trans rfl
theorem d88_147 : zt_code 88 147 = some (.goto (11), 0, 158, 0) := (zf88 147).trans rfl
theorem d88_150 : zt_code 88 150 = some (.aload_n 0, 0, 0, 0) := (zf88 150).trans rfl
theorem d88_151 : zt_code 88 151 = some (.aload_n 0, 0, 0, 0) := (zf88 151).trans rfl
theorem d88_152 : zt_code 88 152 = some (.getfield 35, 3, 4, 0) := (zf88 152).trans rfl
theorem d88_155 : zt_code 88 155 = some (.putfield 15, 3, 2, 0) := (zf88 155).trans rfl
theorem d88_158 : zt_code 88 158 = some (.return_, 0, 0, 0) := (zf88 158).trans rfl
/-- FirstAtTheFirst$Tape.readStatement(LFirstAtTheFirst$Estate;)V -/
theorem vc88 {X : zX} {S : zx_S} {C : zx_C} {q : zx_C → Prop} {e : Nat} {a1 : Nat} (hS : zs_3 S e) (h1 : zs_0 S a1) (h : zCd X 4 89 [.ref e, .ref (2000000 + 0)] S C (zQi (fun r1 C1 => if (r1 : Int32) = 0 then (zCd X 4 89 [.ref e, .ref (2000000 + 1)] S C1 (zQi (fun r2 C2 => if (r2 : Int32) = 0 then (zCd X 4 89 [.ref e, .ref (2000000 + 2)] S C2 (zQi (fun r3 C3 => if (r3 : Int32) = 0 then (zCd X 4 89 [.ref e, .ref (2000000 + 3)] S C3 (zQi (fun r4 C4 => if (r4 : Int32) = 0 then (zCd X 4 89 [.ref e, .ref (2000000 + 4)] S C4 (zQi (fun r5 C5 => if (r5 : Int32) = 0 then (zCd X 4 89 [.ref e, .ref (2000000 + 5)] S C5 (zQi (fun r6 C6 => if (r6 : Int32) = 0 then (zCd X 4 89 [.ref e, .ref (2000000 + 6)] S C6 (zQi (fun r7 C7 => if (r7 : Int32) = 0 then (q (zp C7 e 2 (C7.1 e 4))) else (zCd X 4 108 [.ref e, .ref a1] S C7 (zQv (fun C8 => q C8)))))) else (zCd X 4 107 [.ref e, .ref a1] S C6 (zQv (fun C9 => q C9)))))) else (zCd X 4 106 [.ref e, .ref a1] S C5 (zQv (fun C10 => q C10)))))) else (zCd X 4 105 [.ref e, .ref a1] S C4 (zQv (fun C11 => q C11)))))) else (zCd X 4 104 [.ref e, .ref a1] S C3 (zQv (fun C12 => q C12)))))) else (if ((C2.1 a1 1) : Int32) < 8 then (zCd X 4 103 [.ref e, .ref a1] S C2 (zQv (fun C13 => q C13))) else (zCd X 4 89 [.ref e, .ref (2000000 + 2)] S C2 (zQi (fun r14 C14 => if (r14 : Int32) = 0 then (zCd X 4 89 [.ref e, .ref (2000000 + 3)] S C14 (zQi (fun r15 C15 => if (r15 : Int32) = 0 then (zCd X 4 89 [.ref e, .ref (2000000 + 4)] S C15 (zQi (fun r16 C16 => if (r16 : Int32) = 0 then (zCd X 4 89 [.ref e, .ref (2000000 + 5)] S C16 (zQi (fun r17 C17 => if (r17 : Int32) = 0 then (zCd X 4 89 [.ref e, .ref (2000000 + 6)] S C17 (zQi (fun r18 C18 => if (r18 : Int32) = 0 then (q (zp C18 e 2 (C18.1 e 4))) else (zCd X 4 108 [.ref e, .ref a1] S C18 (zQv (fun C19 => q C19)))))) else (zCd X 4 107 [.ref e, .ref a1] S C17 (zQv (fun C20 => q C20)))))) else (zCd X 4 106 [.ref e, .ref a1] S C16 (zQv (fun C21 => q C21)))))) else (zCd X 4 105 [.ref e, .ref a1] S C15 (zQv (fun C22 => q C22)))))) else (zCd X 4 104 [.ref e, .ref a1] S C14 (zQv (fun C23 => q C23)))))))))) else (if ((C1.1 a1 1) : Int32) = 0 then (zCd X 4 101 [.ref e, .ref a1] S C1 (zQv (fun C24 => q C24))) else (zCd X 4 89 [.ref e, .ref (2000000 + 1)] S C1 (zQi (fun r25 C25 => if (r25 : Int32) = 0 then (zCd X 4 89 [.ref e, .ref (2000000 + 2)] S C25 (zQi (fun r26 C26 => if (r26 : Int32) = 0 then (zCd X 4 89 [.ref e, .ref (2000000 + 3)] S C26 (zQi (fun r27 C27 => if (r27 : Int32) = 0 then (zCd X 4 89 [.ref e, .ref (2000000 + 4)] S C27 (zQi (fun r28 C28 => if (r28 : Int32) = 0 then (zCd X 4 89 [.ref e, .ref (2000000 + 5)] S C28 (zQi (fun r29 C29 => if (r29 : Int32) = 0 then (zCd X 4 89 [.ref e, .ref (2000000 + 6)] S C29 (zQi (fun r30 C30 => if (r30 : Int32) = 0 then (q (zp C30 e 2 (C30.1 e 4))) else (zCd X 4 108 [.ref e, .ref a1] S C30 (zQv (fun C31 => q C31)))))) else (zCd X 4 107 [.ref e, .ref a1] S C29 (zQv (fun C32 => q C32)))))) else (zCd X 4 106 [.ref e, .ref a1] S C28 (zQv (fun C33 => q C33)))))) else (zCd X 4 105 [.ref e, .ref a1] S C27 (zQv (fun C34 => q C34)))))) else (zCd X 4 104 [.ref e, .ref a1] S C26 (zQv (fun C35 => q C35)))))) else (if ((C25.1 a1 1) : Int32) < 8 then (zCd X 4 103 [.ref e, .ref a1] S C25 (zQv (fun C36 => q C36))) else (zCd X 4 89 [.ref e, .ref (2000000 + 2)] S C25 (zQi (fun r37 C37 => if (r37 : Int32) = 0 then (zCd X 4 89 [.ref e, .ref (2000000 + 3)] S C37 (zQi (fun r38 C38 => if (r38 : Int32) = 0 then (zCd X 4 89 [.ref e, .ref (2000000 + 4)] S C38 (zQi (fun r39 C39 => if (r39 : Int32) = 0 then (zCd X 4 89 [.ref e, .ref (2000000 + 5)] S C39 (zQi (fun r40 C40 => if (r40 : Int32) = 0 then (zCd X 4 89 [.ref e, .ref (2000000 + 6)] S C40 (zQi (fun r41 C41 => if (r41 : Int32) = 0 then (q (zp C41 e 2 (C41.1 e 4))) else (zCd X 4 108 [.ref e, .ref a1] S C41 (zQv (fun C42 => q C42)))))) else (zCd X 4 107 [.ref e, .ref a1] S C40 (zQv (fun C43 => q C43)))))) else (zCd X 4 106 [.ref e, .ref a1] S C39 (zQv (fun C44 => q C44)))))) else (zCd X 4 105 [.ref e, .ref a1] S C38 (zQv (fun C45 => q C45)))))) else (zCd X 4 104 [.ref e, .ref a1] S C37 (zQv (fun C46 => q C46)))))))))))))) : zCd X 5 88 [.ref e, .ref a1] S C (zQv q) := by
  refine zc_in ml_88 rfl ?_
  refine zw_aload_n (n := 1) d88_0 rfl rfl ?_
  refine zw_ifnonnull d88_1 ?_
  refine zw_aload_n (n := 16) d88_15 rfl rfl ?_
  refine zw_ldcs (n := 18) d88_16 rfl ?_
  refine zw_cI (n := 21) d88_18 (zs_V rfl rfl rfl rfl (by decide) (zj_3 hS).1 (zq_3 hS)) (by rw [ml_89]; rfl) (by decide) rfl (zc_mI h (fun r1 C1 h => ?_))
  refine zw_if_eq (n := 24) d88_21 rfl (zite h (fun h => ?_) (fun h => ?_))
  · skip
    refine zw_aload_n (n := 40) d88_39 rfl rfl ?_
    refine zw_ldcs (n := 42) d88_40 rfl ?_
    refine zw_cI (n := 45) d88_42 (zs_V rfl rfl rfl rfl (by decide) (zj_3 hS).1 (zq_3 hS)) (by rw [ml_89]; rfl) (by decide) rfl (zc_mI h (fun r2 C2 h => ?_))
    refine zw_if_eq (n := 48) d88_45 rfl (zite h (fun h => ?_) (fun h => ?_))
    · skip
      refine zw_aload_n (n := 66) d88_65 rfl rfl ?_
      refine zw_ldcs (n := 68) d88_66 rfl ?_
      refine zw_cI (n := 71) d88_68 (zs_V rfl rfl rfl rfl (by decide) (zj_3 hS).1 (zq_3 hS)) (by rw [ml_89]; rfl) (by decide) rfl (zc_mI h (fun r3 C3 h => ?_))
      refine zw_if_eq (n := 74) d88_71 rfl (zite h (fun h => ?_) (fun h => ?_))
      · skip
        refine zw_aload_n (n := 83) d88_82 rfl rfl ?_
        refine zw_ldcs (n := 85) d88_83 rfl ?_
        refine zw_cI (n := 88) d88_85 (zs_V rfl rfl rfl rfl (by decide) (zj_3 hS).1 (zq_3 hS)) (by rw [ml_89]; rfl) (by decide) rfl (zc_mI h (fun r4 C4 h => ?_))
        refine zw_if_eq (n := 91) d88_88 rfl (zite h (fun h => ?_) (fun h => ?_))
        · skip
          refine zw_aload_n (n := 100) d88_99 rfl rfl ?_
          refine zw_ldcs (n := 102) d88_100 rfl ?_
          refine zw_cI (n := 105) d88_102 (zs_V rfl rfl rfl rfl (by decide) (zj_3 hS).1 (zq_3 hS)) (by rw [ml_89]; rfl) (by decide) rfl (zc_mI h (fun r5 C5 h => ?_))
          refine zw_if_eq (n := 108) d88_105 rfl (zite h (fun h => ?_) (fun h => ?_))
          · skip
            refine zw_aload_n (n := 117) d88_116 rfl rfl ?_
            refine zw_ldcs (n := 119) d88_117 rfl ?_
            refine zw_cI (n := 122) d88_119 (zs_V rfl rfl rfl rfl (by decide) (zj_3 hS).1 (zq_3 hS)) (by rw [ml_89]; rfl) (by decide) rfl (zc_mI h (fun r6 C6 h => ?_))
            refine zw_if_eq (n := 125) d88_122 rfl (zite h (fun h => ?_) (fun h => ?_))
            · skip
              refine zw_aload_n (n := 134) d88_133 rfl rfl ?_
              refine zw_ldcs (n := 136) d88_134 rfl ?_
              refine zw_cI (n := 139) d88_136 (zs_V rfl rfl rfl rfl (by decide) (zj_3 hS).1 (zq_3 hS)) (by rw [ml_89]; rfl) (by decide) rfl (zc_mI h (fun r7 C7 h => ?_))
              refine zw_if_eq (n := 142) d88_139 rfl (zite h (fun h => ?_) (fun h => ?_))
              · skip
                refine zw_aload_n (n := 151) d88_150 rfl rfl ?_
                refine zw_aload_n (n := 152) d88_151 rfl rfl ?_
                refine zw_geti (n := 155) d88_152 rfl (zj_3 hS).1 (zj_3 hS).2 ?_
                refine zw_puti (n := 158) d88_155 rfl (zj_3 hS).1 (zj_3 hS).2 ?_
                exact zw_ret d88_158 ⟨rfl, h⟩
              · skip
                refine zw_aload_n (n := 143) d88_142 rfl rfl ?_
                refine zw_aload_n (n := 144) d88_143 rfl rfl ?_
                refine zw_cV (n := 147) d88_144 (zs_V rfl rfl rfl rfl (by decide) (zj_3 hS).1 (zq_3 hS)) (by rw [ml_108]; rfl) (by decide) rfl (zc_mV h (fun C8 h => ?_))
                refine zw_goto d88_147 ?_
                exact zw_ret d88_158 ⟨rfl, h⟩
            · skip
              refine zw_aload_n (n := 126) d88_125 rfl rfl ?_
              refine zw_aload_n (n := 127) d88_126 rfl rfl ?_
              refine zw_cV (n := 130) d88_127 (zs_V rfl rfl rfl rfl (by decide) (zj_3 hS).1 (zq_3 hS)) (by rw [ml_107]; rfl) (by decide) rfl (zc_mV h (fun C9 h => ?_))
              refine zw_goto d88_130 ?_
              exact zw_ret d88_158 ⟨rfl, h⟩
          · skip
            refine zw_aload_n (n := 109) d88_108 rfl rfl ?_
            refine zw_aload_n (n := 110) d88_109 rfl rfl ?_
            refine zw_cV (n := 113) d88_110 (zs_V rfl rfl rfl rfl (by decide) (zj_3 hS).1 (zq_3 hS)) (by rw [ml_106]; rfl) (by decide) rfl (zc_mV h (fun C10 h => ?_))
            refine zw_goto d88_113 ?_
            exact zw_ret d88_158 ⟨rfl, h⟩
        · skip
          refine zw_aload_n (n := 92) d88_91 rfl rfl ?_
          refine zw_aload_n (n := 93) d88_92 rfl rfl ?_
          refine zw_cV (n := 96) d88_93 (zs_V rfl rfl rfl rfl (by decide) (zj_3 hS).1 (zq_3 hS)) (by rw [ml_105]; rfl) (by decide) rfl (zc_mV h (fun C11 h => ?_))
          refine zw_goto d88_96 ?_
          exact zw_ret d88_158 ⟨rfl, h⟩
      · skip
        refine zw_aload_n (n := 75) d88_74 rfl rfl ?_
        refine zw_aload_n (n := 76) d88_75 rfl rfl ?_
        refine zw_cV (n := 79) d88_76 (zs_V rfl rfl rfl rfl (by decide) (zj_3 hS).1 (zq_3 hS)) (by rw [ml_104]; rfl) (by decide) rfl (zc_mV h (fun C12 h => ?_))
        refine zw_goto d88_79 ?_
        exact zw_ret d88_158 ⟨rfl, h⟩
    · skip
      refine zw_aload_n (n := 49) d88_48 rfl rfl ?_
      refine zw_geti (n := 52) d88_49 rfl (zj_0 h1).1 (zj_0 h1).2 ?_
      refine zw_bipush (n := 54) d88_52 rfl zk_b_8 ?_
      refine zw_ic_ge (n := 57) d88_54 rfl (zite h (fun h => ?_) (fun h => ?_))
      · skip
        refine zw_aload_n (n := 58) d88_57 rfl rfl ?_
        refine zw_aload_n (n := 59) d88_58 rfl rfl ?_
        refine zw_cV (n := 62) d88_59 (zs_V rfl rfl rfl rfl (by decide) (zj_3 hS).1 (zq_3 hS)) (by rw [ml_103]; rfl) (by decide) rfl (zc_mV h (fun C13 h => ?_))
        refine zw_goto d88_62 ?_
        exact zw_ret d88_158 ⟨rfl, h⟩
      · skip
        refine zw_aload_n (n := 66) d88_65 rfl rfl ?_
        refine zw_ldcs (n := 68) d88_66 rfl ?_
        refine zw_cI (n := 71) d88_68 (zs_V rfl rfl rfl rfl (by decide) (zj_3 hS).1 (zq_3 hS)) (by rw [ml_89]; rfl) (by decide) rfl (zc_mI h (fun r14 C14 h => ?_))
        refine zw_if_eq (n := 74) d88_71 rfl (zite h (fun h => ?_) (fun h => ?_))
        · skip
          refine zw_aload_n (n := 83) d88_82 rfl rfl ?_
          refine zw_ldcs (n := 85) d88_83 rfl ?_
          refine zw_cI (n := 88) d88_85 (zs_V rfl rfl rfl rfl (by decide) (zj_3 hS).1 (zq_3 hS)) (by rw [ml_89]; rfl) (by decide) rfl (zc_mI h (fun r15 C15 h => ?_))
          refine zw_if_eq (n := 91) d88_88 rfl (zite h (fun h => ?_) (fun h => ?_))
          · skip
            refine zw_aload_n (n := 100) d88_99 rfl rfl ?_
            refine zw_ldcs (n := 102) d88_100 rfl ?_
            refine zw_cI (n := 105) d88_102 (zs_V rfl rfl rfl rfl (by decide) (zj_3 hS).1 (zq_3 hS)) (by rw [ml_89]; rfl) (by decide) rfl (zc_mI h (fun r16 C16 h => ?_))
            refine zw_if_eq (n := 108) d88_105 rfl (zite h (fun h => ?_) (fun h => ?_))
            · skip
              refine zw_aload_n (n := 117) d88_116 rfl rfl ?_
              refine zw_ldcs (n := 119) d88_117 rfl ?_
              refine zw_cI (n := 122) d88_119 (zs_V rfl rfl rfl rfl (by decide) (zj_3 hS).1 (zq_3 hS)) (by rw [ml_89]; rfl) (by decide) rfl (zc_mI h (fun r17 C17 h => ?_))
              refine zw_if_eq (n := 125) d88_122 rfl (zite h (fun h => ?_) (fun h => ?_))
              · skip
                refine zw_aload_n (n := 134) d88_133 rfl rfl ?_
                refine zw_ldcs (n := 136) d88_134 rfl ?_
                refine zw_cI (n := 139) d88_136 (zs_V rfl rfl rfl rfl (by decide) (zj_3 hS).1 (zq_3 hS)) (by rw [ml_89]; rfl) (by decide) rfl (zc_mI h (fun r18 C18 h => ?_))
                refine zw_if_eq (n := 142) d88_139 rfl (zite h (fun h => ?_) (fun h => ?_))
                · skip
                  refine zw_aload_n (n := 151) d88_150 rfl rfl ?_
                  refine zw_aload_n (n := 152) d88_151 rfl rfl ?_
                  refine zw_geti (n := 155) d88_152 rfl (zj_3 hS).1 (zj_3 hS).2 ?_
                  refine zw_puti (n := 158) d88_155 rfl (zj_3 hS).1 (zj_3 hS).2 ?_
                  exact zw_ret d88_158 ⟨rfl, h⟩
                · skip
                  refine zw_aload_n (n := 143) d88_142 rfl rfl ?_
                  refine zw_aload_n (n := 144) d88_143 rfl rfl ?_
                  refine zw_cV (n := 147) d88_144 (zs_V rfl rfl rfl rfl (by decide) (zj_3 hS).1 (zq_3 hS)) (by rw [ml_108]; rfl) (by decide) rfl (zc_mV h (fun C19 h => ?_))
                  refine zw_goto d88_147 ?_
                  exact zw_ret d88_158 ⟨rfl, h⟩
              · skip
                refine zw_aload_n (n := 126) d88_125 rfl rfl ?_
                refine zw_aload_n (n := 127) d88_126 rfl rfl ?_
                refine zw_cV (n := 130) d88_127 (zs_V rfl rfl rfl rfl (by decide) (zj_3 hS).1 (zq_3 hS)) (by rw [ml_107]; rfl) (by decide) rfl (zc_mV h (fun C20 h => ?_))
                refine zw_goto d88_130 ?_
                exact zw_ret d88_158 ⟨rfl, h⟩
            · skip
              refine zw_aload_n (n := 109) d88_108 rfl rfl ?_
              refine zw_aload_n (n := 110) d88_109 rfl rfl ?_
              refine zw_cV (n := 113) d88_110 (zs_V rfl rfl rfl rfl (by decide) (zj_3 hS).1 (zq_3 hS)) (by rw [ml_106]; rfl) (by decide) rfl (zc_mV h (fun C21 h => ?_))
              refine zw_goto d88_113 ?_
              exact zw_ret d88_158 ⟨rfl, h⟩
          · skip
            refine zw_aload_n (n := 92) d88_91 rfl rfl ?_
            refine zw_aload_n (n := 93) d88_92 rfl rfl ?_
            refine zw_cV (n := 96) d88_93 (zs_V rfl rfl rfl rfl (by decide) (zj_3 hS).1 (zq_3 hS)) (by rw [ml_105]; rfl) (by decide) rfl (zc_mV h (fun C22 h => ?_))
            refine zw_goto d88_96 ?_
            exact zw_ret d88_158 ⟨rfl, h⟩
        · skip
          refine zw_aload_n (n := 75) d88_74 rfl rfl ?_
          refine zw_aload_n (n := 76) d88_75 rfl rfl ?_
          refine zw_cV (n := 79) d88_76 (zs_V rfl rfl rfl rfl (by decide) (zj_3 hS).1 (zq_3 hS)) (by rw [ml_104]; rfl) (by decide) rfl (zc_mV h (fun C23 h => ?_))
          refine zw_goto d88_79 ?_
          exact zw_ret d88_158 ⟨rfl, h⟩
  · skip
    refine zw_aload_n (n := 25) d88_24 rfl rfl ?_
    refine zw_geti (n := 28) d88_25 rfl (zj_0 h1).1 (zj_0 h1).2 ?_
    refine zw_if_ne (n := 31) d88_28 rfl (zite h (fun h => ?_) (fun h => ?_))
    · skip
      refine zw_aload_n (n := 32) d88_31 rfl rfl ?_
      refine zw_aload_n (n := 33) d88_32 rfl rfl ?_
      refine zw_cV (n := 36) d88_33 (zs_V rfl rfl rfl rfl (by decide) (zj_3 hS).1 (zq_3 hS)) (by rw [ml_101]; rfl) (by decide) rfl (zc_mV h (fun C24 h => ?_))
      refine zw_goto d88_36 ?_
      exact zw_ret d88_158 ⟨rfl, h⟩
    · skip
      refine zw_aload_n (n := 40) d88_39 rfl rfl ?_
      refine zw_ldcs (n := 42) d88_40 rfl ?_
      refine zw_cI (n := 45) d88_42 (zs_V rfl rfl rfl rfl (by decide) (zj_3 hS).1 (zq_3 hS)) (by rw [ml_89]; rfl) (by decide) rfl (zc_mI h (fun r25 C25 h => ?_))
      refine zw_if_eq (n := 48) d88_45 rfl (zite h (fun h => ?_) (fun h => ?_))
      · skip
        refine zw_aload_n (n := 66) d88_65 rfl rfl ?_
        refine zw_ldcs (n := 68) d88_66 rfl ?_
        refine zw_cI (n := 71) d88_68 (zs_V rfl rfl rfl rfl (by decide) (zj_3 hS).1 (zq_3 hS)) (by rw [ml_89]; rfl) (by decide) rfl (zc_mI h (fun r26 C26 h => ?_))
        refine zw_if_eq (n := 74) d88_71 rfl (zite h (fun h => ?_) (fun h => ?_))
        · skip
          refine zw_aload_n (n := 83) d88_82 rfl rfl ?_
          refine zw_ldcs (n := 85) d88_83 rfl ?_
          refine zw_cI (n := 88) d88_85 (zs_V rfl rfl rfl rfl (by decide) (zj_3 hS).1 (zq_3 hS)) (by rw [ml_89]; rfl) (by decide) rfl (zc_mI h (fun r27 C27 h => ?_))
          refine zw_if_eq (n := 91) d88_88 rfl (zite h (fun h => ?_) (fun h => ?_))
          · skip
            refine zw_aload_n (n := 100) d88_99 rfl rfl ?_
            refine zw_ldcs (n := 102) d88_100 rfl ?_
            refine zw_cI (n := 105) d88_102 (zs_V rfl rfl rfl rfl (by decide) (zj_3 hS).1 (zq_3 hS)) (by rw [ml_89]; rfl) (by decide) rfl (zc_mI h (fun r28 C28 h => ?_))
            refine zw_if_eq (n := 108) d88_105 rfl (zite h (fun h => ?_) (fun h => ?_))
            · skip
              refine zw_aload_n (n := 117) d88_116 rfl rfl ?_
              refine zw_ldcs (n := 119) d88_117 rfl ?_
              refine zw_cI (n := 122) d88_119 (zs_V rfl rfl rfl rfl (by decide) (zj_3 hS).1 (zq_3 hS)) (by rw [ml_89]; rfl) (by decide) rfl (zc_mI h (fun r29 C29 h => ?_))
              refine zw_if_eq (n := 125) d88_122 rfl (zite h (fun h => ?_) (fun h => ?_))
              · skip
                refine zw_aload_n (n := 134) d88_133 rfl rfl ?_
                refine zw_ldcs (n := 136) d88_134 rfl ?_
                refine zw_cI (n := 139) d88_136 (zs_V rfl rfl rfl rfl (by decide) (zj_3 hS).1 (zq_3 hS)) (by rw [ml_89]; rfl) (by decide) rfl (zc_mI h (fun r30 C30 h => ?_))
                refine zw_if_eq (n := 142) d88_139 rfl (zite h (fun h => ?_) (fun h => ?_))
                · skip
                  refine zw_aload_n (n := 151) d88_150 rfl rfl ?_
                  refine zw_aload_n (n := 152) d88_151 rfl rfl ?_
                  refine zw_geti (n := 155) d88_152 rfl (zj_3 hS).1 (zj_3 hS).2 ?_
                  refine zw_puti (n := 158) d88_155 rfl (zj_3 hS).1 (zj_3 hS).2 ?_
                  exact zw_ret d88_158 ⟨rfl, h⟩
                · skip
                  refine zw_aload_n (n := 143) d88_142 rfl rfl ?_
                  refine zw_aload_n (n := 144) d88_143 rfl rfl ?_
                  refine zw_cV (n := 147) d88_144 (zs_V rfl rfl rfl rfl (by decide) (zj_3 hS).1 (zq_3 hS)) (by rw [ml_108]; rfl) (by decide) rfl (zc_mV h (fun C31 h => ?_))
                  refine zw_goto d88_147 ?_
                  exact zw_ret d88_158 ⟨rfl, h⟩
              · skip
                refine zw_aload_n (n := 126) d88_125 rfl rfl ?_
                refine zw_aload_n (n := 127) d88_126 rfl rfl ?_
                refine zw_cV (n := 130) d88_127 (zs_V rfl rfl rfl rfl (by decide) (zj_3 hS).1 (zq_3 hS)) (by rw [ml_107]; rfl) (by decide) rfl (zc_mV h (fun C32 h => ?_))
                refine zw_goto d88_130 ?_
                exact zw_ret d88_158 ⟨rfl, h⟩
            · skip
              refine zw_aload_n (n := 109) d88_108 rfl rfl ?_
              refine zw_aload_n (n := 110) d88_109 rfl rfl ?_
              refine zw_cV (n := 113) d88_110 (zs_V rfl rfl rfl rfl (by decide) (zj_3 hS).1 (zq_3 hS)) (by rw [ml_106]; rfl) (by decide) rfl (zc_mV h (fun C33 h => ?_))
              refine zw_goto d88_113 ?_
              exact zw_ret d88_158 ⟨rfl, h⟩
          · skip
            refine zw_aload_n (n := 92) d88_91 rfl rfl ?_
            refine zw_aload_n (n := 93) d88_92 rfl rfl ?_
            refine zw_cV (n := 96) d88_93 (zs_V rfl rfl rfl rfl (by decide) (zj_3 hS).1 (zq_3 hS)) (by rw [ml_105]; rfl) (by decide) rfl (zc_mV h (fun C34 h => ?_))
            refine zw_goto d88_96 ?_
            exact zw_ret d88_158 ⟨rfl, h⟩
        · skip
          refine zw_aload_n (n := 75) d88_74 rfl rfl ?_
          refine zw_aload_n (n := 76) d88_75 rfl rfl ?_
          refine zw_cV (n := 79) d88_76 (zs_V rfl rfl rfl rfl (by decide) (zj_3 hS).1 (zq_3 hS)) (by rw [ml_104]; rfl) (by decide) rfl (zc_mV h (fun C35 h => ?_))
          refine zw_goto d88_79 ?_
          exact zw_ret d88_158 ⟨rfl, h⟩
      · skip
        refine zw_aload_n (n := 49) d88_48 rfl rfl ?_
        refine zw_geti (n := 52) d88_49 rfl (zj_0 h1).1 (zj_0 h1).2 ?_
        refine zw_bipush (n := 54) d88_52 rfl zk_b_8 ?_
        refine zw_ic_ge (n := 57) d88_54 rfl (zite h (fun h => ?_) (fun h => ?_))
        · skip
          refine zw_aload_n (n := 58) d88_57 rfl rfl ?_
          refine zw_aload_n (n := 59) d88_58 rfl rfl ?_
          refine zw_cV (n := 62) d88_59 (zs_V rfl rfl rfl rfl (by decide) (zj_3 hS).1 (zq_3 hS)) (by rw [ml_103]; rfl) (by decide) rfl (zc_mV h (fun C36 h => ?_))
          refine zw_goto d88_62 ?_
          exact zw_ret d88_158 ⟨rfl, h⟩
        · skip
          refine zw_aload_n (n := 66) d88_65 rfl rfl ?_
          refine zw_ldcs (n := 68) d88_66 rfl ?_
          refine zw_cI (n := 71) d88_68 (zs_V rfl rfl rfl rfl (by decide) (zj_3 hS).1 (zq_3 hS)) (by rw [ml_89]; rfl) (by decide) rfl (zc_mI h (fun r37 C37 h => ?_))
          refine zw_if_eq (n := 74) d88_71 rfl (zite h (fun h => ?_) (fun h => ?_))
          · skip
            refine zw_aload_n (n := 83) d88_82 rfl rfl ?_
            refine zw_ldcs (n := 85) d88_83 rfl ?_
            refine zw_cI (n := 88) d88_85 (zs_V rfl rfl rfl rfl (by decide) (zj_3 hS).1 (zq_3 hS)) (by rw [ml_89]; rfl) (by decide) rfl (zc_mI h (fun r38 C38 h => ?_))
            refine zw_if_eq (n := 91) d88_88 rfl (zite h (fun h => ?_) (fun h => ?_))
            · skip
              refine zw_aload_n (n := 100) d88_99 rfl rfl ?_
              refine zw_ldcs (n := 102) d88_100 rfl ?_
              refine zw_cI (n := 105) d88_102 (zs_V rfl rfl rfl rfl (by decide) (zj_3 hS).1 (zq_3 hS)) (by rw [ml_89]; rfl) (by decide) rfl (zc_mI h (fun r39 C39 h => ?_))
              refine zw_if_eq (n := 108) d88_105 rfl (zite h (fun h => ?_) (fun h => ?_))
              · skip
                refine zw_aload_n (n := 117) d88_116 rfl rfl ?_
                refine zw_ldcs (n := 119) d88_117 rfl ?_
                refine zw_cI (n := 122) d88_119 (zs_V rfl rfl rfl rfl (by decide) (zj_3 hS).1 (zq_3 hS)) (by rw [ml_89]; rfl) (by decide) rfl (zc_mI h (fun r40 C40 h => ?_))
                refine zw_if_eq (n := 125) d88_122 rfl (zite h (fun h => ?_) (fun h => ?_))
                · skip
                  refine zw_aload_n (n := 134) d88_133 rfl rfl ?_
                  refine zw_ldcs (n := 136) d88_134 rfl ?_
                  refine zw_cI (n := 139) d88_136 (zs_V rfl rfl rfl rfl (by decide) (zj_3 hS).1 (zq_3 hS)) (by rw [ml_89]; rfl) (by decide) rfl (zc_mI h (fun r41 C41 h => ?_))
                  refine zw_if_eq (n := 142) d88_139 rfl (zite h (fun h => ?_) (fun h => ?_))
                  · skip
                    refine zw_aload_n (n := 151) d88_150 rfl rfl ?_
                    refine zw_aload_n (n := 152) d88_151 rfl rfl ?_
                    refine zw_geti (n := 155) d88_152 rfl (zj_3 hS).1 (zj_3 hS).2 ?_
                    refine zw_puti (n := 158) d88_155 rfl (zj_3 hS).1 (zj_3 hS).2 ?_
                    exact zw_ret d88_158 ⟨rfl, h⟩
                  · skip
                    refine zw_aload_n (n := 143) d88_142 rfl rfl ?_
                    refine zw_aload_n (n := 144) d88_143 rfl rfl ?_
                    refine zw_cV (n := 147) d88_144 (zs_V rfl rfl rfl rfl (by decide) (zj_3 hS).1 (zq_3 hS)) (by rw [ml_108]; rfl) (by decide) rfl (zc_mV h (fun C42 h => ?_))
                    refine zw_goto d88_147 ?_
                    exact zw_ret d88_158 ⟨rfl, h⟩
                · skip
                  refine zw_aload_n (n := 126) d88_125 rfl rfl ?_
                  refine zw_aload_n (n := 127) d88_126 rfl rfl ?_
                  refine zw_cV (n := 130) d88_127 (zs_V rfl rfl rfl rfl (by decide) (zj_3 hS).1 (zq_3 hS)) (by rw [ml_107]; rfl) (by decide) rfl (zc_mV h (fun C43 h => ?_))
                  refine zw_goto d88_130 ?_
                  exact zw_ret d88_158 ⟨rfl, h⟩
              · skip
                refine zw_aload_n (n := 109) d88_108 rfl rfl ?_
                refine zw_aload_n (n := 110) d88_109 rfl rfl ?_
                refine zw_cV (n := 113) d88_110 (zs_V rfl rfl rfl rfl (by decide) (zj_3 hS).1 (zq_3 hS)) (by rw [ml_106]; rfl) (by decide) rfl (zc_mV h (fun C44 h => ?_))
                refine zw_goto d88_113 ?_
                exact zw_ret d88_158 ⟨rfl, h⟩
            · skip
              refine zw_aload_n (n := 92) d88_91 rfl rfl ?_
              refine zw_aload_n (n := 93) d88_92 rfl rfl ?_
              refine zw_cV (n := 96) d88_93 (zs_V rfl rfl rfl rfl (by decide) (zj_3 hS).1 (zq_3 hS)) (by rw [ml_105]; rfl) (by decide) rfl (zc_mV h (fun C45 h => ?_))
              refine zw_goto d88_96 ?_
              exact zw_ret d88_158 ⟨rfl, h⟩
          · skip
            refine zw_aload_n (n := 75) d88_74 rfl rfl ?_
            refine zw_aload_n (n := 76) d88_75 rfl rfl ?_
            refine zw_cV (n := 79) d88_76 (zs_V rfl rfl rfl rfl (by decide) (zj_3 hS).1 (zq_3 hS)) (by rw [ml_104]; rfl) (by decide) rfl (zc_mV h (fun C46 h => ?_))
            refine zw_goto d88_79 ?_
            exact zw_ret d88_158 ⟨rfl, h⟩

set_option maxRecDepth 20000 in
theorem zf89 (pc : Nat) : zt_code 89 pc = zt_fd zl_89 pc := rfl
theorem d89_0 : zt_code 89 0 = some (.aload_n 0, 0, 0, 0) := (zf89 0).trans rfl
theorem d89_1 : zt_code 89 1 = some (.getfield 32, 3, 3, 0) := (zf89 1).trans rfl
theorem d89_4 : zt_code 89 4 = some (.iconst (1), 0, 0, 0) := (zf89 4).trans rfl
theorem d89_5 : zt_code 89 5 = some (.if_icmp .ne (23), 0, 28, 0) := (zf89 5).trans rfl
theorem d89_8 : zt_code 89 8 = some (.aload_n 1, 0, 0, 0) := (zf89 8).trans rfl
theorem d89_9 : zt_code 89 9 = some (.ifnull (19), 0, 28, 0) := (zf89 9).trans rfl
theorem d89_12 : zt_code 89 12 = some (.aload_n 1, 0, 0, 0) := (zf89 12).trans rfl
theorem d89_13 : zt_code 89 13 = some (.invokevirtual 46, 90, 1, 6) := (zf89 13).trans rfl
theorem d89_16 : zt_code 89 16 = some (.aload_n 0, 0, 0, 0) := (zf89 16).trans rfl
theorem d89_17 : zt_code 89 17 = some (.getfield 19, 3, 5, 0) := (zf89 17).trans rfl
theorem d89_20 : zt_code 89 20 = some (.aload_n 0, 0, 0, 0) := (zf89 20).trans rfl
theorem d89_21 : zt_code 89 21 = some (.getfield 35, 3, 4, 0) := (zf89 21).trans rfl
theorem d89_24 : zt_code 89 24 = some (.isub, 0, 0, 0) := (zf89 24).trans rfl
theorem d89_25 : zt_code 89 25 = some (.if_icmp .eq (5), 0, 30, 0) := (zf89 25).trans rfl
theorem d89_28 : zt_code 89 28 = some (.iconst (0), 0, 0, 0) := (zf89 28).trans rfl
theorem d89_29 : zt_code 89 29 = some (.ireturn, 1, 0, 0) := (zf89 29).trans rfl
theorem d89_30 : zt_code 89 30 = some (.iconst (0), 0, 0, 0) := (zf89 30).trans rfl
theorem d89_31 : zt_code 89 31 = some (.istore_n 2, 0, 0, 0) := (zf89 31).trans rfl
theorem d89_32 : zt_code 89 32 = some (.iload_n 2, 0, 0, 0) := (zf89 32).trans rfl
theorem d89_33 : zt_code 89 33 = some (.aload_n 1, 0, 0, 0) := (zf89 33).trans rfl
theorem d89_34 : zt_code 89 34 = some (.invokevirtual 46, 90, 1, 6) := (zf89 34).trans rfl
theorem d89_37 : zt_code 89 37 = some (.if_icmp .ge (32), 0, 69, 0) := (zf89 37).trans rfl
theorem d89_40 : zt_code 89 40 = some (.aload_n 1, 0, 0, 0) := (zf89 40).trans rfl
theorem d89_41 : zt_code 89 41 = some (.iload_n 2, 0, 0, 0) := (zf89 41).trans rfl
theorem d89_42 : zt_code 89 42 = some (.invokevirtual 52, 92, 2, 6) := (zf89 42).trans rfl
theorem d89_45 : zt_code 89 45 = some (.aload_n 0, 0, 0, 0) := (zf89 45).trans rfl
theorem d89_46 : zt_code 89 46 = some (.getfield 9, 3, 0, 1) := (zf89 46).trans rfl
theorem d89_49 : zt_code 89 49 = some (.aload_n 0, 0, 0, 0) := (zf89 49).trans rfl
theorem d89_50 : zt_code 89 50 = some (.getfield 35, 3, 4, 0) := (zf89 50).trans rfl
theorem d89_53 : zt_code 89 53 = some (.iload_n 2, 0, 0, 0) := (zf89 53).trans rfl
theorem d89_54 : zt_code 89 54 = some (.iadd, 0, 0, 0) := (zf89 54).trans rfl
theorem d89_55 : zt_code 89 55 = some (.invokestatic 38, 11, 2, -1) := (zf89 55).trans rfl
theorem d89_58 : zt_code 89 58 = some (.if_icmp .eq (5), 0, 63, 0) := (zf89 58).trans rfl
theorem d89_61 : zt_code 89 61 = some (.iconst (0), 0, 0, 0) := (zf89 61).trans rfl
theorem d89_62 : zt_code 89 62 = some (.ireturn, 1, 0, 0) := (zf89 62).trans rfl
theorem d89_63 : zt_code 89 63 = some (.iinc 2 (1), 0, 0, 0) := (zf89 63).trans rfl
theorem d89_66 : zt_code 89 66 = some (.goto (-34), 0, 32, 0) := (zf89 66).trans rfl
theorem d89_69 : zt_code 89 69 = some (.iconst (1), 0, 0, 0) := (zf89 69).trans rfl
theorem d89_70 : zt_code 89 70 = some (.ireturn, 1, 0, 0) := (zf89 70).trans rfl
/-- FirstAtTheFirst$Tape.isWord(Ljava/lang/String;)Z -/
theorem vc89 {X : zX} {S : zx_S} {C : zx_C} {q : Int32 → zx_C → Prop} {e : Nat} {a1 : Nat} (hS : zs_3 S e) (h1 : a1 < 7) (h : if ((C.1 e 3) : Int32) = 1 then (zCd X 1 90 [.ref (2000000 + a1)] S C (zQi (fun r1 C1 => if (r1 : Int32) = ((C1.1 e 5) - (C1.1 e 4)) then (zW X 4 89 32 [.ref e, .ref (2000000 + a1), .int 0] [] S C1 (zQi q)) else (q 0 C1)))) else (q 0 C)) : zCd X 4 89 [.ref e, .ref (2000000 + a1)] S C (zQi q) := by
  refine zc_in ml_89 rfl ?_
  refine zw_aload_n (n := 1) d89_0 rfl rfl ?_
  refine zw_geti (n := 4) d89_1 rfl (zj_3 hS).1 (zj_3 hS).2 ?_
  refine zw_iconst (n := 5) d89_4 rfl zk_i_1 ?_
  refine zw_ic_ne (n := 8) d89_5 rfl (zite h (fun h => ?_) (fun h => ?_))
  · skip
    refine zw_aload_n (n := 9) d89_8 rfl rfl ?_
    refine zw_ifnull (n := 12) d89_9 rfl ?_
    refine zw_aload_n (n := 13) d89_12 rfl rfl ?_
    refine zw_cI (n := 16) d89_13 (zs_T rfl rfl rfl rfl h1) (by rw [ml_90]; rfl) (by decide) rfl (zc_mI h (fun r1 C1 h => ?_))
    refine zw_aload_n (n := 17) d89_16 rfl rfl ?_
    refine zw_geti (n := 20) d89_17 rfl (zj_3 hS).1 (zj_3 hS).2 ?_
    refine zw_aload_n (n := 21) d89_20 rfl rfl ?_
    refine zw_geti (n := 24) d89_21 rfl (zj_3 hS).1 (zj_3 hS).2 ?_
    refine zw_isub (n := 25) d89_24 rfl ?_
    refine zw_ic_eq (n := 28) d89_25 rfl (zite h (fun h => ?_) (fun h => ?_))
    · skip
      refine zw_iconst (n := 31) d89_30 rfl zk_i_0 ?_
      refine zw_istore_n (n := 32) d89_31 rfl rfl rfl ?_
      exact h
    · skip
      refine zw_iconst (n := 29) d89_28 rfl zk_i_0 ?_
      exact zw_iret d89_29 rfl ⟨_, rfl, h⟩
  · skip
    refine zw_iconst (n := 29) d89_28 rfl zk_i_0 ?_
    exact zw_iret d89_29 rfl ⟨_, rfl, h⟩
theorem vc89_32 {X : zX} {S : zx_S} {C : zx_C} {q : Int32 → zx_C → Prop} {e : Nat} {a1 : Nat} {i2 : Int32} (hS : zs_3 S e) (h1 : a1 < 7) (h : zCd X 1 90 [.ref (2000000 + a1)] S C (zQi (fun r1 C1 => if (i2 : Int32) < r1 then (zCd X 3 92 [.ref (2000000 + a1), .int i2] S C1 (zQi (fun r2 C2 => zCd X 0 11 [.ref (e + 1), .int ((C2.1 e 4) + i2)] S C2 (zQi (fun r3 C3 => if (r2 : Int32) = r3 then (zW X 4 89 32 [.ref e, .ref (2000000 + a1), .int (i2 + 1)] [] S C3 (zQi q)) else (q 0 C3)))))) else (q 1 C1)))) : zW X 4 89 32 [.ref e, .ref (2000000 + a1), .int i2] [] S C (zQi q) := by
  refine zw_iload_n (n := 33) d89_32 rfl rfl ?_
  refine zw_aload_n (n := 34) d89_33 rfl rfl ?_
  refine zw_cI (n := 37) d89_34 (zs_T rfl rfl rfl rfl h1) (by rw [ml_90]; rfl) (by decide) rfl (zc_mI h (fun r1 C1 h => ?_))
  refine zw_ic_ge (n := 40) d89_37 rfl (zite h (fun h => ?_) (fun h => ?_))
  · skip
    refine zw_aload_n (n := 41) d89_40 rfl rfl ?_
    refine zw_iload_n (n := 42) d89_41 rfl rfl ?_
    refine zw_cI (n := 45) d89_42 (zs_T rfl rfl rfl rfl h1) (by rw [ml_92]; rfl) (by decide) rfl (zc_mI h (fun r2 C2 h => ?_))
    refine zw_aload_n (n := 46) d89_45 rfl rfl ?_
    refine zw_getr (n := 49) d89_46 rfl (zj_3 hS).1 (zj_3 hS).2 (zr_3_0 hS) ?_
    refine zw_aload_n (n := 50) d89_49 rfl rfl ?_
    refine zw_geti (n := 53) d89_50 rfl (zj_3 hS).1 (zj_3 hS).2 ?_
    refine zw_iload_n (n := 54) d89_53 rfl rfl ?_
    refine zw_iadd (n := 55) d89_54 rfl ?_
    refine zw_cI (n := 58) d89_55 (zs_S rfl rfl rfl rfl) (by rw [ml_11]; rfl) (by decide) rfl (zc_mI h (fun r3 C3 h => ?_))
    refine zw_ic_eq (n := 61) d89_58 rfl (zite h (fun h => ?_) (fun h => ?_))
    · skip
      refine zw_iinc (n := 66) d89_63 rfl rfl zk_i_1 rfl ?_
      refine zw_goto d89_66 ?_
      exact h
    · skip
      refine zw_iconst (n := 62) d89_61 rfl zk_i_0 ?_
      exact zw_iret d89_62 rfl ⟨_, rfl, h⟩
  · skip
    refine zw_iconst (n := 70) d89_69 rfl zk_i_1 ?_
    exact zw_iret d89_70 rfl ⟨_, rfl, h⟩

set_option maxRecDepth 20000 in
theorem zf101 (pc : Nat) : zt_code 101 pc = zt_fd zl_101 pc := rfl
theorem d101_0 : zt_code 101 0 = some (.aload_n 0, 0, 0, 0) := (zf101 0).trans rfl
theorem d101_1 : zt_code 101 1 = some (.invokevirtual 25, 86, 1, 3) := (zf101 1).trans rfl
theorem d101_4 : zt_code 101 4 = some (.aload_n 0, 0, 0, 0) := (zf101 4).trans rfl
theorem d101_5 : zt_code 101 5 = some (.iconst (2), 0, 0, 0) := (zf101 5).trans rfl
theorem d101_6 : zt_code 101 6 = some (.iconst (3), 0, 0, 0) := (zf101 6).trans rfl
theorem d101_7 : zt_code 101 7 = some (.invokevirtual 100, 102, 3, 3) := (zf101 7).trans rfl
theorem d101_10 : zt_code 101 10 = some (.istore_n 2, 0, 0, 0) := (zf101 10).trans rfl
theorem d101_11 : zt_code 101 11 = some (.aload_n 0, 0, 0, 0) := (zf101 11).trans rfl
theorem d101_12 : zt_code 101 12 = some (.getfield 15, 3, 2, 0) := (zf101 12).trans rfl
theorem d101_15 : zt_code 101 15 = some (.iconst (-1), 0, 0, 0) := (zf101 15).trans rfl
theorem d101_16 : zt_code 101 16 = some (.if_icmp .ne (8), 0, 24, 0) := (zf101 16).trans rfl
theorem d101_19 : zt_code 101 19 = some (.aload_n 1, 0, 0, 0) := (zf101 19).trans rfl
theorem d101_20 : zt_code 101 20 = some (.iload_n 2, 0, 0, 0) := (zf101 20).trans rfl
theorem d101_21 : zt_code 101 21 = some (.invokevirtual 104, 68, 2, 0) := (zf101 21).trans rfl
theorem d101_24 : zt_code 101 24 = some (.return_, 0, 0, 0) := (zf101 24).trans rfl
/-- FirstAtTheFirst$Tape.readSides(LFirstAtTheFirst$Estate;)V -/
theorem vc101 {X : zX} {S : zx_S} {C : zx_C} {q : zx_C → Prop} {e : Nat} {a1 : Nat} (hS : zs_3 S e) (h1 : zs_0 S a1) (h : zCd X 2 86 [.ref e] S C (zQv (fun C1 => zCd X 3 102 [.ref e, .int 2, .int 3] S C1 (zQi (fun r2 C2 => if ((C2.1 e 2) : Int32) = (-1) then (zCd X 1 68 [.ref a1, .int r2] S C2 (zQv (fun C3 => q C3))) else (q C2)))))) : zCd X 4 101 [.ref e, .ref a1] S C (zQv q) := by
  refine zc_in ml_101 rfl ?_
  refine zw_aload_n (n := 1) d101_0 rfl rfl ?_
  refine zw_cV (n := 4) d101_1 (zs_V rfl rfl rfl rfl (by decide) (zj_3 hS).1 (zq_3 hS)) (by rw [ml_86]; rfl) (by decide) rfl (zc_mV h (fun C1 h => ?_))
  refine zw_aload_n (n := 5) d101_4 rfl rfl ?_
  refine zw_iconst (n := 6) d101_5 rfl zk_i_2 ?_
  refine zw_iconst (n := 7) d101_6 rfl zk_i_3 ?_
  refine zw_cI (n := 10) d101_7 (zs_V rfl rfl rfl rfl (by decide) (zj_3 hS).1 (zq_3 hS)) (by rw [ml_102]; rfl) (by decide) rfl (zc_mI h (fun r2 C2 h => ?_))
  refine zw_istore_n (n := 11) d101_10 rfl rfl rfl ?_
  refine zw_aload_n (n := 12) d101_11 rfl rfl ?_
  refine zw_geti (n := 15) d101_12 rfl (zj_3 hS).1 (zj_3 hS).2 ?_
  refine zw_iconst (n := 16) d101_15 rfl zk_i_m1 ?_
  refine zw_ic_ne (n := 19) d101_16 rfl (zite h (fun h => ?_) (fun h => ?_))
  · skip
    refine zw_aload_n (n := 20) d101_19 rfl rfl ?_
    refine zw_iload_n (n := 21) d101_20 rfl rfl ?_
    refine zw_cV (n := 24) d101_21 (zs_V rfl rfl rfl rfl (by decide) (zj_0 h1).1 (zq_0 h1)) (by rw [ml_68]; rfl) (by decide) rfl (zc_mV h (fun C3 h => ?_))
    exact zw_ret d101_24 ⟨rfl, h⟩
  · skip
    exact zw_ret d101_24 ⟨rfl, h⟩

set_option maxRecDepth 20000 in
theorem zf102 (pc : Nat) : zt_code 102 pc = zt_fd zl_102 pc := rfl
theorem d102_0 : zt_code 102 0 = some (.aload_n 0, 0, 0, 0) := (zf102 0).trans rfl
theorem d102_1 : zt_code 102 1 = some (.getfield 15, 3, 2, 0) := (zf102 1).trans rfl
theorem d102_4 : zt_code 102 4 = some (.iconst (-1), 0, 0, 0) := (zf102 4).trans rfl
theorem d102_5 : zt_code 102 5 = some (.if_icmp .eq (5), 0, 10, 0) := (zf102 5).trans rfl
theorem d102_8 : zt_code 102 8 = some (.iconst (-1), 0, 0, 0) := (zf102 8).trans rfl
theorem d102_9 : zt_code 102 9 = some (.ireturn, 0, 0, 0) := (zf102 9).trans rfl
theorem d102_10 : zt_code 102 10 = some (.iconst (0), 0, 0, 0) := (zf102 10).trans rfl
theorem d102_11 : zt_code 102 11 = some (.istore_n 3, 0, 0, 0) := (zf102 11).trans rfl
theorem d102_12 : zt_code 102 12 = some (.aload_n 0, 0, 0, 0) := (zf102 12).trans rfl
theorem d102_13 : zt_code 102 13 = some (.getfield 32, 3, 3, 0) := (zf102 13).trans rfl
theorem d102_16 : zt_code 102 16 = some (.iconst (2), 0, 0, 0) := (zf102 16).trans rfl
theorem d102_17 : zt_code 102 17 = some (.if_icmp .ne (20), 0, 37, 0) := (zf102 17).trans rfl
theorem d102_20 : zt_code 102 20 = some (.aload_n 0, 0, 0, 0) := (zf102 20).trans rfl
theorem d102_21 : zt_code 102 21 = some (.getfield 19, 3, 5, 0) := (zf102 21).trans rfl
theorem d102_24 : zt_code 102 24 = some (.aload_n 0, 0, 0, 0) := (zf102 24).trans rfl
theorem d102_25 : zt_code 102 25 = some (.getfield 35, 3, 4, 0) := (zf102 25).trans rfl
theorem d102_28 : zt_code 102 28 = some (.isub, 0, 0, 0) := (zf102 28).trans rfl
theorem d102_29 : zt_code 102 29 = some (.iconst (4), 0, 0, 0) := (zf102 29).trans rfl
theorem d102_30 : zt_code 102 30 = some (.if_icmp .gt (7), 0, 37, 0) := (zf102 30).trans rfl
theorem d102_33 : zt_code 102 33 = some (.iconst (1), 0, 0, 0) := (zf102 33).trans rfl
theorem d102_34 : zt_code 102 34 = some (.goto (4), 0, 38, 0) := (zf102 34).trans rfl
theorem d102_37 : zt_code 102 37 = some (.iconst (0), 0, 0, 0) := (zf102 37).trans rfl
theorem d102_38 : zt_code 102 38 = some (.istore 4, 0, 0, 0) := (zf102 38).trans rfl
theorem d102_40 : zt_code 102 40 = some (.aload_n 0, 0, 0, 0) := (zf102 40).trans rfl
theorem d102_41 : zt_code 102 41 = some (.getfield 35, 3, 4, 0) := (zf102 41).trans rfl
theorem d102_44 : zt_code 102 44 = some (.istore 5, 0, 0, 0) := (zf102 44).trans rfl
theorem d102_46 : zt_code 102 46 = some (.iload 4, 0, 0, 0) := (zf102 46).trans rfl
theorem d102_48 : zt_code 102 48 = some (.ifCond .eq (36), 0, 84, 0) := (zf102 48).trans rfl
theorem d102_51 : zt_code 102 51 = some (.iload 5, 0, 0, 0) := (zf102 51).trans rfl
theorem d102_53 : zt_code 102 53 = some (.aload_n 0, 0, 0, 0) := (zf102 53).trans rfl
theorem d102_54 : zt_code 102 54 = some (.getfield 19, 3, 5, 0) := (zf102 54).trans rfl
theorem d102_57 : zt_code 102 57 = some (.if_icmp .ge (27), 0, 84, 0) := (zf102 57).trans rfl
theorem d102_60 : zt_code 102 60 = some (.bipush (10), 0, 0, 0) := (zf102 60).trans rfl
theorem d102_62 : zt_code 102 62 = some (.iload_n 3, 0, 0, 0) := (zf102 62).trans rfl
theorem d102_63 : zt_code 102 63 = some (.imul, 0, 0, 0) := (zf102 63).trans rfl
theorem d102_64 : zt_code 102 64 = some (.aload_n 0, 0, 0, 0) := (zf102 64).trans rfl
theorem d102_65 : zt_code 102 65 = some (.getfield 9, 3, 0, 1) := (zf102 65).trans rfl
theorem d102_68 : zt_code 102 68 = some (.iload 5, 0, 0, 0) := (zf102 68).trans rfl
theorem d102_70 : zt_code 102 70 = some (.invokestatic 38, 11, 2, -1) := (zf102 70).trans rfl
theorem d102_73 : zt_code 102 73 = some (.iadd, 0, 0, 0) := (zf102 73).trans rfl
theorem d102_74 : zt_code 102 74 = some (.bipush (48), 0, 0, 0) := (zf102 74).trans rfl
theorem d102_76 : zt_code 102 76 = some (.isub, 0, 0, 0) := (zf102 76).trans rfl
theorem d102_77 : zt_code 102 77 = some (.istore_n 3, 0, 0, 0) := (zf102 77).trans rfl
theorem d102_78 : zt_code 102 78 = some (.iinc 5 (1), 0, 0, 0) := (zf102 78).trans rfl
theorem d102_81 : zt_code 102 81 = some (.goto (-35), 0, 46, 0) := (zf102 81).trans rfl
theorem d102_84 : zt_code 102 84 = some (.iload 4, 0, 0, 0) := (zf102 84).trans rfl
theorem d102_86 : zt_code 102 86 = some (.ifCond .eq (13), 0, 99, 0) := (zf102 86).trans rfl
theorem d102_89 : zt_code 102 89 = some (.iload_n 3, 0, 0, 0) := (zf102 89).trans rfl
theorem d102_90 : zt_code 102 90 = some (.iload_n 1, 0, 0, 0) := (zf102 90).trans rfl
theorem d102_91 : zt_code 102 91 = some (.if_icmp .lt (8), 0, 99, 0) := (zf102 91).trans rfl
theorem d102_94 : zt_code 102 94 = some (.iload_n 3, 0, 0, 0) := (zf102 94).trans rfl
theorem d102_95 : zt_code 102 95 = some (.iload_n 2, 0, 0, 0) := (zf102 95).trans rfl
theorem d102_96 : zt_code 102 96 = some (.if_icmp .le (13), 0, 109, 0) := (zf102 96).trans rfl
theorem d102_99 : zt_code 102 99 = some (.aload_n 0, 0, 0, 0) := (zf102 99).trans rfl
theorem d102_100 : zt_code 102 100 = some (.aload_n 0, 0, 0, 0) := (zf102 100).trans rfl
theorem d102_101 : zt_code 102 101 = some (.getfield 35, 3, 4, 0) := (zf102 101).trans rfl
theorem d102_104 : zt_code 102 104 = some (.putfield 15, 3, 2, 0) := (zf102 104).trans rfl
theorem d102_107 : zt_code 102 107 = some (.iconst (-1), 0, 0, 0) := (zf102 107).trans rfl
theorem d102_108 : zt_code 102 108 = some (.ireturn, 0, 0, 0) := (zf102 108).trans rfl
theorem d102_109 : zt_code 102 109 = some (.aload_n 0, 0, 0, 0) := (zf102 109).trans rfl
theorem d102_110 : zt_code 102 110 = some (.invokevirtual 25, 86, 1, 3) := (zf102 110).trans rfl
theorem d102_113 : zt_code 102 113 = some (.iload_n 3, 0, 0, 0) := (zf102 113).trans rfl
theorem d102_114 : zt_code 102 114 = some (.ireturn, 0, 0, 0) := (zf102 114).trans rfl
/-- FirstAtTheFirst$Tape.readNumber(II)I -/
theorem vc102 {X : zX} {S : zx_S} {C : zx_C} {q : Int32 → zx_C → Prop} {e : Nat} {a1 : Int32} {a2 : Int32} (hS : zs_3 S e) (h : if ((C.1 e 2) : Int32) = (-1) then (if ((C.1 e 3) : Int32) = 2 then (if (4 : Int32) < ((C.1 e 5) - (C.1 e 4)) then (zW X 3 102 46 [.ref e, .int a1, .int a2, .int 0, .int 0, .int (C.1 e 4)] [] S C (zQi q)) else (zW X 3 102 46 [.ref e, .int a1, .int a2, .int 0, .int 1, .int (C.1 e 4)] [] S C (zQi q))) else (zW X 3 102 46 [.ref e, .int a1, .int a2, .int 0, .int 0, .int (C.1 e 4)] [] S C (zQi q))) else (q (-1) C)) : zCd X 3 102 [.ref e, .int a1, .int a2] S C (zQi q) := by
  refine zc_in ml_102 rfl ?_
  refine zw_aload_n (n := 1) d102_0 rfl rfl ?_
  refine zw_geti (n := 4) d102_1 rfl (zj_3 hS).1 (zj_3 hS).2 ?_
  refine zw_iconst (n := 5) d102_4 rfl zk_i_m1 ?_
  refine zw_ic_eq (n := 8) d102_5 rfl (zite h (fun h => ?_) (fun h => ?_))
  · skip
    refine zw_iconst (n := 11) d102_10 rfl zk_i_0 ?_
    refine zw_istore_n (n := 12) d102_11 rfl rfl rfl ?_
    refine zw_aload_n (n := 13) d102_12 rfl rfl ?_
    refine zw_geti (n := 16) d102_13 rfl (zj_3 hS).1 (zj_3 hS).2 ?_
    refine zw_iconst (n := 17) d102_16 rfl zk_i_2 ?_
    refine zw_ic_ne (n := 20) d102_17 rfl (zite h (fun h => ?_) (fun h => ?_))
    · skip
      refine zw_aload_n (n := 21) d102_20 rfl rfl ?_
      refine zw_geti (n := 24) d102_21 rfl (zj_3 hS).1 (zj_3 hS).2 ?_
      refine zw_aload_n (n := 25) d102_24 rfl rfl ?_
      refine zw_geti (n := 28) d102_25 rfl (zj_3 hS).1 (zj_3 hS).2 ?_
      refine zw_isub (n := 29) d102_28 rfl ?_
      refine zw_iconst (n := 30) d102_29 rfl zk_i_4 ?_
      refine zw_ic_gt (n := 33) d102_30 rfl (zite h (fun h => ?_) (fun h => ?_))
      · skip
        refine zw_iconst (n := 38) d102_37 rfl zk_i_0 ?_
        refine zw_istore (n := 40) d102_38 rfl rfl rfl ?_
        refine zw_aload_n (n := 41) d102_40 rfl rfl ?_
        refine zw_geti (n := 44) d102_41 rfl (zj_3 hS).1 (zj_3 hS).2 ?_
        refine zw_istore (n := 46) d102_44 rfl rfl rfl ?_
        exact h
      · skip
        refine zw_iconst (n := 34) d102_33 rfl zk_i_1 ?_
        refine zw_goto d102_34 ?_
        refine zw_istore (n := 40) d102_38 rfl rfl rfl ?_
        refine zw_aload_n (n := 41) d102_40 rfl rfl ?_
        refine zw_geti (n := 44) d102_41 rfl (zj_3 hS).1 (zj_3 hS).2 ?_
        refine zw_istore (n := 46) d102_44 rfl rfl rfl ?_
        exact h
    · skip
      refine zw_iconst (n := 38) d102_37 rfl zk_i_0 ?_
      refine zw_istore (n := 40) d102_38 rfl rfl rfl ?_
      refine zw_aload_n (n := 41) d102_40 rfl rfl ?_
      refine zw_geti (n := 44) d102_41 rfl (zj_3 hS).1 (zj_3 hS).2 ?_
      refine zw_istore (n := 46) d102_44 rfl rfl rfl ?_
      exact h
  · skip
    refine zw_iconst (n := 9) d102_8 rfl zk_i_m1 ?_
    exact zw_iret d102_9 rfl ⟨_, rfl, h⟩
theorem vc102_46 {X : zX} {S : zx_S} {C : zx_C} {q : Int32 → zx_C → Prop} {e : Nat} {a1 : Int32} {a2 : Int32} {i1 : Int32} {i2 : Int32} {i3 : Int32} {i4 : Int32} {i5 : Int32} (hS : zs_3 S e) (h : if (i4 : Int32) = 0 then (if (i4 : Int32) = 0 then (q (-1) (zp C e 2 (C.1 e 4))) else (if (i3 : Int32) < i1 then (q (-1) (zp C e 2 (C.1 e 4))) else (if (i2 : Int32) < i3 then (q (-1) (zp C e 2 (C.1 e 4))) else (zCd X 2 86 [.ref e] S C (zQv (fun C1 => q i3 C1)))))) else (if (i5 : Int32) < (C.1 e 5) then (zCd X 0 11 [.ref (e + 1), .int i5] S C (zQi (fun r2 C2 => zW X 3 102 46 [.ref e, .int i1, .int i2, .int (((10 * i3) + r2) - 48), .int i4, .int (i5 + 1)] [] S C2 (zQi q)))) else (if (i4 : Int32) = 0 then (q (-1) (zp C e 2 (C.1 e 4))) else (if (i3 : Int32) < i1 then (q (-1) (zp C e 2 (C.1 e 4))) else (if (i2 : Int32) < i3 then (q (-1) (zp C e 2 (C.1 e 4))) else (zCd X 2 86 [.ref e] S C (zQv (fun C3 => q i3 C3)))))))) : zW X 3 102 46 [.ref e, .int i1, .int i2, .int i3, .int i4, .int i5] [] S C (zQi q) := by
  refine zw_iload (n := 48) d102_46 rfl rfl ?_
  refine zw_if_eq (n := 51) d102_48 rfl (zite h (fun h => ?_) (fun h => ?_))
  · skip
    refine zw_iload (n := 86) d102_84 rfl rfl ?_
    refine zw_if_eq (n := 89) d102_86 rfl (zite h (fun h => ?_) (fun h => ?_))
    · skip
      refine zw_aload_n (n := 100) d102_99 rfl rfl ?_
      refine zw_aload_n (n := 101) d102_100 rfl rfl ?_
      refine zw_geti (n := 104) d102_101 rfl (zj_3 hS).1 (zj_3 hS).2 ?_
      refine zw_puti (n := 107) d102_104 rfl (zj_3 hS).1 (zj_3 hS).2 ?_
      refine zw_iconst (n := 108) d102_107 rfl zk_i_m1 ?_
      exact zw_iret d102_108 rfl ⟨_, rfl, h⟩
    · skip
      refine zw_iload_n (n := 90) d102_89 rfl rfl ?_
      refine zw_iload_n (n := 91) d102_90 rfl rfl ?_
      refine zw_ic_lt (n := 94) d102_91 rfl (zite h (fun h => ?_) (fun h => ?_))
      · skip
        refine zw_aload_n (n := 100) d102_99 rfl rfl ?_
        refine zw_aload_n (n := 101) d102_100 rfl rfl ?_
        refine zw_geti (n := 104) d102_101 rfl (zj_3 hS).1 (zj_3 hS).2 ?_
        refine zw_puti (n := 107) d102_104 rfl (zj_3 hS).1 (zj_3 hS).2 ?_
        refine zw_iconst (n := 108) d102_107 rfl zk_i_m1 ?_
        exact zw_iret d102_108 rfl ⟨_, rfl, h⟩
      · skip
        refine zw_iload_n (n := 95) d102_94 rfl rfl ?_
        refine zw_iload_n (n := 96) d102_95 rfl rfl ?_
        refine zw_ic_le (n := 99) d102_96 rfl (zite h (fun h => ?_) (fun h => ?_))
        · skip
          refine zw_aload_n (n := 100) d102_99 rfl rfl ?_
          refine zw_aload_n (n := 101) d102_100 rfl rfl ?_
          refine zw_geti (n := 104) d102_101 rfl (zj_3 hS).1 (zj_3 hS).2 ?_
          refine zw_puti (n := 107) d102_104 rfl (zj_3 hS).1 (zj_3 hS).2 ?_
          refine zw_iconst (n := 108) d102_107 rfl zk_i_m1 ?_
          exact zw_iret d102_108 rfl ⟨_, rfl, h⟩
        · skip
          refine zw_aload_n (n := 110) d102_109 rfl rfl ?_
          refine zw_cV (n := 113) d102_110 (zs_V rfl rfl rfl rfl (by decide) (zj_3 hS).1 (zq_3 hS)) (by rw [ml_86]; rfl) (by decide) rfl (zc_mV h (fun C1 h => ?_))
          refine zw_iload_n (n := 114) d102_113 rfl rfl ?_
          exact zw_iret d102_114 rfl ⟨_, rfl, h⟩
  · skip
    refine zw_iload (n := 53) d102_51 rfl rfl ?_
    refine zw_aload_n (n := 54) d102_53 rfl rfl ?_
    refine zw_geti (n := 57) d102_54 rfl (zj_3 hS).1 (zj_3 hS).2 ?_
    refine zw_ic_ge (n := 60) d102_57 rfl (zite h (fun h => ?_) (fun h => ?_))
    · skip
      refine zw_bipush (n := 62) d102_60 rfl zk_b_10 ?_
      refine zw_iload_n (n := 63) d102_62 rfl rfl ?_
      refine zw_imul (n := 64) d102_63 rfl ?_
      refine zw_aload_n (n := 65) d102_64 rfl rfl ?_
      refine zw_getr (n := 68) d102_65 rfl (zj_3 hS).1 (zj_3 hS).2 (zr_3_0 hS) ?_
      refine zw_iload (n := 70) d102_68 rfl rfl ?_
      refine zw_cI (n := 73) d102_70 (zs_S rfl rfl rfl rfl) (by rw [ml_11]; rfl) (by decide) rfl (zc_mI h (fun r2 C2 h => ?_))
      refine zw_iadd (n := 74) d102_73 rfl ?_
      refine zw_bipush (n := 76) d102_74 rfl zk_b_48 ?_
      refine zw_isub (n := 77) d102_76 rfl ?_
      refine zw_istore_n (n := 78) d102_77 rfl rfl rfl ?_
      refine zw_iinc (n := 81) d102_78 rfl rfl zk_i_1 rfl ?_
      refine zw_goto d102_81 ?_
      exact h
    · skip
      refine zw_iload (n := 86) d102_84 rfl rfl ?_
      refine zw_if_eq (n := 89) d102_86 rfl (zite h (fun h => ?_) (fun h => ?_))
      · skip
        refine zw_aload_n (n := 100) d102_99 rfl rfl ?_
        refine zw_aload_n (n := 101) d102_100 rfl rfl ?_
        refine zw_geti (n := 104) d102_101 rfl (zj_3 hS).1 (zj_3 hS).2 ?_
        refine zw_puti (n := 107) d102_104 rfl (zj_3 hS).1 (zj_3 hS).2 ?_
        refine zw_iconst (n := 108) d102_107 rfl zk_i_m1 ?_
        exact zw_iret d102_108 rfl ⟨_, rfl, h⟩
      · skip
        refine zw_iload_n (n := 90) d102_89 rfl rfl ?_
        refine zw_iload_n (n := 91) d102_90 rfl rfl ?_
        refine zw_ic_lt (n := 94) d102_91 rfl (zite h (fun h => ?_) (fun h => ?_))
        · skip
          refine zw_aload_n (n := 100) d102_99 rfl rfl ?_
          refine zw_aload_n (n := 101) d102_100 rfl rfl ?_
          refine zw_geti (n := 104) d102_101 rfl (zj_3 hS).1 (zj_3 hS).2 ?_
          refine zw_puti (n := 107) d102_104 rfl (zj_3 hS).1 (zj_3 hS).2 ?_
          refine zw_iconst (n := 108) d102_107 rfl zk_i_m1 ?_
          exact zw_iret d102_108 rfl ⟨_, rfl, h⟩
        · skip
          refine zw_iload_n (n := 95) d102_94 rfl rfl ?_
          refine zw_iload_n (n := 96) d102_95 rfl rfl ?_
          refine zw_ic_le (n := 99) d102_96 rfl (zite h (fun h => ?_) (fun h => ?_))
          · skip
            refine zw_aload_n (n := 100) d102_99 rfl rfl ?_
            refine zw_aload_n (n := 101) d102_100 rfl rfl ?_
            refine zw_geti (n := 104) d102_101 rfl (zj_3 hS).1 (zj_3 hS).2 ?_
            refine zw_puti (n := 107) d102_104 rfl (zj_3 hS).1 (zj_3 hS).2 ?_
            refine zw_iconst (n := 108) d102_107 rfl zk_i_m1 ?_
            exact zw_iret d102_108 rfl ⟨_, rfl, h⟩
          · skip
            refine zw_aload_n (n := 110) d102_109 rfl rfl ?_
            refine zw_cV (n := 113) d102_110 (zs_V rfl rfl rfl rfl (by decide) (zj_3 hS).1 (zq_3 hS)) (by rw [ml_86]; rfl) (by decide) rfl (zc_mV h (fun C3 h => ?_))
            refine zw_iload_n (n := 114) d102_113 rfl rfl ?_
            exact zw_iret d102_114 rfl ⟨_, rfl, h⟩

set_option maxRecDepth 20000 in
theorem zf103 (pc : Nat) : zt_code 103 pc = zt_fd zl_103 pc := rfl
theorem d103_0 : zt_code 103 0 = some (.aload_n 0, 0, 0, 0) := (zf103 0).trans rfl
theorem d103_1 : zt_code 103 1 = some (.invokevirtual 25, 86, 1, 3) := (zf103 1).trans rfl
theorem d103_4 : zt_code 103 4 = some (.aload_n 0, 0, 0, 0) := (zf103 4).trans rfl
theorem d103_5 : zt_code 103 5 = some (.iconst (0), 0, 0, 0) := (zf103 5).trans rfl
theorem d103_6 : zt_code 103 6 = some (.bipush (99), 0, 0, 0) := (zf103 6).trans rfl
theorem d103_8 : zt_code 103 8 = some (.invokevirtual 100, 102, 3, 3) := (zf103 8).trans rfl
theorem d103_11 : zt_code 103 11 = some (.istore_n 2, 0, 0, 0) := (zf103 11).trans rfl
theorem d103_12 : zt_code 103 12 = some (.aload_n 0, 0, 0, 0) := (zf103 12).trans rfl
theorem d103_13 : zt_code 103 13 = some (.iconst (0), 0, 0, 0) := (zf103 13).trans rfl
theorem d103_14 : zt_code 103 14 = some (.bipush (99), 0, 0, 0) := (zf103 14).trans rfl
theorem d103_16 : zt_code 103 16 = some (.invokevirtual 100, 102, 3, 3) := (zf103 16).trans rfl
theorem d103_19 : zt_code 103 19 = some (.istore_n 3, 0, 0, 0) := (zf103 19).trans rfl
theorem d103_20 : zt_code 103 20 = some (.aload_n 1, 0, 0, 0) := (zf103 20).trans rfl
theorem d103_21 : zt_code 103 21 = some (.getfield 108, 0, 0, 0) := (zf103 21).trans rfl
theorem d103_24 : zt_code 103 24 = some (.iconst (2), 0, 0, 0) := (zf103 24).trans rfl
theorem d103_25 : zt_code 103 25 = some (.if_icmp .le (13), 0, 38, 0) := (zf103 25).trans rfl
theorem d103_28 : zt_code 103 28 = some (.aload_n 0, 0, 0, 0) := (zf103 28).trans rfl
theorem d103_29 : zt_code 103 29 = some (.iconst (0), 0, 0, 0) := (zf103 29).trans rfl
theorem d103_30 : zt_code 103 30 = some (.bipush (99), 0, 0, 0) := (zf103 30).trans rfl
theorem d103_32 : zt_code 103 32 = some (.invokevirtual 100, 102, 3, 3) := (zf103 32).trans rfl
theorem d103_35 : zt_code 103 35 = some (.goto (4), 0, 39, 0) := (zf103 35).trans rfl
theorem d103_38 : zt_code 103 38 = some (.iconst (0), 0, 0, 0) := (zf103 38).trans rfl
theorem d103_39 : zt_code 103 39 = some (.istore 4, 0, 0, 0) := (zf103 39).trans rfl
theorem d103_41 : zt_code 103 41 = some (.aload_n 0, 0, 0, 0) := (zf103 41).trans rfl
theorem d103_42 : zt_code 103 42 = some (.getfield 15, 3, 2, 0) := (zf103 42).trans rfl
theorem d103_45 : zt_code 103 45 = some (.iconst (-1), 0, 0, 0) := (zf103 45).trans rfl
theorem d103_46 : zt_code 103 46 = some (.if_icmp .ne (11), 0, 57, 0) := (zf103 46).trans rfl
theorem d103_49 : zt_code 103 49 = some (.aload_n 1, 0, 0, 0) := (zf103 49).trans rfl
theorem d103_50 : zt_code 103 50 = some (.iload_n 2, 0, 0, 0) := (zf103 50).trans rfl
theorem d103_51 : zt_code 103 51 = some (.iload_n 3, 0, 0, 0) := (zf103 51).trans rfl
theorem d103_52 : zt_code 103 52 = some (.iload 4, 0, 0, 0) := (zf103 52).trans rfl
theorem d103_54 : zt_code 103 54 = some (.invokevirtual 110, 71, 4, 0) := (zf103 54).trans rfl
theorem d103_57 : zt_code 103 57 = some (.return_, 0, 0, 0) := (zf103 57).trans rfl
/-- FirstAtTheFirst$Tape.readThing(LFirstAtTheFirst$Estate;)V -/
theorem vc103 {X : zX} {S : zx_S} {C : zx_C} {q : zx_C → Prop} {e : Nat} {a1 : Nat} (hS : zs_3 S e) (h1 : zs_0 S a1) (h : zCd X 2 86 [.ref e] S C (zQv (fun C1 => zCd X 3 102 [.ref e, .int 0, .int 99] S C1 (zQi (fun r2 C2 => zCd X 3 102 [.ref e, .int 0, .int 99] S C2 (zQi (fun r3 C3 => if (2 : Int32) < (C3.1 a1 0) then (zCd X 3 102 [.ref e, .int 0, .int 99] S C3 (zQi (fun r4 C4 => if ((C4.1 e 2) : Int32) = (-1) then (zCd X 1 71 [.ref a1, .int r2, .int r3, .int r4] S C4 (zQv (fun C5 => q C5))) else (q C4)))) else (if ((C3.1 e 2) : Int32) = (-1) then (zCd X 1 71 [.ref a1, .int r2, .int r3, .int 0] S C3 (zQv (fun C6 => q C6))) else (q C3))))))))) : zCd X 4 103 [.ref e, .ref a1] S C (zQv q) := by
  refine zc_in ml_103 rfl ?_
  refine zw_aload_n (n := 1) d103_0 rfl rfl ?_
  refine zw_cV (n := 4) d103_1 (zs_V rfl rfl rfl rfl (by decide) (zj_3 hS).1 (zq_3 hS)) (by rw [ml_86]; rfl) (by decide) rfl (zc_mV h (fun C1 h => ?_))
  refine zw_aload_n (n := 5) d103_4 rfl rfl ?_
  refine zw_iconst (n := 6) d103_5 rfl zk_i_0 ?_
  refine zw_bipush (n := 8) d103_6 rfl zk_b_99 ?_
  refine zw_cI (n := 11) d103_8 (zs_V rfl rfl rfl rfl (by decide) (zj_3 hS).1 (zq_3 hS)) (by rw [ml_102]; rfl) (by decide) rfl (zc_mI h (fun r2 C2 h => ?_))
  refine zw_istore_n (n := 12) d103_11 rfl rfl rfl ?_
  refine zw_aload_n (n := 13) d103_12 rfl rfl ?_
  refine zw_iconst (n := 14) d103_13 rfl zk_i_0 ?_
  refine zw_bipush (n := 16) d103_14 rfl zk_b_99 ?_
  refine zw_cI (n := 19) d103_16 (zs_V rfl rfl rfl rfl (by decide) (zj_3 hS).1 (zq_3 hS)) (by rw [ml_102]; rfl) (by decide) rfl (zc_mI h (fun r3 C3 h => ?_))
  refine zw_istore_n (n := 20) d103_19 rfl rfl rfl ?_
  refine zw_aload_n (n := 21) d103_20 rfl rfl ?_
  refine zw_geti (n := 24) d103_21 rfl (zj_0 h1).1 (zj_0 h1).2 ?_
  refine zw_iconst (n := 25) d103_24 rfl zk_i_2 ?_
  refine zw_ic_le (n := 28) d103_25 rfl (zite h (fun h => ?_) (fun h => ?_))
  · skip
    refine zw_aload_n (n := 29) d103_28 rfl rfl ?_
    refine zw_iconst (n := 30) d103_29 rfl zk_i_0 ?_
    refine zw_bipush (n := 32) d103_30 rfl zk_b_99 ?_
    refine zw_cI (n := 35) d103_32 (zs_V rfl rfl rfl rfl (by decide) (zj_3 hS).1 (zq_3 hS)) (by rw [ml_102]; rfl) (by decide) rfl (zc_mI h (fun r4 C4 h => ?_))
    refine zw_goto d103_35 ?_
    refine zw_istore (n := 41) d103_39 rfl rfl rfl ?_
    refine zw_aload_n (n := 42) d103_41 rfl rfl ?_
    refine zw_geti (n := 45) d103_42 rfl (zj_3 hS).1 (zj_3 hS).2 ?_
    refine zw_iconst (n := 46) d103_45 rfl zk_i_m1 ?_
    refine zw_ic_ne (n := 49) d103_46 rfl (zite h (fun h => ?_) (fun h => ?_))
    · skip
      refine zw_aload_n (n := 50) d103_49 rfl rfl ?_
      refine zw_iload_n (n := 51) d103_50 rfl rfl ?_
      refine zw_iload_n (n := 52) d103_51 rfl rfl ?_
      refine zw_iload (n := 54) d103_52 rfl rfl ?_
      refine zw_cV (n := 57) d103_54 (zs_V rfl rfl rfl rfl (by decide) (zj_0 h1).1 (zq_0 h1)) (by rw [ml_71]; rfl) (by decide) rfl (zc_mV h (fun C5 h => ?_))
      exact zw_ret d103_57 ⟨rfl, h⟩
    · skip
      exact zw_ret d103_57 ⟨rfl, h⟩
  · skip
    refine zw_iconst (n := 39) d103_38 rfl zk_i_0 ?_
    refine zw_istore (n := 41) d103_39 rfl rfl rfl ?_
    refine zw_aload_n (n := 42) d103_41 rfl rfl ?_
    refine zw_geti (n := 45) d103_42 rfl (zj_3 hS).1 (zj_3 hS).2 ?_
    refine zw_iconst (n := 46) d103_45 rfl zk_i_m1 ?_
    refine zw_ic_ne (n := 49) d103_46 rfl (zite h (fun h => ?_) (fun h => ?_))
    · skip
      refine zw_aload_n (n := 50) d103_49 rfl rfl ?_
      refine zw_iload_n (n := 51) d103_50 rfl rfl ?_
      refine zw_iload_n (n := 52) d103_51 rfl rfl ?_
      refine zw_iload (n := 54) d103_52 rfl rfl ?_
      refine zw_cV (n := 57) d103_54 (zs_V rfl rfl rfl rfl (by decide) (zj_0 h1).1 (zq_0 h1)) (by rw [ml_71]; rfl) (by decide) rfl (zc_mV h (fun C6 h => ?_))
      exact zw_ret d103_57 ⟨rfl, h⟩
    · skip
      exact zw_ret d103_57 ⟨rfl, h⟩

set_option maxRecDepth 20000 in
theorem zf104 (pc : Nat) : zt_code 104 pc = zt_fd zl_104 pc := rfl
theorem d104_0 : zt_code 104 0 = some (.aload_n 0, 0, 0, 0) := (zf104 0).trans rfl
theorem d104_1 : zt_code 104 1 = some (.invokevirtual 25, 86, 1, 3) := (zf104 1).trans rfl
theorem d104_4 : zt_code 104 4 = some (.aload_n 0, 0, 0, 0) := (zf104 4).trans rfl
theorem d104_5 : zt_code 104 5 = some (.iconst (0), 0, 0, 0) := (zf104 5).trans rfl
theorem d104_6 : zt_code 104 6 = some (.iconst (3), 0, 0, 0) := (zf104 6).trans rfl
theorem d104_7 : zt_code 104 7 = some (.invokevirtual 100, 102, 3, 3) := (zf104 7).trans rfl
theorem d104_10 : zt_code 104 10 = some (.istore_n 2, 0, 0, 0) := (zf104 10).trans rfl
theorem d104_11 : zt_code 104 11 = some (.aload_n 0, 0, 0, 0) := (zf104 11).trans rfl
theorem d104_12 : zt_code 104 12 = some (.getfield 15, 3, 2, 0) := (zf104 12).trans rfl
theorem d104_15 : zt_code 104 15 = some (.iconst (-1), 0, 0, 0) := (zf104 15).trans rfl
theorem d104_16 : zt_code 104 16 = some (.if_icmp .ne (8), 0, 24, 0) := (zf104 16).trans rfl
theorem d104_19 : zt_code 104 19 = some (.aload_n 1, 0, 0, 0) := (zf104 19).trans rfl
theorem d104_20 : zt_code 104 20 = some (.iload_n 2, 0, 0, 0) := (zf104 20).trans rfl
theorem d104_21 : zt_code 104 21 = some (.putfield 114, 0, 2, 0) := (zf104 21).trans rfl
theorem d104_24 : zt_code 104 24 = some (.return_, 0, 0, 0) := (zf104 24).trans rfl
/-- FirstAtTheFirst$Tape.readLaw(LFirstAtTheFirst$Estate;)V -/
theorem vc104 {X : zX} {S : zx_S} {C : zx_C} {q : zx_C → Prop} {e : Nat} {a1 : Nat} (hS : zs_3 S e) (h1 : zs_0 S a1) (h : zCd X 2 86 [.ref e] S C (zQv (fun C1 => zCd X 3 102 [.ref e, .int 0, .int 3] S C1 (zQi (fun r2 C2 => if ((C2.1 e 2) : Int32) = (-1) then (q (zp C2 a1 2 r2)) else (q C2)))))) : zCd X 4 104 [.ref e, .ref a1] S C (zQv q) := by
  refine zc_in ml_104 rfl ?_
  refine zw_aload_n (n := 1) d104_0 rfl rfl ?_
  refine zw_cV (n := 4) d104_1 (zs_V rfl rfl rfl rfl (by decide) (zj_3 hS).1 (zq_3 hS)) (by rw [ml_86]; rfl) (by decide) rfl (zc_mV h (fun C1 h => ?_))
  refine zw_aload_n (n := 5) d104_4 rfl rfl ?_
  refine zw_iconst (n := 6) d104_5 rfl zk_i_0 ?_
  refine zw_iconst (n := 7) d104_6 rfl zk_i_3 ?_
  refine zw_cI (n := 10) d104_7 (zs_V rfl rfl rfl rfl (by decide) (zj_3 hS).1 (zq_3 hS)) (by rw [ml_102]; rfl) (by decide) rfl (zc_mI h (fun r2 C2 h => ?_))
  refine zw_istore_n (n := 11) d104_10 rfl rfl rfl ?_
  refine zw_aload_n (n := 12) d104_11 rfl rfl ?_
  refine zw_geti (n := 15) d104_12 rfl (zj_3 hS).1 (zj_3 hS).2 ?_
  refine zw_iconst (n := 16) d104_15 rfl zk_i_m1 ?_
  refine zw_ic_ne (n := 19) d104_16 rfl (zite h (fun h => ?_) (fun h => ?_))
  · skip
    refine zw_aload_n (n := 20) d104_19 rfl rfl ?_
    refine zw_iload_n (n := 21) d104_20 rfl rfl ?_
    refine zw_puti (n := 24) d104_21 rfl (zj_0 h1).1 (zj_0 h1).2 ?_
    exact zw_ret d104_24 ⟨rfl, h⟩
  · skip
    exact zw_ret d104_24 ⟨rfl, h⟩

set_option maxRecDepth 20000 in
theorem zf105 (pc : Nat) : zt_code 105 pc = zt_fd zl_105 pc := rfl
theorem d105_0 : zt_code 105 0 = some (.aload_n 0, 0, 0, 0) := (zf105 0).trans rfl
theorem d105_1 : zt_code 105 1 = some (.invokevirtual 25, 86, 1, 3) := (zf105 1).trans rfl
theorem d105_4 : zt_code 105 4 = some (.iconst (1), 0, 0, 0) := (zf105 4).trans rfl
theorem d105_5 : zt_code 105 5 = some (.istore_n 2, 0, 0, 0) := (zf105 5).trans rfl
theorem d105_6 : zt_code 105 6 = some (.iconst (0), 0, 0, 0) := (zf105 6).trans rfl
theorem d105_7 : zt_code 105 7 = some (.istore_n 3, 0, 0, 0) := (zf105 7).trans rfl
theorem d105_8 : zt_code 105 8 = some (.iload_n 3, 0, 0, 0) := (zf105 8).trans rfl
theorem d105_9 : zt_code 105 9 = some (.bipush (12), 0, 0, 0) := (zf105 9).trans rfl
theorem d105_11 : zt_code 105 11 = some (.if_icmp .ge (61), 0, 72, 0) := (zf105 11).trans rfl
theorem d105_14 : zt_code 105 14 = some (.iload_n 2, 0, 0, 0) := (zf105 14).trans rfl
theorem d105_15 : zt_code 105 15 = some (.ifCond .eq (57), 0, 72, 0) := (zf105 15).trans rfl
theorem d105_18 : zt_code 105 18 = some (.aload_n 1, 0, 0, 0) := (zf105 18).trans rfl
theorem d105_19 : zt_code 105 19 = some (.getfield 116, 0, 6, 1) := (zf105 19).trans rfl
theorem d105_22 : zt_code 105 22 = some (.iload_n 3, 0, 0, 0) := (zf105 22).trans rfl
theorem d105_23 : zt_code 105 23 = some (.aload_n 0, 0, 0, 0) := (zf105 23).trans rfl
theorem d105_24 : zt_code 105 24 = some (.iconst (0), 0, 0, 0) := (zf105 24).trans rfl
theorem d105_25 : zt_code 105 25 = some (.aload_n 1, 0, 0, 0) := (zf105 25).trans rfl
theorem d105_26 : zt_code 105 26 = some (.getfield 108, 0, 0, 0) := (zf105 26).trans rfl
theorem d105_29 : zt_code 105 29 = some (.iconst (1), 0, 0, 0) := (zf105 29).trans rfl
theorem d105_30 : zt_code 105 30 = some (.isub, 0, 0, 0) := (zf105 30).trans rfl
theorem d105_31 : zt_code 105 31 = some (.invokevirtual 100, 102, 3, 3) := (zf105 31).trans rfl
theorem d105_34 : zt_code 105 34 = some (.invokestatic 118, 12, 3, -1) := (zf105 34).trans rfl
theorem d105_37 : zt_code 105 37 = some (.aload_n 1, 0, 0, 0) := (zf105 37).trans rfl
theorem d105_38 : zt_code 105 38 = some (.iload_n 3, 0, 0, 0) := (zf105 38).trans rfl
theorem d105_39 : zt_code 105 39 = some (.iconst (1), 0, 0, 0) := (zf105 39).trans rfl
theorem d105_40 : zt_code 105 40 = some (.iadd, 0, 0, 0) := (zf105 40).trans rfl
theorem d105_41 : zt_code 105 41 = some (.putfield 122, 0, 5, 0) := (zf105 41).trans rfl
theorem d105_44 : zt_code 105 44 = some (.aload_n 0, 0, 0, 0) := (zf105 44).trans rfl
theorem d105_45 : zt_code 105 45 = some (.getfield 15, 3, 2, 0) := (zf105 45).trans rfl
theorem d105_48 : zt_code 105 48 = some (.iconst (-1), 0, 0, 0) := (zf105 48).trans rfl
theorem d105_49 : zt_code 105 49 = some (.if_icmp .ne (15), 0, 64, 0) := (zf105 49).trans rfl
theorem d105_52 : zt_code 105 52 = some (.aload_n 0, 0, 0, 0) := (zf105 52).trans rfl
theorem d105_53 : zt_code 105 53 = some (.getfield 32, 3, 3, 0) := (zf105 53).trans rfl
theorem d105_56 : zt_code 105 56 = some (.iconst (2), 0, 0, 0) := (zf105 56).trans rfl
theorem d105_57 : zt_code 105 57 = some (.if_icmp .ne (7), 0, 64, 0) := (zf105 57).trans rfl
theorem d105_60 : zt_code 105 60 = some (.iconst (1), 0, 0, 0) := (zf105 60).trans rfl
theorem d105_61 : zt_code 105 61 = some (.goto (4), 0, 65, 0) := (zf105 61).trans rfl
theorem d105_64 : zt_code 105 64 = some (.iconst (0), 0, 0, 0) := (zf105 64).trans rfl
theorem d105_65 : zt_code 105 65 = some (.istore_n 2, 0, 0, 0) := (zf105 65).trans rfl
theorem d105_66 : zt_code 105 66 = some (.iinc 3 (1), 0, 0, 0) := (zf105 66).trans rfl
theorem d105_69 : zt_code 105 69 = some (.goto (-61), 0, 8, 0) := (zf105 69).trans rfl
theorem d105_72 : zt_code 105 72 = some (.return_, 0, 0, 0) := (zf105 72).trans rfl
/-- FirstAtTheFirst$Tape.readOrder(LFirstAtTheFirst$Estate;)V -/
theorem vc105 {X : zX} {S : zx_S} {C : zx_C} {q : zx_C → Prop} {e : Nat} {a1 : Nat} (hS : zs_3 S e) (h1 : zs_0 S a1) (h : zCd X 2 86 [.ref e] S C (zQv (fun C1 => zW X 4 105 8 [.ref e, .ref a1, .int 1, .int 0] [] S C1 (zQv q)))) : zCd X 4 105 [.ref e, .ref a1] S C (zQv q) := by
  refine zc_in ml_105 rfl ?_
  refine zw_aload_n (n := 1) d105_0 rfl rfl ?_
  refine zw_cV (n := 4) d105_1 (zs_V rfl rfl rfl rfl (by decide) (zj_3 hS).1 (zq_3 hS)) (by rw [ml_86]; rfl) (by decide) rfl (zc_mV h (fun C1 h => ?_))
  refine zw_iconst (n := 5) d105_4 rfl zk_i_1 ?_
  refine zw_istore_n (n := 6) d105_5 rfl rfl rfl ?_
  refine zw_iconst (n := 7) d105_6 rfl zk_i_0 ?_
  refine zw_istore_n (n := 8) d105_7 rfl rfl rfl ?_
  exact h
theorem vc105_8 {X : zX} {S : zx_S} {C : zx_C} {q : zx_C → Prop} {e : Nat} {a1 : Nat} {i2 : Int32} {i3 : Int32} (hS : zs_3 S e) (h1 : zs_0 S a1) (h : if (i3 : Int32) < 12 then (if (i2 : Int32) = 0 then (q C) else (zCd X 3 102 [.ref e, .int 0, .int ((C.1 a1 0) - 1)] S C (zQi (fun r1 C1 => zCd X 0 12 [.ref (a1 + 1), .int i3, .int r1] S C1 (zQv (fun C2 => if ((Prod.fst (zp C2 a1 5 (i3 + 1)) e 2) : Int32) = (-1) then (if ((Prod.fst (zp C2 a1 5 (i3 + 1)) e 3) : Int32) = 2 then (zW X 4 105 8 [.ref e, .ref a1, .int 1, .int (i3 + 1)] [] S (zp C2 a1 5 (i3 + 1)) (zQv q)) else (zW X 4 105 8 [.ref e, .ref a1, .int 0, .int (i3 + 1)] [] S (zp C2 a1 5 (i3 + 1)) (zQv q))) else (zW X 4 105 8 [.ref e, .ref a1, .int 0, .int (i3 + 1)] [] S (zp C2 a1 5 (i3 + 1)) (zQv q)))))))) else (q C)) : zW X 4 105 8 [.ref e, .ref a1, .int i2, .int i3] [] S C (zQv q) := by
  refine zw_iload_n (n := 9) d105_8 rfl rfl ?_
  refine zw_bipush (n := 11) d105_9 rfl zk_b_12 ?_
  refine zw_ic_ge (n := 14) d105_11 rfl (zite h (fun h => ?_) (fun h => ?_))
  · skip
    refine zw_iload_n (n := 15) d105_14 rfl rfl ?_
    refine zw_if_eq (n := 18) d105_15 rfl (zite h (fun h => ?_) (fun h => ?_))
    · skip
      exact zw_ret d105_72 ⟨rfl, h⟩
    · skip
      refine zw_aload_n (n := 19) d105_18 rfl rfl ?_
      refine zw_getr (n := 22) d105_19 rfl (zj_0 h1).1 (zj_0 h1).2 (zr_0_6 h1) ?_
      refine zw_iload_n (n := 23) d105_22 rfl rfl ?_
      refine zw_aload_n (n := 24) d105_23 rfl rfl ?_
      refine zw_iconst (n := 25) d105_24 rfl zk_i_0 ?_
      refine zw_aload_n (n := 26) d105_25 rfl rfl ?_
      refine zw_geti (n := 29) d105_26 rfl (zj_0 h1).1 (zj_0 h1).2 ?_
      refine zw_iconst (n := 30) d105_29 rfl zk_i_1 ?_
      refine zw_isub (n := 31) d105_30 rfl ?_
      refine zw_cI (n := 34) d105_31 (zs_V rfl rfl rfl rfl (by decide) (zj_3 hS).1 (zq_3 hS)) (by rw [ml_102]; rfl) (by decide) rfl (zc_mI h (fun r1 C1 h => ?_))
      refine zw_cV (n := 37) d105_34 (zs_S rfl rfl rfl rfl) (by rw [ml_12]; rfl) (by decide) rfl (zc_mV h (fun C2 h => ?_))
      refine zw_aload_n (n := 38) d105_37 rfl rfl ?_
      refine zw_iload_n (n := 39) d105_38 rfl rfl ?_
      refine zw_iconst (n := 40) d105_39 rfl zk_i_1 ?_
      refine zw_iadd (n := 41) d105_40 rfl ?_
      refine zw_puti (n := 44) d105_41 rfl (zj_0 h1).1 (zj_0 h1).2 ?_
      refine zw_aload_n (n := 45) d105_44 rfl rfl ?_
      refine zw_geti (n := 48) d105_45 rfl (zj_3 hS).1 (zj_3 hS).2 ?_
      refine zw_iconst (n := 49) d105_48 rfl zk_i_m1 ?_
      refine zw_ic_ne (n := 52) d105_49 rfl (zite h (fun h => ?_) (fun h => ?_))
      · skip
        refine zw_aload_n (n := 53) d105_52 rfl rfl ?_
        refine zw_geti (n := 56) d105_53 rfl (zj_3 hS).1 (zj_3 hS).2 ?_
        refine zw_iconst (n := 57) d105_56 rfl zk_i_2 ?_
        refine zw_ic_ne (n := 60) d105_57 rfl (zite h (fun h => ?_) (fun h => ?_))
        · skip
          refine zw_iconst (n := 61) d105_60 rfl zk_i_1 ?_
          refine zw_goto d105_61 ?_
          refine zw_istore_n (n := 66) d105_65 rfl rfl rfl ?_
          refine zw_iinc (n := 69) d105_66 rfl rfl zk_i_1 rfl ?_
          refine zw_goto d105_69 ?_
          exact h
        · skip
          refine zw_iconst (n := 65) d105_64 rfl zk_i_0 ?_
          refine zw_istore_n (n := 66) d105_65 rfl rfl rfl ?_
          refine zw_iinc (n := 69) d105_66 rfl rfl zk_i_1 rfl ?_
          refine zw_goto d105_69 ?_
          exact h
      · skip
        refine zw_iconst (n := 65) d105_64 rfl zk_i_0 ?_
        refine zw_istore_n (n := 66) d105_65 rfl rfl rfl ?_
        refine zw_iinc (n := 69) d105_66 rfl rfl zk_i_1 rfl ?_
        refine zw_goto d105_69 ?_
        exact h
  · skip
    exact zw_ret d105_72 ⟨rfl, h⟩

set_option maxRecDepth 20000 in
theorem zf106 (pc : Nat) : zt_code 106 pc = zt_fd zl_106 pc := rfl
theorem d106_0 : zt_code 106 0 = some (.aload_n 0, 0, 0, 0) := (zf106 0).trans rfl
theorem d106_1 : zt_code 106 1 = some (.invokevirtual 25, 86, 1, 3) := (zf106 1).trans rfl
theorem d106_4 : zt_code 106 4 = some (.aload_n 0, 0, 0, 0) := (zf106 4).trans rfl
theorem d106_5 : zt_code 106 5 = some (.iconst (0), 0, 0, 0) := (zf106 5).trans rfl
theorem d106_6 : zt_code 106 6 = some (.aload_n 1, 0, 0, 0) := (zf106 6).trans rfl
theorem d106_7 : zt_code 106 7 = some (.getfield 108, 0, 0, 0) := (zf106 7).trans rfl
theorem d106_10 : zt_code 106 10 = some (.iconst (1), 0, 0, 0) := (zf106 10).trans rfl
theorem d106_11 : zt_code 106 11 = some (.isub, 0, 0, 0) := (zf106 11).trans rfl
theorem d106_12 : zt_code 106 12 = some (.invokevirtual 100, 102, 3, 3) := (zf106 12).trans rfl
theorem d106_15 : zt_code 106 15 = some (.istore_n 2, 0, 0, 0) := (zf106 15).trans rfl
theorem d106_16 : zt_code 106 16 = some (.aload_n 0, 0, 0, 0) := (zf106 16).trans rfl
theorem d106_17 : zt_code 106 17 = some (.iconst (0), 0, 0, 0) := (zf106 17).trans rfl
theorem d106_18 : zt_code 106 18 = some (.iconst (5), 0, 0, 0) := (zf106 18).trans rfl
theorem d106_19 : zt_code 106 19 = some (.invokevirtual 100, 102, 3, 3) := (zf106 19).trans rfl
theorem d106_22 : zt_code 106 22 = some (.istore_n 3, 0, 0, 0) := (zf106 22).trans rfl
theorem d106_23 : zt_code 106 23 = some (.aload_n 0, 0, 0, 0) := (zf106 23).trans rfl
theorem d106_24 : zt_code 106 24 = some (.getfield 15, 3, 2, 0) := (zf106 24).trans rfl
theorem d106_27 : zt_code 106 27 = some (.iconst (-1), 0, 0, 0) := (zf106 27).trans rfl
theorem d106_28 : zt_code 106 28 = some (.if_icmp .ne (12), 0, 40, 0) := (zf106 28).trans rfl
theorem d106_31 : zt_code 106 31 = some (.aload_n 1, 0, 0, 0) := (zf106 31).trans rfl
theorem d106_32 : zt_code 106 32 = some (.getfield 125, 0, 7, 1) := (zf106 32).trans rfl
theorem d106_35 : zt_code 106 35 = some (.iload_n 2, 0, 0, 0) := (zf106 35).trans rfl
theorem d106_36 : zt_code 106 36 = some (.iload_n 3, 0, 0, 0) := (zf106 36).trans rfl
theorem d106_37 : zt_code 106 37 = some (.invokestatic 118, 12, 3, -1) := (zf106 37).trans rfl
theorem d106_40 : zt_code 106 40 = some (.return_, 0, 0, 0) := (zf106 40).trans rfl
/-- FirstAtTheFirst$Tape.readBent(LFirstAtTheFirst$Estate;)V -/
theorem vc106 {X : zX} {S : zx_S} {C : zx_C} {q : zx_C → Prop} {e : Nat} {a1 : Nat} (hS : zs_3 S e) (h1 : zs_0 S a1) (h : zCd X 2 86 [.ref e] S C (zQv (fun C1 => zCd X 3 102 [.ref e, .int 0, .int ((C1.1 a1 0) - 1)] S C1 (zQi (fun r2 C2 => zCd X 3 102 [.ref e, .int 0, .int 5] S C2 (zQi (fun r3 C3 => if ((C3.1 e 2) : Int32) = (-1) then (zCd X 0 12 [.ref (a1 + 2), .int r2, .int r3] S C3 (zQv (fun C4 => q C4))) else (q C3)))))))) : zCd X 4 106 [.ref e, .ref a1] S C (zQv q) := by
  refine zc_in ml_106 rfl ?_
  refine zw_aload_n (n := 1) d106_0 rfl rfl ?_
  refine zw_cV (n := 4) d106_1 (zs_V rfl rfl rfl rfl (by decide) (zj_3 hS).1 (zq_3 hS)) (by rw [ml_86]; rfl) (by decide) rfl (zc_mV h (fun C1 h => ?_))
  refine zw_aload_n (n := 5) d106_4 rfl rfl ?_
  refine zw_iconst (n := 6) d106_5 rfl zk_i_0 ?_
  refine zw_aload_n (n := 7) d106_6 rfl rfl ?_
  refine zw_geti (n := 10) d106_7 rfl (zj_0 h1).1 (zj_0 h1).2 ?_
  refine zw_iconst (n := 11) d106_10 rfl zk_i_1 ?_
  refine zw_isub (n := 12) d106_11 rfl ?_
  refine zw_cI (n := 15) d106_12 (zs_V rfl rfl rfl rfl (by decide) (zj_3 hS).1 (zq_3 hS)) (by rw [ml_102]; rfl) (by decide) rfl (zc_mI h (fun r2 C2 h => ?_))
  refine zw_istore_n (n := 16) d106_15 rfl rfl rfl ?_
  refine zw_aload_n (n := 17) d106_16 rfl rfl ?_
  refine zw_iconst (n := 18) d106_17 rfl zk_i_0 ?_
  refine zw_iconst (n := 19) d106_18 rfl zk_i_5 ?_
  refine zw_cI (n := 22) d106_19 (zs_V rfl rfl rfl rfl (by decide) (zj_3 hS).1 (zq_3 hS)) (by rw [ml_102]; rfl) (by decide) rfl (zc_mI h (fun r3 C3 h => ?_))
  refine zw_istore_n (n := 23) d106_22 rfl rfl rfl ?_
  refine zw_aload_n (n := 24) d106_23 rfl rfl ?_
  refine zw_geti (n := 27) d106_24 rfl (zj_3 hS).1 (zj_3 hS).2 ?_
  refine zw_iconst (n := 28) d106_27 rfl zk_i_m1 ?_
  refine zw_ic_ne (n := 31) d106_28 rfl (zite h (fun h => ?_) (fun h => ?_))
  · skip
    refine zw_aload_n (n := 32) d106_31 rfl rfl ?_
    refine zw_getr (n := 35) d106_32 rfl (zj_0 h1).1 (zj_0 h1).2 (zr_0_7 h1) ?_
    refine zw_iload_n (n := 36) d106_35 rfl rfl ?_
    refine zw_iload_n (n := 37) d106_36 rfl rfl ?_
    refine zw_cV (n := 40) d106_37 (zs_S rfl rfl rfl rfl) (by rw [ml_12]; rfl) (by decide) rfl (zc_mV h (fun C4 h => ?_))
    exact zw_ret d106_40 ⟨rfl, h⟩
  · skip
    exact zw_ret d106_40 ⟨rfl, h⟩

set_option maxRecDepth 20000 in
theorem zf107 (pc : Nat) : zt_code 107 pc = zt_fd zl_107 pc := rfl
theorem d107_0 : zt_code 107 0 = some (.aload_n 0, 0, 0, 0) := (zf107 0).trans rfl
theorem d107_1 : zt_code 107 1 = some (.invokevirtual 25, 86, 1, 3) := (zf107 1).trans rfl
theorem d107_4 : zt_code 107 4 = some (.aload_n 0, 0, 0, 0) := (zf107 4).trans rfl
theorem d107_5 : zt_code 107 5 = some (.iconst (0), 0, 0, 0) := (zf107 5).trans rfl
theorem d107_6 : zt_code 107 6 = some (.sipush (9999), 0, 0, 0) := (zf107 6).trans rfl
theorem d107_9 : zt_code 107 9 = some (.invokevirtual 100, 102, 3, 3) := (zf107 9).trans rfl
theorem d107_12 : zt_code 107 12 = some (.istore_n 2, 0, 0, 0) := (zf107 12).trans rfl
theorem d107_13 : zt_code 107 13 = some (.aload_n 0, 0, 0, 0) := (zf107 13).trans rfl
theorem d107_14 : zt_code 107 14 = some (.getfield 15, 3, 2, 0) := (zf107 14).trans rfl
theorem d107_17 : zt_code 107 17 = some (.iconst (-1), 0, 0, 0) := (zf107 17).trans rfl
theorem d107_18 : zt_code 107 18 = some (.if_icmp .ne (8), 0, 26, 0) := (zf107 18).trans rfl
theorem d107_21 : zt_code 107 21 = some (.aload_n 1, 0, 0, 0) := (zf107 21).trans rfl
theorem d107_22 : zt_code 107 22 = some (.iload_n 2, 0, 0, 0) := (zf107 22).trans rfl
theorem d107_23 : zt_code 107 23 = some (.putfield 128, 0, 3, 0) := (zf107 23).trans rfl
theorem d107_26 : zt_code 107 26 = some (.return_, 0, 0, 0) := (zf107 26).trans rfl
/-- FirstAtTheFirst$Tape.readTurn(LFirstAtTheFirst$Estate;)V -/
theorem vc107 {X : zX} {S : zx_S} {C : zx_C} {q : zx_C → Prop} {e : Nat} {a1 : Nat} (hS : zs_3 S e) (h1 : zs_0 S a1) (h : zCd X 2 86 [.ref e] S C (zQv (fun C1 => zCd X 3 102 [.ref e, .int 0, .int 9999] S C1 (zQi (fun r2 C2 => if ((C2.1 e 2) : Int32) = (-1) then (q (zp C2 a1 3 r2)) else (q C2)))))) : zCd X 4 107 [.ref e, .ref a1] S C (zQv q) := by
  refine zc_in ml_107 rfl ?_
  refine zw_aload_n (n := 1) d107_0 rfl rfl ?_
  refine zw_cV (n := 4) d107_1 (zs_V rfl rfl rfl rfl (by decide) (zj_3 hS).1 (zq_3 hS)) (by rw [ml_86]; rfl) (by decide) rfl (zc_mV h (fun C1 h => ?_))
  refine zw_aload_n (n := 5) d107_4 rfl rfl ?_
  refine zw_iconst (n := 6) d107_5 rfl zk_i_0 ?_
  refine zw_sipush (n := 9) d107_6 rfl zk_s_9999 ?_
  refine zw_cI (n := 12) d107_9 (zs_V rfl rfl rfl rfl (by decide) (zj_3 hS).1 (zq_3 hS)) (by rw [ml_102]; rfl) (by decide) rfl (zc_mI h (fun r2 C2 h => ?_))
  refine zw_istore_n (n := 13) d107_12 rfl rfl rfl ?_
  refine zw_aload_n (n := 14) d107_13 rfl rfl ?_
  refine zw_geti (n := 17) d107_14 rfl (zj_3 hS).1 (zj_3 hS).2 ?_
  refine zw_iconst (n := 18) d107_17 rfl zk_i_m1 ?_
  refine zw_ic_ne (n := 21) d107_18 rfl (zite h (fun h => ?_) (fun h => ?_))
  · skip
    refine zw_aload_n (n := 22) d107_21 rfl rfl ?_
    refine zw_iload_n (n := 23) d107_22 rfl rfl ?_
    refine zw_puti (n := 26) d107_23 rfl (zj_0 h1).1 (zj_0 h1).2 ?_
    exact zw_ret d107_26 ⟨rfl, h⟩
  · skip
    exact zw_ret d107_26 ⟨rfl, h⟩

set_option maxRecDepth 20000 in
theorem zf108 (pc : Nat) : zt_code 108 pc = zt_fd zl_108 pc := rfl
theorem d108_0 : zt_code 108 0 = some (.aload_n 0, 0, 0, 0) := (zf108 0).trans rfl
theorem d108_1 : zt_code 108 1 = some (.invokevirtual 25, 86, 1, 3) := (zf108 1).trans rfl
theorem d108_4 : zt_code 108 4 = some (.aload_n 0, 0, 0, 0) := (zf108 4).trans rfl
theorem d108_5 : zt_code 108 5 = some (.iconst (0), 0, 0, 0) := (zf108 5).trans rfl
theorem d108_6 : zt_code 108 6 = some (.aload_n 1, 0, 0, 0) := (zf108 6).trans rfl
theorem d108_7 : zt_code 108 7 = some (.getfield 108, 0, 0, 0) := (zf108 7).trans rfl
theorem d108_10 : zt_code 108 10 = some (.iconst (1), 0, 0, 0) := (zf108 10).trans rfl
theorem d108_11 : zt_code 108 11 = some (.isub, 0, 0, 0) := (zf108 11).trans rfl
theorem d108_12 : zt_code 108 12 = some (.invokevirtual 100, 102, 3, 3) := (zf108 12).trans rfl
theorem d108_15 : zt_code 108 15 = some (.istore_n 2, 0, 0, 0) := (zf108 15).trans rfl
theorem d108_16 : zt_code 108 16 = some (.aload_n 0, 0, 0, 0) := (zf108 16).trans rfl
theorem d108_17 : zt_code 108 17 = some (.iconst (0), 0, 0, 0) := (zf108 17).trans rfl
theorem d108_18 : zt_code 108 18 = some (.aload_n 1, 0, 0, 0) := (zf108 18).trans rfl
theorem d108_19 : zt_code 108 19 = some (.getfield 62, 0, 1, 0) := (zf108 19).trans rfl
theorem d108_22 : zt_code 108 22 = some (.iconst (1), 0, 0, 0) := (zf108 22).trans rfl
theorem d108_23 : zt_code 108 23 = some (.isub, 0, 0, 0) := (zf108 23).trans rfl
theorem d108_24 : zt_code 108 24 = some (.invokevirtual 100, 102, 3, 3) := (zf108 24).trans rfl
theorem d108_27 : zt_code 108 27 = some (.istore_n 3, 0, 0, 0) := (zf108 27).trans rfl
theorem d108_28 : zt_code 108 28 = some (.aload_n 0, 0, 0, 0) := (zf108 28).trans rfl
theorem d108_29 : zt_code 108 29 = some (.getfield 15, 3, 2, 0) := (zf108 29).trans rfl
theorem d108_32 : zt_code 108 32 = some (.iconst (-1), 0, 0, 0) := (zf108 32).trans rfl
theorem d108_33 : zt_code 108 33 = some (.if_icmp .ne (12), 0, 45, 0) := (zf108 33).trans rfl
theorem d108_36 : zt_code 108 36 = some (.aload_n 1, 0, 0, 0) := (zf108 36).trans rfl
theorem d108_37 : zt_code 108 37 = some (.getfield 130, 0, 8, 1) := (zf108 37).trans rfl
theorem d108_40 : zt_code 108 40 = some (.iload_n 3, 0, 0, 0) := (zf108 40).trans rfl
theorem d108_41 : zt_code 108 41 = some (.iload_n 2, 0, 0, 0) := (zf108 41).trans rfl
theorem d108_42 : zt_code 108 42 = some (.invokestatic 118, 12, 3, -1) := (zf108 42).trans rfl
theorem d108_45 : zt_code 108 45 = some (.return_, 0, 0, 0) := (zf108 45).trans rfl
/-- FirstAtTheFirst$Tape.readOwns(LFirstAtTheFirst$Estate;)V -/
theorem vc108 {X : zX} {S : zx_S} {C : zx_C} {q : zx_C → Prop} {e : Nat} {a1 : Nat} (hS : zs_3 S e) (h1 : zs_0 S a1) (h : zCd X 2 86 [.ref e] S C (zQv (fun C1 => zCd X 3 102 [.ref e, .int 0, .int ((C1.1 a1 0) - 1)] S C1 (zQi (fun r2 C2 => zCd X 3 102 [.ref e, .int 0, .int ((C2.1 a1 1) - 1)] S C2 (zQi (fun r3 C3 => if ((C3.1 e 2) : Int32) = (-1) then (zCd X 0 12 [.ref (a1 + 3), .int r3, .int r2] S C3 (zQv (fun C4 => q C4))) else (q C3)))))))) : zCd X 4 108 [.ref e, .ref a1] S C (zQv q) := by
  refine zc_in ml_108 rfl ?_
  refine zw_aload_n (n := 1) d108_0 rfl rfl ?_
  refine zw_cV (n := 4) d108_1 (zs_V rfl rfl rfl rfl (by decide) (zj_3 hS).1 (zq_3 hS)) (by rw [ml_86]; rfl) (by decide) rfl (zc_mV h (fun C1 h => ?_))
  refine zw_aload_n (n := 5) d108_4 rfl rfl ?_
  refine zw_iconst (n := 6) d108_5 rfl zk_i_0 ?_
  refine zw_aload_n (n := 7) d108_6 rfl rfl ?_
  refine zw_geti (n := 10) d108_7 rfl (zj_0 h1).1 (zj_0 h1).2 ?_
  refine zw_iconst (n := 11) d108_10 rfl zk_i_1 ?_
  refine zw_isub (n := 12) d108_11 rfl ?_
  refine zw_cI (n := 15) d108_12 (zs_V rfl rfl rfl rfl (by decide) (zj_3 hS).1 (zq_3 hS)) (by rw [ml_102]; rfl) (by decide) rfl (zc_mI h (fun r2 C2 h => ?_))
  refine zw_istore_n (n := 16) d108_15 rfl rfl rfl ?_
  refine zw_aload_n (n := 17) d108_16 rfl rfl ?_
  refine zw_iconst (n := 18) d108_17 rfl zk_i_0 ?_
  refine zw_aload_n (n := 19) d108_18 rfl rfl ?_
  refine zw_geti (n := 22) d108_19 rfl (zj_0 h1).1 (zj_0 h1).2 ?_
  refine zw_iconst (n := 23) d108_22 rfl zk_i_1 ?_
  refine zw_isub (n := 24) d108_23 rfl ?_
  refine zw_cI (n := 27) d108_24 (zs_V rfl rfl rfl rfl (by decide) (zj_3 hS).1 (zq_3 hS)) (by rw [ml_102]; rfl) (by decide) rfl (zc_mI h (fun r3 C3 h => ?_))
  refine zw_istore_n (n := 28) d108_27 rfl rfl rfl ?_
  refine zw_aload_n (n := 29) d108_28 rfl rfl ?_
  refine zw_geti (n := 32) d108_29 rfl (zj_3 hS).1 (zj_3 hS).2 ?_
  refine zw_iconst (n := 33) d108_32 rfl zk_i_m1 ?_
  refine zw_ic_ne (n := 36) d108_33 rfl (zite h (fun h => ?_) (fun h => ?_))
  · skip
    refine zw_aload_n (n := 37) d108_36 rfl rfl ?_
    refine zw_getr (n := 40) d108_37 rfl (zj_0 h1).1 (zj_0 h1).2 (zr_0_8 h1) ?_
    refine zw_iload_n (n := 41) d108_40 rfl rfl ?_
    refine zw_iload_n (n := 42) d108_41 rfl rfl ?_
    refine zw_cV (n := 45) d108_42 (zs_S rfl rfl rfl rfl) (by rw [ml_12]; rfl) (by decide) rfl (zc_mV h (fun C4 h => ?_))
    exact zw_ret d108_45 ⟨rfl, h⟩
  · skip
    exact zw_ret d108_45 ⟨rfl, h⟩

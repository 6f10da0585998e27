set_option maxRecDepth 20000 in
theorem zf158 (pc : Nat) : zt_code 158 pc = zt_fd zl_158 pc := rfl
theorem d158_0 : zt_code 158 0 = some (.iload_n 1, 0, 0, 0) := (zf158 0).trans rfl
theorem d158_1 : zt_code 158 1 = some (.i2l, 0, 0, 0) := (zf158 1).trans rfl
theorem d158_2 : zt_code 158 2 = some (.lconst 0, 0, 0, 0) := (zf158 2).trans rfl
theorem d158_3 : zt_code 158 3 = some (.ldc2_w 101, 0, 0, 7) := (zf158 3).trans rfl
theorem d158_6 : zt_code 158 6 = some (.invokestatic 94, 159, 3, -1) := (zf158 6).trans rfl
theorem d158_9 : zt_code 158 9 = some (.ifCond .eq (27), 0, 36, 0) := (zf158 9).trans rfl
theorem d158_12 : zt_code 158 12 = some (.iload_n 2, 0, 0, 0) := (zf158 12).trans rfl
theorem d158_13 : zt_code 158 13 = some (.i2l, 0, 0, 0) := (zf158 13).trans rfl
theorem d158_14 : zt_code 158 14 = some (.lconst 0, 0, 0, 0) := (zf158 14).trans rfl
theorem d158_15 : zt_code 158 15 = some (.ldc2_w 103, 0, 0, 4) := (zf158 15).trans rfl
theorem d158_18 : zt_code 158 18 = some (.invokestatic 94, 159, 3, -1) := (zf158 18).trans rfl
theorem d158_21 : zt_code 158 21 = some (.ifCond .eq (15), 0, 36, 0) := (zf158 21).trans rfl
theorem d158_24 : zt_code 158 24 = some (.iload_n 3, 0, 0, 0) := (zf158 24).trans rfl
theorem d158_25 : zt_code 158 25 = some (.i2l, 0, 0, 0) := (zf158 25).trans rfl
theorem d158_26 : zt_code 158 26 = some (.lconst 0, 0, 0, 0) := (zf158 26).trans rfl
theorem d158_27 : zt_code 158 27 = some (.ldc2_w 105, 0, 0, 40) := (zf158 27).trans rfl
theorem d158_30 : zt_code 158 30 = some (.invokestatic 94, 159, 3, -1) := (zf158 30).trans rfl
theorem d158_33 : zt_code 158 33 = some (.ifCond .ne (10), 0, 43, 0) := (zf158 33).trans rfl
theorem d158_36 : zt_code 158 36 = some (.aload_n 0, 0, 0, 0) := (zf158 36).trans rfl
theorem d158_37 : zt_code 158 37 = some (.bipush (-2), 0, 0, 0) := (zf158 37).trans rfl
theorem d158_39 : zt_code 158 39 = some (.invokevirtual 107, 160, 2, 5) := (zf158 39).trans rfl
theorem d158_42 : zt_code 158 42 = some (.ireturn, 0, 0, 0) := (zf158 42).trans rfl
theorem d158_43 : zt_code 158 43 = some (.aload_n 0, 0, 0, 0) := (zf158 43).trans rfl
theorem d158_44 : zt_code 158 44 = some (.getfield 7, 5, 0, 1) := (zf158 44).trans rfl
theorem d158_47 : zt_code 158 47 = some (.iload_n 1, 0, 0, 0) := (zf158 47).trans rfl
theorem d158_48 : zt_code 158 48 = some (.iconst (1), 0, 0, 0) := (zf158 48).trans rfl
theorem d158_49 : zt_code 158 49 = some (.iastore, 0, 0, 0) := (zf158 49).trans rfl
theorem d158_50 : zt_code 158 50 = some (.aload_n 0, 0, 0, 0) := (zf158 50).trans rfl
theorem d158_51 : zt_code 158 51 = some (.getfield 13, 5, 1, 1) := (zf158 51).trans rfl
theorem d158_54 : zt_code 158 54 = some (.iload_n 1, 0, 0, 0) := (zf158 54).trans rfl
theorem d158_55 : zt_code 158 55 = some (.iload_n 2, 0, 0, 0) := (zf158 55).trans rfl
theorem d158_56 : zt_code 158 56 = some (.iastore, 0, 0, 0) := (zf158 56).trans rfl
theorem d158_57 : zt_code 158 57 = some (.aload_n 0, 0, 0, 0) := (zf158 57).trans rfl
theorem d158_58 : zt_code 158 58 = some (.getfield 16, 5, 2, 1) := (zf158 58).trans rfl
theorem d158_61 : zt_code 158 61 = some (.iload_n 1, 0, 0, 0) := (zf158 61).trans rfl
theorem d158_62 : zt_code 158 62 = some (.iload_n 3, 0, 0, 0) := (zf158 62).trans rfl
theorem d158_63 : zt_code 158 63 = some (.iastore, 0, 0, 0) := (zf158 63).trans rfl
theorem d158_64 : zt_code 158 64 = some (.iconst (0), 0, 0, 0) := (zf158 64).trans rfl
theorem d158_65 : zt_code 158 65 = some (.istore 4, 0, 0, 0) := (zf158 65).trans rfl
theorem d158_67 : zt_code 158 67 = some (.iload 4, 0, 0, 0) := (zf158 67).trans rfl
theorem d158_69 : zt_code 158 69 = some (.bipush (40), 0, 0, 0) := (zf158 69).trans rfl
theorem d158_71 : zt_code 158 71 = some (.if_icmp .ge (19), 0, 90, 0) := (zf158 71).trans rfl
theorem d158_74 : zt_code 158 74 = some (.aload_n 0, 0, 0, 0) := (zf158 74).trans rfl
theorem d158_75 : zt_code 158 75 = some (.getfield 21, 5, 3, 1) := (zf158 75).trans rfl
theorem d158_78 : zt_code 158 78 = some (.iload_n 1, 0, 0, 0) := (zf158 78).trans rfl
theorem d158_79 : zt_code 158 79 = some (.aaload, 0, 0, 0) := (zf158 79).trans rfl
theorem d158_80 : zt_code 158 80 = some (.iload 4, 0, 0, 0) := (zf158 80).trans rfl
theorem d158_82 : zt_code 158 82 = some (.lconst 0, 0, 0, 0) := (zf158 82).trans rfl
theorem d158_83 : zt_code 158 83 = some (.lastore, 0, 0, 0) := (zf158 83).trans rfl
theorem d158_84 : zt_code 158 84 = some (.iinc 4 (1), 0, 0, 0) := (zf158 84).trans rfl
theorem d158_87 : zt_code 158 87 = some (.goto (-20), 0, 67, 0) := (zf158 87).trans rfl
theorem d158_90 : zt_code 158 90 = some (.iconst (1), 0, 0, 0) := (zf158 90).trans rfl
theorem d158_91 : zt_code 158 91 = some (.ireturn, 0, 0, 0) := (zf158 91).trans rfl
/-- FirstAtTheFirstModel.row(III)I -/
theorem vc158 {X : zX} {S : zx_S} {C : zx_C} {q : Int32 → zx_C → Prop} {e : Nat} {a1 : Int32} {a2 : Int32} {a3 : Int32} (hS : zs_5 S e) (h : zCd X 0 159 [.long (Int32.toInt64 a1), .long 0, .long 7] S C (zQi (fun r1 C1 => if (r1 : Int32) = 0 then (zCd X 0 160 [.ref e, .int (-2)] S C1 (zQi (fun r2 C2 => q r2 C2))) else (zCd X 0 159 [.long (Int32.toInt64 a2), .long 0, .long 4] S C1 (zQi (fun r3 C3 => if (r3 : Int32) = 0 then (zCd X 0 160 [.ref e, .int (-2)] S C3 (zQi (fun r4 C4 => q r4 C4))) else (zCd X 0 159 [.long (Int32.toInt64 a3), .long 0, .long 40] S C3 (zQi (fun r5 C5 => if (r5 : Int32) = 0 then (zCd X 0 160 [.ref e, .int (-2)] S C5 (zQi (fun r6 C6 => q r6 C6))) else (vp_in a1 8 ∧ (vp_in a1 8 ∧ (vp_in a1 8 ∧ (zW X 1 158 67 [.ref e, .int a1, .int a2, .int a3, .int 0] [] S (zp (zp (zp C5 (e + 1) (Int32.toNatClampNeg a1) 1) (e + 2) (Int32.toNatClampNeg a1) a2) (e + 3) (Int32.toNatClampNeg a1) a3) (zQi q)))))))))))))) : zCd X 1 158 [.ref e, .int a1, .int a2, .int a3] S C (zQi q) := by
  refine zc_in ml_158 rfl ?_
  refine zw_iload_n (n := 1) d158_0 rfl rfl ?_
  refine zw_i2l (n := 2) d158_1 rfl ?_
  refine zw_lconst (n := 3) d158_2 rfl zk_c_0 ?_
  refine zw_ldc2 (n := 6) d158_3 rfl zk_l_7 ?_
  refine zw_cI (n := 9) d158_6 (zs_S rfl rfl rfl rfl) (by rw [ml_159]; rfl) (by decide) rfl (zc_mI h (fun r1 C1 h => ?_))
  refine zw_if_eq (n := 12) d158_9 rfl (zite h (fun h => ?_) (fun h => ?_))
  · skip
    refine zw_aload_n (n := 37) d158_36 rfl rfl ?_
    refine zw_bipush (n := 39) d158_37 rfl zk_b_m2 ?_
    refine zw_cI (n := 42) d158_39 (zs_V rfl rfl rfl rfl (by decide) (zj_5 hS).1 (zq_5 hS)) (by rw [ml_160]; rfl) (by decide) rfl (zc_mI h (fun r2 C2 h => ?_))
    exact zw_iret d158_42 rfl ⟨_, rfl, h⟩
  · skip
    refine zw_iload_n (n := 13) d158_12 rfl rfl ?_
    refine zw_i2l (n := 14) d158_13 rfl ?_
    refine zw_lconst (n := 15) d158_14 rfl zk_c_0 ?_
    refine zw_ldc2 (n := 18) d158_15 rfl zk_l_4 ?_
    refine zw_cI (n := 21) d158_18 (zs_S rfl rfl rfl rfl) (by rw [ml_159]; rfl) (by decide) rfl (zc_mI h (fun r3 C3 h => ?_))
    refine zw_if_eq (n := 24) d158_21 rfl (zite h (fun h => ?_) (fun h => ?_))
    · skip
      refine zw_aload_n (n := 37) d158_36 rfl rfl ?_
      refine zw_bipush (n := 39) d158_37 rfl zk_b_m2 ?_
      refine zw_cI (n := 42) d158_39 (zs_V rfl rfl rfl rfl (by decide) (zj_5 hS).1 (zq_5 hS)) (by rw [ml_160]; rfl) (by decide) rfl (zc_mI h (fun r4 C4 h => ?_))
      exact zw_iret d158_42 rfl ⟨_, rfl, h⟩
    · skip
      refine zw_iload_n (n := 25) d158_24 rfl rfl ?_
      refine zw_i2l (n := 26) d158_25 rfl ?_
      refine zw_lconst (n := 27) d158_26 rfl zk_c_0 ?_
      refine zw_ldc2 (n := 30) d158_27 rfl zk_l_40 ?_
      refine zw_cI (n := 33) d158_30 (zs_S rfl rfl rfl rfl) (by rw [ml_159]; rfl) (by decide) rfl (zc_mI h (fun r5 C5 h => ?_))
      refine zw_if_ne (n := 36) d158_33 rfl (zite h (fun h => ?_) (fun h => ?_))
      · skip
        refine zw_aload_n (n := 37) d158_36 rfl rfl ?_
        refine zw_bipush (n := 39) d158_37 rfl zk_b_m2 ?_
        refine zw_cI (n := 42) d158_39 (zs_V rfl rfl rfl rfl (by decide) (zj_5 hS).1 (zq_5 hS)) (by rw [ml_160]; rfl) (by decide) rfl (zc_mI h (fun r6 C6 h => ?_))
        exact zw_iret d158_42 rfl ⟨_, rfl, h⟩
      · skip
        refine zw_aload_n (n := 44) d158_43 rfl rfl ?_
        refine zw_getr (n := 47) d158_44 rfl (zj_5 hS).1 (zj_5 hS).2 (zr_5_0 hS) ?_
        refine zw_iload_n (n := 48) d158_47 rfl rfl ?_
        refine zw_iconst (n := 49) d158_48 rfl zk_i_1 ?_
        obtain ⟨hi, h⟩ := h
        refine zw_iast (n := 50) d158_49 rfl (za_5_0 hS).1 (za_5_0 hS).2 hi ?_
        refine zw_aload_n (n := 51) d158_50 rfl rfl ?_
        refine zw_getr (n := 54) d158_51 rfl (zj_5 hS).1 (zj_5 hS).2 (zr_5_1 hS) ?_
        refine zw_iload_n (n := 55) d158_54 rfl rfl ?_
        refine zw_iload_n (n := 56) d158_55 rfl rfl ?_
        obtain ⟨hi, h⟩ := h
        refine zw_iast (n := 57) d158_56 rfl (za_5_1 hS).1 (za_5_1 hS).2 hi ?_
        refine zw_aload_n (n := 58) d158_57 rfl rfl ?_
        refine zw_getr (n := 61) d158_58 rfl (zj_5 hS).1 (zj_5 hS).2 (zr_5_2 hS) ?_
        refine zw_iload_n (n := 62) d158_61 rfl rfl ?_
        refine zw_iload_n (n := 63) d158_62 rfl rfl ?_
        obtain ⟨hi, h⟩ := h
        refine zw_iast (n := 64) d158_63 rfl (za_5_2 hS).1 (za_5_2 hS).2 hi ?_
        refine zw_iconst (n := 65) d158_64 rfl zk_i_0 ?_
        refine zw_istore (n := 67) d158_65 rfl rfl rfl ?_
        exact h
theorem vc158_67 {X : zX} {S : zx_S} {C : zx_C} {q : Int32 → zx_C → Prop} {e : Nat} {a1 : Int32} {a2 : Int32} {a3 : Int32} {i1 : Int32} {z2 : Value} {z3 : Value} {i4 : Int32} (hS : zs_5 S e) (h : if (i4 : Int32) < 40 then (vp_in i1 8 ∧ (vp_in i4 40 ∧ (zW X 1 158 67 [.ref e, .int i1, z2, z3, .int (i4 + 1)] [] S (zpl C ((e + 5) + Int32.toNatClampNeg i1) (Int32.toNatClampNeg i4) 0) (zQi q)))) else (q 1 C)) : zW X 1 158 67 [.ref e, .int i1, z2, z3, .int i4] [] S C (zQi q) := by
  refine zw_iload (n := 69) d158_67 rfl rfl ?_
  refine zw_bipush (n := 71) d158_69 rfl zk_b_40 ?_
  refine zw_ic_ge (n := 74) d158_71 rfl (zite h (fun h => ?_) (fun h => ?_))
  · skip
    refine zw_aload_n (n := 75) d158_74 rfl rfl ?_
    refine zw_getr (n := 78) d158_75 rfl (zj_5 hS).1 (zj_5 hS).2 (zr_5_3 hS) ?_
    refine zw_iload_n (n := 79) d158_78 rfl rfl ?_
    obtain ⟨hi, h⟩ := h
    have hb1 := zb_5_3 hS (vp_lt hi)
    refine zw_aald (n := 80) d158_79 rfl (za_5_3 hS).1 (za_5_3 hS).2 (by decide) hi hb1.1 ?_
    refine zw_iload (n := 82) d158_80 rfl rfl ?_
    refine zw_lconst (n := 83) d158_82 rfl zk_c_0 ?_
    obtain ⟨hi, h⟩ := h
    refine zw_last (n := 84) d158_83 rfl hb1.2.1 hb1.2.2 hi ?_
    refine zw_iinc (n := 87) d158_84 rfl rfl zk_i_1 rfl ?_
    refine zw_goto d158_87 ?_
    exact h
  · skip
    refine zw_iconst (n := 91) d158_90 rfl zk_i_1 ?_
    exact zw_iret d158_91 rfl ⟨_, rfl, h⟩

set_option maxRecDepth 20000 in
theorem zf159 (pc : Nat) : zt_code 159 pc = zt_fd zl_159 pc := rfl
theorem d159_0 : zt_code 159 0 = some (.lload_n 0, 0, 0, 0) := (zf159 0).trans rfl
theorem d159_1 : zt_code 159 1 = some (.lload_n 2, 0, 0, 0) := (zf159 1).trans rfl
theorem d159_2 : zt_code 159 2 = some (.lcmp, 0, 0, 0) := (zf159 2).trans rfl
theorem d159_3 : zt_code 159 3 = some (.ifCond .lt (14), 0, 17, 0) := (zf159 3).trans rfl
theorem d159_6 : zt_code 159 6 = some (.lload_n 0, 0, 0, 0) := (zf159 6).trans rfl
theorem d159_7 : zt_code 159 7 = some (.lload 4, 0, 0, 0) := (zf159 7).trans rfl
theorem d159_9 : zt_code 159 9 = some (.lcmp, 0, 0, 0) := (zf159 9).trans rfl
theorem d159_10 : zt_code 159 10 = some (.ifCond .gt (7), 0, 17, 0) := (zf159 10).trans rfl
theorem d159_13 : zt_code 159 13 = some (.iconst (1), 0, 0, 0) := (zf159 13).trans rfl
theorem d159_14 : zt_code 159 14 = some (.goto (4), 0, 18, 0) := (zf159 14).trans rfl
theorem d159_17 : zt_code 159 17 = some (.iconst (0), 0, 0, 0) := (zf159 17).trans rfl
theorem d159_18 : zt_code 159 18 = some (.ireturn, 1, 0, 0) := (zf159 18).trans rfl
/-- FirstAtTheFirstModel.in(JJJ)Z -/
theorem vc159 {X : zX} {S : zx_S} {C : zx_C} {q : Int32 → zx_C → Prop} {a1 : Int64} {a2 : Int64} {a3 : Int64}  (h : if ((lg_cmp a1 a2) : Int32) < 0 then (q 0 C) else (if (0 : Int32) < (lg_cmp a1 a3) then (q 0 C) else (q 1 C))) : zCd X 0 159 [.long a1, .long a2, .long a3] S C (zQi q) := by
  refine zc_in ml_159 rfl ?_
  refine zw_lload_n (n := 1) d159_0 rfl rfl rfl ?_
  refine zw_lload_n (n := 2) d159_1 rfl rfl rfl ?_
  refine zw_lcmp (n := 3) d159_2 rfl ?_
  refine zw_if_lt (n := 6) d159_3 rfl (zite h (fun h => ?_) (fun h => ?_))
  · skip
    refine zw_iconst (n := 18) d159_17 rfl zk_i_0 ?_
    exact zw_iret d159_18 rfl ⟨_, rfl, h⟩
  · skip
    refine zw_lload_n (n := 7) d159_6 rfl rfl rfl ?_
    refine zw_lload (n := 9) d159_7 rfl rfl rfl ?_
    refine zw_lcmp (n := 10) d159_9 rfl ?_
    refine zw_if_gt (n := 13) d159_10 rfl (zite h (fun h => ?_) (fun h => ?_))
    · skip
      refine zw_iconst (n := 18) d159_17 rfl zk_i_0 ?_
      exact zw_iret d159_18 rfl ⟨_, rfl, h⟩
    · skip
      refine zw_iconst (n := 14) d159_13 rfl zk_i_1 ?_
      refine zw_goto d159_14 ?_
      exact zw_iret d159_18 rfl ⟨_, rfl, h⟩

set_option maxRecDepth 20000 in
theorem zf160 (pc : Nat) : zt_code 160 pc = zt_fd zl_160 pc := rfl
theorem d160_0 : zt_code 160 0 = some (.aload_n 0, 0, 0, 0) := (zf160 0).trans rfl
theorem d160_1 : zt_code 160 1 = some (.getfield 37, 5, 9, 1) := (zf160 1).trans rfl
theorem d160_4 : zt_code 160 4 = some (.iload_n 1, 0, 0, 0) := (zf160 4).trans rfl
theorem d160_5 : zt_code 160 5 = some (.ineg, 0, 0, 0) := (zf160 5).trans rfl
theorem d160_6 : zt_code 160 6 = some (.dup2, 0, 0, 0) := (zf160 6).trans rfl
theorem d160_7 : zt_code 160 7 = some (.iaload, 0, 0, 0) := (zf160 7).trans rfl
theorem d160_8 : zt_code 160 8 = some (.iconst (1), 0, 0, 0) := (zf160 8).trans rfl
theorem d160_9 : zt_code 160 9 = some (.iadd, 0, 0, 0) := (zf160 9).trans rfl
theorem d160_10 : zt_code 160 10 = some (.iastore, 0, 0, 0) := (zf160 10).trans rfl
theorem d160_11 : zt_code 160 11 = some (.iload_n 1, 0, 0, 0) := (zf160 11).trans rfl
theorem d160_12 : zt_code 160 12 = some (.ireturn, 0, 0, 0) := (zf160 12).trans rfl
/-- FirstAtTheFirstModel.refuse(I)I -/
theorem vc160 {X : zX} {S : zx_S} {C : zx_C} {q : Int32 → zx_C → Prop} {e : Nat} {a1 : Int32} (hS : zs_5 S e) (h : vp_in (-a1) 8 ∧ (vp_in (-a1) 8 ∧ (q a1 (zp C (e + 17) (Int32.toNatClampNeg (-a1)) ((C.1 (e + 17) (Int32.toNatClampNeg (-a1))) + 1))))) : zCd X 0 160 [.ref e, .int a1] S C (zQi q) := by
  refine zc_in ml_160 rfl ?_
  refine zw_aload_n (n := 1) d160_0 rfl rfl ?_
  refine zw_getr (n := 4) d160_1 rfl (zj_5 hS).1 (zj_5 hS).2 (zr_5_9 hS) ?_
  refine zw_iload_n (n := 5) d160_4 rfl rfl ?_
  refine zw_ineg (n := 6) d160_5 rfl ?_
  refine zw_dup2 (n := 7) d160_6 rfl rfl rfl ?_
  obtain ⟨hi, h⟩ := h
  refine zw_iald (n := 8) d160_7 rfl (za_5_9 hS).1 (za_5_9 hS).2 hi ?_
  refine zw_iconst (n := 9) d160_8 rfl zk_i_1 ?_
  refine zw_iadd (n := 10) d160_9 rfl ?_
  obtain ⟨hi, h⟩ := h
  refine zw_iast (n := 11) d160_10 rfl (za_5_9 hS).1 (za_5_9 hS).2 hi ?_
  refine zw_iload_n (n := 12) d160_11 rfl rfl ?_
  exact zw_iret d160_12 rfl ⟨_, rfl, h⟩

set_option maxRecDepth 20000 in
theorem zf161 (pc : Nat) : zt_code 161 pc = zt_fd zl_161 pc := rfl
theorem d161_0 : zt_code 161 0 = some (.aload_n 0, 0, 0, 0) := (zf161 0).trans rfl
theorem d161_1 : zt_code 161 1 = some (.iload_n 1, 0, 0, 0) := (zf161 1).trans rfl
theorem d161_2 : zt_code 161 2 = some (.invokevirtual 111, 162, 2, 5) := (zf161 2).trans rfl
theorem d161_5 : zt_code 161 5 = some (.istore 5, 0, 0, 0) := (zf161 5).trans rfl
theorem d161_7 : zt_code 161 7 = some (.iload 5, 0, 0, 0) := (zf161 7).trans rfl
theorem d161_9 : zt_code 161 9 = some (.ifCond .eq (10), 0, 19, 0) := (zf161 9).trans rfl
theorem d161_12 : zt_code 161 12 = some (.aload_n 0, 0, 0, 0) := (zf161 12).trans rfl
theorem d161_13 : zt_code 161 13 = some (.iload 5, 0, 0, 0) := (zf161 13).trans rfl
theorem d161_15 : zt_code 161 15 = some (.invokevirtual 107, 160, 2, 5) := (zf161 15).trans rfl
theorem d161_18 : zt_code 161 18 = some (.ireturn, 0, 0, 0) := (zf161 18).trans rfl
theorem d161_19 : zt_code 161 19 = some (.iload_n 2, 0, 0, 0) := (zf161 19).trans rfl
theorem d161_20 : zt_code 161 20 = some (.i2l, 0, 0, 0) := (zf161 20).trans rfl
theorem d161_21 : zt_code 161 21 = some (.lconst 0, 0, 0, 0) := (zf161 21).trans rfl
theorem d161_22 : zt_code 161 22 = some (.aload_n 0, 0, 0, 0) := (zf161 22).trans rfl
theorem d161_23 : zt_code 161 23 = some (.getfield 16, 5, 2, 1) := (zf161 23).trans rfl
theorem d161_26 : zt_code 161 26 = some (.iload_n 1, 0, 0, 0) := (zf161 26).trans rfl
theorem d161_27 : zt_code 161 27 = some (.iaload, 0, 0, 0) := (zf161 27).trans rfl
theorem d161_28 : zt_code 161 28 = some (.iconst (1), 0, 0, 0) := (zf161 28).trans rfl
theorem d161_29 : zt_code 161 29 = some (.isub, 0, 0, 0) := (zf161 29).trans rfl
theorem d161_30 : zt_code 161 30 = some (.i2l, 0, 0, 0) := (zf161 30).trans rfl
theorem d161_31 : zt_code 161 31 = some (.invokestatic 94, 159, 3, -1) := (zf161 31).trans rfl
theorem d161_34 : zt_code 161 34 = some (.ifCond .ne (10), 0, 44, 0) := (zf161 34).trans rfl
theorem d161_37 : zt_code 161 37 = some (.aload_n 0, 0, 0, 0) := (zf161 37).trans rfl
theorem d161_38 : zt_code 161 38 = some (.bipush (-2), 0, 0, 0) := (zf161 38).trans rfl
theorem d161_40 : zt_code 161 40 = some (.invokevirtual 107, 160, 2, 5) := (zf161 40).trans rfl
theorem d161_43 : zt_code 161 43 = some (.ireturn, 0, 0, 0) := (zf161 43).trans rfl
theorem d161_44 : zt_code 161 44 = some (.aload_n 0, 0, 0, 0) := (zf161 44).trans rfl
theorem d161_45 : zt_code 161 45 = some (.getfield 21, 5, 3, 1) := (zf161 45).trans rfl
theorem d161_48 : zt_code 161 48 = some (.iload_n 1, 0, 0, 0) := (zf161 48).trans rfl
theorem d161_49 : zt_code 161 49 = some (.aaload, 0, 0, 0) := (zf161 49).trans rfl
theorem d161_50 : zt_code 161 50 = some (.iload_n 2, 0, 0, 0) := (zf161 50).trans rfl
theorem d161_51 : zt_code 161 51 = some (.aload_n 0, 0, 0, 0) := (zf161 51).trans rfl
theorem d161_52 : zt_code 161 52 = some (.getfield 13, 5, 1, 1) := (zf161 52).trans rfl
theorem d161_55 : zt_code 161 55 = some (.iload_n 1, 0, 0, 0) := (zf161 55).trans rfl
theorem d161_56 : zt_code 161 56 = some (.iaload, 0, 0, 0) := (zf161 56).trans rfl
theorem d161_57 : zt_code 161 57 = some (.lload_n 3, 0, 0, 0) := (zf161 57).trans rfl
theorem d161_58 : zt_code 161 58 = some (.invokestatic 114, 163, 2, -1) := (zf161 58).trans rfl
theorem d161_61 : zt_code 161 61 = some (.lastore, 0, 0, 0) := (zf161 61).trans rfl
theorem d161_62 : zt_code 161 62 = some (.iconst (1), 0, 0, 0) := (zf161 62).trans rfl
theorem d161_63 : zt_code 161 63 = some (.ireturn, 0, 0, 0) := (zf161 63).trans rfl
/-- FirstAtTheFirstModel.set(IIJ)I -/
theorem vc161 {X : zX} {S : zx_S} {C : zx_C} {q : Int32 → zx_C → Prop} {e : Nat} {a1 : Int32} {a2 : Int32} {a3 : Int64} (hS : zs_5 S e) (h : zCd X 1 162 [.ref e, .int a1] S C (zQi (fun r1 C1 => if (r1 : Int32) = 0 then (vp_in a1 8 ∧ (zCd X 0 159 [.long (Int32.toInt64 a2), .long 0, .long (Int32.toInt64 ((C1.1 (e + 3) (Int32.toNatClampNeg a1)) - 1))] S C1 (zQi (fun r2 C2 => if (r2 : Int32) = 0 then (zCd X 0 160 [.ref e, .int (-2)] S C2 (zQi (fun r3 C3 => q r3 C3))) else (vp_in a1 8 ∧ (vp_in a1 8 ∧ (zCd X 0 163 [.int (C2.1 (e + 2) (Int32.toNatClampNeg a1)), .long a3] S C2 (zQl (fun r5 C5 => vp_in a2 40 ∧ (q 1 (zpl C5 ((e + 5) + Int32.toNatClampNeg a1) (Int32.toNatClampNeg a2) r5))))))))))) else (zCd X 0 160 [.ref e, .int r1] S C1 (zQi (fun r6 C6 => q r6 C6)))))) : zCd X 2 161 [.ref e, .int a1, .int a2, .long a3] S C (zQi q) := by
  refine zc_in ml_161 rfl ?_
  refine zw_aload_n (n := 1) d161_0 rfl rfl ?_
  refine zw_iload_n (n := 2) d161_1 rfl rfl ?_
  refine zw_cI (n := 5) d161_2 (zs_V rfl rfl rfl rfl (by decide) (zj_5 hS).1 (zq_5 hS)) (by rw [ml_162]; rfl) (by decide) rfl (zc_mI h (fun r1 C1 h => ?_))
  refine zw_istore (n := 7) d161_5 rfl rfl rfl ?_
  refine zw_iload (n := 9) d161_7 rfl rfl ?_
  refine zw_if_eq (n := 12) d161_9 rfl (zite h (fun h => ?_) (fun h => ?_))
  · skip
    refine zw_iload_n (n := 20) d161_19 rfl rfl ?_
    refine zw_i2l (n := 21) d161_20 rfl ?_
    refine zw_lconst (n := 22) d161_21 rfl zk_c_0 ?_
    refine zw_aload_n (n := 23) d161_22 rfl rfl ?_
    refine zw_getr (n := 26) d161_23 rfl (zj_5 hS).1 (zj_5 hS).2 (zr_5_2 hS) ?_
    refine zw_iload_n (n := 27) d161_26 rfl rfl ?_
    obtain ⟨hi, h⟩ := h
    refine zw_iald (n := 28) d161_27 rfl (za_5_2 hS).1 (za_5_2 hS).2 hi ?_
    refine zw_iconst (n := 29) d161_28 rfl zk_i_1 ?_
    refine zw_isub (n := 30) d161_29 rfl ?_
    refine zw_i2l (n := 31) d161_30 rfl ?_
    refine zw_cI (n := 34) d161_31 (zs_S rfl rfl rfl rfl) (by rw [ml_159]; rfl) (by decide) rfl (zc_mI h (fun r2 C2 h => ?_))
    refine zw_if_ne (n := 37) d161_34 rfl (zite h (fun h => ?_) (fun h => ?_))
    · skip
      refine zw_aload_n (n := 38) d161_37 rfl rfl ?_
      refine zw_bipush (n := 40) d161_38 rfl zk_b_m2 ?_
      refine zw_cI (n := 43) d161_40 (zs_V rfl rfl rfl rfl (by decide) (zj_5 hS).1 (zq_5 hS)) (by rw [ml_160]; rfl) (by decide) rfl (zc_mI h (fun r3 C3 h => ?_))
      exact zw_iret d161_43 rfl ⟨_, rfl, h⟩
    · skip
      refine zw_aload_n (n := 45) d161_44 rfl rfl ?_
      refine zw_getr (n := 48) d161_45 rfl (zj_5 hS).1 (zj_5 hS).2 (zr_5_3 hS) ?_
      refine zw_iload_n (n := 49) d161_48 rfl rfl ?_
      obtain ⟨hi, h⟩ := h
      have hb4 := zb_5_3 hS (vp_lt hi)
      refine zw_aald (n := 50) d161_49 rfl (za_5_3 hS).1 (za_5_3 hS).2 (by decide) hi hb4.1 ?_
      refine zw_iload_n (n := 51) d161_50 rfl rfl ?_
      refine zw_aload_n (n := 52) d161_51 rfl rfl ?_
      refine zw_getr (n := 55) d161_52 rfl (zj_5 hS).1 (zj_5 hS).2 (zr_5_1 hS) ?_
      refine zw_iload_n (n := 56) d161_55 rfl rfl ?_
      obtain ⟨hi, h⟩ := h
      refine zw_iald (n := 57) d161_56 rfl (za_5_1 hS).1 (za_5_1 hS).2 hi ?_
      refine zw_lload_n (n := 58) d161_57 rfl rfl rfl ?_
      refine zw_cL (n := 61) d161_58 (zs_S rfl rfl rfl rfl) (by rw [ml_163]; rfl) (by decide) rfl (zc_mL h (fun r5 C5 h => ?_))
      obtain ⟨hi, h⟩ := h
      refine zw_last (n := 62) d161_61 rfl hb4.2.1 hb4.2.2 hi ?_
      refine zw_iconst (n := 63) d161_62 rfl zk_i_1 ?_
      exact zw_iret d161_63 rfl ⟨_, rfl, h⟩
  · skip
    refine zw_aload_n (n := 13) d161_12 rfl rfl ?_
    refine zw_iload (n := 15) d161_13 rfl rfl ?_
    refine zw_cI (n := 18) d161_15 (zs_V rfl rfl rfl rfl (by decide) (zj_5 hS).1 (zq_5 hS)) (by rw [ml_160]; rfl) (by decide) rfl (zc_mI h (fun r6 C6 h => ?_))
    exact zw_iret d161_18 rfl ⟨_, rfl, h⟩

set_option maxRecDepth 20000 in
theorem zf162 (pc : Nat) : zt_code 162 pc = zt_fd zl_162 pc := rfl
theorem d162_0 : zt_code 162 0 = some (.iload_n 1, 0, 0, 0) := (zf162 0).trans rfl
theorem d162_1 : zt_code 162 1 = some (.i2l, 0, 0, 0) := (zf162 1).trans rfl
theorem d162_2 : zt_code 162 2 = some (.lconst 0, 0, 0, 0) := (zf162 2).trans rfl
theorem d162_3 : zt_code 162 3 = some (.ldc2_w 101, 0, 0, 7) := (zf162 3).trans rfl
theorem d162_6 : zt_code 162 6 = some (.invokestatic 94, 159, 3, -1) := (zf162 6).trans rfl
theorem d162_9 : zt_code 162 9 = some (.ifCond .ne (6), 0, 15, 0) := (zf162 9).trans rfl
theorem d162_12 : zt_code 162 12 = some (.bipush (-2), 0, 0, 0) := (zf162 12).trans rfl
theorem d162_14 : zt_code 162 14 = some (.ireturn, 0, 0, 0) := (zf162 14).trans rfl
theorem d162_15 : zt_code 162 15 = some (.aload_n 0, 0, 0, 0) := (zf162 15).trans rfl
theorem d162_16 : zt_code 162 16 = some (.getfield 7, 5, 0, 1) := (zf162 16).trans rfl
theorem d162_19 : zt_code 162 19 = some (.iload_n 1, 0, 0, 0) := (zf162 19).trans rfl
theorem d162_20 : zt_code 162 20 = some (.iaload, 0, 0, 0) := (zf162 20).trans rfl
theorem d162_21 : zt_code 162 21 = some (.iconst (2), 0, 0, 0) := (zf162 21).trans rfl
theorem d162_22 : zt_code 162 22 = some (.if_icmp .ne (8), 0, 30, 0) := (zf162 22).trans rfl
theorem d162_25 : zt_code 162 25 = some (.bipush (-3), 0, 0, 0) := (zf162 25).trans rfl
theorem d162_27 : zt_code 162 27 = some (.goto (18), 0, 45, 0) := (zf162 27).trans rfl
theorem d162_30 : zt_code 162 30 = some (.aload_n 0, 0, 0, 0) := (zf162 30).trans rfl
theorem d162_31 : zt_code 162 31 = some (.getfield 7, 5, 0, 1) := (zf162 31).trans rfl
theorem d162_34 : zt_code 162 34 = some (.iload_n 1, 0, 0, 0) := (zf162 34).trans rfl
theorem d162_35 : zt_code 162 35 = some (.iaload, 0, 0, 0) := (zf162 35).trans rfl
theorem d162_36 : zt_code 162 36 = some (.ifCond .ne (8), 0, 44, 0) := (zf162 36).trans rfl
theorem d162_39 : zt_code 162 39 = some (.bipush (-4), 0, 0, 0) := (zf162 39).trans rfl
theorem d162_41 : zt_code 162 41 = some (.goto (4), 0, 45, 0) := (zf162 41).trans rfl
theorem d162_44 : zt_code 162 44 = some (.iconst (0), 0, 0, 0) := (zf162 44).trans rfl
theorem d162_45 : zt_code 162 45 = some (.ireturn, 0, 0, 0) := (zf162 45).trans rfl
/-- FirstAtTheFirstModel.noRow(I)I -/
theorem vc162 {X : zX} {S : zx_S} {C : zx_C} {q : Int32 → zx_C → Prop} {e : Nat} {a1 : Int32} (hS : zs_5 S e) (h : zCd X 0 159 [.long (Int32.toInt64 a1), .long 0, .long 7] S C (zQi (fun r1 C1 => if (r1 : Int32) = 0 then (q (-2) C1) else (vp_in a1 8 ∧ (if ((C1.1 (e + 1) (Int32.toNatClampNeg a1)) : Int32) = 2 then (q (-3) C1) else (vp_in a1 8 ∧ (if ((C1.1 (e + 1) (Int32.toNatClampNeg a1)) : Int32) = 0 then (q (-4) C1) else (q 0 C1)))))))) : zCd X 1 162 [.ref e, .int a1] S C (zQi q) := by
  refine zc_in ml_162 rfl ?_
  refine zw_iload_n (n := 1) d162_0 rfl rfl ?_
  refine zw_i2l (n := 2) d162_1 rfl ?_
  refine zw_lconst (n := 3) d162_2 rfl zk_c_0 ?_
  refine zw_ldc2 (n := 6) d162_3 rfl zk_l_7 ?_
  refine zw_cI (n := 9) d162_6 (zs_S rfl rfl rfl rfl) (by rw [ml_159]; rfl) (by decide) rfl (zc_mI h (fun r1 C1 h => ?_))
  refine zw_if_ne (n := 12) d162_9 rfl (zite h (fun h => ?_) (fun h => ?_))
  · skip
    refine zw_bipush (n := 14) d162_12 rfl zk_b_m2 ?_
    exact zw_iret d162_14 rfl ⟨_, rfl, h⟩
  · skip
    refine zw_aload_n (n := 16) d162_15 rfl rfl ?_
    refine zw_getr (n := 19) d162_16 rfl (zj_5 hS).1 (zj_5 hS).2 (zr_5_0 hS) ?_
    refine zw_iload_n (n := 20) d162_19 rfl rfl ?_
    obtain ⟨hi, h⟩ := h
    refine zw_iald (n := 21) d162_20 rfl (za_5_0 hS).1 (za_5_0 hS).2 hi ?_
    refine zw_iconst (n := 22) d162_21 rfl zk_i_2 ?_
    refine zw_ic_ne (n := 25) d162_22 rfl (zite h (fun h => ?_) (fun h => ?_))
    · skip
      refine zw_bipush (n := 27) d162_25 rfl zk_b_m3 ?_
      refine zw_goto d162_27 ?_
      exact zw_iret d162_45 rfl ⟨_, rfl, h⟩
    · skip
      refine zw_aload_n (n := 31) d162_30 rfl rfl ?_
      refine zw_getr (n := 34) d162_31 rfl (zj_5 hS).1 (zj_5 hS).2 (zr_5_0 hS) ?_
      refine zw_iload_n (n := 35) d162_34 rfl rfl ?_
      obtain ⟨hi, h⟩ := h
      refine zw_iald (n := 36) d162_35 rfl (za_5_0 hS).1 (za_5_0 hS).2 hi ?_
      refine zw_if_ne (n := 39) d162_36 rfl (zite h (fun h => ?_) (fun h => ?_))
      · skip
        refine zw_bipush (n := 41) d162_39 rfl zk_b_m4 ?_
        refine zw_goto d162_41 ?_
        exact zw_iret d162_45 rfl ⟨_, rfl, h⟩
      · skip
        refine zw_iconst (n := 45) d162_44 rfl zk_i_0 ?_
        exact zw_iret d162_45 rfl ⟨_, rfl, h⟩

set_option maxRecDepth 20000 in
theorem zf163 (pc : Nat) : zt_code 163 pc = zt_fd zl_163 pc := rfl
theorem d163_0 : zt_code 163 0 = some (.iload_n 0, 0, 0, 0) := (zf163 0).trans rfl
theorem d163_1 : zt_code 163 1 = some (.tableswitch (47) (0) (3) #[31, 36, 41, 45], 0, 0, 0) := (zf163 1).trans rfl
theorem d163_32 : zt_code 163 32 = some (.lload_n 1, 0, 0, 0) := (zf163 32).trans rfl
theorem d163_33 : zt_code 163 33 = some (.l2i, 0, 0, 0) := (zf163 33).trans rfl
theorem d163_34 : zt_code 163 34 = some (.i2b, 0, 0, 0) := (zf163 34).trans rfl
theorem d163_35 : zt_code 163 35 = some (.i2l, 0, 0, 0) := (zf163 35).trans rfl
theorem d163_36 : zt_code 163 36 = some (.lreturn, 0, 0, 0) := (zf163 36).trans rfl
theorem d163_37 : zt_code 163 37 = some (.lload_n 1, 0, 0, 0) := (zf163 37).trans rfl
theorem d163_38 : zt_code 163 38 = some (.l2i, 0, 0, 0) := (zf163 38).trans rfl
theorem d163_39 : zt_code 163 39 = some (.i2s, 0, 0, 0) := (zf163 39).trans rfl
theorem d163_40 : zt_code 163 40 = some (.i2l, 0, 0, 0) := (zf163 40).trans rfl
theorem d163_41 : zt_code 163 41 = some (.lreturn, 0, 0, 0) := (zf163 41).trans rfl
theorem d163_42 : zt_code 163 42 = some (.lload_n 1, 0, 0, 0) := (zf163 42).trans rfl
theorem d163_43 : zt_code 163 43 = some (.l2i, 0, 0, 0) := (zf163 43).trans rfl
theorem d163_44 : zt_code 163 44 = some (.i2l, 0, 0, 0) := (zf163 44).trans rfl
theorem d163_45 : zt_code 163 45 = some (.lreturn, 0, 0, 0) := (zf163 45).trans rfl
theorem d163_46 : zt_code 163 46 = some (.lload_n 1, 0, 0, 0) := (zf163 46).trans rfl
theorem d163_47 : zt_code 163 47 = some (.lreturn, 0, 0, 0) := (zf163 47).trans rfl
theorem d163_48 : zt_code 163 48 = some (.lload_n 1, 0, 0, 0) := (zf163 48).trans rfl
theorem d163_49 : zt_code 163 49 = some (.lconst 0, 0, 0, 0) := (zf163 49).trans rfl
theorem d163_50 : zt_code 163 50 = some (.lcmp, 0, 0, 0) := (zf163 50).trans rfl
theorem d163_51 : zt_code 163 51 = some (.ifCond .eq (7), 0, 58, 0) := (zf163 51).trans rfl
theorem d163_54 : zt_code 163 54 = some (.lconst 1, 0, 0, 0) := (zf163 54).trans rfl
theorem d163_55 : zt_code 163 55 = some (.goto (4), 0, 59, 0) := (zf163 55).trans rfl
theorem d163_58 : zt_code 163 58 = some (.lconst 0, 0, 0, 0) := (zf163 58).trans rfl
theorem d163_59 : zt_code 163 59 = some (.lreturn, 0, 0, 0) := (zf163 59).trans rfl
/-- FirstAtTheFirstModel.fit(IJ)J -/
theorem vc163 {X : zX} {S : zx_S} {C : zx_C} {q : Int64 → zx_C → Prop} {a1 : Int32} {a2 : Int64}  (h : if Int32.toInt a1 = 0 then (q (Int32.toInt64 (Int8.toInt32 (Int32.toInt8 (Int64.toInt32 a2)))) C) else (if Int32.toInt a1 = 0 + 1 then (q (Int32.toInt64 (Int16.toInt32 (Int32.toInt16 (Int64.toInt32 a2)))) C) else (if Int32.toInt a1 = 0 + 1 + 1 then (q (Int32.toInt64 (Int64.toInt32 a2)) C) else (if Int32.toInt a1 = 0 + 1 + 1 + 1 then (q a2 C) else (if ((lg_cmp a2 0) : Int32) = 0 then (q 0 C) else (q 1 C)))))) : zCd X 0 163 [.int a1, .long a2] S C (zQl q) := by
  refine zc_in ml_163 rfl ?_
  refine zw_iload_n (n := 1) d163_0 rfl rfl ?_
  refine zw_tsw d163_1 rfl ?_
  refine zw_sw1 (t := 32) rfl (zite h (fun h => ?_) (fun h => ?_))
  · skip
    refine zw_lload_n (n := 33) d163_32 rfl rfl rfl ?_
    refine zw_l2i (n := 34) d163_33 rfl ?_
    refine zw_i2b (n := 35) d163_34 rfl ?_
    refine zw_i2l (n := 36) d163_35 rfl ?_
    exact zw_lret d163_36 ⟨_, rfl, h⟩
  · skip
    refine zw_sw1 (t := 37) rfl (zite h (fun h => ?_) (fun h => ?_))
    · skip
      refine zw_lload_n (n := 38) d163_37 rfl rfl rfl ?_
      refine zw_l2i (n := 39) d163_38 rfl ?_
      refine zw_i2s (n := 40) d163_39 rfl ?_
      refine zw_i2l (n := 41) d163_40 rfl ?_
      exact zw_lret d163_41 ⟨_, rfl, h⟩
    · skip
      refine zw_sw1 (t := 42) rfl (zite h (fun h => ?_) (fun h => ?_))
      · skip
        refine zw_lload_n (n := 43) d163_42 rfl rfl rfl ?_
        refine zw_l2i (n := 44) d163_43 rfl ?_
        refine zw_i2l (n := 45) d163_44 rfl ?_
        exact zw_lret d163_45 ⟨_, rfl, h⟩
      · skip
        refine zw_sw1 (t := 46) rfl (zite h (fun h => ?_) (fun h => ?_))
        · skip
          refine zw_lload_n (n := 47) d163_46 rfl rfl rfl ?_
          exact zw_lret d163_47 ⟨_, rfl, h⟩
        · skip
          refine zw_sw0 (t := 48) rfl ?_
          refine zw_lload_n (n := 49) d163_48 rfl rfl rfl ?_
          refine zw_lconst (n := 50) d163_49 rfl zk_c_0 ?_
          refine zw_lcmp (n := 51) d163_50 rfl ?_
          refine zw_if_eq (n := 54) d163_51 rfl (zite h (fun h => ?_) (fun h => ?_))
          · skip
            refine zw_lconst (n := 59) d163_58 rfl zk_c_0 ?_
            exact zw_lret d163_59 ⟨_, rfl, h⟩
          · skip
            refine zw_lconst (n := 55) d163_54 rfl zk_c_1 ?_
            refine zw_goto d163_55 ?_
            exact zw_lret d163_59 ⟨_, rfl, h⟩

set_option maxRecDepth 20000 in
theorem zf164 (pc : Nat) : zt_code 164 pc = zt_fd zl_164 pc := rfl
theorem d164_0 : zt_code 164 0 = some (.iload_n 1, 0, 0, 0) := (zf164 0).trans rfl
theorem d164_1 : zt_code 164 1 = some (.i2l, 0, 0, 0) := (zf164 1).trans rfl
theorem d164_2 : zt_code 164 2 = some (.lconst 0, 0, 0, 0) := (zf164 2).trans rfl
theorem d164_3 : zt_code 164 3 = some (.ldc2_w 101, 0, 0, 7) := (zf164 3).trans rfl
theorem d164_6 : zt_code 164 6 = some (.invokestatic 94, 159, 3, -1) := (zf164 6).trans rfl
theorem d164_9 : zt_code 164 9 = some (.ifCond .eq (15), 0, 24, 0) := (zf164 9).trans rfl
theorem d164_12 : zt_code 164 12 = some (.iload_n 2, 0, 0, 0) := (zf164 12).trans rfl
theorem d164_13 : zt_code 164 13 = some (.i2l, 0, 0, 0) := (zf164 13).trans rfl
theorem d164_14 : zt_code 164 14 = some (.lconst 0, 0, 0, 0) := (zf164 14).trans rfl
theorem d164_15 : zt_code 164 15 = some (.ldc2_w 101, 0, 0, 7) := (zf164 15).trans rfl
theorem d164_18 : zt_code 164 18 = some (.invokestatic 94, 159, 3, -1) := (zf164 18).trans rfl
theorem d164_21 : zt_code 164 21 = some (.ifCond .ne (10), 0, 31, 0) := (zf164 21).trans rfl
theorem d164_24 : zt_code 164 24 = some (.aload_n 0, 0, 0, 0) := (zf164 24).trans rfl
theorem d164_25 : zt_code 164 25 = some (.bipush (-2), 0, 0, 0) := (zf164 25).trans rfl
theorem d164_27 : zt_code 164 27 = some (.invokevirtual 107, 160, 2, 5) := (zf164 27).trans rfl
theorem d164_30 : zt_code 164 30 = some (.ireturn, 0, 0, 0) := (zf164 30).trans rfl
theorem d164_31 : zt_code 164 31 = some (.aload_n 0, 0, 0, 0) := (zf164 31).trans rfl
theorem d164_32 : zt_code 164 32 = some (.getfield 7, 5, 0, 1) := (zf164 32).trans rfl
theorem d164_35 : zt_code 164 35 = some (.iload_n 1, 0, 0, 0) := (zf164 35).trans rfl
theorem d164_36 : zt_code 164 36 = some (.iaload, 0, 0, 0) := (zf164 36).trans rfl
theorem d164_37 : zt_code 164 37 = some (.iconst (2), 0, 0, 0) := (zf164 37).trans rfl
theorem d164_38 : zt_code 164 38 = some (.if_icmp .eq (48), 0, 86, 0) := (zf164 38).trans rfl
theorem d164_41 : zt_code 164 41 = some (.aload_n 0, 0, 0, 0) := (zf164 41).trans rfl
theorem d164_42 : zt_code 164 42 = some (.getfield 7, 5, 0, 1) := (zf164 42).trans rfl
theorem d164_45 : zt_code 164 45 = some (.iload_n 2, 0, 0, 0) := (zf164 45).trans rfl
theorem d164_46 : zt_code 164 46 = some (.iaload, 0, 0, 0) := (zf164 46).trans rfl
theorem d164_47 : zt_code 164 47 = some (.iconst (2), 0, 0, 0) := (zf164 47).trans rfl
theorem d164_48 : zt_code 164 48 = some (.if_icmp .eq (38), 0, 86, 0) := (zf164 48).trans rfl
theorem d164_51 : zt_code 164 51 = some (.aload_n 0, 0, 0, 0) := (zf164 51).trans rfl
theorem d164_52 : zt_code 164 52 = some (.getfield 7, 5, 0, 1) := (zf164 52).trans rfl
theorem d164_55 : zt_code 164 55 = some (.iload_n 1, 0, 0, 0) := (zf164 55).trans rfl
theorem d164_56 : zt_code 164 56 = some (.iaload, 0, 0, 0) := (zf164 56).trans rfl
theorem d164_57 : zt_code 164 57 = some (.iconst (1), 0, 0, 0) := (zf164 57).trans rfl
theorem d164_58 : zt_code 164 58 = some (.if_icmp .ne (35), 0, 93, 0) := (zf164 58).trans rfl
theorem d164_61 : zt_code 164 61 = some (.aload_n 0, 0, 0, 0) := (zf164 61).trans rfl
theorem d164_62 : zt_code 164 62 = some (.getfield 7, 5, 0, 1) := (zf164 62).trans rfl
theorem d164_65 : zt_code 164 65 = some (.iload_n 2, 0, 0, 0) := (zf164 65).trans rfl
theorem d164_66 : zt_code 164 66 = some (.iaload, 0, 0, 0) := (zf164 66).trans rfl
theorem d164_67 : zt_code 164 67 = some (.iconst (1), 0, 0, 0) := (zf164 67).trans rfl
theorem d164_68 : zt_code 164 68 = some (.if_icmp .ne (25), 0, 93, 0) := (zf164 68).trans rfl
theorem d164_71 : zt_code 164 71 = some (.aload_n 0, 0, 0, 0) := (zf164 71).trans rfl
theorem d164_72 : zt_code 164 72 = some (.getfield 13, 5, 1, 1) := (zf164 72).trans rfl
theorem d164_75 : zt_code 164 75 = some (.iload_n 1, 0, 0, 0) := (zf164 75).trans rfl
theorem d164_76 : zt_code 164 76 = some (.iaload, 0, 0, 0) := (zf164 76).trans rfl
theorem d164_77 : zt_code 164 77 = some (.aload_n 0, 0, 0, 0) := (zf164 77).trans rfl
theorem d164_78 : zt_code 164 78 = some (.getfield 13, 5, 1, 1) := (zf164 78).trans rfl
theorem d164_81 : zt_code 164 81 = some (.iload_n 2, 0, 0, 0) := (zf164 81).trans rfl
theorem d164_82 : zt_code 164 82 = some (.iaload, 0, 0, 0) := (zf164 82).trans rfl
theorem d164_83 : zt_code 164 83 = some (.if_icmp .eq (10), 0, 93, 0) := (zf164 83).trans rfl
theorem d164_86 : zt_code 164 86 = some (.aload_n 0, 0, 0, 0) := (zf164 86).trans rfl
theorem d164_87 : zt_code 164 87 = some (.bipush (-3), 0, 0, 0) := (zf164 87).trans rfl
theorem d164_89 : zt_code 164 89 = some (.invokevirtual 107, 160, 2, 5) := (zf164 89).trans rfl
theorem d164_92 : zt_code 164 92 = some (.ireturn, 0, 0, 0) := (zf164 92).trans rfl
theorem d164_93 : zt_code 164 93 = some (.aload_n 0, 0, 0, 0) := (zf164 93).trans rfl
theorem d164_94 : zt_code 164 94 = some (.getfield 7, 5, 0, 1) := (zf164 94).trans rfl
theorem d164_97 : zt_code 164 97 = some (.iload_n 1, 0, 0, 0) := (zf164 97).trans rfl
theorem d164_98 : zt_code 164 98 = some (.iaload, 0, 0, 0) := (zf164 98).trans rfl
theorem d164_99 : zt_code 164 99 = some (.ifCond .eq (12), 0, 111, 0) := (zf164 99).trans rfl
theorem d164_102 : zt_code 164 102 = some (.aload_n 0, 0, 0, 0) := (zf164 102).trans rfl
theorem d164_103 : zt_code 164 103 = some (.getfield 7, 5, 0, 1) := (zf164 103).trans rfl
theorem d164_106 : zt_code 164 106 = some (.iload_n 2, 0, 0, 0) := (zf164 106).trans rfl
theorem d164_107 : zt_code 164 107 = some (.iaload, 0, 0, 0) := (zf164 107).trans rfl
theorem d164_108 : zt_code 164 108 = some (.ifCond .ne (10), 0, 118, 0) := (zf164 108).trans rfl
theorem d164_111 : zt_code 164 111 = some (.aload_n 0, 0, 0, 0) := (zf164 111).trans rfl
theorem d164_112 : zt_code 164 112 = some (.bipush (-4), 0, 0, 0) := (zf164 112).trans rfl
theorem d164_114 : zt_code 164 114 = some (.invokevirtual 107, 160, 2, 5) := (zf164 114).trans rfl
theorem d164_117 : zt_code 164 117 = some (.ireturn, 0, 0, 0) := (zf164 117).trans rfl
theorem d164_118 : zt_code 164 118 = some (.iload 5, 0, 0, 0) := (zf164 118).trans rfl
theorem d164_120 : zt_code 164 120 = some (.ifCond .lt (61), 0, 181, 0) := (zf164 120).trans rfl
theorem d164_123 : zt_code 164 123 = some (.iload_n 3, 0, 0, 0) := (zf164 123).trans rfl
theorem d164_124 : zt_code 164 124 = some (.ifCond .lt (57), 0, 181, 0) := (zf164 124).trans rfl
theorem d164_127 : zt_code 164 127 = some (.iload 4, 0, 0, 0) := (zf164 127).trans rfl
theorem d164_129 : zt_code 164 129 = some (.ifCond .lt (52), 0, 181, 0) := (zf164 129).trans rfl
theorem d164_132 : zt_code 164 132 = some (.iload 5, 0, 0, 0) := (zf164 132).trans rfl
theorem d164_134 : zt_code 164 134 = some (.aload_n 0, 0, 0, 0) := (zf164 134).trans rfl
theorem d164_135 : zt_code 164 135 = some (.getfield 16, 5, 2, 1) := (zf164 135).trans rfl
theorem d164_138 : zt_code 164 138 = some (.iload_n 1, 0, 0, 0) := (zf164 138).trans rfl
theorem d164_139 : zt_code 164 139 = some (.iaload, 0, 0, 0) := (zf164 139).trans rfl
theorem d164_140 : zt_code 164 140 = some (.if_icmp .gt (41), 0, 181, 0) := (zf164 140).trans rfl
theorem d164_143 : zt_code 164 143 = some (.iload 5, 0, 0, 0) := (zf164 143).trans rfl
theorem d164_145 : zt_code 164 145 = some (.aload_n 0, 0, 0, 0) := (zf164 145).trans rfl
theorem d164_146 : zt_code 164 146 = some (.getfield 16, 5, 2, 1) := (zf164 146).trans rfl
theorem d164_149 : zt_code 164 149 = some (.iload_n 2, 0, 0, 0) := (zf164 149).trans rfl
theorem d164_150 : zt_code 164 150 = some (.iaload, 0, 0, 0) := (zf164 150).trans rfl
theorem d164_151 : zt_code 164 151 = some (.if_icmp .gt (30), 0, 181, 0) := (zf164 151).trans rfl
theorem d164_154 : zt_code 164 154 = some (.iload_n 3, 0, 0, 0) := (zf164 154).trans rfl
theorem d164_155 : zt_code 164 155 = some (.aload_n 0, 0, 0, 0) := (zf164 155).trans rfl
theorem d164_156 : zt_code 164 156 = some (.getfield 16, 5, 2, 1) := (zf164 156).trans rfl
theorem d164_159 : zt_code 164 159 = some (.iload_n 1, 0, 0, 0) := (zf164 159).trans rfl
theorem d164_160 : zt_code 164 160 = some (.iaload, 0, 0, 0) := (zf164 160).trans rfl
theorem d164_161 : zt_code 164 161 = some (.iload 5, 0, 0, 0) := (zf164 161).trans rfl
theorem d164_163 : zt_code 164 163 = some (.isub, 0, 0, 0) := (zf164 163).trans rfl
theorem d164_164 : zt_code 164 164 = some (.if_icmp .gt (17), 0, 181, 0) := (zf164 164).trans rfl
theorem d164_167 : zt_code 164 167 = some (.iload 4, 0, 0, 0) := (zf164 167).trans rfl
theorem d164_169 : zt_code 164 169 = some (.aload_n 0, 0, 0, 0) := (zf164 169).trans rfl
theorem d164_170 : zt_code 164 170 = some (.getfield 16, 5, 2, 1) := (zf164 170).trans rfl
theorem d164_173 : zt_code 164 173 = some (.iload_n 2, 0, 0, 0) := (zf164 173).trans rfl
theorem d164_174 : zt_code 164 174 = some (.iaload, 0, 0, 0) := (zf164 174).trans rfl
theorem d164_175 : zt_code 164 175 = some (.iload 5, 0, 0, 0) := (zf164 175).trans rfl
theorem d164_177 : zt_code 164 177 = some (.isub, 0, 0, 0) := (zf164 177).trans rfl
theorem d164_178 : zt_code 164 178 = some (.if_icmp .le (10), 0, 188, 0) := (zf164 178).trans rfl
theorem d164_181 : zt_code 164 181 = some (.aload_n 0, 0, 0, 0) := (zf164 181).trans rfl
theorem d164_182 : zt_code 164 182 = some (.bipush (-2), 0, 0, 0) := (zf164 182).trans rfl
theorem d164_184 : zt_code 164 184 = some (.invokevirtual 107, 160, 2, 5) := (zf164 184).trans rfl
theorem d164_187 : zt_code 164 187 = some (.ireturn, 0, 0, 0) := (zf164 187).trans rfl
theorem d164_188 : zt_code 164 188 = some (.iconst (0), 0, 0, 0) := (zf164 188).trans rfl
theorem d164_189 : zt_code 164 189 = some (.istore 6, 0, 0, 0) := (zf164 189).trans rfl
theorem d164_191 : zt_code 164 191 = some (.iload 6, 0, 0, 0) := (zf164 191).trans rfl
theorem d164_193 : zt_code 164 193 = some (.iload 5, 0, 0, 0) := (zf164 193).trans rfl
theorem d164_195 : zt_code 164 195 = some (.if_icmp .ge (27), 0, 222, 0) := (zf164 195).trans rfl
theorem d164_198 : zt_code 164 198 = some (.aload_n 0, 0, 0, 0) := (zf164 198).trans rfl
theorem d164_199 : zt_code 164 199 = some (.getfield 24, 5, 4, 1) := (zf164 199).trans rfl
theorem d164_202 : zt_code 164 202 = some (.iload 6, 0, 0, 0) := (zf164 202).trans rfl
theorem d164_204 : zt_code 164 204 = some (.aload_n 0, 0, 0, 0) := (zf164 204).trans rfl
theorem d164_205 : zt_code 164 205 = some (.getfield 21, 5, 3, 1) := (zf164 205).trans rfl
theorem d164_208 : zt_code 164 208 = some (.iload_n 1, 0, 0, 0) := (zf164 208).trans rfl
theorem d164_209 : zt_code 164 209 = some (.aaload, 0, 0, 0) := (zf164 209).trans rfl
theorem d164_210 : zt_code 164 210 = some (.iload_n 3, 0, 0, 0) := (zf164 210).trans rfl
theorem d164_211 : zt_code 164 211 = some (.iload 6, 0, 0, 0) := (zf164 211).trans rfl
theorem d164_213 : zt_code 164 213 = some (.iadd, 0, 0, 0) := (zf164 213).trans rfl
theorem d164_214 : zt_code 164 214 = some (.laload, 0, 0, 0) := (zf164 214).trans rfl
theorem d164_215 : zt_code 164 215 = some (.lastore, 0, 0, 0) := (zf164 215).trans rfl
theorem d164_216 : zt_code 164 216 = some (.iinc 6 (1), 0, 0, 0) := (zf164 216).trans rfl
theorem d164_219 : zt_code 164 219 = some (.goto (-28), 0, 191, 0) := (zf164 219).trans rfl
theorem d164_222 : zt_code 164 222 = some (.iconst (0), 0, 0, 0) := (zf164 222).trans rfl
theorem d164_223 : zt_code 164 223 = some (.istore 6, 0, 0, 0) := (zf164 223).trans rfl
theorem d164_225 : zt_code 164 225 = some (.iload 6, 0, 0, 0) := (zf164 225).trans rfl
theorem d164_227 : zt_code 164 227 = some (.iload 5, 0, 0, 0) := (zf164 227).trans rfl
theorem d164_229 : zt_code 164 229 = some (.if_icmp .ge (28), 0, 257, 0) := (zf164 229).trans rfl
theorem d164_232 : zt_code 164 232 = some (.aload_n 0, 0, 0, 0) := (zf164 232).trans rfl
theorem d164_233 : zt_code 164 233 = some (.getfield 21, 5, 3, 1) := (zf164 233).trans rfl
theorem d164_236 : zt_code 164 236 = some (.iload_n 2, 0, 0, 0) := (zf164 236).trans rfl
theorem d164_237 : zt_code 164 237 = some (.aaload, 0, 0, 0) := (zf164 237).trans rfl
theorem d164_238 : zt_code 164 238 = some (.iload 4, 0, 0, 0) := (zf164 238).trans rfl
theorem d164_240 : zt_code 164 240 = some (.iload 6, 0, 0, 0) := (zf164 240).trans rfl
theorem d164_242 : zt_code 164 242 = some (.iadd, 0, 0, 0) := (zf164 242).trans rfl
theorem d164_243 : zt_code 164 243 = some (.aload_n 0, 0, 0, 0) := (zf164 243).trans rfl
theorem d164_244 : zt_code 164 244 = some (.getfield 24, 5, 4, 1) := (zf164 244).trans rfl
theorem d164_247 : zt_code 164 247 = some (.iload 6, 0, 0, 0) := (zf164 247).trans rfl
theorem d164_249 : zt_code 164 249 = some (.laload, 0, 0, 0) := (zf164 249).trans rfl
theorem d164_250 : zt_code 164 250 = some (.lastore, 0, 0, 0) := (zf164 250).trans rfl
theorem d164_251 : zt_code 164 251 = some (.iinc 6 (1), 0, 0, 0) := (zf164 251).trans rfl
theorem d164_254 : zt_code 164 254 = some (.goto (-29), 0, 225, 0) := (zf164 254).trans rfl
theorem d164_257 : zt_code 164 257 = some (.iload 5, 0, 0, 0) := (zf164 257).trans rfl
theorem d164_259 : zt_code 164 259 = some (.ireturn, 0, 0, 0) := (zf164 259).trans rfl
/-- FirstAtTheFirstModel.copy(IIIII)I -/
theorem vc164 {X : zX} {S : zx_S} {C : zx_C} {q : Int32 → zx_C → Prop} {e : Nat} {a1 : Int32} {a2 : Int32} {a3 : Int32} {a4 : Int32} {a5 : Int32} (hS : zs_5 S e) (h : zCd X 0 159 [.long (Int32.toInt64 a1), .long 0, .long 7] S C (zQi (fun r1 C1 => if (r1 : Int32) = 0 then (zCd X 0 160 [.ref e, .int (-2)] S C1 (zQi (fun r2 C2 => q r2 C2))) else (zCd X 0 159 [.long (Int32.toInt64 a2), .long 0, .long 7] S C1 (zQi (fun r3 C3 => if (r3 : Int32) = 0 then (zCd X 0 160 [.ref e, .int (-2)] S C3 (zQi (fun r4 C4 => q r4 C4))) else (vp_in a1 8 ∧ (if ((C3.1 (e + 1) (Int32.toNatClampNeg a1)) : Int32) = 2 then (zCd X 0 160 [.ref e, .int (-3)] S C3 (zQi (fun r5 C5 => q r5 C5))) else (vp_in a2 8 ∧ (if ((C3.1 (e + 1) (Int32.toNatClampNeg a2)) : Int32) = 2 then (zCd X 0 160 [.ref e, .int (-3)] S C3 (zQi (fun r6 C6 => q r6 C6))) else (vp_in a1 8 ∧ (if ((C3.1 (e + 1) (Int32.toNatClampNeg a1)) : Int32) = 1 then (vp_in a2 8 ∧ (if ((C3.1 (e + 1) (Int32.toNatClampNeg a2)) : Int32) = 1 then (vp_in a1 8 ∧ (vp_in a2 8 ∧ (if ((C3.1 (e + 2) (Int32.toNatClampNeg a1)) : Int32) = (C3.1 (e + 2) (Int32.toNatClampNeg a2)) then (vp_in a1 8 ∧ (if ((C3.1 (e + 1) (Int32.toNatClampNeg a1)) : Int32) = 0 then (zCd X 0 160 [.ref e, .int (-4)] S C3 (zQi (fun r7 C7 => q r7 C7))) else (vp_in a2 8 ∧ (if ((C3.1 (e + 1) (Int32.toNatClampNeg a2)) : Int32) = 0 then (zCd X 0 160 [.ref e, .int (-4)] S C3 (zQi (fun r8 C8 => q r8 C8))) else (if (a5 : Int32) < 0 then (zCd X 0 160 [.ref e, .int (-2)] S C3 (zQi (fun r9 C9 => q r9 C9))) else (if (a3 : Int32) < 0 then (zCd X 0 160 [.ref e, .int (-2)] S C3 (zQi (fun r10 C10 => q r10 C10))) else (if (a4 : Int32) < 0 then (zCd X 0 160 [.ref e, .int (-2)] S C3 (zQi (fun r11 C11 => q r11 C11))) else (vp_in a1 8 ∧ (if ((C3.1 (e + 3) (Int32.toNatClampNeg a1)) : Int32) < a5 then (zCd X 0 160 [.ref e, .int (-2)] S C3 (zQi (fun r12 C12 => q r12 C12))) else (vp_in a2 8 ∧ (if ((C3.1 (e + 3) (Int32.toNatClampNeg a2)) : Int32) < a5 then (zCd X 0 160 [.ref e, .int (-2)] S C3 (zQi (fun r13 C13 => q r13 C13))) else (vp_in a1 8 ∧ (if (((C3.1 (e + 3) (Int32.toNatClampNeg a1)) - a5) : Int32) < a3 then (zCd X 0 160 [.ref e, .int (-2)] S C3 (zQi (fun r14 C14 => q r14 C14))) else (vp_in a2 8 ∧ (if (((C3.1 (e + 3) (Int32.toNatClampNeg a2)) - a5) : Int32) < a4 then (zCd X 0 160 [.ref e, .int (-2)] S C3 (zQi (fun r15 C15 => q r15 C15))) else (zW X 1 164 191 [.ref e, .int a1, .int a2, .int a3, .int a4, .int a5, .int 0] [] S C3 (zQi q))))))))))))))))) else (zCd X 0 160 [.ref e, .int (-3)] S C3 (zQi (fun r16 C16 => q r16 C16)))))) else (vp_in a1 8 ∧ (if ((C3.1 (e + 1) (Int32.toNatClampNeg a1)) : Int32) = 0 then (zCd X 0 160 [.ref e, .int (-4)] S C3 (zQi (fun r17 C17 => q r17 C17))) else (vp_in a2 8 ∧ (if ((C3.1 (e + 1) (Int32.toNatClampNeg a2)) : Int32) = 0 then (zCd X 0 160 [.ref e, .int (-4)] S C3 (zQi (fun r18 C18 => q r18 C18))) else (if (a5 : Int32) < 0 then (zCd X 0 160 [.ref e, .int (-2)] S C3 (zQi (fun r19 C19 => q r19 C19))) else (if (a3 : Int32) < 0 then (zCd X 0 160 [.ref e, .int (-2)] S C3 (zQi (fun r20 C20 => q r20 C20))) else (if (a4 : Int32) < 0 then (zCd X 0 160 [.ref e, .int (-2)] S C3 (zQi (fun r21 C21 => q r21 C21))) else (vp_in a1 8 ∧ (if ((C3.1 (e + 3) (Int32.toNatClampNeg a1)) : Int32) < a5 then (zCd X 0 160 [.ref e, .int (-2)] S C3 (zQi (fun r22 C22 => q r22 C22))) else (vp_in a2 8 ∧ (if ((C3.1 (e + 3) (Int32.toNatClampNeg a2)) : Int32) < a5 then (zCd X 0 160 [.ref e, .int (-2)] S C3 (zQi (fun r23 C23 => q r23 C23))) else (vp_in a1 8 ∧ (if (((C3.1 (e + 3) (Int32.toNatClampNeg a1)) - a5) : Int32) < a3 then (zCd X 0 160 [.ref e, .int (-2)] S C3 (zQi (fun r24 C24 => q r24 C24))) else (vp_in a2 8 ∧ (if (((C3.1 (e + 3) (Int32.toNatClampNeg a2)) - a5) : Int32) < a4 then (zCd X 0 160 [.ref e, .int (-2)] S C3 (zQi (fun r25 C25 => q r25 C25))) else (zW X 1 164 191 [.ref e, .int a1, .int a2, .int a3, .int a4, .int a5, .int 0] [] S C3 (zQi q))))))))))))))))))) else (vp_in a1 8 ∧ (if ((C3.1 (e + 1) (Int32.toNatClampNeg a1)) : Int32) = 0 then (zCd X 0 160 [.ref e, .int (-4)] S C3 (zQi (fun r26 C26 => q r26 C26))) else (vp_in a2 8 ∧ (if ((C3.1 (e + 1) (Int32.toNatClampNeg a2)) : Int32) = 0 then (zCd X 0 160 [.ref e, .int (-4)] S C3 (zQi (fun r27 C27 => q r27 C27))) else (if (a5 : Int32) < 0 then (zCd X 0 160 [.ref e, .int (-2)] S C3 (zQi (fun r28 C28 => q r28 C28))) else (if (a3 : Int32) < 0 then (zCd X 0 160 [.ref e, .int (-2)] S C3 (zQi (fun r29 C29 => q r29 C29))) else (if (a4 : Int32) < 0 then (zCd X 0 160 [.ref e, .int (-2)] S C3 (zQi (fun r30 C30 => q r30 C30))) else (vp_in a1 8 ∧ (if ((C3.1 (e + 3) (Int32.toNatClampNeg a1)) : Int32) < a5 then (zCd X 0 160 [.ref e, .int (-2)] S C3 (zQi (fun r31 C31 => q r31 C31))) else (vp_in a2 8 ∧ (if ((C3.1 (e + 3) (Int32.toNatClampNeg a2)) : Int32) < a5 then (zCd X 0 160 [.ref e, .int (-2)] S C3 (zQi (fun r32 C32 => q r32 C32))) else (vp_in a1 8 ∧ (if (((C3.1 (e + 3) (Int32.toNatClampNeg a1)) - a5) : Int32) < a3 then (zCd X 0 160 [.ref e, .int (-2)] S C3 (zQi (fun r33 C33 => q r33 C33))) else (vp_in a2 8 ∧ (if (((C3.1 (e + 3) (Int32.toNatClampNeg a2)) - a5) : Int32) < a4 then (zCd X 0 160 [.ref e, .int (-2)] S C3 (zQi (fun r34 C34 => q r34 C34))) else (zW X 1 164 191 [.ref e, .int a1, .int a2, .int a3, .int a4, .int a5, .int 0] [] S C3 (zQi q))))))))))))))))))))))))))))) : zCd X 1 164 [.ref e, .int a1, .int a2, .int a3, .int a4, .int a5] S C (zQi q) := by
  refine zc_in ml_164 rfl ?_
  refine zw_iload_n (n := 1) d164_0 rfl rfl ?_
  refine zw_i2l (n := 2) d164_1 rfl ?_
  refine zw_lconst (n := 3) d164_2 rfl zk_c_0 ?_
  refine zw_ldc2 (n := 6) d164_3 rfl zk_l_7 ?_
  refine zw_cI (n := 9) d164_6 (zs_S rfl rfl rfl rfl) (by rw [ml_159]; rfl) (by decide) rfl (zc_mI h (fun r1 C1 h => ?_))
  refine zw_if_eq (n := 12) d164_9 rfl (zite h (fun h => ?_) (fun h => ?_))
  · skip
    refine zw_aload_n (n := 25) d164_24 rfl rfl ?_
    refine zw_bipush (n := 27) d164_25 rfl zk_b_m2 ?_
    refine zw_cI (n := 30) d164_27 (zs_V rfl rfl rfl rfl (by decide) (zj_5 hS).1 (zq_5 hS)) (by rw [ml_160]; rfl) (by decide) rfl (zc_mI h (fun r2 C2 h => ?_))
    exact zw_iret d164_30 rfl ⟨_, rfl, h⟩
  · skip
    refine zw_iload_n (n := 13) d164_12 rfl rfl ?_
    refine zw_i2l (n := 14) d164_13 rfl ?_
    refine zw_lconst (n := 15) d164_14 rfl zk_c_0 ?_
    refine zw_ldc2 (n := 18) d164_15 rfl zk_l_7 ?_
    refine zw_cI (n := 21) d164_18 (zs_S rfl rfl rfl rfl) (by rw [ml_159]; rfl) (by decide) rfl (zc_mI h (fun r3 C3 h => ?_))
    refine zw_if_ne (n := 24) d164_21 rfl (zite h (fun h => ?_) (fun h => ?_))
    · skip
      refine zw_aload_n (n := 25) d164_24 rfl rfl ?_
      refine zw_bipush (n := 27) d164_25 rfl zk_b_m2 ?_
      refine zw_cI (n := 30) d164_27 (zs_V rfl rfl rfl rfl (by decide) (zj_5 hS).1 (zq_5 hS)) (by rw [ml_160]; rfl) (by decide) rfl (zc_mI h (fun r4 C4 h => ?_))
      exact zw_iret d164_30 rfl ⟨_, rfl, h⟩
    · skip
      refine zw_aload_n (n := 32) d164_31 rfl rfl ?_
      refine zw_getr (n := 35) d164_32 rfl (zj_5 hS).1 (zj_5 hS).2 (zr_5_0 hS) ?_
      refine zw_iload_n (n := 36) d164_35 rfl rfl ?_
      obtain ⟨hi, h⟩ := h
      refine zw_iald (n := 37) d164_36 rfl (za_5_0 hS).1 (za_5_0 hS).2 hi ?_
      refine zw_iconst (n := 38) d164_37 rfl zk_i_2 ?_
      refine zw_ic_eq (n := 41) d164_38 rfl (zite h (fun h => ?_) (fun h => ?_))
      · skip
        refine zw_aload_n (n := 87) d164_86 rfl rfl ?_
        refine zw_bipush (n := 89) d164_87 rfl zk_b_m3 ?_
        refine zw_cI (n := 92) d164_89 (zs_V rfl rfl rfl rfl (by decide) (zj_5 hS).1 (zq_5 hS)) (by rw [ml_160]; rfl) (by decide) rfl (zc_mI h (fun r5 C5 h => ?_))
        exact zw_iret d164_92 rfl ⟨_, rfl, h⟩
      · skip
        refine zw_aload_n (n := 42) d164_41 rfl rfl ?_
        refine zw_getr (n := 45) d164_42 rfl (zj_5 hS).1 (zj_5 hS).2 (zr_5_0 hS) ?_
        refine zw_iload_n (n := 46) d164_45 rfl rfl ?_
        obtain ⟨hi, h⟩ := h
        refine zw_iald (n := 47) d164_46 rfl (za_5_0 hS).1 (za_5_0 hS).2 hi ?_
        refine zw_iconst (n := 48) d164_47 rfl zk_i_2 ?_
        refine zw_ic_eq (n := 51) d164_48 rfl (zite h (fun h => ?_) (fun h => ?_))
        · skip
          refine zw_aload_n (n := 87) d164_86 rfl rfl ?_
          refine zw_bipush (n := 89) d164_87 rfl zk_b_m3 ?_
          refine zw_cI (n := 92) d164_89 (zs_V rfl rfl rfl rfl (by decide) (zj_5 hS).1 (zq_5 hS)) (by rw [ml_160]; rfl) (by decide) rfl (zc_mI h (fun r6 C6 h => ?_))
          exact zw_iret d164_92 rfl ⟨_, rfl, h⟩
        · skip
          refine zw_aload_n (n := 52) d164_51 rfl rfl ?_
          refine zw_getr (n := 55) d164_52 rfl (zj_5 hS).1 (zj_5 hS).2 (zr_5_0 hS) ?_
          refine zw_iload_n (n := 56) d164_55 rfl rfl ?_
          obtain ⟨hi, h⟩ := h
          refine zw_iald (n := 57) d164_56 rfl (za_5_0 hS).1 (za_5_0 hS).2 hi ?_
          refine zw_iconst (n := 58) d164_57 rfl zk_i_1 ?_
          refine zw_ic_ne (n := 61) d164_58 rfl (zite h (fun h => ?_) (fun h => ?_))
          · skip
            refine zw_aload_n (n := 62) d164_61 rfl rfl ?_
            refine zw_getr (n := 65) d164_62 rfl (zj_5 hS).1 (zj_5 hS).2 (zr_5_0 hS) ?_
            refine zw_iload_n (n := 66) d164_65 rfl rfl ?_
            obtain ⟨hi, h⟩ := h
            refine zw_iald (n := 67) d164_66 rfl (za_5_0 hS).1 (za_5_0 hS).2 hi ?_
            refine zw_iconst (n := 68) d164_67 rfl zk_i_1 ?_
            refine zw_ic_ne (n := 71) d164_68 rfl (zite h (fun h => ?_) (fun h => ?_))
            · skip
              refine zw_aload_n (n := 72) d164_71 rfl rfl ?_
              refine zw_getr (n := 75) d164_72 rfl (zj_5 hS).1 (zj_5 hS).2 (zr_5_1 hS) ?_
              refine zw_iload_n (n := 76) d164_75 rfl rfl ?_
              obtain ⟨hi, h⟩ := h
              refine zw_iald (n := 77) d164_76 rfl (za_5_1 hS).1 (za_5_1 hS).2 hi ?_
              refine zw_aload_n (n := 78) d164_77 rfl rfl ?_
              refine zw_getr (n := 81) d164_78 rfl (zj_5 hS).1 (zj_5 hS).2 (zr_5_1 hS) ?_
              refine zw_iload_n (n := 82) d164_81 rfl rfl ?_
              obtain ⟨hi, h⟩ := h
              refine zw_iald (n := 83) d164_82 rfl (za_5_1 hS).1 (za_5_1 hS).2 hi ?_
              refine zw_ic_eq (n := 86) d164_83 rfl (zite h (fun h => ?_) (fun h => ?_))
              · skip
                refine zw_aload_n (n := 94) d164_93 rfl rfl ?_
                refine zw_getr (n := 97) d164_94 rfl (zj_5 hS).1 (zj_5 hS).2 (zr_5_0 hS) ?_
                refine zw_iload_n (n := 98) d164_97 rfl rfl ?_
                obtain ⟨hi, h⟩ := h
                refine zw_iald (n := 99) d164_98 rfl (za_5_0 hS).1 (za_5_0 hS).2 hi ?_
                refine zw_if_eq (n := 102) d164_99 rfl (zite h (fun h => ?_) (fun h => ?_))
                · skip
                  refine zw_aload_n (n := 112) d164_111 rfl rfl ?_
                  refine zw_bipush (n := 114) d164_112 rfl zk_b_m4 ?_
                  refine zw_cI (n := 117) d164_114 (zs_V rfl rfl rfl rfl (by decide) (zj_5 hS).1 (zq_5 hS)) (by rw [ml_160]; rfl) (by decide) rfl (zc_mI h (fun r7 C7 h => ?_))
                  exact zw_iret d164_117 rfl ⟨_, rfl, h⟩
                · skip
                  refine zw_aload_n (n := 103) d164_102 rfl rfl ?_
                  refine zw_getr (n := 106) d164_103 rfl (zj_5 hS).1 (zj_5 hS).2 (zr_5_0 hS) ?_
                  refine zw_iload_n (n := 107) d164_106 rfl rfl ?_
                  obtain ⟨hi, h⟩ := h
                  refine zw_iald (n := 108) d164_107 rfl (za_5_0 hS).1 (za_5_0 hS).2 hi ?_
                  refine zw_if_ne (n := 111) d164_108 rfl (zite h (fun h => ?_) (fun h => ?_))
                  · skip
                    refine zw_aload_n (n := 112) d164_111 rfl rfl ?_
                    refine zw_bipush (n := 114) d164_112 rfl zk_b_m4 ?_
                    refine zw_cI (n := 117) d164_114 (zs_V rfl rfl rfl rfl (by decide) (zj_5 hS).1 (zq_5 hS)) (by rw [ml_160]; rfl) (by decide) rfl (zc_mI h (fun r8 C8 h => ?_))
                    exact zw_iret d164_117 rfl ⟨_, rfl, h⟩
                  · skip
                    refine zw_iload (n := 120) d164_118 rfl rfl ?_
                    refine zw_if_lt (n := 123) d164_120 rfl (zite h (fun h => ?_) (fun h => ?_))
                    · skip
                      refine zw_aload_n (n := 182) d164_181 rfl rfl ?_
                      refine zw_bipush (n := 184) d164_182 rfl zk_b_m2 ?_
                      refine zw_cI (n := 187) d164_184 (zs_V rfl rfl rfl rfl (by decide) (zj_5 hS).1 (zq_5 hS)) (by rw [ml_160]; rfl) (by decide) rfl (zc_mI h (fun r9 C9 h => ?_))
                      exact zw_iret d164_187 rfl ⟨_, rfl, h⟩
                    · skip
                      refine zw_iload_n (n := 124) d164_123 rfl rfl ?_
                      refine zw_if_lt (n := 127) d164_124 rfl (zite h (fun h => ?_) (fun h => ?_))
                      · skip
                        refine zw_aload_n (n := 182) d164_181 rfl rfl ?_
                        refine zw_bipush (n := 184) d164_182 rfl zk_b_m2 ?_
                        refine zw_cI (n := 187) d164_184 (zs_V rfl rfl rfl rfl (by decide) (zj_5 hS).1 (zq_5 hS)) (by rw [ml_160]; rfl) (by decide) rfl (zc_mI h (fun r10 C10 h => ?_))
                        exact zw_iret d164_187 rfl ⟨_, rfl, h⟩
                      · skip
                        refine zw_iload (n := 129) d164_127 rfl rfl ?_
                        refine zw_if_lt (n := 132) d164_129 rfl (zite h (fun h => ?_) (fun h => ?_))
                        · skip
                          refine zw_aload_n (n := 182) d164_181 rfl rfl ?_
                          refine zw_bipush (n := 184) d164_182 rfl zk_b_m2 ?_
                          refine zw_cI (n := 187) d164_184 (zs_V rfl rfl rfl rfl (by decide) (zj_5 hS).1 (zq_5 hS)) (by rw [ml_160]; rfl) (by decide) rfl (zc_mI h (fun r11 C11 h => ?_))
                          exact zw_iret d164_187 rfl ⟨_, rfl, h⟩
                        · skip
                          refine zw_iload (n := 134) d164_132 rfl rfl ?_
                          refine zw_aload_n (n := 135) d164_134 rfl rfl ?_
                          refine zw_getr (n := 138) d164_135 rfl (zj_5 hS).1 (zj_5 hS).2 (zr_5_2 hS) ?_
                          refine zw_iload_n (n := 139) d164_138 rfl rfl ?_
                          obtain ⟨hi, h⟩ := h
                          refine zw_iald (n := 140) d164_139 rfl (za_5_2 hS).1 (za_5_2 hS).2 hi ?_
                          refine zw_ic_gt (n := 143) d164_140 rfl (zite h (fun h => ?_) (fun h => ?_))
                          · skip
                            refine zw_aload_n (n := 182) d164_181 rfl rfl ?_
                            refine zw_bipush (n := 184) d164_182 rfl zk_b_m2 ?_
                            refine zw_cI (n := 187) d164_184 (zs_V rfl rfl rfl rfl (by decide) (zj_5 hS).1 (zq_5 hS)) (by rw [ml_160]; rfl) (by decide) rfl (zc_mI h (fun r12 C12 h => ?_))
                            exact zw_iret d164_187 rfl ⟨_, rfl, h⟩
                          · skip
                            refine zw_iload (n := 145) d164_143 rfl rfl ?_
                            refine zw_aload_n (n := 146) d164_145 rfl rfl ?_
                            refine zw_getr (n := 149) d164_146 rfl (zj_5 hS).1 (zj_5 hS).2 (zr_5_2 hS) ?_
                            refine zw_iload_n (n := 150) d164_149 rfl rfl ?_
                            obtain ⟨hi, h⟩ := h
                            refine zw_iald (n := 151) d164_150 rfl (za_5_2 hS).1 (za_5_2 hS).2 hi ?_
                            refine zw_ic_gt (n := 154) d164_151 rfl (zite h (fun h => ?_) (fun h => ?_))
                            · skip
                              refine zw_aload_n (n := 182) d164_181 rfl rfl ?_
                              refine zw_bipush (n := 184) d164_182 rfl zk_b_m2 ?_
                              refine zw_cI (n := 187) d164_184 (zs_V rfl rfl rfl rfl (by decide) (zj_5 hS).1 (zq_5 hS)) (by rw [ml_160]; rfl) (by decide) rfl (zc_mI h (fun r13 C13 h => ?_))
                              exact zw_iret d164_187 rfl ⟨_, rfl, h⟩
                            · skip
                              refine zw_iload_n (n := 155) d164_154 rfl rfl ?_
                              refine zw_aload_n (n := 156) d164_155 rfl rfl ?_
                              refine zw_getr (n := 159) d164_156 rfl (zj_5 hS).1 (zj_5 hS).2 (zr_5_2 hS) ?_
                              refine zw_iload_n (n := 160) d164_159 rfl rfl ?_
                              obtain ⟨hi, h⟩ := h
                              refine zw_iald (n := 161) d164_160 rfl (za_5_2 hS).1 (za_5_2 hS).2 hi ?_
                              refine zw_iload (n := 163) d164_161 rfl rfl ?_
                              refine zw_isub (n := 164) d164_163 rfl ?_
                              refine zw_ic_gt (n := 167) d164_164 rfl (zite h (fun h => ?_) (fun h => ?_))
                              · skip
                                refine zw_aload_n (n := 182) d164_181 rfl rfl ?_
                                refine zw_bipush (n := 184) d164_182 rfl zk_b_m2 ?_
                                refine zw_cI (n := 187) d164_184 (zs_V rfl rfl rfl rfl (by decide) (zj_5 hS).1 (zq_5 hS)) (by rw [ml_160]; rfl) (by decide) rfl (zc_mI h (fun r14 C14 h => ?_))
                                exact zw_iret d164_187 rfl ⟨_, rfl, h⟩
                              · skip
                                refine zw_iload (n := 169) d164_167 rfl rfl ?_
                                refine zw_aload_n (n := 170) d164_169 rfl rfl ?_
                                refine zw_getr (n := 173) d164_170 rfl (zj_5 hS).1 (zj_5 hS).2 (zr_5_2 hS) ?_
                                refine zw_iload_n (n := 174) d164_173 rfl rfl ?_
                                obtain ⟨hi, h⟩ := h
                                refine zw_iald (n := 175) d164_174 rfl (za_5_2 hS).1 (za_5_2 hS).2 hi ?_
                                refine zw_iload (n := 177) d164_175 rfl rfl ?_
                                refine zw_isub (n := 178) d164_177 rfl ?_
                                refine zw_ic_le (n := 181) d164_178 rfl (zite h (fun h => ?_) (fun h => ?_))
                                · skip
                                  refine zw_aload_n (n := 182) d164_181 rfl rfl ?_
                                  refine zw_bipush (n := 184) d164_182 rfl zk_b_m2 ?_
                                  refine zw_cI (n := 187) d164_184 (zs_V rfl rfl rfl rfl (by decide) (zj_5 hS).1 (zq_5 hS)) (by rw [ml_160]; rfl) (by decide) rfl (zc_mI h (fun r15 C15 h => ?_))
                                  exact zw_iret d164_187 rfl ⟨_, rfl, h⟩
                                · skip
                                  refine zw_iconst (n := 189) d164_188 rfl zk_i_0 ?_
                                  refine zw_istore (n := 191) d164_189 rfl rfl rfl ?_
                                  exact h
              · skip
                refine zw_aload_n (n := 87) d164_86 rfl rfl ?_
                refine zw_bipush (n := 89) d164_87 rfl zk_b_m3 ?_
                refine zw_cI (n := 92) d164_89 (zs_V rfl rfl rfl rfl (by decide) (zj_5 hS).1 (zq_5 hS)) (by rw [ml_160]; rfl) (by decide) rfl (zc_mI h (fun r16 C16 h => ?_))
                exact zw_iret d164_92 rfl ⟨_, rfl, h⟩
            · skip
              refine zw_aload_n (n := 94) d164_93 rfl rfl ?_
              refine zw_getr (n := 97) d164_94 rfl (zj_5 hS).1 (zj_5 hS).2 (zr_5_0 hS) ?_
              refine zw_iload_n (n := 98) d164_97 rfl rfl ?_
              obtain ⟨hi, h⟩ := h
              refine zw_iald (n := 99) d164_98 rfl (za_5_0 hS).1 (za_5_0 hS).2 hi ?_
              refine zw_if_eq (n := 102) d164_99 rfl (zite h (fun h => ?_) (fun h => ?_))
              · skip
                refine zw_aload_n (n := 112) d164_111 rfl rfl ?_
                refine zw_bipush (n := 114) d164_112 rfl zk_b_m4 ?_
                refine zw_cI (n := 117) d164_114 (zs_V rfl rfl rfl rfl (by decide) (zj_5 hS).1 (zq_5 hS)) (by rw [ml_160]; rfl) (by decide) rfl (zc_mI h (fun r17 C17 h => ?_))
                exact zw_iret d164_117 rfl ⟨_, rfl, h⟩
              · skip
                refine zw_aload_n (n := 103) d164_102 rfl rfl ?_
                refine zw_getr (n := 106) d164_103 rfl (zj_5 hS).1 (zj_5 hS).2 (zr_5_0 hS) ?_
                refine zw_iload_n (n := 107) d164_106 rfl rfl ?_
                obtain ⟨hi, h⟩ := h
                refine zw_iald (n := 108) d164_107 rfl (za_5_0 hS).1 (za_5_0 hS).2 hi ?_
                refine zw_if_ne (n := 111) d164_108 rfl (zite h (fun h => ?_) (fun h => ?_))
                · skip
                  refine zw_aload_n (n := 112) d164_111 rfl rfl ?_
                  refine zw_bipush (n := 114) d164_112 rfl zk_b_m4 ?_
                  refine zw_cI (n := 117) d164_114 (zs_V rfl rfl rfl rfl (by decide) (zj_5 hS).1 (zq_5 hS)) (by rw [ml_160]; rfl) (by decide) rfl (zc_mI h (fun r18 C18 h => ?_))
                  exact zw_iret d164_117 rfl ⟨_, rfl, h⟩
                · skip
                  refine zw_iload (n := 120) d164_118 rfl rfl ?_
                  refine zw_if_lt (n := 123) d164_120 rfl (zite h (fun h => ?_) (fun h => ?_))
                  · skip
                    refine zw_aload_n (n := 182) d164_181 rfl rfl ?_
                    refine zw_bipush (n := 184) d164_182 rfl zk_b_m2 ?_
                    refine zw_cI (n := 187) d164_184 (zs_V rfl rfl rfl rfl (by decide) (zj_5 hS).1 (zq_5 hS)) (by rw [ml_160]; rfl) (by decide) rfl (zc_mI h (fun r19 C19 h => ?_))
                    exact zw_iret d164_187 rfl ⟨_, rfl, h⟩
                  · skip
                    refine zw_iload_n (n := 124) d164_123 rfl rfl ?_
                    refine zw_if_lt (n := 127) d164_124 rfl (zite h (fun h => ?_) (fun h => ?_))
                    · skip
                      refine zw_aload_n (n := 182) d164_181 rfl rfl ?_
                      refine zw_bipush (n := 184) d164_182 rfl zk_b_m2 ?_
                      refine zw_cI (n := 187) d164_184 (zs_V rfl rfl rfl rfl (by decide) (zj_5 hS).1 (zq_5 hS)) (by rw [ml_160]; rfl) (by decide) rfl (zc_mI h (fun r20 C20 h => ?_))
                      exact zw_iret d164_187 rfl ⟨_, rfl, h⟩
                    · skip
                      refine zw_iload (n := 129) d164_127 rfl rfl ?_
                      refine zw_if_lt (n := 132) d164_129 rfl (zite h (fun h => ?_) (fun h => ?_))
                      · skip
                        refine zw_aload_n (n := 182) d164_181 rfl rfl ?_
                        refine zw_bipush (n := 184) d164_182 rfl zk_b_m2 ?_
                        refine zw_cI (n := 187) d164_184 (zs_V rfl rfl rfl rfl (by decide) (zj_5 hS).1 (zq_5 hS)) (by rw [ml_160]; rfl) (by decide) rfl (zc_mI h (fun r21 C21 h => ?_))
                        exact zw_iret d164_187 rfl ⟨_, rfl, h⟩
                      · skip
                        refine zw_iload (n := 134) d164_132 rfl rfl ?_
                        refine zw_aload_n (n := 135) d164_134 rfl rfl ?_
                        refine zw_getr (n := 138) d164_135 rfl (zj_5 hS).1 (zj_5 hS).2 (zr_5_2 hS) ?_
                        refine zw_iload_n (n := 139) d164_138 rfl rfl ?_
                        obtain ⟨hi, h⟩ := h
                        refine zw_iald (n := 140) d164_139 rfl (za_5_2 hS).1 (za_5_2 hS).2 hi ?_
                        refine zw_ic_gt (n := 143) d164_140 rfl (zite h (fun h => ?_) (fun h => ?_))
                        · skip
                          refine zw_aload_n (n := 182) d164_181 rfl rfl ?_
                          refine zw_bipush (n := 184) d164_182 rfl zk_b_m2 ?_
                          refine zw_cI (n := 187) d164_184 (zs_V rfl rfl rfl rfl (by decide) (zj_5 hS).1 (zq_5 hS)) (by rw [ml_160]; rfl) (by decide) rfl (zc_mI h (fun r22 C22 h => ?_))
                          exact zw_iret d164_187 rfl ⟨_, rfl, h⟩
                        · skip
                          refine zw_iload (n := 145) d164_143 rfl rfl ?_
                          refine zw_aload_n (n := 146) d164_145 rfl rfl ?_
                          refine zw_getr (n := 149) d164_146 rfl (zj_5 hS).1 (zj_5 hS).2 (zr_5_2 hS) ?_
                          refine zw_iload_n (n := 150) d164_149 rfl rfl ?_
                          obtain ⟨hi, h⟩ := h
                          refine zw_iald (n := 151) d164_150 rfl (za_5_2 hS).1 (za_5_2 hS).2 hi ?_
                          refine zw_ic_gt (n := 154) d164_151 rfl (zite h (fun h => ?_) (fun h => ?_))
                          · skip
                            refine zw_aload_n (n := 182) d164_181 rfl rfl ?_
                            refine zw_bipush (n := 184) d164_182 rfl zk_b_m2 ?_
                            refine zw_cI (n := 187) d164_184 (zs_V rfl rfl rfl rfl (by decide) (zj_5 hS).1 (zq_5 hS)) (by rw [ml_160]; rfl) (by decide) rfl (zc_mI h (fun r23 C23 h => ?_))
                            exact zw_iret d164_187 rfl ⟨_, rfl, h⟩
                          · skip
                            refine zw_iload_n (n := 155) d164_154 rfl rfl ?_
                            refine zw_aload_n (n := 156) d164_155 rfl rfl ?_
                            refine zw_getr (n := 159) d164_156 rfl (zj_5 hS).1 (zj_5 hS).2 (zr_5_2 hS) ?_
                            refine zw_iload_n (n := 160) d164_159 rfl rfl ?_
                            obtain ⟨hi, h⟩ := h
                            refine zw_iald (n := 161) d164_160 rfl (za_5_2 hS).1 (za_5_2 hS).2 hi ?_
                            refine zw_iload (n := 163) d164_161 rfl rfl ?_
                            refine zw_isub (n := 164) d164_163 rfl ?_
                            refine zw_ic_gt (n := 167) d164_164 rfl (zite h (fun h => ?_) (fun h => ?_))
                            · skip
                              refine zw_aload_n (n := 182) d164_181 rfl rfl ?_
                              refine zw_bipush (n := 184) d164_182 rfl zk_b_m2 ?_
                              refine zw_cI (n := 187) d164_184 (zs_V rfl rfl rfl rfl (by decide) (zj_5 hS).1 (zq_5 hS)) (by rw [ml_160]; rfl) (by decide) rfl (zc_mI h (fun r24 C24 h => ?_))
                              exact zw_iret d164_187 rfl ⟨_, rfl, h⟩
                            · skip
                              refine zw_iload (n := 169) d164_167 rfl rfl ?_
                              refine zw_aload_n (n := 170) d164_169 rfl rfl ?_
                              refine zw_getr (n := 173) d164_170 rfl (zj_5 hS).1 (zj_5 hS).2 (zr_5_2 hS) ?_
                              refine zw_iload_n (n := 174) d164_173 rfl rfl ?_
                              obtain ⟨hi, h⟩ := h
                              refine zw_iald (n := 175) d164_174 rfl (za_5_2 hS).1 (za_5_2 hS).2 hi ?_
                              refine zw_iload (n := 177) d164_175 rfl rfl ?_
                              refine zw_isub (n := 178) d164_177 rfl ?_
                              refine zw_ic_le (n := 181) d164_178 rfl (zite h (fun h => ?_) (fun h => ?_))
                              · skip
                                refine zw_aload_n (n := 182) d164_181 rfl rfl ?_
                                refine zw_bipush (n := 184) d164_182 rfl zk_b_m2 ?_
                                refine zw_cI (n := 187) d164_184 (zs_V rfl rfl rfl rfl (by decide) (zj_5 hS).1 (zq_5 hS)) (by rw [ml_160]; rfl) (by decide) rfl (zc_mI h (fun r25 C25 h => ?_))
                                exact zw_iret d164_187 rfl ⟨_, rfl, h⟩
                              · skip
                                refine zw_iconst (n := 189) d164_188 rfl zk_i_0 ?_
                                refine zw_istore (n := 191) d164_189 rfl rfl rfl ?_
                                exact h
          · skip
            refine zw_aload_n (n := 94) d164_93 rfl rfl ?_
            refine zw_getr (n := 97) d164_94 rfl (zj_5 hS).1 (zj_5 hS).2 (zr_5_0 hS) ?_
            refine zw_iload_n (n := 98) d164_97 rfl rfl ?_
            obtain ⟨hi, h⟩ := h
            refine zw_iald (n := 99) d164_98 rfl (za_5_0 hS).1 (za_5_0 hS).2 hi ?_
            refine zw_if_eq (n := 102) d164_99 rfl (zite h (fun h => ?_) (fun h => ?_))
            · skip
              refine zw_aload_n (n := 112) d164_111 rfl rfl ?_
              refine zw_bipush (n := 114) d164_112 rfl zk_b_m4 ?_
              refine zw_cI (n := 117) d164_114 (zs_V rfl rfl rfl rfl (by decide) (zj_5 hS).1 (zq_5 hS)) (by rw [ml_160]; rfl) (by decide) rfl (zc_mI h (fun r26 C26 h => ?_))
              exact zw_iret d164_117 rfl ⟨_, rfl, h⟩
            · skip
              refine zw_aload_n (n := 103) d164_102 rfl rfl ?_
              refine zw_getr (n := 106) d164_103 rfl (zj_5 hS).1 (zj_5 hS).2 (zr_5_0 hS) ?_
              refine zw_iload_n (n := 107) d164_106 rfl rfl ?_
              obtain ⟨hi, h⟩ := h
              refine zw_iald (n := 108) d164_107 rfl (za_5_0 hS).1 (za_5_0 hS).2 hi ?_
              refine zw_if_ne (n := 111) d164_108 rfl (zite h (fun h => ?_) (fun h => ?_))
              · skip
                refine zw_aload_n (n := 112) d164_111 rfl rfl ?_
                refine zw_bipush (n := 114) d164_112 rfl zk_b_m4 ?_
                refine zw_cI (n := 117) d164_114 (zs_V rfl rfl rfl rfl (by decide) (zj_5 hS).1 (zq_5 hS)) (by rw [ml_160]; rfl) (by decide) rfl (zc_mI h (fun r27 C27 h => ?_))
                exact zw_iret d164_117 rfl ⟨_, rfl, h⟩
              · skip
                refine zw_iload (n := 120) d164_118 rfl rfl ?_
                refine zw_if_lt (n := 123) d164_120 rfl (zite h (fun h => ?_) (fun h => ?_))
                · skip
                  refine zw_aload_n (n := 182) d164_181 rfl rfl ?_
                  refine zw_bipush (n := 184) d164_182 rfl zk_b_m2 ?_
                  refine zw_cI (n := 187) d164_184 (zs_V rfl rfl rfl rfl (by decide) (zj_5 hS).1 (zq_5 hS)) (by rw [ml_160]; rfl) (by decide) rfl (zc_mI h (fun r28 C28 h => ?_))
                  exact zw_iret d164_187 rfl ⟨_, rfl, h⟩
                · skip
                  refine zw_iload_n (n := 124) d164_123 rfl rfl ?_
                  refine zw_if_lt (n := 127) d164_124 rfl (zite h (fun h => ?_) (fun h => ?_))
                  · skip
                    refine zw_aload_n (n := 182) d164_181 rfl rfl ?_
                    refine zw_bipush (n := 184) d164_182 rfl zk_b_m2 ?_
                    refine zw_cI (n := 187) d164_184 (zs_V rfl rfl rfl rfl (by decide) (zj_5 hS).1 (zq_5 hS)) (by rw [ml_160]; rfl) (by decide) rfl (zc_mI h (fun r29 C29 h => ?_))
                    exact zw_iret d164_187 rfl ⟨_, rfl, h⟩
                  · skip
                    refine zw_iload (n := 129) d164_127 rfl rfl ?_
                    refine zw_if_lt (n := 132) d164_129 rfl (zite h (fun h => ?_) (fun h => ?_))
                    · skip
                      refine zw_aload_n (n := 182) d164_181 rfl rfl ?_
                      refine zw_bipush (n := 184) d164_182 rfl zk_b_m2 ?_
                      refine zw_cI (n := 187) d164_184 (zs_V rfl rfl rfl rfl (by decide) (zj_5 hS).1 (zq_5 hS)) (by rw [ml_160]; rfl) (by decide) rfl (zc_mI h (fun r30 C30 h => ?_))
                      exact zw_iret d164_187 rfl ⟨_, rfl, h⟩
                    · skip
                      refine zw_iload (n := 134) d164_132 rfl rfl ?_
                      refine zw_aload_n (n := 135) d164_134 rfl rfl ?_
                      refine zw_getr (n := 138) d164_135 rfl (zj_5 hS).1 (zj_5 hS).2 (zr_5_2 hS) ?_
                      refine zw_iload_n (n := 139) d164_138 rfl rfl ?_
                      obtain ⟨hi, h⟩ := h
                      refine zw_iald (n := 140) d164_139 rfl (za_5_2 hS).1 (za_5_2 hS).2 hi ?_
                      refine zw_ic_gt (n := 143) d164_140 rfl (zite h (fun h => ?_) (fun h => ?_))
                      · skip
                        refine zw_aload_n (n := 182) d164_181 rfl rfl ?_
                        refine zw_bipush (n := 184) d164_182 rfl zk_b_m2 ?_
                        refine zw_cI (n := 187) d164_184 (zs_V rfl rfl rfl rfl (by decide) (zj_5 hS).1 (zq_5 hS)) (by rw [ml_160]; rfl) (by decide) rfl (zc_mI h (fun r31 C31 h => ?_))
                        exact zw_iret d164_187 rfl ⟨_, rfl, h⟩
                      · skip
                        refine zw_iload (n := 145) d164_143 rfl rfl ?_
                        refine zw_aload_n (n := 146) d164_145 rfl rfl ?_
                        refine zw_getr (n := 149) d164_146 rfl (zj_5 hS).1 (zj_5 hS).2 (zr_5_2 hS) ?_
                        refine zw_iload_n (n := 150) d164_149 rfl rfl ?_
                        obtain ⟨hi, h⟩ := h
                        refine zw_iald (n := 151) d164_150 rfl (za_5_2 hS).1 (za_5_2 hS).2 hi ?_
                        refine zw_ic_gt (n := 154) d164_151 rfl (zite h (fun h => ?_) (fun h => ?_))
                        · skip
                          refine zw_aload_n (n := 182) d164_181 rfl rfl ?_
                          refine zw_bipush (n := 184) d164_182 rfl zk_b_m2 ?_
                          refine zw_cI (n := 187) d164_184 (zs_V rfl rfl rfl rfl (by decide) (zj_5 hS).1 (zq_5 hS)) (by rw [ml_160]; rfl) (by decide) rfl (zc_mI h (fun r32 C32 h => ?_))
                          exact zw_iret d164_187 rfl ⟨_, rfl, h⟩
                        · skip
                          refine zw_iload_n (n := 155) d164_154 rfl rfl ?_
                          refine zw_aload_n (n := 156) d164_155 rfl rfl ?_
                          refine zw_getr (n := 159) d164_156 rfl (zj_5 hS).1 (zj_5 hS).2 (zr_5_2 hS) ?_
                          refine zw_iload_n (n := 160) d164_159 rfl rfl ?_
                          obtain ⟨hi, h⟩ := h
                          refine zw_iald (n := 161) d164_160 rfl (za_5_2 hS).1 (za_5_2 hS).2 hi ?_
                          refine zw_iload (n := 163) d164_161 rfl rfl ?_
                          refine zw_isub (n := 164) d164_163 rfl ?_
                          refine zw_ic_gt (n := 167) d164_164 rfl (zite h (fun h => ?_) (fun h => ?_))
                          · skip
                            refine zw_aload_n (n := 182) d164_181 rfl rfl ?_
                            refine zw_bipush (n := 184) d164_182 rfl zk_b_m2 ?_
                            refine zw_cI (n := 187) d164_184 (zs_V rfl rfl rfl rfl (by decide) (zj_5 hS).1 (zq_5 hS)) (by rw [ml_160]; rfl) (by decide) rfl (zc_mI h (fun r33 C33 h => ?_))
                            exact zw_iret d164_187 rfl ⟨_, rfl, h⟩
                          · skip
                            refine zw_iload (n := 169) d164_167 rfl rfl ?_
                            refine zw_aload_n (n := 170) d164_169 rfl rfl ?_
                            refine zw_getr (n := 173) d164_170 rfl (zj_5 hS).1 (zj_5 hS).2 (zr_5_2 hS) ?_
                            refine zw_iload_n (n := 174) d164_173 rfl rfl ?_
                            obtain ⟨hi, h⟩ := h
                            refine zw_iald (n := 175) d164_174 rfl (za_5_2 hS).1 (za_5_2 hS).2 hi ?_
                            refine zw_iload (n := 177) d164_175 rfl rfl ?_
                            refine zw_isub (n := 178) d164_177 rfl ?_
                            refine zw_ic_le (n := 181) d164_178 rfl (zite h (fun h => ?_) (fun h => ?_))
                            · skip
                              refine zw_aload_n (n := 182) d164_181 rfl rfl ?_
                              refine zw_bipush (n := 184) d164_182 rfl zk_b_m2 ?_
                              refine zw_cI (n := 187) d164_184 (zs_V rfl rfl rfl rfl (by decide) (zj_5 hS).1 (zq_5 hS)) (by rw [ml_160]; rfl) (by decide) rfl (zc_mI h (fun r34 C34 h => ?_))
                              exact zw_iret d164_187 rfl ⟨_, rfl, h⟩
                            · skip
                              refine zw_iconst (n := 189) d164_188 rfl zk_i_0 ?_
                              refine zw_istore (n := 191) d164_189 rfl rfl rfl ?_
                              exact h
theorem vc164_191 {X : zX} {S : zx_S} {C : zx_C} {q : Int32 → zx_C → Prop} {e : Nat} {a1 : Int32} {a2 : Int32} {a3 : Int32} {a4 : Int32} {a5 : Int32} {i1 : Int32} {i2 : Int32} {i3 : Int32} {i4 : Int32} {i5 : Int32} {i6 : Int32} (hS : zs_5 S e) (h : if (i6 : Int32) < i5 then (vp_in i1 8 ∧ (vp_in (i3 + i6) 40 ∧ (vp_in i6 40 ∧ (zW X 1 164 191 [.ref e, .int i1, .int i2, .int i3, .int i4, .int i5, .int (i6 + 1)] [] S (zpl C (e + 13) (Int32.toNatClampNeg i6) (C.2 ((e + 5) + Int32.toNatClampNeg i1) (Int32.toNatClampNeg (i3 + i6)))) (zQi q))))) else (zW X 1 164 225 [.ref e, .int i1, .int i2, .int i3, .int i4, .int i5, .int 0] [] S C (zQi q))) : zW X 1 164 191 [.ref e, .int i1, .int i2, .int i3, .int i4, .int i5, .int i6] [] S C (zQi q) := by
  refine zw_iload (n := 193) d164_191 rfl rfl ?_
  refine zw_iload (n := 195) d164_193 rfl rfl ?_
  refine zw_ic_ge (n := 198) d164_195 rfl (zite h (fun h => ?_) (fun h => ?_))
  · skip
    refine zw_aload_n (n := 199) d164_198 rfl rfl ?_
    refine zw_getr (n := 202) d164_199 rfl (zj_5 hS).1 (zj_5 hS).2 (zr_5_4 hS) ?_
    refine zw_iload (n := 204) d164_202 rfl rfl ?_
    refine zw_aload_n (n := 205) d164_204 rfl rfl ?_
    refine zw_getr (n := 208) d164_205 rfl (zj_5 hS).1 (zj_5 hS).2 (zr_5_3 hS) ?_
    refine zw_iload_n (n := 209) d164_208 rfl rfl ?_
    obtain ⟨hi, h⟩ := h
    have hb1 := zb_5_3 hS (vp_lt hi)
    refine zw_aald (n := 210) d164_209 rfl (za_5_3 hS).1 (za_5_3 hS).2 (by decide) hi hb1.1 ?_
    refine zw_iload_n (n := 211) d164_210 rfl rfl ?_
    refine zw_iload (n := 213) d164_211 rfl rfl ?_
    refine zw_iadd (n := 214) d164_213 rfl ?_
    obtain ⟨hi, h⟩ := h
    refine zw_lald (n := 215) d164_214 rfl hb1.2.1 hb1.2.2 hi ?_
    obtain ⟨hi, h⟩ := h
    refine zw_last (n := 216) d164_215 rfl (za_5_4 hS).1 (za_5_4 hS).2 hi ?_
    refine zw_iinc (n := 219) d164_216 rfl rfl zk_i_1 rfl ?_
    refine zw_goto d164_219 ?_
    exact h
  · skip
    refine zw_iconst (n := 223) d164_222 rfl zk_i_0 ?_
    refine zw_istore (n := 225) d164_223 rfl rfl rfl ?_
    exact h
theorem vc164_225 {X : zX} {S : zx_S} {C : zx_C} {q : Int32 → zx_C → Prop} {e : Nat} {a1 : Int32} {a2 : Int32} {a3 : Int32} {a4 : Int32} {a5 : Int32} {z1 : Value} {i2 : Int32} {z3 : Value} {i4 : Int32} {i5 : Int32} {i6 : Int32} (hS : zs_5 S e) (h : if (i6 : Int32) < i5 then (vp_in i2 8 ∧ (vp_in i6 40 ∧ (vp_in (i4 + i6) 40 ∧ (zW X 1 164 225 [.ref e, z1, .int i2, z3, .int i4, .int i5, .int (i6 + 1)] [] S (zpl C ((e + 5) + Int32.toNatClampNeg i2) (Int32.toNatClampNeg (i4 + i6)) (C.2 (e + 13) (Int32.toNatClampNeg i6))) (zQi q))))) else (q i5 C)) : zW X 1 164 225 [.ref e, z1, .int i2, z3, .int i4, .int i5, .int i6] [] S C (zQi q) := by
  refine zw_iload (n := 227) d164_225 rfl rfl ?_
  refine zw_iload (n := 229) d164_227 rfl rfl ?_
  refine zw_ic_ge (n := 232) d164_229 rfl (zite h (fun h => ?_) (fun h => ?_))
  · skip
    refine zw_aload_n (n := 233) d164_232 rfl rfl ?_
    refine zw_getr (n := 236) d164_233 rfl (zj_5 hS).1 (zj_5 hS).2 (zr_5_3 hS) ?_
    refine zw_iload_n (n := 237) d164_236 rfl rfl ?_
    obtain ⟨hi, h⟩ := h
    have hb1 := zb_5_3 hS (vp_lt hi)
    refine zw_aald (n := 238) d164_237 rfl (za_5_3 hS).1 (za_5_3 hS).2 (by decide) hi hb1.1 ?_
    refine zw_iload (n := 240) d164_238 rfl rfl ?_
    refine zw_iload (n := 242) d164_240 rfl rfl ?_
    refine zw_iadd (n := 243) d164_242 rfl ?_
    refine zw_aload_n (n := 244) d164_243 rfl rfl ?_
    refine zw_getr (n := 247) d164_244 rfl (zj_5 hS).1 (zj_5 hS).2 (zr_5_4 hS) ?_
    refine zw_iload (n := 249) d164_247 rfl rfl ?_
    obtain ⟨hi, h⟩ := h
    refine zw_lald (n := 250) d164_249 rfl (za_5_4 hS).1 (za_5_4 hS).2 hi ?_
    obtain ⟨hi, h⟩ := h
    refine zw_last (n := 251) d164_250 rfl hb1.2.1 hb1.2.2 hi ?_
    refine zw_iinc (n := 254) d164_251 rfl rfl zk_i_1 rfl ?_
    refine zw_goto d164_254 ?_
    exact h
  · skip
    refine zw_iload (n := 259) d164_257 rfl rfl ?_
    exact zw_iret d164_259 rfl ⟨_, rfl, h⟩

set_option maxRecDepth 20000 in
theorem zf165 (pc : Nat) : zt_code 165 pc = zt_fd zl_165 pc := rfl
theorem d165_0 : zt_code 165 0 = some (.iload_n 1, 0, 0, 0) := (zf165 0).trans rfl
theorem d165_1 : zt_code 165 1 = some (.i2l, 0, 0, 0) := (zf165 1).trans rfl
theorem d165_2 : zt_code 165 2 = some (.lconst 0, 0, 0, 0) := (zf165 2).trans rfl
theorem d165_3 : zt_code 165 3 = some (.ldc2_w 101, 0, 0, 7) := (zf165 3).trans rfl
theorem d165_6 : zt_code 165 6 = some (.invokestatic 94, 159, 3, -1) := (zf165 6).trans rfl
theorem d165_9 : zt_code 165 9 = some (.ifCond .eq (42), 0, 51, 0) := (zf165 9).trans rfl
theorem d165_12 : zt_code 165 12 = some (.aload_n 0, 0, 0, 0) := (zf165 12).trans rfl
theorem d165_13 : zt_code 165 13 = some (.getfield 7, 5, 0, 1) := (zf165 13).trans rfl
theorem d165_16 : zt_code 165 16 = some (.iload_n 1, 0, 0, 0) := (zf165 16).trans rfl
theorem d165_17 : zt_code 165 17 = some (.iaload, 0, 0, 0) := (zf165 17).trans rfl
theorem d165_18 : zt_code 165 18 = some (.iconst (1), 0, 0, 0) := (zf165 18).trans rfl
theorem d165_19 : zt_code 165 19 = some (.if_icmp .ne (32), 0, 51, 0) := (zf165 19).trans rfl
theorem d165_22 : zt_code 165 22 = some (.iload_n 2, 0, 0, 0) := (zf165 22).trans rfl
theorem d165_23 : zt_code 165 23 = some (.i2l, 0, 0, 0) := (zf165 23).trans rfl
theorem d165_24 : zt_code 165 24 = some (.lconst 0, 0, 0, 0) := (zf165 24).trans rfl
theorem d165_25 : zt_code 165 25 = some (.aload_n 0, 0, 0, 0) := (zf165 25).trans rfl
theorem d165_26 : zt_code 165 26 = some (.getfield 16, 5, 2, 1) := (zf165 26).trans rfl
theorem d165_29 : zt_code 165 29 = some (.iload_n 1, 0, 0, 0) := (zf165 29).trans rfl
theorem d165_30 : zt_code 165 30 = some (.iaload, 0, 0, 0) := (zf165 30).trans rfl
theorem d165_31 : zt_code 165 31 = some (.iconst (1), 0, 0, 0) := (zf165 31).trans rfl
theorem d165_32 : zt_code 165 32 = some (.isub, 0, 0, 0) := (zf165 32).trans rfl
theorem d165_33 : zt_code 165 33 = some (.i2l, 0, 0, 0) := (zf165 33).trans rfl
theorem d165_34 : zt_code 165 34 = some (.invokestatic 94, 159, 3, -1) := (zf165 34).trans rfl
theorem d165_37 : zt_code 165 37 = some (.ifCond .eq (14), 0, 51, 0) := (zf165 37).trans rfl
theorem d165_40 : zt_code 165 40 = some (.aload_n 0, 0, 0, 0) := (zf165 40).trans rfl
theorem d165_41 : zt_code 165 41 = some (.getfield 21, 5, 3, 1) := (zf165 41).trans rfl
theorem d165_44 : zt_code 165 44 = some (.iload_n 1, 0, 0, 0) := (zf165 44).trans rfl
theorem d165_45 : zt_code 165 45 = some (.aaload, 0, 0, 0) := (zf165 45).trans rfl
theorem d165_46 : zt_code 165 46 = some (.iload_n 2, 0, 0, 0) := (zf165 46).trans rfl
theorem d165_47 : zt_code 165 47 = some (.laload, 0, 0, 0) := (zf165 47).trans rfl
theorem d165_48 : zt_code 165 48 = some (.goto (4), 0, 52, 0) := (zf165 48).trans rfl
theorem d165_51 : zt_code 165 51 = some (.lconst 0, 0, 0, 0) := (zf165 51).trans rfl
theorem d165_52 : zt_code 165 52 = some (.lreturn, 0, 0, 0) := (zf165 52).trans rfl
/-- FirstAtTheFirstModel.element(II)J -/
theorem vc165 {X : zX} {S : zx_S} {C : zx_C} {q : Int64 → zx_C → Prop} {e : Nat} {a1 : Int32} {a2 : Int32} (hS : zs_5 S e) (h : zCd X 0 159 [.long (Int32.toInt64 a1), .long 0, .long 7] S C (zQi (fun r1 C1 => if (r1 : Int32) = 0 then (q 0 C1) else (vp_in a1 8 ∧ (if ((C1.1 (e + 1) (Int32.toNatClampNeg a1)) : Int32) = 1 then (vp_in a1 8 ∧ (zCd X 0 159 [.long (Int32.toInt64 a2), .long 0, .long (Int32.toInt64 ((C1.1 (e + 3) (Int32.toNatClampNeg a1)) - 1))] S C1 (zQi (fun r2 C2 => if (r2 : Int32) = 0 then (q 0 C2) else (vp_in a1 8 ∧ (vp_in a2 40 ∧ (q (C2.2 ((e + 5) + Int32.toNatClampNeg a1) (Int32.toNatClampNeg a2)) C2))))))) else (q 0 C1)))))) : zCd X 1 165 [.ref e, .int a1, .int a2] S C (zQl q) := by
  refine zc_in ml_165 rfl ?_
  refine zw_iload_n (n := 1) d165_0 rfl rfl ?_
  refine zw_i2l (n := 2) d165_1 rfl ?_
  refine zw_lconst (n := 3) d165_2 rfl zk_c_0 ?_
  refine zw_ldc2 (n := 6) d165_3 rfl zk_l_7 ?_
  refine zw_cI (n := 9) d165_6 (zs_S rfl rfl rfl rfl) (by rw [ml_159]; rfl) (by decide) rfl (zc_mI h (fun r1 C1 h => ?_))
  refine zw_if_eq (n := 12) d165_9 rfl (zite h (fun h => ?_) (fun h => ?_))
  · skip
    refine zw_lconst (n := 52) d165_51 rfl zk_c_0 ?_
    exact zw_lret d165_52 ⟨_, rfl, h⟩
  · skip
    refine zw_aload_n (n := 13) d165_12 rfl rfl ?_
    refine zw_getr (n := 16) d165_13 rfl (zj_5 hS).1 (zj_5 hS).2 (zr_5_0 hS) ?_
    refine zw_iload_n (n := 17) d165_16 rfl rfl ?_
    obtain ⟨hi, h⟩ := h
    refine zw_iald (n := 18) d165_17 rfl (za_5_0 hS).1 (za_5_0 hS).2 hi ?_
    refine zw_iconst (n := 19) d165_18 rfl zk_i_1 ?_
    refine zw_ic_ne (n := 22) d165_19 rfl (zite h (fun h => ?_) (fun h => ?_))
    · skip
      refine zw_iload_n (n := 23) d165_22 rfl rfl ?_
      refine zw_i2l (n := 24) d165_23 rfl ?_
      refine zw_lconst (n := 25) d165_24 rfl zk_c_0 ?_
      refine zw_aload_n (n := 26) d165_25 rfl rfl ?_
      refine zw_getr (n := 29) d165_26 rfl (zj_5 hS).1 (zj_5 hS).2 (zr_5_2 hS) ?_
      refine zw_iload_n (n := 30) d165_29 rfl rfl ?_
      obtain ⟨hi, h⟩ := h
      refine zw_iald (n := 31) d165_30 rfl (za_5_2 hS).1 (za_5_2 hS).2 hi ?_
      refine zw_iconst (n := 32) d165_31 rfl zk_i_1 ?_
      refine zw_isub (n := 33) d165_32 rfl ?_
      refine zw_i2l (n := 34) d165_33 rfl ?_
      refine zw_cI (n := 37) d165_34 (zs_S rfl rfl rfl rfl) (by rw [ml_159]; rfl) (by decide) rfl (zc_mI h (fun r2 C2 h => ?_))
      refine zw_if_eq (n := 40) d165_37 rfl (zite h (fun h => ?_) (fun h => ?_))
      · skip
        refine zw_lconst (n := 52) d165_51 rfl zk_c_0 ?_
        exact zw_lret d165_52 ⟨_, rfl, h⟩
      · skip
        refine zw_aload_n (n := 41) d165_40 rfl rfl ?_
        refine zw_getr (n := 44) d165_41 rfl (zj_5 hS).1 (zj_5 hS).2 (zr_5_3 hS) ?_
        refine zw_iload_n (n := 45) d165_44 rfl rfl ?_
        obtain ⟨hi, h⟩ := h
        have hb3 := zb_5_3 hS (vp_lt hi)
        refine zw_aald (n := 46) d165_45 rfl (za_5_3 hS).1 (za_5_3 hS).2 (by decide) hi hb3.1 ?_
        refine zw_iload_n (n := 47) d165_46 rfl rfl ?_
        obtain ⟨hi, h⟩ := h
        refine zw_lald (n := 48) d165_47 rfl hb3.2.1 hb3.2.2 hi ?_
        refine zw_goto d165_48 ?_
        exact zw_lret d165_52 ⟨_, rfl, h⟩
    · skip
      refine zw_lconst (n := 52) d165_51 rfl zk_c_0 ?_
      exact zw_lret d165_52 ⟨_, rfl, h⟩

set_option maxRecDepth 20000 in
theorem zf166 (pc : Nat) : zt_code 166 pc = zt_fd zl_166 pc := rfl
theorem d166_0 : zt_code 166 0 = some (.iload_n 1, 0, 0, 0) := (zf166 0).trans rfl
theorem d166_1 : zt_code 166 1 = some (.i2l, 0, 0, 0) := (zf166 1).trans rfl
theorem d166_2 : zt_code 166 2 = some (.lconst 0, 0, 0, 0) := (zf166 2).trans rfl
theorem d166_3 : zt_code 166 3 = some (.ldc2_w 101, 0, 0, 7) := (zf166 3).trans rfl
theorem d166_6 : zt_code 166 6 = some (.invokestatic 94, 159, 3, -1) := (zf166 6).trans rfl
theorem d166_9 : zt_code 166 9 = some (.ifCond .eq (12), 0, 21, 0) := (zf166 9).trans rfl
theorem d166_12 : zt_code 166 12 = some (.aload_n 0, 0, 0, 0) := (zf166 12).trans rfl
theorem d166_13 : zt_code 166 13 = some (.getfield 7, 5, 0, 1) := (zf166 13).trans rfl
theorem d166_16 : zt_code 166 16 = some (.iload_n 1, 0, 0, 0) := (zf166 16).trans rfl
theorem d166_17 : zt_code 166 17 = some (.iaload, 0, 0, 0) := (zf166 17).trans rfl
theorem d166_18 : zt_code 166 18 = some (.ifCond .ne (5), 0, 23, 0) := (zf166 18).trans rfl
theorem d166_21 : zt_code 166 21 = some (.iconst (-1), 0, 0, 0) := (zf166 21).trans rfl
theorem d166_22 : zt_code 166 22 = some (.ireturn, 0, 0, 0) := (zf166 22).trans rfl
theorem d166_23 : zt_code 166 23 = some (.aload_n 0, 0, 0, 0) := (zf166 23).trans rfl
theorem d166_24 : zt_code 166 24 = some (.getfield 7, 5, 0, 1) := (zf166 24).trans rfl
theorem d166_27 : zt_code 166 27 = some (.iload_n 1, 0, 0, 0) := (zf166 27).trans rfl
theorem d166_28 : zt_code 166 28 = some (.iaload, 0, 0, 0) := (zf166 28).trans rfl
theorem d166_29 : zt_code 166 29 = some (.iconst (1), 0, 0, 0) := (zf166 29).trans rfl
theorem d166_30 : zt_code 166 30 = some (.if_icmp .ne (12), 0, 42, 0) := (zf166 30).trans rfl
theorem d166_33 : zt_code 166 33 = some (.aload_n 0, 0, 0, 0) := (zf166 33).trans rfl
theorem d166_34 : zt_code 166 34 = some (.getfield 13, 5, 1, 1) := (zf166 34).trans rfl
theorem d166_37 : zt_code 166 37 = some (.iload_n 1, 0, 0, 0) := (zf166 37).trans rfl
theorem d166_38 : zt_code 166 38 = some (.iaload, 0, 0, 0) := (zf166 38).trans rfl
theorem d166_39 : zt_code 166 39 = some (.goto (12), 0, 51, 0) := (zf166 39).trans rfl
theorem d166_42 : zt_code 166 42 = some (.bipush (10), 0, 0, 0) := (zf166 42).trans rfl
theorem d166_44 : zt_code 166 44 = some (.aload_n 0, 0, 0, 0) := (zf166 44).trans rfl
theorem d166_45 : zt_code 166 45 = some (.getfield 28, 5, 5, 1) := (zf166 45).trans rfl
theorem d166_48 : zt_code 166 48 = some (.iload_n 1, 0, 0, 0) := (zf166 48).trans rfl
theorem d166_49 : zt_code 166 49 = some (.iaload, 0, 0, 0) := (zf166 49).trans rfl
theorem d166_50 : zt_code 166 50 = some (.iadd, 0, 0, 0) := (zf166 50).trans rfl
theorem d166_51 : zt_code 166 51 = some (.ireturn, 0, 0, 0) := (zf166 51).trans rfl
/-- FirstAtTheFirstModel.holds(I)I -/
theorem vc166 {X : zX} {S : zx_S} {C : zx_C} {q : Int32 → zx_C → Prop} {e : Nat} {a1 : Int32} (hS : zs_5 S e) (h : zCd X 0 159 [.long (Int32.toInt64 a1), .long 0, .long 7] S C (zQi (fun r1 C1 => if (r1 : Int32) = 0 then (q (-1) C1) else (vp_in a1 8 ∧ (if ((C1.1 (e + 1) (Int32.toNatClampNeg a1)) : Int32) = 0 then (q (-1) C1) else (vp_in a1 8 ∧ (if ((C1.1 (e + 1) (Int32.toNatClampNeg a1)) : Int32) = 1 then (vp_in a1 8 ∧ (q (C1.1 (e + 2) (Int32.toNatClampNeg a1)) C1)) else (vp_in a1 8 ∧ (q (10 + (C1.1 (e + 14) (Int32.toNatClampNeg a1))) C1))))))))) : zCd X 1 166 [.ref e, .int a1] S C (zQi q) := by
  refine zc_in ml_166 rfl ?_
  refine zw_iload_n (n := 1) d166_0 rfl rfl ?_
  refine zw_i2l (n := 2) d166_1 rfl ?_
  refine zw_lconst (n := 3) d166_2 rfl zk_c_0 ?_
  refine zw_ldc2 (n := 6) d166_3 rfl zk_l_7 ?_
  refine zw_cI (n := 9) d166_6 (zs_S rfl rfl rfl rfl) (by rw [ml_159]; rfl) (by decide) rfl (zc_mI h (fun r1 C1 h => ?_))
  refine zw_if_eq (n := 12) d166_9 rfl (zite h (fun h => ?_) (fun h => ?_))
  · skip
    refine zw_iconst (n := 22) d166_21 rfl zk_i_m1 ?_
    exact zw_iret d166_22 rfl ⟨_, rfl, h⟩
  · skip
    refine zw_aload_n (n := 13) d166_12 rfl rfl ?_
    refine zw_getr (n := 16) d166_13 rfl (zj_5 hS).1 (zj_5 hS).2 (zr_5_0 hS) ?_
    refine zw_iload_n (n := 17) d166_16 rfl rfl ?_
    obtain ⟨hi, h⟩ := h
    refine zw_iald (n := 18) d166_17 rfl (za_5_0 hS).1 (za_5_0 hS).2 hi ?_
    refine zw_if_ne (n := 21) d166_18 rfl (zite h (fun h => ?_) (fun h => ?_))
    · skip
      refine zw_iconst (n := 22) d166_21 rfl zk_i_m1 ?_
      exact zw_iret d166_22 rfl ⟨_, rfl, h⟩
    · skip
      refine zw_aload_n (n := 24) d166_23 rfl rfl ?_
      refine zw_getr (n := 27) d166_24 rfl (zj_5 hS).1 (zj_5 hS).2 (zr_5_0 hS) ?_
      refine zw_iload_n (n := 28) d166_27 rfl rfl ?_
      obtain ⟨hi, h⟩ := h
      refine zw_iald (n := 29) d166_28 rfl (za_5_0 hS).1 (za_5_0 hS).2 hi ?_
      refine zw_iconst (n := 30) d166_29 rfl zk_i_1 ?_
      refine zw_ic_ne (n := 33) d166_30 rfl (zite h (fun h => ?_) (fun h => ?_))
      · skip
        refine zw_aload_n (n := 34) d166_33 rfl rfl ?_
        refine zw_getr (n := 37) d166_34 rfl (zj_5 hS).1 (zj_5 hS).2 (zr_5_1 hS) ?_
        refine zw_iload_n (n := 38) d166_37 rfl rfl ?_
        obtain ⟨hi, h⟩ := h
        refine zw_iald (n := 39) d166_38 rfl (za_5_1 hS).1 (za_5_1 hS).2 hi ?_
        refine zw_goto d166_39 ?_
        exact zw_iret d166_51 rfl ⟨_, rfl, h⟩
      · skip
        refine zw_bipush (n := 44) d166_42 rfl zk_b_10 ?_
        refine zw_aload_n (n := 45) d166_44 rfl rfl ?_
        refine zw_getr (n := 48) d166_45 rfl (zj_5 hS).1 (zj_5 hS).2 (zr_5_5 hS) ?_
        refine zw_iload_n (n := 49) d166_48 rfl rfl ?_
        obtain ⟨hi, h⟩ := h
        refine zw_iald (n := 50) d166_49 rfl (za_5_5 hS).1 (za_5_5 hS).2 hi ?_
        refine zw_iadd (n := 51) d166_50 rfl ?_
        exact zw_iret d166_51 rfl ⟨_, rfl, h⟩

set_option maxRecDepth 20000 in
theorem zf167 (pc : Nat) : zt_code 167 pc = zt_fd zl_167 pc := rfl
theorem d167_0 : zt_code 167 0 = some (.iload_n 1, 0, 0, 0) := (zf167 0).trans rfl
theorem d167_1 : zt_code 167 1 = some (.i2l, 0, 0, 0) := (zf167 1).trans rfl
theorem d167_2 : zt_code 167 2 = some (.lconst 0, 0, 0, 0) := (zf167 2).trans rfl
theorem d167_3 : zt_code 167 3 = some (.ldc2_w 101, 0, 0, 7) := (zf167 3).trans rfl
theorem d167_6 : zt_code 167 6 = some (.invokestatic 94, 159, 3, -1) := (zf167 6).trans rfl
theorem d167_9 : zt_code 167 9 = some (.ifCond .eq (16), 0, 25, 0) := (zf167 9).trans rfl
theorem d167_12 : zt_code 167 12 = some (.iload_n 2, 0, 0, 0) := (zf167 12).trans rfl
theorem d167_13 : zt_code 167 13 = some (.iconst (-1), 0, 0, 0) := (zf167 13).trans rfl
theorem d167_14 : zt_code 167 14 = some (.if_icmp .eq (18), 0, 32, 0) := (zf167 14).trans rfl
theorem d167_17 : zt_code 167 17 = some (.aload_n 0, 0, 0, 0) := (zf167 17).trans rfl
theorem d167_18 : zt_code 167 18 = some (.iload_n 2, 0, 0, 0) := (zf167 18).trans rfl
theorem d167_19 : zt_code 167 19 = some (.invokevirtual 118, 168, 2, 5) := (zf167 19).trans rfl
theorem d167_22 : zt_code 167 22 = some (.ifCond .ne (10), 0, 32, 0) := (zf167 22).trans rfl
theorem d167_25 : zt_code 167 25 = some (.aload_n 0, 0, 0, 0) := (zf167 25).trans rfl
theorem d167_26 : zt_code 167 26 = some (.bipush (-2), 0, 0, 0) := (zf167 26).trans rfl
theorem d167_28 : zt_code 167 28 = some (.invokevirtual 107, 160, 2, 5) := (zf167 28).trans rfl
theorem d167_31 : zt_code 167 31 = some (.ireturn, 0, 0, 0) := (zf167 31).trans rfl
theorem d167_32 : zt_code 167 32 = some (.aload_n 0, 0, 0, 0) := (zf167 32).trans rfl
theorem d167_33 : zt_code 167 33 = some (.getfield 7, 5, 0, 1) := (zf167 33).trans rfl
theorem d167_36 : zt_code 167 36 = some (.iload_n 1, 0, 0, 0) := (zf167 36).trans rfl
theorem d167_37 : zt_code 167 37 = some (.iload_n 2, 0, 0, 0) := (zf167 37).trans rfl
theorem d167_38 : zt_code 167 38 = some (.iconst (-1), 0, 0, 0) := (zf167 38).trans rfl
theorem d167_39 : zt_code 167 39 = some (.if_icmp .ne (7), 0, 46, 0) := (zf167 39).trans rfl
theorem d167_42 : zt_code 167 42 = some (.iconst (0), 0, 0, 0) := (zf167 42).trans rfl
theorem d167_43 : zt_code 167 43 = some (.goto (4), 0, 47, 0) := (zf167 43).trans rfl
theorem d167_46 : zt_code 167 46 = some (.iconst (2), 0, 0, 0) := (zf167 46).trans rfl
theorem d167_47 : zt_code 167 47 = some (.iastore, 0, 0, 0) := (zf167 47).trans rfl
theorem d167_48 : zt_code 167 48 = some (.iload_n 2, 0, 0, 0) := (zf167 48).trans rfl
theorem d167_49 : zt_code 167 49 = some (.iconst (-1), 0, 0, 0) := (zf167 49).trans rfl
theorem d167_50 : zt_code 167 50 = some (.if_icmp .eq (22), 0, 72, 0) := (zf167 50).trans rfl
theorem d167_53 : zt_code 167 53 = some (.aload_n 0, 0, 0, 0) := (zf167 53).trans rfl
theorem d167_54 : zt_code 167 54 = some (.getfield 28, 5, 5, 1) := (zf167 54).trans rfl
theorem d167_57 : zt_code 167 57 = some (.iload_n 1, 0, 0, 0) := (zf167 57).trans rfl
theorem d167_58 : zt_code 167 58 = some (.aload_n 0, 0, 0, 0) := (zf167 58).trans rfl
theorem d167_59 : zt_code 167 59 = some (.getfield 58, 5, 17, 1) := (zf167 59).trans rfl
theorem d167_62 : zt_code 167 62 = some (.iload_n 2, 0, 0, 0) := (zf167 62).trans rfl
theorem d167_63 : zt_code 167 63 = some (.iaload, 0, 0, 0) := (zf167 63).trans rfl
theorem d167_64 : zt_code 167 64 = some (.iastore, 0, 0, 0) := (zf167 64).trans rfl
theorem d167_65 : zt_code 167 65 = some (.aload_n 0, 0, 0, 0) := (zf167 65).trans rfl
theorem d167_66 : zt_code 167 66 = some (.getfield 31, 5, 6, 1) := (zf167 66).trans rfl
theorem d167_69 : zt_code 167 69 = some (.iload_n 1, 0, 0, 0) := (zf167 69).trans rfl
theorem d167_70 : zt_code 167 70 = some (.iload_n 2, 0, 0, 0) := (zf167 70).trans rfl
theorem d167_71 : zt_code 167 71 = some (.iastore, 0, 0, 0) := (zf167 71).trans rfl
theorem d167_72 : zt_code 167 72 = some (.iconst (1), 0, 0, 0) := (zf167 72).trans rfl
theorem d167_73 : zt_code 167 73 = some (.ireturn, 0, 0, 0) := (zf167 73).trans rfl
/-- FirstAtTheFirstModel.show(II)I -/
theorem vc167 {X : zX} {S : zx_S} {C : zx_C} {q : Int32 → zx_C → Prop} {e : Nat} {a1 : Int32} {a2 : Int32} (hS : zs_5 S e) (h : zCd X 0 159 [.long (Int32.toInt64 a1), .long 0, .long 7] S C (zQi (fun r1 C1 => if (r1 : Int32) = 0 then (zCd X 0 160 [.ref e, .int (-2)] S C1 (zQi (fun r2 C2 => q r2 C2))) else (if (a2 : Int32) = (-1) then (if (a2 : Int32) = (-1) then (vp_in a1 8 ∧ (if (a2 : Int32) = (-1) then (q 1 (zp C1 (e + 1) (Int32.toNatClampNeg a1) 0)) else (vp_in a2 3 ∧ (vp_in a1 8 ∧ (vp_in a1 8 ∧ (q 1 (zp (zp (zp C1 (e + 1) (Int32.toNatClampNeg a1) 0) (e + 14) (Int32.toNatClampNeg a1) ((Prod.fst (zp C1 (e + 1) (Int32.toNatClampNeg a1) 0)) (e + 29) (Int32.toNatClampNeg a2))) (e + 15) (Int32.toNatClampNeg a1) a2))))))) else (vp_in a1 8 ∧ (if (a2 : Int32) = (-1) then (q 1 (zp C1 (e + 1) (Int32.toNatClampNeg a1) 2)) else (vp_in a2 3 ∧ (vp_in a1 8 ∧ (vp_in a1 8 ∧ (q 1 (zp (zp (zp C1 (e + 1) (Int32.toNatClampNeg a1) 2) (e + 14) (Int32.toNatClampNeg a1) ((Prod.fst (zp C1 (e + 1) (Int32.toNatClampNeg a1) 2)) (e + 29) (Int32.toNatClampNeg a2))) (e + 15) (Int32.toNatClampNeg a1) a2)))))))) else (zCd X 1 168 [.ref e, .int a2] S C1 (zQi (fun r3 C3 => if (r3 : Int32) = 0 then (zCd X 0 160 [.ref e, .int (-2)] S C3 (zQi (fun r4 C4 => q r4 C4))) else (if (a2 : Int32) = (-1) then (vp_in a1 8 ∧ (if (a2 : Int32) = (-1) then (q 1 (zp C3 (e + 1) (Int32.toNatClampNeg a1) 0)) else (vp_in a2 3 ∧ (vp_in a1 8 ∧ (vp_in a1 8 ∧ (q 1 (zp (zp (zp C3 (e + 1) (Int32.toNatClampNeg a1) 0) (e + 14) (Int32.toNatClampNeg a1) ((Prod.fst (zp C3 (e + 1) (Int32.toNatClampNeg a1) 0)) (e + 29) (Int32.toNatClampNeg a2))) (e + 15) (Int32.toNatClampNeg a1) a2))))))) else (vp_in a1 8 ∧ (if (a2 : Int32) = (-1) then (q 1 (zp C3 (e + 1) (Int32.toNatClampNeg a1) 2)) else (vp_in a2 3 ∧ (vp_in a1 8 ∧ (vp_in a1 8 ∧ (q 1 (zp (zp (zp C3 (e + 1) (Int32.toNatClampNeg a1) 2) (e + 14) (Int32.toNatClampNeg a1) ((Prod.fst (zp C3 (e + 1) (Int32.toNatClampNeg a1) 2)) (e + 29) (Int32.toNatClampNeg a2))) (e + 15) (Int32.toNatClampNeg a1) a2))))))))))))))) : zCd X 2 167 [.ref e, .int a1, .int a2] S C (zQi q) := by
  refine zc_in ml_167 rfl ?_
  refine zw_iload_n (n := 1) d167_0 rfl rfl ?_
  refine zw_i2l (n := 2) d167_1 rfl ?_
  refine zw_lconst (n := 3) d167_2 rfl zk_c_0 ?_
  refine zw_ldc2 (n := 6) d167_3 rfl zk_l_7 ?_
  refine zw_cI (n := 9) d167_6 (zs_S rfl rfl rfl rfl) (by rw [ml_159]; rfl) (by decide) rfl (zc_mI h (fun r1 C1 h => ?_))
  refine zw_if_eq (n := 12) d167_9 rfl (zite h (fun h => ?_) (fun h => ?_))
  · skip
    refine zw_aload_n (n := 26) d167_25 rfl rfl ?_
    refine zw_bipush (n := 28) d167_26 rfl zk_b_m2 ?_
    refine zw_cI (n := 31) d167_28 (zs_V rfl rfl rfl rfl (by decide) (zj_5 hS).1 (zq_5 hS)) (by rw [ml_160]; rfl) (by decide) rfl (zc_mI h (fun r2 C2 h => ?_))
    exact zw_iret d167_31 rfl ⟨_, rfl, h⟩
  · skip
    refine zw_iload_n (n := 13) d167_12 rfl rfl ?_
    refine zw_iconst (n := 14) d167_13 rfl zk_i_m1 ?_
    refine zw_ic_eq (n := 17) d167_14 rfl (zite h (fun h => ?_) (fun h => ?_))
    · skip
      refine zw_aload_n (n := 33) d167_32 rfl rfl ?_
      refine zw_getr (n := 36) d167_33 rfl (zj_5 hS).1 (zj_5 hS).2 (zr_5_0 hS) ?_
      refine zw_iload_n (n := 37) d167_36 rfl rfl ?_
      refine zw_iload_n (n := 38) d167_37 rfl rfl ?_
      refine zw_iconst (n := 39) d167_38 rfl zk_i_m1 ?_
      refine zw_ic_ne (n := 42) d167_39 rfl (zite h (fun h => ?_) (fun h => ?_))
      · skip
        refine zw_iconst (n := 43) d167_42 rfl zk_i_0 ?_
        refine zw_goto d167_43 ?_
        obtain ⟨hi, h⟩ := h
        refine zw_iast (n := 48) d167_47 rfl (za_5_0 hS).1 (za_5_0 hS).2 hi ?_
        refine zw_iload_n (n := 49) d167_48 rfl rfl ?_
        refine zw_iconst (n := 50) d167_49 rfl zk_i_m1 ?_
        refine zw_ic_eq (n := 53) d167_50 rfl (zite h (fun h => ?_) (fun h => ?_))
        · skip
          refine zw_iconst (n := 73) d167_72 rfl zk_i_1 ?_
          exact zw_iret d167_73 rfl ⟨_, rfl, h⟩
        · skip
          refine zw_aload_n (n := 54) d167_53 rfl rfl ?_
          refine zw_getr (n := 57) d167_54 rfl (zj_5 hS).1 (zj_5 hS).2 (zr_5_5 hS) ?_
          refine zw_iload_n (n := 58) d167_57 rfl rfl ?_
          refine zw_aload_n (n := 59) d167_58 rfl rfl ?_
          refine zw_getr (n := 62) d167_59 rfl (zj_5 hS).1 (zj_5 hS).2 (zr_5_17 hS) ?_
          refine zw_iload_n (n := 63) d167_62 rfl rfl ?_
          obtain ⟨hi, h⟩ := h
          refine zw_iald (n := 64) d167_63 rfl (za_5_17 hS).1 (za_5_17 hS).2 hi ?_
          obtain ⟨hi, h⟩ := h
          refine zw_iast (n := 65) d167_64 rfl (za_5_5 hS).1 (za_5_5 hS).2 hi ?_
          refine zw_aload_n (n := 66) d167_65 rfl rfl ?_
          refine zw_getr (n := 69) d167_66 rfl (zj_5 hS).1 (zj_5 hS).2 (zr_5_6 hS) ?_
          refine zw_iload_n (n := 70) d167_69 rfl rfl ?_
          refine zw_iload_n (n := 71) d167_70 rfl rfl ?_
          obtain ⟨hi, h⟩ := h
          refine zw_iast (n := 72) d167_71 rfl (za_5_6 hS).1 (za_5_6 hS).2 hi ?_
          refine zw_iconst (n := 73) d167_72 rfl zk_i_1 ?_
          exact zw_iret d167_73 rfl ⟨_, rfl, h⟩
      · skip
        refine zw_iconst (n := 47) d167_46 rfl zk_i_2 ?_
        obtain ⟨hi, h⟩ := h
        refine zw_iast (n := 48) d167_47 rfl (za_5_0 hS).1 (za_5_0 hS).2 hi ?_
        refine zw_iload_n (n := 49) d167_48 rfl rfl ?_
        refine zw_iconst (n := 50) d167_49 rfl zk_i_m1 ?_
        refine zw_ic_eq (n := 53) d167_50 rfl (zite h (fun h => ?_) (fun h => ?_))
        · skip
          refine zw_iconst (n := 73) d167_72 rfl zk_i_1 ?_
          exact zw_iret d167_73 rfl ⟨_, rfl, h⟩
        · skip
          refine zw_aload_n (n := 54) d167_53 rfl rfl ?_
          refine zw_getr (n := 57) d167_54 rfl (zj_5 hS).1 (zj_5 hS).2 (zr_5_5 hS) ?_
          refine zw_iload_n (n := 58) d167_57 rfl rfl ?_
          refine zw_aload_n (n := 59) d167_58 rfl rfl ?_
          refine zw_getr (n := 62) d167_59 rfl (zj_5 hS).1 (zj_5 hS).2 (zr_5_17 hS) ?_
          refine zw_iload_n (n := 63) d167_62 rfl rfl ?_
          obtain ⟨hi, h⟩ := h
          refine zw_iald (n := 64) d167_63 rfl (za_5_17 hS).1 (za_5_17 hS).2 hi ?_
          obtain ⟨hi, h⟩ := h
          refine zw_iast (n := 65) d167_64 rfl (za_5_5 hS).1 (za_5_5 hS).2 hi ?_
          refine zw_aload_n (n := 66) d167_65 rfl rfl ?_
          refine zw_getr (n := 69) d167_66 rfl (zj_5 hS).1 (zj_5 hS).2 (zr_5_6 hS) ?_
          refine zw_iload_n (n := 70) d167_69 rfl rfl ?_
          refine zw_iload_n (n := 71) d167_70 rfl rfl ?_
          obtain ⟨hi, h⟩ := h
          refine zw_iast (n := 72) d167_71 rfl (za_5_6 hS).1 (za_5_6 hS).2 hi ?_
          refine zw_iconst (n := 73) d167_72 rfl zk_i_1 ?_
          exact zw_iret d167_73 rfl ⟨_, rfl, h⟩
    · skip
      refine zw_aload_n (n := 18) d167_17 rfl rfl ?_
      refine zw_iload_n (n := 19) d167_18 rfl rfl ?_
      refine zw_cI (n := 22) d167_19 (zs_V rfl rfl rfl rfl (by decide) (zj_5 hS).1 (zq_5 hS)) (by rw [ml_168]; rfl) (by decide) rfl (zc_mI h (fun r3 C3 h => ?_))
      refine zw_if_ne (n := 25) d167_22 rfl (zite h (fun h => ?_) (fun h => ?_))
      · skip
        refine zw_aload_n (n := 26) d167_25 rfl rfl ?_
        refine zw_bipush (n := 28) d167_26 rfl zk_b_m2 ?_
        refine zw_cI (n := 31) d167_28 (zs_V rfl rfl rfl rfl (by decide) (zj_5 hS).1 (zq_5 hS)) (by rw [ml_160]; rfl) (by decide) rfl (zc_mI h (fun r4 C4 h => ?_))
        exact zw_iret d167_31 rfl ⟨_, rfl, h⟩
      · skip
        refine zw_aload_n (n := 33) d167_32 rfl rfl ?_
        refine zw_getr (n := 36) d167_33 rfl (zj_5 hS).1 (zj_5 hS).2 (zr_5_0 hS) ?_
        refine zw_iload_n (n := 37) d167_36 rfl rfl ?_
        refine zw_iload_n (n := 38) d167_37 rfl rfl ?_
        refine zw_iconst (n := 39) d167_38 rfl zk_i_m1 ?_
        refine zw_ic_ne (n := 42) d167_39 rfl (zite h (fun h => ?_) (fun h => ?_))
        · skip
          refine zw_iconst (n := 43) d167_42 rfl zk_i_0 ?_
          refine zw_goto d167_43 ?_
          obtain ⟨hi, h⟩ := h
          refine zw_iast (n := 48) d167_47 rfl (za_5_0 hS).1 (za_5_0 hS).2 hi ?_
          refine zw_iload_n (n := 49) d167_48 rfl rfl ?_
          refine zw_iconst (n := 50) d167_49 rfl zk_i_m1 ?_
          refine zw_ic_eq (n := 53) d167_50 rfl (zite h (fun h => ?_) (fun h => ?_))
          · skip
            refine zw_iconst (n := 73) d167_72 rfl zk_i_1 ?_
            exact zw_iret d167_73 rfl ⟨_, rfl, h⟩
          · skip
            refine zw_aload_n (n := 54) d167_53 rfl rfl ?_
            refine zw_getr (n := 57) d167_54 rfl (zj_5 hS).1 (zj_5 hS).2 (zr_5_5 hS) ?_
            refine zw_iload_n (n := 58) d167_57 rfl rfl ?_
            refine zw_aload_n (n := 59) d167_58 rfl rfl ?_
            refine zw_getr (n := 62) d167_59 rfl (zj_5 hS).1 (zj_5 hS).2 (zr_5_17 hS) ?_
            refine zw_iload_n (n := 63) d167_62 rfl rfl ?_
            obtain ⟨hi, h⟩ := h
            refine zw_iald (n := 64) d167_63 rfl (za_5_17 hS).1 (za_5_17 hS).2 hi ?_
            obtain ⟨hi, h⟩ := h
            refine zw_iast (n := 65) d167_64 rfl (za_5_5 hS).1 (za_5_5 hS).2 hi ?_
            refine zw_aload_n (n := 66) d167_65 rfl rfl ?_
            refine zw_getr (n := 69) d167_66 rfl (zj_5 hS).1 (zj_5 hS).2 (zr_5_6 hS) ?_
            refine zw_iload_n (n := 70) d167_69 rfl rfl ?_
            refine zw_iload_n (n := 71) d167_70 rfl rfl ?_
            obtain ⟨hi, h⟩ := h
            refine zw_iast (n := 72) d167_71 rfl (za_5_6 hS).1 (za_5_6 hS).2 hi ?_
            refine zw_iconst (n := 73) d167_72 rfl zk_i_1 ?_
            exact zw_iret d167_73 rfl ⟨_, rfl, h⟩
        · skip
          refine zw_iconst (n := 47) d167_46 rfl zk_i_2 ?_
          obtain ⟨hi, h⟩ := h
          refine zw_iast (n := 48) d167_47 rfl (za_5_0 hS).1 (za_5_0 hS).2 hi ?_
          refine zw_iload_n (n := 49) d167_48 rfl rfl ?_
          refine zw_iconst (n := 50) d167_49 rfl zk_i_m1 ?_
          refine zw_ic_eq (n := 53) d167_50 rfl (zite h (fun h => ?_) (fun h => ?_))
          · skip
            refine zw_iconst (n := 73) d167_72 rfl zk_i_1 ?_
            exact zw_iret d167_73 rfl ⟨_, rfl, h⟩
          · skip
            refine zw_aload_n (n := 54) d167_53 rfl rfl ?_
            refine zw_getr (n := 57) d167_54 rfl (zj_5 hS).1 (zj_5 hS).2 (zr_5_5 hS) ?_
            refine zw_iload_n (n := 58) d167_57 rfl rfl ?_
            refine zw_aload_n (n := 59) d167_58 rfl rfl ?_
            refine zw_getr (n := 62) d167_59 rfl (zj_5 hS).1 (zj_5 hS).2 (zr_5_17 hS) ?_
            refine zw_iload_n (n := 63) d167_62 rfl rfl ?_
            obtain ⟨hi, h⟩ := h
            refine zw_iald (n := 64) d167_63 rfl (za_5_17 hS).1 (za_5_17 hS).2 hi ?_
            obtain ⟨hi, h⟩ := h
            refine zw_iast (n := 65) d167_64 rfl (za_5_5 hS).1 (za_5_5 hS).2 hi ?_
            refine zw_aload_n (n := 66) d167_65 rfl rfl ?_
            refine zw_getr (n := 69) d167_66 rfl (zj_5 hS).1 (zj_5 hS).2 (zr_5_6 hS) ?_
            refine zw_iload_n (n := 70) d167_69 rfl rfl ?_
            refine zw_iload_n (n := 71) d167_70 rfl rfl ?_
            obtain ⟨hi, h⟩ := h
            refine zw_iast (n := 72) d167_71 rfl (za_5_6 hS).1 (za_5_6 hS).2 hi ?_
            refine zw_iconst (n := 73) d167_72 rfl zk_i_1 ?_
            exact zw_iret d167_73 rfl ⟨_, rfl, h⟩

set_option maxRecDepth 20000 in
theorem zf168 (pc : Nat) : zt_code 168 pc = zt_fd zl_168 pc := rfl
theorem d168_0 : zt_code 168 0 = some (.iload_n 1, 0, 0, 0) := (zf168 0).trans rfl
theorem d168_1 : zt_code 168 1 = some (.i2l, 0, 0, 0) := (zf168 1).trans rfl
theorem d168_2 : zt_code 168 2 = some (.lconst 0, 0, 0, 0) := (zf168 2).trans rfl
theorem d168_3 : zt_code 168 3 = some (.aload_n 0, 0, 0, 0) := (zf168 3).trans rfl
theorem d168_4 : zt_code 168 4 = some (.getfield 40, 5, 10, 0) := (zf168 4).trans rfl
theorem d168_7 : zt_code 168 7 = some (.iconst (1), 0, 0, 0) := (zf168 7).trans rfl
theorem d168_8 : zt_code 168 8 = some (.isub, 0, 0, 0) := (zf168 8).trans rfl
theorem d168_9 : zt_code 168 9 = some (.i2l, 0, 0, 0) := (zf168 9).trans rfl
theorem d168_10 : zt_code 168 10 = some (.invokestatic 94, 159, 3, -1) := (zf168 10).trans rfl
theorem d168_13 : zt_code 168 13 = some (.ireturn, 1, 0, 0) := (zf168 13).trans rfl
/-- FirstAtTheFirstModel.isSide(I)Z -/
theorem vc168 {X : zX} {S : zx_S} {C : zx_C} {q : Int32 → zx_C → Prop} {e : Nat} {a1 : Int32} (hS : zs_5 S e) (h : zCd X 0 159 [.long (Int32.toInt64 a1), .long 0, .long (Int32.toInt64 ((C.1 e 10) - 1))] S C (zQi (fun r1 C1 => (r1 = 0 ∨ r1 = 1) ∧ (q r1 C1)))) : zCd X 1 168 [.ref e, .int a1] S C (zQi q) := by
  refine zc_in ml_168 rfl ?_
  refine zw_iload_n (n := 1) d168_0 rfl rfl ?_
  refine zw_i2l (n := 2) d168_1 rfl ?_
  refine zw_lconst (n := 3) d168_2 rfl zk_c_0 ?_
  refine zw_aload_n (n := 4) d168_3 rfl rfl ?_
  refine zw_geti (n := 7) d168_4 rfl (zj_5 hS).1 (zj_5 hS).2 ?_
  refine zw_iconst (n := 8) d168_7 rfl zk_i_1 ?_
  refine zw_isub (n := 9) d168_8 rfl ?_
  refine zw_i2l (n := 10) d168_9 rfl ?_
  refine zw_cI (n := 13) d168_10 (zs_S rfl rfl rfl rfl) (by rw [ml_159]; rfl) (by decide) rfl (zc_mI h (fun r1 C1 h => ?_))
  obtain ⟨hb, h⟩ := h
  exact zw_iret d168_13 (zx_rb1 hb) ⟨_, rfl, h⟩

set_option maxRecDepth 20000 in
theorem zf169 (pc : Nat) : zt_code 169 pc = zt_fd zl_169 pc := rfl
theorem d169_0 : zt_code 169 0 = some (.iload_n 1, 0, 0, 0) := (zf169 0).trans rfl
theorem d169_1 : zt_code 169 1 = some (.i2l, 0, 0, 0) := (zf169 1).trans rfl
theorem d169_2 : zt_code 169 2 = some (.lconst 0, 0, 0, 0) := (zf169 2).trans rfl
theorem d169_3 : zt_code 169 3 = some (.ldc2_w 101, 0, 0, 7) := (zf169 3).trans rfl
theorem d169_6 : zt_code 169 6 = some (.invokestatic 94, 159, 3, -1) := (zf169 6).trans rfl
theorem d169_9 : zt_code 169 9 = some (.ifCond .eq (15), 0, 24, 0) := (zf169 9).trans rfl
theorem d169_12 : zt_code 169 12 = some (.iload_n 2, 0, 0, 0) := (zf169 12).trans rfl
theorem d169_13 : zt_code 169 13 = some (.i2l, 0, 0, 0) := (zf169 13).trans rfl
theorem d169_14 : zt_code 169 14 = some (.lconst 0, 0, 0, 0) := (zf169 14).trans rfl
theorem d169_15 : zt_code 169 15 = some (.ldc2_w 122, 0, 0, 5) := (zf169 15).trans rfl
theorem d169_18 : zt_code 169 18 = some (.invokestatic 94, 159, 3, -1) := (zf169 18).trans rfl
theorem d169_21 : zt_code 169 21 = some (.ifCond .ne (10), 0, 31, 0) := (zf169 21).trans rfl
theorem d169_24 : zt_code 169 24 = some (.aload_n 0, 0, 0, 0) := (zf169 24).trans rfl
theorem d169_25 : zt_code 169 25 = some (.bipush (-2), 0, 0, 0) := (zf169 25).trans rfl
theorem d169_27 : zt_code 169 27 = some (.invokevirtual 107, 160, 2, 5) := (zf169 27).trans rfl
theorem d169_30 : zt_code 169 30 = some (.ireturn, 0, 0, 0) := (zf169 30).trans rfl
theorem d169_31 : zt_code 169 31 = some (.aload_n 0, 0, 0, 0) := (zf169 31).trans rfl
theorem d169_32 : zt_code 169 32 = some (.getfield 7, 5, 0, 1) := (zf169 32).trans rfl
theorem d169_35 : zt_code 169 35 = some (.iload_n 1, 0, 0, 0) := (zf169 35).trans rfl
theorem d169_36 : zt_code 169 36 = some (.iaload, 0, 0, 0) := (zf169 36).trans rfl
theorem d169_37 : zt_code 169 37 = some (.iconst (1), 0, 0, 0) := (zf169 37).trans rfl
theorem d169_38 : zt_code 169 38 = some (.if_icmp .eq (26), 0, 64, 0) := (zf169 38).trans rfl
theorem d169_41 : zt_code 169 41 = some (.aload_n 0, 0, 0, 0) := (zf169 41).trans rfl
theorem d169_42 : zt_code 169 42 = some (.getfield 7, 5, 0, 1) := (zf169 42).trans rfl
theorem d169_45 : zt_code 169 45 = some (.iload_n 1, 0, 0, 0) := (zf169 45).trans rfl
theorem d169_46 : zt_code 169 46 = some (.iaload, 0, 0, 0) := (zf169 46).trans rfl
theorem d169_47 : zt_code 169 47 = some (.iconst (2), 0, 0, 0) := (zf169 47).trans rfl
theorem d169_48 : zt_code 169 48 = some (.if_icmp .ne (23), 0, 71, 0) := (zf169 48).trans rfl
theorem d169_51 : zt_code 169 51 = some (.aload_n 0, 0, 0, 0) := (zf169 51).trans rfl
theorem d169_52 : zt_code 169 52 = some (.getfield 28, 5, 5, 1) := (zf169 52).trans rfl
theorem d169_55 : zt_code 169 55 = some (.iload_n 1, 0, 0, 0) := (zf169 55).trans rfl
theorem d169_56 : zt_code 169 56 = some (.iaload, 0, 0, 0) := (zf169 56).trans rfl
theorem d169_57 : zt_code 169 57 = some (.iload_n 2, 0, 0, 0) := (zf169 57).trans rfl
theorem d169_58 : zt_code 169 58 = some (.invokestatic 124, 170, 2, -1) := (zf169 58).trans rfl
theorem d169_61 : zt_code 169 61 = some (.ifCond .ne (10), 0, 71, 0) := (zf169 61).trans rfl
theorem d169_64 : zt_code 169 64 = some (.aload_n 0, 0, 0, 0) := (zf169 64).trans rfl
theorem d169_65 : zt_code 169 65 = some (.bipush (-3), 0, 0, 0) := (zf169 65).trans rfl
theorem d169_67 : zt_code 169 67 = some (.invokevirtual 107, 160, 2, 5) := (zf169 67).trans rfl
theorem d169_70 : zt_code 169 70 = some (.ireturn, 0, 0, 0) := (zf169 70).trans rfl
theorem d169_71 : zt_code 169 71 = some (.aload_n 0, 0, 0, 0) := (zf169 71).trans rfl
theorem d169_72 : zt_code 169 72 = some (.getfield 7, 5, 0, 1) := (zf169 72).trans rfl
theorem d169_75 : zt_code 169 75 = some (.iload_n 1, 0, 0, 0) := (zf169 75).trans rfl
theorem d169_76 : zt_code 169 76 = some (.iaload, 0, 0, 0) := (zf169 76).trans rfl
theorem d169_77 : zt_code 169 77 = some (.ifCond .ne (10), 0, 87, 0) := (zf169 77).trans rfl
theorem d169_80 : zt_code 169 80 = some (.aload_n 0, 0, 0, 0) := (zf169 80).trans rfl
theorem d169_81 : zt_code 169 81 = some (.bipush (-4), 0, 0, 0) := (zf169 81).trans rfl
theorem d169_83 : zt_code 169 83 = some (.invokevirtual 107, 160, 2, 5) := (zf169 83).trans rfl
theorem d169_86 : zt_code 169 86 = some (.ireturn, 0, 0, 0) := (zf169 86).trans rfl
theorem d169_87 : zt_code 169 87 = some (.aload_n 0, 0, 0, 0) := (zf169 87).trans rfl
theorem d169_88 : zt_code 169 88 = some (.aload_n 0, 0, 0, 0) := (zf169 88).trans rfl
theorem d169_89 : zt_code 169 89 = some (.getfield 31, 5, 6, 1) := (zf169 89).trans rfl
theorem d169_92 : zt_code 169 92 = some (.iload_n 1, 0, 0, 0) := (zf169 92).trans rfl
theorem d169_93 : zt_code 169 93 = some (.iaload, 0, 0, 0) := (zf169 93).trans rfl
theorem d169_94 : zt_code 169 94 = some (.invokevirtual 118, 168, 2, 5) := (zf169 94).trans rfl
theorem d169_97 : zt_code 169 97 = some (.ifCond .ne (10), 0, 107, 0) := (zf169 97).trans rfl
theorem d169_100 : zt_code 169 100 = some (.aload_n 0, 0, 0, 0) := (zf169 100).trans rfl
theorem d169_101 : zt_code 169 101 = some (.bipush (-2), 0, 0, 0) := (zf169 101).trans rfl
theorem d169_103 : zt_code 169 103 = some (.invokevirtual 107, 160, 2, 5) := (zf169 103).trans rfl
theorem d169_106 : zt_code 169 106 = some (.ireturn, 0, 0, 0) := (zf169 106).trans rfl
theorem d169_107 : zt_code 169 107 = some (.aload_n 0, 0, 0, 0) := (zf169 107).trans rfl
theorem d169_108 : zt_code 169 108 = some (.aload_n 0, 0, 0, 0) := (zf169 108).trans rfl
theorem d169_109 : zt_code 169 109 = some (.getfield 128, 5, 14, 0) := (zf169 109).trans rfl
theorem d169_112 : zt_code 169 112 = some (.invokevirtual 131, 171, 2, 5) := (zf169 112).trans rfl
theorem d169_115 : zt_code 169 115 = some (.aload_n 0, 0, 0, 0) := (zf169 115).trans rfl
theorem d169_116 : zt_code 169 116 = some (.aload_n 0, 0, 0, 0) := (zf169 116).trans rfl
theorem d169_117 : zt_code 169 117 = some (.getfield 31, 5, 6, 1) := (zf169 117).trans rfl
theorem d169_120 : zt_code 169 120 = some (.iload_n 1, 0, 0, 0) := (zf169 120).trans rfl
theorem d169_121 : zt_code 169 121 = some (.iaload, 0, 0, 0) := (zf169 121).trans rfl
theorem d169_122 : zt_code 169 122 = some (.aload_n 0, 0, 0, 0) := (zf169 122).trans rfl
theorem d169_123 : zt_code 169 123 = some (.getfield 31, 5, 6, 1) := (zf169 123).trans rfl
theorem d169_126 : zt_code 169 126 = some (.iload_n 1, 0, 0, 0) := (zf169 126).trans rfl
theorem d169_127 : zt_code 169 127 = some (.iaload, 0, 0, 0) := (zf169 127).trans rfl
theorem d169_128 : zt_code 169 128 = some (.aload_n 0, 0, 0, 0) := (zf169 128).trans rfl
theorem d169_129 : zt_code 169 129 = some (.getfield 28, 5, 5, 1) := (zf169 129).trans rfl
theorem d169_132 : zt_code 169 132 = some (.iload_n 1, 0, 0, 0) := (zf169 132).trans rfl
theorem d169_133 : zt_code 169 133 = some (.iaload, 0, 0, 0) := (zf169 133).trans rfl
theorem d169_134 : zt_code 169 134 = some (.aload_n 0, 0, 0, 0) := (zf169 134).trans rfl
theorem d169_135 : zt_code 169 135 = some (.invokevirtual 135, 172, 1, 5) := (zf169 135).trans rfl
theorem d169_138 : zt_code 169 138 = some (.aload_n 0, 0, 0, 0) := (zf169 138).trans rfl
theorem d169_139 : zt_code 169 139 = some (.getfield 139, 5, 18, 0) := (zf169 139).trans rfl
theorem d169_142 : zt_code 169 142 = some (.invokevirtual 142, 173, 6, 5) := (zf169 142).trans rfl
theorem d169_145 : zt_code 169 145 = some (.ireturn, 0, 0, 0) := (zf169 145).trans rfl
/-- FirstAtTheFirstModel.says(II)I -/
theorem vc169 {X : zX} {S : zx_S} {C : zx_C} {q : Int32 → zx_C → Prop} {e : Nat} {a1 : Int32} {a2 : Int32} (hS : zs_5 S e) (h : zCd X 0 159 [.long (Int32.toInt64 a1), .long 0, .long 7] S C (zQi (fun r1 C1 => if (r1 : Int32) = 0 then (zCd X 0 160 [.ref e, .int (-2)] S C1 (zQi (fun r2 C2 => q r2 C2))) else (zCd X 0 159 [.long (Int32.toInt64 a2), .long 0, .long 5] S C1 (zQi (fun r3 C3 => if (r3 : Int32) = 0 then (zCd X 0 160 [.ref e, .int (-2)] S C3 (zQi (fun r4 C4 => q r4 C4))) else (vp_in a1 8 ∧ (if ((C3.1 (e + 1) (Int32.toNatClampNeg a1)) : Int32) = 1 then (zCd X 0 160 [.ref e, .int (-3)] S C3 (zQi (fun r5 C5 => q r5 C5))) else (vp_in a1 8 ∧ (if ((C3.1 (e + 1) (Int32.toNatClampNeg a1)) : Int32) = 2 then (vp_in a1 8 ∧ (zCd X 0 170 [.int (C3.1 (e + 14) (Int32.toNatClampNeg a1)), .int a2] S C3 (zQi (fun r6 C6 => if (r6 : Int32) = 0 then (zCd X 0 160 [.ref e, .int (-3)] S C6 (zQi (fun r7 C7 => q r7 C7))) else (vp_in a1 8 ∧ (if ((C6.1 (e + 1) (Int32.toNatClampNeg a1)) : Int32) = 0 then (zCd X 0 160 [.ref e, .int (-4)] S C6 (zQi (fun r8 C8 => q r8 C8))) else (vp_in a1 8 ∧ (zCd X 1 168 [.ref e, .int (C6.1 (e + 15) (Int32.toNatClampNeg a1))] S C6 (zQi (fun r9 C9 => if (r9 : Int32) = 0 then (zCd X 0 160 [.ref e, .int (-2)] S C9 (zQi (fun r10 C10 => q r10 C10))) else (zCd X 0 171 [.ref e, .int (C9.1 e 14)] S C9 (zQv (fun C11 => vp_in a1 8 ∧ (vp_in a1 8 ∧ (vp_in a1 8 ∧ (zCd X 0 172 [.ref e] S C11 (zQi (fun r12 C12 => zCd X 32 173 [.ref e, .int (C11.1 (e + 15) (Int32.toNatClampNeg a1)), .int (C11.1 (e + 15) (Int32.toNatClampNeg a1)), .int (C11.1 (e + 14) (Int32.toNatClampNeg a1)), .int r12, .int (C12.1 e 18)] S C12 (zQi (fun r13 C13 => q r13 C13)))))))))))))))))))) else (vp_in a1 8 ∧ (if ((C3.1 (e + 1) (Int32.toNatClampNeg a1)) : Int32) = 0 then (zCd X 0 160 [.ref e, .int (-4)] S C3 (zQi (fun r14 C14 => q r14 C14))) else (vp_in a1 8 ∧ (zCd X 1 168 [.ref e, .int (C3.1 (e + 15) (Int32.toNatClampNeg a1))] S C3 (zQi (fun r15 C15 => if (r15 : Int32) = 0 then (zCd X 0 160 [.ref e, .int (-2)] S C15 (zQi (fun r16 C16 => q r16 C16))) else (zCd X 0 171 [.ref e, .int (C15.1 e 14)] S C15 (zQv (fun C17 => vp_in a1 8 ∧ (vp_in a1 8 ∧ (vp_in a1 8 ∧ (zCd X 0 172 [.ref e] S C17 (zQi (fun r18 C18 => zCd X 32 173 [.ref e, .int (C17.1 (e + 15) (Int32.toNatClampNeg a1)), .int (C17.1 (e + 15) (Int32.toNatClampNeg a1)), .int (C17.1 (e + 14) (Int32.toNatClampNeg a1)), .int r18, .int (C18.1 e 18)] S C18 (zQi (fun r19 C19 => q r19 C19)))))))))))))))))))))))))) : zCd X 33 169 [.ref e, .int a1, .int a2] S C (zQi q) := by
  refine zc_in ml_169 rfl ?_
  refine zw_iload_n (n := 1) d169_0 rfl rfl ?_
  refine zw_i2l (n := 2) d169_1 rfl ?_
  refine zw_lconst (n := 3) d169_2 rfl zk_c_0 ?_
  refine zw_ldc2 (n := 6) d169_3 rfl zk_l_7 ?_
  refine zw_cI (n := 9) d169_6 (zs_S rfl rfl rfl rfl) (by rw [ml_159]; rfl) (by decide) rfl (zc_mI h (fun r1 C1 h => ?_))
  refine zw_if_eq (n := 12) d169_9 rfl (zite h (fun h => ?_) (fun h => ?_))
  · skip
    refine zw_aload_n (n := 25) d169_24 rfl rfl ?_
    refine zw_bipush (n := 27) d169_25 rfl zk_b_m2 ?_
    refine zw_cI (n := 30) d169_27 (zs_V rfl rfl rfl rfl (by decide) (zj_5 hS).1 (zq_5 hS)) (by rw [ml_160]; rfl) (by decide) rfl (zc_mI h (fun r2 C2 h => ?_))
    exact zw_iret d169_30 rfl ⟨_, rfl, h⟩
  · skip
    refine zw_iload_n (n := 13) d169_12 rfl rfl ?_
    refine zw_i2l (n := 14) d169_13 rfl ?_
    refine zw_lconst (n := 15) d169_14 rfl zk_c_0 ?_
    refine zw_ldc2 (n := 18) d169_15 rfl zk_l_5 ?_
    refine zw_cI (n := 21) d169_18 (zs_S rfl rfl rfl rfl) (by rw [ml_159]; rfl) (by decide) rfl (zc_mI h (fun r3 C3 h => ?_))
    refine zw_if_ne (n := 24) d169_21 rfl (zite h (fun h => ?_) (fun h => ?_))
    · skip
      refine zw_aload_n (n := 25) d169_24 rfl rfl ?_
      refine zw_bipush (n := 27) d169_25 rfl zk_b_m2 ?_
      refine zw_cI (n := 30) d169_27 (zs_V rfl rfl rfl rfl (by decide) (zj_5 hS).1 (zq_5 hS)) (by rw [ml_160]; rfl) (by decide) rfl (zc_mI h (fun r4 C4 h => ?_))
      exact zw_iret d169_30 rfl ⟨_, rfl, h⟩
    · skip
      refine zw_aload_n (n := 32) d169_31 rfl rfl ?_
      refine zw_getr (n := 35) d169_32 rfl (zj_5 hS).1 (zj_5 hS).2 (zr_5_0 hS) ?_
      refine zw_iload_n (n := 36) d169_35 rfl rfl ?_
      obtain ⟨hi, h⟩ := h
      refine zw_iald (n := 37) d169_36 rfl (za_5_0 hS).1 (za_5_0 hS).2 hi ?_
      refine zw_iconst (n := 38) d169_37 rfl zk_i_1 ?_
      refine zw_ic_eq (n := 41) d169_38 rfl (zite h (fun h => ?_) (fun h => ?_))
      · skip
        refine zw_aload_n (n := 65) d169_64 rfl rfl ?_
        refine zw_bipush (n := 67) d169_65 rfl zk_b_m3 ?_
        refine zw_cI (n := 70) d169_67 (zs_V rfl rfl rfl rfl (by decide) (zj_5 hS).1 (zq_5 hS)) (by rw [ml_160]; rfl) (by decide) rfl (zc_mI h (fun r5 C5 h => ?_))
        exact zw_iret d169_70 rfl ⟨_, rfl, h⟩
      · skip
        refine zw_aload_n (n := 42) d169_41 rfl rfl ?_
        refine zw_getr (n := 45) d169_42 rfl (zj_5 hS).1 (zj_5 hS).2 (zr_5_0 hS) ?_
        refine zw_iload_n (n := 46) d169_45 rfl rfl ?_
        obtain ⟨hi, h⟩ := h
        refine zw_iald (n := 47) d169_46 rfl (za_5_0 hS).1 (za_5_0 hS).2 hi ?_
        refine zw_iconst (n := 48) d169_47 rfl zk_i_2 ?_
        refine zw_ic_ne (n := 51) d169_48 rfl (zite h (fun h => ?_) (fun h => ?_))
        · skip
          refine zw_aload_n (n := 52) d169_51 rfl rfl ?_
          refine zw_getr (n := 55) d169_52 rfl (zj_5 hS).1 (zj_5 hS).2 (zr_5_5 hS) ?_
          refine zw_iload_n (n := 56) d169_55 rfl rfl ?_
          obtain ⟨hi, h⟩ := h
          refine zw_iald (n := 57) d169_56 rfl (za_5_5 hS).1 (za_5_5 hS).2 hi ?_
          refine zw_iload_n (n := 58) d169_57 rfl rfl ?_
          refine zw_cI (n := 61) d169_58 (zs_S rfl rfl rfl rfl) (by rw [ml_170]; rfl) (by decide) rfl (zc_mI h (fun r6 C6 h => ?_))
          refine zw_if_ne (n := 64) d169_61 rfl (zite h (fun h => ?_) (fun h => ?_))
          · skip
            refine zw_aload_n (n := 65) d169_64 rfl rfl ?_
            refine zw_bipush (n := 67) d169_65 rfl zk_b_m3 ?_
            refine zw_cI (n := 70) d169_67 (zs_V rfl rfl rfl rfl (by decide) (zj_5 hS).1 (zq_5 hS)) (by rw [ml_160]; rfl) (by decide) rfl (zc_mI h (fun r7 C7 h => ?_))
            exact zw_iret d169_70 rfl ⟨_, rfl, h⟩
          · skip
            refine zw_aload_n (n := 72) d169_71 rfl rfl ?_
            refine zw_getr (n := 75) d169_72 rfl (zj_5 hS).1 (zj_5 hS).2 (zr_5_0 hS) ?_
            refine zw_iload_n (n := 76) d169_75 rfl rfl ?_
            obtain ⟨hi, h⟩ := h
            refine zw_iald (n := 77) d169_76 rfl (za_5_0 hS).1 (za_5_0 hS).2 hi ?_
            refine zw_if_ne (n := 80) d169_77 rfl (zite h (fun h => ?_) (fun h => ?_))
            · skip
              refine zw_aload_n (n := 81) d169_80 rfl rfl ?_
              refine zw_bipush (n := 83) d169_81 rfl zk_b_m4 ?_
              refine zw_cI (n := 86) d169_83 (zs_V rfl rfl rfl rfl (by decide) (zj_5 hS).1 (zq_5 hS)) (by rw [ml_160]; rfl) (by decide) rfl (zc_mI h (fun r8 C8 h => ?_))
              exact zw_iret d169_86 rfl ⟨_, rfl, h⟩
            · skip
              refine zw_aload_n (n := 88) d169_87 rfl rfl ?_
              refine zw_aload_n (n := 89) d169_88 rfl rfl ?_
              refine zw_getr (n := 92) d169_89 rfl (zj_5 hS).1 (zj_5 hS).2 (zr_5_6 hS) ?_
              refine zw_iload_n (n := 93) d169_92 rfl rfl ?_
              obtain ⟨hi, h⟩ := h
              refine zw_iald (n := 94) d169_93 rfl (za_5_6 hS).1 (za_5_6 hS).2 hi ?_
              refine zw_cI (n := 97) d169_94 (zs_V rfl rfl rfl rfl (by decide) (zj_5 hS).1 (zq_5 hS)) (by rw [ml_168]; rfl) (by decide) rfl (zc_mI h (fun r9 C9 h => ?_))
              refine zw_if_ne (n := 100) d169_97 rfl (zite h (fun h => ?_) (fun h => ?_))
              · skip
                refine zw_aload_n (n := 101) d169_100 rfl rfl ?_
                refine zw_bipush (n := 103) d169_101 rfl zk_b_m2 ?_
                refine zw_cI (n := 106) d169_103 (zs_V rfl rfl rfl rfl (by decide) (zj_5 hS).1 (zq_5 hS)) (by rw [ml_160]; rfl) (by decide) rfl (zc_mI h (fun r10 C10 h => ?_))
                exact zw_iret d169_106 rfl ⟨_, rfl, h⟩
              · skip
                refine zw_aload_n (n := 108) d169_107 rfl rfl ?_
                refine zw_aload_n (n := 109) d169_108 rfl rfl ?_
                refine zw_geti (n := 112) d169_109 rfl (zj_5 hS).1 (zj_5 hS).2 ?_
                refine zw_cV (n := 115) d169_112 (zs_V rfl rfl rfl rfl (by decide) (zj_5 hS).1 (zq_5 hS)) (by rw [ml_171]; rfl) (by decide) rfl (zc_mV h (fun C11 h => ?_))
                refine zw_aload_n (n := 116) d169_115 rfl rfl ?_
                refine zw_aload_n (n := 117) d169_116 rfl rfl ?_
                refine zw_getr (n := 120) d169_117 rfl (zj_5 hS).1 (zj_5 hS).2 (zr_5_6 hS) ?_
                refine zw_iload_n (n := 121) d169_120 rfl rfl ?_
                obtain ⟨hi, h⟩ := h
                refine zw_iald (n := 122) d169_121 rfl (za_5_6 hS).1 (za_5_6 hS).2 hi ?_
                refine zw_aload_n (n := 123) d169_122 rfl rfl ?_
                refine zw_getr (n := 126) d169_123 rfl (zj_5 hS).1 (zj_5 hS).2 (zr_5_6 hS) ?_
                refine zw_iload_n (n := 127) d169_126 rfl rfl ?_
                obtain ⟨hi, h⟩ := h
                refine zw_iald (n := 128) d169_127 rfl (za_5_6 hS).1 (za_5_6 hS).2 hi ?_
                refine zw_aload_n (n := 129) d169_128 rfl rfl ?_
                refine zw_getr (n := 132) d169_129 rfl (zj_5 hS).1 (zj_5 hS).2 (zr_5_5 hS) ?_
                refine zw_iload_n (n := 133) d169_132 rfl rfl ?_
                obtain ⟨hi, h⟩ := h
                refine zw_iald (n := 134) d169_133 rfl (za_5_5 hS).1 (za_5_5 hS).2 hi ?_
                refine zw_aload_n (n := 135) d169_134 rfl rfl ?_
                refine zw_cI (n := 138) d169_135 (zs_V rfl rfl rfl rfl (by decide) (zj_5 hS).1 (zq_5 hS)) (by rw [ml_172]; rfl) (by decide) rfl (zc_mI h (fun r12 C12 h => ?_))
                refine zw_aload_n (n := 139) d169_138 rfl rfl ?_
                refine zw_geti (n := 142) d169_139 rfl (zj_5 hS).1 (zj_5 hS).2 ?_
                refine zw_cI (n := 145) d169_142 (zs_V rfl rfl rfl rfl (by decide) (zj_5 hS).1 (zq_5 hS)) (by rw [ml_173]; rfl) (by decide) rfl (zc_mI h (fun r13 C13 h => ?_))
                exact zw_iret d169_145 rfl ⟨_, rfl, h⟩
        · skip
          refine zw_aload_n (n := 72) d169_71 rfl rfl ?_
          refine zw_getr (n := 75) d169_72 rfl (zj_5 hS).1 (zj_5 hS).2 (zr_5_0 hS) ?_
          refine zw_iload_n (n := 76) d169_75 rfl rfl ?_
          obtain ⟨hi, h⟩ := h
          refine zw_iald (n := 77) d169_76 rfl (za_5_0 hS).1 (za_5_0 hS).2 hi ?_
          refine zw_if_ne (n := 80) d169_77 rfl (zite h (fun h => ?_) (fun h => ?_))
          · skip
            refine zw_aload_n (n := 81) d169_80 rfl rfl ?_
            refine zw_bipush (n := 83) d169_81 rfl zk_b_m4 ?_
            refine zw_cI (n := 86) d169_83 (zs_V rfl rfl rfl rfl (by decide) (zj_5 hS).1 (zq_5 hS)) (by rw [ml_160]; rfl) (by decide) rfl (zc_mI h (fun r14 C14 h => ?_))
            exact zw_iret d169_86 rfl ⟨_, rfl, h⟩
          · skip
            refine zw_aload_n (n := 88) d169_87 rfl rfl ?_
            refine zw_aload_n (n := 89) d169_88 rfl rfl ?_
            refine zw_getr (n := 92) d169_89 rfl (zj_5 hS).1 (zj_5 hS).2 (zr_5_6 hS) ?_
            refine zw_iload_n (n := 93) d169_92 rfl rfl ?_
            obtain ⟨hi, h⟩ := h
            refine zw_iald (n := 94) d169_93 rfl (za_5_6 hS).1 (za_5_6 hS).2 hi ?_
            refine zw_cI (n := 97) d169_94 (zs_V rfl rfl rfl rfl (by decide) (zj_5 hS).1 (zq_5 hS)) (by rw [ml_168]; rfl) (by decide) rfl (zc_mI h (fun r15 C15 h => ?_))
            refine zw_if_ne (n := 100) d169_97 rfl (zite h (fun h => ?_) (fun h => ?_))
            · skip
              refine zw_aload_n (n := 101) d169_100 rfl rfl ?_
              refine zw_bipush (n := 103) d169_101 rfl zk_b_m2 ?_
              refine zw_cI (n := 106) d169_103 (zs_V rfl rfl rfl rfl (by decide) (zj_5 hS).1 (zq_5 hS)) (by rw [ml_160]; rfl) (by decide) rfl (zc_mI h (fun r16 C16 h => ?_))
              exact zw_iret d169_106 rfl ⟨_, rfl, h⟩
            · skip
              refine zw_aload_n (n := 108) d169_107 rfl rfl ?_
              refine zw_aload_n (n := 109) d169_108 rfl rfl ?_
              refine zw_geti (n := 112) d169_109 rfl (zj_5 hS).1 (zj_5 hS).2 ?_
              refine zw_cV (n := 115) d169_112 (zs_V rfl rfl rfl rfl (by decide) (zj_5 hS).1 (zq_5 hS)) (by rw [ml_171]; rfl) (by decide) rfl (zc_mV h (fun C17 h => ?_))
              refine zw_aload_n (n := 116) d169_115 rfl rfl ?_
              refine zw_aload_n (n := 117) d169_116 rfl rfl ?_
              refine zw_getr (n := 120) d169_117 rfl (zj_5 hS).1 (zj_5 hS).2 (zr_5_6 hS) ?_
              refine zw_iload_n (n := 121) d169_120 rfl rfl ?_
              obtain ⟨hi, h⟩ := h
              refine zw_iald (n := 122) d169_121 rfl (za_5_6 hS).1 (za_5_6 hS).2 hi ?_
              refine zw_aload_n (n := 123) d169_122 rfl rfl ?_
              refine zw_getr (n := 126) d169_123 rfl (zj_5 hS).1 (zj_5 hS).2 (zr_5_6 hS) ?_
              refine zw_iload_n (n := 127) d169_126 rfl rfl ?_
              obtain ⟨hi, h⟩ := h
              refine zw_iald (n := 128) d169_127 rfl (za_5_6 hS).1 (za_5_6 hS).2 hi ?_
              refine zw_aload_n (n := 129) d169_128 rfl rfl ?_
              refine zw_getr (n := 132) d169_129 rfl (zj_5 hS).1 (zj_5 hS).2 (zr_5_5 hS) ?_
              refine zw_iload_n (n := 133) d169_132 rfl rfl ?_
              obtain ⟨hi, h⟩ := h
              refine zw_iald (n := 134) d169_133 rfl (za_5_5 hS).1 (za_5_5 hS).2 hi ?_
              refine zw_aload_n (n := 135) d169_134 rfl rfl ?_
              refine zw_cI (n := 138) d169_135 (zs_V rfl rfl rfl rfl (by decide) (zj_5 hS).1 (zq_5 hS)) (by rw [ml_172]; rfl) (by decide) rfl (zc_mI h (fun r18 C18 h => ?_))
              refine zw_aload_n (n := 139) d169_138 rfl rfl ?_
              refine zw_geti (n := 142) d169_139 rfl (zj_5 hS).1 (zj_5 hS).2 ?_
              refine zw_cI (n := 145) d169_142 (zs_V rfl rfl rfl rfl (by decide) (zj_5 hS).1 (zq_5 hS)) (by rw [ml_173]; rfl) (by decide) rfl (zc_mI h (fun r19 C19 h => ?_))
              exact zw_iret d169_145 rfl ⟨_, rfl, h⟩

set_option maxRecDepth 20000 in
theorem zf170 (pc : Nat) : zt_code 170 pc = zt_fd zl_170 pc := rfl
theorem d170_0 : zt_code 170 0 = some (.iload_n 1, 0, 0, 0) := (zf170 0).trans rfl
theorem d170_1 : zt_code 170 1 = some (.ifCond .eq (8), 0, 9, 0) := (zf170 1).trans rfl
theorem d170_4 : zt_code 170 4 = some (.iload_n 0, 0, 0, 0) := (zf170 4).trans rfl
theorem d170_5 : zt_code 170 5 = some (.iload_n 1, 0, 0, 0) := (zf170 5).trans rfl
theorem d170_6 : zt_code 170 6 = some (.if_icmp .ne (5), 0, 11, 0) := (zf170 6).trans rfl
theorem d170_9 : zt_code 170 9 = some (.iconst (1), 0, 0, 0) := (zf170 9).trans rfl
theorem d170_10 : zt_code 170 10 = some (.ireturn, 1, 0, 0) := (zf170 10).trans rfl
theorem d170_11 : zt_code 170 11 = some (.iload_n 1, 0, 0, 0) := (zf170 11).trans rfl
theorem d170_12 : zt_code 170 12 = some (.iconst (1), 0, 0, 0) := (zf170 12).trans rfl
theorem d170_13 : zt_code 170 13 = some (.if_icmp .ne (22), 0, 35, 0) := (zf170 13).trans rfl
theorem d170_16 : zt_code 170 16 = some (.iload_n 0, 0, 0, 0) := (zf170 16).trans rfl
theorem d170_17 : zt_code 170 17 = some (.iconst (2), 0, 0, 0) := (zf170 17).trans rfl
theorem d170_18 : zt_code 170 18 = some (.if_icmp .eq (13), 0, 31, 0) := (zf170 18).trans rfl
theorem d170_21 : zt_code 170 21 = some (.iload_n 0, 0, 0, 0) := (zf170 21).trans rfl
theorem d170_22 : zt_code 170 22 = some (.iconst (3), 0, 0, 0) := (zf170 22).trans rfl
theorem d170_23 : zt_code 170 23 = some (.if_icmp .eq (8), 0, 31, 0) := (zf170 23).trans rfl
theorem d170_26 : zt_code 170 26 = some (.iload_n 0, 0, 0, 0) := (zf170 26).trans rfl
theorem d170_27 : zt_code 170 27 = some (.iconst (5), 0, 0, 0) := (zf170 27).trans rfl
theorem d170_28 : zt_code 170 28 = some (.if_icmp .ne (7), 0, 35, 0) := (zf170 28).trans rfl
theorem d170_31 : zt_code 170 31 = some (.iconst (1), 0, 0, 0) := (zf170 31).trans rfl
theorem d170_32 : zt_code 170 32 = some (.goto (4), 0, 36, 0) := (zf170 32).trans rfl
theorem d170_35 : zt_code 170 35 = some (.iconst (0), 0, 0, 0) := (zf170 35).trans rfl
theorem d170_36 : zt_code 170 36 = some (.ireturn, 1, 0, 0) := (zf170 36).trans rfl
/-- FirstAtTheFirstModel.isUnder(II)Z -/
theorem vc170 {X : zX} {S : zx_S} {C : zx_C} {q : Int32 → zx_C → Prop} {a1 : Int32} {a2 : Int32}  (h : if (a2 : Int32) = 0 then (q 1 C) else (if (a1 : Int32) = a2 then (q 1 C) else (if (a2 : Int32) = 1 then (if (a1 : Int32) = 2 then (q 1 C) else (if (a1 : Int32) = 3 then (q 1 C) else (if (a1 : Int32) = 5 then (q 1 C) else (q 0 C)))) else (q 0 C)))) : zCd X 0 170 [.int a1, .int a2] S C (zQi q) := by
  refine zc_in ml_170 rfl ?_
  refine zw_iload_n (n := 1) d170_0 rfl rfl ?_
  refine zw_if_eq (n := 4) d170_1 rfl (zite h (fun h => ?_) (fun h => ?_))
  · skip
    refine zw_iconst (n := 10) d170_9 rfl zk_i_1 ?_
    exact zw_iret d170_10 rfl ⟨_, rfl, h⟩
  · skip
    refine zw_iload_n (n := 5) d170_4 rfl rfl ?_
    refine zw_iload_n (n := 6) d170_5 rfl rfl ?_
    refine zw_ic_ne (n := 9) d170_6 rfl (zite h (fun h => ?_) (fun h => ?_))
    · skip
      refine zw_iconst (n := 10) d170_9 rfl zk_i_1 ?_
      exact zw_iret d170_10 rfl ⟨_, rfl, h⟩
    · skip
      refine zw_iload_n (n := 12) d170_11 rfl rfl ?_
      refine zw_iconst (n := 13) d170_12 rfl zk_i_1 ?_
      refine zw_ic_ne (n := 16) d170_13 rfl (zite h (fun h => ?_) (fun h => ?_))
      · skip
        refine zw_iload_n (n := 17) d170_16 rfl rfl ?_
        refine zw_iconst (n := 18) d170_17 rfl zk_i_2 ?_
        refine zw_ic_eq (n := 21) d170_18 rfl (zite h (fun h => ?_) (fun h => ?_))
        · skip
          refine zw_iconst (n := 32) d170_31 rfl zk_i_1 ?_
          refine zw_goto d170_32 ?_
          exact zw_iret d170_36 rfl ⟨_, rfl, h⟩
        · skip
          refine zw_iload_n (n := 22) d170_21 rfl rfl ?_
          refine zw_iconst (n := 23) d170_22 rfl zk_i_3 ?_
          refine zw_ic_eq (n := 26) d170_23 rfl (zite h (fun h => ?_) (fun h => ?_))
          · skip
            refine zw_iconst (n := 32) d170_31 rfl zk_i_1 ?_
            refine zw_goto d170_32 ?_
            exact zw_iret d170_36 rfl ⟨_, rfl, h⟩
          · skip
            refine zw_iload_n (n := 27) d170_26 rfl rfl ?_
            refine zw_iconst (n := 28) d170_27 rfl zk_i_5 ?_
            refine zw_ic_ne (n := 31) d170_28 rfl (zite h (fun h => ?_) (fun h => ?_))
            · skip
              refine zw_iconst (n := 32) d170_31 rfl zk_i_1 ?_
              refine zw_goto d170_32 ?_
              exact zw_iret d170_36 rfl ⟨_, rfl, h⟩
            · skip
              refine zw_iconst (n := 36) d170_35 rfl zk_i_0 ?_
              exact zw_iret d170_36 rfl ⟨_, rfl, h⟩
      · skip
        refine zw_iconst (n := 36) d170_35 rfl zk_i_0 ?_
        exact zw_iret d170_36 rfl ⟨_, rfl, h⟩

set_option maxRecDepth 20000 in
theorem zf171 (pc : Nat) : zt_code 171 pc = zt_fd zl_171 pc := rfl
theorem d171_0 : zt_code 171 0 = some (.aload_n 0, 0, 0, 0) := (zf171 0).trans rfl
theorem d171_1 : zt_code 171 1 = some (.iload_n 1, 0, 0, 0) := (zf171 1).trans rfl
theorem d171_2 : zt_code 171 2 = some (.putfield 271, 5, 29, 0) := (zf171 2).trans rfl
theorem d171_5 : zt_code 171 5 = some (.aload_n 0, 0, 0, 0) := (zf171 5).trans rfl
theorem d171_6 : zt_code 171 6 = some (.iconst (-1), 0, 0, 0) := (zf171 6).trans rfl
theorem d171_7 : zt_code 171 7 = some (.putfield 70, 5, 33, 0) := (zf171 7).trans rfl
theorem d171_10 : zt_code 171 10 = some (.return_, 0, 0, 0) := (zf171 10).trans rfl
/-- FirstAtTheFirstModel.begin(I)V -/
theorem vc171 {X : zX} {S : zx_S} {C : zx_C} {q : zx_C → Prop} {e : Nat} {a1 : Int32} (hS : zs_5 S e) (h : q (zp (zp C e 29 a1) e 33 (-1))) : zCd X 0 171 [.ref e, .int a1] S C (zQv q) := by
  refine zc_in ml_171 rfl ?_
  refine zw_aload_n (n := 1) d171_0 rfl rfl ?_
  refine zw_iload_n (n := 2) d171_1 rfl rfl ?_
  refine zw_puti (n := 5) d171_2 rfl (zj_5 hS).1 (zj_5 hS).2 ?_
  refine zw_aload_n (n := 6) d171_5 rfl rfl ?_
  refine zw_iconst (n := 7) d171_6 rfl zk_i_m1 ?_
  refine zw_puti (n := 10) d171_7 rfl (zj_5 hS).1 (zj_5 hS).2 ?_
  exact zw_ret d171_10 ⟨rfl, h⟩

set_option maxRecDepth 20000 in
theorem zf172 (pc : Nat) : zt_code 172 pc = zt_fd zl_172 pc := rfl
theorem d172_0 : zt_code 172 0 = some (.iconst (0), 0, 0, 0) := (zf172 0).trans rfl
theorem d172_1 : zt_code 172 1 = some (.istore_n 1, 0, 0, 0) := (zf172 1).trans rfl
theorem d172_2 : zt_code 172 2 = some (.iconst (0), 0, 0, 0) := (zf172 2).trans rfl
theorem d172_3 : zt_code 172 3 = some (.istore_n 2, 0, 0, 0) := (zf172 3).trans rfl
theorem d172_4 : zt_code 172 4 = some (.iload_n 2, 0, 0, 0) := (zf172 4).trans rfl
theorem d172_5 : zt_code 172 5 = some (.aload_n 0, 0, 0, 0) := (zf172 5).trans rfl
theorem d172_6 : zt_code 172 6 = some (.getfield 98, 5, 11, 0) := (zf172 6).trans rfl
theorem d172_9 : zt_code 172 9 = some (.if_icmp .ge (29), 0, 38, 0) := (zf172 9).trans rfl
theorem d172_12 : zt_code 172 12 = some (.iload_n 1, 0, 0, 0) := (zf172 12).trans rfl
theorem d172_13 : zt_code 172 13 = some (.aload_n 0, 0, 0, 0) := (zf172 13).trans rfl
theorem d172_14 : zt_code 172 14 = some (.getfield 49, 5, 13, 1) := (zf172 14).trans rfl
theorem d172_17 : zt_code 172 17 = some (.iload_n 2, 0, 0, 0) := (zf172 17).trans rfl
theorem d172_18 : zt_code 172 18 = some (.iaload, 0, 0, 0) := (zf172 18).trans rfl
theorem d172_19 : zt_code 172 19 = some (.iconst (-1), 0, 0, 0) := (zf172 19).trans rfl
theorem d172_20 : zt_code 172 20 = some (.if_icmp .ne (9), 0, 29, 0) := (zf172 20).trans rfl
theorem d172_23 : zt_code 172 23 = some (.iconst (1), 0, 0, 0) := (zf172 23).trans rfl
theorem d172_24 : zt_code 172 24 = some (.iload_n 2, 0, 0, 0) := (zf172 24).trans rfl
theorem d172_25 : zt_code 172 25 = some (.ishl, 0, 0, 0) := (zf172 25).trans rfl
theorem d172_26 : zt_code 172 26 = some (.goto (4), 0, 30, 0) := (zf172 26).trans rfl
theorem d172_29 : zt_code 172 29 = some (.iconst (0), 0, 0, 0) := (zf172 29).trans rfl
theorem d172_30 : zt_code 172 30 = some (.ior, 0, 0, 0) := (zf172 30).trans rfl
theorem d172_31 : zt_code 172 31 = some (.istore_n 1, 0, 0, 0) := (zf172 31).trans rfl
theorem d172_32 : zt_code 172 32 = some (.iinc 2 (1), 0, 0, 0) := (zf172 32).trans rfl
theorem d172_35 : zt_code 172 35 = some (.goto (-31), 0, 4, 0) := (zf172 35).trans rfl
theorem d172_38 : zt_code 172 38 = some (.iload_n 1, 0, 0, 0) := (zf172 38).trans rfl
theorem d172_39 : zt_code 172 39 = some (.ireturn, 0, 0, 0) := (zf172 39).trans rfl
/-- FirstAtTheFirstModel.left()I -/
theorem vc172 {X : zX} {S : zx_S} {C : zx_C} {q : Int32 → zx_C → Prop} {e : Nat} (hS : zs_5 S e) (h : zW X 0 172 4 [.ref e, .int 0, .int 0] [] S C (zQi q)) : zCd X 0 172 [.ref e] S C (zQi q) := by
  refine zc_in ml_172 rfl ?_
  refine zw_iconst (n := 1) d172_0 rfl zk_i_0 ?_
  refine zw_istore_n (n := 2) d172_1 rfl rfl rfl ?_
  refine zw_iconst (n := 3) d172_2 rfl zk_i_0 ?_
  refine zw_istore_n (n := 4) d172_3 rfl rfl rfl ?_
  exact h
theorem vc172_4 {X : zX} {S : zx_S} {C : zx_C} {q : Int32 → zx_C → Prop} {e : Nat} {i1 : Int32} {i2 : Int32} (hS : zs_5 S e) (h : if (i2 : Int32) < (C.1 e 11) then (vp_in i2 8 ∧ (if ((C.1 (e + 27) (Int32.toNatClampNeg i2)) : Int32) = (-1) then (zW X 0 172 4 [.ref e, .int (i1 ||| (1 <<< (i2 &&& 31))), .int (i2 + 1)] [] S C (zQi q)) else (zW X 0 172 4 [.ref e, .int (i1 ||| 0), .int (i2 + 1)] [] S C (zQi q)))) else (q i1 C)) : zW X 0 172 4 [.ref e, .int i1, .int i2] [] S C (zQi q) := by
  refine zw_iload_n (n := 5) d172_4 rfl rfl ?_
  refine zw_aload_n (n := 6) d172_5 rfl rfl ?_
  refine zw_geti (n := 9) d172_6 rfl (zj_5 hS).1 (zj_5 hS).2 ?_
  refine zw_ic_ge (n := 12) d172_9 rfl (zite h (fun h => ?_) (fun h => ?_))
  · skip
    refine zw_iload_n (n := 13) d172_12 rfl rfl ?_
    refine zw_aload_n (n := 14) d172_13 rfl rfl ?_
    refine zw_getr (n := 17) d172_14 rfl (zj_5 hS).1 (zj_5 hS).2 (zr_5_13 hS) ?_
    refine zw_iload_n (n := 18) d172_17 rfl rfl ?_
    obtain ⟨hi, h⟩ := h
    refine zw_iald (n := 19) d172_18 rfl (za_5_13 hS).1 (za_5_13 hS).2 hi ?_
    refine zw_iconst (n := 20) d172_19 rfl zk_i_m1 ?_
    refine zw_ic_ne (n := 23) d172_20 rfl (zite h (fun h => ?_) (fun h => ?_))
    · skip
      refine zw_iconst (n := 24) d172_23 rfl zk_i_1 ?_
      refine zw_iload_n (n := 25) d172_24 rfl rfl ?_
      refine zw_ishl (n := 26) d172_25 rfl ?_
      refine zw_goto d172_26 ?_
      refine zw_ior (n := 31) d172_30 rfl ?_
      refine zw_istore_n (n := 32) d172_31 rfl rfl rfl ?_
      refine zw_iinc (n := 35) d172_32 rfl rfl zk_i_1 rfl ?_
      refine zw_goto d172_35 ?_
      exact h
    · skip
      refine zw_iconst (n := 30) d172_29 rfl zk_i_0 ?_
      refine zw_ior (n := 31) d172_30 rfl ?_
      refine zw_istore_n (n := 32) d172_31 rfl rfl rfl ?_
      refine zw_iinc (n := 35) d172_32 rfl rfl zk_i_1 rfl ?_
      refine zw_goto d172_35 ?_
      exact h
  · skip
    refine zw_iload_n (n := 39) d172_38 rfl rfl ?_
    exact zw_iret d172_39 rfl ⟨_, rfl, h⟩

set_option maxRecDepth 20000 in
theorem zf173 (pc : Nat) : zt_code 173 pc = zt_fd zl_173 pc := rfl
theorem d173_0 : zt_code 173 0 = some (.iload 4, 0, 0, 0) := (zf173 0).trans rfl
theorem d173_2 : zt_code 173 2 = some (.ifCond .ne (5), 0, 7, 0) := (zf173 2).trans rfl
theorem d173_5 : zt_code 173 5 = some (.iconst (-1), 0, 0, 0) := (zf173 5).trans rfl
theorem d173_6 : zt_code 173 6 = some (.ireturn, 0, 0, 0) := (zf173 6).trans rfl
theorem d173_7 : zt_code 173 7 = some (.iload_n 3, 0, 0, 0) := (zf173 7).trans rfl
theorem d173_8 : zt_code 173 8 = some (.ifCond .eq (8), 0, 16, 0) := (zf173 8).trans rfl
theorem d173_11 : zt_code 173 11 = some (.iload_n 3, 0, 0, 0) := (zf173 11).trans rfl
theorem d173_12 : zt_code 173 12 = some (.iconst (4), 0, 0, 0) := (zf173 12).trans rfl
theorem d173_13 : zt_code 173 13 = some (.if_icmp .ne (49), 0, 62, 0) := (zf173 13).trans rfl
theorem d173_16 : zt_code 173 16 = some (.iload_n 3, 0, 0, 0) := (zf173 16).trans rfl
theorem d173_17 : zt_code 173 17 = some (.ifCond .ne (7), 0, 24, 0) := (zf173 17).trans rfl
theorem d173_20 : zt_code 173 20 = some (.iconst (0), 0, 0, 0) := (zf173 20).trans rfl
theorem d173_21 : zt_code 173 21 = some (.goto (9), 0, 30, 0) := (zf173 21).trans rfl
theorem d173_24 : zt_code 173 24 = some (.aload_n 0, 0, 0, 0) := (zf173 24).trans rfl
theorem d173_25 : zt_code 173 25 = some (.getfield 98, 5, 11, 0) := (zf173 25).trans rfl
theorem d173_28 : zt_code 173 28 = some (.iconst (1), 0, 0, 0) := (zf173 28).trans rfl
theorem d173_29 : zt_code 173 29 = some (.isub, 0, 0, 0) := (zf173 29).trans rfl
theorem d173_30 : zt_code 173 30 = some (.istore 6, 0, 0, 0) := (zf173 30).trans rfl
theorem d173_32 : zt_code 173 32 = some (.iload 4, 0, 0, 0) := (zf173 32).trans rfl
theorem d173_34 : zt_code 173 34 = some (.iload 6, 0, 0, 0) := (zf173 34).trans rfl
theorem d173_36 : zt_code 173 36 = some (.invokestatic 252, 174, 2, -1) := (zf173 36).trans rfl
theorem d173_39 : zt_code 173 39 = some (.ifCond .ne (20), 0, 59, 0) := (zf173 39).trans rfl
theorem d173_42 : zt_code 173 42 = some (.iload 6, 0, 0, 0) := (zf173 42).trans rfl
theorem d173_44 : zt_code 173 44 = some (.iload_n 3, 0, 0, 0) := (zf173 44).trans rfl
theorem d173_45 : zt_code 173 45 = some (.ifCond .ne (7), 0, 52, 0) := (zf173 45).trans rfl
theorem d173_48 : zt_code 173 48 = some (.iconst (1), 0, 0, 0) := (zf173 48).trans rfl
theorem d173_49 : zt_code 173 49 = some (.goto (4), 0, 53, 0) := (zf173 49).trans rfl
theorem d173_52 : zt_code 173 52 = some (.iconst (-1), 0, 0, 0) := (zf173 52).trans rfl
theorem d173_53 : zt_code 173 53 = some (.iadd, 0, 0, 0) := (zf173 53).trans rfl
theorem d173_54 : zt_code 173 54 = some (.istore 6, 0, 0, 0) := (zf173 54).trans rfl
theorem d173_56 : zt_code 173 56 = some (.goto (-24), 0, 32, 0) := (zf173 56).trans rfl
theorem d173_59 : zt_code 173 59 = some (.iload 6, 0, 0, 0) := (zf173 59).trans rfl
theorem d173_61 : zt_code 173 61 = some (.ireturn, 0, 0, 0) := (zf173 61).trans rfl
theorem d173_62 : zt_code 173 62 = some (.iload_n 3, 0, 0, 0) := (zf173 62).trans rfl
theorem d173_63 : zt_code 173 63 = some (.iconst (5), 0, 0, 0) := (zf173 63).trans rfl
theorem d173_64 : zt_code 173 64 = some (.if_icmp .ne (13), 0, 77, 0) := (zf173 64).trans rfl
theorem d173_67 : zt_code 173 67 = some (.aload_n 0, 0, 0, 0) := (zf173 67).trans rfl
theorem d173_68 : zt_code 173 68 = some (.iload_n 2, 0, 0, 0) := (zf173 68).trans rfl
theorem d173_69 : zt_code 173 69 = some (.iload 4, 0, 0, 0) := (zf173 69).trans rfl
theorem d173_71 : zt_code 173 71 = some (.iload 5, 0, 0, 0) := (zf173 71).trans rfl
theorem d173_73 : zt_code 173 73 = some (.invokevirtual 290, 175, 4, 5) := (zf173 73).trans rfl
theorem d173_76 : zt_code 173 76 = some (.ireturn, 0, 0, 0) := (zf173 76).trans rfl
theorem d173_77 : zt_code 173 77 = some (.iload_n 3, 0, 0, 0) := (zf173 77).trans rfl
theorem d173_78 : zt_code 173 78 = some (.iconst (1), 0, 0, 0) := (zf173 78).trans rfl
theorem d173_79 : zt_code 173 79 = some (.if_icmp .ne (7), 0, 86, 0) := (zf173 79).trans rfl
theorem d173_82 : zt_code 173 82 = some (.iconst (-1), 0, 0, 0) := (zf173 82).trans rfl
theorem d173_83 : zt_code 173 83 = some (.goto (10), 0, 93, 0) := (zf173 83).trans rfl
theorem d173_86 : zt_code 173 86 = some (.aload_n 0, 0, 0, 0) := (zf173 86).trans rfl
theorem d173_87 : zt_code 173 87 = some (.iload_n 2, 0, 0, 0) := (zf173 87).trans rfl
theorem d173_88 : zt_code 173 88 = some (.iload 5, 0, 0, 0) := (zf173 88).trans rfl
theorem d173_90 : zt_code 173 90 = some (.invokevirtual 283, 179, 3, 5) := (zf173 90).trans rfl
theorem d173_93 : zt_code 173 93 = some (.istore 6, 0, 0, 0) := (zf173 93).trans rfl
theorem d173_95 : zt_code 173 95 = some (.iload 6, 0, 0, 0) := (zf173 95).trans rfl
theorem d173_97 : zt_code 173 97 = some (.iconst (-1), 0, 0, 0) := (zf173 97).trans rfl
theorem d173_98 : zt_code 173 98 = some (.if_icmp .ne (12), 0, 110, 0) := (zf173 98).trans rfl
theorem d173_101 : zt_code 173 101 = some (.aload_n 0, 0, 0, 0) := (zf173 101).trans rfl
theorem d173_102 : zt_code 173 102 = some (.iload_n 1, 0, 0, 0) := (zf173 102).trans rfl
theorem d173_103 : zt_code 173 103 = some (.iload_n 2, 0, 0, 0) := (zf173 103).trans rfl
theorem d173_104 : zt_code 173 104 = some (.iload 4, 0, 0, 0) := (zf173 104).trans rfl
theorem d173_106 : zt_code 173 106 = some (.invokevirtual 293, 180, 4, 5) := (zf173 106).trans rfl
theorem d173_109 : zt_code 173 109 = some (.ireturn, 0, 0, 0) := (zf173 109).trans rfl
theorem d173_110 : zt_code 173 110 = some (.iload_n 3, 0, 0, 0) := (zf173 110).trans rfl
theorem d173_111 : zt_code 173 111 = some (.iconst (2), 0, 0, 0) := (zf173 111).trans rfl
theorem d173_112 : zt_code 173 112 = some (.if_icmp .ne (14), 0, 126, 0) := (zf173 112).trans rfl
theorem d173_115 : zt_code 173 115 = some (.aload_n 0, 0, 0, 0) := (zf173 115).trans rfl
theorem d173_116 : zt_code 173 116 = some (.iload_n 1, 0, 0, 0) := (zf173 116).trans rfl
theorem d173_117 : zt_code 173 117 = some (.iload_n 2, 0, 0, 0) := (zf173 117).trans rfl
theorem d173_118 : zt_code 173 118 = some (.iload 6, 0, 0, 0) := (zf173 118).trans rfl
theorem d173_120 : zt_code 173 120 = some (.iload 4, 0, 0, 0) := (zf173 120).trans rfl
theorem d173_122 : zt_code 173 122 = some (.invokevirtual 296, 182, 5, 5) := (zf173 122).trans rfl
theorem d173_125 : zt_code 173 125 = some (.ireturn, 0, 0, 0) := (zf173 125).trans rfl
theorem d173_126 : zt_code 173 126 = some (.aload_n 0, 0, 0, 0) := (zf173 126).trans rfl
theorem d173_127 : zt_code 173 127 = some (.iload_n 1, 0, 0, 0) := (zf173 127).trans rfl
theorem d173_128 : zt_code 173 128 = some (.iload_n 2, 0, 0, 0) := (zf173 128).trans rfl
theorem d173_129 : zt_code 173 129 = some (.iload 4, 0, 0, 0) := (zf173 129).trans rfl
theorem d173_131 : zt_code 173 131 = some (.invokestatic 300, 183, 1, -1) := (zf173 131).trans rfl
theorem d173_134 : zt_code 173 134 = some (.iconst (1), 0, 0, 0) := (zf173 134).trans rfl
theorem d173_135 : zt_code 173 135 = some (.if_icmp .ne (8), 0, 143, 0) := (zf173 135).trans rfl
theorem d173_138 : zt_code 173 138 = some (.iload 4, 0, 0, 0) := (zf173 138).trans rfl
theorem d173_140 : zt_code 173 140 = some (.goto (20), 0, 160, 0) := (zf173 140).trans rfl
theorem d173_143 : zt_code 173 143 = some (.iload 4, 0, 0, 0) := (zf173 143).trans rfl
theorem d173_145 : zt_code 173 145 = some (.iconst (1), 0, 0, 0) := (zf173 145).trans rfl
theorem d173_146 : zt_code 173 146 = some (.aload_n 0, 0, 0, 0) := (zf173 146).trans rfl
theorem d173_147 : zt_code 173 147 = some (.iload_n 1, 0, 0, 0) := (zf173 147).trans rfl
theorem d173_148 : zt_code 173 148 = some (.iload_n 2, 0, 0, 0) := (zf173 148).trans rfl
theorem d173_149 : zt_code 173 149 = some (.iload 6, 0, 0, 0) := (zf173 149).trans rfl
theorem d173_151 : zt_code 173 151 = some (.iload 4, 0, 0, 0) := (zf173 151).trans rfl
theorem d173_153 : zt_code 173 153 = some (.invokevirtual 303, 184, 5, 5) := (zf173 153).trans rfl
theorem d173_156 : zt_code 173 156 = some (.ishl, 0, 0, 0) := (zf173 156).trans rfl
theorem d173_157 : zt_code 173 157 = some (.iconst (-1), 0, 0, 0) := (zf173 157).trans rfl
theorem d173_158 : zt_code 173 158 = some (.ixor, 0, 0, 0) := (zf173 158).trans rfl
theorem d173_159 : zt_code 173 159 = some (.iand, 0, 0, 0) := (zf173 159).trans rfl
theorem d173_160 : zt_code 173 160 = some (.invokevirtual 293, 180, 4, 5) := (zf173 160).trans rfl
theorem d173_163 : zt_code 173 163 = some (.ireturn, 0, 0, 0) := (zf173 163).trans rfl
/-- FirstAtTheFirstModel.takenBy(IIIII)I -/
theorem vc173 {X : zX} {S : zx_S} {C : zx_C} {q : Int32 → zx_C → Prop} {d : Nat} (hd : 2 ≤ d) {e : Nat} {a1 : Int32} {a2 : Int32} {a3 : Int32} {a4 : Int32} {a5 : Int32} (hS : zs_5 S e) (h : if (a4 : Int32) = 0 then (q (-1) C) else (if (a3 : Int32) = 0 then (if (a3 : Int32) = 0 then (zW X (d + 1) 173 32 [.ref e, .int a1, .int a2, .int a3, .int a4, .int a5, .int 0] [] S C (zQi q)) else (zW X (d + 1) 173 32 [.ref e, .int a1, .int a2, .int a3, .int a4, .int a5, .int ((C.1 e 11) - 1)] [] S C (zQi q))) else (if (a3 : Int32) = 4 then (if (a3 : Int32) = 0 then (zW X (d + 1) 173 32 [.ref e, .int a1, .int a2, .int a3, .int a4, .int a5, .int 0] [] S C (zQi q)) else (zW X (d + 1) 173 32 [.ref e, .int a1, .int a2, .int a3, .int a4, .int a5, .int ((C.1 e 11) - 1)] [] S C (zQi q))) else (if (a3 : Int32) = 5 then (zCd X d 175 [.ref e, .int a2, .int a4, .int a5] S C (zQi (fun r1 C1 => q r1 C1))) else (if (a3 : Int32) = 1 then (if ((-1) : Int32) = (-1) then (zCd X 1 180 [.ref e, .int a1, .int a2, .int a4] S C (zQi (fun r2 C2 => q r2 C2))) else (if (a3 : Int32) = 2 then (zCd X 1 182 [.ref e, .int a1, .int a2, .int (-1), .int a4] S C (zQi (fun r3 C3 => q r3 C3))) else (zCd X 0 183 [.int a4] S C (zQi (fun r4 C4 => if (r4 : Int32) = 1 then (zCd X 1 180 [.ref e, .int a1, .int a2, .int a4] S C4 (zQi (fun r5 C5 => q r5 C5))) else (zCd X 1 184 [.ref e, .int a1, .int a2, .int (-1), .int a4] S C4 (zQi (fun r6 C6 => zCd X 1 180 [.ref e, .int a1, .int a2, .int (a4 &&& ((1 <<< (r6 &&& 31)) ^^^ (-1)))] S C6 (zQi (fun r7 C7 => q r7 C7)))))))))) else (zCd X 2 179 [.ref e, .int a2, .int a5] S C (zQi (fun r8 C8 => if (r8 : Int32) = (-1) then (zCd X 1 180 [.ref e, .int a1, .int a2, .int a4] S C8 (zQi (fun r9 C9 => q r9 C9))) else (if (a3 : Int32) = 2 then (zCd X 1 182 [.ref e, .int a1, .int a2, .int r8, .int a4] S C8 (zQi (fun r10 C10 => q r10 C10))) else (zCd X 0 183 [.int a4] S C8 (zQi (fun r11 C11 => if (r11 : Int32) = 1 then (zCd X 1 180 [.ref e, .int a1, .int a2, .int a4] S C11 (zQi (fun r12 C12 => q r12 C12))) else (zCd X 1 184 [.ref e, .int a1, .int a2, .int r8, .int a4] S C11 (zQi (fun r13 C13 => zCd X 1 180 [.ref e, .int a1, .int a2, .int (a4 &&& ((1 <<< (r13 &&& 31)) ^^^ (-1)))] S C13 (zQi (fun r14 C14 => q r14 C14))))))))))))))))) : zCd X (d + 1) 173 [.ref e, .int a1, .int a2, .int a3, .int a4, .int a5] S C (zQi q) := by
  refine zc_in ml_173 rfl ?_
  refine zw_iload (n := 2) d173_0 rfl rfl ?_
  refine zw_if_ne (n := 5) d173_2 rfl (zite h (fun h => ?_) (fun h => ?_))
  · skip
    refine zw_iconst (n := 6) d173_5 rfl zk_i_m1 ?_
    exact zw_iret d173_6 rfl ⟨_, rfl, h⟩
  · skip
    refine zw_iload_n (n := 8) d173_7 rfl rfl ?_
    refine zw_if_eq (n := 11) d173_8 rfl (zite h (fun h => ?_) (fun h => ?_))
    · skip
      refine zw_iload_n (n := 17) d173_16 rfl rfl ?_
      refine zw_if_ne (n := 20) d173_17 rfl (zite h (fun h => ?_) (fun h => ?_))
      · skip
        refine zw_iconst (n := 21) d173_20 rfl zk_i_0 ?_
        refine zw_goto d173_21 ?_
        refine zw_istore (n := 32) d173_30 rfl rfl rfl ?_
        exact h
      · skip
        refine zw_aload_n (n := 25) d173_24 rfl rfl ?_
        refine zw_geti (n := 28) d173_25 rfl (zj_5 hS).1 (zj_5 hS).2 ?_
        refine zw_iconst (n := 29) d173_28 rfl zk_i_1 ?_
        refine zw_isub (n := 30) d173_29 rfl ?_
        refine zw_istore (n := 32) d173_30 rfl rfl rfl ?_
        exact h
    · skip
      refine zw_iload_n (n := 12) d173_11 rfl rfl ?_
      refine zw_iconst (n := 13) d173_12 rfl zk_i_4 ?_
      refine zw_ic_ne (n := 16) d173_13 rfl (zite h (fun h => ?_) (fun h => ?_))
      · skip
        refine zw_iload_n (n := 17) d173_16 rfl rfl ?_
        refine zw_if_ne (n := 20) d173_17 rfl (zite h (fun h => ?_) (fun h => ?_))
        · skip
          refine zw_iconst (n := 21) d173_20 rfl zk_i_0 ?_
          refine zw_goto d173_21 ?_
          refine zw_istore (n := 32) d173_30 rfl rfl rfl ?_
          exact h
        · skip
          refine zw_aload_n (n := 25) d173_24 rfl rfl ?_
          refine zw_geti (n := 28) d173_25 rfl (zj_5 hS).1 (zj_5 hS).2 ?_
          refine zw_iconst (n := 29) d173_28 rfl zk_i_1 ?_
          refine zw_isub (n := 30) d173_29 rfl ?_
          refine zw_istore (n := 32) d173_30 rfl rfl rfl ?_
          exact h
      · skip
        refine zw_iload_n (n := 63) d173_62 rfl rfl ?_
        refine zw_iconst (n := 64) d173_63 rfl zk_i_5 ?_
        refine zw_ic_ne (n := 67) d173_64 rfl (zite h (fun h => ?_) (fun h => ?_))
        · skip
          refine zw_aload_n (n := 68) d173_67 rfl rfl ?_
          refine zw_iload_n (n := 69) d173_68 rfl rfl ?_
          refine zw_iload (n := 71) d173_69 rfl rfl ?_
          refine zw_iload (n := 73) d173_71 rfl rfl ?_
          refine zw_cI (n := 76) d173_73 (zs_V rfl rfl rfl rfl (by decide) (zj_5 hS).1 (zq_5 hS)) (by rw [ml_175]; rfl) (Nat.le_refl _) rfl (zc_mI h (fun r1 C1 h => ?_))
          exact zw_iret d173_76 rfl ⟨_, rfl, h⟩
        · skip
          refine zw_iload_n (n := 78) d173_77 rfl rfl ?_
          refine zw_iconst (n := 79) d173_78 rfl zk_i_1 ?_
          refine zw_ic_ne (n := 82) d173_79 rfl (zite h (fun h => ?_) (fun h => ?_))
          · skip
            refine zw_iconst (n := 83) d173_82 rfl zk_i_m1 ?_
            refine zw_goto d173_83 ?_
            refine zw_istore (n := 95) d173_93 rfl rfl rfl ?_
            refine zw_iload (n := 97) d173_95 rfl rfl ?_
            refine zw_iconst (n := 98) d173_97 rfl zk_i_m1 ?_
            refine zw_ic_ne (n := 101) d173_98 rfl (zite h (fun h => ?_) (fun h => ?_))
            · skip
              refine zw_aload_n (n := 102) d173_101 rfl rfl ?_
              refine zw_iload_n (n := 103) d173_102 rfl rfl ?_
              refine zw_iload_n (n := 104) d173_103 rfl rfl ?_
              refine zw_iload (n := 106) d173_104 rfl rfl ?_
              refine zw_cI (n := 109) d173_106 (zs_V rfl rfl rfl rfl (by decide) (zj_5 hS).1 (zq_5 hS)) (by rw [ml_180]; rfl) (by omega) rfl (zc_mI h (fun r2 C2 h => ?_))
              exact zw_iret d173_109 rfl ⟨_, rfl, h⟩
            · skip
              refine zw_iload_n (n := 111) d173_110 rfl rfl ?_
              refine zw_iconst (n := 112) d173_111 rfl zk_i_2 ?_
              refine zw_ic_ne (n := 115) d173_112 rfl (zite h (fun h => ?_) (fun h => ?_))
              · skip
                refine zw_aload_n (n := 116) d173_115 rfl rfl ?_
                refine zw_iload_n (n := 117) d173_116 rfl rfl ?_
                refine zw_iload_n (n := 118) d173_117 rfl rfl ?_
                refine zw_iload (n := 120) d173_118 rfl rfl ?_
                refine zw_iload (n := 122) d173_120 rfl rfl ?_
                refine zw_cI (n := 125) d173_122 (zs_V rfl rfl rfl rfl (by decide) (zj_5 hS).1 (zq_5 hS)) (by rw [ml_182]; rfl) (by omega) rfl (zc_mI h (fun r3 C3 h => ?_))
                exact zw_iret d173_125 rfl ⟨_, rfl, h⟩
              · skip
                refine zw_aload_n (n := 127) d173_126 rfl rfl ?_
                refine zw_iload_n (n := 128) d173_127 rfl rfl ?_
                refine zw_iload_n (n := 129) d173_128 rfl rfl ?_
                refine zw_iload (n := 131) d173_129 rfl rfl ?_
                refine zw_cI (n := 134) d173_131 (zs_S rfl rfl rfl rfl) (by rw [ml_183]; rfl) (by omega) rfl (zc_mI h (fun r4 C4 h => ?_))
                refine zw_iconst (n := 135) d173_134 rfl zk_i_1 ?_
                refine zw_ic_ne (n := 138) d173_135 rfl (zite h (fun h => ?_) (fun h => ?_))
                · skip
                  refine zw_iload (n := 140) d173_138 rfl rfl ?_
                  refine zw_goto d173_140 ?_
                  refine zw_cI (n := 163) d173_160 (zs_V rfl rfl rfl rfl (by decide) (zj_5 hS).1 (zq_5 hS)) (by rw [ml_180]; rfl) (by omega) rfl (zc_mI h (fun r5 C5 h => ?_))
                  exact zw_iret d173_163 rfl ⟨_, rfl, h⟩
                · skip
                  refine zw_iload (n := 145) d173_143 rfl rfl ?_
                  refine zw_iconst (n := 146) d173_145 rfl zk_i_1 ?_
                  refine zw_aload_n (n := 147) d173_146 rfl rfl ?_
                  refine zw_iload_n (n := 148) d173_147 rfl rfl ?_
                  refine zw_iload_n (n := 149) d173_148 rfl rfl ?_
                  refine zw_iload (n := 151) d173_149 rfl rfl ?_
                  refine zw_iload (n := 153) d173_151 rfl rfl ?_
                  refine zw_cI (n := 156) d173_153 (zs_V rfl rfl rfl rfl (by decide) (zj_5 hS).1 (zq_5 hS)) (by rw [ml_184]; rfl) (by omega) rfl (zc_mI h (fun r6 C6 h => ?_))
                  refine zw_ishl (n := 157) d173_156 rfl ?_
                  refine zw_iconst (n := 158) d173_157 rfl zk_i_m1 ?_
                  refine zw_ixor (n := 159) d173_158 rfl ?_
                  refine zw_iand (n := 160) d173_159 rfl ?_
                  refine zw_cI (n := 163) d173_160 (zs_V rfl rfl rfl rfl (by decide) (zj_5 hS).1 (zq_5 hS)) (by rw [ml_180]; rfl) (by omega) rfl (zc_mI h (fun r7 C7 h => ?_))
                  exact zw_iret d173_163 rfl ⟨_, rfl, h⟩
          · skip
            refine zw_aload_n (n := 87) d173_86 rfl rfl ?_
            refine zw_iload_n (n := 88) d173_87 rfl rfl ?_
            refine zw_iload (n := 90) d173_88 rfl rfl ?_
            refine zw_cI (n := 93) d173_90 (zs_V rfl rfl rfl rfl (by decide) (zj_5 hS).1 (zq_5 hS)) (by rw [ml_179]; rfl) (by omega) rfl (zc_mI h (fun r8 C8 h => ?_))
            refine zw_istore (n := 95) d173_93 rfl rfl rfl ?_
            refine zw_iload (n := 97) d173_95 rfl rfl ?_
            refine zw_iconst (n := 98) d173_97 rfl zk_i_m1 ?_
            refine zw_ic_ne (n := 101) d173_98 rfl (zite h (fun h => ?_) (fun h => ?_))
            · skip
              refine zw_aload_n (n := 102) d173_101 rfl rfl ?_
              refine zw_iload_n (n := 103) d173_102 rfl rfl ?_
              refine zw_iload_n (n := 104) d173_103 rfl rfl ?_
              refine zw_iload (n := 106) d173_104 rfl rfl ?_
              refine zw_cI (n := 109) d173_106 (zs_V rfl rfl rfl rfl (by decide) (zj_5 hS).1 (zq_5 hS)) (by rw [ml_180]; rfl) (by omega) rfl (zc_mI h (fun r9 C9 h => ?_))
              exact zw_iret d173_109 rfl ⟨_, rfl, h⟩
            · skip
              refine zw_iload_n (n := 111) d173_110 rfl rfl ?_
              refine zw_iconst (n := 112) d173_111 rfl zk_i_2 ?_
              refine zw_ic_ne (n := 115) d173_112 rfl (zite h (fun h => ?_) (fun h => ?_))
              · skip
                refine zw_aload_n (n := 116) d173_115 rfl rfl ?_
                refine zw_iload_n (n := 117) d173_116 rfl rfl ?_
                refine zw_iload_n (n := 118) d173_117 rfl rfl ?_
                refine zw_iload (n := 120) d173_118 rfl rfl ?_
                refine zw_iload (n := 122) d173_120 rfl rfl ?_
                refine zw_cI (n := 125) d173_122 (zs_V rfl rfl rfl rfl (by decide) (zj_5 hS).1 (zq_5 hS)) (by rw [ml_182]; rfl) (by omega) rfl (zc_mI h (fun r10 C10 h => ?_))
                exact zw_iret d173_125 rfl ⟨_, rfl, h⟩
              · skip
                refine zw_aload_n (n := 127) d173_126 rfl rfl ?_
                refine zw_iload_n (n := 128) d173_127 rfl rfl ?_
                refine zw_iload_n (n := 129) d173_128 rfl rfl ?_
                refine zw_iload (n := 131) d173_129 rfl rfl ?_
                refine zw_cI (n := 134) d173_131 (zs_S rfl rfl rfl rfl) (by rw [ml_183]; rfl) (by omega) rfl (zc_mI h (fun r11 C11 h => ?_))
                refine zw_iconst (n := 135) d173_134 rfl zk_i_1 ?_
                refine zw_ic_ne (n := 138) d173_135 rfl (zite h (fun h => ?_) (fun h => ?_))
                · skip
                  refine zw_iload (n := 140) d173_138 rfl rfl ?_
                  refine zw_goto d173_140 ?_
                  refine zw_cI (n := 163) d173_160 (zs_V rfl rfl rfl rfl (by decide) (zj_5 hS).1 (zq_5 hS)) (by rw [ml_180]; rfl) (by omega) rfl (zc_mI h (fun r12 C12 h => ?_))
                  exact zw_iret d173_163 rfl ⟨_, rfl, h⟩
                · skip
                  refine zw_iload (n := 145) d173_143 rfl rfl ?_
                  refine zw_iconst (n := 146) d173_145 rfl zk_i_1 ?_
                  refine zw_aload_n (n := 147) d173_146 rfl rfl ?_
                  refine zw_iload_n (n := 148) d173_147 rfl rfl ?_
                  refine zw_iload_n (n := 149) d173_148 rfl rfl ?_
                  refine zw_iload (n := 151) d173_149 rfl rfl ?_
                  refine zw_iload (n := 153) d173_151 rfl rfl ?_
                  refine zw_cI (n := 156) d173_153 (zs_V rfl rfl rfl rfl (by decide) (zj_5 hS).1 (zq_5 hS)) (by rw [ml_184]; rfl) (by omega) rfl (zc_mI h (fun r13 C13 h => ?_))
                  refine zw_ishl (n := 157) d173_156 rfl ?_
                  refine zw_iconst (n := 158) d173_157 rfl zk_i_m1 ?_
                  refine zw_ixor (n := 159) d173_158 rfl ?_
                  refine zw_iand (n := 160) d173_159 rfl ?_
                  refine zw_cI (n := 163) d173_160 (zs_V rfl rfl rfl rfl (by decide) (zj_5 hS).1 (zq_5 hS)) (by rw [ml_180]; rfl) (by omega) rfl (zc_mI h (fun r14 C14 h => ?_))
                  exact zw_iret d173_163 rfl ⟨_, rfl, h⟩
theorem vc173_32 {X : zX} {S : zx_S} {C : zx_C} {q : Int32 → zx_C → Prop} {d : Nat} (hd : 2 ≤ d) {e : Nat} {a1 : Int32} {a2 : Int32} {a3 : Int32} {a4 : Int32} {a5 : Int32} {z0 : Value} {z1 : Value} {z2 : Value} {i3 : Int32} {i4 : Int32} {z5 : Value} {i6 : Int32} (hS : zs_5 S e) (h : zCd X 0 174 [.int i4, .int i6] S C (zQi (fun r1 C1 => if (r1 : Int32) = 0 then (if (i3 : Int32) = 0 then (zW X (d + 1) 173 32 [z0, z1, z2, .int i3, .int i4, z5, .int (i6 + 1)] [] S C1 (zQi q)) else (zW X (d + 1) 173 32 [z0, z1, z2, .int i3, .int i4, z5, .int (i6 + (-1))] [] S C1 (zQi q))) else (q i6 C1)))) : zW X (d + 1) 173 32 [z0, z1, z2, .int i3, .int i4, z5, .int i6] [] S C (zQi q) := by
  refine zw_iload (n := 34) d173_32 rfl rfl ?_
  refine zw_iload (n := 36) d173_34 rfl rfl ?_
  refine zw_cI (n := 39) d173_36 (zs_S rfl rfl rfl rfl) (by rw [ml_174]; rfl) (by omega) rfl (zc_mI h (fun r1 C1 h => ?_))
  refine zw_if_ne (n := 42) d173_39 rfl (zite h (fun h => ?_) (fun h => ?_))
  · skip
    refine zw_iload (n := 44) d173_42 rfl rfl ?_
    refine zw_iload_n (n := 45) d173_44 rfl rfl ?_
    refine zw_if_ne (n := 48) d173_45 rfl (zite h (fun h => ?_) (fun h => ?_))
    · skip
      refine zw_iconst (n := 49) d173_48 rfl zk_i_1 ?_
      refine zw_goto d173_49 ?_
      refine zw_iadd (n := 54) d173_53 rfl ?_
      refine zw_istore (n := 56) d173_54 rfl rfl rfl ?_
      refine zw_goto d173_56 ?_
      exact h
    · skip
      refine zw_iconst (n := 53) d173_52 rfl zk_i_m1 ?_
      refine zw_iadd (n := 54) d173_53 rfl ?_
      refine zw_istore (n := 56) d173_54 rfl rfl rfl ?_
      refine zw_goto d173_56 ?_
      exact h
  · skip
    refine zw_iload (n := 61) d173_59 rfl rfl ?_
    exact zw_iret d173_61 rfl ⟨_, rfl, h⟩

set_option maxRecDepth 20000 in
theorem zf174 (pc : Nat) : zt_code 174 pc = zt_fd zl_174 pc := rfl
theorem d174_0 : zt_code 174 0 = some (.iload_n 0, 0, 0, 0) := (zf174 0).trans rfl
theorem d174_1 : zt_code 174 1 = some (.iload_n 1, 0, 0, 0) := (zf174 1).trans rfl
theorem d174_2 : zt_code 174 2 = some (.ishr, 0, 0, 0) := (zf174 2).trans rfl
theorem d174_3 : zt_code 174 3 = some (.iconst (1), 0, 0, 0) := (zf174 3).trans rfl
theorem d174_4 : zt_code 174 4 = some (.iand, 0, 0, 0) := (zf174 4).trans rfl
theorem d174_5 : zt_code 174 5 = some (.ifCond .eq (7), 0, 12, 0) := (zf174 5).trans rfl
theorem d174_8 : zt_code 174 8 = some (.iconst (1), 0, 0, 0) := (zf174 8).trans rfl
theorem d174_9 : zt_code 174 9 = some (.goto (4), 0, 13, 0) := (zf174 9).trans rfl
theorem d174_12 : zt_code 174 12 = some (.iconst (0), 0, 0, 0) := (zf174 12).trans rfl
theorem d174_13 : zt_code 174 13 = some (.ireturn, 1, 0, 0) := (zf174 13).trans rfl
/-- FirstAtTheFirstModel.has(II)Z -/
theorem vc174 {X : zX} {S : zx_S} {C : zx_C} {q : Int32 → zx_C → Prop} {a1 : Int32} {a2 : Int32}  (h : if (((a1 >>> (a2 &&& 31)) &&& 1) : Int32) = 0 then (q 0 C) else (q 1 C)) : zCd X 0 174 [.int a1, .int a2] S C (zQi q) := by
  refine zc_in ml_174 rfl ?_
  refine zw_iload_n (n := 1) d174_0 rfl rfl ?_
  refine zw_iload_n (n := 2) d174_1 rfl rfl ?_
  refine zw_ishr (n := 3) d174_2 rfl ?_
  refine zw_iconst (n := 4) d174_3 rfl zk_i_1 ?_
  refine zw_iand (n := 5) d174_4 rfl ?_
  refine zw_if_eq (n := 8) d174_5 rfl (zite h (fun h => ?_) (fun h => ?_))
  · skip
    refine zw_iconst (n := 13) d174_12 rfl zk_i_0 ?_
    exact zw_iret d174_13 rfl ⟨_, rfl, h⟩
  · skip
    refine zw_iconst (n := 9) d174_8 rfl zk_i_1 ?_
    refine zw_goto d174_9 ?_
    exact zw_iret d174_13 rfl ⟨_, rfl, h⟩

set_option maxRecDepth 20000 in
theorem zf175 (pc : Nat) : zt_code 175 pc = zt_fd zl_175 pc := rfl
theorem d175_0 : zt_code 175 0 = some (.iconst (-1), 0, 0, 0) := (zf175 0).trans rfl
theorem d175_1 : zt_code 175 1 = some (.istore 4, 0, 0, 0) := (zf175 1).trans rfl
theorem d175_3 : zt_code 175 3 = some (.iconst (0), 0, 0, 0) := (zf175 3).trans rfl
theorem d175_4 : zt_code 175 4 = some (.istore 5, 0, 0, 0) := (zf175 4).trans rfl
theorem d175_6 : zt_code 175 6 = some (.iconst (0), 0, 0, 0) := (zf175 6).trans rfl
theorem d175_7 : zt_code 175 7 = some (.istore 6, 0, 0, 0) := (zf175 7).trans rfl
theorem d175_9 : zt_code 175 9 = some (.iload 6, 0, 0, 0) := (zf175 9).trans rfl
theorem d175_11 : zt_code 175 11 = some (.aload_n 0, 0, 0, 0) := (zf175 11).trans rfl
theorem d175_12 : zt_code 175 12 = some (.getfield 98, 5, 11, 0) := (zf175 12).trans rfl
theorem d175_15 : zt_code 175 15 = some (.if_icmp .ge (67), 0, 82, 0) := (zf175 15).trans rfl
theorem d175_18 : zt_code 175 18 = some (.iload_n 2, 0, 0, 0) := (zf175 18).trans rfl
theorem d175_19 : zt_code 175 19 = some (.iload 6, 0, 0, 0) := (zf175 19).trans rfl
theorem d175_21 : zt_code 175 21 = some (.invokestatic 252, 174, 2, -1) := (zf175 21).trans rfl
theorem d175_24 : zt_code 175 24 = some (.ifCond .eq (52), 0, 76, 0) := (zf175 24).trans rfl
theorem d175_27 : zt_code 175 27 = some (.aload_n 0, 0, 0, 0) := (zf175 27).trans rfl
theorem d175_28 : zt_code 175 28 = some (.getfield 46, 5, 12, 1) := (zf175 28).trans rfl
theorem d175_31 : zt_code 175 31 = some (.iload 6, 0, 0, 0) := (zf175 31).trans rfl
theorem d175_33 : zt_code 175 33 = some (.aaload, 0, 0, 0) := (zf175 33).trans rfl
theorem d175_34 : zt_code 175 34 = some (.iload_n 1, 0, 0, 0) := (zf175 34).trans rfl
theorem d175_35 : zt_code 175 35 = some (.iaload, 0, 0, 0) := (zf175 35).trans rfl
theorem d175_36 : zt_code 175 36 = some (.aload_n 0, 0, 0, 0) := (zf175 36).trans rfl
theorem d175_37 : zt_code 175 37 = some (.iload_n 1, 0, 0, 0) := (zf175 37).trans rfl
theorem d175_38 : zt_code 175 38 = some (.iload_n 2, 0, 0, 0) := (zf175 38).trans rfl
theorem d175_39 : zt_code 175 39 = some (.iconst (1), 0, 0, 0) := (zf175 39).trans rfl
theorem d175_40 : zt_code 175 40 = some (.iload 6, 0, 0, 0) := (zf175 40).trans rfl
theorem d175_42 : zt_code 175 42 = some (.ishl, 0, 0, 0) := (zf175 42).trans rfl
theorem d175_43 : zt_code 175 43 = some (.iconst (-1), 0, 0, 0) := (zf175 43).trans rfl
theorem d175_44 : zt_code 175 44 = some (.ixor, 0, 0, 0) := (zf175 44).trans rfl
theorem d175_45 : zt_code 175 45 = some (.iand, 0, 0, 0) := (zf175 45).trans rfl
theorem d175_46 : zt_code 175 46 = some (.iload_n 3, 0, 0, 0) := (zf175 46).trans rfl
theorem d175_47 : zt_code 175 47 = some (.iconst (1), 0, 0, 0) := (zf175 47).trans rfl
theorem d175_48 : zt_code 175 48 = some (.iadd, 0, 0, 0) := (zf175 48).trans rfl
theorem d175_49 : zt_code 175 49 = some (.invokevirtual 306, 176, 4, 5) := (zf175 49).trans rfl
theorem d175_52 : zt_code 175 52 = some (.iadd, 0, 0, 0) := (zf175 52).trans rfl
theorem d175_53 : zt_code 175 53 = some (.istore 7, 0, 0, 0) := (zf175 53).trans rfl
theorem d175_55 : zt_code 175 55 = some (.iload 4, 0, 0, 0) := (zf175 55).trans rfl
theorem d175_57 : zt_code 175 57 = some (.iconst (-1), 0, 0, 0) := (zf175 57).trans rfl
theorem d175_58 : zt_code 175 58 = some (.if_icmp .eq (10), 0, 68, 0) := (zf175 58).trans rfl
theorem d175_61 : zt_code 175 61 = some (.iload 7, 0, 0, 0) := (zf175 61).trans rfl
theorem d175_63 : zt_code 175 63 = some (.iload 5, 0, 0, 0) := (zf175 63).trans rfl
theorem d175_65 : zt_code 175 65 = some (.if_icmp .le (11), 0, 76, 0) := (zf175 65).trans rfl
theorem d175_68 : zt_code 175 68 = some (.iload 6, 0, 0, 0) := (zf175 68).trans rfl
theorem d175_70 : zt_code 175 70 = some (.istore 4, 0, 0, 0) := (zf175 70).trans rfl
theorem d175_72 : zt_code 175 72 = some (.iload 7, 0, 0, 0) := (zf175 72).trans rfl
theorem d175_74 : zt_code 175 74 = some (.istore 5, 0, 0, 0) := (zf175 74).trans rfl
theorem d175_76 : zt_code 175 76 = some (.iinc 6 (1), 0, 0, 0) := (zf175 76).trans rfl
theorem d175_79 : zt_code 175 79 = some (.goto (-70), 0, 9, 0) := (zf175 79).trans rfl
theorem d175_82 : zt_code 175 82 = some (.iload 4, 0, 0, 0) := (zf175 82).trans rfl
theorem d175_84 : zt_code 175 84 = some (.ireturn, 0, 0, 0) := (zf175 84).trans rfl
/-- FirstAtTheFirstModel.looking(III)I -/
theorem vc175 {X : zX} {S : zx_S} {C : zx_C} {q : Int32 → zx_C → Prop} {d : Nat} (hd : 2 ≤ d) {e : Nat} {a1 : Int32} {a2 : Int32} {a3 : Int32} (hS : zs_5 S e) (h : zW X (d + 1) 175 9 [.ref e, .int a1, .int a2, .int a3, .int (-1), .int 0, .int 0, .retAddr 0] [] S C (zQi q)) : zCd X (d + 1) 175 [.ref e, .int a1, .int a2, .int a3] S C (zQi q) := by
  refine zc_in ml_175 rfl ?_
  refine zw_iconst (n := 1) d175_0 rfl zk_i_m1 ?_
  refine zw_istore (n := 3) d175_1 rfl rfl rfl ?_
  refine zw_iconst (n := 4) d175_3 rfl zk_i_0 ?_
  refine zw_istore (n := 6) d175_4 rfl rfl rfl ?_
  refine zw_iconst (n := 7) d175_6 rfl zk_i_0 ?_
  refine zw_istore (n := 9) d175_7 rfl rfl rfl ?_
  exact h
theorem vc175_9 {X : zX} {S : zx_S} {C : zx_C} {q : Int32 → zx_C → Prop} {d : Nat} (hd : 2 ≤ d) {e : Nat} {a1 : Int32} {a2 : Int32} {a3 : Int32} {i1 : Int32} {i2 : Int32} {i3 : Int32} {i4 : Int32} {i5 : Int32} {i6 : Int32} {z7 : Value} (hS : zs_5 S e) (h : if (i6 : Int32) < (C.1 e 11) then (zCd X 0 174 [.int i2, .int i6] S C (zQi (fun r1 C1 => if (r1 : Int32) = 0 then (zW X (d + 1) 175 9 [.ref e, .int i1, .int i2, .int i3, .int i4, .int i5, .int (i6 + 1), z7] [] S C1 (zQi q)) else (vp_in i6 8 ∧ (vp_in i1 3 ∧ (zCd X d 176 [.ref e, .int i1, .int (i2 &&& ((1 <<< (i6 &&& 31)) ^^^ (-1))), .int (i3 + 1)] S C1 (zQi (fun r3 C3 => if (i4 : Int32) = (-1) then (zW X (d + 1) 175 9 [.ref e, .int i1, .int i2, .int i3, .int i6, .int ((C1.1 ((e + 19) + Int32.toNatClampNeg i6) (Int32.toNatClampNeg i1)) + r3), .int (i6 + 1), .int ((C1.1 ((e + 19) + Int32.toNatClampNeg i6) (Int32.toNatClampNeg i1)) + r3)] [] S C3 (zQi q)) else (if (i5 : Int32) < ((C1.1 ((e + 19) + Int32.toNatClampNeg i6) (Int32.toNatClampNeg i1)) + r3) then (zW X (d + 1) 175 9 [.ref e, .int i1, .int i2, .int i3, .int i6, .int ((C1.1 ((e + 19) + Int32.toNatClampNeg i6) (Int32.toNatClampNeg i1)) + r3), .int (i6 + 1), .int ((C1.1 ((e + 19) + Int32.toNatClampNeg i6) (Int32.toNatClampNeg i1)) + r3)] [] S C3 (zQi q)) else (zW X (d + 1) 175 9 [.ref e, .int i1, .int i2, .int i3, .int i4, .int i5, .int (i6 + 1), .int ((C1.1 ((e + 19) + Int32.toNatClampNeg i6) (Int32.toNatClampNeg i1)) + r3)] [] S C3 (zQi q))))))))))) else (q i4 C)) : zW X (d + 1) 175 9 [.ref e, .int i1, .int i2, .int i3, .int i4, .int i5, .int i6, z7] [] S C (zQi q) := by
  refine zw_iload (n := 11) d175_9 rfl rfl ?_
  refine zw_aload_n (n := 12) d175_11 rfl rfl ?_
  refine zw_geti (n := 15) d175_12 rfl (zj_5 hS).1 (zj_5 hS).2 ?_
  refine zw_ic_ge (n := 18) d175_15 rfl (zite h (fun h => ?_) (fun h => ?_))
  · skip
    refine zw_iload_n (n := 19) d175_18 rfl rfl ?_
    refine zw_iload (n := 21) d175_19 rfl rfl ?_
    refine zw_cI (n := 24) d175_21 (zs_S rfl rfl rfl rfl) (by rw [ml_174]; rfl) (by omega) rfl (zc_mI h (fun r1 C1 h => ?_))
    refine zw_if_eq (n := 27) d175_24 rfl (zite h (fun h => ?_) (fun h => ?_))
    · skip
      refine zw_iinc (n := 79) d175_76 rfl rfl zk_i_1 rfl ?_
      refine zw_goto d175_79 ?_
      exact h
    · skip
      refine zw_aload_n (n := 28) d175_27 rfl rfl ?_
      refine zw_getr (n := 31) d175_28 rfl (zj_5 hS).1 (zj_5 hS).2 (zr_5_12 hS) ?_
      refine zw_iload (n := 33) d175_31 rfl rfl ?_
      obtain ⟨hi, h⟩ := h
      have hb2 := zb_5_12 hS (vp_lt hi)
      refine zw_aald (n := 34) d175_33 rfl (za_5_12 hS).1 (za_5_12 hS).2 (by decide) hi hb2.1 ?_
      refine zw_iload_n (n := 35) d175_34 rfl rfl ?_
      obtain ⟨hi, h⟩ := h
      refine zw_iald (n := 36) d175_35 rfl hb2.2.1 hb2.2.2 hi ?_
      refine zw_aload_n (n := 37) d175_36 rfl rfl ?_
      refine zw_iload_n (n := 38) d175_37 rfl rfl ?_
      refine zw_iload_n (n := 39) d175_38 rfl rfl ?_
      refine zw_iconst (n := 40) d175_39 rfl zk_i_1 ?_
      refine zw_iload (n := 42) d175_40 rfl rfl ?_
      refine zw_ishl (n := 43) d175_42 rfl ?_
      refine zw_iconst (n := 44) d175_43 rfl zk_i_m1 ?_
      refine zw_ixor (n := 45) d175_44 rfl ?_
      refine zw_iand (n := 46) d175_45 rfl ?_
      refine zw_iload_n (n := 47) d175_46 rfl rfl ?_
      refine zw_iconst (n := 48) d175_47 rfl zk_i_1 ?_
      refine zw_iadd (n := 49) d175_48 rfl ?_
      refine zw_cI (n := 52) d175_49 (zs_V rfl rfl rfl rfl (by decide) (zj_5 hS).1 (zq_5 hS)) (by rw [ml_176]; rfl) (Nat.le_refl _) rfl (zc_mI h (fun r3 C3 h => ?_))
      refine zw_iadd (n := 53) d175_52 rfl ?_
      refine zw_istore (n := 55) d175_53 rfl rfl rfl ?_
      refine zw_iload (n := 57) d175_55 rfl rfl ?_
      refine zw_iconst (n := 58) d175_57 rfl zk_i_m1 ?_
      refine zw_ic_eq (n := 61) d175_58 rfl (zite h (fun h => ?_) (fun h => ?_))
      · skip
        refine zw_iload (n := 70) d175_68 rfl rfl ?_
        refine zw_istore (n := 72) d175_70 rfl rfl rfl ?_
        refine zw_iload (n := 74) d175_72 rfl rfl ?_
        refine zw_istore (n := 76) d175_74 rfl rfl rfl ?_
        refine zw_iinc (n := 79) d175_76 rfl rfl zk_i_1 rfl ?_
        refine zw_goto d175_79 ?_
        exact h
      · skip
        refine zw_iload (n := 63) d175_61 rfl rfl ?_
        refine zw_iload (n := 65) d175_63 rfl rfl ?_
        refine zw_ic_le (n := 68) d175_65 rfl (zite h (fun h => ?_) (fun h => ?_))
        · skip
          refine zw_iload (n := 70) d175_68 rfl rfl ?_
          refine zw_istore (n := 72) d175_70 rfl rfl rfl ?_
          refine zw_iload (n := 74) d175_72 rfl rfl ?_
          refine zw_istore (n := 76) d175_74 rfl rfl rfl ?_
          refine zw_iinc (n := 79) d175_76 rfl rfl zk_i_1 rfl ?_
          refine zw_goto d175_79 ?_
          exact h
        · skip
          refine zw_iinc (n := 79) d175_76 rfl rfl zk_i_1 rfl ?_
          refine zw_goto d175_79 ?_
          exact h
  · skip
    refine zw_iload (n := 84) d175_82 rfl rfl ?_
    exact zw_iret d175_84 rfl ⟨_, rfl, h⟩

set_option maxRecDepth 20000 in
theorem zf176 (pc : Nat) : zt_code 176 pc = zt_fd zl_176 pc := rfl
theorem d176_0 : zt_code 176 0 = some (.iload_n 2, 0, 0, 0) := (zf176 0).trans rfl
theorem d176_1 : zt_code 176 1 = some (.ifCond .ne (5), 0, 6, 0) := (zf176 1).trans rfl
theorem d176_4 : zt_code 176 4 = some (.iconst (0), 0, 0, 0) := (zf176 4).trans rfl
theorem d176_5 : zt_code 176 5 = some (.ireturn, 0, 0, 0) := (zf176 5).trans rfl
theorem d176_6 : zt_code 176 6 = some (.aload_n 0, 0, 0, 0) := (zf176 6).trans rfl
theorem d176_7 : zt_code 176 7 = some (.iload_n 3, 0, 0, 0) := (zf176 7).trans rfl
theorem d176_8 : zt_code 176 8 = some (.invokevirtual 280, 177, 2, 5) := (zf176 8).trans rfl
theorem d176_11 : zt_code 176 11 = some (.istore 4, 0, 0, 0) := (zf176 11).trans rfl
theorem d176_13 : zt_code 176 13 = some (.iload 4, 0, 0, 0) := (zf176 13).trans rfl
theorem d176_15 : zt_code 176 15 = some (.iconst (-1), 0, 0, 0) := (zf176 15).trans rfl
theorem d176_16 : zt_code 176 16 = some (.if_icmp .ne (5), 0, 21, 0) := (zf176 16).trans rfl
theorem d176_19 : zt_code 176 19 = some (.iconst (0), 0, 0, 0) := (zf176 19).trans rfl
theorem d176_20 : zt_code 176 20 = some (.ireturn, 0, 0, 0) := (zf176 20).trans rfl
theorem d176_21 : zt_code 176 21 = some (.iload 4, 0, 0, 0) := (zf176 21).trans rfl
theorem d176_23 : zt_code 176 23 = some (.iload_n 1, 0, 0, 0) := (zf176 23).trans rfl
theorem d176_24 : zt_code 176 24 = some (.if_icmp .ne (39), 0, 63, 0) := (zf176 24).trans rfl
theorem d176_27 : zt_code 176 27 = some (.aload_n 0, 0, 0, 0) := (zf176 27).trans rfl
theorem d176_28 : zt_code 176 28 = some (.iload_n 1, 0, 0, 0) := (zf176 28).trans rfl
theorem d176_29 : zt_code 176 29 = some (.iload_n 2, 0, 0, 0) := (zf176 29).trans rfl
theorem d176_30 : zt_code 176 30 = some (.iload_n 3, 0, 0, 0) := (zf176 30).trans rfl
theorem d176_31 : zt_code 176 31 = some (.invokevirtual 290, 175, 4, 5) := (zf176 31).trans rfl
theorem d176_34 : zt_code 176 34 = some (.istore 5, 0, 0, 0) := (zf176 34).trans rfl
theorem d176_36 : zt_code 176 36 = some (.aload_n 0, 0, 0, 0) := (zf176 36).trans rfl
theorem d176_37 : zt_code 176 37 = some (.getfield 46, 5, 12, 1) := (zf176 37).trans rfl
theorem d176_40 : zt_code 176 40 = some (.iload 5, 0, 0, 0) := (zf176 40).trans rfl
theorem d176_42 : zt_code 176 42 = some (.aaload, 0, 0, 0) := (zf176 42).trans rfl
theorem d176_43 : zt_code 176 43 = some (.iload_n 1, 0, 0, 0) := (zf176 43).trans rfl
theorem d176_44 : zt_code 176 44 = some (.iaload, 0, 0, 0) := (zf176 44).trans rfl
theorem d176_45 : zt_code 176 45 = some (.aload_n 0, 0, 0, 0) := (zf176 45).trans rfl
theorem d176_46 : zt_code 176 46 = some (.iload_n 1, 0, 0, 0) := (zf176 46).trans rfl
theorem d176_47 : zt_code 176 47 = some (.iload_n 2, 0, 0, 0) := (zf176 47).trans rfl
theorem d176_48 : zt_code 176 48 = some (.iconst (1), 0, 0, 0) := (zf176 48).trans rfl
theorem d176_49 : zt_code 176 49 = some (.iload 5, 0, 0, 0) := (zf176 49).trans rfl
theorem d176_51 : zt_code 176 51 = some (.ishl, 0, 0, 0) := (zf176 51).trans rfl
theorem d176_52 : zt_code 176 52 = some (.iconst (-1), 0, 0, 0) := (zf176 52).trans rfl
theorem d176_53 : zt_code 176 53 = some (.ixor, 0, 0, 0) := (zf176 53).trans rfl
theorem d176_54 : zt_code 176 54 = some (.iand, 0, 0, 0) := (zf176 54).trans rfl
theorem d176_55 : zt_code 176 55 = some (.iload_n 3, 0, 0, 0) := (zf176 55).trans rfl
theorem d176_56 : zt_code 176 56 = some (.iconst (1), 0, 0, 0) := (zf176 56).trans rfl
theorem d176_57 : zt_code 176 57 = some (.iadd, 0, 0, 0) := (zf176 57).trans rfl
theorem d176_58 : zt_code 176 58 = some (.invokevirtual 306, 176, 4, 5) := (zf176 58).trans rfl
theorem d176_61 : zt_code 176 61 = some (.iadd, 0, 0, 0) := (zf176 61).trans rfl
theorem d176_62 : zt_code 176 62 = some (.ireturn, 0, 0, 0) := (zf176 62).trans rfl
theorem d176_63 : zt_code 176 63 = some (.aload_n 0, 0, 0, 0) := (zf176 63).trans rfl
theorem d176_64 : zt_code 176 64 = some (.iload_n 1, 0, 0, 0) := (zf176 64).trans rfl
theorem d176_65 : zt_code 176 65 = some (.iload 4, 0, 0, 0) := (zf176 65).trans rfl
theorem d176_67 : zt_code 176 67 = some (.aload_n 0, 0, 0, 0) := (zf176 67).trans rfl
theorem d176_68 : zt_code 176 68 = some (.getfield 58, 5, 17, 1) := (zf176 68).trans rfl
theorem d176_71 : zt_code 176 71 = some (.iload 4, 0, 0, 0) := (zf176 71).trans rfl
theorem d176_73 : zt_code 176 73 = some (.iaload, 0, 0, 0) := (zf176 73).trans rfl
theorem d176_74 : zt_code 176 74 = some (.iconst (5), 0, 0, 0) := (zf176 74).trans rfl
theorem d176_75 : zt_code 176 75 = some (.if_icmp .ne (7), 0, 82, 0) := (zf176 75).trans rfl
theorem d176_78 : zt_code 176 78 = some (.iconst (1), 0, 0, 0) := (zf176 78).trans rfl
theorem d176_79 : zt_code 176 79 = some (.goto (10), 0, 89, 0) := (zf176 79).trans rfl
theorem d176_82 : zt_code 176 82 = some (.aload_n 0, 0, 0, 0) := (zf176 82).trans rfl
theorem d176_83 : zt_code 176 83 = some (.getfield 58, 5, 17, 1) := (zf176 83).trans rfl
theorem d176_86 : zt_code 176 86 = some (.iload 4, 0, 0, 0) := (zf176 86).trans rfl
theorem d176_88 : zt_code 176 88 = some (.iaload, 0, 0, 0) := (zf176 88).trans rfl
theorem d176_89 : zt_code 176 89 = some (.iload_n 2, 0, 0, 0) := (zf176 89).trans rfl
theorem d176_90 : zt_code 176 90 = some (.iload_n 3, 0, 0, 0) := (zf176 90).trans rfl
theorem d176_91 : zt_code 176 91 = some (.invokevirtual 142, 173, 6, 5) := (zf176 91).trans rfl
theorem d176_94 : zt_code 176 94 = some (.istore 5, 0, 0, 0) := (zf176 94).trans rfl
theorem d176_96 : zt_code 176 96 = some (.aload_n 0, 0, 0, 0) := (zf176 96).trans rfl
theorem d176_97 : zt_code 176 97 = some (.iload_n 1, 0, 0, 0) := (zf176 97).trans rfl
theorem d176_98 : zt_code 176 98 = some (.iload_n 2, 0, 0, 0) := (zf176 98).trans rfl
theorem d176_99 : zt_code 176 99 = some (.iconst (1), 0, 0, 0) := (zf176 99).trans rfl
theorem d176_100 : zt_code 176 100 = some (.iload 5, 0, 0, 0) := (zf176 100).trans rfl
theorem d176_102 : zt_code 176 102 = some (.ishl, 0, 0, 0) := (zf176 102).trans rfl
theorem d176_103 : zt_code 176 103 = some (.iconst (-1), 0, 0, 0) := (zf176 103).trans rfl
theorem d176_104 : zt_code 176 104 = some (.ixor, 0, 0, 0) := (zf176 104).trans rfl
theorem d176_105 : zt_code 176 105 = some (.iand, 0, 0, 0) := (zf176 105).trans rfl
theorem d176_106 : zt_code 176 106 = some (.iload_n 3, 0, 0, 0) := (zf176 106).trans rfl
theorem d176_107 : zt_code 176 107 = some (.iconst (1), 0, 0, 0) := (zf176 107).trans rfl
theorem d176_108 : zt_code 176 108 = some (.iadd, 0, 0, 0) := (zf176 108).trans rfl
theorem d176_109 : zt_code 176 109 = some (.invokevirtual 306, 176, 4, 5) := (zf176 109).trans rfl
theorem d176_112 : zt_code 176 112 = some (.ireturn, 0, 0, 0) := (zf176 112).trans rfl
/-- FirstAtTheFirstModel.looked(III)I -/
theorem vc176 {X : zX} {S : zx_S} {C : zx_C} {q : Int32 → zx_C → Prop} {d : Nat} (hd : 2 ≤ d) {e : Nat} {a1 : Int32} {a2 : Int32} {a3 : Int32} (hS : zs_5 S e) (h : if (a2 : Int32) = 0 then (q 0 C) else (zCd X 1 177 [.ref e, .int a3] S C (zQi (fun r1 C1 => if (r1 : Int32) = (-1) then (q 0 C1) else (if (r1 : Int32) = a1 then (zCd X d 175 [.ref e, .int a1, .int a2, .int a3] S C1 (zQi (fun r2 C2 => vp_in r2 8 ∧ (vp_in a1 3 ∧ (zCd X d 176 [.ref e, .int a1, .int (a2 &&& ((1 <<< (r2 &&& 31)) ^^^ (-1))), .int (a3 + 1)] S C2 (zQi (fun r4 C4 => q ((C2.1 ((e + 19) + Int32.toNatClampNeg r2) (Int32.toNatClampNeg a1)) + r4) C4))))))) else (vp_in r1 3 ∧ (if ((C1.1 (e + 29) (Int32.toNatClampNeg r1)) : Int32) = 5 then (zCd X d 173 [.ref e, .int a1, .int r1, .int 1, .int a2, .int a3] S C1 (zQi (fun r5 C5 => zCd X d 176 [.ref e, .int a1, .int (a2 &&& ((1 <<< (r5 &&& 31)) ^^^ (-1))), .int (a3 + 1)] S C5 (zQi (fun r6 C6 => q r6 C6))))) else (vp_in r1 3 ∧ (zCd X d 173 [.ref e, .int a1, .int r1, .int (C1.1 (e + 29) (Int32.toNatClampNeg r1)), .int a2, .int a3] S C1 (zQi (fun r7 C7 => zCd X d 176 [.ref e, .int a1, .int (a2 &&& ((1 <<< (r7 &&& 31)) ^^^ (-1))), .int (a3 + 1)] S C7 (zQi (fun r8 C8 => q r8 C8))))))))))))) : zCd X (d + 1) 176 [.ref e, .int a1, .int a2, .int a3] S C (zQi q) := by
  refine zc_in ml_176 rfl ?_
  refine zw_iload_n (n := 1) d176_0 rfl rfl ?_
  refine zw_if_ne (n := 4) d176_1 rfl (zite h (fun h => ?_) (fun h => ?_))
  · skip
    refine zw_iconst (n := 5) d176_4 rfl zk_i_0 ?_
    exact zw_iret d176_5 rfl ⟨_, rfl, h⟩
  · skip
    refine zw_aload_n (n := 7) d176_6 rfl rfl ?_
    refine zw_iload_n (n := 8) d176_7 rfl rfl ?_
    refine zw_cI (n := 11) d176_8 (zs_V rfl rfl rfl rfl (by decide) (zj_5 hS).1 (zq_5 hS)) (by rw [ml_177]; rfl) (by omega) rfl (zc_mI h (fun r1 C1 h => ?_))
    refine zw_istore (n := 13) d176_11 rfl rfl rfl ?_
    refine zw_iload (n := 15) d176_13 rfl rfl ?_
    refine zw_iconst (n := 16) d176_15 rfl zk_i_m1 ?_
    refine zw_ic_ne (n := 19) d176_16 rfl (zite h (fun h => ?_) (fun h => ?_))
    · skip
      refine zw_iconst (n := 20) d176_19 rfl zk_i_0 ?_
      exact zw_iret d176_20 rfl ⟨_, rfl, h⟩
    · skip
      refine zw_iload (n := 23) d176_21 rfl rfl ?_
      refine zw_iload_n (n := 24) d176_23 rfl rfl ?_
      refine zw_ic_ne (n := 27) d176_24 rfl (zite h (fun h => ?_) (fun h => ?_))
      · skip
        refine zw_aload_n (n := 28) d176_27 rfl rfl ?_
        refine zw_iload_n (n := 29) d176_28 rfl rfl ?_
        refine zw_iload_n (n := 30) d176_29 rfl rfl ?_
        refine zw_iload_n (n := 31) d176_30 rfl rfl ?_
        refine zw_cI (n := 34) d176_31 (zs_V rfl rfl rfl rfl (by decide) (zj_5 hS).1 (zq_5 hS)) (by rw [ml_175]; rfl) (Nat.le_refl _) rfl (zc_mI h (fun r2 C2 h => ?_))
        refine zw_istore (n := 36) d176_34 rfl rfl rfl ?_
        refine zw_aload_n (n := 37) d176_36 rfl rfl ?_
        refine zw_getr (n := 40) d176_37 rfl (zj_5 hS).1 (zj_5 hS).2 (zr_5_12 hS) ?_
        refine zw_iload (n := 42) d176_40 rfl rfl ?_
        obtain ⟨hi, h⟩ := h
        have hb3 := zb_5_12 hS (vp_lt hi)
        refine zw_aald (n := 43) d176_42 rfl (za_5_12 hS).1 (za_5_12 hS).2 (by decide) hi hb3.1 ?_
        refine zw_iload_n (n := 44) d176_43 rfl rfl ?_
        obtain ⟨hi, h⟩ := h
        refine zw_iald (n := 45) d176_44 rfl hb3.2.1 hb3.2.2 hi ?_
        refine zw_aload_n (n := 46) d176_45 rfl rfl ?_
        refine zw_iload_n (n := 47) d176_46 rfl rfl ?_
        refine zw_iload_n (n := 48) d176_47 rfl rfl ?_
        refine zw_iconst (n := 49) d176_48 rfl zk_i_1 ?_
        refine zw_iload (n := 51) d176_49 rfl rfl ?_
        refine zw_ishl (n := 52) d176_51 rfl ?_
        refine zw_iconst (n := 53) d176_52 rfl zk_i_m1 ?_
        refine zw_ixor (n := 54) d176_53 rfl ?_
        refine zw_iand (n := 55) d176_54 rfl ?_
        refine zw_iload_n (n := 56) d176_55 rfl rfl ?_
        refine zw_iconst (n := 57) d176_56 rfl zk_i_1 ?_
        refine zw_iadd (n := 58) d176_57 rfl ?_
        refine zw_cI (n := 61) d176_58 (zs_V rfl rfl rfl rfl (by decide) (zj_5 hS).1 (zq_5 hS)) (by rw [ml_176]; rfl) (Nat.le_refl _) rfl (zc_mI h (fun r4 C4 h => ?_))
        refine zw_iadd (n := 62) d176_61 rfl ?_
        exact zw_iret d176_62 rfl ⟨_, rfl, h⟩
      · skip
        refine zw_aload_n (n := 64) d176_63 rfl rfl ?_
        refine zw_iload_n (n := 65) d176_64 rfl rfl ?_
        refine zw_iload (n := 67) d176_65 rfl rfl ?_
        refine zw_aload_n (n := 68) d176_67 rfl rfl ?_
        refine zw_getr (n := 71) d176_68 rfl (zj_5 hS).1 (zj_5 hS).2 (zr_5_17 hS) ?_
        refine zw_iload (n := 73) d176_71 rfl rfl ?_
        obtain ⟨hi, h⟩ := h
        refine zw_iald (n := 74) d176_73 rfl (za_5_17 hS).1 (za_5_17 hS).2 hi ?_
        refine zw_iconst (n := 75) d176_74 rfl zk_i_5 ?_
        refine zw_ic_ne (n := 78) d176_75 rfl (zite h (fun h => ?_) (fun h => ?_))
        · skip
          refine zw_iconst (n := 79) d176_78 rfl zk_i_1 ?_
          refine zw_goto d176_79 ?_
          refine zw_iload_n (n := 90) d176_89 rfl rfl ?_
          refine zw_iload_n (n := 91) d176_90 rfl rfl ?_
          refine zw_cI (n := 94) d176_91 (zs_V rfl rfl rfl rfl (by decide) (zj_5 hS).1 (zq_5 hS)) (by rw [ml_173]; rfl) (Nat.le_refl _) rfl (zc_mI h (fun r5 C5 h => ?_))
          refine zw_istore (n := 96) d176_94 rfl rfl rfl ?_
          refine zw_aload_n (n := 97) d176_96 rfl rfl ?_
          refine zw_iload_n (n := 98) d176_97 rfl rfl ?_
          refine zw_iload_n (n := 99) d176_98 rfl rfl ?_
          refine zw_iconst (n := 100) d176_99 rfl zk_i_1 ?_
          refine zw_iload (n := 102) d176_100 rfl rfl ?_
          refine zw_ishl (n := 103) d176_102 rfl ?_
          refine zw_iconst (n := 104) d176_103 rfl zk_i_m1 ?_
          refine zw_ixor (n := 105) d176_104 rfl ?_
          refine zw_iand (n := 106) d176_105 rfl ?_
          refine zw_iload_n (n := 107) d176_106 rfl rfl ?_
          refine zw_iconst (n := 108) d176_107 rfl zk_i_1 ?_
          refine zw_iadd (n := 109) d176_108 rfl ?_
          refine zw_cI (n := 112) d176_109 (zs_V rfl rfl rfl rfl (by decide) (zj_5 hS).1 (zq_5 hS)) (by rw [ml_176]; rfl) (Nat.le_refl _) rfl (zc_mI h (fun r6 C6 h => ?_))
          exact zw_iret d176_112 rfl ⟨_, rfl, h⟩
        · skip
          refine zw_aload_n (n := 83) d176_82 rfl rfl ?_
          refine zw_getr (n := 86) d176_83 rfl (zj_5 hS).1 (zj_5 hS).2 (zr_5_17 hS) ?_
          refine zw_iload (n := 88) d176_86 rfl rfl ?_
          obtain ⟨hi, h⟩ := h
          refine zw_iald (n := 89) d176_88 rfl (za_5_17 hS).1 (za_5_17 hS).2 hi ?_
          refine zw_iload_n (n := 90) d176_89 rfl rfl ?_
          refine zw_iload_n (n := 91) d176_90 rfl rfl ?_
          refine zw_cI (n := 94) d176_91 (zs_V rfl rfl rfl rfl (by decide) (zj_5 hS).1 (zq_5 hS)) (by rw [ml_173]; rfl) (Nat.le_refl _) rfl (zc_mI h (fun r7 C7 h => ?_))
          refine zw_istore (n := 96) d176_94 rfl rfl rfl ?_
          refine zw_aload_n (n := 97) d176_96 rfl rfl ?_
          refine zw_iload_n (n := 98) d176_97 rfl rfl ?_
          refine zw_iload_n (n := 99) d176_98 rfl rfl ?_
          refine zw_iconst (n := 100) d176_99 rfl zk_i_1 ?_
          refine zw_iload (n := 102) d176_100 rfl rfl ?_
          refine zw_ishl (n := 103) d176_102 rfl ?_
          refine zw_iconst (n := 104) d176_103 rfl zk_i_m1 ?_
          refine zw_ixor (n := 105) d176_104 rfl ?_
          refine zw_iand (n := 106) d176_105 rfl ?_
          refine zw_iload_n (n := 107) d176_106 rfl rfl ?_
          refine zw_iconst (n := 108) d176_107 rfl zk_i_1 ?_
          refine zw_iadd (n := 109) d176_108 rfl ?_
          refine zw_cI (n := 112) d176_109 (zs_V rfl rfl rfl rfl (by decide) (zj_5 hS).1 (zq_5 hS)) (by rw [ml_176]; rfl) (Nat.le_refl _) rfl (zc_mI h (fun r8 C8 h => ?_))
          exact zw_iret d176_112 rfl ⟨_, rfl, h⟩

set_option maxRecDepth 20000 in
theorem zf177 (pc : Nat) : zt_code 177 pc = zt_fd zl_177 pc := rfl
theorem d177_0 : zt_code 177 0 = some (.aload_n 0, 0, 0, 0) := (zf177 0).trans rfl
theorem d177_1 : zt_code 177 1 = some (.getfield 271, 5, 29, 0) := (zf177 1).trans rfl
theorem d177_4 : zt_code 177 4 = some (.ifCond .lt (13), 0, 17, 0) := (zf177 4).trans rfl
theorem d177_7 : zt_code 177 7 = some (.aload_n 0, 0, 0, 0) := (zf177 7).trans rfl
theorem d177_8 : zt_code 177 8 = some (.aload_n 0, 0, 0, 0) := (zf177 8).trans rfl
theorem d177_9 : zt_code 177 9 = some (.getfield 271, 5, 29, 0) := (zf177 9).trans rfl
theorem d177_12 : zt_code 177 12 = some (.iload_n 1, 0, 0, 0) := (zf177 12).trans rfl
theorem d177_13 : zt_code 177 13 = some (.invokevirtual 262, 178, 3, 5) := (zf177 13).trans rfl
theorem d177_16 : zt_code 177 16 = some (.ireturn, 0, 0, 0) := (zf177 16).trans rfl
theorem d177_17 : zt_code 177 17 = some (.iload_n 1, 0, 0, 0) := (zf177 17).trans rfl
theorem d177_18 : zt_code 177 18 = some (.aload_n 0, 0, 0, 0) := (zf177 18).trans rfl
theorem d177_19 : zt_code 177 19 = some (.getfield 274, 5, 32, 0) := (zf177 19).trans rfl
theorem d177_22 : zt_code 177 22 = some (.isub, 0, 0, 0) := (zf177 22).trans rfl
theorem d177_23 : zt_code 177 23 = some (.i2l, 0, 0, 0) := (zf177 23).trans rfl
theorem d177_24 : zt_code 177 24 = some (.lconst 0, 0, 0, 0) := (zf177 24).trans rfl
theorem d177_25 : zt_code 177 25 = some (.aload_n 0, 0, 0, 0) := (zf177 25).trans rfl
theorem d177_26 : zt_code 177 26 = some (.getfield 277, 5, 31, 0) := (zf177 26).trans rfl
theorem d177_29 : zt_code 177 29 = some (.iconst (1), 0, 0, 0) := (zf177 29).trans rfl
theorem d177_30 : zt_code 177 30 = some (.isub, 0, 0, 0) := (zf177 30).trans rfl
theorem d177_31 : zt_code 177 31 = some (.i2l, 0, 0, 0) := (zf177 31).trans rfl
theorem d177_32 : zt_code 177 32 = some (.invokestatic 94, 159, 3, -1) := (zf177 32).trans rfl
theorem d177_35 : zt_code 177 35 = some (.ifCond .eq (17), 0, 52, 0) := (zf177 35).trans rfl
theorem d177_38 : zt_code 177 38 = some (.aload_n 0, 0, 0, 0) := (zf177 38).trans rfl
theorem d177_39 : zt_code 177 39 = some (.getfield 67, 5, 30, 1) := (zf177 39).trans rfl
theorem d177_42 : zt_code 177 42 = some (.iload_n 1, 0, 0, 0) := (zf177 42).trans rfl
theorem d177_43 : zt_code 177 43 = some (.aload_n 0, 0, 0, 0) := (zf177 43).trans rfl
theorem d177_44 : zt_code 177 44 = some (.getfield 274, 5, 32, 0) := (zf177 44).trans rfl
theorem d177_47 : zt_code 177 47 = some (.isub, 0, 0, 0) := (zf177 47).trans rfl
theorem d177_48 : zt_code 177 48 = some (.iaload, 0, 0, 0) := (zf177 48).trans rfl
theorem d177_49 : zt_code 177 49 = some (.goto (4), 0, 53, 0) := (zf177 49).trans rfl
theorem d177_52 : zt_code 177 52 = some (.iconst (-1), 0, 0, 0) := (zf177 52).trans rfl
theorem d177_53 : zt_code 177 53 = some (.ireturn, 0, 0, 0) := (zf177 53).trans rfl
/-- FirstAtTheFirstModel.whoseNow(I)I -/
theorem vc177 {X : zX} {S : zx_S} {C : zx_C} {q : Int32 → zx_C → Prop} {e : Nat} {a1 : Int32} (hS : zs_5 S e) (h : if ((C.1 e 29) : Int32) < 0 then (zCd X 0 159 [.long (Int32.toInt64 (a1 - (C.1 e 32))), .long 0, .long (Int32.toInt64 ((C.1 e 31) - 1))] S C (zQi (fun r1 C1 => if (r1 : Int32) = 0 then (q (-1) C1) else (vp_in (a1 - (C1.1 e 32)) 8 ∧ (q (C1.1 (e + 31) (Int32.toNatClampNeg (a1 - (C1.1 e 32)))) C1))))) else (zCd X 0 178 [.ref e, .int (C.1 e 29), .int a1] S C (zQi (fun r2 C2 => q r2 C2)))) : zCd X 1 177 [.ref e, .int a1] S C (zQi q) := by
  refine zc_in ml_177 rfl ?_
  refine zw_aload_n (n := 1) d177_0 rfl rfl ?_
  refine zw_geti (n := 4) d177_1 rfl (zj_5 hS).1 (zj_5 hS).2 ?_
  refine zw_if_lt (n := 7) d177_4 rfl (zite h (fun h => ?_) (fun h => ?_))
  · skip
    refine zw_iload_n (n := 18) d177_17 rfl rfl ?_
    refine zw_aload_n (n := 19) d177_18 rfl rfl ?_
    refine zw_geti (n := 22) d177_19 rfl (zj_5 hS).1 (zj_5 hS).2 ?_
    refine zw_isub (n := 23) d177_22 rfl ?_
    refine zw_i2l (n := 24) d177_23 rfl ?_
    refine zw_lconst (n := 25) d177_24 rfl zk_c_0 ?_
    refine zw_aload_n (n := 26) d177_25 rfl rfl ?_
    refine zw_geti (n := 29) d177_26 rfl (zj_5 hS).1 (zj_5 hS).2 ?_
    refine zw_iconst (n := 30) d177_29 rfl zk_i_1 ?_
    refine zw_isub (n := 31) d177_30 rfl ?_
    refine zw_i2l (n := 32) d177_31 rfl ?_
    refine zw_cI (n := 35) d177_32 (zs_S rfl rfl rfl rfl) (by rw [ml_159]; rfl) (by decide) rfl (zc_mI h (fun r1 C1 h => ?_))
    refine zw_if_eq (n := 38) d177_35 rfl (zite h (fun h => ?_) (fun h => ?_))
    · skip
      refine zw_iconst (n := 53) d177_52 rfl zk_i_m1 ?_
      exact zw_iret d177_53 rfl ⟨_, rfl, h⟩
    · skip
      refine zw_aload_n (n := 39) d177_38 rfl rfl ?_
      refine zw_getr (n := 42) d177_39 rfl (zj_5 hS).1 (zj_5 hS).2 (zr_5_30 hS) ?_
      refine zw_iload_n (n := 43) d177_42 rfl rfl ?_
      refine zw_aload_n (n := 44) d177_43 rfl rfl ?_
      refine zw_geti (n := 47) d177_44 rfl (zj_5 hS).1 (zj_5 hS).2 ?_
      refine zw_isub (n := 48) d177_47 rfl ?_
      obtain ⟨hi, h⟩ := h
      refine zw_iald (n := 49) d177_48 rfl (za_5_30 hS).1 (za_5_30 hS).2 hi ?_
      refine zw_goto d177_49 ?_
      exact zw_iret d177_53 rfl ⟨_, rfl, h⟩
  · skip
    refine zw_aload_n (n := 8) d177_7 rfl rfl ?_
    refine zw_aload_n (n := 9) d177_8 rfl rfl ?_
    refine zw_geti (n := 12) d177_9 rfl (zj_5 hS).1 (zj_5 hS).2 ?_
    refine zw_iload_n (n := 13) d177_12 rfl rfl ?_
    refine zw_cI (n := 16) d177_13 (zs_V rfl rfl rfl rfl (by decide) (zj_5 hS).1 (zq_5 hS)) (by rw [ml_178]; rfl) (by decide) rfl (zc_mI h (fun r2 C2 h => ?_))
    exact zw_iret d177_16 rfl ⟨_, rfl, h⟩

set_option maxRecDepth 20000 in
theorem zf178 (pc : Nat) : zt_code 178 pc = zt_fd zl_178 pc := rfl
theorem d178_0 : zt_code 178 0 = some (.iload_n 1, 0, 0, 0) := (zf178 0).trans rfl
theorem d178_1 : zt_code 178 1 = some (.ifCond .ne (10), 0, 11, 0) := (zf178 1).trans rfl
theorem d178_4 : zt_code 178 4 = some (.iload_n 2, 0, 0, 0) := (zf178 4).trans rfl
theorem d178_5 : zt_code 178 5 = some (.aload_n 0, 0, 0, 0) := (zf178 5).trans rfl
theorem d178_6 : zt_code 178 6 = some (.getfield 40, 5, 10, 0) := (zf178 6).trans rfl
theorem d178_9 : zt_code 178 9 = some (.irem, 0, 0, 0) := (zf178 9).trans rfl
theorem d178_10 : zt_code 178 10 = some (.ireturn, 0, 0, 0) := (zf178 10).trans rfl
theorem d178_11 : zt_code 178 11 = some (.iload_n 1, 0, 0, 0) := (zf178 11).trans rfl
theorem d178_12 : zt_code 178 12 = some (.iconst (1), 0, 0, 0) := (zf178 12).trans rfl
theorem d178_13 : zt_code 178 13 = some (.if_icmp .ne (35), 0, 48, 0) := (zf178 13).trans rfl
theorem d178_16 : zt_code 178 16 = some (.iload_n 2, 0, 0, 0) := (zf178 16).trans rfl
theorem d178_17 : zt_code 178 17 = some (.iconst (2), 0, 0, 0) := (zf178 17).trans rfl
theorem d178_18 : zt_code 178 18 = some (.aload_n 0, 0, 0, 0) := (zf178 18).trans rfl
theorem d178_19 : zt_code 178 19 = some (.getfield 40, 5, 10, 0) := (zf178 19).trans rfl
theorem d178_22 : zt_code 178 22 = some (.imul, 0, 0, 0) := (zf178 22).trans rfl
theorem d178_23 : zt_code 178 23 = some (.irem, 0, 0, 0) := (zf178 23).trans rfl
theorem d178_24 : zt_code 178 24 = some (.istore_n 3, 0, 0, 0) := (zf178 24).trans rfl
theorem d178_25 : zt_code 178 25 = some (.iload_n 3, 0, 0, 0) := (zf178 25).trans rfl
theorem d178_26 : zt_code 178 26 = some (.aload_n 0, 0, 0, 0) := (zf178 26).trans rfl
theorem d178_27 : zt_code 178 27 = some (.getfield 40, 5, 10, 0) := (zf178 27).trans rfl
theorem d178_30 : zt_code 178 30 = some (.if_icmp .ge (7), 0, 37, 0) := (zf178 30).trans rfl
theorem d178_33 : zt_code 178 33 = some (.iload_n 3, 0, 0, 0) := (zf178 33).trans rfl
theorem d178_34 : zt_code 178 34 = some (.goto (13), 0, 47, 0) := (zf178 34).trans rfl
theorem d178_37 : zt_code 178 37 = some (.iconst (2), 0, 0, 0) := (zf178 37).trans rfl
theorem d178_38 : zt_code 178 38 = some (.aload_n 0, 0, 0, 0) := (zf178 38).trans rfl
theorem d178_39 : zt_code 178 39 = some (.getfield 40, 5, 10, 0) := (zf178 39).trans rfl
theorem d178_42 : zt_code 178 42 = some (.imul, 0, 0, 0) := (zf178 42).trans rfl
theorem d178_43 : zt_code 178 43 = some (.iconst (1), 0, 0, 0) := (zf178 43).trans rfl
theorem d178_44 : zt_code 178 44 = some (.isub, 0, 0, 0) := (zf178 44).trans rfl
theorem d178_45 : zt_code 178 45 = some (.iload_n 3, 0, 0, 0) := (zf178 45).trans rfl
theorem d178_46 : zt_code 178 46 = some (.isub, 0, 0, 0) := (zf178 46).trans rfl
theorem d178_47 : zt_code 178 47 = some (.ireturn, 0, 0, 0) := (zf178 47).trans rfl
theorem d178_48 : zt_code 178 48 = some (.iload_n 1, 0, 0, 0) := (zf178 48).trans rfl
theorem d178_49 : zt_code 178 49 = some (.iconst (3), 0, 0, 0) := (zf178 49).trans rfl
theorem d178_50 : zt_code 178 50 = some (.if_icmp .ne (15), 0, 65, 0) := (zf178 50).trans rfl
theorem d178_53 : zt_code 178 53 = some (.aload_n 0, 0, 0, 0) := (zf178 53).trans rfl
theorem d178_54 : zt_code 178 54 = some (.getfield 52, 5, 15, 1) := (zf178 54).trans rfl
theorem d178_57 : zt_code 178 57 = some (.iload_n 2, 0, 0, 0) := (zf178 57).trans rfl
theorem d178_58 : zt_code 178 58 = some (.aload_n 0, 0, 0, 0) := (zf178 58).trans rfl
theorem d178_59 : zt_code 178 59 = some (.getfield 55, 5, 16, 0) := (zf178 59).trans rfl
theorem d178_62 : zt_code 178 62 = some (.irem, 0, 0, 0) := (zf178 62).trans rfl
theorem d178_63 : zt_code 178 63 = some (.iaload, 0, 0, 0) := (zf178 63).trans rfl
theorem d178_64 : zt_code 178 64 = some (.ireturn, 0, 0, 0) := (zf178 64).trans rfl
theorem d178_65 : zt_code 178 65 = some (.iconst (0), 0, 0, 0) := (zf178 65).trans rfl
theorem d178_66 : zt_code 178 66 = some (.istore_n 3, 0, 0, 0) := (zf178 66).trans rfl
theorem d178_67 : zt_code 178 67 = some (.iload_n 2, 0, 0, 0) := (zf178 67).trans rfl
theorem d178_68 : zt_code 178 68 = some (.istore 4, 0, 0, 0) := (zf178 68).trans rfl
theorem d178_70 : zt_code 178 70 = some (.iload 4, 0, 0, 0) := (zf178 70).trans rfl
theorem d178_72 : zt_code 178 72 = some (.ifCond .le (25), 0, 97, 0) := (zf178 72).trans rfl
theorem d178_75 : zt_code 178 75 = some (.iload_n 3, 0, 0, 0) := (zf178 75).trans rfl
theorem d178_76 : zt_code 178 76 = some (.iload 4, 0, 0, 0) := (zf178 76).trans rfl
theorem d178_78 : zt_code 178 78 = some (.aload_n 0, 0, 0, 0) := (zf178 78).trans rfl
theorem d178_79 : zt_code 178 79 = some (.getfield 40, 5, 10, 0) := (zf178 79).trans rfl
theorem d178_82 : zt_code 178 82 = some (.irem, 0, 0, 0) := (zf178 82).trans rfl
theorem d178_83 : zt_code 178 83 = some (.iadd, 0, 0, 0) := (zf178 83).trans rfl
theorem d178_84 : zt_code 178 84 = some (.istore_n 3, 0, 0, 0) := (zf178 84).trans rfl
theorem d178_85 : zt_code 178 85 = some (.iload 4, 0, 0, 0) := (zf178 85).trans rfl
theorem d178_87 : zt_code 178 87 = some (.aload_n 0, 0, 0, 0) := (zf178 87).trans rfl
theorem d178_88 : zt_code 178 88 = some (.getfield 40, 5, 10, 0) := (zf178 88).trans rfl
theorem d178_91 : zt_code 178 91 = some (.idiv, 0, 0, 0) := (zf178 91).trans rfl
theorem d178_92 : zt_code 178 92 = some (.istore 4, 0, 0, 0) := (zf178 92).trans rfl
theorem d178_94 : zt_code 178 94 = some (.goto (-24), 0, 70, 0) := (zf178 94).trans rfl
theorem d178_97 : zt_code 178 97 = some (.iload_n 3, 0, 0, 0) := (zf178 97).trans rfl
theorem d178_98 : zt_code 178 98 = some (.aload_n 0, 0, 0, 0) := (zf178 98).trans rfl
theorem d178_99 : zt_code 178 99 = some (.getfield 40, 5, 10, 0) := (zf178 99).trans rfl
theorem d178_102 : zt_code 178 102 = some (.irem, 0, 0, 0) := (zf178 102).trans rfl
theorem d178_103 : zt_code 178 103 = some (.ireturn, 0, 0, 0) := (zf178 103).trans rfl
/-- FirstAtTheFirstModel.whoseBy(II)I -/
theorem vc178 {X : zX} {S : zx_S} {C : zx_C} {q : Int32 → zx_C → Prop} {e : Nat} {a1 : Int32} {a2 : Int32} (hS : zs_5 S e) (h : if (a1 : Int32) = 0 then (¬ ((C.1 e 10) : Int32) = 0 ∧ (q (a2 - a2 / (C.1 e 10) * (C.1 e 10)) C)) else (if (a1 : Int32) = 1 then (¬ ((2 * (C.1 e 10)) : Int32) = 0 ∧ (if ((a2 - a2 / (2 * (C.1 e 10)) * (2 * (C.1 e 10))) : Int32) < (C.1 e 10) then (q (a2 - a2 / (2 * (C.1 e 10)) * (2 * (C.1 e 10))) C) else (q (((2 * (C.1 e 10)) - 1) - (a2 - a2 / (2 * (C.1 e 10)) * (2 * (C.1 e 10)))) C))) else (if (a1 : Int32) = 3 then (¬ ((C.1 e 16) : Int32) = 0 ∧ (vp_in (a2 - a2 / (C.1 e 16) * (C.1 e 16)) 12 ∧ (q (C.1 (e + 28) (Int32.toNatClampNeg (a2 - a2 / (C.1 e 16) * (C.1 e 16)))) C))) else (zW X 0 178 70 [.ref e, .int a1, .int a2, .int 0, .int a2] [] S C (zQi q))))) : zCd X 0 178 [.ref e, .int a1, .int a2] S C (zQi q) := by
  refine zc_in ml_178 rfl ?_
  refine zw_iload_n (n := 1) d178_0 rfl rfl ?_
  refine zw_if_ne (n := 4) d178_1 rfl (zite h (fun h => ?_) (fun h => ?_))
  · skip
    refine zw_iload_n (n := 5) d178_4 rfl rfl ?_
    refine zw_aload_n (n := 6) d178_5 rfl rfl ?_
    refine zw_geti (n := 9) d178_6 rfl (zj_5 hS).1 (zj_5 hS).2 ?_
    obtain ⟨hy, h⟩ := h
    refine zw_irem (n := 10) d178_9 rfl hy ?_
    exact zw_iret d178_10 rfl ⟨_, rfl, h⟩
  · skip
    refine zw_iload_n (n := 12) d178_11 rfl rfl ?_
    refine zw_iconst (n := 13) d178_12 rfl zk_i_1 ?_
    refine zw_ic_ne (n := 16) d178_13 rfl (zite h (fun h => ?_) (fun h => ?_))
    · skip
      refine zw_iload_n (n := 17) d178_16 rfl rfl ?_
      refine zw_iconst (n := 18) d178_17 rfl zk_i_2 ?_
      refine zw_aload_n (n := 19) d178_18 rfl rfl ?_
      refine zw_geti (n := 22) d178_19 rfl (zj_5 hS).1 (zj_5 hS).2 ?_
      refine zw_imul (n := 23) d178_22 rfl ?_
      obtain ⟨hy, h⟩ := h
      refine zw_irem (n := 24) d178_23 rfl hy ?_
      refine zw_istore_n (n := 25) d178_24 rfl rfl rfl ?_
      refine zw_iload_n (n := 26) d178_25 rfl rfl ?_
      refine zw_aload_n (n := 27) d178_26 rfl rfl ?_
      refine zw_geti (n := 30) d178_27 rfl (zj_5 hS).1 (zj_5 hS).2 ?_
      refine zw_ic_ge (n := 33) d178_30 rfl (zite h (fun h => ?_) (fun h => ?_))
      · skip
        refine zw_iload_n (n := 34) d178_33 rfl rfl ?_
        refine zw_goto d178_34 ?_
        exact zw_iret d178_47 rfl ⟨_, rfl, h⟩
      · skip
        refine zw_iconst (n := 38) d178_37 rfl zk_i_2 ?_
        refine zw_aload_n (n := 39) d178_38 rfl rfl ?_
        refine zw_geti (n := 42) d178_39 rfl (zj_5 hS).1 (zj_5 hS).2 ?_
        refine zw_imul (n := 43) d178_42 rfl ?_
        refine zw_iconst (n := 44) d178_43 rfl zk_i_1 ?_
        refine zw_isub (n := 45) d178_44 rfl ?_
        refine zw_iload_n (n := 46) d178_45 rfl rfl ?_
        refine zw_isub (n := 47) d178_46 rfl ?_
        exact zw_iret d178_47 rfl ⟨_, rfl, h⟩
    · skip
      refine zw_iload_n (n := 49) d178_48 rfl rfl ?_
      refine zw_iconst (n := 50) d178_49 rfl zk_i_3 ?_
      refine zw_ic_ne (n := 53) d178_50 rfl (zite h (fun h => ?_) (fun h => ?_))
      · skip
        refine zw_aload_n (n := 54) d178_53 rfl rfl ?_
        refine zw_getr (n := 57) d178_54 rfl (zj_5 hS).1 (zj_5 hS).2 (zr_5_15 hS) ?_
        refine zw_iload_n (n := 58) d178_57 rfl rfl ?_
        refine zw_aload_n (n := 59) d178_58 rfl rfl ?_
        refine zw_geti (n := 62) d178_59 rfl (zj_5 hS).1 (zj_5 hS).2 ?_
        obtain ⟨hy, h⟩ := h
        refine zw_irem (n := 63) d178_62 rfl hy ?_
        obtain ⟨hi, h⟩ := h
        refine zw_iald (n := 64) d178_63 rfl (za_5_15 hS).1 (za_5_15 hS).2 hi ?_
        exact zw_iret d178_64 rfl ⟨_, rfl, h⟩
      · skip
        refine zw_iconst (n := 66) d178_65 rfl zk_i_0 ?_
        refine zw_istore_n (n := 67) d178_66 rfl rfl rfl ?_
        refine zw_iload_n (n := 68) d178_67 rfl rfl ?_
        refine zw_istore (n := 70) d178_68 rfl rfl rfl ?_
        exact h
theorem vc178_70 {X : zX} {S : zx_S} {C : zx_C} {q : Int32 → zx_C → Prop} {e : Nat} {a1 : Int32} {a2 : Int32} {z1 : Value} {z2 : Value} {i3 : Int32} {i4 : Int32} (hS : zs_5 S e) (h : if (0 : Int32) < i4 then (¬ ((C.1 e 10) : Int32) = 0 ∧ (¬ ((C.1 e 10) : Int32) = 0 ∧ (zW X 0 178 70 [.ref e, z1, z2, .int (i3 + (i4 - i4 / (C.1 e 10) * (C.1 e 10))), .int (i4 / (C.1 e 10))] [] S C (zQi q)))) else (¬ ((C.1 e 10) : Int32) = 0 ∧ (q (i3 - i3 / (C.1 e 10) * (C.1 e 10)) C))) : zW X 0 178 70 [.ref e, z1, z2, .int i3, .int i4] [] S C (zQi q) := by
  refine zw_iload (n := 72) d178_70 rfl rfl ?_
  refine zw_if_le (n := 75) d178_72 rfl (zite h (fun h => ?_) (fun h => ?_))
  · skip
    refine zw_iload_n (n := 76) d178_75 rfl rfl ?_
    refine zw_iload (n := 78) d178_76 rfl rfl ?_
    refine zw_aload_n (n := 79) d178_78 rfl rfl ?_
    refine zw_geti (n := 82) d178_79 rfl (zj_5 hS).1 (zj_5 hS).2 ?_
    obtain ⟨hy, h⟩ := h
    refine zw_irem (n := 83) d178_82 rfl hy ?_
    refine zw_iadd (n := 84) d178_83 rfl ?_
    refine zw_istore_n (n := 85) d178_84 rfl rfl rfl ?_
    refine zw_iload (n := 87) d178_85 rfl rfl ?_
    refine zw_aload_n (n := 88) d178_87 rfl rfl ?_
    refine zw_geti (n := 91) d178_88 rfl (zj_5 hS).1 (zj_5 hS).2 ?_
    obtain ⟨hy, h⟩ := h
    refine zw_idiv (n := 92) d178_91 rfl hy ?_
    refine zw_istore (n := 94) d178_92 rfl rfl rfl ?_
    refine zw_goto d178_94 ?_
    exact h
  · skip
    refine zw_iload_n (n := 98) d178_97 rfl rfl ?_
    refine zw_aload_n (n := 99) d178_98 rfl rfl ?_
    refine zw_geti (n := 102) d178_99 rfl (zj_5 hS).1 (zj_5 hS).2 ?_
    obtain ⟨hy, h⟩ := h
    refine zw_irem (n := 103) d178_102 rfl hy ?_
    exact zw_iret d178_103 rfl ⟨_, rfl, h⟩

set_option maxRecDepth 20000 in
theorem zf179 (pc : Nat) : zt_code 179 pc = zt_fd zl_179 pc := rfl
theorem d179_0 : zt_code 179 0 = some (.iconst (1), 0, 0, 0) := (zf179 0).trans rfl
theorem d179_1 : zt_code 179 1 = some (.istore_n 3, 0, 0, 0) := (zf179 1).trans rfl
theorem d179_2 : zt_code 179 2 = some (.iload_n 3, 0, 0, 0) := (zf179 2).trans rfl
theorem d179_3 : zt_code 179 3 = some (.bipush (24), 0, 0, 0) := (zf179 3).trans rfl
theorem d179_5 : zt_code 179 5 = some (.if_icmp .gt (33), 0, 38, 0) := (zf179 5).trans rfl
theorem d179_8 : zt_code 179 8 = some (.aload_n 0, 0, 0, 0) := (zf179 8).trans rfl
theorem d179_9 : zt_code 179 9 = some (.iload_n 2, 0, 0, 0) := (zf179 9).trans rfl
theorem d179_10 : zt_code 179 10 = some (.iload_n 3, 0, 0, 0) := (zf179 10).trans rfl
theorem d179_11 : zt_code 179 11 = some (.iadd, 0, 0, 0) := (zf179 11).trans rfl
theorem d179_12 : zt_code 179 12 = some (.invokevirtual 280, 177, 2, 5) := (zf179 12).trans rfl
theorem d179_15 : zt_code 179 15 = some (.istore 4, 0, 0, 0) := (zf179 15).trans rfl
theorem d179_17 : zt_code 179 17 = some (.iload 4, 0, 0, 0) := (zf179 17).trans rfl
theorem d179_19 : zt_code 179 19 = some (.iconst (-1), 0, 0, 0) := (zf179 19).trans rfl
theorem d179_20 : zt_code 179 20 = some (.if_icmp .eq (12), 0, 32, 0) := (zf179 20).trans rfl
theorem d179_23 : zt_code 179 23 = some (.iload 4, 0, 0, 0) := (zf179 23).trans rfl
theorem d179_25 : zt_code 179 25 = some (.iload_n 1, 0, 0, 0) := (zf179 25).trans rfl
theorem d179_26 : zt_code 179 26 = some (.if_icmp .eq (6), 0, 32, 0) := (zf179 26).trans rfl
theorem d179_29 : zt_code 179 29 = some (.iload 4, 0, 0, 0) := (zf179 29).trans rfl
theorem d179_31 : zt_code 179 31 = some (.ireturn, 0, 0, 0) := (zf179 31).trans rfl
theorem d179_32 : zt_code 179 32 = some (.iinc 3 (1), 0, 0, 0) := (zf179 32).trans rfl
theorem d179_35 : zt_code 179 35 = some (.goto (-33), 0, 2, 0) := (zf179 35).trans rfl
theorem d179_38 : zt_code 179 38 = some (.iconst (-1), 0, 0, 0) := (zf179 38).trans rfl
theorem d179_39 : zt_code 179 39 = some (.ireturn, 0, 0, 0) := (zf179 39).trans rfl
/-- FirstAtTheFirstModel.rivalOf(II)I -/
theorem vc179 {X : zX} {S : zx_S} {C : zx_C} {q : Int32 → zx_C → Prop} {e : Nat} {a1 : Int32} {a2 : Int32} (hS : zs_5 S e) (h : zW X 2 179 2 [.ref e, .int a1, .int a2, .int 1, .retAddr 0] [] S C (zQi q)) : zCd X 2 179 [.ref e, .int a1, .int a2] S C (zQi q) := by
  refine zc_in ml_179 rfl ?_
  refine zw_iconst (n := 1) d179_0 rfl zk_i_1 ?_
  refine zw_istore_n (n := 2) d179_1 rfl rfl rfl ?_
  exact h
theorem vc179_2 {X : zX} {S : zx_S} {C : zx_C} {q : Int32 → zx_C → Prop} {e : Nat} {a1 : Int32} {a2 : Int32} {i1 : Int32} {i2 : Int32} {i3 : Int32} {z4 : Value} (hS : zs_5 S e) (h : if (24 : Int32) < i3 then (q (-1) C) else (zCd X 1 177 [.ref e, .int (i2 + i3)] S C (zQi (fun r1 C1 => if (r1 : Int32) = (-1) then (zW X 2 179 2 [.ref e, .int i1, .int i2, .int (i3 + 1), .int r1] [] S C1 (zQi q)) else (if (r1 : Int32) = i1 then (zW X 2 179 2 [.ref e, .int i1, .int i2, .int (i3 + 1), .int r1] [] S C1 (zQi q)) else (q r1 C1)))))) : zW X 2 179 2 [.ref e, .int i1, .int i2, .int i3, z4] [] S C (zQi q) := by
  refine zw_iload_n (n := 3) d179_2 rfl rfl ?_
  refine zw_bipush (n := 5) d179_3 rfl zk_b_24 ?_
  refine zw_ic_gt (n := 8) d179_5 rfl (zite h (fun h => ?_) (fun h => ?_))
  · skip
    refine zw_iconst (n := 39) d179_38 rfl zk_i_m1 ?_
    exact zw_iret d179_39 rfl ⟨_, rfl, h⟩
  · skip
    refine zw_aload_n (n := 9) d179_8 rfl rfl ?_
    refine zw_iload_n (n := 10) d179_9 rfl rfl ?_
    refine zw_iload_n (n := 11) d179_10 rfl rfl ?_
    refine zw_iadd (n := 12) d179_11 rfl ?_
    refine zw_cI (n := 15) d179_12 (zs_V rfl rfl rfl rfl (by decide) (zj_5 hS).1 (zq_5 hS)) (by rw [ml_177]; rfl) (by decide) rfl (zc_mI h (fun r1 C1 h => ?_))
    refine zw_istore (n := 17) d179_15 rfl rfl rfl ?_
    refine zw_iload (n := 19) d179_17 rfl rfl ?_
    refine zw_iconst (n := 20) d179_19 rfl zk_i_m1 ?_
    refine zw_ic_eq (n := 23) d179_20 rfl (zite h (fun h => ?_) (fun h => ?_))
    · skip
      refine zw_iinc (n := 35) d179_32 rfl rfl zk_i_1 rfl ?_
      refine zw_goto d179_35 ?_
      exact h
    · skip
      refine zw_iload (n := 25) d179_23 rfl rfl ?_
      refine zw_iload_n (n := 26) d179_25 rfl rfl ?_
      refine zw_ic_eq (n := 29) d179_26 rfl (zite h (fun h => ?_) (fun h => ?_))
      · skip
        refine zw_iinc (n := 35) d179_32 rfl rfl zk_i_1 rfl ?_
        refine zw_goto d179_35 ?_
        exact h
      · skip
        refine zw_iload (n := 31) d179_29 rfl rfl ?_
        exact zw_iret d179_31 rfl ⟨_, rfl, h⟩

set_option maxRecDepth 20000 in
theorem zf180 (pc : Nat) : zt_code 180 pc = zt_fd zl_180 pc := rfl
theorem d180_0 : zt_code 180 0 = some (.iconst (-1), 0, 0, 0) := (zf180 0).trans rfl
theorem d180_1 : zt_code 180 1 = some (.istore 4, 0, 0, 0) := (zf180 1).trans rfl
theorem d180_3 : zt_code 180 3 = some (.iconst (0), 0, 0, 0) := (zf180 3).trans rfl
theorem d180_4 : zt_code 180 4 = some (.istore 5, 0, 0, 0) := (zf180 4).trans rfl
theorem d180_6 : zt_code 180 6 = some (.iload 5, 0, 0, 0) := (zf180 6).trans rfl
theorem d180_8 : zt_code 180 8 = some (.aload_n 0, 0, 0, 0) := (zf180 8).trans rfl
theorem d180_9 : zt_code 180 9 = some (.getfield 98, 5, 11, 0) := (zf180 9).trans rfl
theorem d180_12 : zt_code 180 12 = some (.if_icmp .ge (47), 0, 59, 0) := (zf180 12).trans rfl
theorem d180_15 : zt_code 180 15 = some (.iload_n 3, 0, 0, 0) := (zf180 15).trans rfl
theorem d180_16 : zt_code 180 16 = some (.iload 5, 0, 0, 0) := (zf180 16).trans rfl
theorem d180_18 : zt_code 180 18 = some (.invokestatic 252, 174, 2, -1) := (zf180 18).trans rfl
theorem d180_21 : zt_code 180 21 = some (.ifCond .eq (32), 0, 53, 0) := (zf180 21).trans rfl
theorem d180_24 : zt_code 180 24 = some (.iload 4, 0, 0, 0) := (zf180 24).trans rfl
theorem d180_26 : zt_code 180 26 = some (.iconst (-1), 0, 0, 0) := (zf180 26).trans rfl
theorem d180_27 : zt_code 180 27 = some (.if_icmp .eq (22), 0, 49, 0) := (zf180 27).trans rfl
theorem d180_30 : zt_code 180 30 = some (.aload_n 0, 0, 0, 0) := (zf180 30).trans rfl
theorem d180_31 : zt_code 180 31 = some (.iload_n 1, 0, 0, 0) := (zf180 31).trans rfl
theorem d180_32 : zt_code 180 32 = some (.iload_n 2, 0, 0, 0) := (zf180 32).trans rfl
theorem d180_33 : zt_code 180 33 = some (.iload 5, 0, 0, 0) := (zf180 33).trans rfl
theorem d180_35 : zt_code 180 35 = some (.invokevirtual 286, 181, 4, 5) := (zf180 35).trans rfl
theorem d180_38 : zt_code 180 38 = some (.aload_n 0, 0, 0, 0) := (zf180 38).trans rfl
theorem d180_39 : zt_code 180 39 = some (.iload_n 1, 0, 0, 0) := (zf180 39).trans rfl
theorem d180_40 : zt_code 180 40 = some (.iload_n 2, 0, 0, 0) := (zf180 40).trans rfl
theorem d180_41 : zt_code 180 41 = some (.iload 4, 0, 0, 0) := (zf180 41).trans rfl
theorem d180_43 : zt_code 180 43 = some (.invokevirtual 286, 181, 4, 5) := (zf180 43).trans rfl
theorem d180_46 : zt_code 180 46 = some (.if_icmp .le (7), 0, 53, 0) := (zf180 46).trans rfl
theorem d180_49 : zt_code 180 49 = some (.iload 5, 0, 0, 0) := (zf180 49).trans rfl
theorem d180_51 : zt_code 180 51 = some (.istore 4, 0, 0, 0) := (zf180 51).trans rfl
theorem d180_53 : zt_code 180 53 = some (.iinc 5 (1), 0, 0, 0) := (zf180 53).trans rfl
theorem d180_56 : zt_code 180 56 = some (.goto (-50), 0, 6, 0) := (zf180 56).trans rfl
theorem d180_59 : zt_code 180 59 = some (.iload 4, 0, 0, 0) := (zf180 59).trans rfl
theorem d180_61 : zt_code 180 61 = some (.ireturn, 0, 0, 0) := (zf180 61).trans rfl
/-- FirstAtTheFirstModel.bestOf(III)I -/
theorem vc180 {X : zX} {S : zx_S} {C : zx_C} {q : Int32 → zx_C → Prop} {e : Nat} {a1 : Int32} {a2 : Int32} {a3 : Int32} (hS : zs_5 S e) (h : zW X 1 180 6 [.ref e, .int a1, .int a2, .int a3, .int (-1), .int 0] [] S C (zQi q)) : zCd X 1 180 [.ref e, .int a1, .int a2, .int a3] S C (zQi q) := by
  refine zc_in ml_180 rfl ?_
  refine zw_iconst (n := 1) d180_0 rfl zk_i_m1 ?_
  refine zw_istore (n := 3) d180_1 rfl rfl rfl ?_
  refine zw_iconst (n := 4) d180_3 rfl zk_i_0 ?_
  refine zw_istore (n := 6) d180_4 rfl rfl rfl ?_
  exact h
theorem vc180_6 {X : zX} {S : zx_S} {C : zx_C} {q : Int32 → zx_C → Prop} {e : Nat} {a1 : Int32} {a2 : Int32} {a3 : Int32} {i1 : Int32} {i2 : Int32} {i3 : Int32} {i4 : Int32} {i5 : Int32} (hS : zs_5 S e) (h : if (i5 : Int32) < (C.1 e 11) then (zCd X 0 174 [.int i3, .int i5] S C (zQi (fun r1 C1 => if (r1 : Int32) = 0 then (zW X 1 180 6 [.ref e, .int i1, .int i2, .int i3, .int i4, .int (i5 + 1)] [] S C1 (zQi q)) else (if (i4 : Int32) = (-1) then (zW X 1 180 6 [.ref e, .int i1, .int i2, .int i3, .int i5, .int (i5 + 1)] [] S C1 (zQi q)) else (zCd X 0 181 [.ref e, .int i1, .int i2, .int i5] S C1 (zQi (fun r2 C2 => zCd X 0 181 [.ref e, .int i1, .int i2, .int i4] S C2 (zQi (fun r3 C3 => if (r3 : Int32) < r2 then (zW X 1 180 6 [.ref e, .int i1, .int i2, .int i3, .int i5, .int (i5 + 1)] [] S C3 (zQi q)) else (zW X 1 180 6 [.ref e, .int i1, .int i2, .int i3, .int i4, .int (i5 + 1)] [] S C3 (zQi q))))))))))) else (q i4 C)) : zW X 1 180 6 [.ref e, .int i1, .int i2, .int i3, .int i4, .int i5] [] S C (zQi q) := by
  refine zw_iload (n := 8) d180_6 rfl rfl ?_
  refine zw_aload_n (n := 9) d180_8 rfl rfl ?_
  refine zw_geti (n := 12) d180_9 rfl (zj_5 hS).1 (zj_5 hS).2 ?_
  refine zw_ic_ge (n := 15) d180_12 rfl (zite h (fun h => ?_) (fun h => ?_))
  · skip
    refine zw_iload_n (n := 16) d180_15 rfl rfl ?_
    refine zw_iload (n := 18) d180_16 rfl rfl ?_
    refine zw_cI (n := 21) d180_18 (zs_S rfl rfl rfl rfl) (by rw [ml_174]; rfl) (by decide) rfl (zc_mI h (fun r1 C1 h => ?_))
    refine zw_if_eq (n := 24) d180_21 rfl (zite h (fun h => ?_) (fun h => ?_))
    · skip
      refine zw_iinc (n := 56) d180_53 rfl rfl zk_i_1 rfl ?_
      refine zw_goto d180_56 ?_
      exact h
    · skip
      refine zw_iload (n := 26) d180_24 rfl rfl ?_
      refine zw_iconst (n := 27) d180_26 rfl zk_i_m1 ?_
      refine zw_ic_eq (n := 30) d180_27 rfl (zite h (fun h => ?_) (fun h => ?_))
      · skip
        refine zw_iload (n := 51) d180_49 rfl rfl ?_
        refine zw_istore (n := 53) d180_51 rfl rfl rfl ?_
        refine zw_iinc (n := 56) d180_53 rfl rfl zk_i_1 rfl ?_
        refine zw_goto d180_56 ?_
        exact h
      · skip
        refine zw_aload_n (n := 31) d180_30 rfl rfl ?_
        refine zw_iload_n (n := 32) d180_31 rfl rfl ?_
        refine zw_iload_n (n := 33) d180_32 rfl rfl ?_
        refine zw_iload (n := 35) d180_33 rfl rfl ?_
        refine zw_cI (n := 38) d180_35 (zs_V rfl rfl rfl rfl (by decide) (zj_5 hS).1 (zq_5 hS)) (by rw [ml_181]; rfl) (by decide) rfl (zc_mI h (fun r2 C2 h => ?_))
        refine zw_aload_n (n := 39) d180_38 rfl rfl ?_
        refine zw_iload_n (n := 40) d180_39 rfl rfl ?_
        refine zw_iload_n (n := 41) d180_40 rfl rfl ?_
        refine zw_iload (n := 43) d180_41 rfl rfl ?_
        refine zw_cI (n := 46) d180_43 (zs_V rfl rfl rfl rfl (by decide) (zj_5 hS).1 (zq_5 hS)) (by rw [ml_181]; rfl) (by decide) rfl (zc_mI h (fun r3 C3 h => ?_))
        refine zw_ic_le (n := 49) d180_46 rfl (zite h (fun h => ?_) (fun h => ?_))
        · skip
          refine zw_iload (n := 51) d180_49 rfl rfl ?_
          refine zw_istore (n := 53) d180_51 rfl rfl rfl ?_
          refine zw_iinc (n := 56) d180_53 rfl rfl zk_i_1 rfl ?_
          refine zw_goto d180_56 ?_
          exact h
        · skip
          refine zw_iinc (n := 56) d180_53 rfl rfl zk_i_1 rfl ?_
          refine zw_goto d180_56 ?_
          exact h
  · skip
    refine zw_iload (n := 61) d180_59 rfl rfl ?_
    exact zw_iret d180_61 rfl ⟨_, rfl, h⟩

set_option maxRecDepth 20000 in
theorem zf181 (pc : Nat) : zt_code 181 pc = zt_fd zl_181 pc := rfl
theorem d181_0 : zt_code 181 0 = some (.iload_n 2, 0, 0, 0) := (zf181 0).trans rfl
theorem d181_1 : zt_code 181 1 = some (.aload_n 0, 0, 0, 0) := (zf181 1).trans rfl
theorem d181_2 : zt_code 181 2 = some (.getfield 70, 5, 33, 0) := (zf181 2).trans rfl
theorem d181_5 : zt_code 181 5 = some (.if_icmp .ne (17), 0, 22, 0) := (zf181 5).trans rfl
theorem d181_8 : zt_code 181 8 = some (.iload_n 1, 0, 0, 0) := (zf181 8).trans rfl
theorem d181_9 : zt_code 181 9 = some (.iload_n 2, 0, 0, 0) := (zf181 9).trans rfl
theorem d181_10 : zt_code 181 10 = some (.if_icmp .eq (12), 0, 22, 0) := (zf181 10).trans rfl
theorem d181_13 : zt_code 181 13 = some (.aload_n 0, 0, 0, 0) := (zf181 13).trans rfl
theorem d181_14 : zt_code 181 14 = some (.getfield 73, 5, 34, 1) := (zf181 14).trans rfl
theorem d181_17 : zt_code 181 17 = some (.iload_n 3, 0, 0, 0) := (zf181 17).trans rfl
theorem d181_18 : zt_code 181 18 = some (.iaload, 0, 0, 0) := (zf181 18).trans rfl
theorem d181_19 : zt_code 181 19 = some (.goto (11), 0, 30, 0) := (zf181 19).trans rfl
theorem d181_22 : zt_code 181 22 = some (.aload_n 0, 0, 0, 0) := (zf181 22).trans rfl
theorem d181_23 : zt_code 181 23 = some (.getfield 46, 5, 12, 1) := (zf181 23).trans rfl
theorem d181_26 : zt_code 181 26 = some (.iload_n 3, 0, 0, 0) := (zf181 26).trans rfl
theorem d181_27 : zt_code 181 27 = some (.aaload, 0, 0, 0) := (zf181 27).trans rfl
theorem d181_28 : zt_code 181 28 = some (.iload_n 2, 0, 0, 0) := (zf181 28).trans rfl
theorem d181_29 : zt_code 181 29 = some (.iaload, 0, 0, 0) := (zf181 29).trans rfl
theorem d181_30 : zt_code 181 30 = some (.ireturn, 0, 0, 0) := (zf181 30).trans rfl
/-- FirstAtTheFirstModel.seenBy(III)I -/
theorem vc181 {X : zX} {S : zx_S} {C : zx_C} {q : Int32 → zx_C → Prop} {e : Nat} {a1 : Int32} {a2 : Int32} {a3 : Int32} (hS : zs_5 S e) (h : if (a2 : Int32) = (C.1 e 33) then (if (a1 : Int32) = a2 then (vp_in a3 8 ∧ (vp_in a2 3 ∧ (q (C.1 ((e + 19) + Int32.toNatClampNeg a3) (Int32.toNatClampNeg a2)) C))) else (vp_in a3 8 ∧ (q (C.1 (e + 32) (Int32.toNatClampNeg a3)) C))) else (vp_in a3 8 ∧ (vp_in a2 3 ∧ (q (C.1 ((e + 19) + Int32.toNatClampNeg a3) (Int32.toNatClampNeg a2)) C)))) : zCd X 0 181 [.ref e, .int a1, .int a2, .int a3] S C (zQi q) := by
  refine zc_in ml_181 rfl ?_
  refine zw_iload_n (n := 1) d181_0 rfl rfl ?_
  refine zw_aload_n (n := 2) d181_1 rfl rfl ?_
  refine zw_geti (n := 5) d181_2 rfl (zj_5 hS).1 (zj_5 hS).2 ?_
  refine zw_ic_ne (n := 8) d181_5 rfl (zite h (fun h => ?_) (fun h => ?_))
  · skip
    refine zw_iload_n (n := 9) d181_8 rfl rfl ?_
    refine zw_iload_n (n := 10) d181_9 rfl rfl ?_
    refine zw_ic_eq (n := 13) d181_10 rfl (zite h (fun h => ?_) (fun h => ?_))
    · skip
      refine zw_aload_n (n := 23) d181_22 rfl rfl ?_
      refine zw_getr (n := 26) d181_23 rfl (zj_5 hS).1 (zj_5 hS).2 (zr_5_12 hS) ?_
      refine zw_iload_n (n := 27) d181_26 rfl rfl ?_
      obtain ⟨hi, h⟩ := h
      have hb1 := zb_5_12 hS (vp_lt hi)
      refine zw_aald (n := 28) d181_27 rfl (za_5_12 hS).1 (za_5_12 hS).2 (by decide) hi hb1.1 ?_
      refine zw_iload_n (n := 29) d181_28 rfl rfl ?_
      obtain ⟨hi, h⟩ := h
      refine zw_iald (n := 30) d181_29 rfl hb1.2.1 hb1.2.2 hi ?_
      exact zw_iret d181_30 rfl ⟨_, rfl, h⟩
    · skip
      refine zw_aload_n (n := 14) d181_13 rfl rfl ?_
      refine zw_getr (n := 17) d181_14 rfl (zj_5 hS).1 (zj_5 hS).2 (zr_5_34 hS) ?_
      refine zw_iload_n (n := 18) d181_17 rfl rfl ?_
      obtain ⟨hi, h⟩ := h
      refine zw_iald (n := 19) d181_18 rfl (za_5_34 hS).1 (za_5_34 hS).2 hi ?_
      refine zw_goto d181_19 ?_
      exact zw_iret d181_30 rfl ⟨_, rfl, h⟩
  · skip
    refine zw_aload_n (n := 23) d181_22 rfl rfl ?_
    refine zw_getr (n := 26) d181_23 rfl (zj_5 hS).1 (zj_5 hS).2 (zr_5_12 hS) ?_
    refine zw_iload_n (n := 27) d181_26 rfl rfl ?_
    obtain ⟨hi, h⟩ := h
    have hb2 := zb_5_12 hS (vp_lt hi)
    refine zw_aald (n := 28) d181_27 rfl (za_5_12 hS).1 (za_5_12 hS).2 (by decide) hi hb2.1 ?_
    refine zw_iload_n (n := 29) d181_28 rfl rfl ?_
    obtain ⟨hi, h⟩ := h
    refine zw_iald (n := 30) d181_29 rfl hb2.2.1 hb2.2.2 hi ?_
    exact zw_iret d181_30 rfl ⟨_, rfl, h⟩

set_option maxRecDepth 20000 in
theorem zf182 (pc : Nat) : zt_code 182 pc = zt_fd zl_182 pc := rfl
theorem d182_0 : zt_code 182 0 = some (.iconst (-1), 0, 0, 0) := (zf182 0).trans rfl
theorem d182_1 : zt_code 182 1 = some (.istore 5, 0, 0, 0) := (zf182 1).trans rfl
theorem d182_3 : zt_code 182 3 = some (.iconst (0), 0, 0, 0) := (zf182 3).trans rfl
theorem d182_4 : zt_code 182 4 = some (.istore 6, 0, 0, 0) := (zf182 4).trans rfl
theorem d182_6 : zt_code 182 6 = some (.iload 6, 0, 0, 0) := (zf182 6).trans rfl
theorem d182_8 : zt_code 182 8 = some (.aload_n 0, 0, 0, 0) := (zf182 8).trans rfl
theorem d182_9 : zt_code 182 9 = some (.getfield 98, 5, 11, 0) := (zf182 9).trans rfl
theorem d182_12 : zt_code 182 12 = some (.if_icmp .ge (98), 0, 110, 0) := (zf182 12).trans rfl
theorem d182_15 : zt_code 182 15 = some (.iload 4, 0, 0, 0) := (zf182 15).trans rfl
theorem d182_17 : zt_code 182 17 = some (.iload 6, 0, 0, 0) := (zf182 17).trans rfl
theorem d182_19 : zt_code 182 19 = some (.invokestatic 252, 174, 2, -1) := (zf182 19).trans rfl
theorem d182_22 : zt_code 182 22 = some (.ifCond .eq (82), 0, 104, 0) := (zf182 22).trans rfl
theorem d182_25 : zt_code 182 25 = some (.iload 5, 0, 0, 0) := (zf182 25).trans rfl
theorem d182_27 : zt_code 182 27 = some (.iconst (-1), 0, 0, 0) := (zf182 27).trans rfl
theorem d182_28 : zt_code 182 28 = some (.if_icmp .ne (7), 0, 35, 0) := (zf182 28).trans rfl
theorem d182_31 : zt_code 182 31 = some (.iconst (1), 0, 0, 0) := (zf182 31).trans rfl
theorem d182_32 : zt_code 182 32 = some (.goto (20), 0, 52, 0) := (zf182 32).trans rfl
theorem d182_35 : zt_code 182 35 = some (.aload_n 0, 0, 0, 0) := (zf182 35).trans rfl
theorem d182_36 : zt_code 182 36 = some (.iload_n 1, 0, 0, 0) := (zf182 36).trans rfl
theorem d182_37 : zt_code 182 37 = some (.iload_n 3, 0, 0, 0) := (zf182 37).trans rfl
theorem d182_38 : zt_code 182 38 = some (.iload 6, 0, 0, 0) := (zf182 38).trans rfl
theorem d182_40 : zt_code 182 40 = some (.invokevirtual 286, 181, 4, 5) := (zf182 40).trans rfl
theorem d182_43 : zt_code 182 43 = some (.aload_n 0, 0, 0, 0) := (zf182 43).trans rfl
theorem d182_44 : zt_code 182 44 = some (.iload_n 1, 0, 0, 0) := (zf182 44).trans rfl
theorem d182_45 : zt_code 182 45 = some (.iload_n 3, 0, 0, 0) := (zf182 45).trans rfl
theorem d182_46 : zt_code 182 46 = some (.iload 5, 0, 0, 0) := (zf182 46).trans rfl
theorem d182_48 : zt_code 182 48 = some (.invokevirtual 286, 181, 4, 5) := (zf182 48).trans rfl
theorem d182_51 : zt_code 182 51 = some (.isub, 0, 0, 0) := (zf182 51).trans rfl
theorem d182_52 : zt_code 182 52 = some (.istore 7, 0, 0, 0) := (zf182 52).trans rfl
theorem d182_54 : zt_code 182 54 = some (.iload 7, 0, 0, 0) := (zf182 54).trans rfl
theorem d182_56 : zt_code 182 56 = some (.ifCond .gt (27), 0, 83, 0) := (zf182 56).trans rfl
theorem d182_59 : zt_code 182 59 = some (.iload 7, 0, 0, 0) := (zf182 59).trans rfl
theorem d182_61 : zt_code 182 61 = some (.ifCond .ne (26), 0, 87, 0) := (zf182 61).trans rfl
theorem d182_64 : zt_code 182 64 = some (.aload_n 0, 0, 0, 0) := (zf182 64).trans rfl
theorem d182_65 : zt_code 182 65 = some (.iload_n 1, 0, 0, 0) := (zf182 65).trans rfl
theorem d182_66 : zt_code 182 66 = some (.iload_n 2, 0, 0, 0) := (zf182 66).trans rfl
theorem d182_67 : zt_code 182 67 = some (.iload 6, 0, 0, 0) := (zf182 67).trans rfl
theorem d182_69 : zt_code 182 69 = some (.invokevirtual 286, 181, 4, 5) := (zf182 69).trans rfl
theorem d182_72 : zt_code 182 72 = some (.aload_n 0, 0, 0, 0) := (zf182 72).trans rfl
theorem d182_73 : zt_code 182 73 = some (.iload_n 1, 0, 0, 0) := (zf182 73).trans rfl
theorem d182_74 : zt_code 182 74 = some (.iload_n 2, 0, 0, 0) := (zf182 74).trans rfl
theorem d182_75 : zt_code 182 75 = some (.iload 5, 0, 0, 0) := (zf182 75).trans rfl
theorem d182_77 : zt_code 182 77 = some (.invokevirtual 286, 181, 4, 5) := (zf182 77).trans rfl
theorem d182_80 : zt_code 182 80 = some (.if_icmp .le (7), 0, 87, 0) := (zf182 80).trans rfl
theorem d182_83 : zt_code 182 83 = some (.iconst (1), 0, 0, 0) := (zf182 83).trans rfl
theorem d182_84 : zt_code 182 84 = some (.goto (4), 0, 88, 0) := (zf182 84).trans rfl
theorem d182_87 : zt_code 182 87 = some (.iconst (0), 0, 0, 0) := (zf182 87).trans rfl
theorem d182_88 : zt_code 182 88 = some (.istore 8, 0, 0, 0) := (zf182 88).trans rfl
theorem d182_90 : zt_code 182 90 = some (.iload 8, 0, 0, 0) := (zf182 90).trans rfl
theorem d182_92 : zt_code 182 92 = some (.ifCond .eq (8), 0, 100, 0) := (zf182 92).trans rfl
theorem d182_95 : zt_code 182 95 = some (.iload 6, 0, 0, 0) := (zf182 95).trans rfl
theorem d182_97 : zt_code 182 97 = some (.goto (5), 0, 102, 0) := (zf182 97).trans rfl
theorem d182_100 : zt_code 182 100 = some (.iload 5, 0, 0, 0) := (zf182 100).trans rfl
theorem d182_102 : zt_code 182 102 = some (.istore 5, 0, 0, 0) := (zf182 102).trans rfl
theorem d182_104 : zt_code 182 104 = some (.iinc 6 (1), 0, 0, 0) := (zf182 104).trans rfl
theorem d182_107 : zt_code 182 107 = some (.goto (-101), 0, 6, 0) := (zf182 107).trans rfl
theorem d182_110 : zt_code 182 110 = some (.iload 5, 0, 0, 0) := (zf182 110).trans rfl
theorem d182_112 : zt_code 182 112 = some (.ireturn, 0, 0, 0) := (zf182 112).trans rfl
/-- FirstAtTheFirstModel.spoiling(IIII)I -/
theorem vc182 {X : zX} {S : zx_S} {C : zx_C} {q : Int32 → zx_C → Prop} {e : Nat} {a1 : Int32} {a2 : Int32} {a3 : Int32} {a4 : Int32} (hS : zs_5 S e) (h : zW X 1 182 6 [.ref e, .int a1, .int a2, .int a3, .int a4, .int (-1), .int 0, .retAddr 0, .retAddr 0] [] S C (zQi q)) : zCd X 1 182 [.ref e, .int a1, .int a2, .int a3, .int a4] S C (zQi q) := by
  refine zc_in ml_182 rfl ?_
  refine zw_iconst (n := 1) d182_0 rfl zk_i_m1 ?_
  refine zw_istore (n := 3) d182_1 rfl rfl rfl ?_
  refine zw_iconst (n := 4) d182_3 rfl zk_i_0 ?_
  refine zw_istore (n := 6) d182_4 rfl rfl rfl ?_
  exact h
theorem vc182_6 {X : zX} {S : zx_S} {C : zx_C} {q : Int32 → zx_C → Prop} {e : Nat} {a1 : Int32} {a2 : Int32} {a3 : Int32} {a4 : Int32} {i1 : Int32} {i2 : Int32} {i3 : Int32} {i4 : Int32} {i5 : Int32} {i6 : Int32} {z7 : Value} {z8 : Value} (hS : zs_5 S e) (h : if (i6 : Int32) < (C.1 e 11) then (zCd X 0 174 [.int i4, .int i6] S C (zQi (fun r1 C1 => if (r1 : Int32) = 0 then (zW X 1 182 6 [.ref e, .int i1, .int i2, .int i3, .int i4, .int i5, .int (i6 + 1), z7, z8] [] S C1 (zQi q)) else (if (i5 : Int32) = (-1) then (if (0 : Int32) < 1 then (if (1 : Int32) = 0 then (zW X 1 182 6 [.ref e, .int i1, .int i2, .int i3, .int i4, .int i5, .int (i6 + 1), .int 1, .int 1] [] S C1 (zQi q)) else (zW X 1 182 6 [.ref e, .int i1, .int i2, .int i3, .int i4, .int i6, .int (i6 + 1), .int 1, .int 1] [] S C1 (zQi q))) else (if (1 : Int32) = 0 then (zCd X 0 181 [.ref e, .int i1, .int i2, .int i6] S C1 (zQi (fun r2 C2 => zCd X 0 181 [.ref e, .int i1, .int i2, .int i5] S C2 (zQi (fun r3 C3 => if (r3 : Int32) < r2 then (if (1 : Int32) = 0 then (zW X 1 182 6 [.ref e, .int i1, .int i2, .int i3, .int i4, .int i5, .int (i6 + 1), .int 1, .int 1] [] S C3 (zQi q)) else (zW X 1 182 6 [.ref e, .int i1, .int i2, .int i3, .int i4, .int i6, .int (i6 + 1), .int 1, .int 1] [] S C3 (zQi q))) else (if (0 : Int32) = 0 then (zW X 1 182 6 [.ref e, .int i1, .int i2, .int i3, .int i4, .int i5, .int (i6 + 1), .int 1, .int 0] [] S C3 (zQi q)) else (zW X 1 182 6 [.ref e, .int i1, .int i2, .int i3, .int i4, .int i6, .int (i6 + 1), .int 1, .int 0] [] S C3 (zQi q)))))))) else (if (0 : Int32) = 0 then (zW X 1 182 6 [.ref e, .int i1, .int i2, .int i3, .int i4, .int i5, .int (i6 + 1), .int 1, .int 0] [] S C1 (zQi q)) else (zW X 1 182 6 [.ref e, .int i1, .int i2, .int i3, .int i4, .int i6, .int (i6 + 1), .int 1, .int 0] [] S C1 (zQi q))))) else (zCd X 0 181 [.ref e, .int i1, .int i3, .int i6] S C1 (zQi (fun r4 C4 => zCd X 0 181 [.ref e, .int i1, .int i3, .int i5] S C4 (zQi (fun r5 C5 => if (0 : Int32) < (r4 - r5) then (if (1 : Int32) = 0 then (zW X 1 182 6 [.ref e, .int i1, .int i2, .int i3, .int i4, .int i5, .int (i6 + 1), .int (r4 - r5), .int 1] [] S C5 (zQi q)) else (zW X 1 182 6 [.ref e, .int i1, .int i2, .int i3, .int i4, .int i6, .int (i6 + 1), .int (r4 - r5), .int 1] [] S C5 (zQi q))) else (if ((r4 - r5) : Int32) = 0 then (zCd X 0 181 [.ref e, .int i1, .int i2, .int i6] S C5 (zQi (fun r6 C6 => zCd X 0 181 [.ref e, .int i1, .int i2, .int i5] S C6 (zQi (fun r7 C7 => if (r7 : Int32) < r6 then (if (1 : Int32) = 0 then (zW X 1 182 6 [.ref e, .int i1, .int i2, .int i3, .int i4, .int i5, .int (i6 + 1), .int (r4 - r5), .int 1] [] S C7 (zQi q)) else (zW X 1 182 6 [.ref e, .int i1, .int i2, .int i3, .int i4, .int i6, .int (i6 + 1), .int (r4 - r5), .int 1] [] S C7 (zQi q))) else (if (0 : Int32) = 0 then (zW X 1 182 6 [.ref e, .int i1, .int i2, .int i3, .int i4, .int i5, .int (i6 + 1), .int (r4 - r5), .int 0] [] S C7 (zQi q)) else (zW X 1 182 6 [.ref e, .int i1, .int i2, .int i3, .int i4, .int i6, .int (i6 + 1), .int (r4 - r5), .int 0] [] S C7 (zQi q)))))))) else (if (0 : Int32) = 0 then (zW X 1 182 6 [.ref e, .int i1, .int i2, .int i3, .int i4, .int i5, .int (i6 + 1), .int (r4 - r5), .int 0] [] S C5 (zQi q)) else (zW X 1 182 6 [.ref e, .int i1, .int i2, .int i3, .int i4, .int i6, .int (i6 + 1), .int (r4 - r5), .int 0] [] S C5 (zQi q))))))))))))) else (q i5 C)) : zW X 1 182 6 [.ref e, .int i1, .int i2, .int i3, .int i4, .int i5, .int i6, z7, z8] [] S C (zQi q) := by
  refine zw_iload (n := 8) d182_6 rfl rfl ?_
  refine zw_aload_n (n := 9) d182_8 rfl rfl ?_
  refine zw_geti (n := 12) d182_9 rfl (zj_5 hS).1 (zj_5 hS).2 ?_
  refine zw_ic_ge (n := 15) d182_12 rfl (zite h (fun h => ?_) (fun h => ?_))
  · skip
    refine zw_iload (n := 17) d182_15 rfl rfl ?_
    refine zw_iload (n := 19) d182_17 rfl rfl ?_
    refine zw_cI (n := 22) d182_19 (zs_S rfl rfl rfl rfl) (by rw [ml_174]; rfl) (by decide) rfl (zc_mI h (fun r1 C1 h => ?_))
    refine zw_if_eq (n := 25) d182_22 rfl (zite h (fun h => ?_) (fun h => ?_))
    · skip
      refine zw_iinc (n := 107) d182_104 rfl rfl zk_i_1 rfl ?_
      refine zw_goto d182_107 ?_
      exact h
    · skip
      refine zw_iload (n := 27) d182_25 rfl rfl ?_
      refine zw_iconst (n := 28) d182_27 rfl zk_i_m1 ?_
      refine zw_ic_ne (n := 31) d182_28 rfl (zite h (fun h => ?_) (fun h => ?_))
      · skip
        refine zw_iconst (n := 32) d182_31 rfl zk_i_1 ?_
        refine zw_goto d182_32 ?_
        refine zw_istore (n := 54) d182_52 rfl rfl rfl ?_
        refine zw_iload (n := 56) d182_54 rfl rfl ?_
        refine zw_if_gt (n := 59) d182_56 rfl (zite h (fun h => ?_) (fun h => ?_))
        · skip
          refine zw_iconst (n := 84) d182_83 rfl zk_i_1 ?_
          refine zw_goto d182_84 ?_
          refine zw_istore (n := 90) d182_88 rfl rfl rfl ?_
          refine zw_iload (n := 92) d182_90 rfl rfl ?_
          refine zw_if_eq (n := 95) d182_92 rfl (zite h (fun h => ?_) (fun h => ?_))
          · skip
            refine zw_iload (n := 102) d182_100 rfl rfl ?_
            refine zw_istore (n := 104) d182_102 rfl rfl rfl ?_
            refine zw_iinc (n := 107) d182_104 rfl rfl zk_i_1 rfl ?_
            refine zw_goto d182_107 ?_
            exact h
          · skip
            refine zw_iload (n := 97) d182_95 rfl rfl ?_
            refine zw_goto d182_97 ?_
            refine zw_istore (n := 104) d182_102 rfl rfl rfl ?_
            refine zw_iinc (n := 107) d182_104 rfl rfl zk_i_1 rfl ?_
            refine zw_goto d182_107 ?_
            exact h
        · skip
          refine zw_iload (n := 61) d182_59 rfl rfl ?_
          refine zw_if_ne (n := 64) d182_61 rfl (zite h (fun h => ?_) (fun h => ?_))
          · skip
            refine zw_aload_n (n := 65) d182_64 rfl rfl ?_
            refine zw_iload_n (n := 66) d182_65 rfl rfl ?_
            refine zw_iload_n (n := 67) d182_66 rfl rfl ?_
            refine zw_iload (n := 69) d182_67 rfl rfl ?_
            refine zw_cI (n := 72) d182_69 (zs_V rfl rfl rfl rfl (by decide) (zj_5 hS).1 (zq_5 hS)) (by rw [ml_181]; rfl) (by decide) rfl (zc_mI h (fun r2 C2 h => ?_))
            refine zw_aload_n (n := 73) d182_72 rfl rfl ?_
            refine zw_iload_n (n := 74) d182_73 rfl rfl ?_
            refine zw_iload_n (n := 75) d182_74 rfl rfl ?_
            refine zw_iload (n := 77) d182_75 rfl rfl ?_
            refine zw_cI (n := 80) d182_77 (zs_V rfl rfl rfl rfl (by decide) (zj_5 hS).1 (zq_5 hS)) (by rw [ml_181]; rfl) (by decide) rfl (zc_mI h (fun r3 C3 h => ?_))
            refine zw_ic_le (n := 83) d182_80 rfl (zite h (fun h => ?_) (fun h => ?_))
            · skip
              refine zw_iconst (n := 84) d182_83 rfl zk_i_1 ?_
              refine zw_goto d182_84 ?_
              refine zw_istore (n := 90) d182_88 rfl rfl rfl ?_
              refine zw_iload (n := 92) d182_90 rfl rfl ?_
              refine zw_if_eq (n := 95) d182_92 rfl (zite h (fun h => ?_) (fun h => ?_))
              · skip
                refine zw_iload (n := 102) d182_100 rfl rfl ?_
                refine zw_istore (n := 104) d182_102 rfl rfl rfl ?_
                refine zw_iinc (n := 107) d182_104 rfl rfl zk_i_1 rfl ?_
                refine zw_goto d182_107 ?_
                exact h
              · skip
                refine zw_iload (n := 97) d182_95 rfl rfl ?_
                refine zw_goto d182_97 ?_
                refine zw_istore (n := 104) d182_102 rfl rfl rfl ?_
                refine zw_iinc (n := 107) d182_104 rfl rfl zk_i_1 rfl ?_
                refine zw_goto d182_107 ?_
                exact h
            · skip
              refine zw_iconst (n := 88) d182_87 rfl zk_i_0 ?_
              refine zw_istore (n := 90) d182_88 rfl rfl rfl ?_
              refine zw_iload (n := 92) d182_90 rfl rfl ?_
              refine zw_if_eq (n := 95) d182_92 rfl (zite h (fun h => ?_) (fun h => ?_))
              · skip
                refine zw_iload (n := 102) d182_100 rfl rfl ?_
                refine zw_istore (n := 104) d182_102 rfl rfl rfl ?_
                refine zw_iinc (n := 107) d182_104 rfl rfl zk_i_1 rfl ?_
                refine zw_goto d182_107 ?_
                exact h
              · skip
                refine zw_iload (n := 97) d182_95 rfl rfl ?_
                refine zw_goto d182_97 ?_
                refine zw_istore (n := 104) d182_102 rfl rfl rfl ?_
                refine zw_iinc (n := 107) d182_104 rfl rfl zk_i_1 rfl ?_
                refine zw_goto d182_107 ?_
                exact h
          · skip
            refine zw_iconst (n := 88) d182_87 rfl zk_i_0 ?_
            refine zw_istore (n := 90) d182_88 rfl rfl rfl ?_
            refine zw_iload (n := 92) d182_90 rfl rfl ?_
            refine zw_if_eq (n := 95) d182_92 rfl (zite h (fun h => ?_) (fun h => ?_))
            · skip
              refine zw_iload (n := 102) d182_100 rfl rfl ?_
              refine zw_istore (n := 104) d182_102 rfl rfl rfl ?_
              refine zw_iinc (n := 107) d182_104 rfl rfl zk_i_1 rfl ?_
              refine zw_goto d182_107 ?_
              exact h
            · skip
              refine zw_iload (n := 97) d182_95 rfl rfl ?_
              refine zw_goto d182_97 ?_
              refine zw_istore (n := 104) d182_102 rfl rfl rfl ?_
              refine zw_iinc (n := 107) d182_104 rfl rfl zk_i_1 rfl ?_
              refine zw_goto d182_107 ?_
              exact h
      · skip
        refine zw_aload_n (n := 36) d182_35 rfl rfl ?_
        refine zw_iload_n (n := 37) d182_36 rfl rfl ?_
        refine zw_iload_n (n := 38) d182_37 rfl rfl ?_
        refine zw_iload (n := 40) d182_38 rfl rfl ?_
        refine zw_cI (n := 43) d182_40 (zs_V rfl rfl rfl rfl (by decide) (zj_5 hS).1 (zq_5 hS)) (by rw [ml_181]; rfl) (by decide) rfl (zc_mI h (fun r4 C4 h => ?_))
        refine zw_aload_n (n := 44) d182_43 rfl rfl ?_
        refine zw_iload_n (n := 45) d182_44 rfl rfl ?_
        refine zw_iload_n (n := 46) d182_45 rfl rfl ?_
        refine zw_iload (n := 48) d182_46 rfl rfl ?_
        refine zw_cI (n := 51) d182_48 (zs_V rfl rfl rfl rfl (by decide) (zj_5 hS).1 (zq_5 hS)) (by rw [ml_181]; rfl) (by decide) rfl (zc_mI h (fun r5 C5 h => ?_))
        refine zw_isub (n := 52) d182_51 rfl ?_
        refine zw_istore (n := 54) d182_52 rfl rfl rfl ?_
        refine zw_iload (n := 56) d182_54 rfl rfl ?_
        refine zw_if_gt (n := 59) d182_56 rfl (zite h (fun h => ?_) (fun h => ?_))
        · skip
          refine zw_iconst (n := 84) d182_83 rfl zk_i_1 ?_
          refine zw_goto d182_84 ?_
          refine zw_istore (n := 90) d182_88 rfl rfl rfl ?_
          refine zw_iload (n := 92) d182_90 rfl rfl ?_
          refine zw_if_eq (n := 95) d182_92 rfl (zite h (fun h => ?_) (fun h => ?_))
          · skip
            refine zw_iload (n := 102) d182_100 rfl rfl ?_
            refine zw_istore (n := 104) d182_102 rfl rfl rfl ?_
            refine zw_iinc (n := 107) d182_104 rfl rfl zk_i_1 rfl ?_
            refine zw_goto d182_107 ?_
            exact h
          · skip
            refine zw_iload (n := 97) d182_95 rfl rfl ?_
            refine zw_goto d182_97 ?_
            refine zw_istore (n := 104) d182_102 rfl rfl rfl ?_
            refine zw_iinc (n := 107) d182_104 rfl rfl zk_i_1 rfl ?_
            refine zw_goto d182_107 ?_
            exact h
        · skip
          refine zw_iload (n := 61) d182_59 rfl rfl ?_
          refine zw_if_ne (n := 64) d182_61 rfl (zite h (fun h => ?_) (fun h => ?_))
          · skip
            refine zw_aload_n (n := 65) d182_64 rfl rfl ?_
            refine zw_iload_n (n := 66) d182_65 rfl rfl ?_
            refine zw_iload_n (n := 67) d182_66 rfl rfl ?_
            refine zw_iload (n := 69) d182_67 rfl rfl ?_
            refine zw_cI (n := 72) d182_69 (zs_V rfl rfl rfl rfl (by decide) (zj_5 hS).1 (zq_5 hS)) (by rw [ml_181]; rfl) (by decide) rfl (zc_mI h (fun r6 C6 h => ?_))
            refine zw_aload_n (n := 73) d182_72 rfl rfl ?_
            refine zw_iload_n (n := 74) d182_73 rfl rfl ?_
            refine zw_iload_n (n := 75) d182_74 rfl rfl ?_
            refine zw_iload (n := 77) d182_75 rfl rfl ?_
            refine zw_cI (n := 80) d182_77 (zs_V rfl rfl rfl rfl (by decide) (zj_5 hS).1 (zq_5 hS)) (by rw [ml_181]; rfl) (by decide) rfl (zc_mI h (fun r7 C7 h => ?_))
            refine zw_ic_le (n := 83) d182_80 rfl (zite h (fun h => ?_) (fun h => ?_))
            · skip
              refine zw_iconst (n := 84) d182_83 rfl zk_i_1 ?_
              refine zw_goto d182_84 ?_
              refine zw_istore (n := 90) d182_88 rfl rfl rfl ?_
              refine zw_iload (n := 92) d182_90 rfl rfl ?_
              refine zw_if_eq (n := 95) d182_92 rfl (zite h (fun h => ?_) (fun h => ?_))
              · skip
                refine zw_iload (n := 102) d182_100 rfl rfl ?_
                refine zw_istore (n := 104) d182_102 rfl rfl rfl ?_
                refine zw_iinc (n := 107) d182_104 rfl rfl zk_i_1 rfl ?_
                refine zw_goto d182_107 ?_
                exact h
              · skip
                refine zw_iload (n := 97) d182_95 rfl rfl ?_
                refine zw_goto d182_97 ?_
                refine zw_istore (n := 104) d182_102 rfl rfl rfl ?_
                refine zw_iinc (n := 107) d182_104 rfl rfl zk_i_1 rfl ?_
                refine zw_goto d182_107 ?_
                exact h
            · skip
              refine zw_iconst (n := 88) d182_87 rfl zk_i_0 ?_
              refine zw_istore (n := 90) d182_88 rfl rfl rfl ?_
              refine zw_iload (n := 92) d182_90 rfl rfl ?_
              refine zw_if_eq (n := 95) d182_92 rfl (zite h (fun h => ?_) (fun h => ?_))
              · skip
                refine zw_iload (n := 102) d182_100 rfl rfl ?_
                refine zw_istore (n := 104) d182_102 rfl rfl rfl ?_
                refine zw_iinc (n := 107) d182_104 rfl rfl zk_i_1 rfl ?_
                refine zw_goto d182_107 ?_
                exact h
              · skip
                refine zw_iload (n := 97) d182_95 rfl rfl ?_
                refine zw_goto d182_97 ?_
                refine zw_istore (n := 104) d182_102 rfl rfl rfl ?_
                refine zw_iinc (n := 107) d182_104 rfl rfl zk_i_1 rfl ?_
                refine zw_goto d182_107 ?_
                exact h
          · skip
            refine zw_iconst (n := 88) d182_87 rfl zk_i_0 ?_
            refine zw_istore (n := 90) d182_88 rfl rfl rfl ?_
            refine zw_iload (n := 92) d182_90 rfl rfl ?_
            refine zw_if_eq (n := 95) d182_92 rfl (zite h (fun h => ?_) (fun h => ?_))
            · skip
              refine zw_iload (n := 102) d182_100 rfl rfl ?_
              refine zw_istore (n := 104) d182_102 rfl rfl rfl ?_
              refine zw_iinc (n := 107) d182_104 rfl rfl zk_i_1 rfl ?_
              refine zw_goto d182_107 ?_
              exact h
            · skip
              refine zw_iload (n := 97) d182_95 rfl rfl ?_
              refine zw_goto d182_97 ?_
              refine zw_istore (n := 104) d182_102 rfl rfl rfl ?_
              refine zw_iinc (n := 107) d182_104 rfl rfl zk_i_1 rfl ?_
              refine zw_goto d182_107 ?_
              exact h
  · skip
    refine zw_iload (n := 112) d182_110 rfl rfl ?_
    exact zw_iret d182_112 rfl ⟨_, rfl, h⟩

set_option maxRecDepth 20000 in
theorem zf183 (pc : Nat) : zt_code 183 pc = zt_fd zl_183 pc := rfl
theorem d183_0 : zt_code 183 0 = some (.iconst (0), 0, 0, 0) := (zf183 0).trans rfl
theorem d183_1 : zt_code 183 1 = some (.istore_n 1, 0, 0, 0) := (zf183 1).trans rfl
theorem d183_2 : zt_code 183 2 = some (.iconst (0), 0, 0, 0) := (zf183 2).trans rfl
theorem d183_3 : zt_code 183 3 = some (.istore_n 2, 0, 0, 0) := (zf183 3).trans rfl
theorem d183_4 : zt_code 183 4 = some (.iload_n 2, 0, 0, 0) := (zf183 4).trans rfl
theorem d183_5 : zt_code 183 5 = some (.bipush (8), 0, 0, 0) := (zf183 5).trans rfl
theorem d183_7 : zt_code 183 7 = some (.if_icmp .ge (17), 0, 24, 0) := (zf183 7).trans rfl
theorem d183_10 : zt_code 183 10 = some (.iload_n 1, 0, 0, 0) := (zf183 10).trans rfl
theorem d183_11 : zt_code 183 11 = some (.iload_n 0, 0, 0, 0) := (zf183 11).trans rfl
theorem d183_12 : zt_code 183 12 = some (.iload_n 2, 0, 0, 0) := (zf183 12).trans rfl
theorem d183_13 : zt_code 183 13 = some (.ishr, 0, 0, 0) := (zf183 13).trans rfl
theorem d183_14 : zt_code 183 14 = some (.iconst (1), 0, 0, 0) := (zf183 14).trans rfl
theorem d183_15 : zt_code 183 15 = some (.iand, 0, 0, 0) := (zf183 15).trans rfl
theorem d183_16 : zt_code 183 16 = some (.iadd, 0, 0, 0) := (zf183 16).trans rfl
theorem d183_17 : zt_code 183 17 = some (.istore_n 1, 0, 0, 0) := (zf183 17).trans rfl
theorem d183_18 : zt_code 183 18 = some (.iinc 2 (1), 0, 0, 0) := (zf183 18).trans rfl
theorem d183_21 : zt_code 183 21 = some (.goto (-17), 0, 4, 0) := (zf183 21).trans rfl
theorem d183_24 : zt_code 183 24 = some (.iload_n 1, 0, 0, 0) := (zf183 24).trans rfl
theorem d183_25 : zt_code 183 25 = some (.ireturn, 0, 0, 0) := (zf183 25).trans rfl
/-- FirstAtTheFirstModel.bits(I)I -/
theorem vc183 {X : zX} {S : zx_S} {C : zx_C} {q : Int32 → zx_C → Prop} {a1 : Int32}  (h : zW X 0 183 4 [.int a1, .int 0, .int 0] [] S C (zQi q)) : zCd X 0 183 [.int a1] S C (zQi q) := by
  refine zc_in ml_183 rfl ?_
  refine zw_iconst (n := 1) d183_0 rfl zk_i_0 ?_
  refine zw_istore_n (n := 2) d183_1 rfl rfl rfl ?_
  refine zw_iconst (n := 3) d183_2 rfl zk_i_0 ?_
  refine zw_istore_n (n := 4) d183_3 rfl rfl rfl ?_
  exact h
theorem vc183_4 {X : zX} {S : zx_S} {C : zx_C} {q : Int32 → zx_C → Prop} {a1 : Int32} {i0 : Int32} {i1 : Int32} {i2 : Int32}  (h : if (i2 : Int32) < 8 then (zW X 0 183 4 [.int i0, .int (i1 + ((i0 >>> (i2 &&& 31)) &&& 1)), .int (i2 + 1)] [] S C (zQi q)) else (q i1 C)) : zW X 0 183 4 [.int i0, .int i1, .int i2] [] S C (zQi q) := by
  refine zw_iload_n (n := 5) d183_4 rfl rfl ?_
  refine zw_bipush (n := 7) d183_5 rfl zk_b_8 ?_
  refine zw_ic_ge (n := 10) d183_7 rfl (zite h (fun h => ?_) (fun h => ?_))
  · skip
    refine zw_iload_n (n := 11) d183_10 rfl rfl ?_
    refine zw_iload_n (n := 12) d183_11 rfl rfl ?_
    refine zw_iload_n (n := 13) d183_12 rfl rfl ?_
    refine zw_ishr (n := 14) d183_13 rfl ?_
    refine zw_iconst (n := 15) d183_14 rfl zk_i_1 ?_
    refine zw_iand (n := 16) d183_15 rfl ?_
    refine zw_iadd (n := 17) d183_16 rfl ?_
    refine zw_istore_n (n := 18) d183_17 rfl rfl rfl ?_
    refine zw_iinc (n := 21) d183_18 rfl rfl zk_i_1 rfl ?_
    refine zw_goto d183_21 ?_
    exact h
  · skip
    refine zw_iload_n (n := 25) d183_24 rfl rfl ?_
    exact zw_iret d183_25 rfl ⟨_, rfl, h⟩

set_option maxRecDepth 20000 in
theorem zf184 (pc : Nat) : zt_code 184 pc = zt_fd zl_184 pc := rfl
theorem d184_0 : zt_code 184 0 = some (.iconst (-1), 0, 0, 0) := (zf184 0).trans rfl
theorem d184_1 : zt_code 184 1 = some (.istore 5, 0, 0, 0) := (zf184 1).trans rfl
theorem d184_3 : zt_code 184 3 = some (.iconst (0), 0, 0, 0) := (zf184 3).trans rfl
theorem d184_4 : zt_code 184 4 = some (.istore 6, 0, 0, 0) := (zf184 4).trans rfl
theorem d184_6 : zt_code 184 6 = some (.iload 6, 0, 0, 0) := (zf184 6).trans rfl
theorem d184_8 : zt_code 184 8 = some (.aload_n 0, 0, 0, 0) := (zf184 8).trans rfl
theorem d184_9 : zt_code 184 9 = some (.getfield 98, 5, 11, 0) := (zf184 9).trans rfl
theorem d184_12 : zt_code 184 12 = some (.if_icmp .ge (48), 0, 60, 0) := (zf184 12).trans rfl
theorem d184_15 : zt_code 184 15 = some (.iload 4, 0, 0, 0) := (zf184 15).trans rfl
theorem d184_17 : zt_code 184 17 = some (.iload 6, 0, 0, 0) := (zf184 17).trans rfl
theorem d184_19 : zt_code 184 19 = some (.invokestatic 252, 174, 2, -1) := (zf184 19).trans rfl
theorem d184_22 : zt_code 184 22 = some (.ifCond .eq (32), 0, 54, 0) := (zf184 22).trans rfl
theorem d184_25 : zt_code 184 25 = some (.iload 5, 0, 0, 0) := (zf184 25).trans rfl
theorem d184_27 : zt_code 184 27 = some (.iconst (-1), 0, 0, 0) := (zf184 27).trans rfl
theorem d184_28 : zt_code 184 28 = some (.if_icmp .eq (22), 0, 50, 0) := (zf184 28).trans rfl
theorem d184_31 : zt_code 184 31 = some (.aload_n 0, 0, 0, 0) := (zf184 31).trans rfl
theorem d184_32 : zt_code 184 32 = some (.iload_n 1, 0, 0, 0) := (zf184 32).trans rfl
theorem d184_33 : zt_code 184 33 = some (.iload_n 3, 0, 0, 0) := (zf184 33).trans rfl
theorem d184_34 : zt_code 184 34 = some (.iload 6, 0, 0, 0) := (zf184 34).trans rfl
theorem d184_36 : zt_code 184 36 = some (.invokevirtual 286, 181, 4, 5) := (zf184 36).trans rfl
theorem d184_39 : zt_code 184 39 = some (.aload_n 0, 0, 0, 0) := (zf184 39).trans rfl
theorem d184_40 : zt_code 184 40 = some (.iload_n 1, 0, 0, 0) := (zf184 40).trans rfl
theorem d184_41 : zt_code 184 41 = some (.iload_n 3, 0, 0, 0) := (zf184 41).trans rfl
theorem d184_42 : zt_code 184 42 = some (.iload 5, 0, 0, 0) := (zf184 42).trans rfl
theorem d184_44 : zt_code 184 44 = some (.invokevirtual 286, 181, 4, 5) := (zf184 44).trans rfl
theorem d184_47 : zt_code 184 47 = some (.if_icmp .gt (7), 0, 54, 0) := (zf184 47).trans rfl
theorem d184_50 : zt_code 184 50 = some (.iload 6, 0, 0, 0) := (zf184 50).trans rfl
theorem d184_52 : zt_code 184 52 = some (.istore 5, 0, 0, 0) := (zf184 52).trans rfl
theorem d184_54 : zt_code 184 54 = some (.iinc 6 (1), 0, 0, 0) := (zf184 54).trans rfl
theorem d184_57 : zt_code 184 57 = some (.goto (-51), 0, 6, 0) := (zf184 57).trans rfl
theorem d184_60 : zt_code 184 60 = some (.iload 5, 0, 0, 0) := (zf184 60).trans rfl
theorem d184_62 : zt_code 184 62 = some (.ireturn, 0, 0, 0) := (zf184 62).trans rfl
/-- FirstAtTheFirstModel.leastOf(IIII)I -/
theorem vc184 {X : zX} {S : zx_S} {C : zx_C} {q : Int32 → zx_C → Prop} {e : Nat} {a1 : Int32} {a2 : Int32} {a3 : Int32} {a4 : Int32} (hS : zs_5 S e) (h : zW X 1 184 6 [.ref e, .int a1, .int a2, .int a3, .int a4, .int (-1), .int 0] [] S C (zQi q)) : zCd X 1 184 [.ref e, .int a1, .int a2, .int a3, .int a4] S C (zQi q) := by
  refine zc_in ml_184 rfl ?_
  refine zw_iconst (n := 1) d184_0 rfl zk_i_m1 ?_
  refine zw_istore (n := 3) d184_1 rfl rfl rfl ?_
  refine zw_iconst (n := 4) d184_3 rfl zk_i_0 ?_
  refine zw_istore (n := 6) d184_4 rfl rfl rfl ?_
  exact h
theorem vc184_6 {X : zX} {S : zx_S} {C : zx_C} {q : Int32 → zx_C → Prop} {e : Nat} {a1 : Int32} {a2 : Int32} {a3 : Int32} {a4 : Int32} {i1 : Int32} {z2 : Value} {i3 : Int32} {i4 : Int32} {i5 : Int32} {i6 : Int32} (hS : zs_5 S e) (h : if (i6 : Int32) < (C.1 e 11) then (zCd X 0 174 [.int i4, .int i6] S C (zQi (fun r1 C1 => if (r1 : Int32) = 0 then (zW X 1 184 6 [.ref e, .int i1, z2, .int i3, .int i4, .int i5, .int (i6 + 1)] [] S C1 (zQi q)) else (if (i5 : Int32) = (-1) then (zW X 1 184 6 [.ref e, .int i1, z2, .int i3, .int i4, .int i6, .int (i6 + 1)] [] S C1 (zQi q)) else (zCd X 0 181 [.ref e, .int i1, .int i3, .int i6] S C1 (zQi (fun r2 C2 => zCd X 0 181 [.ref e, .int i1, .int i3, .int i5] S C2 (zQi (fun r3 C3 => if (r3 : Int32) < r2 then (zW X 1 184 6 [.ref e, .int i1, z2, .int i3, .int i4, .int i5, .int (i6 + 1)] [] S C3 (zQi q)) else (zW X 1 184 6 [.ref e, .int i1, z2, .int i3, .int i4, .int i6, .int (i6 + 1)] [] S C3 (zQi q))))))))))) else (q i5 C)) : zW X 1 184 6 [.ref e, .int i1, z2, .int i3, .int i4, .int i5, .int i6] [] S C (zQi q) := by
  refine zw_iload (n := 8) d184_6 rfl rfl ?_
  refine zw_aload_n (n := 9) d184_8 rfl rfl ?_
  refine zw_geti (n := 12) d184_9 rfl (zj_5 hS).1 (zj_5 hS).2 ?_
  refine zw_ic_ge (n := 15) d184_12 rfl (zite h (fun h => ?_) (fun h => ?_))
  · skip
    refine zw_iload (n := 17) d184_15 rfl rfl ?_
    refine zw_iload (n := 19) d184_17 rfl rfl ?_
    refine zw_cI (n := 22) d184_19 (zs_S rfl rfl rfl rfl) (by rw [ml_174]; rfl) (by decide) rfl (zc_mI h (fun r1 C1 h => ?_))
    refine zw_if_eq (n := 25) d184_22 rfl (zite h (fun h => ?_) (fun h => ?_))
    · skip
      refine zw_iinc (n := 57) d184_54 rfl rfl zk_i_1 rfl ?_
      refine zw_goto d184_57 ?_
      exact h
    · skip
      refine zw_iload (n := 27) d184_25 rfl rfl ?_
      refine zw_iconst (n := 28) d184_27 rfl zk_i_m1 ?_
      refine zw_ic_eq (n := 31) d184_28 rfl (zite h (fun h => ?_) (fun h => ?_))
      · skip
        refine zw_iload (n := 52) d184_50 rfl rfl ?_
        refine zw_istore (n := 54) d184_52 rfl rfl rfl ?_
        refine zw_iinc (n := 57) d184_54 rfl rfl zk_i_1 rfl ?_
        refine zw_goto d184_57 ?_
        exact h
      · skip
        refine zw_aload_n (n := 32) d184_31 rfl rfl ?_
        refine zw_iload_n (n := 33) d184_32 rfl rfl ?_
        refine zw_iload_n (n := 34) d184_33 rfl rfl ?_
        refine zw_iload (n := 36) d184_34 rfl rfl ?_
        refine zw_cI (n := 39) d184_36 (zs_V rfl rfl rfl rfl (by decide) (zj_5 hS).1 (zq_5 hS)) (by rw [ml_181]; rfl) (by decide) rfl (zc_mI h (fun r2 C2 h => ?_))
        refine zw_aload_n (n := 40) d184_39 rfl rfl ?_
        refine zw_iload_n (n := 41) d184_40 rfl rfl ?_
        refine zw_iload_n (n := 42) d184_41 rfl rfl ?_
        refine zw_iload (n := 44) d184_42 rfl rfl ?_
        refine zw_cI (n := 47) d184_44 (zs_V rfl rfl rfl rfl (by decide) (zj_5 hS).1 (zq_5 hS)) (by rw [ml_181]; rfl) (by decide) rfl (zc_mI h (fun r3 C3 h => ?_))
        refine zw_ic_gt (n := 50) d184_47 rfl (zite h (fun h => ?_) (fun h => ?_))
        · skip
          refine zw_iinc (n := 57) d184_54 rfl rfl zk_i_1 rfl ?_
          refine zw_goto d184_57 ?_
          exact h
        · skip
          refine zw_iload (n := 52) d184_50 rfl rfl ?_
          refine zw_istore (n := 54) d184_52 rfl rfl rfl ?_
          refine zw_iinc (n := 57) d184_54 rfl rfl zk_i_1 rfl ?_
          refine zw_goto d184_57 ?_
          exact h
  · skip
    refine zw_iload (n := 62) d184_60 rfl rfl ?_
    exact zw_iret d184_62 rfl ⟨_, rfl, h⟩

set_option maxRecDepth 20000 in
theorem zf185 (pc : Nat) : zt_code 185 pc = zt_fd zl_185 pc := rfl
theorem d185_0 : zt_code 185 0 = some (.iload_n 1, 0, 0, 0) := (zf185 0).trans rfl
theorem d185_1 : zt_code 185 1 = some (.i2l, 0, 0, 0) := (zf185 1).trans rfl
theorem d185_2 : zt_code 185 2 = some (.ldc2_w 146, 0, 0, 2) := (zf185 2).trans rfl
theorem d185_5 : zt_code 185 5 = some (.ldc2_w 148, 0, 0, 3) := (zf185 5).trans rfl
theorem d185_8 : zt_code 185 8 = some (.invokestatic 94, 159, 3, -1) := (zf185 8).trans rfl
theorem d185_11 : zt_code 185 11 = some (.ifCond .ne (10), 0, 21, 0) := (zf185 11).trans rfl
theorem d185_14 : zt_code 185 14 = some (.aload_n 0, 0, 0, 0) := (zf185 14).trans rfl
theorem d185_15 : zt_code 185 15 = some (.bipush (-2), 0, 0, 0) := (zf185 15).trans rfl
theorem d185_17 : zt_code 185 17 = some (.invokevirtual 107, 160, 2, 5) := (zf185 17).trans rfl
theorem d185_20 : zt_code 185 20 = some (.ireturn, 0, 0, 0) := (zf185 20).trans rfl
theorem d185_21 : zt_code 185 21 = some (.aload_n 0, 0, 0, 0) := (zf185 21).trans rfl
theorem d185_22 : zt_code 185 22 = some (.getfield 98, 5, 11, 0) := (zf185 22).trans rfl
theorem d185_25 : zt_code 185 25 = some (.ifCond .le (10), 0, 35, 0) := (zf185 25).trans rfl
theorem d185_28 : zt_code 185 28 = some (.aload_n 0, 0, 0, 0) := (zf185 28).trans rfl
theorem d185_29 : zt_code 185 29 = some (.bipush (-5), 0, 0, 0) := (zf185 29).trans rfl
theorem d185_31 : zt_code 185 31 = some (.invokevirtual 107, 160, 2, 5) := (zf185 31).trans rfl
theorem d185_34 : zt_code 185 34 = some (.ireturn, 0, 0, 0) := (zf185 34).trans rfl
theorem d185_35 : zt_code 185 35 = some (.aload_n 0, 0, 0, 0) := (zf185 35).trans rfl
theorem d185_36 : zt_code 185 36 = some (.getfield 40, 5, 10, 0) := (zf185 36).trans rfl
theorem d185_39 : zt_code 185 39 = some (.istore_n 2, 0, 0, 0) := (zf185 39).trans rfl
theorem d185_40 : zt_code 185 40 = some (.aload_n 0, 0, 0, 0) := (zf185 40).trans rfl
theorem d185_41 : zt_code 185 41 = some (.iload_n 1, 0, 0, 0) := (zf185 41).trans rfl
theorem d185_42 : zt_code 185 42 = some (.invokevirtual 150, 186, 2, 5) := (zf185 42).trans rfl
theorem d185_45 : zt_code 185 45 = some (.iload_n 2, 0, 0, 0) := (zf185 45).trans rfl
theorem d185_46 : zt_code 185 46 = some (.ireturn, 0, 0, 0) := (zf185 46).trans rfl
/-- FirstAtTheFirstModel.sides(I)I -/
theorem vc185 {X : zX} {S : zx_S} {C : zx_C} {q : Int32 → zx_C → Prop} {e : Nat} {a1 : Int32} (hS : zs_5 S e) (h : zCd X 0 159 [.long (Int32.toInt64 a1), .long 2, .long 3] S C (zQi (fun r1 C1 => if (r1 : Int32) = 0 then (zCd X 0 160 [.ref e, .int (-2)] S C1 (zQi (fun r2 C2 => q r2 C2))) else (if (0 : Int32) < (C1.1 e 11) then (zCd X 0 160 [.ref e, .int (-5)] S C1 (zQi (fun r3 C3 => q r3 C3))) else (zCd X 0 186 [.ref e, .int a1] S C1 (zQv (fun C4 => q (C1.1 e 10) C4))))))) : zCd X 1 185 [.ref e, .int a1] S C (zQi q) := by
  refine zc_in ml_185 rfl ?_
  refine zw_iload_n (n := 1) d185_0 rfl rfl ?_
  refine zw_i2l (n := 2) d185_1 rfl ?_
  refine zw_ldc2 (n := 5) d185_2 rfl zk_l_2 ?_
  refine zw_ldc2 (n := 8) d185_5 rfl zk_l_3 ?_
  refine zw_cI (n := 11) d185_8 (zs_S rfl rfl rfl rfl) (by rw [ml_159]; rfl) (by decide) rfl (zc_mI h (fun r1 C1 h => ?_))
  refine zw_if_ne (n := 14) d185_11 rfl (zite h (fun h => ?_) (fun h => ?_))
  · skip
    refine zw_aload_n (n := 15) d185_14 rfl rfl ?_
    refine zw_bipush (n := 17) d185_15 rfl zk_b_m2 ?_
    refine zw_cI (n := 20) d185_17 (zs_V rfl rfl rfl rfl (by decide) (zj_5 hS).1 (zq_5 hS)) (by rw [ml_160]; rfl) (by decide) rfl (zc_mI h (fun r2 C2 h => ?_))
    exact zw_iret d185_20 rfl ⟨_, rfl, h⟩
  · skip
    refine zw_aload_n (n := 22) d185_21 rfl rfl ?_
    refine zw_geti (n := 25) d185_22 rfl (zj_5 hS).1 (zj_5 hS).2 ?_
    refine zw_if_le (n := 28) d185_25 rfl (zite h (fun h => ?_) (fun h => ?_))
    · skip
      refine zw_aload_n (n := 29) d185_28 rfl rfl ?_
      refine zw_bipush (n := 31) d185_29 rfl zk_b_m5 ?_
      refine zw_cI (n := 34) d185_31 (zs_V rfl rfl rfl rfl (by decide) (zj_5 hS).1 (zq_5 hS)) (by rw [ml_160]; rfl) (by decide) rfl (zc_mI h (fun r3 C3 h => ?_))
      exact zw_iret d185_34 rfl ⟨_, rfl, h⟩
    · skip
      refine zw_aload_n (n := 36) d185_35 rfl rfl ?_
      refine zw_geti (n := 39) d185_36 rfl (zj_5 hS).1 (zj_5 hS).2 ?_
      refine zw_istore_n (n := 40) d185_39 rfl rfl rfl ?_
      refine zw_aload_n (n := 41) d185_40 rfl rfl ?_
      refine zw_iload_n (n := 42) d185_41 rfl rfl ?_
      refine zw_cV (n := 45) d185_42 (zs_V rfl rfl rfl rfl (by decide) (zj_5 hS).1 (zq_5 hS)) (by rw [ml_186]; rfl) (by decide) rfl (zc_mV h (fun C4 h => ?_))
      refine zw_iload_n (n := 46) d185_45 rfl rfl ?_
      exact zw_iret d185_46 rfl ⟨_, rfl, h⟩

set_option maxRecDepth 20000 in
theorem zf186 (pc : Nat) : zt_code 186 pc = zt_fd zl_186 pc := rfl
theorem d186_0 : zt_code 186 0 = some (.aload_n 0, 0, 0, 0) := (zf186 0).trans rfl
theorem d186_1 : zt_code 186 1 = some (.iload_n 1, 0, 0, 0) := (zf186 1).trans rfl
theorem d186_2 : zt_code 186 2 = some (.putfield 40, 5, 10, 0) := (zf186 2).trans rfl
theorem d186_5 : zt_code 186 5 = some (.aload_n 0, 0, 0, 0) := (zf186 5).trans rfl
theorem d186_6 : zt_code 186 6 = some (.iconst (1), 0, 0, 0) := (zf186 6).trans rfl
theorem d186_7 : zt_code 186 7 = some (.putfield 55, 5, 16, 0) := (zf186 7).trans rfl
theorem d186_10 : zt_code 186 10 = some (.aload_n 0, 0, 0, 0) := (zf186 10).trans rfl
theorem d186_11 : zt_code 186 11 = some (.getfield 52, 5, 15, 1) := (zf186 11).trans rfl
theorem d186_14 : zt_code 186 14 = some (.iconst (0), 0, 0, 0) := (zf186 14).trans rfl
theorem d186_15 : zt_code 186 15 = some (.iconst (0), 0, 0, 0) := (zf186 15).trans rfl
theorem d186_16 : zt_code 186 16 = some (.iastore, 0, 0, 0) := (zf186 16).trans rfl
theorem d186_17 : zt_code 186 17 = some (.iconst (0), 0, 0, 0) := (zf186 17).trans rfl
theorem d186_18 : zt_code 186 18 = some (.istore_n 2, 0, 0, 0) := (zf186 18).trans rfl
theorem d186_19 : zt_code 186 19 = some (.iload_n 2, 0, 0, 0) := (zf186 19).trans rfl
theorem d186_20 : zt_code 186 20 = some (.iconst (3), 0, 0, 0) := (zf186 20).trans rfl
theorem d186_21 : zt_code 186 21 = some (.if_icmp .ge (16), 0, 37, 0) := (zf186 21).trans rfl
theorem d186_24 : zt_code 186 24 = some (.aload_n 0, 0, 0, 0) := (zf186 24).trans rfl
theorem d186_25 : zt_code 186 25 = some (.getfield 58, 5, 17, 1) := (zf186 25).trans rfl
theorem d186_28 : zt_code 186 28 = some (.iload_n 2, 0, 0, 0) := (zf186 28).trans rfl
theorem d186_29 : zt_code 186 29 = some (.iconst (0), 0, 0, 0) := (zf186 29).trans rfl
theorem d186_30 : zt_code 186 30 = some (.iastore, 0, 0, 0) := (zf186 30).trans rfl
theorem d186_31 : zt_code 186 31 = some (.iinc 2 (1), 0, 0, 0) := (zf186 31).trans rfl
theorem d186_34 : zt_code 186 34 = some (.goto (-15), 0, 19, 0) := (zf186 34).trans rfl
theorem d186_37 : zt_code 186 37 = some (.return_, 0, 0, 0) := (zf186 37).trans rfl
/-- FirstAtTheFirstModel.becomeSides(I)V -/
theorem vc186 {X : zX} {S : zx_S} {C : zx_C} {q : zx_C → Prop} {e : Nat} {a1 : Int32} (hS : zs_5 S e) (h : vp_in 0 12 ∧ (zW X 0 186 19 [.ref e, .int a1, .int 0] [] S (zp (zp (zp C e 10 a1) e 16 1) (e + 28) (Int32.toNatClampNeg 0) 0) (zQv q))) : zCd X 0 186 [.ref e, .int a1] S C (zQv q) := by
  refine zc_in ml_186 rfl ?_
  refine zw_aload_n (n := 1) d186_0 rfl rfl ?_
  refine zw_iload_n (n := 2) d186_1 rfl rfl ?_
  refine zw_puti (n := 5) d186_2 rfl (zj_5 hS).1 (zj_5 hS).2 ?_
  refine zw_aload_n (n := 6) d186_5 rfl rfl ?_
  refine zw_iconst (n := 7) d186_6 rfl zk_i_1 ?_
  refine zw_puti (n := 10) d186_7 rfl (zj_5 hS).1 (zj_5 hS).2 ?_
  refine zw_aload_n (n := 11) d186_10 rfl rfl ?_
  refine zw_getr (n := 14) d186_11 rfl (zj_5 hS).1 (zj_5 hS).2 (zr_5_15 hS) ?_
  refine zw_iconst (n := 15) d186_14 rfl zk_i_0 ?_
  refine zw_iconst (n := 16) d186_15 rfl zk_i_0 ?_
  obtain ⟨hi, h⟩ := h
  refine zw_iast (n := 17) d186_16 rfl (za_5_15 hS).1 (za_5_15 hS).2 hi ?_
  refine zw_iconst (n := 18) d186_17 rfl zk_i_0 ?_
  refine zw_istore_n (n := 19) d186_18 rfl rfl rfl ?_
  exact h
theorem vc186_19 {X : zX} {S : zx_S} {C : zx_C} {q : zx_C → Prop} {e : Nat} {a1 : Int32} {z1 : Value} {i2 : Int32} (hS : zs_5 S e) (h : if (i2 : Int32) < 3 then (vp_in i2 3 ∧ (zW X 0 186 19 [.ref e, z1, .int (i2 + 1)] [] S (zp C (e + 29) (Int32.toNatClampNeg i2) 0) (zQv q))) else (q C)) : zW X 0 186 19 [.ref e, z1, .int i2] [] S C (zQv q) := by
  refine zw_iload_n (n := 20) d186_19 rfl rfl ?_
  refine zw_iconst (n := 21) d186_20 rfl zk_i_3 ?_
  refine zw_ic_ge (n := 24) d186_21 rfl (zite h (fun h => ?_) (fun h => ?_))
  · skip
    refine zw_aload_n (n := 25) d186_24 rfl rfl ?_
    refine zw_getr (n := 28) d186_25 rfl (zj_5 hS).1 (zj_5 hS).2 (zr_5_17 hS) ?_
    refine zw_iload_n (n := 29) d186_28 rfl rfl ?_
    refine zw_iconst (n := 30) d186_29 rfl zk_i_0 ?_
    obtain ⟨hi, h⟩ := h
    refine zw_iast (n := 31) d186_30 rfl (za_5_17 hS).1 (za_5_17 hS).2 hi ?_
    refine zw_iinc (n := 34) d186_31 rfl rfl zk_i_1 rfl ?_
    refine zw_goto d186_34 ?_
    exact h
  · skip
    exact zw_ret d186_37 ⟨rfl, h⟩

set_option maxRecDepth 20000 in
theorem zf187 (pc : Nat) : zt_code 187 pc = zt_fd zl_187 pc := rfl
theorem d187_0 : zt_code 187 0 = some (.iload_n 1, 0, 0, 0) := (zf187 0).trans rfl
theorem d187_1 : zt_code 187 1 = some (.i2l, 0, 0, 0) := (zf187 1).trans rfl
theorem d187_2 : zt_code 187 2 = some (.lconst 0, 0, 0, 0) := (zf187 2).trans rfl
theorem d187_3 : zt_code 187 3 = some (.ldc2_w 153, 0, 0, 99) := (zf187 3).trans rfl
theorem d187_6 : zt_code 187 6 = some (.invokestatic 94, 159, 3, -1) := (zf187 6).trans rfl
theorem d187_9 : zt_code 187 9 = some (.ifCond .eq (35), 0, 44, 0) := (zf187 9).trans rfl
theorem d187_12 : zt_code 187 12 = some (.iload_n 2, 0, 0, 0) := (zf187 12).trans rfl
theorem d187_13 : zt_code 187 13 = some (.i2l, 0, 0, 0) := (zf187 13).trans rfl
theorem d187_14 : zt_code 187 14 = some (.lconst 0, 0, 0, 0) := (zf187 14).trans rfl
theorem d187_15 : zt_code 187 15 = some (.ldc2_w 153, 0, 0, 99) := (zf187 15).trans rfl
theorem d187_18 : zt_code 187 18 = some (.invokestatic 94, 159, 3, -1) := (zf187 18).trans rfl
theorem d187_21 : zt_code 187 21 = some (.ifCond .eq (23), 0, 44, 0) := (zf187 21).trans rfl
theorem d187_24 : zt_code 187 24 = some (.aload_n 0, 0, 0, 0) := (zf187 24).trans rfl
theorem d187_25 : zt_code 187 25 = some (.getfield 40, 5, 10, 0) := (zf187 25).trans rfl
theorem d187_28 : zt_code 187 28 = some (.iconst (3), 0, 0, 0) := (zf187 28).trans rfl
theorem d187_29 : zt_code 187 29 = some (.if_icmp .ne (22), 0, 51, 0) := (zf187 29).trans rfl
theorem d187_32 : zt_code 187 32 = some (.iload_n 3, 0, 0, 0) := (zf187 32).trans rfl
theorem d187_33 : zt_code 187 33 = some (.i2l, 0, 0, 0) := (zf187 33).trans rfl
theorem d187_34 : zt_code 187 34 = some (.lconst 0, 0, 0, 0) := (zf187 34).trans rfl
theorem d187_35 : zt_code 187 35 = some (.ldc2_w 153, 0, 0, 99) := (zf187 35).trans rfl
theorem d187_38 : zt_code 187 38 = some (.invokestatic 94, 159, 3, -1) := (zf187 38).trans rfl
theorem d187_41 : zt_code 187 41 = some (.ifCond .ne (10), 0, 51, 0) := (zf187 41).trans rfl
theorem d187_44 : zt_code 187 44 = some (.aload_n 0, 0, 0, 0) := (zf187 44).trans rfl
theorem d187_45 : zt_code 187 45 = some (.bipush (-2), 0, 0, 0) := (zf187 45).trans rfl
theorem d187_47 : zt_code 187 47 = some (.invokevirtual 107, 160, 2, 5) := (zf187 47).trans rfl
theorem d187_50 : zt_code 187 50 = some (.ireturn, 0, 0, 0) := (zf187 50).trans rfl
theorem d187_51 : zt_code 187 51 = some (.aload_n 0, 0, 0, 0) := (zf187 51).trans rfl
theorem d187_52 : zt_code 187 52 = some (.getfield 98, 5, 11, 0) := (zf187 52).trans rfl
theorem d187_55 : zt_code 187 55 = some (.bipush (8), 0, 0, 0) := (zf187 55).trans rfl
theorem d187_57 : zt_code 187 57 = some (.if_icmp .ne (10), 0, 67, 0) := (zf187 57).trans rfl
theorem d187_60 : zt_code 187 60 = some (.aload_n 0, 0, 0, 0) := (zf187 60).trans rfl
theorem d187_61 : zt_code 187 61 = some (.bipush (-6), 0, 0, 0) := (zf187 61).trans rfl
theorem d187_63 : zt_code 187 63 = some (.invokevirtual 107, 160, 2, 5) := (zf187 63).trans rfl
theorem d187_66 : zt_code 187 66 = some (.ireturn, 0, 0, 0) := (zf187 66).trans rfl
theorem d187_67 : zt_code 187 67 = some (.aload_n 0, 0, 0, 0) := (zf187 67).trans rfl
theorem d187_68 : zt_code 187 68 = some (.iload_n 1, 0, 0, 0) := (zf187 68).trans rfl
theorem d187_69 : zt_code 187 69 = some (.iload_n 2, 0, 0, 0) := (zf187 69).trans rfl
theorem d187_70 : zt_code 187 70 = some (.iload_n 3, 0, 0, 0) := (zf187 70).trans rfl
theorem d187_71 : zt_code 187 71 = some (.invokevirtual 155, 188, 4, 5) := (zf187 71).trans rfl
theorem d187_74 : zt_code 187 74 = some (.aload_n 0, 0, 0, 0) := (zf187 74).trans rfl
theorem d187_75 : zt_code 187 75 = some (.getfield 98, 5, 11, 0) := (zf187 75).trans rfl
theorem d187_78 : zt_code 187 78 = some (.iconst (1), 0, 0, 0) := (zf187 78).trans rfl
theorem d187_79 : zt_code 187 79 = some (.isub, 0, 0, 0) := (zf187 79).trans rfl
theorem d187_80 : zt_code 187 80 = some (.ireturn, 0, 0, 0) := (zf187 80).trans rfl
/-- FirstAtTheFirstModel.thing(III)I -/
theorem vc187 {X : zX} {S : zx_S} {C : zx_C} {q : Int32 → zx_C → Prop} {e : Nat} {a1 : Int32} {a2 : Int32} {a3 : Int32} (hS : zs_5 S e) (h : zCd X 0 159 [.long (Int32.toInt64 a1), .long 0, .long 99] S C (zQi (fun r1 C1 => if (r1 : Int32) = 0 then (zCd X 0 160 [.ref e, .int (-2)] S C1 (zQi (fun r2 C2 => q r2 C2))) else (zCd X 0 159 [.long (Int32.toInt64 a2), .long 0, .long 99] S C1 (zQi (fun r3 C3 => if (r3 : Int32) = 0 then (zCd X 0 160 [.ref e, .int (-2)] S C3 (zQi (fun r4 C4 => q r4 C4))) else (if ((C3.1 e 10) : Int32) = 3 then (zCd X 0 159 [.long (Int32.toInt64 a3), .long 0, .long 99] S C3 (zQi (fun r5 C5 => if (r5 : Int32) = 0 then (zCd X 0 160 [.ref e, .int (-2)] S C5 (zQi (fun r6 C6 => q r6 C6))) else (if ((C5.1 e 11) : Int32) = 8 then (zCd X 0 160 [.ref e, .int (-6)] S C5 (zQi (fun r7 C7 => q r7 C7))) else (zCd X 0 188 [.ref e, .int a1, .int a2, .int a3] S C5 (zQv (fun C8 => q ((C8.1 e 11) - 1) C8))))))) else (if ((C3.1 e 11) : Int32) = 8 then (zCd X 0 160 [.ref e, .int (-6)] S C3 (zQi (fun r9 C9 => q r9 C9))) else (zCd X 0 188 [.ref e, .int a1, .int a2, .int a3] S C3 (zQv (fun C10 => q ((C10.1 e 11) - 1) C10))))))))))) : zCd X 1 187 [.ref e, .int a1, .int a2, .int a3] S C (zQi q) := by
  refine zc_in ml_187 rfl ?_
  refine zw_iload_n (n := 1) d187_0 rfl rfl ?_
  refine zw_i2l (n := 2) d187_1 rfl ?_
  refine zw_lconst (n := 3) d187_2 rfl zk_c_0 ?_
  refine zw_ldc2 (n := 6) d187_3 rfl zk_l_99 ?_
  refine zw_cI (n := 9) d187_6 (zs_S rfl rfl rfl rfl) (by rw [ml_159]; rfl) (by decide) rfl (zc_mI h (fun r1 C1 h => ?_))
  refine zw_if_eq (n := 12) d187_9 rfl (zite h (fun h => ?_) (fun h => ?_))
  · skip
    refine zw_aload_n (n := 45) d187_44 rfl rfl ?_
    refine zw_bipush (n := 47) d187_45 rfl zk_b_m2 ?_
    refine zw_cI (n := 50) d187_47 (zs_V rfl rfl rfl rfl (by decide) (zj_5 hS).1 (zq_5 hS)) (by rw [ml_160]; rfl) (by decide) rfl (zc_mI h (fun r2 C2 h => ?_))
    exact zw_iret d187_50 rfl ⟨_, rfl, h⟩
  · skip
    refine zw_iload_n (n := 13) d187_12 rfl rfl ?_
    refine zw_i2l (n := 14) d187_13 rfl ?_
    refine zw_lconst (n := 15) d187_14 rfl zk_c_0 ?_
    refine zw_ldc2 (n := 18) d187_15 rfl zk_l_99 ?_
    refine zw_cI (n := 21) d187_18 (zs_S rfl rfl rfl rfl) (by rw [ml_159]; rfl) (by decide) rfl (zc_mI h (fun r3 C3 h => ?_))
    refine zw_if_eq (n := 24) d187_21 rfl (zite h (fun h => ?_) (fun h => ?_))
    · skip
      refine zw_aload_n (n := 45) d187_44 rfl rfl ?_
      refine zw_bipush (n := 47) d187_45 rfl zk_b_m2 ?_
      refine zw_cI (n := 50) d187_47 (zs_V rfl rfl rfl rfl (by decide) (zj_5 hS).1 (zq_5 hS)) (by rw [ml_160]; rfl) (by decide) rfl (zc_mI h (fun r4 C4 h => ?_))
      exact zw_iret d187_50 rfl ⟨_, rfl, h⟩
    · skip
      refine zw_aload_n (n := 25) d187_24 rfl rfl ?_
      refine zw_geti (n := 28) d187_25 rfl (zj_5 hS).1 (zj_5 hS).2 ?_
      refine zw_iconst (n := 29) d187_28 rfl zk_i_3 ?_
      refine zw_ic_ne (n := 32) d187_29 rfl (zite h (fun h => ?_) (fun h => ?_))
      · skip
        refine zw_iload_n (n := 33) d187_32 rfl rfl ?_
        refine zw_i2l (n := 34) d187_33 rfl ?_
        refine zw_lconst (n := 35) d187_34 rfl zk_c_0 ?_
        refine zw_ldc2 (n := 38) d187_35 rfl zk_l_99 ?_
        refine zw_cI (n := 41) d187_38 (zs_S rfl rfl rfl rfl) (by rw [ml_159]; rfl) (by decide) rfl (zc_mI h (fun r5 C5 h => ?_))
        refine zw_if_ne (n := 44) d187_41 rfl (zite h (fun h => ?_) (fun h => ?_))
        · skip
          refine zw_aload_n (n := 45) d187_44 rfl rfl ?_
          refine zw_bipush (n := 47) d187_45 rfl zk_b_m2 ?_
          refine zw_cI (n := 50) d187_47 (zs_V rfl rfl rfl rfl (by decide) (zj_5 hS).1 (zq_5 hS)) (by rw [ml_160]; rfl) (by decide) rfl (zc_mI h (fun r6 C6 h => ?_))
          exact zw_iret d187_50 rfl ⟨_, rfl, h⟩
        · skip
          refine zw_aload_n (n := 52) d187_51 rfl rfl ?_
          refine zw_geti (n := 55) d187_52 rfl (zj_5 hS).1 (zj_5 hS).2 ?_
          refine zw_bipush (n := 57) d187_55 rfl zk_b_8 ?_
          refine zw_ic_ne (n := 60) d187_57 rfl (zite h (fun h => ?_) (fun h => ?_))
          · skip
            refine zw_aload_n (n := 61) d187_60 rfl rfl ?_
            refine zw_bipush (n := 63) d187_61 rfl zk_b_m6 ?_
            refine zw_cI (n := 66) d187_63 (zs_V rfl rfl rfl rfl (by decide) (zj_5 hS).1 (zq_5 hS)) (by rw [ml_160]; rfl) (by decide) rfl (zc_mI h (fun r7 C7 h => ?_))
            exact zw_iret d187_66 rfl ⟨_, rfl, h⟩
          · skip
            refine zw_aload_n (n := 68) d187_67 rfl rfl ?_
            refine zw_iload_n (n := 69) d187_68 rfl rfl ?_
            refine zw_iload_n (n := 70) d187_69 rfl rfl ?_
            refine zw_iload_n (n := 71) d187_70 rfl rfl ?_
            refine zw_cV (n := 74) d187_71 (zs_V rfl rfl rfl rfl (by decide) (zj_5 hS).1 (zq_5 hS)) (by rw [ml_188]; rfl) (by decide) rfl (zc_mV h (fun C8 h => ?_))
            refine zw_aload_n (n := 75) d187_74 rfl rfl ?_
            refine zw_geti (n := 78) d187_75 rfl (zj_5 hS).1 (zj_5 hS).2 ?_
            refine zw_iconst (n := 79) d187_78 rfl zk_i_1 ?_
            refine zw_isub (n := 80) d187_79 rfl ?_
            exact zw_iret d187_80 rfl ⟨_, rfl, h⟩
      · skip
        refine zw_aload_n (n := 52) d187_51 rfl rfl ?_
        refine zw_geti (n := 55) d187_52 rfl (zj_5 hS).1 (zj_5 hS).2 ?_
        refine zw_bipush (n := 57) d187_55 rfl zk_b_8 ?_
        refine zw_ic_ne (n := 60) d187_57 rfl (zite h (fun h => ?_) (fun h => ?_))
        · skip
          refine zw_aload_n (n := 61) d187_60 rfl rfl ?_
          refine zw_bipush (n := 63) d187_61 rfl zk_b_m6 ?_
          refine zw_cI (n := 66) d187_63 (zs_V rfl rfl rfl rfl (by decide) (zj_5 hS).1 (zq_5 hS)) (by rw [ml_160]; rfl) (by decide) rfl (zc_mI h (fun r9 C9 h => ?_))
          exact zw_iret d187_66 rfl ⟨_, rfl, h⟩
        · skip
          refine zw_aload_n (n := 68) d187_67 rfl rfl ?_
          refine zw_iload_n (n := 69) d187_68 rfl rfl ?_
          refine zw_iload_n (n := 70) d187_69 rfl rfl ?_
          refine zw_iload_n (n := 71) d187_70 rfl rfl ?_
          refine zw_cV (n := 74) d187_71 (zs_V rfl rfl rfl rfl (by decide) (zj_5 hS).1 (zq_5 hS)) (by rw [ml_188]; rfl) (by decide) rfl (zc_mV h (fun C10 h => ?_))
          refine zw_aload_n (n := 75) d187_74 rfl rfl ?_
          refine zw_geti (n := 78) d187_75 rfl (zj_5 hS).1 (zj_5 hS).2 ?_
          refine zw_iconst (n := 79) d187_78 rfl zk_i_1 ?_
          refine zw_isub (n := 80) d187_79 rfl ?_
          exact zw_iret d187_80 rfl ⟨_, rfl, h⟩

set_option maxRecDepth 20000 in
theorem zf188 (pc : Nat) : zt_code 188 pc = zt_fd zl_188 pc := rfl
theorem d188_0 : zt_code 188 0 = some (.aload_n 0, 0, 0, 0) := (zf188 0).trans rfl
theorem d188_1 : zt_code 188 1 = some (.getfield 46, 5, 12, 1) := (zf188 1).trans rfl
theorem d188_4 : zt_code 188 4 = some (.aload_n 0, 0, 0, 0) := (zf188 4).trans rfl
theorem d188_5 : zt_code 188 5 = some (.getfield 98, 5, 11, 0) := (zf188 5).trans rfl
theorem d188_8 : zt_code 188 8 = some (.aaload, 0, 0, 0) := (zf188 8).trans rfl
theorem d188_9 : zt_code 188 9 = some (.iconst (0), 0, 0, 0) := (zf188 9).trans rfl
theorem d188_10 : zt_code 188 10 = some (.iload_n 1, 0, 0, 0) := (zf188 10).trans rfl
theorem d188_11 : zt_code 188 11 = some (.iastore, 0, 0, 0) := (zf188 11).trans rfl
theorem d188_12 : zt_code 188 12 = some (.aload_n 0, 0, 0, 0) := (zf188 12).trans rfl
theorem d188_13 : zt_code 188 13 = some (.getfield 46, 5, 12, 1) := (zf188 13).trans rfl
theorem d188_16 : zt_code 188 16 = some (.aload_n 0, 0, 0, 0) := (zf188 16).trans rfl
theorem d188_17 : zt_code 188 17 = some (.getfield 98, 5, 11, 0) := (zf188 17).trans rfl
theorem d188_20 : zt_code 188 20 = some (.aaload, 0, 0, 0) := (zf188 20).trans rfl
theorem d188_21 : zt_code 188 21 = some (.iconst (1), 0, 0, 0) := (zf188 21).trans rfl
theorem d188_22 : zt_code 188 22 = some (.iload_n 2, 0, 0, 0) := (zf188 22).trans rfl
theorem d188_23 : zt_code 188 23 = some (.iastore, 0, 0, 0) := (zf188 23).trans rfl
theorem d188_24 : zt_code 188 24 = some (.aload_n 0, 0, 0, 0) := (zf188 24).trans rfl
theorem d188_25 : zt_code 188 25 = some (.getfield 46, 5, 12, 1) := (zf188 25).trans rfl
theorem d188_28 : zt_code 188 28 = some (.aload_n 0, 0, 0, 0) := (zf188 28).trans rfl
theorem d188_29 : zt_code 188 29 = some (.getfield 98, 5, 11, 0) := (zf188 29).trans rfl
theorem d188_32 : zt_code 188 32 = some (.aaload, 0, 0, 0) := (zf188 32).trans rfl
theorem d188_33 : zt_code 188 33 = some (.iconst (2), 0, 0, 0) := (zf188 33).trans rfl
theorem d188_34 : zt_code 188 34 = some (.aload_n 0, 0, 0, 0) := (zf188 34).trans rfl
theorem d188_35 : zt_code 188 35 = some (.getfield 40, 5, 10, 0) := (zf188 35).trans rfl
theorem d188_38 : zt_code 188 38 = some (.iconst (3), 0, 0, 0) := (zf188 38).trans rfl
theorem d188_39 : zt_code 188 39 = some (.if_icmp .ne (7), 0, 46, 0) := (zf188 39).trans rfl
theorem d188_42 : zt_code 188 42 = some (.iload_n 3, 0, 0, 0) := (zf188 42).trans rfl
theorem d188_43 : zt_code 188 43 = some (.goto (4), 0, 47, 0) := (zf188 43).trans rfl
theorem d188_46 : zt_code 188 46 = some (.iconst (0), 0, 0, 0) := (zf188 46).trans rfl
theorem d188_47 : zt_code 188 47 = some (.iastore, 0, 0, 0) := (zf188 47).trans rfl
theorem d188_48 : zt_code 188 48 = some (.aload_n 0, 0, 0, 0) := (zf188 48).trans rfl
theorem d188_49 : zt_code 188 49 = some (.getfield 49, 5, 13, 1) := (zf188 49).trans rfl
theorem d188_52 : zt_code 188 52 = some (.aload_n 0, 0, 0, 0) := (zf188 52).trans rfl
theorem d188_53 : zt_code 188 53 = some (.getfield 98, 5, 11, 0) := (zf188 53).trans rfl
theorem d188_56 : zt_code 188 56 = some (.iconst (-1), 0, 0, 0) := (zf188 56).trans rfl
theorem d188_57 : zt_code 188 57 = some (.iastore, 0, 0, 0) := (zf188 57).trans rfl
theorem d188_58 : zt_code 188 58 = some (.aload_n 0, 0, 0, 0) := (zf188 58).trans rfl
theorem d188_59 : zt_code 188 59 = some (.dup, 0, 0, 0) := (zf188 59).trans rfl
theorem d188_60 : zt_code 188 60 = some (.getfield 98, 5, 11, 0) := (zf188 60).trans rfl
theorem d188_63 : zt_code 188 63 = some (.iconst (1), 0, 0, 0) := (zf188 63).trans rfl
theorem d188_64 : zt_code 188 64 = some (.iadd, 0, 0, 0) := (zf188 64).trans rfl
theorem d188_65 : zt_code 188 65 = some (.putfield 98, 5, 11, 0) := (zf188 65).trans rfl
theorem d188_68 : zt_code 188 68 = some (.return_, 0, 0, 0) := (zf188 68).trans rfl
/-- FirstAtTheFirstModel.addThing(III)V -/
theorem vc188 {X : zX} {S : zx_S} {C : zx_C} {q : zx_C → Prop} {e : Nat} {a1 : Int32} {a2 : Int32} {a3 : Int32} (hS : zs_5 S e) (h : vp_in (C.1 e 11) 8 ∧ (vp_in 0 3 ∧ (vp_in (Prod.fst (zp C ((e + 19) + Int32.toNatClampNeg (C.1 e 11)) (Int32.toNatClampNeg 0) a1) e 11) 8 ∧ (vp_in 1 3 ∧ (vp_in (Prod.fst (zp (zp C ((e + 19) + Int32.toNatClampNeg (C.1 e 11)) (Int32.toNatClampNeg 0) a1) ((e + 19) + Int32.toNatClampNeg (Prod.fst (zp C ((e + 19) + Int32.toNatClampNeg (C.1 e 11)) (Int32.toNatClampNeg 0) a1) e 11)) (Int32.toNatClampNeg 1) a2) e 11) 8 ∧ (if ((Prod.fst (zp (zp C ((e + 19) + Int32.toNatClampNeg (C.1 e 11)) (Int32.toNatClampNeg 0) a1) ((e + 19) + Int32.toNatClampNeg (Prod.fst (zp C ((e + 19) + Int32.toNatClampNeg (C.1 e 11)) (Int32.toNatClampNeg 0) a1) e 11)) (Int32.toNatClampNeg 1) a2) e 10) : Int32) = 3 then (vp_in 2 3 ∧ (vp_in (Prod.fst (zp (zp (zp C ((e + 19) + Int32.toNatClampNeg (C.1 e 11)) (Int32.toNatClampNeg 0) a1) ((e + 19) + Int32.toNatClampNeg (Prod.fst (zp C ((e + 19) + Int32.toNatClampNeg (C.1 e 11)) (Int32.toNatClampNeg 0) a1) e 11)) (Int32.toNatClampNeg 1) a2) ((e + 19) + Int32.toNatClampNeg (Prod.fst (zp (zp C ((e + 19) + Int32.toNatClampNeg (C.1 e 11)) (Int32.toNatClampNeg 0) a1) ((e + 19) + Int32.toNatClampNeg (Prod.fst (zp C ((e + 19) + Int32.toNatClampNeg (C.1 e 11)) (Int32.toNatClampNeg 0) a1) e 11)) (Int32.toNatClampNeg 1) a2) e 11)) (Int32.toNatClampNeg 2) a3) e 11) 8 ∧ (q (zp (zp (zp (zp (zp C ((e + 19) + Int32.toNatClampNeg (C.1 e 11)) (Int32.toNatClampNeg 0) a1) ((e + 19) + Int32.toNatClampNeg (Prod.fst (zp C ((e + 19) + Int32.toNatClampNeg (C.1 e 11)) (Int32.toNatClampNeg 0) a1) e 11)) (Int32.toNatClampNeg 1) a2) ((e + 19) + Int32.toNatClampNeg (Prod.fst (zp (zp C ((e + 19) + Int32.toNatClampNeg (C.1 e 11)) (Int32.toNatClampNeg 0) a1) ((e + 19) + Int32.toNatClampNeg (Prod.fst (zp C ((e + 19) + Int32.toNatClampNeg (C.1 e 11)) (Int32.toNatClampNeg 0) a1) e 11)) (Int32.toNatClampNeg 1) a2) e 11)) (Int32.toNatClampNeg 2) a3) (e + 27) (Int32.toNatClampNeg (Prod.fst (zp (zp (zp C ((e + 19) + Int32.toNatClampNeg (C.1 e 11)) (Int32.toNatClampNeg 0) a1) ((e + 19) + Int32.toNatClampNeg (Prod.fst (zp C ((e + 19) + Int32.toNatClampNeg (C.1 e 11)) (Int32.toNatClampNeg 0) a1) e 11)) (Int32.toNatClampNeg 1) a2) ((e + 19) + Int32.toNatClampNeg (Prod.fst (zp (zp C ((e + 19) + Int32.toNatClampNeg (C.1 e 11)) (Int32.toNatClampNeg 0) a1) ((e + 19) + Int32.toNatClampNeg (Prod.fst (zp C ((e + 19) + Int32.toNatClampNeg (C.1 e 11)) (Int32.toNatClampNeg 0) a1) e 11)) (Int32.toNatClampNeg 1) a2) e 11)) (Int32.toNatClampNeg 2) a3) e 11)) (-1)) e 11 ((Prod.fst (zp (zp (zp (zp C ((e + 19) + Int32.toNatClampNeg (C.1 e 11)) (Int32.toNatClampNeg 0) a1) ((e + 19) + Int32.toNatClampNeg (Prod.fst (zp C ((e + 19) + Int32.toNatClampNeg (C.1 e 11)) (Int32.toNatClampNeg 0) a1) e 11)) (Int32.toNatClampNeg 1) a2) ((e + 19) + Int32.toNatClampNeg (Prod.fst (zp (zp C ((e + 19) + Int32.toNatClampNeg (C.1 e 11)) (Int32.toNatClampNeg 0) a1) ((e + 19) + Int32.toNatClampNeg (Prod.fst (zp C ((e + 19) + Int32.toNatClampNeg (C.1 e 11)) (Int32.toNatClampNeg 0) a1) e 11)) (Int32.toNatClampNeg 1) a2) e 11)) (Int32.toNatClampNeg 2) a3) (e + 27) (Int32.toNatClampNeg (Prod.fst (zp (zp (zp C ((e + 19) + Int32.toNatClampNeg (C.1 e 11)) (Int32.toNatClampNeg 0) a1) ((e + 19) + Int32.toNatClampNeg (Prod.fst (zp C ((e + 19) + Int32.toNatClampNeg (C.1 e 11)) (Int32.toNatClampNeg 0) a1) e 11)) (Int32.toNatClampNeg 1) a2) ((e + 19) + Int32.toNatClampNeg (Prod.fst (zp (zp C ((e + 19) + Int32.toNatClampNeg (C.1 e 11)) (Int32.toNatClampNeg 0) a1) ((e + 19) + Int32.toNatClampNeg (Prod.fst (zp C ((e + 19) + Int32.toNatClampNeg (C.1 e 11)) (Int32.toNatClampNeg 0) a1) e 11)) (Int32.toNatClampNeg 1) a2) e 11)) (Int32.toNatClampNeg 2) a3) e 11)) (-1)) e 11) + 1))))) else (vp_in 2 3 ∧ (vp_in (Prod.fst (zp (zp (zp C ((e + 19) + Int32.toNatClampNeg (C.1 e 11)) (Int32.toNatClampNeg 0) a1) ((e + 19) + Int32.toNatClampNeg (Prod.fst (zp C ((e + 19) + Int32.toNatClampNeg (C.1 e 11)) (Int32.toNatClampNeg 0) a1) e 11)) (Int32.toNatClampNeg 1) a2) ((e + 19) + Int32.toNatClampNeg (Prod.fst (zp (zp C ((e + 19) + Int32.toNatClampNeg (C.1 e 11)) (Int32.toNatClampNeg 0) a1) ((e + 19) + Int32.toNatClampNeg (Prod.fst (zp C ((e + 19) + Int32.toNatClampNeg (C.1 e 11)) (Int32.toNatClampNeg 0) a1) e 11)) (Int32.toNatClampNeg 1) a2) e 11)) (Int32.toNatClampNeg 2) 0) e 11) 8 ∧ (q (zp (zp (zp (zp (zp C ((e + 19) + Int32.toNatClampNeg (C.1 e 11)) (Int32.toNatClampNeg 0) a1) ((e + 19) + Int32.toNatClampNeg (Prod.fst (zp C ((e + 19) + Int32.toNatClampNeg (C.1 e 11)) (Int32.toNatClampNeg 0) a1) e 11)) (Int32.toNatClampNeg 1) a2) ((e + 19) + Int32.toNatClampNeg (Prod.fst (zp (zp C ((e + 19) + Int32.toNatClampNeg (C.1 e 11)) (Int32.toNatClampNeg 0) a1) ((e + 19) + Int32.toNatClampNeg (Prod.fst (zp C ((e + 19) + Int32.toNatClampNeg (C.1 e 11)) (Int32.toNatClampNeg 0) a1) e 11)) (Int32.toNatClampNeg 1) a2) e 11)) (Int32.toNatClampNeg 2) 0) (e + 27) (Int32.toNatClampNeg (Prod.fst (zp (zp (zp C ((e + 19) + Int32.toNatClampNeg (C.1 e 11)) (Int32.toNatClampNeg 0) a1) ((e + 19) + Int32.toNatClampNeg (Prod.fst (zp C ((e + 19) + Int32.toNatClampNeg (C.1 e 11)) (Int32.toNatClampNeg 0) a1) e 11)) (Int32.toNatClampNeg 1) a2) ((e + 19) + Int32.toNatClampNeg (Prod.fst (zp (zp C ((e + 19) + Int32.toNatClampNeg (C.1 e 11)) (Int32.toNatClampNeg 0) a1) ((e + 19) + Int32.toNatClampNeg (Prod.fst (zp C ((e + 19) + Int32.toNatClampNeg (C.1 e 11)) (Int32.toNatClampNeg 0) a1) e 11)) (Int32.toNatClampNeg 1) a2) e 11)) (Int32.toNatClampNeg 2) 0) e 11)) (-1)) e 11 ((Prod.fst (zp (zp (zp (zp C ((e + 19) + Int32.toNatClampNeg (C.1 e 11)) (Int32.toNatClampNeg 0) a1) ((e + 19) + Int32.toNatClampNeg (Prod.fst (zp C ((e + 19) + Int32.toNatClampNeg (C.1 e 11)) (Int32.toNatClampNeg 0) a1) e 11)) (Int32.toNatClampNeg 1) a2) ((e + 19) + Int32.toNatClampNeg (Prod.fst (zp (zp C ((e + 19) + Int32.toNatClampNeg (C.1 e 11)) (Int32.toNatClampNeg 0) a1) ((e + 19) + Int32.toNatClampNeg (Prod.fst (zp C ((e + 19) + Int32.toNatClampNeg (C.1 e 11)) (Int32.toNatClampNeg 0) a1) e 11)) (Int32.toNatClampNeg 1) a2) e 11)) (Int32.toNatClampNeg 2) 0) (e + 27) (Int32.toNatClampNeg (Prod.fst (zp (zp (zp C ((e + 19) + Int32.toNatClampNeg (C.1 e 11)) (Int32.toNatClampNeg 0) a1) ((e + 19) + Int32.toNatClampNeg (Prod.fst (zp C ((e + 19) + Int32.toNatClampNeg (C.1 e 11)) (Int32.toNatClampNeg 0) a1) e 11)) (Int32.toNatClampNeg 1) a2) ((e + 19) + Int32.toNatClampNeg (Prod.fst (zp (zp C ((e + 19) + Int32.toNatClampNeg (C.1 e 11)) (Int32.toNatClampNeg 0) a1) ((e + 19) + Int32.toNatClampNeg (Prod.fst (zp C ((e + 19) + Int32.toNatClampNeg (C.1 e 11)) (Int32.toNatClampNeg 0) a1) e 11)) (Int32.toNatClampNeg 1) a2) e 11)) (Int32.toNatClampNeg 2) 0) e 11)) (-1)) e 11) + 1))))))))))) : zCd X 0 188 [.ref e, .int a1, .int a2, .int a3] S C (zQv q) := by
  refine zc_in ml_188 rfl ?_
  refine zw_aload_n (n := 1) d188_0 rfl rfl ?_
  refine zw_getr (n := 4) d188_1 rfl (zj_5 hS).1 (zj_5 hS).2 (zr_5_12 hS) ?_
  refine zw_aload_n (n := 5) d188_4 rfl rfl ?_
  refine zw_geti (n := 8) d188_5 rfl (zj_5 hS).1 (zj_5 hS).2 ?_
  obtain ⟨hi, h⟩ := h
  have hb1 := zb_5_12 hS (vp_lt hi)
  refine zw_aald (n := 9) d188_8 rfl (za_5_12 hS).1 (za_5_12 hS).2 (by decide) hi hb1.1 ?_
  refine zw_iconst (n := 10) d188_9 rfl zk_i_0 ?_
  refine zw_iload_n (n := 11) d188_10 rfl rfl ?_
  obtain ⟨hi, h⟩ := h
  refine zw_iast (n := 12) d188_11 rfl hb1.2.1 hb1.2.2 hi ?_
  refine zw_aload_n (n := 13) d188_12 rfl rfl ?_
  refine zw_getr (n := 16) d188_13 rfl (zj_5 hS).1 (zj_5 hS).2 (zr_5_12 hS) ?_
  refine zw_aload_n (n := 17) d188_16 rfl rfl ?_
  refine zw_geti (n := 20) d188_17 rfl (zj_5 hS).1 (zj_5 hS).2 ?_
  obtain ⟨hi, h⟩ := h
  have hb2 := zb_5_12 hS (vp_lt hi)
  refine zw_aald (n := 21) d188_20 rfl (za_5_12 hS).1 (za_5_12 hS).2 (by decide) hi hb2.1 ?_
  refine zw_iconst (n := 22) d188_21 rfl zk_i_1 ?_
  refine zw_iload_n (n := 23) d188_22 rfl rfl ?_
  obtain ⟨hi, h⟩ := h
  refine zw_iast (n := 24) d188_23 rfl hb2.2.1 hb2.2.2 hi ?_
  refine zw_aload_n (n := 25) d188_24 rfl rfl ?_
  refine zw_getr (n := 28) d188_25 rfl (zj_5 hS).1 (zj_5 hS).2 (zr_5_12 hS) ?_
  refine zw_aload_n (n := 29) d188_28 rfl rfl ?_
  refine zw_geti (n := 32) d188_29 rfl (zj_5 hS).1 (zj_5 hS).2 ?_
  obtain ⟨hi, h⟩ := h
  have hb3 := zb_5_12 hS (vp_lt hi)
  refine zw_aald (n := 33) d188_32 rfl (za_5_12 hS).1 (za_5_12 hS).2 (by decide) hi hb3.1 ?_
  refine zw_iconst (n := 34) d188_33 rfl zk_i_2 ?_
  refine zw_aload_n (n := 35) d188_34 rfl rfl ?_
  refine zw_geti (n := 38) d188_35 rfl (zj_5 hS).1 (zj_5 hS).2 ?_
  refine zw_iconst (n := 39) d188_38 rfl zk_i_3 ?_
  refine zw_ic_ne (n := 42) d188_39 rfl (zite h (fun h => ?_) (fun h => ?_))
  · skip
    refine zw_iload_n (n := 43) d188_42 rfl rfl ?_
    refine zw_goto d188_43 ?_
    obtain ⟨hi, h⟩ := h
    refine zw_iast (n := 48) d188_47 rfl hb3.2.1 hb3.2.2 hi ?_
    refine zw_aload_n (n := 49) d188_48 rfl rfl ?_
    refine zw_getr (n := 52) d188_49 rfl (zj_5 hS).1 (zj_5 hS).2 (zr_5_13 hS) ?_
    refine zw_aload_n (n := 53) d188_52 rfl rfl ?_
    refine zw_geti (n := 56) d188_53 rfl (zj_5 hS).1 (zj_5 hS).2 ?_
    refine zw_iconst (n := 57) d188_56 rfl zk_i_m1 ?_
    obtain ⟨hi, h⟩ := h
    refine zw_iast (n := 58) d188_57 rfl (za_5_13 hS).1 (za_5_13 hS).2 hi ?_
    refine zw_aload_n (n := 59) d188_58 rfl rfl ?_
    refine zw_dup (n := 60) d188_59 rfl rfl ?_
    refine zw_geti (n := 63) d188_60 rfl (zj_5 hS).1 (zj_5 hS).2 ?_
    refine zw_iconst (n := 64) d188_63 rfl zk_i_1 ?_
    refine zw_iadd (n := 65) d188_64 rfl ?_
    refine zw_puti (n := 68) d188_65 rfl (zj_5 hS).1 (zj_5 hS).2 ?_
    exact zw_ret d188_68 ⟨rfl, h⟩
  · skip
    refine zw_iconst (n := 47) d188_46 rfl zk_i_0 ?_
    obtain ⟨hi, h⟩ := h
    refine zw_iast (n := 48) d188_47 rfl hb3.2.1 hb3.2.2 hi ?_
    refine zw_aload_n (n := 49) d188_48 rfl rfl ?_
    refine zw_getr (n := 52) d188_49 rfl (zj_5 hS).1 (zj_5 hS).2 (zr_5_13 hS) ?_
    refine zw_aload_n (n := 53) d188_52 rfl rfl ?_
    refine zw_geti (n := 56) d188_53 rfl (zj_5 hS).1 (zj_5 hS).2 ?_
    refine zw_iconst (n := 57) d188_56 rfl zk_i_m1 ?_
    obtain ⟨hi, h⟩ := h
    refine zw_iast (n := 58) d188_57 rfl (za_5_13 hS).1 (za_5_13 hS).2 hi ?_
    refine zw_aload_n (n := 59) d188_58 rfl rfl ?_
    refine zw_dup (n := 60) d188_59 rfl rfl ?_
    refine zw_geti (n := 63) d188_60 rfl (zj_5 hS).1 (zj_5 hS).2 ?_
    refine zw_iconst (n := 64) d188_63 rfl zk_i_1 ?_
    refine zw_iadd (n := 65) d188_64 rfl ?_
    refine zw_puti (n := 68) d188_65 rfl (zj_5 hS).1 (zj_5 hS).2 ?_
    exact zw_ret d188_68 ⟨rfl, h⟩

set_option maxRecDepth 20000 in
theorem zf189 (pc : Nat) : zt_code 189 pc = zt_fd zl_189 pc := rfl
theorem d189_0 : zt_code 189 0 = some (.aload_n 0, 0, 0, 0) := (zf189 0).trans rfl
theorem d189_1 : zt_code 189 1 = some (.iload_n 1, 0, 0, 0) := (zf189 1).trans rfl
theorem d189_2 : zt_code 189 2 = some (.invokevirtual 118, 168, 2, 5) := (zf189 2).trans rfl
theorem d189_5 : zt_code 189 5 = some (.ifCond .eq (23), 0, 28, 0) := (zf189 5).trans rfl
theorem d189_8 : zt_code 189 8 = some (.aload_n 0, 0, 0, 0) := (zf189 8).trans rfl
theorem d189_9 : zt_code 189 9 = some (.iload_n 2, 0, 0, 0) := (zf189 9).trans rfl
theorem d189_10 : zt_code 189 10 = some (.invokevirtual 159, 190, 2, 5) := (zf189 10).trans rfl
theorem d189_13 : zt_code 189 13 = some (.ifCond .eq (15), 0, 28, 0) := (zf189 13).trans rfl
theorem d189_16 : zt_code 189 16 = some (.iload_n 3, 0, 0, 0) := (zf189 16).trans rfl
theorem d189_17 : zt_code 189 17 = some (.i2l, 0, 0, 0) := (zf189 17).trans rfl
theorem d189_18 : zt_code 189 18 = some (.lconst 0, 0, 0, 0) := (zf189 18).trans rfl
theorem d189_19 : zt_code 189 19 = some (.ldc2_w 153, 0, 0, 99) := (zf189 19).trans rfl
theorem d189_22 : zt_code 189 22 = some (.invokestatic 94, 159, 3, -1) := (zf189 22).trans rfl
theorem d189_25 : zt_code 189 25 = some (.ifCond .ne (10), 0, 35, 0) := (zf189 25).trans rfl
theorem d189_28 : zt_code 189 28 = some (.aload_n 0, 0, 0, 0) := (zf189 28).trans rfl
theorem d189_29 : zt_code 189 29 = some (.bipush (-2), 0, 0, 0) := (zf189 29).trans rfl
theorem d189_31 : zt_code 189 31 = some (.invokevirtual 107, 160, 2, 5) := (zf189 31).trans rfl
theorem d189_34 : zt_code 189 34 = some (.ireturn, 0, 0, 0) := (zf189 34).trans rfl
theorem d189_35 : zt_code 189 35 = some (.aload_n 0, 0, 0, 0) := (zf189 35).trans rfl
theorem d189_36 : zt_code 189 36 = some (.getfield 46, 5, 12, 1) := (zf189 36).trans rfl
theorem d189_39 : zt_code 189 39 = some (.iload_n 2, 0, 0, 0) := (zf189 39).trans rfl
theorem d189_40 : zt_code 189 40 = some (.aaload, 0, 0, 0) := (zf189 40).trans rfl
theorem d189_41 : zt_code 189 41 = some (.iload_n 1, 0, 0, 0) := (zf189 41).trans rfl
theorem d189_42 : zt_code 189 42 = some (.iaload, 0, 0, 0) := (zf189 42).trans rfl
theorem d189_43 : zt_code 189 43 = some (.istore 4, 0, 0, 0) := (zf189 43).trans rfl
theorem d189_45 : zt_code 189 45 = some (.aload_n 0, 0, 0, 0) := (zf189 45).trans rfl
theorem d189_46 : zt_code 189 46 = some (.getfield 46, 5, 12, 1) := (zf189 46).trans rfl
theorem d189_49 : zt_code 189 49 = some (.iload_n 2, 0, 0, 0) := (zf189 49).trans rfl
theorem d189_50 : zt_code 189 50 = some (.aaload, 0, 0, 0) := (zf189 50).trans rfl
theorem d189_51 : zt_code 189 51 = some (.iload_n 1, 0, 0, 0) := (zf189 51).trans rfl
theorem d189_52 : zt_code 189 52 = some (.iload_n 3, 0, 0, 0) := (zf189 52).trans rfl
theorem d189_53 : zt_code 189 53 = some (.iastore, 0, 0, 0) := (zf189 53).trans rfl
theorem d189_54 : zt_code 189 54 = some (.iload 4, 0, 0, 0) := (zf189 54).trans rfl
theorem d189_56 : zt_code 189 56 = some (.ireturn, 0, 0, 0) := (zf189 56).trans rfl
/-- FirstAtTheFirstModel.worth(III)I -/
theorem vc189 {X : zX} {S : zx_S} {C : zx_C} {q : Int32 → zx_C → Prop} {e : Nat} {a1 : Int32} {a2 : Int32} {a3 : Int32} (hS : zs_5 S e) (h : zCd X 1 168 [.ref e, .int a1] S C (zQi (fun r1 C1 => if (r1 : Int32) = 0 then (zCd X 0 160 [.ref e, .int (-2)] S C1 (zQi (fun r2 C2 => q r2 C2))) else (zCd X 1 190 [.ref e, .int a2] S C1 (zQi (fun r3 C3 => if (r3 : Int32) = 0 then (zCd X 0 160 [.ref e, .int (-2)] S C3 (zQi (fun r4 C4 => q r4 C4))) else (zCd X 0 159 [.long (Int32.toInt64 a3), .long 0, .long 99] S C3 (zQi (fun r5 C5 => if (r5 : Int32) = 0 then (zCd X 0 160 [.ref e, .int (-2)] S C5 (zQi (fun r6 C6 => q r6 C6))) else (vp_in a2 8 ∧ (vp_in a1 3 ∧ (vp_in a2 8 ∧ (vp_in a1 3 ∧ (q (C5.1 ((e + 19) + Int32.toNatClampNeg a2) (Int32.toNatClampNeg a1)) (zp C5 ((e + 19) + Int32.toNatClampNeg a2) (Int32.toNatClampNeg a1) a3))))))))))))))) : zCd X 2 189 [.ref e, .int a1, .int a2, .int a3] S C (zQi q) := by
  refine zc_in ml_189 rfl ?_
  refine zw_aload_n (n := 1) d189_0 rfl rfl ?_
  refine zw_iload_n (n := 2) d189_1 rfl rfl ?_
  refine zw_cI (n := 5) d189_2 (zs_V rfl rfl rfl rfl (by decide) (zj_5 hS).1 (zq_5 hS)) (by rw [ml_168]; rfl) (by decide) rfl (zc_mI h (fun r1 C1 h => ?_))
  refine zw_if_eq (n := 8) d189_5 rfl (zite h (fun h => ?_) (fun h => ?_))
  · skip
    refine zw_aload_n (n := 29) d189_28 rfl rfl ?_
    refine zw_bipush (n := 31) d189_29 rfl zk_b_m2 ?_
    refine zw_cI (n := 34) d189_31 (zs_V rfl rfl rfl rfl (by decide) (zj_5 hS).1 (zq_5 hS)) (by rw [ml_160]; rfl) (by decide) rfl (zc_mI h (fun r2 C2 h => ?_))
    exact zw_iret d189_34 rfl ⟨_, rfl, h⟩
  · skip
    refine zw_aload_n (n := 9) d189_8 rfl rfl ?_
    refine zw_iload_n (n := 10) d189_9 rfl rfl ?_
    refine zw_cI (n := 13) d189_10 (zs_V rfl rfl rfl rfl (by decide) (zj_5 hS).1 (zq_5 hS)) (by rw [ml_190]; rfl) (by decide) rfl (zc_mI h (fun r3 C3 h => ?_))
    refine zw_if_eq (n := 16) d189_13 rfl (zite h (fun h => ?_) (fun h => ?_))
    · skip
      refine zw_aload_n (n := 29) d189_28 rfl rfl ?_
      refine zw_bipush (n := 31) d189_29 rfl zk_b_m2 ?_
      refine zw_cI (n := 34) d189_31 (zs_V rfl rfl rfl rfl (by decide) (zj_5 hS).1 (zq_5 hS)) (by rw [ml_160]; rfl) (by decide) rfl (zc_mI h (fun r4 C4 h => ?_))
      exact zw_iret d189_34 rfl ⟨_, rfl, h⟩
    · skip
      refine zw_iload_n (n := 17) d189_16 rfl rfl ?_
      refine zw_i2l (n := 18) d189_17 rfl ?_
      refine zw_lconst (n := 19) d189_18 rfl zk_c_0 ?_
      refine zw_ldc2 (n := 22) d189_19 rfl zk_l_99 ?_
      refine zw_cI (n := 25) d189_22 (zs_S rfl rfl rfl rfl) (by rw [ml_159]; rfl) (by decide) rfl (zc_mI h (fun r5 C5 h => ?_))
      refine zw_if_ne (n := 28) d189_25 rfl (zite h (fun h => ?_) (fun h => ?_))
      · skip
        refine zw_aload_n (n := 29) d189_28 rfl rfl ?_
        refine zw_bipush (n := 31) d189_29 rfl zk_b_m2 ?_
        refine zw_cI (n := 34) d189_31 (zs_V rfl rfl rfl rfl (by decide) (zj_5 hS).1 (zq_5 hS)) (by rw [ml_160]; rfl) (by decide) rfl (zc_mI h (fun r6 C6 h => ?_))
        exact zw_iret d189_34 rfl ⟨_, rfl, h⟩
      · skip
        refine zw_aload_n (n := 36) d189_35 rfl rfl ?_
        refine zw_getr (n := 39) d189_36 rfl (zj_5 hS).1 (zj_5 hS).2 (zr_5_12 hS) ?_
        refine zw_iload_n (n := 40) d189_39 rfl rfl ?_
        obtain ⟨hi, h⟩ := h
        have hb7 := zb_5_12 hS (vp_lt hi)
        refine zw_aald (n := 41) d189_40 rfl (za_5_12 hS).1 (za_5_12 hS).2 (by decide) hi hb7.1 ?_
        refine zw_iload_n (n := 42) d189_41 rfl rfl ?_
        obtain ⟨hi, h⟩ := h
        refine zw_iald (n := 43) d189_42 rfl hb7.2.1 hb7.2.2 hi ?_
        refine zw_istore (n := 45) d189_43 rfl rfl rfl ?_
        refine zw_aload_n (n := 46) d189_45 rfl rfl ?_
        refine zw_getr (n := 49) d189_46 rfl (zj_5 hS).1 (zj_5 hS).2 (zr_5_12 hS) ?_
        refine zw_iload_n (n := 50) d189_49 rfl rfl ?_
        obtain ⟨hi, h⟩ := h
        have hb8 := zb_5_12 hS (vp_lt hi)
        refine zw_aald (n := 51) d189_50 rfl (za_5_12 hS).1 (za_5_12 hS).2 (by decide) hi hb8.1 ?_
        refine zw_iload_n (n := 52) d189_51 rfl rfl ?_
        refine zw_iload_n (n := 53) d189_52 rfl rfl ?_
        obtain ⟨hi, h⟩ := h
        refine zw_iast (n := 54) d189_53 rfl hb8.2.1 hb8.2.2 hi ?_
        refine zw_iload (n := 56) d189_54 rfl rfl ?_
        exact zw_iret d189_56 rfl ⟨_, rfl, h⟩

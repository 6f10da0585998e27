set_option maxRecDepth 20000 in
theorem zf190 (pc : Nat) : zt_code 190 pc = zt_fd zl_190 pc := rfl
theorem d190_0 : zt_code 190 0 = some (.iload_n 1, 0, 0, 0) := (zf190 0).trans rfl
theorem d190_1 : zt_code 190 1 = some (.i2l, 0, 0, 0) := (zf190 1).trans rfl
theorem d190_2 : zt_code 190 2 = some (.lconst 0, 0, 0, 0) := (zf190 2).trans rfl
theorem d190_3 : zt_code 190 3 = some (.aload_n 0, 0, 0, 0) := (zf190 3).trans rfl
theorem d190_4 : zt_code 190 4 = some (.getfield 98, 5, 11, 0) := (zf190 4).trans rfl
theorem d190_7 : zt_code 190 7 = some (.iconst (1), 0, 0, 0) := (zf190 7).trans rfl
theorem d190_8 : zt_code 190 8 = some (.isub, 0, 0, 0) := (zf190 8).trans rfl
theorem d190_9 : zt_code 190 9 = some (.i2l, 0, 0, 0) := (zf190 9).trans rfl
theorem d190_10 : zt_code 190 10 = some (.invokestatic 94, 159, 3, -1) := (zf190 10).trans rfl
theorem d190_13 : zt_code 190 13 = some (.ireturn, 1, 0, 0) := (zf190 13).trans rfl
/-- FirstAtTheFirstModel.isThing(I)Z -/
theorem vc190 {X : zX} {S : zx_S} {C : zx_C} {q : Int32 → zx_C → Prop} {e : Nat} {a1 : Int32} (hS : zs_5 S e) (h : zCd X 0 159 [.long (Int32.toInt64 a1), .long 0, .long (Int32.toInt64 ((C.1 e 11) - 1))] S C (zQi (fun r1 C1 => (r1 = 0 ∨ r1 = 1) ∧ (q r1 C1)))) : zCd X 1 190 [.ref e, .int a1] S C (zQi q) := by
  refine zc_in ml_190 rfl ?_
  refine zw_iload_n (n := 1) d190_0 rfl rfl ?_
  refine zw_i2l (n := 2) d190_1 rfl ?_
  refine zw_lconst (n := 3) d190_2 rfl zk_c_0 ?_
  refine zw_aload_n (n := 4) d190_3 rfl rfl ?_
  refine zw_geti (n := 7) d190_4 rfl (zj_5 hS).1 (zj_5 hS).2 ?_
  refine zw_iconst (n := 8) d190_7 rfl zk_i_1 ?_
  refine zw_isub (n := 9) d190_8 rfl ?_
  refine zw_i2l (n := 10) d190_9 rfl ?_
  refine zw_cI (n := 13) d190_10 (zs_S rfl rfl rfl rfl) (by rw [ml_159]; rfl) (by decide) rfl (zc_mI h (fun r1 C1 h => ?_))
  obtain ⟨hb, h⟩ := h
  exact zw_iret d190_13 (zx_rb1 hb) ⟨_, rfl, h⟩

set_option maxRecDepth 20000 in
theorem zf191 (pc : Nat) : zt_code 191 pc = zt_fd zl_191 pc := rfl
theorem d191_0 : zt_code 191 0 = some (.aload_n 0, 0, 0, 0) := (zf191 0).trans rfl
theorem d191_1 : zt_code 191 1 = some (.iload_n 1, 0, 0, 0) := (zf191 1).trans rfl
theorem d191_2 : zt_code 191 2 = some (.invokevirtual 118, 168, 2, 5) := (zf191 2).trans rfl
theorem d191_5 : zt_code 191 5 = some (.ifCond .eq (15), 0, 20, 0) := (zf191 5).trans rfl
theorem d191_8 : zt_code 191 8 = some (.iload_n 2, 0, 0, 0) := (zf191 8).trans rfl
theorem d191_9 : zt_code 191 9 = some (.i2l, 0, 0, 0) := (zf191 9).trans rfl
theorem d191_10 : zt_code 191 10 = some (.lconst 0, 0, 0, 0) := (zf191 10).trans rfl
theorem d191_11 : zt_code 191 11 = some (.ldc2_w 122, 0, 0, 5) := (zf191 11).trans rfl
theorem d191_14 : zt_code 191 14 = some (.invokestatic 94, 159, 3, -1) := (zf191 14).trans rfl
theorem d191_17 : zt_code 191 17 = some (.ifCond .ne (10), 0, 27, 0) := (zf191 17).trans rfl
theorem d191_20 : zt_code 191 20 = some (.aload_n 0, 0, 0, 0) := (zf191 20).trans rfl
theorem d191_21 : zt_code 191 21 = some (.bipush (-2), 0, 0, 0) := (zf191 21).trans rfl
theorem d191_23 : zt_code 191 23 = some (.invokevirtual 107, 160, 2, 5) := (zf191 23).trans rfl
theorem d191_26 : zt_code 191 26 = some (.ireturn, 0, 0, 0) := (zf191 26).trans rfl
theorem d191_27 : zt_code 191 27 = some (.aload_n 0, 0, 0, 0) := (zf191 27).trans rfl
theorem d191_28 : zt_code 191 28 = some (.getfield 58, 5, 17, 1) := (zf191 28).trans rfl
theorem d191_31 : zt_code 191 31 = some (.iload_n 1, 0, 0, 0) := (zf191 31).trans rfl
theorem d191_32 : zt_code 191 32 = some (.iaload, 0, 0, 0) := (zf191 32).trans rfl
theorem d191_33 : zt_code 191 33 = some (.istore_n 3, 0, 0, 0) := (zf191 33).trans rfl
theorem d191_34 : zt_code 191 34 = some (.aload_n 0, 0, 0, 0) := (zf191 34).trans rfl
theorem d191_35 : zt_code 191 35 = some (.getfield 58, 5, 17, 1) := (zf191 35).trans rfl
theorem d191_38 : zt_code 191 38 = some (.iload_n 1, 0, 0, 0) := (zf191 38).trans rfl
theorem d191_39 : zt_code 191 39 = some (.iload_n 2, 0, 0, 0) := (zf191 39).trans rfl
theorem d191_40 : zt_code 191 40 = some (.iastore, 0, 0, 0) := (zf191 40).trans rfl
theorem d191_41 : zt_code 191 41 = some (.iload_n 3, 0, 0, 0) := (zf191 41).trans rfl
theorem d191_42 : zt_code 191 42 = some (.ireturn, 0, 0, 0) := (zf191 42).trans rfl
/-- FirstAtTheFirstModel.bent(II)I -/
theorem vc191 {X : zX} {S : zx_S} {C : zx_C} {q : Int32 → zx_C → Prop} {e : Nat} {a1 : Int32} {a2 : Int32} (hS : zs_5 S e) (h : zCd X 1 168 [.ref e, .int a1] S C (zQi (fun r1 C1 => if (r1 : Int32) = 0 then (zCd X 0 160 [.ref e, .int (-2)] S C1 (zQi (fun r2 C2 => q r2 C2))) else (zCd X 0 159 [.long (Int32.toInt64 a2), .long 0, .long 5] S C1 (zQi (fun r3 C3 => if (r3 : Int32) = 0 then (zCd X 0 160 [.ref e, .int (-2)] S C3 (zQi (fun r4 C4 => q r4 C4))) else (vp_in a1 3 ∧ (vp_in a1 3 ∧ (q (C3.1 (e + 29) (Int32.toNatClampNeg a1)) (zp C3 (e + 29) (Int32.toNatClampNeg a1) a2)))))))))) : zCd X 2 191 [.ref e, .int a1, .int a2] S C (zQi q) := by
  refine zc_in ml_191 rfl ?_
  refine zw_aload_n (n := 1) d191_0 rfl rfl ?_
  refine zw_iload_n (n := 2) d191_1 rfl rfl ?_
  refine zw_cI (n := 5) d191_2 (zs_V rfl rfl rfl rfl (by decide) (zj_5 hS).1 (zq_5 hS)) (by rw [ml_168]; rfl) (by decide) rfl (zc_mI h (fun r1 C1 h => ?_))
  refine zw_if_eq (n := 8) d191_5 rfl (zite h (fun h => ?_) (fun h => ?_))
  · skip
    refine zw_aload_n (n := 21) d191_20 rfl rfl ?_
    refine zw_bipush (n := 23) d191_21 rfl zk_b_m2 ?_
    refine zw_cI (n := 26) d191_23 (zs_V rfl rfl rfl rfl (by decide) (zj_5 hS).1 (zq_5 hS)) (by rw [ml_160]; rfl) (by decide) rfl (zc_mI h (fun r2 C2 h => ?_))
    exact zw_iret d191_26 rfl ⟨_, rfl, h⟩
  · skip
    refine zw_iload_n (n := 9) d191_8 rfl rfl ?_
    refine zw_i2l (n := 10) d191_9 rfl ?_
    refine zw_lconst (n := 11) d191_10 rfl zk_c_0 ?_
    refine zw_ldc2 (n := 14) d191_11 rfl zk_l_5 ?_
    refine zw_cI (n := 17) d191_14 (zs_S rfl rfl rfl rfl) (by rw [ml_159]; rfl) (by decide) rfl (zc_mI h (fun r3 C3 h => ?_))
    refine zw_if_ne (n := 20) d191_17 rfl (zite h (fun h => ?_) (fun h => ?_))
    · skip
      refine zw_aload_n (n := 21) d191_20 rfl rfl ?_
      refine zw_bipush (n := 23) d191_21 rfl zk_b_m2 ?_
      refine zw_cI (n := 26) d191_23 (zs_V rfl rfl rfl rfl (by decide) (zj_5 hS).1 (zq_5 hS)) (by rw [ml_160]; rfl) (by decide) rfl (zc_mI h (fun r4 C4 h => ?_))
      exact zw_iret d191_26 rfl ⟨_, rfl, h⟩
    · skip
      refine zw_aload_n (n := 28) d191_27 rfl rfl ?_
      refine zw_getr (n := 31) d191_28 rfl (zj_5 hS).1 (zj_5 hS).2 (zr_5_17 hS) ?_
      refine zw_iload_n (n := 32) d191_31 rfl rfl ?_
      obtain ⟨hi, h⟩ := h
      refine zw_iald (n := 33) d191_32 rfl (za_5_17 hS).1 (za_5_17 hS).2 hi ?_
      refine zw_istore_n (n := 34) d191_33 rfl rfl rfl ?_
      refine zw_aload_n (n := 35) d191_34 rfl rfl ?_
      refine zw_getr (n := 38) d191_35 rfl (zj_5 hS).1 (zj_5 hS).2 (zr_5_17 hS) ?_
      refine zw_iload_n (n := 39) d191_38 rfl rfl ?_
      refine zw_iload_n (n := 40) d191_39 rfl rfl ?_
      obtain ⟨hi, h⟩ := h
      refine zw_iast (n := 41) d191_40 rfl (za_5_17 hS).1 (za_5_17 hS).2 hi ?_
      refine zw_iload_n (n := 42) d191_41 rfl rfl ?_
      exact zw_iret d191_42 rfl ⟨_, rfl, h⟩

set_option maxRecDepth 20000 in
theorem zf192 (pc : Nat) : zt_code 192 pc = zt_fd zl_192 pc := rfl
theorem d192_0 : zt_code 192 0 = some (.iload_n 1, 0, 0, 0) := (zf192 0).trans rfl
theorem d192_1 : zt_code 192 1 = some (.i2l, 0, 0, 0) := (zf192 1).trans rfl
theorem d192_2 : zt_code 192 2 = some (.lconst 0, 0, 0, 0) := (zf192 2).trans rfl
theorem d192_3 : zt_code 192 3 = some (.ldc2_w 148, 0, 0, 3) := (zf192 3).trans rfl
theorem d192_6 : zt_code 192 6 = some (.invokestatic 94, 159, 3, -1) := (zf192 6).trans rfl
theorem d192_9 : zt_code 192 9 = some (.ifCond .ne (10), 0, 19, 0) := (zf192 9).trans rfl
theorem d192_12 : zt_code 192 12 = some (.aload_n 0, 0, 0, 0) := (zf192 12).trans rfl
theorem d192_13 : zt_code 192 13 = some (.bipush (-2), 0, 0, 0) := (zf192 13).trans rfl
theorem d192_15 : zt_code 192 15 = some (.invokevirtual 107, 160, 2, 5) := (zf192 15).trans rfl
theorem d192_18 : zt_code 192 18 = some (.ireturn, 0, 0, 0) := (zf192 18).trans rfl
theorem d192_19 : zt_code 192 19 = some (.aload_n 0, 0, 0, 0) := (zf192 19).trans rfl
theorem d192_20 : zt_code 192 20 = some (.getfield 128, 5, 14, 0) := (zf192 20).trans rfl
theorem d192_23 : zt_code 192 23 = some (.istore_n 2, 0, 0, 0) := (zf192 23).trans rfl
theorem d192_24 : zt_code 192 24 = some (.aload_n 0, 0, 0, 0) := (zf192 24).trans rfl
theorem d192_25 : zt_code 192 25 = some (.iload_n 1, 0, 0, 0) := (zf192 25).trans rfl
theorem d192_26 : zt_code 192 26 = some (.putfield 128, 5, 14, 0) := (zf192 26).trans rfl
theorem d192_29 : zt_code 192 29 = some (.iload_n 2, 0, 0, 0) := (zf192 29).trans rfl
theorem d192_30 : zt_code 192 30 = some (.ireturn, 0, 0, 0) := (zf192 30).trans rfl
/-- FirstAtTheFirstModel.law(I)I -/
theorem vc192 {X : zX} {S : zx_S} {C : zx_C} {q : Int32 → zx_C → Prop} {e : Nat} {a1 : Int32} (hS : zs_5 S e) (h : zCd X 0 159 [.long (Int32.toInt64 a1), .long 0, .long 3] S C (zQi (fun r1 C1 => if (r1 : Int32) = 0 then (zCd X 0 160 [.ref e, .int (-2)] S C1 (zQi (fun r2 C2 => q r2 C2))) else (q (C1.1 e 14) (zp C1 e 14 a1))))) : zCd X 1 192 [.ref e, .int a1] S C (zQi q) := by
  refine zc_in ml_192 rfl ?_
  refine zw_iload_n (n := 1) d192_0 rfl rfl ?_
  refine zw_i2l (n := 2) d192_1 rfl ?_
  refine zw_lconst (n := 3) d192_2 rfl zk_c_0 ?_
  refine zw_ldc2 (n := 6) d192_3 rfl zk_l_3 ?_
  refine zw_cI (n := 9) d192_6 (zs_S rfl rfl rfl rfl) (by rw [ml_159]; rfl) (by decide) rfl (zc_mI h (fun r1 C1 h => ?_))
  refine zw_if_ne (n := 12) d192_9 rfl (zite h (fun h => ?_) (fun h => ?_))
  · skip
    refine zw_aload_n (n := 13) d192_12 rfl rfl ?_
    refine zw_bipush (n := 15) d192_13 rfl zk_b_m2 ?_
    refine zw_cI (n := 18) d192_15 (zs_V rfl rfl rfl rfl (by decide) (zj_5 hS).1 (zq_5 hS)) (by rw [ml_160]; rfl) (by decide) rfl (zc_mI h (fun r2 C2 h => ?_))
    exact zw_iret d192_18 rfl ⟨_, rfl, h⟩
  · skip
    refine zw_aload_n (n := 20) d192_19 rfl rfl ?_
    refine zw_geti (n := 23) d192_20 rfl (zj_5 hS).1 (zj_5 hS).2 ?_
    refine zw_istore_n (n := 24) d192_23 rfl rfl rfl ?_
    refine zw_aload_n (n := 25) d192_24 rfl rfl ?_
    refine zw_iload_n (n := 26) d192_25 rfl rfl ?_
    refine zw_puti (n := 29) d192_26 rfl (zj_5 hS).1 (zj_5 hS).2 ?_
    refine zw_iload_n (n := 30) d192_29 rfl rfl ?_
    exact zw_iret d192_30 rfl ⟨_, rfl, h⟩

set_option maxRecDepth 20000 in
theorem zf193 (pc : Nat) : zt_code 193 pc = zt_fd zl_193 pc := rfl
theorem d193_0 : zt_code 193 0 = some (.iload_n 1, 0, 0, 0) := (zf193 0).trans rfl
theorem d193_1 : zt_code 193 1 = some (.i2l, 0, 0, 0) := (zf193 1).trans rfl
theorem d193_2 : zt_code 193 2 = some (.lconst 0, 0, 0, 0) := (zf193 2).trans rfl
theorem d193_3 : zt_code 193 3 = some (.ldc2_w 101, 0, 0, 7) := (zf193 3).trans rfl
theorem d193_6 : zt_code 193 6 = some (.invokestatic 94, 159, 3, -1) := (zf193 6).trans rfl
theorem d193_9 : zt_code 193 9 = some (.ifCond .eq (15), 0, 24, 0) := (zf193 9).trans rfl
theorem d193_12 : zt_code 193 12 = some (.iload_n 2, 0, 0, 0) := (zf193 12).trans rfl
theorem d193_13 : zt_code 193 13 = some (.i2l, 0, 0, 0) := (zf193 13).trans rfl
theorem d193_14 : zt_code 193 14 = some (.lconst 1, 0, 0, 0) := (zf193 14).trans rfl
theorem d193_15 : zt_code 193 15 = some (.ldc2_w 162, 0, 0, 12) := (zf193 15).trans rfl
theorem d193_18 : zt_code 193 18 = some (.invokestatic 94, 159, 3, -1) := (zf193 18).trans rfl
theorem d193_21 : zt_code 193 21 = some (.ifCond .ne (10), 0, 31, 0) := (zf193 21).trans rfl
theorem d193_24 : zt_code 193 24 = some (.aload_n 0, 0, 0, 0) := (zf193 24).trans rfl
theorem d193_25 : zt_code 193 25 = some (.bipush (-2), 0, 0, 0) := (zf193 25).trans rfl
theorem d193_27 : zt_code 193 27 = some (.invokevirtual 107, 160, 2, 5) := (zf193 27).trans rfl
theorem d193_30 : zt_code 193 30 = some (.ireturn, 0, 0, 0) := (zf193 30).trans rfl
theorem d193_31 : zt_code 193 31 = some (.aload_n 0, 0, 0, 0) := (zf193 31).trans rfl
theorem d193_32 : zt_code 193 32 = some (.iload_n 1, 0, 0, 0) := (zf193 32).trans rfl
theorem d193_33 : zt_code 193 33 = some (.invokevirtual 111, 162, 2, 5) := (zf193 33).trans rfl
theorem d193_36 : zt_code 193 36 = some (.istore_n 3, 0, 0, 0) := (zf193 36).trans rfl
theorem d193_37 : zt_code 193 37 = some (.iload_n 3, 0, 0, 0) := (zf193 37).trans rfl
theorem d193_38 : zt_code 193 38 = some (.ifCond .eq (9), 0, 47, 0) := (zf193 38).trans rfl
theorem d193_41 : zt_code 193 41 = some (.aload_n 0, 0, 0, 0) := (zf193 41).trans rfl
theorem d193_42 : zt_code 193 42 = some (.iload_n 3, 0, 0, 0) := (zf193 42).trans rfl
theorem d193_43 : zt_code 193 43 = some (.invokevirtual 107, 160, 2, 5) := (zf193 43).trans rfl
theorem d193_46 : zt_code 193 46 = some (.ireturn, 0, 0, 0) := (zf193 46).trans rfl
theorem d193_47 : zt_code 193 47 = some (.aload_n 0, 0, 0, 0) := (zf193 47).trans rfl
theorem d193_48 : zt_code 193 48 = some (.getfield 16, 5, 2, 1) := (zf193 48).trans rfl
theorem d193_51 : zt_code 193 51 = some (.iload_n 1, 0, 0, 0) := (zf193 51).trans rfl
theorem d193_52 : zt_code 193 52 = some (.iaload, 0, 0, 0) := (zf193 52).trans rfl
theorem d193_53 : zt_code 193 53 = some (.iload_n 2, 0, 0, 0) := (zf193 53).trans rfl
theorem d193_54 : zt_code 193 54 = some (.if_icmp .ge (10), 0, 64, 0) := (zf193 54).trans rfl
theorem d193_57 : zt_code 193 57 = some (.aload_n 0, 0, 0, 0) := (zf193 57).trans rfl
theorem d193_58 : zt_code 193 58 = some (.bipush (-2), 0, 0, 0) := (zf193 58).trans rfl
theorem d193_60 : zt_code 193 60 = some (.invokevirtual 107, 160, 2, 5) := (zf193 60).trans rfl
theorem d193_63 : zt_code 193 63 = some (.ireturn, 0, 0, 0) := (zf193 63).trans rfl
theorem d193_64 : zt_code 193 64 = some (.iconst (0), 0, 0, 0) := (zf193 64).trans rfl
theorem d193_65 : zt_code 193 65 = some (.istore 4, 0, 0, 0) := (zf193 65).trans rfl
theorem d193_67 : zt_code 193 67 = some (.iload 4, 0, 0, 0) := (zf193 67).trans rfl
theorem d193_69 : zt_code 193 69 = some (.iload_n 2, 0, 0, 0) := (zf193 69).trans rfl
theorem d193_70 : zt_code 193 70 = some (.if_icmp .ge (39), 0, 109, 0) := (zf193 70).trans rfl
theorem d193_73 : zt_code 193 73 = some (.aload_n 0, 0, 0, 0) := (zf193 73).trans rfl
theorem d193_74 : zt_code 193 74 = some (.getfield 21, 5, 3, 1) := (zf193 74).trans rfl
theorem d193_77 : zt_code 193 77 = some (.iload_n 1, 0, 0, 0) := (zf193 77).trans rfl
theorem d193_78 : zt_code 193 78 = some (.aaload, 0, 0, 0) := (zf193 78).trans rfl
theorem d193_79 : zt_code 193 79 = some (.iload 4, 0, 0, 0) := (zf193 79).trans rfl
theorem d193_81 : zt_code 193 81 = some (.laload, 0, 0, 0) := (zf193 81).trans rfl
theorem d193_82 : zt_code 193 82 = some (.lconst 0, 0, 0, 0) := (zf193 82).trans rfl
theorem d193_83 : zt_code 193 83 = some (.aload_n 0, 0, 0, 0) := (zf193 83).trans rfl
theorem d193_84 : zt_code 193 84 = some (.getfield 40, 5, 10, 0) := (zf193 84).trans rfl
theorem d193_87 : zt_code 193 87 = some (.iconst (1), 0, 0, 0) := (zf193 87).trans rfl
theorem d193_88 : zt_code 193 88 = some (.isub, 0, 0, 0) := (zf193 88).trans rfl
theorem d193_89 : zt_code 193 89 = some (.i2l, 0, 0, 0) := (zf193 89).trans rfl
theorem d193_90 : zt_code 193 90 = some (.invokestatic 94, 159, 3, -1) := (zf193 90).trans rfl
theorem d193_93 : zt_code 193 93 = some (.ifCond .ne (10), 0, 103, 0) := (zf193 93).trans rfl
theorem d193_96 : zt_code 193 96 = some (.aload_n 0, 0, 0, 0) := (zf193 96).trans rfl
theorem d193_97 : zt_code 193 97 = some (.bipush (-2), 0, 0, 0) := (zf193 97).trans rfl
theorem d193_99 : zt_code 193 99 = some (.invokevirtual 107, 160, 2, 5) := (zf193 99).trans rfl
theorem d193_102 : zt_code 193 102 = some (.ireturn, 0, 0, 0) := (zf193 102).trans rfl
theorem d193_103 : zt_code 193 103 = some (.iinc 4 (1), 0, 0, 0) := (zf193 103).trans rfl
theorem d193_106 : zt_code 193 106 = some (.goto (-39), 0, 67, 0) := (zf193 106).trans rfl
theorem d193_109 : zt_code 193 109 = some (.iconst (0), 0, 0, 0) := (zf193 109).trans rfl
theorem d193_110 : zt_code 193 110 = some (.istore 4, 0, 0, 0) := (zf193 110).trans rfl
theorem d193_112 : zt_code 193 112 = some (.iload 4, 0, 0, 0) := (zf193 112).trans rfl
theorem d193_114 : zt_code 193 114 = some (.iload_n 2, 0, 0, 0) := (zf193 114).trans rfl
theorem d193_115 : zt_code 193 115 = some (.if_icmp .ge (26), 0, 141, 0) := (zf193 115).trans rfl
theorem d193_118 : zt_code 193 118 = some (.aload_n 0, 0, 0, 0) := (zf193 118).trans rfl
theorem d193_119 : zt_code 193 119 = some (.getfield 52, 5, 15, 1) := (zf193 119).trans rfl
theorem d193_122 : zt_code 193 122 = some (.iload 4, 0, 0, 0) := (zf193 122).trans rfl
theorem d193_124 : zt_code 193 124 = some (.aload_n 0, 0, 0, 0) := (zf193 124).trans rfl
theorem d193_125 : zt_code 193 125 = some (.getfield 21, 5, 3, 1) := (zf193 125).trans rfl
theorem d193_128 : zt_code 193 128 = some (.iload_n 1, 0, 0, 0) := (zf193 128).trans rfl
theorem d193_129 : zt_code 193 129 = some (.aaload, 0, 0, 0) := (zf193 129).trans rfl
theorem d193_130 : zt_code 193 130 = some (.iload 4, 0, 0, 0) := (zf193 130).trans rfl
theorem d193_132 : zt_code 193 132 = some (.laload, 0, 0, 0) := (zf193 132).trans rfl
theorem d193_133 : zt_code 193 133 = some (.l2i, 0, 0, 0) := (zf193 133).trans rfl
theorem d193_134 : zt_code 193 134 = some (.iastore, 0, 0, 0) := (zf193 134).trans rfl
theorem d193_135 : zt_code 193 135 = some (.iinc 4 (1), 0, 0, 0) := (zf193 135).trans rfl
theorem d193_138 : zt_code 193 138 = some (.goto (-26), 0, 112, 0) := (zf193 138).trans rfl
theorem d193_141 : zt_code 193 141 = some (.aload_n 0, 0, 0, 0) := (zf193 141).trans rfl
theorem d193_142 : zt_code 193 142 = some (.iload_n 2, 0, 0, 0) := (zf193 142).trans rfl
theorem d193_143 : zt_code 193 143 = some (.putfield 55, 5, 16, 0) := (zf193 143).trans rfl
theorem d193_146 : zt_code 193 146 = some (.iload_n 2, 0, 0, 0) := (zf193 146).trans rfl
theorem d193_147 : zt_code 193 147 = some (.ireturn, 0, 0, 0) := (zf193 147).trans rfl
/-- FirstAtTheFirstModel.order(II)I -/
theorem vc193 {X : zX} {S : zx_S} {C : zx_C} {q : Int32 → zx_C → Prop} {e : Nat} {a1 : Int32} {a2 : Int32} (hS : zs_5 S e) (h : zCd X 0 159 [.long (Int32.toInt64 a1), .long 0, .long 7] S C (zQi (fun r1 C1 => if (r1 : Int32) = 0 then (zCd X 0 160 [.ref e, .int (-2)] S C1 (zQi (fun r2 C2 => q r2 C2))) else (zCd X 0 159 [.long (Int32.toInt64 a2), .long 1, .long 12] S C1 (zQi (fun r3 C3 => if (r3 : Int32) = 0 then (zCd X 0 160 [.ref e, .int (-2)] S C3 (zQi (fun r4 C4 => q r4 C4))) else (zCd X 1 162 [.ref e, .int a1] S C3 (zQi (fun r5 C5 => if (r5 : Int32) = 0 then (vp_in a1 8 ∧ (if ((C5.1 (e + 3) (Int32.toNatClampNeg a1)) : Int32) < a2 then (zCd X 0 160 [.ref e, .int (-2)] S C5 (zQi (fun r6 C6 => q r6 C6))) else (zW X 2 193 67 [.ref e, .int a1, .int a2, .int r5, .int 0] [] S C5 (zQi q)))) else (zCd X 0 160 [.ref e, .int r5] S C5 (zQi (fun r7 C7 => q r7 C7)))))))))))) : zCd X 2 193 [.ref e, .int a1, .int a2] S C (zQi q) := by
  refine zc_in ml_193 rfl ?_
  refine zw_iload_n (n := 1) d193_0 rfl rfl ?_
  refine zw_i2l (n := 2) d193_1 rfl ?_
  refine zw_lconst (n := 3) d193_2 rfl zk_c_0 ?_
  refine zw_ldc2 (n := 6) d193_3 rfl zk_l_7 ?_
  refine zw_cI (n := 9) d193_6 (zs_S rfl rfl rfl rfl) (by rw [ml_159]; rfl) (by decide) rfl (zc_mI h (fun r1 C1 h => ?_))
  refine zw_if_eq (n := 12) d193_9 rfl (zite h (fun h => ?_) (fun h => ?_))
  · skip
    refine zw_aload_n (n := 25) d193_24 rfl rfl ?_
    refine zw_bipush (n := 27) d193_25 rfl zk_b_m2 ?_
    refine zw_cI (n := 30) d193_27 (zs_V rfl rfl rfl rfl (by decide) (zj_5 hS).1 (zq_5 hS)) (by rw [ml_160]; rfl) (by decide) rfl (zc_mI h (fun r2 C2 h => ?_))
    exact zw_iret d193_30 rfl ⟨_, rfl, h⟩
  · skip
    refine zw_iload_n (n := 13) d193_12 rfl rfl ?_
    refine zw_i2l (n := 14) d193_13 rfl ?_
    refine zw_lconst (n := 15) d193_14 rfl zk_c_1 ?_
    refine zw_ldc2 (n := 18) d193_15 rfl zk_l_12 ?_
    refine zw_cI (n := 21) d193_18 (zs_S rfl rfl rfl rfl) (by rw [ml_159]; rfl) (by decide) rfl (zc_mI h (fun r3 C3 h => ?_))
    refine zw_if_ne (n := 24) d193_21 rfl (zite h (fun h => ?_) (fun h => ?_))
    · skip
      refine zw_aload_n (n := 25) d193_24 rfl rfl ?_
      refine zw_bipush (n := 27) d193_25 rfl zk_b_m2 ?_
      refine zw_cI (n := 30) d193_27 (zs_V rfl rfl rfl rfl (by decide) (zj_5 hS).1 (zq_5 hS)) (by rw [ml_160]; rfl) (by decide) rfl (zc_mI h (fun r4 C4 h => ?_))
      exact zw_iret d193_30 rfl ⟨_, rfl, h⟩
    · skip
      refine zw_aload_n (n := 32) d193_31 rfl rfl ?_
      refine zw_iload_n (n := 33) d193_32 rfl rfl ?_
      refine zw_cI (n := 36) d193_33 (zs_V rfl rfl rfl rfl (by decide) (zj_5 hS).1 (zq_5 hS)) (by rw [ml_162]; rfl) (by decide) rfl (zc_mI h (fun r5 C5 h => ?_))
      refine zw_istore_n (n := 37) d193_36 rfl rfl rfl ?_
      refine zw_iload_n (n := 38) d193_37 rfl rfl ?_
      refine zw_if_eq (n := 41) d193_38 rfl (zite h (fun h => ?_) (fun h => ?_))
      · skip
        refine zw_aload_n (n := 48) d193_47 rfl rfl ?_
        refine zw_getr (n := 51) d193_48 rfl (zj_5 hS).1 (zj_5 hS).2 (zr_5_2 hS) ?_
        refine zw_iload_n (n := 52) d193_51 rfl rfl ?_
        obtain ⟨hi, h⟩ := h
        refine zw_iald (n := 53) d193_52 rfl (za_5_2 hS).1 (za_5_2 hS).2 hi ?_
        refine zw_iload_n (n := 54) d193_53 rfl rfl ?_
        refine zw_ic_ge (n := 57) d193_54 rfl (zite h (fun h => ?_) (fun h => ?_))
        · skip
          refine zw_aload_n (n := 58) d193_57 rfl rfl ?_
          refine zw_bipush (n := 60) d193_58 rfl zk_b_m2 ?_
          refine zw_cI (n := 63) d193_60 (zs_V rfl rfl rfl rfl (by decide) (zj_5 hS).1 (zq_5 hS)) (by rw [ml_160]; rfl) (by decide) rfl (zc_mI h (fun r6 C6 h => ?_))
          exact zw_iret d193_63 rfl ⟨_, rfl, h⟩
        · skip
          refine zw_iconst (n := 65) d193_64 rfl zk_i_0 ?_
          refine zw_istore (n := 67) d193_65 rfl rfl rfl ?_
          exact h
      · skip
        refine zw_aload_n (n := 42) d193_41 rfl rfl ?_
        refine zw_iload_n (n := 43) d193_42 rfl rfl ?_
        refine zw_cI (n := 46) d193_43 (zs_V rfl rfl rfl rfl (by decide) (zj_5 hS).1 (zq_5 hS)) (by rw [ml_160]; rfl) (by decide) rfl (zc_mI h (fun r7 C7 h => ?_))
        exact zw_iret d193_46 rfl ⟨_, rfl, h⟩
theorem vc193_67 {X : zX} {S : zx_S} {C : zx_C} {q : Int32 → zx_C → Prop} {e : Nat} {a1 : Int32} {a2 : Int32} {i1 : Int32} {i2 : Int32} {z3 : Value} {i4 : Int32} (hS : zs_5 S e) (h : if (i4 : Int32) < i2 then (vp_in i1 8 ∧ (vp_in i4 40 ∧ (zCd X 0 159 [.long (C.2 ((e + 5) + Int32.toNatClampNeg i1) (Int32.toNatClampNeg i4)), .long 0, .long (Int32.toInt64 ((C.1 e 10) - 1))] S C (zQi (fun r2 C2 => if (r2 : Int32) = 0 then (zCd X 0 160 [.ref e, .int (-2)] S C2 (zQi (fun r3 C3 => q r3 C3))) else (zW X 2 193 67 [.ref e, .int i1, .int i2, z3, .int (i4 + 1)] [] S C2 (zQi q))))))) else (zW X 2 193 112 [.ref e, .int i1, .int i2, z3, .int 0] [] S C (zQi q))) : zW X 2 193 67 [.ref e, .int i1, .int i2, z3, .int i4] [] S C (zQi q) := by
  refine zw_iload (n := 69) d193_67 rfl rfl ?_
  refine zw_iload_n (n := 70) d193_69 rfl rfl ?_
  refine zw_ic_ge (n := 73) d193_70 rfl (zite h (fun h => ?_) (fun h => ?_))
  · skip
    refine zw_aload_n (n := 74) d193_73 rfl rfl ?_
    refine zw_getr (n := 77) d193_74 rfl (zj_5 hS).1 (zj_5 hS).2 (zr_5_3 hS) ?_
    refine zw_iload_n (n := 78) d193_77 rfl rfl ?_
    obtain ⟨hi, h⟩ := h
    have hb1 := zb_5_3 hS (vp_lt hi)
    refine zw_aald (n := 79) d193_78 rfl (za_5_3 hS).1 (za_5_3 hS).2 (by decide) hi hb1.1 ?_
    refine zw_iload (n := 81) d193_79 rfl rfl ?_
    obtain ⟨hi, h⟩ := h
    refine zw_lald (n := 82) d193_81 rfl hb1.2.1 hb1.2.2 hi ?_
    refine zw_lconst (n := 83) d193_82 rfl zk_c_0 ?_
    refine zw_aload_n (n := 84) d193_83 rfl rfl ?_
    refine zw_geti (n := 87) d193_84 rfl (zj_5 hS).1 (zj_5 hS).2 ?_
    refine zw_iconst (n := 88) d193_87 rfl zk_i_1 ?_
    refine zw_isub (n := 89) d193_88 rfl ?_
    refine zw_i2l (n := 90) d193_89 rfl ?_
    refine zw_cI (n := 93) d193_90 (zs_S rfl rfl rfl rfl) (by rw [ml_159]; rfl) (by decide) rfl (zc_mI h (fun r2 C2 h => ?_))
    refine zw_if_ne (n := 96) d193_93 rfl (zite h (fun h => ?_) (fun h => ?_))
    · skip
      refine zw_aload_n (n := 97) d193_96 rfl rfl ?_
      refine zw_bipush (n := 99) d193_97 rfl zk_b_m2 ?_
      refine zw_cI (n := 102) d193_99 (zs_V rfl rfl rfl rfl (by decide) (zj_5 hS).1 (zq_5 hS)) (by rw [ml_160]; rfl) (by decide) rfl (zc_mI h (fun r3 C3 h => ?_))
      exact zw_iret d193_102 rfl ⟨_, rfl, h⟩
    · skip
      refine zw_iinc (n := 106) d193_103 rfl rfl zk_i_1 rfl ?_
      refine zw_goto d193_106 ?_
      exact h
  · skip
    refine zw_iconst (n := 110) d193_109 rfl zk_i_0 ?_
    refine zw_istore (n := 112) d193_110 rfl rfl rfl ?_
    exact h
theorem vc193_112 {X : zX} {S : zx_S} {C : zx_C} {q : Int32 → zx_C → Prop} {e : Nat} {a1 : Int32} {a2 : Int32} {i1 : Int32} {i2 : Int32} {z3 : Value} {i4 : Int32} (hS : zs_5 S e) (h : if (i4 : Int32) < i2 then (vp_in i1 8 ∧ (vp_in i4 40 ∧ (vp_in i4 12 ∧ (zW X 2 193 112 [.ref e, .int i1, .int i2, z3, .int (i4 + 1)] [] S (zp C (e + 28) (Int32.toNatClampNeg i4) (Int64.toInt32 (C.2 ((e + 5) + Int32.toNatClampNeg i1) (Int32.toNatClampNeg i4)))) (zQi q))))) else (q i2 (zp C e 16 i2))) : zW X 2 193 112 [.ref e, .int i1, .int i2, z3, .int i4] [] S C (zQi q) := by
  refine zw_iload (n := 114) d193_112 rfl rfl ?_
  refine zw_iload_n (n := 115) d193_114 rfl rfl ?_
  refine zw_ic_ge (n := 118) d193_115 rfl (zite h (fun h => ?_) (fun h => ?_))
  · skip
    refine zw_aload_n (n := 119) d193_118 rfl rfl ?_
    refine zw_getr (n := 122) d193_119 rfl (zj_5 hS).1 (zj_5 hS).2 (zr_5_15 hS) ?_
    refine zw_iload (n := 124) d193_122 rfl rfl ?_
    refine zw_aload_n (n := 125) d193_124 rfl rfl ?_
    refine zw_getr (n := 128) d193_125 rfl (zj_5 hS).1 (zj_5 hS).2 (zr_5_3 hS) ?_
    refine zw_iload_n (n := 129) d193_128 rfl rfl ?_
    obtain ⟨hi, h⟩ := h
    have hb1 := zb_5_3 hS (vp_lt hi)
    refine zw_aald (n := 130) d193_129 rfl (za_5_3 hS).1 (za_5_3 hS).2 (by decide) hi hb1.1 ?_
    refine zw_iload (n := 132) d193_130 rfl rfl ?_
    obtain ⟨hi, h⟩ := h
    refine zw_lald (n := 133) d193_132 rfl hb1.2.1 hb1.2.2 hi ?_
    refine zw_l2i (n := 134) d193_133 rfl ?_
    obtain ⟨hi, h⟩ := h
    refine zw_iast (n := 135) d193_134 rfl (za_5_15 hS).1 (za_5_15 hS).2 hi ?_
    refine zw_iinc (n := 138) d193_135 rfl rfl zk_i_1 rfl ?_
    refine zw_goto d193_138 ?_
    exact h
  · skip
    refine zw_aload_n (n := 142) d193_141 rfl rfl ?_
    refine zw_iload_n (n := 143) d193_142 rfl rfl ?_
    refine zw_puti (n := 146) d193_143 rfl (zj_5 hS).1 (zj_5 hS).2 ?_
    refine zw_iload_n (n := 147) d193_146 rfl rfl ?_
    exact zw_iret d193_147 rfl ⟨_, rfl, h⟩

set_option maxRecDepth 20000 in
theorem zf194 (pc : Nat) : zt_code 194 pc = zt_fd zl_194 pc := rfl
theorem d194_0 : zt_code 194 0 = some (.iload_n 1, 0, 0, 0) := (zf194 0).trans rfl
theorem d194_1 : zt_code 194 1 = some (.i2l, 0, 0, 0) := (zf194 1).trans rfl
theorem d194_2 : zt_code 194 2 = some (.lconst 0, 0, 0, 0) := (zf194 2).trans rfl
theorem d194_3 : zt_code 194 3 = some (.ldc2_w 164, 0, 0, 1000000000) := (zf194 3).trans rfl
theorem d194_6 : zt_code 194 6 = some (.invokestatic 94, 159, 3, -1) := (zf194 6).trans rfl
theorem d194_9 : zt_code 194 9 = some (.ifCond .ne (10), 0, 19, 0) := (zf194 9).trans rfl
theorem d194_12 : zt_code 194 12 = some (.aload_n 0, 0, 0, 0) := (zf194 12).trans rfl
theorem d194_13 : zt_code 194 13 = some (.bipush (-2), 0, 0, 0) := (zf194 13).trans rfl
theorem d194_15 : zt_code 194 15 = some (.invokevirtual 107, 160, 2, 5) := (zf194 15).trans rfl
theorem d194_18 : zt_code 194 18 = some (.ireturn, 0, 0, 0) := (zf194 18).trans rfl
theorem d194_19 : zt_code 194 19 = some (.aload_n 0, 0, 0, 0) := (zf194 19).trans rfl
theorem d194_20 : zt_code 194 20 = some (.getfield 139, 5, 18, 0) := (zf194 20).trans rfl
theorem d194_23 : zt_code 194 23 = some (.istore_n 2, 0, 0, 0) := (zf194 23).trans rfl
theorem d194_24 : zt_code 194 24 = some (.aload_n 0, 0, 0, 0) := (zf194 24).trans rfl
theorem d194_25 : zt_code 194 25 = some (.iload_n 1, 0, 0, 0) := (zf194 25).trans rfl
theorem d194_26 : zt_code 194 26 = some (.putfield 139, 5, 18, 0) := (zf194 26).trans rfl
theorem d194_29 : zt_code 194 29 = some (.iload_n 2, 0, 0, 0) := (zf194 29).trans rfl
theorem d194_30 : zt_code 194 30 = some (.ireturn, 0, 0, 0) := (zf194 30).trans rfl
/-- FirstAtTheFirstModel.turn(I)I -/
theorem vc194 {X : zX} {S : zx_S} {C : zx_C} {q : Int32 → zx_C → Prop} {e : Nat} {a1 : Int32} (hS : zs_5 S e) (h : zCd X 0 159 [.long (Int32.toInt64 a1), .long 0, .long 1000000000] S C (zQi (fun r1 C1 => if (r1 : Int32) = 0 then (zCd X 0 160 [.ref e, .int (-2)] S C1 (zQi (fun r2 C2 => q r2 C2))) else (q (C1.1 e 18) (zp C1 e 18 a1))))) : zCd X 1 194 [.ref e, .int a1] S C (zQi q) := by
  refine zc_in ml_194 rfl ?_
  refine zw_iload_n (n := 1) d194_0 rfl rfl ?_
  refine zw_i2l (n := 2) d194_1 rfl ?_
  refine zw_lconst (n := 3) d194_2 rfl zk_c_0 ?_
  refine zw_ldc2 (n := 6) d194_3 rfl zk_l_1000000000 ?_
  refine zw_cI (n := 9) d194_6 (zs_S rfl rfl rfl rfl) (by rw [ml_159]; rfl) (by decide) rfl (zc_mI h (fun r1 C1 h => ?_))
  refine zw_if_ne (n := 12) d194_9 rfl (zite h (fun h => ?_) (fun h => ?_))
  · skip
    refine zw_aload_n (n := 13) d194_12 rfl rfl ?_
    refine zw_bipush (n := 15) d194_13 rfl zk_b_m2 ?_
    refine zw_cI (n := 18) d194_15 (zs_V rfl rfl rfl rfl (by decide) (zj_5 hS).1 (zq_5 hS)) (by rw [ml_160]; rfl) (by decide) rfl (zc_mI h (fun r2 C2 h => ?_))
    exact zw_iret d194_18 rfl ⟨_, rfl, h⟩
  · skip
    refine zw_aload_n (n := 20) d194_19 rfl rfl ?_
    refine zw_geti (n := 23) d194_20 rfl (zj_5 hS).1 (zj_5 hS).2 ?_
    refine zw_istore_n (n := 24) d194_23 rfl rfl rfl ?_
    refine zw_aload_n (n := 25) d194_24 rfl rfl ?_
    refine zw_iload_n (n := 26) d194_25 rfl rfl ?_
    refine zw_puti (n := 29) d194_26 rfl (zj_5 hS).1 (zj_5 hS).2 ?_
    refine zw_iload_n (n := 30) d194_29 rfl rfl ?_
    exact zw_iret d194_30 rfl ⟨_, rfl, h⟩

set_option maxRecDepth 20000 in
theorem zf195 (pc : Nat) : zt_code 195 pc = zt_fd zl_195 pc := rfl
theorem d195_0 : zt_code 195 0 = some (.aload_n 0, 0, 0, 0) := (zf195 0).trans rfl
theorem d195_1 : zt_code 195 1 = some (.iload_n 1, 0, 0, 0) := (zf195 1).trans rfl
theorem d195_2 : zt_code 195 2 = some (.invokevirtual 159, 190, 2, 5) := (zf195 2).trans rfl
theorem d195_5 : zt_code 195 5 = some (.ifCond .eq (16), 0, 21, 0) := (zf195 5).trans rfl
theorem d195_8 : zt_code 195 8 = some (.iload_n 2, 0, 0, 0) := (zf195 8).trans rfl
theorem d195_9 : zt_code 195 9 = some (.iconst (-1), 0, 0, 0) := (zf195 9).trans rfl
theorem d195_10 : zt_code 195 10 = some (.if_icmp .eq (18), 0, 28, 0) := (zf195 10).trans rfl
theorem d195_13 : zt_code 195 13 = some (.aload_n 0, 0, 0, 0) := (zf195 13).trans rfl
theorem d195_14 : zt_code 195 14 = some (.iload_n 2, 0, 0, 0) := (zf195 14).trans rfl
theorem d195_15 : zt_code 195 15 = some (.invokevirtual 118, 168, 2, 5) := (zf195 15).trans rfl
theorem d195_18 : zt_code 195 18 = some (.ifCond .ne (10), 0, 28, 0) := (zf195 18).trans rfl
theorem d195_21 : zt_code 195 21 = some (.aload_n 0, 0, 0, 0) := (zf195 21).trans rfl
theorem d195_22 : zt_code 195 22 = some (.bipush (-2), 0, 0, 0) := (zf195 22).trans rfl
theorem d195_24 : zt_code 195 24 = some (.invokevirtual 107, 160, 2, 5) := (zf195 24).trans rfl
theorem d195_27 : zt_code 195 27 = some (.ireturn, 0, 0, 0) := (zf195 27).trans rfl
theorem d195_28 : zt_code 195 28 = some (.aload_n 0, 0, 0, 0) := (zf195 28).trans rfl
theorem d195_29 : zt_code 195 29 = some (.getfield 49, 5, 13, 1) := (zf195 29).trans rfl
theorem d195_32 : zt_code 195 32 = some (.iload_n 1, 0, 0, 0) := (zf195 32).trans rfl
theorem d195_33 : zt_code 195 33 = some (.iaload, 0, 0, 0) := (zf195 33).trans rfl
theorem d195_34 : zt_code 195 34 = some (.istore_n 3, 0, 0, 0) := (zf195 34).trans rfl
theorem d195_35 : zt_code 195 35 = some (.aload_n 0, 0, 0, 0) := (zf195 35).trans rfl
theorem d195_36 : zt_code 195 36 = some (.getfield 49, 5, 13, 1) := (zf195 36).trans rfl
theorem d195_39 : zt_code 195 39 = some (.iload_n 1, 0, 0, 0) := (zf195 39).trans rfl
theorem d195_40 : zt_code 195 40 = some (.iload_n 2, 0, 0, 0) := (zf195 40).trans rfl
theorem d195_41 : zt_code 195 41 = some (.iastore, 0, 0, 0) := (zf195 41).trans rfl
theorem d195_42 : zt_code 195 42 = some (.iload_n 3, 0, 0, 0) := (zf195 42).trans rfl
theorem d195_43 : zt_code 195 43 = some (.ireturn, 0, 0, 0) := (zf195 43).trans rfl
/-- FirstAtTheFirstModel.own(II)I -/
theorem vc195 {X : zX} {S : zx_S} {C : zx_C} {q : Int32 → zx_C → Prop} {e : Nat} {a1 : Int32} {a2 : Int32} (hS : zs_5 S e) (h : zCd X 1 190 [.ref e, .int a1] S C (zQi (fun r1 C1 => if (r1 : Int32) = 0 then (zCd X 0 160 [.ref e, .int (-2)] S C1 (zQi (fun r2 C2 => q r2 C2))) else (if (a2 : Int32) = (-1) then (vp_in a1 8 ∧ (vp_in a1 8 ∧ (q (C1.1 (e + 27) (Int32.toNatClampNeg a1)) (zp C1 (e + 27) (Int32.toNatClampNeg a1) a2)))) else (zCd X 1 168 [.ref e, .int a2] S C1 (zQi (fun r3 C3 => if (r3 : Int32) = 0 then (zCd X 0 160 [.ref e, .int (-2)] S C3 (zQi (fun r4 C4 => q r4 C4))) else (vp_in a1 8 ∧ (vp_in a1 8 ∧ (q (C3.1 (e + 27) (Int32.toNatClampNeg a1)) (zp C3 (e + 27) (Int32.toNatClampNeg a1) a2))))))))))) : zCd X 2 195 [.ref e, .int a1, .int a2] S C (zQi q) := by
  refine zc_in ml_195 rfl ?_
  refine zw_aload_n (n := 1) d195_0 rfl rfl ?_
  refine zw_iload_n (n := 2) d195_1 rfl rfl ?_
  refine zw_cI (n := 5) d195_2 (zs_V rfl rfl rfl rfl (by decide) (zj_5 hS).1 (zq_5 hS)) (by rw [ml_190]; rfl) (by decide) rfl (zc_mI h (fun r1 C1 h => ?_))
  refine zw_if_eq (n := 8) d195_5 rfl (zite h (fun h => ?_) (fun h => ?_))
  · skip
    refine zw_aload_n (n := 22) d195_21 rfl rfl ?_
    refine zw_bipush (n := 24) d195_22 rfl zk_b_m2 ?_
    refine zw_cI (n := 27) d195_24 (zs_V rfl rfl rfl rfl (by decide) (zj_5 hS).1 (zq_5 hS)) (by rw [ml_160]; rfl) (by decide) rfl (zc_mI h (fun r2 C2 h => ?_))
    exact zw_iret d195_27 rfl ⟨_, rfl, h⟩
  · skip
    refine zw_iload_n (n := 9) d195_8 rfl rfl ?_
    refine zw_iconst (n := 10) d195_9 rfl zk_i_m1 ?_
    refine zw_ic_eq (n := 13) d195_10 rfl (zite h (fun h => ?_) (fun h => ?_))
    · skip
      refine zw_aload_n (n := 29) d195_28 rfl rfl ?_
      refine zw_getr (n := 32) d195_29 rfl (zj_5 hS).1 (zj_5 hS).2 (zr_5_13 hS) ?_
      refine zw_iload_n (n := 33) d195_32 rfl rfl ?_
      obtain ⟨hi, h⟩ := h
      refine zw_iald (n := 34) d195_33 rfl (za_5_13 hS).1 (za_5_13 hS).2 hi ?_
      refine zw_istore_n (n := 35) d195_34 rfl rfl rfl ?_
      refine zw_aload_n (n := 36) d195_35 rfl rfl ?_
      refine zw_getr (n := 39) d195_36 rfl (zj_5 hS).1 (zj_5 hS).2 (zr_5_13 hS) ?_
      refine zw_iload_n (n := 40) d195_39 rfl rfl ?_
      refine zw_iload_n (n := 41) d195_40 rfl rfl ?_
      obtain ⟨hi, h⟩ := h
      refine zw_iast (n := 42) d195_41 rfl (za_5_13 hS).1 (za_5_13 hS).2 hi ?_
      refine zw_iload_n (n := 43) d195_42 rfl rfl ?_
      exact zw_iret d195_43 rfl ⟨_, rfl, h⟩
    · skip
      refine zw_aload_n (n := 14) d195_13 rfl rfl ?_
      refine zw_iload_n (n := 15) d195_14 rfl rfl ?_
      refine zw_cI (n := 18) d195_15 (zs_V rfl rfl rfl rfl (by decide) (zj_5 hS).1 (zq_5 hS)) (by rw [ml_168]; rfl) (by decide) rfl (zc_mI h (fun r3 C3 h => ?_))
      refine zw_if_ne (n := 21) d195_18 rfl (zite h (fun h => ?_) (fun h => ?_))
      · skip
        refine zw_aload_n (n := 22) d195_21 rfl rfl ?_
        refine zw_bipush (n := 24) d195_22 rfl zk_b_m2 ?_
        refine zw_cI (n := 27) d195_24 (zs_V rfl rfl rfl rfl (by decide) (zj_5 hS).1 (zq_5 hS)) (by rw [ml_160]; rfl) (by decide) rfl (zc_mI h (fun r4 C4 h => ?_))
        exact zw_iret d195_27 rfl ⟨_, rfl, h⟩
      · skip
        refine zw_aload_n (n := 29) d195_28 rfl rfl ?_
        refine zw_getr (n := 32) d195_29 rfl (zj_5 hS).1 (zj_5 hS).2 (zr_5_13 hS) ?_
        refine zw_iload_n (n := 33) d195_32 rfl rfl ?_
        obtain ⟨hi, h⟩ := h
        refine zw_iald (n := 34) d195_33 rfl (za_5_13 hS).1 (za_5_13 hS).2 hi ?_
        refine zw_istore_n (n := 35) d195_34 rfl rfl rfl ?_
        refine zw_aload_n (n := 36) d195_35 rfl rfl ?_
        refine zw_getr (n := 39) d195_36 rfl (zj_5 hS).1 (zj_5 hS).2 (zr_5_13 hS) ?_
        refine zw_iload_n (n := 40) d195_39 rfl rfl ?_
        refine zw_iload_n (n := 41) d195_40 rfl rfl ?_
        obtain ⟨hi, h⟩ := h
        refine zw_iast (n := 42) d195_41 rfl (za_5_13 hS).1 (za_5_13 hS).2 hi ?_
        refine zw_iload_n (n := 43) d195_42 rfl rfl ?_
        exact zw_iret d195_43 rfl ⟨_, rfl, h⟩

set_option maxRecDepth 20000 in
theorem zf196 (pc : Nat) : zt_code 196 pc = zt_fd zl_196 pc := rfl
theorem d196_0 : zt_code 196 0 = some (.iload_n 1, 0, 0, 0) := (zf196 0).trans rfl
theorem d196_1 : zt_code 196 1 = some (.i2l, 0, 0, 0) := (zf196 1).trans rfl
theorem d196_2 : zt_code 196 2 = some (.lconst 0, 0, 0, 0) := (zf196 2).trans rfl
theorem d196_3 : zt_code 196 3 = some (.ldc2_w 166, 0, 0, 255) := (zf196 3).trans rfl
theorem d196_6 : zt_code 196 6 = some (.invokestatic 94, 159, 3, -1) := (zf196 6).trans rfl
theorem d196_9 : zt_code 196 9 = some (.ifCond .ne (10), 0, 19, 0) := (zf196 9).trans rfl
theorem d196_12 : zt_code 196 12 = some (.aload_n 0, 0, 0, 0) := (zf196 12).trans rfl
theorem d196_13 : zt_code 196 13 = some (.bipush (-2), 0, 0, 0) := (zf196 13).trans rfl
theorem d196_15 : zt_code 196 15 = some (.invokevirtual 107, 160, 2, 5) := (zf196 15).trans rfl
theorem d196_18 : zt_code 196 18 = some (.ireturn, 0, 0, 0) := (zf196 18).trans rfl
theorem d196_19 : zt_code 196 19 = some (.aload_n 0, 0, 0, 0) := (zf196 19).trans rfl
theorem d196_20 : zt_code 196 20 = some (.getfield 168, 5, 8, 0) := (zf196 20).trans rfl
theorem d196_23 : zt_code 196 23 = some (.sipush (250), 0, 0, 0) := (zf196 23).trans rfl
theorem d196_26 : zt_code 196 26 = some (.if_icmp .ne (10), 0, 36, 0) := (zf196 26).trans rfl
theorem d196_29 : zt_code 196 29 = some (.aload_n 0, 0, 0, 0) := (zf196 29).trans rfl
theorem d196_30 : zt_code 196 30 = some (.bipush (-6), 0, 0, 0) := (zf196 30).trans rfl
theorem d196_32 : zt_code 196 32 = some (.invokevirtual 107, 160, 2, 5) := (zf196 32).trans rfl
theorem d196_35 : zt_code 196 35 = some (.ireturn, 0, 0, 0) := (zf196 35).trans rfl
theorem d196_36 : zt_code 196 36 = some (.aload_n 0, 0, 0, 0) := (zf196 36).trans rfl
theorem d196_37 : zt_code 196 37 = some (.getfield 34, 5, 7, 1) := (zf196 37).trans rfl
theorem d196_40 : zt_code 196 40 = some (.aload_n 0, 0, 0, 0) := (zf196 40).trans rfl
theorem d196_41 : zt_code 196 41 = some (.dup, 0, 0, 0) := (zf196 41).trans rfl
theorem d196_42 : zt_code 196 42 = some (.getfield 168, 5, 8, 0) := (zf196 42).trans rfl
theorem d196_45 : zt_code 196 45 = some (.dup_x1, 0, 0, 0) := (zf196 45).trans rfl
theorem d196_46 : zt_code 196 46 = some (.iconst (1), 0, 0, 0) := (zf196 46).trans rfl
theorem d196_47 : zt_code 196 47 = some (.iadd, 0, 0, 0) := (zf196 47).trans rfl
theorem d196_48 : zt_code 196 48 = some (.putfield 168, 5, 8, 0) := (zf196 48).trans rfl
theorem d196_51 : zt_code 196 51 = some (.iload_n 1, 0, 0, 0) := (zf196 51).trans rfl
theorem d196_52 : zt_code 196 52 = some (.iastore, 0, 0, 0) := (zf196 52).trans rfl
theorem d196_53 : zt_code 196 53 = some (.aload_n 0, 0, 0, 0) := (zf196 53).trans rfl
theorem d196_54 : zt_code 196 54 = some (.getfield 168, 5, 8, 0) := (zf196 54).trans rfl
theorem d196_57 : zt_code 196 57 = some (.ireturn, 0, 0, 0) := (zf196 57).trans rfl
/-- FirstAtTheFirstModel.feed(I)I -/
theorem vc196 {X : zX} {S : zx_S} {C : zx_C} {q : Int32 → zx_C → Prop} {e : Nat} {a1 : Int32} (hS : zs_5 S e) (h : zCd X 0 159 [.long (Int32.toInt64 a1), .long 0, .long 255] S C (zQi (fun r1 C1 => if (r1 : Int32) = 0 then (zCd X 0 160 [.ref e, .int (-2)] S C1 (zQi (fun r2 C2 => q r2 C2))) else (if ((C1.1 e 8) : Int32) = 250 then (zCd X 0 160 [.ref e, .int (-6)] S C1 (zQi (fun r3 C3 => q r3 C3))) else (vp_in (C1.1 e 8) 250 ∧ (q (Prod.fst (zp (zp C1 e 8 ((C1.1 e 8) + 1)) (e + 16) (Int32.toNatClampNeg (C1.1 e 8)) a1) e 8) (zp (zp C1 e 8 ((C1.1 e 8) + 1)) (e + 16) (Int32.toNatClampNeg (C1.1 e 8)) a1))))))) : zCd X 1 196 [.ref e, .int a1] S C (zQi q) := by
  refine zc_in ml_196 rfl ?_
  refine zw_iload_n (n := 1) d196_0 rfl rfl ?_
  refine zw_i2l (n := 2) d196_1 rfl ?_
  refine zw_lconst (n := 3) d196_2 rfl zk_c_0 ?_
  refine zw_ldc2 (n := 6) d196_3 rfl zk_l_255 ?_
  refine zw_cI (n := 9) d196_6 (zs_S rfl rfl rfl rfl) (by rw [ml_159]; rfl) (by decide) rfl (zc_mI h (fun r1 C1 h => ?_))
  refine zw_if_ne (n := 12) d196_9 rfl (zite h (fun h => ?_) (fun h => ?_))
  · skip
    refine zw_aload_n (n := 13) d196_12 rfl rfl ?_
    refine zw_bipush (n := 15) d196_13 rfl zk_b_m2 ?_
    refine zw_cI (n := 18) d196_15 (zs_V rfl rfl rfl rfl (by decide) (zj_5 hS).1 (zq_5 hS)) (by rw [ml_160]; rfl) (by decide) rfl (zc_mI h (fun r2 C2 h => ?_))
    exact zw_iret d196_18 rfl ⟨_, rfl, h⟩
  · skip
    refine zw_aload_n (n := 20) d196_19 rfl rfl ?_
    refine zw_geti (n := 23) d196_20 rfl (zj_5 hS).1 (zj_5 hS).2 ?_
    refine zw_sipush (n := 26) d196_23 rfl zk_s_250 ?_
    refine zw_ic_ne (n := 29) d196_26 rfl (zite h (fun h => ?_) (fun h => ?_))
    · skip
      refine zw_aload_n (n := 30) d196_29 rfl rfl ?_
      refine zw_bipush (n := 32) d196_30 rfl zk_b_m6 ?_
      refine zw_cI (n := 35) d196_32 (zs_V rfl rfl rfl rfl (by decide) (zj_5 hS).1 (zq_5 hS)) (by rw [ml_160]; rfl) (by decide) rfl (zc_mI h (fun r3 C3 h => ?_))
      exact zw_iret d196_35 rfl ⟨_, rfl, h⟩
    · skip
      refine zw_aload_n (n := 37) d196_36 rfl rfl ?_
      refine zw_getr (n := 40) d196_37 rfl (zj_5 hS).1 (zj_5 hS).2 (zr_5_7 hS) ?_
      refine zw_aload_n (n := 41) d196_40 rfl rfl ?_
      refine zw_dup (n := 42) d196_41 rfl rfl ?_
      refine zw_geti (n := 45) d196_42 rfl (zj_5 hS).1 (zj_5 hS).2 ?_
      refine zw_dup_x1 (n := 46) d196_45 rfl rfl rfl ?_
      refine zw_iconst (n := 47) d196_46 rfl zk_i_1 ?_
      refine zw_iadd (n := 48) d196_47 rfl ?_
      refine zw_puti (n := 51) d196_48 rfl (zj_5 hS).1 (zj_5 hS).2 ?_
      refine zw_iload_n (n := 52) d196_51 rfl rfl ?_
      obtain ⟨hi, h⟩ := h
      refine zw_iast (n := 53) d196_52 rfl (za_5_7 hS).1 (za_5_7 hS).2 hi ?_
      refine zw_aload_n (n := 54) d196_53 rfl rfl ?_
      refine zw_geti (n := 57) d196_54 rfl (zj_5 hS).1 (zj_5 hS).2 ?_
      exact zw_iret d196_57 rfl ⟨_, rfl, h⟩

set_option maxRecDepth 20000 in
theorem zf197 (pc : Nat) : zt_code 197 pc = zt_fd zl_197 pc := rfl
theorem d197_0 : zt_code 197 0 = some (.aload_n 0, 0, 0, 0) := (zf197 0).trans rfl
theorem d197_1 : zt_code 197 1 = some (.getfield 168, 5, 8, 0) := (zf197 1).trans rfl
theorem d197_4 : zt_code 197 4 = some (.istore_n 1, 0, 0, 0) := (zf197 4).trans rfl
theorem d197_5 : zt_code 197 5 = some (.aload_n 0, 0, 0, 0) := (zf197 5).trans rfl
theorem d197_6 : zt_code 197 6 = some (.iconst (0), 0, 0, 0) := (zf197 6).trans rfl
theorem d197_7 : zt_code 197 7 = some (.putfield 168, 5, 8, 0) := (zf197 7).trans rfl
theorem d197_10 : zt_code 197 10 = some (.iload_n 1, 0, 0, 0) := (zf197 10).trans rfl
theorem d197_11 : zt_code 197 11 = some (.ireturn, 0, 0, 0) := (zf197 11).trans rfl
/-- FirstAtTheFirstModel.wipe()I -/
theorem vc197 {X : zX} {S : zx_S} {C : zx_C} {q : Int32 → zx_C → Prop} {e : Nat} (hS : zs_5 S e) (h : q (C.1 e 8) (zp C e 8 0)) : zCd X 0 197 [.ref e] S C (zQi q) := by
  refine zc_in ml_197 rfl ?_
  refine zw_aload_n (n := 1) d197_0 rfl rfl ?_
  refine zw_geti (n := 4) d197_1 rfl (zj_5 hS).1 (zj_5 hS).2 ?_
  refine zw_istore_n (n := 5) d197_4 rfl rfl rfl ?_
  refine zw_aload_n (n := 6) d197_5 rfl rfl ?_
  refine zw_iconst (n := 7) d197_6 rfl zk_i_0 ?_
  refine zw_puti (n := 10) d197_7 rfl (zj_5 hS).1 (zj_5 hS).2 ?_
  refine zw_iload_n (n := 11) d197_10 rfl rfl ?_
  exact zw_iret d197_11 rfl ⟨_, rfl, h⟩

set_option maxRecDepth 20000 in
theorem zf200 (pc : Nat) : zt_code 200 pc = zt_fd zl_200 pc := rfl
theorem d200_0 : zt_code 200 0 = some (.aload_n 0, 0, 0, 0) := (zf200 0).trans rfl
theorem d200_1 : zt_code 200 1 = some (.aload_n 1, 0, 0, 0) := (zf200 1).trans rfl
theorem d200_2 : zt_code 200 2 = some (.getfield 40, 5, 10, 0) := (zf200 2).trans rfl
theorem d200_5 : zt_code 200 5 = some (.putfield 40, 5, 10, 0) := (zf200 5).trans rfl
theorem d200_8 : zt_code 200 8 = some (.aload_n 0, 0, 0, 0) := (zf200 8).trans rfl
theorem d200_9 : zt_code 200 9 = some (.aload_n 1, 0, 0, 0) := (zf200 9).trans rfl
theorem d200_10 : zt_code 200 10 = some (.getfield 98, 5, 11, 0) := (zf200 10).trans rfl
theorem d200_13 : zt_code 200 13 = some (.putfield 98, 5, 11, 0) := (zf200 13).trans rfl
theorem d200_16 : zt_code 200 16 = some (.iconst (0), 0, 0, 0) := (zf200 16).trans rfl
theorem d200_17 : zt_code 200 17 = some (.istore_n 2, 0, 0, 0) := (zf200 17).trans rfl
theorem d200_18 : zt_code 200 18 = some (.iload_n 2, 0, 0, 0) := (zf200 18).trans rfl
theorem d200_19 : zt_code 200 19 = some (.bipush (8), 0, 0, 0) := (zf200 19).trans rfl
theorem d200_21 : zt_code 200 21 = some (.if_icmp .ge (24), 0, 45, 0) := (zf200 21).trans rfl
theorem d200_24 : zt_code 200 24 = some (.aload_n 1, 0, 0, 0) := (zf200 24).trans rfl
theorem d200_25 : zt_code 200 25 = some (.getfield 46, 5, 12, 1) := (zf200 25).trans rfl
theorem d200_28 : zt_code 200 28 = some (.iload_n 2, 0, 0, 0) := (zf200 28).trans rfl
theorem d200_29 : zt_code 200 29 = some (.aaload, 0, 0, 0) := (zf200 29).trans rfl
theorem d200_30 : zt_code 200 30 = some (.aload_n 0, 0, 0, 0) := (zf200 30).trans rfl
theorem d200_31 : zt_code 200 31 = some (.getfield 46, 5, 12, 1) := (zf200 31).trans rfl
theorem d200_34 : zt_code 200 34 = some (.iload_n 2, 0, 0, 0) := (zf200 34).trans rfl
theorem d200_35 : zt_code 200 35 = some (.aaload, 0, 0, 0) := (zf200 35).trans rfl
theorem d200_36 : zt_code 200 36 = some (.invokestatic 366, 201, 2, -1) := (zf200 36).trans rfl
theorem d200_39 : zt_code 200 39 = some (.iinc 2 (1), 0, 0, 0) := (zf200 39).trans rfl
theorem d200_42 : zt_code 200 42 = some (.goto (-24), 0, 18, 0) := (zf200 42).trans rfl
theorem d200_45 : zt_code 200 45 = some (.aload_n 1, 0, 0, 0) := (zf200 45).trans rfl
theorem d200_46 : zt_code 200 46 = some (.getfield 49, 5, 13, 1) := (zf200 46).trans rfl
theorem d200_49 : zt_code 200 49 = some (.aload_n 0, 0, 0, 0) := (zf200 49).trans rfl
theorem d200_50 : zt_code 200 50 = some (.getfield 49, 5, 13, 1) := (zf200 50).trans rfl
theorem d200_53 : zt_code 200 53 = some (.invokestatic 366, 201, 2, -1) := (zf200 53).trans rfl
theorem d200_56 : zt_code 200 56 = some (.aload_n 0, 0, 0, 0) := (zf200 56).trans rfl
theorem d200_57 : zt_code 200 57 = some (.aload_n 1, 0, 0, 0) := (zf200 57).trans rfl
theorem d200_58 : zt_code 200 58 = some (.getfield 128, 5, 14, 0) := (zf200 58).trans rfl
theorem d200_61 : zt_code 200 61 = some (.putfield 128, 5, 14, 0) := (zf200 61).trans rfl
theorem d200_64 : zt_code 200 64 = some (.aload_n 1, 0, 0, 0) := (zf200 64).trans rfl
theorem d200_65 : zt_code 200 65 = some (.getfield 52, 5, 15, 1) := (zf200 65).trans rfl
theorem d200_68 : zt_code 200 68 = some (.aload_n 0, 0, 0, 0) := (zf200 68).trans rfl
theorem d200_69 : zt_code 200 69 = some (.getfield 52, 5, 15, 1) := (zf200 69).trans rfl
theorem d200_72 : zt_code 200 72 = some (.invokestatic 366, 201, 2, -1) := (zf200 72).trans rfl
theorem d200_75 : zt_code 200 75 = some (.aload_n 0, 0, 0, 0) := (zf200 75).trans rfl
theorem d200_76 : zt_code 200 76 = some (.aload_n 1, 0, 0, 0) := (zf200 76).trans rfl
theorem d200_77 : zt_code 200 77 = some (.getfield 55, 5, 16, 0) := (zf200 77).trans rfl
theorem d200_80 : zt_code 200 80 = some (.putfield 55, 5, 16, 0) := (zf200 80).trans rfl
theorem d200_83 : zt_code 200 83 = some (.aload_n 1, 0, 0, 0) := (zf200 83).trans rfl
theorem d200_84 : zt_code 200 84 = some (.getfield 58, 5, 17, 1) := (zf200 84).trans rfl
theorem d200_87 : zt_code 200 87 = some (.aload_n 0, 0, 0, 0) := (zf200 87).trans rfl
theorem d200_88 : zt_code 200 88 = some (.getfield 58, 5, 17, 1) := (zf200 88).trans rfl
theorem d200_91 : zt_code 200 91 = some (.invokestatic 366, 201, 2, -1) := (zf200 91).trans rfl
theorem d200_94 : zt_code 200 94 = some (.aload_n 0, 0, 0, 0) := (zf200 94).trans rfl
theorem d200_95 : zt_code 200 95 = some (.aload_n 1, 0, 0, 0) := (zf200 95).trans rfl
theorem d200_96 : zt_code 200 96 = some (.getfield 139, 5, 18, 0) := (zf200 96).trans rfl
theorem d200_99 : zt_code 200 99 = some (.putfield 139, 5, 18, 0) := (zf200 99).trans rfl
theorem d200_102 : zt_code 200 102 = some (.aload_n 0, 0, 0, 0) := (zf200 102).trans rfl
theorem d200_103 : zt_code 200 103 = some (.aload_n 1, 0, 0, 0) := (zf200 103).trans rfl
theorem d200_104 : zt_code 200 104 = some (.getfield 61, 5, 19, 0) := (zf200 104).trans rfl
theorem d200_107 : zt_code 200 107 = some (.putfield 61, 5, 19, 0) := (zf200 107).trans rfl
theorem d200_110 : zt_code 200 110 = some (.return_, 0, 0, 0) := (zf200 110).trans rfl
/-- FirstAtTheFirstModel.takeFrom(LFirstAtTheFirstModel;)V -/
theorem vc200 {X : zX} {S : zx_S} {C : zx_C} {q : zx_C → Prop} {e : Nat} {a1 : Nat} (hS : zs_5 S e) (h1 : zs_5 S a1) (h : zW X 1 200 18 [.ref e, .ref a1, .int 0] [] S (zp (zp C e 10 (C.1 a1 10)) e 11 (Prod.fst (zp C e 10 (C.1 a1 10)) a1 11)) (zQv q)) : zCd X 1 200 [.ref e, .ref a1] S C (zQv q) := by
  refine zc_in ml_200 rfl ?_
  refine zw_aload_n (n := 1) d200_0 rfl rfl ?_
  refine zw_aload_n (n := 2) d200_1 rfl rfl ?_
  refine zw_geti (n := 5) d200_2 rfl (zj_5 h1).1 (zj_5 h1).2 ?_
  refine zw_puti (n := 8) d200_5 rfl (zj_5 hS).1 (zj_5 hS).2 ?_
  refine zw_aload_n (n := 9) d200_8 rfl rfl ?_
  refine zw_aload_n (n := 10) d200_9 rfl rfl ?_
  refine zw_geti (n := 13) d200_10 rfl (zj_5 h1).1 (zj_5 h1).2 ?_
  refine zw_puti (n := 16) d200_13 rfl (zj_5 hS).1 (zj_5 hS).2 ?_
  refine zw_iconst (n := 17) d200_16 rfl zk_i_0 ?_
  refine zw_istore_n (n := 18) d200_17 rfl rfl rfl ?_
  exact h
theorem vc200_18 {X : zX} {S : zx_S} {C : zx_C} {q : zx_C → Prop} {e : Nat} {a1 : Nat} {i2 : Int32} (hS : zs_5 S e) (h1 : zs_5 S a1) (h : if (i2 : Int32) < 8 then (vp_in i2 8 ∧ (vp_in i2 8 ∧ (zCd X 0 201 [.ref ((a1 + 19) + Int32.toNatClampNeg i2), .ref ((e + 19) + Int32.toNatClampNeg i2)] S C (zQv (fun C3 => zW X 1 200 18 [.ref e, .ref a1, .int (i2 + 1)] [] S C3 (zQv q)))))) else (zCd X 0 201 [.ref (a1 + 27), .ref (e + 27)] S C (zQv (fun C4 => zCd X 0 201 [.ref (a1 + 28), .ref (e + 28)] S (zp C4 e 14 (C4.1 a1 14)) (zQv (fun C5 => zCd X 0 201 [.ref (a1 + 29), .ref (e + 29)] S (zp C5 e 16 (C5.1 a1 16)) (zQv (fun C6 => q (zp (zp C6 e 18 (C6.1 a1 18)) e 19 (Prod.fst (zp C6 e 18 (C6.1 a1 18)) a1 19)))))))))) : zW X 1 200 18 [.ref e, .ref a1, .int i2] [] S C (zQv q) := by
  refine zw_iload_n (n := 19) d200_18 rfl rfl ?_
  refine zw_bipush (n := 21) d200_19 rfl zk_b_8 ?_
  refine zw_ic_ge (n := 24) d200_21 rfl (zite h (fun h => ?_) (fun h => ?_))
  · skip
    refine zw_aload_n (n := 25) d200_24 rfl rfl ?_
    refine zw_getr (n := 28) d200_25 rfl (zj_5 h1).1 (zj_5 h1).2 (zr_5_12 h1) ?_
    refine zw_iload_n (n := 29) d200_28 rfl rfl ?_
    obtain ⟨hi, h⟩ := h
    have hb1 := zb_5_12 h1 (vp_lt hi)
    refine zw_aald (n := 30) d200_29 rfl (za_5_12 h1).1 (za_5_12 h1).2 (by decide) hi hb1.1 ?_
    refine zw_aload_n (n := 31) d200_30 rfl rfl ?_
    refine zw_getr (n := 34) d200_31 rfl (zj_5 hS).1 (zj_5 hS).2 (zr_5_12 hS) ?_
    refine zw_iload_n (n := 35) d200_34 rfl rfl ?_
    obtain ⟨hi, h⟩ := h
    have hb2 := zb_5_12 hS (vp_lt hi)
    refine zw_aald (n := 36) d200_35 rfl (za_5_12 hS).1 (za_5_12 hS).2 (by decide) hi hb2.1 ?_
    refine zw_cV (n := 39) d200_36 (zs_S rfl rfl rfl rfl) (by rw [ml_201]; rfl) (by decide) rfl (zc_mV h (fun C3 h => ?_))
    refine zw_iinc (n := 42) d200_39 rfl rfl zk_i_1 rfl ?_
    refine zw_goto d200_42 ?_
    exact h
  · skip
    refine zw_aload_n (n := 46) d200_45 rfl rfl ?_
    refine zw_getr (n := 49) d200_46 rfl (zj_5 h1).1 (zj_5 h1).2 (zr_5_13 h1) ?_
    refine zw_aload_n (n := 50) d200_49 rfl rfl ?_
    refine zw_getr (n := 53) d200_50 rfl (zj_5 hS).1 (zj_5 hS).2 (zr_5_13 hS) ?_
    refine zw_cV (n := 56) d200_53 (zs_S rfl rfl rfl rfl) (by rw [ml_201]; rfl) (by decide) rfl (zc_mV h (fun C4 h => ?_))
    refine zw_aload_n (n := 57) d200_56 rfl rfl ?_
    refine zw_aload_n (n := 58) d200_57 rfl rfl ?_
    refine zw_geti (n := 61) d200_58 rfl (zj_5 h1).1 (zj_5 h1).2 ?_
    refine zw_puti (n := 64) d200_61 rfl (zj_5 hS).1 (zj_5 hS).2 ?_
    refine zw_aload_n (n := 65) d200_64 rfl rfl ?_
    refine zw_getr (n := 68) d200_65 rfl (zj_5 h1).1 (zj_5 h1).2 (zr_5_15 h1) ?_
    refine zw_aload_n (n := 69) d200_68 rfl rfl ?_
    refine zw_getr (n := 72) d200_69 rfl (zj_5 hS).1 (zj_5 hS).2 (zr_5_15 hS) ?_
    refine zw_cV (n := 75) d200_72 (zs_S rfl rfl rfl rfl) (by rw [ml_201]; rfl) (by decide) rfl (zc_mV h (fun C5 h => ?_))
    refine zw_aload_n (n := 76) d200_75 rfl rfl ?_
    refine zw_aload_n (n := 77) d200_76 rfl rfl ?_
    refine zw_geti (n := 80) d200_77 rfl (zj_5 h1).1 (zj_5 h1).2 ?_
    refine zw_puti (n := 83) d200_80 rfl (zj_5 hS).1 (zj_5 hS).2 ?_
    refine zw_aload_n (n := 84) d200_83 rfl rfl ?_
    refine zw_getr (n := 87) d200_84 rfl (zj_5 h1).1 (zj_5 h1).2 (zr_5_17 h1) ?_
    refine zw_aload_n (n := 88) d200_87 rfl rfl ?_
    refine zw_getr (n := 91) d200_88 rfl (zj_5 hS).1 (zj_5 hS).2 (zr_5_17 hS) ?_
    refine zw_cV (n := 94) d200_91 (zs_S rfl rfl rfl rfl) (by rw [ml_201]; rfl) (by decide) rfl (zc_mV h (fun C6 h => ?_))
    refine zw_aload_n (n := 95) d200_94 rfl rfl ?_
    refine zw_aload_n (n := 96) d200_95 rfl rfl ?_
    refine zw_geti (n := 99) d200_96 rfl (zj_5 h1).1 (zj_5 h1).2 ?_
    refine zw_puti (n := 102) d200_99 rfl (zj_5 hS).1 (zj_5 hS).2 ?_
    refine zw_aload_n (n := 103) d200_102 rfl rfl ?_
    refine zw_aload_n (n := 104) d200_103 rfl rfl ?_
    refine zw_geti (n := 107) d200_104 rfl (zj_5 h1).1 (zj_5 h1).2 ?_
    refine zw_puti (n := 110) d200_107 rfl (zj_5 hS).1 (zj_5 hS).2 ?_
    exact zw_ret d200_110 ⟨rfl, h⟩

set_option maxRecDepth 20000 in
theorem zf201 (pc : Nat) : zt_code 201 pc = zt_fd zl_201 pc := rfl
theorem d201_0 : zt_code 201 0 = some (.iconst (0), 0, 0, 0) := (zf201 0).trans rfl
theorem d201_1 : zt_code 201 1 = some (.istore_n 2, 0, 0, 0) := (zf201 1).trans rfl
theorem d201_2 : zt_code 201 2 = some (.iload_n 2, 0, 0, 0) := (zf201 2).trans rfl
theorem d201_3 : zt_code 201 3 = some (.aload_n 0, 0, 0, 0) := (zf201 3).trans rfl
theorem d201_4 : zt_code 201 4 = some (.arraylength, 0, 0, 0) := (zf201 4).trans rfl
theorem d201_5 : zt_code 201 5 = some (.if_icmp .ge (15), 0, 20, 0) := (zf201 5).trans rfl
theorem d201_8 : zt_code 201 8 = some (.aload_n 1, 0, 0, 0) := (zf201 8).trans rfl
theorem d201_9 : zt_code 201 9 = some (.iload_n 2, 0, 0, 0) := (zf201 9).trans rfl
theorem d201_10 : zt_code 201 10 = some (.aload_n 0, 0, 0, 0) := (zf201 10).trans rfl
theorem d201_11 : zt_code 201 11 = some (.iload_n 2, 0, 0, 0) := (zf201 11).trans rfl
theorem d201_12 : zt_code 201 12 = some (.iaload, 0, 0, 0) := (zf201 12).trans rfl
theorem d201_13 : zt_code 201 13 = some (.iastore, 0, 0, 0) := (zf201 13).trans rfl
theorem d201_14 : zt_code 201 14 = some (.iinc 2 (1), 0, 0, 0) := (zf201 14).trans rfl
theorem d201_17 : zt_code 201 17 = some (.goto (-15), 0, 2, 0) := (zf201 17).trans rfl
theorem d201_20 : zt_code 201 20 = some (.return_, 0, 0, 0) := (zf201 20).trans rfl
/-- FirstAtTheFirstModel.over([I[I)V -/
theorem vc201 {X : zX} {S : zx_S} {C : zx_C} {q : zx_C → Prop} {a1 n1 : Nat} {a2 n2 : Nat} (h1 : a1 < 900000 ∧ S.1 a1 = (10, n1)) (h2 : a2 < 900000 ∧ S.1 a2 = (10, n2)) (h : zW X 0 201 2 [.ref a1, .ref a2, .int 0] [] S C (zQv q)) : zCd X 0 201 [.ref a1, .ref a2] S C (zQv q) := by
  refine zc_in ml_201 rfl ?_
  refine zw_iconst (n := 1) d201_0 rfl zk_i_0 ?_
  refine zw_istore_n (n := 2) d201_1 rfl rfl rfl ?_
  exact h
theorem vc201_2 {X : zX} {S : zx_S} {C : zx_C} {q : zx_C → Prop} {a1 n1 : Nat} {a2 n2 : Nat} {i2 : Int32} (h1 : a1 < 900000 ∧ S.1 a1 = (10, n1)) (h2 : a2 < 900000 ∧ S.1 a2 = (10, n2)) (h : if (i2 : Int32) < (Int32.ofNat n1) then (vp_in i2 n1 ∧ (vp_in i2 n2 ∧ (zW X 0 201 2 [.ref a1, .ref a2, .int (i2 + 1)] [] S (zp C a2 (Int32.toNatClampNeg i2) (C.1 a1 (Int32.toNatClampNeg i2))) (zQv q)))) else (q C)) : zW X 0 201 2 [.ref a1, .ref a2, .int i2] [] S C (zQv q) := by
  refine zw_iload_n (n := 3) d201_2 rfl rfl ?_
  refine zw_aload_n (n := 4) d201_3 rfl rfl ?_
  refine zw_alen (n := 5) d201_4 rfl h1.1 h1.2 (by decide) rfl ?_
  refine zw_ic_ge (n := 8) d201_5 rfl (zite h (fun h => ?_) (fun h => ?_))
  · skip
    refine zw_aload_n (n := 9) d201_8 rfl rfl ?_
    refine zw_iload_n (n := 10) d201_9 rfl rfl ?_
    refine zw_aload_n (n := 11) d201_10 rfl rfl ?_
    refine zw_iload_n (n := 12) d201_11 rfl rfl ?_
    obtain ⟨hi, h⟩ := h
    refine zw_iald (n := 13) d201_12 rfl h1.1 h1.2 hi ?_
    obtain ⟨hi, h⟩ := h
    refine zw_iast (n := 14) d201_13 rfl h2.1 h2.2 hi ?_
    refine zw_iinc (n := 17) d201_14 rfl rfl zk_i_1 rfl ?_
    refine zw_goto d201_17 ?_
    exact h
  · skip
    exact zw_ret d201_20 ⟨rfl, h⟩

set_option maxRecDepth 20000 in
theorem zf202 (pc : Nat) : zt_code 202 pc = zt_fd zl_202 pc := rfl
theorem d202_0 : zt_code 202 0 = some (.aload_n 0, 0, 0, 0) := (zf202 0).trans rfl
theorem d202_1 : zt_code 202 1 = some (.iconst (1), 0, 0, 0) := (zf202 1).trans rfl
theorem d202_2 : zt_code 202 2 = some (.putfield 235, 5, 28, 0) := (zf202 2).trans rfl
theorem d202_5 : zt_code 202 5 = some (.aload_n 0, 0, 0, 0) := (zf202 5).trans rfl
theorem d202_6 : zt_code 202 6 = some (.iconst (0), 0, 0, 0) := (zf202 6).trans rfl
theorem d202_7 : zt_code 202 7 = some (.putfield 171, 5, 22, 0) := (zf202 7).trans rfl
theorem d202_10 : zt_code 202 10 = some (.aload_n 0, 0, 0, 0) := (zf202 10).trans rfl
theorem d202_11 : zt_code 202 11 = some (.invokevirtual 206, 203, 1, 5) := (zf202 11).trans rfl
theorem d202_14 : zt_code 202 14 = some (.aload_n 0, 0, 0, 0) := (zf202 14).trans rfl
theorem d202_15 : zt_code 202 15 = some (.invokevirtual 238, 206, 1, 5) := (zf202 15).trans rfl
theorem d202_18 : zt_code 202 18 = some (.ifCond .ne (5), 0, 23, 0) := (zf202 18).trans rfl
theorem d202_21 : zt_code 202 21 = some (.iconst (0), 0, 0, 0) := (zf202 21).trans rfl
theorem d202_22 : zt_code 202 22 = some (.ireturn, 1, 0, 0) := (zf202 22).trans rfl
theorem d202_23 : zt_code 202 23 = some (.aload_n 0, 0, 0, 0) := (zf202 23).trans rfl
theorem d202_24 : zt_code 202 24 = some (.getfield 180, 5, 23, 0) := (zf202 24).trans rfl
theorem d202_27 : zt_code 202 27 = some (.ifCond .eq (42), 0, 69, 0) := (zf202 27).trans rfl
theorem d202_30 : zt_code 202 30 = some (.aload_n 0, 0, 0, 0) := (zf202 30).trans rfl
theorem d202_31 : zt_code 202 31 = some (.getfield 180, 5, 23, 0) := (zf202 31).trans rfl
theorem d202_34 : zt_code 202 34 = some (.iconst (3), 0, 0, 0) := (zf202 34).trans rfl
theorem d202_35 : zt_code 202 35 = some (.if_icmp .eq (8), 0, 43, 0) := (zf202 35).trans rfl
theorem d202_38 : zt_code 202 38 = some (.aload_n 0, 0, 0, 0) := (zf202 38).trans rfl
theorem d202_39 : zt_code 202 39 = some (.invokevirtual 202, 210, 1, 5) := (zf202 39).trans rfl
theorem d202_42 : zt_code 202 42 = some (.ireturn, 1, 0, 0) := (zf202 42).trans rfl
theorem d202_43 : zt_code 202 43 = some (.aload_n 0, 0, 0, 0) := (zf202 43).trans rfl
theorem d202_44 : zt_code 202 44 = some (.invokevirtual 206, 203, 1, 5) := (zf202 44).trans rfl
theorem d202_47 : zt_code 202 47 = some (.aload_n 0, 0, 0, 0) := (zf202 47).trans rfl
theorem d202_48 : zt_code 202 48 = some (.invokevirtual 238, 206, 1, 5) := (zf202 48).trans rfl
theorem d202_51 : zt_code 202 51 = some (.ifCond .ne (5), 0, 56, 0) := (zf202 51).trans rfl
theorem d202_54 : zt_code 202 54 = some (.iconst (0), 0, 0, 0) := (zf202 54).trans rfl
theorem d202_55 : zt_code 202 55 = some (.ireturn, 1, 0, 0) := (zf202 55).trans rfl
theorem d202_56 : zt_code 202 56 = some (.aload_n 0, 0, 0, 0) := (zf202 56).trans rfl
theorem d202_57 : zt_code 202 57 = some (.dup, 0, 0, 0) := (zf202 57).trans rfl
theorem d202_58 : zt_code 202 58 = some (.getfield 235, 5, 28, 0) := (zf202 58).trans rfl
theorem d202_61 : zt_code 202 61 = some (.iconst (1), 0, 0, 0) := (zf202 61).trans rfl
theorem d202_62 : zt_code 202 62 = some (.iadd, 0, 0, 0) := (zf202 62).trans rfl
theorem d202_63 : zt_code 202 63 = some (.putfield 235, 5, 28, 0) := (zf202 63).trans rfl
theorem d202_66 : zt_code 202 66 = some (.goto (-43), 0, 23, 0) := (zf202 66).trans rfl
theorem d202_69 : zt_code 202 69 = some (.iconst (1), 0, 0, 0) := (zf202 69).trans rfl
theorem d202_70 : zt_code 202 70 = some (.ireturn, 1, 0, 0) := (zf202 70).trans rfl
/-- FirstAtTheFirstModel.readAll()Z -/
theorem vc202 {X : zX} {S : zx_S} {C : zx_C} {q : Int32 → zx_C → Prop} {e : Nat} (hS : zs_5 S e) (h : zCd X 1 203 [.ref e] S (zp (zp C e 28 1) e 22 0) (zQv (fun C1 => zCd X 5 206 [.ref e] S C1 (zQi (fun r2 C2 => if (r2 : Int32) = 0 then (q 0 C2) else (zW X 6 202 23 [.ref e] [] S C2 (zQi q))))))) : zCd X 6 202 [.ref e] S C (zQi q) := by
  refine zc_in ml_202 rfl ?_
  refine zw_aload_n (n := 1) d202_0 rfl rfl ?_
  refine zw_iconst (n := 2) d202_1 rfl zk_i_1 ?_
  refine zw_puti (n := 5) d202_2 rfl (zj_5 hS).1 (zj_5 hS).2 ?_
  refine zw_aload_n (n := 6) d202_5 rfl rfl ?_
  refine zw_iconst (n := 7) d202_6 rfl zk_i_0 ?_
  refine zw_puti (n := 10) d202_7 rfl (zj_5 hS).1 (zj_5 hS).2 ?_
  refine zw_aload_n (n := 11) d202_10 rfl rfl ?_
  refine zw_cV (n := 14) d202_11 (zs_V rfl rfl rfl rfl (by decide) (zj_5 hS).1 (zq_5 hS)) (by rw [ml_203]; rfl) (by decide) rfl (zc_mV h (fun C1 h => ?_))
  refine zw_aload_n (n := 15) d202_14 rfl rfl ?_
  refine zw_cI (n := 18) d202_15 (zs_V rfl rfl rfl rfl (by decide) (zj_5 hS).1 (zq_5 hS)) (by rw [ml_206]; rfl) (by decide) rfl (zc_mI h (fun r2 C2 h => ?_))
  refine zw_if_ne (n := 21) d202_18 rfl (zite h (fun h => ?_) (fun h => ?_))
  · skip
    refine zw_iconst (n := 22) d202_21 rfl zk_i_0 ?_
    exact zw_iret d202_22 rfl ⟨_, rfl, h⟩
  · skip
    exact h
theorem vc202_23 {X : zX} {S : zx_S} {C : zx_C} {q : Int32 → zx_C → Prop} {e : Nat}  (hS : zs_5 S e) (h : if ((C.1 e 23) : Int32) = 0 then (q 1 C) else (if ((C.1 e 23) : Int32) = 3 then (zCd X 1 203 [.ref e] S C (zQv (fun C1 => zCd X 5 206 [.ref e] S C1 (zQi (fun r2 C2 => if (r2 : Int32) = 0 then (q 0 C2) else (zW X 6 202 23 [.ref e] [] S (zp C2 e 28 ((C2.1 e 28) + 1)) (zQi q))))))) else (zCd X 0 210 [.ref e] S C (zQi (fun r3 C3 => (r3 = 0 ∨ r3 = 1) ∧ (q r3 C3)))))) : zW X 6 202 23 [.ref e] [] S C (zQi q) := by
  refine zw_aload_n (n := 24) d202_23 rfl rfl ?_
  refine zw_geti (n := 27) d202_24 rfl (zj_5 hS).1 (zj_5 hS).2 ?_
  refine zw_if_eq (n := 30) d202_27 rfl (zite h (fun h => ?_) (fun h => ?_))
  · skip
    refine zw_iconst (n := 70) d202_69 rfl zk_i_1 ?_
    exact zw_iret d202_70 rfl ⟨_, rfl, h⟩
  · skip
    refine zw_aload_n (n := 31) d202_30 rfl rfl ?_
    refine zw_geti (n := 34) d202_31 rfl (zj_5 hS).1 (zj_5 hS).2 ?_
    refine zw_iconst (n := 35) d202_34 rfl zk_i_3 ?_
    refine zw_ic_eq (n := 38) d202_35 rfl (zite h (fun h => ?_) (fun h => ?_))
    · skip
      refine zw_aload_n (n := 44) d202_43 rfl rfl ?_
      refine zw_cV (n := 47) d202_44 (zs_V rfl rfl rfl rfl (by decide) (zj_5 hS).1 (zq_5 hS)) (by rw [ml_203]; rfl) (by decide) rfl (zc_mV h (fun C1 h => ?_))
      refine zw_aload_n (n := 48) d202_47 rfl rfl ?_
      refine zw_cI (n := 51) d202_48 (zs_V rfl rfl rfl rfl (by decide) (zj_5 hS).1 (zq_5 hS)) (by rw [ml_206]; rfl) (by decide) rfl (zc_mI h (fun r2 C2 h => ?_))
      refine zw_if_ne (n := 54) d202_51 rfl (zite h (fun h => ?_) (fun h => ?_))
      · skip
        refine zw_iconst (n := 55) d202_54 rfl zk_i_0 ?_
        exact zw_iret d202_55 rfl ⟨_, rfl, h⟩
      · skip
        refine zw_aload_n (n := 57) d202_56 rfl rfl ?_
        refine zw_dup (n := 58) d202_57 rfl rfl ?_
        refine zw_geti (n := 61) d202_58 rfl (zj_5 hS).1 (zj_5 hS).2 ?_
        refine zw_iconst (n := 62) d202_61 rfl zk_i_1 ?_
        refine zw_iadd (n := 63) d202_62 rfl ?_
        refine zw_puti (n := 66) d202_63 rfl (zj_5 hS).1 (zj_5 hS).2 ?_
        refine zw_goto d202_66 ?_
        exact h
    · skip
      refine zw_aload_n (n := 39) d202_38 rfl rfl ?_
      refine zw_cI (n := 42) d202_39 (zs_V rfl rfl rfl rfl (by decide) (zj_5 hS).1 (zq_5 hS)) (by rw [ml_210]; rfl) (by decide) rfl (zc_mI h (fun r3 C3 h => ?_))
      obtain ⟨hb, h⟩ := h
      exact zw_iret d202_42 (zx_rb1 hb) ⟨_, rfl, h⟩

set_option maxRecDepth 20000 in
theorem zf203 (pc : Nat) : zt_code 203 pc = zt_fd zl_203 pc := rfl
theorem d203_0 : zt_code 203 0 = some (.aload_n 0, 0, 0, 0) := (zf203 0).trans rfl
theorem d203_1 : zt_code 203 1 = some (.getfield 171, 5, 22, 0) := (zf203 1).trans rfl
theorem d203_4 : zt_code 203 4 = some (.aload_n 0, 0, 0, 0) := (zf203 4).trans rfl
theorem d203_5 : zt_code 203 5 = some (.getfield 168, 5, 8, 0) := (zf203 5).trans rfl
theorem d203_8 : zt_code 203 8 = some (.if_icmp .ge (30), 0, 38, 0) := (zf203 8).trans rfl
theorem d203_11 : zt_code 203 11 = some (.aload_n 0, 0, 0, 0) := (zf203 11).trans rfl
theorem d203_12 : zt_code 203 12 = some (.getfield 34, 5, 7, 1) := (zf203 12).trans rfl
theorem d203_15 : zt_code 203 15 = some (.aload_n 0, 0, 0, 0) := (zf203 15).trans rfl
theorem d203_16 : zt_code 203 16 = some (.getfield 171, 5, 22, 0) := (zf203 16).trans rfl
theorem d203_19 : zt_code 203 19 = some (.iaload, 0, 0, 0) := (zf203 19).trans rfl
theorem d203_20 : zt_code 203 20 = some (.bipush (32), 0, 0, 0) := (zf203 20).trans rfl
theorem d203_22 : zt_code 203 22 = some (.if_icmp .ne (16), 0, 38, 0) := (zf203 22).trans rfl
theorem d203_25 : zt_code 203 25 = some (.aload_n 0, 0, 0, 0) := (zf203 25).trans rfl
theorem d203_26 : zt_code 203 26 = some (.dup, 0, 0, 0) := (zf203 26).trans rfl
theorem d203_27 : zt_code 203 27 = some (.getfield 171, 5, 22, 0) := (zf203 27).trans rfl
theorem d203_30 : zt_code 203 30 = some (.iconst (1), 0, 0, 0) := (zf203 30).trans rfl
theorem d203_31 : zt_code 203 31 = some (.iadd, 0, 0, 0) := (zf203 31).trans rfl
theorem d203_32 : zt_code 203 32 = some (.putfield 171, 5, 22, 0) := (zf203 32).trans rfl
theorem d203_35 : zt_code 203 35 = some (.goto (-35), 0, 0, 0) := (zf203 35).trans rfl
theorem d203_38 : zt_code 203 38 = some (.aload_n 0, 0, 0, 0) := (zf203 38).trans rfl
theorem d203_39 : zt_code 203 39 = some (.aload_n 0, 0, 0, 0) := (zf203 39).trans rfl
theorem d203_40 : zt_code 203 40 = some (.getfield 171, 5, 22, 0) := (zf203 40).trans rfl
theorem d203_43 : zt_code 203 43 = some (.putfield 174, 5, 24, 0) := (zf203 43).trans rfl
theorem d203_46 : zt_code 203 46 = some (.aload_n 0, 0, 0, 0) := (zf203 46).trans rfl
theorem d203_47 : zt_code 203 47 = some (.iconst (0), 0, 0, 0) := (zf203 47).trans rfl
theorem d203_48 : zt_code 203 48 = some (.putfield 177, 5, 25, 0) := (zf203 48).trans rfl
theorem d203_51 : zt_code 203 51 = some (.aload_n 0, 0, 0, 0) := (zf203 51).trans rfl
theorem d203_52 : zt_code 203 52 = some (.getfield 171, 5, 22, 0) := (zf203 52).trans rfl
theorem d203_55 : zt_code 203 55 = some (.aload_n 0, 0, 0, 0) := (zf203 55).trans rfl
theorem d203_56 : zt_code 203 56 = some (.getfield 168, 5, 8, 0) := (zf203 56).trans rfl
theorem d203_59 : zt_code 203 59 = some (.if_icmp .ne (11), 0, 70, 0) := (zf203 59).trans rfl
theorem d203_62 : zt_code 203 62 = some (.aload_n 0, 0, 0, 0) := (zf203 62).trans rfl
theorem d203_63 : zt_code 203 63 = some (.iconst (0), 0, 0, 0) := (zf203 63).trans rfl
theorem d203_64 : zt_code 203 64 = some (.putfield 180, 5, 23, 0) := (zf203 64).trans rfl
theorem d203_67 : zt_code 203 67 = some (.goto (196), 0, 263, 0) := (zf203 67).trans rfl
theorem d203_70 : zt_code 203 70 = some (.aload_n 0, 0, 0, 0) := (zf203 70).trans rfl
theorem d203_71 : zt_code 203 71 = some (.getfield 34, 5, 7, 1) := (zf203 71).trans rfl
theorem d203_74 : zt_code 203 74 = some (.aload_n 0, 0, 0, 0) := (zf203 74).trans rfl
theorem d203_75 : zt_code 203 75 = some (.getfield 171, 5, 22, 0) := (zf203 75).trans rfl
theorem d203_78 : zt_code 203 78 = some (.iaload, 0, 0, 0) := (zf203 78).trans rfl
theorem d203_79 : zt_code 203 79 = some (.invokestatic 183, 204, 1, -1) := (zf203 79).trans rfl
theorem d203_82 : zt_code 203 82 = some (.ifCond .eq (47), 0, 129, 0) := (zf203 82).trans rfl
theorem d203_85 : zt_code 203 85 = some (.aload_n 0, 0, 0, 0) := (zf203 85).trans rfl
theorem d203_86 : zt_code 203 86 = some (.iconst (1), 0, 0, 0) := (zf203 86).trans rfl
theorem d203_87 : zt_code 203 87 = some (.putfield 180, 5, 23, 0) := (zf203 87).trans rfl
theorem d203_90 : zt_code 203 90 = some (.aload_n 0, 0, 0, 0) := (zf203 90).trans rfl
theorem d203_91 : zt_code 203 91 = some (.getfield 171, 5, 22, 0) := (zf203 91).trans rfl
theorem d203_94 : zt_code 203 94 = some (.aload_n 0, 0, 0, 0) := (zf203 94).trans rfl
theorem d203_95 : zt_code 203 95 = some (.getfield 168, 5, 8, 0) := (zf203 95).trans rfl
theorem d203_98 : zt_code 203 98 = some (.if_icmp .ge (165), 0, 263, 0) := (zf203 98).trans rfl
theorem d203_101 : zt_code 203 101 = some (.aload_n 0, 0, 0, 0) := (zf203 101).trans rfl
theorem d203_102 : zt_code 203 102 = some (.getfield 34, 5, 7, 1) := (zf203 102).trans rfl
theorem d203_105 : zt_code 203 105 = some (.aload_n 0, 0, 0, 0) := (zf203 105).trans rfl
theorem d203_106 : zt_code 203 106 = some (.getfield 171, 5, 22, 0) := (zf203 106).trans rfl
theorem d203_109 : zt_code 203 109 = some (.iaload, 0, 0, 0) := (zf203 109).trans rfl
theorem d203_110 : zt_code 203 110 = some (.invokestatic 183, 204, 1, -1) := (zf203 110).trans rfl
theorem d203_113 : zt_code 203 113 = some (.ifCond .eq (150), 0, 263, 0) := (zf203 113).trans rfl
theorem d203_116 : zt_code 203 116 = some (.aload_n 0, 0, 0, 0) := (zf203 116).trans rfl
theorem d203_117 : zt_code 203 117 = some (.dup, 0, 0, 0) := (zf203 117).trans rfl
theorem d203_118 : zt_code 203 118 = some (.getfield 171, 5, 22, 0) := (zf203 118).trans rfl
theorem d203_121 : zt_code 203 121 = some (.iconst (1), 0, 0, 0) := (zf203 121).trans rfl
theorem d203_122 : zt_code 203 122 = some (.iadd, 0, 0, 0) := (zf203 122).trans rfl
theorem d203_123 : zt_code 203 123 = some (.putfield 171, 5, 22, 0) := (zf203 123).trans rfl
theorem d203_126 : zt_code 203 126 = some (.goto (-36), 0, 90, 0) := (zf203 126).trans rfl
theorem d203_129 : zt_code 203 129 = some (.aload_n 0, 0, 0, 0) := (zf203 129).trans rfl
theorem d203_130 : zt_code 203 130 = some (.getfield 34, 5, 7, 1) := (zf203 130).trans rfl
theorem d203_133 : zt_code 203 133 = some (.aload_n 0, 0, 0, 0) := (zf203 133).trans rfl
theorem d203_134 : zt_code 203 134 = some (.getfield 171, 5, 22, 0) := (zf203 134).trans rfl
theorem d203_137 : zt_code 203 137 = some (.iaload, 0, 0, 0) := (zf203 137).trans rfl
theorem d203_138 : zt_code 203 138 = some (.invokestatic 186, 205, 1, -1) := (zf203 138).trans rfl
theorem d203_141 : zt_code 203 141 = some (.ifCond .eq (89), 0, 230, 0) := (zf203 141).trans rfl
theorem d203_144 : zt_code 203 144 = some (.aload_n 0, 0, 0, 0) := (zf203 144).trans rfl
theorem d203_145 : zt_code 203 145 = some (.iconst (2), 0, 0, 0) := (zf203 145).trans rfl
theorem d203_146 : zt_code 203 146 = some (.putfield 180, 5, 23, 0) := (zf203 146).trans rfl
theorem d203_149 : zt_code 203 149 = some (.aload_n 0, 0, 0, 0) := (zf203 149).trans rfl
theorem d203_150 : zt_code 203 150 = some (.getfield 171, 5, 22, 0) := (zf203 150).trans rfl
theorem d203_153 : zt_code 203 153 = some (.aload_n 0, 0, 0, 0) := (zf203 153).trans rfl
theorem d203_154 : zt_code 203 154 = some (.getfield 168, 5, 8, 0) := (zf203 154).trans rfl
theorem d203_157 : zt_code 203 157 = some (.if_icmp .ge (106), 0, 263, 0) := (zf203 157).trans rfl
theorem d203_160 : zt_code 203 160 = some (.aload_n 0, 0, 0, 0) := (zf203 160).trans rfl
theorem d203_161 : zt_code 203 161 = some (.getfield 34, 5, 7, 1) := (zf203 161).trans rfl
theorem d203_164 : zt_code 203 164 = some (.aload_n 0, 0, 0, 0) := (zf203 164).trans rfl
theorem d203_165 : zt_code 203 165 = some (.getfield 171, 5, 22, 0) := (zf203 165).trans rfl
theorem d203_168 : zt_code 203 168 = some (.iaload, 0, 0, 0) := (zf203 168).trans rfl
theorem d203_169 : zt_code 203 169 = some (.invokestatic 186, 205, 1, -1) := (zf203 169).trans rfl
theorem d203_172 : zt_code 203 172 = some (.ifCond .eq (91), 0, 263, 0) := (zf203 172).trans rfl
theorem d203_175 : zt_code 203 175 = some (.aload_n 0, 0, 0, 0) := (zf203 175).trans rfl
theorem d203_176 : zt_code 203 176 = some (.aload_n 0, 0, 0, 0) := (zf203 176).trans rfl
theorem d203_177 : zt_code 203 177 = some (.getfield 171, 5, 22, 0) := (zf203 177).trans rfl
theorem d203_180 : zt_code 203 180 = some (.aload_n 0, 0, 0, 0) := (zf203 180).trans rfl
theorem d203_181 : zt_code 203 181 = some (.getfield 174, 5, 24, 0) := (zf203 181).trans rfl
theorem d203_184 : zt_code 203 184 = some (.isub, 0, 0, 0) := (zf203 184).trans rfl
theorem d203_185 : zt_code 203 185 = some (.iconst (4), 0, 0, 0) := (zf203 185).trans rfl
theorem d203_186 : zt_code 203 186 = some (.if_icmp .ge (26), 0, 212, 0) := (zf203 186).trans rfl
theorem d203_189 : zt_code 203 189 = some (.aload_n 0, 0, 0, 0) := (zf203 189).trans rfl
theorem d203_190 : zt_code 203 190 = some (.getfield 177, 5, 25, 0) := (zf203 190).trans rfl
theorem d203_193 : zt_code 203 193 = some (.bipush (10), 0, 0, 0) := (zf203 193).trans rfl
theorem d203_195 : zt_code 203 195 = some (.imul, 0, 0, 0) := (zf203 195).trans rfl
theorem d203_196 : zt_code 203 196 = some (.aload_n 0, 0, 0, 0) := (zf203 196).trans rfl
theorem d203_197 : zt_code 203 197 = some (.getfield 34, 5, 7, 1) := (zf203 197).trans rfl
theorem d203_200 : zt_code 203 200 = some (.aload_n 0, 0, 0, 0) := (zf203 200).trans rfl
theorem d203_201 : zt_code 203 201 = some (.getfield 171, 5, 22, 0) := (zf203 201).trans rfl
theorem d203_204 : zt_code 203 204 = some (.iaload, 0, 0, 0) := (zf203 204).trans rfl
theorem d203_205 : zt_code 203 205 = some (.iadd, 0, 0, 0) := (zf203 205).trans rfl
theorem d203_206 : zt_code 203 206 = some (.bipush (48), 0, 0, 0) := (zf203 206).trans rfl
theorem d203_208 : zt_code 203 208 = some (.isub, 0, 0, 0) := (zf203 208).trans rfl
theorem d203_209 : zt_code 203 209 = some (.goto (5), 0, 214, 0) := (zf203 209).trans rfl
theorem d203_212 : zt_code 203 212 = some (.ldc 189, 0, 0, 100000) := (zf203 212).trans rfl
theorem d203_214 : zt_code 203 214 = some (.putfield 177, 5, 25, 0) := (zf203 214).trans rfl
theorem d203_217 : zt_code 203 217 = some (.aload_n 0, 0, 0, 0) := (zf203 217).trans rfl
theorem d203_218 : zt_code 203 218 = some (.dup, 0, 0, 0) := (zf203 218).trans rfl
theorem d203_219 : zt_code 203 219 = some (.getfield 171, 5, 22, 0) := (zf203 219).trans rfl
theorem d203_222 : zt_code 203 222 = some (.iconst (1), 0, 0, 0) := (zf203 222).trans rfl
theorem d203_223 : zt_code 203 223 = some (.iadd, 0, 0, 0) := (zf203 223).trans rfl
theorem d203_224 : zt_code 203 224 = some (.putfield 171, 5, 22, 0) := (zf203 224).trans rfl
theorem d203_227 : zt_code 203 227 = some (.goto (-78), 0, 149, 0) := (zf203 227).trans rfl
theorem d203_230 : zt_code 203 230 = some (.aload_n 0, 0, 0, 0) := (zf203 230).trans rfl
theorem d203_231 : zt_code 203 231 = some (.aload_n 0, 0, 0, 0) := (zf203 231).trans rfl
theorem d203_232 : zt_code 203 232 = some (.getfield 34, 5, 7, 1) := (zf203 232).trans rfl
theorem d203_235 : zt_code 203 235 = some (.aload_n 0, 0, 0, 0) := (zf203 235).trans rfl
theorem d203_236 : zt_code 203 236 = some (.getfield 171, 5, 22, 0) := (zf203 236).trans rfl
theorem d203_239 : zt_code 203 239 = some (.iaload, 0, 0, 0) := (zf203 239).trans rfl
theorem d203_240 : zt_code 203 240 = some (.bipush (59), 0, 0, 0) := (zf203 240).trans rfl
theorem d203_242 : zt_code 203 242 = some (.if_icmp .ne (7), 0, 249, 0) := (zf203 242).trans rfl
theorem d203_245 : zt_code 203 245 = some (.iconst (3), 0, 0, 0) := (zf203 245).trans rfl
theorem d203_246 : zt_code 203 246 = some (.goto (4), 0, 250, 0) := (zf203 246).trans rfl
theorem d203_249 : zt_code 203 249 = some (.iconst (4), 0, 0, 0) := (zf203 249).trans rfl
theorem d203_250 : zt_code 203 250 = some (.putfield 180, 5, 23, 0) := (zf203 250).trans rfl
theorem d203_253 : zt_code 203 253 = some (.aload_n 0, 0, 0, 0) := (zf203 253).trans rfl
theorem d203_254 : zt_code 203 254 = some (.dup, 0, 0, 0) := (zf203 254).trans rfl
theorem d203_255 : zt_code 203 255 = some (.getfield 171, 5, 22, 0) := (zf203 255).trans rfl
theorem d203_258 : zt_code 203 258 = some (.iconst (1), 0, 0, 0) := (zf203 258).trans rfl
theorem d203_259 : zt_code 203 259 = some (.iadd, 0, 0, 0) := (zf203 259).trans rfl
theorem d203_260 : zt_code 203 260 = some (.putfield 171, 5, 22, 0) := (zf203 260).trans rfl
theorem d203_263 : zt_code 203 263 = some (.return_, 0, 0, 0) := (zf203 263).trans rfl
/-- FirstAtTheFirstModel.look()V -/
theorem vc203 {X : zX} {S : zx_S} {C : zx_C} {q : zx_C → Prop} {e : Nat} (hS : zs_5 S e) (h : zW X 1 203 0 [.ref e] [] S C (zQv q)) : zCd X 1 203 [.ref e] S C (zQv q) := by
  refine zc_in ml_203 rfl ?_
  exact h
theorem vc203_0 {X : zX} {S : zx_S} {C : zx_C} {q : zx_C → Prop} {e : Nat}  (hS : zs_5 S e) (h : if ((C.1 e 22) : Int32) < (C.1 e 8) then (vp_in (C.1 e 22) 250 ∧ (if ((C.1 (e + 16) (Int32.toNatClampNeg (C.1 e 22))) : Int32) = 32 then (zW X 1 203 0 [.ref e] [] S (zp C e 22 ((C.1 e 22) + 1)) (zQv q)) else (if ((Prod.fst (zp (zp C e 24 (C.1 e 22)) e 25 0) e 22) : Int32) = (Prod.fst (zp (zp C e 24 (C.1 e 22)) e 25 0) e 8) then (q (zp (zp (zp C e 24 (C.1 e 22)) e 25 0) e 23 0)) else (vp_in (Prod.fst (zp (zp C e 24 (C.1 e 22)) e 25 0) e 22) 250 ∧ (zCd X 0 204 [.int ((Prod.fst (zp (zp C e 24 (C.1 e 22)) e 25 0)) (e + 16) (Int32.toNatClampNeg (Prod.fst (zp (zp C e 24 (C.1 e 22)) e 25 0) e 22)))] S (zp (zp C e 24 (C.1 e 22)) e 25 0) (zQi (fun r1 C1 => if (r1 : Int32) = 0 then (vp_in (C1.1 e 22) 250 ∧ (zCd X 0 205 [.int (C1.1 (e + 16) (Int32.toNatClampNeg (C1.1 e 22)))] S C1 (zQi (fun r2 C2 => if (r2 : Int32) = 0 then (vp_in (C2.1 e 22) 250 ∧ (if ((C2.1 (e + 16) (Int32.toNatClampNeg (C2.1 e 22))) : Int32) = 59 then (q (zp (zp C2 e 23 3) e 22 ((Prod.fst (zp C2 e 23 3) e 22) + 1))) else (q (zp (zp C2 e 23 4) e 22 ((Prod.fst (zp C2 e 23 4) e 22) + 1))))) else (zW X 1 203 149 [.ref e] [] S (zp C2 e 23 2) (zQv q)))))) else (zW X 1 203 90 [.ref e] [] S (zp C1 e 23 1) (zQv q))))))))) else (if ((Prod.fst (zp (zp C e 24 (C.1 e 22)) e 25 0) e 22) : Int32) = (Prod.fst (zp (zp C e 24 (C.1 e 22)) e 25 0) e 8) then (q (zp (zp (zp C e 24 (C.1 e 22)) e 25 0) e 23 0)) else (vp_in (Prod.fst (zp (zp C e 24 (C.1 e 22)) e 25 0) e 22) 250 ∧ (zCd X 0 204 [.int ((Prod.fst (zp (zp C e 24 (C.1 e 22)) e 25 0)) (e + 16) (Int32.toNatClampNeg (Prod.fst (zp (zp C e 24 (C.1 e 22)) e 25 0) e 22)))] S (zp (zp C e 24 (C.1 e 22)) e 25 0) (zQi (fun r3 C3 => if (r3 : Int32) = 0 then (vp_in (C3.1 e 22) 250 ∧ (zCd X 0 205 [.int (C3.1 (e + 16) (Int32.toNatClampNeg (C3.1 e 22)))] S C3 (zQi (fun r4 C4 => if (r4 : Int32) = 0 then (vp_in (C4.1 e 22) 250 ∧ (if ((C4.1 (e + 16) (Int32.toNatClampNeg (C4.1 e 22))) : Int32) = 59 then (q (zp (zp C4 e 23 3) e 22 ((Prod.fst (zp C4 e 23 3) e 22) + 1))) else (q (zp (zp C4 e 23 4) e 22 ((Prod.fst (zp C4 e 23 4) e 22) + 1))))) else (zW X 1 203 149 [.ref e] [] S (zp C4 e 23 2) (zQv q)))))) else (zW X 1 203 90 [.ref e] [] S (zp C3 e 23 1) (zQv q)))))))) : zW X 1 203 0 [.ref e] [] S C (zQv q) := by
  refine zw_aload_n (n := 1) d203_0 rfl rfl ?_
  refine zw_geti (n := 4) d203_1 rfl (zj_5 hS).1 (zj_5 hS).2 ?_
  refine zw_aload_n (n := 5) d203_4 rfl rfl ?_
  refine zw_geti (n := 8) d203_5 rfl (zj_5 hS).1 (zj_5 hS).2 ?_
  refine zw_ic_ge (n := 11) d203_8 rfl (zite h (fun h => ?_) (fun h => ?_))
  · skip
    refine zw_aload_n (n := 12) d203_11 rfl rfl ?_
    refine zw_getr (n := 15) d203_12 rfl (zj_5 hS).1 (zj_5 hS).2 (zr_5_7 hS) ?_
    refine zw_aload_n (n := 16) d203_15 rfl rfl ?_
    refine zw_geti (n := 19) d203_16 rfl (zj_5 hS).1 (zj_5 hS).2 ?_
    obtain ⟨hi, h⟩ := h
    refine zw_iald (n := 20) d203_19 rfl (za_5_7 hS).1 (za_5_7 hS).2 hi ?_
    refine zw_bipush (n := 22) d203_20 rfl zk_b_32 ?_
    refine zw_ic_ne (n := 25) d203_22 rfl (zite h (fun h => ?_) (fun h => ?_))
    · skip
      refine zw_aload_n (n := 26) d203_25 rfl rfl ?_
      refine zw_dup (n := 27) d203_26 rfl rfl ?_
      refine zw_geti (n := 30) d203_27 rfl (zj_5 hS).1 (zj_5 hS).2 ?_
      refine zw_iconst (n := 31) d203_30 rfl zk_i_1 ?_
      refine zw_iadd (n := 32) d203_31 rfl ?_
      refine zw_puti (n := 35) d203_32 rfl (zj_5 hS).1 (zj_5 hS).2 ?_
      refine zw_goto d203_35 ?_
      exact h
    · skip
      refine zw_aload_n (n := 39) d203_38 rfl rfl ?_
      refine zw_aload_n (n := 40) d203_39 rfl rfl ?_
      refine zw_geti (n := 43) d203_40 rfl (zj_5 hS).1 (zj_5 hS).2 ?_
      refine zw_puti (n := 46) d203_43 rfl (zj_5 hS).1 (zj_5 hS).2 ?_
      refine zw_aload_n (n := 47) d203_46 rfl rfl ?_
      refine zw_iconst (n := 48) d203_47 rfl zk_i_0 ?_
      refine zw_puti (n := 51) d203_48 rfl (zj_5 hS).1 (zj_5 hS).2 ?_
      refine zw_aload_n (n := 52) d203_51 rfl rfl ?_
      refine zw_geti (n := 55) d203_52 rfl (zj_5 hS).1 (zj_5 hS).2 ?_
      refine zw_aload_n (n := 56) d203_55 rfl rfl ?_
      refine zw_geti (n := 59) d203_56 rfl (zj_5 hS).1 (zj_5 hS).2 ?_
      refine zw_ic_ne (n := 62) d203_59 rfl (zite h (fun h => ?_) (fun h => ?_))
      · skip
        refine zw_aload_n (n := 63) d203_62 rfl rfl ?_
        refine zw_iconst (n := 64) d203_63 rfl zk_i_0 ?_
        refine zw_puti (n := 67) d203_64 rfl (zj_5 hS).1 (zj_5 hS).2 ?_
        refine zw_goto d203_67 ?_
        exact zw_ret d203_263 ⟨rfl, h⟩
      · skip
        refine zw_aload_n (n := 71) d203_70 rfl rfl ?_
        refine zw_getr (n := 74) d203_71 rfl (zj_5 hS).1 (zj_5 hS).2 (zr_5_7 hS) ?_
        refine zw_aload_n (n := 75) d203_74 rfl rfl ?_
        refine zw_geti (n := 78) d203_75 rfl (zj_5 hS).1 (zj_5 hS).2 ?_
        obtain ⟨hi, h⟩ := h
        refine zw_iald (n := 79) d203_78 rfl (za_5_7 hS).1 (za_5_7 hS).2 hi ?_
        refine zw_cI (n := 82) d203_79 (zs_S rfl rfl rfl rfl) (by rw [ml_204]; rfl) (by decide) rfl (zc_mI h (fun r1 C1 h => ?_))
        refine zw_if_eq (n := 85) d203_82 rfl (zite h (fun h => ?_) (fun h => ?_))
        · skip
          refine zw_aload_n (n := 130) d203_129 rfl rfl ?_
          refine zw_getr (n := 133) d203_130 rfl (zj_5 hS).1 (zj_5 hS).2 (zr_5_7 hS) ?_
          refine zw_aload_n (n := 134) d203_133 rfl rfl ?_
          refine zw_geti (n := 137) d203_134 rfl (zj_5 hS).1 (zj_5 hS).2 ?_
          obtain ⟨hi, h⟩ := h
          refine zw_iald (n := 138) d203_137 rfl (za_5_7 hS).1 (za_5_7 hS).2 hi ?_
          refine zw_cI (n := 141) d203_138 (zs_S rfl rfl rfl rfl) (by rw [ml_205]; rfl) (by decide) rfl (zc_mI h (fun r2 C2 h => ?_))
          refine zw_if_eq (n := 144) d203_141 rfl (zite h (fun h => ?_) (fun h => ?_))
          · skip
            refine zw_aload_n (n := 231) d203_230 rfl rfl ?_
            refine zw_aload_n (n := 232) d203_231 rfl rfl ?_
            refine zw_getr (n := 235) d203_232 rfl (zj_5 hS).1 (zj_5 hS).2 (zr_5_7 hS) ?_
            refine zw_aload_n (n := 236) d203_235 rfl rfl ?_
            refine zw_geti (n := 239) d203_236 rfl (zj_5 hS).1 (zj_5 hS).2 ?_
            obtain ⟨hi, h⟩ := h
            refine zw_iald (n := 240) d203_239 rfl (za_5_7 hS).1 (za_5_7 hS).2 hi ?_
            refine zw_bipush (n := 242) d203_240 rfl zk_b_59 ?_
            refine zw_ic_ne (n := 245) d203_242 rfl (zite h (fun h => ?_) (fun h => ?_))
            · skip
              refine zw_iconst (n := 246) d203_245 rfl zk_i_3 ?_
              refine zw_goto d203_246 ?_
              refine zw_puti (n := 253) d203_250 rfl (zj_5 hS).1 (zj_5 hS).2 ?_
              refine zw_aload_n (n := 254) d203_253 rfl rfl ?_
              refine zw_dup (n := 255) d203_254 rfl rfl ?_
              refine zw_geti (n := 258) d203_255 rfl (zj_5 hS).1 (zj_5 hS).2 ?_
              refine zw_iconst (n := 259) d203_258 rfl zk_i_1 ?_
              refine zw_iadd (n := 260) d203_259 rfl ?_
              refine zw_puti (n := 263) d203_260 rfl (zj_5 hS).1 (zj_5 hS).2 ?_
              exact zw_ret d203_263 ⟨rfl, h⟩
            · skip
              refine zw_iconst (n := 250) d203_249 rfl zk_i_4 ?_
              refine zw_puti (n := 253) d203_250 rfl (zj_5 hS).1 (zj_5 hS).2 ?_
              refine zw_aload_n (n := 254) d203_253 rfl rfl ?_
              refine zw_dup (n := 255) d203_254 rfl rfl ?_
              refine zw_geti (n := 258) d203_255 rfl (zj_5 hS).1 (zj_5 hS).2 ?_
              refine zw_iconst (n := 259) d203_258 rfl zk_i_1 ?_
              refine zw_iadd (n := 260) d203_259 rfl ?_
              refine zw_puti (n := 263) d203_260 rfl (zj_5 hS).1 (zj_5 hS).2 ?_
              exact zw_ret d203_263 ⟨rfl, h⟩
          · skip
            refine zw_aload_n (n := 145) d203_144 rfl rfl ?_
            refine zw_iconst (n := 146) d203_145 rfl zk_i_2 ?_
            refine zw_puti (n := 149) d203_146 rfl (zj_5 hS).1 (zj_5 hS).2 ?_
            exact h
        · skip
          refine zw_aload_n (n := 86) d203_85 rfl rfl ?_
          refine zw_iconst (n := 87) d203_86 rfl zk_i_1 ?_
          refine zw_puti (n := 90) d203_87 rfl (zj_5 hS).1 (zj_5 hS).2 ?_
          exact h
  · skip
    refine zw_aload_n (n := 39) d203_38 rfl rfl ?_
    refine zw_aload_n (n := 40) d203_39 rfl rfl ?_
    refine zw_geti (n := 43) d203_40 rfl (zj_5 hS).1 (zj_5 hS).2 ?_
    refine zw_puti (n := 46) d203_43 rfl (zj_5 hS).1 (zj_5 hS).2 ?_
    refine zw_aload_n (n := 47) d203_46 rfl rfl ?_
    refine zw_iconst (n := 48) d203_47 rfl zk_i_0 ?_
    refine zw_puti (n := 51) d203_48 rfl (zj_5 hS).1 (zj_5 hS).2 ?_
    refine zw_aload_n (n := 52) d203_51 rfl rfl ?_
    refine zw_geti (n := 55) d203_52 rfl (zj_5 hS).1 (zj_5 hS).2 ?_
    refine zw_aload_n (n := 56) d203_55 rfl rfl ?_
    refine zw_geti (n := 59) d203_56 rfl (zj_5 hS).1 (zj_5 hS).2 ?_
    refine zw_ic_ne (n := 62) d203_59 rfl (zite h (fun h => ?_) (fun h => ?_))
    · skip
      refine zw_aload_n (n := 63) d203_62 rfl rfl ?_
      refine zw_iconst (n := 64) d203_63 rfl zk_i_0 ?_
      refine zw_puti (n := 67) d203_64 rfl (zj_5 hS).1 (zj_5 hS).2 ?_
      refine zw_goto d203_67 ?_
      exact zw_ret d203_263 ⟨rfl, h⟩
    · skip
      refine zw_aload_n (n := 71) d203_70 rfl rfl ?_
      refine zw_getr (n := 74) d203_71 rfl (zj_5 hS).1 (zj_5 hS).2 (zr_5_7 hS) ?_
      refine zw_aload_n (n := 75) d203_74 rfl rfl ?_
      refine zw_geti (n := 78) d203_75 rfl (zj_5 hS).1 (zj_5 hS).2 ?_
      obtain ⟨hi, h⟩ := h
      refine zw_iald (n := 79) d203_78 rfl (za_5_7 hS).1 (za_5_7 hS).2 hi ?_
      refine zw_cI (n := 82) d203_79 (zs_S rfl rfl rfl rfl) (by rw [ml_204]; rfl) (by decide) rfl (zc_mI h (fun r3 C3 h => ?_))
      refine zw_if_eq (n := 85) d203_82 rfl (zite h (fun h => ?_) (fun h => ?_))
      · skip
        refine zw_aload_n (n := 130) d203_129 rfl rfl ?_
        refine zw_getr (n := 133) d203_130 rfl (zj_5 hS).1 (zj_5 hS).2 (zr_5_7 hS) ?_
        refine zw_aload_n (n := 134) d203_133 rfl rfl ?_
        refine zw_geti (n := 137) d203_134 rfl (zj_5 hS).1 (zj_5 hS).2 ?_
        obtain ⟨hi, h⟩ := h
        refine zw_iald (n := 138) d203_137 rfl (za_5_7 hS).1 (za_5_7 hS).2 hi ?_
        refine zw_cI (n := 141) d203_138 (zs_S rfl rfl rfl rfl) (by rw [ml_205]; rfl) (by decide) rfl (zc_mI h (fun r4 C4 h => ?_))
        refine zw_if_eq (n := 144) d203_141 rfl (zite h (fun h => ?_) (fun h => ?_))
        · skip
          refine zw_aload_n (n := 231) d203_230 rfl rfl ?_
          refine zw_aload_n (n := 232) d203_231 rfl rfl ?_
          refine zw_getr (n := 235) d203_232 rfl (zj_5 hS).1 (zj_5 hS).2 (zr_5_7 hS) ?_
          refine zw_aload_n (n := 236) d203_235 rfl rfl ?_
          refine zw_geti (n := 239) d203_236 rfl (zj_5 hS).1 (zj_5 hS).2 ?_
          obtain ⟨hi, h⟩ := h
          refine zw_iald (n := 240) d203_239 rfl (za_5_7 hS).1 (za_5_7 hS).2 hi ?_
          refine zw_bipush (n := 242) d203_240 rfl zk_b_59 ?_
          refine zw_ic_ne (n := 245) d203_242 rfl (zite h (fun h => ?_) (fun h => ?_))
          · skip
            refine zw_iconst (n := 246) d203_245 rfl zk_i_3 ?_
            refine zw_goto d203_246 ?_
            refine zw_puti (n := 253) d203_250 rfl (zj_5 hS).1 (zj_5 hS).2 ?_
            refine zw_aload_n (n := 254) d203_253 rfl rfl ?_
            refine zw_dup (n := 255) d203_254 rfl rfl ?_
            refine zw_geti (n := 258) d203_255 rfl (zj_5 hS).1 (zj_5 hS).2 ?_
            refine zw_iconst (n := 259) d203_258 rfl zk_i_1 ?_
            refine zw_iadd (n := 260) d203_259 rfl ?_
            refine zw_puti (n := 263) d203_260 rfl (zj_5 hS).1 (zj_5 hS).2 ?_
            exact zw_ret d203_263 ⟨rfl, h⟩
          · skip
            refine zw_iconst (n := 250) d203_249 rfl zk_i_4 ?_
            refine zw_puti (n := 253) d203_250 rfl (zj_5 hS).1 (zj_5 hS).2 ?_
            refine zw_aload_n (n := 254) d203_253 rfl rfl ?_
            refine zw_dup (n := 255) d203_254 rfl rfl ?_
            refine zw_geti (n := 258) d203_255 rfl (zj_5 hS).1 (zj_5 hS).2 ?_
            refine zw_iconst (n := 259) d203_258 rfl zk_i_1 ?_
            refine zw_iadd (n := 260) d203_259 rfl ?_
            refine zw_puti (n := 263) d203_260 rfl (zj_5 hS).1 (zj_5 hS).2 ?_
            exact zw_ret d203_263 ⟨rfl, h⟩
        · skip
          refine zw_aload_n (n := 145) d203_144 rfl rfl ?_
          refine zw_iconst (n := 146) d203_145 rfl zk_i_2 ?_
          refine zw_puti (n := 149) d203_146 rfl (zj_5 hS).1 (zj_5 hS).2 ?_
          exact h
      · skip
        refine zw_aload_n (n := 86) d203_85 rfl rfl ?_
        refine zw_iconst (n := 87) d203_86 rfl zk_i_1 ?_
        refine zw_puti (n := 90) d203_87 rfl (zj_5 hS).1 (zj_5 hS).2 ?_
        exact h
theorem vc203_149 {X : zX} {S : zx_S} {C : zx_C} {q : zx_C → Prop} {e : Nat}  (hS : zs_5 S e) (h : if ((C.1 e 22) : Int32) < (C.1 e 8) then (vp_in (C.1 e 22) 250 ∧ (zCd X 0 205 [.int (C.1 (e + 16) (Int32.toNatClampNeg (C.1 e 22)))] S C (zQi (fun r1 C1 => if (r1 : Int32) = 0 then (q C1) else (if (((C1.1 e 22) - (C1.1 e 24)) : Int32) < 4 then (vp_in (C1.1 e 22) 250 ∧ (zW X 1 203 149 [.ref e] [] S (zp (zp C1 e 25 ((((C1.1 e 25) * 10) + (C1.1 (e + 16) (Int32.toNatClampNeg (C1.1 e 22)))) - 48)) e 22 ((Prod.fst (zp C1 e 25 ((((C1.1 e 25) * 10) + (C1.1 (e + 16) (Int32.toNatClampNeg (C1.1 e 22)))) - 48)) e 22) + 1)) (zQv q))) else (zW X 1 203 149 [.ref e] [] S (zp (zp C1 e 25 100000) e 22 ((Prod.fst (zp C1 e 25 100000) e 22) + 1)) (zQv q))))))) else (q C)) : zW X 1 203 149 [.ref e] [] S C (zQv q) := by
  refine zw_aload_n (n := 150) d203_149 rfl rfl ?_
  refine zw_geti (n := 153) d203_150 rfl (zj_5 hS).1 (zj_5 hS).2 ?_
  refine zw_aload_n (n := 154) d203_153 rfl rfl ?_
  refine zw_geti (n := 157) d203_154 rfl (zj_5 hS).1 (zj_5 hS).2 ?_
  refine zw_ic_ge (n := 160) d203_157 rfl (zite h (fun h => ?_) (fun h => ?_))
  · skip
    refine zw_aload_n (n := 161) d203_160 rfl rfl ?_
    refine zw_getr (n := 164) d203_161 rfl (zj_5 hS).1 (zj_5 hS).2 (zr_5_7 hS) ?_
    refine zw_aload_n (n := 165) d203_164 rfl rfl ?_
    refine zw_geti (n := 168) d203_165 rfl (zj_5 hS).1 (zj_5 hS).2 ?_
    obtain ⟨hi, h⟩ := h
    refine zw_iald (n := 169) d203_168 rfl (za_5_7 hS).1 (za_5_7 hS).2 hi ?_
    refine zw_cI (n := 172) d203_169 (zs_S rfl rfl rfl rfl) (by rw [ml_205]; rfl) (by decide) rfl (zc_mI h (fun r1 C1 h => ?_))
    refine zw_if_eq (n := 175) d203_172 rfl (zite h (fun h => ?_) (fun h => ?_))
    · skip
      exact zw_ret d203_263 ⟨rfl, h⟩
    · skip
      refine zw_aload_n (n := 176) d203_175 rfl rfl ?_
      refine zw_aload_n (n := 177) d203_176 rfl rfl ?_
      refine zw_geti (n := 180) d203_177 rfl (zj_5 hS).1 (zj_5 hS).2 ?_
      refine zw_aload_n (n := 181) d203_180 rfl rfl ?_
      refine zw_geti (n := 184) d203_181 rfl (zj_5 hS).1 (zj_5 hS).2 ?_
      refine zw_isub (n := 185) d203_184 rfl ?_
      refine zw_iconst (n := 186) d203_185 rfl zk_i_4 ?_
      refine zw_ic_ge (n := 189) d203_186 rfl (zite h (fun h => ?_) (fun h => ?_))
      · skip
        refine zw_aload_n (n := 190) d203_189 rfl rfl ?_
        refine zw_geti (n := 193) d203_190 rfl (zj_5 hS).1 (zj_5 hS).2 ?_
        refine zw_bipush (n := 195) d203_193 rfl zk_b_10 ?_
        refine zw_imul (n := 196) d203_195 rfl ?_
        refine zw_aload_n (n := 197) d203_196 rfl rfl ?_
        refine zw_getr (n := 200) d203_197 rfl (zj_5 hS).1 (zj_5 hS).2 (zr_5_7 hS) ?_
        refine zw_aload_n (n := 201) d203_200 rfl rfl ?_
        refine zw_geti (n := 204) d203_201 rfl (zj_5 hS).1 (zj_5 hS).2 ?_
        obtain ⟨hi, h⟩ := h
        refine zw_iald (n := 205) d203_204 rfl (za_5_7 hS).1 (za_5_7 hS).2 hi ?_
        refine zw_iadd (n := 206) d203_205 rfl ?_
        refine zw_bipush (n := 208) d203_206 rfl zk_b_48 ?_
        refine zw_isub (n := 209) d203_208 rfl ?_
        refine zw_goto d203_209 ?_
        refine zw_puti (n := 217) d203_214 rfl (zj_5 hS).1 (zj_5 hS).2 ?_
        refine zw_aload_n (n := 218) d203_217 rfl rfl ?_
        refine zw_dup (n := 219) d203_218 rfl rfl ?_
        refine zw_geti (n := 222) d203_219 rfl (zj_5 hS).1 (zj_5 hS).2 ?_
        refine zw_iconst (n := 223) d203_222 rfl zk_i_1 ?_
        refine zw_iadd (n := 224) d203_223 rfl ?_
        refine zw_puti (n := 227) d203_224 rfl (zj_5 hS).1 (zj_5 hS).2 ?_
        refine zw_goto d203_227 ?_
        exact h
      · skip
        refine zw_ldci (n := 214) d203_212 rfl zk_i_100000 ?_
        refine zw_puti (n := 217) d203_214 rfl (zj_5 hS).1 (zj_5 hS).2 ?_
        refine zw_aload_n (n := 218) d203_217 rfl rfl ?_
        refine zw_dup (n := 219) d203_218 rfl rfl ?_
        refine zw_geti (n := 222) d203_219 rfl (zj_5 hS).1 (zj_5 hS).2 ?_
        refine zw_iconst (n := 223) d203_222 rfl zk_i_1 ?_
        refine zw_iadd (n := 224) d203_223 rfl ?_
        refine zw_puti (n := 227) d203_224 rfl (zj_5 hS).1 (zj_5 hS).2 ?_
        refine zw_goto d203_227 ?_
        exact h
  · skip
    exact zw_ret d203_263 ⟨rfl, h⟩
theorem vc203_90 {X : zX} {S : zx_S} {C : zx_C} {q : zx_C → Prop} {e : Nat}  (hS : zs_5 S e) (h : if ((C.1 e 22) : Int32) < (C.1 e 8) then (vp_in (C.1 e 22) 250 ∧ (zCd X 0 204 [.int (C.1 (e + 16) (Int32.toNatClampNeg (C.1 e 22)))] S C (zQi (fun r1 C1 => if (r1 : Int32) = 0 then (q C1) else (zW X 1 203 90 [.ref e] [] S (zp C1 e 22 ((C1.1 e 22) + 1)) (zQv q)))))) else (q C)) : zW X 1 203 90 [.ref e] [] S C (zQv q) := by
  refine zw_aload_n (n := 91) d203_90 rfl rfl ?_
  refine zw_geti (n := 94) d203_91 rfl (zj_5 hS).1 (zj_5 hS).2 ?_
  refine zw_aload_n (n := 95) d203_94 rfl rfl ?_
  refine zw_geti (n := 98) d203_95 rfl (zj_5 hS).1 (zj_5 hS).2 ?_
  refine zw_ic_ge (n := 101) d203_98 rfl (zite h (fun h => ?_) (fun h => ?_))
  · skip
    refine zw_aload_n (n := 102) d203_101 rfl rfl ?_
    refine zw_getr (n := 105) d203_102 rfl (zj_5 hS).1 (zj_5 hS).2 (zr_5_7 hS) ?_
    refine zw_aload_n (n := 106) d203_105 rfl rfl ?_
    refine zw_geti (n := 109) d203_106 rfl (zj_5 hS).1 (zj_5 hS).2 ?_
    obtain ⟨hi, h⟩ := h
    refine zw_iald (n := 110) d203_109 rfl (za_5_7 hS).1 (za_5_7 hS).2 hi ?_
    refine zw_cI (n := 113) d203_110 (zs_S rfl rfl rfl rfl) (by rw [ml_204]; rfl) (by decide) rfl (zc_mI h (fun r1 C1 h => ?_))
    refine zw_if_eq (n := 116) d203_113 rfl (zite h (fun h => ?_) (fun h => ?_))
    · skip
      exact zw_ret d203_263 ⟨rfl, h⟩
    · skip
      refine zw_aload_n (n := 117) d203_116 rfl rfl ?_
      refine zw_dup (n := 118) d203_117 rfl rfl ?_
      refine zw_geti (n := 121) d203_118 rfl (zj_5 hS).1 (zj_5 hS).2 ?_
      refine zw_iconst (n := 122) d203_121 rfl zk_i_1 ?_
      refine zw_iadd (n := 123) d203_122 rfl ?_
      refine zw_puti (n := 126) d203_123 rfl (zj_5 hS).1 (zj_5 hS).2 ?_
      refine zw_goto d203_126 ?_
      exact h
  · skip
    exact zw_ret d203_263 ⟨rfl, h⟩

set_option maxRecDepth 20000 in
theorem zf204 (pc : Nat) : zt_code 204 pc = zt_fd zl_204 pc := rfl
theorem d204_0 : zt_code 204 0 = some (.iload_n 0, 0, 0, 0) := (zf204 0).trans rfl
theorem d204_1 : zt_code 204 1 = some (.bipush (97), 0, 0, 0) := (zf204 1).trans rfl
theorem d204_3 : zt_code 204 3 = some (.if_icmp .lt (13), 0, 16, 0) := (zf204 3).trans rfl
theorem d204_6 : zt_code 204 6 = some (.iload_n 0, 0, 0, 0) := (zf204 6).trans rfl
theorem d204_7 : zt_code 204 7 = some (.bipush (122), 0, 0, 0) := (zf204 7).trans rfl
theorem d204_9 : zt_code 204 9 = some (.if_icmp .gt (7), 0, 16, 0) := (zf204 9).trans rfl
theorem d204_12 : zt_code 204 12 = some (.iconst (1), 0, 0, 0) := (zf204 12).trans rfl
theorem d204_13 : zt_code 204 13 = some (.goto (4), 0, 17, 0) := (zf204 13).trans rfl
theorem d204_16 : zt_code 204 16 = some (.iconst (0), 0, 0, 0) := (zf204 16).trans rfl
theorem d204_17 : zt_code 204 17 = some (.ireturn, 1, 0, 0) := (zf204 17).trans rfl
/-- FirstAtTheFirstModel.isLetter(I)Z -/
theorem vc204 {X : zX} {S : zx_S} {C : zx_C} {q : Int32 → zx_C → Prop} {a1 : Int32}  (h : if (a1 : Int32) < 97 then (q 0 C) else (if (122 : Int32) < a1 then (q 0 C) else (q 1 C))) : zCd X 0 204 [.int a1] S C (zQi q) := by
  refine zc_in ml_204 rfl ?_
  refine zw_iload_n (n := 1) d204_0 rfl rfl ?_
  refine zw_bipush (n := 3) d204_1 rfl zk_b_97 ?_
  refine zw_ic_lt (n := 6) d204_3 rfl (zite h (fun h => ?_) (fun h => ?_))
  · skip
    refine zw_iconst (n := 17) d204_16 rfl zk_i_0 ?_
    exact zw_iret d204_17 rfl ⟨_, rfl, h⟩
  · skip
    refine zw_iload_n (n := 7) d204_6 rfl rfl ?_
    refine zw_bipush (n := 9) d204_7 rfl zk_b_122 ?_
    refine zw_ic_gt (n := 12) d204_9 rfl (zite h (fun h => ?_) (fun h => ?_))
    · skip
      refine zw_iconst (n := 17) d204_16 rfl zk_i_0 ?_
      exact zw_iret d204_17 rfl ⟨_, rfl, h⟩
    · skip
      refine zw_iconst (n := 13) d204_12 rfl zk_i_1 ?_
      refine zw_goto d204_13 ?_
      exact zw_iret d204_17 rfl ⟨_, rfl, h⟩

set_option maxRecDepth 20000 in
theorem zf205 (pc : Nat) : zt_code 205 pc = zt_fd zl_205 pc := rfl
theorem d205_0 : zt_code 205 0 = some (.iload_n 0, 0, 0, 0) := (zf205 0).trans rfl
theorem d205_1 : zt_code 205 1 = some (.bipush (48), 0, 0, 0) := (zf205 1).trans rfl
theorem d205_3 : zt_code 205 3 = some (.if_icmp .lt (13), 0, 16, 0) := (zf205 3).trans rfl
theorem d205_6 : zt_code 205 6 = some (.iload_n 0, 0, 0, 0) := (zf205 6).trans rfl
theorem d205_7 : zt_code 205 7 = some (.bipush (57), 0, 0, 0) := (zf205 7).trans rfl
theorem d205_9 : zt_code 205 9 = some (.if_icmp .gt (7), 0, 16, 0) := (zf205 9).trans rfl
theorem d205_12 : zt_code 205 12 = some (.iconst (1), 0, 0, 0) := (zf205 12).trans rfl
theorem d205_13 : zt_code 205 13 = some (.goto (4), 0, 17, 0) := (zf205 13).trans rfl
theorem d205_16 : zt_code 205 16 = some (.iconst (0), 0, 0, 0) := (zf205 16).trans rfl
theorem d205_17 : zt_code 205 17 = some (.ireturn, 1, 0, 0) := (zf205 17).trans rfl
/-- FirstAtTheFirstModel.isDigit(I)Z -/
theorem vc205 {X : zX} {S : zx_S} {C : zx_C} {q : Int32 → zx_C → Prop} {a1 : Int32}  (h : if (a1 : Int32) < 48 then (q 0 C) else (if (57 : Int32) < a1 then (q 0 C) else (q 1 C))) : zCd X 0 205 [.int a1] S C (zQi q) := by
  refine zc_in ml_205 rfl ?_
  refine zw_iload_n (n := 1) d205_0 rfl rfl ?_
  refine zw_bipush (n := 3) d205_1 rfl zk_b_48 ?_
  refine zw_ic_lt (n := 6) d205_3 rfl (zite h (fun h => ?_) (fun h => ?_))
  · skip
    refine zw_iconst (n := 17) d205_16 rfl zk_i_0 ?_
    exact zw_iret d205_17 rfl ⟨_, rfl, h⟩
  · skip
    refine zw_iload_n (n := 7) d205_6 rfl rfl ?_
    refine zw_bipush (n := 9) d205_7 rfl zk_b_57 ?_
    refine zw_ic_gt (n := 12) d205_9 rfl (zite h (fun h => ?_) (fun h => ?_))
    · skip
      refine zw_iconst (n := 17) d205_16 rfl zk_i_0 ?_
      exact zw_iret d205_17 rfl ⟨_, rfl, h⟩
    · skip
      refine zw_iconst (n := 13) d205_12 rfl zk_i_1 ?_
      refine zw_goto d205_13 ?_
      exact zw_iret d205_17 rfl ⟨_, rfl, h⟩

set_option maxRecDepth 20000 in
theorem zf206 (pc : Nat) : zt_code 206 pc = zt_fd zl_206 pc := rfl
theorem d206_0 : zt_code 206 0 = some (.aload_n 0, 0, 0, 0) := (zf206 0).trans rfl
theorem d206_1 : zt_code 206 1 = some (.ldc 216, 1, 0, 0) := (zf206 1).trans rfl
theorem d206_3 : zt_code 206 3 = some (.invokevirtual 217, 207, 2, 5) := (zf206 3).trans rfl
theorem d206_6 : zt_code 206 6 = some (.ifCond .eq (33), 0, 39, 0) := (zf206 6).trans rfl
theorem d206_9 : zt_code 206 9 = some (.aload_n 0, 0, 0, 0) := (zf206 9).trans rfl
theorem d206_10 : zt_code 206 10 = some (.getfield 98, 5, 11, 0) := (zf206 10).trans rfl
theorem d206_13 : zt_code 206 13 = some (.ifCond .ne (26), 0, 39, 0) := (zf206 13).trans rfl
theorem d206_16 : zt_code 206 16 = some (.aload_n 0, 0, 0, 0) := (zf206 16).trans rfl
theorem d206_17 : zt_code 206 17 = some (.iconst (2), 0, 0, 0) := (zf206 17).trans rfl
theorem d206_18 : zt_code 206 18 = some (.iconst (3), 0, 0, 0) := (zf206 18).trans rfl
theorem d206_19 : zt_code 206 19 = some (.invokevirtual 213, 208, 3, 5) := (zf206 19).trans rfl
theorem d206_22 : zt_code 206 22 = some (.istore_n 1, 0, 0, 0) := (zf206 22).trans rfl
theorem d206_23 : zt_code 206 23 = some (.iload_n 1, 0, 0, 0) := (zf206 23).trans rfl
theorem d206_24 : zt_code 206 24 = some (.ifCond .eq (13), 0, 37, 0) := (zf206 24).trans rfl
theorem d206_27 : zt_code 206 27 = some (.aload_n 0, 0, 0, 0) := (zf206 27).trans rfl
theorem d206_28 : zt_code 206 28 = some (.aload_n 0, 0, 0, 0) := (zf206 28).trans rfl
theorem d206_29 : zt_code 206 29 = some (.getfield 64, 5, 27, 1) := (zf206 29).trans rfl
theorem d206_32 : zt_code 206 32 = some (.iconst (0), 0, 0, 0) := (zf206 32).trans rfl
theorem d206_33 : zt_code 206 33 = some (.iaload, 0, 0, 0) := (zf206 33).trans rfl
theorem d206_34 : zt_code 206 34 = some (.invokevirtual 150, 186, 2, 5) := (zf206 34).trans rfl
theorem d206_37 : zt_code 206 37 = some (.iload_n 1, 0, 0, 0) := (zf206 37).trans rfl
theorem d206_38 : zt_code 206 38 = some (.ireturn, 1, 0, 0) := (zf206 38).trans rfl
theorem d206_39 : zt_code 206 39 = some (.aload_n 0, 0, 0, 0) := (zf206 39).trans rfl
theorem d206_40 : zt_code 206 40 = some (.ldc 221, 1, 1, 0) := (zf206 40).trans rfl
theorem d206_42 : zt_code 206 42 = some (.invokevirtual 217, 207, 2, 5) := (zf206 42).trans rfl
theorem d206_45 : zt_code 206 45 = some (.ifCond .eq (17), 0, 62, 0) := (zf206 45).trans rfl
theorem d206_48 : zt_code 206 48 = some (.aload_n 0, 0, 0, 0) := (zf206 48).trans rfl
theorem d206_49 : zt_code 206 49 = some (.getfield 98, 5, 11, 0) := (zf206 49).trans rfl
theorem d206_52 : zt_code 206 52 = some (.bipush (8), 0, 0, 0) := (zf206 52).trans rfl
theorem d206_54 : zt_code 206 54 = some (.if_icmp .ge (8), 0, 62, 0) := (zf206 54).trans rfl
theorem d206_57 : zt_code 206 57 = some (.aload_n 0, 0, 0, 0) := (zf206 57).trans rfl
theorem d206_58 : zt_code 206 58 = some (.invokevirtual 223, 211, 1, 5) := (zf206 58).trans rfl
theorem d206_61 : zt_code 206 61 = some (.ireturn, 1, 0, 0) := (zf206 61).trans rfl
theorem d206_62 : zt_code 206 62 = some (.aload_n 0, 0, 0, 0) := (zf206 62).trans rfl
theorem d206_63 : zt_code 206 63 = some (.ldc 226, 1, 2, 0) := (zf206 63).trans rfl
theorem d206_65 : zt_code 206 65 = some (.invokevirtual 217, 207, 2, 5) := (zf206 65).trans rfl
theorem d206_68 : zt_code 206 68 = some (.ifCond .eq (33), 0, 101, 0) := (zf206 68).trans rfl
theorem d206_71 : zt_code 206 71 = some (.aload_n 0, 0, 0, 0) := (zf206 71).trans rfl
theorem d206_72 : zt_code 206 72 = some (.iconst (0), 0, 0, 0) := (zf206 72).trans rfl
theorem d206_73 : zt_code 206 73 = some (.iconst (3), 0, 0, 0) := (zf206 73).trans rfl
theorem d206_74 : zt_code 206 74 = some (.invokevirtual 213, 208, 3, 5) := (zf206 74).trans rfl
theorem d206_77 : zt_code 206 77 = some (.istore_n 1, 0, 0, 0) := (zf206 77).trans rfl
theorem d206_78 : zt_code 206 78 = some (.aload_n 0, 0, 0, 0) := (zf206 78).trans rfl
theorem d206_79 : zt_code 206 79 = some (.iload_n 1, 0, 0, 0) := (zf206 79).trans rfl
theorem d206_80 : zt_code 206 80 = some (.ifCond .eq (12), 0, 92, 0) := (zf206 80).trans rfl
theorem d206_83 : zt_code 206 83 = some (.aload_n 0, 0, 0, 0) := (zf206 83).trans rfl
theorem d206_84 : zt_code 206 84 = some (.getfield 64, 5, 27, 1) := (zf206 84).trans rfl
theorem d206_87 : zt_code 206 87 = some (.iconst (0), 0, 0, 0) := (zf206 87).trans rfl
theorem d206_88 : zt_code 206 88 = some (.iaload, 0, 0, 0) := (zf206 88).trans rfl
theorem d206_89 : zt_code 206 89 = some (.goto (7), 0, 96, 0) := (zf206 89).trans rfl
theorem d206_92 : zt_code 206 92 = some (.aload_n 0, 0, 0, 0) := (zf206 92).trans rfl
theorem d206_93 : zt_code 206 93 = some (.getfield 128, 5, 14, 0) := (zf206 93).trans rfl
theorem d206_96 : zt_code 206 96 = some (.putfield 128, 5, 14, 0) := (zf206 96).trans rfl
theorem d206_99 : zt_code 206 99 = some (.iload_n 1, 0, 0, 0) := (zf206 99).trans rfl
theorem d206_100 : zt_code 206 100 = some (.ireturn, 1, 0, 0) := (zf206 100).trans rfl
theorem d206_101 : zt_code 206 101 = some (.aload_n 0, 0, 0, 0) := (zf206 101).trans rfl
theorem d206_102 : zt_code 206 102 = some (.ldc 227, 1, 3, 0) := (zf206 102).trans rfl
theorem d206_104 : zt_code 206 104 = some (.invokevirtual 217, 207, 2, 5) := (zf206 104).trans rfl
theorem d206_107 : zt_code 206 107 = some (.ifCond .eq (8), 0, 115, 0) := (zf206 107).trans rfl
theorem d206_110 : zt_code 206 110 = some (.aload_n 0, 0, 0, 0) := (zf206 110).trans rfl
theorem d206_111 : zt_code 206 111 = some (.invokevirtual 228, 212, 1, 5) := (zf206 111).trans rfl
theorem d206_114 : zt_code 206 114 = some (.ireturn, 1, 0, 0) := (zf206 114).trans rfl
theorem d206_115 : zt_code 206 115 = some (.aload_n 0, 0, 0, 0) := (zf206 115).trans rfl
theorem d206_116 : zt_code 206 116 = some (.ldc 231, 1, 4, 0) := (zf206 116).trans rfl
theorem d206_118 : zt_code 206 118 = some (.invokevirtual 217, 207, 2, 5) := (zf206 118).trans rfl
theorem d206_121 : zt_code 206 121 = some (.ifCond .eq (56), 0, 177, 0) := (zf206 121).trans rfl
theorem d206_124 : zt_code 206 124 = some (.aload_n 0, 0, 0, 0) := (zf206 124).trans rfl
theorem d206_125 : zt_code 206 125 = some (.iconst (0), 0, 0, 0) := (zf206 125).trans rfl
theorem d206_126 : zt_code 206 126 = some (.aload_n 0, 0, 0, 0) := (zf206 126).trans rfl
theorem d206_127 : zt_code 206 127 = some (.getfield 40, 5, 10, 0) := (zf206 127).trans rfl
theorem d206_130 : zt_code 206 130 = some (.iconst (1), 0, 0, 0) := (zf206 130).trans rfl
theorem d206_131 : zt_code 206 131 = some (.isub, 0, 0, 0) := (zf206 131).trans rfl
theorem d206_132 : zt_code 206 132 = some (.invokevirtual 213, 208, 3, 5) := (zf206 132).trans rfl
theorem d206_135 : zt_code 206 135 = some (.ifCond .eq (17), 0, 152, 0) := (zf206 135).trans rfl
theorem d206_138 : zt_code 206 138 = some (.aload_n 0, 0, 0, 0) := (zf206 138).trans rfl
theorem d206_139 : zt_code 206 139 = some (.iconst (1), 0, 0, 0) := (zf206 139).trans rfl
theorem d206_140 : zt_code 206 140 = some (.iconst (0), 0, 0, 0) := (zf206 140).trans rfl
theorem d206_141 : zt_code 206 141 = some (.iconst (5), 0, 0, 0) := (zf206 141).trans rfl
theorem d206_142 : zt_code 206 142 = some (.invokevirtual 209, 209, 4, 5) := (zf206 142).trans rfl
theorem d206_145 : zt_code 206 145 = some (.ifCond .eq (7), 0, 152, 0) := (zf206 145).trans rfl
theorem d206_148 : zt_code 206 148 = some (.iconst (1), 0, 0, 0) := (zf206 148).trans rfl
theorem d206_149 : zt_code 206 149 = some (.goto (4), 0, 153, 0) := (zf206 149).trans rfl
theorem d206_152 : zt_code 206 152 = some (.iconst (0), 0, 0, 0) := (zf206 152).trans rfl
theorem d206_153 : zt_code 206 153 = some (.istore_n 1, 0, 0, 0) := (zf206 153).trans rfl
theorem d206_154 : zt_code 206 154 = some (.iload_n 1, 0, 0, 0) := (zf206 154).trans rfl
theorem d206_155 : zt_code 206 155 = some (.ifCond .eq (20), 0, 175, 0) := (zf206 155).trans rfl
theorem d206_158 : zt_code 206 158 = some (.aload_n 0, 0, 0, 0) := (zf206 158).trans rfl
theorem d206_159 : zt_code 206 159 = some (.getfield 58, 5, 17, 1) := (zf206 159).trans rfl
theorem d206_162 : zt_code 206 162 = some (.aload_n 0, 0, 0, 0) := (zf206 162).trans rfl
theorem d206_163 : zt_code 206 163 = some (.getfield 64, 5, 27, 1) := (zf206 163).trans rfl
theorem d206_166 : zt_code 206 166 = some (.iconst (0), 0, 0, 0) := (zf206 166).trans rfl
theorem d206_167 : zt_code 206 167 = some (.iaload, 0, 0, 0) := (zf206 167).trans rfl
theorem d206_168 : zt_code 206 168 = some (.aload_n 0, 0, 0, 0) := (zf206 168).trans rfl
theorem d206_169 : zt_code 206 169 = some (.getfield 64, 5, 27, 1) := (zf206 169).trans rfl
theorem d206_172 : zt_code 206 172 = some (.iconst (1), 0, 0, 0) := (zf206 172).trans rfl
theorem d206_173 : zt_code 206 173 = some (.iaload, 0, 0, 0) := (zf206 173).trans rfl
theorem d206_174 : zt_code 206 174 = some (.iastore, 0, 0, 0) := (zf206 174).trans rfl
theorem d206_175 : zt_code 206 175 = some (.iload_n 1, 0, 0, 0) := (zf206 175).trans rfl
theorem d206_176 : zt_code 206 176 = some (.ireturn, 1, 0, 0) := (zf206 176).trans rfl
theorem d206_177 : zt_code 206 177 = some (.aload_n 0, 0, 0, 0) := (zf206 177).trans rfl
theorem d206_178 : zt_code 206 178 = some (.ldc 232, 1, 5, 0) := (zf206 178).trans rfl
theorem d206_180 : zt_code 206 180 = some (.invokevirtual 217, 207, 2, 5) := (zf206 180).trans rfl
theorem d206_183 : zt_code 206 183 = some (.ifCond .eq (35), 0, 218, 0) := (zf206 183).trans rfl
theorem d206_186 : zt_code 206 186 = some (.aload_n 0, 0, 0, 0) := (zf206 186).trans rfl
theorem d206_187 : zt_code 206 187 = some (.iconst (0), 0, 0, 0) := (zf206 187).trans rfl
theorem d206_188 : zt_code 206 188 = some (.sipush (9999), 0, 0, 0) := (zf206 188).trans rfl
theorem d206_191 : zt_code 206 191 = some (.invokevirtual 213, 208, 3, 5) := (zf206 191).trans rfl
theorem d206_194 : zt_code 206 194 = some (.istore_n 1, 0, 0, 0) := (zf206 194).trans rfl
theorem d206_195 : zt_code 206 195 = some (.aload_n 0, 0, 0, 0) := (zf206 195).trans rfl
theorem d206_196 : zt_code 206 196 = some (.iload_n 1, 0, 0, 0) := (zf206 196).trans rfl
theorem d206_197 : zt_code 206 197 = some (.ifCond .eq (12), 0, 209, 0) := (zf206 197).trans rfl
theorem d206_200 : zt_code 206 200 = some (.aload_n 0, 0, 0, 0) := (zf206 200).trans rfl
theorem d206_201 : zt_code 206 201 = some (.getfield 64, 5, 27, 1) := (zf206 201).trans rfl
theorem d206_204 : zt_code 206 204 = some (.iconst (0), 0, 0, 0) := (zf206 204).trans rfl
theorem d206_205 : zt_code 206 205 = some (.iaload, 0, 0, 0) := (zf206 205).trans rfl
theorem d206_206 : zt_code 206 206 = some (.goto (7), 0, 213, 0) := (zf206 206).trans rfl
theorem d206_209 : zt_code 206 209 = some (.aload_n 0, 0, 0, 0) := (zf206 209).trans rfl
theorem d206_210 : zt_code 206 210 = some (.getfield 139, 5, 18, 0) := (zf206 210).trans rfl
theorem d206_213 : zt_code 206 213 = some (.putfield 139, 5, 18, 0) := (zf206 213).trans rfl
theorem d206_216 : zt_code 206 216 = some (.iload_n 1, 0, 0, 0) := (zf206 216).trans rfl
theorem d206_217 : zt_code 206 217 = some (.ireturn, 1, 0, 0) := (zf206 217).trans rfl
theorem d206_218 : zt_code 206 218 = some (.aload_n 0, 0, 0, 0) := (zf206 218).trans rfl
theorem d206_219 : zt_code 206 219 = some (.ldc 233, 1, 6, 0) := (zf206 219).trans rfl
theorem d206_221 : zt_code 206 221 = some (.invokevirtual 217, 207, 2, 5) := (zf206 221).trans rfl
theorem d206_224 : zt_code 206 224 = some (.ifCond .ne (8), 0, 232, 0) := (zf206 224).trans rfl
theorem d206_227 : zt_code 206 227 = some (.aload_n 0, 0, 0, 0) := (zf206 227).trans rfl
theorem d206_228 : zt_code 206 228 = some (.invokevirtual 202, 210, 1, 5) := (zf206 228).trans rfl
theorem d206_231 : zt_code 206 231 = some (.ireturn, 1, 0, 0) := (zf206 231).trans rfl
theorem d206_232 : zt_code 206 232 = some (.aload_n 0, 0, 0, 0) := (zf206 232).trans rfl
theorem d206_233 : zt_code 206 233 = some (.iconst (0), 0, 0, 0) := (zf206 233).trans rfl
theorem d206_234 : zt_code 206 234 = some (.aload_n 0, 0, 0, 0) := (zf206 234).trans rfl
theorem d206_235 : zt_code 206 235 = some (.getfield 40, 5, 10, 0) := (zf206 235).trans rfl
theorem d206_238 : zt_code 206 238 = some (.iconst (1), 0, 0, 0) := (zf206 238).trans rfl
theorem d206_239 : zt_code 206 239 = some (.isub, 0, 0, 0) := (zf206 239).trans rfl
theorem d206_240 : zt_code 206 240 = some (.invokevirtual 213, 208, 3, 5) := (zf206 240).trans rfl
theorem d206_243 : zt_code 206 243 = some (.ifCond .eq (22), 0, 265, 0) := (zf206 243).trans rfl
theorem d206_246 : zt_code 206 246 = some (.aload_n 0, 0, 0, 0) := (zf206 246).trans rfl
theorem d206_247 : zt_code 206 247 = some (.iconst (1), 0, 0, 0) := (zf206 247).trans rfl
theorem d206_248 : zt_code 206 248 = some (.iconst (0), 0, 0, 0) := (zf206 248).trans rfl
theorem d206_249 : zt_code 206 249 = some (.aload_n 0, 0, 0, 0) := (zf206 249).trans rfl
theorem d206_250 : zt_code 206 250 = some (.getfield 98, 5, 11, 0) := (zf206 250).trans rfl
theorem d206_253 : zt_code 206 253 = some (.iconst (1), 0, 0, 0) := (zf206 253).trans rfl
theorem d206_254 : zt_code 206 254 = some (.isub, 0, 0, 0) := (zf206 254).trans rfl
theorem d206_255 : zt_code 206 255 = some (.invokevirtual 209, 209, 4, 5) := (zf206 255).trans rfl
theorem d206_258 : zt_code 206 258 = some (.ifCond .eq (7), 0, 265, 0) := (zf206 258).trans rfl
theorem d206_261 : zt_code 206 261 = some (.iconst (1), 0, 0, 0) := (zf206 261).trans rfl
theorem d206_262 : zt_code 206 262 = some (.goto (4), 0, 266, 0) := (zf206 262).trans rfl
theorem d206_265 : zt_code 206 265 = some (.iconst (0), 0, 0, 0) := (zf206 265).trans rfl
theorem d206_266 : zt_code 206 266 = some (.istore_n 1, 0, 0, 0) := (zf206 266).trans rfl
theorem d206_267 : zt_code 206 267 = some (.iload_n 1, 0, 0, 0) := (zf206 267).trans rfl
theorem d206_268 : zt_code 206 268 = some (.ifCond .eq (20), 0, 288, 0) := (zf206 268).trans rfl
theorem d206_271 : zt_code 206 271 = some (.aload_n 0, 0, 0, 0) := (zf206 271).trans rfl
theorem d206_272 : zt_code 206 272 = some (.getfield 49, 5, 13, 1) := (zf206 272).trans rfl
theorem d206_275 : zt_code 206 275 = some (.aload_n 0, 0, 0, 0) := (zf206 275).trans rfl
theorem d206_276 : zt_code 206 276 = some (.getfield 64, 5, 27, 1) := (zf206 276).trans rfl
theorem d206_279 : zt_code 206 279 = some (.iconst (1), 0, 0, 0) := (zf206 279).trans rfl
theorem d206_280 : zt_code 206 280 = some (.iaload, 0, 0, 0) := (zf206 280).trans rfl
theorem d206_281 : zt_code 206 281 = some (.aload_n 0, 0, 0, 0) := (zf206 281).trans rfl
theorem d206_282 : zt_code 206 282 = some (.getfield 64, 5, 27, 1) := (zf206 282).trans rfl
theorem d206_285 : zt_code 206 285 = some (.iconst (0), 0, 0, 0) := (zf206 285).trans rfl
theorem d206_286 : zt_code 206 286 = some (.iaload, 0, 0, 0) := (zf206 286).trans rfl
theorem d206_287 : zt_code 206 287 = some (.iastore, 0, 0, 0) := (zf206 287).trans rfl
theorem d206_288 : zt_code 206 288 = some (.iload_n 1, 0, 0, 0) := (zf206 288).trans rfl
theorem d206_289 : zt_code 206 289 = some (.ireturn, 1, 0, 0) := (zf206 289).trans rfl
/-- FirstAtTheFirstModel.statement()Z -/
theorem vc206 {X : zX} {S : zx_S} {C : zx_C} {q : Int32 → zx_C → Prop} {e : Nat} (hS : zs_5 S e) (h : zCd X 4 207 [.ref e, .ref (2000000 + 0)] S C (zQi (fun r1 C1 => if (r1 : Int32) = 0 then (zCd X 4 207 [.ref e, .ref (2000000 + 1)] S C1 (zQi (fun r2 C2 => if (r2 : Int32) = 0 then (zCd X 4 207 [.ref e, .ref (2000000 + 2)] S C2 (zQi (fun r3 C3 => if (r3 : Int32) = 0 then (zCd X 4 207 [.ref e, .ref (2000000 + 3)] S C3 (zQi (fun r4 C4 => if (r4 : Int32) = 0 then (zCd X 4 207 [.ref e, .ref (2000000 + 4)] S C4 (zQi (fun r5 C5 => if (r5 : Int32) = 0 then (zCd X 4 207 [.ref e, .ref (2000000 + 5)] S C5 (zQi (fun r6 C6 => if (r6 : Int32) = 0 then (zCd X 4 207 [.ref e, .ref (2000000 + 6)] S C6 (zQi (fun r7 C7 => if (r7 : Int32) = 0 then (zCd X 0 210 [.ref e] S C7 (zQi (fun r8 C8 => (r8 = 0 ∨ r8 = 1) ∧ (q r8 C8)))) else (zCd X 3 208 [.ref e, .int 0, .int ((C7.1 e 10) - 1)] S C7 (zQi (fun r9 C9 => if (r9 : Int32) = 0 then (if (0 : Int32) = 0 then (q 0 C9) else (vp_in 1 3 ∧ (vp_in 0 3 ∧ (vp_in (C9.1 (e + 30) (Int32.toNatClampNeg 1)) 8 ∧ (q 0 (zp C9 (e + 27) (Int32.toNatClampNeg (C9.1 (e + 30) (Int32.toNatClampNeg 1))) (C9.1 (e + 30) (Int32.toNatClampNeg 0)))))))) else (zCd X 2 209 [.ref e, .int 1, .int 0, .int ((C9.1 e 11) - 1)] S C9 (zQi (fun r10 C10 => if (r10 : Int32) = 0 then (if (0 : Int32) = 0 then (q 0 C10) else (vp_in 1 3 ∧ (vp_in 0 3 ∧ (vp_in (C10.1 (e + 30) (Int32.toNatClampNeg 1)) 8 ∧ (q 0 (zp C10 (e + 27) (Int32.toNatClampNeg (C10.1 (e + 30) (Int32.toNatClampNeg 1))) (C10.1 (e + 30) (Int32.toNatClampNeg 0)))))))) else (if (1 : Int32) = 0 then (q 1 C10) else (vp_in 1 3 ∧ (vp_in 0 3 ∧ (vp_in (C10.1 (e + 30) (Int32.toNatClampNeg 1)) 8 ∧ (q 1 (zp C10 (e + 27) (Int32.toNatClampNeg (C10.1 (e + 30) (Int32.toNatClampNeg 1))) (C10.1 (e + 30) (Int32.toNatClampNeg 0))))))))))))))))) else (zCd X 3 208 [.ref e, .int 0, .int 9999] S C6 (zQi (fun r11 C11 => if (r11 : Int32) = 0 then ((r11 = 0 ∨ r11 = 1) ∧ (q r11 (zp C11 e 18 (C11.1 e 18)))) else (vp_in 0 3 ∧ ((r11 = 0 ∨ r11 = 1) ∧ (q r11 (zp C11 e 18 (C11.1 (e + 30) (Int32.toNatClampNeg 0)))))))))))) else (zCd X 3 208 [.ref e, .int 0, .int ((C5.1 e 10) - 1)] S C5 (zQi (fun r12 C12 => if (r12 : Int32) = 0 then (if (0 : Int32) = 0 then (q 0 C12) else (vp_in 0 3 ∧ (vp_in 1 3 ∧ (vp_in (C12.1 (e + 30) (Int32.toNatClampNeg 0)) 3 ∧ (q 0 (zp C12 (e + 29) (Int32.toNatClampNeg (C12.1 (e + 30) (Int32.toNatClampNeg 0))) (C12.1 (e + 30) (Int32.toNatClampNeg 1)))))))) else (zCd X 2 209 [.ref e, .int 1, .int 0, .int 5] S C12 (zQi (fun r13 C13 => if (r13 : Int32) = 0 then (if (0 : Int32) = 0 then (q 0 C13) else (vp_in 0 3 ∧ (vp_in 1 3 ∧ (vp_in (C13.1 (e + 30) (Int32.toNatClampNeg 0)) 3 ∧ (q 0 (zp C13 (e + 29) (Int32.toNatClampNeg (C13.1 (e + 30) (Int32.toNatClampNeg 0))) (C13.1 (e + 30) (Int32.toNatClampNeg 1)))))))) else (if (1 : Int32) = 0 then (q 1 C13) else (vp_in 0 3 ∧ (vp_in 1 3 ∧ (vp_in (C13.1 (e + 30) (Int32.toNatClampNeg 0)) 3 ∧ (q 1 (zp C13 (e + 29) (Int32.toNatClampNeg (C13.1 (e + 30) (Int32.toNatClampNeg 0))) (C13.1 (e + 30) (Int32.toNatClampNeg 1))))))))))))))))) else (zCd X 3 212 [.ref e] S C4 (zQi (fun r14 C14 => (r14 = 0 ∨ r14 = 1) ∧ (q r14 C14))))))) else (zCd X 3 208 [.ref e, .int 0, .int 3] S C3 (zQi (fun r15 C15 => if (r15 : Int32) = 0 then ((r15 = 0 ∨ r15 = 1) ∧ (q r15 (zp C15 e 14 (C15.1 e 14)))) else (vp_in 0 3 ∧ ((r15 = 0 ∨ r15 = 1) ∧ (q r15 (zp C15 e 14 (C15.1 (e + 30) (Int32.toNatClampNeg 0)))))))))))) else (if ((C2.1 e 11) : Int32) < 8 then (zCd X 4 211 [.ref e] S C2 (zQi (fun r16 C16 => (r16 = 0 ∨ r16 = 1) ∧ (q r16 C16)))) else (zCd X 4 207 [.ref e, .ref (2000000 + 2)] S C2 (zQi (fun r17 C17 => if (r17 : Int32) = 0 then (zCd X 4 207 [.ref e, .ref (2000000 + 3)] S C17 (zQi (fun r18 C18 => if (r18 : Int32) = 0 then (zCd X 4 207 [.ref e, .ref (2000000 + 4)] S C18 (zQi (fun r19 C19 => if (r19 : Int32) = 0 then (zCd X 4 207 [.ref e, .ref (2000000 + 5)] S C19 (zQi (fun r20 C20 => if (r20 : Int32) = 0 then (zCd X 4 207 [.ref e, .ref (2000000 + 6)] S C20 (zQi (fun r21 C21 => if (r21 : Int32) = 0 then (zCd X 0 210 [.ref e] S C21 (zQi (fun r22 C22 => (r22 = 0 ∨ r22 = 1) ∧ (q r22 C22)))) else (zCd X 3 208 [.ref e, .int 0, .int ((C21.1 e 10) - 1)] S C21 (zQi (fun r23 C23 => if (r23 : Int32) = 0 then (if (0 : Int32) = 0 then (q 0 C23) else (vp_in 1 3 ∧ (vp_in 0 3 ∧ (vp_in (C23.1 (e + 30) (Int32.toNatClampNeg 1)) 8 ∧ (q 0 (zp C23 (e + 27) (Int32.toNatClampNeg (C23.1 (e + 30) (Int32.toNatClampNeg 1))) (C23.1 (e + 30) (Int32.toNatClampNeg 0)))))))) else (zCd X 2 209 [.ref e, .int 1, .int 0, .int ((C23.1 e 11) - 1)] S C23 (zQi (fun r24 C24 => if (r24 : Int32) = 0 then (if (0 : Int32) = 0 then (q 0 C24) else (vp_in 1 3 ∧ (vp_in 0 3 ∧ (vp_in (C24.1 (e + 30) (Int32.toNatClampNeg 1)) 8 ∧ (q 0 (zp C24 (e + 27) (Int32.toNatClampNeg (C24.1 (e + 30) (Int32.toNatClampNeg 1))) (C24.1 (e + 30) (Int32.toNatClampNeg 0)))))))) else (if (1 : Int32) = 0 then (q 1 C24) else (vp_in 1 3 ∧ (vp_in 0 3 ∧ (vp_in (C24.1 (e + 30) (Int32.toNatClampNeg 1)) 8 ∧ (q 1 (zp C24 (e + 27) (Int32.toNatClampNeg (C24.1 (e + 30) (Int32.toNatClampNeg 1))) (C24.1 (e + 30) (Int32.toNatClampNeg 0))))))))))))))))) else (zCd X 3 208 [.ref e, .int 0, .int 9999] S C20 (zQi (fun r25 C25 => if (r25 : Int32) = 0 then ((r25 = 0 ∨ r25 = 1) ∧ (q r25 (zp C25 e 18 (C25.1 e 18)))) else (vp_in 0 3 ∧ ((r25 = 0 ∨ r25 = 1) ∧ (q r25 (zp C25 e 18 (C25.1 (e + 30) (Int32.toNatClampNeg 0)))))))))))) else (zCd X 3 208 [.ref e, .int 0, .int ((C19.1 e 10) - 1)] S C19 (zQi (fun r26 C26 => if (r26 : Int32) = 0 then (if (0 : Int32) = 0 then (q 0 C26) else (vp_in 0 3 ∧ (vp_in 1 3 ∧ (vp_in (C26.1 (e + 30) (Int32.toNatClampNeg 0)) 3 ∧ (q 0 (zp C26 (e + 29) (Int32.toNatClampNeg (C26.1 (e + 30) (Int32.toNatClampNeg 0))) (C26.1 (e + 30) (Int32.toNatClampNeg 1)))))))) else (zCd X 2 209 [.ref e, .int 1, .int 0, .int 5] S C26 (zQi (fun r27 C27 => if (r27 : Int32) = 0 then (if (0 : Int32) = 0 then (q 0 C27) else (vp_in 0 3 ∧ (vp_in 1 3 ∧ (vp_in (C27.1 (e + 30) (Int32.toNatClampNeg 0)) 3 ∧ (q 0 (zp C27 (e + 29) (Int32.toNatClampNeg (C27.1 (e + 30) (Int32.toNatClampNeg 0))) (C27.1 (e + 30) (Int32.toNatClampNeg 1)))))))) else (if (1 : Int32) = 0 then (q 1 C27) else (vp_in 0 3 ∧ (vp_in 1 3 ∧ (vp_in (C27.1 (e + 30) (Int32.toNatClampNeg 0)) 3 ∧ (q 1 (zp C27 (e + 29) (Int32.toNatClampNeg (C27.1 (e + 30) (Int32.toNatClampNeg 0))) (C27.1 (e + 30) (Int32.toNatClampNeg 1))))))))))))))))) else (zCd X 3 212 [.ref e] S C18 (zQi (fun r28 C28 => (r28 = 0 ∨ r28 = 1) ∧ (q r28 C28))))))) else (zCd X 3 208 [.ref e, .int 0, .int 3] S C17 (zQi (fun r29 C29 => if (r29 : Int32) = 0 then ((r29 = 0 ∨ r29 = 1) ∧ (q r29 (zp C29 e 14 (C29.1 e 14)))) else (vp_in 0 3 ∧ ((r29 = 0 ∨ r29 = 1) ∧ (q r29 (zp C29 e 14 (C29.1 (e + 30) (Int32.toNatClampNeg 0)))))))))))))))) else (if ((C1.1 e 11) : Int32) = 0 then (zCd X 3 208 [.ref e, .int 2, .int 3] S C1 (zQi (fun r30 C30 => if (r30 : Int32) = 0 then ((r30 = 0 ∨ r30 = 1) ∧ (q r30 C30)) else (vp_in 0 3 ∧ (zCd X 0 186 [.ref e, .int (C30.1 (e + 30) (Int32.toNatClampNeg 0))] S C30 (zQv (fun C31 => (r30 = 0 ∨ r30 = 1) ∧ (q r30 C31)))))))) else (zCd X 4 207 [.ref e, .ref (2000000 + 1)] S C1 (zQi (fun r32 C32 => if (r32 : Int32) = 0 then (zCd X 4 207 [.ref e, .ref (2000000 + 2)] S C32 (zQi (fun r33 C33 => if (r33 : Int32) = 0 then (zCd X 4 207 [.ref e, .ref (2000000 + 3)] S C33 (zQi (fun r34 C34 => if (r34 : Int32) = 0 then (zCd X 4 207 [.ref e, .ref (2000000 + 4)] S C34 (zQi (fun r35 C35 => if (r35 : Int32) = 0 then (zCd X 4 207 [.ref e, .ref (2000000 + 5)] S C35 (zQi (fun r36 C36 => if (r36 : Int32) = 0 then (zCd X 4 207 [.ref e, .ref (2000000 + 6)] S C36 (zQi (fun r37 C37 => if (r37 : Int32) = 0 then (zCd X 0 210 [.ref e] S C37 (zQi (fun r38 C38 => (r38 = 0 ∨ r38 = 1) ∧ (q r38 C38)))) else (zCd X 3 208 [.ref e, .int 0, .int ((C37.1 e 10) - 1)] S C37 (zQi (fun r39 C39 => if (r39 : Int32) = 0 then (if (0 : Int32) = 0 then (q 0 C39) else (vp_in 1 3 ∧ (vp_in 0 3 ∧ (vp_in (C39.1 (e + 30) (Int32.toNatClampNeg 1)) 8 ∧ (q 0 (zp C39 (e + 27) (Int32.toNatClampNeg (C39.1 (e + 30) (Int32.toNatClampNeg 1))) (C39.1 (e + 30) (Int32.toNatClampNeg 0)))))))) else (zCd X 2 209 [.ref e, .int 1, .int 0, .int ((C39.1 e 11) - 1)] S C39 (zQi (fun r40 C40 => if (r40 : Int32) = 0 then (if (0 : Int32) = 0 then (q 0 C40) else (vp_in 1 3 ∧ (vp_in 0 3 ∧ (vp_in (C40.1 (e + 30) (Int32.toNatClampNeg 1)) 8 ∧ (q 0 (zp C40 (e + 27) (Int32.toNatClampNeg (C40.1 (e + 30) (Int32.toNatClampNeg 1))) (C40.1 (e + 30) (Int32.toNatClampNeg 0)))))))) else (if (1 : Int32) = 0 then (q 1 C40) else (vp_in 1 3 ∧ (vp_in 0 3 ∧ (vp_in (C40.1 (e + 30) (Int32.toNatClampNeg 1)) 8 ∧ (q 1 (zp C40 (e + 27) (Int32.toNatClampNeg (C40.1 (e + 30) (Int32.toNatClampNeg 1))) (C40.1 (e + 30) (Int32.toNatClampNeg 0))))))))))))))))) else (zCd X 3 208 [.ref e, .int 0, .int 9999] S C36 (zQi (fun r41 C41 => if (r41 : Int32) = 0 then ((r41 = 0 ∨ r41 = 1) ∧ (q r41 (zp C41 e 18 (C41.1 e 18)))) else (vp_in 0 3 ∧ ((r41 = 0 ∨ r41 = 1) ∧ (q r41 (zp C41 e 18 (C41.1 (e + 30) (Int32.toNatClampNeg 0)))))))))))) else (zCd X 3 208 [.ref e, .int 0, .int ((C35.1 e 10) - 1)] S C35 (zQi (fun r42 C42 => if (r42 : Int32) = 0 then (if (0 : Int32) = 0 then (q 0 C42) else (vp_in 0 3 ∧ (vp_in 1 3 ∧ (vp_in (C42.1 (e + 30) (Int32.toNatClampNeg 0)) 3 ∧ (q 0 (zp C42 (e + 29) (Int32.toNatClampNeg (C42.1 (e + 30) (Int32.toNatClampNeg 0))) (C42.1 (e + 30) (Int32.toNatClampNeg 1)))))))) else (zCd X 2 209 [.ref e, .int 1, .int 0, .int 5] S C42 (zQi (fun r43 C43 => if (r43 : Int32) = 0 then (if (0 : Int32) = 0 then (q 0 C43) else (vp_in 0 3 ∧ (vp_in 1 3 ∧ (vp_in (C43.1 (e + 30) (Int32.toNatClampNeg 0)) 3 ∧ (q 0 (zp C43 (e + 29) (Int32.toNatClampNeg (C43.1 (e + 30) (Int32.toNatClampNeg 0))) (C43.1 (e + 30) (Int32.toNatClampNeg 1)))))))) else (if (1 : Int32) = 0 then (q 1 C43) else (vp_in 0 3 ∧ (vp_in 1 3 ∧ (vp_in (C43.1 (e + 30) (Int32.toNatClampNeg 0)) 3 ∧ (q 1 (zp C43 (e + 29) (Int32.toNatClampNeg (C43.1 (e + 30) (Int32.toNatClampNeg 0))) (C43.1 (e + 30) (Int32.toNatClampNeg 1))))))))))))))))) else (zCd X 3 212 [.ref e] S C34 (zQi (fun r44 C44 => (r44 = 0 ∨ r44 = 1) ∧ (q r44 C44))))))) else (zCd X 3 208 [.ref e, .int 0, .int 3] S C33 (zQi (fun r45 C45 => if (r45 : Int32) = 0 then ((r45 = 0 ∨ r45 = 1) ∧ (q r45 (zp C45 e 14 (C45.1 e 14)))) else (vp_in 0 3 ∧ ((r45 = 0 ∨ r45 = 1) ∧ (q r45 (zp C45 e 14 (C45.1 (e + 30) (Int32.toNatClampNeg 0)))))))))))) else (if ((C32.1 e 11) : Int32) < 8 then (zCd X 4 211 [.ref e] S C32 (zQi (fun r46 C46 => (r46 = 0 ∨ r46 = 1) ∧ (q r46 C46)))) else (zCd X 4 207 [.ref e, .ref (2000000 + 2)] S C32 (zQi (fun r47 C47 => if (r47 : Int32) = 0 then (zCd X 4 207 [.ref e, .ref (2000000 + 3)] S C47 (zQi (fun r48 C48 => if (r48 : Int32) = 0 then (zCd X 4 207 [.ref e, .ref (2000000 + 4)] S C48 (zQi (fun r49 C49 => if (r49 : Int32) = 0 then (zCd X 4 207 [.ref e, .ref (2000000 + 5)] S C49 (zQi (fun r50 C50 => if (r50 : Int32) = 0 then (zCd X 4 207 [.ref e, .ref (2000000 + 6)] S C50 (zQi (fun r51 C51 => if (r51 : Int32) = 0 then (zCd X 0 210 [.ref e] S C51 (zQi (fun r52 C52 => (r52 = 0 ∨ r52 = 1) ∧ (q r52 C52)))) else (zCd X 3 208 [.ref e, .int 0, .int ((C51.1 e 10) - 1)] S C51 (zQi (fun r53 C53 => if (r53 : Int32) = 0 then (if (0 : Int32) = 0 then (q 0 C53) else (vp_in 1 3 ∧ (vp_in 0 3 ∧ (vp_in (C53.1 (e + 30) (Int32.toNatClampNeg 1)) 8 ∧ (q 0 (zp C53 (e + 27) (Int32.toNatClampNeg (C53.1 (e + 30) (Int32.toNatClampNeg 1))) (C53.1 (e + 30) (Int32.toNatClampNeg 0)))))))) else (zCd X 2 209 [.ref e, .int 1, .int 0, .int ((C53.1 e 11) - 1)] S C53 (zQi (fun r54 C54 => if (r54 : Int32) = 0 then (if (0 : Int32) = 0 then (q 0 C54) else (vp_in 1 3 ∧ (vp_in 0 3 ∧ (vp_in (C54.1 (e + 30) (Int32.toNatClampNeg 1)) 8 ∧ (q 0 (zp C54 (e + 27) (Int32.toNatClampNeg (C54.1 (e + 30) (Int32.toNatClampNeg 1))) (C54.1 (e + 30) (Int32.toNatClampNeg 0)))))))) else (if (1 : Int32) = 0 then (q 1 C54) else (vp_in 1 3 ∧ (vp_in 0 3 ∧ (vp_in (C54.1 (e + 30) (Int32.toNatClampNeg 1)) 8 ∧ (q 1 (zp C54 (e + 27) (Int32.toNatClampNeg (C54.1 (e + 30) (Int32.toNatClampNeg 1))) (C54.1 (e + 30) (Int32.toNatClampNeg 0))))))))))))))))) else (zCd X 3 208 [.ref e, .int 0, .int 9999] S C50 (zQi (fun r55 C55 => if (r55 : Int32) = 0 then ((r55 = 0 ∨ r55 = 1) ∧ (q r55 (zp C55 e 18 (C55.1 e 18)))) else (vp_in 0 3 ∧ ((r55 = 0 ∨ r55 = 1) ∧ (q r55 (zp C55 e 18 (C55.1 (e + 30) (Int32.toNatClampNeg 0)))))))))))) else (zCd X 3 208 [.ref e, .int 0, .int ((C49.1 e 10) - 1)] S C49 (zQi (fun r56 C56 => if (r56 : Int32) = 0 then (if (0 : Int32) = 0 then (q 0 C56) else (vp_in 0 3 ∧ (vp_in 1 3 ∧ (vp_in (C56.1 (e + 30) (Int32.toNatClampNeg 0)) 3 ∧ (q 0 (zp C56 (e + 29) (Int32.toNatClampNeg (C56.1 (e + 30) (Int32.toNatClampNeg 0))) (C56.1 (e + 30) (Int32.toNatClampNeg 1)))))))) else (zCd X 2 209 [.ref e, .int 1, .int 0, .int 5] S C56 (zQi (fun r57 C57 => if (r57 : Int32) = 0 then (if (0 : Int32) = 0 then (q 0 C57) else (vp_in 0 3 ∧ (vp_in 1 3 ∧ (vp_in (C57.1 (e + 30) (Int32.toNatClampNeg 0)) 3 ∧ (q 0 (zp C57 (e + 29) (Int32.toNatClampNeg (C57.1 (e + 30) (Int32.toNatClampNeg 0))) (C57.1 (e + 30) (Int32.toNatClampNeg 1)))))))) else (if (1 : Int32) = 0 then (q 1 C57) else (vp_in 0 3 ∧ (vp_in 1 3 ∧ (vp_in (C57.1 (e + 30) (Int32.toNatClampNeg 0)) 3 ∧ (q 1 (zp C57 (e + 29) (Int32.toNatClampNeg (C57.1 (e + 30) (Int32.toNatClampNeg 0))) (C57.1 (e + 30) (Int32.toNatClampNeg 1))))))))))))))))) else (zCd X 3 212 [.ref e] S C48 (zQi (fun r58 C58 => (r58 = 0 ∨ r58 = 1) ∧ (q r58 C58))))))) else (zCd X 3 208 [.ref e, .int 0, .int 3] S C47 (zQi (fun r59 C59 => if (r59 : Int32) = 0 then ((r59 = 0 ∨ r59 = 1) ∧ (q r59 (zp C59 e 14 (C59.1 e 14)))) else (vp_in 0 3 ∧ ((r59 = 0 ∨ r59 = 1) ∧ (q r59 (zp C59 e 14 (C59.1 (e + 30) (Int32.toNatClampNeg 0)))))))))))))))))))) : zCd X 5 206 [.ref e] S C (zQi q) := by
  refine zc_in ml_206 rfl ?_
  refine zw_aload_n (n := 1) d206_0 rfl rfl ?_
  refine zw_ldcs (n := 3) d206_1 rfl ?_
  refine zw_cI (n := 6) d206_3 (zs_V rfl rfl rfl rfl (by decide) (zj_5 hS).1 (zq_5 hS)) (by rw [ml_207]; rfl) (by decide) rfl (zc_mI h (fun r1 C1 h => ?_))
  refine zw_if_eq (n := 9) d206_6 rfl (zite h (fun h => ?_) (fun h => ?_))
  · skip
    refine zw_aload_n (n := 40) d206_39 rfl rfl ?_
    refine zw_ldcs (n := 42) d206_40 rfl ?_
    refine zw_cI (n := 45) d206_42 (zs_V rfl rfl rfl rfl (by decide) (zj_5 hS).1 (zq_5 hS)) (by rw [ml_207]; rfl) (by decide) rfl (zc_mI h (fun r2 C2 h => ?_))
    refine zw_if_eq (n := 48) d206_45 rfl (zite h (fun h => ?_) (fun h => ?_))
    · skip
      refine zw_aload_n (n := 63) d206_62 rfl rfl ?_
      refine zw_ldcs (n := 65) d206_63 rfl ?_
      refine zw_cI (n := 68) d206_65 (zs_V rfl rfl rfl rfl (by decide) (zj_5 hS).1 (zq_5 hS)) (by rw [ml_207]; rfl) (by decide) rfl (zc_mI h (fun r3 C3 h => ?_))
      refine zw_if_eq (n := 71) d206_68 rfl (zite h (fun h => ?_) (fun h => ?_))
      · skip
        refine zw_aload_n (n := 102) d206_101 rfl rfl ?_
        refine zw_ldcs (n := 104) d206_102 rfl ?_
        refine zw_cI (n := 107) d206_104 (zs_V rfl rfl rfl rfl (by decide) (zj_5 hS).1 (zq_5 hS)) (by rw [ml_207]; rfl) (by decide) rfl (zc_mI h (fun r4 C4 h => ?_))
        refine zw_if_eq (n := 110) d206_107 rfl (zite h (fun h => ?_) (fun h => ?_))
        · skip
          refine zw_aload_n (n := 116) d206_115 rfl rfl ?_
          refine zw_ldcs (n := 118) d206_116 rfl ?_
          refine zw_cI (n := 121) d206_118 (zs_V rfl rfl rfl rfl (by decide) (zj_5 hS).1 (zq_5 hS)) (by rw [ml_207]; rfl) (by decide) rfl (zc_mI h (fun r5 C5 h => ?_))
          refine zw_if_eq (n := 124) d206_121 rfl (zite h (fun h => ?_) (fun h => ?_))
          · skip
            refine zw_aload_n (n := 178) d206_177 rfl rfl ?_
            refine zw_ldcs (n := 180) d206_178 rfl ?_
            refine zw_cI (n := 183) d206_180 (zs_V rfl rfl rfl rfl (by decide) (zj_5 hS).1 (zq_5 hS)) (by rw [ml_207]; rfl) (by decide) rfl (zc_mI h (fun r6 C6 h => ?_))
            refine zw_if_eq (n := 186) d206_183 rfl (zite h (fun h => ?_) (fun h => ?_))
            · skip
              refine zw_aload_n (n := 219) d206_218 rfl rfl ?_
              refine zw_ldcs (n := 221) d206_219 rfl ?_
              refine zw_cI (n := 224) d206_221 (zs_V rfl rfl rfl rfl (by decide) (zj_5 hS).1 (zq_5 hS)) (by rw [ml_207]; rfl) (by decide) rfl (zc_mI h (fun r7 C7 h => ?_))
              refine zw_if_ne (n := 227) d206_224 rfl (zite h (fun h => ?_) (fun h => ?_))
              · skip
                refine zw_aload_n (n := 228) d206_227 rfl rfl ?_
                refine zw_cI (n := 231) d206_228 (zs_V rfl rfl rfl rfl (by decide) (zj_5 hS).1 (zq_5 hS)) (by rw [ml_210]; rfl) (by decide) rfl (zc_mI h (fun r8 C8 h => ?_))
                obtain ⟨hb, h⟩ := h
                exact zw_iret d206_231 (zx_rb1 hb) ⟨_, rfl, h⟩
              · skip
                refine zw_aload_n (n := 233) d206_232 rfl rfl ?_
                refine zw_iconst (n := 234) d206_233 rfl zk_i_0 ?_
                refine zw_aload_n (n := 235) d206_234 rfl rfl ?_
                refine zw_geti (n := 238) d206_235 rfl (zj_5 hS).1 (zj_5 hS).2 ?_
                refine zw_iconst (n := 239) d206_238 rfl zk_i_1 ?_
                refine zw_isub (n := 240) d206_239 rfl ?_
                refine zw_cI (n := 243) d206_240 (zs_V rfl rfl rfl rfl (by decide) (zj_5 hS).1 (zq_5 hS)) (by rw [ml_208]; rfl) (by decide) rfl (zc_mI h (fun r9 C9 h => ?_))
                refine zw_if_eq (n := 246) d206_243 rfl (zite h (fun h => ?_) (fun h => ?_))
                · skip
                  refine zw_iconst (n := 266) d206_265 rfl zk_i_0 ?_
                  refine zw_istore_n (n := 267) d206_266 rfl rfl rfl ?_
                  refine zw_iload_n (n := 268) d206_267 rfl rfl ?_
                  refine zw_if_eq (n := 271) d206_268 rfl (zite h (fun h => ?_) (fun h => ?_))
                  · skip
                    refine zw_iload_n (n := 289) d206_288 rfl rfl ?_
                    exact zw_iret d206_289 rfl ⟨_, rfl, h⟩
                  · skip
                    refine zw_aload_n (n := 272) d206_271 rfl rfl ?_
                    refine zw_getr (n := 275) d206_272 rfl (zj_5 hS).1 (zj_5 hS).2 (zr_5_13 hS) ?_
                    refine zw_aload_n (n := 276) d206_275 rfl rfl ?_
                    refine zw_getr (n := 279) d206_276 rfl (zj_5 hS).1 (zj_5 hS).2 (zr_5_27 hS) ?_
                    refine zw_iconst (n := 280) d206_279 rfl zk_i_1 ?_
                    obtain ⟨hi, h⟩ := h
                    refine zw_iald (n := 281) d206_280 rfl (za_5_27 hS).1 (za_5_27 hS).2 hi ?_
                    refine zw_aload_n (n := 282) d206_281 rfl rfl ?_
                    refine zw_getr (n := 285) d206_282 rfl (zj_5 hS).1 (zj_5 hS).2 (zr_5_27 hS) ?_
                    refine zw_iconst (n := 286) d206_285 rfl zk_i_0 ?_
                    obtain ⟨hi, h⟩ := h
                    refine zw_iald (n := 287) d206_286 rfl (za_5_27 hS).1 (za_5_27 hS).2 hi ?_
                    obtain ⟨hi, h⟩ := h
                    refine zw_iast (n := 288) d206_287 rfl (za_5_13 hS).1 (za_5_13 hS).2 hi ?_
                    refine zw_iload_n (n := 289) d206_288 rfl rfl ?_
                    exact zw_iret d206_289 rfl ⟨_, rfl, h⟩
                · skip
                  refine zw_aload_n (n := 247) d206_246 rfl rfl ?_
                  refine zw_iconst (n := 248) d206_247 rfl zk_i_1 ?_
                  refine zw_iconst (n := 249) d206_248 rfl zk_i_0 ?_
                  refine zw_aload_n (n := 250) d206_249 rfl rfl ?_
                  refine zw_geti (n := 253) d206_250 rfl (zj_5 hS).1 (zj_5 hS).2 ?_
                  refine zw_iconst (n := 254) d206_253 rfl zk_i_1 ?_
                  refine zw_isub (n := 255) d206_254 rfl ?_
                  refine zw_cI (n := 258) d206_255 (zs_V rfl rfl rfl rfl (by decide) (zj_5 hS).1 (zq_5 hS)) (by rw [ml_209]; rfl) (by decide) rfl (zc_mI h (fun r10 C10 h => ?_))
                  refine zw_if_eq (n := 261) d206_258 rfl (zite h (fun h => ?_) (fun h => ?_))
                  · skip
                    refine zw_iconst (n := 266) d206_265 rfl zk_i_0 ?_
                    refine zw_istore_n (n := 267) d206_266 rfl rfl rfl ?_
                    refine zw_iload_n (n := 268) d206_267 rfl rfl ?_
                    refine zw_if_eq (n := 271) d206_268 rfl (zite h (fun h => ?_) (fun h => ?_))
                    · skip
                      refine zw_iload_n (n := 289) d206_288 rfl rfl ?_
                      exact zw_iret d206_289 rfl ⟨_, rfl, h⟩
                    · skip
                      refine zw_aload_n (n := 272) d206_271 rfl rfl ?_
                      refine zw_getr (n := 275) d206_272 rfl (zj_5 hS).1 (zj_5 hS).2 (zr_5_13 hS) ?_
                      refine zw_aload_n (n := 276) d206_275 rfl rfl ?_
                      refine zw_getr (n := 279) d206_276 rfl (zj_5 hS).1 (zj_5 hS).2 (zr_5_27 hS) ?_
                      refine zw_iconst (n := 280) d206_279 rfl zk_i_1 ?_
                      obtain ⟨hi, h⟩ := h
                      refine zw_iald (n := 281) d206_280 rfl (za_5_27 hS).1 (za_5_27 hS).2 hi ?_
                      refine zw_aload_n (n := 282) d206_281 rfl rfl ?_
                      refine zw_getr (n := 285) d206_282 rfl (zj_5 hS).1 (zj_5 hS).2 (zr_5_27 hS) ?_
                      refine zw_iconst (n := 286) d206_285 rfl zk_i_0 ?_
                      obtain ⟨hi, h⟩ := h
                      refine zw_iald (n := 287) d206_286 rfl (za_5_27 hS).1 (za_5_27 hS).2 hi ?_
                      obtain ⟨hi, h⟩ := h
                      refine zw_iast (n := 288) d206_287 rfl (za_5_13 hS).1 (za_5_13 hS).2 hi ?_
                      refine zw_iload_n (n := 289) d206_288 rfl rfl ?_
                      exact zw_iret d206_289 rfl ⟨_, rfl, h⟩
                  · skip
                    refine zw_iconst (n := 262) d206_261 rfl zk_i_1 ?_
                    refine zw_goto d206_262 ?_
                    refine zw_istore_n (n := 267) d206_266 rfl rfl rfl ?_
                    refine zw_iload_n (n := 268) d206_267 rfl rfl ?_
                    refine zw_if_eq (n := 271) d206_268 rfl (zite h (fun h => ?_) (fun h => ?_))
                    · skip
                      refine zw_iload_n (n := 289) d206_288 rfl rfl ?_
                      exact zw_iret d206_289 rfl ⟨_, rfl, h⟩
                    · skip
                      refine zw_aload_n (n := 272) d206_271 rfl rfl ?_
                      refine zw_getr (n := 275) d206_272 rfl (zj_5 hS).1 (zj_5 hS).2 (zr_5_13 hS) ?_
                      refine zw_aload_n (n := 276) d206_275 rfl rfl ?_
                      refine zw_getr (n := 279) d206_276 rfl (zj_5 hS).1 (zj_5 hS).2 (zr_5_27 hS) ?_
                      refine zw_iconst (n := 280) d206_279 rfl zk_i_1 ?_
                      obtain ⟨hi, h⟩ := h
                      refine zw_iald (n := 281) d206_280 rfl (za_5_27 hS).1 (za_5_27 hS).2 hi ?_
                      refine zw_aload_n (n := 282) d206_281 rfl rfl ?_
                      refine zw_getr (n := 285) d206_282 rfl (zj_5 hS).1 (zj_5 hS).2 (zr_5_27 hS) ?_
                      refine zw_iconst (n := 286) d206_285 rfl zk_i_0 ?_
                      obtain ⟨hi, h⟩ := h
                      refine zw_iald (n := 287) d206_286 rfl (za_5_27 hS).1 (za_5_27 hS).2 hi ?_
                      obtain ⟨hi, h⟩ := h
                      refine zw_iast (n := 288) d206_287 rfl (za_5_13 hS).1 (za_5_13 hS).2 hi ?_
                      refine zw_iload_n (n := 289) d206_288 rfl rfl ?_
                      exact zw_iret d206_289 rfl ⟨_, rfl, h⟩
            · skip
              refine zw_aload_n (n := 187) d206_186 rfl rfl ?_
              refine zw_iconst (n := 188) d206_187 rfl zk_i_0 ?_
              refine zw_sipush (n := 191) d206_188 rfl zk_s_9999 ?_
              refine zw_cI (n := 194) d206_191 (zs_V rfl rfl rfl rfl (by decide) (zj_5 hS).1 (zq_5 hS)) (by rw [ml_208]; rfl) (by decide) rfl (zc_mI h (fun r11 C11 h => ?_))
              refine zw_istore_n (n := 195) d206_194 rfl rfl rfl ?_
              refine zw_aload_n (n := 196) d206_195 rfl rfl ?_
              refine zw_iload_n (n := 197) d206_196 rfl rfl ?_
              refine zw_if_eq (n := 200) d206_197 rfl (zite h (fun h => ?_) (fun h => ?_))
              · skip
                refine zw_aload_n (n := 210) d206_209 rfl rfl ?_
                refine zw_geti (n := 213) d206_210 rfl (zj_5 hS).1 (zj_5 hS).2 ?_
                refine zw_puti (n := 216) d206_213 rfl (zj_5 hS).1 (zj_5 hS).2 ?_
                refine zw_iload_n (n := 217) d206_216 rfl rfl ?_
                obtain ⟨hb, h⟩ := h
                exact zw_iret d206_217 (zx_rb1 hb) ⟨_, rfl, h⟩
              · skip
                refine zw_aload_n (n := 201) d206_200 rfl rfl ?_
                refine zw_getr (n := 204) d206_201 rfl (zj_5 hS).1 (zj_5 hS).2 (zr_5_27 hS) ?_
                refine zw_iconst (n := 205) d206_204 rfl zk_i_0 ?_
                obtain ⟨hi, h⟩ := h
                refine zw_iald (n := 206) d206_205 rfl (za_5_27 hS).1 (za_5_27 hS).2 hi ?_
                refine zw_goto d206_206 ?_
                refine zw_puti (n := 216) d206_213 rfl (zj_5 hS).1 (zj_5 hS).2 ?_
                refine zw_iload_n (n := 217) d206_216 rfl rfl ?_
                obtain ⟨hb, h⟩ := h
                exact zw_iret d206_217 (zx_rb1 hb) ⟨_, rfl, h⟩
          · skip
            refine zw_aload_n (n := 125) d206_124 rfl rfl ?_
            refine zw_iconst (n := 126) d206_125 rfl zk_i_0 ?_
            refine zw_aload_n (n := 127) d206_126 rfl rfl ?_
            refine zw_geti (n := 130) d206_127 rfl (zj_5 hS).1 (zj_5 hS).2 ?_
            refine zw_iconst (n := 131) d206_130 rfl zk_i_1 ?_
            refine zw_isub (n := 132) d206_131 rfl ?_
            refine zw_cI (n := 135) d206_132 (zs_V rfl rfl rfl rfl (by decide) (zj_5 hS).1 (zq_5 hS)) (by rw [ml_208]; rfl) (by decide) rfl (zc_mI h (fun r12 C12 h => ?_))
            refine zw_if_eq (n := 138) d206_135 rfl (zite h (fun h => ?_) (fun h => ?_))
            · skip
              refine zw_iconst (n := 153) d206_152 rfl zk_i_0 ?_
              refine zw_istore_n (n := 154) d206_153 rfl rfl rfl ?_
              refine zw_iload_n (n := 155) d206_154 rfl rfl ?_
              refine zw_if_eq (n := 158) d206_155 rfl (zite h (fun h => ?_) (fun h => ?_))
              · skip
                refine zw_iload_n (n := 176) d206_175 rfl rfl ?_
                exact zw_iret d206_176 rfl ⟨_, rfl, h⟩
              · skip
                refine zw_aload_n (n := 159) d206_158 rfl rfl ?_
                refine zw_getr (n := 162) d206_159 rfl (zj_5 hS).1 (zj_5 hS).2 (zr_5_17 hS) ?_
                refine zw_aload_n (n := 163) d206_162 rfl rfl ?_
                refine zw_getr (n := 166) d206_163 rfl (zj_5 hS).1 (zj_5 hS).2 (zr_5_27 hS) ?_
                refine zw_iconst (n := 167) d206_166 rfl zk_i_0 ?_
                obtain ⟨hi, h⟩ := h
                refine zw_iald (n := 168) d206_167 rfl (za_5_27 hS).1 (za_5_27 hS).2 hi ?_
                refine zw_aload_n (n := 169) d206_168 rfl rfl ?_
                refine zw_getr (n := 172) d206_169 rfl (zj_5 hS).1 (zj_5 hS).2 (zr_5_27 hS) ?_
                refine zw_iconst (n := 173) d206_172 rfl zk_i_1 ?_
                obtain ⟨hi, h⟩ := h
                refine zw_iald (n := 174) d206_173 rfl (za_5_27 hS).1 (za_5_27 hS).2 hi ?_
                obtain ⟨hi, h⟩ := h
                refine zw_iast (n := 175) d206_174 rfl (za_5_17 hS).1 (za_5_17 hS).2 hi ?_
                refine zw_iload_n (n := 176) d206_175 rfl rfl ?_
                exact zw_iret d206_176 rfl ⟨_, rfl, h⟩
            · skip
              refine zw_aload_n (n := 139) d206_138 rfl rfl ?_
              refine zw_iconst (n := 140) d206_139 rfl zk_i_1 ?_
              refine zw_iconst (n := 141) d206_140 rfl zk_i_0 ?_
              refine zw_iconst (n := 142) d206_141 rfl zk_i_5 ?_
              refine zw_cI (n := 145) d206_142 (zs_V rfl rfl rfl rfl (by decide) (zj_5 hS).1 (zq_5 hS)) (by rw [ml_209]; rfl) (by decide) rfl (zc_mI h (fun r13 C13 h => ?_))
              refine zw_if_eq (n := 148) d206_145 rfl (zite h (fun h => ?_) (fun h => ?_))
              · skip
                refine zw_iconst (n := 153) d206_152 rfl zk_i_0 ?_
                refine zw_istore_n (n := 154) d206_153 rfl rfl rfl ?_
                refine zw_iload_n (n := 155) d206_154 rfl rfl ?_
                refine zw_if_eq (n := 158) d206_155 rfl (zite h (fun h => ?_) (fun h => ?_))
                · skip
                  refine zw_iload_n (n := 176) d206_175 rfl rfl ?_
                  exact zw_iret d206_176 rfl ⟨_, rfl, h⟩
                · skip
                  refine zw_aload_n (n := 159) d206_158 rfl rfl ?_
                  refine zw_getr (n := 162) d206_159 rfl (zj_5 hS).1 (zj_5 hS).2 (zr_5_17 hS) ?_
                  refine zw_aload_n (n := 163) d206_162 rfl rfl ?_
                  refine zw_getr (n := 166) d206_163 rfl (zj_5 hS).1 (zj_5 hS).2 (zr_5_27 hS) ?_
                  refine zw_iconst (n := 167) d206_166 rfl zk_i_0 ?_
                  obtain ⟨hi, h⟩ := h
                  refine zw_iald (n := 168) d206_167 rfl (za_5_27 hS).1 (za_5_27 hS).2 hi ?_
                  refine zw_aload_n (n := 169) d206_168 rfl rfl ?_
                  refine zw_getr (n := 172) d206_169 rfl (zj_5 hS).1 (zj_5 hS).2 (zr_5_27 hS) ?_
                  refine zw_iconst (n := 173) d206_172 rfl zk_i_1 ?_
                  obtain ⟨hi, h⟩ := h
                  refine zw_iald (n := 174) d206_173 rfl (za_5_27 hS).1 (za_5_27 hS).2 hi ?_
                  obtain ⟨hi, h⟩ := h
                  refine zw_iast (n := 175) d206_174 rfl (za_5_17 hS).1 (za_5_17 hS).2 hi ?_
                  refine zw_iload_n (n := 176) d206_175 rfl rfl ?_
                  exact zw_iret d206_176 rfl ⟨_, rfl, h⟩
              · skip
                refine zw_iconst (n := 149) d206_148 rfl zk_i_1 ?_
                refine zw_goto d206_149 ?_
                refine zw_istore_n (n := 154) d206_153 rfl rfl rfl ?_
                refine zw_iload_n (n := 155) d206_154 rfl rfl ?_
                refine zw_if_eq (n := 158) d206_155 rfl (zite h (fun h => ?_) (fun h => ?_))
                · skip
                  refine zw_iload_n (n := 176) d206_175 rfl rfl ?_
                  exact zw_iret d206_176 rfl ⟨_, rfl, h⟩
                · skip
                  refine zw_aload_n (n := 159) d206_158 rfl rfl ?_
                  refine zw_getr (n := 162) d206_159 rfl (zj_5 hS).1 (zj_5 hS).2 (zr_5_17 hS) ?_
                  refine zw_aload_n (n := 163) d206_162 rfl rfl ?_
                  refine zw_getr (n := 166) d206_163 rfl (zj_5 hS).1 (zj_5 hS).2 (zr_5_27 hS) ?_
                  refine zw_iconst (n := 167) d206_166 rfl zk_i_0 ?_
                  obtain ⟨hi, h⟩ := h
                  refine zw_iald (n := 168) d206_167 rfl (za_5_27 hS).1 (za_5_27 hS).2 hi ?_
                  refine zw_aload_n (n := 169) d206_168 rfl rfl ?_
                  refine zw_getr (n := 172) d206_169 rfl (zj_5 hS).1 (zj_5 hS).2 (zr_5_27 hS) ?_
                  refine zw_iconst (n := 173) d206_172 rfl zk_i_1 ?_
                  obtain ⟨hi, h⟩ := h
                  refine zw_iald (n := 174) d206_173 rfl (za_5_27 hS).1 (za_5_27 hS).2 hi ?_
                  obtain ⟨hi, h⟩ := h
                  refine zw_iast (n := 175) d206_174 rfl (za_5_17 hS).1 (za_5_17 hS).2 hi ?_
                  refine zw_iload_n (n := 176) d206_175 rfl rfl ?_
                  exact zw_iret d206_176 rfl ⟨_, rfl, h⟩
        · skip
          refine zw_aload_n (n := 111) d206_110 rfl rfl ?_
          refine zw_cI (n := 114) d206_111 (zs_V rfl rfl rfl rfl (by decide) (zj_5 hS).1 (zq_5 hS)) (by rw [ml_212]; rfl) (by decide) rfl (zc_mI h (fun r14 C14 h => ?_))
          obtain ⟨hb, h⟩ := h
          exact zw_iret d206_114 (zx_rb1 hb) ⟨_, rfl, h⟩
      · skip
        refine zw_aload_n (n := 72) d206_71 rfl rfl ?_
        refine zw_iconst (n := 73) d206_72 rfl zk_i_0 ?_
        refine zw_iconst (n := 74) d206_73 rfl zk_i_3 ?_
        refine zw_cI (n := 77) d206_74 (zs_V rfl rfl rfl rfl (by decide) (zj_5 hS).1 (zq_5 hS)) (by rw [ml_208]; rfl) (by decide) rfl (zc_mI h (fun r15 C15 h => ?_))
        refine zw_istore_n (n := 78) d206_77 rfl rfl rfl ?_
        refine zw_aload_n (n := 79) d206_78 rfl rfl ?_
        refine zw_iload_n (n := 80) d206_79 rfl rfl ?_
        refine zw_if_eq (n := 83) d206_80 rfl (zite h (fun h => ?_) (fun h => ?_))
        · skip
          refine zw_aload_n (n := 93) d206_92 rfl rfl ?_
          refine zw_geti (n := 96) d206_93 rfl (zj_5 hS).1 (zj_5 hS).2 ?_
          refine zw_puti (n := 99) d206_96 rfl (zj_5 hS).1 (zj_5 hS).2 ?_
          refine zw_iload_n (n := 100) d206_99 rfl rfl ?_
          obtain ⟨hb, h⟩ := h
          exact zw_iret d206_100 (zx_rb1 hb) ⟨_, rfl, h⟩
        · skip
          refine zw_aload_n (n := 84) d206_83 rfl rfl ?_
          refine zw_getr (n := 87) d206_84 rfl (zj_5 hS).1 (zj_5 hS).2 (zr_5_27 hS) ?_
          refine zw_iconst (n := 88) d206_87 rfl zk_i_0 ?_
          obtain ⟨hi, h⟩ := h
          refine zw_iald (n := 89) d206_88 rfl (za_5_27 hS).1 (za_5_27 hS).2 hi ?_
          refine zw_goto d206_89 ?_
          refine zw_puti (n := 99) d206_96 rfl (zj_5 hS).1 (zj_5 hS).2 ?_
          refine zw_iload_n (n := 100) d206_99 rfl rfl ?_
          obtain ⟨hb, h⟩ := h
          exact zw_iret d206_100 (zx_rb1 hb) ⟨_, rfl, h⟩
    · skip
      refine zw_aload_n (n := 49) d206_48 rfl rfl ?_
      refine zw_geti (n := 52) d206_49 rfl (zj_5 hS).1 (zj_5 hS).2 ?_
      refine zw_bipush (n := 54) d206_52 rfl zk_b_8 ?_
      refine zw_ic_ge (n := 57) d206_54 rfl (zite h (fun h => ?_) (fun h => ?_))
      · skip
        refine zw_aload_n (n := 58) d206_57 rfl rfl ?_
        refine zw_cI (n := 61) d206_58 (zs_V rfl rfl rfl rfl (by decide) (zj_5 hS).1 (zq_5 hS)) (by rw [ml_211]; rfl) (by decide) rfl (zc_mI h (fun r16 C16 h => ?_))
        obtain ⟨hb, h⟩ := h
        exact zw_iret d206_61 (zx_rb1 hb) ⟨_, rfl, h⟩
      · skip
        refine zw_aload_n (n := 63) d206_62 rfl rfl ?_
        refine zw_ldcs (n := 65) d206_63 rfl ?_
        refine zw_cI (n := 68) d206_65 (zs_V rfl rfl rfl rfl (by decide) (zj_5 hS).1 (zq_5 hS)) (by rw [ml_207]; rfl) (by decide) rfl (zc_mI h (fun r17 C17 h => ?_))
        refine zw_if_eq (n := 71) d206_68 rfl (zite h (fun h => ?_) (fun h => ?_))
        · skip
          refine zw_aload_n (n := 102) d206_101 rfl rfl ?_
          refine zw_ldcs (n := 104) d206_102 rfl ?_
          refine zw_cI (n := 107) d206_104 (zs_V rfl rfl rfl rfl (by decide) (zj_5 hS).1 (zq_5 hS)) (by rw [ml_207]; rfl) (by decide) rfl (zc_mI h (fun r18 C18 h => ?_))
          refine zw_if_eq (n := 110) d206_107 rfl (zite h (fun h => ?_) (fun h => ?_))
          · skip
            refine zw_aload_n (n := 116) d206_115 rfl rfl ?_
            refine zw_ldcs (n := 118) d206_116 rfl ?_
            refine zw_cI (n := 121) d206_118 (zs_V rfl rfl rfl rfl (by decide) (zj_5 hS).1 (zq_5 hS)) (by rw [ml_207]; rfl) (by decide) rfl (zc_mI h (fun r19 C19 h => ?_))
            refine zw_if_eq (n := 124) d206_121 rfl (zite h (fun h => ?_) (fun h => ?_))
            · skip
              refine zw_aload_n (n := 178) d206_177 rfl rfl ?_
              refine zw_ldcs (n := 180) d206_178 rfl ?_
              refine zw_cI (n := 183) d206_180 (zs_V rfl rfl rfl rfl (by decide) (zj_5 hS).1 (zq_5 hS)) (by rw [ml_207]; rfl) (by decide) rfl (zc_mI h (fun r20 C20 h => ?_))
              refine zw_if_eq (n := 186) d206_183 rfl (zite h (fun h => ?_) (fun h => ?_))
              · skip
                refine zw_aload_n (n := 219) d206_218 rfl rfl ?_
                refine zw_ldcs (n := 221) d206_219 rfl ?_
                refine zw_cI (n := 224) d206_221 (zs_V rfl rfl rfl rfl (by decide) (zj_5 hS).1 (zq_5 hS)) (by rw [ml_207]; rfl) (by decide) rfl (zc_mI h (fun r21 C21 h => ?_))
                refine zw_if_ne (n := 227) d206_224 rfl (zite h (fun h => ?_) (fun h => ?_))
                · skip
                  refine zw_aload_n (n := 228) d206_227 rfl rfl ?_
                  refine zw_cI (n := 231) d206_228 (zs_V rfl rfl rfl rfl (by decide) (zj_5 hS).1 (zq_5 hS)) (by rw [ml_210]; rfl) (by decide) rfl (zc_mI h (fun r22 C22 h => ?_))
                  obtain ⟨hb, h⟩ := h
                  exact zw_iret d206_231 (zx_rb1 hb) ⟨_, rfl, h⟩
                · skip
                  refine zw_aload_n (n := 233) d206_232 rfl rfl ?_
                  refine zw_iconst (n := 234) d206_233 rfl zk_i_0 ?_
                  refine zw_aload_n (n := 235) d206_234 rfl rfl ?_
                  refine zw_geti (n := 238) d206_235 rfl (zj_5 hS).1 (zj_5 hS).2 ?_
                  refine zw_iconst (n := 239) d206_238 rfl zk_i_1 ?_
                  refine zw_isub (n := 240) d206_239 rfl ?_
                  refine zw_cI (n := 243) d206_240 (zs_V rfl rfl rfl rfl (by decide) (zj_5 hS).1 (zq_5 hS)) (by rw [ml_208]; rfl) (by decide) rfl (zc_mI h (fun r23 C23 h => ?_))
                  refine zw_if_eq (n := 246) d206_243 rfl (zite h (fun h => ?_) (fun h => ?_))
                  · skip
                    refine zw_iconst (n := 266) d206_265 rfl zk_i_0 ?_
                    refine zw_istore_n (n := 267) d206_266 rfl rfl rfl ?_
                    refine zw_iload_n (n := 268) d206_267 rfl rfl ?_
                    refine zw_if_eq (n := 271) d206_268 rfl (zite h (fun h => ?_) (fun h => ?_))
                    · skip
                      refine zw_iload_n (n := 289) d206_288 rfl rfl ?_
                      exact zw_iret d206_289 rfl ⟨_, rfl, h⟩
                    · skip
                      refine zw_aload_n (n := 272) d206_271 rfl rfl ?_
                      refine zw_getr (n := 275) d206_272 rfl (zj_5 hS).1 (zj_5 hS).2 (zr_5_13 hS) ?_
                      refine zw_aload_n (n := 276) d206_275 rfl rfl ?_
                      refine zw_getr (n := 279) d206_276 rfl (zj_5 hS).1 (zj_5 hS).2 (zr_5_27 hS) ?_
                      refine zw_iconst (n := 280) d206_279 rfl zk_i_1 ?_
                      obtain ⟨hi, h⟩ := h
                      refine zw_iald (n := 281) d206_280 rfl (za_5_27 hS).1 (za_5_27 hS).2 hi ?_
                      refine zw_aload_n (n := 282) d206_281 rfl rfl ?_
                      refine zw_getr (n := 285) d206_282 rfl (zj_5 hS).1 (zj_5 hS).2 (zr_5_27 hS) ?_
                      refine zw_iconst (n := 286) d206_285 rfl zk_i_0 ?_
                      obtain ⟨hi, h⟩ := h
                      refine zw_iald (n := 287) d206_286 rfl (za_5_27 hS).1 (za_5_27 hS).2 hi ?_
                      obtain ⟨hi, h⟩ := h
                      refine zw_iast (n := 288) d206_287 rfl (za_5_13 hS).1 (za_5_13 hS).2 hi ?_
                      refine zw_iload_n (n := 289) d206_288 rfl rfl ?_
                      exact zw_iret d206_289 rfl ⟨_, rfl, h⟩
                  · skip
                    refine zw_aload_n (n := 247) d206_246 rfl rfl ?_
                    refine zw_iconst (n := 248) d206_247 rfl zk_i_1 ?_
                    refine zw_iconst (n := 249) d206_248 rfl zk_i_0 ?_
                    refine zw_aload_n (n := 250) d206_249 rfl rfl ?_
                    refine zw_geti (n := 253) d206_250 rfl (zj_5 hS).1 (zj_5 hS).2 ?_
                    refine zw_iconst (n := 254) d206_253 rfl zk_i_1 ?_
                    refine zw_isub (n := 255) d206_254 rfl ?_
                    refine zw_cI (n := 258) d206_255 (zs_V rfl rfl rfl rfl (by decide) (zj_5 hS).1 (zq_5 hS)) (by rw [ml_209]; rfl) (by decide) rfl (zc_mI h (fun r24 C24 h => ?_))
                    refine zw_if_eq (n := 261) d206_258 rfl (zite h (fun h => ?_) (fun h => ?_))
                    · skip
                      refine zw_iconst (n := 266) d206_265 rfl zk_i_0 ?_
                      refine zw_istore_n (n := 267) d206_266 rfl rfl rfl ?_
                      refine zw_iload_n (n := 268) d206_267 rfl rfl ?_
                      refine zw_if_eq (n := 271) d206_268 rfl (zite h (fun h => ?_) (fun h => ?_))
                      · skip
                        refine zw_iload_n (n := 289) d206_288 rfl rfl ?_
                        exact zw_iret d206_289 rfl ⟨_, rfl, h⟩
                      · skip
                        refine zw_aload_n (n := 272) d206_271 rfl rfl ?_
                        refine zw_getr (n := 275) d206_272 rfl (zj_5 hS).1 (zj_5 hS).2 (zr_5_13 hS) ?_
                        refine zw_aload_n (n := 276) d206_275 rfl rfl ?_
                        refine zw_getr (n := 279) d206_276 rfl (zj_5 hS).1 (zj_5 hS).2 (zr_5_27 hS) ?_
                        refine zw_iconst (n := 280) d206_279 rfl zk_i_1 ?_
                        obtain ⟨hi, h⟩ := h
                        refine zw_iald (n := 281) d206_280 rfl (za_5_27 hS).1 (za_5_27 hS).2 hi ?_
                        refine zw_aload_n (n := 282) d206_281 rfl rfl ?_
                        refine zw_getr (n := 285) d206_282 rfl (zj_5 hS).1 (zj_5 hS).2 (zr_5_27 hS) ?_
                        refine zw_iconst (n := 286) d206_285 rfl zk_i_0 ?_
                        obtain ⟨hi, h⟩ := h
                        refine zw_iald (n := 287) d206_286 rfl (za_5_27 hS).1 (za_5_27 hS).2 hi ?_
                        obtain ⟨hi, h⟩ := h
                        refine zw_iast (n := 288) d206_287 rfl (za_5_13 hS).1 (za_5_13 hS).2 hi ?_
                        refine zw_iload_n (n := 289) d206_288 rfl rfl ?_
                        exact zw_iret d206_289 rfl ⟨_, rfl, h⟩
                    · skip
                      refine zw_iconst (n := 262) d206_261 rfl zk_i_1 ?_
                      refine zw_goto d206_262 ?_
                      refine zw_istore_n (n := 267) d206_266 rfl rfl rfl ?_
                      refine zw_iload_n (n := 268) d206_267 rfl rfl ?_
                      refine zw_if_eq (n := 271) d206_268 rfl (zite h (fun h => ?_) (fun h => ?_))
                      · skip
                        refine zw_iload_n (n := 289) d206_288 rfl rfl ?_
                        exact zw_iret d206_289 rfl ⟨_, rfl, h⟩
                      · skip
                        refine zw_aload_n (n := 272) d206_271 rfl rfl ?_
                        refine zw_getr (n := 275) d206_272 rfl (zj_5 hS).1 (zj_5 hS).2 (zr_5_13 hS) ?_
                        refine zw_aload_n (n := 276) d206_275 rfl rfl ?_
                        refine zw_getr (n := 279) d206_276 rfl (zj_5 hS).1 (zj_5 hS).2 (zr_5_27 hS) ?_
                        refine zw_iconst (n := 280) d206_279 rfl zk_i_1 ?_
                        obtain ⟨hi, h⟩ := h
                        refine zw_iald (n := 281) d206_280 rfl (za_5_27 hS).1 (za_5_27 hS).2 hi ?_
                        refine zw_aload_n (n := 282) d206_281 rfl rfl ?_
                        refine zw_getr (n := 285) d206_282 rfl (zj_5 hS).1 (zj_5 hS).2 (zr_5_27 hS) ?_
                        refine zw_iconst (n := 286) d206_285 rfl zk_i_0 ?_
                        obtain ⟨hi, h⟩ := h
                        refine zw_iald (n := 287) d206_286 rfl (za_5_27 hS).1 (za_5_27 hS).2 hi ?_
                        obtain ⟨hi, h⟩ := h
                        refine zw_iast (n := 288) d206_287 rfl (za_5_13 hS).1 (za_5_13 hS).2 hi ?_
                        refine zw_iload_n (n := 289) d206_288 rfl rfl ?_
                        exact zw_iret d206_289 rfl ⟨_, rfl, h⟩
              · skip
                refine zw_aload_n (n := 187) d206_186 rfl rfl ?_
                refine zw_iconst (n := 188) d206_187 rfl zk_i_0 ?_
                refine zw_sipush (n := 191) d206_188 rfl zk_s_9999 ?_
                refine zw_cI (n := 194) d206_191 (zs_V rfl rfl rfl rfl (by decide) (zj_5 hS).1 (zq_5 hS)) (by rw [ml_208]; rfl) (by decide) rfl (zc_mI h (fun r25 C25 h => ?_))
                refine zw_istore_n (n := 195) d206_194 rfl rfl rfl ?_
                refine zw_aload_n (n := 196) d206_195 rfl rfl ?_
                refine zw_iload_n (n := 197) d206_196 rfl rfl ?_
                refine zw_if_eq (n := 200) d206_197 rfl (zite h (fun h => ?_) (fun h => ?_))
                · skip
                  refine zw_aload_n (n := 210) d206_209 rfl rfl ?_
                  refine zw_geti (n := 213) d206_210 rfl (zj_5 hS).1 (zj_5 hS).2 ?_
                  refine zw_puti (n := 216) d206_213 rfl (zj_5 hS).1 (zj_5 hS).2 ?_
                  refine zw_iload_n (n := 217) d206_216 rfl rfl ?_
                  obtain ⟨hb, h⟩ := h
                  exact zw_iret d206_217 (zx_rb1 hb) ⟨_, rfl, h⟩
                · skip
                  refine zw_aload_n (n := 201) d206_200 rfl rfl ?_
                  refine zw_getr (n := 204) d206_201 rfl (zj_5 hS).1 (zj_5 hS).2 (zr_5_27 hS) ?_
                  refine zw_iconst (n := 205) d206_204 rfl zk_i_0 ?_
                  obtain ⟨hi, h⟩ := h
                  refine zw_iald (n := 206) d206_205 rfl (za_5_27 hS).1 (za_5_27 hS).2 hi ?_
                  refine zw_goto d206_206 ?_
                  refine zw_puti (n := 216) d206_213 rfl (zj_5 hS).1 (zj_5 hS).2 ?_
                  refine zw_iload_n (n := 217) d206_216 rfl rfl ?_
                  obtain ⟨hb, h⟩ := h
                  exact zw_iret d206_217 (zx_rb1 hb) ⟨_, rfl, h⟩
            · skip
              refine zw_aload_n (n := 125) d206_124 rfl rfl ?_
              refine zw_iconst (n := 126) d206_125 rfl zk_i_0 ?_
              refine zw_aload_n (n := 127) d206_126 rfl rfl ?_
              refine zw_geti (n := 130) d206_127 rfl (zj_5 hS).1 (zj_5 hS).2 ?_
              refine zw_iconst (n := 131) d206_130 rfl zk_i_1 ?_
              refine zw_isub (n := 132) d206_131 rfl ?_
              refine zw_cI (n := 135) d206_132 (zs_V rfl rfl rfl rfl (by decide) (zj_5 hS).1 (zq_5 hS)) (by rw [ml_208]; rfl) (by decide) rfl (zc_mI h (fun r26 C26 h => ?_))
              refine zw_if_eq (n := 138) d206_135 rfl (zite h (fun h => ?_) (fun h => ?_))
              · skip
                refine zw_iconst (n := 153) d206_152 rfl zk_i_0 ?_
                refine zw_istore_n (n := 154) d206_153 rfl rfl rfl ?_
                refine zw_iload_n (n := 155) d206_154 rfl rfl ?_
                refine zw_if_eq (n := 158) d206_155 rfl (zite h (fun h => ?_) (fun h => ?_))
                · skip
                  refine zw_iload_n (n := 176) d206_175 rfl rfl ?_
                  exact zw_iret d206_176 rfl ⟨_, rfl, h⟩
                · skip
                  refine zw_aload_n (n := 159) d206_158 rfl rfl ?_
                  refine zw_getr (n := 162) d206_159 rfl (zj_5 hS).1 (zj_5 hS).2 (zr_5_17 hS) ?_
                  refine zw_aload_n (n := 163) d206_162 rfl rfl ?_
                  refine zw_getr (n := 166) d206_163 rfl (zj_5 hS).1 (zj_5 hS).2 (zr_5_27 hS) ?_
                  refine zw_iconst (n := 167) d206_166 rfl zk_i_0 ?_
                  obtain ⟨hi, h⟩ := h
                  refine zw_iald (n := 168) d206_167 rfl (za_5_27 hS).1 (za_5_27 hS).2 hi ?_
                  refine zw_aload_n (n := 169) d206_168 rfl rfl ?_
                  refine zw_getr (n := 172) d206_169 rfl (zj_5 hS).1 (zj_5 hS).2 (zr_5_27 hS) ?_
                  refine zw_iconst (n := 173) d206_172 rfl zk_i_1 ?_
                  obtain ⟨hi, h⟩ := h
                  refine zw_iald (n := 174) d206_173 rfl (za_5_27 hS).1 (za_5_27 hS).2 hi ?_
                  obtain ⟨hi, h⟩ := h
                  refine zw_iast (n := 175) d206_174 rfl (za_5_17 hS).1 (za_5_17 hS).2 hi ?_
                  refine zw_iload_n (n := 176) d206_175 rfl rfl ?_
                  exact zw_iret d206_176 rfl ⟨_, rfl, h⟩
              · skip
                refine zw_aload_n (n := 139) d206_138 rfl rfl ?_
                refine zw_iconst (n := 140) d206_139 rfl zk_i_1 ?_
                refine zw_iconst (n := 141) d206_140 rfl zk_i_0 ?_
                refine zw_iconst (n := 142) d206_141 rfl zk_i_5 ?_
                refine zw_cI (n := 145) d206_142 (zs_V rfl rfl rfl rfl (by decide) (zj_5 hS).1 (zq_5 hS)) (by rw [ml_209]; rfl) (by decide) rfl (zc_mI h (fun r27 C27 h => ?_))
                refine zw_if_eq (n := 148) d206_145 rfl (zite h (fun h => ?_) (fun h => ?_))
                · skip
                  refine zw_iconst (n := 153) d206_152 rfl zk_i_0 ?_
                  refine zw_istore_n (n := 154) d206_153 rfl rfl rfl ?_
                  refine zw_iload_n (n := 155) d206_154 rfl rfl ?_
                  refine zw_if_eq (n := 158) d206_155 rfl (zite h (fun h => ?_) (fun h => ?_))
                  · skip
                    refine zw_iload_n (n := 176) d206_175 rfl rfl ?_
                    exact zw_iret d206_176 rfl ⟨_, rfl, h⟩
                  · skip
                    refine zw_aload_n (n := 159) d206_158 rfl rfl ?_
                    refine zw_getr (n := 162) d206_159 rfl (zj_5 hS).1 (zj_5 hS).2 (zr_5_17 hS) ?_
                    refine zw_aload_n (n := 163) d206_162 rfl rfl ?_
                    refine zw_getr (n := 166) d206_163 rfl (zj_5 hS).1 (zj_5 hS).2 (zr_5_27 hS) ?_
                    refine zw_iconst (n := 167) d206_166 rfl zk_i_0 ?_
                    obtain ⟨hi, h⟩ := h
                    refine zw_iald (n := 168) d206_167 rfl (za_5_27 hS).1 (za_5_27 hS).2 hi ?_
                    refine zw_aload_n (n := 169) d206_168 rfl rfl ?_
                    refine zw_getr (n := 172) d206_169 rfl (zj_5 hS).1 (zj_5 hS).2 (zr_5_27 hS) ?_
                    refine zw_iconst (n := 173) d206_172 rfl zk_i_1 ?_
                    obtain ⟨hi, h⟩ := h
                    refine zw_iald (n := 174) d206_173 rfl (za_5_27 hS).1 (za_5_27 hS).2 hi ?_
                    obtain ⟨hi, h⟩ := h
                    refine zw_iast (n := 175) d206_174 rfl (za_5_17 hS).1 (za_5_17 hS).2 hi ?_
                    refine zw_iload_n (n := 176) d206_175 rfl rfl ?_
                    exact zw_iret d206_176 rfl ⟨_, rfl, h⟩
                · skip
                  refine zw_iconst (n := 149) d206_148 rfl zk_i_1 ?_
                  refine zw_goto d206_149 ?_
                  refine zw_istore_n (n := 154) d206_153 rfl rfl rfl ?_
                  refine zw_iload_n (n := 155) d206_154 rfl rfl ?_
                  refine zw_if_eq (n := 158) d206_155 rfl (zite h (fun h => ?_) (fun h => ?_))
                  · skip
                    refine zw_iload_n (n := 176) d206_175 rfl rfl ?_
                    exact zw_iret d206_176 rfl ⟨_, rfl, h⟩
                  · skip
                    refine zw_aload_n (n := 159) d206_158 rfl rfl ?_
                    refine zw_getr (n := 162) d206_159 rfl (zj_5 hS).1 (zj_5 hS).2 (zr_5_17 hS) ?_
                    refine zw_aload_n (n := 163) d206_162 rfl rfl ?_
                    refine zw_getr (n := 166) d206_163 rfl (zj_5 hS).1 (zj_5 hS).2 (zr_5_27 hS) ?_
                    refine zw_iconst (n := 167) d206_166 rfl zk_i_0 ?_
                    obtain ⟨hi, h⟩ := h
                    refine zw_iald (n := 168) d206_167 rfl (za_5_27 hS).1 (za_5_27 hS).2 hi ?_
                    refine zw_aload_n (n := 169) d206_168 rfl rfl ?_
                    refine zw_getr (n := 172) d206_169 rfl (zj_5 hS).1 (zj_5 hS).2 (zr_5_27 hS) ?_
                    refine zw_iconst (n := 173) d206_172 rfl zk_i_1 ?_
                    obtain ⟨hi, h⟩ := h
                    refine zw_iald (n := 174) d206_173 rfl (za_5_27 hS).1 (za_5_27 hS).2 hi ?_
                    obtain ⟨hi, h⟩ := h
                    refine zw_iast (n := 175) d206_174 rfl (za_5_17 hS).1 (za_5_17 hS).2 hi ?_
                    refine zw_iload_n (n := 176) d206_175 rfl rfl ?_
                    exact zw_iret d206_176 rfl ⟨_, rfl, h⟩
          · skip
            refine zw_aload_n (n := 111) d206_110 rfl rfl ?_
            refine zw_cI (n := 114) d206_111 (zs_V rfl rfl rfl rfl (by decide) (zj_5 hS).1 (zq_5 hS)) (by rw [ml_212]; rfl) (by decide) rfl (zc_mI h (fun r28 C28 h => ?_))
            obtain ⟨hb, h⟩ := h
            exact zw_iret d206_114 (zx_rb1 hb) ⟨_, rfl, h⟩
        · skip
          refine zw_aload_n (n := 72) d206_71 rfl rfl ?_
          refine zw_iconst (n := 73) d206_72 rfl zk_i_0 ?_
          refine zw_iconst (n := 74) d206_73 rfl zk_i_3 ?_
          refine zw_cI (n := 77) d206_74 (zs_V rfl rfl rfl rfl (by decide) (zj_5 hS).1 (zq_5 hS)) (by rw [ml_208]; rfl) (by decide) rfl (zc_mI h (fun r29 C29 h => ?_))
          refine zw_istore_n (n := 78) d206_77 rfl rfl rfl ?_
          refine zw_aload_n (n := 79) d206_78 rfl rfl ?_
          refine zw_iload_n (n := 80) d206_79 rfl rfl ?_
          refine zw_if_eq (n := 83) d206_80 rfl (zite h (fun h => ?_) (fun h => ?_))
          · skip
            refine zw_aload_n (n := 93) d206_92 rfl rfl ?_
            refine zw_geti (n := 96) d206_93 rfl (zj_5 hS).1 (zj_5 hS).2 ?_
            refine zw_puti (n := 99) d206_96 rfl (zj_5 hS).1 (zj_5 hS).2 ?_
            refine zw_iload_n (n := 100) d206_99 rfl rfl ?_
            obtain ⟨hb, h⟩ := h
            exact zw_iret d206_100 (zx_rb1 hb) ⟨_, rfl, h⟩
          · skip
            refine zw_aload_n (n := 84) d206_83 rfl rfl ?_
            refine zw_getr (n := 87) d206_84 rfl (zj_5 hS).1 (zj_5 hS).2 (zr_5_27 hS) ?_
            refine zw_iconst (n := 88) d206_87 rfl zk_i_0 ?_
            obtain ⟨hi, h⟩ := h
            refine zw_iald (n := 89) d206_88 rfl (za_5_27 hS).1 (za_5_27 hS).2 hi ?_
            refine zw_goto d206_89 ?_
            refine zw_puti (n := 99) d206_96 rfl (zj_5 hS).1 (zj_5 hS).2 ?_
            refine zw_iload_n (n := 100) d206_99 rfl rfl ?_
            obtain ⟨hb, h⟩ := h
            exact zw_iret d206_100 (zx_rb1 hb) ⟨_, rfl, h⟩
  · skip
    refine zw_aload_n (n := 10) d206_9 rfl rfl ?_
    refine zw_geti (n := 13) d206_10 rfl (zj_5 hS).1 (zj_5 hS).2 ?_
    refine zw_if_ne (n := 16) d206_13 rfl (zite h (fun h => ?_) (fun h => ?_))
    · skip
      refine zw_aload_n (n := 17) d206_16 rfl rfl ?_
      refine zw_iconst (n := 18) d206_17 rfl zk_i_2 ?_
      refine zw_iconst (n := 19) d206_18 rfl zk_i_3 ?_
      refine zw_cI (n := 22) d206_19 (zs_V rfl rfl rfl rfl (by decide) (zj_5 hS).1 (zq_5 hS)) (by rw [ml_208]; rfl) (by decide) rfl (zc_mI h (fun r30 C30 h => ?_))
      refine zw_istore_n (n := 23) d206_22 rfl rfl rfl ?_
      refine zw_iload_n (n := 24) d206_23 rfl rfl ?_
      refine zw_if_eq (n := 27) d206_24 rfl (zite h (fun h => ?_) (fun h => ?_))
      · skip
        refine zw_iload_n (n := 38) d206_37 rfl rfl ?_
        obtain ⟨hb, h⟩ := h
        exact zw_iret d206_38 (zx_rb1 hb) ⟨_, rfl, h⟩
      · skip
        refine zw_aload_n (n := 28) d206_27 rfl rfl ?_
        refine zw_aload_n (n := 29) d206_28 rfl rfl ?_
        refine zw_getr (n := 32) d206_29 rfl (zj_5 hS).1 (zj_5 hS).2 (zr_5_27 hS) ?_
        refine zw_iconst (n := 33) d206_32 rfl zk_i_0 ?_
        obtain ⟨hi, h⟩ := h
        refine zw_iald (n := 34) d206_33 rfl (za_5_27 hS).1 (za_5_27 hS).2 hi ?_
        refine zw_cV (n := 37) d206_34 (zs_V rfl rfl rfl rfl (by decide) (zj_5 hS).1 (zq_5 hS)) (by rw [ml_186]; rfl) (by decide) rfl (zc_mV h (fun C31 h => ?_))
        refine zw_iload_n (n := 38) d206_37 rfl rfl ?_
        obtain ⟨hb, h⟩ := h
        exact zw_iret d206_38 (zx_rb1 hb) ⟨_, rfl, h⟩
    · skip
      refine zw_aload_n (n := 40) d206_39 rfl rfl ?_
      refine zw_ldcs (n := 42) d206_40 rfl ?_
      refine zw_cI (n := 45) d206_42 (zs_V rfl rfl rfl rfl (by decide) (zj_5 hS).1 (zq_5 hS)) (by rw [ml_207]; rfl) (by decide) rfl (zc_mI h (fun r32 C32 h => ?_))
      refine zw_if_eq (n := 48) d206_45 rfl (zite h (fun h => ?_) (fun h => ?_))
      · skip
        refine zw_aload_n (n := 63) d206_62 rfl rfl ?_
        refine zw_ldcs (n := 65) d206_63 rfl ?_
        refine zw_cI (n := 68) d206_65 (zs_V rfl rfl rfl rfl (by decide) (zj_5 hS).1 (zq_5 hS)) (by rw [ml_207]; rfl) (by decide) rfl (zc_mI h (fun r33 C33 h => ?_))
        refine zw_if_eq (n := 71) d206_68 rfl (zite h (fun h => ?_) (fun h => ?_))
        · skip
          refine zw_aload_n (n := 102) d206_101 rfl rfl ?_
          refine zw_ldcs (n := 104) d206_102 rfl ?_
          refine zw_cI (n := 107) d206_104 (zs_V rfl rfl rfl rfl (by decide) (zj_5 hS).1 (zq_5 hS)) (by rw [ml_207]; rfl) (by decide) rfl (zc_mI h (fun r34 C34 h => ?_))
          refine zw_if_eq (n := 110) d206_107 rfl (zite h (fun h => ?_) (fun h => ?_))
          · skip
            refine zw_aload_n (n := 116) d206_115 rfl rfl ?_
            refine zw_ldcs (n := 118) d206_116 rfl ?_
            refine zw_cI (n := 121) d206_118 (zs_V rfl rfl rfl rfl (by decide) (zj_5 hS).1 (zq_5 hS)) (by rw [ml_207]; rfl) (by decide) rfl (zc_mI h (fun r35 C35 h => ?_))
            refine zw_if_eq (n := 124) d206_121 rfl (zite h (fun h => ?_) (fun h => ?_))
            · skip
              refine zw_aload_n (n := 178) d206_177 rfl rfl ?_
              refine zw_ldcs (n := 180) d206_178 rfl ?_
              refine zw_cI (n := 183) d206_180 (zs_V rfl rfl rfl rfl (by decide) (zj_5 hS).1 (zq_5 hS)) (by rw [ml_207]; rfl) (by decide) rfl (zc_mI h (fun r36 C36 h => ?_))
              refine zw_if_eq (n := 186) d206_183 rfl (zite h (fun h => ?_) (fun h => ?_))
              · skip
                refine zw_aload_n (n := 219) d206_218 rfl rfl ?_
                refine zw_ldcs (n := 221) d206_219 rfl ?_
                refine zw_cI (n := 224) d206_221 (zs_V rfl rfl rfl rfl (by decide) (zj_5 hS).1 (zq_5 hS)) (by rw [ml_207]; rfl) (by decide) rfl (zc_mI h (fun r37 C37 h => ?_))
                refine zw_if_ne (n := 227) d206_224 rfl (zite h (fun h => ?_) (fun h => ?_))
                · skip
                  refine zw_aload_n (n := 228) d206_227 rfl rfl ?_
                  refine zw_cI (n := 231) d206_228 (zs_V rfl rfl rfl rfl (by decide) (zj_5 hS).1 (zq_5 hS)) (by rw [ml_210]; rfl) (by decide) rfl (zc_mI h (fun r38 C38 h => ?_))
                  obtain ⟨hb, h⟩ := h
                  exact zw_iret d206_231 (zx_rb1 hb) ⟨_, rfl, h⟩
                · skip
                  refine zw_aload_n (n := 233) d206_232 rfl rfl ?_
                  refine zw_iconst (n := 234) d206_233 rfl zk_i_0 ?_
                  refine zw_aload_n (n := 235) d206_234 rfl rfl ?_
                  refine zw_geti (n := 238) d206_235 rfl (zj_5 hS).1 (zj_5 hS).2 ?_
                  refine zw_iconst (n := 239) d206_238 rfl zk_i_1 ?_
                  refine zw_isub (n := 240) d206_239 rfl ?_
                  refine zw_cI (n := 243) d206_240 (zs_V rfl rfl rfl rfl (by decide) (zj_5 hS).1 (zq_5 hS)) (by rw [ml_208]; rfl) (by decide) rfl (zc_mI h (fun r39 C39 h => ?_))
                  refine zw_if_eq (n := 246) d206_243 rfl (zite h (fun h => ?_) (fun h => ?_))
                  · skip
                    refine zw_iconst (n := 266) d206_265 rfl zk_i_0 ?_
                    refine zw_istore_n (n := 267) d206_266 rfl rfl rfl ?_
                    refine zw_iload_n (n := 268) d206_267 rfl rfl ?_
                    refine zw_if_eq (n := 271) d206_268 rfl (zite h (fun h => ?_) (fun h => ?_))
                    · skip
                      refine zw_iload_n (n := 289) d206_288 rfl rfl ?_
                      exact zw_iret d206_289 rfl ⟨_, rfl, h⟩
                    · skip
                      refine zw_aload_n (n := 272) d206_271 rfl rfl ?_
                      refine zw_getr (n := 275) d206_272 rfl (zj_5 hS).1 (zj_5 hS).2 (zr_5_13 hS) ?_
                      refine zw_aload_n (n := 276) d206_275 rfl rfl ?_
                      refine zw_getr (n := 279) d206_276 rfl (zj_5 hS).1 (zj_5 hS).2 (zr_5_27 hS) ?_
                      refine zw_iconst (n := 280) d206_279 rfl zk_i_1 ?_
                      obtain ⟨hi, h⟩ := h
                      refine zw_iald (n := 281) d206_280 rfl (za_5_27 hS).1 (za_5_27 hS).2 hi ?_
                      refine zw_aload_n (n := 282) d206_281 rfl rfl ?_
                      refine zw_getr (n := 285) d206_282 rfl (zj_5 hS).1 (zj_5 hS).2 (zr_5_27 hS) ?_
                      refine zw_iconst (n := 286) d206_285 rfl zk_i_0 ?_
                      obtain ⟨hi, h⟩ := h
                      refine zw_iald (n := 287) d206_286 rfl (za_5_27 hS).1 (za_5_27 hS).2 hi ?_
                      obtain ⟨hi, h⟩ := h
                      refine zw_iast (n := 288) d206_287 rfl (za_5_13 hS).1 (za_5_13 hS).2 hi ?_
                      refine zw_iload_n (n := 289) d206_288 rfl rfl ?_
                      exact zw_iret d206_289 rfl ⟨_, rfl, h⟩
                  · skip
                    refine zw_aload_n (n := 247) d206_246 rfl rfl ?_
                    refine zw_iconst (n := 248) d206_247 rfl zk_i_1 ?_
                    refine zw_iconst (n := 249) d206_248 rfl zk_i_0 ?_
                    refine zw_aload_n (n := 250) d206_249 rfl rfl ?_
                    refine zw_geti (n := 253) d206_250 rfl (zj_5 hS).1 (zj_5 hS).2 ?_
                    refine zw_iconst (n := 254) d206_253 rfl zk_i_1 ?_
                    refine zw_isub (n := 255) d206_254 rfl ?_
                    refine zw_cI (n := 258) d206_255 (zs_V rfl rfl rfl rfl (by decide) (zj_5 hS).1 (zq_5 hS)) (by rw [ml_209]; rfl) (by decide) rfl (zc_mI h (fun r40 C40 h => ?_))
                    refine zw_if_eq (n := 261) d206_258 rfl (zite h (fun h => ?_) (fun h => ?_))
                    · skip
                      refine zw_iconst (n := 266) d206_265 rfl zk_i_0 ?_
                      refine zw_istore_n (n := 267) d206_266 rfl rfl rfl ?_
                      refine zw_iload_n (n := 268) d206_267 rfl rfl ?_
                      refine zw_if_eq (n := 271) d206_268 rfl (zite h (fun h => ?_) (fun h => ?_))
                      · skip
                        refine zw_iload_n (n := 289) d206_288 rfl rfl ?_
                        exact zw_iret d206_289 rfl ⟨_, rfl, h⟩
                      · skip
                        refine zw_aload_n (n := 272) d206_271 rfl rfl ?_
                        refine zw_getr (n := 275) d206_272 rfl (zj_5 hS).1 (zj_5 hS).2 (zr_5_13 hS) ?_
                        refine zw_aload_n (n := 276) d206_275 rfl rfl ?_
                        refine zw_getr (n := 279) d206_276 rfl (zj_5 hS).1 (zj_5 hS).2 (zr_5_27 hS) ?_
                        refine zw_iconst (n := 280) d206_279 rfl zk_i_1 ?_
                        obtain ⟨hi, h⟩ := h
                        refine zw_iald (n := 281) d206_280 rfl (za_5_27 hS).1 (za_5_27 hS).2 hi ?_
                        refine zw_aload_n (n := 282) d206_281 rfl rfl ?_
                        refine zw_getr (n := 285) d206_282 rfl (zj_5 hS).1 (zj_5 hS).2 (zr_5_27 hS) ?_
                        refine zw_iconst (n := 286) d206_285 rfl zk_i_0 ?_
                        obtain ⟨hi, h⟩ := h
                        refine zw_iald (n := 287) d206_286 rfl (za_5_27 hS).1 (za_5_27 hS).2 hi ?_
                        obtain ⟨hi, h⟩ := h
                        refine zw_iast (n := 288) d206_287 rfl (za_5_13 hS).1 (za_5_13 hS).2 hi ?_
                        refine zw_iload_n (n := 289) d206_288 rfl rfl ?_
                        exact zw_iret d206_289 rfl ⟨_, rfl, h⟩
                    · skip
                      refine zw_iconst (n := 262) d206_261 rfl zk_i_1 ?_
                      refine zw_goto d206_262 ?_
                      refine zw_istore_n (n := 267) d206_266 rfl rfl rfl ?_
                      refine zw_iload_n (n := 268) d206_267 rfl rfl ?_
                      refine zw_if_eq (n := 271) d206_268 rfl (zite h (fun h => ?_) (fun h => ?_))
                      · skip
                        refine zw_iload_n (n := 289) d206_288 rfl rfl ?_
                        exact zw_iret d206_289 rfl ⟨_, rfl, h⟩
                      · skip
                        refine zw_aload_n (n := 272) d206_271 rfl rfl ?_
                        refine zw_getr (n := 275) d206_272 rfl (zj_5 hS).1 (zj_5 hS).2 (zr_5_13 hS) ?_
                        refine zw_aload_n (n := 276) d206_275 rfl rfl ?_
                        refine zw_getr (n := 279) d206_276 rfl (zj_5 hS).1 (zj_5 hS).2 (zr_5_27 hS) ?_
                        refine zw_iconst (n := 280) d206_279 rfl zk_i_1 ?_
                        obtain ⟨hi, h⟩ := h
                        refine zw_iald (n := 281) d206_280 rfl (za_5_27 hS).1 (za_5_27 hS).2 hi ?_
                        refine zw_aload_n (n := 282) d206_281 rfl rfl ?_
                        refine zw_getr (n := 285) d206_282 rfl (zj_5 hS).1 (zj_5 hS).2 (zr_5_27 hS) ?_
                        refine zw_iconst (n := 286) d206_285 rfl zk_i_0 ?_
                        obtain ⟨hi, h⟩ := h
                        refine zw_iald (n := 287) d206_286 rfl (za_5_27 hS).1 (za_5_27 hS).2 hi ?_
                        obtain ⟨hi, h⟩ := h
                        refine zw_iast (n := 288) d206_287 rfl (za_5_13 hS).1 (za_5_13 hS).2 hi ?_
                        refine zw_iload_n (n := 289) d206_288 rfl rfl ?_
                        exact zw_iret d206_289 rfl ⟨_, rfl, h⟩
              · skip
                refine zw_aload_n (n := 187) d206_186 rfl rfl ?_
                refine zw_iconst (n := 188) d206_187 rfl zk_i_0 ?_
                refine zw_sipush (n := 191) d206_188 rfl zk_s_9999 ?_
                refine zw_cI (n := 194) d206_191 (zs_V rfl rfl rfl rfl (by decide) (zj_5 hS).1 (zq_5 hS)) (by rw [ml_208]; rfl) (by decide) rfl (zc_mI h (fun r41 C41 h => ?_))
                refine zw_istore_n (n := 195) d206_194 rfl rfl rfl ?_
                refine zw_aload_n (n := 196) d206_195 rfl rfl ?_
                refine zw_iload_n (n := 197) d206_196 rfl rfl ?_
                refine zw_if_eq (n := 200) d206_197 rfl (zite h (fun h => ?_) (fun h => ?_))
                · skip
                  refine zw_aload_n (n := 210) d206_209 rfl rfl ?_
                  refine zw_geti (n := 213) d206_210 rfl (zj_5 hS).1 (zj_5 hS).2 ?_
                  refine zw_puti (n := 216) d206_213 rfl (zj_5 hS).1 (zj_5 hS).2 ?_
                  refine zw_iload_n (n := 217) d206_216 rfl rfl ?_
                  obtain ⟨hb, h⟩ := h
                  exact zw_iret d206_217 (zx_rb1 hb) ⟨_, rfl, h⟩
                · skip
                  refine zw_aload_n (n := 201) d206_200 rfl rfl ?_
                  refine zw_getr (n := 204) d206_201 rfl (zj_5 hS).1 (zj_5 hS).2 (zr_5_27 hS) ?_
                  refine zw_iconst (n := 205) d206_204 rfl zk_i_0 ?_
                  obtain ⟨hi, h⟩ := h
                  refine zw_iald (n := 206) d206_205 rfl (za_5_27 hS).1 (za_5_27 hS).2 hi ?_
                  refine zw_goto d206_206 ?_
                  refine zw_puti (n := 216) d206_213 rfl (zj_5 hS).1 (zj_5 hS).2 ?_
                  refine zw_iload_n (n := 217) d206_216 rfl rfl ?_
                  obtain ⟨hb, h⟩ := h
                  exact zw_iret d206_217 (zx_rb1 hb) ⟨_, rfl, h⟩
            · skip
              refine zw_aload_n (n := 125) d206_124 rfl rfl ?_
              refine zw_iconst (n := 126) d206_125 rfl zk_i_0 ?_
              refine zw_aload_n (n := 127) d206_126 rfl rfl ?_
              refine zw_geti (n := 130) d206_127 rfl (zj_5 hS).1 (zj_5 hS).2 ?_
              refine zw_iconst (n := 131) d206_130 rfl zk_i_1 ?_
              refine zw_isub (n := 132) d206_131 rfl ?_
              refine zw_cI (n := 135) d206_132 (zs_V rfl rfl rfl rfl (by decide) (zj_5 hS).1 (zq_5 hS)) (by rw [ml_208]; rfl) (by decide) rfl (zc_mI h (fun r42 C42 h => ?_))
              refine zw_if_eq (n := 138) d206_135 rfl (zite h (fun h => ?_) (fun h => ?_))
              · skip
                refine zw_iconst (n := 153) d206_152 rfl zk_i_0 ?_
                refine zw_istore_n (n := 154) d206_153 rfl rfl rfl ?_
                refine zw_iload_n (n := 155) d206_154 rfl rfl ?_
                refine zw_if_eq (n := 158) d206_155 rfl (zite h (fun h => ?_) (fun h => ?_))
                · skip
                  refine zw_iload_n (n := 176) d206_175 rfl rfl ?_
                  exact zw_iret d206_176 rfl ⟨_, rfl, h⟩
                · skip
                  refine zw_aload_n (n := 159) d206_158 rfl rfl ?_
                  refine zw_getr (n := 162) d206_159 rfl (zj_5 hS).1 (zj_5 hS).2 (zr_5_17 hS) ?_
                  refine zw_aload_n (n := 163) d206_162 rfl rfl ?_
                  refine zw_getr (n := 166) d206_163 rfl (zj_5 hS).1 (zj_5 hS).2 (zr_5_27 hS) ?_
                  refine zw_iconst (n := 167) d206_166 rfl zk_i_0 ?_
                  obtain ⟨hi, h⟩ := h
                  refine zw_iald (n := 168) d206_167 rfl (za_5_27 hS).1 (za_5_27 hS).2 hi ?_
                  refine zw_aload_n (n := 169) d206_168 rfl rfl ?_
                  refine zw_getr (n := 172) d206_169 rfl (zj_5 hS).1 (zj_5 hS).2 (zr_5_27 hS) ?_
                  refine zw_iconst (n := 173) d206_172 rfl zk_i_1 ?_
                  obtain ⟨hi, h⟩ := h
                  refine zw_iald (n := 174) d206_173 rfl (za_5_27 hS).1 (za_5_27 hS).2 hi ?_
                  obtain ⟨hi, h⟩ := h
                  refine zw_iast (n := 175) d206_174 rfl (za_5_17 hS).1 (za_5_17 hS).2 hi ?_
                  refine zw_iload_n (n := 176) d206_175 rfl rfl ?_
                  exact zw_iret d206_176 rfl ⟨_, rfl, h⟩
              · skip
                refine zw_aload_n (n := 139) d206_138 rfl rfl ?_
                refine zw_iconst (n := 140) d206_139 rfl zk_i_1 ?_
                refine zw_iconst (n := 141) d206_140 rfl zk_i_0 ?_
                refine zw_iconst (n := 142) d206_141 rfl zk_i_5 ?_
                refine zw_cI (n := 145) d206_142 (zs_V rfl rfl rfl rfl (by decide) (zj_5 hS).1 (zq_5 hS)) (by rw [ml_209]; rfl) (by decide) rfl (zc_mI h (fun r43 C43 h => ?_))
                refine zw_if_eq (n := 148) d206_145 rfl (zite h (fun h => ?_) (fun h => ?_))
                · skip
                  refine zw_iconst (n := 153) d206_152 rfl zk_i_0 ?_
                  refine zw_istore_n (n := 154) d206_153 rfl rfl rfl ?_
                  refine zw_iload_n (n := 155) d206_154 rfl rfl ?_
                  refine zw_if_eq (n := 158) d206_155 rfl (zite h (fun h => ?_) (fun h => ?_))
                  · skip
                    refine zw_iload_n (n := 176) d206_175 rfl rfl ?_
                    exact zw_iret d206_176 rfl ⟨_, rfl, h⟩
                  · skip
                    refine zw_aload_n (n := 159) d206_158 rfl rfl ?_
                    refine zw_getr (n := 162) d206_159 rfl (zj_5 hS).1 (zj_5 hS).2 (zr_5_17 hS) ?_
                    refine zw_aload_n (n := 163) d206_162 rfl rfl ?_
                    refine zw_getr (n := 166) d206_163 rfl (zj_5 hS).1 (zj_5 hS).2 (zr_5_27 hS) ?_
                    refine zw_iconst (n := 167) d206_166 rfl zk_i_0 ?_
                    obtain ⟨hi, h⟩ := h
                    refine zw_iald (n := 168) d206_167 rfl (za_5_27 hS).1 (za_5_27 hS).2 hi ?_
                    refine zw_aload_n (n := 169) d206_168 rfl rfl ?_
                    refine zw_getr (n := 172) d206_169 rfl (zj_5 hS).1 (zj_5 hS).2 (zr_5_27 hS) ?_
                    refine zw_iconst (n := 173) d206_172 rfl zk_i_1 ?_
                    obtain ⟨hi, h⟩ := h
                    refine zw_iald (n := 174) d206_173 rfl (za_5_27 hS).1 (za_5_27 hS).2 hi ?_
                    obtain ⟨hi, h⟩ := h
                    refine zw_iast (n := 175) d206_174 rfl (za_5_17 hS).1 (za_5_17 hS).2 hi ?_
                    refine zw_iload_n (n := 176) d206_175 rfl rfl ?_
                    exact zw_iret d206_176 rfl ⟨_, rfl, h⟩
                · skip
                  refine zw_iconst (n := 149) d206_148 rfl zk_i_1 ?_
                  refine zw_goto d206_149 ?_
                  refine zw_istore_n (n := 154) d206_153 rfl rfl rfl ?_
                  refine zw_iload_n (n := 155) d206_154 rfl rfl ?_
                  refine zw_if_eq (n := 158) d206_155 rfl (zite h (fun h => ?_) (fun h => ?_))
                  · skip
                    refine zw_iload_n (n := 176) d206_175 rfl rfl ?_
                    exact zw_iret d206_176 rfl ⟨_, rfl, h⟩
                  · skip
                    refine zw_aload_n (n := 159) d206_158 rfl rfl ?_
                    refine zw_getr (n := 162) d206_159 rfl (zj_5 hS).1 (zj_5 hS).2 (zr_5_17 hS) ?_
                    refine zw_aload_n (n := 163) d206_162 rfl rfl ?_
                    refine zw_getr (n := 166) d206_163 rfl (zj_5 hS).1 (zj_5 hS).2 (zr_5_27 hS) ?_
                    refine zw_iconst (n := 167) d206_166 rfl zk_i_0 ?_
                    obtain ⟨hi, h⟩ := h
                    refine zw_iald (n := 168) d206_167 rfl (za_5_27 hS).1 (za_5_27 hS).2 hi ?_
                    refine zw_aload_n (n := 169) d206_168 rfl rfl ?_
                    refine zw_getr (n := 172) d206_169 rfl (zj_5 hS).1 (zj_5 hS).2 (zr_5_27 hS) ?_
                    refine zw_iconst (n := 173) d206_172 rfl zk_i_1 ?_
                    obtain ⟨hi, h⟩ := h
                    refine zw_iald (n := 174) d206_173 rfl (za_5_27 hS).1 (za_5_27 hS).2 hi ?_
                    obtain ⟨hi, h⟩ := h
                    refine zw_iast (n := 175) d206_174 rfl (za_5_17 hS).1 (za_5_17 hS).2 hi ?_
                    refine zw_iload_n (n := 176) d206_175 rfl rfl ?_
                    exact zw_iret d206_176 rfl ⟨_, rfl, h⟩
          · skip
            refine zw_aload_n (n := 111) d206_110 rfl rfl ?_
            refine zw_cI (n := 114) d206_111 (zs_V rfl rfl rfl rfl (by decide) (zj_5 hS).1 (zq_5 hS)) (by rw [ml_212]; rfl) (by decide) rfl (zc_mI h (fun r44 C44 h => ?_))
            obtain ⟨hb, h⟩ := h
            exact zw_iret d206_114 (zx_rb1 hb) ⟨_, rfl, h⟩
        · skip
          refine zw_aload_n (n := 72) d206_71 rfl rfl ?_
          refine zw_iconst (n := 73) d206_72 rfl zk_i_0 ?_
          refine zw_iconst (n := 74) d206_73 rfl zk_i_3 ?_
          refine zw_cI (n := 77) d206_74 (zs_V rfl rfl rfl rfl (by decide) (zj_5 hS).1 (zq_5 hS)) (by rw [ml_208]; rfl) (by decide) rfl (zc_mI h (fun r45 C45 h => ?_))
          refine zw_istore_n (n := 78) d206_77 rfl rfl rfl ?_
          refine zw_aload_n (n := 79) d206_78 rfl rfl ?_
          refine zw_iload_n (n := 80) d206_79 rfl rfl ?_
          refine zw_if_eq (n := 83) d206_80 rfl (zite h (fun h => ?_) (fun h => ?_))
          · skip
            refine zw_aload_n (n := 93) d206_92 rfl rfl ?_
            refine zw_geti (n := 96) d206_93 rfl (zj_5 hS).1 (zj_5 hS).2 ?_
            refine zw_puti (n := 99) d206_96 rfl (zj_5 hS).1 (zj_5 hS).2 ?_
            refine zw_iload_n (n := 100) d206_99 rfl rfl ?_
            obtain ⟨hb, h⟩ := h
            exact zw_iret d206_100 (zx_rb1 hb) ⟨_, rfl, h⟩
          · skip
            refine zw_aload_n (n := 84) d206_83 rfl rfl ?_
            refine zw_getr (n := 87) d206_84 rfl (zj_5 hS).1 (zj_5 hS).2 (zr_5_27 hS) ?_
            refine zw_iconst (n := 88) d206_87 rfl zk_i_0 ?_
            obtain ⟨hi, h⟩ := h
            refine zw_iald (n := 89) d206_88 rfl (za_5_27 hS).1 (za_5_27 hS).2 hi ?_
            refine zw_goto d206_89 ?_
            refine zw_puti (n := 99) d206_96 rfl (zj_5 hS).1 (zj_5 hS).2 ?_
            refine zw_iload_n (n := 100) d206_99 rfl rfl ?_
            obtain ⟨hb, h⟩ := h
            exact zw_iret d206_100 (zx_rb1 hb) ⟨_, rfl, h⟩
      · skip
        refine zw_aload_n (n := 49) d206_48 rfl rfl ?_
        refine zw_geti (n := 52) d206_49 rfl (zj_5 hS).1 (zj_5 hS).2 ?_
        refine zw_bipush (n := 54) d206_52 rfl zk_b_8 ?_
        refine zw_ic_ge (n := 57) d206_54 rfl (zite h (fun h => ?_) (fun h => ?_))
        · skip
          refine zw_aload_n (n := 58) d206_57 rfl rfl ?_
          refine zw_cI (n := 61) d206_58 (zs_V rfl rfl rfl rfl (by decide) (zj_5 hS).1 (zq_5 hS)) (by rw [ml_211]; rfl) (by decide) rfl (zc_mI h (fun r46 C46 h => ?_))
          obtain ⟨hb, h⟩ := h
          exact zw_iret d206_61 (zx_rb1 hb) ⟨_, rfl, h⟩
        · skip
          refine zw_aload_n (n := 63) d206_62 rfl rfl ?_
          refine zw_ldcs (n := 65) d206_63 rfl ?_
          refine zw_cI (n := 68) d206_65 (zs_V rfl rfl rfl rfl (by decide) (zj_5 hS).1 (zq_5 hS)) (by rw [ml_207]; rfl) (by decide) rfl (zc_mI h (fun r47 C47 h => ?_))
          refine zw_if_eq (n := 71) d206_68 rfl (zite h (fun h => ?_) (fun h => ?_))
          · skip
            refine zw_aload_n (n := 102) d206_101 rfl rfl ?_
            refine zw_ldcs (n := 104) d206_102 rfl ?_
            refine zw_cI (n := 107) d206_104 (zs_V rfl rfl rfl rfl (by decide) (zj_5 hS).1 (zq_5 hS)) (by rw [ml_207]; rfl) (by decide) rfl (zc_mI h (fun r48 C48 h => ?_))
            refine zw_if_eq (n := 110) d206_107 rfl (zite h (fun h => ?_) (fun h => ?_))
            · skip
              refine zw_aload_n (n := 116) d206_115 rfl rfl ?_
              refine zw_ldcs (n := 118) d206_116 rfl ?_
              refine zw_cI (n := 121) d206_118 (zs_V rfl rfl rfl rfl (by decide) (zj_5 hS).1 (zq_5 hS)) (by rw [ml_207]; rfl) (by decide) rfl (zc_mI h (fun r49 C49 h => ?_))
              refine zw_if_eq (n := 124) d206_121 rfl (zite h (fun h => ?_) (fun h => ?_))
              · skip
                refine zw_aload_n (n := 178) d206_177 rfl rfl ?_
                refine zw_ldcs (n := 180) d206_178 rfl ?_
                refine zw_cI (n := 183) d206_180 (zs_V rfl rfl rfl rfl (by decide) (zj_5 hS).1 (zq_5 hS)) (by rw [ml_207]; rfl) (by decide) rfl (zc_mI h (fun r50 C50 h => ?_))
                refine zw_if_eq (n := 186) d206_183 rfl (zite h (fun h => ?_) (fun h => ?_))
                · skip
                  refine zw_aload_n (n := 219) d206_218 rfl rfl ?_
                  refine zw_ldcs (n := 221) d206_219 rfl ?_
                  refine zw_cI (n := 224) d206_221 (zs_V rfl rfl rfl rfl (by decide) (zj_5 hS).1 (zq_5 hS)) (by rw [ml_207]; rfl) (by decide) rfl (zc_mI h (fun r51 C51 h => ?_))
                  refine zw_if_ne (n := 227) d206_224 rfl (zite h (fun h => ?_) (fun h => ?_))
                  · skip
                    refine zw_aload_n (n := 228) d206_227 rfl rfl ?_
                    refine zw_cI (n := 231) d206_228 (zs_V rfl rfl rfl rfl (by decide) (zj_5 hS).1 (zq_5 hS)) (by rw [ml_210]; rfl) (by decide) rfl (zc_mI h (fun r52 C52 h => ?_))
                    obtain ⟨hb, h⟩ := h
                    exact zw_iret d206_231 (zx_rb1 hb) ⟨_, rfl, h⟩
                  · skip
                    refine zw_aload_n (n := 233) d206_232 rfl rfl ?_
                    refine zw_iconst (n := 234) d206_233 rfl zk_i_0 ?_
                    refine zw_aload_n (n := 235) d206_234 rfl rfl ?_
                    refine zw_geti (n := 238) d206_235 rfl (zj_5 hS).1 (zj_5 hS).2 ?_
                    refine zw_iconst (n := 239) d206_238 rfl zk_i_1 ?_
                    refine zw_isub (n := 240) d206_239 rfl ?_
                    refine zw_cI (n := 243) d206_240 (zs_V rfl rfl rfl rfl (by decide) (zj_5 hS).1 (zq_5 hS)) (by rw [ml_208]; rfl) (by decide) rfl (zc_mI h (fun r53 C53 h => ?_))
                    refine zw_if_eq (n := 246) d206_243 rfl (zite h (fun h => ?_) (fun h => ?_))
                    · skip
                      refine zw_iconst (n := 266) d206_265 rfl zk_i_0 ?_
                      refine zw_istore_n (n := 267) d206_266 rfl rfl rfl ?_
                      refine zw_iload_n (n := 268) d206_267 rfl rfl ?_
                      refine zw_if_eq (n := 271) d206_268 rfl (zite h (fun h => ?_) (fun h => ?_))
                      · skip
                        refine zw_iload_n (n := 289) d206_288 rfl rfl ?_
                        exact zw_iret d206_289 rfl ⟨_, rfl, h⟩
                      · skip
                        refine zw_aload_n (n := 272) d206_271 rfl rfl ?_
                        refine zw_getr (n := 275) d206_272 rfl (zj_5 hS).1 (zj_5 hS).2 (zr_5_13 hS) ?_
                        refine zw_aload_n (n := 276) d206_275 rfl rfl ?_
                        refine zw_getr (n := 279) d206_276 rfl (zj_5 hS).1 (zj_5 hS).2 (zr_5_27 hS) ?_
                        refine zw_iconst (n := 280) d206_279 rfl zk_i_1 ?_
                        obtain ⟨hi, h⟩ := h
                        refine zw_iald (n := 281) d206_280 rfl (za_5_27 hS).1 (za_5_27 hS).2 hi ?_
                        refine zw_aload_n (n := 282) d206_281 rfl rfl ?_
                        refine zw_getr (n := 285) d206_282 rfl (zj_5 hS).1 (zj_5 hS).2 (zr_5_27 hS) ?_
                        refine zw_iconst (n := 286) d206_285 rfl zk_i_0 ?_
                        obtain ⟨hi, h⟩ := h
                        refine zw_iald (n := 287) d206_286 rfl (za_5_27 hS).1 (za_5_27 hS).2 hi ?_
                        obtain ⟨hi, h⟩ := h
                        refine zw_iast (n := 288) d206_287 rfl (za_5_13 hS).1 (za_5_13 hS).2 hi ?_
                        refine zw_iload_n (n := 289) d206_288 rfl rfl ?_
                        exact zw_iret d206_289 rfl ⟨_, rfl, h⟩
                    · skip
                      refine zw_aload_n (n := 247) d206_246 rfl rfl ?_
                      refine zw_iconst (n := 248) d206_247 rfl zk_i_1 ?_
                      refine zw_iconst (n := 249) d206_248 rfl zk_i_0 ?_
                      refine zw_aload_n (n := 250) d206_249 rfl rfl ?_
                      refine zw_geti (n := 253) d206_250 rfl (zj_5 hS).1 (zj_5 hS).2 ?_
                      refine zw_iconst (n := 254) d206_253 rfl zk_i_1 ?_
                      refine zw_isub (n := 255) d206_254 rfl ?_
                      refine zw_cI (n := 258) d206_255 (zs_V rfl rfl rfl rfl (by decide) (zj_5 hS).1 (zq_5 hS)) (by rw [ml_209]; rfl) (by decide) rfl (zc_mI h (fun r54 C54 h => ?_))
                      refine zw_if_eq (n := 261) d206_258 rfl (zite h (fun h => ?_) (fun h => ?_))
                      · skip
                        refine zw_iconst (n := 266) d206_265 rfl zk_i_0 ?_
                        refine zw_istore_n (n := 267) d206_266 rfl rfl rfl ?_
                        refine zw_iload_n (n := 268) d206_267 rfl rfl ?_
                        refine zw_if_eq (n := 271) d206_268 rfl (zite h (fun h => ?_) (fun h => ?_))
                        · skip
                          refine zw_iload_n (n := 289) d206_288 rfl rfl ?_
                          exact zw_iret d206_289 rfl ⟨_, rfl, h⟩
                        · skip
                          refine zw_aload_n (n := 272) d206_271 rfl rfl ?_
                          refine zw_getr (n := 275) d206_272 rfl (zj_5 hS).1 (zj_5 hS).2 (zr_5_13 hS) ?_
                          refine zw_aload_n (n := 276) d206_275 rfl rfl ?_
                          refine zw_getr (n := 279) d206_276 rfl (zj_5 hS).1 (zj_5 hS).2 (zr_5_27 hS) ?_
                          refine zw_iconst (n := 280) d206_279 rfl zk_i_1 ?_
                          obtain ⟨hi, h⟩ := h
                          refine zw_iald (n := 281) d206_280 rfl (za_5_27 hS).1 (za_5_27 hS).2 hi ?_
                          refine zw_aload_n (n := 282) d206_281 rfl rfl ?_
                          refine zw_getr (n := 285) d206_282 rfl (zj_5 hS).1 (zj_5 hS).2 (zr_5_27 hS) ?_
                          refine zw_iconst (n := 286) d206_285 rfl zk_i_0 ?_
                          obtain ⟨hi, h⟩ := h
                          refine zw_iald (n := 287) d206_286 rfl (za_5_27 hS).1 (za_5_27 hS).2 hi ?_
                          obtain ⟨hi, h⟩ := h
                          refine zw_iast (n := 288) d206_287 rfl (za_5_13 hS).1 (za_5_13 hS).2 hi ?_
                          refine zw_iload_n (n := 289) d206_288 rfl rfl ?_
                          exact zw_iret d206_289 rfl ⟨_, rfl, h⟩
                      · skip
                        refine zw_iconst (n := 262) d206_261 rfl zk_i_1 ?_
                        refine zw_goto d206_262 ?_
                        refine zw_istore_n (n := 267) d206_266 rfl rfl rfl ?_
                        refine zw_iload_n (n := 268) d206_267 rfl rfl ?_
                        refine zw_if_eq (n := 271) d206_268 rfl (zite h (fun h => ?_) (fun h => ?_))
                        · skip
                          refine zw_iload_n (n := 289) d206_288 rfl rfl ?_
                          exact zw_iret d206_289 rfl ⟨_, rfl, h⟩
                        · skip
                          refine zw_aload_n (n := 272) d206_271 rfl rfl ?_
                          refine zw_getr (n := 275) d206_272 rfl (zj_5 hS).1 (zj_5 hS).2 (zr_5_13 hS) ?_
                          refine zw_aload_n (n := 276) d206_275 rfl rfl ?_
                          refine zw_getr (n := 279) d206_276 rfl (zj_5 hS).1 (zj_5 hS).2 (zr_5_27 hS) ?_
                          refine zw_iconst (n := 280) d206_279 rfl zk_i_1 ?_
                          obtain ⟨hi, h⟩ := h
                          refine zw_iald (n := 281) d206_280 rfl (za_5_27 hS).1 (za_5_27 hS).2 hi ?_
                          refine zw_aload_n (n := 282) d206_281 rfl rfl ?_
                          refine zw_getr (n := 285) d206_282 rfl (zj_5 hS).1 (zj_5 hS).2 (zr_5_27 hS) ?_
                          refine zw_iconst (n := 286) d206_285 rfl zk_i_0 ?_
                          obtain ⟨hi, h⟩ := h
                          refine zw_iald (n := 287) d206_286 rfl (za_5_27 hS).1 (za_5_27 hS).2 hi ?_
                          obtain ⟨hi, h⟩ := h
                          refine zw_iast (n := 288) d206_287 rfl (za_5_13 hS).1 (za_5_13 hS).2 hi ?_
                          refine zw_iload_n (n := 289) d206_288 rfl rfl ?_
                          exact zw_iret d206_289 rfl ⟨_, rfl, h⟩
                · skip
                  refine zw_aload_n (n := 187) d206_186 rfl rfl ?_
                  refine zw_iconst (n := 188) d206_187 rfl zk_i_0 ?_
                  refine zw_sipush (n := 191) d206_188 rfl zk_s_9999 ?_
                  refine zw_cI (n := 194) d206_191 (zs_V rfl rfl rfl rfl (by decide) (zj_5 hS).1 (zq_5 hS)) (by rw [ml_208]; rfl) (by decide) rfl (zc_mI h (fun r55 C55 h => ?_))
                  refine zw_istore_n (n := 195) d206_194 rfl rfl rfl ?_
                  refine zw_aload_n (n := 196) d206_195 rfl rfl ?_
                  refine zw_iload_n (n := 197) d206_196 rfl rfl ?_
                  refine zw_if_eq (n := 200) d206_197 rfl (zite h (fun h => ?_) (fun h => ?_))
                  · skip
                    refine zw_aload_n (n := 210) d206_209 rfl rfl ?_
                    refine zw_geti (n := 213) d206_210 rfl (zj_5 hS).1 (zj_5 hS).2 ?_
                    refine zw_puti (n := 216) d206_213 rfl (zj_5 hS).1 (zj_5 hS).2 ?_
                    refine zw_iload_n (n := 217) d206_216 rfl rfl ?_
                    obtain ⟨hb, h⟩ := h
                    exact zw_iret d206_217 (zx_rb1 hb) ⟨_, rfl, h⟩
                  · skip
                    refine zw_aload_n (n := 201) d206_200 rfl rfl ?_
                    refine zw_getr (n := 204) d206_201 rfl (zj_5 hS).1 (zj_5 hS).2 (zr_5_27 hS) ?_
                    refine zw_iconst (n := 205) d206_204 rfl zk_i_0 ?_
                    obtain ⟨hi, h⟩ := h
                    refine zw_iald (n := 206) d206_205 rfl (za_5_27 hS).1 (za_5_27 hS).2 hi ?_
                    refine zw_goto d206_206 ?_
                    refine zw_puti (n := 216) d206_213 rfl (zj_5 hS).1 (zj_5 hS).2 ?_
                    refine zw_iload_n (n := 217) d206_216 rfl rfl ?_
                    obtain ⟨hb, h⟩ := h
                    exact zw_iret d206_217 (zx_rb1 hb) ⟨_, rfl, h⟩
              · skip
                refine zw_aload_n (n := 125) d206_124 rfl rfl ?_
                refine zw_iconst (n := 126) d206_125 rfl zk_i_0 ?_
                refine zw_aload_n (n := 127) d206_126 rfl rfl ?_
                refine zw_geti (n := 130) d206_127 rfl (zj_5 hS).1 (zj_5 hS).2 ?_
                refine zw_iconst (n := 131) d206_130 rfl zk_i_1 ?_
                refine zw_isub (n := 132) d206_131 rfl ?_
                refine zw_cI (n := 135) d206_132 (zs_V rfl rfl rfl rfl (by decide) (zj_5 hS).1 (zq_5 hS)) (by rw [ml_208]; rfl) (by decide) rfl (zc_mI h (fun r56 C56 h => ?_))
                refine zw_if_eq (n := 138) d206_135 rfl (zite h (fun h => ?_) (fun h => ?_))
                · skip
                  refine zw_iconst (n := 153) d206_152 rfl zk_i_0 ?_
                  refine zw_istore_n (n := 154) d206_153 rfl rfl rfl ?_
                  refine zw_iload_n (n := 155) d206_154 rfl rfl ?_
                  refine zw_if_eq (n := 158) d206_155 rfl (zite h (fun h => ?_) (fun h => ?_))
                  · skip
                    refine zw_iload_n (n := 176) d206_175 rfl rfl ?_
                    exact zw_iret d206_176 rfl ⟨_, rfl, h⟩
                  · skip
                    refine zw_aload_n (n := 159) d206_158 rfl rfl ?_
                    refine zw_getr (n := 162) d206_159 rfl (zj_5 hS).1 (zj_5 hS).2 (zr_5_17 hS) ?_
                    refine zw_aload_n (n := 163) d206_162 rfl rfl ?_
                    refine zw_getr (n := 166) d206_163 rfl (zj_5 hS).1 (zj_5 hS).2 (zr_5_27 hS) ?_
                    refine zw_iconst (n := 167) d206_166 rfl zk_i_0 ?_
                    obtain ⟨hi, h⟩ := h
                    refine zw_iald (n := 168) d206_167 rfl (za_5_27 hS).1 (za_5_27 hS).2 hi ?_
                    refine zw_aload_n (n := 169) d206_168 rfl rfl ?_
                    refine zw_getr (n := 172) d206_169 rfl (zj_5 hS).1 (zj_5 hS).2 (zr_5_27 hS) ?_
                    refine zw_iconst (n := 173) d206_172 rfl zk_i_1 ?_
                    obtain ⟨hi, h⟩ := h
                    refine zw_iald (n := 174) d206_173 rfl (za_5_27 hS).1 (za_5_27 hS).2 hi ?_
                    obtain ⟨hi, h⟩ := h
                    refine zw_iast (n := 175) d206_174 rfl (za_5_17 hS).1 (za_5_17 hS).2 hi ?_
                    refine zw_iload_n (n := 176) d206_175 rfl rfl ?_
                    exact zw_iret d206_176 rfl ⟨_, rfl, h⟩
                · skip
                  refine zw_aload_n (n := 139) d206_138 rfl rfl ?_
                  refine zw_iconst (n := 140) d206_139 rfl zk_i_1 ?_
                  refine zw_iconst (n := 141) d206_140 rfl zk_i_0 ?_
                  refine zw_iconst (n := 142) d206_141 rfl zk_i_5 ?_
                  refine zw_cI (n := 145) d206_142 (zs_V rfl rfl rfl rfl (by decide) (zj_5 hS).1 (zq_5 hS)) (by rw [ml_209]; rfl) (by decide) rfl (zc_mI h (fun r57 C57 h => ?_))
                  refine zw_if_eq (n := 148) d206_145 rfl (zite h (fun h => ?_) (fun h => ?_))
                  · skip
                    refine zw_iconst (n := 153) d206_152 rfl zk_i_0 ?_
                    refine zw_istore_n (n := 154) d206_153 rfl rfl rfl ?_
                    refine zw_iload_n (n := 155) d206_154 rfl rfl ?_
                    refine zw_if_eq (n := 158) d206_155 rfl (zite h (fun h => ?_) (fun h => ?_))
                    · skip
                      refine zw_iload_n (n := 176) d206_175 rfl rfl ?_
                      exact zw_iret d206_176 rfl ⟨_, rfl, h⟩
                    · skip
                      refine zw_aload_n (n := 159) d206_158 rfl rfl ?_
                      refine zw_getr (n := 162) d206_159 rfl (zj_5 hS).1 (zj_5 hS).2 (zr_5_17 hS) ?_
                      refine zw_aload_n (n := 163) d206_162 rfl rfl ?_
                      refine zw_getr (n := 166) d206_163 rfl (zj_5 hS).1 (zj_5 hS).2 (zr_5_27 hS) ?_
                      refine zw_iconst (n := 167) d206_166 rfl zk_i_0 ?_
                      obtain ⟨hi, h⟩ := h
                      refine zw_iald (n := 168) d206_167 rfl (za_5_27 hS).1 (za_5_27 hS).2 hi ?_
                      refine zw_aload_n (n := 169) d206_168 rfl rfl ?_
                      refine zw_getr (n := 172) d206_169 rfl (zj_5 hS).1 (zj_5 hS).2 (zr_5_27 hS) ?_
                      refine zw_iconst (n := 173) d206_172 rfl zk_i_1 ?_
                      obtain ⟨hi, h⟩ := h
                      refine zw_iald (n := 174) d206_173 rfl (za_5_27 hS).1 (za_5_27 hS).2 hi ?_
                      obtain ⟨hi, h⟩ := h
                      refine zw_iast (n := 175) d206_174 rfl (za_5_17 hS).1 (za_5_17 hS).2 hi ?_
                      refine zw_iload_n (n := 176) d206_175 rfl rfl ?_
                      exact zw_iret d206_176 rfl ⟨_, rfl, h⟩
                  · skip
                    refine zw_iconst (n := 149) d206_148 rfl zk_i_1 ?_
                    refine zw_goto d206_149 ?_
                    refine zw_istore_n (n := 154) d206_153 rfl rfl rfl ?_
                    refine zw_iload_n (n := 155) d206_154 rfl rfl ?_
                    refine zw_if_eq (n := 158) d206_155 rfl (zite h (fun h => ?_) (fun h => ?_))
                    · skip
                      refine zw_iload_n (n := 176) d206_175 rfl rfl ?_
                      exact zw_iret d206_176 rfl ⟨_, rfl, h⟩
                    · skip
                      refine zw_aload_n (n := 159) d206_158 rfl rfl ?_
                      refine zw_getr (n := 162) d206_159 rfl (zj_5 hS).1 (zj_5 hS).2 (zr_5_17 hS) ?_
                      refine zw_aload_n (n := 163) d206_162 rfl rfl ?_
                      refine zw_getr (n := 166) d206_163 rfl (zj_5 hS).1 (zj_5 hS).2 (zr_5_27 hS) ?_
                      refine zw_iconst (n := 167) d206_166 rfl zk_i_0 ?_
                      obtain ⟨hi, h⟩ := h
                      refine zw_iald (n := 168) d206_167 rfl (za_5_27 hS).1 (za_5_27 hS).2 hi ?_
                      refine zw_aload_n (n := 169) d206_168 rfl rfl ?_
                      refine zw_getr (n := 172) d206_169 rfl (zj_5 hS).1 (zj_5 hS).2 (zr_5_27 hS) ?_
                      refine zw_iconst (n := 173) d206_172 rfl zk_i_1 ?_
                      obtain ⟨hi, h⟩ := h
                      refine zw_iald (n := 174) d206_173 rfl (za_5_27 hS).1 (za_5_27 hS).2 hi ?_
                      obtain ⟨hi, h⟩ := h
                      refine zw_iast (n := 175) d206_174 rfl (za_5_17 hS).1 (za_5_17 hS).2 hi ?_
                      refine zw_iload_n (n := 176) d206_175 rfl rfl ?_
                      exact zw_iret d206_176 rfl ⟨_, rfl, h⟩
            · skip
              refine zw_aload_n (n := 111) d206_110 rfl rfl ?_
              refine zw_cI (n := 114) d206_111 (zs_V rfl rfl rfl rfl (by decide) (zj_5 hS).1 (zq_5 hS)) (by rw [ml_212]; rfl) (by decide) rfl (zc_mI h (fun r58 C58 h => ?_))
              obtain ⟨hb, h⟩ := h
              exact zw_iret d206_114 (zx_rb1 hb) ⟨_, rfl, h⟩
          · skip
            refine zw_aload_n (n := 72) d206_71 rfl rfl ?_
            refine zw_iconst (n := 73) d206_72 rfl zk_i_0 ?_
            refine zw_iconst (n := 74) d206_73 rfl zk_i_3 ?_
            refine zw_cI (n := 77) d206_74 (zs_V rfl rfl rfl rfl (by decide) (zj_5 hS).1 (zq_5 hS)) (by rw [ml_208]; rfl) (by decide) rfl (zc_mI h (fun r59 C59 h => ?_))
            refine zw_istore_n (n := 78) d206_77 rfl rfl rfl ?_
            refine zw_aload_n (n := 79) d206_78 rfl rfl ?_
            refine zw_iload_n (n := 80) d206_79 rfl rfl ?_
            refine zw_if_eq (n := 83) d206_80 rfl (zite h (fun h => ?_) (fun h => ?_))
            · skip
              refine zw_aload_n (n := 93) d206_92 rfl rfl ?_
              refine zw_geti (n := 96) d206_93 rfl (zj_5 hS).1 (zj_5 hS).2 ?_
              refine zw_puti (n := 99) d206_96 rfl (zj_5 hS).1 (zj_5 hS).2 ?_
              refine zw_iload_n (n := 100) d206_99 rfl rfl ?_
              obtain ⟨hb, h⟩ := h
              exact zw_iret d206_100 (zx_rb1 hb) ⟨_, rfl, h⟩
            · skip
              refine zw_aload_n (n := 84) d206_83 rfl rfl ?_
              refine zw_getr (n := 87) d206_84 rfl (zj_5 hS).1 (zj_5 hS).2 (zr_5_27 hS) ?_
              refine zw_iconst (n := 88) d206_87 rfl zk_i_0 ?_
              obtain ⟨hi, h⟩ := h
              refine zw_iald (n := 89) d206_88 rfl (za_5_27 hS).1 (za_5_27 hS).2 hi ?_
              refine zw_goto d206_89 ?_
              refine zw_puti (n := 99) d206_96 rfl (zj_5 hS).1 (zj_5 hS).2 ?_
              refine zw_iload_n (n := 100) d206_99 rfl rfl ?_
              obtain ⟨hb, h⟩ := h
              exact zw_iret d206_100 (zx_rb1 hb) ⟨_, rfl, h⟩

set_option maxRecDepth 20000 in
theorem zf207 (pc : Nat) : zt_code 207 pc = zt_fd zl_207 pc := rfl
theorem d207_0 : zt_code 207 0 = some (.aload_n 0, 0, 0, 0) := (zf207 0).trans rfl
theorem d207_1 : zt_code 207 1 = some (.getfield 180, 5, 23, 0) := (zf207 1).trans rfl
theorem d207_4 : zt_code 207 4 = some (.iconst (1), 0, 0, 0) := (zf207 4).trans rfl
theorem d207_5 : zt_code 207 5 = some (.if_icmp .ne (19), 0, 24, 0) := (zf207 5).trans rfl
theorem d207_8 : zt_code 207 8 = some (.aload_n 0, 0, 0, 0) := (zf207 8).trans rfl
theorem d207_9 : zt_code 207 9 = some (.getfield 171, 5, 22, 0) := (zf207 9).trans rfl
theorem d207_12 : zt_code 207 12 = some (.aload_n 0, 0, 0, 0) := (zf207 12).trans rfl
theorem d207_13 : zt_code 207 13 = some (.getfield 174, 5, 24, 0) := (zf207 13).trans rfl
theorem d207_16 : zt_code 207 16 = some (.isub, 0, 0, 0) := (zf207 16).trans rfl
theorem d207_17 : zt_code 207 17 = some (.aload_n 1, 0, 0, 0) := (zf207 17).trans rfl
theorem d207_18 : zt_code 207 18 = some (.invokevirtual 193, 90, 1, 6) := (zf207 18).trans rfl
theorem d207_21 : zt_code 207 21 = some (.if_icmp .eq (5), 0, 26, 0) := (zf207 21).trans rfl
theorem d207_24 : zt_code 207 24 = some (.iconst (0), 0, 0, 0) := (zf207 24).trans rfl
theorem d207_25 : zt_code 207 25 = some (.ireturn, 1, 0, 0) := (zf207 25).trans rfl
theorem d207_26 : zt_code 207 26 = some (.iconst (0), 0, 0, 0) := (zf207 26).trans rfl
theorem d207_27 : zt_code 207 27 = some (.istore_n 2, 0, 0, 0) := (zf207 27).trans rfl
theorem d207_28 : zt_code 207 28 = some (.iload_n 2, 0, 0, 0) := (zf207 28).trans rfl
theorem d207_29 : zt_code 207 29 = some (.aload_n 1, 0, 0, 0) := (zf207 29).trans rfl
theorem d207_30 : zt_code 207 30 = some (.invokevirtual 193, 90, 1, 6) := (zf207 30).trans rfl
theorem d207_33 : zt_code 207 33 = some (.if_icmp .ge (30), 0, 63, 0) := (zf207 33).trans rfl
theorem d207_36 : zt_code 207 36 = some (.aload_n 0, 0, 0, 0) := (zf207 36).trans rfl
theorem d207_37 : zt_code 207 37 = some (.getfield 34, 5, 7, 1) := (zf207 37).trans rfl
theorem d207_40 : zt_code 207 40 = some (.aload_n 0, 0, 0, 0) := (zf207 40).trans rfl
theorem d207_41 : zt_code 207 41 = some (.getfield 174, 5, 24, 0) := (zf207 41).trans rfl
theorem d207_44 : zt_code 207 44 = some (.iload_n 2, 0, 0, 0) := (zf207 44).trans rfl
theorem d207_45 : zt_code 207 45 = some (.iadd, 0, 0, 0) := (zf207 45).trans rfl
theorem d207_46 : zt_code 207 46 = some (.iaload, 0, 0, 0) := (zf207 46).trans rfl
theorem d207_47 : zt_code 207 47 = some (.aload_n 1, 0, 0, 0) := (zf207 47).trans rfl
theorem d207_48 : zt_code 207 48 = some (.iload_n 2, 0, 0, 0) := (zf207 48).trans rfl
theorem d207_49 : zt_code 207 49 = some (.invokevirtual 198, 92, 2, 6) := (zf207 49).trans rfl
theorem d207_52 : zt_code 207 52 = some (.if_icmp .eq (5), 0, 57, 0) := (zf207 52).trans rfl
theorem d207_55 : zt_code 207 55 = some (.iconst (0), 0, 0, 0) := (zf207 55).trans rfl
theorem d207_56 : zt_code 207 56 = some (.ireturn, 1, 0, 0) := (zf207 56).trans rfl
theorem d207_57 : zt_code 207 57 = some (.iinc 2 (1), 0, 0, 0) := (zf207 57).trans rfl
theorem d207_60 : zt_code 207 60 = some (.goto (-32), 0, 28, 0) := (zf207 60).trans rfl
theorem d207_63 : zt_code 207 63 = some (.iconst (1), 0, 0, 0) := (zf207 63).trans rfl
theorem d207_64 : zt_code 207 64 = some (.ireturn, 1, 0, 0) := (zf207 64).trans rfl
/-- FirstAtTheFirstModel.isWord(Ljava/lang/String;)Z -/
theorem vc207 {X : zX} {S : zx_S} {C : zx_C} {q : Int32 → zx_C → Prop} {e : Nat} {a1 : Nat} (hS : zs_5 S e) (h1 : a1 < 7) (h : if ((C.1 e 23) : Int32) = 1 then (zCd X 1 90 [.ref (2000000 + a1)] S C (zQi (fun r1 C1 => if (((C.1 e 22) - (C.1 e 24)) : Int32) = r1 then (zW X 4 207 28 [.ref e, .ref (2000000 + a1), .int 0] [] S C1 (zQi q)) else (q 0 C1)))) else (q 0 C)) : zCd X 4 207 [.ref e, .ref (2000000 + a1)] S C (zQi q) := by
  refine zc_in ml_207 rfl ?_
  refine zw_aload_n (n := 1) d207_0 rfl rfl ?_
  refine zw_geti (n := 4) d207_1 rfl (zj_5 hS).1 (zj_5 hS).2 ?_
  refine zw_iconst (n := 5) d207_4 rfl zk_i_1 ?_
  refine zw_ic_ne (n := 8) d207_5 rfl (zite h (fun h => ?_) (fun h => ?_))
  · skip
    refine zw_aload_n (n := 9) d207_8 rfl rfl ?_
    refine zw_geti (n := 12) d207_9 rfl (zj_5 hS).1 (zj_5 hS).2 ?_
    refine zw_aload_n (n := 13) d207_12 rfl rfl ?_
    refine zw_geti (n := 16) d207_13 rfl (zj_5 hS).1 (zj_5 hS).2 ?_
    refine zw_isub (n := 17) d207_16 rfl ?_
    refine zw_aload_n (n := 18) d207_17 rfl rfl ?_
    refine zw_cI (n := 21) d207_18 (zs_T rfl rfl rfl rfl h1) (by rw [ml_90]; rfl) (by decide) rfl (zc_mI h (fun r1 C1 h => ?_))
    refine zw_ic_eq (n := 24) d207_21 rfl (zite h (fun h => ?_) (fun h => ?_))
    · skip
      refine zw_iconst (n := 27) d207_26 rfl zk_i_0 ?_
      refine zw_istore_n (n := 28) d207_27 rfl rfl rfl ?_
      exact h
    · skip
      refine zw_iconst (n := 25) d207_24 rfl zk_i_0 ?_
      exact zw_iret d207_25 rfl ⟨_, rfl, h⟩
  · skip
    refine zw_iconst (n := 25) d207_24 rfl zk_i_0 ?_
    exact zw_iret d207_25 rfl ⟨_, rfl, h⟩
theorem vc207_28 {X : zX} {S : zx_S} {C : zx_C} {q : Int32 → zx_C → Prop} {e : Nat} {a1 : Nat} {i2 : Int32} (hS : zs_5 S e) (h1 : a1 < 7) (h : zCd X 1 90 [.ref (2000000 + a1)] S C (zQi (fun r1 C1 => if (i2 : Int32) < r1 then (vp_in ((C1.1 e 24) + i2) 250 ∧ (zCd X 3 92 [.ref (2000000 + a1), .int i2] S C1 (zQi (fun r2 C2 => if ((C1.1 (e + 16) (Int32.toNatClampNeg ((C1.1 e 24) + i2))) : Int32) = r2 then (zW X 4 207 28 [.ref e, .ref (2000000 + a1), .int (i2 + 1)] [] S C2 (zQi q)) else (q 0 C2))))) else (q 1 C1)))) : zW X 4 207 28 [.ref e, .ref (2000000 + a1), .int i2] [] S C (zQi q) := by
  refine zw_iload_n (n := 29) d207_28 rfl rfl ?_
  refine zw_aload_n (n := 30) d207_29 rfl rfl ?_
  refine zw_cI (n := 33) d207_30 (zs_T rfl rfl rfl rfl h1) (by rw [ml_90]; rfl) (by decide) rfl (zc_mI h (fun r1 C1 h => ?_))
  refine zw_ic_ge (n := 36) d207_33 rfl (zite h (fun h => ?_) (fun h => ?_))
  · skip
    refine zw_aload_n (n := 37) d207_36 rfl rfl ?_
    refine zw_getr (n := 40) d207_37 rfl (zj_5 hS).1 (zj_5 hS).2 (zr_5_7 hS) ?_
    refine zw_aload_n (n := 41) d207_40 rfl rfl ?_
    refine zw_geti (n := 44) d207_41 rfl (zj_5 hS).1 (zj_5 hS).2 ?_
    refine zw_iload_n (n := 45) d207_44 rfl rfl ?_
    refine zw_iadd (n := 46) d207_45 rfl ?_
    obtain ⟨hi, h⟩ := h
    refine zw_iald (n := 47) d207_46 rfl (za_5_7 hS).1 (za_5_7 hS).2 hi ?_
    refine zw_aload_n (n := 48) d207_47 rfl rfl ?_
    refine zw_iload_n (n := 49) d207_48 rfl rfl ?_
    refine zw_cI (n := 52) d207_49 (zs_T rfl rfl rfl rfl h1) (by rw [ml_92]; rfl) (by decide) rfl (zc_mI h (fun r2 C2 h => ?_))
    refine zw_ic_eq (n := 55) d207_52 rfl (zite h (fun h => ?_) (fun h => ?_))
    · skip
      refine zw_iinc (n := 60) d207_57 rfl rfl zk_i_1 rfl ?_
      refine zw_goto d207_60 ?_
      exact h
    · skip
      refine zw_iconst (n := 56) d207_55 rfl zk_i_0 ?_
      exact zw_iret d207_56 rfl ⟨_, rfl, h⟩
  · skip
    refine zw_iconst (n := 64) d207_63 rfl zk_i_1 ?_
    exact zw_iret d207_64 rfl ⟨_, rfl, h⟩

set_option maxRecDepth 20000 in
theorem zf208 (pc : Nat) : zt_code 208 pc = zt_fd zl_208 pc := rfl
theorem d208_0 : zt_code 208 0 = some (.aload_n 0, 0, 0, 0) := (zf208 0).trans rfl
theorem d208_1 : zt_code 208 1 = some (.invokevirtual 206, 203, 1, 5) := (zf208 1).trans rfl
theorem d208_4 : zt_code 208 4 = some (.aload_n 0, 0, 0, 0) := (zf208 4).trans rfl
theorem d208_5 : zt_code 208 5 = some (.iconst (0), 0, 0, 0) := (zf208 5).trans rfl
theorem d208_6 : zt_code 208 6 = some (.iload_n 1, 0, 0, 0) := (zf208 6).trans rfl
theorem d208_7 : zt_code 208 7 = some (.iload_n 2, 0, 0, 0) := (zf208 7).trans rfl
theorem d208_8 : zt_code 208 8 = some (.invokevirtual 209, 209, 4, 5) := (zf208 8).trans rfl
theorem d208_11 : zt_code 208 11 = some (.ireturn, 1, 0, 0) := (zf208 11).trans rfl
/-- FirstAtTheFirstModel.tells(II)Z -/
theorem vc208 {X : zX} {S : zx_S} {C : zx_C} {q : Int32 → zx_C → Prop} {e : Nat} {a1 : Int32} {a2 : Int32} (hS : zs_5 S e) (h : zCd X 1 203 [.ref e] S C (zQv (fun C1 => zCd X 2 209 [.ref e, .int 0, .int a1, .int a2] S C1 (zQi (fun r2 C2 => (r2 = 0 ∨ r2 = 1) ∧ (q r2 C2)))))) : zCd X 3 208 [.ref e, .int a1, .int a2] S C (zQi q) := by
  refine zc_in ml_208 rfl ?_
  refine zw_aload_n (n := 1) d208_0 rfl rfl ?_
  refine zw_cV (n := 4) d208_1 (zs_V rfl rfl rfl rfl (by decide) (zj_5 hS).1 (zq_5 hS)) (by rw [ml_203]; rfl) (by decide) rfl (zc_mV h (fun C1 h => ?_))
  refine zw_aload_n (n := 5) d208_4 rfl rfl ?_
  refine zw_iconst (n := 6) d208_5 rfl zk_i_0 ?_
  refine zw_iload_n (n := 7) d208_6 rfl rfl ?_
  refine zw_iload_n (n := 8) d208_7 rfl rfl ?_
  refine zw_cI (n := 11) d208_8 (zs_V rfl rfl rfl rfl (by decide) (zj_5 hS).1 (zq_5 hS)) (by rw [ml_209]; rfl) (by decide) rfl (zc_mI h (fun r2 C2 h => ?_))
  obtain ⟨hb, h⟩ := h
  exact zw_iret d208_11 (zx_rb1 hb) ⟨_, rfl, h⟩

set_option maxRecDepth 20000 in
theorem zf209 (pc : Nat) : zt_code 209 pc = zt_fd zl_209 pc := rfl
theorem d209_0 : zt_code 209 0 = some (.aload_n 0, 0, 0, 0) := (zf209 0).trans rfl
theorem d209_1 : zt_code 209 1 = some (.getfield 180, 5, 23, 0) := (zf209 1).trans rfl
theorem d209_4 : zt_code 209 4 = some (.iconst (2), 0, 0, 0) := (zf209 4).trans rfl
theorem d209_5 : zt_code 209 5 = some (.if_icmp .ne (18), 0, 23, 0) := (zf209 5).trans rfl
theorem d209_8 : zt_code 209 8 = some (.aload_n 0, 0, 0, 0) := (zf209 8).trans rfl
theorem d209_9 : zt_code 209 9 = some (.getfield 177, 5, 25, 0) := (zf209 9).trans rfl
theorem d209_12 : zt_code 209 12 = some (.i2l, 0, 0, 0) := (zf209 12).trans rfl
theorem d209_13 : zt_code 209 13 = some (.iload_n 2, 0, 0, 0) := (zf209 13).trans rfl
theorem d209_14 : zt_code 209 14 = some (.i2l, 0, 0, 0) := (zf209 14).trans rfl
theorem d209_15 : zt_code 209 15 = some (.iload_n 3, 0, 0, 0) := (zf209 15).trans rfl
theorem d209_16 : zt_code 209 16 = some (.i2l, 0, 0, 0) := (zf209 16).trans rfl
theorem d209_17 : zt_code 209 17 = some (.invokestatic 94, 159, 3, -1) := (zf209 17).trans rfl
theorem d209_20 : zt_code 209 20 = some (.ifCond .ne (8), 0, 28, 0) := (zf209 20).trans rfl
theorem d209_23 : zt_code 209 23 = some (.aload_n 0, 0, 0, 0) := (zf209 23).trans rfl
theorem d209_24 : zt_code 209 24 = some (.invokevirtual 202, 210, 1, 5) := (zf209 24).trans rfl
theorem d209_27 : zt_code 209 27 = some (.ireturn, 1, 0, 0) := (zf209 27).trans rfl
theorem d209_28 : zt_code 209 28 = some (.aload_n 0, 0, 0, 0) := (zf209 28).trans rfl
theorem d209_29 : zt_code 209 29 = some (.getfield 64, 5, 27, 1) := (zf209 29).trans rfl
theorem d209_32 : zt_code 209 32 = some (.iload_n 1, 0, 0, 0) := (zf209 32).trans rfl
theorem d209_33 : zt_code 209 33 = some (.aload_n 0, 0, 0, 0) := (zf209 33).trans rfl
theorem d209_34 : zt_code 209 34 = some (.getfield 177, 5, 25, 0) := (zf209 34).trans rfl
theorem d209_37 : zt_code 209 37 = some (.iastore, 0, 0, 0) := (zf209 37).trans rfl
theorem d209_38 : zt_code 209 38 = some (.aload_n 0, 0, 0, 0) := (zf209 38).trans rfl
theorem d209_39 : zt_code 209 39 = some (.invokevirtual 206, 203, 1, 5) := (zf209 39).trans rfl
theorem d209_42 : zt_code 209 42 = some (.iconst (1), 0, 0, 0) := (zf209 42).trans rfl
theorem d209_43 : zt_code 209 43 = some (.ireturn, 1, 0, 0) := (zf209 43).trans rfl
/-- FirstAtTheFirstModel.number(III)Z -/
theorem vc209 {X : zX} {S : zx_S} {C : zx_C} {q : Int32 → zx_C → Prop} {e : Nat} {a1 : Int32} {a2 : Int32} {a3 : Int32} (hS : zs_5 S e) (h : if ((C.1 e 23) : Int32) = 2 then (zCd X 0 159 [.long (Int32.toInt64 (C.1 e 25)), .long (Int32.toInt64 a2), .long (Int32.toInt64 a3)] S C (zQi (fun r1 C1 => if (r1 : Int32) = 0 then (zCd X 0 210 [.ref e] S C1 (zQi (fun r2 C2 => (r2 = 0 ∨ r2 = 1) ∧ (q r2 C2)))) else (vp_in a1 3 ∧ (zCd X 1 203 [.ref e] S (zp C1 (e + 30) (Int32.toNatClampNeg a1) (C1.1 e 25)) (zQv (fun C3 => q 1 C3))))))) else (zCd X 0 210 [.ref e] S C (zQi (fun r4 C4 => (r4 = 0 ∨ r4 = 1) ∧ (q r4 C4))))) : zCd X 2 209 [.ref e, .int a1, .int a2, .int a3] S C (zQi q) := by
  refine zc_in ml_209 rfl ?_
  refine zw_aload_n (n := 1) d209_0 rfl rfl ?_
  refine zw_geti (n := 4) d209_1 rfl (zj_5 hS).1 (zj_5 hS).2 ?_
  refine zw_iconst (n := 5) d209_4 rfl zk_i_2 ?_
  refine zw_ic_ne (n := 8) d209_5 rfl (zite h (fun h => ?_) (fun h => ?_))
  · skip
    refine zw_aload_n (n := 9) d209_8 rfl rfl ?_
    refine zw_geti (n := 12) d209_9 rfl (zj_5 hS).1 (zj_5 hS).2 ?_
    refine zw_i2l (n := 13) d209_12 rfl ?_
    refine zw_iload_n (n := 14) d209_13 rfl rfl ?_
    refine zw_i2l (n := 15) d209_14 rfl ?_
    refine zw_iload_n (n := 16) d209_15 rfl rfl ?_
    refine zw_i2l (n := 17) d209_16 rfl ?_
    refine zw_cI (n := 20) d209_17 (zs_S rfl rfl rfl rfl) (by rw [ml_159]; rfl) (by decide) rfl (zc_mI h (fun r1 C1 h => ?_))
    refine zw_if_ne (n := 23) d209_20 rfl (zite h (fun h => ?_) (fun h => ?_))
    · skip
      refine zw_aload_n (n := 24) d209_23 rfl rfl ?_
      refine zw_cI (n := 27) d209_24 (zs_V rfl rfl rfl rfl (by decide) (zj_5 hS).1 (zq_5 hS)) (by rw [ml_210]; rfl) (by decide) rfl (zc_mI h (fun r2 C2 h => ?_))
      obtain ⟨hb, h⟩ := h
      exact zw_iret d209_27 (zx_rb1 hb) ⟨_, rfl, h⟩
    · skip
      refine zw_aload_n (n := 29) d209_28 rfl rfl ?_
      refine zw_getr (n := 32) d209_29 rfl (zj_5 hS).1 (zj_5 hS).2 (zr_5_27 hS) ?_
      refine zw_iload_n (n := 33) d209_32 rfl rfl ?_
      refine zw_aload_n (n := 34) d209_33 rfl rfl ?_
      refine zw_geti (n := 37) d209_34 rfl (zj_5 hS).1 (zj_5 hS).2 ?_
      obtain ⟨hi, h⟩ := h
      refine zw_iast (n := 38) d209_37 rfl (za_5_27 hS).1 (za_5_27 hS).2 hi ?_
      refine zw_aload_n (n := 39) d209_38 rfl rfl ?_
      refine zw_cV (n := 42) d209_39 (zs_V rfl rfl rfl rfl (by decide) (zj_5 hS).1 (zq_5 hS)) (by rw [ml_203]; rfl) (by decide) rfl (zc_mV h (fun C3 h => ?_))
      refine zw_iconst (n := 43) d209_42 rfl zk_i_1 ?_
      exact zw_iret d209_43 rfl ⟨_, rfl, h⟩
  · skip
    refine zw_aload_n (n := 24) d209_23 rfl rfl ?_
    refine zw_cI (n := 27) d209_24 (zs_V rfl rfl rfl rfl (by decide) (zj_5 hS).1 (zq_5 hS)) (by rw [ml_210]; rfl) (by decide) rfl (zc_mI h (fun r4 C4 h => ?_))
    obtain ⟨hb, h⟩ := h
    exact zw_iret d209_27 (zx_rb1 hb) ⟨_, rfl, h⟩

set_option maxRecDepth 20000 in
theorem zf210 (pc : Nat) : zt_code 210 pc = zt_fd zl_210 pc := rfl
theorem d210_0 : zt_code 210 0 = some (.aload_n 0, 0, 0, 0) := (zf210 0).trans rfl
theorem d210_1 : zt_code 210 1 = some (.aload_n 0, 0, 0, 0) := (zf210 1).trans rfl
theorem d210_2 : zt_code 210 2 = some (.getfield 174, 5, 24, 0) := (zf210 2).trans rfl
theorem d210_5 : zt_code 210 5 = some (.putfield 190, 5, 26, 0) := (zf210 5).trans rfl
theorem d210_8 : zt_code 210 8 = some (.iconst (0), 0, 0, 0) := (zf210 8).trans rfl
theorem d210_9 : zt_code 210 9 = some (.ireturn, 1, 0, 0) := (zf210 9).trans rfl
/-- FirstAtTheFirstModel.wrong()Z -/
theorem vc210 {X : zX} {S : zx_S} {C : zx_C} {q : Int32 → zx_C → Prop} {e : Nat} (hS : zs_5 S e) (h : q 0 (zp C e 26 (C.1 e 24))) : zCd X 0 210 [.ref e] S C (zQi q) := by
  refine zc_in ml_210 rfl ?_
  refine zw_aload_n (n := 1) d210_0 rfl rfl ?_
  refine zw_aload_n (n := 2) d210_1 rfl rfl ?_
  refine zw_geti (n := 5) d210_2 rfl (zj_5 hS).1 (zj_5 hS).2 ?_
  refine zw_puti (n := 8) d210_5 rfl (zj_5 hS).1 (zj_5 hS).2 ?_
  refine zw_iconst (n := 9) d210_8 rfl zk_i_0 ?_
  exact zw_iret d210_9 rfl ⟨_, rfl, h⟩

set_option maxRecDepth 20000 in
theorem zf211 (pc : Nat) : zt_code 211 pc = zt_fd zl_211 pc := rfl
theorem d211_0 : zt_code 211 0 = some (.aload_n 0, 0, 0, 0) := (zf211 0).trans rfl
theorem d211_1 : zt_code 211 1 = some (.getfield 64, 5, 27, 1) := (zf211 1).trans rfl
theorem d211_4 : zt_code 211 4 = some (.iconst (2), 0, 0, 0) := (zf211 4).trans rfl
theorem d211_5 : zt_code 211 5 = some (.iconst (0), 0, 0, 0) := (zf211 5).trans rfl
theorem d211_6 : zt_code 211 6 = some (.iastore, 0, 0, 0) := (zf211 6).trans rfl
theorem d211_7 : zt_code 211 7 = some (.aload_n 0, 0, 0, 0) := (zf211 7).trans rfl
theorem d211_8 : zt_code 211 8 = some (.iconst (0), 0, 0, 0) := (zf211 8).trans rfl
theorem d211_9 : zt_code 211 9 = some (.bipush (99), 0, 0, 0) := (zf211 9).trans rfl
theorem d211_11 : zt_code 211 11 = some (.invokevirtual 213, 208, 3, 5) := (zf211 11).trans rfl
theorem d211_14 : zt_code 211 14 = some (.ifCond .eq (33), 0, 47, 0) := (zf211 14).trans rfl
theorem d211_17 : zt_code 211 17 = some (.aload_n 0, 0, 0, 0) := (zf211 17).trans rfl
theorem d211_18 : zt_code 211 18 = some (.iconst (1), 0, 0, 0) := (zf211 18).trans rfl
theorem d211_19 : zt_code 211 19 = some (.iconst (0), 0, 0, 0) := (zf211 19).trans rfl
theorem d211_20 : zt_code 211 20 = some (.bipush (99), 0, 0, 0) := (zf211 20).trans rfl
theorem d211_22 : zt_code 211 22 = some (.invokevirtual 209, 209, 4, 5) := (zf211 22).trans rfl
theorem d211_25 : zt_code 211 25 = some (.ifCond .eq (22), 0, 47, 0) := (zf211 25).trans rfl
theorem d211_28 : zt_code 211 28 = some (.aload_n 0, 0, 0, 0) := (zf211 28).trans rfl
theorem d211_29 : zt_code 211 29 = some (.getfield 40, 5, 10, 0) := (zf211 29).trans rfl
theorem d211_32 : zt_code 211 32 = some (.iconst (3), 0, 0, 0) := (zf211 32).trans rfl
theorem d211_33 : zt_code 211 33 = some (.if_icmp .ne (16), 0, 49, 0) := (zf211 33).trans rfl
theorem d211_36 : zt_code 211 36 = some (.aload_n 0, 0, 0, 0) := (zf211 36).trans rfl
theorem d211_37 : zt_code 211 37 = some (.iconst (2), 0, 0, 0) := (zf211 37).trans rfl
theorem d211_38 : zt_code 211 38 = some (.iconst (0), 0, 0, 0) := (zf211 38).trans rfl
theorem d211_39 : zt_code 211 39 = some (.bipush (99), 0, 0, 0) := (zf211 39).trans rfl
theorem d211_41 : zt_code 211 41 = some (.invokevirtual 209, 209, 4, 5) := (zf211 41).trans rfl
theorem d211_44 : zt_code 211 44 = some (.ifCond .ne (5), 0, 49, 0) := (zf211 44).trans rfl
theorem d211_47 : zt_code 211 47 = some (.iconst (0), 0, 0, 0) := (zf211 47).trans rfl
theorem d211_48 : zt_code 211 48 = some (.ireturn, 1, 0, 0) := (zf211 48).trans rfl
theorem d211_49 : zt_code 211 49 = some (.aload_n 0, 0, 0, 0) := (zf211 49).trans rfl
theorem d211_50 : zt_code 211 50 = some (.aload_n 0, 0, 0, 0) := (zf211 50).trans rfl
theorem d211_51 : zt_code 211 51 = some (.getfield 64, 5, 27, 1) := (zf211 51).trans rfl
theorem d211_54 : zt_code 211 54 = some (.iconst (0), 0, 0, 0) := (zf211 54).trans rfl
theorem d211_55 : zt_code 211 55 = some (.iaload, 0, 0, 0) := (zf211 55).trans rfl
theorem d211_56 : zt_code 211 56 = some (.aload_n 0, 0, 0, 0) := (zf211 56).trans rfl
theorem d211_57 : zt_code 211 57 = some (.getfield 64, 5, 27, 1) := (zf211 57).trans rfl
theorem d211_60 : zt_code 211 60 = some (.iconst (1), 0, 0, 0) := (zf211 60).trans rfl
theorem d211_61 : zt_code 211 61 = some (.iaload, 0, 0, 0) := (zf211 61).trans rfl
theorem d211_62 : zt_code 211 62 = some (.aload_n 0, 0, 0, 0) := (zf211 62).trans rfl
theorem d211_63 : zt_code 211 63 = some (.getfield 64, 5, 27, 1) := (zf211 63).trans rfl
theorem d211_66 : zt_code 211 66 = some (.iconst (2), 0, 0, 0) := (zf211 66).trans rfl
theorem d211_67 : zt_code 211 67 = some (.iaload, 0, 0, 0) := (zf211 67).trans rfl
theorem d211_68 : zt_code 211 68 = some (.invokevirtual 155, 188, 4, 5) := (zf211 68).trans rfl
theorem d211_71 : zt_code 211 71 = some (.iconst (1), 0, 0, 0) := (zf211 71).trans rfl
theorem d211_72 : zt_code 211 72 = some (.ireturn, 1, 0, 0) := (zf211 72).trans rfl
/-- FirstAtTheFirstModel.thingTold()Z -/
theorem vc211 {X : zX} {S : zx_S} {C : zx_C} {q : Int32 → zx_C → Prop} {e : Nat} (hS : zs_5 S e) (h : vp_in 2 3 ∧ (zCd X 3 208 [.ref e, .int 0, .int 99] S (zp C (e + 30) (Int32.toNatClampNeg 2) 0) (zQi (fun r1 C1 => if (r1 : Int32) = 0 then (q 0 C1) else (zCd X 2 209 [.ref e, .int 1, .int 0, .int 99] S C1 (zQi (fun r2 C2 => if (r2 : Int32) = 0 then (q 0 C2) else (if ((C2.1 e 10) : Int32) = 3 then (zCd X 2 209 [.ref e, .int 2, .int 0, .int 99] S C2 (zQi (fun r3 C3 => if (r3 : Int32) = 0 then (q 0 C3) else (vp_in 0 3 ∧ (vp_in 1 3 ∧ (vp_in 2 3 ∧ (zCd X 0 188 [.ref e, .int (C3.1 (e + 30) (Int32.toNatClampNeg 0)), .int (C3.1 (e + 30) (Int32.toNatClampNeg 1)), .int (C3.1 (e + 30) (Int32.toNatClampNeg 2))] S C3 (zQv (fun C4 => q 1 C4))))))))) else (vp_in 0 3 ∧ (vp_in 1 3 ∧ (vp_in 2 3 ∧ (zCd X 0 188 [.ref e, .int (C2.1 (e + 30) (Int32.toNatClampNeg 0)), .int (C2.1 (e + 30) (Int32.toNatClampNeg 1)), .int (C2.1 (e + 30) (Int32.toNatClampNeg 2))] S C2 (zQv (fun C5 => q 1 C5)))))))))))))) : zCd X 4 211 [.ref e] S C (zQi q) := by
  refine zc_in ml_211 rfl ?_
  refine zw_aload_n (n := 1) d211_0 rfl rfl ?_
  refine zw_getr (n := 4) d211_1 rfl (zj_5 hS).1 (zj_5 hS).2 (zr_5_27 hS) ?_
  refine zw_iconst (n := 5) d211_4 rfl zk_i_2 ?_
  refine zw_iconst (n := 6) d211_5 rfl zk_i_0 ?_
  obtain ⟨hi, h⟩ := h
  refine zw_iast (n := 7) d211_6 rfl (za_5_27 hS).1 (za_5_27 hS).2 hi ?_
  refine zw_aload_n (n := 8) d211_7 rfl rfl ?_
  refine zw_iconst (n := 9) d211_8 rfl zk_i_0 ?_
  refine zw_bipush (n := 11) d211_9 rfl zk_b_99 ?_
  refine zw_cI (n := 14) d211_11 (zs_V rfl rfl rfl rfl (by decide) (zj_5 hS).1 (zq_5 hS)) (by rw [ml_208]; rfl) (by decide) rfl (zc_mI h (fun r1 C1 h => ?_))
  refine zw_if_eq (n := 17) d211_14 rfl (zite h (fun h => ?_) (fun h => ?_))
  · skip
    refine zw_iconst (n := 48) d211_47 rfl zk_i_0 ?_
    exact zw_iret d211_48 rfl ⟨_, rfl, h⟩
  · skip
    refine zw_aload_n (n := 18) d211_17 rfl rfl ?_
    refine zw_iconst (n := 19) d211_18 rfl zk_i_1 ?_
    refine zw_iconst (n := 20) d211_19 rfl zk_i_0 ?_
    refine zw_bipush (n := 22) d211_20 rfl zk_b_99 ?_
    refine zw_cI (n := 25) d211_22 (zs_V rfl rfl rfl rfl (by decide) (zj_5 hS).1 (zq_5 hS)) (by rw [ml_209]; rfl) (by decide) rfl (zc_mI h (fun r2 C2 h => ?_))
    refine zw_if_eq (n := 28) d211_25 rfl (zite h (fun h => ?_) (fun h => ?_))
    · skip
      refine zw_iconst (n := 48) d211_47 rfl zk_i_0 ?_
      exact zw_iret d211_48 rfl ⟨_, rfl, h⟩
    · skip
      refine zw_aload_n (n := 29) d211_28 rfl rfl ?_
      refine zw_geti (n := 32) d211_29 rfl (zj_5 hS).1 (zj_5 hS).2 ?_
      refine zw_iconst (n := 33) d211_32 rfl zk_i_3 ?_
      refine zw_ic_ne (n := 36) d211_33 rfl (zite h (fun h => ?_) (fun h => ?_))
      · skip
        refine zw_aload_n (n := 37) d211_36 rfl rfl ?_
        refine zw_iconst (n := 38) d211_37 rfl zk_i_2 ?_
        refine zw_iconst (n := 39) d211_38 rfl zk_i_0 ?_
        refine zw_bipush (n := 41) d211_39 rfl zk_b_99 ?_
        refine zw_cI (n := 44) d211_41 (zs_V rfl rfl rfl rfl (by decide) (zj_5 hS).1 (zq_5 hS)) (by rw [ml_209]; rfl) (by decide) rfl (zc_mI h (fun r3 C3 h => ?_))
        refine zw_if_ne (n := 47) d211_44 rfl (zite h (fun h => ?_) (fun h => ?_))
        · skip
          refine zw_iconst (n := 48) d211_47 rfl zk_i_0 ?_
          exact zw_iret d211_48 rfl ⟨_, rfl, h⟩
        · skip
          refine zw_aload_n (n := 50) d211_49 rfl rfl ?_
          refine zw_aload_n (n := 51) d211_50 rfl rfl ?_
          refine zw_getr (n := 54) d211_51 rfl (zj_5 hS).1 (zj_5 hS).2 (zr_5_27 hS) ?_
          refine zw_iconst (n := 55) d211_54 rfl zk_i_0 ?_
          obtain ⟨hi, h⟩ := h
          refine zw_iald (n := 56) d211_55 rfl (za_5_27 hS).1 (za_5_27 hS).2 hi ?_
          refine zw_aload_n (n := 57) d211_56 rfl rfl ?_
          refine zw_getr (n := 60) d211_57 rfl (zj_5 hS).1 (zj_5 hS).2 (zr_5_27 hS) ?_
          refine zw_iconst (n := 61) d211_60 rfl zk_i_1 ?_
          obtain ⟨hi, h⟩ := h
          refine zw_iald (n := 62) d211_61 rfl (za_5_27 hS).1 (za_5_27 hS).2 hi ?_
          refine zw_aload_n (n := 63) d211_62 rfl rfl ?_
          refine zw_getr (n := 66) d211_63 rfl (zj_5 hS).1 (zj_5 hS).2 (zr_5_27 hS) ?_
          refine zw_iconst (n := 67) d211_66 rfl zk_i_2 ?_
          obtain ⟨hi, h⟩ := h
          refine zw_iald (n := 68) d211_67 rfl (za_5_27 hS).1 (za_5_27 hS).2 hi ?_
          refine zw_cV (n := 71) d211_68 (zs_V rfl rfl rfl rfl (by decide) (zj_5 hS).1 (zq_5 hS)) (by rw [ml_188]; rfl) (by decide) rfl (zc_mV h (fun C4 h => ?_))
          refine zw_iconst (n := 72) d211_71 rfl zk_i_1 ?_
          exact zw_iret d211_72 rfl ⟨_, rfl, h⟩
      · skip
        refine zw_aload_n (n := 50) d211_49 rfl rfl ?_
        refine zw_aload_n (n := 51) d211_50 rfl rfl ?_
        refine zw_getr (n := 54) d211_51 rfl (zj_5 hS).1 (zj_5 hS).2 (zr_5_27 hS) ?_
        refine zw_iconst (n := 55) d211_54 rfl zk_i_0 ?_
        obtain ⟨hi, h⟩ := h
        refine zw_iald (n := 56) d211_55 rfl (za_5_27 hS).1 (za_5_27 hS).2 hi ?_
        refine zw_aload_n (n := 57) d211_56 rfl rfl ?_
        refine zw_getr (n := 60) d211_57 rfl (zj_5 hS).1 (zj_5 hS).2 (zr_5_27 hS) ?_
        refine zw_iconst (n := 61) d211_60 rfl zk_i_1 ?_
        obtain ⟨hi, h⟩ := h
        refine zw_iald (n := 62) d211_61 rfl (za_5_27 hS).1 (za_5_27 hS).2 hi ?_
        refine zw_aload_n (n := 63) d211_62 rfl rfl ?_
        refine zw_getr (n := 66) d211_63 rfl (zj_5 hS).1 (zj_5 hS).2 (zr_5_27 hS) ?_
        refine zw_iconst (n := 67) d211_66 rfl zk_i_2 ?_
        obtain ⟨hi, h⟩ := h
        refine zw_iald (n := 68) d211_67 rfl (za_5_27 hS).1 (za_5_27 hS).2 hi ?_
        refine zw_cV (n := 71) d211_68 (zs_V rfl rfl rfl rfl (by decide) (zj_5 hS).1 (zq_5 hS)) (by rw [ml_188]; rfl) (by decide) rfl (zc_mV h (fun C5 h => ?_))
        refine zw_iconst (n := 72) d211_71 rfl zk_i_1 ?_
        exact zw_iret d211_72 rfl ⟨_, rfl, h⟩

set_option maxRecDepth 20000 in
theorem zf212 (pc : Nat) : zt_code 212 pc = zt_fd zl_212 pc := rfl
theorem d212_0 : zt_code 212 0 = some (.iconst (0), 0, 0, 0) := (zf212 0).trans rfl
theorem d212_1 : zt_code 212 1 = some (.istore_n 1, 0, 0, 0) := (zf212 1).trans rfl
theorem d212_2 : zt_code 212 2 = some (.aload_n 0, 0, 0, 0) := (zf212 2).trans rfl
theorem d212_3 : zt_code 212 3 = some (.invokevirtual 206, 203, 1, 5) := (zf212 3).trans rfl
theorem d212_6 : zt_code 212 6 = some (.iload_n 1, 0, 0, 0) := (zf212 6).trans rfl
theorem d212_7 : zt_code 212 7 = some (.bipush (12), 0, 0, 0) := (zf212 7).trans rfl
theorem d212_9 : zt_code 212 9 = some (.if_icmp .eq (18), 0, 27, 0) := (zf212 9).trans rfl
theorem d212_12 : zt_code 212 12 = some (.aload_n 0, 0, 0, 0) := (zf212 12).trans rfl
theorem d212_13 : zt_code 212 13 = some (.iconst (0), 0, 0, 0) := (zf212 13).trans rfl
theorem d212_14 : zt_code 212 14 = some (.iconst (0), 0, 0, 0) := (zf212 14).trans rfl
theorem d212_15 : zt_code 212 15 = some (.aload_n 0, 0, 0, 0) := (zf212 15).trans rfl
theorem d212_16 : zt_code 212 16 = some (.getfield 40, 5, 10, 0) := (zf212 16).trans rfl
theorem d212_19 : zt_code 212 19 = some (.iconst (1), 0, 0, 0) := (zf212 19).trans rfl
theorem d212_20 : zt_code 212 20 = some (.isub, 0, 0, 0) := (zf212 20).trans rfl
theorem d212_21 : zt_code 212 21 = some (.invokevirtual 209, 209, 4, 5) := (zf212 21).trans rfl
theorem d212_24 : zt_code 212 24 = some (.ifCond .ne (8), 0, 32, 0) := (zf212 24).trans rfl
theorem d212_27 : zt_code 212 27 = some (.aload_n 0, 0, 0, 0) := (zf212 27).trans rfl
theorem d212_28 : zt_code 212 28 = some (.invokevirtual 202, 210, 1, 5) := (zf212 28).trans rfl
theorem d212_31 : zt_code 212 31 = some (.ireturn, 1, 0, 0) := (zf212 31).trans rfl
theorem d212_32 : zt_code 212 32 = some (.aload_n 0, 0, 0, 0) := (zf212 32).trans rfl
theorem d212_33 : zt_code 212 33 = some (.getfield 52, 5, 15, 1) := (zf212 33).trans rfl
theorem d212_36 : zt_code 212 36 = some (.iload_n 1, 0, 0, 0) := (zf212 36).trans rfl
theorem d212_37 : zt_code 212 37 = some (.iinc 1 (1), 0, 0, 0) := (zf212 37).trans rfl
theorem d212_40 : zt_code 212 40 = some (.aload_n 0, 0, 0, 0) := (zf212 40).trans rfl
theorem d212_41 : zt_code 212 41 = some (.getfield 64, 5, 27, 1) := (zf212 41).trans rfl
theorem d212_44 : zt_code 212 44 = some (.iconst (0), 0, 0, 0) := (zf212 44).trans rfl
theorem d212_45 : zt_code 212 45 = some (.iaload, 0, 0, 0) := (zf212 45).trans rfl
theorem d212_46 : zt_code 212 46 = some (.iastore, 0, 0, 0) := (zf212 46).trans rfl
theorem d212_47 : zt_code 212 47 = some (.aload_n 0, 0, 0, 0) := (zf212 47).trans rfl
theorem d212_48 : zt_code 212 48 = some (.getfield 180, 5, 23, 0) := (zf212 48).trans rfl
theorem d212_51 : zt_code 212 51 = some (.iconst (2), 0, 0, 0) := (zf212 51).trans rfl
theorem d212_52 : zt_code 212 52 = some (.if_icmp .eq (-46), 0, 6, 0) := (zf212 52).trans rfl
theorem d212_55 : zt_code 212 55 = some (.aload_n 0, 0, 0, 0) := (zf212 55).trans rfl
theorem d212_56 : zt_code 212 56 = some (.iload_n 1, 0, 0, 0) := (zf212 56).trans rfl
theorem d212_57 : zt_code 212 57 = some (.putfield 55, 5, 16, 0) := (zf212 57).trans rfl
theorem d212_60 : zt_code 212 60 = some (.iconst (1), 0, 0, 0) := (zf212 60).trans rfl
theorem d212_61 : zt_code 212 61 = some (.ireturn, 1, 0, 0) := (zf212 61).trans rfl
/-- FirstAtTheFirstModel.orderTold()Z -/
theorem vc212 {X : zX} {S : zx_S} {C : zx_C} {q : Int32 → zx_C → Prop} {e : Nat} (hS : zs_5 S e) (h : zCd X 1 203 [.ref e] S C (zQv (fun C1 => zW X 3 212 6 [.ref e, .int 0] [] S C1 (zQi q)))) : zCd X 3 212 [.ref e] S C (zQi q) := by
  refine zc_in ml_212 rfl ?_
  refine zw_iconst (n := 1) d212_0 rfl zk_i_0 ?_
  refine zw_istore_n (n := 2) d212_1 rfl rfl rfl ?_
  refine zw_aload_n (n := 3) d212_2 rfl rfl ?_
  refine zw_cV (n := 6) d212_3 (zs_V rfl rfl rfl rfl (by decide) (zj_5 hS).1 (zq_5 hS)) (by rw [ml_203]; rfl) (by decide) rfl (zc_mV h (fun C1 h => ?_))
  exact h
theorem vc212_6 {X : zX} {S : zx_S} {C : zx_C} {q : Int32 → zx_C → Prop} {e : Nat} {i1 : Int32} (hS : zs_5 S e) (h : if (i1 : Int32) = 12 then (zCd X 0 210 [.ref e] S C (zQi (fun r1 C1 => (r1 = 0 ∨ r1 = 1) ∧ (q r1 C1)))) else (zCd X 2 209 [.ref e, .int 0, .int 0, .int ((C.1 e 10) - 1)] S C (zQi (fun r2 C2 => if (r2 : Int32) = 0 then (zCd X 0 210 [.ref e] S C2 (zQi (fun r3 C3 => (r3 = 0 ∨ r3 = 1) ∧ (q r3 C3)))) else (vp_in 0 3 ∧ (vp_in i1 12 ∧ (if ((Prod.fst (zp C2 (e + 28) (Int32.toNatClampNeg i1) (C2.1 (e + 30) (Int32.toNatClampNeg 0))) e 23) : Int32) = 2 then (zW X 3 212 6 [.ref e, .int (i1 + 1)] [] S (zp C2 (e + 28) (Int32.toNatClampNeg i1) (C2.1 (e + 30) (Int32.toNatClampNeg 0))) (zQi q)) else (q 1 (zp (zp C2 (e + 28) (Int32.toNatClampNeg i1) (C2.1 (e + 30) (Int32.toNatClampNeg 0))) e 16 (i1 + 1)))))))))) : zW X 3 212 6 [.ref e, .int i1] [] S C (zQi q) := by
  refine zw_iload_n (n := 7) d212_6 rfl rfl ?_
  refine zw_bipush (n := 9) d212_7 rfl zk_b_12 ?_
  refine zw_ic_eq (n := 12) d212_9 rfl (zite h (fun h => ?_) (fun h => ?_))
  · skip
    refine zw_aload_n (n := 28) d212_27 rfl rfl ?_
    refine zw_cI (n := 31) d212_28 (zs_V rfl rfl rfl rfl (by decide) (zj_5 hS).1 (zq_5 hS)) (by rw [ml_210]; rfl) (by decide) rfl (zc_mI h (fun r1 C1 h => ?_))
    obtain ⟨hb, h⟩ := h
    exact zw_iret d212_31 (zx_rb1 hb) ⟨_, rfl, h⟩
  · skip
    refine zw_aload_n (n := 13) d212_12 rfl rfl ?_
    refine zw_iconst (n := 14) d212_13 rfl zk_i_0 ?_
    refine zw_iconst (n := 15) d212_14 rfl zk_i_0 ?_
    refine zw_aload_n (n := 16) d212_15 rfl rfl ?_
    refine zw_geti (n := 19) d212_16 rfl (zj_5 hS).1 (zj_5 hS).2 ?_
    refine zw_iconst (n := 20) d212_19 rfl zk_i_1 ?_
    refine zw_isub (n := 21) d212_20 rfl ?_
    refine zw_cI (n := 24) d212_21 (zs_V rfl rfl rfl rfl (by decide) (zj_5 hS).1 (zq_5 hS)) (by rw [ml_209]; rfl) (by decide) rfl (zc_mI h (fun r2 C2 h => ?_))
    refine zw_if_ne (n := 27) d212_24 rfl (zite h (fun h => ?_) (fun h => ?_))
    · skip
      refine zw_aload_n (n := 28) d212_27 rfl rfl ?_
      refine zw_cI (n := 31) d212_28 (zs_V rfl rfl rfl rfl (by decide) (zj_5 hS).1 (zq_5 hS)) (by rw [ml_210]; rfl) (by decide) rfl (zc_mI h (fun r3 C3 h => ?_))
      obtain ⟨hb, h⟩ := h
      exact zw_iret d212_31 (zx_rb1 hb) ⟨_, rfl, h⟩
    · skip
      refine zw_aload_n (n := 33) d212_32 rfl rfl ?_
      refine zw_getr (n := 36) d212_33 rfl (zj_5 hS).1 (zj_5 hS).2 (zr_5_15 hS) ?_
      refine zw_iload_n (n := 37) d212_36 rfl rfl ?_
      refine zw_iinc (n := 40) d212_37 rfl rfl zk_i_1 rfl ?_
      refine zw_aload_n (n := 41) d212_40 rfl rfl ?_
      refine zw_getr (n := 44) d212_41 rfl (zj_5 hS).1 (zj_5 hS).2 (zr_5_27 hS) ?_
      refine zw_iconst (n := 45) d212_44 rfl zk_i_0 ?_
      obtain ⟨hi, h⟩ := h
      refine zw_iald (n := 46) d212_45 rfl (za_5_27 hS).1 (za_5_27 hS).2 hi ?_
      obtain ⟨hi, h⟩ := h
      refine zw_iast (n := 47) d212_46 rfl (za_5_15 hS).1 (za_5_15 hS).2 hi ?_
      refine zw_aload_n (n := 48) d212_47 rfl rfl ?_
      refine zw_geti (n := 51) d212_48 rfl (zj_5 hS).1 (zj_5 hS).2 ?_
      refine zw_iconst (n := 52) d212_51 rfl zk_i_2 ?_
      refine zw_ic_eq (n := 55) d212_52 rfl (zite h (fun h => ?_) (fun h => ?_))
      · skip
        exact h
      · skip
        refine zw_aload_n (n := 56) d212_55 rfl rfl ?_
        refine zw_iload_n (n := 57) d212_56 rfl rfl ?_
        refine zw_puti (n := 60) d212_57 rfl (zj_5 hS).1 (zj_5 hS).2 ?_
        refine zw_iconst (n := 61) d212_60 rfl zk_i_1 ?_
        exact zw_iret d212_61 rfl ⟨_, rfl, h⟩

set_option maxRecDepth 20000 in
theorem zf213 (pc : Nat) : zt_code 213 pc = zt_fd zl_213 pc := rfl
theorem d213_0 : zt_code 213 0 = some (.aload_n 0, 0, 0, 0) := (zf213 0).trans rfl
theorem d213_1 : zt_code 213 1 = some (.iload_n 1, 0, 0, 0) := (zf213 1).trans rfl
theorem d213_2 : zt_code 213 2 = some (.invokevirtual 159, 190, 2, 5) := (zf213 2).trans rfl
theorem d213_5 : zt_code 213 5 = some (.ifCond .eq (17), 0, 22, 0) := (zf213 5).trans rfl
theorem d213_8 : zt_code 213 8 = some (.iload_n 2, 0, 0, 0) := (zf213 8).trans rfl
theorem d213_9 : zt_code 213 9 = some (.i2l, 0, 0, 0) := (zf213 9).trans rfl
theorem d213_10 : zt_code 213 10 = some (.lconst 0, 0, 0, 0) := (zf213 10).trans rfl
theorem d213_11 : zt_code 213 11 = some (.aload_n 0, 0, 0, 0) := (zf213 11).trans rfl
theorem d213_12 : zt_code 213 12 = some (.getfield 40, 5, 10, 0) := (zf213 12).trans rfl
theorem d213_15 : zt_code 213 15 = some (.i2l, 0, 0, 0) := (zf213 15).trans rfl
theorem d213_16 : zt_code 213 16 = some (.invokestatic 94, 159, 3, -1) := (zf213 16).trans rfl
theorem d213_19 : zt_code 213 19 = some (.ifCond .ne (10), 0, 29, 0) := (zf213 19).trans rfl
theorem d213_22 : zt_code 213 22 = some (.aload_n 0, 0, 0, 0) := (zf213 22).trans rfl
theorem d213_23 : zt_code 213 23 = some (.bipush (-2), 0, 0, 0) := (zf213 23).trans rfl
theorem d213_25 : zt_code 213 25 = some (.invokevirtual 107, 160, 2, 5) := (zf213 25).trans rfl
theorem d213_28 : zt_code 213 28 = some (.ireturn, 0, 0, 0) := (zf213 28).trans rfl
theorem d213_29 : zt_code 213 29 = some (.iload_n 2, 0, 0, 0) := (zf213 29).trans rfl
theorem d213_30 : zt_code 213 30 = some (.ifCond .ne (12), 0, 42, 0) := (zf213 30).trans rfl
theorem d213_33 : zt_code 213 33 = some (.aload_n 0, 0, 0, 0) := (zf213 33).trans rfl
theorem d213_34 : zt_code 213 34 = some (.getfield 49, 5, 13, 1) := (zf213 34).trans rfl
theorem d213_37 : zt_code 213 37 = some (.iload_n 1, 0, 0, 0) := (zf213 37).trans rfl
theorem d213_38 : zt_code 213 38 = some (.iaload, 0, 0, 0) := (zf213 38).trans rfl
theorem d213_39 : zt_code 213 39 = some (.goto (13), 0, 52, 0) := (zf213 39).trans rfl
theorem d213_42 : zt_code 213 42 = some (.aload_n 0, 0, 0, 0) := (zf213 42).trans rfl
theorem d213_43 : zt_code 213 43 = some (.getfield 46, 5, 12, 1) := (zf213 43).trans rfl
theorem d213_46 : zt_code 213 46 = some (.iload_n 1, 0, 0, 0) := (zf213 46).trans rfl
theorem d213_47 : zt_code 213 47 = some (.aaload, 0, 0, 0) := (zf213 47).trans rfl
theorem d213_48 : zt_code 213 48 = some (.iload_n 2, 0, 0, 0) := (zf213 48).trans rfl
theorem d213_49 : zt_code 213 49 = some (.iconst (1), 0, 0, 0) := (zf213 49).trans rfl
theorem d213_50 : zt_code 213 50 = some (.isub, 0, 0, 0) := (zf213 50).trans rfl
theorem d213_51 : zt_code 213 51 = some (.iaload, 0, 0, 0) := (zf213 51).trans rfl
theorem d213_52 : zt_code 213 52 = some (.ireturn, 0, 0, 0) := (zf213 52).trans rfl
/-- FirstAtTheFirstModel.thingOf(II)I -/
theorem vc213 {X : zX} {S : zx_S} {C : zx_C} {q : Int32 → zx_C → Prop} {e : Nat} {a1 : Int32} {a2 : Int32} (hS : zs_5 S e) (h : zCd X 1 190 [.ref e, .int a1] S C (zQi (fun r1 C1 => if (r1 : Int32) = 0 then (zCd X 0 160 [.ref e, .int (-2)] S C1 (zQi (fun r2 C2 => q r2 C2))) else (zCd X 0 159 [.long (Int32.toInt64 a2), .long 0, .long (Int32.toInt64 (C1.1 e 10))] S C1 (zQi (fun r3 C3 => if (r3 : Int32) = 0 then (zCd X 0 160 [.ref e, .int (-2)] S C3 (zQi (fun r4 C4 => q r4 C4))) else (if (a2 : Int32) = 0 then (vp_in a1 8 ∧ (q (C3.1 (e + 27) (Int32.toNatClampNeg a1)) C3)) else (vp_in a1 8 ∧ (vp_in (a2 - 1) 3 ∧ (q (C3.1 ((e + 19) + Int32.toNatClampNeg a1) (Int32.toNatClampNeg (a2 - 1))) C3)))))))))) : zCd X 2 213 [.ref e, .int a1, .int a2] S C (zQi q) := by
  refine zc_in ml_213 rfl ?_
  refine zw_aload_n (n := 1) d213_0 rfl rfl ?_
  refine zw_iload_n (n := 2) d213_1 rfl rfl ?_
  refine zw_cI (n := 5) d213_2 (zs_V rfl rfl rfl rfl (by decide) (zj_5 hS).1 (zq_5 hS)) (by rw [ml_190]; rfl) (by decide) rfl (zc_mI h (fun r1 C1 h => ?_))
  refine zw_if_eq (n := 8) d213_5 rfl (zite h (fun h => ?_) (fun h => ?_))
  · skip
    refine zw_aload_n (n := 23) d213_22 rfl rfl ?_
    refine zw_bipush (n := 25) d213_23 rfl zk_b_m2 ?_
    refine zw_cI (n := 28) d213_25 (zs_V rfl rfl rfl rfl (by decide) (zj_5 hS).1 (zq_5 hS)) (by rw [ml_160]; rfl) (by decide) rfl (zc_mI h (fun r2 C2 h => ?_))
    exact zw_iret d213_28 rfl ⟨_, rfl, h⟩
  · skip
    refine zw_iload_n (n := 9) d213_8 rfl rfl ?_
    refine zw_i2l (n := 10) d213_9 rfl ?_
    refine zw_lconst (n := 11) d213_10 rfl zk_c_0 ?_
    refine zw_aload_n (n := 12) d213_11 rfl rfl ?_
    refine zw_geti (n := 15) d213_12 rfl (zj_5 hS).1 (zj_5 hS).2 ?_
    refine zw_i2l (n := 16) d213_15 rfl ?_
    refine zw_cI (n := 19) d213_16 (zs_S rfl rfl rfl rfl) (by rw [ml_159]; rfl) (by decide) rfl (zc_mI h (fun r3 C3 h => ?_))
    refine zw_if_ne (n := 22) d213_19 rfl (zite h (fun h => ?_) (fun h => ?_))
    · skip
      refine zw_aload_n (n := 23) d213_22 rfl rfl ?_
      refine zw_bipush (n := 25) d213_23 rfl zk_b_m2 ?_
      refine zw_cI (n := 28) d213_25 (zs_V rfl rfl rfl rfl (by decide) (zj_5 hS).1 (zq_5 hS)) (by rw [ml_160]; rfl) (by decide) rfl (zc_mI h (fun r4 C4 h => ?_))
      exact zw_iret d213_28 rfl ⟨_, rfl, h⟩
    · skip
      refine zw_iload_n (n := 30) d213_29 rfl rfl ?_
      refine zw_if_ne (n := 33) d213_30 rfl (zite h (fun h => ?_) (fun h => ?_))
      · skip
        refine zw_aload_n (n := 34) d213_33 rfl rfl ?_
        refine zw_getr (n := 37) d213_34 rfl (zj_5 hS).1 (zj_5 hS).2 (zr_5_13 hS) ?_
        refine zw_iload_n (n := 38) d213_37 rfl rfl ?_
        obtain ⟨hi, h⟩ := h
        refine zw_iald (n := 39) d213_38 rfl (za_5_13 hS).1 (za_5_13 hS).2 hi ?_
        refine zw_goto d213_39 ?_
        exact zw_iret d213_52 rfl ⟨_, rfl, h⟩
      · skip
        refine zw_aload_n (n := 43) d213_42 rfl rfl ?_
        refine zw_getr (n := 46) d213_43 rfl (zj_5 hS).1 (zj_5 hS).2 (zr_5_12 hS) ?_
        refine zw_iload_n (n := 47) d213_46 rfl rfl ?_
        obtain ⟨hi, h⟩ := h
        have hb5 := zb_5_12 hS (vp_lt hi)
        refine zw_aald (n := 48) d213_47 rfl (za_5_12 hS).1 (za_5_12 hS).2 (by decide) hi hb5.1 ?_
        refine zw_iload_n (n := 49) d213_48 rfl rfl ?_
        refine zw_iconst (n := 50) d213_49 rfl zk_i_1 ?_
        refine zw_isub (n := 51) d213_50 rfl ?_
        obtain ⟨hi, h⟩ := h
        refine zw_iald (n := 52) d213_51 rfl hb5.2.1 hb5.2.2 hi ?_
        exact zw_iret d213_52 rfl ⟨_, rfl, h⟩

set_option maxRecDepth 20000 in
theorem zf214 (pc : Nat) : zt_code 214 pc = zt_fd zl_214 pc := rfl
theorem d214_0 : zt_code 214 0 = some (.aload_n 0, 0, 0, 0) := (zf214 0).trans rfl
theorem d214_1 : zt_code 214 1 = some (.iload_n 1, 0, 0, 0) := (zf214 1).trans rfl
theorem d214_2 : zt_code 214 2 = some (.invokevirtual 118, 168, 2, 5) := (zf214 2).trans rfl
theorem d214_5 : zt_code 214 5 = some (.ifCond .eq (15), 0, 20, 0) := (zf214 5).trans rfl
theorem d214_8 : zt_code 214 8 = some (.iload_n 2, 0, 0, 0) := (zf214 8).trans rfl
theorem d214_9 : zt_code 214 9 = some (.i2l, 0, 0, 0) := (zf214 9).trans rfl
theorem d214_10 : zt_code 214 10 = some (.lconst 0, 0, 0, 0) := (zf214 10).trans rfl
theorem d214_11 : zt_code 214 11 = some (.ldc2_w 146, 0, 0, 2) := (zf214 11).trans rfl
theorem d214_14 : zt_code 214 14 = some (.invokestatic 94, 159, 3, -1) := (zf214 14).trans rfl
theorem d214_17 : zt_code 214 17 = some (.ifCond .ne (10), 0, 27, 0) := (zf214 17).trans rfl
theorem d214_20 : zt_code 214 20 = some (.aload_n 0, 0, 0, 0) := (zf214 20).trans rfl
theorem d214_21 : zt_code 214 21 = some (.bipush (-2), 0, 0, 0) := (zf214 21).trans rfl
theorem d214_23 : zt_code 214 23 = some (.invokevirtual 107, 160, 2, 5) := (zf214 23).trans rfl
theorem d214_26 : zt_code 214 26 = some (.ireturn, 0, 0, 0) := (zf214 26).trans rfl
theorem d214_27 : zt_code 214 27 = some (.iload_n 2, 0, 0, 0) := (zf214 27).trans rfl
theorem d214_28 : zt_code 214 28 = some (.ifCond .ne (12), 0, 40, 0) := (zf214 28).trans rfl
theorem d214_31 : zt_code 214 31 = some (.aload_n 0, 0, 0, 0) := (zf214 31).trans rfl
theorem d214_32 : zt_code 214 32 = some (.getfield 58, 5, 17, 1) := (zf214 32).trans rfl
theorem d214_35 : zt_code 214 35 = some (.iload_n 1, 0, 0, 0) := (zf214 35).trans rfl
theorem d214_36 : zt_code 214 36 = some (.iaload, 0, 0, 0) := (zf214 36).trans rfl
theorem d214_37 : zt_code 214 37 = some (.goto (26), 0, 63, 0) := (zf214 37).trans rfl
theorem d214_40 : zt_code 214 40 = some (.iload_n 2, 0, 0, 0) := (zf214 40).trans rfl
theorem d214_41 : zt_code 214 41 = some (.iconst (1), 0, 0, 0) := (zf214 41).trans rfl
theorem d214_42 : zt_code 214 42 = some (.if_icmp .ne (16), 0, 58, 0) := (zf214 42).trans rfl
theorem d214_45 : zt_code 214 45 = some (.aload_n 0, 0, 0, 0) := (zf214 45).trans rfl
theorem d214_46 : zt_code 214 46 = some (.iload_n 1, 0, 0, 0) := (zf214 46).trans rfl
theorem d214_47 : zt_code 214 47 = some (.aload_n 0, 0, 0, 0) := (zf214 47).trans rfl
theorem d214_48 : zt_code 214 48 = some (.iload_n 1, 0, 0, 0) := (zf214 48).trans rfl
theorem d214_49 : zt_code 214 49 = some (.invokevirtual 255, 215, 2, 5) := (zf214 49).trans rfl
theorem d214_52 : zt_code 214 52 = some (.invokevirtual 258, 216, 3, 5) := (zf214 52).trans rfl
theorem d214_55 : zt_code 214 55 = some (.goto (8), 0, 63, 0) := (zf214 55).trans rfl
theorem d214_58 : zt_code 214 58 = some (.aload_n 0, 0, 0, 0) := (zf214 58).trans rfl
theorem d214_59 : zt_code 214 59 = some (.iload_n 1, 0, 0, 0) := (zf214 59).trans rfl
theorem d214_60 : zt_code 214 60 = some (.invokevirtual 255, 215, 2, 5) := (zf214 60).trans rfl
theorem d214_63 : zt_code 214 63 = some (.ireturn, 0, 0, 0) := (zf214 63).trans rfl
/-- FirstAtTheFirstModel.sideOf(II)I -/
theorem vc214 {X : zX} {S : zx_S} {C : zx_C} {q : Int32 → zx_C → Prop} {e : Nat} {a1 : Int32} {a2 : Int32} (hS : zs_5 S e) (h : zCd X 1 168 [.ref e, .int a1] S C (zQi (fun r1 C1 => if (r1 : Int32) = 0 then (zCd X 0 160 [.ref e, .int (-2)] S C1 (zQi (fun r2 C2 => q r2 C2))) else (zCd X 0 159 [.long (Int32.toInt64 a2), .long 0, .long 2] S C1 (zQi (fun r3 C3 => if (r3 : Int32) = 0 then (zCd X 0 160 [.ref e, .int (-2)] S C3 (zQi (fun r4 C4 => q r4 C4))) else (if (a2 : Int32) = 0 then (vp_in a1 3 ∧ (q (C3.1 (e + 29) (Int32.toNatClampNeg a1)) C3)) else (if (a2 : Int32) = 1 then (zCd X 0 215 [.ref e, .int a1] S C3 (zQi (fun r5 C5 => zCd X 1 216 [.ref e, .int a1, .int r5] S C5 (zQi (fun r6 C6 => q r6 C6))))) else (zCd X 0 215 [.ref e, .int a1] S C3 (zQi (fun r7 C7 => q r7 C7))))))))))) : zCd X 2 214 [.ref e, .int a1, .int a2] S C (zQi q) := by
  refine zc_in ml_214 rfl ?_
  refine zw_aload_n (n := 1) d214_0 rfl rfl ?_
  refine zw_iload_n (n := 2) d214_1 rfl rfl ?_
  refine zw_cI (n := 5) d214_2 (zs_V rfl rfl rfl rfl (by decide) (zj_5 hS).1 (zq_5 hS)) (by rw [ml_168]; rfl) (by decide) rfl (zc_mI h (fun r1 C1 h => ?_))
  refine zw_if_eq (n := 8) d214_5 rfl (zite h (fun h => ?_) (fun h => ?_))
  · skip
    refine zw_aload_n (n := 21) d214_20 rfl rfl ?_
    refine zw_bipush (n := 23) d214_21 rfl zk_b_m2 ?_
    refine zw_cI (n := 26) d214_23 (zs_V rfl rfl rfl rfl (by decide) (zj_5 hS).1 (zq_5 hS)) (by rw [ml_160]; rfl) (by decide) rfl (zc_mI h (fun r2 C2 h => ?_))
    exact zw_iret d214_26 rfl ⟨_, rfl, h⟩
  · skip
    refine zw_iload_n (n := 9) d214_8 rfl rfl ?_
    refine zw_i2l (n := 10) d214_9 rfl ?_
    refine zw_lconst (n := 11) d214_10 rfl zk_c_0 ?_
    refine zw_ldc2 (n := 14) d214_11 rfl zk_l_2 ?_
    refine zw_cI (n := 17) d214_14 (zs_S rfl rfl rfl rfl) (by rw [ml_159]; rfl) (by decide) rfl (zc_mI h (fun r3 C3 h => ?_))
    refine zw_if_ne (n := 20) d214_17 rfl (zite h (fun h => ?_) (fun h => ?_))
    · skip
      refine zw_aload_n (n := 21) d214_20 rfl rfl ?_
      refine zw_bipush (n := 23) d214_21 rfl zk_b_m2 ?_
      refine zw_cI (n := 26) d214_23 (zs_V rfl rfl rfl rfl (by decide) (zj_5 hS).1 (zq_5 hS)) (by rw [ml_160]; rfl) (by decide) rfl (zc_mI h (fun r4 C4 h => ?_))
      exact zw_iret d214_26 rfl ⟨_, rfl, h⟩
    · skip
      refine zw_iload_n (n := 28) d214_27 rfl rfl ?_
      refine zw_if_ne (n := 31) d214_28 rfl (zite h (fun h => ?_) (fun h => ?_))
      · skip
        refine zw_aload_n (n := 32) d214_31 rfl rfl ?_
        refine zw_getr (n := 35) d214_32 rfl (zj_5 hS).1 (zj_5 hS).2 (zr_5_17 hS) ?_
        refine zw_iload_n (n := 36) d214_35 rfl rfl ?_
        obtain ⟨hi, h⟩ := h
        refine zw_iald (n := 37) d214_36 rfl (za_5_17 hS).1 (za_5_17 hS).2 hi ?_
        refine zw_goto d214_37 ?_
        exact zw_iret d214_63 rfl ⟨_, rfl, h⟩
      · skip
        refine zw_iload_n (n := 41) d214_40 rfl rfl ?_
        refine zw_iconst (n := 42) d214_41 rfl zk_i_1 ?_
        refine zw_ic_ne (n := 45) d214_42 rfl (zite h (fun h => ?_) (fun h => ?_))
        · skip
          refine zw_aload_n (n := 46) d214_45 rfl rfl ?_
          refine zw_iload_n (n := 47) d214_46 rfl rfl ?_
          refine zw_aload_n (n := 48) d214_47 rfl rfl ?_
          refine zw_iload_n (n := 49) d214_48 rfl rfl ?_
          refine zw_cI (n := 52) d214_49 (zs_V rfl rfl rfl rfl (by decide) (zj_5 hS).1 (zq_5 hS)) (by rw [ml_215]; rfl) (by decide) rfl (zc_mI h (fun r5 C5 h => ?_))
          refine zw_cI (n := 55) d214_52 (zs_V rfl rfl rfl rfl (by decide) (zj_5 hS).1 (zq_5 hS)) (by rw [ml_216]; rfl) (by decide) rfl (zc_mI h (fun r6 C6 h => ?_))
          refine zw_goto d214_55 ?_
          exact zw_iret d214_63 rfl ⟨_, rfl, h⟩
        · skip
          refine zw_aload_n (n := 59) d214_58 rfl rfl ?_
          refine zw_iload_n (n := 60) d214_59 rfl rfl ?_
          refine zw_cI (n := 63) d214_60 (zs_V rfl rfl rfl rfl (by decide) (zj_5 hS).1 (zq_5 hS)) (by rw [ml_215]; rfl) (by decide) rfl (zc_mI h (fun r7 C7 h => ?_))
          exact zw_iret d214_63 rfl ⟨_, rfl, h⟩

set_option maxRecDepth 20000 in
theorem zf215 (pc : Nat) : zt_code 215 pc = zt_fd zl_215 pc := rfl
theorem d215_0 : zt_code 215 0 = some (.iconst (0), 0, 0, 0) := (zf215 0).trans rfl
theorem d215_1 : zt_code 215 1 = some (.istore_n 2, 0, 0, 0) := (zf215 1).trans rfl
theorem d215_2 : zt_code 215 2 = some (.iconst (0), 0, 0, 0) := (zf215 2).trans rfl
theorem d215_3 : zt_code 215 3 = some (.istore_n 3, 0, 0, 0) := (zf215 3).trans rfl
theorem d215_4 : zt_code 215 4 = some (.iload_n 3, 0, 0, 0) := (zf215 4).trans rfl
theorem d215_5 : zt_code 215 5 = some (.aload_n 0, 0, 0, 0) := (zf215 5).trans rfl
theorem d215_6 : zt_code 215 6 = some (.getfield 98, 5, 11, 0) := (zf215 6).trans rfl
theorem d215_9 : zt_code 215 9 = some (.if_icmp .ge (29), 0, 38, 0) := (zf215 9).trans rfl
theorem d215_12 : zt_code 215 12 = some (.iload_n 2, 0, 0, 0) := (zf215 12).trans rfl
theorem d215_13 : zt_code 215 13 = some (.aload_n 0, 0, 0, 0) := (zf215 13).trans rfl
theorem d215_14 : zt_code 215 14 = some (.getfield 49, 5, 13, 1) := (zf215 14).trans rfl
theorem d215_17 : zt_code 215 17 = some (.iload_n 3, 0, 0, 0) := (zf215 17).trans rfl
theorem d215_18 : zt_code 215 18 = some (.iaload, 0, 0, 0) := (zf215 18).trans rfl
theorem d215_19 : zt_code 215 19 = some (.iload_n 1, 0, 0, 0) := (zf215 19).trans rfl
theorem d215_20 : zt_code 215 20 = some (.if_icmp .ne (9), 0, 29, 0) := (zf215 20).trans rfl
theorem d215_23 : zt_code 215 23 = some (.iconst (1), 0, 0, 0) := (zf215 23).trans rfl
theorem d215_24 : zt_code 215 24 = some (.iload_n 3, 0, 0, 0) := (zf215 24).trans rfl
theorem d215_25 : zt_code 215 25 = some (.ishl, 0, 0, 0) := (zf215 25).trans rfl
theorem d215_26 : zt_code 215 26 = some (.goto (4), 0, 30, 0) := (zf215 26).trans rfl
theorem d215_29 : zt_code 215 29 = some (.iconst (0), 0, 0, 0) := (zf215 29).trans rfl
theorem d215_30 : zt_code 215 30 = some (.ior, 0, 0, 0) := (zf215 30).trans rfl
theorem d215_31 : zt_code 215 31 = some (.istore_n 2, 0, 0, 0) := (zf215 31).trans rfl
theorem d215_32 : zt_code 215 32 = some (.iinc 3 (1), 0, 0, 0) := (zf215 32).trans rfl
theorem d215_35 : zt_code 215 35 = some (.goto (-31), 0, 4, 0) := (zf215 35).trans rfl
theorem d215_38 : zt_code 215 38 = some (.iload_n 2, 0, 0, 0) := (zf215 38).trans rfl
theorem d215_39 : zt_code 215 39 = some (.ireturn, 0, 0, 0) := (zf215 39).trans rfl
/-- FirstAtTheFirstModel.owned(I)I -/
theorem vc215 {X : zX} {S : zx_S} {C : zx_C} {q : Int32 → zx_C → Prop} {e : Nat} {a1 : Int32} (hS : zs_5 S e) (h : zW X 0 215 4 [.ref e, .int a1, .int 0, .int 0] [] S C (zQi q)) : zCd X 0 215 [.ref e, .int a1] S C (zQi q) := by
  refine zc_in ml_215 rfl ?_
  refine zw_iconst (n := 1) d215_0 rfl zk_i_0 ?_
  refine zw_istore_n (n := 2) d215_1 rfl rfl rfl ?_
  refine zw_iconst (n := 3) d215_2 rfl zk_i_0 ?_
  refine zw_istore_n (n := 4) d215_3 rfl rfl rfl ?_
  exact h
theorem vc215_4 {X : zX} {S : zx_S} {C : zx_C} {q : Int32 → zx_C → Prop} {e : Nat} {a1 : Int32} {i1 : Int32} {i2 : Int32} {i3 : Int32} (hS : zs_5 S e) (h : if (i3 : Int32) < (C.1 e 11) then (vp_in i3 8 ∧ (if ((C.1 (e + 27) (Int32.toNatClampNeg i3)) : Int32) = i1 then (zW X 0 215 4 [.ref e, .int i1, .int (i2 ||| (1 <<< (i3 &&& 31))), .int (i3 + 1)] [] S C (zQi q)) else (zW X 0 215 4 [.ref e, .int i1, .int (i2 ||| 0), .int (i3 + 1)] [] S C (zQi q)))) else (q i2 C)) : zW X 0 215 4 [.ref e, .int i1, .int i2, .int i3] [] S C (zQi q) := by
  refine zw_iload_n (n := 5) d215_4 rfl rfl ?_
  refine zw_aload_n (n := 6) d215_5 rfl rfl ?_
  refine zw_geti (n := 9) d215_6 rfl (zj_5 hS).1 (zj_5 hS).2 ?_
  refine zw_ic_ge (n := 12) d215_9 rfl (zite h (fun h => ?_) (fun h => ?_))
  · skip
    refine zw_iload_n (n := 13) d215_12 rfl rfl ?_
    refine zw_aload_n (n := 14) d215_13 rfl rfl ?_
    refine zw_getr (n := 17) d215_14 rfl (zj_5 hS).1 (zj_5 hS).2 (zr_5_13 hS) ?_
    refine zw_iload_n (n := 18) d215_17 rfl rfl ?_
    obtain ⟨hi, h⟩ := h
    refine zw_iald (n := 19) d215_18 rfl (za_5_13 hS).1 (za_5_13 hS).2 hi ?_
    refine zw_iload_n (n := 20) d215_19 rfl rfl ?_
    refine zw_ic_ne (n := 23) d215_20 rfl (zite h (fun h => ?_) (fun h => ?_))
    · skip
      refine zw_iconst (n := 24) d215_23 rfl zk_i_1 ?_
      refine zw_iload_n (n := 25) d215_24 rfl rfl ?_
      refine zw_ishl (n := 26) d215_25 rfl ?_
      refine zw_goto d215_26 ?_
      refine zw_ior (n := 31) d215_30 rfl ?_
      refine zw_istore_n (n := 32) d215_31 rfl rfl rfl ?_
      refine zw_iinc (n := 35) d215_32 rfl rfl zk_i_1 rfl ?_
      refine zw_goto d215_35 ?_
      exact h
    · skip
      refine zw_iconst (n := 30) d215_29 rfl zk_i_0 ?_
      refine zw_ior (n := 31) d215_30 rfl ?_
      refine zw_istore_n (n := 32) d215_31 rfl rfl rfl ?_
      refine zw_iinc (n := 35) d215_32 rfl rfl zk_i_1 rfl ?_
      refine zw_goto d215_35 ?_
      exact h
  · skip
    refine zw_iload_n (n := 39) d215_38 rfl rfl ?_
    exact zw_iret d215_39 rfl ⟨_, rfl, h⟩

set_option maxRecDepth 20000 in
theorem zf216 (pc : Nat) : zt_code 216 pc = zt_fd zl_216 pc := rfl
theorem d216_0 : zt_code 216 0 = some (.iconst (0), 0, 0, 0) := (zf216 0).trans rfl
theorem d216_1 : zt_code 216 1 = some (.istore_n 3, 0, 0, 0) := (zf216 1).trans rfl
theorem d216_2 : zt_code 216 2 = some (.iconst (0), 0, 0, 0) := (zf216 2).trans rfl
theorem d216_3 : zt_code 216 3 = some (.istore 4, 0, 0, 0) := (zf216 3).trans rfl
theorem d216_5 : zt_code 216 5 = some (.iload 4, 0, 0, 0) := (zf216 5).trans rfl
theorem d216_7 : zt_code 216 7 = some (.aload_n 0, 0, 0, 0) := (zf216 7).trans rfl
theorem d216_8 : zt_code 216 8 = some (.getfield 98, 5, 11, 0) := (zf216 8).trans rfl
theorem d216_11 : zt_code 216 11 = some (.if_icmp .ge (34), 0, 45, 0) := (zf216 11).trans rfl
theorem d216_14 : zt_code 216 14 = some (.iload_n 3, 0, 0, 0) := (zf216 14).trans rfl
theorem d216_15 : zt_code 216 15 = some (.iload_n 2, 0, 0, 0) := (zf216 15).trans rfl
theorem d216_16 : zt_code 216 16 = some (.iload 4, 0, 0, 0) := (zf216 16).trans rfl
theorem d216_18 : zt_code 216 18 = some (.invokestatic 252, 174, 2, -1) := (zf216 18).trans rfl
theorem d216_21 : zt_code 216 21 = some (.ifCond .eq (15), 0, 36, 0) := (zf216 21).trans rfl
theorem d216_24 : zt_code 216 24 = some (.aload_n 0, 0, 0, 0) := (zf216 24).trans rfl
theorem d216_25 : zt_code 216 25 = some (.getfield 46, 5, 12, 1) := (zf216 25).trans rfl
theorem d216_28 : zt_code 216 28 = some (.iload 4, 0, 0, 0) := (zf216 28).trans rfl
theorem d216_30 : zt_code 216 30 = some (.aaload, 0, 0, 0) := (zf216 30).trans rfl
theorem d216_31 : zt_code 216 31 = some (.iload_n 1, 0, 0, 0) := (zf216 31).trans rfl
theorem d216_32 : zt_code 216 32 = some (.iaload, 0, 0, 0) := (zf216 32).trans rfl
theorem d216_33 : zt_code 216 33 = some (.goto (4), 0, 37, 0) := (zf216 33).trans rfl
theorem d216_36 : zt_code 216 36 = some (.iconst (0), 0, 0, 0) := (zf216 36).trans rfl
theorem d216_37 : zt_code 216 37 = some (.iadd, 0, 0, 0) := (zf216 37).trans rfl
theorem d216_38 : zt_code 216 38 = some (.istore_n 3, 0, 0, 0) := (zf216 38).trans rfl
theorem d216_39 : zt_code 216 39 = some (.iinc 4 (1), 0, 0, 0) := (zf216 39).trans rfl
theorem d216_42 : zt_code 216 42 = some (.goto (-37), 0, 5, 0) := (zf216 42).trans rfl
theorem d216_45 : zt_code 216 45 = some (.iload_n 3, 0, 0, 0) := (zf216 45).trans rfl
theorem d216_46 : zt_code 216 46 = some (.ireturn, 0, 0, 0) := (zf216 46).trans rfl
/-- FirstAtTheFirstModel.worthOf(II)I -/
theorem vc216 {X : zX} {S : zx_S} {C : zx_C} {q : Int32 → zx_C → Prop} {e : Nat} {a1 : Int32} {a2 : Int32} (hS : zs_5 S e) (h : zW X 1 216 5 [.ref e, .int a1, .int a2, .int 0, .int 0] [] S C (zQi q)) : zCd X 1 216 [.ref e, .int a1, .int a2] S C (zQi q) := by
  refine zc_in ml_216 rfl ?_
  refine zw_iconst (n := 1) d216_0 rfl zk_i_0 ?_
  refine zw_istore_n (n := 2) d216_1 rfl rfl rfl ?_
  refine zw_iconst (n := 3) d216_2 rfl zk_i_0 ?_
  refine zw_istore (n := 5) d216_3 rfl rfl rfl ?_
  exact h
theorem vc216_5 {X : zX} {S : zx_S} {C : zx_C} {q : Int32 → zx_C → Prop} {e : Nat} {a1 : Int32} {a2 : Int32} {i1 : Int32} {i2 : Int32} {i3 : Int32} {i4 : Int32} (hS : zs_5 S e) (h : if (i4 : Int32) < (C.1 e 11) then (zCd X 0 174 [.int i2, .int i4] S C (zQi (fun r1 C1 => if (r1 : Int32) = 0 then (zW X 1 216 5 [.ref e, .int i1, .int i2, .int (i3 + 0), .int (i4 + 1)] [] S C1 (zQi q)) else (vp_in i4 8 ∧ (vp_in i1 3 ∧ (zW X 1 216 5 [.ref e, .int i1, .int i2, .int (i3 + (C1.1 ((e + 19) + Int32.toNatClampNeg i4) (Int32.toNatClampNeg i1))), .int (i4 + 1)] [] S C1 (zQi q))))))) else (q i3 C)) : zW X 1 216 5 [.ref e, .int i1, .int i2, .int i3, .int i4] [] S C (zQi q) := by
  refine zw_iload (n := 7) d216_5 rfl rfl ?_
  refine zw_aload_n (n := 8) d216_7 rfl rfl ?_
  refine zw_geti (n := 11) d216_8 rfl (zj_5 hS).1 (zj_5 hS).2 ?_
  refine zw_ic_ge (n := 14) d216_11 rfl (zite h (fun h => ?_) (fun h => ?_))
  · skip
    refine zw_iload_n (n := 15) d216_14 rfl rfl ?_
    refine zw_iload_n (n := 16) d216_15 rfl rfl ?_
    refine zw_iload (n := 18) d216_16 rfl rfl ?_
    refine zw_cI (n := 21) d216_18 (zs_S rfl rfl rfl rfl) (by rw [ml_174]; rfl) (by decide) rfl (zc_mI h (fun r1 C1 h => ?_))
    refine zw_if_eq (n := 24) d216_21 rfl (zite h (fun h => ?_) (fun h => ?_))
    · skip
      refine zw_iconst (n := 37) d216_36 rfl zk_i_0 ?_
      refine zw_iadd (n := 38) d216_37 rfl ?_
      refine zw_istore_n (n := 39) d216_38 rfl rfl rfl ?_
      refine zw_iinc (n := 42) d216_39 rfl rfl zk_i_1 rfl ?_
      refine zw_goto d216_42 ?_
      exact h
    · skip
      refine zw_aload_n (n := 25) d216_24 rfl rfl ?_
      refine zw_getr (n := 28) d216_25 rfl (zj_5 hS).1 (zj_5 hS).2 (zr_5_12 hS) ?_
      refine zw_iload (n := 30) d216_28 rfl rfl ?_
      obtain ⟨hi, h⟩ := h
      have hb2 := zb_5_12 hS (vp_lt hi)
      refine zw_aald (n := 31) d216_30 rfl (za_5_12 hS).1 (za_5_12 hS).2 (by decide) hi hb2.1 ?_
      refine zw_iload_n (n := 32) d216_31 rfl rfl ?_
      obtain ⟨hi, h⟩ := h
      refine zw_iald (n := 33) d216_32 rfl hb2.2.1 hb2.2.2 hi ?_
      refine zw_goto d216_33 ?_
      refine zw_iadd (n := 38) d216_37 rfl ?_
      refine zw_istore_n (n := 39) d216_38 rfl rfl rfl ?_
      refine zw_iinc (n := 42) d216_39 rfl rfl zk_i_1 rfl ?_
      refine zw_goto d216_42 ?_
      exact h
  · skip
    refine zw_iload_n (n := 46) d216_45 rfl rfl ?_
    exact zw_iret d216_46 rfl ⟨_, rfl, h⟩

set_option maxRecDepth 20000 in
theorem zf217 (pc : Nat) : zt_code 217 pc = zt_fd zl_217 pc := rfl
theorem d217_0 : zt_code 217 0 = some (.iload_n 1, 0, 0, 0) := (zf217 0).trans rfl
theorem d217_1 : zt_code 217 1 = some (.i2l, 0, 0, 0) := (zf217 1).trans rfl
theorem d217_2 : zt_code 217 2 = some (.lconst 0, 0, 0, 0) := (zf217 2).trans rfl
theorem d217_3 : zt_code 217 3 = some (.ldc2_w 148, 0, 0, 3) := (zf217 3).trans rfl
theorem d217_6 : zt_code 217 6 = some (.invokestatic 94, 159, 3, -1) := (zf217 6).trans rfl
theorem d217_9 : zt_code 217 9 = some (.ifCond .eq (24), 0, 33, 0) := (zf217 9).trans rfl
theorem d217_12 : zt_code 217 12 = some (.iload_n 2, 0, 0, 0) := (zf217 12).trans rfl
theorem d217_13 : zt_code 217 13 = some (.i2l, 0, 0, 0) := (zf217 13).trans rfl
theorem d217_14 : zt_code 217 14 = some (.lconst 0, 0, 0, 0) := (zf217 14).trans rfl
theorem d217_15 : zt_code 217 15 = some (.ldc2_w 164, 0, 0, 1000000000) := (zf217 15).trans rfl
theorem d217_18 : zt_code 217 18 = some (.invokestatic 94, 159, 3, -1) := (zf217 18).trans rfl
theorem d217_21 : zt_code 217 21 = some (.ifCond .eq (12), 0, 33, 0) := (zf217 21).trans rfl
theorem d217_24 : zt_code 217 24 = some (.aload_n 0, 0, 0, 0) := (zf217 24).trans rfl
theorem d217_25 : zt_code 217 25 = some (.iload_n 1, 0, 0, 0) := (zf217 25).trans rfl
theorem d217_26 : zt_code 217 26 = some (.iload_n 2, 0, 0, 0) := (zf217 26).trans rfl
theorem d217_27 : zt_code 217 27 = some (.invokevirtual 262, 178, 3, 5) := (zf217 27).trans rfl
theorem d217_30 : zt_code 217 30 = some (.goto (9), 0, 39, 0) := (zf217 30).trans rfl
theorem d217_33 : zt_code 217 33 = some (.aload_n 0, 0, 0, 0) := (zf217 33).trans rfl
theorem d217_34 : zt_code 217 34 = some (.bipush (-2), 0, 0, 0) := (zf217 34).trans rfl
theorem d217_36 : zt_code 217 36 = some (.invokevirtual 107, 160, 2, 5) := (zf217 36).trans rfl
theorem d217_39 : zt_code 217 39 = some (.ireturn, 0, 0, 0) := (zf217 39).trans rfl
/-- FirstAtTheFirstModel.whose(II)I -/
theorem vc217 {X : zX} {S : zx_S} {C : zx_C} {q : Int32 → zx_C → Prop} {e : Nat} {a1 : Int32} {a2 : Int32} (hS : zs_5 S e) (h : zCd X 0 159 [.long (Int32.toInt64 a1), .long 0, .long 3] S C (zQi (fun r1 C1 => if (r1 : Int32) = 0 then (zCd X 0 160 [.ref e, .int (-2)] S C1 (zQi (fun r2 C2 => q r2 C2))) else (zCd X 0 159 [.long (Int32.toInt64 a2), .long 0, .long 1000000000] S C1 (zQi (fun r3 C3 => if (r3 : Int32) = 0 then (zCd X 0 160 [.ref e, .int (-2)] S C3 (zQi (fun r4 C4 => q r4 C4))) else (zCd X 0 178 [.ref e, .int a1, .int a2] S C3 (zQi (fun r5 C5 => q r5 C5))))))))) : zCd X 1 217 [.ref e, .int a1, .int a2] S C (zQi q) := by
  refine zc_in ml_217 rfl ?_
  refine zw_iload_n (n := 1) d217_0 rfl rfl ?_
  refine zw_i2l (n := 2) d217_1 rfl ?_
  refine zw_lconst (n := 3) d217_2 rfl zk_c_0 ?_
  refine zw_ldc2 (n := 6) d217_3 rfl zk_l_3 ?_
  refine zw_cI (n := 9) d217_6 (zs_S rfl rfl rfl rfl) (by rw [ml_159]; rfl) (by decide) rfl (zc_mI h (fun r1 C1 h => ?_))
  refine zw_if_eq (n := 12) d217_9 rfl (zite h (fun h => ?_) (fun h => ?_))
  · skip
    refine zw_aload_n (n := 34) d217_33 rfl rfl ?_
    refine zw_bipush (n := 36) d217_34 rfl zk_b_m2 ?_
    refine zw_cI (n := 39) d217_36 (zs_V rfl rfl rfl rfl (by decide) (zj_5 hS).1 (zq_5 hS)) (by rw [ml_160]; rfl) (by decide) rfl (zc_mI h (fun r2 C2 h => ?_))
    exact zw_iret d217_39 rfl ⟨_, rfl, h⟩
  · skip
    refine zw_iload_n (n := 13) d217_12 rfl rfl ?_
    refine zw_i2l (n := 14) d217_13 rfl ?_
    refine zw_lconst (n := 15) d217_14 rfl zk_c_0 ?_
    refine zw_ldc2 (n := 18) d217_15 rfl zk_l_1000000000 ?_
    refine zw_cI (n := 21) d217_18 (zs_S rfl rfl rfl rfl) (by rw [ml_159]; rfl) (by decide) rfl (zc_mI h (fun r3 C3 h => ?_))
    refine zw_if_eq (n := 24) d217_21 rfl (zite h (fun h => ?_) (fun h => ?_))
    · skip
      refine zw_aload_n (n := 34) d217_33 rfl rfl ?_
      refine zw_bipush (n := 36) d217_34 rfl zk_b_m2 ?_
      refine zw_cI (n := 39) d217_36 (zs_V rfl rfl rfl rfl (by decide) (zj_5 hS).1 (zq_5 hS)) (by rw [ml_160]; rfl) (by decide) rfl (zc_mI h (fun r4 C4 h => ?_))
      exact zw_iret d217_39 rfl ⟨_, rfl, h⟩
    · skip
      refine zw_aload_n (n := 25) d217_24 rfl rfl ?_
      refine zw_iload_n (n := 26) d217_25 rfl rfl ?_
      refine zw_iload_n (n := 27) d217_26 rfl rfl ?_
      refine zw_cI (n := 30) d217_27 (zs_V rfl rfl rfl rfl (by decide) (zj_5 hS).1 (zq_5 hS)) (by rw [ml_178]; rfl) (by decide) rfl (zc_mI h (fun r5 C5 h => ?_))
      refine zw_goto d217_30 ?_
      exact zw_iret d217_39 rfl ⟨_, rfl, h⟩

set_option maxRecDepth 20000 in
theorem zf218 (pc : Nat) : zt_code 218 pc = zt_fd zl_218 pc := rfl
theorem d218_0 : zt_code 218 0 = some (.iload_n 1, 0, 0, 0) := (zf218 0).trans rfl
theorem d218_1 : zt_code 218 1 = some (.i2l, 0, 0, 0) := (zf218 1).trans rfl
theorem d218_2 : zt_code 218 2 = some (.lconst 0, 0, 0, 0) := (zf218 2).trans rfl
theorem d218_3 : zt_code 218 3 = some (.ldc2_w 148, 0, 0, 3) := (zf218 3).trans rfl
theorem d218_6 : zt_code 218 6 = some (.invokestatic 94, 159, 3, -1) := (zf218 6).trans rfl
theorem d218_9 : zt_code 218 9 = some (.ifCond .eq (15), 0, 24, 0) := (zf218 9).trans rfl
theorem d218_12 : zt_code 218 12 = some (.iload_n 2, 0, 0, 0) := (zf218 12).trans rfl
theorem d218_13 : zt_code 218 13 = some (.i2l, 0, 0, 0) := (zf218 13).trans rfl
theorem d218_14 : zt_code 218 14 = some (.lconst 1, 0, 0, 0) := (zf218 14).trans rfl
theorem d218_15 : zt_code 218 15 = some (.ldc2_w 265, 0, 0, 4000) := (zf218 15).trans rfl
theorem d218_18 : zt_code 218 18 = some (.invokestatic 94, 159, 3, -1) := (zf218 18).trans rfl
theorem d218_21 : zt_code 218 21 = some (.ifCond .ne (10), 0, 31, 0) := (zf218 21).trans rfl
theorem d218_24 : zt_code 218 24 = some (.aload_n 0, 0, 0, 0) := (zf218 24).trans rfl
theorem d218_25 : zt_code 218 25 = some (.bipush (-2), 0, 0, 0) := (zf218 25).trans rfl
theorem d218_27 : zt_code 218 27 = some (.invokevirtual 107, 160, 2, 5) := (zf218 27).trans rfl
theorem d218_30 : zt_code 218 30 = some (.ireturn, 0, 0, 0) := (zf218 30).trans rfl
theorem d218_31 : zt_code 218 31 = some (.iconst (0), 0, 0, 0) := (zf218 31).trans rfl
theorem d218_32 : zt_code 218 32 = some (.istore_n 3, 0, 0, 0) := (zf218 32).trans rfl
theorem d218_33 : zt_code 218 33 = some (.iconst (0), 0, 0, 0) := (zf218 33).trans rfl
theorem d218_34 : zt_code 218 34 = some (.istore 4, 0, 0, 0) := (zf218 34).trans rfl
theorem d218_36 : zt_code 218 36 = some (.iconst (0), 0, 0, 0) := (zf218 36).trans rfl
theorem d218_37 : zt_code 218 37 = some (.istore 5, 0, 0, 0) := (zf218 37).trans rfl
theorem d218_39 : zt_code 218 39 = some (.iload 5, 0, 0, 0) := (zf218 39).trans rfl
theorem d218_41 : zt_code 218 41 = some (.iload_n 2, 0, 0, 0) := (zf218 41).trans rfl
theorem d218_42 : zt_code 218 42 = some (.if_icmp .ge (55), 0, 97, 0) := (zf218 42).trans rfl
theorem d218_45 : zt_code 218 45 = some (.iload 5, 0, 0, 0) := (zf218 45).trans rfl
theorem d218_47 : zt_code 218 47 = some (.ifCond .le (28), 0, 75, 0) := (zf218 47).trans rfl
theorem d218_50 : zt_code 218 50 = some (.aload_n 0, 0, 0, 0) := (zf218 50).trans rfl
theorem d218_51 : zt_code 218 51 = some (.iload_n 1, 0, 0, 0) := (zf218 51).trans rfl
theorem d218_52 : zt_code 218 52 = some (.iload 5, 0, 0, 0) := (zf218 52).trans rfl
theorem d218_54 : zt_code 218 54 = some (.invokevirtual 262, 178, 3, 5) := (zf218 54).trans rfl
theorem d218_57 : zt_code 218 57 = some (.aload_n 0, 0, 0, 0) := (zf218 57).trans rfl
theorem d218_58 : zt_code 218 58 = some (.iload_n 1, 0, 0, 0) := (zf218 58).trans rfl
theorem d218_59 : zt_code 218 59 = some (.iload 5, 0, 0, 0) := (zf218 59).trans rfl
theorem d218_61 : zt_code 218 61 = some (.iconst (1), 0, 0, 0) := (zf218 61).trans rfl
theorem d218_62 : zt_code 218 62 = some (.isub, 0, 0, 0) := (zf218 62).trans rfl
theorem d218_63 : zt_code 218 63 = some (.invokevirtual 262, 178, 3, 5) := (zf218 63).trans rfl
theorem d218_66 : zt_code 218 66 = some (.if_icmp .ne (9), 0, 75, 0) := (zf218 66).trans rfl
theorem d218_69 : zt_code 218 69 = some (.iload_n 3, 0, 0, 0) := (zf218 69).trans rfl
theorem d218_70 : zt_code 218 70 = some (.iconst (1), 0, 0, 0) := (zf218 70).trans rfl
theorem d218_71 : zt_code 218 71 = some (.iadd, 0, 0, 0) := (zf218 71).trans rfl
theorem d218_72 : zt_code 218 72 = some (.goto (4), 0, 76, 0) := (zf218 72).trans rfl
theorem d218_75 : zt_code 218 75 = some (.iconst (1), 0, 0, 0) := (zf218 75).trans rfl
theorem d218_76 : zt_code 218 76 = some (.istore_n 3, 0, 0, 0) := (zf218 76).trans rfl
theorem d218_77 : zt_code 218 77 = some (.iload_n 3, 0, 0, 0) := (zf218 77).trans rfl
theorem d218_78 : zt_code 218 78 = some (.iload 4, 0, 0, 0) := (zf218 78).trans rfl
theorem d218_80 : zt_code 218 80 = some (.if_icmp .le (7), 0, 87, 0) := (zf218 80).trans rfl
theorem d218_83 : zt_code 218 83 = some (.iload_n 3, 0, 0, 0) := (zf218 83).trans rfl
theorem d218_84 : zt_code 218 84 = some (.goto (5), 0, 89, 0) := (zf218 84).trans rfl
theorem d218_87 : zt_code 218 87 = some (.iload 4, 0, 0, 0) := (zf218 87).trans rfl
theorem d218_89 : zt_code 218 89 = some (.istore 4, 0, 0, 0) := (zf218 89).trans rfl
theorem d218_91 : zt_code 218 91 = some (.iinc 5 (1), 0, 0, 0) := (zf218 91).trans rfl
theorem d218_94 : zt_code 218 94 = some (.goto (-55), 0, 39, 0) := (zf218 94).trans rfl
theorem d218_97 : zt_code 218 97 = some (.iload 4, 0, 0, 0) := (zf218 97).trans rfl
theorem d218_99 : zt_code 218 99 = some (.ireturn, 0, 0, 0) := (zf218 99).trans rfl
/-- FirstAtTheFirstModel.runs(II)I -/
theorem vc218 {X : zX} {S : zx_S} {C : zx_C} {q : Int32 → zx_C → Prop} {e : Nat} {a1 : Int32} {a2 : Int32} (hS : zs_5 S e) (h : zCd X 0 159 [.long (Int32.toInt64 a1), .long 0, .long 3] S C (zQi (fun r1 C1 => if (r1 : Int32) = 0 then (zCd X 0 160 [.ref e, .int (-2)] S C1 (zQi (fun r2 C2 => q r2 C2))) else (zCd X 0 159 [.long (Int32.toInt64 a2), .long 1, .long 4000] S C1 (zQi (fun r3 C3 => if (r3 : Int32) = 0 then (zCd X 0 160 [.ref e, .int (-2)] S C3 (zQi (fun r4 C4 => q r4 C4))) else (zW X 1 218 39 [.ref e, .int a1, .int a2, .int 0, .int 0, .int 0] [] S C3 (zQi q)))))))) : zCd X 1 218 [.ref e, .int a1, .int a2] S C (zQi q) := by
  refine zc_in ml_218 rfl ?_
  refine zw_iload_n (n := 1) d218_0 rfl rfl ?_
  refine zw_i2l (n := 2) d218_1 rfl ?_
  refine zw_lconst (n := 3) d218_2 rfl zk_c_0 ?_
  refine zw_ldc2 (n := 6) d218_3 rfl zk_l_3 ?_
  refine zw_cI (n := 9) d218_6 (zs_S rfl rfl rfl rfl) (by rw [ml_159]; rfl) (by decide) rfl (zc_mI h (fun r1 C1 h => ?_))
  refine zw_if_eq (n := 12) d218_9 rfl (zite h (fun h => ?_) (fun h => ?_))
  · skip
    refine zw_aload_n (n := 25) d218_24 rfl rfl ?_
    refine zw_bipush (n := 27) d218_25 rfl zk_b_m2 ?_
    refine zw_cI (n := 30) d218_27 (zs_V rfl rfl rfl rfl (by decide) (zj_5 hS).1 (zq_5 hS)) (by rw [ml_160]; rfl) (by decide) rfl (zc_mI h (fun r2 C2 h => ?_))
    exact zw_iret d218_30 rfl ⟨_, rfl, h⟩
  · skip
    refine zw_iload_n (n := 13) d218_12 rfl rfl ?_
    refine zw_i2l (n := 14) d218_13 rfl ?_
    refine zw_lconst (n := 15) d218_14 rfl zk_c_1 ?_
    refine zw_ldc2 (n := 18) d218_15 rfl zk_l_4000 ?_
    refine zw_cI (n := 21) d218_18 (zs_S rfl rfl rfl rfl) (by rw [ml_159]; rfl) (by decide) rfl (zc_mI h (fun r3 C3 h => ?_))
    refine zw_if_ne (n := 24) d218_21 rfl (zite h (fun h => ?_) (fun h => ?_))
    · skip
      refine zw_aload_n (n := 25) d218_24 rfl rfl ?_
      refine zw_bipush (n := 27) d218_25 rfl zk_b_m2 ?_
      refine zw_cI (n := 30) d218_27 (zs_V rfl rfl rfl rfl (by decide) (zj_5 hS).1 (zq_5 hS)) (by rw [ml_160]; rfl) (by decide) rfl (zc_mI h (fun r4 C4 h => ?_))
      exact zw_iret d218_30 rfl ⟨_, rfl, h⟩
    · skip
      refine zw_iconst (n := 32) d218_31 rfl zk_i_0 ?_
      refine zw_istore_n (n := 33) d218_32 rfl rfl rfl ?_
      refine zw_iconst (n := 34) d218_33 rfl zk_i_0 ?_
      refine zw_istore (n := 36) d218_34 rfl rfl rfl ?_
      refine zw_iconst (n := 37) d218_36 rfl zk_i_0 ?_
      refine zw_istore (n := 39) d218_37 rfl rfl rfl ?_
      exact h
theorem vc218_39 {X : zX} {S : zx_S} {C : zx_C} {q : Int32 → zx_C → Prop} {e : Nat} {a1 : Int32} {a2 : Int32} {i1 : Int32} {i2 : Int32} {i3 : Int32} {i4 : Int32} {i5 : Int32} (hS : zs_5 S e) (h : if (i5 : Int32) < i2 then (if (0 : Int32) < i5 then (zCd X 0 178 [.ref e, .int i1, .int i5] S C (zQi (fun r1 C1 => zCd X 0 178 [.ref e, .int i1, .int (i5 - 1)] S C1 (zQi (fun r2 C2 => if (r1 : Int32) = r2 then (if (i4 : Int32) < (i3 + 1) then (zW X 1 218 39 [.ref e, .int i1, .int i2, .int (i3 + 1), .int (i3 + 1), .int (i5 + 1)] [] S C2 (zQi q)) else (zW X 1 218 39 [.ref e, .int i1, .int i2, .int (i3 + 1), .int i4, .int (i5 + 1)] [] S C2 (zQi q))) else (if (i4 : Int32) < 1 then (zW X 1 218 39 [.ref e, .int i1, .int i2, .int 1, .int 1, .int (i5 + 1)] [] S C2 (zQi q)) else (zW X 1 218 39 [.ref e, .int i1, .int i2, .int 1, .int i4, .int (i5 + 1)] [] S C2 (zQi q)))))))) else (if (i4 : Int32) < 1 then (zW X 1 218 39 [.ref e, .int i1, .int i2, .int 1, .int 1, .int (i5 + 1)] [] S C (zQi q)) else (zW X 1 218 39 [.ref e, .int i1, .int i2, .int 1, .int i4, .int (i5 + 1)] [] S C (zQi q)))) else (q i4 C)) : zW X 1 218 39 [.ref e, .int i1, .int i2, .int i3, .int i4, .int i5] [] S C (zQi q) := by
  refine zw_iload (n := 41) d218_39 rfl rfl ?_
  refine zw_iload_n (n := 42) d218_41 rfl rfl ?_
  refine zw_ic_ge (n := 45) d218_42 rfl (zite h (fun h => ?_) (fun h => ?_))
  · skip
    refine zw_iload (n := 47) d218_45 rfl rfl ?_
    refine zw_if_le (n := 50) d218_47 rfl (zite h (fun h => ?_) (fun h => ?_))
    · skip
      refine zw_aload_n (n := 51) d218_50 rfl rfl ?_
      refine zw_iload_n (n := 52) d218_51 rfl rfl ?_
      refine zw_iload (n := 54) d218_52 rfl rfl ?_
      refine zw_cI (n := 57) d218_54 (zs_V rfl rfl rfl rfl (by decide) (zj_5 hS).1 (zq_5 hS)) (by rw [ml_178]; rfl) (by decide) rfl (zc_mI h (fun r1 C1 h => ?_))
      refine zw_aload_n (n := 58) d218_57 rfl rfl ?_
      refine zw_iload_n (n := 59) d218_58 rfl rfl ?_
      refine zw_iload (n := 61) d218_59 rfl rfl ?_
      refine zw_iconst (n := 62) d218_61 rfl zk_i_1 ?_
      refine zw_isub (n := 63) d218_62 rfl ?_
      refine zw_cI (n := 66) d218_63 (zs_V rfl rfl rfl rfl (by decide) (zj_5 hS).1 (zq_5 hS)) (by rw [ml_178]; rfl) (by decide) rfl (zc_mI h (fun r2 C2 h => ?_))
      refine zw_ic_ne (n := 69) d218_66 rfl (zite h (fun h => ?_) (fun h => ?_))
      · skip
        refine zw_iload_n (n := 70) d218_69 rfl rfl ?_
        refine zw_iconst (n := 71) d218_70 rfl zk_i_1 ?_
        refine zw_iadd (n := 72) d218_71 rfl ?_
        refine zw_goto d218_72 ?_
        refine zw_istore_n (n := 77) d218_76 rfl rfl rfl ?_
        refine zw_iload_n (n := 78) d218_77 rfl rfl ?_
        refine zw_iload (n := 80) d218_78 rfl rfl ?_
        refine zw_ic_le (n := 83) d218_80 rfl (zite h (fun h => ?_) (fun h => ?_))
        · skip
          refine zw_iload_n (n := 84) d218_83 rfl rfl ?_
          refine zw_goto d218_84 ?_
          refine zw_istore (n := 91) d218_89 rfl rfl rfl ?_
          refine zw_iinc (n := 94) d218_91 rfl rfl zk_i_1 rfl ?_
          refine zw_goto d218_94 ?_
          exact h
        · skip
          refine zw_iload (n := 89) d218_87 rfl rfl ?_
          refine zw_istore (n := 91) d218_89 rfl rfl rfl ?_
          refine zw_iinc (n := 94) d218_91 rfl rfl zk_i_1 rfl ?_
          refine zw_goto d218_94 ?_
          exact h
      · skip
        refine zw_iconst (n := 76) d218_75 rfl zk_i_1 ?_
        refine zw_istore_n (n := 77) d218_76 rfl rfl rfl ?_
        refine zw_iload_n (n := 78) d218_77 rfl rfl ?_
        refine zw_iload (n := 80) d218_78 rfl rfl ?_
        refine zw_ic_le (n := 83) d218_80 rfl (zite h (fun h => ?_) (fun h => ?_))
        · skip
          refine zw_iload_n (n := 84) d218_83 rfl rfl ?_
          refine zw_goto d218_84 ?_
          refine zw_istore (n := 91) d218_89 rfl rfl rfl ?_
          refine zw_iinc (n := 94) d218_91 rfl rfl zk_i_1 rfl ?_
          refine zw_goto d218_94 ?_
          exact h
        · skip
          refine zw_iload (n := 89) d218_87 rfl rfl ?_
          refine zw_istore (n := 91) d218_89 rfl rfl rfl ?_
          refine zw_iinc (n := 94) d218_91 rfl rfl zk_i_1 rfl ?_
          refine zw_goto d218_94 ?_
          exact h
    · skip
      refine zw_iconst (n := 76) d218_75 rfl zk_i_1 ?_
      refine zw_istore_n (n := 77) d218_76 rfl rfl rfl ?_
      refine zw_iload_n (n := 78) d218_77 rfl rfl ?_
      refine zw_iload (n := 80) d218_78 rfl rfl ?_
      refine zw_ic_le (n := 83) d218_80 rfl (zite h (fun h => ?_) (fun h => ?_))
      · skip
        refine zw_iload_n (n := 84) d218_83 rfl rfl ?_
        refine zw_goto d218_84 ?_
        refine zw_istore (n := 91) d218_89 rfl rfl rfl ?_
        refine zw_iinc (n := 94) d218_91 rfl rfl zk_i_1 rfl ?_
        refine zw_goto d218_94 ?_
        exact h
      · skip
        refine zw_iload (n := 89) d218_87 rfl rfl ?_
        refine zw_istore (n := 91) d218_89 rfl rfl rfl ?_
        refine zw_iinc (n := 94) d218_91 rfl rfl zk_i_1 rfl ?_
        refine zw_goto d218_94 ?_
        exact h
  · skip
    refine zw_iload (n := 99) d218_97 rfl rfl ?_
    exact zw_iret d218_99 rfl ⟨_, rfl, h⟩

set_option maxRecDepth 20000 in
theorem zf219 (pc : Nat) : zt_code 219 pc = zt_fd zl_219 pc := rfl
theorem d219_0 : zt_code 219 0 = some (.iload_n 1, 0, 0, 0) := (zf219 0).trans rfl
theorem d219_1 : zt_code 219 1 = some (.i2l, 0, 0, 0) := (zf219 1).trans rfl
theorem d219_2 : zt_code 219 2 = some (.lconst 0, 0, 0, 0) := (zf219 2).trans rfl
theorem d219_3 : zt_code 219 3 = some (.ldc2_w 148, 0, 0, 3) := (zf219 3).trans rfl
theorem d219_6 : zt_code 219 6 = some (.invokestatic 94, 159, 3, -1) := (zf219 6).trans rfl
theorem d219_9 : zt_code 219 9 = some (.ifCond .eq (27), 0, 36, 0) := (zf219 9).trans rfl
theorem d219_12 : zt_code 219 12 = some (.iload_n 2, 0, 0, 0) := (zf219 12).trans rfl
theorem d219_13 : zt_code 219 13 = some (.i2l, 0, 0, 0) := (zf219 13).trans rfl
theorem d219_14 : zt_code 219 14 = some (.lconst 0, 0, 0, 0) := (zf219 14).trans rfl
theorem d219_15 : zt_code 219 15 = some (.ldc2_w 267, 0, 0, 1000) := (zf219 15).trans rfl
theorem d219_18 : zt_code 219 18 = some (.invokestatic 94, 159, 3, -1) := (zf219 18).trans rfl
theorem d219_21 : zt_code 219 21 = some (.ifCond .eq (15), 0, 36, 0) := (zf219 21).trans rfl
theorem d219_24 : zt_code 219 24 = some (.iload_n 3, 0, 0, 0) := (zf219 24).trans rfl
theorem d219_25 : zt_code 219 25 = some (.i2l, 0, 0, 0) := (zf219 25).trans rfl
theorem d219_26 : zt_code 219 26 = some (.lconst 0, 0, 0, 0) := (zf219 26).trans rfl
theorem d219_27 : zt_code 219 27 = some (.ldc2_w 148, 0, 0, 3) := (zf219 27).trans rfl
theorem d219_30 : zt_code 219 30 = some (.invokestatic 94, 159, 3, -1) := (zf219 30).trans rfl
theorem d219_33 : zt_code 219 33 = some (.ifCond .ne (14), 0, 47, 0) := (zf219 33).trans rfl
theorem d219_36 : zt_code 219 36 = some (.aload_n 0, 0, 0, 0) := (zf219 36).trans rfl
theorem d219_37 : zt_code 219 37 = some (.bipush (-2), 0, 0, 0) := (zf219 37).trans rfl
theorem d219_39 : zt_code 219 39 = some (.invokevirtual 107, 160, 2, 5) := (zf219 39).trans rfl
theorem d219_42 : zt_code 219 42 = some (.pop, 0, 0, 0) := (zf219 42).trans rfl
theorem d219_43 : zt_code 219 43 = some (.ldc2_w 269, 0, 0, -10000000000002) := (zf219 43).trans rfl
theorem d219_46 : zt_code 219 46 = some (.lreturn, 0, 0, 0) := (zf219 46).trans rfl
theorem d219_47 : zt_code 219 47 = some (.lconst 0, 0, 0, 0) := (zf219 47).trans rfl
theorem d219_48 : zt_code 219 48 = some (.lstore 4, 0, 0, 0) := (zf219 48).trans rfl
theorem d219_50 : zt_code 219 50 = some (.iconst (0), 0, 0, 0) := (zf219 50).trans rfl
theorem d219_51 : zt_code 219 51 = some (.istore 6, 0, 0, 0) := (zf219 51).trans rfl
theorem d219_53 : zt_code 219 53 = some (.iload 6, 0, 0, 0) := (zf219 53).trans rfl
theorem d219_55 : zt_code 219 55 = some (.iload_n 2, 0, 0, 0) := (zf219 55).trans rfl
theorem d219_56 : zt_code 219 56 = some (.if_icmp .ge (72), 0, 128, 0) := (zf219 56).trans rfl
theorem d219_59 : zt_code 219 59 = some (.lconst 1, 0, 0, 0) := (zf219 59).trans rfl
theorem d219_60 : zt_code 219 60 = some (.lstore 7, 0, 0, 0) := (zf219 60).trans rfl
theorem d219_62 : zt_code 219 62 = some (.iconst (0), 0, 0, 0) := (zf219 62).trans rfl
theorem d219_63 : zt_code 219 63 = some (.istore 9, 0, 0, 0) := (zf219 63).trans rfl
theorem d219_65 : zt_code 219 65 = some (.iload 9, 0, 0, 0) := (zf219 65).trans rfl
theorem d219_67 : zt_code 219 67 = some (.iload_n 3, 0, 0, 0) := (zf219 67).trans rfl
theorem d219_68 : zt_code 219 68 = some (.if_icmp .ge (17), 0, 85, 0) := (zf219 68).trans rfl
theorem d219_71 : zt_code 219 71 = some (.lload 7, 0, 0, 0) := (zf219 71).trans rfl
theorem d219_73 : zt_code 219 73 = some (.iload 6, 0, 0, 0) := (zf219 73).trans rfl
theorem d219_75 : zt_code 219 75 = some (.i2l, 0, 0, 0) := (zf219 75).trans rfl
theorem d219_76 : zt_code 219 76 = some (.lmul, 0, 0, 0) := (zf219 76).trans rfl
theorem d219_77 : zt_code 219 77 = some (.lstore 7, 0, 0, 0) := (zf219 77).trans rfl
theorem d219_79 : zt_code 219 79 = some (.iinc 9 (1), 0, 0, 0) := (zf219 79).trans rfl
theorem d219_82 : zt_code 219 82 = some (.goto (-17), 0, 65, 0) := (zf219 82).trans rfl
theorem d219_85 : zt_code 219 85 = some (.aload_n 0, 0, 0, 0) := (zf219 85).trans rfl
theorem d219_86 : zt_code 219 86 = some (.iload_n 1, 0, 0, 0) := (zf219 86).trans rfl
theorem d219_87 : zt_code 219 87 = some (.iload 6, 0, 0, 0) := (zf219 87).trans rfl
theorem d219_89 : zt_code 219 89 = some (.invokevirtual 262, 178, 3, 5) := (zf219 89).trans rfl
theorem d219_92 : zt_code 219 92 = some (.istore 9, 0, 0, 0) := (zf219 92).trans rfl
theorem d219_94 : zt_code 219 94 = some (.lload 4, 0, 0, 0) := (zf219 94).trans rfl
theorem d219_96 : zt_code 219 96 = some (.iload 9, 0, 0, 0) := (zf219 96).trans rfl
theorem d219_98 : zt_code 219 98 = some (.ifCond .ne (8), 0, 106, 0) := (zf219 98).trans rfl
theorem d219_101 : zt_code 219 101 = some (.lload 7, 0, 0, 0) := (zf219 101).trans rfl
theorem d219_103 : zt_code 219 103 = some (.goto (16), 0, 119, 0) := (zf219 103).trans rfl
theorem d219_106 : zt_code 219 106 = some (.iload 9, 0, 0, 0) := (zf219 106).trans rfl
theorem d219_108 : zt_code 219 108 = some (.iconst (1), 0, 0, 0) := (zf219 108).trans rfl
theorem d219_109 : zt_code 219 109 = some (.if_icmp .ne (9), 0, 118, 0) := (zf219 109).trans rfl
theorem d219_112 : zt_code 219 112 = some (.lload 7, 0, 0, 0) := (zf219 112).trans rfl
theorem d219_114 : zt_code 219 114 = some (.lneg, 0, 0, 0) := (zf219 114).trans rfl
theorem d219_115 : zt_code 219 115 = some (.goto (4), 0, 119, 0) := (zf219 115).trans rfl
theorem d219_118 : zt_code 219 118 = some (.lconst 0, 0, 0, 0) := (zf219 118).trans rfl
theorem d219_119 : zt_code 219 119 = some (.ladd, 0, 0, 0) := (zf219 119).trans rfl
theorem d219_120 : zt_code 219 120 = some (.lstore 4, 0, 0, 0) := (zf219 120).trans rfl
theorem d219_122 : zt_code 219 122 = some (.iinc 6 (1), 0, 0, 0) := (zf219 122).trans rfl
theorem d219_125 : zt_code 219 125 = some (.goto (-72), 0, 53, 0) := (zf219 125).trans rfl
theorem d219_128 : zt_code 219 128 = some (.lload 4, 0, 0, 0) := (zf219 128).trans rfl
theorem d219_130 : zt_code 219 130 = some (.lreturn, 0, 0, 0) := (zf219 130).trans rfl
/-- FirstAtTheFirstModel.powers(III)J -/
theorem vc219 {X : zX} {S : zx_S} {C : zx_C} {q : Int64 → zx_C → Prop} {e : Nat} {a1 : Int32} {a2 : Int32} {a3 : Int32} (hS : zs_5 S e) (h : zCd X 0 159 [.long (Int32.toInt64 a1), .long 0, .long 3] S C (zQi (fun r1 C1 => if (r1 : Int32) = 0 then (zCd X 0 160 [.ref e, .int (-2)] S C1 (zQi (fun r2 C2 => q (-10000000000002) C2))) else (zCd X 0 159 [.long (Int32.toInt64 a2), .long 0, .long 1000] S C1 (zQi (fun r3 C3 => if (r3 : Int32) = 0 then (zCd X 0 160 [.ref e, .int (-2)] S C3 (zQi (fun r4 C4 => q (-10000000000002) C4))) else (zCd X 0 159 [.long (Int32.toInt64 a3), .long 0, .long 3] S C3 (zQi (fun r5 C5 => if (r5 : Int32) = 0 then (zCd X 0 160 [.ref e, .int (-2)] S C5 (zQi (fun r6 C6 => q (-10000000000002) C6))) else (zW X 1 219 53 [.ref e, .int a1, .int a2, .int a3, .long 0, .retAddr 1, .int 0, .retAddr 0, .retAddr 0, .retAddr 0] [] S C5 (zQl q))))))))))) : zCd X 1 219 [.ref e, .int a1, .int a2, .int a3] S C (zQl q) := by
  refine zc_in ml_219 rfl ?_
  refine zw_iload_n (n := 1) d219_0 rfl rfl ?_
  refine zw_i2l (n := 2) d219_1 rfl ?_
  refine zw_lconst (n := 3) d219_2 rfl zk_c_0 ?_
  refine zw_ldc2 (n := 6) d219_3 rfl zk_l_3 ?_
  refine zw_cI (n := 9) d219_6 (zs_S rfl rfl rfl rfl) (by rw [ml_159]; rfl) (by decide) rfl (zc_mI h (fun r1 C1 h => ?_))
  refine zw_if_eq (n := 12) d219_9 rfl (zite h (fun h => ?_) (fun h => ?_))
  · skip
    refine zw_aload_n (n := 37) d219_36 rfl rfl ?_
    refine zw_bipush (n := 39) d219_37 rfl zk_b_m2 ?_
    refine zw_cI (n := 42) d219_39 (zs_V rfl rfl rfl rfl (by decide) (zj_5 hS).1 (zq_5 hS)) (by rw [ml_160]; rfl) (by decide) rfl (zc_mI h (fun r2 C2 h => ?_))
    refine zw_pop (n := 43) d219_42 rfl rfl ?_
    refine zw_ldc2 (n := 46) d219_43 rfl zk_l_m10000000000002 ?_
    exact zw_lret d219_46 ⟨_, rfl, h⟩
  · skip
    refine zw_iload_n (n := 13) d219_12 rfl rfl ?_
    refine zw_i2l (n := 14) d219_13 rfl ?_
    refine zw_lconst (n := 15) d219_14 rfl zk_c_0 ?_
    refine zw_ldc2 (n := 18) d219_15 rfl zk_l_1000 ?_
    refine zw_cI (n := 21) d219_18 (zs_S rfl rfl rfl rfl) (by rw [ml_159]; rfl) (by decide) rfl (zc_mI h (fun r3 C3 h => ?_))
    refine zw_if_eq (n := 24) d219_21 rfl (zite h (fun h => ?_) (fun h => ?_))
    · skip
      refine zw_aload_n (n := 37) d219_36 rfl rfl ?_
      refine zw_bipush (n := 39) d219_37 rfl zk_b_m2 ?_
      refine zw_cI (n := 42) d219_39 (zs_V rfl rfl rfl rfl (by decide) (zj_5 hS).1 (zq_5 hS)) (by rw [ml_160]; rfl) (by decide) rfl (zc_mI h (fun r4 C4 h => ?_))
      refine zw_pop (n := 43) d219_42 rfl rfl ?_
      refine zw_ldc2 (n := 46) d219_43 rfl zk_l_m10000000000002 ?_
      exact zw_lret d219_46 ⟨_, rfl, h⟩
    · skip
      refine zw_iload_n (n := 25) d219_24 rfl rfl ?_
      refine zw_i2l (n := 26) d219_25 rfl ?_
      refine zw_lconst (n := 27) d219_26 rfl zk_c_0 ?_
      refine zw_ldc2 (n := 30) d219_27 rfl zk_l_3 ?_
      refine zw_cI (n := 33) d219_30 (zs_S rfl rfl rfl rfl) (by rw [ml_159]; rfl) (by decide) rfl (zc_mI h (fun r5 C5 h => ?_))
      refine zw_if_ne (n := 36) d219_33 rfl (zite h (fun h => ?_) (fun h => ?_))
      · skip
        refine zw_aload_n (n := 37) d219_36 rfl rfl ?_
        refine zw_bipush (n := 39) d219_37 rfl zk_b_m2 ?_
        refine zw_cI (n := 42) d219_39 (zs_V rfl rfl rfl rfl (by decide) (zj_5 hS).1 (zq_5 hS)) (by rw [ml_160]; rfl) (by decide) rfl (zc_mI h (fun r6 C6 h => ?_))
        refine zw_pop (n := 43) d219_42 rfl rfl ?_
        refine zw_ldc2 (n := 46) d219_43 rfl zk_l_m10000000000002 ?_
        exact zw_lret d219_46 ⟨_, rfl, h⟩
      · skip
        refine zw_lconst (n := 48) d219_47 rfl zk_c_0 ?_
        refine zw_lstore (n := 50) d219_48 rfl rfl rfl ?_
        refine zw_iconst (n := 51) d219_50 rfl zk_i_0 ?_
        refine zw_istore (n := 53) d219_51 rfl rfl rfl ?_
        exact h
theorem vc219_53 {X : zX} {S : zx_S} {C : zx_C} {q : Int64 → zx_C → Prop} {e : Nat} {a1 : Int32} {a2 : Int32} {a3 : Int32} {i1 : Int32} {i2 : Int32} {i3 : Int32} {i4 : Int64} {i6 : Int32} {z7 : Value} {z8 : Value} {z9 : Value} (hS : zs_5 S e) (h : if (i6 : Int32) < i2 then (zW X 1 219 65 [.ref e, .int i1, .int i2, .int i3, .long i4, .retAddr 1, .int i6, .long 1, .retAddr 1, .int 0] [] S C (zQl q)) else (q i4 C)) : zW X 1 219 53 [.ref e, .int i1, .int i2, .int i3, .long i4, .retAddr 1, .int i6, z7, z8, z9] [] S C (zQl q) := by
  refine zw_iload (n := 55) d219_53 rfl rfl ?_
  refine zw_iload_n (n := 56) d219_55 rfl rfl ?_
  refine zw_ic_ge (n := 59) d219_56 rfl (zite h (fun h => ?_) (fun h => ?_))
  · skip
    refine zw_lconst (n := 60) d219_59 rfl zk_c_1 ?_
    refine zw_lstore (n := 62) d219_60 rfl rfl rfl ?_
    refine zw_iconst (n := 63) d219_62 rfl zk_i_0 ?_
    refine zw_istore (n := 65) d219_63 rfl rfl rfl ?_
    exact h
  · skip
    refine zw_lload (n := 130) d219_128 rfl rfl rfl ?_
    exact zw_lret d219_130 ⟨_, rfl, h⟩
theorem vc219_65 {X : zX} {S : zx_S} {C : zx_C} {q : Int64 → zx_C → Prop} {e : Nat} {a1 : Int32} {a2 : Int32} {a3 : Int32} {i1 : Int32} {i2 : Int32} {i3 : Int32} {i4 : Int64} {i6 : Int32} {i7 : Int64} {i9 : Int32} (hS : zs_5 S e) (h : if (i9 : Int32) < i3 then (zW X 1 219 65 [.ref e, .int i1, .int i2, .int i3, .long i4, .retAddr 1, .int i6, .long (i7 * (Int32.toInt64 i6)), .retAddr 1, .int (i9 + 1)] [] S C (zQl q)) else (zCd X 0 178 [.ref e, .int i1, .int i6] S C (zQi (fun r1 C1 => if (r1 : Int32) = 0 then (zW X 1 219 53 [.ref e, .int i1, .int i2, .int i3, .long (i4 + i7), .retAddr 1, .int (i6 + 1), .long i7, .retAddr 1, .int r1] [] S C1 (zQl q)) else (if (r1 : Int32) = 1 then (zW X 1 219 53 [.ref e, .int i1, .int i2, .int i3, .long (i4 + (-i7)), .retAddr 1, .int (i6 + 1), .long i7, .retAddr 1, .int r1] [] S C1 (zQl q)) else (zW X 1 219 53 [.ref e, .int i1, .int i2, .int i3, .long (i4 + 0), .retAddr 1, .int (i6 + 1), .long i7, .retAddr 1, .int r1] [] S C1 (zQl q))))))) : zW X 1 219 65 [.ref e, .int i1, .int i2, .int i3, .long i4, .retAddr 1, .int i6, .long i7, .retAddr 1, .int i9] [] S C (zQl q) := by
  refine zw_iload (n := 67) d219_65 rfl rfl ?_
  refine zw_iload_n (n := 68) d219_67 rfl rfl ?_
  refine zw_ic_ge (n := 71) d219_68 rfl (zite h (fun h => ?_) (fun h => ?_))
  · skip
    refine zw_lload (n := 73) d219_71 rfl rfl rfl ?_
    refine zw_iload (n := 75) d219_73 rfl rfl ?_
    refine zw_i2l (n := 76) d219_75 rfl ?_
    refine zw_lmul (n := 77) d219_76 rfl ?_
    refine zw_lstore (n := 79) d219_77 rfl rfl rfl ?_
    refine zw_iinc (n := 82) d219_79 rfl rfl zk_i_1 rfl ?_
    refine zw_goto d219_82 ?_
    exact h
  · skip
    refine zw_aload_n (n := 86) d219_85 rfl rfl ?_
    refine zw_iload_n (n := 87) d219_86 rfl rfl ?_
    refine zw_iload (n := 89) d219_87 rfl rfl ?_
    refine zw_cI (n := 92) d219_89 (zs_V rfl rfl rfl rfl (by decide) (zj_5 hS).1 (zq_5 hS)) (by rw [ml_178]; rfl) (by decide) rfl (zc_mI h (fun r1 C1 h => ?_))
    refine zw_istore (n := 94) d219_92 rfl rfl rfl ?_
    refine zw_lload (n := 96) d219_94 rfl rfl rfl ?_
    refine zw_iload (n := 98) d219_96 rfl rfl ?_
    refine zw_if_ne (n := 101) d219_98 rfl (zite h (fun h => ?_) (fun h => ?_))
    · skip
      refine zw_lload (n := 103) d219_101 rfl rfl rfl ?_
      refine zw_goto d219_103 ?_
      refine zw_ladd (n := 120) d219_119 rfl ?_
      refine zw_lstore (n := 122) d219_120 rfl rfl rfl ?_
      refine zw_iinc (n := 125) d219_122 rfl rfl zk_i_1 rfl ?_
      refine zw_goto d219_125 ?_
      exact h
    · skip
      refine zw_iload (n := 108) d219_106 rfl rfl ?_
      refine zw_iconst (n := 109) d219_108 rfl zk_i_1 ?_
      refine zw_ic_ne (n := 112) d219_109 rfl (zite h (fun h => ?_) (fun h => ?_))
      · skip
        refine zw_lload (n := 114) d219_112 rfl rfl rfl ?_
        refine zw_lneg (n := 115) d219_114 rfl ?_
        refine zw_goto d219_115 ?_
        refine zw_ladd (n := 120) d219_119 rfl ?_
        refine zw_lstore (n := 122) d219_120 rfl rfl rfl ?_
        refine zw_iinc (n := 125) d219_122 rfl rfl zk_i_1 rfl ?_
        refine zw_goto d219_125 ?_
        exact h
      · skip
        refine zw_lconst (n := 119) d219_118 rfl zk_c_0 ?_
        refine zw_ladd (n := 120) d219_119 rfl ?_
        refine zw_lstore (n := 122) d219_120 rfl rfl rfl ?_
        refine zw_iinc (n := 125) d219_122 rfl rfl zk_i_1 rfl ?_
        refine zw_goto d219_125 ?_
        exact h

set_option maxRecDepth 20000 in
theorem zf220 (pc : Nat) : zt_code 220 pc = zt_fd zl_220 pc := rfl
theorem d220_0 : zt_code 220 0 = some (.aload_n 0, 0, 0, 0) := (zf220 0).trans rfl
theorem d220_1 : zt_code 220 1 = some (.iload_n 1, 0, 0, 0) := (zf220 1).trans rfl
theorem d220_2 : zt_code 220 2 = some (.invokevirtual 118, 168, 2, 5) := (zf220 2).trans rfl
theorem d220_5 : zt_code 220 5 = some (.ifCond .ne (10), 0, 15, 0) := (zf220 5).trans rfl
theorem d220_8 : zt_code 220 8 = some (.aload_n 0, 0, 0, 0) := (zf220 8).trans rfl
theorem d220_9 : zt_code 220 9 = some (.bipush (-2), 0, 0, 0) := (zf220 9).trans rfl
theorem d220_11 : zt_code 220 11 = some (.invokevirtual 107, 160, 2, 5) := (zf220 11).trans rfl
theorem d220_14 : zt_code 220 14 = some (.ireturn, 0, 0, 0) := (zf220 14).trans rfl
theorem d220_15 : zt_code 220 15 = some (.aload_n 0, 0, 0, 0) := (zf220 15).trans rfl
theorem d220_16 : zt_code 220 16 = some (.aload_n 0, 0, 0, 0) := (zf220 16).trans rfl
theorem d220_17 : zt_code 220 17 = some (.getfield 128, 5, 14, 0) := (zf220 17).trans rfl
theorem d220_20 : zt_code 220 20 = some (.invokevirtual 131, 171, 2, 5) := (zf220 20).trans rfl
theorem d220_23 : zt_code 220 23 = some (.aload_n 0, 0, 0, 0) := (zf220 23).trans rfl
theorem d220_24 : zt_code 220 24 = some (.iload_n 1, 0, 0, 0) := (zf220 24).trans rfl
theorem d220_25 : zt_code 220 25 = some (.aload_n 0, 0, 0, 0) := (zf220 25).trans rfl
theorem d220_26 : zt_code 220 26 = some (.getfield 139, 5, 18, 0) := (zf220 26).trans rfl
theorem d220_29 : zt_code 220 29 = some (.invokevirtual 283, 179, 3, 5) := (zf220 29).trans rfl
theorem d220_32 : zt_code 220 32 = some (.ireturn, 0, 0, 0) := (zf220 32).trans rfl
/-- FirstAtTheFirstModel.rival(I)I -/
theorem vc220 {X : zX} {S : zx_S} {C : zx_C} {q : Int32 → zx_C → Prop} {e : Nat} {a1 : Int32} (hS : zs_5 S e) (h : zCd X 1 168 [.ref e, .int a1] S C (zQi (fun r1 C1 => if (r1 : Int32) = 0 then (zCd X 0 160 [.ref e, .int (-2)] S C1 (zQi (fun r2 C2 => q r2 C2))) else (zCd X 0 171 [.ref e, .int (C1.1 e 14)] S C1 (zQv (fun C3 => zCd X 2 179 [.ref e, .int a1, .int (C3.1 e 18)] S C3 (zQi (fun r4 C4 => q r4 C4)))))))) : zCd X 3 220 [.ref e, .int a1] S C (zQi q) := by
  refine zc_in ml_220 rfl ?_
  refine zw_aload_n (n := 1) d220_0 rfl rfl ?_
  refine zw_iload_n (n := 2) d220_1 rfl rfl ?_
  refine zw_cI (n := 5) d220_2 (zs_V rfl rfl rfl rfl (by decide) (zj_5 hS).1 (zq_5 hS)) (by rw [ml_168]; rfl) (by decide) rfl (zc_mI h (fun r1 C1 h => ?_))
  refine zw_if_ne (n := 8) d220_5 rfl (zite h (fun h => ?_) (fun h => ?_))
  · skip
    refine zw_aload_n (n := 9) d220_8 rfl rfl ?_
    refine zw_bipush (n := 11) d220_9 rfl zk_b_m2 ?_
    refine zw_cI (n := 14) d220_11 (zs_V rfl rfl rfl rfl (by decide) (zj_5 hS).1 (zq_5 hS)) (by rw [ml_160]; rfl) (by decide) rfl (zc_mI h (fun r2 C2 h => ?_))
    exact zw_iret d220_14 rfl ⟨_, rfl, h⟩
  · skip
    refine zw_aload_n (n := 16) d220_15 rfl rfl ?_
    refine zw_aload_n (n := 17) d220_16 rfl rfl ?_
    refine zw_geti (n := 20) d220_17 rfl (zj_5 hS).1 (zj_5 hS).2 ?_
    refine zw_cV (n := 23) d220_20 (zs_V rfl rfl rfl rfl (by decide) (zj_5 hS).1 (zq_5 hS)) (by rw [ml_171]; rfl) (by decide) rfl (zc_mV h (fun C3 h => ?_))
    refine zw_aload_n (n := 24) d220_23 rfl rfl ?_
    refine zw_iload_n (n := 25) d220_24 rfl rfl ?_
    refine zw_aload_n (n := 26) d220_25 rfl rfl ?_
    refine zw_geti (n := 29) d220_26 rfl (zj_5 hS).1 (zj_5 hS).2 ?_
    refine zw_cI (n := 32) d220_29 (zs_V rfl rfl rfl rfl (by decide) (zj_5 hS).1 (zq_5 hS)) (by rw [ml_179]; rfl) (by decide) rfl (zc_mI h (fun r4 C4 h => ?_))
    exact zw_iret d220_32 rfl ⟨_, rfl, h⟩

set_option maxRecDepth 20000 in
theorem zf221 (pc : Nat) : zt_code 221 pc = zt_fd zl_221 pc := rfl
theorem d221_0 : zt_code 221 0 = some (.aload_n 0, 0, 0, 0) := (zf221 0).trans rfl
theorem d221_1 : zt_code 221 1 = some (.iload_n 1, 0, 0, 0) := (zf221 1).trans rfl
theorem d221_2 : zt_code 221 2 = some (.invokevirtual 118, 168, 2, 5) := (zf221 2).trans rfl
theorem d221_5 : zt_code 221 5 = some (.ifCond .ne (10), 0, 15, 0) := (zf221 5).trans rfl
theorem d221_8 : zt_code 221 8 = some (.aload_n 0, 0, 0, 0) := (zf221 8).trans rfl
theorem d221_9 : zt_code 221 9 = some (.bipush (-2), 0, 0, 0) := (zf221 9).trans rfl
theorem d221_11 : zt_code 221 11 = some (.invokevirtual 107, 160, 2, 5) := (zf221 11).trans rfl
theorem d221_14 : zt_code 221 14 = some (.ireturn, 0, 0, 0) := (zf221 14).trans rfl
theorem d221_15 : zt_code 221 15 = some (.aload_n 0, 0, 0, 0) := (zf221 15).trans rfl
theorem d221_16 : zt_code 221 16 = some (.invokevirtual 135, 172, 1, 5) := (zf221 16).trans rfl
theorem d221_19 : zt_code 221 19 = some (.ifCond .ne (10), 0, 29, 0) := (zf221 19).trans rfl
theorem d221_22 : zt_code 221 22 = some (.aload_n 0, 0, 0, 0) := (zf221 22).trans rfl
theorem d221_23 : zt_code 221 23 = some (.bipush (-5), 0, 0, 0) := (zf221 23).trans rfl
theorem d221_25 : zt_code 221 25 = some (.invokevirtual 107, 160, 2, 5) := (zf221 25).trans rfl
theorem d221_28 : zt_code 221 28 = some (.ireturn, 0, 0, 0) := (zf221 28).trans rfl
theorem d221_29 : zt_code 221 29 = some (.aload_n 0, 0, 0, 0) := (zf221 29).trans rfl
theorem d221_30 : zt_code 221 30 = some (.aload_n 0, 0, 0, 0) := (zf221 30).trans rfl
theorem d221_31 : zt_code 221 31 = some (.getfield 128, 5, 14, 0) := (zf221 31).trans rfl
theorem d221_34 : zt_code 221 34 = some (.invokevirtual 131, 171, 2, 5) := (zf221 34).trans rfl
theorem d221_37 : zt_code 221 37 = some (.aload_n 0, 0, 0, 0) := (zf221 37).trans rfl
theorem d221_38 : zt_code 221 38 = some (.iload_n 1, 0, 0, 0) := (zf221 38).trans rfl
theorem d221_39 : zt_code 221 39 = some (.iload_n 1, 0, 0, 0) := (zf221 39).trans rfl
theorem d221_40 : zt_code 221 40 = some (.aload_n 0, 0, 0, 0) := (zf221 40).trans rfl
theorem d221_41 : zt_code 221 41 = some (.getfield 58, 5, 17, 1) := (zf221 41).trans rfl
theorem d221_44 : zt_code 221 44 = some (.iload_n 1, 0, 0, 0) := (zf221 44).trans rfl
theorem d221_45 : zt_code 221 45 = some (.iaload, 0, 0, 0) := (zf221 45).trans rfl
theorem d221_46 : zt_code 221 46 = some (.aload_n 0, 0, 0, 0) := (zf221 46).trans rfl
theorem d221_47 : zt_code 221 47 = some (.invokevirtual 135, 172, 1, 5) := (zf221 47).trans rfl
theorem d221_50 : zt_code 221 50 = some (.aload_n 0, 0, 0, 0) := (zf221 50).trans rfl
theorem d221_51 : zt_code 221 51 = some (.getfield 139, 5, 18, 0) := (zf221 51).trans rfl
theorem d221_54 : zt_code 221 54 = some (.invokevirtual 142, 173, 6, 5) := (zf221 54).trans rfl
theorem d221_57 : zt_code 221 57 = some (.ireturn, 0, 0, 0) := (zf221 57).trans rfl
/-- FirstAtTheFirstModel.takes(I)I -/
theorem vc221 {X : zX} {S : zx_S} {C : zx_C} {q : Int32 → zx_C → Prop} {e : Nat} {a1 : Int32} (hS : zs_5 S e) (h : zCd X 1 168 [.ref e, .int a1] S C (zQi (fun r1 C1 => if (r1 : Int32) = 0 then (zCd X 0 160 [.ref e, .int (-2)] S C1 (zQi (fun r2 C2 => q r2 C2))) else (zCd X 0 172 [.ref e] S C1 (zQi (fun r3 C3 => if (r3 : Int32) = 0 then (zCd X 0 160 [.ref e, .int (-5)] S C3 (zQi (fun r4 C4 => q r4 C4))) else (zCd X 0 171 [.ref e, .int (C3.1 e 14)] S C3 (zQv (fun C5 => vp_in a1 3 ∧ (zCd X 0 172 [.ref e] S C5 (zQi (fun r6 C6 => zCd X 32 173 [.ref e, .int a1, .int a1, .int (C5.1 (e + 29) (Int32.toNatClampNeg a1)), .int r6, .int (C6.1 e 18)] S C6 (zQi (fun r7 C7 => q r7 C7)))))))))))))) : zCd X 33 221 [.ref e, .int a1] S C (zQi q) := by
  refine zc_in ml_221 rfl ?_
  refine zw_aload_n (n := 1) d221_0 rfl rfl ?_
  refine zw_iload_n (n := 2) d221_1 rfl rfl ?_
  refine zw_cI (n := 5) d221_2 (zs_V rfl rfl rfl rfl (by decide) (zj_5 hS).1 (zq_5 hS)) (by rw [ml_168]; rfl) (by decide) rfl (zc_mI h (fun r1 C1 h => ?_))
  refine zw_if_ne (n := 8) d221_5 rfl (zite h (fun h => ?_) (fun h => ?_))
  · skip
    refine zw_aload_n (n := 9) d221_8 rfl rfl ?_
    refine zw_bipush (n := 11) d221_9 rfl zk_b_m2 ?_
    refine zw_cI (n := 14) d221_11 (zs_V rfl rfl rfl rfl (by decide) (zj_5 hS).1 (zq_5 hS)) (by rw [ml_160]; rfl) (by decide) rfl (zc_mI h (fun r2 C2 h => ?_))
    exact zw_iret d221_14 rfl ⟨_, rfl, h⟩
  · skip
    refine zw_aload_n (n := 16) d221_15 rfl rfl ?_
    refine zw_cI (n := 19) d221_16 (zs_V rfl rfl rfl rfl (by decide) (zj_5 hS).1 (zq_5 hS)) (by rw [ml_172]; rfl) (by decide) rfl (zc_mI h (fun r3 C3 h => ?_))
    refine zw_if_ne (n := 22) d221_19 rfl (zite h (fun h => ?_) (fun h => ?_))
    · skip
      refine zw_aload_n (n := 23) d221_22 rfl rfl ?_
      refine zw_bipush (n := 25) d221_23 rfl zk_b_m5 ?_
      refine zw_cI (n := 28) d221_25 (zs_V rfl rfl rfl rfl (by decide) (zj_5 hS).1 (zq_5 hS)) (by rw [ml_160]; rfl) (by decide) rfl (zc_mI h (fun r4 C4 h => ?_))
      exact zw_iret d221_28 rfl ⟨_, rfl, h⟩
    · skip
      refine zw_aload_n (n := 30) d221_29 rfl rfl ?_
      refine zw_aload_n (n := 31) d221_30 rfl rfl ?_
      refine zw_geti (n := 34) d221_31 rfl (zj_5 hS).1 (zj_5 hS).2 ?_
      refine zw_cV (n := 37) d221_34 (zs_V rfl rfl rfl rfl (by decide) (zj_5 hS).1 (zq_5 hS)) (by rw [ml_171]; rfl) (by decide) rfl (zc_mV h (fun C5 h => ?_))
      refine zw_aload_n (n := 38) d221_37 rfl rfl ?_
      refine zw_iload_n (n := 39) d221_38 rfl rfl ?_
      refine zw_iload_n (n := 40) d221_39 rfl rfl ?_
      refine zw_aload_n (n := 41) d221_40 rfl rfl ?_
      refine zw_getr (n := 44) d221_41 rfl (zj_5 hS).1 (zj_5 hS).2 (zr_5_17 hS) ?_
      refine zw_iload_n (n := 45) d221_44 rfl rfl ?_
      obtain ⟨hi, h⟩ := h
      refine zw_iald (n := 46) d221_45 rfl (za_5_17 hS).1 (za_5_17 hS).2 hi ?_
      refine zw_aload_n (n := 47) d221_46 rfl rfl ?_
      refine zw_cI (n := 50) d221_47 (zs_V rfl rfl rfl rfl (by decide) (zj_5 hS).1 (zq_5 hS)) (by rw [ml_172]; rfl) (by decide) rfl (zc_mI h (fun r6 C6 h => ?_))
      refine zw_aload_n (n := 51) d221_50 rfl rfl ?_
      refine zw_geti (n := 54) d221_51 rfl (zj_5 hS).1 (zj_5 hS).2 ?_
      refine zw_cI (n := 57) d221_54 (zs_V rfl rfl rfl rfl (by decide) (zj_5 hS).1 (zq_5 hS)) (by rw [ml_173]; rfl) (by decide) rfl (zc_mI h (fun r7 C7 h => ?_))
      exact zw_iret d221_57 rfl ⟨_, rfl, h⟩

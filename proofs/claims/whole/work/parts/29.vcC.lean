set_option maxRecDepth 20000 in
theorem zf222 (pc : Nat) : zt_code 222 pc = zt_fd zl_222 pc := rfl
theorem d222_0 : zt_code 222 0 = some (.iload_n 1, 0, 0, 0) := (zf222 0).trans rfl
theorem d222_1 : zt_code 222 1 = some (.i2l, 0, 0, 0) := (zf222 1).trans rfl
theorem d222_2 : zt_code 222 2 = some (.lconst 0, 0, 0, 0) := (zf222 2).trans rfl
theorem d222_3 : zt_code 222 3 = some (.ldc2_w 148, 0, 0, 3) := (zf222 3).trans rfl
theorem d222_6 : zt_code 222 6 = some (.invokestatic 94, 159, 3, -1) := (zf222 6).trans rfl
theorem d222_9 : zt_code 222 9 = some (.ifCond .eq (7), 0, 16, 0) := (zf222 9).trans rfl
theorem d222_12 : zt_code 222 12 = some (.iload_n 2, 0, 0, 0) := (zf222 12).trans rfl
theorem d222_13 : zt_code 222 13 = some (.ifCond .ge (10), 0, 23, 0) := (zf222 13).trans rfl
theorem d222_16 : zt_code 222 16 = some (.aload_n 0, 0, 0, 0) := (zf222 16).trans rfl
theorem d222_17 : zt_code 222 17 = some (.bipush (-2), 0, 0, 0) := (zf222 17).trans rfl
theorem d222_19 : zt_code 222 19 = some (.invokevirtual 107, 160, 2, 5) := (zf222 19).trans rfl
theorem d222_22 : zt_code 222 22 = some (.ireturn, 0, 0, 0) := (zf222 22).trans rfl
theorem d222_23 : zt_code 222 23 = some (.iload_n 2, 0, 0, 0) := (zf222 23).trans rfl
theorem d222_24 : zt_code 222 24 = some (.aload_n 0, 0, 0, 0) := (zf222 24).trans rfl
theorem d222_25 : zt_code 222 25 = some (.invokevirtual 135, 172, 1, 5) := (zf222 25).trans rfl
theorem d222_28 : zt_code 222 28 = some (.invokestatic 300, 183, 1, -1) := (zf222 28).trans rfl
theorem d222_31 : zt_code 222 31 = some (.if_icmp .lt (10), 0, 41, 0) := (zf222 31).trans rfl
theorem d222_34 : zt_code 222 34 = some (.aload_n 0, 0, 0, 0) := (zf222 34).trans rfl
theorem d222_35 : zt_code 222 35 = some (.bipush (-5), 0, 0, 0) := (zf222 35).trans rfl
theorem d222_37 : zt_code 222 37 = some (.invokevirtual 107, 160, 2, 5) := (zf222 37).trans rfl
theorem d222_40 : zt_code 222 40 = some (.ireturn, 0, 0, 0) := (zf222 40).trans rfl
theorem d222_41 : zt_code 222 41 = some (.aload_n 0, 0, 0, 0) := (zf222 41).trans rfl
theorem d222_42 : zt_code 222 42 = some (.iload_n 1, 0, 0, 0) := (zf222 42).trans rfl
theorem d222_43 : zt_code 222 43 = some (.invokevirtual 315, 223, 2, 5) := (zf222 43).trans rfl
theorem d222_46 : zt_code 222 46 = some (.aload_n 0, 0, 0, 0) := (zf222 46).trans rfl
theorem d222_47 : zt_code 222 47 = some (.getfield 76, 5, 35, 1) := (zf222 47).trans rfl
theorem d222_50 : zt_code 222 50 = some (.iload_n 2, 0, 0, 0) := (zf222 50).trans rfl
theorem d222_51 : zt_code 222 51 = some (.iaload, 0, 0, 0) := (zf222 51).trans rfl
theorem d222_52 : zt_code 222 52 = some (.ireturn, 0, 0, 0) := (zf222 52).trans rfl
/-- FirstAtTheFirstModel.run(II)I -/
theorem vc222 {X : zX} {S : zx_S} {C : zx_C} {q : Int32 → zx_C → Prop} {e : Nat} {a1 : Int32} {a2 : Int32} (hS : zs_5 S e) (h : zCd X 0 159 [.long (Int32.toInt64 a1), .long 0, .long 3] S C (zQi (fun r1 C1 => if (r1 : Int32) = 0 then (zCd X 0 160 [.ref e, .int (-2)] S C1 (zQi (fun r2 C2 => q r2 C2))) else (if (a2 : Int32) < 0 then (zCd X 0 160 [.ref e, .int (-2)] S C1 (zQi (fun r3 C3 => q r3 C3))) else (zCd X 0 172 [.ref e] S C1 (zQi (fun r4 C4 => zCd X 0 183 [.int r4] S C4 (zQi (fun r5 C5 => if (a2 : Int32) < r5 then (zCd X 34 223 [.ref e, .int a1] S C5 (zQv (fun C6 => vp_in a2 8 ∧ (q (C6.1 (e + 33) (Int32.toNatClampNeg a2)) C6)))) else (zCd X 0 160 [.ref e, .int (-5)] S C5 (zQi (fun r7 C7 => q r7 C7)))))))))))) : zCd X 35 222 [.ref e, .int a1, .int a2] S C (zQi q) := by
  refine zc_in ml_222 rfl ?_
  refine zw_iload_n (n := 1) d222_0 rfl rfl ?_
  refine zw_i2l (n := 2) d222_1 rfl ?_
  refine zw_lconst (n := 3) d222_2 rfl zk_c_0 ?_
  refine zw_ldc2 (n := 6) d222_3 rfl zk_l_3 ?_
  refine zw_cI (n := 9) d222_6 (zs_S rfl rfl rfl rfl) (by rw [ml_159]; rfl) (by decide) rfl (zc_mI h (fun r1 C1 h => ?_))
  refine zw_if_eq (n := 12) d222_9 rfl (zite h (fun h => ?_) (fun h => ?_))
  · skip
    refine zw_aload_n (n := 17) d222_16 rfl rfl ?_
    refine zw_bipush (n := 19) d222_17 rfl zk_b_m2 ?_
    refine zw_cI (n := 22) d222_19 (zs_V rfl rfl rfl rfl (by decide) (zj_5 hS).1 (zq_5 hS)) (by rw [ml_160]; rfl) (by decide) rfl (zc_mI h (fun r2 C2 h => ?_))
    exact zw_iret d222_22 rfl ⟨_, rfl, h⟩
  · skip
    refine zw_iload_n (n := 13) d222_12 rfl rfl ?_
    refine zw_if_ge (n := 16) d222_13 rfl (zite h (fun h => ?_) (fun h => ?_))
    · skip
      refine zw_aload_n (n := 17) d222_16 rfl rfl ?_
      refine zw_bipush (n := 19) d222_17 rfl zk_b_m2 ?_
      refine zw_cI (n := 22) d222_19 (zs_V rfl rfl rfl rfl (by decide) (zj_5 hS).1 (zq_5 hS)) (by rw [ml_160]; rfl) (by decide) rfl (zc_mI h (fun r3 C3 h => ?_))
      exact zw_iret d222_22 rfl ⟨_, rfl, h⟩
    · skip
      refine zw_iload_n (n := 24) d222_23 rfl rfl ?_
      refine zw_aload_n (n := 25) d222_24 rfl rfl ?_
      refine zw_cI (n := 28) d222_25 (zs_V rfl rfl rfl rfl (by decide) (zj_5 hS).1 (zq_5 hS)) (by rw [ml_172]; rfl) (by decide) rfl (zc_mI h (fun r4 C4 h => ?_))
      refine zw_cI (n := 31) d222_28 (zs_S rfl rfl rfl rfl) (by rw [ml_183]; rfl) (by decide) rfl (zc_mI h (fun r5 C5 h => ?_))
      refine zw_ic_lt (n := 34) d222_31 rfl (zite h (fun h => ?_) (fun h => ?_))
      · skip
        refine zw_aload_n (n := 42) d222_41 rfl rfl ?_
        refine zw_iload_n (n := 43) d222_42 rfl rfl ?_
        refine zw_cV (n := 46) d222_43 (zs_V rfl rfl rfl rfl (by decide) (zj_5 hS).1 (zq_5 hS)) (by rw [ml_223]; rfl) (by decide) rfl (zc_mV h (fun C6 h => ?_))
        refine zw_aload_n (n := 47) d222_46 rfl rfl ?_
        refine zw_getr (n := 50) d222_47 rfl (zj_5 hS).1 (zj_5 hS).2 (zr_5_35 hS) ?_
        refine zw_iload_n (n := 51) d222_50 rfl rfl ?_
        obtain ⟨hi, h⟩ := h
        refine zw_iald (n := 52) d222_51 rfl (za_5_35 hS).1 (za_5_35 hS).2 hi ?_
        exact zw_iret d222_52 rfl ⟨_, rfl, h⟩
      · skip
        refine zw_aload_n (n := 35) d222_34 rfl rfl ?_
        refine zw_bipush (n := 37) d222_35 rfl zk_b_m5 ?_
        refine zw_cI (n := 40) d222_37 (zs_V rfl rfl rfl rfl (by decide) (zj_5 hS).1 (zq_5 hS)) (by rw [ml_160]; rfl) (by decide) rfl (zc_mI h (fun r7 C7 h => ?_))
        exact zw_iret d222_40 rfl ⟨_, rfl, h⟩

set_option maxRecDepth 20000 in
theorem zf223 (pc : Nat) : zt_code 223 pc = zt_fd zl_223 pc := rfl
theorem d223_0 : zt_code 223 0 = some (.aload_n 0, 0, 0, 0) := (zf223 0).trans rfl
theorem d223_1 : zt_code 223 1 = some (.iload_n 1, 0, 0, 0) := (zf223 1).trans rfl
theorem d223_2 : zt_code 223 2 = some (.invokevirtual 131, 171, 2, 5) := (zf223 2).trans rfl
theorem d223_5 : zt_code 223 5 = some (.aload_n 0, 0, 0, 0) := (zf223 5).trans rfl
theorem d223_6 : zt_code 223 6 = some (.invokevirtual 312, 224, 1, 5) := (zf223 6).trans rfl
theorem d223_9 : zt_code 223 9 = some (.return_, 0, 0, 0) := (zf223 9).trans rfl
/-- FirstAtTheFirstModel.runBy(I)V -/
theorem vc223 {X : zX} {S : zx_S} {C : zx_C} {q : zx_C → Prop} {e : Nat} {a1 : Int32} (hS : zs_5 S e) (h : zCd X 0 171 [.ref e, .int a1] S C (zQv (fun C1 => zCd X 33 224 [.ref e] S C1 (zQv (fun C2 => q C2))))) : zCd X 34 223 [.ref e, .int a1] S C (zQv q) := by
  refine zc_in ml_223 rfl ?_
  refine zw_aload_n (n := 1) d223_0 rfl rfl ?_
  refine zw_iload_n (n := 2) d223_1 rfl rfl ?_
  refine zw_cV (n := 5) d223_2 (zs_V rfl rfl rfl rfl (by decide) (zj_5 hS).1 (zq_5 hS)) (by rw [ml_171]; rfl) (by decide) rfl (zc_mV h (fun C1 h => ?_))
  refine zw_aload_n (n := 6) d223_5 rfl rfl ?_
  refine zw_cV (n := 9) d223_6 (zs_V rfl rfl rfl rfl (by decide) (zj_5 hS).1 (zq_5 hS)) (by rw [ml_224]; rfl) (by decide) rfl (zc_mV h (fun C2 h => ?_))
  exact zw_ret d223_9 ⟨rfl, h⟩

set_option maxRecDepth 20000 in
theorem zf224 (pc : Nat) : zt_code 224 pc = zt_fd zl_224 pc := rfl
theorem d224_0 : zt_code 224 0 = some (.iconst (0), 0, 0, 0) := (zf224 0).trans rfl
theorem d224_1 : zt_code 224 1 = some (.istore_n 1, 0, 0, 0) := (zf224 1).trans rfl
theorem d224_2 : zt_code 224 2 = some (.iload_n 1, 0, 0, 0) := (zf224 2).trans rfl
theorem d224_3 : zt_code 224 3 = some (.aload_n 0, 0, 0, 0) := (zf224 3).trans rfl
theorem d224_4 : zt_code 224 4 = some (.getfield 40, 5, 10, 0) := (zf224 4).trans rfl
theorem d224_7 : zt_code 224 7 = some (.if_icmp .ge (25), 0, 32, 0) := (zf224 7).trans rfl
theorem d224_10 : zt_code 224 10 = some (.aload_n 0, 0, 0, 0) := (zf224 10).trans rfl
theorem d224_11 : zt_code 224 11 = some (.getfield 79, 5, 37, 1) := (zf224 11).trans rfl
theorem d224_14 : zt_code 224 14 = some (.iload_n 1, 0, 0, 0) := (zf224 14).trans rfl
theorem d224_15 : zt_code 224 15 = some (.aload_n 0, 0, 0, 0) := (zf224 15).trans rfl
theorem d224_16 : zt_code 224 16 = some (.iload_n 1, 0, 0, 0) := (zf224 16).trans rfl
theorem d224_17 : zt_code 224 17 = some (.aload_n 0, 0, 0, 0) := (zf224 17).trans rfl
theorem d224_18 : zt_code 224 18 = some (.iload_n 1, 0, 0, 0) := (zf224 18).trans rfl
theorem d224_19 : zt_code 224 19 = some (.invokevirtual 255, 215, 2, 5) := (zf224 19).trans rfl
theorem d224_22 : zt_code 224 22 = some (.invokevirtual 258, 216, 3, 5) := (zf224 22).trans rfl
theorem d224_25 : zt_code 224 25 = some (.iastore, 0, 0, 0) := (zf224 25).trans rfl
theorem d224_26 : zt_code 224 26 = some (.iinc 1 (1), 0, 0, 0) := (zf224 26).trans rfl
theorem d224_29 : zt_code 224 29 = some (.goto (-27), 0, 2, 0) := (zf224 29).trans rfl
theorem d224_32 : zt_code 224 32 = some (.aload_n 0, 0, 0, 0) := (zf224 32).trans rfl
theorem d224_33 : zt_code 224 33 = some (.iconst (0), 0, 0, 0) := (zf224 33).trans rfl
theorem d224_34 : zt_code 224 34 = some (.putfield 309, 5, 36, 0) := (zf224 34).trans rfl
theorem d224_37 : zt_code 224 37 = some (.aload_n 0, 0, 0, 0) := (zf224 37).trans rfl
theorem d224_38 : zt_code 224 38 = some (.invokevirtual 135, 172, 1, 5) := (zf224 38).trans rfl
theorem d224_41 : zt_code 224 41 = some (.istore_n 1, 0, 0, 0) := (zf224 41).trans rfl
theorem d224_42 : zt_code 224 42 = some (.iload_n 1, 0, 0, 0) := (zf224 42).trans rfl
theorem d224_43 : zt_code 224 43 = some (.ifCond .eq (85), 0, 128, 0) := (zf224 43).trans rfl
theorem d224_46 : zt_code 224 46 = some (.aload_n 0, 0, 0, 0) := (zf224 46).trans rfl
theorem d224_47 : zt_code 224 47 = some (.aload_n 0, 0, 0, 0) := (zf224 47).trans rfl
theorem d224_48 : zt_code 224 48 = some (.getfield 139, 5, 18, 0) := (zf224 48).trans rfl
theorem d224_51 : zt_code 224 51 = some (.aload_n 0, 0, 0, 0) := (zf224 51).trans rfl
theorem d224_52 : zt_code 224 52 = some (.getfield 309, 5, 36, 0) := (zf224 52).trans rfl
theorem d224_55 : zt_code 224 55 = some (.iadd, 0, 0, 0) := (zf224 55).trans rfl
theorem d224_56 : zt_code 224 56 = some (.invokevirtual 280, 177, 2, 5) := (zf224 56).trans rfl
theorem d224_59 : zt_code 224 59 = some (.istore_n 2, 0, 0, 0) := (zf224 59).trans rfl
theorem d224_60 : zt_code 224 60 = some (.aload_n 0, 0, 0, 0) := (zf224 60).trans rfl
theorem d224_61 : zt_code 224 61 = some (.iload_n 2, 0, 0, 0) := (zf224 61).trans rfl
theorem d224_62 : zt_code 224 62 = some (.iload_n 2, 0, 0, 0) := (zf224 62).trans rfl
theorem d224_63 : zt_code 224 63 = some (.aload_n 0, 0, 0, 0) := (zf224 63).trans rfl
theorem d224_64 : zt_code 224 64 = some (.getfield 58, 5, 17, 1) := (zf224 64).trans rfl
theorem d224_67 : zt_code 224 67 = some (.iload_n 2, 0, 0, 0) := (zf224 67).trans rfl
theorem d224_68 : zt_code 224 68 = some (.iaload, 0, 0, 0) := (zf224 68).trans rfl
theorem d224_69 : zt_code 224 69 = some (.iload_n 1, 0, 0, 0) := (zf224 69).trans rfl
theorem d224_70 : zt_code 224 70 = some (.aload_n 0, 0, 0, 0) := (zf224 70).trans rfl
theorem d224_71 : zt_code 224 71 = some (.getfield 139, 5, 18, 0) := (zf224 71).trans rfl
theorem d224_74 : zt_code 224 74 = some (.aload_n 0, 0, 0, 0) := (zf224 74).trans rfl
theorem d224_75 : zt_code 224 75 = some (.getfield 309, 5, 36, 0) := (zf224 75).trans rfl
theorem d224_78 : zt_code 224 78 = some (.iadd, 0, 0, 0) := (zf224 78).trans rfl
theorem d224_79 : zt_code 224 79 = some (.invokevirtual 142, 173, 6, 5) := (zf224 79).trans rfl
theorem d224_82 : zt_code 224 82 = some (.istore_n 3, 0, 0, 0) := (zf224 82).trans rfl
theorem d224_83 : zt_code 224 83 = some (.aload_n 0, 0, 0, 0) := (zf224 83).trans rfl
theorem d224_84 : zt_code 224 84 = some (.getfield 76, 5, 35, 1) := (zf224 84).trans rfl
theorem d224_87 : zt_code 224 87 = some (.aload_n 0, 0, 0, 0) := (zf224 87).trans rfl
theorem d224_88 : zt_code 224 88 = some (.dup, 0, 0, 0) := (zf224 88).trans rfl
theorem d224_89 : zt_code 224 89 = some (.getfield 309, 5, 36, 0) := (zf224 89).trans rfl
theorem d224_92 : zt_code 224 92 = some (.dup_x1, 0, 0, 0) := (zf224 92).trans rfl
theorem d224_93 : zt_code 224 93 = some (.iconst (1), 0, 0, 0) := (zf224 93).trans rfl
theorem d224_94 : zt_code 224 94 = some (.iadd, 0, 0, 0) := (zf224 94).trans rfl
theorem d224_95 : zt_code 224 95 = some (.putfield 309, 5, 36, 0) := (zf224 95).trans rfl
theorem d224_98 : zt_code 224 98 = some (.iload_n 3, 0, 0, 0) := (zf224 98).trans rfl
theorem d224_99 : zt_code 224 99 = some (.iastore, 0, 0, 0) := (zf224 99).trans rfl
theorem d224_100 : zt_code 224 100 = some (.aload_n 0, 0, 0, 0) := (zf224 100).trans rfl
theorem d224_101 : zt_code 224 101 = some (.getfield 79, 5, 37, 1) := (zf224 101).trans rfl
theorem d224_104 : zt_code 224 104 = some (.iload_n 2, 0, 0, 0) := (zf224 104).trans rfl
theorem d224_105 : zt_code 224 105 = some (.dup2, 0, 0, 0) := (zf224 105).trans rfl
theorem d224_106 : zt_code 224 106 = some (.iaload, 0, 0, 0) := (zf224 106).trans rfl
theorem d224_107 : zt_code 224 107 = some (.aload_n 0, 0, 0, 0) := (zf224 107).trans rfl
theorem d224_108 : zt_code 224 108 = some (.getfield 46, 5, 12, 1) := (zf224 108).trans rfl
theorem d224_111 : zt_code 224 111 = some (.iload_n 3, 0, 0, 0) := (zf224 111).trans rfl
theorem d224_112 : zt_code 224 112 = some (.aaload, 0, 0, 0) := (zf224 112).trans rfl
theorem d224_113 : zt_code 224 113 = some (.iload_n 2, 0, 0, 0) := (zf224 113).trans rfl
theorem d224_114 : zt_code 224 114 = some (.iaload, 0, 0, 0) := (zf224 114).trans rfl
theorem d224_115 : zt_code 224 115 = some (.iadd, 0, 0, 0) := (zf224 115).trans rfl
theorem d224_116 : zt_code 224 116 = some (.iastore, 0, 0, 0) := (zf224 116).trans rfl
theorem d224_117 : zt_code 224 117 = some (.iload_n 1, 0, 0, 0) := (zf224 117).trans rfl
theorem d224_118 : zt_code 224 118 = some (.iconst (1), 0, 0, 0) := (zf224 118).trans rfl
theorem d224_119 : zt_code 224 119 = some (.iload_n 3, 0, 0, 0) := (zf224 119).trans rfl
theorem d224_120 : zt_code 224 120 = some (.ishl, 0, 0, 0) := (zf224 120).trans rfl
theorem d224_121 : zt_code 224 121 = some (.iconst (-1), 0, 0, 0) := (zf224 121).trans rfl
theorem d224_122 : zt_code 224 122 = some (.ixor, 0, 0, 0) := (zf224 122).trans rfl
theorem d224_123 : zt_code 224 123 = some (.iand, 0, 0, 0) := (zf224 123).trans rfl
theorem d224_124 : zt_code 224 124 = some (.istore_n 1, 0, 0, 0) := (zf224 124).trans rfl
theorem d224_125 : zt_code 224 125 = some (.goto (-83), 0, 42, 0) := (zf224 125).trans rfl
theorem d224_128 : zt_code 224 128 = some (.return_, 0, 0, 0) := (zf224 128).trans rfl
/-- FirstAtTheFirstModel.goesRun()V -/
theorem vc224 {X : zX} {S : zx_S} {C : zx_C} {q : zx_C → Prop} {e : Nat} (hS : zs_5 S e) (h : zW X 33 224 2 [.ref e, .int 0, .retAddr 0, .retAddr 0] [] S C (zQv q)) : zCd X 33 224 [.ref e] S C (zQv q) := by
  refine zc_in ml_224 rfl ?_
  refine zw_iconst (n := 1) d224_0 rfl zk_i_0 ?_
  refine zw_istore_n (n := 2) d224_1 rfl rfl rfl ?_
  exact h
theorem vc224_2 {X : zX} {S : zx_S} {C : zx_C} {q : zx_C → Prop} {e : Nat} {i1 : Int32} {z2 : Value} {z3 : Value} (hS : zs_5 S e) (h : if (i1 : Int32) < (C.1 e 10) then (zCd X 0 215 [.ref e, .int i1] S C (zQi (fun r1 C1 => zCd X 1 216 [.ref e, .int i1, .int r1] S C1 (zQi (fun r2 C2 => vp_in i1 3 ∧ (zW X 33 224 2 [.ref e, .int (i1 + 1), z2, z3] [] S (zp C2 (e + 34) (Int32.toNatClampNeg i1) r2) (zQv q))))))) else (zCd X 0 172 [.ref e] S (zp C e 36 0) (zQi (fun r3 C3 => zW X 33 224 42 [.ref e, .int r3, z2, z3] [] S C3 (zQv q))))) : zW X 33 224 2 [.ref e, .int i1, z2, z3] [] S C (zQv q) := by
  refine zw_iload_n (n := 3) d224_2 rfl rfl ?_
  refine zw_aload_n (n := 4) d224_3 rfl rfl ?_
  refine zw_geti (n := 7) d224_4 rfl (zj_5 hS).1 (zj_5 hS).2 ?_
  refine zw_ic_ge (n := 10) d224_7 rfl (zite h (fun h => ?_) (fun h => ?_))
  · skip
    refine zw_aload_n (n := 11) d224_10 rfl rfl ?_
    refine zw_getr (n := 14) d224_11 rfl (zj_5 hS).1 (zj_5 hS).2 (zr_5_37 hS) ?_
    refine zw_iload_n (n := 15) d224_14 rfl rfl ?_
    refine zw_aload_n (n := 16) d224_15 rfl rfl ?_
    refine zw_iload_n (n := 17) d224_16 rfl rfl ?_
    refine zw_aload_n (n := 18) d224_17 rfl rfl ?_
    refine zw_iload_n (n := 19) d224_18 rfl rfl ?_
    refine zw_cI (n := 22) d224_19 (zs_V rfl rfl rfl rfl (by decide) (zj_5 hS).1 (zq_5 hS)) (by rw [ml_215]; rfl) (by decide) rfl (zc_mI h (fun r1 C1 h => ?_))
    refine zw_cI (n := 25) d224_22 (zs_V rfl rfl rfl rfl (by decide) (zj_5 hS).1 (zq_5 hS)) (by rw [ml_216]; rfl) (by decide) rfl (zc_mI h (fun r2 C2 h => ?_))
    obtain ⟨hi, h⟩ := h
    refine zw_iast (n := 26) d224_25 rfl (za_5_37 hS).1 (za_5_37 hS).2 hi ?_
    refine zw_iinc (n := 29) d224_26 rfl rfl zk_i_1 rfl ?_
    refine zw_goto d224_29 ?_
    exact h
  · skip
    refine zw_aload_n (n := 33) d224_32 rfl rfl ?_
    refine zw_iconst (n := 34) d224_33 rfl zk_i_0 ?_
    refine zw_puti (n := 37) d224_34 rfl (zj_5 hS).1 (zj_5 hS).2 ?_
    refine zw_aload_n (n := 38) d224_37 rfl rfl ?_
    refine zw_cI (n := 41) d224_38 (zs_V rfl rfl rfl rfl (by decide) (zj_5 hS).1 (zq_5 hS)) (by rw [ml_172]; rfl) (by decide) rfl (zc_mI h (fun r3 C3 h => ?_))
    refine zw_istore_n (n := 42) d224_41 rfl rfl rfl ?_
    exact h
theorem vc224_42 {X : zX} {S : zx_S} {C : zx_C} {q : zx_C → Prop} {e : Nat} {i1 : Int32} {z2 : Value} {z3 : Value} (hS : zs_5 S e) (h : if (i1 : Int32) = 0 then (q C) else (zCd X 1 177 [.ref e, .int ((C.1 e 18) + (C.1 e 36))] S C (zQi (fun r1 C1 => vp_in r1 3 ∧ (zCd X 32 173 [.ref e, .int r1, .int r1, .int (C1.1 (e + 29) (Int32.toNatClampNeg r1)), .int i1, .int ((C1.1 e 18) + (C1.1 e 36))] S C1 (zQi (fun r2 C2 => vp_in (C2.1 e 36) 8 ∧ (vp_in r1 3 ∧ (vp_in r2 8 ∧ (vp_in r1 3 ∧ (vp_in r1 3 ∧ (zW X 33 224 42 [.ref e, .int (i1 &&& ((1 <<< (r2 &&& 31)) ^^^ (-1))), .int r1, .int r2] [] S (zp (zp (zp C2 e 36 ((C2.1 e 36) + 1)) (e + 33) (Int32.toNatClampNeg (C2.1 e 36)) r2) (e + 34) (Int32.toNatClampNeg r1) (((Prod.fst (zp (zp C2 e 36 ((C2.1 e 36) + 1)) (e + 33) (Int32.toNatClampNeg (C2.1 e 36)) r2)) (e + 34) (Int32.toNatClampNeg r1)) + ((Prod.fst (zp (zp C2 e 36 ((C2.1 e 36) + 1)) (e + 33) (Int32.toNatClampNeg (C2.1 e 36)) r2)) ((e + 19) + Int32.toNatClampNeg r2) (Int32.toNatClampNeg r1)))) (zQv q))))))))))))) : zW X 33 224 42 [.ref e, .int i1, z2, z3] [] S C (zQv q) := by
  refine zw_iload_n (n := 43) d224_42 rfl rfl ?_
  refine zw_if_eq (n := 46) d224_43 rfl (zite h (fun h => ?_) (fun h => ?_))
  · skip
    exact zw_ret d224_128 ⟨rfl, h⟩
  · skip
    refine zw_aload_n (n := 47) d224_46 rfl rfl ?_
    refine zw_aload_n (n := 48) d224_47 rfl rfl ?_
    refine zw_geti (n := 51) d224_48 rfl (zj_5 hS).1 (zj_5 hS).2 ?_
    refine zw_aload_n (n := 52) d224_51 rfl rfl ?_
    refine zw_geti (n := 55) d224_52 rfl (zj_5 hS).1 (zj_5 hS).2 ?_
    refine zw_iadd (n := 56) d224_55 rfl ?_
    refine zw_cI (n := 59) d224_56 (zs_V rfl rfl rfl rfl (by decide) (zj_5 hS).1 (zq_5 hS)) (by rw [ml_177]; rfl) (by decide) rfl (zc_mI h (fun r1 C1 h => ?_))
    refine zw_istore_n (n := 60) d224_59 rfl rfl rfl ?_
    refine zw_aload_n (n := 61) d224_60 rfl rfl ?_
    refine zw_iload_n (n := 62) d224_61 rfl rfl ?_
    refine zw_iload_n (n := 63) d224_62 rfl rfl ?_
    refine zw_aload_n (n := 64) d224_63 rfl rfl ?_
    refine zw_getr (n := 67) d224_64 rfl (zj_5 hS).1 (zj_5 hS).2 (zr_5_17 hS) ?_
    refine zw_iload_n (n := 68) d224_67 rfl rfl ?_
    obtain ⟨hi, h⟩ := h
    refine zw_iald (n := 69) d224_68 rfl (za_5_17 hS).1 (za_5_17 hS).2 hi ?_
    refine zw_iload_n (n := 70) d224_69 rfl rfl ?_
    refine zw_aload_n (n := 71) d224_70 rfl rfl ?_
    refine zw_geti (n := 74) d224_71 rfl (zj_5 hS).1 (zj_5 hS).2 ?_
    refine zw_aload_n (n := 75) d224_74 rfl rfl ?_
    refine zw_geti (n := 78) d224_75 rfl (zj_5 hS).1 (zj_5 hS).2 ?_
    refine zw_iadd (n := 79) d224_78 rfl ?_
    refine zw_cI (n := 82) d224_79 (zs_V rfl rfl rfl rfl (by decide) (zj_5 hS).1 (zq_5 hS)) (by rw [ml_173]; rfl) (by decide) rfl (zc_mI h (fun r2 C2 h => ?_))
    refine zw_istore_n (n := 83) d224_82 rfl rfl rfl ?_
    refine zw_aload_n (n := 84) d224_83 rfl rfl ?_
    refine zw_getr (n := 87) d224_84 rfl (zj_5 hS).1 (zj_5 hS).2 (zr_5_35 hS) ?_
    refine zw_aload_n (n := 88) d224_87 rfl rfl ?_
    refine zw_dup (n := 89) d224_88 rfl rfl ?_
    refine zw_geti (n := 92) d224_89 rfl (zj_5 hS).1 (zj_5 hS).2 ?_
    refine zw_dup_x1 (n := 93) d224_92 rfl rfl rfl ?_
    refine zw_iconst (n := 94) d224_93 rfl zk_i_1 ?_
    refine zw_iadd (n := 95) d224_94 rfl ?_
    refine zw_puti (n := 98) d224_95 rfl (zj_5 hS).1 (zj_5 hS).2 ?_
    refine zw_iload_n (n := 99) d224_98 rfl rfl ?_
    obtain ⟨hi, h⟩ := h
    refine zw_iast (n := 100) d224_99 rfl (za_5_35 hS).1 (za_5_35 hS).2 hi ?_
    refine zw_aload_n (n := 101) d224_100 rfl rfl ?_
    refine zw_getr (n := 104) d224_101 rfl (zj_5 hS).1 (zj_5 hS).2 (zr_5_37 hS) ?_
    refine zw_iload_n (n := 105) d224_104 rfl rfl ?_
    refine zw_dup2 (n := 106) d224_105 rfl rfl rfl ?_
    obtain ⟨hi, h⟩ := h
    refine zw_iald (n := 107) d224_106 rfl (za_5_37 hS).1 (za_5_37 hS).2 hi ?_
    refine zw_aload_n (n := 108) d224_107 rfl rfl ?_
    refine zw_getr (n := 111) d224_108 rfl (zj_5 hS).1 (zj_5 hS).2 (zr_5_12 hS) ?_
    refine zw_iload_n (n := 112) d224_111 rfl rfl ?_
    obtain ⟨hi, h⟩ := h
    have hb3 := zb_5_12 hS (vp_lt hi)
    refine zw_aald (n := 113) d224_112 rfl (za_5_12 hS).1 (za_5_12 hS).2 (by decide) hi hb3.1 ?_
    refine zw_iload_n (n := 114) d224_113 rfl rfl ?_
    obtain ⟨hi, h⟩ := h
    refine zw_iald (n := 115) d224_114 rfl hb3.2.1 hb3.2.2 hi ?_
    refine zw_iadd (n := 116) d224_115 rfl ?_
    obtain ⟨hi, h⟩ := h
    refine zw_iast (n := 117) d224_116 rfl (za_5_37 hS).1 (za_5_37 hS).2 hi ?_
    refine zw_iload_n (n := 118) d224_117 rfl rfl ?_
    refine zw_iconst (n := 119) d224_118 rfl zk_i_1 ?_
    refine zw_iload_n (n := 120) d224_119 rfl rfl ?_
    refine zw_ishl (n := 121) d224_120 rfl ?_
    refine zw_iconst (n := 122) d224_121 rfl zk_i_m1 ?_
    refine zw_ixor (n := 123) d224_122 rfl ?_
    refine zw_iand (n := 124) d224_123 rfl ?_
    refine zw_istore_n (n := 125) d224_124 rfl rfl rfl ?_
    refine zw_goto d224_125 ?_
    exact h

set_option maxRecDepth 20000 in
theorem zf225 (pc : Nat) : zt_code 225 pc = zt_fd zl_225 pc := rfl
theorem d225_0 : zt_code 225 0 = some (.iload_n 1, 0, 0, 0) := (zf225 0).trans rfl
theorem d225_1 : zt_code 225 1 = some (.i2l, 0, 0, 0) := (zf225 1).trans rfl
theorem d225_2 : zt_code 225 2 = some (.lconst 0, 0, 0, 0) := (zf225 2).trans rfl
theorem d225_3 : zt_code 225 3 = some (.ldc2_w 148, 0, 0, 3) := (zf225 3).trans rfl
theorem d225_6 : zt_code 225 6 = some (.invokestatic 94, 159, 3, -1) := (zf225 6).trans rfl
theorem d225_9 : zt_code 225 9 = some (.ifCond .eq (11), 0, 20, 0) := (zf225 9).trans rfl
theorem d225_12 : zt_code 225 12 = some (.aload_n 0, 0, 0, 0) := (zf225 12).trans rfl
theorem d225_13 : zt_code 225 13 = some (.iload_n 2, 0, 0, 0) := (zf225 13).trans rfl
theorem d225_14 : zt_code 225 14 = some (.invokevirtual 118, 168, 2, 5) := (zf225 14).trans rfl
theorem d225_17 : zt_code 225 17 = some (.ifCond .ne (10), 0, 27, 0) := (zf225 17).trans rfl
theorem d225_20 : zt_code 225 20 = some (.aload_n 0, 0, 0, 0) := (zf225 20).trans rfl
theorem d225_21 : zt_code 225 21 = some (.bipush (-2), 0, 0, 0) := (zf225 21).trans rfl
theorem d225_23 : zt_code 225 23 = some (.invokevirtual 107, 160, 2, 5) := (zf225 23).trans rfl
theorem d225_26 : zt_code 225 26 = some (.ireturn, 0, 0, 0) := (zf225 26).trans rfl
theorem d225_27 : zt_code 225 27 = some (.aload_n 0, 0, 0, 0) := (zf225 27).trans rfl
theorem d225_28 : zt_code 225 28 = some (.iload_n 1, 0, 0, 0) := (zf225 28).trans rfl
theorem d225_29 : zt_code 225 29 = some (.invokevirtual 315, 223, 2, 5) := (zf225 29).trans rfl
theorem d225_32 : zt_code 225 32 = some (.aload_n 0, 0, 0, 0) := (zf225 32).trans rfl
theorem d225_33 : zt_code 225 33 = some (.getfield 79, 5, 37, 1) := (zf225 33).trans rfl
theorem d225_36 : zt_code 225 36 = some (.iload_n 2, 0, 0, 0) := (zf225 36).trans rfl
theorem d225_37 : zt_code 225 37 = some (.iaload, 0, 0, 0) := (zf225 37).trans rfl
theorem d225_38 : zt_code 225 38 = some (.ireturn, 0, 0, 0) := (zf225 38).trans rfl
/-- FirstAtTheFirstModel.gets(II)I -/
theorem vc225 {X : zX} {S : zx_S} {C : zx_C} {q : Int32 → zx_C → Prop} {e : Nat} {a1 : Int32} {a2 : Int32} (hS : zs_5 S e) (h : zCd X 0 159 [.long (Int32.toInt64 a1), .long 0, .long 3] S C (zQi (fun r1 C1 => if (r1 : Int32) = 0 then (zCd X 0 160 [.ref e, .int (-2)] S C1 (zQi (fun r2 C2 => q r2 C2))) else (zCd X 1 168 [.ref e, .int a2] S C1 (zQi (fun r3 C3 => if (r3 : Int32) = 0 then (zCd X 0 160 [.ref e, .int (-2)] S C3 (zQi (fun r4 C4 => q r4 C4))) else (zCd X 34 223 [.ref e, .int a1] S C3 (zQv (fun C5 => vp_in a2 3 ∧ (q (C5.1 (e + 34) (Int32.toNatClampNeg a2)) C5)))))))))) : zCd X 35 225 [.ref e, .int a1, .int a2] S C (zQi q) := by
  refine zc_in ml_225 rfl ?_
  refine zw_iload_n (n := 1) d225_0 rfl rfl ?_
  refine zw_i2l (n := 2) d225_1 rfl ?_
  refine zw_lconst (n := 3) d225_2 rfl zk_c_0 ?_
  refine zw_ldc2 (n := 6) d225_3 rfl zk_l_3 ?_
  refine zw_cI (n := 9) d225_6 (zs_S rfl rfl rfl rfl) (by rw [ml_159]; rfl) (by decide) rfl (zc_mI h (fun r1 C1 h => ?_))
  refine zw_if_eq (n := 12) d225_9 rfl (zite h (fun h => ?_) (fun h => ?_))
  · skip
    refine zw_aload_n (n := 21) d225_20 rfl rfl ?_
    refine zw_bipush (n := 23) d225_21 rfl zk_b_m2 ?_
    refine zw_cI (n := 26) d225_23 (zs_V rfl rfl rfl rfl (by decide) (zj_5 hS).1 (zq_5 hS)) (by rw [ml_160]; rfl) (by decide) rfl (zc_mI h (fun r2 C2 h => ?_))
    exact zw_iret d225_26 rfl ⟨_, rfl, h⟩
  · skip
    refine zw_aload_n (n := 13) d225_12 rfl rfl ?_
    refine zw_iload_n (n := 14) d225_13 rfl rfl ?_
    refine zw_cI (n := 17) d225_14 (zs_V rfl rfl rfl rfl (by decide) (zj_5 hS).1 (zq_5 hS)) (by rw [ml_168]; rfl) (by decide) rfl (zc_mI h (fun r3 C3 h => ?_))
    refine zw_if_ne (n := 20) d225_17 rfl (zite h (fun h => ?_) (fun h => ?_))
    · skip
      refine zw_aload_n (n := 21) d225_20 rfl rfl ?_
      refine zw_bipush (n := 23) d225_21 rfl zk_b_m2 ?_
      refine zw_cI (n := 26) d225_23 (zs_V rfl rfl rfl rfl (by decide) (zj_5 hS).1 (zq_5 hS)) (by rw [ml_160]; rfl) (by decide) rfl (zc_mI h (fun r4 C4 h => ?_))
      exact zw_iret d225_26 rfl ⟨_, rfl, h⟩
    · skip
      refine zw_aload_n (n := 28) d225_27 rfl rfl ?_
      refine zw_iload_n (n := 29) d225_28 rfl rfl ?_
      refine zw_cV (n := 32) d225_29 (zs_V rfl rfl rfl rfl (by decide) (zj_5 hS).1 (zq_5 hS)) (by rw [ml_223]; rfl) (by decide) rfl (zc_mV h (fun C5 h => ?_))
      refine zw_aload_n (n := 33) d225_32 rfl rfl ?_
      refine zw_getr (n := 36) d225_33 rfl (zj_5 hS).1 (zj_5 hS).2 (zr_5_37 hS) ?_
      refine zw_iload_n (n := 37) d225_36 rfl rfl ?_
      obtain ⟨hi, h⟩ := h
      refine zw_iald (n := 38) d225_37 rfl (za_5_37 hS).1 (za_5_37 hS).2 hi ?_
      exact zw_iret d225_38 rfl ⟨_, rfl, h⟩

set_option maxRecDepth 20000 in
theorem zf226 (pc : Nat) : zt_code 226 pc = zt_fd zl_226 pc := rfl
theorem d226_0 : zt_code 226 0 = some (.iload_n 1, 0, 0, 0) := (zf226 0).trans rfl
theorem d226_1 : zt_code 226 1 = some (.i2l, 0, 0, 0) := (zf226 1).trans rfl
theorem d226_2 : zt_code 226 2 = some (.lconst 0, 0, 0, 0) := (zf226 2).trans rfl
theorem d226_3 : zt_code 226 3 = some (.ldc2_w 148, 0, 0, 3) := (zf226 3).trans rfl
theorem d226_6 : zt_code 226 6 = some (.invokestatic 94, 159, 3, -1) := (zf226 6).trans rfl
theorem d226_9 : zt_code 226 9 = some (.ifCond .ne (10), 0, 19, 0) := (zf226 9).trans rfl
theorem d226_12 : zt_code 226 12 = some (.aload_n 0, 0, 0, 0) := (zf226 12).trans rfl
theorem d226_13 : zt_code 226 13 = some (.bipush (-2), 0, 0, 0) := (zf226 13).trans rfl
theorem d226_15 : zt_code 226 15 = some (.invokevirtual 107, 160, 2, 5) := (zf226 15).trans rfl
theorem d226_18 : zt_code 226 18 = some (.ireturn, 0, 0, 0) := (zf226 18).trans rfl
theorem d226_19 : zt_code 226 19 = some (.aload_n 0, 0, 0, 0) := (zf226 19).trans rfl
theorem d226_20 : zt_code 226 20 = some (.iload_n 1, 0, 0, 0) := (zf226 20).trans rfl
theorem d226_21 : zt_code 226 21 = some (.invokevirtual 315, 223, 2, 5) := (zf226 21).trans rfl
theorem d226_24 : zt_code 226 24 = some (.aload_n 0, 0, 0, 0) := (zf226 24).trans rfl
theorem d226_25 : zt_code 226 25 = some (.invokevirtual 318, 227, 1, 5) := (zf226 25).trans rfl
theorem d226_28 : zt_code 226 28 = some (.ireturn, 0, 0, 0) := (zf226 28).trans rfl
/-- FirstAtTheFirstModel.unequal(I)I -/
theorem vc226 {X : zX} {S : zx_S} {C : zx_C} {q : Int32 → zx_C → Prop} {e : Nat} {a1 : Int32} (hS : zs_5 S e) (h : zCd X 0 159 [.long (Int32.toInt64 a1), .long 0, .long 3] S C (zQi (fun r1 C1 => if (r1 : Int32) = 0 then (zCd X 0 160 [.ref e, .int (-2)] S C1 (zQi (fun r2 C2 => q r2 C2))) else (zCd X 34 223 [.ref e, .int a1] S C1 (zQv (fun C3 => zCd X 0 227 [.ref e] S C3 (zQi (fun r4 C4 => q r4 C4)))))))) : zCd X 35 226 [.ref e, .int a1] S C (zQi q) := by
  refine zc_in ml_226 rfl ?_
  refine zw_iload_n (n := 1) d226_0 rfl rfl ?_
  refine zw_i2l (n := 2) d226_1 rfl ?_
  refine zw_lconst (n := 3) d226_2 rfl zk_c_0 ?_
  refine zw_ldc2 (n := 6) d226_3 rfl zk_l_3 ?_
  refine zw_cI (n := 9) d226_6 (zs_S rfl rfl rfl rfl) (by rw [ml_159]; rfl) (by decide) rfl (zc_mI h (fun r1 C1 h => ?_))
  refine zw_if_ne (n := 12) d226_9 rfl (zite h (fun h => ?_) (fun h => ?_))
  · skip
    refine zw_aload_n (n := 13) d226_12 rfl rfl ?_
    refine zw_bipush (n := 15) d226_13 rfl zk_b_m2 ?_
    refine zw_cI (n := 18) d226_15 (zs_V rfl rfl rfl rfl (by decide) (zj_5 hS).1 (zq_5 hS)) (by rw [ml_160]; rfl) (by decide) rfl (zc_mI h (fun r2 C2 h => ?_))
    exact zw_iret d226_18 rfl ⟨_, rfl, h⟩
  · skip
    refine zw_aload_n (n := 20) d226_19 rfl rfl ?_
    refine zw_iload_n (n := 21) d226_20 rfl rfl ?_
    refine zw_cV (n := 24) d226_21 (zs_V rfl rfl rfl rfl (by decide) (zj_5 hS).1 (zq_5 hS)) (by rw [ml_223]; rfl) (by decide) rfl (zc_mV h (fun C3 h => ?_))
    refine zw_aload_n (n := 25) d226_24 rfl rfl ?_
    refine zw_cI (n := 28) d226_25 (zs_V rfl rfl rfl rfl (by decide) (zj_5 hS).1 (zq_5 hS)) (by rw [ml_227]; rfl) (by decide) rfl (zc_mI h (fun r4 C4 h => ?_))
    exact zw_iret d226_28 rfl ⟨_, rfl, h⟩

set_option maxRecDepth 20000 in
theorem zf227 (pc : Nat) : zt_code 227 pc = zt_fd zl_227 pc := rfl
theorem d227_0 : zt_code 227 0 = some (.aload_n 0, 0, 0, 0) := (zf227 0).trans rfl
theorem d227_1 : zt_code 227 1 = some (.getfield 79, 5, 37, 1) := (zf227 1).trans rfl
theorem d227_4 : zt_code 227 4 = some (.iconst (0), 0, 0, 0) := (zf227 4).trans rfl
theorem d227_5 : zt_code 227 5 = some (.iaload, 0, 0, 0) := (zf227 5).trans rfl
theorem d227_6 : zt_code 227 6 = some (.istore_n 1, 0, 0, 0) := (zf227 6).trans rfl
theorem d227_7 : zt_code 227 7 = some (.aload_n 0, 0, 0, 0) := (zf227 7).trans rfl
theorem d227_8 : zt_code 227 8 = some (.getfield 79, 5, 37, 1) := (zf227 8).trans rfl
theorem d227_11 : zt_code 227 11 = some (.iconst (0), 0, 0, 0) := (zf227 11).trans rfl
theorem d227_12 : zt_code 227 12 = some (.iaload, 0, 0, 0) := (zf227 12).trans rfl
theorem d227_13 : zt_code 227 13 = some (.istore_n 2, 0, 0, 0) := (zf227 13).trans rfl
theorem d227_14 : zt_code 227 14 = some (.iconst (1), 0, 0, 0) := (zf227 14).trans rfl
theorem d227_15 : zt_code 227 15 = some (.istore_n 3, 0, 0, 0) := (zf227 15).trans rfl
theorem d227_16 : zt_code 227 16 = some (.iload_n 3, 0, 0, 0) := (zf227 16).trans rfl
theorem d227_17 : zt_code 227 17 = some (.aload_n 0, 0, 0, 0) := (zf227 17).trans rfl
theorem d227_18 : zt_code 227 18 = some (.getfield 40, 5, 10, 0) := (zf227 18).trans rfl
theorem d227_21 : zt_code 227 21 = some (.if_icmp .ge (51), 0, 72, 0) := (zf227 21).trans rfl
theorem d227_24 : zt_code 227 24 = some (.aload_n 0, 0, 0, 0) := (zf227 24).trans rfl
theorem d227_25 : zt_code 227 25 = some (.getfield 79, 5, 37, 1) := (zf227 25).trans rfl
theorem d227_28 : zt_code 227 28 = some (.iload_n 3, 0, 0, 0) := (zf227 28).trans rfl
theorem d227_29 : zt_code 227 29 = some (.iaload, 0, 0, 0) := (zf227 29).trans rfl
theorem d227_30 : zt_code 227 30 = some (.iload_n 1, 0, 0, 0) := (zf227 30).trans rfl
theorem d227_31 : zt_code 227 31 = some (.if_icmp .ge (12), 0, 43, 0) := (zf227 31).trans rfl
theorem d227_34 : zt_code 227 34 = some (.aload_n 0, 0, 0, 0) := (zf227 34).trans rfl
theorem d227_35 : zt_code 227 35 = some (.getfield 79, 5, 37, 1) := (zf227 35).trans rfl
theorem d227_38 : zt_code 227 38 = some (.iload_n 3, 0, 0, 0) := (zf227 38).trans rfl
theorem d227_39 : zt_code 227 39 = some (.iaload, 0, 0, 0) := (zf227 39).trans rfl
theorem d227_40 : zt_code 227 40 = some (.goto (4), 0, 44, 0) := (zf227 40).trans rfl
theorem d227_43 : zt_code 227 43 = some (.iload_n 1, 0, 0, 0) := (zf227 43).trans rfl
theorem d227_44 : zt_code 227 44 = some (.istore_n 1, 0, 0, 0) := (zf227 44).trans rfl
theorem d227_45 : zt_code 227 45 = some (.aload_n 0, 0, 0, 0) := (zf227 45).trans rfl
theorem d227_46 : zt_code 227 46 = some (.getfield 79, 5, 37, 1) := (zf227 46).trans rfl
theorem d227_49 : zt_code 227 49 = some (.iload_n 3, 0, 0, 0) := (zf227 49).trans rfl
theorem d227_50 : zt_code 227 50 = some (.iaload, 0, 0, 0) := (zf227 50).trans rfl
theorem d227_51 : zt_code 227 51 = some (.iload_n 2, 0, 0, 0) := (zf227 51).trans rfl
theorem d227_52 : zt_code 227 52 = some (.if_icmp .le (12), 0, 64, 0) := (zf227 52).trans rfl
theorem d227_55 : zt_code 227 55 = some (.aload_n 0, 0, 0, 0) := (zf227 55).trans rfl
theorem d227_56 : zt_code 227 56 = some (.getfield 79, 5, 37, 1) := (zf227 56).trans rfl
theorem d227_59 : zt_code 227 59 = some (.iload_n 3, 0, 0, 0) := (zf227 59).trans rfl
theorem d227_60 : zt_code 227 60 = some (.iaload, 0, 0, 0) := (zf227 60).trans rfl
theorem d227_61 : zt_code 227 61 = some (.goto (4), 0, 65, 0) := (zf227 61).trans rfl
theorem d227_64 : zt_code 227 64 = some (.iload_n 2, 0, 0, 0) := (zf227 64).trans rfl
theorem d227_65 : zt_code 227 65 = some (.istore_n 2, 0, 0, 0) := (zf227 65).trans rfl
theorem d227_66 : zt_code 227 66 = some (.iinc 3 (1), 0, 0, 0) := (zf227 66).trans rfl
theorem d227_69 : zt_code 227 69 = some (.goto (-53), 0, 16, 0) := (zf227 69).trans rfl
theorem d227_72 : zt_code 227 72 = some (.iload_n 2, 0, 0, 0) := (zf227 72).trans rfl
theorem d227_73 : zt_code 227 73 = some (.iload_n 1, 0, 0, 0) := (zf227 73).trans rfl
theorem d227_74 : zt_code 227 74 = some (.isub, 0, 0, 0) := (zf227 74).trans rfl
theorem d227_75 : zt_code 227 75 = some (.ireturn, 0, 0, 0) := (zf227 75).trans rfl
/-- FirstAtTheFirstModel.unequalNow()I -/
theorem vc227 {X : zX} {S : zx_S} {C : zx_C} {q : Int32 → zx_C → Prop} {e : Nat} (hS : zs_5 S e) (h : vp_in 0 3 ∧ (vp_in 0 3 ∧ (zW X 0 227 16 [.ref e, .int (C.1 (e + 34) (Int32.toNatClampNeg 0)), .int (C.1 (e + 34) (Int32.toNatClampNeg 0)), .int 1] [] S C (zQi q)))) : zCd X 0 227 [.ref e] S C (zQi q) := by
  refine zc_in ml_227 rfl ?_
  refine zw_aload_n (n := 1) d227_0 rfl rfl ?_
  refine zw_getr (n := 4) d227_1 rfl (zj_5 hS).1 (zj_5 hS).2 (zr_5_37 hS) ?_
  refine zw_iconst (n := 5) d227_4 rfl zk_i_0 ?_
  obtain ⟨hi, h⟩ := h
  refine zw_iald (n := 6) d227_5 rfl (za_5_37 hS).1 (za_5_37 hS).2 hi ?_
  refine zw_istore_n (n := 7) d227_6 rfl rfl rfl ?_
  refine zw_aload_n (n := 8) d227_7 rfl rfl ?_
  refine zw_getr (n := 11) d227_8 rfl (zj_5 hS).1 (zj_5 hS).2 (zr_5_37 hS) ?_
  refine zw_iconst (n := 12) d227_11 rfl zk_i_0 ?_
  obtain ⟨hi, h⟩ := h
  refine zw_iald (n := 13) d227_12 rfl (za_5_37 hS).1 (za_5_37 hS).2 hi ?_
  refine zw_istore_n (n := 14) d227_13 rfl rfl rfl ?_
  refine zw_iconst (n := 15) d227_14 rfl zk_i_1 ?_
  refine zw_istore_n (n := 16) d227_15 rfl rfl rfl ?_
  exact h
theorem vc227_16 {X : zX} {S : zx_S} {C : zx_C} {q : Int32 → zx_C → Prop} {e : Nat} {i1 : Int32} {i2 : Int32} {i3 : Int32} (hS : zs_5 S e) (h : if (i3 : Int32) < (C.1 e 10) then (vp_in i3 3 ∧ (if ((C.1 (e + 34) (Int32.toNatClampNeg i3)) : Int32) < i1 then (vp_in i3 3 ∧ (vp_in i3 3 ∧ (if (i2 : Int32) < (C.1 (e + 34) (Int32.toNatClampNeg i3)) then (vp_in i3 3 ∧ (zW X 0 227 16 [.ref e, .int (C.1 (e + 34) (Int32.toNatClampNeg i3)), .int (C.1 (e + 34) (Int32.toNatClampNeg i3)), .int (i3 + 1)] [] S C (zQi q))) else (zW X 0 227 16 [.ref e, .int (C.1 (e + 34) (Int32.toNatClampNeg i3)), .int i2, .int (i3 + 1)] [] S C (zQi q))))) else (vp_in i3 3 ∧ (if (i2 : Int32) < (C.1 (e + 34) (Int32.toNatClampNeg i3)) then (vp_in i3 3 ∧ (zW X 0 227 16 [.ref e, .int i1, .int (C.1 (e + 34) (Int32.toNatClampNeg i3)), .int (i3 + 1)] [] S C (zQi q))) else (zW X 0 227 16 [.ref e, .int i1, .int i2, .int (i3 + 1)] [] S C (zQi q)))))) else (q (i2 - i1) C)) : zW X 0 227 16 [.ref e, .int i1, .int i2, .int i3] [] S C (zQi q) := by
  refine zw_iload_n (n := 17) d227_16 rfl rfl ?_
  refine zw_aload_n (n := 18) d227_17 rfl rfl ?_
  refine zw_geti (n := 21) d227_18 rfl (zj_5 hS).1 (zj_5 hS).2 ?_
  refine zw_ic_ge (n := 24) d227_21 rfl (zite h (fun h => ?_) (fun h => ?_))
  · skip
    refine zw_aload_n (n := 25) d227_24 rfl rfl ?_
    refine zw_getr (n := 28) d227_25 rfl (zj_5 hS).1 (zj_5 hS).2 (zr_5_37 hS) ?_
    refine zw_iload_n (n := 29) d227_28 rfl rfl ?_
    obtain ⟨hi, h⟩ := h
    refine zw_iald (n := 30) d227_29 rfl (za_5_37 hS).1 (za_5_37 hS).2 hi ?_
    refine zw_iload_n (n := 31) d227_30 rfl rfl ?_
    refine zw_ic_ge (n := 34) d227_31 rfl (zite h (fun h => ?_) (fun h => ?_))
    · skip
      refine zw_aload_n (n := 35) d227_34 rfl rfl ?_
      refine zw_getr (n := 38) d227_35 rfl (zj_5 hS).1 (zj_5 hS).2 (zr_5_37 hS) ?_
      refine zw_iload_n (n := 39) d227_38 rfl rfl ?_
      obtain ⟨hi, h⟩ := h
      refine zw_iald (n := 40) d227_39 rfl (za_5_37 hS).1 (za_5_37 hS).2 hi ?_
      refine zw_goto d227_40 ?_
      refine zw_istore_n (n := 45) d227_44 rfl rfl rfl ?_
      refine zw_aload_n (n := 46) d227_45 rfl rfl ?_
      refine zw_getr (n := 49) d227_46 rfl (zj_5 hS).1 (zj_5 hS).2 (zr_5_37 hS) ?_
      refine zw_iload_n (n := 50) d227_49 rfl rfl ?_
      obtain ⟨hi, h⟩ := h
      refine zw_iald (n := 51) d227_50 rfl (za_5_37 hS).1 (za_5_37 hS).2 hi ?_
      refine zw_iload_n (n := 52) d227_51 rfl rfl ?_
      refine zw_ic_le (n := 55) d227_52 rfl (zite h (fun h => ?_) (fun h => ?_))
      · skip
        refine zw_aload_n (n := 56) d227_55 rfl rfl ?_
        refine zw_getr (n := 59) d227_56 rfl (zj_5 hS).1 (zj_5 hS).2 (zr_5_37 hS) ?_
        refine zw_iload_n (n := 60) d227_59 rfl rfl ?_
        obtain ⟨hi, h⟩ := h
        refine zw_iald (n := 61) d227_60 rfl (za_5_37 hS).1 (za_5_37 hS).2 hi ?_
        refine zw_goto d227_61 ?_
        refine zw_istore_n (n := 66) d227_65 rfl rfl rfl ?_
        refine zw_iinc (n := 69) d227_66 rfl rfl zk_i_1 rfl ?_
        refine zw_goto d227_69 ?_
        exact h
      · skip
        refine zw_iload_n (n := 65) d227_64 rfl rfl ?_
        refine zw_istore_n (n := 66) d227_65 rfl rfl rfl ?_
        refine zw_iinc (n := 69) d227_66 rfl rfl zk_i_1 rfl ?_
        refine zw_goto d227_69 ?_
        exact h
    · skip
      refine zw_iload_n (n := 44) d227_43 rfl rfl ?_
      refine zw_istore_n (n := 45) d227_44 rfl rfl rfl ?_
      refine zw_aload_n (n := 46) d227_45 rfl rfl ?_
      refine zw_getr (n := 49) d227_46 rfl (zj_5 hS).1 (zj_5 hS).2 (zr_5_37 hS) ?_
      refine zw_iload_n (n := 50) d227_49 rfl rfl ?_
      obtain ⟨hi, h⟩ := h
      refine zw_iald (n := 51) d227_50 rfl (za_5_37 hS).1 (za_5_37 hS).2 hi ?_
      refine zw_iload_n (n := 52) d227_51 rfl rfl ?_
      refine zw_ic_le (n := 55) d227_52 rfl (zite h (fun h => ?_) (fun h => ?_))
      · skip
        refine zw_aload_n (n := 56) d227_55 rfl rfl ?_
        refine zw_getr (n := 59) d227_56 rfl (zj_5 hS).1 (zj_5 hS).2 (zr_5_37 hS) ?_
        refine zw_iload_n (n := 60) d227_59 rfl rfl ?_
        obtain ⟨hi, h⟩ := h
        refine zw_iald (n := 61) d227_60 rfl (za_5_37 hS).1 (za_5_37 hS).2 hi ?_
        refine zw_goto d227_61 ?_
        refine zw_istore_n (n := 66) d227_65 rfl rfl rfl ?_
        refine zw_iinc (n := 69) d227_66 rfl rfl zk_i_1 rfl ?_
        refine zw_goto d227_69 ?_
        exact h
      · skip
        refine zw_iload_n (n := 65) d227_64 rfl rfl ?_
        refine zw_istore_n (n := 66) d227_65 rfl rfl rfl ?_
        refine zw_iinc (n := 69) d227_66 rfl rfl zk_i_1 rfl ?_
        refine zw_goto d227_69 ?_
        exact h
  · skip
    refine zw_iload_n (n := 73) d227_72 rfl rfl ?_
    refine zw_iload_n (n := 74) d227_73 rfl rfl ?_
    refine zw_isub (n := 75) d227_74 rfl ?_
    exact zw_iret d227_75 rfl ⟨_, rfl, h⟩

set_option maxRecDepth 20000 in
theorem zf228 (pc : Nat) : zt_code 228 pc = zt_fd zl_228 pc := rfl
theorem d228_0 : zt_code 228 0 = some (.iconst (0), 0, 0, 0) := (zf228 0).trans rfl
theorem d228_1 : zt_code 228 1 = some (.istore_n 1, 0, 0, 0) := (zf228 1).trans rfl
theorem d228_2 : zt_code 228 2 = some (.iconst (0), 0, 0, 0) := (zf228 2).trans rfl
theorem d228_3 : zt_code 228 3 = some (.istore_n 2, 0, 0, 0) := (zf228 3).trans rfl
theorem d228_4 : zt_code 228 4 = some (.iconst (0), 0, 0, 0) := (zf228 4).trans rfl
theorem d228_5 : zt_code 228 5 = some (.istore_n 3, 0, 0, 0) := (zf228 5).trans rfl
theorem d228_6 : zt_code 228 6 = some (.iload_n 3, 0, 0, 0) := (zf228 6).trans rfl
theorem d228_7 : zt_code 228 7 = some (.iconst (4), 0, 0, 0) := (zf228 7).trans rfl
theorem d228_8 : zt_code 228 8 = some (.if_icmp .ge (35), 0, 43, 0) := (zf228 8).trans rfl
theorem d228_11 : zt_code 228 11 = some (.aload_n 0, 0, 0, 0) := (zf228 11).trans rfl
theorem d228_12 : zt_code 228 12 = some (.iload_n 3, 0, 0, 0) := (zf228 12).trans rfl
theorem d228_13 : zt_code 228 13 = some (.invokevirtual 315, 223, 2, 5) := (zf228 13).trans rfl
theorem d228_16 : zt_code 228 16 = some (.aload_n 0, 0, 0, 0) := (zf228 16).trans rfl
theorem d228_17 : zt_code 228 17 = some (.invokevirtual 318, 227, 1, 5) := (zf228 17).trans rfl
theorem d228_20 : zt_code 228 20 = some (.istore 4, 0, 0, 0) := (zf228 20).trans rfl
theorem d228_22 : zt_code 228 22 = some (.iload_n 3, 0, 0, 0) := (zf228 22).trans rfl
theorem d228_23 : zt_code 228 23 = some (.ifCond .eq (9), 0, 32, 0) := (zf228 23).trans rfl
theorem d228_26 : zt_code 228 26 = some (.iload 4, 0, 0, 0) := (zf228 26).trans rfl
theorem d228_28 : zt_code 228 28 = some (.iload_n 2, 0, 0, 0) := (zf228 28).trans rfl
theorem d228_29 : zt_code 228 29 = some (.if_icmp .ge (8), 0, 37, 0) := (zf228 29).trans rfl
theorem d228_32 : zt_code 228 32 = some (.iload_n 3, 0, 0, 0) := (zf228 32).trans rfl
theorem d228_33 : zt_code 228 33 = some (.istore_n 1, 0, 0, 0) := (zf228 33).trans rfl
theorem d228_34 : zt_code 228 34 = some (.iload 4, 0, 0, 0) := (zf228 34).trans rfl
theorem d228_36 : zt_code 228 36 = some (.istore_n 2, 0, 0, 0) := (zf228 36).trans rfl
theorem d228_37 : zt_code 228 37 = some (.iinc 3 (1), 0, 0, 0) := (zf228 37).trans rfl
theorem d228_40 : zt_code 228 40 = some (.goto (-34), 0, 6, 0) := (zf228 40).trans rfl
theorem d228_43 : zt_code 228 43 = some (.iload_n 1, 0, 0, 0) := (zf228 43).trans rfl
theorem d228_44 : zt_code 228 44 = some (.ireturn, 0, 0, 0) := (zf228 44).trans rfl
/-- FirstAtTheFirstModel.best()I -/
theorem vc228 {X : zX} {S : zx_S} {C : zx_C} {q : Int32 → zx_C → Prop} {e : Nat} (hS : zs_5 S e) (h : zW X 35 228 6 [.ref e, .int 0, .int 0, .int 0, .retAddr 0] [] S C (zQi q)) : zCd X 35 228 [.ref e] S C (zQi q) := by
  refine zc_in ml_228 rfl ?_
  refine zw_iconst (n := 1) d228_0 rfl zk_i_0 ?_
  refine zw_istore_n (n := 2) d228_1 rfl rfl rfl ?_
  refine zw_iconst (n := 3) d228_2 rfl zk_i_0 ?_
  refine zw_istore_n (n := 4) d228_3 rfl rfl rfl ?_
  refine zw_iconst (n := 5) d228_4 rfl zk_i_0 ?_
  refine zw_istore_n (n := 6) d228_5 rfl rfl rfl ?_
  exact h
theorem vc228_6 {X : zX} {S : zx_S} {C : zx_C} {q : Int32 → zx_C → Prop} {e : Nat} {i1 : Int32} {i2 : Int32} {i3 : Int32} {z4 : Value} (hS : zs_5 S e) (h : if (i3 : Int32) < 4 then (zCd X 34 223 [.ref e, .int i3] S C (zQv (fun C1 => zCd X 0 227 [.ref e] S C1 (zQi (fun r2 C2 => if (i3 : Int32) = 0 then (zW X 35 228 6 [.ref e, .int i3, .int r2, .int (i3 + 1), .int r2] [] S C2 (zQi q)) else (if (r2 : Int32) < i2 then (zW X 35 228 6 [.ref e, .int i3, .int r2, .int (i3 + 1), .int r2] [] S C2 (zQi q)) else (zW X 35 228 6 [.ref e, .int i1, .int i2, .int (i3 + 1), .int r2] [] S C2 (zQi q)))))))) else (q i1 C)) : zW X 35 228 6 [.ref e, .int i1, .int i2, .int i3, z4] [] S C (zQi q) := by
  refine zw_iload_n (n := 7) d228_6 rfl rfl ?_
  refine zw_iconst (n := 8) d228_7 rfl zk_i_4 ?_
  refine zw_ic_ge (n := 11) d228_8 rfl (zite h (fun h => ?_) (fun h => ?_))
  · skip
    refine zw_aload_n (n := 12) d228_11 rfl rfl ?_
    refine zw_iload_n (n := 13) d228_12 rfl rfl ?_
    refine zw_cV (n := 16) d228_13 (zs_V rfl rfl rfl rfl (by decide) (zj_5 hS).1 (zq_5 hS)) (by rw [ml_223]; rfl) (by decide) rfl (zc_mV h (fun C1 h => ?_))
    refine zw_aload_n (n := 17) d228_16 rfl rfl ?_
    refine zw_cI (n := 20) d228_17 (zs_V rfl rfl rfl rfl (by decide) (zj_5 hS).1 (zq_5 hS)) (by rw [ml_227]; rfl) (by decide) rfl (zc_mI h (fun r2 C2 h => ?_))
    refine zw_istore (n := 22) d228_20 rfl rfl rfl ?_
    refine zw_iload_n (n := 23) d228_22 rfl rfl ?_
    refine zw_if_eq (n := 26) d228_23 rfl (zite h (fun h => ?_) (fun h => ?_))
    · skip
      refine zw_iload_n (n := 33) d228_32 rfl rfl ?_
      refine zw_istore_n (n := 34) d228_33 rfl rfl rfl ?_
      refine zw_iload (n := 36) d228_34 rfl rfl ?_
      refine zw_istore_n (n := 37) d228_36 rfl rfl rfl ?_
      refine zw_iinc (n := 40) d228_37 rfl rfl zk_i_1 rfl ?_
      refine zw_goto d228_40 ?_
      exact h
    · skip
      refine zw_iload (n := 28) d228_26 rfl rfl ?_
      refine zw_iload_n (n := 29) d228_28 rfl rfl ?_
      refine zw_ic_ge (n := 32) d228_29 rfl (zite h (fun h => ?_) (fun h => ?_))
      · skip
        refine zw_iload_n (n := 33) d228_32 rfl rfl ?_
        refine zw_istore_n (n := 34) d228_33 rfl rfl rfl ?_
        refine zw_iload (n := 36) d228_34 rfl rfl ?_
        refine zw_istore_n (n := 37) d228_36 rfl rfl rfl ?_
        refine zw_iinc (n := 40) d228_37 rfl rfl zk_i_1 rfl ?_
        refine zw_goto d228_40 ?_
        exact h
      · skip
        refine zw_iinc (n := 40) d228_37 rfl rfl zk_i_1 rfl ?_
        refine zw_goto d228_40 ?_
        exact h
  · skip
    refine zw_iload_n (n := 44) d228_43 rfl rfl ?_
    exact zw_iret d228_44 rfl ⟨_, rfl, h⟩

set_option maxRecDepth 20000 in
theorem zf229 (pc : Nat) : zt_code 229 pc = zt_fd zl_229 pc := rfl
theorem d229_0 : zt_code 229 0 = some (.iload_n 1, 0, 0, 0) := (zf229 0).trans rfl
theorem d229_1 : zt_code 229 1 = some (.i2l, 0, 0, 0) := (zf229 1).trans rfl
theorem d229_2 : zt_code 229 2 = some (.lconst 0, 0, 0, 0) := (zf229 2).trans rfl
theorem d229_3 : zt_code 229 3 = some (.ldc2_w 148, 0, 0, 3) := (zf229 3).trans rfl
theorem d229_6 : zt_code 229 6 = some (.invokestatic 94, 159, 3, -1) := (zf229 6).trans rfl
theorem d229_9 : zt_code 229 9 = some (.ifCond .eq (16), 0, 25, 0) := (zf229 9).trans rfl
theorem d229_12 : zt_code 229 12 = some (.iload_n 2, 0, 0, 0) := (zf229 12).trans rfl
theorem d229_13 : zt_code 229 13 = some (.iconst (-1), 0, 0, 0) := (zf229 13).trans rfl
theorem d229_14 : zt_code 229 14 = some (.if_icmp .eq (18), 0, 32, 0) := (zf229 14).trans rfl
theorem d229_17 : zt_code 229 17 = some (.aload_n 0, 0, 0, 0) := (zf229 17).trans rfl
theorem d229_18 : zt_code 229 18 = some (.iload_n 2, 0, 0, 0) := (zf229 18).trans rfl
theorem d229_19 : zt_code 229 19 = some (.invokevirtual 118, 168, 2, 5) := (zf229 19).trans rfl
theorem d229_22 : zt_code 229 22 = some (.ifCond .ne (10), 0, 32, 0) := (zf229 22).trans rfl
theorem d229_25 : zt_code 229 25 = some (.aload_n 0, 0, 0, 0) := (zf229 25).trans rfl
theorem d229_26 : zt_code 229 26 = some (.bipush (-2), 0, 0, 0) := (zf229 26).trans rfl
theorem d229_28 : zt_code 229 28 = some (.invokevirtual 107, 160, 2, 5) := (zf229 28).trans rfl
theorem d229_31 : zt_code 229 31 = some (.ireturn, 0, 0, 0) := (zf229 31).trans rfl
theorem d229_32 : zt_code 229 32 = some (.aload_n 0, 0, 0, 0) := (zf229 32).trans rfl
theorem d229_33 : zt_code 229 33 = some (.iload_n 1, 0, 0, 0) := (zf229 33).trans rfl
theorem d229_34 : zt_code 229 34 = some (.invokevirtual 325, 230, 2, 5) := (zf229 34).trans rfl
theorem d229_37 : zt_code 229 37 = some (.iconst (0), 0, 0, 0) := (zf229 37).trans rfl
theorem d229_38 : zt_code 229 38 = some (.istore_n 3, 0, 0, 0) := (zf229 38).trans rfl
theorem d229_39 : zt_code 229 39 = some (.iload_n 3, 0, 0, 0) := (zf229 39).trans rfl
theorem d229_40 : zt_code 229 40 = some (.aload_n 0, 0, 0, 0) := (zf229 40).trans rfl
theorem d229_41 : zt_code 229 41 = some (.getfield 40, 5, 10, 0) := (zf229 41).trans rfl
theorem d229_44 : zt_code 229 44 = some (.if_icmp .ge (37), 0, 81, 0) := (zf229 44).trans rfl
theorem d229_47 : zt_code 229 47 = some (.aload_n 0, 0, 0, 0) := (zf229 47).trans rfl
theorem d229_48 : zt_code 229 48 = some (.getfield 79, 5, 37, 1) := (zf229 48).trans rfl
theorem d229_51 : zt_code 229 51 = some (.iload_n 3, 0, 0, 0) := (zf229 51).trans rfl
theorem d229_52 : zt_code 229 52 = some (.aload_n 0, 0, 0, 0) := (zf229 52).trans rfl
theorem d229_53 : zt_code 229 53 = some (.iload_n 3, 0, 0, 0) := (zf229 53).trans rfl
theorem d229_54 : zt_code 229 54 = some (.aload_n 0, 0, 0, 0) := (zf229 54).trans rfl
theorem d229_55 : zt_code 229 55 = some (.iload_n 3, 0, 0, 0) := (zf229 55).trans rfl
theorem d229_56 : zt_code 229 56 = some (.invokevirtual 255, 215, 2, 5) := (zf229 56).trans rfl
theorem d229_59 : zt_code 229 59 = some (.invokevirtual 258, 216, 3, 5) := (zf229 59).trans rfl
theorem d229_62 : zt_code 229 62 = some (.aload_n 0, 0, 0, 0) := (zf229 62).trans rfl
theorem d229_63 : zt_code 229 63 = some (.getfield 85, 5, 39, 1) := (zf229 63).trans rfl
theorem d229_66 : zt_code 229 66 = some (.aload_n 0, 0, 0, 0) := (zf229 66).trans rfl
theorem d229_67 : zt_code 229 67 = some (.invokevirtual 135, 172, 1, 5) := (zf229 67).trans rfl
theorem d229_70 : zt_code 229 70 = some (.aaload, 0, 0, 0) := (zf229 70).trans rfl
theorem d229_71 : zt_code 229 71 = some (.iload_n 3, 0, 0, 0) := (zf229 71).trans rfl
theorem d229_72 : zt_code 229 72 = some (.iaload, 0, 0, 0) := (zf229 72).trans rfl
theorem d229_73 : zt_code 229 73 = some (.iadd, 0, 0, 0) := (zf229 73).trans rfl
theorem d229_74 : zt_code 229 74 = some (.iastore, 0, 0, 0) := (zf229 74).trans rfl
theorem d229_75 : zt_code 229 75 = some (.iinc 3 (1), 0, 0, 0) := (zf229 75).trans rfl
theorem d229_78 : zt_code 229 78 = some (.goto (-39), 0, 39, 0) := (zf229 78).trans rfl
theorem d229_81 : zt_code 229 81 = some (.iload_n 2, 0, 0, 0) := (zf229 81).trans rfl
theorem d229_82 : zt_code 229 82 = some (.iconst (-1), 0, 0, 0) := (zf229 82).trans rfl
theorem d229_83 : zt_code 229 83 = some (.if_icmp .ne (10), 0, 93, 0) := (zf229 83).trans rfl
theorem d229_86 : zt_code 229 86 = some (.aload_n 0, 0, 0, 0) := (zf229 86).trans rfl
theorem d229_87 : zt_code 229 87 = some (.invokevirtual 318, 227, 1, 5) := (zf229 87).trans rfl
theorem d229_90 : zt_code 229 90 = some (.goto (9), 0, 99, 0) := (zf229 90).trans rfl
theorem d229_93 : zt_code 229 93 = some (.aload_n 0, 0, 0, 0) := (zf229 93).trans rfl
theorem d229_94 : zt_code 229 94 = some (.getfield 79, 5, 37, 1) := (zf229 94).trans rfl
theorem d229_97 : zt_code 229 97 = some (.iload_n 2, 0, 0, 0) := (zf229 97).trans rfl
theorem d229_98 : zt_code 229 98 = some (.iaload, 0, 0, 0) := (zf229 98).trans rfl
theorem d229_99 : zt_code 229 99 = some (.ireturn, 0, 0, 0) := (zf229 99).trans rfl
/-- FirstAtTheFirstModel.game(II)I -/
theorem vc229 {X : zX} {S : zx_S} {C : zx_C} {q : Int32 → zx_C → Prop} {e : Nat} {a1 : Int32} {a2 : Int32} (hS : zs_5 S e) (h : zCd X 0 159 [.long (Int32.toInt64 a1), .long 0, .long 3] S C (zQi (fun r1 C1 => if (r1 : Int32) = 0 then (zCd X 0 160 [.ref e, .int (-2)] S C1 (zQi (fun r2 C2 => q r2 C2))) else (if (a2 : Int32) = (-1) then (zCd X 32 230 [.ref e, .int a1] S C1 (zQv (fun C3 => zW X 33 229 39 [.ref e, .int a1, .int a2, .int 0] [] S C3 (zQi q)))) else (zCd X 1 168 [.ref e, .int a2] S C1 (zQi (fun r4 C4 => if (r4 : Int32) = 0 then (zCd X 0 160 [.ref e, .int (-2)] S C4 (zQi (fun r5 C5 => q r5 C5))) else (zCd X 32 230 [.ref e, .int a1] S C4 (zQv (fun C6 => zW X 33 229 39 [.ref e, .int a1, .int a2, .int 0] [] S C6 (zQi q))))))))))) : zCd X 33 229 [.ref e, .int a1, .int a2] S C (zQi q) := by
  refine zc_in ml_229 rfl ?_
  refine zw_iload_n (n := 1) d229_0 rfl rfl ?_
  refine zw_i2l (n := 2) d229_1 rfl ?_
  refine zw_lconst (n := 3) d229_2 rfl zk_c_0 ?_
  refine zw_ldc2 (n := 6) d229_3 rfl zk_l_3 ?_
  refine zw_cI (n := 9) d229_6 (zs_S rfl rfl rfl rfl) (by rw [ml_159]; rfl) (by decide) rfl (zc_mI h (fun r1 C1 h => ?_))
  refine zw_if_eq (n := 12) d229_9 rfl (zite h (fun h => ?_) (fun h => ?_))
  · skip
    refine zw_aload_n (n := 26) d229_25 rfl rfl ?_
    refine zw_bipush (n := 28) d229_26 rfl zk_b_m2 ?_
    refine zw_cI (n := 31) d229_28 (zs_V rfl rfl rfl rfl (by decide) (zj_5 hS).1 (zq_5 hS)) (by rw [ml_160]; rfl) (by decide) rfl (zc_mI h (fun r2 C2 h => ?_))
    exact zw_iret d229_31 rfl ⟨_, rfl, h⟩
  · skip
    refine zw_iload_n (n := 13) d229_12 rfl rfl ?_
    refine zw_iconst (n := 14) d229_13 rfl zk_i_m1 ?_
    refine zw_ic_eq (n := 17) d229_14 rfl (zite h (fun h => ?_) (fun h => ?_))
    · skip
      refine zw_aload_n (n := 33) d229_32 rfl rfl ?_
      refine zw_iload_n (n := 34) d229_33 rfl rfl ?_
      refine zw_cV (n := 37) d229_34 (zs_V rfl rfl rfl rfl (by decide) (zj_5 hS).1 (zq_5 hS)) (by rw [ml_230]; rfl) (by decide) rfl (zc_mV h (fun C3 h => ?_))
      refine zw_iconst (n := 38) d229_37 rfl zk_i_0 ?_
      refine zw_istore_n (n := 39) d229_38 rfl rfl rfl ?_
      exact h
    · skip
      refine zw_aload_n (n := 18) d229_17 rfl rfl ?_
      refine zw_iload_n (n := 19) d229_18 rfl rfl ?_
      refine zw_cI (n := 22) d229_19 (zs_V rfl rfl rfl rfl (by decide) (zj_5 hS).1 (zq_5 hS)) (by rw [ml_168]; rfl) (by decide) rfl (zc_mI h (fun r4 C4 h => ?_))
      refine zw_if_ne (n := 25) d229_22 rfl (zite h (fun h => ?_) (fun h => ?_))
      · skip
        refine zw_aload_n (n := 26) d229_25 rfl rfl ?_
        refine zw_bipush (n := 28) d229_26 rfl zk_b_m2 ?_
        refine zw_cI (n := 31) d229_28 (zs_V rfl rfl rfl rfl (by decide) (zj_5 hS).1 (zq_5 hS)) (by rw [ml_160]; rfl) (by decide) rfl (zc_mI h (fun r5 C5 h => ?_))
        exact zw_iret d229_31 rfl ⟨_, rfl, h⟩
      · skip
        refine zw_aload_n (n := 33) d229_32 rfl rfl ?_
        refine zw_iload_n (n := 34) d229_33 rfl rfl ?_
        refine zw_cV (n := 37) d229_34 (zs_V rfl rfl rfl rfl (by decide) (zj_5 hS).1 (zq_5 hS)) (by rw [ml_230]; rfl) (by decide) rfl (zc_mV h (fun C6 h => ?_))
        refine zw_iconst (n := 38) d229_37 rfl zk_i_0 ?_
        refine zw_istore_n (n := 39) d229_38 rfl rfl rfl ?_
        exact h
theorem vc229_39 {X : zX} {S : zx_S} {C : zx_C} {q : Int32 → zx_C → Prop} {e : Nat} {a1 : Int32} {a2 : Int32} {z1 : Value} {i2 : Int32} {i3 : Int32} (hS : zs_5 S e) (h : if (i3 : Int32) < (C.1 e 10) then (zCd X 0 215 [.ref e, .int i3] S C (zQi (fun r1 C1 => zCd X 1 216 [.ref e, .int i3, .int r1] S C1 (zQi (fun r2 C2 => zCd X 0 172 [.ref e] S C2 (zQi (fun r3 C3 => vp_in r3 256 ∧ (vp_in i3 3 ∧ (vp_in i3 3 ∧ (zW X 33 229 39 [.ref e, z1, .int i2, .int (i3 + 1)] [] S (zp C3 (e + 34) (Int32.toNatClampNeg i3) (r2 + (C3.1 ((e + 37) + Int32.toNatClampNeg r3) (Int32.toNatClampNeg i3)))) (zQi q))))))))))) else (if (i2 : Int32) = (-1) then (zCd X 0 227 [.ref e] S C (zQi (fun r5 C5 => q r5 C5))) else (vp_in i2 3 ∧ (q (C.1 (e + 34) (Int32.toNatClampNeg i2)) C)))) : zW X 33 229 39 [.ref e, z1, .int i2, .int i3] [] S C (zQi q) := by
  refine zw_iload_n (n := 40) d229_39 rfl rfl ?_
  refine zw_aload_n (n := 41) d229_40 rfl rfl ?_
  refine zw_geti (n := 44) d229_41 rfl (zj_5 hS).1 (zj_5 hS).2 ?_
  refine zw_ic_ge (n := 47) d229_44 rfl (zite h (fun h => ?_) (fun h => ?_))
  · skip
    refine zw_aload_n (n := 48) d229_47 rfl rfl ?_
    refine zw_getr (n := 51) d229_48 rfl (zj_5 hS).1 (zj_5 hS).2 (zr_5_37 hS) ?_
    refine zw_iload_n (n := 52) d229_51 rfl rfl ?_
    refine zw_aload_n (n := 53) d229_52 rfl rfl ?_
    refine zw_iload_n (n := 54) d229_53 rfl rfl ?_
    refine zw_aload_n (n := 55) d229_54 rfl rfl ?_
    refine zw_iload_n (n := 56) d229_55 rfl rfl ?_
    refine zw_cI (n := 59) d229_56 (zs_V rfl rfl rfl rfl (by decide) (zj_5 hS).1 (zq_5 hS)) (by rw [ml_215]; rfl) (by decide) rfl (zc_mI h (fun r1 C1 h => ?_))
    refine zw_cI (n := 62) d229_59 (zs_V rfl rfl rfl rfl (by decide) (zj_5 hS).1 (zq_5 hS)) (by rw [ml_216]; rfl) (by decide) rfl (zc_mI h (fun r2 C2 h => ?_))
    refine zw_aload_n (n := 63) d229_62 rfl rfl ?_
    refine zw_getr (n := 66) d229_63 rfl (zj_5 hS).1 (zj_5 hS).2 (zr_5_39 hS) ?_
    refine zw_aload_n (n := 67) d229_66 rfl rfl ?_
    refine zw_cI (n := 70) d229_67 (zs_V rfl rfl rfl rfl (by decide) (zj_5 hS).1 (zq_5 hS)) (by rw [ml_172]; rfl) (by decide) rfl (zc_mI h (fun r3 C3 h => ?_))
    obtain ⟨hi, h⟩ := h
    have hb4 := zb_5_39 hS (vp_lt hi)
    refine zw_aald (n := 71) d229_70 rfl (za_5_39 hS).1 (za_5_39 hS).2 (by decide) hi hb4.1 ?_
    refine zw_iload_n (n := 72) d229_71 rfl rfl ?_
    obtain ⟨hi, h⟩ := h
    refine zw_iald (n := 73) d229_72 rfl hb4.2.1 hb4.2.2 hi ?_
    refine zw_iadd (n := 74) d229_73 rfl ?_
    obtain ⟨hi, h⟩ := h
    refine zw_iast (n := 75) d229_74 rfl (za_5_37 hS).1 (za_5_37 hS).2 hi ?_
    refine zw_iinc (n := 78) d229_75 rfl rfl zk_i_1 rfl ?_
    refine zw_goto d229_78 ?_
    exact h
  · skip
    refine zw_iload_n (n := 82) d229_81 rfl rfl ?_
    refine zw_iconst (n := 83) d229_82 rfl zk_i_m1 ?_
    refine zw_ic_ne (n := 86) d229_83 rfl (zite h (fun h => ?_) (fun h => ?_))
    · skip
      refine zw_aload_n (n := 87) d229_86 rfl rfl ?_
      refine zw_cI (n := 90) d229_87 (zs_V rfl rfl rfl rfl (by decide) (zj_5 hS).1 (zq_5 hS)) (by rw [ml_227]; rfl) (by decide) rfl (zc_mI h (fun r5 C5 h => ?_))
      refine zw_goto d229_90 ?_
      exact zw_iret d229_99 rfl ⟨_, rfl, h⟩
    · skip
      refine zw_aload_n (n := 94) d229_93 rfl rfl ?_
      refine zw_getr (n := 97) d229_94 rfl (zj_5 hS).1 (zj_5 hS).2 (zr_5_37 hS) ?_
      refine zw_iload_n (n := 98) d229_97 rfl rfl ?_
      obtain ⟨hi, h⟩ := h
      refine zw_iald (n := 99) d229_98 rfl (za_5_37 hS).1 (za_5_37 hS).2 hi ?_
      exact zw_iret d229_99 rfl ⟨_, rfl, h⟩

set_option maxRecDepth 20000 in
theorem zf230 (pc : Nat) : zt_code 230 pc = zt_fd zl_230 pc := rfl
theorem d230_0 : zt_code 230 0 = some (.aload_n 0, 0, 0, 0) := (zf230 0).trans rfl
theorem d230_1 : zt_code 230 1 = some (.iload_n 1, 0, 0, 0) := (zf230 1).trans rfl
theorem d230_2 : zt_code 230 2 = some (.invokevirtual 131, 171, 2, 5) := (zf230 2).trans rfl
theorem d230_5 : zt_code 230 5 = some (.iconst (0), 0, 0, 0) := (zf230 5).trans rfl
theorem d230_6 : zt_code 230 6 = some (.istore_n 2, 0, 0, 0) := (zf230 6).trans rfl
theorem d230_7 : zt_code 230 7 = some (.iload_n 2, 0, 0, 0) := (zf230 7).trans rfl
theorem d230_8 : zt_code 230 8 = some (.sipush (256), 0, 0, 0) := (zf230 8).trans rfl
theorem d230_11 : zt_code 230 11 = some (.if_icmp .ge (38), 0, 49, 0) := (zf230 11).trans rfl
theorem d230_14 : zt_code 230 14 = some (.aload_n 0, 0, 0, 0) := (zf230 14).trans rfl
theorem d230_15 : zt_code 230 15 = some (.getfield 82, 5, 38, 1) := (zf230 15).trans rfl
theorem d230_18 : zt_code 230 18 = some (.iload_n 2, 0, 0, 0) := (zf230 18).trans rfl
theorem d230_19 : zt_code 230 19 = some (.iconst (-1), 0, 0, 0) := (zf230 19).trans rfl
theorem d230_20 : zt_code 230 20 = some (.iastore, 0, 0, 0) := (zf230 20).trans rfl
theorem d230_21 : zt_code 230 21 = some (.iconst (0), 0, 0, 0) := (zf230 21).trans rfl
theorem d230_22 : zt_code 230 22 = some (.istore_n 3, 0, 0, 0) := (zf230 22).trans rfl
theorem d230_23 : zt_code 230 23 = some (.iload_n 3, 0, 0, 0) := (zf230 23).trans rfl
theorem d230_24 : zt_code 230 24 = some (.iconst (3), 0, 0, 0) := (zf230 24).trans rfl
theorem d230_25 : zt_code 230 25 = some (.if_icmp .ge (18), 0, 43, 0) := (zf230 25).trans rfl
theorem d230_28 : zt_code 230 28 = some (.aload_n 0, 0, 0, 0) := (zf230 28).trans rfl
theorem d230_29 : zt_code 230 29 = some (.getfield 85, 5, 39, 1) := (zf230 29).trans rfl
theorem d230_32 : zt_code 230 32 = some (.iload_n 2, 0, 0, 0) := (zf230 32).trans rfl
theorem d230_33 : zt_code 230 33 = some (.aaload, 0, 0, 0) := (zf230 33).trans rfl
theorem d230_34 : zt_code 230 34 = some (.iload_n 3, 0, 0, 0) := (zf230 34).trans rfl
theorem d230_35 : zt_code 230 35 = some (.iconst (0), 0, 0, 0) := (zf230 35).trans rfl
theorem d230_36 : zt_code 230 36 = some (.iastore, 0, 0, 0) := (zf230 36).trans rfl
theorem d230_37 : zt_code 230 37 = some (.iinc 3 (1), 0, 0, 0) := (zf230 37).trans rfl
theorem d230_40 : zt_code 230 40 = some (.goto (-17), 0, 23, 0) := (zf230 40).trans rfl
theorem d230_43 : zt_code 230 43 = some (.iinc 2 (1), 0, 0, 0) := (zf230 43).trans rfl
theorem d230_46 : zt_code 230 46 = some (.goto (-39), 0, 7, 0) := (zf230 46).trans rfl
theorem d230_49 : zt_code 230 49 = some (.aload_n 0, 0, 0, 0) := (zf230 49).trans rfl
theorem d230_50 : zt_code 230 50 = some (.aload_n 0, 0, 0, 0) := (zf230 50).trans rfl
theorem d230_51 : zt_code 230 51 = some (.invokevirtual 135, 172, 1, 5) := (zf230 51).trans rfl
theorem d230_54 : zt_code 230 54 = some (.aload_n 0, 0, 0, 0) := (zf230 54).trans rfl
theorem d230_55 : zt_code 230 55 = some (.getfield 139, 5, 18, 0) := (zf230 55).trans rfl
theorem d230_58 : zt_code 230 58 = some (.invokevirtual 321, 231, 3, 5) := (zf230 58).trans rfl
theorem d230_61 : zt_code 230 61 = some (.return_, 0, 0, 0) := (zf230 61).trans rfl
/-- FirstAtTheFirstModel.gameBy(I)V -/
theorem vc230 {X : zX} {S : zx_S} {C : zx_C} {q : zx_C → Prop} {e : Nat} {a1 : Int32} (hS : zs_5 S e) (h : zCd X 0 171 [.ref e, .int a1] S C (zQv (fun C1 => zW X 32 230 7 [.ref e, .int a1, .int 0, .retAddr 0] [] S C1 (zQv q)))) : zCd X 32 230 [.ref e, .int a1] S C (zQv q) := by
  refine zc_in ml_230 rfl ?_
  refine zw_aload_n (n := 1) d230_0 rfl rfl ?_
  refine zw_iload_n (n := 2) d230_1 rfl rfl ?_
  refine zw_cV (n := 5) d230_2 (zs_V rfl rfl rfl rfl (by decide) (zj_5 hS).1 (zq_5 hS)) (by rw [ml_171]; rfl) (by decide) rfl (zc_mV h (fun C1 h => ?_))
  refine zw_iconst (n := 6) d230_5 rfl zk_i_0 ?_
  refine zw_istore_n (n := 7) d230_6 rfl rfl rfl ?_
  exact h
theorem vc230_7 {X : zX} {S : zx_S} {C : zx_C} {q : zx_C → Prop} {e : Nat} {a1 : Int32} {z1 : Value} {i2 : Int32} {z3 : Value} (hS : zs_5 S e) (h : if (i2 : Int32) < 256 then (vp_in i2 256 ∧ (zW X 32 230 23 [.ref e, z1, .int i2, .int 0] [] S (zp C (e + 35) (Int32.toNatClampNeg i2) (-1)) (zQv q))) else (zCd X 0 172 [.ref e] S C (zQi (fun r1 C1 => zCd X 31 231 [.ref e, .int r1, .int (C1.1 e 18)] S C1 (zQv (fun C2 => q C2)))))) : zW X 32 230 7 [.ref e, z1, .int i2, z3] [] S C (zQv q) := by
  refine zw_iload_n (n := 8) d230_7 rfl rfl ?_
  refine zw_sipush (n := 11) d230_8 rfl zk_s_256 ?_
  refine zw_ic_ge (n := 14) d230_11 rfl (zite h (fun h => ?_) (fun h => ?_))
  · skip
    refine zw_aload_n (n := 15) d230_14 rfl rfl ?_
    refine zw_getr (n := 18) d230_15 rfl (zj_5 hS).1 (zj_5 hS).2 (zr_5_38 hS) ?_
    refine zw_iload_n (n := 19) d230_18 rfl rfl ?_
    refine zw_iconst (n := 20) d230_19 rfl zk_i_m1 ?_
    obtain ⟨hi, h⟩ := h
    refine zw_iast (n := 21) d230_20 rfl (za_5_38 hS).1 (za_5_38 hS).2 hi ?_
    refine zw_iconst (n := 22) d230_21 rfl zk_i_0 ?_
    refine zw_istore_n (n := 23) d230_22 rfl rfl rfl ?_
    exact h
  · skip
    refine zw_aload_n (n := 50) d230_49 rfl rfl ?_
    refine zw_aload_n (n := 51) d230_50 rfl rfl ?_
    refine zw_cI (n := 54) d230_51 (zs_V rfl rfl rfl rfl (by decide) (zj_5 hS).1 (zq_5 hS)) (by rw [ml_172]; rfl) (by decide) rfl (zc_mI h (fun r1 C1 h => ?_))
    refine zw_aload_n (n := 55) d230_54 rfl rfl ?_
    refine zw_geti (n := 58) d230_55 rfl (zj_5 hS).1 (zj_5 hS).2 ?_
    refine zw_cV (n := 61) d230_58 (zs_V rfl rfl rfl rfl (by decide) (zj_5 hS).1 (zq_5 hS)) (by rw [ml_231]; rfl) (by decide) rfl (zc_mV h (fun C2 h => ?_))
    exact zw_ret d230_61 ⟨rfl, h⟩
theorem vc230_23 {X : zX} {S : zx_S} {C : zx_C} {q : zx_C → Prop} {e : Nat} {a1 : Int32} {z1 : Value} {i2 : Int32} {i3 : Int32} (hS : zs_5 S e) (h : if (i3 : Int32) < 3 then (vp_in i2 256 ∧ (vp_in i3 3 ∧ (zW X 32 230 23 [.ref e, z1, .int i2, .int (i3 + 1)] [] S (zp C ((e + 37) + Int32.toNatClampNeg i2) (Int32.toNatClampNeg i3) 0) (zQv q)))) else (zW X 32 230 7 [.ref e, z1, .int (i2 + 1), .int i3] [] S C (zQv q))) : zW X 32 230 23 [.ref e, z1, .int i2, .int i3] [] S C (zQv q) := by
  refine zw_iload_n (n := 24) d230_23 rfl rfl ?_
  refine zw_iconst (n := 25) d230_24 rfl zk_i_3 ?_
  refine zw_ic_ge (n := 28) d230_25 rfl (zite h (fun h => ?_) (fun h => ?_))
  · skip
    refine zw_aload_n (n := 29) d230_28 rfl rfl ?_
    refine zw_getr (n := 32) d230_29 rfl (zj_5 hS).1 (zj_5 hS).2 (zr_5_39 hS) ?_
    refine zw_iload_n (n := 33) d230_32 rfl rfl ?_
    obtain ⟨hi, h⟩ := h
    have hb1 := zb_5_39 hS (vp_lt hi)
    refine zw_aald (n := 34) d230_33 rfl (za_5_39 hS).1 (za_5_39 hS).2 (by decide) hi hb1.1 ?_
    refine zw_iload_n (n := 35) d230_34 rfl rfl ?_
    refine zw_iconst (n := 36) d230_35 rfl zk_i_0 ?_
    obtain ⟨hi, h⟩ := h
    refine zw_iast (n := 37) d230_36 rfl hb1.2.1 hb1.2.2 hi ?_
    refine zw_iinc (n := 40) d230_37 rfl rfl zk_i_1 rfl ?_
    refine zw_goto d230_40 ?_
    exact h
  · skip
    refine zw_iinc (n := 46) d230_43 rfl rfl zk_i_1 rfl ?_
    refine zw_goto d230_46 ?_
    exact h

set_option maxRecDepth 20000 in
theorem zf231 (pc : Nat) : zt_code 231 pc = zt_fd zl_231 pc := rfl
theorem d231_0 : zt_code 231 0 = some (.aload_n 0, 0, 0, 0) := (zf231 0).trans rfl
theorem d231_1 : zt_code 231 1 = some (.getfield 82, 5, 38, 1) := (zf231 1).trans rfl
theorem d231_4 : zt_code 231 4 = some (.iload_n 1, 0, 0, 0) := (zf231 4).trans rfl
theorem d231_5 : zt_code 231 5 = some (.iaload, 0, 0, 0) := (zf231 5).trans rfl
theorem d231_6 : zt_code 231 6 = some (.iconst (-1), 0, 0, 0) := (zf231 6).trans rfl
theorem d231_7 : zt_code 231 7 = some (.if_icmp .ne (7), 0, 14, 0) := (zf231 7).trans rfl
theorem d231_10 : zt_code 231 10 = some (.iload_n 1, 0, 0, 0) := (zf231 10).trans rfl
theorem d231_11 : zt_code 231 11 = some (.ifCond .ne (4), 0, 15, 0) := (zf231 11).trans rfl
theorem d231_14 : zt_code 231 14 = some (.return_, 0, 0, 0) := (zf231 14).trans rfl
theorem d231_15 : zt_code 231 15 = some (.aload_n 0, 0, 0, 0) := (zf231 15).trans rfl
theorem d231_16 : zt_code 231 16 = some (.iload_n 2, 0, 0, 0) := (zf231 16).trans rfl
theorem d231_17 : zt_code 231 17 = some (.invokevirtual 280, 177, 2, 5) := (zf231 17).trans rfl
theorem d231_20 : zt_code 231 20 = some (.istore_n 3, 0, 0, 0) := (zf231 20).trans rfl
theorem d231_21 : zt_code 231 21 = some (.iconst (0), 0, 0, 0) := (zf231 21).trans rfl
theorem d231_22 : zt_code 231 22 = some (.istore 4, 0, 0, 0) := (zf231 22).trans rfl
theorem d231_24 : zt_code 231 24 = some (.iload 4, 0, 0, 0) := (zf231 24).trans rfl
theorem d231_26 : zt_code 231 26 = some (.aload_n 0, 0, 0, 0) := (zf231 26).trans rfl
theorem d231_27 : zt_code 231 27 = some (.getfield 98, 5, 11, 0) := (zf231 27).trans rfl
theorem d231_30 : zt_code 231 30 = some (.if_icmp .ge (136), 0, 166, 0) := (zf231 30).trans rfl
theorem d231_33 : zt_code 231 33 = some (.iload_n 1, 0, 0, 0) := (zf231 33).trans rfl
theorem d231_34 : zt_code 231 34 = some (.iload 4, 0, 0, 0) := (zf231 34).trans rfl
theorem d231_36 : zt_code 231 36 = some (.invokestatic 252, 174, 2, -1) := (zf231 36).trans rfl
theorem d231_39 : zt_code 231 39 = some (.ifCond .eq (121), 0, 160, 0) := (zf231 39).trans rfl
theorem d231_42 : zt_code 231 42 = some (.iload_n 1, 0, 0, 0) := (zf231 42).trans rfl
theorem d231_43 : zt_code 231 43 = some (.iconst (1), 0, 0, 0) := (zf231 43).trans rfl
theorem d231_44 : zt_code 231 44 = some (.iload 4, 0, 0, 0) := (zf231 44).trans rfl
theorem d231_46 : zt_code 231 46 = some (.ishl, 0, 0, 0) := (zf231 46).trans rfl
theorem d231_47 : zt_code 231 47 = some (.iconst (-1), 0, 0, 0) := (zf231 47).trans rfl
theorem d231_48 : zt_code 231 48 = some (.ixor, 0, 0, 0) := (zf231 48).trans rfl
theorem d231_49 : zt_code 231 49 = some (.iand, 0, 0, 0) := (zf231 49).trans rfl
theorem d231_50 : zt_code 231 50 = some (.istore 5, 0, 0, 0) := (zf231 50).trans rfl
theorem d231_52 : zt_code 231 52 = some (.aload_n 0, 0, 0, 0) := (zf231 52).trans rfl
theorem d231_53 : zt_code 231 53 = some (.iload 5, 0, 0, 0) := (zf231 53).trans rfl
theorem d231_55 : zt_code 231 55 = some (.iload_n 2, 0, 0, 0) := (zf231 55).trans rfl
theorem d231_56 : zt_code 231 56 = some (.iconst (1), 0, 0, 0) := (zf231 56).trans rfl
theorem d231_57 : zt_code 231 57 = some (.iadd, 0, 0, 0) := (zf231 57).trans rfl
theorem d231_58 : zt_code 231 58 = some (.invokevirtual 321, 231, 3, 5) := (zf231 58).trans rfl
theorem d231_61 : zt_code 231 61 = some (.aload_n 0, 0, 0, 0) := (zf231 61).trans rfl
theorem d231_62 : zt_code 231 62 = some (.getfield 46, 5, 12, 1) := (zf231 62).trans rfl
theorem d231_65 : zt_code 231 65 = some (.iload 4, 0, 0, 0) := (zf231 65).trans rfl
theorem d231_67 : zt_code 231 67 = some (.aaload, 0, 0, 0) := (zf231 67).trans rfl
theorem d231_68 : zt_code 231 68 = some (.iload_n 3, 0, 0, 0) := (zf231 68).trans rfl
theorem d231_69 : zt_code 231 69 = some (.iaload, 0, 0, 0) := (zf231 69).trans rfl
theorem d231_70 : zt_code 231 70 = some (.aload_n 0, 0, 0, 0) := (zf231 70).trans rfl
theorem d231_71 : zt_code 231 71 = some (.getfield 85, 5, 39, 1) := (zf231 71).trans rfl
theorem d231_74 : zt_code 231 74 = some (.iload 5, 0, 0, 0) := (zf231 74).trans rfl
theorem d231_76 : zt_code 231 76 = some (.aaload, 0, 0, 0) := (zf231 76).trans rfl
theorem d231_77 : zt_code 231 77 = some (.iload_n 3, 0, 0, 0) := (zf231 77).trans rfl
theorem d231_78 : zt_code 231 78 = some (.iaload, 0, 0, 0) := (zf231 78).trans rfl
theorem d231_79 : zt_code 231 79 = some (.iadd, 0, 0, 0) := (zf231 79).trans rfl
theorem d231_80 : zt_code 231 80 = some (.istore 6, 0, 0, 0) := (zf231 80).trans rfl
theorem d231_82 : zt_code 231 82 = some (.aload_n 0, 0, 0, 0) := (zf231 82).trans rfl
theorem d231_83 : zt_code 231 83 = some (.getfield 82, 5, 38, 1) := (zf231 83).trans rfl
theorem d231_86 : zt_code 231 86 = some (.iload_n 1, 0, 0, 0) := (zf231 86).trans rfl
theorem d231_87 : zt_code 231 87 = some (.iaload, 0, 0, 0) := (zf231 87).trans rfl
theorem d231_88 : zt_code 231 88 = some (.iconst (-1), 0, 0, 0) := (zf231 88).trans rfl
theorem d231_89 : zt_code 231 89 = some (.if_icmp .eq (16), 0, 105, 0) := (zf231 89).trans rfl
theorem d231_92 : zt_code 231 92 = some (.iload 6, 0, 0, 0) := (zf231 92).trans rfl
theorem d231_94 : zt_code 231 94 = some (.aload_n 0, 0, 0, 0) := (zf231 94).trans rfl
theorem d231_95 : zt_code 231 95 = some (.getfield 85, 5, 39, 1) := (zf231 95).trans rfl
theorem d231_98 : zt_code 231 98 = some (.iload_n 1, 0, 0, 0) := (zf231 98).trans rfl
theorem d231_99 : zt_code 231 99 = some (.aaload, 0, 0, 0) := (zf231 99).trans rfl
theorem d231_100 : zt_code 231 100 = some (.iload_n 3, 0, 0, 0) := (zf231 100).trans rfl
theorem d231_101 : zt_code 231 101 = some (.iaload, 0, 0, 0) := (zf231 101).trans rfl
theorem d231_102 : zt_code 231 102 = some (.if_icmp .le (58), 0, 160, 0) := (zf231 102).trans rfl
theorem d231_105 : zt_code 231 105 = some (.aload_n 0, 0, 0, 0) := (zf231 105).trans rfl
theorem d231_106 : zt_code 231 106 = some (.getfield 82, 5, 38, 1) := (zf231 106).trans rfl
theorem d231_109 : zt_code 231 109 = some (.iload_n 1, 0, 0, 0) := (zf231 109).trans rfl
theorem d231_110 : zt_code 231 110 = some (.iload 4, 0, 0, 0) := (zf231 110).trans rfl
theorem d231_112 : zt_code 231 112 = some (.iastore, 0, 0, 0) := (zf231 112).trans rfl
theorem d231_113 : zt_code 231 113 = some (.iconst (0), 0, 0, 0) := (zf231 113).trans rfl
theorem d231_114 : zt_code 231 114 = some (.istore 7, 0, 0, 0) := (zf231 114).trans rfl
theorem d231_116 : zt_code 231 116 = some (.iload 7, 0, 0, 0) := (zf231 116).trans rfl
theorem d231_118 : zt_code 231 118 = some (.aload_n 0, 0, 0, 0) := (zf231 118).trans rfl
theorem d231_119 : zt_code 231 119 = some (.getfield 40, 5, 10, 0) := (zf231 119).trans rfl
theorem d231_122 : zt_code 231 122 = some (.if_icmp .ge (28), 0, 150, 0) := (zf231 122).trans rfl
theorem d231_125 : zt_code 231 125 = some (.aload_n 0, 0, 0, 0) := (zf231 125).trans rfl
theorem d231_126 : zt_code 231 126 = some (.getfield 85, 5, 39, 1) := (zf231 126).trans rfl
theorem d231_129 : zt_code 231 129 = some (.iload_n 1, 0, 0, 0) := (zf231 129).trans rfl
theorem d231_130 : zt_code 231 130 = some (.aaload, 0, 0, 0) := (zf231 130).trans rfl
theorem d231_131 : zt_code 231 131 = some (.iload 7, 0, 0, 0) := (zf231 131).trans rfl
theorem d231_133 : zt_code 231 133 = some (.aload_n 0, 0, 0, 0) := (zf231 133).trans rfl
theorem d231_134 : zt_code 231 134 = some (.getfield 85, 5, 39, 1) := (zf231 134).trans rfl
theorem d231_137 : zt_code 231 137 = some (.iload 5, 0, 0, 0) := (zf231 137).trans rfl
theorem d231_139 : zt_code 231 139 = some (.aaload, 0, 0, 0) := (zf231 139).trans rfl
theorem d231_140 : zt_code 231 140 = some (.iload 7, 0, 0, 0) := (zf231 140).trans rfl
theorem d231_142 : zt_code 231 142 = some (.iaload, 0, 0, 0) := (zf231 142).trans rfl
theorem d231_143 : zt_code 231 143 = some (.iastore, 0, 0, 0) := (zf231 143).trans rfl
theorem d231_144 : zt_code 231 144 = some (.iinc 7 (1), 0, 0, 0) := (zf231 144).trans rfl
theorem d231_147 : zt_code 231 147 = some (.goto (-31), 0, 116, 0) := (zf231 147).trans rfl
theorem d231_150 : zt_code 231 150 = some (.aload_n 0, 0, 0, 0) := (zf231 150).trans rfl
theorem d231_151 : zt_code 231 151 = some (.getfield 85, 5, 39, 1) := (zf231 151).trans rfl
theorem d231_154 : zt_code 231 154 = some (.iload_n 1, 0, 0, 0) := (zf231 154).trans rfl
theorem d231_155 : zt_code 231 155 = some (.aaload, 0, 0, 0) := (zf231 155).trans rfl
theorem d231_156 : zt_code 231 156 = some (.iload_n 3, 0, 0, 0) := (zf231 156).trans rfl
theorem d231_157 : zt_code 231 157 = some (.iload 6, 0, 0, 0) := (zf231 157).trans rfl
theorem d231_159 : zt_code 231 159 = some (.iastore, 0, 0, 0) := (zf231 159).trans rfl
theorem d231_160 : zt_code 231 160 = some (.iinc 4 (1), 0, 0, 0) := (zf231 160).trans rfl
theorem d231_163 : zt_code 231 163 = some (.goto (-139), 0, 24, 0) := (zf231 163).trans rfl
theorem d231_166 : zt_code 231 166 = some (.return_, 0, 0, 0) := (zf231 166).trans rfl
/-- FirstAtTheFirstModel.findGame(II)V -/
theorem vc231 {X : zX} {S : zx_S} {C : zx_C} {q : zx_C → Prop} {d : Nat} (hd : 1 ≤ d) {e : Nat} {a1 : Int32} {a2 : Int32} (hS : zs_5 S e) (h : vp_in a1 256 ∧ (if ((C.1 (e + 35) (Int32.toNatClampNeg a1)) : Int32) = (-1) then (if (a1 : Int32) = 0 then (q C) else (zCd X 1 177 [.ref e, .int a2] S C (zQi (fun r1 C1 => zW X (d + 1) 231 24 [.ref e, .int a1, .int a2, .int r1, .int 0, .retAddr 0, .retAddr 0, .retAddr 0] [] S C1 (zQv q))))) else (q C))) : zCd X (d + 1) 231 [.ref e, .int a1, .int a2] S C (zQv q) := by
  refine zc_in ml_231 rfl ?_
  refine zw_aload_n (n := 1) d231_0 rfl rfl ?_
  refine zw_getr (n := 4) d231_1 rfl (zj_5 hS).1 (zj_5 hS).2 (zr_5_38 hS) ?_
  refine zw_iload_n (n := 5) d231_4 rfl rfl ?_
  obtain ⟨hi, h⟩ := h
  refine zw_iald (n := 6) d231_5 rfl (za_5_38 hS).1 (za_5_38 hS).2 hi ?_
  refine zw_iconst (n := 7) d231_6 rfl zk_i_m1 ?_
  refine zw_ic_ne (n := 10) d231_7 rfl (zite h (fun h => ?_) (fun h => ?_))
  · skip
    refine zw_iload_n (n := 11) d231_10 rfl rfl ?_
    refine zw_if_ne (n := 14) d231_11 rfl (zite h (fun h => ?_) (fun h => ?_))
    · skip
      exact zw_ret d231_14 ⟨rfl, h⟩
    · skip
      refine zw_aload_n (n := 16) d231_15 rfl rfl ?_
      refine zw_iload_n (n := 17) d231_16 rfl rfl ?_
      refine zw_cI (n := 20) d231_17 (zs_V rfl rfl rfl rfl (by decide) (zj_5 hS).1 (zq_5 hS)) (by rw [ml_177]; rfl) (by omega) rfl (zc_mI h (fun r1 C1 h => ?_))
      refine zw_istore_n (n := 21) d231_20 rfl rfl rfl ?_
      refine zw_iconst (n := 22) d231_21 rfl zk_i_0 ?_
      refine zw_istore (n := 24) d231_22 rfl rfl rfl ?_
      exact h
  · skip
    exact zw_ret d231_14 ⟨rfl, h⟩
theorem vc231_24 {X : zX} {S : zx_S} {C : zx_C} {q : zx_C → Prop} {d : Nat} (hd : 1 ≤ d) {e : Nat} {a1 : Int32} {a2 : Int32} {i1 : Int32} {i2 : Int32} {i3 : Int32} {i4 : Int32} {z5 : Value} {z6 : Value} {z7 : Value} (hS : zs_5 S e) (h : if (i4 : Int32) < (C.1 e 11) then (zCd X 0 174 [.int i1, .int i4] S C (zQi (fun r1 C1 => if (r1 : Int32) = 0 then (zW X (d + 1) 231 24 [.ref e, .int i1, .int i2, .int i3, .int (i4 + 1), z5, z6, z7] [] S C1 (zQv q)) else (zCd X d 231 [.ref e, .int (i1 &&& ((1 <<< (i4 &&& 31)) ^^^ (-1))), .int (i2 + 1)] S C1 (zQv (fun C2 => vp_in i4 8 ∧ (vp_in i3 3 ∧ (vp_in (i1 &&& ((1 <<< (i4 &&& 31)) ^^^ (-1))) 256 ∧ (vp_in i3 3 ∧ (vp_in i1 256 ∧ (if ((C2.1 (e + 35) (Int32.toNatClampNeg i1)) : Int32) = (-1) then (vp_in i1 256 ∧ (zW X (d + 1) 231 116 [.ref e, .int i1, .int i2, .int i3, .int i4, .int (i1 &&& ((1 <<< (i4 &&& 31)) ^^^ (-1))), .int ((C2.1 ((e + 19) + Int32.toNatClampNeg i4) (Int32.toNatClampNeg i3)) + (C2.1 ((e + 37) + Int32.toNatClampNeg (i1 &&& ((1 <<< (i4 &&& 31)) ^^^ (-1)))) (Int32.toNatClampNeg i3))), .int 0] [] S (zp C2 (e + 35) (Int32.toNatClampNeg i1) i4) (zQv q))) else (vp_in i1 256 ∧ (vp_in i3 3 ∧ (if ((C2.1 ((e + 37) + Int32.toNatClampNeg i1) (Int32.toNatClampNeg i3)) : Int32) < ((C2.1 ((e + 19) + Int32.toNatClampNeg i4) (Int32.toNatClampNeg i3)) + (C2.1 ((e + 37) + Int32.toNatClampNeg (i1 &&& ((1 <<< (i4 &&& 31)) ^^^ (-1)))) (Int32.toNatClampNeg i3))) then (vp_in i1 256 ∧ (zW X (d + 1) 231 116 [.ref e, .int i1, .int i2, .int i3, .int i4, .int (i1 &&& ((1 <<< (i4 &&& 31)) ^^^ (-1))), .int ((C2.1 ((e + 19) + Int32.toNatClampNeg i4) (Int32.toNatClampNeg i3)) + (C2.1 ((e + 37) + Int32.toNatClampNeg (i1 &&& ((1 <<< (i4 &&& 31)) ^^^ (-1)))) (Int32.toNatClampNeg i3))), .int 0] [] S (zp C2 (e + 35) (Int32.toNatClampNeg i1) i4) (zQv q))) else (zW X (d + 1) 231 24 [.ref e, .int i1, .int i2, .int i3, .int (i4 + 1), .int (i1 &&& ((1 <<< (i4 &&& 31)) ^^^ (-1))), .int ((C2.1 ((e + 19) + Int32.toNatClampNeg i4) (Int32.toNatClampNeg i3)) + (C2.1 ((e + 37) + Int32.toNatClampNeg (i1 &&& ((1 <<< (i4 &&& 31)) ^^^ (-1)))) (Int32.toNatClampNeg i3))), z7] [] S C2 (zQv q)))))))))))))))) else (q C)) : zW X (d + 1) 231 24 [.ref e, .int i1, .int i2, .int i3, .int i4, z5, z6, z7] [] S C (zQv q) := by
  refine zw_iload (n := 26) d231_24 rfl rfl ?_
  refine zw_aload_n (n := 27) d231_26 rfl rfl ?_
  refine zw_geti (n := 30) d231_27 rfl (zj_5 hS).1 (zj_5 hS).2 ?_
  refine zw_ic_ge (n := 33) d231_30 rfl (zite h (fun h => ?_) (fun h => ?_))
  · skip
    refine zw_iload_n (n := 34) d231_33 rfl rfl ?_
    refine zw_iload (n := 36) d231_34 rfl rfl ?_
    refine zw_cI (n := 39) d231_36 (zs_S rfl rfl rfl rfl) (by rw [ml_174]; rfl) (by omega) rfl (zc_mI h (fun r1 C1 h => ?_))
    refine zw_if_eq (n := 42) d231_39 rfl (zite h (fun h => ?_) (fun h => ?_))
    · skip
      refine zw_iinc (n := 163) d231_160 rfl rfl zk_i_1 rfl ?_
      refine zw_goto d231_163 ?_
      exact h
    · skip
      refine zw_iload_n (n := 43) d231_42 rfl rfl ?_
      refine zw_iconst (n := 44) d231_43 rfl zk_i_1 ?_
      refine zw_iload (n := 46) d231_44 rfl rfl ?_
      refine zw_ishl (n := 47) d231_46 rfl ?_
      refine zw_iconst (n := 48) d231_47 rfl zk_i_m1 ?_
      refine zw_ixor (n := 49) d231_48 rfl ?_
      refine zw_iand (n := 50) d231_49 rfl ?_
      refine zw_istore (n := 52) d231_50 rfl rfl rfl ?_
      refine zw_aload_n (n := 53) d231_52 rfl rfl ?_
      refine zw_iload (n := 55) d231_53 rfl rfl ?_
      refine zw_iload_n (n := 56) d231_55 rfl rfl ?_
      refine zw_iconst (n := 57) d231_56 rfl zk_i_1 ?_
      refine zw_iadd (n := 58) d231_57 rfl ?_
      refine zw_cV (n := 61) d231_58 (zs_V rfl rfl rfl rfl (by decide) (zj_5 hS).1 (zq_5 hS)) (by rw [ml_231]; rfl) (Nat.le_refl _) rfl (zc_mV h (fun C2 h => ?_))
      refine zw_aload_n (n := 62) d231_61 rfl rfl ?_
      refine zw_getr (n := 65) d231_62 rfl (zj_5 hS).1 (zj_5 hS).2 (zr_5_12 hS) ?_
      refine zw_iload (n := 67) d231_65 rfl rfl ?_
      obtain ⟨hi, h⟩ := h
      have hb3 := zb_5_12 hS (vp_lt hi)
      refine zw_aald (n := 68) d231_67 rfl (za_5_12 hS).1 (za_5_12 hS).2 (by decide) hi hb3.1 ?_
      refine zw_iload_n (n := 69) d231_68 rfl rfl ?_
      obtain ⟨hi, h⟩ := h
      refine zw_iald (n := 70) d231_69 rfl hb3.2.1 hb3.2.2 hi ?_
      refine zw_aload_n (n := 71) d231_70 rfl rfl ?_
      refine zw_getr (n := 74) d231_71 rfl (zj_5 hS).1 (zj_5 hS).2 (zr_5_39 hS) ?_
      refine zw_iload (n := 76) d231_74 rfl rfl ?_
      obtain ⟨hi, h⟩ := h
      have hb4 := zb_5_39 hS (vp_lt hi)
      refine zw_aald (n := 77) d231_76 rfl (za_5_39 hS).1 (za_5_39 hS).2 (by decide) hi hb4.1 ?_
      refine zw_iload_n (n := 78) d231_77 rfl rfl ?_
      obtain ⟨hi, h⟩ := h
      refine zw_iald (n := 79) d231_78 rfl hb4.2.1 hb4.2.2 hi ?_
      refine zw_iadd (n := 80) d231_79 rfl ?_
      refine zw_istore (n := 82) d231_80 rfl rfl rfl ?_
      refine zw_aload_n (n := 83) d231_82 rfl rfl ?_
      refine zw_getr (n := 86) d231_83 rfl (zj_5 hS).1 (zj_5 hS).2 (zr_5_38 hS) ?_
      refine zw_iload_n (n := 87) d231_86 rfl rfl ?_
      obtain ⟨hi, h⟩ := h
      refine zw_iald (n := 88) d231_87 rfl (za_5_38 hS).1 (za_5_38 hS).2 hi ?_
      refine zw_iconst (n := 89) d231_88 rfl zk_i_m1 ?_
      refine zw_ic_eq (n := 92) d231_89 rfl (zite h (fun h => ?_) (fun h => ?_))
      · skip
        refine zw_aload_n (n := 106) d231_105 rfl rfl ?_
        refine zw_getr (n := 109) d231_106 rfl (zj_5 hS).1 (zj_5 hS).2 (zr_5_38 hS) ?_
        refine zw_iload_n (n := 110) d231_109 rfl rfl ?_
        refine zw_iload (n := 112) d231_110 rfl rfl ?_
        obtain ⟨hi, h⟩ := h
        refine zw_iast (n := 113) d231_112 rfl (za_5_38 hS).1 (za_5_38 hS).2 hi ?_
        refine zw_iconst (n := 114) d231_113 rfl zk_i_0 ?_
        refine zw_istore (n := 116) d231_114 rfl rfl rfl ?_
        exact h
      · skip
        refine zw_iload (n := 94) d231_92 rfl rfl ?_
        refine zw_aload_n (n := 95) d231_94 rfl rfl ?_
        refine zw_getr (n := 98) d231_95 rfl (zj_5 hS).1 (zj_5 hS).2 (zr_5_39 hS) ?_
        refine zw_iload_n (n := 99) d231_98 rfl rfl ?_
        obtain ⟨hi, h⟩ := h
        have hb5 := zb_5_39 hS (vp_lt hi)
        refine zw_aald (n := 100) d231_99 rfl (za_5_39 hS).1 (za_5_39 hS).2 (by decide) hi hb5.1 ?_
        refine zw_iload_n (n := 101) d231_100 rfl rfl ?_
        obtain ⟨hi, h⟩ := h
        refine zw_iald (n := 102) d231_101 rfl hb5.2.1 hb5.2.2 hi ?_
        refine zw_ic_le (n := 105) d231_102 rfl (zite h (fun h => ?_) (fun h => ?_))
        · skip
          refine zw_aload_n (n := 106) d231_105 rfl rfl ?_
          refine zw_getr (n := 109) d231_106 rfl (zj_5 hS).1 (zj_5 hS).2 (zr_5_38 hS) ?_
          refine zw_iload_n (n := 110) d231_109 rfl rfl ?_
          refine zw_iload (n := 112) d231_110 rfl rfl ?_
          obtain ⟨hi, h⟩ := h
          refine zw_iast (n := 113) d231_112 rfl (za_5_38 hS).1 (za_5_38 hS).2 hi ?_
          refine zw_iconst (n := 114) d231_113 rfl zk_i_0 ?_
          refine zw_istore (n := 116) d231_114 rfl rfl rfl ?_
          exact h
        · skip
          refine zw_iinc (n := 163) d231_160 rfl rfl zk_i_1 rfl ?_
          refine zw_goto d231_163 ?_
          exact h
  · skip
    exact zw_ret d231_166 ⟨rfl, h⟩
theorem vc231_116 {X : zX} {S : zx_S} {C : zx_C} {q : zx_C → Prop} {d : Nat} (hd : 1 ≤ d) {e : Nat} {a1 : Int32} {a2 : Int32} {i1 : Int32} {i2 : Int32} {i3 : Int32} {i4 : Int32} {i5 : Int32} {i6 : Int32} {i7 : Int32} (hS : zs_5 S e) (h : if (i7 : Int32) < (C.1 e 10) then (vp_in i1 256 ∧ (vp_in i5 256 ∧ (vp_in i7 3 ∧ (vp_in i7 3 ∧ (zW X (d + 1) 231 116 [.ref e, .int i1, .int i2, .int i3, .int i4, .int i5, .int i6, .int (i7 + 1)] [] S (zp C ((e + 37) + Int32.toNatClampNeg i1) (Int32.toNatClampNeg i7) (C.1 ((e + 37) + Int32.toNatClampNeg i5) (Int32.toNatClampNeg i7))) (zQv q)))))) else (vp_in i1 256 ∧ (vp_in i3 3 ∧ (zW X (d + 1) 231 24 [.ref e, .int i1, .int i2, .int i3, .int (i4 + 1), .int i5, .int i6, .int i7] [] S (zp C ((e + 37) + Int32.toNatClampNeg i1) (Int32.toNatClampNeg i3) i6) (zQv q))))) : zW X (d + 1) 231 116 [.ref e, .int i1, .int i2, .int i3, .int i4, .int i5, .int i6, .int i7] [] S C (zQv q) := by
  refine zw_iload (n := 118) d231_116 rfl rfl ?_
  refine zw_aload_n (n := 119) d231_118 rfl rfl ?_
  refine zw_geti (n := 122) d231_119 rfl (zj_5 hS).1 (zj_5 hS).2 ?_
  refine zw_ic_ge (n := 125) d231_122 rfl (zite h (fun h => ?_) (fun h => ?_))
  · skip
    refine zw_aload_n (n := 126) d231_125 rfl rfl ?_
    refine zw_getr (n := 129) d231_126 rfl (zj_5 hS).1 (zj_5 hS).2 (zr_5_39 hS) ?_
    refine zw_iload_n (n := 130) d231_129 rfl rfl ?_
    obtain ⟨hi, h⟩ := h
    have hb1 := zb_5_39 hS (vp_lt hi)
    refine zw_aald (n := 131) d231_130 rfl (za_5_39 hS).1 (za_5_39 hS).2 (by decide) hi hb1.1 ?_
    refine zw_iload (n := 133) d231_131 rfl rfl ?_
    refine zw_aload_n (n := 134) d231_133 rfl rfl ?_
    refine zw_getr (n := 137) d231_134 rfl (zj_5 hS).1 (zj_5 hS).2 (zr_5_39 hS) ?_
    refine zw_iload (n := 139) d231_137 rfl rfl ?_
    obtain ⟨hi, h⟩ := h
    have hb2 := zb_5_39 hS (vp_lt hi)
    refine zw_aald (n := 140) d231_139 rfl (za_5_39 hS).1 (za_5_39 hS).2 (by decide) hi hb2.1 ?_
    refine zw_iload (n := 142) d231_140 rfl rfl ?_
    obtain ⟨hi, h⟩ := h
    refine zw_iald (n := 143) d231_142 rfl hb2.2.1 hb2.2.2 hi ?_
    obtain ⟨hi, h⟩ := h
    refine zw_iast (n := 144) d231_143 rfl hb1.2.1 hb1.2.2 hi ?_
    refine zw_iinc (n := 147) d231_144 rfl rfl zk_i_1 rfl ?_
    refine zw_goto d231_147 ?_
    exact h
  · skip
    refine zw_aload_n (n := 151) d231_150 rfl rfl ?_
    refine zw_getr (n := 154) d231_151 rfl (zj_5 hS).1 (zj_5 hS).2 (zr_5_39 hS) ?_
    refine zw_iload_n (n := 155) d231_154 rfl rfl ?_
    obtain ⟨hi, h⟩ := h
    have hb3 := zb_5_39 hS (vp_lt hi)
    refine zw_aald (n := 156) d231_155 rfl (za_5_39 hS).1 (za_5_39 hS).2 (by decide) hi hb3.1 ?_
    refine zw_iload_n (n := 157) d231_156 rfl rfl ?_
    refine zw_iload (n := 159) d231_157 rfl rfl ?_
    obtain ⟨hi, h⟩ := h
    refine zw_iast (n := 160) d231_159 rfl hb3.2.1 hb3.2.2 hi ?_
    refine zw_iinc (n := 163) d231_160 rfl rfl zk_i_1 rfl ?_
    refine zw_goto d231_163 ?_
    exact h

set_option maxRecDepth 20000 in
theorem zf232 (pc : Nat) : zt_code 232 pc = zt_fd zl_232 pc := rfl
theorem d232_0 : zt_code 232 0 = some (.iload_n 1, 0, 0, 0) := (zf232 0).trans rfl
theorem d232_1 : zt_code 232 1 = some (.i2l, 0, 0, 0) := (zf232 1).trans rfl
theorem d232_2 : zt_code 232 2 = some (.lconst 0, 0, 0, 0) := (zf232 2).trans rfl
theorem d232_3 : zt_code 232 3 = some (.ldc2_w 148, 0, 0, 3) := (zf232 3).trans rfl
theorem d232_6 : zt_code 232 6 = some (.invokestatic 94, 159, 3, -1) := (zf232 6).trans rfl
theorem d232_9 : zt_code 232 9 = some (.ifCond .ne (10), 0, 19, 0) := (zf232 9).trans rfl
theorem d232_12 : zt_code 232 12 = some (.aload_n 0, 0, 0, 0) := (zf232 12).trans rfl
theorem d232_13 : zt_code 232 13 = some (.bipush (-2), 0, 0, 0) := (zf232 13).trans rfl
theorem d232_15 : zt_code 232 15 = some (.invokevirtual 107, 160, 2, 5) := (zf232 15).trans rfl
theorem d232_18 : zt_code 232 18 = some (.ireturn, 0, 0, 0) := (zf232 18).trans rfl
theorem d232_19 : zt_code 232 19 = some (.aload_n 0, 0, 0, 0) := (zf232 19).trans rfl
theorem d232_20 : zt_code 232 20 = some (.invokevirtual 135, 172, 1, 5) := (zf232 20).trans rfl
theorem d232_23 : zt_code 232 23 = some (.ifCond .ne (10), 0, 33, 0) := (zf232 23).trans rfl
theorem d232_26 : zt_code 232 26 = some (.aload_n 0, 0, 0, 0) := (zf232 26).trans rfl
theorem d232_27 : zt_code 232 27 = some (.bipush (-5), 0, 0, 0) := (zf232 27).trans rfl
theorem d232_29 : zt_code 232 29 = some (.invokevirtual 107, 160, 2, 5) := (zf232 29).trans rfl
theorem d232_32 : zt_code 232 32 = some (.ireturn, 0, 0, 0) := (zf232 32).trans rfl
theorem d232_33 : zt_code 232 33 = some (.aload_n 0, 0, 0, 0) := (zf232 33).trans rfl
theorem d232_34 : zt_code 232 34 = some (.iload_n 1, 0, 0, 0) := (zf232 34).trans rfl
theorem d232_35 : zt_code 232 35 = some (.invokevirtual 325, 230, 2, 5) := (zf232 35).trans rfl
theorem d232_38 : zt_code 232 38 = some (.aload_n 0, 0, 0, 0) := (zf232 38).trans rfl
theorem d232_39 : zt_code 232 39 = some (.getfield 82, 5, 38, 1) := (zf232 39).trans rfl
theorem d232_42 : zt_code 232 42 = some (.aload_n 0, 0, 0, 0) := (zf232 42).trans rfl
theorem d232_43 : zt_code 232 43 = some (.invokevirtual 135, 172, 1, 5) := (zf232 43).trans rfl
theorem d232_46 : zt_code 232 46 = some (.iaload, 0, 0, 0) := (zf232 46).trans rfl
theorem d232_47 : zt_code 232 47 = some (.ireturn, 0, 0, 0) := (zf232 47).trans rfl
/-- FirstAtTheFirstModel.opening(I)I -/
theorem vc232 {X : zX} {S : zx_S} {C : zx_C} {q : Int32 → zx_C → Prop} {e : Nat} {a1 : Int32} (hS : zs_5 S e) (h : zCd X 0 159 [.long (Int32.toInt64 a1), .long 0, .long 3] S C (zQi (fun r1 C1 => if (r1 : Int32) = 0 then (zCd X 0 160 [.ref e, .int (-2)] S C1 (zQi (fun r2 C2 => q r2 C2))) else (zCd X 0 172 [.ref e] S C1 (zQi (fun r3 C3 => if (r3 : Int32) = 0 then (zCd X 0 160 [.ref e, .int (-5)] S C3 (zQi (fun r4 C4 => q r4 C4))) else (zCd X 32 230 [.ref e, .int a1] S C3 (zQv (fun C5 => zCd X 0 172 [.ref e] S C5 (zQi (fun r6 C6 => vp_in r6 256 ∧ (q (C6.1 (e + 35) (Int32.toNatClampNeg r6)) C6)))))))))))) : zCd X 33 232 [.ref e, .int a1] S C (zQi q) := by
  refine zc_in ml_232 rfl ?_
  refine zw_iload_n (n := 1) d232_0 rfl rfl ?_
  refine zw_i2l (n := 2) d232_1 rfl ?_
  refine zw_lconst (n := 3) d232_2 rfl zk_c_0 ?_
  refine zw_ldc2 (n := 6) d232_3 rfl zk_l_3 ?_
  refine zw_cI (n := 9) d232_6 (zs_S rfl rfl rfl rfl) (by rw [ml_159]; rfl) (by decide) rfl (zc_mI h (fun r1 C1 h => ?_))
  refine zw_if_ne (n := 12) d232_9 rfl (zite h (fun h => ?_) (fun h => ?_))
  · skip
    refine zw_aload_n (n := 13) d232_12 rfl rfl ?_
    refine zw_bipush (n := 15) d232_13 rfl zk_b_m2 ?_
    refine zw_cI (n := 18) d232_15 (zs_V rfl rfl rfl rfl (by decide) (zj_5 hS).1 (zq_5 hS)) (by rw [ml_160]; rfl) (by decide) rfl (zc_mI h (fun r2 C2 h => ?_))
    exact zw_iret d232_18 rfl ⟨_, rfl, h⟩
  · skip
    refine zw_aload_n (n := 20) d232_19 rfl rfl ?_
    refine zw_cI (n := 23) d232_20 (zs_V rfl rfl rfl rfl (by decide) (zj_5 hS).1 (zq_5 hS)) (by rw [ml_172]; rfl) (by decide) rfl (zc_mI h (fun r3 C3 h => ?_))
    refine zw_if_ne (n := 26) d232_23 rfl (zite h (fun h => ?_) (fun h => ?_))
    · skip
      refine zw_aload_n (n := 27) d232_26 rfl rfl ?_
      refine zw_bipush (n := 29) d232_27 rfl zk_b_m5 ?_
      refine zw_cI (n := 32) d232_29 (zs_V rfl rfl rfl rfl (by decide) (zj_5 hS).1 (zq_5 hS)) (by rw [ml_160]; rfl) (by decide) rfl (zc_mI h (fun r4 C4 h => ?_))
      exact zw_iret d232_32 rfl ⟨_, rfl, h⟩
    · skip
      refine zw_aload_n (n := 34) d232_33 rfl rfl ?_
      refine zw_iload_n (n := 35) d232_34 rfl rfl ?_
      refine zw_cV (n := 38) d232_35 (zs_V rfl rfl rfl rfl (by decide) (zj_5 hS).1 (zq_5 hS)) (by rw [ml_230]; rfl) (by decide) rfl (zc_mV h (fun C5 h => ?_))
      refine zw_aload_n (n := 39) d232_38 rfl rfl ?_
      refine zw_getr (n := 42) d232_39 rfl (zj_5 hS).1 (zj_5 hS).2 (zr_5_38 hS) ?_
      refine zw_aload_n (n := 43) d232_42 rfl rfl ?_
      refine zw_cI (n := 46) d232_43 (zs_V rfl rfl rfl rfl (by decide) (zj_5 hS).1 (zq_5 hS)) (by rw [ml_172]; rfl) (by decide) rfl (zc_mI h (fun r6 C6 h => ?_))
      obtain ⟨hi, h⟩ := h
      refine zw_iald (n := 47) d232_46 rfl (za_5_38 hS).1 (za_5_38 hS).2 hi ?_
      exact zw_iret d232_47 rfl ⟨_, rfl, h⟩

set_option maxRecDepth 20000 in
theorem zf233 (pc : Nat) : zt_code 233 pc = zt_fd zl_233 pc := rfl
theorem d233_0 : zt_code 233 0 = some (.iload_n 1, 0, 0, 0) := (zf233 0).trans rfl
theorem d233_1 : zt_code 233 1 = some (.iconst (-1), 0, 0, 0) := (zf233 1).trans rfl
theorem d233_2 : zt_code 233 2 = some (.if_icmp .ge (10), 0, 12, 0) := (zf233 2).trans rfl
theorem d233_5 : zt_code 233 5 = some (.aload_n 0, 0, 0, 0) := (zf233 5).trans rfl
theorem d233_6 : zt_code 233 6 = some (.bipush (-2), 0, 0, 0) := (zf233 6).trans rfl
theorem d233_8 : zt_code 233 8 = some (.invokevirtual 107, 160, 2, 5) := (zf233 8).trans rfl
theorem d233_11 : zt_code 233 11 = some (.ireturn, 0, 0, 0) := (zf233 11).trans rfl
theorem d233_12 : zt_code 233 12 = some (.aload_n 0, 0, 0, 0) := (zf233 12).trans rfl
theorem d233_13 : zt_code 233 13 = some (.invokevirtual 135, 172, 1, 5) := (zf233 13).trans rfl
theorem d233_16 : zt_code 233 16 = some (.invokestatic 300, 183, 1, -1) := (zf233 16).trans rfl
theorem d233_19 : zt_code 233 19 = some (.istore_n 2, 0, 0, 0) := (zf233 19).trans rfl
theorem d233_20 : zt_code 233 20 = some (.iload_n 1, 0, 0, 0) := (zf233 20).trans rfl
theorem d233_21 : zt_code 233 21 = some (.iload_n 2, 0, 0, 0) := (zf233 21).trans rfl
theorem d233_22 : zt_code 233 22 = some (.if_icmp .lt (10), 0, 32, 0) := (zf233 22).trans rfl
theorem d233_25 : zt_code 233 25 = some (.aload_n 0, 0, 0, 0) := (zf233 25).trans rfl
theorem d233_26 : zt_code 233 26 = some (.bipush (-5), 0, 0, 0) := (zf233 26).trans rfl
theorem d233_28 : zt_code 233 28 = some (.invokevirtual 107, 160, 2, 5) := (zf233 28).trans rfl
theorem d233_31 : zt_code 233 31 = some (.ireturn, 0, 0, 0) := (zf233 31).trans rfl
theorem d233_32 : zt_code 233 32 = some (.aload_n 0, 0, 0, 0) := (zf233 32).trans rfl
theorem d233_33 : zt_code 233 33 = some (.iconst (-1), 0, 0, 0) := (zf233 33).trans rfl
theorem d233_34 : zt_code 233 34 = some (.invokevirtual 131, 171, 2, 5) := (zf233 34).trans rfl
theorem d233_37 : zt_code 233 37 = some (.aload_n 0, 0, 0, 0) := (zf233 37).trans rfl
theorem d233_38 : zt_code 233 38 = some (.aload_n 0, 0, 0, 0) := (zf233 38).trans rfl
theorem d233_39 : zt_code 233 39 = some (.getfield 139, 5, 18, 0) := (zf233 39).trans rfl
theorem d233_42 : zt_code 233 42 = some (.putfield 274, 5, 32, 0) := (zf233 42).trans rfl
theorem d233_45 : zt_code 233 45 = some (.aload_n 0, 0, 0, 0) := (zf233 45).trans rfl
theorem d233_46 : zt_code 233 46 = some (.iload_n 2, 0, 0, 0) := (zf233 46).trans rfl
theorem d233_47 : zt_code 233 47 = some (.putfield 277, 5, 31, 0) := (zf233 47).trans rfl
theorem d233_50 : zt_code 233 50 = some (.aload_n 0, 0, 0, 0) := (zf233 50).trans rfl
theorem d233_51 : zt_code 233 51 = some (.iconst (-1), 0, 0, 0) := (zf233 51).trans rfl
theorem d233_52 : zt_code 233 52 = some (.putfield 331, 5, 41, 0) := (zf233 52).trans rfl
theorem d233_55 : zt_code 233 55 = some (.aload_n 0, 0, 0, 0) := (zf233 55).trans rfl
theorem d233_56 : zt_code 233 56 = some (.iconst (0), 0, 0, 0) := (zf233 56).trans rfl
theorem d233_57 : zt_code 233 57 = some (.iload_n 2, 0, 0, 0) := (zf233 57).trans rfl
theorem d233_58 : zt_code 233 58 = some (.invokevirtual 334, 234, 3, 5) := (zf233 58).trans rfl
theorem d233_61 : zt_code 233 61 = some (.iload_n 1, 0, 0, 0) := (zf233 61).trans rfl
theorem d233_62 : zt_code 233 62 = some (.iconst (-1), 0, 0, 0) := (zf233 62).trans rfl
theorem d233_63 : zt_code 233 63 = some (.if_icmp .ne (10), 0, 73, 0) := (zf233 63).trans rfl
theorem d233_66 : zt_code 233 66 = some (.aload_n 0, 0, 0, 0) := (zf233 66).trans rfl
theorem d233_67 : zt_code 233 67 = some (.getfield 331, 5, 41, 0) := (zf233 67).trans rfl
theorem d233_70 : zt_code 233 70 = some (.goto (9), 0, 79, 0) := (zf233 70).trans rfl
theorem d233_73 : zt_code 233 73 = some (.aload_n 0, 0, 0, 0) := (zf233 73).trans rfl
theorem d233_74 : zt_code 233 74 = some (.getfield 88, 5, 40, 1) := (zf233 74).trans rfl
theorem d233_77 : zt_code 233 77 = some (.iload_n 1, 0, 0, 0) := (zf233 77).trans rfl
theorem d233_78 : zt_code 233 78 = some (.iaload, 0, 0, 0) := (zf233 78).trans rfl
theorem d233_79 : zt_code 233 79 = some (.ireturn, 0, 0, 0) := (zf233 79).trans rfl
/-- FirstAtTheFirstModel.fairest(I)I -/
theorem vc233 {X : zX} {S : zx_S} {C : zx_C} {q : Int32 → zx_C → Prop} {e : Nat} {a1 : Int32} (hS : zs_5 S e) (h : if (a1 : Int32) < (-1) then (zCd X 0 160 [.ref e, .int (-2)] S C (zQi (fun r1 C1 => q r1 C1))) else (zCd X 0 172 [.ref e] S C (zQi (fun r2 C2 => zCd X 0 183 [.int r2] S C2 (zQi (fun r3 C3 => if (a1 : Int32) < r3 then (zCd X 0 171 [.ref e, .int (-1)] S C3 (zQv (fun C4 => zCd X 63 234 [.ref e, .int 0, .int r3] S (zp (zp (zp C4 e 32 (C4.1 e 18)) e 31 r3) e 41 (-1)) (zQv (fun C5 => if (a1 : Int32) = (-1) then (q (C5.1 e 41) C5) else (vp_in a1 8 ∧ (q (C5.1 (e + 293) (Int32.toNatClampNeg a1)) C5))))))) else (zCd X 0 160 [.ref e, .int (-5)] S C3 (zQi (fun r6 C6 => q r6 C6))))))))) : zCd X 64 233 [.ref e, .int a1] S C (zQi q) := by
  refine zc_in ml_233 rfl ?_
  refine zw_iload_n (n := 1) d233_0 rfl rfl ?_
  refine zw_iconst (n := 2) d233_1 rfl zk_i_m1 ?_
  refine zw_ic_ge (n := 5) d233_2 rfl (zite h (fun h => ?_) (fun h => ?_))
  · skip
    refine zw_aload_n (n := 6) d233_5 rfl rfl ?_
    refine zw_bipush (n := 8) d233_6 rfl zk_b_m2 ?_
    refine zw_cI (n := 11) d233_8 (zs_V rfl rfl rfl rfl (by decide) (zj_5 hS).1 (zq_5 hS)) (by rw [ml_160]; rfl) (by decide) rfl (zc_mI h (fun r1 C1 h => ?_))
    exact zw_iret d233_11 rfl ⟨_, rfl, h⟩
  · skip
    refine zw_aload_n (n := 13) d233_12 rfl rfl ?_
    refine zw_cI (n := 16) d233_13 (zs_V rfl rfl rfl rfl (by decide) (zj_5 hS).1 (zq_5 hS)) (by rw [ml_172]; rfl) (by decide) rfl (zc_mI h (fun r2 C2 h => ?_))
    refine zw_cI (n := 19) d233_16 (zs_S rfl rfl rfl rfl) (by rw [ml_183]; rfl) (by decide) rfl (zc_mI h (fun r3 C3 h => ?_))
    refine zw_istore_n (n := 20) d233_19 rfl rfl rfl ?_
    refine zw_iload_n (n := 21) d233_20 rfl rfl ?_
    refine zw_iload_n (n := 22) d233_21 rfl rfl ?_
    refine zw_ic_lt (n := 25) d233_22 rfl (zite h (fun h => ?_) (fun h => ?_))
    · skip
      refine zw_aload_n (n := 33) d233_32 rfl rfl ?_
      refine zw_iconst (n := 34) d233_33 rfl zk_i_m1 ?_
      refine zw_cV (n := 37) d233_34 (zs_V rfl rfl rfl rfl (by decide) (zj_5 hS).1 (zq_5 hS)) (by rw [ml_171]; rfl) (by decide) rfl (zc_mV h (fun C4 h => ?_))
      refine zw_aload_n (n := 38) d233_37 rfl rfl ?_
      refine zw_aload_n (n := 39) d233_38 rfl rfl ?_
      refine zw_geti (n := 42) d233_39 rfl (zj_5 hS).1 (zj_5 hS).2 ?_
      refine zw_puti (n := 45) d233_42 rfl (zj_5 hS).1 (zj_5 hS).2 ?_
      refine zw_aload_n (n := 46) d233_45 rfl rfl ?_
      refine zw_iload_n (n := 47) d233_46 rfl rfl ?_
      refine zw_puti (n := 50) d233_47 rfl (zj_5 hS).1 (zj_5 hS).2 ?_
      refine zw_aload_n (n := 51) d233_50 rfl rfl ?_
      refine zw_iconst (n := 52) d233_51 rfl zk_i_m1 ?_
      refine zw_puti (n := 55) d233_52 rfl (zj_5 hS).1 (zj_5 hS).2 ?_
      refine zw_aload_n (n := 56) d233_55 rfl rfl ?_
      refine zw_iconst (n := 57) d233_56 rfl zk_i_0 ?_
      refine zw_iload_n (n := 58) d233_57 rfl rfl ?_
      refine zw_cV (n := 61) d233_58 (zs_V rfl rfl rfl rfl (by decide) (zj_5 hS).1 (zq_5 hS)) (by rw [ml_234]; rfl) (by decide) rfl (zc_mV h (fun C5 h => ?_))
      refine zw_iload_n (n := 62) d233_61 rfl rfl ?_
      refine zw_iconst (n := 63) d233_62 rfl zk_i_m1 ?_
      refine zw_ic_ne (n := 66) d233_63 rfl (zite h (fun h => ?_) (fun h => ?_))
      · skip
        refine zw_aload_n (n := 67) d233_66 rfl rfl ?_
        refine zw_geti (n := 70) d233_67 rfl (zj_5 hS).1 (zj_5 hS).2 ?_
        refine zw_goto d233_70 ?_
        exact zw_iret d233_79 rfl ⟨_, rfl, h⟩
      · skip
        refine zw_aload_n (n := 74) d233_73 rfl rfl ?_
        refine zw_getr (n := 77) d233_74 rfl (zj_5 hS).1 (zj_5 hS).2 (zr_5_40 hS) ?_
        refine zw_iload_n (n := 78) d233_77 rfl rfl ?_
        obtain ⟨hi, h⟩ := h
        refine zw_iald (n := 79) d233_78 rfl (za_5_40 hS).1 (za_5_40 hS).2 hi ?_
        exact zw_iret d233_79 rfl ⟨_, rfl, h⟩
    · skip
      refine zw_aload_n (n := 26) d233_25 rfl rfl ?_
      refine zw_bipush (n := 28) d233_26 rfl zk_b_m5 ?_
      refine zw_cI (n := 31) d233_28 (zs_V rfl rfl rfl rfl (by decide) (zj_5 hS).1 (zq_5 hS)) (by rw [ml_160]; rfl) (by decide) rfl (zc_mI h (fun r6 C6 h => ?_))
      exact zw_iret d233_31 rfl ⟨_, rfl, h⟩

set_option maxRecDepth 20000 in
theorem zf234 (pc : Nat) : zt_code 234 pc = zt_fd zl_234 pc := rfl
theorem d234_0 : zt_code 234 0 = some (.iload_n 1, 0, 0, 0) := (zf234 0).trans rfl
theorem d234_1 : zt_code 234 1 = some (.iload_n 2, 0, 0, 0) := (zf234 1).trans rfl
theorem d234_2 : zt_code 234 2 = some (.if_icmp .ne (71), 0, 73, 0) := (zf234 2).trans rfl
theorem d234_5 : zt_code 234 5 = some (.aload_n 0, 0, 0, 0) := (zf234 5).trans rfl
theorem d234_6 : zt_code 234 6 = some (.iload_n 2, 0, 0, 0) := (zf234 6).trans rfl
theorem d234_7 : zt_code 234 7 = some (.invokevirtual 328, 235, 2, 5) := (zf234 7).trans rfl
theorem d234_10 : zt_code 234 10 = some (.ifCond .eq (62), 0, 72, 0) := (zf234 10).trans rfl
theorem d234_13 : zt_code 234 13 = some (.aload_n 0, 0, 0, 0) := (zf234 13).trans rfl
theorem d234_14 : zt_code 234 14 = some (.invokevirtual 312, 224, 1, 5) := (zf234 14).trans rfl
theorem d234_17 : zt_code 234 17 = some (.aload_n 0, 0, 0, 0) := (zf234 17).trans rfl
theorem d234_18 : zt_code 234 18 = some (.invokevirtual 318, 227, 1, 5) := (zf234 18).trans rfl
theorem d234_21 : zt_code 234 21 = some (.istore_n 3, 0, 0, 0) := (zf234 21).trans rfl
theorem d234_22 : zt_code 234 22 = some (.aload_n 0, 0, 0, 0) := (zf234 22).trans rfl
theorem d234_23 : zt_code 234 23 = some (.getfield 331, 5, 41, 0) := (zf234 23).trans rfl
theorem d234_26 : zt_code 234 26 = some (.iconst (-1), 0, 0, 0) := (zf234 26).trans rfl
theorem d234_27 : zt_code 234 27 = some (.if_icmp .eq (11), 0, 38, 0) := (zf234 27).trans rfl
theorem d234_30 : zt_code 234 30 = some (.iload_n 3, 0, 0, 0) := (zf234 30).trans rfl
theorem d234_31 : zt_code 234 31 = some (.aload_n 0, 0, 0, 0) := (zf234 31).trans rfl
theorem d234_32 : zt_code 234 32 = some (.getfield 331, 5, 41, 0) := (zf234 32).trans rfl
theorem d234_35 : zt_code 234 35 = some (.if_icmp .ge (37), 0, 72, 0) := (zf234 35).trans rfl
theorem d234_38 : zt_code 234 38 = some (.aload_n 0, 0, 0, 0) := (zf234 38).trans rfl
theorem d234_39 : zt_code 234 39 = some (.iload_n 3, 0, 0, 0) := (zf234 39).trans rfl
theorem d234_40 : zt_code 234 40 = some (.putfield 331, 5, 41, 0) := (zf234 40).trans rfl
theorem d234_43 : zt_code 234 43 = some (.iconst (0), 0, 0, 0) := (zf234 43).trans rfl
theorem d234_44 : zt_code 234 44 = some (.istore 4, 0, 0, 0) := (zf234 44).trans rfl
theorem d234_46 : zt_code 234 46 = some (.iload 4, 0, 0, 0) := (zf234 46).trans rfl
theorem d234_48 : zt_code 234 48 = some (.iload_n 2, 0, 0, 0) := (zf234 48).trans rfl
theorem d234_49 : zt_code 234 49 = some (.if_icmp .ge (23), 0, 72, 0) := (zf234 49).trans rfl
theorem d234_52 : zt_code 234 52 = some (.aload_n 0, 0, 0, 0) := (zf234 52).trans rfl
theorem d234_53 : zt_code 234 53 = some (.getfield 88, 5, 40, 1) := (zf234 53).trans rfl
theorem d234_56 : zt_code 234 56 = some (.iload 4, 0, 0, 0) := (zf234 56).trans rfl
theorem d234_58 : zt_code 234 58 = some (.aload_n 0, 0, 0, 0) := (zf234 58).trans rfl
theorem d234_59 : zt_code 234 59 = some (.getfield 67, 5, 30, 1) := (zf234 59).trans rfl
theorem d234_62 : zt_code 234 62 = some (.iload 4, 0, 0, 0) := (zf234 62).trans rfl
theorem d234_64 : zt_code 234 64 = some (.iaload, 0, 0, 0) := (zf234 64).trans rfl
theorem d234_65 : zt_code 234 65 = some (.iastore, 0, 0, 0) := (zf234 65).trans rfl
theorem d234_66 : zt_code 234 66 = some (.iinc 4 (1), 0, 0, 0) := (zf234 66).trans rfl
theorem d234_69 : zt_code 234 69 = some (.goto (-23), 0, 46, 0) := (zf234 69).trans rfl
theorem d234_72 : zt_code 234 72 = some (.return_, 0, 0, 0) := (zf234 72).trans rfl
theorem d234_73 : zt_code 234 73 = some (.iconst (0), 0, 0, 0) := (zf234 73).trans rfl
theorem d234_74 : zt_code 234 74 = some (.istore_n 3, 0, 0, 0) := (zf234 74).trans rfl
theorem d234_75 : zt_code 234 75 = some (.iload_n 3, 0, 0, 0) := (zf234 75).trans rfl
theorem d234_76 : zt_code 234 76 = some (.aload_n 0, 0, 0, 0) := (zf234 76).trans rfl
theorem d234_77 : zt_code 234 77 = some (.getfield 40, 5, 10, 0) := (zf234 77).trans rfl
theorem d234_80 : zt_code 234 80 = some (.if_icmp .ge (24), 0, 104, 0) := (zf234 80).trans rfl
theorem d234_83 : zt_code 234 83 = some (.aload_n 0, 0, 0, 0) := (zf234 83).trans rfl
theorem d234_84 : zt_code 234 84 = some (.getfield 67, 5, 30, 1) := (zf234 84).trans rfl
theorem d234_87 : zt_code 234 87 = some (.iload_n 1, 0, 0, 0) := (zf234 87).trans rfl
theorem d234_88 : zt_code 234 88 = some (.iload_n 3, 0, 0, 0) := (zf234 88).trans rfl
theorem d234_89 : zt_code 234 89 = some (.iastore, 0, 0, 0) := (zf234 89).trans rfl
theorem d234_90 : zt_code 234 90 = some (.aload_n 0, 0, 0, 0) := (zf234 90).trans rfl
theorem d234_91 : zt_code 234 91 = some (.iload_n 1, 0, 0, 0) := (zf234 91).trans rfl
theorem d234_92 : zt_code 234 92 = some (.iconst (1), 0, 0, 0) := (zf234 92).trans rfl
theorem d234_93 : zt_code 234 93 = some (.iadd, 0, 0, 0) := (zf234 93).trans rfl
theorem d234_94 : zt_code 234 94 = some (.iload_n 2, 0, 0, 0) := (zf234 94).trans rfl
theorem d234_95 : zt_code 234 95 = some (.invokevirtual 334, 234, 3, 5) := (zf234 95).trans rfl
theorem d234_98 : zt_code 234 98 = some (.iinc 3 (1), 0, 0, 0) := (zf234 98).trans rfl
theorem d234_101 : zt_code 234 101 = some (.goto (-26), 0, 75, 0) := (zf234 101).trans rfl
theorem d234_104 : zt_code 234 104 = some (.return_, 0, 0, 0) := (zf234 104).trans rfl
/-- FirstAtTheFirstModel.seekFairest(II)V -/
theorem vc234 {X : zX} {S : zx_S} {C : zx_C} {q : zx_C → Prop} {d : Nat} (hd : 33 ≤ d) {e : Nat} {a1 : Int32} {a2 : Int32} (hS : zs_5 S e) (h : if (a1 : Int32) = a2 then (zCd X 0 235 [.ref e, .int a2] S C (zQi (fun r1 C1 => if (r1 : Int32) = 0 then (q C1) else (zCd X 33 224 [.ref e] S C1 (zQv (fun C2 => zCd X 0 227 [.ref e] S C2 (zQi (fun r3 C3 => if ((C3.1 e 41) : Int32) = (-1) then (zW X (d + 1) 234 46 [.ref e, .int a1, .int a2, .int r3, .int 0] [] S (zp C3 e 41 r3) (zQv q)) else (if (r3 : Int32) < (C3.1 e 41) then (zW X (d + 1) 234 46 [.ref e, .int a1, .int a2, .int r3, .int 0] [] S (zp C3 e 41 r3) (zQv q)) else (q C3)))))))))) else (zW X (d + 1) 234 75 [.ref e, .int a1, .int a2, .int 0, .retAddr 0] [] S C (zQv q))) : zCd X (d + 1) 234 [.ref e, .int a1, .int a2] S C (zQv q) := by
  refine zc_in ml_234 rfl ?_
  refine zw_iload_n (n := 1) d234_0 rfl rfl ?_
  refine zw_iload_n (n := 2) d234_1 rfl rfl ?_
  refine zw_ic_ne (n := 5) d234_2 rfl (zite h (fun h => ?_) (fun h => ?_))
  · skip
    refine zw_aload_n (n := 6) d234_5 rfl rfl ?_
    refine zw_iload_n (n := 7) d234_6 rfl rfl ?_
    refine zw_cI (n := 10) d234_7 (zs_V rfl rfl rfl rfl (by decide) (zj_5 hS).1 (zq_5 hS)) (by rw [ml_235]; rfl) (by omega) rfl (zc_mI h (fun r1 C1 h => ?_))
    refine zw_if_eq (n := 13) d234_10 rfl (zite h (fun h => ?_) (fun h => ?_))
    · skip
      exact zw_ret d234_72 ⟨rfl, h⟩
    · skip
      refine zw_aload_n (n := 14) d234_13 rfl rfl ?_
      refine zw_cV (n := 17) d234_14 (zs_V rfl rfl rfl rfl (by decide) (zj_5 hS).1 (zq_5 hS)) (by rw [ml_224]; rfl) (by omega) rfl (zc_mV h (fun C2 h => ?_))
      refine zw_aload_n (n := 18) d234_17 rfl rfl ?_
      refine zw_cI (n := 21) d234_18 (zs_V rfl rfl rfl rfl (by decide) (zj_5 hS).1 (zq_5 hS)) (by rw [ml_227]; rfl) (by omega) rfl (zc_mI h (fun r3 C3 h => ?_))
      refine zw_istore_n (n := 22) d234_21 rfl rfl rfl ?_
      refine zw_aload_n (n := 23) d234_22 rfl rfl ?_
      refine zw_geti (n := 26) d234_23 rfl (zj_5 hS).1 (zj_5 hS).2 ?_
      refine zw_iconst (n := 27) d234_26 rfl zk_i_m1 ?_
      refine zw_ic_eq (n := 30) d234_27 rfl (zite h (fun h => ?_) (fun h => ?_))
      · skip
        refine zw_aload_n (n := 39) d234_38 rfl rfl ?_
        refine zw_iload_n (n := 40) d234_39 rfl rfl ?_
        refine zw_puti (n := 43) d234_40 rfl (zj_5 hS).1 (zj_5 hS).2 ?_
        refine zw_iconst (n := 44) d234_43 rfl zk_i_0 ?_
        refine zw_istore (n := 46) d234_44 rfl rfl rfl ?_
        exact h
      · skip
        refine zw_iload_n (n := 31) d234_30 rfl rfl ?_
        refine zw_aload_n (n := 32) d234_31 rfl rfl ?_
        refine zw_geti (n := 35) d234_32 rfl (zj_5 hS).1 (zj_5 hS).2 ?_
        refine zw_ic_ge (n := 38) d234_35 rfl (zite h (fun h => ?_) (fun h => ?_))
        · skip
          refine zw_aload_n (n := 39) d234_38 rfl rfl ?_
          refine zw_iload_n (n := 40) d234_39 rfl rfl ?_
          refine zw_puti (n := 43) d234_40 rfl (zj_5 hS).1 (zj_5 hS).2 ?_
          refine zw_iconst (n := 44) d234_43 rfl zk_i_0 ?_
          refine zw_istore (n := 46) d234_44 rfl rfl rfl ?_
          exact h
        · skip
          exact zw_ret d234_72 ⟨rfl, h⟩
  · skip
    refine zw_iconst (n := 74) d234_73 rfl zk_i_0 ?_
    refine zw_istore_n (n := 75) d234_74 rfl rfl rfl ?_
    exact h
theorem vc234_46 {X : zX} {S : zx_S} {C : zx_C} {q : zx_C → Prop} {d : Nat} (hd : 33 ≤ d) {e : Nat} {a1 : Int32} {a2 : Int32} {z1 : Value} {i2 : Int32} {z3 : Value} {i4 : Int32} (hS : zs_5 S e) (h : if (i4 : Int32) < i2 then (vp_in i4 8 ∧ (vp_in i4 8 ∧ (zW X (d + 1) 234 46 [.ref e, z1, .int i2, z3, .int (i4 + 1)] [] S (zp C (e + 293) (Int32.toNatClampNeg i4) (C.1 (e + 31) (Int32.toNatClampNeg i4))) (zQv q)))) else (q C)) : zW X (d + 1) 234 46 [.ref e, z1, .int i2, z3, .int i4] [] S C (zQv q) := by
  refine zw_iload (n := 48) d234_46 rfl rfl ?_
  refine zw_iload_n (n := 49) d234_48 rfl rfl ?_
  refine zw_ic_ge (n := 52) d234_49 rfl (zite h (fun h => ?_) (fun h => ?_))
  · skip
    refine zw_aload_n (n := 53) d234_52 rfl rfl ?_
    refine zw_getr (n := 56) d234_53 rfl (zj_5 hS).1 (zj_5 hS).2 (zr_5_40 hS) ?_
    refine zw_iload (n := 58) d234_56 rfl rfl ?_
    refine zw_aload_n (n := 59) d234_58 rfl rfl ?_
    refine zw_getr (n := 62) d234_59 rfl (zj_5 hS).1 (zj_5 hS).2 (zr_5_30 hS) ?_
    refine zw_iload (n := 64) d234_62 rfl rfl ?_
    obtain ⟨hi, h⟩ := h
    refine zw_iald (n := 65) d234_64 rfl (za_5_30 hS).1 (za_5_30 hS).2 hi ?_
    obtain ⟨hi, h⟩ := h
    refine zw_iast (n := 66) d234_65 rfl (za_5_40 hS).1 (za_5_40 hS).2 hi ?_
    refine zw_iinc (n := 69) d234_66 rfl rfl zk_i_1 rfl ?_
    refine zw_goto d234_69 ?_
    exact h
  · skip
    exact zw_ret d234_72 ⟨rfl, h⟩
theorem vc234_75 {X : zX} {S : zx_S} {C : zx_C} {q : zx_C → Prop} {d : Nat} (hd : 33 ≤ d) {e : Nat} {a1 : Int32} {a2 : Int32} {i1 : Int32} {i2 : Int32} {i3 : Int32} {z4 : Value} (hS : zs_5 S e) (h : if (i3 : Int32) < (C.1 e 10) then (vp_in i1 8 ∧ (zCd X d 234 [.ref e, .int (i1 + 1), .int i2] S (zp C (e + 31) (Int32.toNatClampNeg i1) i3) (zQv (fun C1 => zW X (d + 1) 234 75 [.ref e, .int i1, .int i2, .int (i3 + 1), z4] [] S C1 (zQv q))))) else (q C)) : zW X (d + 1) 234 75 [.ref e, .int i1, .int i2, .int i3, z4] [] S C (zQv q) := by
  refine zw_iload_n (n := 76) d234_75 rfl rfl ?_
  refine zw_aload_n (n := 77) d234_76 rfl rfl ?_
  refine zw_geti (n := 80) d234_77 rfl (zj_5 hS).1 (zj_5 hS).2 ?_
  refine zw_ic_ge (n := 83) d234_80 rfl (zite h (fun h => ?_) (fun h => ?_))
  · skip
    refine zw_aload_n (n := 84) d234_83 rfl rfl ?_
    refine zw_getr (n := 87) d234_84 rfl (zj_5 hS).1 (zj_5 hS).2 (zr_5_30 hS) ?_
    refine zw_iload_n (n := 88) d234_87 rfl rfl ?_
    refine zw_iload_n (n := 89) d234_88 rfl rfl ?_
    obtain ⟨hi, h⟩ := h
    refine zw_iast (n := 90) d234_89 rfl (za_5_30 hS).1 (za_5_30 hS).2 hi ?_
    refine zw_aload_n (n := 91) d234_90 rfl rfl ?_
    refine zw_iload_n (n := 92) d234_91 rfl rfl ?_
    refine zw_iconst (n := 93) d234_92 rfl zk_i_1 ?_
    refine zw_iadd (n := 94) d234_93 rfl ?_
    refine zw_iload_n (n := 95) d234_94 rfl rfl ?_
    refine zw_cV (n := 98) d234_95 (zs_V rfl rfl rfl rfl (by decide) (zj_5 hS).1 (zq_5 hS)) (by rw [ml_234]; rfl) (Nat.le_refl _) rfl (zc_mV h (fun C1 h => ?_))
    refine zw_iinc (n := 101) d234_98 rfl rfl zk_i_1 rfl ?_
    refine zw_goto d234_101 ?_
    exact h
  · skip
    exact zw_ret d234_104 ⟨rfl, h⟩

set_option maxRecDepth 20000 in
theorem zf235 (pc : Nat) : zt_code 235 pc = zt_fd zl_235 pc := rfl
theorem d235_0 : zt_code 235 0 = some (.aload_n 0, 0, 0, 0) := (zf235 0).trans rfl
theorem d235_1 : zt_code 235 1 = some (.getfield 91, 5, 42, 1) := (zf235 1).trans rfl
theorem d235_4 : zt_code 235 4 = some (.astore_n 2, 0, 0, 0) := (zf235 4).trans rfl
theorem d235_5 : zt_code 235 5 = some (.iconst (0), 0, 0, 0) := (zf235 5).trans rfl
theorem d235_6 : zt_code 235 6 = some (.istore_n 3, 0, 0, 0) := (zf235 6).trans rfl
theorem d235_7 : zt_code 235 7 = some (.iload_n 3, 0, 0, 0) := (zf235 7).trans rfl
theorem d235_8 : zt_code 235 8 = some (.iconst (3), 0, 0, 0) := (zf235 8).trans rfl
theorem d235_9 : zt_code 235 9 = some (.if_icmp .ge (13), 0, 22, 0) := (zf235 9).trans rfl
theorem d235_12 : zt_code 235 12 = some (.aload_n 2, 0, 0, 0) := (zf235 12).trans rfl
theorem d235_13 : zt_code 235 13 = some (.iload_n 3, 0, 0, 0) := (zf235 13).trans rfl
theorem d235_14 : zt_code 235 14 = some (.iconst (0), 0, 0, 0) := (zf235 14).trans rfl
theorem d235_15 : zt_code 235 15 = some (.iastore, 0, 0, 0) := (zf235 15).trans rfl
theorem d235_16 : zt_code 235 16 = some (.iinc 3 (1), 0, 0, 0) := (zf235 16).trans rfl
theorem d235_19 : zt_code 235 19 = some (.goto (-12), 0, 7, 0) := (zf235 19).trans rfl
theorem d235_22 : zt_code 235 22 = some (.iconst (0), 0, 0, 0) := (zf235 22).trans rfl
theorem d235_23 : zt_code 235 23 = some (.istore_n 3, 0, 0, 0) := (zf235 23).trans rfl
theorem d235_24 : zt_code 235 24 = some (.iload_n 3, 0, 0, 0) := (zf235 24).trans rfl
theorem d235_25 : zt_code 235 25 = some (.iload_n 1, 0, 0, 0) := (zf235 25).trans rfl
theorem d235_26 : zt_code 235 26 = some (.if_icmp .ge (21), 0, 47, 0) := (zf235 26).trans rfl
theorem d235_29 : zt_code 235 29 = some (.aload_n 2, 0, 0, 0) := (zf235 29).trans rfl
theorem d235_30 : zt_code 235 30 = some (.aload_n 0, 0, 0, 0) := (zf235 30).trans rfl
theorem d235_31 : zt_code 235 31 = some (.getfield 67, 5, 30, 1) := (zf235 31).trans rfl
theorem d235_34 : zt_code 235 34 = some (.iload_n 3, 0, 0, 0) := (zf235 34).trans rfl
theorem d235_35 : zt_code 235 35 = some (.iaload, 0, 0, 0) := (zf235 35).trans rfl
theorem d235_36 : zt_code 235 36 = some (.dup2, 0, 0, 0) := (zf235 36).trans rfl
theorem d235_37 : zt_code 235 37 = some (.iaload, 0, 0, 0) := (zf235 37).trans rfl
theorem d235_38 : zt_code 235 38 = some (.iconst (1), 0, 0, 0) := (zf235 38).trans rfl
theorem d235_39 : zt_code 235 39 = some (.iadd, 0, 0, 0) := (zf235 39).trans rfl
theorem d235_40 : zt_code 235 40 = some (.iastore, 0, 0, 0) := (zf235 40).trans rfl
theorem d235_41 : zt_code 235 41 = some (.iinc 3 (1), 0, 0, 0) := (zf235 41).trans rfl
theorem d235_44 : zt_code 235 44 = some (.goto (-20), 0, 24, 0) := (zf235 44).trans rfl
theorem d235_47 : zt_code 235 47 = some (.iconst (0), 0, 0, 0) := (zf235 47).trans rfl
theorem d235_48 : zt_code 235 48 = some (.istore_n 3, 0, 0, 0) := (zf235 48).trans rfl
theorem d235_49 : zt_code 235 49 = some (.iload_n 3, 0, 0, 0) := (zf235 49).trans rfl
theorem d235_50 : zt_code 235 50 = some (.aload_n 0, 0, 0, 0) := (zf235 50).trans rfl
theorem d235_51 : zt_code 235 51 = some (.getfield 40, 5, 10, 0) := (zf235 51).trans rfl
theorem d235_54 : zt_code 235 54 = some (.if_icmp .ge (50), 0, 104, 0) := (zf235 54).trans rfl
theorem d235_57 : zt_code 235 57 = some (.iconst (0), 0, 0, 0) := (zf235 57).trans rfl
theorem d235_58 : zt_code 235 58 = some (.istore 4, 0, 0, 0) := (zf235 58).trans rfl
theorem d235_60 : zt_code 235 60 = some (.iload 4, 0, 0, 0) := (zf235 60).trans rfl
theorem d235_62 : zt_code 235 62 = some (.iload_n 3, 0, 0, 0) := (zf235 62).trans rfl
theorem d235_63 : zt_code 235 63 = some (.if_icmp .ge (35), 0, 98, 0) := (zf235 63).trans rfl
theorem d235_66 : zt_code 235 66 = some (.aload_n 2, 0, 0, 0) := (zf235 66).trans rfl
theorem d235_67 : zt_code 235 67 = some (.iload_n 3, 0, 0, 0) := (zf235 67).trans rfl
theorem d235_68 : zt_code 235 68 = some (.iaload, 0, 0, 0) := (zf235 68).trans rfl
theorem d235_69 : zt_code 235 69 = some (.aload_n 2, 0, 0, 0) := (zf235 69).trans rfl
theorem d235_70 : zt_code 235 70 = some (.iload 4, 0, 0, 0) := (zf235 70).trans rfl
theorem d235_72 : zt_code 235 72 = some (.iaload, 0, 0, 0) := (zf235 72).trans rfl
theorem d235_73 : zt_code 235 73 = some (.isub, 0, 0, 0) := (zf235 73).trans rfl
theorem d235_74 : zt_code 235 74 = some (.iconst (1), 0, 0, 0) := (zf235 74).trans rfl
theorem d235_75 : zt_code 235 75 = some (.if_icmp .gt (15), 0, 90, 0) := (zf235 75).trans rfl
theorem d235_78 : zt_code 235 78 = some (.aload_n 2, 0, 0, 0) := (zf235 78).trans rfl
theorem d235_79 : zt_code 235 79 = some (.iload 4, 0, 0, 0) := (zf235 79).trans rfl
theorem d235_81 : zt_code 235 81 = some (.iaload, 0, 0, 0) := (zf235 81).trans rfl
theorem d235_82 : zt_code 235 82 = some (.aload_n 2, 0, 0, 0) := (zf235 82).trans rfl
theorem d235_83 : zt_code 235 83 = some (.iload_n 3, 0, 0, 0) := (zf235 83).trans rfl
theorem d235_84 : zt_code 235 84 = some (.iaload, 0, 0, 0) := (zf235 84).trans rfl
theorem d235_85 : zt_code 235 85 = some (.isub, 0, 0, 0) := (zf235 85).trans rfl
theorem d235_86 : zt_code 235 86 = some (.iconst (1), 0, 0, 0) := (zf235 86).trans rfl
theorem d235_87 : zt_code 235 87 = some (.if_icmp .le (5), 0, 92, 0) := (zf235 87).trans rfl
theorem d235_90 : zt_code 235 90 = some (.iconst (0), 0, 0, 0) := (zf235 90).trans rfl
theorem d235_91 : zt_code 235 91 = some (.ireturn, 1, 0, 0) := (zf235 91).trans rfl
theorem d235_92 : zt_code 235 92 = some (.iinc 4 (1), 0, 0, 0) := (zf235 92).trans rfl
theorem d235_95 : zt_code 235 95 = some (.goto (-35), 0, 60, 0) := (zf235 95).trans rfl
theorem d235_98 : zt_code 235 98 = some (.iinc 3 (1), 0, 0, 0) := (zf235 98).trans rfl
theorem d235_101 : zt_code 235 101 = some (.goto (-52), 0, 49, 0) := (zf235 101).trans rfl
theorem d235_104 : zt_code 235 104 = some (.iconst (1), 0, 0, 0) := (zf235 104).trans rfl
theorem d235_105 : zt_code 235 105 = some (.ireturn, 1, 0, 0) := (zf235 105).trans rfl
/-- FirstAtTheFirstModel.isEven(I)Z -/
theorem vc235 {X : zX} {S : zx_S} {C : zx_C} {q : Int32 → zx_C → Prop} {e : Nat} {a1 : Int32} (hS : zs_5 S e) (h : zW X 0 235 7 [.ref e, .int a1, .ref (e + 294), .int 0, .retAddr 0] [] S C (zQi q)) : zCd X 0 235 [.ref e, .int a1] S C (zQi q) := by
  refine zc_in ml_235 rfl ?_
  refine zw_aload_n (n := 1) d235_0 rfl rfl ?_
  refine zw_getr (n := 4) d235_1 rfl (zj_5 hS).1 (zj_5 hS).2 (zr_5_42 hS) ?_
  refine zw_astore_n (n := 5) d235_4 rfl rfl rfl ?_
  refine zw_iconst (n := 6) d235_5 rfl zk_i_0 ?_
  refine zw_istore_n (n := 7) d235_6 rfl rfl rfl ?_
  exact h
theorem vc235_7 {X : zX} {S : zx_S} {C : zx_C} {q : Int32 → zx_C → Prop} {e : Nat} {a1 : Int32} {i1 : Int32} {i3 : Int32} {z4 : Value} (hS : zs_5 S e) (h : if (i3 : Int32) < 3 then (vp_in i3 3 ∧ (zW X 0 235 7 [.ref e, .int i1, .ref (e + 294), .int (i3 + 1), z4] [] S (zp C (e + 294) (Int32.toNatClampNeg i3) 0) (zQi q))) else (zW X 0 235 24 [.ref e, .int i1, .ref (e + 294), .int 0, z4] [] S C (zQi q))) : zW X 0 235 7 [.ref e, .int i1, .ref (e + 294), .int i3, z4] [] S C (zQi q) := by
  refine zw_iload_n (n := 8) d235_7 rfl rfl ?_
  refine zw_iconst (n := 9) d235_8 rfl zk_i_3 ?_
  refine zw_ic_ge (n := 12) d235_9 rfl (zite h (fun h => ?_) (fun h => ?_))
  · skip
    refine zw_aload_n (n := 13) d235_12 rfl rfl ?_
    refine zw_iload_n (n := 14) d235_13 rfl rfl ?_
    refine zw_iconst (n := 15) d235_14 rfl zk_i_0 ?_
    obtain ⟨hi, h⟩ := h
    refine zw_iast (n := 16) d235_15 rfl (za_5_42 hS).1 (za_5_42 hS).2 hi ?_
    refine zw_iinc (n := 19) d235_16 rfl rfl zk_i_1 rfl ?_
    refine zw_goto d235_19 ?_
    exact h
  · skip
    refine zw_iconst (n := 23) d235_22 rfl zk_i_0 ?_
    refine zw_istore_n (n := 24) d235_23 rfl rfl rfl ?_
    exact h
theorem vc235_24 {X : zX} {S : zx_S} {C : zx_C} {q : Int32 → zx_C → Prop} {e : Nat} {a1 : Int32} {i1 : Int32} {i3 : Int32} {z4 : Value} (hS : zs_5 S e) (h : if (i3 : Int32) < i1 then (vp_in i3 8 ∧ (vp_in (C.1 (e + 31) (Int32.toNatClampNeg i3)) 3 ∧ (vp_in (C.1 (e + 31) (Int32.toNatClampNeg i3)) 3 ∧ (zW X 0 235 24 [.ref e, .int i1, .ref (e + 294), .int (i3 + 1), z4] [] S (zp C (e + 294) (Int32.toNatClampNeg (C.1 (e + 31) (Int32.toNatClampNeg i3))) ((C.1 (e + 294) (Int32.toNatClampNeg (C.1 (e + 31) (Int32.toNatClampNeg i3)))) + 1)) (zQi q))))) else (zW X 0 235 49 [.ref e, .int i1, .ref (e + 294), .int 0, z4] [] S C (zQi q))) : zW X 0 235 24 [.ref e, .int i1, .ref (e + 294), .int i3, z4] [] S C (zQi q) := by
  refine zw_iload_n (n := 25) d235_24 rfl rfl ?_
  refine zw_iload_n (n := 26) d235_25 rfl rfl ?_
  refine zw_ic_ge (n := 29) d235_26 rfl (zite h (fun h => ?_) (fun h => ?_))
  · skip
    refine zw_aload_n (n := 30) d235_29 rfl rfl ?_
    refine zw_aload_n (n := 31) d235_30 rfl rfl ?_
    refine zw_getr (n := 34) d235_31 rfl (zj_5 hS).1 (zj_5 hS).2 (zr_5_30 hS) ?_
    refine zw_iload_n (n := 35) d235_34 rfl rfl ?_
    obtain ⟨hi, h⟩ := h
    refine zw_iald (n := 36) d235_35 rfl (za_5_30 hS).1 (za_5_30 hS).2 hi ?_
    refine zw_dup2 (n := 37) d235_36 rfl rfl rfl ?_
    obtain ⟨hi, h⟩ := h
    refine zw_iald (n := 38) d235_37 rfl (za_5_42 hS).1 (za_5_42 hS).2 hi ?_
    refine zw_iconst (n := 39) d235_38 rfl zk_i_1 ?_
    refine zw_iadd (n := 40) d235_39 rfl ?_
    obtain ⟨hi, h⟩ := h
    refine zw_iast (n := 41) d235_40 rfl (za_5_42 hS).1 (za_5_42 hS).2 hi ?_
    refine zw_iinc (n := 44) d235_41 rfl rfl zk_i_1 rfl ?_
    refine zw_goto d235_44 ?_
    exact h
  · skip
    refine zw_iconst (n := 48) d235_47 rfl zk_i_0 ?_
    refine zw_istore_n (n := 49) d235_48 rfl rfl rfl ?_
    exact h
theorem vc235_49 {X : zX} {S : zx_S} {C : zx_C} {q : Int32 → zx_C → Prop} {e : Nat} {a1 : Int32} {z1 : Value} {i3 : Int32} {z4 : Value} (hS : zs_5 S e) (h : if (i3 : Int32) < (C.1 e 10) then (zW X 0 235 60 [.ref e, z1, .ref (e + 294), .int i3, .int 0] [] S C (zQi q)) else (q 1 C)) : zW X 0 235 49 [.ref e, z1, .ref (e + 294), .int i3, z4] [] S C (zQi q) := by
  refine zw_iload_n (n := 50) d235_49 rfl rfl ?_
  refine zw_aload_n (n := 51) d235_50 rfl rfl ?_
  refine zw_geti (n := 54) d235_51 rfl (zj_5 hS).1 (zj_5 hS).2 ?_
  refine zw_ic_ge (n := 57) d235_54 rfl (zite h (fun h => ?_) (fun h => ?_))
  · skip
    refine zw_iconst (n := 58) d235_57 rfl zk_i_0 ?_
    refine zw_istore (n := 60) d235_58 rfl rfl rfl ?_
    exact h
  · skip
    refine zw_iconst (n := 105) d235_104 rfl zk_i_1 ?_
    exact zw_iret d235_105 rfl ⟨_, rfl, h⟩
theorem vc235_60 {X : zX} {S : zx_S} {C : zx_C} {q : Int32 → zx_C → Prop} {e : Nat} {a1 : Int32} {z1 : Value} {i3 : Int32} {i4 : Int32} (hS : zs_5 S e) (h : if (i4 : Int32) < i3 then (vp_in i3 3 ∧ (vp_in i4 3 ∧ (if (1 : Int32) < ((C.1 (e + 294) (Int32.toNatClampNeg i3)) - (C.1 (e + 294) (Int32.toNatClampNeg i4))) then (q 0 C) else (vp_in i4 3 ∧ (vp_in i3 3 ∧ (if (1 : Int32) < ((C.1 (e + 294) (Int32.toNatClampNeg i4)) - (C.1 (e + 294) (Int32.toNatClampNeg i3))) then (q 0 C) else (zW X 0 235 60 [.ref e, z1, .ref (e + 294), .int i3, .int (i4 + 1)] [] S C (zQi q)))))))) else (zW X 0 235 49 [.ref e, z1, .ref (e + 294), .int (i3 + 1), .int i4] [] S C (zQi q))) : zW X 0 235 60 [.ref e, z1, .ref (e + 294), .int i3, .int i4] [] S C (zQi q) := by
  refine zw_iload (n := 62) d235_60 rfl rfl ?_
  refine zw_iload_n (n := 63) d235_62 rfl rfl ?_
  refine zw_ic_ge (n := 66) d235_63 rfl (zite h (fun h => ?_) (fun h => ?_))
  · skip
    refine zw_aload_n (n := 67) d235_66 rfl rfl ?_
    refine zw_iload_n (n := 68) d235_67 rfl rfl ?_
    obtain ⟨hi, h⟩ := h
    refine zw_iald (n := 69) d235_68 rfl (za_5_42 hS).1 (za_5_42 hS).2 hi ?_
    refine zw_aload_n (n := 70) d235_69 rfl rfl ?_
    refine zw_iload (n := 72) d235_70 rfl rfl ?_
    obtain ⟨hi, h⟩ := h
    refine zw_iald (n := 73) d235_72 rfl (za_5_42 hS).1 (za_5_42 hS).2 hi ?_
    refine zw_isub (n := 74) d235_73 rfl ?_
    refine zw_iconst (n := 75) d235_74 rfl zk_i_1 ?_
    refine zw_ic_gt (n := 78) d235_75 rfl (zite h (fun h => ?_) (fun h => ?_))
    · skip
      refine zw_iconst (n := 91) d235_90 rfl zk_i_0 ?_
      exact zw_iret d235_91 rfl ⟨_, rfl, h⟩
    · skip
      refine zw_aload_n (n := 79) d235_78 rfl rfl ?_
      refine zw_iload (n := 81) d235_79 rfl rfl ?_
      obtain ⟨hi, h⟩ := h
      refine zw_iald (n := 82) d235_81 rfl (za_5_42 hS).1 (za_5_42 hS).2 hi ?_
      refine zw_aload_n (n := 83) d235_82 rfl rfl ?_
      refine zw_iload_n (n := 84) d235_83 rfl rfl ?_
      obtain ⟨hi, h⟩ := h
      refine zw_iald (n := 85) d235_84 rfl (za_5_42 hS).1 (za_5_42 hS).2 hi ?_
      refine zw_isub (n := 86) d235_85 rfl ?_
      refine zw_iconst (n := 87) d235_86 rfl zk_i_1 ?_
      refine zw_ic_le (n := 90) d235_87 rfl (zite h (fun h => ?_) (fun h => ?_))
      · skip
        refine zw_iconst (n := 91) d235_90 rfl zk_i_0 ?_
        exact zw_iret d235_91 rfl ⟨_, rfl, h⟩
      · skip
        refine zw_iinc (n := 95) d235_92 rfl rfl zk_i_1 rfl ?_
        refine zw_goto d235_95 ?_
        exact h
  · skip
    refine zw_iinc (n := 101) d235_98 rfl rfl zk_i_1 rfl ?_
    refine zw_goto d235_101 ?_
    exact h

set_option maxRecDepth 20000 in
theorem zf236 (pc : Nat) : zt_code 236 pc = zt_fd zl_236 pc := rfl
theorem d236_0 : zt_code 236 0 = some (.iload_n 2, 0, 0, 0) := (zf236 0).trans rfl
theorem d236_1 : zt_code 236 1 = some (.i2l, 0, 0, 0) := (zf236 1).trans rfl
theorem d236_2 : zt_code 236 2 = some (.lconst 0, 0, 0, 0) := (zf236 2).trans rfl
theorem d236_3 : zt_code 236 3 = some (.ldc2_w 101, 0, 0, 7) := (zf236 3).trans rfl
theorem d236_6 : zt_code 236 6 = some (.invokestatic 94, 159, 3, -1) := (zf236 6).trans rfl
theorem d236_9 : zt_code 236 9 = some (.ifCond .eq (11), 0, 20, 0) := (zf236 9).trans rfl
theorem d236_12 : zt_code 236 12 = some (.aload_n 0, 0, 0, 0) := (zf236 12).trans rfl
theorem d236_13 : zt_code 236 13 = some (.iload_n 1, 0, 0, 0) := (zf236 13).trans rfl
theorem d236_14 : zt_code 236 14 = some (.invokevirtual 118, 168, 2, 5) := (zf236 14).trans rfl
theorem d236_17 : zt_code 236 17 = some (.ifCond .ne (14), 0, 31, 0) := (zf236 17).trans rfl
theorem d236_20 : zt_code 236 20 = some (.ldc_w 337, 0, 0, -10000000) := (zf236 20).trans rfl
theorem d236_23 : zt_code 236 23 = some (.aload_n 0, 0, 0, 0) := (zf236 23).trans rfl
theorem d236_24 : zt_code 236 24 = some (.bipush (-2), 0, 0, 0) := (zf236 24).trans rfl
theorem d236_26 : zt_code 236 26 = some (.invokevirtual 107, 160, 2, 5) := (zf236 26).trans rfl
theorem d236_29 : zt_code 236 29 = some (.iadd, 0, 0, 0) := (zf236 29).trans rfl
theorem d236_30 : zt_code 236 30 = some (.ireturn, 0, 0, 0) := (zf236 30).trans rfl
theorem d236_31 : zt_code 236 31 = some (.aload_n 0, 0, 0, 0) := (zf236 31).trans rfl
theorem d236_32 : zt_code 236 32 = some (.iload_n 2, 0, 0, 0) := (zf236 32).trans rfl
theorem d236_33 : zt_code 236 33 = some (.invokevirtual 111, 162, 2, 5) := (zf236 33).trans rfl
theorem d236_36 : zt_code 236 36 = some (.istore_n 3, 0, 0, 0) := (zf236 36).trans rfl
theorem d236_37 : zt_code 236 37 = some (.iload_n 3, 0, 0, 0) := (zf236 37).trans rfl
theorem d236_38 : zt_code 236 38 = some (.ifCond .eq (13), 0, 51, 0) := (zf236 38).trans rfl
theorem d236_41 : zt_code 236 41 = some (.ldc_w 337, 0, 0, -10000000) := (zf236 41).trans rfl
theorem d236_44 : zt_code 236 44 = some (.aload_n 0, 0, 0, 0) := (zf236 44).trans rfl
theorem d236_45 : zt_code 236 45 = some (.iload_n 3, 0, 0, 0) := (zf236 45).trans rfl
theorem d236_46 : zt_code 236 46 = some (.invokevirtual 107, 160, 2, 5) := (zf236 46).trans rfl
theorem d236_49 : zt_code 236 49 = some (.iadd, 0, 0, 0) := (zf236 49).trans rfl
theorem d236_50 : zt_code 236 50 = some (.ireturn, 0, 0, 0) := (zf236 50).trans rfl
theorem d236_51 : zt_code 236 51 = some (.aload_n 0, 0, 0, 0) := (zf236 51).trans rfl
theorem d236_52 : zt_code 236 52 = some (.getfield 16, 5, 2, 1) := (zf236 52).trans rfl
theorem d236_55 : zt_code 236 55 = some (.iload_n 2, 0, 0, 0) := (zf236 55).trans rfl
theorem d236_56 : zt_code 236 56 = some (.iaload, 0, 0, 0) := (zf236 56).trans rfl
theorem d236_57 : zt_code 236 57 = some (.aload_n 0, 0, 0, 0) := (zf236 57).trans rfl
theorem d236_58 : zt_code 236 58 = some (.getfield 98, 5, 11, 0) := (zf236 58).trans rfl
theorem d236_61 : zt_code 236 61 = some (.if_icmp .ge (14), 0, 75, 0) := (zf236 61).trans rfl
theorem d236_64 : zt_code 236 64 = some (.ldc_w 337, 0, 0, -10000000) := (zf236 64).trans rfl
theorem d236_67 : zt_code 236 67 = some (.aload_n 0, 0, 0, 0) := (zf236 67).trans rfl
theorem d236_68 : zt_code 236 68 = some (.bipush (-2), 0, 0, 0) := (zf236 68).trans rfl
theorem d236_70 : zt_code 236 70 = some (.invokevirtual 107, 160, 2, 5) := (zf236 70).trans rfl
theorem d236_73 : zt_code 236 73 = some (.iadd, 0, 0, 0) := (zf236 73).trans rfl
theorem d236_74 : zt_code 236 74 = some (.ireturn, 0, 0, 0) := (zf236 74).trans rfl
theorem d236_75 : zt_code 236 75 = some (.iconst (0), 0, 0, 0) := (zf236 75).trans rfl
theorem d236_76 : zt_code 236 76 = some (.istore 4, 0, 0, 0) := (zf236 76).trans rfl
theorem d236_78 : zt_code 236 78 = some (.iload 4, 0, 0, 0) := (zf236 78).trans rfl
theorem d236_80 : zt_code 236 80 = some (.aload_n 0, 0, 0, 0) := (zf236 80).trans rfl
theorem d236_81 : zt_code 236 81 = some (.getfield 98, 5, 11, 0) := (zf236 81).trans rfl
theorem d236_84 : zt_code 236 84 = some (.if_icmp .ge (39), 0, 123, 0) := (zf236 84).trans rfl
theorem d236_87 : zt_code 236 87 = some (.aload_n 0, 0, 0, 0) := (zf236 87).trans rfl
theorem d236_88 : zt_code 236 88 = some (.getfield 21, 5, 3, 1) := (zf236 88).trans rfl
theorem d236_91 : zt_code 236 91 = some (.iload_n 2, 0, 0, 0) := (zf236 91).trans rfl
theorem d236_92 : zt_code 236 92 = some (.aaload, 0, 0, 0) := (zf236 92).trans rfl
theorem d236_93 : zt_code 236 93 = some (.iload 4, 0, 0, 0) := (zf236 93).trans rfl
theorem d236_95 : zt_code 236 95 = some (.laload, 0, 0, 0) := (zf236 95).trans rfl
theorem d236_96 : zt_code 236 96 = some (.lconst 0, 0, 0, 0) := (zf236 96).trans rfl
theorem d236_97 : zt_code 236 97 = some (.ldc2_w 153, 0, 0, 99) := (zf236 97).trans rfl
theorem d236_100 : zt_code 236 100 = some (.invokestatic 94, 159, 3, -1) := (zf236 100).trans rfl
theorem d236_103 : zt_code 236 103 = some (.ifCond .ne (14), 0, 117, 0) := (zf236 103).trans rfl
theorem d236_106 : zt_code 236 106 = some (.ldc_w 337, 0, 0, -10000000) := (zf236 106).trans rfl
theorem d236_109 : zt_code 236 109 = some (.aload_n 0, 0, 0, 0) := (zf236 109).trans rfl
theorem d236_110 : zt_code 236 110 = some (.bipush (-2), 0, 0, 0) := (zf236 110).trans rfl
theorem d236_112 : zt_code 236 112 = some (.invokevirtual 107, 160, 2, 5) := (zf236 112).trans rfl
theorem d236_115 : zt_code 236 115 = some (.iadd, 0, 0, 0) := (zf236 115).trans rfl
theorem d236_116 : zt_code 236 116 = some (.ireturn, 0, 0, 0) := (zf236 116).trans rfl
theorem d236_117 : zt_code 236 117 = some (.iinc 4 (1), 0, 0, 0) := (zf236 117).trans rfl
theorem d236_120 : zt_code 236 120 = some (.goto (-42), 0, 78, 0) := (zf236 120).trans rfl
theorem d236_123 : zt_code 236 123 = some (.aload_n 0, 0, 0, 0) := (zf236 123).trans rfl
theorem d236_124 : zt_code 236 124 = some (.aload_n 0, 0, 0, 0) := (zf236 124).trans rfl
theorem d236_125 : zt_code 236 125 = some (.getfield 128, 5, 14, 0) := (zf236 125).trans rfl
theorem d236_128 : zt_code 236 128 = some (.invokevirtual 315, 223, 2, 5) := (zf236 128).trans rfl
theorem d236_131 : zt_code 236 131 = some (.aload_n 0, 0, 0, 0) := (zf236 131).trans rfl
theorem d236_132 : zt_code 236 132 = some (.getfield 79, 5, 37, 1) := (zf236 132).trans rfl
theorem d236_135 : zt_code 236 135 = some (.iload_n 1, 0, 0, 0) := (zf236 135).trans rfl
theorem d236_136 : zt_code 236 136 = some (.iaload, 0, 0, 0) := (zf236 136).trans rfl
theorem d236_137 : zt_code 236 137 = some (.istore 4, 0, 0, 0) := (zf236 137).trans rfl
theorem d236_139 : zt_code 236 139 = some (.iconst (0), 0, 0, 0) := (zf236 139).trans rfl
theorem d236_140 : zt_code 236 140 = some (.istore 5, 0, 0, 0) := (zf236 140).trans rfl
theorem d236_142 : zt_code 236 142 = some (.iload 5, 0, 0, 0) := (zf236 142).trans rfl
theorem d236_144 : zt_code 236 144 = some (.aload_n 0, 0, 0, 0) := (zf236 144).trans rfl
theorem d236_145 : zt_code 236 145 = some (.getfield 98, 5, 11, 0) := (zf236 145).trans rfl
theorem d236_148 : zt_code 236 148 = some (.if_icmp .ge (26), 0, 174, 0) := (zf236 148).trans rfl
theorem d236_151 : zt_code 236 151 = some (.aload_n 0, 0, 0, 0) := (zf236 151).trans rfl
theorem d236_152 : zt_code 236 152 = some (.getfield 73, 5, 34, 1) := (zf236 152).trans rfl
theorem d236_155 : zt_code 236 155 = some (.iload 5, 0, 0, 0) := (zf236 155).trans rfl
theorem d236_157 : zt_code 236 157 = some (.aload_n 0, 0, 0, 0) := (zf236 157).trans rfl
theorem d236_158 : zt_code 236 158 = some (.getfield 21, 5, 3, 1) := (zf236 158).trans rfl
theorem d236_161 : zt_code 236 161 = some (.iload_n 2, 0, 0, 0) := (zf236 161).trans rfl
theorem d236_162 : zt_code 236 162 = some (.aaload, 0, 0, 0) := (zf236 162).trans rfl
theorem d236_163 : zt_code 236 163 = some (.iload 5, 0, 0, 0) := (zf236 163).trans rfl
theorem d236_165 : zt_code 236 165 = some (.laload, 0, 0, 0) := (zf236 165).trans rfl
theorem d236_166 : zt_code 236 166 = some (.l2i, 0, 0, 0) := (zf236 166).trans rfl
theorem d236_167 : zt_code 236 167 = some (.iastore, 0, 0, 0) := (zf236 167).trans rfl
theorem d236_168 : zt_code 236 168 = some (.iinc 5 (1), 0, 0, 0) := (zf236 168).trans rfl
theorem d236_171 : zt_code 236 171 = some (.goto (-29), 0, 142, 0) := (zf236 171).trans rfl
theorem d236_174 : zt_code 236 174 = some (.aload_n 0, 0, 0, 0) := (zf236 174).trans rfl
theorem d236_175 : zt_code 236 175 = some (.iload_n 1, 0, 0, 0) := (zf236 175).trans rfl
theorem d236_176 : zt_code 236 176 = some (.putfield 70, 5, 33, 0) := (zf236 176).trans rfl
theorem d236_179 : zt_code 236 179 = some (.aload_n 0, 0, 0, 0) := (zf236 179).trans rfl
theorem d236_180 : zt_code 236 180 = some (.invokevirtual 312, 224, 1, 5) := (zf236 180).trans rfl
theorem d236_183 : zt_code 236 183 = some (.aload_n 0, 0, 0, 0) := (zf236 183).trans rfl
theorem d236_184 : zt_code 236 184 = some (.iconst (-1), 0, 0, 0) := (zf236 184).trans rfl
theorem d236_185 : zt_code 236 185 = some (.putfield 70, 5, 33, 0) := (zf236 185).trans rfl
theorem d236_188 : zt_code 236 188 = some (.aload_n 0, 0, 0, 0) := (zf236 188).trans rfl
theorem d236_189 : zt_code 236 189 = some (.getfield 79, 5, 37, 1) := (zf236 189).trans rfl
theorem d236_192 : zt_code 236 192 = some (.iload_n 1, 0, 0, 0) := (zf236 192).trans rfl
theorem d236_193 : zt_code 236 193 = some (.iaload, 0, 0, 0) := (zf236 193).trans rfl
theorem d236_194 : zt_code 236 194 = some (.iload 4, 0, 0, 0) := (zf236 194).trans rfl
theorem d236_196 : zt_code 236 196 = some (.isub, 0, 0, 0) := (zf236 196).trans rfl
theorem d236_197 : zt_code 236 197 = some (.ireturn, 0, 0, 0) := (zf236 197).trans rfl
/-- FirstAtTheFirstModel.sham(II)I -/
theorem vc236 {X : zX} {S : zx_S} {C : zx_C} {q : Int32 → zx_C → Prop} {e : Nat} {a1 : Int32} {a2 : Int32} (hS : zs_5 S e) (h : zCd X 0 159 [.long (Int32.toInt64 a2), .long 0, .long 7] S C (zQi (fun r1 C1 => if (r1 : Int32) = 0 then (zCd X 0 160 [.ref e, .int (-2)] S C1 (zQi (fun r2 C2 => q ((-10000000) + r2) C2))) else (zCd X 1 168 [.ref e, .int a1] S C1 (zQi (fun r3 C3 => if (r3 : Int32) = 0 then (zCd X 0 160 [.ref e, .int (-2)] S C3 (zQi (fun r4 C4 => q ((-10000000) + r4) C4))) else (zCd X 1 162 [.ref e, .int a2] S C3 (zQi (fun r5 C5 => if (r5 : Int32) = 0 then (vp_in a2 8 ∧ (if ((C5.1 (e + 3) (Int32.toNatClampNeg a2)) : Int32) < (C5.1 e 11) then (zCd X 0 160 [.ref e, .int (-2)] S C5 (zQi (fun r6 C6 => q ((-10000000) + r6) C6))) else (zW X 35 236 78 [.ref e, .int a1, .int a2, .int r5, .int 0, .retAddr 0] [] S C5 (zQi q)))) else (zCd X 0 160 [.ref e, .int r5] S C5 (zQi (fun r7 C7 => q ((-10000000) + r7) C7)))))))))))) : zCd X 35 236 [.ref e, .int a1, .int a2] S C (zQi q) := by
  refine zc_in ml_236 rfl ?_
  refine zw_iload_n (n := 1) d236_0 rfl rfl ?_
  refine zw_i2l (n := 2) d236_1 rfl ?_
  refine zw_lconst (n := 3) d236_2 rfl zk_c_0 ?_
  refine zw_ldc2 (n := 6) d236_3 rfl zk_l_7 ?_
  refine zw_cI (n := 9) d236_6 (zs_S rfl rfl rfl rfl) (by rw [ml_159]; rfl) (by decide) rfl (zc_mI h (fun r1 C1 h => ?_))
  refine zw_if_eq (n := 12) d236_9 rfl (zite h (fun h => ?_) (fun h => ?_))
  · skip
    refine zw_ldcw (n := 23) d236_20 rfl zk_i_m10000000 ?_
    refine zw_aload_n (n := 24) d236_23 rfl rfl ?_
    refine zw_bipush (n := 26) d236_24 rfl zk_b_m2 ?_
    refine zw_cI (n := 29) d236_26 (zs_V rfl rfl rfl rfl (by decide) (zj_5 hS).1 (zq_5 hS)) (by rw [ml_160]; rfl) (by decide) rfl (zc_mI h (fun r2 C2 h => ?_))
    refine zw_iadd (n := 30) d236_29 rfl ?_
    exact zw_iret d236_30 rfl ⟨_, rfl, h⟩
  · skip
    refine zw_aload_n (n := 13) d236_12 rfl rfl ?_
    refine zw_iload_n (n := 14) d236_13 rfl rfl ?_
    refine zw_cI (n := 17) d236_14 (zs_V rfl rfl rfl rfl (by decide) (zj_5 hS).1 (zq_5 hS)) (by rw [ml_168]; rfl) (by decide) rfl (zc_mI h (fun r3 C3 h => ?_))
    refine zw_if_ne (n := 20) d236_17 rfl (zite h (fun h => ?_) (fun h => ?_))
    · skip
      refine zw_ldcw (n := 23) d236_20 rfl zk_i_m10000000 ?_
      refine zw_aload_n (n := 24) d236_23 rfl rfl ?_
      refine zw_bipush (n := 26) d236_24 rfl zk_b_m2 ?_
      refine zw_cI (n := 29) d236_26 (zs_V rfl rfl rfl rfl (by decide) (zj_5 hS).1 (zq_5 hS)) (by rw [ml_160]; rfl) (by decide) rfl (zc_mI h (fun r4 C4 h => ?_))
      refine zw_iadd (n := 30) d236_29 rfl ?_
      exact zw_iret d236_30 rfl ⟨_, rfl, h⟩
    · skip
      refine zw_aload_n (n := 32) d236_31 rfl rfl ?_
      refine zw_iload_n (n := 33) d236_32 rfl rfl ?_
      refine zw_cI (n := 36) d236_33 (zs_V rfl rfl rfl rfl (by decide) (zj_5 hS).1 (zq_5 hS)) (by rw [ml_162]; rfl) (by decide) rfl (zc_mI h (fun r5 C5 h => ?_))
      refine zw_istore_n (n := 37) d236_36 rfl rfl rfl ?_
      refine zw_iload_n (n := 38) d236_37 rfl rfl ?_
      refine zw_if_eq (n := 41) d236_38 rfl (zite h (fun h => ?_) (fun h => ?_))
      · skip
        refine zw_aload_n (n := 52) d236_51 rfl rfl ?_
        refine zw_getr (n := 55) d236_52 rfl (zj_5 hS).1 (zj_5 hS).2 (zr_5_2 hS) ?_
        refine zw_iload_n (n := 56) d236_55 rfl rfl ?_
        obtain ⟨hi, h⟩ := h
        refine zw_iald (n := 57) d236_56 rfl (za_5_2 hS).1 (za_5_2 hS).2 hi ?_
        refine zw_aload_n (n := 58) d236_57 rfl rfl ?_
        refine zw_geti (n := 61) d236_58 rfl (zj_5 hS).1 (zj_5 hS).2 ?_
        refine zw_ic_ge (n := 64) d236_61 rfl (zite h (fun h => ?_) (fun h => ?_))
        · skip
          refine zw_ldcw (n := 67) d236_64 rfl zk_i_m10000000 ?_
          refine zw_aload_n (n := 68) d236_67 rfl rfl ?_
          refine zw_bipush (n := 70) d236_68 rfl zk_b_m2 ?_
          refine zw_cI (n := 73) d236_70 (zs_V rfl rfl rfl rfl (by decide) (zj_5 hS).1 (zq_5 hS)) (by rw [ml_160]; rfl) (by decide) rfl (zc_mI h (fun r6 C6 h => ?_))
          refine zw_iadd (n := 74) d236_73 rfl ?_
          exact zw_iret d236_74 rfl ⟨_, rfl, h⟩
        · skip
          refine zw_iconst (n := 76) d236_75 rfl zk_i_0 ?_
          refine zw_istore (n := 78) d236_76 rfl rfl rfl ?_
          exact h
      · skip
        refine zw_ldcw (n := 44) d236_41 rfl zk_i_m10000000 ?_
        refine zw_aload_n (n := 45) d236_44 rfl rfl ?_
        refine zw_iload_n (n := 46) d236_45 rfl rfl ?_
        refine zw_cI (n := 49) d236_46 (zs_V rfl rfl rfl rfl (by decide) (zj_5 hS).1 (zq_5 hS)) (by rw [ml_160]; rfl) (by decide) rfl (zc_mI h (fun r7 C7 h => ?_))
        refine zw_iadd (n := 50) d236_49 rfl ?_
        exact zw_iret d236_50 rfl ⟨_, rfl, h⟩
theorem vc236_78 {X : zX} {S : zx_S} {C : zx_C} {q : Int32 → zx_C → Prop} {e : Nat} {a1 : Int32} {a2 : Int32} {i1 : Int32} {i2 : Int32} {z3 : Value} {i4 : Int32} {z5 : Value} (hS : zs_5 S e) (h : if (i4 : Int32) < (C.1 e 11) then (vp_in i2 8 ∧ (vp_in i4 40 ∧ (zCd X 0 159 [.long (C.2 ((e + 5) + Int32.toNatClampNeg i2) (Int32.toNatClampNeg i4)), .long 0, .long 99] S C (zQi (fun r2 C2 => if (r2 : Int32) = 0 then (zCd X 0 160 [.ref e, .int (-2)] S C2 (zQi (fun r3 C3 => q ((-10000000) + r3) C3))) else (zW X 35 236 78 [.ref e, .int i1, .int i2, z3, .int (i4 + 1), z5] [] S C2 (zQi q))))))) else (zCd X 34 223 [.ref e, .int (C.1 e 14)] S C (zQv (fun C4 => vp_in i1 3 ∧ (zW X 35 236 142 [.ref e, .int i1, .int i2, z3, .int (C4.1 (e + 34) (Int32.toNatClampNeg i1)), .int 0] [] S C4 (zQi q)))))) : zW X 35 236 78 [.ref e, .int i1, .int i2, z3, .int i4, z5] [] S C (zQi q) := by
  refine zw_iload (n := 80) d236_78 rfl rfl ?_
  refine zw_aload_n (n := 81) d236_80 rfl rfl ?_
  refine zw_geti (n := 84) d236_81 rfl (zj_5 hS).1 (zj_5 hS).2 ?_
  refine zw_ic_ge (n := 87) d236_84 rfl (zite h (fun h => ?_) (fun h => ?_))
  · skip
    refine zw_aload_n (n := 88) d236_87 rfl rfl ?_
    refine zw_getr (n := 91) d236_88 rfl (zj_5 hS).1 (zj_5 hS).2 (zr_5_3 hS) ?_
    refine zw_iload_n (n := 92) d236_91 rfl rfl ?_
    obtain ⟨hi, h⟩ := h
    have hb1 := zb_5_3 hS (vp_lt hi)
    refine zw_aald (n := 93) d236_92 rfl (za_5_3 hS).1 (za_5_3 hS).2 (by decide) hi hb1.1 ?_
    refine zw_iload (n := 95) d236_93 rfl rfl ?_
    obtain ⟨hi, h⟩ := h
    refine zw_lald (n := 96) d236_95 rfl hb1.2.1 hb1.2.2 hi ?_
    refine zw_lconst (n := 97) d236_96 rfl zk_c_0 ?_
    refine zw_ldc2 (n := 100) d236_97 rfl zk_l_99 ?_
    refine zw_cI (n := 103) d236_100 (zs_S rfl rfl rfl rfl) (by rw [ml_159]; rfl) (by decide) rfl (zc_mI h (fun r2 C2 h => ?_))
    refine zw_if_ne (n := 106) d236_103 rfl (zite h (fun h => ?_) (fun h => ?_))
    · skip
      refine zw_ldcw (n := 109) d236_106 rfl zk_i_m10000000 ?_
      refine zw_aload_n (n := 110) d236_109 rfl rfl ?_
      refine zw_bipush (n := 112) d236_110 rfl zk_b_m2 ?_
      refine zw_cI (n := 115) d236_112 (zs_V rfl rfl rfl rfl (by decide) (zj_5 hS).1 (zq_5 hS)) (by rw [ml_160]; rfl) (by decide) rfl (zc_mI h (fun r3 C3 h => ?_))
      refine zw_iadd (n := 116) d236_115 rfl ?_
      exact zw_iret d236_116 rfl ⟨_, rfl, h⟩
    · skip
      refine zw_iinc (n := 120) d236_117 rfl rfl zk_i_1 rfl ?_
      refine zw_goto d236_120 ?_
      exact h
  · skip
    refine zw_aload_n (n := 124) d236_123 rfl rfl ?_
    refine zw_aload_n (n := 125) d236_124 rfl rfl ?_
    refine zw_geti (n := 128) d236_125 rfl (zj_5 hS).1 (zj_5 hS).2 ?_
    refine zw_cV (n := 131) d236_128 (zs_V rfl rfl rfl rfl (by decide) (zj_5 hS).1 (zq_5 hS)) (by rw [ml_223]; rfl) (by decide) rfl (zc_mV h (fun C4 h => ?_))
    refine zw_aload_n (n := 132) d236_131 rfl rfl ?_
    refine zw_getr (n := 135) d236_132 rfl (zj_5 hS).1 (zj_5 hS).2 (zr_5_37 hS) ?_
    refine zw_iload_n (n := 136) d236_135 rfl rfl ?_
    obtain ⟨hi, h⟩ := h
    refine zw_iald (n := 137) d236_136 rfl (za_5_37 hS).1 (za_5_37 hS).2 hi ?_
    refine zw_istore (n := 139) d236_137 rfl rfl rfl ?_
    refine zw_iconst (n := 140) d236_139 rfl zk_i_0 ?_
    refine zw_istore (n := 142) d236_140 rfl rfl rfl ?_
    exact h
theorem vc236_142 {X : zX} {S : zx_S} {C : zx_C} {q : Int32 → zx_C → Prop} {e : Nat} {a1 : Int32} {a2 : Int32} {i1 : Int32} {i2 : Int32} {z3 : Value} {i4 : Int32} {i5 : Int32} (hS : zs_5 S e) (h : if (i5 : Int32) < (C.1 e 11) then (vp_in i2 8 ∧ (vp_in i5 40 ∧ (vp_in i5 8 ∧ (zW X 35 236 142 [.ref e, .int i1, .int i2, z3, .int i4, .int (i5 + 1)] [] S (zp C (e + 32) (Int32.toNatClampNeg i5) (Int64.toInt32 (C.2 ((e + 5) + Int32.toNatClampNeg i2) (Int32.toNatClampNeg i5)))) (zQi q))))) else (zCd X 33 224 [.ref e] S (zp C e 33 i1) (zQv (fun C2 => vp_in i1 3 ∧ (q (((Prod.fst (zp C2 e 33 (-1))) (e + 34) (Int32.toNatClampNeg i1)) - i4) (zp C2 e 33 (-1))))))) : zW X 35 236 142 [.ref e, .int i1, .int i2, z3, .int i4, .int i5] [] S C (zQi q) := by
  refine zw_iload (n := 144) d236_142 rfl rfl ?_
  refine zw_aload_n (n := 145) d236_144 rfl rfl ?_
  refine zw_geti (n := 148) d236_145 rfl (zj_5 hS).1 (zj_5 hS).2 ?_
  refine zw_ic_ge (n := 151) d236_148 rfl (zite h (fun h => ?_) (fun h => ?_))
  · skip
    refine zw_aload_n (n := 152) d236_151 rfl rfl ?_
    refine zw_getr (n := 155) d236_152 rfl (zj_5 hS).1 (zj_5 hS).2 (zr_5_34 hS) ?_
    refine zw_iload (n := 157) d236_155 rfl rfl ?_
    refine zw_aload_n (n := 158) d236_157 rfl rfl ?_
    refine zw_getr (n := 161) d236_158 rfl (zj_5 hS).1 (zj_5 hS).2 (zr_5_3 hS) ?_
    refine zw_iload_n (n := 162) d236_161 rfl rfl ?_
    obtain ⟨hi, h⟩ := h
    have hb1 := zb_5_3 hS (vp_lt hi)
    refine zw_aald (n := 163) d236_162 rfl (za_5_3 hS).1 (za_5_3 hS).2 (by decide) hi hb1.1 ?_
    refine zw_iload (n := 165) d236_163 rfl rfl ?_
    obtain ⟨hi, h⟩ := h
    refine zw_lald (n := 166) d236_165 rfl hb1.2.1 hb1.2.2 hi ?_
    refine zw_l2i (n := 167) d236_166 rfl ?_
    obtain ⟨hi, h⟩ := h
    refine zw_iast (n := 168) d236_167 rfl (za_5_34 hS).1 (za_5_34 hS).2 hi ?_
    refine zw_iinc (n := 171) d236_168 rfl rfl zk_i_1 rfl ?_
    refine zw_goto d236_171 ?_
    exact h
  · skip
    refine zw_aload_n (n := 175) d236_174 rfl rfl ?_
    refine zw_iload_n (n := 176) d236_175 rfl rfl ?_
    refine zw_puti (n := 179) d236_176 rfl (zj_5 hS).1 (zj_5 hS).2 ?_
    refine zw_aload_n (n := 180) d236_179 rfl rfl ?_
    refine zw_cV (n := 183) d236_180 (zs_V rfl rfl rfl rfl (by decide) (zj_5 hS).1 (zq_5 hS)) (by rw [ml_224]; rfl) (by decide) rfl (zc_mV h (fun C2 h => ?_))
    refine zw_aload_n (n := 184) d236_183 rfl rfl ?_
    refine zw_iconst (n := 185) d236_184 rfl zk_i_m1 ?_
    refine zw_puti (n := 188) d236_185 rfl (zj_5 hS).1 (zj_5 hS).2 ?_
    refine zw_aload_n (n := 189) d236_188 rfl rfl ?_
    refine zw_getr (n := 192) d236_189 rfl (zj_5 hS).1 (zj_5 hS).2 (zr_5_37 hS) ?_
    refine zw_iload_n (n := 193) d236_192 rfl rfl ?_
    obtain ⟨hi, h⟩ := h
    refine zw_iald (n := 194) d236_193 rfl (za_5_37 hS).1 (za_5_37 hS).2 hi ?_
    refine zw_iload (n := 196) d236_194 rfl rfl ?_
    refine zw_isub (n := 197) d236_196 rfl ?_
    exact zw_iret d236_197 rfl ⟨_, rfl, h⟩

set_option maxRecDepth 20000 in
theorem zf237 (pc : Nat) : zt_code 237 pc = zt_fd zl_237 pc := rfl
theorem d237_0 : zt_code 237 0 = some (.aload_n 0, 0, 0, 0) := (zf237 0).trans rfl
theorem d237_1 : zt_code 237 1 = some (.iload_n 1, 0, 0, 0) := (zf237 1).trans rfl
theorem d237_2 : zt_code 237 2 = some (.iload_n 2, 0, 0, 0) := (zf237 2).trans rfl
theorem d237_3 : zt_code 237 3 = some (.iconst (0), 0, 0, 0) := (zf237 3).trans rfl
theorem d237_4 : zt_code 237 4 = some (.invokevirtual 342, 238, 4, 5) := (zf237 4).trans rfl
theorem d237_7 : zt_code 237 7 = some (.istore_n 3, 0, 0, 0) := (zf237 7).trans rfl
theorem d237_8 : zt_code 237 8 = some (.iload_n 3, 0, 0, 0) := (zf237 8).trans rfl
theorem d237_9 : zt_code 237 9 = some (.ifCond .eq (11), 0, 20, 0) := (zf237 9).trans rfl
theorem d237_12 : zt_code 237 12 = some (.aload_n 0, 0, 0, 0) := (zf237 12).trans rfl
theorem d237_13 : zt_code 237 13 = some (.iload_n 3, 0, 0, 0) := (zf237 13).trans rfl
theorem d237_14 : zt_code 237 14 = some (.invokevirtual 107, 160, 2, 5) := (zf237 14).trans rfl
theorem d237_17 : zt_code 237 17 = some (.goto (15), 0, 32, 0) := (zf237 17).trans rfl
theorem d237_20 : zt_code 237 20 = some (.aload_n 0, 0, 0, 0) := (zf237 20).trans rfl
theorem d237_21 : zt_code 237 21 = some (.aload_n 0, 0, 0, 0) := (zf237 21).trans rfl
theorem d237_22 : zt_code 237 22 = some (.getfield 21, 5, 3, 1) := (zf237 22).trans rfl
theorem d237_25 : zt_code 237 25 = some (.iload_n 1, 0, 0, 0) := (zf237 25).trans rfl
theorem d237_26 : zt_code 237 26 = some (.aaload, 0, 0, 0) := (zf237 26).trans rfl
theorem d237_27 : zt_code 237 27 = some (.iload_n 2, 0, 0, 0) := (zf237 27).trans rfl
theorem d237_28 : zt_code 237 28 = some (.iconst (-1), 0, 0, 0) := (zf237 28).trans rfl
theorem d237_29 : zt_code 237 29 = some (.invokevirtual 345, 239, 4, 5) := (zf237 29).trans rfl
theorem d237_32 : zt_code 237 32 = some (.ireturn, 0, 0, 0) := (zf237 32).trans rfl
/-- FirstAtTheFirstModel.judge(II)I -/
theorem vc237 {X : zX} {S : zx_S} {C : zx_C} {q : Int32 → zx_C → Prop} {e : Nat} {a1 : Int32} {a2 : Int32} (hS : zs_5 S e) (h : zCd X 2 238 [.ref e, .int a1, .int a2, .int 0] S C (zQi (fun r1 C1 => if (r1 : Int32) = 0 then (vp_in a1 8 ∧ (zCd X 1 239 [.ref e, .ref ((e + 5) + Int32.toNatClampNeg a1), .int a2, .int (-1)] S C1 (zQi (fun r3 C3 => q r3 C3)))) else (zCd X 0 160 [.ref e, .int r1] S C1 (zQi (fun r4 C4 => q r4 C4)))))) : zCd X 3 237 [.ref e, .int a1, .int a2] S C (zQi q) := by
  refine zc_in ml_237 rfl ?_
  refine zw_aload_n (n := 1) d237_0 rfl rfl ?_
  refine zw_iload_n (n := 2) d237_1 rfl rfl ?_
  refine zw_iload_n (n := 3) d237_2 rfl rfl ?_
  refine zw_iconst (n := 4) d237_3 rfl zk_i_0 ?_
  refine zw_cI (n := 7) d237_4 (zs_V rfl rfl rfl rfl (by decide) (zj_5 hS).1 (zq_5 hS)) (by rw [ml_238]; rfl) (by decide) rfl (zc_mI h (fun r1 C1 h => ?_))
  refine zw_istore_n (n := 8) d237_7 rfl rfl rfl ?_
  refine zw_iload_n (n := 9) d237_8 rfl rfl ?_
  refine zw_if_eq (n := 12) d237_9 rfl (zite h (fun h => ?_) (fun h => ?_))
  · skip
    refine zw_aload_n (n := 21) d237_20 rfl rfl ?_
    refine zw_aload_n (n := 22) d237_21 rfl rfl ?_
    refine zw_getr (n := 25) d237_22 rfl (zj_5 hS).1 (zj_5 hS).2 (zr_5_3 hS) ?_
    refine zw_iload_n (n := 26) d237_25 rfl rfl ?_
    obtain ⟨hi, h⟩ := h
    have hb2 := zb_5_3 hS (vp_lt hi)
    refine zw_aald (n := 27) d237_26 rfl (za_5_3 hS).1 (za_5_3 hS).2 (by decide) hi hb2.1 ?_
    refine zw_iload_n (n := 28) d237_27 rfl rfl ?_
    refine zw_iconst (n := 29) d237_28 rfl zk_i_m1 ?_
    refine zw_cI (n := 32) d237_29 (zs_V rfl rfl rfl rfl (by decide) (zj_5 hS).1 (zq_5 hS)) (by rw [ml_239]; rfl) (by decide) rfl (zc_mI h (fun r3 C3 h => ?_))
    exact zw_iret d237_32 rfl ⟨_, rfl, h⟩
  · skip
    refine zw_aload_n (n := 13) d237_12 rfl rfl ?_
    refine zw_iload_n (n := 14) d237_13 rfl rfl ?_
    refine zw_cI (n := 17) d237_14 (zs_V rfl rfl rfl rfl (by decide) (zj_5 hS).1 (zq_5 hS)) (by rw [ml_160]; rfl) (by decide) rfl (zc_mI h (fun r4 C4 h => ?_))
    refine zw_goto d237_17 ?_
    exact zw_iret d237_32 rfl ⟨_, rfl, h⟩

set_option maxRecDepth 20000 in
theorem zf238 (pc : Nat) : zt_code 238 pc = zt_fd zl_238 pc := rfl
theorem d238_0 : zt_code 238 0 = some (.iload_n 1, 0, 0, 0) := (zf238 0).trans rfl
theorem d238_1 : zt_code 238 1 = some (.i2l, 0, 0, 0) := (zf238 1).trans rfl
theorem d238_2 : zt_code 238 2 = some (.lconst 0, 0, 0, 0) := (zf238 2).trans rfl
theorem d238_3 : zt_code 238 3 = some (.ldc2_w 101, 0, 0, 7) := (zf238 3).trans rfl
theorem d238_6 : zt_code 238 6 = some (.invokestatic 94, 159, 3, -1) := (zf238 6).trans rfl
theorem d238_9 : zt_code 238 9 = some (.ifCond .eq (16), 0, 25, 0) := (zf238 9).trans rfl
theorem d238_12 : zt_code 238 12 = some (.iload_n 2, 0, 0, 0) := (zf238 12).trans rfl
theorem d238_13 : zt_code 238 13 = some (.i2l, 0, 0, 0) := (zf238 13).trans rfl
theorem d238_14 : zt_code 238 14 = some (.iload_n 3, 0, 0, 0) := (zf238 14).trans rfl
theorem d238_15 : zt_code 238 15 = some (.i2l, 0, 0, 0) := (zf238 15).trans rfl
theorem d238_16 : zt_code 238 16 = some (.ldc2_w 338, 0, 0, 8) := (zf238 16).trans rfl
theorem d238_19 : zt_code 238 19 = some (.invokestatic 94, 159, 3, -1) := (zf238 19).trans rfl
theorem d238_22 : zt_code 238 22 = some (.ifCond .ne (6), 0, 28, 0) := (zf238 22).trans rfl
theorem d238_25 : zt_code 238 25 = some (.bipush (-2), 0, 0, 0) := (zf238 25).trans rfl
theorem d238_27 : zt_code 238 27 = some (.ireturn, 0, 0, 0) := (zf238 27).trans rfl
theorem d238_28 : zt_code 238 28 = some (.aload_n 0, 0, 0, 0) := (zf238 28).trans rfl
theorem d238_29 : zt_code 238 29 = some (.iload_n 1, 0, 0, 0) := (zf238 29).trans rfl
theorem d238_30 : zt_code 238 30 = some (.invokevirtual 111, 162, 2, 5) := (zf238 30).trans rfl
theorem d238_33 : zt_code 238 33 = some (.istore 4, 0, 0, 0) := (zf238 33).trans rfl
theorem d238_35 : zt_code 238 35 = some (.iload 4, 0, 0, 0) := (zf238 35).trans rfl
theorem d238_37 : zt_code 238 37 = some (.ifCond .eq (8), 0, 45, 0) := (zf238 37).trans rfl
theorem d238_40 : zt_code 238 40 = some (.iload 4, 0, 0, 0) := (zf238 40).trans rfl
theorem d238_42 : zt_code 238 42 = some (.goto (19), 0, 61, 0) := (zf238 42).trans rfl
theorem d238_45 : zt_code 238 45 = some (.aload_n 0, 0, 0, 0) := (zf238 45).trans rfl
theorem d238_46 : zt_code 238 46 = some (.getfield 16, 5, 2, 1) := (zf238 46).trans rfl
theorem d238_49 : zt_code 238 49 = some (.iload_n 1, 0, 0, 0) := (zf238 49).trans rfl
theorem d238_50 : zt_code 238 50 = some (.iaload, 0, 0, 0) := (zf238 50).trans rfl
theorem d238_51 : zt_code 238 51 = some (.iload_n 2, 0, 0, 0) := (zf238 51).trans rfl
theorem d238_52 : zt_code 238 52 = some (.if_icmp .ge (8), 0, 60, 0) := (zf238 52).trans rfl
theorem d238_55 : zt_code 238 55 = some (.bipush (-2), 0, 0, 0) := (zf238 55).trans rfl
theorem d238_57 : zt_code 238 57 = some (.goto (4), 0, 61, 0) := (zf238 57).trans rfl
theorem d238_60 : zt_code 238 60 = some (.iconst (0), 0, 0, 0) := (zf238 60).trans rfl
theorem d238_61 : zt_code 238 61 = some (.ireturn, 0, 0, 0) := (zf238 61).trans rfl
/-- FirstAtTheFirstModel.noBook(III)I -/
theorem vc238 {X : zX} {S : zx_S} {C : zx_C} {q : Int32 → zx_C → Prop} {e : Nat} {a1 : Int32} {a2 : Int32} {a3 : Int32} (hS : zs_5 S e) (h : zCd X 0 159 [.long (Int32.toInt64 a1), .long 0, .long 7] S C (zQi (fun r1 C1 => if (r1 : Int32) = 0 then (q (-2) C1) else (zCd X 0 159 [.long (Int32.toInt64 a2), .long (Int32.toInt64 a3), .long 8] S C1 (zQi (fun r2 C2 => if (r2 : Int32) = 0 then (q (-2) C2) else (zCd X 1 162 [.ref e, .int a1] S C2 (zQi (fun r3 C3 => if (r3 : Int32) = 0 then (vp_in a1 8 ∧ (if ((C3.1 (e + 3) (Int32.toNatClampNeg a1)) : Int32) < a2 then (q (-2) C3) else (q 0 C3))) else (q r3 C3)))))))))) : zCd X 2 238 [.ref e, .int a1, .int a2, .int a3] S C (zQi q) := by
  refine zc_in ml_238 rfl ?_
  refine zw_iload_n (n := 1) d238_0 rfl rfl ?_
  refine zw_i2l (n := 2) d238_1 rfl ?_
  refine zw_lconst (n := 3) d238_2 rfl zk_c_0 ?_
  refine zw_ldc2 (n := 6) d238_3 rfl zk_l_7 ?_
  refine zw_cI (n := 9) d238_6 (zs_S rfl rfl rfl rfl) (by rw [ml_159]; rfl) (by decide) rfl (zc_mI h (fun r1 C1 h => ?_))
  refine zw_if_eq (n := 12) d238_9 rfl (zite h (fun h => ?_) (fun h => ?_))
  · skip
    refine zw_bipush (n := 27) d238_25 rfl zk_b_m2 ?_
    exact zw_iret d238_27 rfl ⟨_, rfl, h⟩
  · skip
    refine zw_iload_n (n := 13) d238_12 rfl rfl ?_
    refine zw_i2l (n := 14) d238_13 rfl ?_
    refine zw_iload_n (n := 15) d238_14 rfl rfl ?_
    refine zw_i2l (n := 16) d238_15 rfl ?_
    refine zw_ldc2 (n := 19) d238_16 rfl zk_l_8 ?_
    refine zw_cI (n := 22) d238_19 (zs_S rfl rfl rfl rfl) (by rw [ml_159]; rfl) (by decide) rfl (zc_mI h (fun r2 C2 h => ?_))
    refine zw_if_ne (n := 25) d238_22 rfl (zite h (fun h => ?_) (fun h => ?_))
    · skip
      refine zw_bipush (n := 27) d238_25 rfl zk_b_m2 ?_
      exact zw_iret d238_27 rfl ⟨_, rfl, h⟩
    · skip
      refine zw_aload_n (n := 29) d238_28 rfl rfl ?_
      refine zw_iload_n (n := 30) d238_29 rfl rfl ?_
      refine zw_cI (n := 33) d238_30 (zs_V rfl rfl rfl rfl (by decide) (zj_5 hS).1 (zq_5 hS)) (by rw [ml_162]; rfl) (by decide) rfl (zc_mI h (fun r3 C3 h => ?_))
      refine zw_istore (n := 35) d238_33 rfl rfl rfl ?_
      refine zw_iload (n := 37) d238_35 rfl rfl ?_
      refine zw_if_eq (n := 40) d238_37 rfl (zite h (fun h => ?_) (fun h => ?_))
      · skip
        refine zw_aload_n (n := 46) d238_45 rfl rfl ?_
        refine zw_getr (n := 49) d238_46 rfl (zj_5 hS).1 (zj_5 hS).2 (zr_5_2 hS) ?_
        refine zw_iload_n (n := 50) d238_49 rfl rfl ?_
        obtain ⟨hi, h⟩ := h
        refine zw_iald (n := 51) d238_50 rfl (za_5_2 hS).1 (za_5_2 hS).2 hi ?_
        refine zw_iload_n (n := 52) d238_51 rfl rfl ?_
        refine zw_ic_ge (n := 55) d238_52 rfl (zite h (fun h => ?_) (fun h => ?_))
        · skip
          refine zw_bipush (n := 57) d238_55 rfl zk_b_m2 ?_
          refine zw_goto d238_57 ?_
          exact zw_iret d238_61 rfl ⟨_, rfl, h⟩
        · skip
          refine zw_iconst (n := 61) d238_60 rfl zk_i_0 ?_
          exact zw_iret d238_61 rfl ⟨_, rfl, h⟩
      · skip
        refine zw_iload (n := 42) d238_40 rfl rfl ?_
        refine zw_goto d238_42 ?_
        exact zw_iret d238_61 rfl ⟨_, rfl, h⟩

set_option maxRecDepth 20000 in
theorem zf239 (pc : Nat) : zt_code 239 pc = zt_fd zl_239 pc := rfl
theorem d239_0 : zt_code 239 0 = some (.aload_n 0, 0, 0, 0) := (zf239 0).trans rfl
theorem d239_1 : zt_code 239 1 = some (.invokevirtual 135, 172, 1, 5) := (zf239 1).trans rfl
theorem d239_4 : zt_code 239 4 = some (.istore 4, 0, 0, 0) := (zf239 4).trans rfl
theorem d239_6 : zt_code 239 6 = some (.aload_n 0, 0, 0, 0) := (zf239 6).trans rfl
theorem d239_7 : zt_code 239 7 = some (.getfield 139, 5, 18, 0) := (zf239 7).trans rfl
theorem d239_10 : zt_code 239 10 = some (.istore 5, 0, 0, 0) := (zf239 10).trans rfl
theorem d239_12 : zt_code 239 12 = some (.iconst (0), 0, 0, 0) := (zf239 12).trans rfl
theorem d239_13 : zt_code 239 13 = some (.istore 6, 0, 0, 0) := (zf239 13).trans rfl
theorem d239_15 : zt_code 239 15 = some (.iload 6, 0, 0, 0) := (zf239 15).trans rfl
theorem d239_17 : zt_code 239 17 = some (.iload_n 2, 0, 0, 0) := (zf239 17).trans rfl
theorem d239_18 : zt_code 239 18 = some (.if_icmp .ge (130), 0, 148, 0) := (zf239 18).trans rfl
theorem d239_21 : zt_code 239 21 = some (.iload 6, 0, 0, 0) := (zf239 21).trans rfl
theorem d239_23 : zt_code 239 23 = some (.iload_n 3, 0, 0, 0) := (zf239 23).trans rfl
theorem d239_24 : zt_code 239 24 = some (.if_icmp .eq (118), 0, 142, 0) := (zf239 24).trans rfl
theorem d239_27 : zt_code 239 27 = some (.aload_n 1, 0, 0, 0) := (zf239 27).trans rfl
theorem d239_28 : zt_code 239 28 = some (.iload 6, 0, 0, 0) := (zf239 28).trans rfl
theorem d239_30 : zt_code 239 30 = some (.laload, 0, 0, 0) := (zf239 30).trans rfl
theorem d239_31 : zt_code 239 31 = some (.lconst 0, 0, 0, 0) := (zf239 31).trans rfl
theorem d239_32 : zt_code 239 32 = some (.ldc2_w 340, 0, 0, 10) := (zf239 32).trans rfl
theorem d239_35 : zt_code 239 35 = some (.aload_n 0, 0, 0, 0) := (zf239 35).trans rfl
theorem d239_36 : zt_code 239 36 = some (.getfield 40, 5, 10, 0) := (zf239 36).trans rfl
theorem d239_39 : zt_code 239 39 = some (.i2l, 0, 0, 0) := (zf239 39).trans rfl
theorem d239_40 : zt_code 239 40 = some (.lmul, 0, 0, 0) := (zf239 40).trans rfl
theorem d239_41 : zt_code 239 41 = some (.lconst 1, 0, 0, 0) := (zf239 41).trans rfl
theorem d239_42 : zt_code 239 42 = some (.lsub, 0, 0, 0) := (zf239 42).trans rfl
theorem d239_43 : zt_code 239 43 = some (.invokestatic 94, 159, 3, -1) := (zf239 43).trans rfl
theorem d239_46 : zt_code 239 46 = some (.ifCond .eq (41), 0, 87, 0) := (zf239 46).trans rfl
theorem d239_49 : zt_code 239 49 = some (.aload_n 1, 0, 0, 0) := (zf239 49).trans rfl
theorem d239_50 : zt_code 239 50 = some (.iload 6, 0, 0, 0) := (zf239 50).trans rfl
theorem d239_52 : zt_code 239 52 = some (.laload, 0, 0, 0) := (zf239 52).trans rfl
theorem d239_53 : zt_code 239 53 = some (.ldc2_w 340, 0, 0, 10) := (zf239 53).trans rfl
theorem d239_56 : zt_code 239 56 = some (.lrem, 0, 0, 0) := (zf239 56).trans rfl
theorem d239_57 : zt_code 239 57 = some (.aload_n 0, 0, 0, 0) := (zf239 57).trans rfl
theorem d239_58 : zt_code 239 58 = some (.getfield 98, 5, 11, 0) := (zf239 58).trans rfl
theorem d239_61 : zt_code 239 61 = some (.i2l, 0, 0, 0) := (zf239 61).trans rfl
theorem d239_62 : zt_code 239 62 = some (.lcmp, 0, 0, 0) := (zf239 62).trans rfl
theorem d239_63 : zt_code 239 63 = some (.ifCond .ge (24), 0, 87, 0) := (zf239 63).trans rfl
theorem d239_66 : zt_code 239 66 = some (.iload 4, 0, 0, 0) := (zf239 66).trans rfl
theorem d239_68 : zt_code 239 68 = some (.aload_n 1, 0, 0, 0) := (zf239 68).trans rfl
theorem d239_69 : zt_code 239 69 = some (.iload 6, 0, 0, 0) := (zf239 69).trans rfl
theorem d239_71 : zt_code 239 71 = some (.laload, 0, 0, 0) := (zf239 71).trans rfl
theorem d239_72 : zt_code 239 72 = some (.ldc2_w 340, 0, 0, 10) := (zf239 72).trans rfl
theorem d239_75 : zt_code 239 75 = some (.lrem, 0, 0, 0) := (zf239 75).trans rfl
theorem d239_76 : zt_code 239 76 = some (.l2i, 0, 0, 0) := (zf239 76).trans rfl
theorem d239_77 : zt_code 239 77 = some (.invokestatic 252, 174, 2, -1) := (zf239 77).trans rfl
theorem d239_80 : zt_code 239 80 = some (.ifCond .eq (7), 0, 87, 0) := (zf239 80).trans rfl
theorem d239_83 : zt_code 239 83 = some (.iconst (1), 0, 0, 0) := (zf239 83).trans rfl
theorem d239_84 : zt_code 239 84 = some (.goto (4), 0, 88, 0) := (zf239 84).trans rfl
theorem d239_87 : zt_code 239 87 = some (.iconst (0), 0, 0, 0) := (zf239 87).trans rfl
theorem d239_88 : zt_code 239 88 = some (.istore 7, 0, 0, 0) := (zf239 88).trans rfl
theorem d239_90 : zt_code 239 90 = some (.iload 7, 0, 0, 0) := (zf239 90).trans rfl
theorem d239_92 : zt_code 239 92 = some (.ifCond .eq (26), 0, 118, 0) := (zf239 92).trans rfl
theorem d239_95 : zt_code 239 95 = some (.aload_n 1, 0, 0, 0) := (zf239 95).trans rfl
theorem d239_96 : zt_code 239 96 = some (.iload 6, 0, 0, 0) := (zf239 96).trans rfl
theorem d239_98 : zt_code 239 98 = some (.laload, 0, 0, 0) := (zf239 98).trans rfl
theorem d239_99 : zt_code 239 99 = some (.ldc2_w 340, 0, 0, 10) := (zf239 99).trans rfl
theorem d239_102 : zt_code 239 102 = some (.ldiv, 0, 0, 0) := (zf239 102).trans rfl
theorem d239_103 : zt_code 239 103 = some (.aload_n 0, 0, 0, 0) := (zf239 103).trans rfl
theorem d239_104 : zt_code 239 104 = some (.aload_n 0, 0, 0, 0) := (zf239 104).trans rfl
theorem d239_105 : zt_code 239 105 = some (.getfield 128, 5, 14, 0) := (zf239 105).trans rfl
theorem d239_108 : zt_code 239 108 = some (.iload 5, 0, 0, 0) := (zf239 108).trans rfl
theorem d239_110 : zt_code 239 110 = some (.invokevirtual 262, 178, 3, 5) := (zf239 110).trans rfl
theorem d239_113 : zt_code 239 113 = some (.i2l, 0, 0, 0) := (zf239 113).trans rfl
theorem d239_114 : zt_code 239 114 = some (.lcmp, 0, 0, 0) := (zf239 114).trans rfl
theorem d239_115 : zt_code 239 115 = some (.ifCond .eq (6), 0, 121, 0) := (zf239 115).trans rfl
theorem d239_118 : zt_code 239 118 = some (.iload 6, 0, 0, 0) := (zf239 118).trans rfl
theorem d239_120 : zt_code 239 120 = some (.ireturn, 0, 0, 0) := (zf239 120).trans rfl
theorem d239_121 : zt_code 239 121 = some (.iload 4, 0, 0, 0) := (zf239 121).trans rfl
theorem d239_123 : zt_code 239 123 = some (.iconst (1), 0, 0, 0) := (zf239 123).trans rfl
theorem d239_124 : zt_code 239 124 = some (.aload_n 1, 0, 0, 0) := (zf239 124).trans rfl
theorem d239_125 : zt_code 239 125 = some (.iload 6, 0, 0, 0) := (zf239 125).trans rfl
theorem d239_127 : zt_code 239 127 = some (.laload, 0, 0, 0) := (zf239 127).trans rfl
theorem d239_128 : zt_code 239 128 = some (.ldc2_w 340, 0, 0, 10) := (zf239 128).trans rfl
theorem d239_131 : zt_code 239 131 = some (.lrem, 0, 0, 0) := (zf239 131).trans rfl
theorem d239_132 : zt_code 239 132 = some (.l2i, 0, 0, 0) := (zf239 132).trans rfl
theorem d239_133 : zt_code 239 133 = some (.ishl, 0, 0, 0) := (zf239 133).trans rfl
theorem d239_134 : zt_code 239 134 = some (.iconst (-1), 0, 0, 0) := (zf239 134).trans rfl
theorem d239_135 : zt_code 239 135 = some (.ixor, 0, 0, 0) := (zf239 135).trans rfl
theorem d239_136 : zt_code 239 136 = some (.iand, 0, 0, 0) := (zf239 136).trans rfl
theorem d239_137 : zt_code 239 137 = some (.istore 4, 0, 0, 0) := (zf239 137).trans rfl
theorem d239_139 : zt_code 239 139 = some (.iinc 5 (1), 0, 0, 0) := (zf239 139).trans rfl
theorem d239_142 : zt_code 239 142 = some (.iinc 6 (1), 0, 0, 0) := (zf239 142).trans rfl
theorem d239_145 : zt_code 239 145 = some (.goto (-130), 0, 15, 0) := (zf239 145).trans rfl
theorem d239_148 : zt_code 239 148 = some (.iconst (-1), 0, 0, 0) := (zf239 148).trans rfl
theorem d239_149 : zt_code 239 149 = some (.ireturn, 0, 0, 0) := (zf239 149).trans rfl
/-- FirstAtTheFirstModel.wrongIn([JII)I -/
theorem vc239 {X : zX} {S : zx_S} {C : zx_C} {q : Int32 → zx_C → Prop} {e : Nat} {a1 n1 : Nat} {a2 : Int32} {a3 : Int32} (hS : zs_5 S e) (h1 : a1 < 900000 ∧ S.1 a1 = (11, n1)) (h : zCd X 0 172 [.ref e] S C (zQi (fun r1 C1 => zW X 1 239 15 [.ref e, .ref a1, .int a2, .int a3, .int r1, .int (C1.1 e 18), .int 0, .retAddr 0] [] S C1 (zQi q)))) : zCd X 1 239 [.ref e, .ref a1, .int a2, .int a3] S C (zQi q) := by
  refine zc_in ml_239 rfl ?_
  refine zw_aload_n (n := 1) d239_0 rfl rfl ?_
  refine zw_cI (n := 4) d239_1 (zs_V rfl rfl rfl rfl (by decide) (zj_5 hS).1 (zq_5 hS)) (by rw [ml_172]; rfl) (by decide) rfl (zc_mI h (fun r1 C1 h => ?_))
  refine zw_istore (n := 6) d239_4 rfl rfl rfl ?_
  refine zw_aload_n (n := 7) d239_6 rfl rfl ?_
  refine zw_geti (n := 10) d239_7 rfl (zj_5 hS).1 (zj_5 hS).2 ?_
  refine zw_istore (n := 12) d239_10 rfl rfl rfl ?_
  refine zw_iconst (n := 13) d239_12 rfl zk_i_0 ?_
  refine zw_istore (n := 15) d239_13 rfl rfl rfl ?_
  exact h
theorem vc239_15 {X : zX} {S : zx_S} {C : zx_C} {q : Int32 → zx_C → Prop} {e : Nat} {a1 n1 : Nat} {a2 : Int32} {a3 : Int32} {i2 : Int32} {i3 : Int32} {i4 : Int32} {i5 : Int32} {i6 : Int32} {z7 : Value} (hS : zs_5 S e) (h1 : a1 < 900000 ∧ S.1 a1 = (11, n1)) (h : if (i6 : Int32) < i2 then (if (i6 : Int32) = i3 then (zW X 1 239 15 [.ref e, .ref a1, .int i2, .int i3, .int i4, .int i5, .int (i6 + 1), z7] [] S C (zQi q)) else (vp_in i6 n1 ∧ (zCd X 0 159 [.long (C.2 a1 (Int32.toNatClampNeg i6)), .long 0, .long ((10 * (Int32.toInt64 (C.1 e 10))) - 1)] S C (zQi (fun r1 C1 => if (r1 : Int32) = 0 then (if (0 : Int32) = 0 then (q i6 C1) else (vp_in i6 n1 ∧ (zCd X 0 178 [.ref e, .int (C1.1 e 14), .int i5] S C1 (zQi (fun r2 C2 => if ((lg_cmp ((C1.2 a1 (Int32.toNatClampNeg i6)) / 10) (Int32.toInt64 r2)) : Int32) = 0 then (vp_in i6 n1 ∧ (zW X 1 239 15 [.ref e, .ref a1, .int i2, .int i3, .int (i4 &&& ((1 <<< ((Int64.toInt32 ((C2.2 a1 (Int32.toNatClampNeg i6)) - (C2.2 a1 (Int32.toNatClampNeg i6)) / 10 * 10)) &&& 31)) ^^^ (-1))), .int (i5 + 1), .int (i6 + 1), .int 0] [] S C2 (zQi q))) else (q i6 C2)))))) else (vp_in i6 n1 ∧ (if ((lg_cmp ((C1.2 a1 (Int32.toNatClampNeg i6)) - (C1.2 a1 (Int32.toNatClampNeg i6)) / 10 * 10) (Int32.toInt64 (C1.1 e 11))) : Int32) < 0 then (vp_in i6 n1 ∧ (zCd X 0 174 [.int i4, .int (Int64.toInt32 ((C1.2 a1 (Int32.toNatClampNeg i6)) - (C1.2 a1 (Int32.toNatClampNeg i6)) / 10 * 10))] S C1 (zQi (fun r3 C3 => if (r3 : Int32) = 0 then (if (0 : Int32) = 0 then (q i6 C3) else (vp_in i6 n1 ∧ (zCd X 0 178 [.ref e, .int (C3.1 e 14), .int i5] S C3 (zQi (fun r4 C4 => if ((lg_cmp ((C3.2 a1 (Int32.toNatClampNeg i6)) / 10) (Int32.toInt64 r4)) : Int32) = 0 then (vp_in i6 n1 ∧ (zW X 1 239 15 [.ref e, .ref a1, .int i2, .int i3, .int (i4 &&& ((1 <<< ((Int64.toInt32 ((C4.2 a1 (Int32.toNatClampNeg i6)) - (C4.2 a1 (Int32.toNatClampNeg i6)) / 10 * 10)) &&& 31)) ^^^ (-1))), .int (i5 + 1), .int (i6 + 1), .int 0] [] S C4 (zQi q))) else (q i6 C4)))))) else (if (1 : Int32) = 0 then (q i6 C3) else (vp_in i6 n1 ∧ (zCd X 0 178 [.ref e, .int (C3.1 e 14), .int i5] S C3 (zQi (fun r5 C5 => if ((lg_cmp ((C3.2 a1 (Int32.toNatClampNeg i6)) / 10) (Int32.toInt64 r5)) : Int32) = 0 then (vp_in i6 n1 ∧ (zW X 1 239 15 [.ref e, .ref a1, .int i2, .int i3, .int (i4 &&& ((1 <<< ((Int64.toInt32 ((C5.2 a1 (Int32.toNatClampNeg i6)) - (C5.2 a1 (Int32.toNatClampNeg i6)) / 10 * 10)) &&& 31)) ^^^ (-1))), .int (i5 + 1), .int (i6 + 1), .int 1] [] S C5 (zQi q))) else (q i6 C5)))))))))) else (if (0 : Int32) = 0 then (q i6 C1) else (vp_in i6 n1 ∧ (zCd X 0 178 [.ref e, .int (C1.1 e 14), .int i5] S C1 (zQi (fun r6 C6 => if ((lg_cmp ((C1.2 a1 (Int32.toNatClampNeg i6)) / 10) (Int32.toInt64 r6)) : Int32) = 0 then (vp_in i6 n1 ∧ (zW X 1 239 15 [.ref e, .ref a1, .int i2, .int i3, .int (i4 &&& ((1 <<< ((Int64.toInt32 ((C6.2 a1 (Int32.toNatClampNeg i6)) - (C6.2 a1 (Int32.toNatClampNeg i6)) / 10 * 10)) &&& 31)) ^^^ (-1))), .int (i5 + 1), .int (i6 + 1), .int 0] [] S C6 (zQi q))) else (q i6 C6))))))))))))) else (q (-1) C)) : zW X 1 239 15 [.ref e, .ref a1, .int i2, .int i3, .int i4, .int i5, .int i6, z7] [] S C (zQi q) := by
  refine zw_iload (n := 17) d239_15 rfl rfl ?_
  refine zw_iload_n (n := 18) d239_17 rfl rfl ?_
  refine zw_ic_ge (n := 21) d239_18 rfl (zite h (fun h => ?_) (fun h => ?_))
  · skip
    refine zw_iload (n := 23) d239_21 rfl rfl ?_
    refine zw_iload_n (n := 24) d239_23 rfl rfl ?_
    refine zw_ic_eq (n := 27) d239_24 rfl (zite h (fun h => ?_) (fun h => ?_))
    · skip
      refine zw_iinc (n := 145) d239_142 rfl rfl zk_i_1 rfl ?_
      refine zw_goto d239_145 ?_
      exact h
    · skip
      refine zw_aload_n (n := 28) d239_27 rfl rfl ?_
      refine zw_iload (n := 30) d239_28 rfl rfl ?_
      obtain ⟨hi, h⟩ := h
      refine zw_lald (n := 31) d239_30 rfl h1.1 h1.2 hi ?_
      refine zw_lconst (n := 32) d239_31 rfl zk_c_0 ?_
      refine zw_ldc2 (n := 35) d239_32 rfl zk_l_10 ?_
      refine zw_aload_n (n := 36) d239_35 rfl rfl ?_
      refine zw_geti (n := 39) d239_36 rfl (zj_5 hS).1 (zj_5 hS).2 ?_
      refine zw_i2l (n := 40) d239_39 rfl ?_
      refine zw_lmul (n := 41) d239_40 rfl ?_
      refine zw_lconst (n := 42) d239_41 rfl zk_c_1 ?_
      refine zw_lsub (n := 43) d239_42 rfl ?_
      refine zw_cI (n := 46) d239_43 (zs_S rfl rfl rfl rfl) (by rw [ml_159]; rfl) (by decide) rfl (zc_mI h (fun r1 C1 h => ?_))
      refine zw_if_eq (n := 49) d239_46 rfl (zite h (fun h => ?_) (fun h => ?_))
      · skip
        refine zw_iconst (n := 88) d239_87 rfl zk_i_0 ?_
        refine zw_istore (n := 90) d239_88 rfl rfl rfl ?_
        refine zw_iload (n := 92) d239_90 rfl rfl ?_
        refine zw_if_eq (n := 95) d239_92 rfl (zite h (fun h => ?_) (fun h => ?_))
        · skip
          refine zw_iload (n := 120) d239_118 rfl rfl ?_
          exact zw_iret d239_120 rfl ⟨_, rfl, h⟩
        · skip
          refine zw_aload_n (n := 96) d239_95 rfl rfl ?_
          refine zw_iload (n := 98) d239_96 rfl rfl ?_
          obtain ⟨hi, h⟩ := h
          refine zw_lald (n := 99) d239_98 rfl h1.1 h1.2 hi ?_
          refine zw_ldc2 (n := 102) d239_99 rfl zk_l_10 ?_
          refine zw_ldiv (n := 103) d239_102 rfl (by decide) ?_
          refine zw_aload_n (n := 104) d239_103 rfl rfl ?_
          refine zw_aload_n (n := 105) d239_104 rfl rfl ?_
          refine zw_geti (n := 108) d239_105 rfl (zj_5 hS).1 (zj_5 hS).2 ?_
          refine zw_iload (n := 110) d239_108 rfl rfl ?_
          refine zw_cI (n := 113) d239_110 (zs_V rfl rfl rfl rfl (by decide) (zj_5 hS).1 (zq_5 hS)) (by rw [ml_178]; rfl) (by decide) rfl (zc_mI h (fun r2 C2 h => ?_))
          refine zw_i2l (n := 114) d239_113 rfl ?_
          refine zw_lcmp (n := 115) d239_114 rfl ?_
          refine zw_if_eq (n := 118) d239_115 rfl (zite h (fun h => ?_) (fun h => ?_))
          · skip
            refine zw_iload (n := 123) d239_121 rfl rfl ?_
            refine zw_iconst (n := 124) d239_123 rfl zk_i_1 ?_
            refine zw_aload_n (n := 125) d239_124 rfl rfl ?_
            refine zw_iload (n := 127) d239_125 rfl rfl ?_
            obtain ⟨hi, h⟩ := h
            refine zw_lald (n := 128) d239_127 rfl h1.1 h1.2 hi ?_
            refine zw_ldc2 (n := 131) d239_128 rfl zk_l_10 ?_
            refine zw_lrem (n := 132) d239_131 rfl (by decide) ?_
            refine zw_l2i (n := 133) d239_132 rfl ?_
            refine zw_ishl (n := 134) d239_133 rfl ?_
            refine zw_iconst (n := 135) d239_134 rfl zk_i_m1 ?_
            refine zw_ixor (n := 136) d239_135 rfl ?_
            refine zw_iand (n := 137) d239_136 rfl ?_
            refine zw_istore (n := 139) d239_137 rfl rfl rfl ?_
            refine zw_iinc (n := 142) d239_139 rfl rfl zk_i_1 rfl ?_
            refine zw_iinc (n := 145) d239_142 rfl rfl zk_i_1 rfl ?_
            refine zw_goto d239_145 ?_
            exact h
          · skip
            refine zw_iload (n := 120) d239_118 rfl rfl ?_
            exact zw_iret d239_120 rfl ⟨_, rfl, h⟩
      · skip
        refine zw_aload_n (n := 50) d239_49 rfl rfl ?_
        refine zw_iload (n := 52) d239_50 rfl rfl ?_
        obtain ⟨hi, h⟩ := h
        refine zw_lald (n := 53) d239_52 rfl h1.1 h1.2 hi ?_
        refine zw_ldc2 (n := 56) d239_53 rfl zk_l_10 ?_
        refine zw_lrem (n := 57) d239_56 rfl (by decide) ?_
        refine zw_aload_n (n := 58) d239_57 rfl rfl ?_
        refine zw_geti (n := 61) d239_58 rfl (zj_5 hS).1 (zj_5 hS).2 ?_
        refine zw_i2l (n := 62) d239_61 rfl ?_
        refine zw_lcmp (n := 63) d239_62 rfl ?_
        refine zw_if_ge (n := 66) d239_63 rfl (zite h (fun h => ?_) (fun h => ?_))
        · skip
          refine zw_iload (n := 68) d239_66 rfl rfl ?_
          refine zw_aload_n (n := 69) d239_68 rfl rfl ?_
          refine zw_iload (n := 71) d239_69 rfl rfl ?_
          obtain ⟨hi, h⟩ := h
          refine zw_lald (n := 72) d239_71 rfl h1.1 h1.2 hi ?_
          refine zw_ldc2 (n := 75) d239_72 rfl zk_l_10 ?_
          refine zw_lrem (n := 76) d239_75 rfl (by decide) ?_
          refine zw_l2i (n := 77) d239_76 rfl ?_
          refine zw_cI (n := 80) d239_77 (zs_S rfl rfl rfl rfl) (by rw [ml_174]; rfl) (by decide) rfl (zc_mI h (fun r3 C3 h => ?_))
          refine zw_if_eq (n := 83) d239_80 rfl (zite h (fun h => ?_) (fun h => ?_))
          · skip
            refine zw_iconst (n := 88) d239_87 rfl zk_i_0 ?_
            refine zw_istore (n := 90) d239_88 rfl rfl rfl ?_
            refine zw_iload (n := 92) d239_90 rfl rfl ?_
            refine zw_if_eq (n := 95) d239_92 rfl (zite h (fun h => ?_) (fun h => ?_))
            · skip
              refine zw_iload (n := 120) d239_118 rfl rfl ?_
              exact zw_iret d239_120 rfl ⟨_, rfl, h⟩
            · skip
              refine zw_aload_n (n := 96) d239_95 rfl rfl ?_
              refine zw_iload (n := 98) d239_96 rfl rfl ?_
              obtain ⟨hi, h⟩ := h
              refine zw_lald (n := 99) d239_98 rfl h1.1 h1.2 hi ?_
              refine zw_ldc2 (n := 102) d239_99 rfl zk_l_10 ?_
              refine zw_ldiv (n := 103) d239_102 rfl (by decide) ?_
              refine zw_aload_n (n := 104) d239_103 rfl rfl ?_
              refine zw_aload_n (n := 105) d239_104 rfl rfl ?_
              refine zw_geti (n := 108) d239_105 rfl (zj_5 hS).1 (zj_5 hS).2 ?_
              refine zw_iload (n := 110) d239_108 rfl rfl ?_
              refine zw_cI (n := 113) d239_110 (zs_V rfl rfl rfl rfl (by decide) (zj_5 hS).1 (zq_5 hS)) (by rw [ml_178]; rfl) (by decide) rfl (zc_mI h (fun r4 C4 h => ?_))
              refine zw_i2l (n := 114) d239_113 rfl ?_
              refine zw_lcmp (n := 115) d239_114 rfl ?_
              refine zw_if_eq (n := 118) d239_115 rfl (zite h (fun h => ?_) (fun h => ?_))
              · skip
                refine zw_iload (n := 123) d239_121 rfl rfl ?_
                refine zw_iconst (n := 124) d239_123 rfl zk_i_1 ?_
                refine zw_aload_n (n := 125) d239_124 rfl rfl ?_
                refine zw_iload (n := 127) d239_125 rfl rfl ?_
                obtain ⟨hi, h⟩ := h
                refine zw_lald (n := 128) d239_127 rfl h1.1 h1.2 hi ?_
                refine zw_ldc2 (n := 131) d239_128 rfl zk_l_10 ?_
                refine zw_lrem (n := 132) d239_131 rfl (by decide) ?_
                refine zw_l2i (n := 133) d239_132 rfl ?_
                refine zw_ishl (n := 134) d239_133 rfl ?_
                refine zw_iconst (n := 135) d239_134 rfl zk_i_m1 ?_
                refine zw_ixor (n := 136) d239_135 rfl ?_
                refine zw_iand (n := 137) d239_136 rfl ?_
                refine zw_istore (n := 139) d239_137 rfl rfl rfl ?_
                refine zw_iinc (n := 142) d239_139 rfl rfl zk_i_1 rfl ?_
                refine zw_iinc (n := 145) d239_142 rfl rfl zk_i_1 rfl ?_
                refine zw_goto d239_145 ?_
                exact h
              · skip
                refine zw_iload (n := 120) d239_118 rfl rfl ?_
                exact zw_iret d239_120 rfl ⟨_, rfl, h⟩
          · skip
            refine zw_iconst (n := 84) d239_83 rfl zk_i_1 ?_
            refine zw_goto d239_84 ?_
            refine zw_istore (n := 90) d239_88 rfl rfl rfl ?_
            refine zw_iload (n := 92) d239_90 rfl rfl ?_
            refine zw_if_eq (n := 95) d239_92 rfl (zite h (fun h => ?_) (fun h => ?_))
            · skip
              refine zw_iload (n := 120) d239_118 rfl rfl ?_
              exact zw_iret d239_120 rfl ⟨_, rfl, h⟩
            · skip
              refine zw_aload_n (n := 96) d239_95 rfl rfl ?_
              refine zw_iload (n := 98) d239_96 rfl rfl ?_
              obtain ⟨hi, h⟩ := h
              refine zw_lald (n := 99) d239_98 rfl h1.1 h1.2 hi ?_
              refine zw_ldc2 (n := 102) d239_99 rfl zk_l_10 ?_
              refine zw_ldiv (n := 103) d239_102 rfl (by decide) ?_
              refine zw_aload_n (n := 104) d239_103 rfl rfl ?_
              refine zw_aload_n (n := 105) d239_104 rfl rfl ?_
              refine zw_geti (n := 108) d239_105 rfl (zj_5 hS).1 (zj_5 hS).2 ?_
              refine zw_iload (n := 110) d239_108 rfl rfl ?_
              refine zw_cI (n := 113) d239_110 (zs_V rfl rfl rfl rfl (by decide) (zj_5 hS).1 (zq_5 hS)) (by rw [ml_178]; rfl) (by decide) rfl (zc_mI h (fun r5 C5 h => ?_))
              refine zw_i2l (n := 114) d239_113 rfl ?_
              refine zw_lcmp (n := 115) d239_114 rfl ?_
              refine zw_if_eq (n := 118) d239_115 rfl (zite h (fun h => ?_) (fun h => ?_))
              · skip
                refine zw_iload (n := 123) d239_121 rfl rfl ?_
                refine zw_iconst (n := 124) d239_123 rfl zk_i_1 ?_
                refine zw_aload_n (n := 125) d239_124 rfl rfl ?_
                refine zw_iload (n := 127) d239_125 rfl rfl ?_
                obtain ⟨hi, h⟩ := h
                refine zw_lald (n := 128) d239_127 rfl h1.1 h1.2 hi ?_
                refine zw_ldc2 (n := 131) d239_128 rfl zk_l_10 ?_
                refine zw_lrem (n := 132) d239_131 rfl (by decide) ?_
                refine zw_l2i (n := 133) d239_132 rfl ?_
                refine zw_ishl (n := 134) d239_133 rfl ?_
                refine zw_iconst (n := 135) d239_134 rfl zk_i_m1 ?_
                refine zw_ixor (n := 136) d239_135 rfl ?_
                refine zw_iand (n := 137) d239_136 rfl ?_
                refine zw_istore (n := 139) d239_137 rfl rfl rfl ?_
                refine zw_iinc (n := 142) d239_139 rfl rfl zk_i_1 rfl ?_
                refine zw_iinc (n := 145) d239_142 rfl rfl zk_i_1 rfl ?_
                refine zw_goto d239_145 ?_
                exact h
              · skip
                refine zw_iload (n := 120) d239_118 rfl rfl ?_
                exact zw_iret d239_120 rfl ⟨_, rfl, h⟩
        · skip
          refine zw_iconst (n := 88) d239_87 rfl zk_i_0 ?_
          refine zw_istore (n := 90) d239_88 rfl rfl rfl ?_
          refine zw_iload (n := 92) d239_90 rfl rfl ?_
          refine zw_if_eq (n := 95) d239_92 rfl (zite h (fun h => ?_) (fun h => ?_))
          · skip
            refine zw_iload (n := 120) d239_118 rfl rfl ?_
            exact zw_iret d239_120 rfl ⟨_, rfl, h⟩
          · skip
            refine zw_aload_n (n := 96) d239_95 rfl rfl ?_
            refine zw_iload (n := 98) d239_96 rfl rfl ?_
            obtain ⟨hi, h⟩ := h
            refine zw_lald (n := 99) d239_98 rfl h1.1 h1.2 hi ?_
            refine zw_ldc2 (n := 102) d239_99 rfl zk_l_10 ?_
            refine zw_ldiv (n := 103) d239_102 rfl (by decide) ?_
            refine zw_aload_n (n := 104) d239_103 rfl rfl ?_
            refine zw_aload_n (n := 105) d239_104 rfl rfl ?_
            refine zw_geti (n := 108) d239_105 rfl (zj_5 hS).1 (zj_5 hS).2 ?_
            refine zw_iload (n := 110) d239_108 rfl rfl ?_
            refine zw_cI (n := 113) d239_110 (zs_V rfl rfl rfl rfl (by decide) (zj_5 hS).1 (zq_5 hS)) (by rw [ml_178]; rfl) (by decide) rfl (zc_mI h (fun r6 C6 h => ?_))
            refine zw_i2l (n := 114) d239_113 rfl ?_
            refine zw_lcmp (n := 115) d239_114 rfl ?_
            refine zw_if_eq (n := 118) d239_115 rfl (zite h (fun h => ?_) (fun h => ?_))
            · skip
              refine zw_iload (n := 123) d239_121 rfl rfl ?_
              refine zw_iconst (n := 124) d239_123 rfl zk_i_1 ?_
              refine zw_aload_n (n := 125) d239_124 rfl rfl ?_
              refine zw_iload (n := 127) d239_125 rfl rfl ?_
              obtain ⟨hi, h⟩ := h
              refine zw_lald (n := 128) d239_127 rfl h1.1 h1.2 hi ?_
              refine zw_ldc2 (n := 131) d239_128 rfl zk_l_10 ?_
              refine zw_lrem (n := 132) d239_131 rfl (by decide) ?_
              refine zw_l2i (n := 133) d239_132 rfl ?_
              refine zw_ishl (n := 134) d239_133 rfl ?_
              refine zw_iconst (n := 135) d239_134 rfl zk_i_m1 ?_
              refine zw_ixor (n := 136) d239_135 rfl ?_
              refine zw_iand (n := 137) d239_136 rfl ?_
              refine zw_istore (n := 139) d239_137 rfl rfl rfl ?_
              refine zw_iinc (n := 142) d239_139 rfl rfl zk_i_1 rfl ?_
              refine zw_iinc (n := 145) d239_142 rfl rfl zk_i_1 rfl ?_
              refine zw_goto d239_145 ?_
              exact h
            · skip
              refine zw_iload (n := 120) d239_118 rfl rfl ?_
              exact zw_iret d239_120 rfl ⟨_, rfl, h⟩
  · skip
    refine zw_iconst (n := 149) d239_148 rfl zk_i_m1 ?_
    exact zw_iret d239_149 rfl ⟨_, rfl, h⟩

set_option maxRecDepth 20000 in
theorem zf240 (pc : Nat) : zt_code 240 pc = zt_fd zl_240 pc := rfl
theorem d240_0 : zt_code 240 0 = some (.aload_n 0, 0, 0, 0) := (zf240 0).trans rfl
theorem d240_1 : zt_code 240 1 = some (.iload_n 1, 0, 0, 0) := (zf240 1).trans rfl
theorem d240_2 : zt_code 240 2 = some (.iload_n 2, 0, 0, 0) := (zf240 2).trans rfl
theorem d240_3 : zt_code 240 3 = some (.iconst (1), 0, 0, 0) := (zf240 3).trans rfl
theorem d240_4 : zt_code 240 4 = some (.invokevirtual 342, 238, 4, 5) := (zf240 4).trans rfl
theorem d240_7 : zt_code 240 7 = some (.istore_n 3, 0, 0, 0) := (zf240 7).trans rfl
theorem d240_8 : zt_code 240 8 = some (.iload_n 3, 0, 0, 0) := (zf240 8).trans rfl
theorem d240_9 : zt_code 240 9 = some (.ifCond .eq (9), 0, 18, 0) := (zf240 9).trans rfl
theorem d240_12 : zt_code 240 12 = some (.aload_n 0, 0, 0, 0) := (zf240 12).trans rfl
theorem d240_13 : zt_code 240 13 = some (.iload_n 3, 0, 0, 0) := (zf240 13).trans rfl
theorem d240_14 : zt_code 240 14 = some (.invokevirtual 107, 160, 2, 5) := (zf240 14).trans rfl
theorem d240_17 : zt_code 240 17 = some (.ireturn, 0, 0, 0) := (zf240 17).trans rfl
theorem d240_18 : zt_code 240 18 = some (.iconst (0), 0, 0, 0) := (zf240 18).trans rfl
theorem d240_19 : zt_code 240 19 = some (.istore 4, 0, 0, 0) := (zf240 19).trans rfl
theorem d240_21 : zt_code 240 21 = some (.iload 4, 0, 0, 0) := (zf240 21).trans rfl
theorem d240_23 : zt_code 240 23 = some (.iload_n 2, 0, 0, 0) := (zf240 23).trans rfl
theorem d240_24 : zt_code 240 24 = some (.if_icmp .ge (29), 0, 53, 0) := (zf240 24).trans rfl
theorem d240_27 : zt_code 240 27 = some (.aload_n 0, 0, 0, 0) := (zf240 27).trans rfl
theorem d240_28 : zt_code 240 28 = some (.aload_n 0, 0, 0, 0) := (zf240 28).trans rfl
theorem d240_29 : zt_code 240 29 = some (.getfield 21, 5, 3, 1) := (zf240 29).trans rfl
theorem d240_32 : zt_code 240 32 = some (.iload_n 1, 0, 0, 0) := (zf240 32).trans rfl
theorem d240_33 : zt_code 240 33 = some (.aaload, 0, 0, 0) := (zf240 33).trans rfl
theorem d240_34 : zt_code 240 34 = some (.iload_n 2, 0, 0, 0) := (zf240 34).trans rfl
theorem d240_35 : zt_code 240 35 = some (.iload 4, 0, 0, 0) := (zf240 35).trans rfl
theorem d240_37 : zt_code 240 37 = some (.invokevirtual 345, 239, 4, 5) := (zf240 37).trans rfl
theorem d240_40 : zt_code 240 40 = some (.iconst (-1), 0, 0, 0) := (zf240 40).trans rfl
theorem d240_41 : zt_code 240 41 = some (.if_icmp .ne (6), 0, 47, 0) := (zf240 41).trans rfl
theorem d240_44 : zt_code 240 44 = some (.iload 4, 0, 0, 0) := (zf240 44).trans rfl
theorem d240_46 : zt_code 240 46 = some (.ireturn, 0, 0, 0) := (zf240 46).trans rfl
theorem d240_47 : zt_code 240 47 = some (.iinc 4 (1), 0, 0, 0) := (zf240 47).trans rfl
theorem d240_50 : zt_code 240 50 = some (.goto (-29), 0, 21, 0) := (zf240 50).trans rfl
theorem d240_53 : zt_code 240 53 = some (.iconst (-1), 0, 0, 0) := (zf240 53).trans rfl
theorem d240_54 : zt_code 240 54 = some (.ireturn, 0, 0, 0) := (zf240 54).trans rfl
/-- FirstAtTheFirstModel.stolen(II)I -/
theorem vc240 {X : zX} {S : zx_S} {C : zx_C} {q : Int32 → zx_C → Prop} {e : Nat} {a1 : Int32} {a2 : Int32} (hS : zs_5 S e) (h : zCd X 2 238 [.ref e, .int a1, .int a2, .int 1] S C (zQi (fun r1 C1 => if (r1 : Int32) = 0 then (zW X 3 240 21 [.ref e, .int a1, .int a2, .int r1, .int 0] [] S C1 (zQi q)) else (zCd X 0 160 [.ref e, .int r1] S C1 (zQi (fun r2 C2 => q r2 C2)))))) : zCd X 3 240 [.ref e, .int a1, .int a2] S C (zQi q) := by
  refine zc_in ml_240 rfl ?_
  refine zw_aload_n (n := 1) d240_0 rfl rfl ?_
  refine zw_iload_n (n := 2) d240_1 rfl rfl ?_
  refine zw_iload_n (n := 3) d240_2 rfl rfl ?_
  refine zw_iconst (n := 4) d240_3 rfl zk_i_1 ?_
  refine zw_cI (n := 7) d240_4 (zs_V rfl rfl rfl rfl (by decide) (zj_5 hS).1 (zq_5 hS)) (by rw [ml_238]; rfl) (by decide) rfl (zc_mI h (fun r1 C1 h => ?_))
  refine zw_istore_n (n := 8) d240_7 rfl rfl rfl ?_
  refine zw_iload_n (n := 9) d240_8 rfl rfl ?_
  refine zw_if_eq (n := 12) d240_9 rfl (zite h (fun h => ?_) (fun h => ?_))
  · skip
    refine zw_iconst (n := 19) d240_18 rfl zk_i_0 ?_
    refine zw_istore (n := 21) d240_19 rfl rfl rfl ?_
    exact h
  · skip
    refine zw_aload_n (n := 13) d240_12 rfl rfl ?_
    refine zw_iload_n (n := 14) d240_13 rfl rfl ?_
    refine zw_cI (n := 17) d240_14 (zs_V rfl rfl rfl rfl (by decide) (zj_5 hS).1 (zq_5 hS)) (by rw [ml_160]; rfl) (by decide) rfl (zc_mI h (fun r2 C2 h => ?_))
    exact zw_iret d240_17 rfl ⟨_, rfl, h⟩
theorem vc240_21 {X : zX} {S : zx_S} {C : zx_C} {q : Int32 → zx_C → Prop} {e : Nat} {a1 : Int32} {a2 : Int32} {i1 : Int32} {i2 : Int32} {z3 : Value} {i4 : Int32} (hS : zs_5 S e) (h : if (i4 : Int32) < i2 then (vp_in i1 8 ∧ (zCd X 1 239 [.ref e, .ref ((e + 5) + Int32.toNatClampNeg i1), .int i2, .int i4] S C (zQi (fun r2 C2 => if (r2 : Int32) = (-1) then (q i4 C2) else (zW X 3 240 21 [.ref e, .int i1, .int i2, z3, .int (i4 + 1)] [] S C2 (zQi q)))))) else (q (-1) C)) : zW X 3 240 21 [.ref e, .int i1, .int i2, z3, .int i4] [] S C (zQi q) := by
  refine zw_iload (n := 23) d240_21 rfl rfl ?_
  refine zw_iload_n (n := 24) d240_23 rfl rfl ?_
  refine zw_ic_ge (n := 27) d240_24 rfl (zite h (fun h => ?_) (fun h => ?_))
  · skip
    refine zw_aload_n (n := 28) d240_27 rfl rfl ?_
    refine zw_aload_n (n := 29) d240_28 rfl rfl ?_
    refine zw_getr (n := 32) d240_29 rfl (zj_5 hS).1 (zj_5 hS).2 (zr_5_3 hS) ?_
    refine zw_iload_n (n := 33) d240_32 rfl rfl ?_
    obtain ⟨hi, h⟩ := h
    have hb1 := zb_5_3 hS (vp_lt hi)
    refine zw_aald (n := 34) d240_33 rfl (za_5_3 hS).1 (za_5_3 hS).2 (by decide) hi hb1.1 ?_
    refine zw_iload_n (n := 35) d240_34 rfl rfl ?_
    refine zw_iload (n := 37) d240_35 rfl rfl ?_
    refine zw_cI (n := 40) d240_37 (zs_V rfl rfl rfl rfl (by decide) (zj_5 hS).1 (zq_5 hS)) (by rw [ml_239]; rfl) (by decide) rfl (zc_mI h (fun r2 C2 h => ?_))
    refine zw_iconst (n := 41) d240_40 rfl zk_i_m1 ?_
    refine zw_ic_ne (n := 44) d240_41 rfl (zite h (fun h => ?_) (fun h => ?_))
    · skip
      refine zw_iload (n := 46) d240_44 rfl rfl ?_
      exact zw_iret d240_46 rfl ⟨_, rfl, h⟩
    · skip
      refine zw_iinc (n := 50) d240_47 rfl rfl zk_i_1 rfl ?_
      refine zw_goto d240_50 ?_
      exact h
  · skip
    refine zw_iconst (n := 54) d240_53 rfl zk_i_m1 ?_
    exact zw_iret d240_54 rfl ⟨_, rfl, h⟩

set_option maxRecDepth 20000 in
theorem zf241 (pc : Nat) : zt_code 241 pc = zt_fd zl_241 pc := rfl
theorem d241_0 : zt_code 241 0 = some (.aload_n 0, 0, 0, 0) := (zf241 0).trans rfl
theorem d241_1 : zt_code 241 1 = some (.iload_n 3, 0, 0, 0) := (zf241 1).trans rfl
theorem d241_2 : zt_code 241 2 = some (.invokevirtual 118, 168, 2, 5) := (zf241 2).trans rfl
theorem d241_5 : zt_code 241 5 = some (.ifCond .ne (10), 0, 15, 0) := (zf241 5).trans rfl
theorem d241_8 : zt_code 241 8 = some (.aload_n 0, 0, 0, 0) := (zf241 8).trans rfl
theorem d241_9 : zt_code 241 9 = some (.bipush (-2), 0, 0, 0) := (zf241 9).trans rfl
theorem d241_11 : zt_code 241 11 = some (.invokevirtual 107, 160, 2, 5) := (zf241 11).trans rfl
theorem d241_14 : zt_code 241 14 = some (.ireturn, 0, 0, 0) := (zf241 14).trans rfl
theorem d241_15 : zt_code 241 15 = some (.aload_n 0, 0, 0, 0) := (zf241 15).trans rfl
theorem d241_16 : zt_code 241 16 = some (.iload_n 1, 0, 0, 0) := (zf241 16).trans rfl
theorem d241_17 : zt_code 241 17 = some (.iload_n 2, 0, 0, 0) := (zf241 17).trans rfl
theorem d241_18 : zt_code 241 18 = some (.iconst (0), 0, 0, 0) := (zf241 18).trans rfl
theorem d241_19 : zt_code 241 19 = some (.invokevirtual 342, 238, 4, 5) := (zf241 19).trans rfl
theorem d241_22 : zt_code 241 22 = some (.istore 4, 0, 0, 0) := (zf241 22).trans rfl
theorem d241_24 : zt_code 241 24 = some (.iload 4, 0, 0, 0) := (zf241 24).trans rfl
theorem d241_26 : zt_code 241 26 = some (.ifCond .eq (10), 0, 36, 0) := (zf241 26).trans rfl
theorem d241_29 : zt_code 241 29 = some (.aload_n 0, 0, 0, 0) := (zf241 29).trans rfl
theorem d241_30 : zt_code 241 30 = some (.iload 4, 0, 0, 0) := (zf241 30).trans rfl
theorem d241_32 : zt_code 241 32 = some (.invokevirtual 107, 160, 2, 5) := (zf241 32).trans rfl
theorem d241_35 : zt_code 241 35 = some (.ireturn, 0, 0, 0) := (zf241 35).trans rfl
theorem d241_36 : zt_code 241 36 = some (.aload_n 0, 0, 0, 0) := (zf241 36).trans rfl
theorem d241_37 : zt_code 241 37 = some (.aload_n 0, 0, 0, 0) := (zf241 37).trans rfl
theorem d241_38 : zt_code 241 38 = some (.getfield 21, 5, 3, 1) := (zf241 38).trans rfl
theorem d241_41 : zt_code 241 41 = some (.iload_n 1, 0, 0, 0) := (zf241 41).trans rfl
theorem d241_42 : zt_code 241 42 = some (.aaload, 0, 0, 0) := (zf241 42).trans rfl
theorem d241_43 : zt_code 241 43 = some (.iload_n 2, 0, 0, 0) := (zf241 43).trans rfl
theorem d241_44 : zt_code 241 44 = some (.iconst (-1), 0, 0, 0) := (zf241 44).trans rfl
theorem d241_45 : zt_code 241 45 = some (.invokevirtual 345, 239, 4, 5) := (zf241 45).trans rfl
theorem d241_48 : zt_code 241 48 = some (.iconst (-1), 0, 0, 0) := (zf241 48).trans rfl
theorem d241_49 : zt_code 241 49 = some (.if_icmp .eq (10), 0, 59, 0) := (zf241 49).trans rfl
theorem d241_52 : zt_code 241 52 = some (.aload_n 0, 0, 0, 0) := (zf241 52).trans rfl
theorem d241_53 : zt_code 241 53 = some (.bipush (-5), 0, 0, 0) := (zf241 53).trans rfl
theorem d241_55 : zt_code 241 55 = some (.invokevirtual 107, 160, 2, 5) := (zf241 55).trans rfl
theorem d241_58 : zt_code 241 58 = some (.ireturn, 0, 0, 0) := (zf241 58).trans rfl
theorem d241_59 : zt_code 241 59 = some (.aload_n 0, 0, 0, 0) := (zf241 59).trans rfl
theorem d241_60 : zt_code 241 60 = some (.aload_n 0, 0, 0, 0) := (zf241 60).trans rfl
theorem d241_61 : zt_code 241 61 = some (.getfield 128, 5, 14, 0) := (zf241 61).trans rfl
theorem d241_64 : zt_code 241 64 = some (.invokevirtual 131, 171, 2, 5) := (zf241 64).trans rfl
theorem d241_67 : zt_code 241 67 = some (.iconst (0), 0, 0, 0) := (zf241 67).trans rfl
theorem d241_68 : zt_code 241 68 = some (.istore 5, 0, 0, 0) := (zf241 68).trans rfl
theorem d241_70 : zt_code 241 70 = some (.iconst (0), 0, 0, 0) := (zf241 70).trans rfl
theorem d241_71 : zt_code 241 71 = some (.istore 6, 0, 0, 0) := (zf241 71).trans rfl
theorem d241_73 : zt_code 241 73 = some (.iload 6, 0, 0, 0) := (zf241 73).trans rfl
theorem d241_75 : zt_code 241 75 = some (.iconst (5), 0, 0, 0) := (zf241 75).trans rfl
theorem d241_76 : zt_code 241 76 = some (.if_icmp .gt (39), 0, 115, 0) := (zf241 76).trans rfl
theorem d241_79 : zt_code 241 79 = some (.iload 5, 0, 0, 0) := (zf241 79).trans rfl
theorem d241_81 : zt_code 241 81 = some (.aload_n 0, 0, 0, 0) := (zf241 81).trans rfl
theorem d241_82 : zt_code 241 82 = some (.aload_n 0, 0, 0, 0) := (zf241 82).trans rfl
theorem d241_83 : zt_code 241 83 = some (.getfield 21, 5, 3, 1) := (zf241 83).trans rfl
theorem d241_86 : zt_code 241 86 = some (.iload_n 1, 0, 0, 0) := (zf241 86).trans rfl
theorem d241_87 : zt_code 241 87 = some (.aaload, 0, 0, 0) := (zf241 87).trans rfl
theorem d241_88 : zt_code 241 88 = some (.iload_n 2, 0, 0, 0) := (zf241 88).trans rfl
theorem d241_89 : zt_code 241 89 = some (.iload_n 3, 0, 0, 0) := (zf241 89).trans rfl
theorem d241_90 : zt_code 241 90 = some (.iload 6, 0, 0, 0) := (zf241 90).trans rfl
theorem d241_92 : zt_code 241 92 = some (.invokevirtual 349, 242, 5, 5) := (zf241 92).trans rfl
theorem d241_95 : zt_code 241 95 = some (.ifCond .eq (10), 0, 105, 0) := (zf241 95).trans rfl
theorem d241_98 : zt_code 241 98 = some (.iconst (1), 0, 0, 0) := (zf241 98).trans rfl
theorem d241_99 : zt_code 241 99 = some (.iload 6, 0, 0, 0) := (zf241 99).trans rfl
theorem d241_101 : zt_code 241 101 = some (.ishl, 0, 0, 0) := (zf241 101).trans rfl
theorem d241_102 : zt_code 241 102 = some (.goto (4), 0, 106, 0) := (zf241 102).trans rfl
theorem d241_105 : zt_code 241 105 = some (.iconst (0), 0, 0, 0) := (zf241 105).trans rfl
theorem d241_106 : zt_code 241 106 = some (.ior, 0, 0, 0) := (zf241 106).trans rfl
theorem d241_107 : zt_code 241 107 = some (.istore 5, 0, 0, 0) := (zf241 107).trans rfl
theorem d241_109 : zt_code 241 109 = some (.iinc 6 (1), 0, 0, 0) := (zf241 109).trans rfl
theorem d241_112 : zt_code 241 112 = some (.goto (-39), 0, 73, 0) := (zf241 112).trans rfl
theorem d241_115 : zt_code 241 115 = some (.iload 5, 0, 0, 0) := (zf241 115).trans rfl
theorem d241_117 : zt_code 241 117 = some (.ireturn, 0, 0, 0) := (zf241 117).trans rfl
/-- FirstAtTheFirstModel.fits(III)I -/
theorem vc241 {X : zX} {S : zx_S} {C : zx_C} {q : Int32 → zx_C → Prop} {e : Nat} {a1 : Int32} {a2 : Int32} {a3 : Int32} (hS : zs_5 S e) (h : zCd X 1 168 [.ref e, .int a3] S C (zQi (fun r1 C1 => if (r1 : Int32) = 0 then (zCd X 0 160 [.ref e, .int (-2)] S C1 (zQi (fun r2 C2 => q r2 C2))) else (zCd X 2 238 [.ref e, .int a1, .int a2, .int 0] S C1 (zQi (fun r3 C3 => if (r3 : Int32) = 0 then (vp_in a1 8 ∧ (zCd X 1 239 [.ref e, .ref ((e + 5) + Int32.toNatClampNeg a1), .int a2, .int (-1)] S C3 (zQi (fun r5 C5 => if (r5 : Int32) = (-1) then (zCd X 0 171 [.ref e, .int (C5.1 e 14)] S C5 (zQv (fun C6 => zW X 34 241 73 [.ref e, .int a1, .int a2, .int a3, .int r3, .int 0, .int 0] [] S C6 (zQi q)))) else (zCd X 0 160 [.ref e, .int (-5)] S C5 (zQi (fun r7 C7 => q r7 C7))))))) else (zCd X 0 160 [.ref e, .int r3] S C3 (zQi (fun r8 C8 => q r8 C8))))))))) : zCd X 34 241 [.ref e, .int a1, .int a2, .int a3] S C (zQi q) := by
  refine zc_in ml_241 rfl ?_
  refine zw_aload_n (n := 1) d241_0 rfl rfl ?_
  refine zw_iload_n (n := 2) d241_1 rfl rfl ?_
  refine zw_cI (n := 5) d241_2 (zs_V rfl rfl rfl rfl (by decide) (zj_5 hS).1 (zq_5 hS)) (by rw [ml_168]; rfl) (by decide) rfl (zc_mI h (fun r1 C1 h => ?_))
  refine zw_if_ne (n := 8) d241_5 rfl (zite h (fun h => ?_) (fun h => ?_))
  · skip
    refine zw_aload_n (n := 9) d241_8 rfl rfl ?_
    refine zw_bipush (n := 11) d241_9 rfl zk_b_m2 ?_
    refine zw_cI (n := 14) d241_11 (zs_V rfl rfl rfl rfl (by decide) (zj_5 hS).1 (zq_5 hS)) (by rw [ml_160]; rfl) (by decide) rfl (zc_mI h (fun r2 C2 h => ?_))
    exact zw_iret d241_14 rfl ⟨_, rfl, h⟩
  · skip
    refine zw_aload_n (n := 16) d241_15 rfl rfl ?_
    refine zw_iload_n (n := 17) d241_16 rfl rfl ?_
    refine zw_iload_n (n := 18) d241_17 rfl rfl ?_
    refine zw_iconst (n := 19) d241_18 rfl zk_i_0 ?_
    refine zw_cI (n := 22) d241_19 (zs_V rfl rfl rfl rfl (by decide) (zj_5 hS).1 (zq_5 hS)) (by rw [ml_238]; rfl) (by decide) rfl (zc_mI h (fun r3 C3 h => ?_))
    refine zw_istore (n := 24) d241_22 rfl rfl rfl ?_
    refine zw_iload (n := 26) d241_24 rfl rfl ?_
    refine zw_if_eq (n := 29) d241_26 rfl (zite h (fun h => ?_) (fun h => ?_))
    · skip
      refine zw_aload_n (n := 37) d241_36 rfl rfl ?_
      refine zw_aload_n (n := 38) d241_37 rfl rfl ?_
      refine zw_getr (n := 41) d241_38 rfl (zj_5 hS).1 (zj_5 hS).2 (zr_5_3 hS) ?_
      refine zw_iload_n (n := 42) d241_41 rfl rfl ?_
      obtain ⟨hi, h⟩ := h
      have hb4 := zb_5_3 hS (vp_lt hi)
      refine zw_aald (n := 43) d241_42 rfl (za_5_3 hS).1 (za_5_3 hS).2 (by decide) hi hb4.1 ?_
      refine zw_iload_n (n := 44) d241_43 rfl rfl ?_
      refine zw_iconst (n := 45) d241_44 rfl zk_i_m1 ?_
      refine zw_cI (n := 48) d241_45 (zs_V rfl rfl rfl rfl (by decide) (zj_5 hS).1 (zq_5 hS)) (by rw [ml_239]; rfl) (by decide) rfl (zc_mI h (fun r5 C5 h => ?_))
      refine zw_iconst (n := 49) d241_48 rfl zk_i_m1 ?_
      refine zw_ic_eq (n := 52) d241_49 rfl (zite h (fun h => ?_) (fun h => ?_))
      · skip
        refine zw_aload_n (n := 60) d241_59 rfl rfl ?_
        refine zw_aload_n (n := 61) d241_60 rfl rfl ?_
        refine zw_geti (n := 64) d241_61 rfl (zj_5 hS).1 (zj_5 hS).2 ?_
        refine zw_cV (n := 67) d241_64 (zs_V rfl rfl rfl rfl (by decide) (zj_5 hS).1 (zq_5 hS)) (by rw [ml_171]; rfl) (by decide) rfl (zc_mV h (fun C6 h => ?_))
        refine zw_iconst (n := 68) d241_67 rfl zk_i_0 ?_
        refine zw_istore (n := 70) d241_68 rfl rfl rfl ?_
        refine zw_iconst (n := 71) d241_70 rfl zk_i_0 ?_
        refine zw_istore (n := 73) d241_71 rfl rfl rfl ?_
        exact h
      · skip
        refine zw_aload_n (n := 53) d241_52 rfl rfl ?_
        refine zw_bipush (n := 55) d241_53 rfl zk_b_m5 ?_
        refine zw_cI (n := 58) d241_55 (zs_V rfl rfl rfl rfl (by decide) (zj_5 hS).1 (zq_5 hS)) (by rw [ml_160]; rfl) (by decide) rfl (zc_mI h (fun r7 C7 h => ?_))
        exact zw_iret d241_58 rfl ⟨_, rfl, h⟩
    · skip
      refine zw_aload_n (n := 30) d241_29 rfl rfl ?_
      refine zw_iload (n := 32) d241_30 rfl rfl ?_
      refine zw_cI (n := 35) d241_32 (zs_V rfl rfl rfl rfl (by decide) (zj_5 hS).1 (zq_5 hS)) (by rw [ml_160]; rfl) (by decide) rfl (zc_mI h (fun r8 C8 h => ?_))
      exact zw_iret d241_35 rfl ⟨_, rfl, h⟩
theorem vc241_73 {X : zX} {S : zx_S} {C : zx_C} {q : Int32 → zx_C → Prop} {e : Nat} {a1 : Int32} {a2 : Int32} {a3 : Int32} {i1 : Int32} {i2 : Int32} {i3 : Int32} {z4 : Value} {i5 : Int32} {i6 : Int32} (hS : zs_5 S e) (h : if (5 : Int32) < i6 then (q i5 C) else (vp_in i1 8 ∧ (zCd X 33 242 [.ref e, .ref ((e + 5) + Int32.toNatClampNeg i1), .int i2, .int i3, .int i6] S C (zQi (fun r2 C2 => if (r2 : Int32) = 0 then (zW X 34 241 73 [.ref e, .int i1, .int i2, .int i3, z4, .int (i5 ||| 0), .int (i6 + 1)] [] S C2 (zQi q)) else (zW X 34 241 73 [.ref e, .int i1, .int i2, .int i3, z4, .int (i5 ||| (1 <<< (i6 &&& 31))), .int (i6 + 1)] [] S C2 (zQi q))))))) : zW X 34 241 73 [.ref e, .int i1, .int i2, .int i3, z4, .int i5, .int i6] [] S C (zQi q) := by
  refine zw_iload (n := 75) d241_73 rfl rfl ?_
  refine zw_iconst (n := 76) d241_75 rfl zk_i_5 ?_
  refine zw_ic_gt (n := 79) d241_76 rfl (zite h (fun h => ?_) (fun h => ?_))
  · skip
    refine zw_iload (n := 117) d241_115 rfl rfl ?_
    exact zw_iret d241_117 rfl ⟨_, rfl, h⟩
  · skip
    refine zw_iload (n := 81) d241_79 rfl rfl ?_
    refine zw_aload_n (n := 82) d241_81 rfl rfl ?_
    refine zw_aload_n (n := 83) d241_82 rfl rfl ?_
    refine zw_getr (n := 86) d241_83 rfl (zj_5 hS).1 (zj_5 hS).2 (zr_5_3 hS) ?_
    refine zw_iload_n (n := 87) d241_86 rfl rfl ?_
    obtain ⟨hi, h⟩ := h
    have hb1 := zb_5_3 hS (vp_lt hi)
    refine zw_aald (n := 88) d241_87 rfl (za_5_3 hS).1 (za_5_3 hS).2 (by decide) hi hb1.1 ?_
    refine zw_iload_n (n := 89) d241_88 rfl rfl ?_
    refine zw_iload_n (n := 90) d241_89 rfl rfl ?_
    refine zw_iload (n := 92) d241_90 rfl rfl ?_
    refine zw_cI (n := 95) d241_92 (zs_V rfl rfl rfl rfl (by decide) (zj_5 hS).1 (zq_5 hS)) (by rw [ml_242]; rfl) (by decide) rfl (zc_mI h (fun r2 C2 h => ?_))
    refine zw_if_eq (n := 98) d241_95 rfl (zite h (fun h => ?_) (fun h => ?_))
    · skip
      refine zw_iconst (n := 106) d241_105 rfl zk_i_0 ?_
      refine zw_ior (n := 107) d241_106 rfl ?_
      refine zw_istore (n := 109) d241_107 rfl rfl rfl ?_
      refine zw_iinc (n := 112) d241_109 rfl rfl zk_i_1 rfl ?_
      refine zw_goto d241_112 ?_
      exact h
    · skip
      refine zw_iconst (n := 99) d241_98 rfl zk_i_1 ?_
      refine zw_iload (n := 101) d241_99 rfl rfl ?_
      refine zw_ishl (n := 102) d241_101 rfl ?_
      refine zw_goto d241_102 ?_
      refine zw_ior (n := 107) d241_106 rfl ?_
      refine zw_istore (n := 109) d241_107 rfl rfl rfl ?_
      refine zw_iinc (n := 112) d241_109 rfl rfl zk_i_1 rfl ?_
      refine zw_goto d241_112 ?_
      exact h

set_option maxRecDepth 20000 in
theorem zf242 (pc : Nat) : zt_code 242 pc = zt_fd zl_242 pc := rfl
theorem d242_0 : zt_code 242 0 = some (.aload_n 0, 0, 0, 0) := (zf242 0).trans rfl
theorem d242_1 : zt_code 242 1 = some (.invokevirtual 135, 172, 1, 5) := (zf242 1).trans rfl
theorem d242_4 : zt_code 242 4 = some (.istore 5, 0, 0, 0) := (zf242 4).trans rfl
theorem d242_6 : zt_code 242 6 = some (.iconst (0), 0, 0, 0) := (zf242 6).trans rfl
theorem d242_7 : zt_code 242 7 = some (.istore 6, 0, 0, 0) := (zf242 7).trans rfl
theorem d242_9 : zt_code 242 9 = some (.iload 6, 0, 0, 0) := (zf242 9).trans rfl
theorem d242_11 : zt_code 242 11 = some (.iload_n 2, 0, 0, 0) := (zf242 11).trans rfl
theorem d242_12 : zt_code 242 12 = some (.if_icmp .ge (69), 0, 81, 0) := (zf242 12).trans rfl
theorem d242_15 : zt_code 242 15 = some (.aload_n 1, 0, 0, 0) := (zf242 15).trans rfl
theorem d242_16 : zt_code 242 16 = some (.iload 6, 0, 0, 0) := (zf242 16).trans rfl
theorem d242_18 : zt_code 242 18 = some (.laload, 0, 0, 0) := (zf242 18).trans rfl
theorem d242_19 : zt_code 242 19 = some (.ldc2_w 340, 0, 0, 10) := (zf242 19).trans rfl
theorem d242_22 : zt_code 242 22 = some (.lrem, 0, 0, 0) := (zf242 22).trans rfl
theorem d242_23 : zt_code 242 23 = some (.l2i, 0, 0, 0) := (zf242 23).trans rfl
theorem d242_24 : zt_code 242 24 = some (.istore 7, 0, 0, 0) := (zf242 24).trans rfl
theorem d242_26 : zt_code 242 26 = some (.aload_n 1, 0, 0, 0) := (zf242 26).trans rfl
theorem d242_27 : zt_code 242 27 = some (.iload 6, 0, 0, 0) := (zf242 27).trans rfl
theorem d242_29 : zt_code 242 29 = some (.laload, 0, 0, 0) := (zf242 29).trans rfl
theorem d242_30 : zt_code 242 30 = some (.ldc2_w 340, 0, 0, 10) := (zf242 30).trans rfl
theorem d242_33 : zt_code 242 33 = some (.ldiv, 0, 0, 0) := (zf242 33).trans rfl
theorem d242_34 : zt_code 242 34 = some (.iload_n 3, 0, 0, 0) := (zf242 34).trans rfl
theorem d242_35 : zt_code 242 35 = some (.i2l, 0, 0, 0) := (zf242 35).trans rfl
theorem d242_36 : zt_code 242 36 = some (.lcmp, 0, 0, 0) := (zf242 36).trans rfl
theorem d242_37 : zt_code 242 37 = some (.ifCond .ne (27), 0, 64, 0) := (zf242 37).trans rfl
theorem d242_40 : zt_code 242 40 = some (.aload_n 0, 0, 0, 0) := (zf242 40).trans rfl
theorem d242_41 : zt_code 242 41 = some (.iload_n 3, 0, 0, 0) := (zf242 41).trans rfl
theorem d242_42 : zt_code 242 42 = some (.iload_n 3, 0, 0, 0) := (zf242 42).trans rfl
theorem d242_43 : zt_code 242 43 = some (.iload 4, 0, 0, 0) := (zf242 43).trans rfl
theorem d242_45 : zt_code 242 45 = some (.iload 5, 0, 0, 0) := (zf242 45).trans rfl
theorem d242_47 : zt_code 242 47 = some (.aload_n 0, 0, 0, 0) := (zf242 47).trans rfl
theorem d242_48 : zt_code 242 48 = some (.getfield 139, 5, 18, 0) := (zf242 48).trans rfl
theorem d242_51 : zt_code 242 51 = some (.iload 6, 0, 0, 0) := (zf242 51).trans rfl
theorem d242_53 : zt_code 242 53 = some (.iadd, 0, 0, 0) := (zf242 53).trans rfl
theorem d242_54 : zt_code 242 54 = some (.invokevirtual 142, 173, 6, 5) := (zf242 54).trans rfl
theorem d242_57 : zt_code 242 57 = some (.iload 7, 0, 0, 0) := (zf242 57).trans rfl
theorem d242_59 : zt_code 242 59 = some (.if_icmp .eq (5), 0, 64, 0) := (zf242 59).trans rfl
theorem d242_62 : zt_code 242 62 = some (.iconst (0), 0, 0, 0) := (zf242 62).trans rfl
theorem d242_63 : zt_code 242 63 = some (.ireturn, 1, 0, 0) := (zf242 63).trans rfl
theorem d242_64 : zt_code 242 64 = some (.iload 5, 0, 0, 0) := (zf242 64).trans rfl
theorem d242_66 : zt_code 242 66 = some (.iconst (1), 0, 0, 0) := (zf242 66).trans rfl
theorem d242_67 : zt_code 242 67 = some (.iload 7, 0, 0, 0) := (zf242 67).trans rfl
theorem d242_69 : zt_code 242 69 = some (.ishl, 0, 0, 0) := (zf242 69).trans rfl
theorem d242_70 : zt_code 242 70 = some (.iconst (-1), 0, 0, 0) := (zf242 70).trans rfl
theorem d242_71 : zt_code 242 71 = some (.ixor, 0, 0, 0) := (zf242 71).trans rfl
theorem d242_72 : zt_code 242 72 = some (.iand, 0, 0, 0) := (zf242 72).trans rfl
theorem d242_73 : zt_code 242 73 = some (.istore 5, 0, 0, 0) := (zf242 73).trans rfl
theorem d242_75 : zt_code 242 75 = some (.iinc 6 (1), 0, 0, 0) := (zf242 75).trans rfl
theorem d242_78 : zt_code 242 78 = some (.goto (-69), 0, 9, 0) := (zf242 78).trans rfl
theorem d242_81 : zt_code 242 81 = some (.iconst (1), 0, 0, 0) := (zf242 81).trans rfl
theorem d242_82 : zt_code 242 82 = some (.ireturn, 1, 0, 0) := (zf242 82).trans rfl
/-- FirstAtTheFirstModel.fitsBy([JIII)Z -/
theorem vc242 {X : zX} {S : zx_S} {C : zx_C} {q : Int32 → zx_C → Prop} {e : Nat} {a1 n1 : Nat} {a2 : Int32} {a3 : Int32} {a4 : Int32} (hS : zs_5 S e) (h1 : a1 < 900000 ∧ S.1 a1 = (11, n1)) (h : zCd X 0 172 [.ref e] S C (zQi (fun r1 C1 => zW X 33 242 9 [.ref e, .ref a1, .int a2, .int a3, .int a4, .int r1, .int 0, .retAddr 0] [] S C1 (zQi q)))) : zCd X 33 242 [.ref e, .ref a1, .int a2, .int a3, .int a4] S C (zQi q) := by
  refine zc_in ml_242 rfl ?_
  refine zw_aload_n (n := 1) d242_0 rfl rfl ?_
  refine zw_cI (n := 4) d242_1 (zs_V rfl rfl rfl rfl (by decide) (zj_5 hS).1 (zq_5 hS)) (by rw [ml_172]; rfl) (by decide) rfl (zc_mI h (fun r1 C1 h => ?_))
  refine zw_istore (n := 6) d242_4 rfl rfl rfl ?_
  refine zw_iconst (n := 7) d242_6 rfl zk_i_0 ?_
  refine zw_istore (n := 9) d242_7 rfl rfl rfl ?_
  exact h
theorem vc242_9 {X : zX} {S : zx_S} {C : zx_C} {q : Int32 → zx_C → Prop} {e : Nat} {a1 n1 : Nat} {a2 : Int32} {a3 : Int32} {a4 : Int32} {i2 : Int32} {i3 : Int32} {i4 : Int32} {i5 : Int32} {i6 : Int32} {z7 : Value} (hS : zs_5 S e) (h1 : a1 < 900000 ∧ S.1 a1 = (11, n1)) (h : if (i6 : Int32) < i2 then (vp_in i6 n1 ∧ (vp_in i6 n1 ∧ (if ((lg_cmp ((C.2 a1 (Int32.toNatClampNeg i6)) / 10) (Int32.toInt64 i3)) : Int32) = 0 then (zCd X 32 173 [.ref e, .int i3, .int i3, .int i4, .int i5, .int ((C.1 e 18) + i6)] S C (zQi (fun r1 C1 => if (r1 : Int32) = (Int64.toInt32 ((C.2 a1 (Int32.toNatClampNeg i6)) - (C.2 a1 (Int32.toNatClampNeg i6)) / 10 * 10)) then (zW X 33 242 9 [.ref e, .ref a1, .int i2, .int i3, .int i4, .int (i5 &&& ((1 <<< ((Int64.toInt32 ((C.2 a1 (Int32.toNatClampNeg i6)) - (C.2 a1 (Int32.toNatClampNeg i6)) / 10 * 10)) &&& 31)) ^^^ (-1))), .int (i6 + 1), .int (Int64.toInt32 ((C.2 a1 (Int32.toNatClampNeg i6)) - (C.2 a1 (Int32.toNatClampNeg i6)) / 10 * 10))] [] S C1 (zQi q)) else (q 0 C1)))) else (zW X 33 242 9 [.ref e, .ref a1, .int i2, .int i3, .int i4, .int (i5 &&& ((1 <<< ((Int64.toInt32 ((C.2 a1 (Int32.toNatClampNeg i6)) - (C.2 a1 (Int32.toNatClampNeg i6)) / 10 * 10)) &&& 31)) ^^^ (-1))), .int (i6 + 1), .int (Int64.toInt32 ((C.2 a1 (Int32.toNatClampNeg i6)) - (C.2 a1 (Int32.toNatClampNeg i6)) / 10 * 10))] [] S C (zQi q))))) else (q 1 C)) : zW X 33 242 9 [.ref e, .ref a1, .int i2, .int i3, .int i4, .int i5, .int i6, z7] [] S C (zQi q) := by
  refine zw_iload (n := 11) d242_9 rfl rfl ?_
  refine zw_iload_n (n := 12) d242_11 rfl rfl ?_
  refine zw_ic_ge (n := 15) d242_12 rfl (zite h (fun h => ?_) (fun h => ?_))
  · skip
    refine zw_aload_n (n := 16) d242_15 rfl rfl ?_
    refine zw_iload (n := 18) d242_16 rfl rfl ?_
    obtain ⟨hi, h⟩ := h
    refine zw_lald (n := 19) d242_18 rfl h1.1 h1.2 hi ?_
    refine zw_ldc2 (n := 22) d242_19 rfl zk_l_10 ?_
    refine zw_lrem (n := 23) d242_22 rfl (by decide) ?_
    refine zw_l2i (n := 24) d242_23 rfl ?_
    refine zw_istore (n := 26) d242_24 rfl rfl rfl ?_
    refine zw_aload_n (n := 27) d242_26 rfl rfl ?_
    refine zw_iload (n := 29) d242_27 rfl rfl ?_
    obtain ⟨hi, h⟩ := h
    refine zw_lald (n := 30) d242_29 rfl h1.1 h1.2 hi ?_
    refine zw_ldc2 (n := 33) d242_30 rfl zk_l_10 ?_
    refine zw_ldiv (n := 34) d242_33 rfl (by decide) ?_
    refine zw_iload_n (n := 35) d242_34 rfl rfl ?_
    refine zw_i2l (n := 36) d242_35 rfl ?_
    refine zw_lcmp (n := 37) d242_36 rfl ?_
    refine zw_if_ne (n := 40) d242_37 rfl (zite h (fun h => ?_) (fun h => ?_))
    · skip
      refine zw_aload_n (n := 41) d242_40 rfl rfl ?_
      refine zw_iload_n (n := 42) d242_41 rfl rfl ?_
      refine zw_iload_n (n := 43) d242_42 rfl rfl ?_
      refine zw_iload (n := 45) d242_43 rfl rfl ?_
      refine zw_iload (n := 47) d242_45 rfl rfl ?_
      refine zw_aload_n (n := 48) d242_47 rfl rfl ?_
      refine zw_geti (n := 51) d242_48 rfl (zj_5 hS).1 (zj_5 hS).2 ?_
      refine zw_iload (n := 53) d242_51 rfl rfl ?_
      refine zw_iadd (n := 54) d242_53 rfl ?_
      refine zw_cI (n := 57) d242_54 (zs_V rfl rfl rfl rfl (by decide) (zj_5 hS).1 (zq_5 hS)) (by rw [ml_173]; rfl) (by decide) rfl (zc_mI h (fun r1 C1 h => ?_))
      refine zw_iload (n := 59) d242_57 rfl rfl ?_
      refine zw_ic_eq (n := 62) d242_59 rfl (zite h (fun h => ?_) (fun h => ?_))
      · skip
        refine zw_iload (n := 66) d242_64 rfl rfl ?_
        refine zw_iconst (n := 67) d242_66 rfl zk_i_1 ?_
        refine zw_iload (n := 69) d242_67 rfl rfl ?_
        refine zw_ishl (n := 70) d242_69 rfl ?_
        refine zw_iconst (n := 71) d242_70 rfl zk_i_m1 ?_
        refine zw_ixor (n := 72) d242_71 rfl ?_
        refine zw_iand (n := 73) d242_72 rfl ?_
        refine zw_istore (n := 75) d242_73 rfl rfl rfl ?_
        refine zw_iinc (n := 78) d242_75 rfl rfl zk_i_1 rfl ?_
        refine zw_goto d242_78 ?_
        exact h
      · skip
        refine zw_iconst (n := 63) d242_62 rfl zk_i_0 ?_
        exact zw_iret d242_63 rfl ⟨_, rfl, h⟩
    · skip
      refine zw_iload (n := 66) d242_64 rfl rfl ?_
      refine zw_iconst (n := 67) d242_66 rfl zk_i_1 ?_
      refine zw_iload (n := 69) d242_67 rfl rfl ?_
      refine zw_ishl (n := 70) d242_69 rfl ?_
      refine zw_iconst (n := 71) d242_70 rfl zk_i_m1 ?_
      refine zw_ixor (n := 72) d242_71 rfl ?_
      refine zw_iand (n := 73) d242_72 rfl ?_
      refine zw_istore (n := 75) d242_73 rfl rfl rfl ?_
      refine zw_iinc (n := 78) d242_75 rfl rfl zk_i_1 rfl ?_
      refine zw_goto d242_78 ?_
      exact h
  · skip
    refine zw_iconst (n := 82) d242_81 rfl zk_i_1 ?_
    exact zw_iret d242_82 rfl ⟨_, rfl, h⟩

set_option maxRecDepth 20000 in
theorem zf243 (pc : Nat) : zt_code 243 pc = zt_fd zl_243 pc := rfl
theorem d243_0 : zt_code 243 0 = some (.iload_n 1, 0, 0, 0) := (zf243 0).trans rfl
theorem d243_1 : zt_code 243 1 = some (.i2l, 0, 0, 0) := (zf243 1).trans rfl
theorem d243_2 : zt_code 243 2 = some (.lconst 0, 0, 0, 0) := (zf243 2).trans rfl
theorem d243_3 : zt_code 243 3 = some (.lconst 1, 0, 0, 0) := (zf243 3).trans rfl
theorem d243_4 : zt_code 243 4 = some (.invokestatic 94, 159, 3, -1) := (zf243 4).trans rfl
theorem d243_7 : zt_code 243 7 = some (.ifCond .ne (10), 0, 17, 0) := (zf243 7).trans rfl
theorem d243_10 : zt_code 243 10 = some (.aload_n 0, 0, 0, 0) := (zf243 10).trans rfl
theorem d243_11 : zt_code 243 11 = some (.bipush (-2), 0, 0, 0) := (zf243 11).trans rfl
theorem d243_13 : zt_code 243 13 = some (.invokevirtual 107, 160, 2, 5) := (zf243 13).trans rfl
theorem d243_16 : zt_code 243 16 = some (.ireturn, 0, 0, 0) := (zf243 16).trans rfl
theorem d243_17 : zt_code 243 17 = some (.iconst (0), 0, 0, 0) := (zf243 17).trans rfl
theorem d243_18 : zt_code 243 18 = some (.istore_n 2, 0, 0, 0) := (zf243 18).trans rfl
theorem d243_19 : zt_code 243 19 = some (.iconst (-1), 0, 0, 0) := (zf243 19).trans rfl
theorem d243_20 : zt_code 243 20 = some (.istore_n 3, 0, 0, 0) := (zf243 20).trans rfl
theorem d243_21 : zt_code 243 21 = some (.iconst (0), 0, 0, 0) := (zf243 21).trans rfl
theorem d243_22 : zt_code 243 22 = some (.istore 4, 0, 0, 0) := (zf243 22).trans rfl
theorem d243_24 : zt_code 243 24 = some (.iconst (0), 0, 0, 0) := (zf243 24).trans rfl
theorem d243_25 : zt_code 243 25 = some (.istore 5, 0, 0, 0) := (zf243 25).trans rfl
theorem d243_27 : zt_code 243 27 = some (.iload 5, 0, 0, 0) := (zf243 27).trans rfl
theorem d243_29 : zt_code 243 29 = some (.aload_n 0, 0, 0, 0) := (zf243 29).trans rfl
theorem d243_30 : zt_code 243 30 = some (.getfield 98, 5, 11, 0) := (zf243 30).trans rfl
theorem d243_33 : zt_code 243 33 = some (.if_icmp .ge (73), 0, 106, 0) := (zf243 33).trans rfl
theorem d243_36 : zt_code 243 36 = some (.iload 5, 0, 0, 0) := (zf243 36).trans rfl
theorem d243_38 : zt_code 243 38 = some (.iconst (1), 0, 0, 0) := (zf243 38).trans rfl
theorem d243_39 : zt_code 243 39 = some (.iadd, 0, 0, 0) := (zf243 39).trans rfl
theorem d243_40 : zt_code 243 40 = some (.istore 6, 0, 0, 0) := (zf243 40).trans rfl
theorem d243_42 : zt_code 243 42 = some (.iload 6, 0, 0, 0) := (zf243 42).trans rfl
theorem d243_44 : zt_code 243 44 = some (.aload_n 0, 0, 0, 0) := (zf243 44).trans rfl
theorem d243_45 : zt_code 243 45 = some (.getfield 98, 5, 11, 0) := (zf243 45).trans rfl
theorem d243_48 : zt_code 243 48 = some (.if_icmp .ge (52), 0, 100, 0) := (zf243 48).trans rfl
theorem d243_51 : zt_code 243 51 = some (.aload_n 0, 0, 0, 0) := (zf243 51).trans rfl
theorem d243_52 : zt_code 243 52 = some (.iload 5, 0, 0, 0) := (zf243 52).trans rfl
theorem d243_54 : zt_code 243 54 = some (.iload 6, 0, 0, 0) := (zf243 54).trans rfl
theorem d243_56 : zt_code 243 56 = some (.invokevirtual 353, 244, 3, 5) := (zf243 56).trans rfl
theorem d243_59 : zt_code 243 59 = some (.istore 7, 0, 0, 0) := (zf243 59).trans rfl
theorem d243_61 : zt_code 243 61 = some (.iload_n 2, 0, 0, 0) := (zf243 61).trans rfl
theorem d243_62 : zt_code 243 62 = some (.iload 7, 0, 0, 0) := (zf243 62).trans rfl
theorem d243_64 : zt_code 243 64 = some (.ifCond .le (7), 0, 71, 0) := (zf243 64).trans rfl
theorem d243_67 : zt_code 243 67 = some (.iconst (1), 0, 0, 0) := (zf243 67).trans rfl
theorem d243_68 : zt_code 243 68 = some (.goto (4), 0, 72, 0) := (zf243 68).trans rfl
theorem d243_71 : zt_code 243 71 = some (.iconst (0), 0, 0, 0) := (zf243 71).trans rfl
theorem d243_72 : zt_code 243 72 = some (.iadd, 0, 0, 0) := (zf243 72).trans rfl
theorem d243_73 : zt_code 243 73 = some (.istore_n 2, 0, 0, 0) := (zf243 73).trans rfl
theorem d243_74 : zt_code 243 74 = some (.iload 7, 0, 0, 0) := (zf243 74).trans rfl
theorem d243_76 : zt_code 243 76 = some (.iload 4, 0, 0, 0) := (zf243 76).trans rfl
theorem d243_78 : zt_code 243 78 = some (.if_icmp .le (16), 0, 94, 0) := (zf243 78).trans rfl
theorem d243_81 : zt_code 243 81 = some (.bipush (10), 0, 0, 0) := (zf243 81).trans rfl
theorem d243_83 : zt_code 243 83 = some (.iload 5, 0, 0, 0) := (zf243 83).trans rfl
theorem d243_85 : zt_code 243 85 = some (.imul, 0, 0, 0) := (zf243 85).trans rfl
theorem d243_86 : zt_code 243 86 = some (.iload 6, 0, 0, 0) := (zf243 86).trans rfl
theorem d243_88 : zt_code 243 88 = some (.iadd, 0, 0, 0) := (zf243 88).trans rfl
theorem d243_89 : zt_code 243 89 = some (.istore_n 3, 0, 0, 0) := (zf243 89).trans rfl
theorem d243_90 : zt_code 243 90 = some (.iload 7, 0, 0, 0) := (zf243 90).trans rfl
theorem d243_92 : zt_code 243 92 = some (.istore 4, 0, 0, 0) := (zf243 92).trans rfl
theorem d243_94 : zt_code 243 94 = some (.iinc 6 (1), 0, 0, 0) := (zf243 94).trans rfl
theorem d243_97 : zt_code 243 97 = some (.goto (-55), 0, 42, 0) := (zf243 97).trans rfl
theorem d243_100 : zt_code 243 100 = some (.iinc 5 (1), 0, 0, 0) := (zf243 100).trans rfl
theorem d243_103 : zt_code 243 103 = some (.goto (-76), 0, 27, 0) := (zf243 103).trans rfl
theorem d243_106 : zt_code 243 106 = some (.iload_n 1, 0, 0, 0) := (zf243 106).trans rfl
theorem d243_107 : zt_code 243 107 = some (.ifCond .ne (7), 0, 114, 0) := (zf243 107).trans rfl
theorem d243_110 : zt_code 243 110 = some (.iload_n 2, 0, 0, 0) := (zf243 110).trans rfl
theorem d243_111 : zt_code 243 111 = some (.goto (18), 0, 129, 0) := (zf243 111).trans rfl
theorem d243_114 : zt_code 243 114 = some (.iload_n 3, 0, 0, 0) := (zf243 114).trans rfl
theorem d243_115 : zt_code 243 115 = some (.iconst (-1), 0, 0, 0) := (zf243 115).trans rfl
theorem d243_116 : zt_code 243 116 = some (.if_icmp .ne (12), 0, 128, 0) := (zf243 116).trans rfl
theorem d243_119 : zt_code 243 119 = some (.aload_n 0, 0, 0, 0) := (zf243 119).trans rfl
theorem d243_120 : zt_code 243 120 = some (.bipush (-5), 0, 0, 0) := (zf243 120).trans rfl
theorem d243_122 : zt_code 243 122 = some (.invokevirtual 107, 160, 2, 5) := (zf243 122).trans rfl
theorem d243_125 : zt_code 243 125 = some (.goto (4), 0, 129, 0) := (zf243 125).trans rfl
theorem d243_128 : zt_code 243 128 = some (.iload_n 3, 0, 0, 0) := (zf243 128).trans rfl
theorem d243_129 : zt_code 243 129 = some (.ireturn, 0, 0, 0) := (zf243 129).trans rfl
/-- FirstAtTheFirstModel.trades(I)I -/
theorem vc243 {X : zX} {S : zx_S} {C : zx_C} {q : Int32 → zx_C → Prop} {e : Nat} {a1 : Int32} (hS : zs_5 S e) (h : zCd X 0 159 [.long (Int32.toInt64 a1), .long 0, .long 1] S C (zQi (fun r1 C1 => if (r1 : Int32) = 0 then (zCd X 0 160 [.ref e, .int (-2)] S C1 (zQi (fun r2 C2 => q r2 C2))) else (zW X 1 243 27 [.ref e, .int a1, .int 0, .int (-1), .int 0, .int 0, .retAddr 0, .retAddr 0] [] S C1 (zQi q))))) : zCd X 1 243 [.ref e, .int a1] S C (zQi q) := by
  refine zc_in ml_243 rfl ?_
  refine zw_iload_n (n := 1) d243_0 rfl rfl ?_
  refine zw_i2l (n := 2) d243_1 rfl ?_
  refine zw_lconst (n := 3) d243_2 rfl zk_c_0 ?_
  refine zw_lconst (n := 4) d243_3 rfl zk_c_1 ?_
  refine zw_cI (n := 7) d243_4 (zs_S rfl rfl rfl rfl) (by rw [ml_159]; rfl) (by decide) rfl (zc_mI h (fun r1 C1 h => ?_))
  refine zw_if_ne (n := 10) d243_7 rfl (zite h (fun h => ?_) (fun h => ?_))
  · skip
    refine zw_aload_n (n := 11) d243_10 rfl rfl ?_
    refine zw_bipush (n := 13) d243_11 rfl zk_b_m2 ?_
    refine zw_cI (n := 16) d243_13 (zs_V rfl rfl rfl rfl (by decide) (zj_5 hS).1 (zq_5 hS)) (by rw [ml_160]; rfl) (by decide) rfl (zc_mI h (fun r2 C2 h => ?_))
    exact zw_iret d243_16 rfl ⟨_, rfl, h⟩
  · skip
    refine zw_iconst (n := 18) d243_17 rfl zk_i_0 ?_
    refine zw_istore_n (n := 19) d243_18 rfl rfl rfl ?_
    refine zw_iconst (n := 20) d243_19 rfl zk_i_m1 ?_
    refine zw_istore_n (n := 21) d243_20 rfl rfl rfl ?_
    refine zw_iconst (n := 22) d243_21 rfl zk_i_0 ?_
    refine zw_istore (n := 24) d243_22 rfl rfl rfl ?_
    refine zw_iconst (n := 25) d243_24 rfl zk_i_0 ?_
    refine zw_istore (n := 27) d243_25 rfl rfl rfl ?_
    exact h
theorem vc243_27 {X : zX} {S : zx_S} {C : zx_C} {q : Int32 → zx_C → Prop} {e : Nat} {a1 : Int32} {i1 : Int32} {i2 : Int32} {i3 : Int32} {i4 : Int32} {i5 : Int32} {z6 : Value} {z7 : Value} (hS : zs_5 S e) (h : if (i5 : Int32) < (C.1 e 11) then (zW X 1 243 42 [.ref e, .int i1, .int i2, .int i3, .int i4, .int i5, .int (i5 + 1), z7] [] S C (zQi q)) else (if (i1 : Int32) = 0 then (q i2 C) else (if (i3 : Int32) = (-1) then (zCd X 0 160 [.ref e, .int (-5)] S C (zQi (fun r1 C1 => q r1 C1))) else (q i3 C)))) : zW X 1 243 27 [.ref e, .int i1, .int i2, .int i3, .int i4, .int i5, z6, z7] [] S C (zQi q) := by
  refine zw_iload (n := 29) d243_27 rfl rfl ?_
  refine zw_aload_n (n := 30) d243_29 rfl rfl ?_
  refine zw_geti (n := 33) d243_30 rfl (zj_5 hS).1 (zj_5 hS).2 ?_
  refine zw_ic_ge (n := 36) d243_33 rfl (zite h (fun h => ?_) (fun h => ?_))
  · skip
    refine zw_iload (n := 38) d243_36 rfl rfl ?_
    refine zw_iconst (n := 39) d243_38 rfl zk_i_1 ?_
    refine zw_iadd (n := 40) d243_39 rfl ?_
    refine zw_istore (n := 42) d243_40 rfl rfl rfl ?_
    exact h
  · skip
    refine zw_iload_n (n := 107) d243_106 rfl rfl ?_
    refine zw_if_ne (n := 110) d243_107 rfl (zite h (fun h => ?_) (fun h => ?_))
    · skip
      refine zw_iload_n (n := 111) d243_110 rfl rfl ?_
      refine zw_goto d243_111 ?_
      exact zw_iret d243_129 rfl ⟨_, rfl, h⟩
    · skip
      refine zw_iload_n (n := 115) d243_114 rfl rfl ?_
      refine zw_iconst (n := 116) d243_115 rfl zk_i_m1 ?_
      refine zw_ic_ne (n := 119) d243_116 rfl (zite h (fun h => ?_) (fun h => ?_))
      · skip
        refine zw_aload_n (n := 120) d243_119 rfl rfl ?_
        refine zw_bipush (n := 122) d243_120 rfl zk_b_m5 ?_
        refine zw_cI (n := 125) d243_122 (zs_V rfl rfl rfl rfl (by decide) (zj_5 hS).1 (zq_5 hS)) (by rw [ml_160]; rfl) (by decide) rfl (zc_mI h (fun r1 C1 h => ?_))
        refine zw_goto d243_125 ?_
        exact zw_iret d243_129 rfl ⟨_, rfl, h⟩
      · skip
        refine zw_iload_n (n := 129) d243_128 rfl rfl ?_
        exact zw_iret d243_129 rfl ⟨_, rfl, h⟩
theorem vc243_42 {X : zX} {S : zx_S} {C : zx_C} {q : Int32 → zx_C → Prop} {e : Nat} {a1 : Int32} {i1 : Int32} {i2 : Int32} {i3 : Int32} {i4 : Int32} {i5 : Int32} {i6 : Int32} {z7 : Value} (hS : zs_5 S e) (h : if (i6 : Int32) < (C.1 e 11) then (zCd X 0 244 [.ref e, .int i5, .int i6] S C (zQi (fun r1 C1 => if (0 : Int32) < r1 then (if (i4 : Int32) < r1 then (zW X 1 243 42 [.ref e, .int i1, .int (i2 + 1), .int ((10 * i5) + i6), .int r1, .int i5, .int (i6 + 1), .int r1] [] S C1 (zQi q)) else (zW X 1 243 42 [.ref e, .int i1, .int (i2 + 1), .int i3, .int i4, .int i5, .int (i6 + 1), .int r1] [] S C1 (zQi q))) else (if (i4 : Int32) < r1 then (zW X 1 243 42 [.ref e, .int i1, .int (i2 + 0), .int ((10 * i5) + i6), .int r1, .int i5, .int (i6 + 1), .int r1] [] S C1 (zQi q)) else (zW X 1 243 42 [.ref e, .int i1, .int (i2 + 0), .int i3, .int i4, .int i5, .int (i6 + 1), .int r1] [] S C1 (zQi q)))))) else (zW X 1 243 27 [.ref e, .int i1, .int i2, .int i3, .int i4, .int (i5 + 1), .int i6, z7] [] S C (zQi q))) : zW X 1 243 42 [.ref e, .int i1, .int i2, .int i3, .int i4, .int i5, .int i6, z7] [] S C (zQi q) := by
  refine zw_iload (n := 44) d243_42 rfl rfl ?_
  refine zw_aload_n (n := 45) d243_44 rfl rfl ?_
  refine zw_geti (n := 48) d243_45 rfl (zj_5 hS).1 (zj_5 hS).2 ?_
  refine zw_ic_ge (n := 51) d243_48 rfl (zite h (fun h => ?_) (fun h => ?_))
  · skip
    refine zw_aload_n (n := 52) d243_51 rfl rfl ?_
    refine zw_iload (n := 54) d243_52 rfl rfl ?_
    refine zw_iload (n := 56) d243_54 rfl rfl ?_
    refine zw_cI (n := 59) d243_56 (zs_V rfl rfl rfl rfl (by decide) (zj_5 hS).1 (zq_5 hS)) (by rw [ml_244]; rfl) (by decide) rfl (zc_mI h (fun r1 C1 h => ?_))
    refine zw_istore (n := 61) d243_59 rfl rfl rfl ?_
    refine zw_iload_n (n := 62) d243_61 rfl rfl ?_
    refine zw_iload (n := 64) d243_62 rfl rfl ?_
    refine zw_if_le (n := 67) d243_64 rfl (zite h (fun h => ?_) (fun h => ?_))
    · skip
      refine zw_iconst (n := 68) d243_67 rfl zk_i_1 ?_
      refine zw_goto d243_68 ?_
      refine zw_iadd (n := 73) d243_72 rfl ?_
      refine zw_istore_n (n := 74) d243_73 rfl rfl rfl ?_
      refine zw_iload (n := 76) d243_74 rfl rfl ?_
      refine zw_iload (n := 78) d243_76 rfl rfl ?_
      refine zw_ic_le (n := 81) d243_78 rfl (zite h (fun h => ?_) (fun h => ?_))
      · skip
        refine zw_bipush (n := 83) d243_81 rfl zk_b_10 ?_
        refine zw_iload (n := 85) d243_83 rfl rfl ?_
        refine zw_imul (n := 86) d243_85 rfl ?_
        refine zw_iload (n := 88) d243_86 rfl rfl ?_
        refine zw_iadd (n := 89) d243_88 rfl ?_
        refine zw_istore_n (n := 90) d243_89 rfl rfl rfl ?_
        refine zw_iload (n := 92) d243_90 rfl rfl ?_
        refine zw_istore (n := 94) d243_92 rfl rfl rfl ?_
        refine zw_iinc (n := 97) d243_94 rfl rfl zk_i_1 rfl ?_
        refine zw_goto d243_97 ?_
        exact h
      · skip
        refine zw_iinc (n := 97) d243_94 rfl rfl zk_i_1 rfl ?_
        refine zw_goto d243_97 ?_
        exact h
    · skip
      refine zw_iconst (n := 72) d243_71 rfl zk_i_0 ?_
      refine zw_iadd (n := 73) d243_72 rfl ?_
      refine zw_istore_n (n := 74) d243_73 rfl rfl rfl ?_
      refine zw_iload (n := 76) d243_74 rfl rfl ?_
      refine zw_iload (n := 78) d243_76 rfl rfl ?_
      refine zw_ic_le (n := 81) d243_78 rfl (zite h (fun h => ?_) (fun h => ?_))
      · skip
        refine zw_bipush (n := 83) d243_81 rfl zk_b_10 ?_
        refine zw_iload (n := 85) d243_83 rfl rfl ?_
        refine zw_imul (n := 86) d243_85 rfl ?_
        refine zw_iload (n := 88) d243_86 rfl rfl ?_
        refine zw_iadd (n := 89) d243_88 rfl ?_
        refine zw_istore_n (n := 90) d243_89 rfl rfl rfl ?_
        refine zw_iload (n := 92) d243_90 rfl rfl ?_
        refine zw_istore (n := 94) d243_92 rfl rfl rfl ?_
        refine zw_iinc (n := 97) d243_94 rfl rfl zk_i_1 rfl ?_
        refine zw_goto d243_97 ?_
        exact h
      · skip
        refine zw_iinc (n := 97) d243_94 rfl rfl zk_i_1 rfl ?_
        refine zw_goto d243_97 ?_
        exact h
  · skip
    refine zw_iinc (n := 103) d243_100 rfl rfl zk_i_1 rfl ?_
    refine zw_goto d243_103 ?_
    exact h

set_option maxRecDepth 20000 in
theorem zf244 (pc : Nat) : zt_code 244 pc = zt_fd zl_244 pc := rfl
theorem d244_0 : zt_code 244 0 = some (.aload_n 0, 0, 0, 0) := (zf244 0).trans rfl
theorem d244_1 : zt_code 244 1 = some (.getfield 49, 5, 13, 1) := (zf244 1).trans rfl
theorem d244_4 : zt_code 244 4 = some (.iload_n 1, 0, 0, 0) := (zf244 4).trans rfl
theorem d244_5 : zt_code 244 5 = some (.iaload, 0, 0, 0) := (zf244 5).trans rfl
theorem d244_6 : zt_code 244 6 = some (.istore_n 3, 0, 0, 0) := (zf244 6).trans rfl
theorem d244_7 : zt_code 244 7 = some (.aload_n 0, 0, 0, 0) := (zf244 7).trans rfl
theorem d244_8 : zt_code 244 8 = some (.getfield 49, 5, 13, 1) := (zf244 8).trans rfl
theorem d244_11 : zt_code 244 11 = some (.iload_n 2, 0, 0, 0) := (zf244 11).trans rfl
theorem d244_12 : zt_code 244 12 = some (.iaload, 0, 0, 0) := (zf244 12).trans rfl
theorem d244_13 : zt_code 244 13 = some (.istore 4, 0, 0, 0) := (zf244 13).trans rfl
theorem d244_15 : zt_code 244 15 = some (.iload_n 3, 0, 0, 0) := (zf244 15).trans rfl
theorem d244_16 : zt_code 244 16 = some (.iconst (-1), 0, 0, 0) := (zf244 16).trans rfl
theorem d244_17 : zt_code 244 17 = some (.if_icmp .eq (55), 0, 72, 0) := (zf244 17).trans rfl
theorem d244_20 : zt_code 244 20 = some (.iload 4, 0, 0, 0) := (zf244 20).trans rfl
theorem d244_22 : zt_code 244 22 = some (.iconst (-1), 0, 0, 0) := (zf244 22).trans rfl
theorem d244_23 : zt_code 244 23 = some (.if_icmp .eq (49), 0, 72, 0) := (zf244 23).trans rfl
theorem d244_26 : zt_code 244 26 = some (.iload_n 3, 0, 0, 0) := (zf244 26).trans rfl
theorem d244_27 : zt_code 244 27 = some (.iload 4, 0, 0, 0) := (zf244 27).trans rfl
theorem d244_29 : zt_code 244 29 = some (.if_icmp .eq (43), 0, 72, 0) := (zf244 29).trans rfl
theorem d244_32 : zt_code 244 32 = some (.aload_n 0, 0, 0, 0) := (zf244 32).trans rfl
theorem d244_33 : zt_code 244 33 = some (.getfield 46, 5, 12, 1) := (zf244 33).trans rfl
theorem d244_36 : zt_code 244 36 = some (.iload_n 2, 0, 0, 0) := (zf244 36).trans rfl
theorem d244_37 : zt_code 244 37 = some (.aaload, 0, 0, 0) := (zf244 37).trans rfl
theorem d244_38 : zt_code 244 38 = some (.iload_n 3, 0, 0, 0) := (zf244 38).trans rfl
theorem d244_39 : zt_code 244 39 = some (.iaload, 0, 0, 0) := (zf244 39).trans rfl
theorem d244_40 : zt_code 244 40 = some (.aload_n 0, 0, 0, 0) := (zf244 40).trans rfl
theorem d244_41 : zt_code 244 41 = some (.getfield 46, 5, 12, 1) := (zf244 41).trans rfl
theorem d244_44 : zt_code 244 44 = some (.iload_n 1, 0, 0, 0) := (zf244 44).trans rfl
theorem d244_45 : zt_code 244 45 = some (.aaload, 0, 0, 0) := (zf244 45).trans rfl
theorem d244_46 : zt_code 244 46 = some (.iload_n 3, 0, 0, 0) := (zf244 46).trans rfl
theorem d244_47 : zt_code 244 47 = some (.iaload, 0, 0, 0) := (zf244 47).trans rfl
theorem d244_48 : zt_code 244 48 = some (.if_icmp .le (24), 0, 72, 0) := (zf244 48).trans rfl
theorem d244_51 : zt_code 244 51 = some (.aload_n 0, 0, 0, 0) := (zf244 51).trans rfl
theorem d244_52 : zt_code 244 52 = some (.getfield 46, 5, 12, 1) := (zf244 52).trans rfl
theorem d244_55 : zt_code 244 55 = some (.iload_n 1, 0, 0, 0) := (zf244 55).trans rfl
theorem d244_56 : zt_code 244 56 = some (.aaload, 0, 0, 0) := (zf244 56).trans rfl
theorem d244_57 : zt_code 244 57 = some (.iload 4, 0, 0, 0) := (zf244 57).trans rfl
theorem d244_59 : zt_code 244 59 = some (.iaload, 0, 0, 0) := (zf244 59).trans rfl
theorem d244_60 : zt_code 244 60 = some (.aload_n 0, 0, 0, 0) := (zf244 60).trans rfl
theorem d244_61 : zt_code 244 61 = some (.getfield 46, 5, 12, 1) := (zf244 61).trans rfl
theorem d244_64 : zt_code 244 64 = some (.iload_n 2, 0, 0, 0) := (zf244 64).trans rfl
theorem d244_65 : zt_code 244 65 = some (.aaload, 0, 0, 0) := (zf244 65).trans rfl
theorem d244_66 : zt_code 244 66 = some (.iload 4, 0, 0, 0) := (zf244 66).trans rfl
theorem d244_68 : zt_code 244 68 = some (.iaload, 0, 0, 0) := (zf244 68).trans rfl
theorem d244_69 : zt_code 244 69 = some (.if_icmp .gt (5), 0, 74, 0) := (zf244 69).trans rfl
theorem d244_72 : zt_code 244 72 = some (.iconst (0), 0, 0, 0) := (zf244 72).trans rfl
theorem d244_73 : zt_code 244 73 = some (.ireturn, 0, 0, 0) := (zf244 73).trans rfl
theorem d244_74 : zt_code 244 74 = some (.aload_n 0, 0, 0, 0) := (zf244 74).trans rfl
theorem d244_75 : zt_code 244 75 = some (.getfield 46, 5, 12, 1) := (zf244 75).trans rfl
theorem d244_78 : zt_code 244 78 = some (.iload_n 2, 0, 0, 0) := (zf244 78).trans rfl
theorem d244_79 : zt_code 244 79 = some (.aaload, 0, 0, 0) := (zf244 79).trans rfl
theorem d244_80 : zt_code 244 80 = some (.iload_n 3, 0, 0, 0) := (zf244 80).trans rfl
theorem d244_81 : zt_code 244 81 = some (.iaload, 0, 0, 0) := (zf244 81).trans rfl
theorem d244_82 : zt_code 244 82 = some (.aload_n 0, 0, 0, 0) := (zf244 82).trans rfl
theorem d244_83 : zt_code 244 83 = some (.getfield 46, 5, 12, 1) := (zf244 83).trans rfl
theorem d244_86 : zt_code 244 86 = some (.iload_n 1, 0, 0, 0) := (zf244 86).trans rfl
theorem d244_87 : zt_code 244 87 = some (.aaload, 0, 0, 0) := (zf244 87).trans rfl
theorem d244_88 : zt_code 244 88 = some (.iload_n 3, 0, 0, 0) := (zf244 88).trans rfl
theorem d244_89 : zt_code 244 89 = some (.iaload, 0, 0, 0) := (zf244 89).trans rfl
theorem d244_90 : zt_code 244 90 = some (.isub, 0, 0, 0) := (zf244 90).trans rfl
theorem d244_91 : zt_code 244 91 = some (.aload_n 0, 0, 0, 0) := (zf244 91).trans rfl
theorem d244_92 : zt_code 244 92 = some (.getfield 46, 5, 12, 1) := (zf244 92).trans rfl
theorem d244_95 : zt_code 244 95 = some (.iload_n 1, 0, 0, 0) := (zf244 95).trans rfl
theorem d244_96 : zt_code 244 96 = some (.aaload, 0, 0, 0) := (zf244 96).trans rfl
theorem d244_97 : zt_code 244 97 = some (.iload 4, 0, 0, 0) := (zf244 97).trans rfl
theorem d244_99 : zt_code 244 99 = some (.iaload, 0, 0, 0) := (zf244 99).trans rfl
theorem d244_100 : zt_code 244 100 = some (.iadd, 0, 0, 0) := (zf244 100).trans rfl
theorem d244_101 : zt_code 244 101 = some (.aload_n 0, 0, 0, 0) := (zf244 101).trans rfl
theorem d244_102 : zt_code 244 102 = some (.getfield 46, 5, 12, 1) := (zf244 102).trans rfl
theorem d244_105 : zt_code 244 105 = some (.iload_n 2, 0, 0, 0) := (zf244 105).trans rfl
theorem d244_106 : zt_code 244 106 = some (.aaload, 0, 0, 0) := (zf244 106).trans rfl
theorem d244_107 : zt_code 244 107 = some (.iload 4, 0, 0, 0) := (zf244 107).trans rfl
theorem d244_109 : zt_code 244 109 = some (.iaload, 0, 0, 0) := (zf244 109).trans rfl
theorem d244_110 : zt_code 244 110 = some (.isub, 0, 0, 0) := (zf244 110).trans rfl
theorem d244_111 : zt_code 244 111 = some (.ireturn, 0, 0, 0) := (zf244 111).trans rfl
/-- FirstAtTheFirstModel.gainOf(II)I -/
theorem vc244 {X : zX} {S : zx_S} {C : zx_C} {q : Int32 → zx_C → Prop} {e : Nat} {a1 : Int32} {a2 : Int32} (hS : zs_5 S e) (h : vp_in a1 8 ∧ (vp_in a2 8 ∧ (if ((C.1 (e + 27) (Int32.toNatClampNeg a1)) : Int32) = (-1) then (q 0 C) else (if ((C.1 (e + 27) (Int32.toNatClampNeg a2)) : Int32) = (-1) then (q 0 C) else (if ((C.1 (e + 27) (Int32.toNatClampNeg a1)) : Int32) = (C.1 (e + 27) (Int32.toNatClampNeg a2)) then (q 0 C) else (vp_in a2 8 ∧ (vp_in (C.1 (e + 27) (Int32.toNatClampNeg a1)) 3 ∧ (vp_in a1 8 ∧ (vp_in (C.1 (e + 27) (Int32.toNatClampNeg a1)) 3 ∧ (if ((C.1 ((e + 19) + Int32.toNatClampNeg a1) (Int32.toNatClampNeg (C.1 (e + 27) (Int32.toNatClampNeg a1)))) : Int32) < (C.1 ((e + 19) + Int32.toNatClampNeg a2) (Int32.toNatClampNeg (C.1 (e + 27) (Int32.toNatClampNeg a1)))) then (vp_in a1 8 ∧ (vp_in (C.1 (e + 27) (Int32.toNatClampNeg a2)) 3 ∧ (vp_in a2 8 ∧ (vp_in (C.1 (e + 27) (Int32.toNatClampNeg a2)) 3 ∧ (if ((C.1 ((e + 19) + Int32.toNatClampNeg a2) (Int32.toNatClampNeg (C.1 (e + 27) (Int32.toNatClampNeg a2)))) : Int32) < (C.1 ((e + 19) + Int32.toNatClampNeg a1) (Int32.toNatClampNeg (C.1 (e + 27) (Int32.toNatClampNeg a2)))) then (vp_in a2 8 ∧ (vp_in (C.1 (e + 27) (Int32.toNatClampNeg a1)) 3 ∧ (vp_in a1 8 ∧ (vp_in (C.1 (e + 27) (Int32.toNatClampNeg a1)) 3 ∧ (vp_in a1 8 ∧ (vp_in (C.1 (e + 27) (Int32.toNatClampNeg a2)) 3 ∧ (vp_in a2 8 ∧ (vp_in (C.1 (e + 27) (Int32.toNatClampNeg a2)) 3 ∧ (q ((((C.1 ((e + 19) + Int32.toNatClampNeg a2) (Int32.toNatClampNeg (C.1 (e + 27) (Int32.toNatClampNeg a1)))) - (C.1 ((e + 19) + Int32.toNatClampNeg a1) (Int32.toNatClampNeg (C.1 (e + 27) (Int32.toNatClampNeg a1))))) + (C.1 ((e + 19) + Int32.toNatClampNeg a1) (Int32.toNatClampNeg (C.1 (e + 27) (Int32.toNatClampNeg a2))))) - (C.1 ((e + 19) + Int32.toNatClampNeg a2) (Int32.toNatClampNeg (C.1 (e + 27) (Int32.toNatClampNeg a2))))) C))))))))) else (q 0 C)))))) else (q 0 C))))))))))) : zCd X 0 244 [.ref e, .int a1, .int a2] S C (zQi q) := by
  refine zc_in ml_244 rfl ?_
  refine zw_aload_n (n := 1) d244_0 rfl rfl ?_
  refine zw_getr (n := 4) d244_1 rfl (zj_5 hS).1 (zj_5 hS).2 (zr_5_13 hS) ?_
  refine zw_iload_n (n := 5) d244_4 rfl rfl ?_
  obtain ⟨hi, h⟩ := h
  refine zw_iald (n := 6) d244_5 rfl (za_5_13 hS).1 (za_5_13 hS).2 hi ?_
  refine zw_istore_n (n := 7) d244_6 rfl rfl rfl ?_
  refine zw_aload_n (n := 8) d244_7 rfl rfl ?_
  refine zw_getr (n := 11) d244_8 rfl (zj_5 hS).1 (zj_5 hS).2 (zr_5_13 hS) ?_
  refine zw_iload_n (n := 12) d244_11 rfl rfl ?_
  obtain ⟨hi, h⟩ := h
  refine zw_iald (n := 13) d244_12 rfl (za_5_13 hS).1 (za_5_13 hS).2 hi ?_
  refine zw_istore (n := 15) d244_13 rfl rfl rfl ?_
  refine zw_iload_n (n := 16) d244_15 rfl rfl ?_
  refine zw_iconst (n := 17) d244_16 rfl zk_i_m1 ?_
  refine zw_ic_eq (n := 20) d244_17 rfl (zite h (fun h => ?_) (fun h => ?_))
  · skip
    refine zw_iconst (n := 73) d244_72 rfl zk_i_0 ?_
    exact zw_iret d244_73 rfl ⟨_, rfl, h⟩
  · skip
    refine zw_iload (n := 22) d244_20 rfl rfl ?_
    refine zw_iconst (n := 23) d244_22 rfl zk_i_m1 ?_
    refine zw_ic_eq (n := 26) d244_23 rfl (zite h (fun h => ?_) (fun h => ?_))
    · skip
      refine zw_iconst (n := 73) d244_72 rfl zk_i_0 ?_
      exact zw_iret d244_73 rfl ⟨_, rfl, h⟩
    · skip
      refine zw_iload_n (n := 27) d244_26 rfl rfl ?_
      refine zw_iload (n := 29) d244_27 rfl rfl ?_
      refine zw_ic_eq (n := 32) d244_29 rfl (zite h (fun h => ?_) (fun h => ?_))
      · skip
        refine zw_iconst (n := 73) d244_72 rfl zk_i_0 ?_
        exact zw_iret d244_73 rfl ⟨_, rfl, h⟩
      · skip
        refine zw_aload_n (n := 33) d244_32 rfl rfl ?_
        refine zw_getr (n := 36) d244_33 rfl (zj_5 hS).1 (zj_5 hS).2 (zr_5_12 hS) ?_
        refine zw_iload_n (n := 37) d244_36 rfl rfl ?_
        obtain ⟨hi, h⟩ := h
        have hb1 := zb_5_12 hS (vp_lt hi)
        refine zw_aald (n := 38) d244_37 rfl (za_5_12 hS).1 (za_5_12 hS).2 (by decide) hi hb1.1 ?_
        refine zw_iload_n (n := 39) d244_38 rfl rfl ?_
        obtain ⟨hi, h⟩ := h
        refine zw_iald (n := 40) d244_39 rfl hb1.2.1 hb1.2.2 hi ?_
        refine zw_aload_n (n := 41) d244_40 rfl rfl ?_
        refine zw_getr (n := 44) d244_41 rfl (zj_5 hS).1 (zj_5 hS).2 (zr_5_12 hS) ?_
        refine zw_iload_n (n := 45) d244_44 rfl rfl ?_
        obtain ⟨hi, h⟩ := h
        have hb2 := zb_5_12 hS (vp_lt hi)
        refine zw_aald (n := 46) d244_45 rfl (za_5_12 hS).1 (za_5_12 hS).2 (by decide) hi hb2.1 ?_
        refine zw_iload_n (n := 47) d244_46 rfl rfl ?_
        obtain ⟨hi, h⟩ := h
        refine zw_iald (n := 48) d244_47 rfl hb2.2.1 hb2.2.2 hi ?_
        refine zw_ic_le (n := 51) d244_48 rfl (zite h (fun h => ?_) (fun h => ?_))
        · skip
          refine zw_aload_n (n := 52) d244_51 rfl rfl ?_
          refine zw_getr (n := 55) d244_52 rfl (zj_5 hS).1 (zj_5 hS).2 (zr_5_12 hS) ?_
          refine zw_iload_n (n := 56) d244_55 rfl rfl ?_
          obtain ⟨hi, h⟩ := h
          have hb3 := zb_5_12 hS (vp_lt hi)
          refine zw_aald (n := 57) d244_56 rfl (za_5_12 hS).1 (za_5_12 hS).2 (by decide) hi hb3.1 ?_
          refine zw_iload (n := 59) d244_57 rfl rfl ?_
          obtain ⟨hi, h⟩ := h
          refine zw_iald (n := 60) d244_59 rfl hb3.2.1 hb3.2.2 hi ?_
          refine zw_aload_n (n := 61) d244_60 rfl rfl ?_
          refine zw_getr (n := 64) d244_61 rfl (zj_5 hS).1 (zj_5 hS).2 (zr_5_12 hS) ?_
          refine zw_iload_n (n := 65) d244_64 rfl rfl ?_
          obtain ⟨hi, h⟩ := h
          have hb4 := zb_5_12 hS (vp_lt hi)
          refine zw_aald (n := 66) d244_65 rfl (za_5_12 hS).1 (za_5_12 hS).2 (by decide) hi hb4.1 ?_
          refine zw_iload (n := 68) d244_66 rfl rfl ?_
          obtain ⟨hi, h⟩ := h
          refine zw_iald (n := 69) d244_68 rfl hb4.2.1 hb4.2.2 hi ?_
          refine zw_ic_gt (n := 72) d244_69 rfl (zite h (fun h => ?_) (fun h => ?_))
          · skip
            refine zw_aload_n (n := 75) d244_74 rfl rfl ?_
            refine zw_getr (n := 78) d244_75 rfl (zj_5 hS).1 (zj_5 hS).2 (zr_5_12 hS) ?_
            refine zw_iload_n (n := 79) d244_78 rfl rfl ?_
            obtain ⟨hi, h⟩ := h
            have hb5 := zb_5_12 hS (vp_lt hi)
            refine zw_aald (n := 80) d244_79 rfl (za_5_12 hS).1 (za_5_12 hS).2 (by decide) hi hb5.1 ?_
            refine zw_iload_n (n := 81) d244_80 rfl rfl ?_
            obtain ⟨hi, h⟩ := h
            refine zw_iald (n := 82) d244_81 rfl hb5.2.1 hb5.2.2 hi ?_
            refine zw_aload_n (n := 83) d244_82 rfl rfl ?_
            refine zw_getr (n := 86) d244_83 rfl (zj_5 hS).1 (zj_5 hS).2 (zr_5_12 hS) ?_
            refine zw_iload_n (n := 87) d244_86 rfl rfl ?_
            obtain ⟨hi, h⟩ := h
            have hb6 := zb_5_12 hS (vp_lt hi)
            refine zw_aald (n := 88) d244_87 rfl (za_5_12 hS).1 (za_5_12 hS).2 (by decide) hi hb6.1 ?_
            refine zw_iload_n (n := 89) d244_88 rfl rfl ?_
            obtain ⟨hi, h⟩ := h
            refine zw_iald (n := 90) d244_89 rfl hb6.2.1 hb6.2.2 hi ?_
            refine zw_isub (n := 91) d244_90 rfl ?_
            refine zw_aload_n (n := 92) d244_91 rfl rfl ?_
            refine zw_getr (n := 95) d244_92 rfl (zj_5 hS).1 (zj_5 hS).2 (zr_5_12 hS) ?_
            refine zw_iload_n (n := 96) d244_95 rfl rfl ?_
            obtain ⟨hi, h⟩ := h
            have hb7 := zb_5_12 hS (vp_lt hi)
            refine zw_aald (n := 97) d244_96 rfl (za_5_12 hS).1 (za_5_12 hS).2 (by decide) hi hb7.1 ?_
            refine zw_iload (n := 99) d244_97 rfl rfl ?_
            obtain ⟨hi, h⟩ := h
            refine zw_iald (n := 100) d244_99 rfl hb7.2.1 hb7.2.2 hi ?_
            refine zw_iadd (n := 101) d244_100 rfl ?_
            refine zw_aload_n (n := 102) d244_101 rfl rfl ?_
            refine zw_getr (n := 105) d244_102 rfl (zj_5 hS).1 (zj_5 hS).2 (zr_5_12 hS) ?_
            refine zw_iload_n (n := 106) d244_105 rfl rfl ?_
            obtain ⟨hi, h⟩ := h
            have hb8 := zb_5_12 hS (vp_lt hi)
            refine zw_aald (n := 107) d244_106 rfl (za_5_12 hS).1 (za_5_12 hS).2 (by decide) hi hb8.1 ?_
            refine zw_iload (n := 109) d244_107 rfl rfl ?_
            obtain ⟨hi, h⟩ := h
            refine zw_iald (n := 110) d244_109 rfl hb8.2.1 hb8.2.2 hi ?_
            refine zw_isub (n := 111) d244_110 rfl ?_
            exact zw_iret d244_111 rfl ⟨_, rfl, h⟩
          · skip
            refine zw_iconst (n := 73) d244_72 rfl zk_i_0 ?_
            exact zw_iret d244_73 rfl ⟨_, rfl, h⟩
        · skip
          refine zw_iconst (n := 73) d244_72 rfl zk_i_0 ?_
          exact zw_iret d244_73 rfl ⟨_, rfl, h⟩

set_option maxRecDepth 20000 in
theorem zf245 (pc : Nat) : zt_code 245 pc = zt_fd zl_245 pc := rfl
theorem d245_0 : zt_code 245 0 = some (.aload_n 0, 0, 0, 0) := (zf245 0).trans rfl
theorem d245_1 : zt_code 245 1 = some (.iload_n 1, 0, 0, 0) := (zf245 1).trans rfl
theorem d245_2 : zt_code 245 2 = some (.invokevirtual 159, 190, 2, 5) := (zf245 2).trans rfl
theorem d245_5 : zt_code 245 5 = some (.ifCond .eq (16), 0, 21, 0) := (zf245 5).trans rfl
theorem d245_8 : zt_code 245 8 = some (.aload_n 0, 0, 0, 0) := (zf245 8).trans rfl
theorem d245_9 : zt_code 245 9 = some (.iload_n 2, 0, 0, 0) := (zf245 9).trans rfl
theorem d245_10 : zt_code 245 10 = some (.invokevirtual 159, 190, 2, 5) := (zf245 10).trans rfl
theorem d245_13 : zt_code 245 13 = some (.ifCond .eq (8), 0, 21, 0) := (zf245 13).trans rfl
theorem d245_16 : zt_code 245 16 = some (.iload_n 1, 0, 0, 0) := (zf245 16).trans rfl
theorem d245_17 : zt_code 245 17 = some (.iload_n 2, 0, 0, 0) := (zf245 17).trans rfl
theorem d245_18 : zt_code 245 18 = some (.if_icmp .ne (10), 0, 28, 0) := (zf245 18).trans rfl
theorem d245_21 : zt_code 245 21 = some (.aload_n 0, 0, 0, 0) := (zf245 21).trans rfl
theorem d245_22 : zt_code 245 22 = some (.bipush (-2), 0, 0, 0) := (zf245 22).trans rfl
theorem d245_24 : zt_code 245 24 = some (.invokevirtual 107, 160, 2, 5) := (zf245 24).trans rfl
theorem d245_27 : zt_code 245 27 = some (.ireturn, 0, 0, 0) := (zf245 27).trans rfl
theorem d245_28 : zt_code 245 28 = some (.aload_n 0, 0, 0, 0) := (zf245 28).trans rfl
theorem d245_29 : zt_code 245 29 = some (.getfield 49, 5, 13, 1) := (zf245 29).trans rfl
theorem d245_32 : zt_code 245 32 = some (.iload_n 1, 0, 0, 0) := (zf245 32).trans rfl
theorem d245_33 : zt_code 245 33 = some (.iaload, 0, 0, 0) := (zf245 33).trans rfl
theorem d245_34 : zt_code 245 34 = some (.iconst (-1), 0, 0, 0) := (zf245 34).trans rfl
theorem d245_35 : zt_code 245 35 = some (.if_icmp .ne (7), 0, 42, 0) := (zf245 35).trans rfl
theorem d245_38 : zt_code 245 38 = some (.iconst (1), 0, 0, 0) := (zf245 38).trans rfl
theorem d245_39 : zt_code 245 39 = some (.goto (4), 0, 43, 0) := (zf245 39).trans rfl
theorem d245_42 : zt_code 245 42 = some (.iconst (0), 0, 0, 0) := (zf245 42).trans rfl
theorem d245_43 : zt_code 245 43 = some (.aload_n 0, 0, 0, 0) := (zf245 43).trans rfl
theorem d245_44 : zt_code 245 44 = some (.getfield 49, 5, 13, 1) := (zf245 44).trans rfl
theorem d245_47 : zt_code 245 47 = some (.iload_n 2, 0, 0, 0) := (zf245 47).trans rfl
theorem d245_48 : zt_code 245 48 = some (.iaload, 0, 0, 0) := (zf245 48).trans rfl
theorem d245_49 : zt_code 245 49 = some (.iconst (-1), 0, 0, 0) := (zf245 49).trans rfl
theorem d245_50 : zt_code 245 50 = some (.if_icmp .ne (7), 0, 57, 0) := (zf245 50).trans rfl
theorem d245_53 : zt_code 245 53 = some (.iconst (1), 0, 0, 0) := (zf245 53).trans rfl
theorem d245_54 : zt_code 245 54 = some (.goto (4), 0, 58, 0) := (zf245 54).trans rfl
theorem d245_57 : zt_code 245 57 = some (.iconst (0), 0, 0, 0) := (zf245 57).trans rfl
theorem d245_58 : zt_code 245 58 = some (.if_icmp .eq (10), 0, 68, 0) := (zf245 58).trans rfl
theorem d245_61 : zt_code 245 61 = some (.aload_n 0, 0, 0, 0) := (zf245 61).trans rfl
theorem d245_62 : zt_code 245 62 = some (.bipush (-5), 0, 0, 0) := (zf245 62).trans rfl
theorem d245_64 : zt_code 245 64 = some (.invokevirtual 107, 160, 2, 5) := (zf245 64).trans rfl
theorem d245_67 : zt_code 245 67 = some (.ireturn, 0, 0, 0) := (zf245 67).trans rfl
theorem d245_68 : zt_code 245 68 = some (.aload_n 0, 0, 0, 0) := (zf245 68).trans rfl
theorem d245_69 : zt_code 245 69 = some (.getfield 49, 5, 13, 1) := (zf245 69).trans rfl
theorem d245_72 : zt_code 245 72 = some (.iload_n 1, 0, 0, 0) := (zf245 72).trans rfl
theorem d245_73 : zt_code 245 73 = some (.iaload, 0, 0, 0) := (zf245 73).trans rfl
theorem d245_74 : zt_code 245 74 = some (.aload_n 0, 0, 0, 0) := (zf245 74).trans rfl
theorem d245_75 : zt_code 245 75 = some (.getfield 49, 5, 13, 1) := (zf245 75).trans rfl
theorem d245_78 : zt_code 245 78 = some (.iload_n 2, 0, 0, 0) := (zf245 78).trans rfl
theorem d245_79 : zt_code 245 79 = some (.iaload, 0, 0, 0) := (zf245 79).trans rfl
theorem d245_80 : zt_code 245 80 = some (.if_icmp .ne (5), 0, 85, 0) := (zf245 80).trans rfl
theorem d245_83 : zt_code 245 83 = some (.iconst (0), 0, 0, 0) := (zf245 83).trans rfl
theorem d245_84 : zt_code 245 84 = some (.ireturn, 0, 0, 0) := (zf245 84).trans rfl
theorem d245_85 : zt_code 245 85 = some (.aload_n 0, 0, 0, 0) := (zf245 85).trans rfl
theorem d245_86 : zt_code 245 86 = some (.getfield 49, 5, 13, 1) := (zf245 86).trans rfl
theorem d245_89 : zt_code 245 89 = some (.iload_n 1, 0, 0, 0) := (zf245 89).trans rfl
theorem d245_90 : zt_code 245 90 = some (.iaload, 0, 0, 0) := (zf245 90).trans rfl
theorem d245_91 : zt_code 245 91 = some (.istore_n 3, 0, 0, 0) := (zf245 91).trans rfl
theorem d245_92 : zt_code 245 92 = some (.aload_n 0, 0, 0, 0) := (zf245 92).trans rfl
theorem d245_93 : zt_code 245 93 = some (.getfield 49, 5, 13, 1) := (zf245 93).trans rfl
theorem d245_96 : zt_code 245 96 = some (.iload_n 1, 0, 0, 0) := (zf245 96).trans rfl
theorem d245_97 : zt_code 245 97 = some (.aload_n 0, 0, 0, 0) := (zf245 97).trans rfl
theorem d245_98 : zt_code 245 98 = some (.getfield 49, 5, 13, 1) := (zf245 98).trans rfl
theorem d245_101 : zt_code 245 101 = some (.iload_n 2, 0, 0, 0) := (zf245 101).trans rfl
theorem d245_102 : zt_code 245 102 = some (.iaload, 0, 0, 0) := (zf245 102).trans rfl
theorem d245_103 : zt_code 245 103 = some (.iastore, 0, 0, 0) := (zf245 103).trans rfl
theorem d245_104 : zt_code 245 104 = some (.aload_n 0, 0, 0, 0) := (zf245 104).trans rfl
theorem d245_105 : zt_code 245 105 = some (.getfield 49, 5, 13, 1) := (zf245 105).trans rfl
theorem d245_108 : zt_code 245 108 = some (.iload_n 2, 0, 0, 0) := (zf245 108).trans rfl
theorem d245_109 : zt_code 245 109 = some (.iload_n 3, 0, 0, 0) := (zf245 109).trans rfl
theorem d245_110 : zt_code 245 110 = some (.iastore, 0, 0, 0) := (zf245 110).trans rfl
theorem d245_111 : zt_code 245 111 = some (.iconst (1), 0, 0, 0) := (zf245 111).trans rfl
theorem d245_112 : zt_code 245 112 = some (.ireturn, 0, 0, 0) := (zf245 112).trans rfl
/-- FirstAtTheFirstModel.swap(II)I -/
theorem vc245 {X : zX} {S : zx_S} {C : zx_C} {q : Int32 → zx_C → Prop} {e : Nat} {a1 : Int32} {a2 : Int32} (hS : zs_5 S e) (h : zCd X 1 190 [.ref e, .int a1] S C (zQi (fun r1 C1 => if (r1 : Int32) = 0 then (zCd X 0 160 [.ref e, .int (-2)] S C1 (zQi (fun r2 C2 => q r2 C2))) else (zCd X 1 190 [.ref e, .int a2] S C1 (zQi (fun r3 C3 => if (r3 : Int32) = 0 then (zCd X 0 160 [.ref e, .int (-2)] S C3 (zQi (fun r4 C4 => q r4 C4))) else (if (a1 : Int32) = a2 then (zCd X 0 160 [.ref e, .int (-2)] S C3 (zQi (fun r5 C5 => q r5 C5))) else (vp_in a1 8 ∧ (if ((C3.1 (e + 27) (Int32.toNatClampNeg a1)) : Int32) = (-1) then (vp_in a2 8 ∧ (if ((C3.1 (e + 27) (Int32.toNatClampNeg a2)) : Int32) = (-1) then (if (1 : Int32) = 1 then (vp_in a1 8 ∧ (vp_in a2 8 ∧ (if ((C3.1 (e + 27) (Int32.toNatClampNeg a1)) : Int32) = (C3.1 (e + 27) (Int32.toNatClampNeg a2)) then (q 0 C3) else (vp_in a1 8 ∧ (vp_in a2 8 ∧ (vp_in a1 8 ∧ (vp_in a2 8 ∧ (q 1 (zp (zp C3 (e + 27) (Int32.toNatClampNeg a1) (C3.1 (e + 27) (Int32.toNatClampNeg a2))) (e + 27) (Int32.toNatClampNeg a2) (C3.1 (e + 27) (Int32.toNatClampNeg a1))))))))))) else (zCd X 0 160 [.ref e, .int (-5)] S C3 (zQi (fun r6 C6 => q r6 C6)))) else (if (1 : Int32) = 0 then (vp_in a1 8 ∧ (vp_in a2 8 ∧ (if ((C3.1 (e + 27) (Int32.toNatClampNeg a1)) : Int32) = (C3.1 (e + 27) (Int32.toNatClampNeg a2)) then (q 0 C3) else (vp_in a1 8 ∧ (vp_in a2 8 ∧ (vp_in a1 8 ∧ (vp_in a2 8 ∧ (q 1 (zp (zp C3 (e + 27) (Int32.toNatClampNeg a1) (C3.1 (e + 27) (Int32.toNatClampNeg a2))) (e + 27) (Int32.toNatClampNeg a2) (C3.1 (e + 27) (Int32.toNatClampNeg a1))))))))))) else (zCd X 0 160 [.ref e, .int (-5)] S C3 (zQi (fun r7 C7 => q r7 C7)))))) else (vp_in a2 8 ∧ (if ((C3.1 (e + 27) (Int32.toNatClampNeg a2)) : Int32) = (-1) then (if (0 : Int32) = 1 then (vp_in a1 8 ∧ (vp_in a2 8 ∧ (if ((C3.1 (e + 27) (Int32.toNatClampNeg a1)) : Int32) = (C3.1 (e + 27) (Int32.toNatClampNeg a2)) then (q 0 C3) else (vp_in a1 8 ∧ (vp_in a2 8 ∧ (vp_in a1 8 ∧ (vp_in a2 8 ∧ (q 1 (zp (zp C3 (e + 27) (Int32.toNatClampNeg a1) (C3.1 (e + 27) (Int32.toNatClampNeg a2))) (e + 27) (Int32.toNatClampNeg a2) (C3.1 (e + 27) (Int32.toNatClampNeg a1))))))))))) else (zCd X 0 160 [.ref e, .int (-5)] S C3 (zQi (fun r8 C8 => q r8 C8)))) else (if (0 : Int32) = 0 then (vp_in a1 8 ∧ (vp_in a2 8 ∧ (if ((C3.1 (e + 27) (Int32.toNatClampNeg a1)) : Int32) = (C3.1 (e + 27) (Int32.toNatClampNeg a2)) then (q 0 C3) else (vp_in a1 8 ∧ (vp_in a2 8 ∧ (vp_in a1 8 ∧ (vp_in a2 8 ∧ (q 1 (zp (zp C3 (e + 27) (Int32.toNatClampNeg a1) (C3.1 (e + 27) (Int32.toNatClampNeg a2))) (e + 27) (Int32.toNatClampNeg a2) (C3.1 (e + 27) (Int32.toNatClampNeg a1))))))))))) else (zCd X 0 160 [.ref e, .int (-5)] S C3 (zQi (fun r9 C9 => q r9 C9))))))))))))))) : zCd X 2 245 [.ref e, .int a1, .int a2] S C (zQi q) := by
  refine zc_in ml_245 rfl ?_
  refine zw_aload_n (n := 1) d245_0 rfl rfl ?_
  refine zw_iload_n (n := 2) d245_1 rfl rfl ?_
  refine zw_cI (n := 5) d245_2 (zs_V rfl rfl rfl rfl (by decide) (zj_5 hS).1 (zq_5 hS)) (by rw [ml_190]; rfl) (by decide) rfl (zc_mI h (fun r1 C1 h => ?_))
  refine zw_if_eq (n := 8) d245_5 rfl (zite h (fun h => ?_) (fun h => ?_))
  · skip
    refine zw_aload_n (n := 22) d245_21 rfl rfl ?_
    refine zw_bipush (n := 24) d245_22 rfl zk_b_m2 ?_
    refine zw_cI (n := 27) d245_24 (zs_V rfl rfl rfl rfl (by decide) (zj_5 hS).1 (zq_5 hS)) (by rw [ml_160]; rfl) (by decide) rfl (zc_mI h (fun r2 C2 h => ?_))
    exact zw_iret d245_27 rfl ⟨_, rfl, h⟩
  · skip
    refine zw_aload_n (n := 9) d245_8 rfl rfl ?_
    refine zw_iload_n (n := 10) d245_9 rfl rfl ?_
    refine zw_cI (n := 13) d245_10 (zs_V rfl rfl rfl rfl (by decide) (zj_5 hS).1 (zq_5 hS)) (by rw [ml_190]; rfl) (by decide) rfl (zc_mI h (fun r3 C3 h => ?_))
    refine zw_if_eq (n := 16) d245_13 rfl (zite h (fun h => ?_) (fun h => ?_))
    · skip
      refine zw_aload_n (n := 22) d245_21 rfl rfl ?_
      refine zw_bipush (n := 24) d245_22 rfl zk_b_m2 ?_
      refine zw_cI (n := 27) d245_24 (zs_V rfl rfl rfl rfl (by decide) (zj_5 hS).1 (zq_5 hS)) (by rw [ml_160]; rfl) (by decide) rfl (zc_mI h (fun r4 C4 h => ?_))
      exact zw_iret d245_27 rfl ⟨_, rfl, h⟩
    · skip
      refine zw_iload_n (n := 17) d245_16 rfl rfl ?_
      refine zw_iload_n (n := 18) d245_17 rfl rfl ?_
      refine zw_ic_ne (n := 21) d245_18 rfl (zite h (fun h => ?_) (fun h => ?_))
      · skip
        refine zw_aload_n (n := 22) d245_21 rfl rfl ?_
        refine zw_bipush (n := 24) d245_22 rfl zk_b_m2 ?_
        refine zw_cI (n := 27) d245_24 (zs_V rfl rfl rfl rfl (by decide) (zj_5 hS).1 (zq_5 hS)) (by rw [ml_160]; rfl) (by decide) rfl (zc_mI h (fun r5 C5 h => ?_))
        exact zw_iret d245_27 rfl ⟨_, rfl, h⟩
      · skip
        refine zw_aload_n (n := 29) d245_28 rfl rfl ?_
        refine zw_getr (n := 32) d245_29 rfl (zj_5 hS).1 (zj_5 hS).2 (zr_5_13 hS) ?_
        refine zw_iload_n (n := 33) d245_32 rfl rfl ?_
        obtain ⟨hi, h⟩ := h
        refine zw_iald (n := 34) d245_33 rfl (za_5_13 hS).1 (za_5_13 hS).2 hi ?_
        refine zw_iconst (n := 35) d245_34 rfl zk_i_m1 ?_
        refine zw_ic_ne (n := 38) d245_35 rfl (zite h (fun h => ?_) (fun h => ?_))
        · skip
          refine zw_iconst (n := 39) d245_38 rfl zk_i_1 ?_
          refine zw_goto d245_39 ?_
          refine zw_aload_n (n := 44) d245_43 rfl rfl ?_
          refine zw_getr (n := 47) d245_44 rfl (zj_5 hS).1 (zj_5 hS).2 (zr_5_13 hS) ?_
          refine zw_iload_n (n := 48) d245_47 rfl rfl ?_
          obtain ⟨hi, h⟩ := h
          refine zw_iald (n := 49) d245_48 rfl (za_5_13 hS).1 (za_5_13 hS).2 hi ?_
          refine zw_iconst (n := 50) d245_49 rfl zk_i_m1 ?_
          refine zw_ic_ne (n := 53) d245_50 rfl (zite h (fun h => ?_) (fun h => ?_))
          · skip
            refine zw_iconst (n := 54) d245_53 rfl zk_i_1 ?_
            refine zw_goto d245_54 ?_
            refine zw_ic_eq (n := 61) d245_58 rfl (zite h (fun h => ?_) (fun h => ?_))
            · skip
              refine zw_aload_n (n := 69) d245_68 rfl rfl ?_
              refine zw_getr (n := 72) d245_69 rfl (zj_5 hS).1 (zj_5 hS).2 (zr_5_13 hS) ?_
              refine zw_iload_n (n := 73) d245_72 rfl rfl ?_
              obtain ⟨hi, h⟩ := h
              refine zw_iald (n := 74) d245_73 rfl (za_5_13 hS).1 (za_5_13 hS).2 hi ?_
              refine zw_aload_n (n := 75) d245_74 rfl rfl ?_
              refine zw_getr (n := 78) d245_75 rfl (zj_5 hS).1 (zj_5 hS).2 (zr_5_13 hS) ?_
              refine zw_iload_n (n := 79) d245_78 rfl rfl ?_
              obtain ⟨hi, h⟩ := h
              refine zw_iald (n := 80) d245_79 rfl (za_5_13 hS).1 (za_5_13 hS).2 hi ?_
              refine zw_ic_ne (n := 83) d245_80 rfl (zite h (fun h => ?_) (fun h => ?_))
              · skip
                refine zw_iconst (n := 84) d245_83 rfl zk_i_0 ?_
                exact zw_iret d245_84 rfl ⟨_, rfl, h⟩
              · skip
                refine zw_aload_n (n := 86) d245_85 rfl rfl ?_
                refine zw_getr (n := 89) d245_86 rfl (zj_5 hS).1 (zj_5 hS).2 (zr_5_13 hS) ?_
                refine zw_iload_n (n := 90) d245_89 rfl rfl ?_
                obtain ⟨hi, h⟩ := h
                refine zw_iald (n := 91) d245_90 rfl (za_5_13 hS).1 (za_5_13 hS).2 hi ?_
                refine zw_istore_n (n := 92) d245_91 rfl rfl rfl ?_
                refine zw_aload_n (n := 93) d245_92 rfl rfl ?_
                refine zw_getr (n := 96) d245_93 rfl (zj_5 hS).1 (zj_5 hS).2 (zr_5_13 hS) ?_
                refine zw_iload_n (n := 97) d245_96 rfl rfl ?_
                refine zw_aload_n (n := 98) d245_97 rfl rfl ?_
                refine zw_getr (n := 101) d245_98 rfl (zj_5 hS).1 (zj_5 hS).2 (zr_5_13 hS) ?_
                refine zw_iload_n (n := 102) d245_101 rfl rfl ?_
                obtain ⟨hi, h⟩ := h
                refine zw_iald (n := 103) d245_102 rfl (za_5_13 hS).1 (za_5_13 hS).2 hi ?_
                obtain ⟨hi, h⟩ := h
                refine zw_iast (n := 104) d245_103 rfl (za_5_13 hS).1 (za_5_13 hS).2 hi ?_
                refine zw_aload_n (n := 105) d245_104 rfl rfl ?_
                refine zw_getr (n := 108) d245_105 rfl (zj_5 hS).1 (zj_5 hS).2 (zr_5_13 hS) ?_
                refine zw_iload_n (n := 109) d245_108 rfl rfl ?_
                refine zw_iload_n (n := 110) d245_109 rfl rfl ?_
                obtain ⟨hi, h⟩ := h
                refine zw_iast (n := 111) d245_110 rfl (za_5_13 hS).1 (za_5_13 hS).2 hi ?_
                refine zw_iconst (n := 112) d245_111 rfl zk_i_1 ?_
                exact zw_iret d245_112 rfl ⟨_, rfl, h⟩
            · skip
              refine zw_aload_n (n := 62) d245_61 rfl rfl ?_
              refine zw_bipush (n := 64) d245_62 rfl zk_b_m5 ?_
              refine zw_cI (n := 67) d245_64 (zs_V rfl rfl rfl rfl (by decide) (zj_5 hS).1 (zq_5 hS)) (by rw [ml_160]; rfl) (by decide) rfl (zc_mI h (fun r6 C6 h => ?_))
              exact zw_iret d245_67 rfl ⟨_, rfl, h⟩
          · skip
            refine zw_iconst (n := 58) d245_57 rfl zk_i_0 ?_
            refine zw_ic_eq (n := 61) d245_58 rfl (zite h (fun h => ?_) (fun h => ?_))
            · skip
              refine zw_aload_n (n := 69) d245_68 rfl rfl ?_
              refine zw_getr (n := 72) d245_69 rfl (zj_5 hS).1 (zj_5 hS).2 (zr_5_13 hS) ?_
              refine zw_iload_n (n := 73) d245_72 rfl rfl ?_
              obtain ⟨hi, h⟩ := h
              refine zw_iald (n := 74) d245_73 rfl (za_5_13 hS).1 (za_5_13 hS).2 hi ?_
              refine zw_aload_n (n := 75) d245_74 rfl rfl ?_
              refine zw_getr (n := 78) d245_75 rfl (zj_5 hS).1 (zj_5 hS).2 (zr_5_13 hS) ?_
              refine zw_iload_n (n := 79) d245_78 rfl rfl ?_
              obtain ⟨hi, h⟩ := h
              refine zw_iald (n := 80) d245_79 rfl (za_5_13 hS).1 (za_5_13 hS).2 hi ?_
              refine zw_ic_ne (n := 83) d245_80 rfl (zite h (fun h => ?_) (fun h => ?_))
              · skip
                refine zw_iconst (n := 84) d245_83 rfl zk_i_0 ?_
                exact zw_iret d245_84 rfl ⟨_, rfl, h⟩
              · skip
                refine zw_aload_n (n := 86) d245_85 rfl rfl ?_
                refine zw_getr (n := 89) d245_86 rfl (zj_5 hS).1 (zj_5 hS).2 (zr_5_13 hS) ?_
                refine zw_iload_n (n := 90) d245_89 rfl rfl ?_
                obtain ⟨hi, h⟩ := h
                refine zw_iald (n := 91) d245_90 rfl (za_5_13 hS).1 (za_5_13 hS).2 hi ?_
                refine zw_istore_n (n := 92) d245_91 rfl rfl rfl ?_
                refine zw_aload_n (n := 93) d245_92 rfl rfl ?_
                refine zw_getr (n := 96) d245_93 rfl (zj_5 hS).1 (zj_5 hS).2 (zr_5_13 hS) ?_
                refine zw_iload_n (n := 97) d245_96 rfl rfl ?_
                refine zw_aload_n (n := 98) d245_97 rfl rfl ?_
                refine zw_getr (n := 101) d245_98 rfl (zj_5 hS).1 (zj_5 hS).2 (zr_5_13 hS) ?_
                refine zw_iload_n (n := 102) d245_101 rfl rfl ?_
                obtain ⟨hi, h⟩ := h
                refine zw_iald (n := 103) d245_102 rfl (za_5_13 hS).1 (za_5_13 hS).2 hi ?_
                obtain ⟨hi, h⟩ := h
                refine zw_iast (n := 104) d245_103 rfl (za_5_13 hS).1 (za_5_13 hS).2 hi ?_
                refine zw_aload_n (n := 105) d245_104 rfl rfl ?_
                refine zw_getr (n := 108) d245_105 rfl (zj_5 hS).1 (zj_5 hS).2 (zr_5_13 hS) ?_
                refine zw_iload_n (n := 109) d245_108 rfl rfl ?_
                refine zw_iload_n (n := 110) d245_109 rfl rfl ?_
                obtain ⟨hi, h⟩ := h
                refine zw_iast (n := 111) d245_110 rfl (za_5_13 hS).1 (za_5_13 hS).2 hi ?_
                refine zw_iconst (n := 112) d245_111 rfl zk_i_1 ?_
                exact zw_iret d245_112 rfl ⟨_, rfl, h⟩
            · skip
              refine zw_aload_n (n := 62) d245_61 rfl rfl ?_
              refine zw_bipush (n := 64) d245_62 rfl zk_b_m5 ?_
              refine zw_cI (n := 67) d245_64 (zs_V rfl rfl rfl rfl (by decide) (zj_5 hS).1 (zq_5 hS)) (by rw [ml_160]; rfl) (by decide) rfl (zc_mI h (fun r7 C7 h => ?_))
              exact zw_iret d245_67 rfl ⟨_, rfl, h⟩
        · skip
          refine zw_iconst (n := 43) d245_42 rfl zk_i_0 ?_
          refine zw_aload_n (n := 44) d245_43 rfl rfl ?_
          refine zw_getr (n := 47) d245_44 rfl (zj_5 hS).1 (zj_5 hS).2 (zr_5_13 hS) ?_
          refine zw_iload_n (n := 48) d245_47 rfl rfl ?_
          obtain ⟨hi, h⟩ := h
          refine zw_iald (n := 49) d245_48 rfl (za_5_13 hS).1 (za_5_13 hS).2 hi ?_
          refine zw_iconst (n := 50) d245_49 rfl zk_i_m1 ?_
          refine zw_ic_ne (n := 53) d245_50 rfl (zite h (fun h => ?_) (fun h => ?_))
          · skip
            refine zw_iconst (n := 54) d245_53 rfl zk_i_1 ?_
            refine zw_goto d245_54 ?_
            refine zw_ic_eq (n := 61) d245_58 rfl (zite h (fun h => ?_) (fun h => ?_))
            · skip
              refine zw_aload_n (n := 69) d245_68 rfl rfl ?_
              refine zw_getr (n := 72) d245_69 rfl (zj_5 hS).1 (zj_5 hS).2 (zr_5_13 hS) ?_
              refine zw_iload_n (n := 73) d245_72 rfl rfl ?_
              obtain ⟨hi, h⟩ := h
              refine zw_iald (n := 74) d245_73 rfl (za_5_13 hS).1 (za_5_13 hS).2 hi ?_
              refine zw_aload_n (n := 75) d245_74 rfl rfl ?_
              refine zw_getr (n := 78) d245_75 rfl (zj_5 hS).1 (zj_5 hS).2 (zr_5_13 hS) ?_
              refine zw_iload_n (n := 79) d245_78 rfl rfl ?_
              obtain ⟨hi, h⟩ := h
              refine zw_iald (n := 80) d245_79 rfl (za_5_13 hS).1 (za_5_13 hS).2 hi ?_
              refine zw_ic_ne (n := 83) d245_80 rfl (zite h (fun h => ?_) (fun h => ?_))
              · skip
                refine zw_iconst (n := 84) d245_83 rfl zk_i_0 ?_
                exact zw_iret d245_84 rfl ⟨_, rfl, h⟩
              · skip
                refine zw_aload_n (n := 86) d245_85 rfl rfl ?_
                refine zw_getr (n := 89) d245_86 rfl (zj_5 hS).1 (zj_5 hS).2 (zr_5_13 hS) ?_
                refine zw_iload_n (n := 90) d245_89 rfl rfl ?_
                obtain ⟨hi, h⟩ := h
                refine zw_iald (n := 91) d245_90 rfl (za_5_13 hS).1 (za_5_13 hS).2 hi ?_
                refine zw_istore_n (n := 92) d245_91 rfl rfl rfl ?_
                refine zw_aload_n (n := 93) d245_92 rfl rfl ?_
                refine zw_getr (n := 96) d245_93 rfl (zj_5 hS).1 (zj_5 hS).2 (zr_5_13 hS) ?_
                refine zw_iload_n (n := 97) d245_96 rfl rfl ?_
                refine zw_aload_n (n := 98) d245_97 rfl rfl ?_
                refine zw_getr (n := 101) d245_98 rfl (zj_5 hS).1 (zj_5 hS).2 (zr_5_13 hS) ?_
                refine zw_iload_n (n := 102) d245_101 rfl rfl ?_
                obtain ⟨hi, h⟩ := h
                refine zw_iald (n := 103) d245_102 rfl (za_5_13 hS).1 (za_5_13 hS).2 hi ?_
                obtain ⟨hi, h⟩ := h
                refine zw_iast (n := 104) d245_103 rfl (za_5_13 hS).1 (za_5_13 hS).2 hi ?_
                refine zw_aload_n (n := 105) d245_104 rfl rfl ?_
                refine zw_getr (n := 108) d245_105 rfl (zj_5 hS).1 (zj_5 hS).2 (zr_5_13 hS) ?_
                refine zw_iload_n (n := 109) d245_108 rfl rfl ?_
                refine zw_iload_n (n := 110) d245_109 rfl rfl ?_
                obtain ⟨hi, h⟩ := h
                refine zw_iast (n := 111) d245_110 rfl (za_5_13 hS).1 (za_5_13 hS).2 hi ?_
                refine zw_iconst (n := 112) d245_111 rfl zk_i_1 ?_
                exact zw_iret d245_112 rfl ⟨_, rfl, h⟩
            · skip
              refine zw_aload_n (n := 62) d245_61 rfl rfl ?_
              refine zw_bipush (n := 64) d245_62 rfl zk_b_m5 ?_
              refine zw_cI (n := 67) d245_64 (zs_V rfl rfl rfl rfl (by decide) (zj_5 hS).1 (zq_5 hS)) (by rw [ml_160]; rfl) (by decide) rfl (zc_mI h (fun r8 C8 h => ?_))
              exact zw_iret d245_67 rfl ⟨_, rfl, h⟩
          · skip
            refine zw_iconst (n := 58) d245_57 rfl zk_i_0 ?_
            refine zw_ic_eq (n := 61) d245_58 rfl (zite h (fun h => ?_) (fun h => ?_))
            · skip
              refine zw_aload_n (n := 69) d245_68 rfl rfl ?_
              refine zw_getr (n := 72) d245_69 rfl (zj_5 hS).1 (zj_5 hS).2 (zr_5_13 hS) ?_
              refine zw_iload_n (n := 73) d245_72 rfl rfl ?_
              obtain ⟨hi, h⟩ := h
              refine zw_iald (n := 74) d245_73 rfl (za_5_13 hS).1 (za_5_13 hS).2 hi ?_
              refine zw_aload_n (n := 75) d245_74 rfl rfl ?_
              refine zw_getr (n := 78) d245_75 rfl (zj_5 hS).1 (zj_5 hS).2 (zr_5_13 hS) ?_
              refine zw_iload_n (n := 79) d245_78 rfl rfl ?_
              obtain ⟨hi, h⟩ := h
              refine zw_iald (n := 80) d245_79 rfl (za_5_13 hS).1 (za_5_13 hS).2 hi ?_
              refine zw_ic_ne (n := 83) d245_80 rfl (zite h (fun h => ?_) (fun h => ?_))
              · skip
                refine zw_iconst (n := 84) d245_83 rfl zk_i_0 ?_
                exact zw_iret d245_84 rfl ⟨_, rfl, h⟩
              · skip
                refine zw_aload_n (n := 86) d245_85 rfl rfl ?_
                refine zw_getr (n := 89) d245_86 rfl (zj_5 hS).1 (zj_5 hS).2 (zr_5_13 hS) ?_
                refine zw_iload_n (n := 90) d245_89 rfl rfl ?_
                obtain ⟨hi, h⟩ := h
                refine zw_iald (n := 91) d245_90 rfl (za_5_13 hS).1 (za_5_13 hS).2 hi ?_
                refine zw_istore_n (n := 92) d245_91 rfl rfl rfl ?_
                refine zw_aload_n (n := 93) d245_92 rfl rfl ?_
                refine zw_getr (n := 96) d245_93 rfl (zj_5 hS).1 (zj_5 hS).2 (zr_5_13 hS) ?_
                refine zw_iload_n (n := 97) d245_96 rfl rfl ?_
                refine zw_aload_n (n := 98) d245_97 rfl rfl ?_
                refine zw_getr (n := 101) d245_98 rfl (zj_5 hS).1 (zj_5 hS).2 (zr_5_13 hS) ?_
                refine zw_iload_n (n := 102) d245_101 rfl rfl ?_
                obtain ⟨hi, h⟩ := h
                refine zw_iald (n := 103) d245_102 rfl (za_5_13 hS).1 (za_5_13 hS).2 hi ?_
                obtain ⟨hi, h⟩ := h
                refine zw_iast (n := 104) d245_103 rfl (za_5_13 hS).1 (za_5_13 hS).2 hi ?_
                refine zw_aload_n (n := 105) d245_104 rfl rfl ?_
                refine zw_getr (n := 108) d245_105 rfl (zj_5 hS).1 (zj_5 hS).2 (zr_5_13 hS) ?_
                refine zw_iload_n (n := 109) d245_108 rfl rfl ?_
                refine zw_iload_n (n := 110) d245_109 rfl rfl ?_
                obtain ⟨hi, h⟩ := h
                refine zw_iast (n := 111) d245_110 rfl (za_5_13 hS).1 (za_5_13 hS).2 hi ?_
                refine zw_iconst (n := 112) d245_111 rfl zk_i_1 ?_
                exact zw_iret d245_112 rfl ⟨_, rfl, h⟩
            · skip
              refine zw_aload_n (n := 62) d245_61 rfl rfl ?_
              refine zw_bipush (n := 64) d245_62 rfl zk_b_m5 ?_
              refine zw_cI (n := 67) d245_64 (zs_V rfl rfl rfl rfl (by decide) (zj_5 hS).1 (zq_5 hS)) (by rw [ml_160]; rfl) (by decide) rfl (zc_mI h (fun r9 C9 h => ?_))
              exact zw_iret d245_67 rfl ⟨_, rfl, h⟩

set_option maxRecDepth 20000 in
theorem zf246 (pc : Nat) : zt_code 246 pc = zt_fd zl_246 pc := rfl
theorem d246_0 : zt_code 246 0 = some (.aload_n 0, 0, 0, 0) := (zf246 0).trans rfl
theorem d246_1 : zt_code 246 1 = some (.iload_n 1, 0, 0, 0) := (zf246 1).trans rfl
theorem d246_2 : zt_code 246 2 = some (.invokevirtual 159, 190, 2, 5) := (zf246 2).trans rfl
theorem d246_5 : zt_code 246 5 = some (.ifCond .ne (10), 0, 15, 0) := (zf246 5).trans rfl
theorem d246_8 : zt_code 246 8 = some (.aload_n 0, 0, 0, 0) := (zf246 8).trans rfl
theorem d246_9 : zt_code 246 9 = some (.bipush (-2), 0, 0, 0) := (zf246 9).trans rfl
theorem d246_11 : zt_code 246 11 = some (.invokevirtual 107, 160, 2, 5) := (zf246 11).trans rfl
theorem d246_14 : zt_code 246 14 = some (.ireturn, 0, 0, 0) := (zf246 14).trans rfl
theorem d246_15 : zt_code 246 15 = some (.aload_n 0, 0, 0, 0) := (zf246 15).trans rfl
theorem d246_16 : zt_code 246 16 = some (.getfield 49, 5, 13, 1) := (zf246 16).trans rfl
theorem d246_19 : zt_code 246 19 = some (.iload_n 1, 0, 0, 0) := (zf246 19).trans rfl
theorem d246_20 : zt_code 246 20 = some (.iaload, 0, 0, 0) := (zf246 20).trans rfl
theorem d246_21 : zt_code 246 21 = some (.iconst (-1), 0, 0, 0) := (zf246 21).trans rfl
theorem d246_22 : zt_code 246 22 = some (.if_icmp .ne (13), 0, 35, 0) := (zf246 22).trans rfl
theorem d246_25 : zt_code 246 25 = some (.aload_n 0, 0, 0, 0) := (zf246 25).trans rfl
theorem d246_26 : zt_code 246 26 = some (.getfield 139, 5, 18, 0) := (zf246 26).trans rfl
theorem d246_29 : zt_code 246 29 = some (.ldc_w 356, 0, 0, 1000000000) := (zf246 29).trans rfl
theorem d246_32 : zt_code 246 32 = some (.if_icmp .ne (10), 0, 42, 0) := (zf246 32).trans rfl
theorem d246_35 : zt_code 246 35 = some (.aload_n 0, 0, 0, 0) := (zf246 35).trans rfl
theorem d246_36 : zt_code 246 36 = some (.bipush (-5), 0, 0, 0) := (zf246 36).trans rfl
theorem d246_38 : zt_code 246 38 = some (.invokevirtual 107, 160, 2, 5) := (zf246 38).trans rfl
theorem d246_41 : zt_code 246 41 = some (.ireturn, 0, 0, 0) := (zf246 41).trans rfl
theorem d246_42 : zt_code 246 42 = some (.aload_n 0, 0, 0, 0) := (zf246 42).trans rfl
theorem d246_43 : zt_code 246 43 = some (.getfield 49, 5, 13, 1) := (zf246 43).trans rfl
theorem d246_46 : zt_code 246 46 = some (.iload_n 1, 0, 0, 0) := (zf246 46).trans rfl
theorem d246_47 : zt_code 246 47 = some (.aload_n 0, 0, 0, 0) := (zf246 47).trans rfl
theorem d246_48 : zt_code 246 48 = some (.aload_n 0, 0, 0, 0) := (zf246 48).trans rfl
theorem d246_49 : zt_code 246 49 = some (.getfield 128, 5, 14, 0) := (zf246 49).trans rfl
theorem d246_52 : zt_code 246 52 = some (.aload_n 0, 0, 0, 0) := (zf246 52).trans rfl
theorem d246_53 : zt_code 246 53 = some (.getfield 139, 5, 18, 0) := (zf246 53).trans rfl
theorem d246_56 : zt_code 246 56 = some (.invokevirtual 262, 178, 3, 5) := (zf246 56).trans rfl
theorem d246_59 : zt_code 246 59 = some (.iastore, 0, 0, 0) := (zf246 59).trans rfl
theorem d246_60 : zt_code 246 60 = some (.aload_n 0, 0, 0, 0) := (zf246 60).trans rfl
theorem d246_61 : zt_code 246 61 = some (.dup, 0, 0, 0) := (zf246 61).trans rfl
theorem d246_62 : zt_code 246 62 = some (.getfield 139, 5, 18, 0) := (zf246 62).trans rfl
theorem d246_65 : zt_code 246 65 = some (.iconst (1), 0, 0, 0) := (zf246 65).trans rfl
theorem d246_66 : zt_code 246 66 = some (.iadd, 0, 0, 0) := (zf246 66).trans rfl
theorem d246_67 : zt_code 246 67 = some (.putfield 139, 5, 18, 0) := (zf246 67).trans rfl
theorem d246_70 : zt_code 246 70 = some (.aload_n 0, 0, 0, 0) := (zf246 70).trans rfl
theorem d246_71 : zt_code 246 71 = some (.getfield 49, 5, 13, 1) := (zf246 71).trans rfl
theorem d246_74 : zt_code 246 74 = some (.iload_n 1, 0, 0, 0) := (zf246 74).trans rfl
theorem d246_75 : zt_code 246 75 = some (.iaload, 0, 0, 0) := (zf246 75).trans rfl
theorem d246_76 : zt_code 246 76 = some (.ireturn, 0, 0, 0) := (zf246 76).trans rfl
/-- FirstAtTheFirstModel.pick(I)I -/
theorem vc246 {X : zX} {S : zx_S} {C : zx_C} {q : Int32 → zx_C → Prop} {e : Nat} {a1 : Int32} (hS : zs_5 S e) (h : zCd X 1 190 [.ref e, .int a1] S C (zQi (fun r1 C1 => if (r1 : Int32) = 0 then (zCd X 0 160 [.ref e, .int (-2)] S C1 (zQi (fun r2 C2 => q r2 C2))) else (vp_in a1 8 ∧ (if ((C1.1 (e + 27) (Int32.toNatClampNeg a1)) : Int32) = (-1) then (if ((C1.1 e 18) : Int32) = 1000000000 then (zCd X 0 160 [.ref e, .int (-5)] S C1 (zQi (fun r3 C3 => q r3 C3))) else (zCd X 0 178 [.ref e, .int (C1.1 e 14), .int (C1.1 e 18)] S C1 (zQi (fun r4 C4 => vp_in a1 8 ∧ (vp_in a1 8 ∧ (q ((Prod.fst (zp (zp C4 (e + 27) (Int32.toNatClampNeg a1) r4) e 18 ((Prod.fst (zp C4 (e + 27) (Int32.toNatClampNeg a1) r4) e 18) + 1))) (e + 27) (Int32.toNatClampNeg a1)) (zp (zp C4 (e + 27) (Int32.toNatClampNeg a1) r4) e 18 ((Prod.fst (zp C4 (e + 27) (Int32.toNatClampNeg a1) r4) e 18) + 1)))))))) else (zCd X 0 160 [.ref e, .int (-5)] S C1 (zQi (fun r5 C5 => q r5 C5)))))))) : zCd X 2 246 [.ref e, .int a1] S C (zQi q) := by
  refine zc_in ml_246 rfl ?_
  refine zw_aload_n (n := 1) d246_0 rfl rfl ?_
  refine zw_iload_n (n := 2) d246_1 rfl rfl ?_
  refine zw_cI (n := 5) d246_2 (zs_V rfl rfl rfl rfl (by decide) (zj_5 hS).1 (zq_5 hS)) (by rw [ml_190]; rfl) (by decide) rfl (zc_mI h (fun r1 C1 h => ?_))
  refine zw_if_ne (n := 8) d246_5 rfl (zite h (fun h => ?_) (fun h => ?_))
  · skip
    refine zw_aload_n (n := 9) d246_8 rfl rfl ?_
    refine zw_bipush (n := 11) d246_9 rfl zk_b_m2 ?_
    refine zw_cI (n := 14) d246_11 (zs_V rfl rfl rfl rfl (by decide) (zj_5 hS).1 (zq_5 hS)) (by rw [ml_160]; rfl) (by decide) rfl (zc_mI h (fun r2 C2 h => ?_))
    exact zw_iret d246_14 rfl ⟨_, rfl, h⟩
  · skip
    refine zw_aload_n (n := 16) d246_15 rfl rfl ?_
    refine zw_getr (n := 19) d246_16 rfl (zj_5 hS).1 (zj_5 hS).2 (zr_5_13 hS) ?_
    refine zw_iload_n (n := 20) d246_19 rfl rfl ?_
    obtain ⟨hi, h⟩ := h
    refine zw_iald (n := 21) d246_20 rfl (za_5_13 hS).1 (za_5_13 hS).2 hi ?_
    refine zw_iconst (n := 22) d246_21 rfl zk_i_m1 ?_
    refine zw_ic_ne (n := 25) d246_22 rfl (zite h (fun h => ?_) (fun h => ?_))
    · skip
      refine zw_aload_n (n := 26) d246_25 rfl rfl ?_
      refine zw_geti (n := 29) d246_26 rfl (zj_5 hS).1 (zj_5 hS).2 ?_
      refine zw_ldcw (n := 32) d246_29 rfl zk_i_1000000000 ?_
      refine zw_ic_ne (n := 35) d246_32 rfl (zite h (fun h => ?_) (fun h => ?_))
      · skip
        refine zw_aload_n (n := 36) d246_35 rfl rfl ?_
        refine zw_bipush (n := 38) d246_36 rfl zk_b_m5 ?_
        refine zw_cI (n := 41) d246_38 (zs_V rfl rfl rfl rfl (by decide) (zj_5 hS).1 (zq_5 hS)) (by rw [ml_160]; rfl) (by decide) rfl (zc_mI h (fun r3 C3 h => ?_))
        exact zw_iret d246_41 rfl ⟨_, rfl, h⟩
      · skip
        refine zw_aload_n (n := 43) d246_42 rfl rfl ?_
        refine zw_getr (n := 46) d246_43 rfl (zj_5 hS).1 (zj_5 hS).2 (zr_5_13 hS) ?_
        refine zw_iload_n (n := 47) d246_46 rfl rfl ?_
        refine zw_aload_n (n := 48) d246_47 rfl rfl ?_
        refine zw_aload_n (n := 49) d246_48 rfl rfl ?_
        refine zw_geti (n := 52) d246_49 rfl (zj_5 hS).1 (zj_5 hS).2 ?_
        refine zw_aload_n (n := 53) d246_52 rfl rfl ?_
        refine zw_geti (n := 56) d246_53 rfl (zj_5 hS).1 (zj_5 hS).2 ?_
        refine zw_cI (n := 59) d246_56 (zs_V rfl rfl rfl rfl (by decide) (zj_5 hS).1 (zq_5 hS)) (by rw [ml_178]; rfl) (by decide) rfl (zc_mI h (fun r4 C4 h => ?_))
        obtain ⟨hi, h⟩ := h
        refine zw_iast (n := 60) d246_59 rfl (za_5_13 hS).1 (za_5_13 hS).2 hi ?_
        refine zw_aload_n (n := 61) d246_60 rfl rfl ?_
        refine zw_dup (n := 62) d246_61 rfl rfl ?_
        refine zw_geti (n := 65) d246_62 rfl (zj_5 hS).1 (zj_5 hS).2 ?_
        refine zw_iconst (n := 66) d246_65 rfl zk_i_1 ?_
        refine zw_iadd (n := 67) d246_66 rfl ?_
        refine zw_puti (n := 70) d246_67 rfl (zj_5 hS).1 (zj_5 hS).2 ?_
        refine zw_aload_n (n := 71) d246_70 rfl rfl ?_
        refine zw_getr (n := 74) d246_71 rfl (zj_5 hS).1 (zj_5 hS).2 (zr_5_13 hS) ?_
        refine zw_iload_n (n := 75) d246_74 rfl rfl ?_
        obtain ⟨hi, h⟩ := h
        refine zw_iald (n := 76) d246_75 rfl (za_5_13 hS).1 (za_5_13 hS).2 hi ?_
        exact zw_iret d246_76 rfl ⟨_, rfl, h⟩
    · skip
      refine zw_aload_n (n := 36) d246_35 rfl rfl ?_
      refine zw_bipush (n := 38) d246_36 rfl zk_b_m5 ?_
      refine zw_cI (n := 41) d246_38 (zs_V rfl rfl rfl rfl (by decide) (zj_5 hS).1 (zq_5 hS)) (by rw [ml_160]; rfl) (by decide) rfl (zc_mI h (fun r5 C5 h => ?_))
      exact zw_iret d246_41 rfl ⟨_, rfl, h⟩

set_option maxRecDepth 20000 in
theorem zf247 (pc : Nat) : zt_code 247 pc = zt_fd zl_247 pc := rfl
theorem d247_0 : zt_code 247 0 = some (.iload_n 1, 0, 0, 0) := (zf247 0).trans rfl
theorem d247_1 : zt_code 247 1 = some (.i2l, 0, 0, 0) := (zf247 1).trans rfl
theorem d247_2 : zt_code 247 2 = some (.lconst 1, 0, 0, 0) := (zf247 2).trans rfl
theorem d247_3 : zt_code 247 3 = some (.ldc2_w 338, 0, 0, 8) := (zf247 3).trans rfl
theorem d247_6 : zt_code 247 6 = some (.invokestatic 94, 159, 3, -1) := (zf247 6).trans rfl
theorem d247_9 : zt_code 247 9 = some (.ifCond .ne (10), 0, 19, 0) := (zf247 9).trans rfl
theorem d247_12 : zt_code 247 12 = some (.aload_n 0, 0, 0, 0) := (zf247 12).trans rfl
theorem d247_13 : zt_code 247 13 = some (.bipush (-2), 0, 0, 0) := (zf247 13).trans rfl
theorem d247_15 : zt_code 247 15 = some (.invokevirtual 107, 160, 2, 5) := (zf247 15).trans rfl
theorem d247_18 : zt_code 247 18 = some (.ireturn, 0, 0, 0) := (zf247 18).trans rfl
theorem d247_19 : zt_code 247 19 = some (.aload_n 0, 0, 0, 0) := (zf247 19).trans rfl
theorem d247_20 : zt_code 247 20 = some (.getfield 139, 5, 18, 0) := (zf247 20).trans rfl
theorem d247_23 : zt_code 247 23 = some (.iload_n 1, 0, 0, 0) := (zf247 23).trans rfl
theorem d247_24 : zt_code 247 24 = some (.iadd, 0, 0, 0) := (zf247 24).trans rfl
theorem d247_25 : zt_code 247 25 = some (.ldc_w 356, 0, 0, 1000000000) := (zf247 25).trans rfl
theorem d247_28 : zt_code 247 28 = some (.if_icmp .le (10), 0, 38, 0) := (zf247 28).trans rfl
theorem d247_31 : zt_code 247 31 = some (.aload_n 0, 0, 0, 0) := (zf247 31).trans rfl
theorem d247_32 : zt_code 247 32 = some (.bipush (-5), 0, 0, 0) := (zf247 32).trans rfl
theorem d247_34 : zt_code 247 34 = some (.invokevirtual 107, 160, 2, 5) := (zf247 34).trans rfl
theorem d247_37 : zt_code 247 37 = some (.ireturn, 0, 0, 0) := (zf247 37).trans rfl
theorem d247_38 : zt_code 247 38 = some (.iconst (0), 0, 0, 0) := (zf247 38).trans rfl
theorem d247_39 : zt_code 247 39 = some (.istore_n 2, 0, 0, 0) := (zf247 39).trans rfl
theorem d247_40 : zt_code 247 40 = some (.iload_n 2, 0, 0, 0) := (zf247 40).trans rfl
theorem d247_41 : zt_code 247 41 = some (.iload_n 1, 0, 0, 0) := (zf247 41).trans rfl
theorem d247_42 : zt_code 247 42 = some (.if_icmp .ge (73), 0, 115, 0) := (zf247 42).trans rfl
theorem d247_45 : zt_code 247 45 = some (.aload_n 0, 0, 0, 0) := (zf247 45).trans rfl
theorem d247_46 : zt_code 247 46 = some (.invokevirtual 135, 172, 1, 5) := (zf247 46).trans rfl
theorem d247_49 : zt_code 247 49 = some (.ifCond .eq (66), 0, 115, 0) := (zf247 49).trans rfl
theorem d247_52 : zt_code 247 52 = some (.aload_n 0, 0, 0, 0) := (zf247 52).trans rfl
theorem d247_53 : zt_code 247 53 = some (.aload_n 0, 0, 0, 0) := (zf247 53).trans rfl
theorem d247_54 : zt_code 247 54 = some (.getfield 128, 5, 14, 0) := (zf247 54).trans rfl
theorem d247_57 : zt_code 247 57 = some (.invokevirtual 131, 171, 2, 5) := (zf247 57).trans rfl
theorem d247_60 : zt_code 247 60 = some (.aload_n 0, 0, 0, 0) := (zf247 60).trans rfl
theorem d247_61 : zt_code 247 61 = some (.aload_n 0, 0, 0, 0) := (zf247 61).trans rfl
theorem d247_62 : zt_code 247 62 = some (.getfield 128, 5, 14, 0) := (zf247 62).trans rfl
theorem d247_65 : zt_code 247 65 = some (.aload_n 0, 0, 0, 0) := (zf247 65).trans rfl
theorem d247_66 : zt_code 247 66 = some (.getfield 139, 5, 18, 0) := (zf247 66).trans rfl
theorem d247_69 : zt_code 247 69 = some (.invokevirtual 262, 178, 3, 5) := (zf247 69).trans rfl
theorem d247_72 : zt_code 247 72 = some (.istore_n 3, 0, 0, 0) := (zf247 72).trans rfl
theorem d247_73 : zt_code 247 73 = some (.aload_n 0, 0, 0, 0) := (zf247 73).trans rfl
theorem d247_74 : zt_code 247 74 = some (.getfield 49, 5, 13, 1) := (zf247 74).trans rfl
theorem d247_77 : zt_code 247 77 = some (.aload_n 0, 0, 0, 0) := (zf247 77).trans rfl
theorem d247_78 : zt_code 247 78 = some (.iload_n 3, 0, 0, 0) := (zf247 78).trans rfl
theorem d247_79 : zt_code 247 79 = some (.iload_n 3, 0, 0, 0) := (zf247 79).trans rfl
theorem d247_80 : zt_code 247 80 = some (.aload_n 0, 0, 0, 0) := (zf247 80).trans rfl
theorem d247_81 : zt_code 247 81 = some (.getfield 58, 5, 17, 1) := (zf247 81).trans rfl
theorem d247_84 : zt_code 247 84 = some (.iload_n 3, 0, 0, 0) := (zf247 84).trans rfl
theorem d247_85 : zt_code 247 85 = some (.iaload, 0, 0, 0) := (zf247 85).trans rfl
theorem d247_86 : zt_code 247 86 = some (.aload_n 0, 0, 0, 0) := (zf247 86).trans rfl
theorem d247_87 : zt_code 247 87 = some (.invokevirtual 135, 172, 1, 5) := (zf247 87).trans rfl
theorem d247_90 : zt_code 247 90 = some (.aload_n 0, 0, 0, 0) := (zf247 90).trans rfl
theorem d247_91 : zt_code 247 91 = some (.getfield 139, 5, 18, 0) := (zf247 91).trans rfl
theorem d247_94 : zt_code 247 94 = some (.invokevirtual 142, 173, 6, 5) := (zf247 94).trans rfl
theorem d247_97 : zt_code 247 97 = some (.iload_n 3, 0, 0, 0) := (zf247 97).trans rfl
theorem d247_98 : zt_code 247 98 = some (.iastore, 0, 0, 0) := (zf247 98).trans rfl
theorem d247_99 : zt_code 247 99 = some (.aload_n 0, 0, 0, 0) := (zf247 99).trans rfl
theorem d247_100 : zt_code 247 100 = some (.dup, 0, 0, 0) := (zf247 100).trans rfl
theorem d247_101 : zt_code 247 101 = some (.getfield 139, 5, 18, 0) := (zf247 101).trans rfl
theorem d247_104 : zt_code 247 104 = some (.iconst (1), 0, 0, 0) := (zf247 104).trans rfl
theorem d247_105 : zt_code 247 105 = some (.iadd, 0, 0, 0) := (zf247 105).trans rfl
theorem d247_106 : zt_code 247 106 = some (.putfield 139, 5, 18, 0) := (zf247 106).trans rfl
theorem d247_109 : zt_code 247 109 = some (.iinc 2 (1), 0, 0, 0) := (zf247 109).trans rfl
theorem d247_112 : zt_code 247 112 = some (.goto (-72), 0, 40, 0) := (zf247 112).trans rfl
theorem d247_115 : zt_code 247 115 = some (.iload_n 2, 0, 0, 0) := (zf247 115).trans rfl
theorem d247_116 : zt_code 247 116 = some (.ireturn, 0, 0, 0) := (zf247 116).trans rfl
/-- FirstAtTheFirstModel.goes(I)I -/
theorem vc247 {X : zX} {S : zx_S} {C : zx_C} {q : Int32 → zx_C → Prop} {e : Nat} {a1 : Int32} (hS : zs_5 S e) (h : zCd X 0 159 [.long (Int32.toInt64 a1), .long 1, .long 8] S C (zQi (fun r1 C1 => if (r1 : Int32) = 0 then (zCd X 0 160 [.ref e, .int (-2)] S C1 (zQi (fun r2 C2 => q r2 C2))) else (if (1000000000 : Int32) < ((C1.1 e 18) + a1) then (zCd X 0 160 [.ref e, .int (-5)] S C1 (zQi (fun r3 C3 => q r3 C3))) else (zW X 33 247 40 [.ref e, .int a1, .int 0, .retAddr 0] [] S C1 (zQi q)))))) : zCd X 33 247 [.ref e, .int a1] S C (zQi q) := by
  refine zc_in ml_247 rfl ?_
  refine zw_iload_n (n := 1) d247_0 rfl rfl ?_
  refine zw_i2l (n := 2) d247_1 rfl ?_
  refine zw_lconst (n := 3) d247_2 rfl zk_c_1 ?_
  refine zw_ldc2 (n := 6) d247_3 rfl zk_l_8 ?_
  refine zw_cI (n := 9) d247_6 (zs_S rfl rfl rfl rfl) (by rw [ml_159]; rfl) (by decide) rfl (zc_mI h (fun r1 C1 h => ?_))
  refine zw_if_ne (n := 12) d247_9 rfl (zite h (fun h => ?_) (fun h => ?_))
  · skip
    refine zw_aload_n (n := 13) d247_12 rfl rfl ?_
    refine zw_bipush (n := 15) d247_13 rfl zk_b_m2 ?_
    refine zw_cI (n := 18) d247_15 (zs_V rfl rfl rfl rfl (by decide) (zj_5 hS).1 (zq_5 hS)) (by rw [ml_160]; rfl) (by decide) rfl (zc_mI h (fun r2 C2 h => ?_))
    exact zw_iret d247_18 rfl ⟨_, rfl, h⟩
  · skip
    refine zw_aload_n (n := 20) d247_19 rfl rfl ?_
    refine zw_geti (n := 23) d247_20 rfl (zj_5 hS).1 (zj_5 hS).2 ?_
    refine zw_iload_n (n := 24) d247_23 rfl rfl ?_
    refine zw_iadd (n := 25) d247_24 rfl ?_
    refine zw_ldcw (n := 28) d247_25 rfl zk_i_1000000000 ?_
    refine zw_ic_le (n := 31) d247_28 rfl (zite h (fun h => ?_) (fun h => ?_))
    · skip
      refine zw_aload_n (n := 32) d247_31 rfl rfl ?_
      refine zw_bipush (n := 34) d247_32 rfl zk_b_m5 ?_
      refine zw_cI (n := 37) d247_34 (zs_V rfl rfl rfl rfl (by decide) (zj_5 hS).1 (zq_5 hS)) (by rw [ml_160]; rfl) (by decide) rfl (zc_mI h (fun r3 C3 h => ?_))
      exact zw_iret d247_37 rfl ⟨_, rfl, h⟩
    · skip
      refine zw_iconst (n := 39) d247_38 rfl zk_i_0 ?_
      refine zw_istore_n (n := 40) d247_39 rfl rfl rfl ?_
      exact h
theorem vc247_40 {X : zX} {S : zx_S} {C : zx_C} {q : Int32 → zx_C → Prop} {e : Nat} {a1 : Int32} {i1 : Int32} {i2 : Int32} {z3 : Value} (hS : zs_5 S e) (h : if (i2 : Int32) < i1 then (zCd X 0 172 [.ref e] S C (zQi (fun r1 C1 => if (r1 : Int32) = 0 then (q i2 C1) else (zCd X 0 171 [.ref e, .int (C1.1 e 14)] S C1 (zQv (fun C2 => zCd X 0 178 [.ref e, .int (C2.1 e 14), .int (C2.1 e 18)] S C2 (zQi (fun r3 C3 => vp_in r3 3 ∧ (zCd X 0 172 [.ref e] S C3 (zQi (fun r4 C4 => zCd X 32 173 [.ref e, .int r3, .int r3, .int (C3.1 (e + 29) (Int32.toNatClampNeg r3)), .int r4, .int (C4.1 e 18)] S C4 (zQi (fun r5 C5 => vp_in r5 8 ∧ (zW X 33 247 40 [.ref e, .int i1, .int (i2 + 1), .int r3] [] S (zp (zp C5 (e + 27) (Int32.toNatClampNeg r5) r3) e 18 ((Prod.fst (zp C5 (e + 27) (Int32.toNatClampNeg r5) r3) e 18) + 1)) (zQi q))))))))))))))) else (q i2 C)) : zW X 33 247 40 [.ref e, .int i1, .int i2, z3] [] S C (zQi q) := by
  refine zw_iload_n (n := 41) d247_40 rfl rfl ?_
  refine zw_iload_n (n := 42) d247_41 rfl rfl ?_
  refine zw_ic_ge (n := 45) d247_42 rfl (zite h (fun h => ?_) (fun h => ?_))
  · skip
    refine zw_aload_n (n := 46) d247_45 rfl rfl ?_
    refine zw_cI (n := 49) d247_46 (zs_V rfl rfl rfl rfl (by decide) (zj_5 hS).1 (zq_5 hS)) (by rw [ml_172]; rfl) (by decide) rfl (zc_mI h (fun r1 C1 h => ?_))
    refine zw_if_eq (n := 52) d247_49 rfl (zite h (fun h => ?_) (fun h => ?_))
    · skip
      refine zw_iload_n (n := 116) d247_115 rfl rfl ?_
      exact zw_iret d247_116 rfl ⟨_, rfl, h⟩
    · skip
      refine zw_aload_n (n := 53) d247_52 rfl rfl ?_
      refine zw_aload_n (n := 54) d247_53 rfl rfl ?_
      refine zw_geti (n := 57) d247_54 rfl (zj_5 hS).1 (zj_5 hS).2 ?_
      refine zw_cV (n := 60) d247_57 (zs_V rfl rfl rfl rfl (by decide) (zj_5 hS).1 (zq_5 hS)) (by rw [ml_171]; rfl) (by decide) rfl (zc_mV h (fun C2 h => ?_))
      refine zw_aload_n (n := 61) d247_60 rfl rfl ?_
      refine zw_aload_n (n := 62) d247_61 rfl rfl ?_
      refine zw_geti (n := 65) d247_62 rfl (zj_5 hS).1 (zj_5 hS).2 ?_
      refine zw_aload_n (n := 66) d247_65 rfl rfl ?_
      refine zw_geti (n := 69) d247_66 rfl (zj_5 hS).1 (zj_5 hS).2 ?_
      refine zw_cI (n := 72) d247_69 (zs_V rfl rfl rfl rfl (by decide) (zj_5 hS).1 (zq_5 hS)) (by rw [ml_178]; rfl) (by decide) rfl (zc_mI h (fun r3 C3 h => ?_))
      refine zw_istore_n (n := 73) d247_72 rfl rfl rfl ?_
      refine zw_aload_n (n := 74) d247_73 rfl rfl ?_
      refine zw_getr (n := 77) d247_74 rfl (zj_5 hS).1 (zj_5 hS).2 (zr_5_13 hS) ?_
      refine zw_aload_n (n := 78) d247_77 rfl rfl ?_
      refine zw_iload_n (n := 79) d247_78 rfl rfl ?_
      refine zw_iload_n (n := 80) d247_79 rfl rfl ?_
      refine zw_aload_n (n := 81) d247_80 rfl rfl ?_
      refine zw_getr (n := 84) d247_81 rfl (zj_5 hS).1 (zj_5 hS).2 (zr_5_17 hS) ?_
      refine zw_iload_n (n := 85) d247_84 rfl rfl ?_
      obtain ⟨hi, h⟩ := h
      refine zw_iald (n := 86) d247_85 rfl (za_5_17 hS).1 (za_5_17 hS).2 hi ?_
      refine zw_aload_n (n := 87) d247_86 rfl rfl ?_
      refine zw_cI (n := 90) d247_87 (zs_V rfl rfl rfl rfl (by decide) (zj_5 hS).1 (zq_5 hS)) (by rw [ml_172]; rfl) (by decide) rfl (zc_mI h (fun r4 C4 h => ?_))
      refine zw_aload_n (n := 91) d247_90 rfl rfl ?_
      refine zw_geti (n := 94) d247_91 rfl (zj_5 hS).1 (zj_5 hS).2 ?_
      refine zw_cI (n := 97) d247_94 (zs_V rfl rfl rfl rfl (by decide) (zj_5 hS).1 (zq_5 hS)) (by rw [ml_173]; rfl) (by decide) rfl (zc_mI h (fun r5 C5 h => ?_))
      refine zw_iload_n (n := 98) d247_97 rfl rfl ?_
      obtain ⟨hi, h⟩ := h
      refine zw_iast (n := 99) d247_98 rfl (za_5_13 hS).1 (za_5_13 hS).2 hi ?_
      refine zw_aload_n (n := 100) d247_99 rfl rfl ?_
      refine zw_dup (n := 101) d247_100 rfl rfl ?_
      refine zw_geti (n := 104) d247_101 rfl (zj_5 hS).1 (zj_5 hS).2 ?_
      refine zw_iconst (n := 105) d247_104 rfl zk_i_1 ?_
      refine zw_iadd (n := 106) d247_105 rfl ?_
      refine zw_puti (n := 109) d247_106 rfl (zj_5 hS).1 (zj_5 hS).2 ?_
      refine zw_iinc (n := 112) d247_109 rfl rfl zk_i_1 rfl ?_
      refine zw_goto d247_112 ?_
      exact h
  · skip
    refine zw_iload_n (n := 116) d247_115 rfl rfl ?_
    exact zw_iret d247_116 rfl ⟨_, rfl, h⟩

set_option maxRecDepth 20000 in
theorem zf248 (pc : Nat) : zt_code 248 pc = zt_fd zl_248 pc := rfl
theorem d248_0 : zt_code 248 0 = some (.aload_n 0, 0, 0, 0) := (zf248 0).trans rfl
theorem d248_1 : zt_code 248 1 = some (.iload_n 1, 0, 0, 0) := (zf248 1).trans rfl
theorem d248_2 : zt_code 248 2 = some (.iload_n 2, 0, 0, 0) := (zf248 2).trans rfl
theorem d248_3 : zt_code 248 3 = some (.iconst (0), 0, 0, 0) := (zf248 3).trans rfl
theorem d248_4 : zt_code 248 4 = some (.invokevirtual 342, 238, 4, 5) := (zf248 4).trans rfl
theorem d248_7 : zt_code 248 7 = some (.istore_n 3, 0, 0, 0) := (zf248 7).trans rfl
theorem d248_8 : zt_code 248 8 = some (.iload_n 3, 0, 0, 0) := (zf248 8).trans rfl
theorem d248_9 : zt_code 248 9 = some (.ifCond .eq (9), 0, 18, 0) := (zf248 9).trans rfl
theorem d248_12 : zt_code 248 12 = some (.aload_n 0, 0, 0, 0) := (zf248 12).trans rfl
theorem d248_13 : zt_code 248 13 = some (.iload_n 3, 0, 0, 0) := (zf248 13).trans rfl
theorem d248_14 : zt_code 248 14 = some (.invokevirtual 107, 160, 2, 5) := (zf248 14).trans rfl
theorem d248_17 : zt_code 248 17 = some (.ireturn, 0, 0, 0) := (zf248 17).trans rfl
theorem d248_18 : zt_code 248 18 = some (.aload_n 0, 0, 0, 0) := (zf248 18).trans rfl
theorem d248_19 : zt_code 248 19 = some (.aload_n 0, 0, 0, 0) := (zf248 19).trans rfl
theorem d248_20 : zt_code 248 20 = some (.getfield 21, 5, 3, 1) := (zf248 20).trans rfl
theorem d248_23 : zt_code 248 23 = some (.iload_n 1, 0, 0, 0) := (zf248 23).trans rfl
theorem d248_24 : zt_code 248 24 = some (.aaload, 0, 0, 0) := (zf248 24).trans rfl
theorem d248_25 : zt_code 248 25 = some (.iload_n 2, 0, 0, 0) := (zf248 25).trans rfl
theorem d248_26 : zt_code 248 26 = some (.iconst (-1), 0, 0, 0) := (zf248 26).trans rfl
theorem d248_27 : zt_code 248 27 = some (.invokevirtual 345, 239, 4, 5) := (zf248 27).trans rfl
theorem d248_30 : zt_code 248 30 = some (.iconst (-1), 0, 0, 0) := (zf248 30).trans rfl
theorem d248_31 : zt_code 248 31 = some (.if_icmp .ne (15), 0, 46, 0) := (zf248 31).trans rfl
theorem d248_34 : zt_code 248 34 = some (.aload_n 0, 0, 0, 0) := (zf248 34).trans rfl
theorem d248_35 : zt_code 248 35 = some (.getfield 139, 5, 18, 0) := (zf248 35).trans rfl
theorem d248_38 : zt_code 248 38 = some (.iload_n 2, 0, 0, 0) := (zf248 38).trans rfl
theorem d248_39 : zt_code 248 39 = some (.iadd, 0, 0, 0) := (zf248 39).trans rfl
theorem d248_40 : zt_code 248 40 = some (.ldc_w 356, 0, 0, 1000000000) := (zf248 40).trans rfl
theorem d248_43 : zt_code 248 43 = some (.if_icmp .le (10), 0, 53, 0) := (zf248 43).trans rfl
theorem d248_46 : zt_code 248 46 = some (.aload_n 0, 0, 0, 0) := (zf248 46).trans rfl
theorem d248_47 : zt_code 248 47 = some (.bipush (-5), 0, 0, 0) := (zf248 47).trans rfl
theorem d248_49 : zt_code 248 49 = some (.invokevirtual 107, 160, 2, 5) := (zf248 49).trans rfl
theorem d248_52 : zt_code 248 52 = some (.ireturn, 0, 0, 0) := (zf248 52).trans rfl
theorem d248_53 : zt_code 248 53 = some (.iconst (0), 0, 0, 0) := (zf248 53).trans rfl
theorem d248_54 : zt_code 248 54 = some (.istore 4, 0, 0, 0) := (zf248 54).trans rfl
theorem d248_56 : zt_code 248 56 = some (.iload 4, 0, 0, 0) := (zf248 56).trans rfl
theorem d248_58 : zt_code 248 58 = some (.iload_n 2, 0, 0, 0) := (zf248 58).trans rfl
theorem d248_59 : zt_code 248 59 = some (.if_icmp .ge (42), 0, 101, 0) := (zf248 59).trans rfl
theorem d248_62 : zt_code 248 62 = some (.aload_n 0, 0, 0, 0) := (zf248 62).trans rfl
theorem d248_63 : zt_code 248 63 = some (.getfield 49, 5, 13, 1) := (zf248 63).trans rfl
theorem d248_66 : zt_code 248 66 = some (.aload_n 0, 0, 0, 0) := (zf248 66).trans rfl
theorem d248_67 : zt_code 248 67 = some (.getfield 21, 5, 3, 1) := (zf248 67).trans rfl
theorem d248_70 : zt_code 248 70 = some (.iload_n 1, 0, 0, 0) := (zf248 70).trans rfl
theorem d248_71 : zt_code 248 71 = some (.aaload, 0, 0, 0) := (zf248 71).trans rfl
theorem d248_72 : zt_code 248 72 = some (.iload 4, 0, 0, 0) := (zf248 72).trans rfl
theorem d248_74 : zt_code 248 74 = some (.laload, 0, 0, 0) := (zf248 74).trans rfl
theorem d248_75 : zt_code 248 75 = some (.ldc2_w 340, 0, 0, 10) := (zf248 75).trans rfl
theorem d248_78 : zt_code 248 78 = some (.lrem, 0, 0, 0) := (zf248 78).trans rfl
theorem d248_79 : zt_code 248 79 = some (.l2i, 0, 0, 0) := (zf248 79).trans rfl
theorem d248_80 : zt_code 248 80 = some (.aload_n 0, 0, 0, 0) := (zf248 80).trans rfl
theorem d248_81 : zt_code 248 81 = some (.getfield 21, 5, 3, 1) := (zf248 81).trans rfl
theorem d248_84 : zt_code 248 84 = some (.iload_n 1, 0, 0, 0) := (zf248 84).trans rfl
theorem d248_85 : zt_code 248 85 = some (.aaload, 0, 0, 0) := (zf248 85).trans rfl
theorem d248_86 : zt_code 248 86 = some (.iload 4, 0, 0, 0) := (zf248 86).trans rfl
theorem d248_88 : zt_code 248 88 = some (.laload, 0, 0, 0) := (zf248 88).trans rfl
theorem d248_89 : zt_code 248 89 = some (.ldc2_w 340, 0, 0, 10) := (zf248 89).trans rfl
theorem d248_92 : zt_code 248 92 = some (.ldiv, 0, 0, 0) := (zf248 92).trans rfl
theorem d248_93 : zt_code 248 93 = some (.l2i, 0, 0, 0) := (zf248 93).trans rfl
theorem d248_94 : zt_code 248 94 = some (.iastore, 0, 0, 0) := (zf248 94).trans rfl
theorem d248_95 : zt_code 248 95 = some (.iinc 4 (1), 0, 0, 0) := (zf248 95).trans rfl
theorem d248_98 : zt_code 248 98 = some (.goto (-42), 0, 56, 0) := (zf248 98).trans rfl
theorem d248_101 : zt_code 248 101 = some (.aload_n 0, 0, 0, 0) := (zf248 101).trans rfl
theorem d248_102 : zt_code 248 102 = some (.dup, 0, 0, 0) := (zf248 102).trans rfl
theorem d248_103 : zt_code 248 103 = some (.getfield 139, 5, 18, 0) := (zf248 103).trans rfl
theorem d248_106 : zt_code 248 106 = some (.iload_n 2, 0, 0, 0) := (zf248 106).trans rfl
theorem d248_107 : zt_code 248 107 = some (.iadd, 0, 0, 0) := (zf248 107).trans rfl
theorem d248_108 : zt_code 248 108 = some (.putfield 139, 5, 18, 0) := (zf248 108).trans rfl
theorem d248_111 : zt_code 248 111 = some (.iload_n 2, 0, 0, 0) := (zf248 111).trans rfl
theorem d248_112 : zt_code 248 112 = some (.ireturn, 0, 0, 0) := (zf248 112).trans rfl
/-- FirstAtTheFirstModel.books(II)I -/
theorem vc248 {X : zX} {S : zx_S} {C : zx_C} {q : Int32 → zx_C → Prop} {e : Nat} {a1 : Int32} {a2 : Int32} (hS : zs_5 S e) (h : zCd X 2 238 [.ref e, .int a1, .int a2, .int 0] S C (zQi (fun r1 C1 => if (r1 : Int32) = 0 then (vp_in a1 8 ∧ (zCd X 1 239 [.ref e, .ref ((e + 5) + Int32.toNatClampNeg a1), .int a2, .int (-1)] S C1 (zQi (fun r3 C3 => if (r3 : Int32) = (-1) then (if (1000000000 : Int32) < ((C3.1 e 18) + a2) then (zCd X 0 160 [.ref e, .int (-5)] S C3 (zQi (fun r4 C4 => q r4 C4))) else (zW X 3 248 56 [.ref e, .int a1, .int a2, .int r1, .int 0] [] S C3 (zQi q))) else (zCd X 0 160 [.ref e, .int (-5)] S C3 (zQi (fun r5 C5 => q r5 C5))))))) else (zCd X 0 160 [.ref e, .int r1] S C1 (zQi (fun r6 C6 => q r6 C6)))))) : zCd X 3 248 [.ref e, .int a1, .int a2] S C (zQi q) := by
  refine zc_in ml_248 rfl ?_
  refine zw_aload_n (n := 1) d248_0 rfl rfl ?_
  refine zw_iload_n (n := 2) d248_1 rfl rfl ?_
  refine zw_iload_n (n := 3) d248_2 rfl rfl ?_
  refine zw_iconst (n := 4) d248_3 rfl zk_i_0 ?_
  refine zw_cI (n := 7) d248_4 (zs_V rfl rfl rfl rfl (by decide) (zj_5 hS).1 (zq_5 hS)) (by rw [ml_238]; rfl) (by decide) rfl (zc_mI h (fun r1 C1 h => ?_))
  refine zw_istore_n (n := 8) d248_7 rfl rfl rfl ?_
  refine zw_iload_n (n := 9) d248_8 rfl rfl ?_
  refine zw_if_eq (n := 12) d248_9 rfl (zite h (fun h => ?_) (fun h => ?_))
  · skip
    refine zw_aload_n (n := 19) d248_18 rfl rfl ?_
    refine zw_aload_n (n := 20) d248_19 rfl rfl ?_
    refine zw_getr (n := 23) d248_20 rfl (zj_5 hS).1 (zj_5 hS).2 (zr_5_3 hS) ?_
    refine zw_iload_n (n := 24) d248_23 rfl rfl ?_
    obtain ⟨hi, h⟩ := h
    have hb2 := zb_5_3 hS (vp_lt hi)
    refine zw_aald (n := 25) d248_24 rfl (za_5_3 hS).1 (za_5_3 hS).2 (by decide) hi hb2.1 ?_
    refine zw_iload_n (n := 26) d248_25 rfl rfl ?_
    refine zw_iconst (n := 27) d248_26 rfl zk_i_m1 ?_
    refine zw_cI (n := 30) d248_27 (zs_V rfl rfl rfl rfl (by decide) (zj_5 hS).1 (zq_5 hS)) (by rw [ml_239]; rfl) (by decide) rfl (zc_mI h (fun r3 C3 h => ?_))
    refine zw_iconst (n := 31) d248_30 rfl zk_i_m1 ?_
    refine zw_ic_ne (n := 34) d248_31 rfl (zite h (fun h => ?_) (fun h => ?_))
    · skip
      refine zw_aload_n (n := 35) d248_34 rfl rfl ?_
      refine zw_geti (n := 38) d248_35 rfl (zj_5 hS).1 (zj_5 hS).2 ?_
      refine zw_iload_n (n := 39) d248_38 rfl rfl ?_
      refine zw_iadd (n := 40) d248_39 rfl ?_
      refine zw_ldcw (n := 43) d248_40 rfl zk_i_1000000000 ?_
      refine zw_ic_le (n := 46) d248_43 rfl (zite h (fun h => ?_) (fun h => ?_))
      · skip
        refine zw_aload_n (n := 47) d248_46 rfl rfl ?_
        refine zw_bipush (n := 49) d248_47 rfl zk_b_m5 ?_
        refine zw_cI (n := 52) d248_49 (zs_V rfl rfl rfl rfl (by decide) (zj_5 hS).1 (zq_5 hS)) (by rw [ml_160]; rfl) (by decide) rfl (zc_mI h (fun r4 C4 h => ?_))
        exact zw_iret d248_52 rfl ⟨_, rfl, h⟩
      · skip
        refine zw_iconst (n := 54) d248_53 rfl zk_i_0 ?_
        refine zw_istore (n := 56) d248_54 rfl rfl rfl ?_
        exact h
    · skip
      refine zw_aload_n (n := 47) d248_46 rfl rfl ?_
      refine zw_bipush (n := 49) d248_47 rfl zk_b_m5 ?_
      refine zw_cI (n := 52) d248_49 (zs_V rfl rfl rfl rfl (by decide) (zj_5 hS).1 (zq_5 hS)) (by rw [ml_160]; rfl) (by decide) rfl (zc_mI h (fun r5 C5 h => ?_))
      exact zw_iret d248_52 rfl ⟨_, rfl, h⟩
  · skip
    refine zw_aload_n (n := 13) d248_12 rfl rfl ?_
    refine zw_iload_n (n := 14) d248_13 rfl rfl ?_
    refine zw_cI (n := 17) d248_14 (zs_V rfl rfl rfl rfl (by decide) (zj_5 hS).1 (zq_5 hS)) (by rw [ml_160]; rfl) (by decide) rfl (zc_mI h (fun r6 C6 h => ?_))
    exact zw_iret d248_17 rfl ⟨_, rfl, h⟩
theorem vc248_56 {X : zX} {S : zx_S} {C : zx_C} {q : Int32 → zx_C → Prop} {e : Nat} {a1 : Int32} {a2 : Int32} {i1 : Int32} {i2 : Int32} {z3 : Value} {i4 : Int32} (hS : zs_5 S e) (h : if (i4 : Int32) < i2 then (vp_in i1 8 ∧ (vp_in i4 40 ∧ (vp_in i1 8 ∧ (vp_in i4 40 ∧ (vp_in (Int64.toInt32 ((C.2 ((e + 5) + Int32.toNatClampNeg i1) (Int32.toNatClampNeg i4)) - (C.2 ((e + 5) + Int32.toNatClampNeg i1) (Int32.toNatClampNeg i4)) / 10 * 10)) 8 ∧ (zW X 3 248 56 [.ref e, .int i1, .int i2, z3, .int (i4 + 1)] [] S (zp C (e + 27) (Int32.toNatClampNeg (Int64.toInt32 ((C.2 ((e + 5) + Int32.toNatClampNeg i1) (Int32.toNatClampNeg i4)) - (C.2 ((e + 5) + Int32.toNatClampNeg i1) (Int32.toNatClampNeg i4)) / 10 * 10))) (Int64.toInt32 ((C.2 ((e + 5) + Int32.toNatClampNeg i1) (Int32.toNatClampNeg i4)) / 10))) (zQi q))))))) else (q i2 (zp C e 18 ((C.1 e 18) + i2)))) : zW X 3 248 56 [.ref e, .int i1, .int i2, z3, .int i4] [] S C (zQi q) := by
  refine zw_iload (n := 58) d248_56 rfl rfl ?_
  refine zw_iload_n (n := 59) d248_58 rfl rfl ?_
  refine zw_ic_ge (n := 62) d248_59 rfl (zite h (fun h => ?_) (fun h => ?_))
  · skip
    refine zw_aload_n (n := 63) d248_62 rfl rfl ?_
    refine zw_getr (n := 66) d248_63 rfl (zj_5 hS).1 (zj_5 hS).2 (zr_5_13 hS) ?_
    refine zw_aload_n (n := 67) d248_66 rfl rfl ?_
    refine zw_getr (n := 70) d248_67 rfl (zj_5 hS).1 (zj_5 hS).2 (zr_5_3 hS) ?_
    refine zw_iload_n (n := 71) d248_70 rfl rfl ?_
    obtain ⟨hi, h⟩ := h
    have hb1 := zb_5_3 hS (vp_lt hi)
    refine zw_aald (n := 72) d248_71 rfl (za_5_3 hS).1 (za_5_3 hS).2 (by decide) hi hb1.1 ?_
    refine zw_iload (n := 74) d248_72 rfl rfl ?_
    obtain ⟨hi, h⟩ := h
    refine zw_lald (n := 75) d248_74 rfl hb1.2.1 hb1.2.2 hi ?_
    refine zw_ldc2 (n := 78) d248_75 rfl zk_l_10 ?_
    refine zw_lrem (n := 79) d248_78 rfl (by decide) ?_
    refine zw_l2i (n := 80) d248_79 rfl ?_
    refine zw_aload_n (n := 81) d248_80 rfl rfl ?_
    refine zw_getr (n := 84) d248_81 rfl (zj_5 hS).1 (zj_5 hS).2 (zr_5_3 hS) ?_
    refine zw_iload_n (n := 85) d248_84 rfl rfl ?_
    obtain ⟨hi, h⟩ := h
    have hb2 := zb_5_3 hS (vp_lt hi)
    refine zw_aald (n := 86) d248_85 rfl (za_5_3 hS).1 (za_5_3 hS).2 (by decide) hi hb2.1 ?_
    refine zw_iload (n := 88) d248_86 rfl rfl ?_
    obtain ⟨hi, h⟩ := h
    refine zw_lald (n := 89) d248_88 rfl hb2.2.1 hb2.2.2 hi ?_
    refine zw_ldc2 (n := 92) d248_89 rfl zk_l_10 ?_
    refine zw_ldiv (n := 93) d248_92 rfl (by decide) ?_
    refine zw_l2i (n := 94) d248_93 rfl ?_
    obtain ⟨hi, h⟩ := h
    refine zw_iast (n := 95) d248_94 rfl (za_5_13 hS).1 (za_5_13 hS).2 hi ?_
    refine zw_iinc (n := 98) d248_95 rfl rfl zk_i_1 rfl ?_
    refine zw_goto d248_98 ?_
    exact h
  · skip
    refine zw_aload_n (n := 102) d248_101 rfl rfl ?_
    refine zw_dup (n := 103) d248_102 rfl rfl ?_
    refine zw_geti (n := 106) d248_103 rfl (zj_5 hS).1 (zj_5 hS).2 ?_
    refine zw_iload_n (n := 107) d248_106 rfl rfl ?_
    refine zw_iadd (n := 108) d248_107 rfl ?_
    refine zw_puti (n := 111) d248_108 rfl (zj_5 hS).1 (zj_5 hS).2 ?_
    refine zw_iload_n (n := 112) d248_111 rfl rfl ?_
    exact zw_iret d248_112 rfl ⟨_, rfl, h⟩

set_option maxRecDepth 20000 in
theorem zf249 (pc : Nat) : zt_code 249 pc = zt_fd zl_249 pc := rfl
theorem d249_0 : zt_code 249 0 = some (.aload_n 0, 0, 0, 0) := (zf249 0).trans rfl
theorem d249_1 : zt_code 249 1 = some (.getfield 98, 5, 11, 0) := (zf249 1).trans rfl
theorem d249_4 : zt_code 249 4 = some (.aload_n 0, 0, 0, 0) := (zf249 4).trans rfl
theorem d249_5 : zt_code 249 5 = some (.invokevirtual 135, 172, 1, 5) := (zf249 5).trans rfl
theorem d249_8 : zt_code 249 8 = some (.invokestatic 300, 183, 1, -1) := (zf249 8).trans rfl
theorem d249_11 : zt_code 249 11 = some (.isub, 0, 0, 0) := (zf249 11).trans rfl
theorem d249_12 : zt_code 249 12 = some (.istore_n 1, 0, 0, 0) := (zf249 12).trans rfl
theorem d249_13 : zt_code 249 13 = some (.iconst (0), 0, 0, 0) := (zf249 13).trans rfl
theorem d249_14 : zt_code 249 14 = some (.istore_n 2, 0, 0, 0) := (zf249 14).trans rfl
theorem d249_15 : zt_code 249 15 = some (.iload_n 2, 0, 0, 0) := (zf249 15).trans rfl
theorem d249_16 : zt_code 249 16 = some (.aload_n 0, 0, 0, 0) := (zf249 16).trans rfl
theorem d249_17 : zt_code 249 17 = some (.getfield 98, 5, 11, 0) := (zf249 17).trans rfl
theorem d249_20 : zt_code 249 20 = some (.if_icmp .ge (16), 0, 36, 0) := (zf249 20).trans rfl
theorem d249_23 : zt_code 249 23 = some (.aload_n 0, 0, 0, 0) := (zf249 23).trans rfl
theorem d249_24 : zt_code 249 24 = some (.getfield 49, 5, 13, 1) := (zf249 24).trans rfl
theorem d249_27 : zt_code 249 27 = some (.iload_n 2, 0, 0, 0) := (zf249 27).trans rfl
theorem d249_28 : zt_code 249 28 = some (.iconst (-1), 0, 0, 0) := (zf249 28).trans rfl
theorem d249_29 : zt_code 249 29 = some (.iastore, 0, 0, 0) := (zf249 29).trans rfl
theorem d249_30 : zt_code 249 30 = some (.iinc 2 (1), 0, 0, 0) := (zf249 30).trans rfl
theorem d249_33 : zt_code 249 33 = some (.goto (-18), 0, 15, 0) := (zf249 33).trans rfl
theorem d249_36 : zt_code 249 36 = some (.aload_n 0, 0, 0, 0) := (zf249 36).trans rfl
theorem d249_37 : zt_code 249 37 = some (.iconst (0), 0, 0, 0) := (zf249 37).trans rfl
theorem d249_38 : zt_code 249 38 = some (.putfield 139, 5, 18, 0) := (zf249 38).trans rfl
theorem d249_41 : zt_code 249 41 = some (.iload_n 1, 0, 0, 0) := (zf249 41).trans rfl
theorem d249_42 : zt_code 249 42 = some (.ireturn, 0, 0, 0) := (zf249 42).trans rfl
/-- FirstAtTheFirstModel.again()I -/
theorem vc249 {X : zX} {S : zx_S} {C : zx_C} {q : Int32 → zx_C → Prop} {e : Nat} (hS : zs_5 S e) (h : zCd X 0 172 [.ref e] S C (zQi (fun r1 C1 => zCd X 0 183 [.int r1] S C1 (zQi (fun r2 C2 => zW X 1 249 15 [.ref e, .int ((C.1 e 11) - r2), .int 0] [] S C2 (zQi q)))))) : zCd X 1 249 [.ref e] S C (zQi q) := by
  refine zc_in ml_249 rfl ?_
  refine zw_aload_n (n := 1) d249_0 rfl rfl ?_
  refine zw_geti (n := 4) d249_1 rfl (zj_5 hS).1 (zj_5 hS).2 ?_
  refine zw_aload_n (n := 5) d249_4 rfl rfl ?_
  refine zw_cI (n := 8) d249_5 (zs_V rfl rfl rfl rfl (by decide) (zj_5 hS).1 (zq_5 hS)) (by rw [ml_172]; rfl) (by decide) rfl (zc_mI h (fun r1 C1 h => ?_))
  refine zw_cI (n := 11) d249_8 (zs_S rfl rfl rfl rfl) (by rw [ml_183]; rfl) (by decide) rfl (zc_mI h (fun r2 C2 h => ?_))
  refine zw_isub (n := 12) d249_11 rfl ?_
  refine zw_istore_n (n := 13) d249_12 rfl rfl rfl ?_
  refine zw_iconst (n := 14) d249_13 rfl zk_i_0 ?_
  refine zw_istore_n (n := 15) d249_14 rfl rfl rfl ?_
  exact h
theorem vc249_15 {X : zX} {S : zx_S} {C : zx_C} {q : Int32 → zx_C → Prop} {e : Nat} {i1 : Int32} {i2 : Int32} (hS : zs_5 S e) (h : if (i2 : Int32) < (C.1 e 11) then (vp_in i2 8 ∧ (zW X 1 249 15 [.ref e, .int i1, .int (i2 + 1)] [] S (zp C (e + 27) (Int32.toNatClampNeg i2) (-1)) (zQi q))) else (q i1 (zp C e 18 0))) : zW X 1 249 15 [.ref e, .int i1, .int i2] [] S C (zQi q) := by
  refine zw_iload_n (n := 16) d249_15 rfl rfl ?_
  refine zw_aload_n (n := 17) d249_16 rfl rfl ?_
  refine zw_geti (n := 20) d249_17 rfl (zj_5 hS).1 (zj_5 hS).2 ?_
  refine zw_ic_ge (n := 23) d249_20 rfl (zite h (fun h => ?_) (fun h => ?_))
  · skip
    refine zw_aload_n (n := 24) d249_23 rfl rfl ?_
    refine zw_getr (n := 27) d249_24 rfl (zj_5 hS).1 (zj_5 hS).2 (zr_5_13 hS) ?_
    refine zw_iload_n (n := 28) d249_27 rfl rfl ?_
    refine zw_iconst (n := 29) d249_28 rfl zk_i_m1 ?_
    obtain ⟨hi, h⟩ := h
    refine zw_iast (n := 30) d249_29 rfl (za_5_13 hS).1 (za_5_13 hS).2 hi ?_
    refine zw_iinc (n := 33) d249_30 rfl rfl zk_i_1 rfl ?_
    refine zw_goto d249_33 ?_
    exact h
  · skip
    refine zw_aload_n (n := 37) d249_36 rfl rfl ?_
    refine zw_iconst (n := 38) d249_37 rfl zk_i_0 ?_
    refine zw_puti (n := 41) d249_38 rfl (zj_5 hS).1 (zj_5 hS).2 ?_
    refine zw_iload_n (n := 42) d249_41 rfl rfl ?_
    exact zw_iret d249_42 rfl ⟨_, rfl, h⟩

set_option maxRecDepth 20000 in
theorem zf250 (pc : Nat) : zt_code 250 pc = zt_fd zl_250 pc := rfl
theorem d250_0 : zt_code 250 0 = some (.iload_n 1, 0, 0, 0) := (zf250 0).trans rfl
theorem d250_1 : zt_code 250 1 = some (.i2l, 0, 0, 0) := (zf250 1).trans rfl
theorem d250_2 : zt_code 250 2 = some (.lconst 1, 0, 0, 0) := (zf250 2).trans rfl
theorem d250_3 : zt_code 250 3 = some (.ldc2_w 338, 0, 0, 8) := (zf250 3).trans rfl
theorem d250_6 : zt_code 250 6 = some (.invokestatic 94, 159, 3, -1) := (zf250 6).trans rfl
theorem d250_9 : zt_code 250 9 = some (.ifCond .ne (10), 0, 19, 0) := (zf250 9).trans rfl
theorem d250_12 : zt_code 250 12 = some (.aload_n 0, 0, 0, 0) := (zf250 12).trans rfl
theorem d250_13 : zt_code 250 13 = some (.bipush (-2), 0, 0, 0) := (zf250 13).trans rfl
theorem d250_15 : zt_code 250 15 = some (.invokevirtual 107, 160, 2, 5) := (zf250 15).trans rfl
theorem d250_18 : zt_code 250 18 = some (.ireturn, 0, 0, 0) := (zf250 18).trans rfl
theorem d250_19 : zt_code 250 19 = some (.iconst (0), 0, 0, 0) := (zf250 19).trans rfl
theorem d250_20 : zt_code 250 20 = some (.istore_n 2, 0, 0, 0) := (zf250 20).trans rfl
theorem d250_21 : zt_code 250 21 = some (.iload_n 2, 0, 0, 0) := (zf250 21).trans rfl
theorem d250_22 : zt_code 250 22 = some (.iload_n 1, 0, 0, 0) := (zf250 22).trans rfl
theorem d250_23 : zt_code 250 23 = some (.if_icmp .ge (58), 0, 81, 0) := (zf250 23).trans rfl
theorem d250_26 : zt_code 250 26 = some (.aload_n 0, 0, 0, 0) := (zf250 26).trans rfl
theorem d250_27 : zt_code 250 27 = some (.getfield 98, 5, 11, 0) := (zf250 27).trans rfl
theorem d250_30 : zt_code 250 30 = some (.bipush (8), 0, 0, 0) := (zf250 30).trans rfl
theorem d250_32 : zt_code 250 32 = some (.if_icmp .ge (49), 0, 81, 0) := (zf250 32).trans rfl
theorem d250_35 : zt_code 250 35 = some (.aload_n 0, 0, 0, 0) := (zf250 35).trans rfl
theorem d250_36 : zt_code 250 36 = some (.bipush (100), 0, 0, 0) := (zf250 36).trans rfl
theorem d250_38 : zt_code 250 38 = some (.invokevirtual 358, 251, 2, 5) := (zf250 38).trans rfl
theorem d250_41 : zt_code 250 41 = some (.istore_n 3, 0, 0, 0) := (zf250 41).trans rfl
theorem d250_42 : zt_code 250 42 = some (.aload_n 0, 0, 0, 0) := (zf250 42).trans rfl
theorem d250_43 : zt_code 250 43 = some (.bipush (100), 0, 0, 0) := (zf250 43).trans rfl
theorem d250_45 : zt_code 250 45 = some (.invokevirtual 358, 251, 2, 5) := (zf250 45).trans rfl
theorem d250_48 : zt_code 250 48 = some (.istore 4, 0, 0, 0) := (zf250 48).trans rfl
theorem d250_50 : zt_code 250 50 = some (.aload_n 0, 0, 0, 0) := (zf250 50).trans rfl
theorem d250_51 : zt_code 250 51 = some (.iload_n 3, 0, 0, 0) := (zf250 51).trans rfl
theorem d250_52 : zt_code 250 52 = some (.iload 4, 0, 0, 0) := (zf250 52).trans rfl
theorem d250_54 : zt_code 250 54 = some (.aload_n 0, 0, 0, 0) := (zf250 54).trans rfl
theorem d250_55 : zt_code 250 55 = some (.getfield 40, 5, 10, 0) := (zf250 55).trans rfl
theorem d250_58 : zt_code 250 58 = some (.iconst (3), 0, 0, 0) := (zf250 58).trans rfl
theorem d250_59 : zt_code 250 59 = some (.if_icmp .ne (12), 0, 71, 0) := (zf250 59).trans rfl
theorem d250_62 : zt_code 250 62 = some (.aload_n 0, 0, 0, 0) := (zf250 62).trans rfl
theorem d250_63 : zt_code 250 63 = some (.bipush (100), 0, 0, 0) := (zf250 63).trans rfl
theorem d250_65 : zt_code 250 65 = some (.invokevirtual 358, 251, 2, 5) := (zf250 65).trans rfl
theorem d250_68 : zt_code 250 68 = some (.goto (4), 0, 72, 0) := (zf250 68).trans rfl
theorem d250_71 : zt_code 250 71 = some (.iconst (0), 0, 0, 0) := (zf250 71).trans rfl
theorem d250_72 : zt_code 250 72 = some (.invokevirtual 155, 188, 4, 5) := (zf250 72).trans rfl
theorem d250_75 : zt_code 250 75 = some (.iinc 2 (1), 0, 0, 0) := (zf250 75).trans rfl
theorem d250_78 : zt_code 250 78 = some (.goto (-57), 0, 21, 0) := (zf250 78).trans rfl
theorem d250_81 : zt_code 250 81 = some (.iload_n 2, 0, 0, 0) := (zf250 81).trans rfl
theorem d250_82 : zt_code 250 82 = some (.ireturn, 0, 0, 0) := (zf250 82).trans rfl
/-- FirstAtTheFirstModel.deal(I)I -/
theorem vc250 {X : zX} {S : zx_S} {C : zx_C} {q : Int32 → zx_C → Prop} {e : Nat} {a1 : Int32} (hS : zs_5 S e) (h : zCd X 0 159 [.long (Int32.toInt64 a1), .long 1, .long 8] S C (zQi (fun r1 C1 => if (r1 : Int32) = 0 then (zCd X 0 160 [.ref e, .int (-2)] S C1 (zQi (fun r2 C2 => q r2 C2))) else (zW X 1 250 21 [.ref e, .int a1, .int 0, .retAddr 0, .retAddr 0] [] S C1 (zQi q))))) : zCd X 1 250 [.ref e, .int a1] S C (zQi q) := by
  refine zc_in ml_250 rfl ?_
  refine zw_iload_n (n := 1) d250_0 rfl rfl ?_
  refine zw_i2l (n := 2) d250_1 rfl ?_
  refine zw_lconst (n := 3) d250_2 rfl zk_c_1 ?_
  refine zw_ldc2 (n := 6) d250_3 rfl zk_l_8 ?_
  refine zw_cI (n := 9) d250_6 (zs_S rfl rfl rfl rfl) (by rw [ml_159]; rfl) (by decide) rfl (zc_mI h (fun r1 C1 h => ?_))
  refine zw_if_ne (n := 12) d250_9 rfl (zite h (fun h => ?_) (fun h => ?_))
  · skip
    refine zw_aload_n (n := 13) d250_12 rfl rfl ?_
    refine zw_bipush (n := 15) d250_13 rfl zk_b_m2 ?_
    refine zw_cI (n := 18) d250_15 (zs_V rfl rfl rfl rfl (by decide) (zj_5 hS).1 (zq_5 hS)) (by rw [ml_160]; rfl) (by decide) rfl (zc_mI h (fun r2 C2 h => ?_))
    exact zw_iret d250_18 rfl ⟨_, rfl, h⟩
  · skip
    refine zw_iconst (n := 20) d250_19 rfl zk_i_0 ?_
    refine zw_istore_n (n := 21) d250_20 rfl rfl rfl ?_
    exact h
theorem vc250_21 {X : zX} {S : zx_S} {C : zx_C} {q : Int32 → zx_C → Prop} {e : Nat} {a1 : Int32} {i1 : Int32} {i2 : Int32} {z3 : Value} {z4 : Value} (hS : zs_5 S e) (h : if (i2 : Int32) < i1 then (if ((C.1 e 11) : Int32) < 8 then (zCd X 0 251 [.ref e, .int 100] S C (zQi (fun r1 C1 => zCd X 0 251 [.ref e, .int 100] S C1 (zQi (fun r2 C2 => if ((C2.1 e 10) : Int32) = 3 then (zCd X 0 251 [.ref e, .int 100] S C2 (zQi (fun r3 C3 => zCd X 0 188 [.ref e, .int r1, .int r2, .int r3] S C3 (zQv (fun C4 => zW X 1 250 21 [.ref e, .int i1, .int (i2 + 1), .int r1, .int r2] [] S C4 (zQi q)))))) else (zCd X 0 188 [.ref e, .int r1, .int r2, .int 0] S C2 (zQv (fun C5 => zW X 1 250 21 [.ref e, .int i1, .int (i2 + 1), .int r1, .int r2] [] S C5 (zQi q))))))))) else (q i2 C)) else (q i2 C)) : zW X 1 250 21 [.ref e, .int i1, .int i2, z3, z4] [] S C (zQi q) := by
  refine zw_iload_n (n := 22) d250_21 rfl rfl ?_
  refine zw_iload_n (n := 23) d250_22 rfl rfl ?_
  refine zw_ic_ge (n := 26) d250_23 rfl (zite h (fun h => ?_) (fun h => ?_))
  · skip
    refine zw_aload_n (n := 27) d250_26 rfl rfl ?_
    refine zw_geti (n := 30) d250_27 rfl (zj_5 hS).1 (zj_5 hS).2 ?_
    refine zw_bipush (n := 32) d250_30 rfl zk_b_8 ?_
    refine zw_ic_ge (n := 35) d250_32 rfl (zite h (fun h => ?_) (fun h => ?_))
    · skip
      refine zw_aload_n (n := 36) d250_35 rfl rfl ?_
      refine zw_bipush (n := 38) d250_36 rfl zk_b_100 ?_
      refine zw_cI (n := 41) d250_38 (zs_V rfl rfl rfl rfl (by decide) (zj_5 hS).1 (zq_5 hS)) (by rw [ml_251]; rfl) (by decide) rfl (zc_mI h (fun r1 C1 h => ?_))
      refine zw_istore_n (n := 42) d250_41 rfl rfl rfl ?_
      refine zw_aload_n (n := 43) d250_42 rfl rfl ?_
      refine zw_bipush (n := 45) d250_43 rfl zk_b_100 ?_
      refine zw_cI (n := 48) d250_45 (zs_V rfl rfl rfl rfl (by decide) (zj_5 hS).1 (zq_5 hS)) (by rw [ml_251]; rfl) (by decide) rfl (zc_mI h (fun r2 C2 h => ?_))
      refine zw_istore (n := 50) d250_48 rfl rfl rfl ?_
      refine zw_aload_n (n := 51) d250_50 rfl rfl ?_
      refine zw_iload_n (n := 52) d250_51 rfl rfl ?_
      refine zw_iload (n := 54) d250_52 rfl rfl ?_
      refine zw_aload_n (n := 55) d250_54 rfl rfl ?_
      refine zw_geti (n := 58) d250_55 rfl (zj_5 hS).1 (zj_5 hS).2 ?_
      refine zw_iconst (n := 59) d250_58 rfl zk_i_3 ?_
      refine zw_ic_ne (n := 62) d250_59 rfl (zite h (fun h => ?_) (fun h => ?_))
      · skip
        refine zw_aload_n (n := 63) d250_62 rfl rfl ?_
        refine zw_bipush (n := 65) d250_63 rfl zk_b_100 ?_
        refine zw_cI (n := 68) d250_65 (zs_V rfl rfl rfl rfl (by decide) (zj_5 hS).1 (zq_5 hS)) (by rw [ml_251]; rfl) (by decide) rfl (zc_mI h (fun r3 C3 h => ?_))
        refine zw_goto d250_68 ?_
        refine zw_cV (n := 75) d250_72 (zs_V rfl rfl rfl rfl (by decide) (zj_5 hS).1 (zq_5 hS)) (by rw [ml_188]; rfl) (by decide) rfl (zc_mV h (fun C4 h => ?_))
        refine zw_iinc (n := 78) d250_75 rfl rfl zk_i_1 rfl ?_
        refine zw_goto d250_78 ?_
        exact h
      · skip
        refine zw_iconst (n := 72) d250_71 rfl zk_i_0 ?_
        refine zw_cV (n := 75) d250_72 (zs_V rfl rfl rfl rfl (by decide) (zj_5 hS).1 (zq_5 hS)) (by rw [ml_188]; rfl) (by decide) rfl (zc_mV h (fun C5 h => ?_))
        refine zw_iinc (n := 78) d250_75 rfl rfl zk_i_1 rfl ?_
        refine zw_goto d250_78 ?_
        exact h
    · skip
      refine zw_iload_n (n := 82) d250_81 rfl rfl ?_
      exact zw_iret d250_82 rfl ⟨_, rfl, h⟩
  · skip
    refine zw_iload_n (n := 82) d250_81 rfl rfl ?_
    exact zw_iret d250_82 rfl ⟨_, rfl, h⟩

set_option maxRecDepth 20000 in
theorem zf251 (pc : Nat) : zt_code 251 pc = zt_fd zl_251 pc := rfl
theorem d251_0 : zt_code 251 0 = some (.aload_n 0, 0, 0, 0) := (zf251 0).trans rfl
theorem d251_1 : zt_code 251 1 = some (.aload_n 0, 0, 0, 0) := (zf251 1).trans rfl
theorem d251_2 : zt_code 251 2 = some (.getfield 61, 5, 19, 0) := (zf251 2).trans rfl
theorem d251_5 : zt_code 251 5 = some (.ldc_w 357, 0, 0, 1103515245) := (zf251 5).trans rfl
theorem d251_8 : zt_code 251 8 = some (.imul, 0, 0, 0) := (zf251 8).trans rfl
theorem d251_9 : zt_code 251 9 = some (.sipush (12345), 0, 0, 0) := (zf251 9).trans rfl
theorem d251_12 : zt_code 251 12 = some (.iadd, 0, 0, 0) := (zf251 12).trans rfl
theorem d251_13 : zt_code 251 13 = some (.putfield 61, 5, 19, 0) := (zf251 13).trans rfl
theorem d251_16 : zt_code 251 16 = some (.aload_n 0, 0, 0, 0) := (zf251 16).trans rfl
theorem d251_17 : zt_code 251 17 = some (.getfield 61, 5, 19, 0) := (zf251 17).trans rfl
theorem d251_20 : zt_code 251 20 = some (.bipush (16), 0, 0, 0) := (zf251 20).trans rfl
theorem d251_22 : zt_code 251 22 = some (.iushr, 0, 0, 0) := (zf251 22).trans rfl
theorem d251_23 : zt_code 251 23 = some (.iload_n 1, 0, 0, 0) := (zf251 23).trans rfl
theorem d251_24 : zt_code 251 24 = some (.irem, 0, 0, 0) := (zf251 24).trans rfl
theorem d251_25 : zt_code 251 25 = some (.ireturn, 0, 0, 0) := (zf251 25).trans rfl
/-- FirstAtTheFirstModel.below(I)I -/
theorem vc251 {X : zX} {S : zx_S} {C : zx_C} {q : Int32 → zx_C → Prop} {e : Nat} {a1 : Int32} (hS : zs_5 S e) (h : ¬ (a1 : Int32) = 0 ∧ (q ((Int32.toUInt32 (Prod.fst (zp C e 19 (((C.1 e 19) * 1103515245) + 12345)) e 19) >>> (Int32.toUInt32 16 &&& Int32.toUInt32 31)).toInt32 - (Int32.toUInt32 (Prod.fst (zp C e 19 (((C.1 e 19) * 1103515245) + 12345)) e 19) >>> (Int32.toUInt32 16 &&& Int32.toUInt32 31)).toInt32 / a1 * a1) (zp C e 19 (((C.1 e 19) * 1103515245) + 12345)))) : zCd X 0 251 [.ref e, .int a1] S C (zQi q) := by
  refine zc_in ml_251 rfl ?_
  refine zw_aload_n (n := 1) d251_0 rfl rfl ?_
  refine zw_aload_n (n := 2) d251_1 rfl rfl ?_
  refine zw_geti (n := 5) d251_2 rfl (zj_5 hS).1 (zj_5 hS).2 ?_
  refine zw_ldcw (n := 8) d251_5 rfl zk_i_1103515245 ?_
  refine zw_imul (n := 9) d251_8 rfl ?_
  refine zw_sipush (n := 12) d251_9 rfl zk_s_12345 ?_
  refine zw_iadd (n := 13) d251_12 rfl ?_
  refine zw_puti (n := 16) d251_13 rfl (zj_5 hS).1 (zj_5 hS).2 ?_
  refine zw_aload_n (n := 17) d251_16 rfl rfl ?_
  refine zw_geti (n := 20) d251_17 rfl (zj_5 hS).1 (zj_5 hS).2 ?_
  refine zw_bipush (n := 22) d251_20 rfl zk_b_16 ?_
  refine zw_iushr (n := 23) d251_22 rfl ?_
  refine zw_iload_n (n := 24) d251_23 rfl rfl ?_
  obtain ⟨hy, h⟩ := h
  refine zw_irem (n := 25) d251_24 rfl hy ?_
  exact zw_iret d251_25 rfl ⟨_, rfl, h⟩

set_option maxRecDepth 20000 in
theorem zf252 (pc : Nat) : zt_code 252 pc = zt_fd zl_252 pc := rfl
theorem d252_0 : zt_code 252 0 = some (.aload_n 0, 0, 0, 0) := (zf252 0).trans rfl
theorem d252_1 : zt_code 252 1 = some (.getfield 61, 5, 19, 0) := (zf252 1).trans rfl
theorem d252_4 : zt_code 252 4 = some (.istore_n 2, 0, 0, 0) := (zf252 4).trans rfl
theorem d252_5 : zt_code 252 5 = some (.aload_n 0, 0, 0, 0) := (zf252 5).trans rfl
theorem d252_6 : zt_code 252 6 = some (.iload_n 1, 0, 0, 0) := (zf252 6).trans rfl
theorem d252_7 : zt_code 252 7 = some (.putfield 61, 5, 19, 0) := (zf252 7).trans rfl
theorem d252_10 : zt_code 252 10 = some (.iload_n 2, 0, 0, 0) := (zf252 10).trans rfl
theorem d252_11 : zt_code 252 11 = some (.ireturn, 0, 0, 0) := (zf252 11).trans rfl
/-- FirstAtTheFirstModel.seed(I)I -/
theorem vc252 {X : zX} {S : zx_S} {C : zx_C} {q : Int32 → zx_C → Prop} {e : Nat} {a1 : Int32} (hS : zs_5 S e) (h : q (C.1 e 19) (zp C e 19 a1)) : zCd X 0 252 [.ref e, .int a1] S C (zQi q) := by
  refine zc_in ml_252 rfl ?_
  refine zw_aload_n (n := 1) d252_0 rfl rfl ?_
  refine zw_geti (n := 4) d252_1 rfl (zj_5 hS).1 (zj_5 hS).2 ?_
  refine zw_istore_n (n := 5) d252_4 rfl rfl rfl ?_
  refine zw_aload_n (n := 6) d252_5 rfl rfl ?_
  refine zw_iload_n (n := 7) d252_6 rfl rfl ?_
  refine zw_puti (n := 10) d252_7 rfl (zj_5 hS).1 (zj_5 hS).2 ?_
  refine zw_iload_n (n := 11) d252_10 rfl rfl ?_
  exact zw_iret d252_11 rfl ⟨_, rfl, h⟩

set_option maxRecDepth 20000 in
theorem zf255 (pc : Nat) : zt_code 255 pc = zt_fd zl_255 pc := rfl
theorem d255_0 : zt_code 255 0 = some (.iconst (0), 0, 0, 0) := (zf255 0).trans rfl
theorem d255_1 : zt_code 255 1 = some (.istore_n 2, 0, 0, 0) := (zf255 1).trans rfl
theorem d255_2 : zt_code 255 2 = some (.iload_n 1, 0, 0, 0) := (zf255 2).trans rfl
theorem d255_3 : zt_code 255 3 = some (.tableswitch (163) (0) (9) #[53, 58, 63, 68, 73, 78, 83, 120, 125, 130], 0, 0, 0) := (zf255 3).trans rfl
theorem d255_56 : zt_code 255 56 = some (.aload_n 0, 0, 0, 0) := (zf255 56).trans rfl
theorem d255_57 : zt_code 255 57 = some (.getfield 40, 5, 10, 0) := (zf255 57).trans rfl
theorem d255_60 : zt_code 255 60 = some (.ireturn, 0, 0, 0) := (zf255 60).trans rfl
theorem d255_61 : zt_code 255 61 = some (.aload_n 0, 0, 0, 0) := (zf255 61).trans rfl
theorem d255_62 : zt_code 255 62 = some (.getfield 98, 5, 11, 0) := (zf255 62).trans rfl
theorem d255_65 : zt_code 255 65 = some (.ireturn, 0, 0, 0) := (zf255 65).trans rfl
theorem d255_66 : zt_code 255 66 = some (.aload_n 0, 0, 0, 0) := (zf255 66).trans rfl
theorem d255_67 : zt_code 255 67 = some (.invokevirtual 135, 172, 1, 5) := (zf255 67).trans rfl
theorem d255_70 : zt_code 255 70 = some (.ireturn, 0, 0, 0) := (zf255 70).trans rfl
theorem d255_71 : zt_code 255 71 = some (.aload_n 0, 0, 0, 0) := (zf255 71).trans rfl
theorem d255_72 : zt_code 255 72 = some (.getfield 128, 5, 14, 0) := (zf255 72).trans rfl
theorem d255_75 : zt_code 255 75 = some (.ireturn, 0, 0, 0) := (zf255 75).trans rfl
theorem d255_76 : zt_code 255 76 = some (.aload_n 0, 0, 0, 0) := (zf255 76).trans rfl
theorem d255_77 : zt_code 255 77 = some (.getfield 139, 5, 18, 0) := (zf255 77).trans rfl
theorem d255_80 : zt_code 255 80 = some (.ireturn, 0, 0, 0) := (zf255 80).trans rfl
theorem d255_81 : zt_code 255 81 = some (.aload_n 0, 0, 0, 0) := (zf255 81).trans rfl
theorem d255_82 : zt_code 255 82 = some (.getfield 55, 5, 16, 0) := (zf255 82).trans rfl
theorem d255_85 : zt_code 255 85 = some (.ireturn, 0, 0, 0) := (zf255 85).trans rfl
theorem d255_86 : zt_code 255 86 = some (.iconst (0), 0, 0, 0) := (zf255 86).trans rfl
theorem d255_87 : zt_code 255 87 = some (.istore_n 3, 0, 0, 0) := (zf255 87).trans rfl
theorem d255_88 : zt_code 255 88 = some (.iload_n 3, 0, 0, 0) := (zf255 88).trans rfl
theorem d255_89 : zt_code 255 89 = some (.aload_n 0, 0, 0, 0) := (zf255 89).trans rfl
theorem d255_90 : zt_code 255 90 = some (.getfield 40, 5, 10, 0) := (zf255 90).trans rfl
theorem d255_93 : zt_code 255 93 = some (.if_icmp .ge (25), 0, 118, 0) := (zf255 93).trans rfl
theorem d255_96 : zt_code 255 96 = some (.aload_n 0, 0, 0, 0) := (zf255 96).trans rfl
theorem d255_97 : zt_code 255 97 = some (.getfield 79, 5, 37, 1) := (zf255 97).trans rfl
theorem d255_100 : zt_code 255 100 = some (.iload_n 3, 0, 0, 0) := (zf255 100).trans rfl
theorem d255_101 : zt_code 255 101 = some (.aload_n 0, 0, 0, 0) := (zf255 101).trans rfl
theorem d255_102 : zt_code 255 102 = some (.iload_n 3, 0, 0, 0) := (zf255 102).trans rfl
theorem d255_103 : zt_code 255 103 = some (.aload_n 0, 0, 0, 0) := (zf255 103).trans rfl
theorem d255_104 : zt_code 255 104 = some (.iload_n 3, 0, 0, 0) := (zf255 104).trans rfl
theorem d255_105 : zt_code 255 105 = some (.invokevirtual 255, 215, 2, 5) := (zf255 105).trans rfl
theorem d255_108 : zt_code 255 108 = some (.invokevirtual 258, 216, 3, 5) := (zf255 108).trans rfl
theorem d255_111 : zt_code 255 111 = some (.iastore, 0, 0, 0) := (zf255 111).trans rfl
theorem d255_112 : zt_code 255 112 = some (.iinc 3 (1), 0, 0, 0) := (zf255 112).trans rfl
theorem d255_115 : zt_code 255 115 = some (.goto (-27), 0, 88, 0) := (zf255 115).trans rfl
theorem d255_118 : zt_code 255 118 = some (.aload_n 0, 0, 0, 0) := (zf255 118).trans rfl
theorem d255_119 : zt_code 255 119 = some (.invokevirtual 318, 227, 1, 5) := (zf255 119).trans rfl
theorem d255_122 : zt_code 255 122 = some (.ireturn, 0, 0, 0) := (zf255 122).trans rfl
theorem d255_123 : zt_code 255 123 = some (.aload_n 0, 0, 0, 0) := (zf255 123).trans rfl
theorem d255_124 : zt_code 255 124 = some (.getfield 168, 5, 8, 0) := (zf255 124).trans rfl
theorem d255_127 : zt_code 255 127 = some (.ireturn, 0, 0, 0) := (zf255 127).trans rfl
theorem d255_128 : zt_code 255 128 = some (.aload_n 0, 0, 0, 0) := (zf255 128).trans rfl
theorem d255_129 : zt_code 255 129 = some (.getfield 61, 5, 19, 0) := (zf255 129).trans rfl
theorem d255_132 : zt_code 255 132 = some (.ireturn, 0, 0, 0) := (zf255 132).trans rfl
theorem d255_133 : zt_code 255 133 = some (.iconst (0), 0, 0, 0) := (zf255 133).trans rfl
theorem d255_134 : zt_code 255 134 = some (.istore_n 3, 0, 0, 0) := (zf255 134).trans rfl
theorem d255_135 : zt_code 255 135 = some (.iload_n 3, 0, 0, 0) := (zf255 135).trans rfl
theorem d255_136 : zt_code 255 136 = some (.bipush (8), 0, 0, 0) := (zf255 136).trans rfl
theorem d255_138 : zt_code 255 138 = some (.if_icmp .ge (26), 0, 164, 0) := (zf255 138).trans rfl
theorem d255_141 : zt_code 255 141 = some (.iload_n 2, 0, 0, 0) := (zf255 141).trans rfl
theorem d255_142 : zt_code 255 142 = some (.aload_n 0, 0, 0, 0) := (zf255 142).trans rfl
theorem d255_143 : zt_code 255 143 = some (.getfield 7, 5, 0, 1) := (zf255 143).trans rfl
theorem d255_146 : zt_code 255 146 = some (.iload_n 3, 0, 0, 0) := (zf255 146).trans rfl
theorem d255_147 : zt_code 255 147 = some (.iaload, 0, 0, 0) := (zf255 147).trans rfl
theorem d255_148 : zt_code 255 148 = some (.ifCond .eq (7), 0, 155, 0) := (zf255 148).trans rfl
theorem d255_151 : zt_code 255 151 = some (.iconst (1), 0, 0, 0) := (zf255 151).trans rfl
theorem d255_152 : zt_code 255 152 = some (.goto (4), 0, 156, 0) := (zf255 152).trans rfl
theorem d255_155 : zt_code 255 155 = some (.iconst (0), 0, 0, 0) := (zf255 155).trans rfl
theorem d255_156 : zt_code 255 156 = some (.iadd, 0, 0, 0) := (zf255 156).trans rfl
theorem d255_157 : zt_code 255 157 = some (.istore_n 2, 0, 0, 0) := (zf255 157).trans rfl
theorem d255_158 : zt_code 255 158 = some (.iinc 3 (1), 0, 0, 0) := (zf255 158).trans rfl
theorem d255_161 : zt_code 255 161 = some (.goto (-26), 0, 135, 0) := (zf255 161).trans rfl
theorem d255_164 : zt_code 255 164 = some (.iload_n 2, 0, 0, 0) := (zf255 164).trans rfl
theorem d255_165 : zt_code 255 165 = some (.ireturn, 0, 0, 0) := (zf255 165).trans rfl
theorem d255_166 : zt_code 255 166 = some (.iload_n 1, 0, 0, 0) := (zf255 166).trans rfl
theorem d255_167 : zt_code 255 167 = some (.i2l, 0, 0, 0) := (zf255 167).trans rfl
theorem d255_168 : zt_code 255 168 = some (.ldc2_w 162, 0, 0, 12) := (zf255 168).trans rfl
theorem d255_171 : zt_code 255 171 = some (.ldc2_w 373, 0, 0, 16) := (zf255 171).trans rfl
theorem d255_174 : zt_code 255 174 = some (.invokestatic 94, 159, 3, -1) := (zf255 174).trans rfl
theorem d255_177 : zt_code 255 177 = some (.ifCond .eq (15), 0, 192, 0) := (zf255 177).trans rfl
theorem d255_180 : zt_code 255 180 = some (.aload_n 0, 0, 0, 0) := (zf255 180).trans rfl
theorem d255_181 : zt_code 255 181 = some (.getfield 37, 5, 9, 1) := (zf255 181).trans rfl
theorem d255_184 : zt_code 255 184 = some (.iload_n 1, 0, 0, 0) := (zf255 184).trans rfl
theorem d255_185 : zt_code 255 185 = some (.bipush (10), 0, 0, 0) := (zf255 185).trans rfl
theorem d255_187 : zt_code 255 187 = some (.isub, 0, 0, 0) := (zf255 187).trans rfl
theorem d255_188 : zt_code 255 188 = some (.iaload, 0, 0, 0) := (zf255 188).trans rfl
theorem d255_189 : zt_code 255 189 = some (.goto (4), 0, 193, 0) := (zf255 189).trans rfl
theorem d255_192 : zt_code 255 192 = some (.iconst (-1), 0, 0, 0) := (zf255 192).trans rfl
theorem d255_193 : zt_code 255 193 = some (.ireturn, 0, 0, 0) := (zf255 193).trans rfl
/-- FirstAtTheFirstModel.status(I)I -/
theorem vc255 {X : zX} {S : zx_S} {C : zx_C} {q : Int32 → zx_C → Prop} {e : Nat} {a1 : Int32} (hS : zs_5 S e) (h : if Int32.toInt a1 = 0 then (q (C.1 e 10) C) else (if Int32.toInt a1 = 0 + 1 then (q (C.1 e 11) C) else (if Int32.toInt a1 = 0 + 1 + 1 then (zCd X 0 172 [.ref e] S C (zQi (fun r1 C1 => q r1 C1))) else (if Int32.toInt a1 = 0 + 1 + 1 + 1 then (q (C.1 e 14) C) else (if Int32.toInt a1 = 0 + 1 + 1 + 1 + 1 then (q (C.1 e 18) C) else (if Int32.toInt a1 = 0 + 1 + 1 + 1 + 1 + 1 then (q (C.1 e 16) C) else (if Int32.toInt a1 = 0 + 1 + 1 + 1 + 1 + 1 + 1 then (zW X 2 255 88 [.ref e, .int a1, .int 0, .int 0] [] S C (zQi q)) else (if Int32.toInt a1 = 0 + 1 + 1 + 1 + 1 + 1 + 1 + 1 then (q (C.1 e 8) C) else (if Int32.toInt a1 = 0 + 1 + 1 + 1 + 1 + 1 + 1 + 1 + 1 then (q (C.1 e 19) C) else (if Int32.toInt a1 = 0 + 1 + 1 + 1 + 1 + 1 + 1 + 1 + 1 + 1 then (zW X 2 255 135 [.ref e, .int a1, .int 0, .int 0] [] S C (zQi q)) else (zCd X 0 159 [.long (Int32.toInt64 a1), .long 12, .long 16] S C (zQi (fun r2 C2 => if (r2 : Int32) = 0 then (q (-1) C2) else (vp_in (a1 - 10) 8 ∧ (q (C2.1 (e + 17) (Int32.toNatClampNeg (a1 - 10))) C2))))))))))))))) : zCd X 2 255 [.ref e, .int a1] S C (zQi q) := by
  refine zc_in ml_255 rfl ?_
  refine zw_iconst (n := 1) d255_0 rfl zk_i_0 ?_
  refine zw_istore_n (n := 2) d255_1 rfl rfl rfl ?_
  refine zw_iload_n (n := 3) d255_2 rfl rfl ?_
  refine zw_tsw d255_3 rfl ?_
  refine zw_sw1 (t := 56) rfl (zite h (fun h => ?_) (fun h => ?_))
  · skip
    refine zw_aload_n (n := 57) d255_56 rfl rfl ?_
    refine zw_geti (n := 60) d255_57 rfl (zj_5 hS).1 (zj_5 hS).2 ?_
    exact zw_iret d255_60 rfl ⟨_, rfl, h⟩
  · skip
    refine zw_sw1 (t := 61) rfl (zite h (fun h => ?_) (fun h => ?_))
    · skip
      refine zw_aload_n (n := 62) d255_61 rfl rfl ?_
      refine zw_geti (n := 65) d255_62 rfl (zj_5 hS).1 (zj_5 hS).2 ?_
      exact zw_iret d255_65 rfl ⟨_, rfl, h⟩
    · skip
      refine zw_sw1 (t := 66) rfl (zite h (fun h => ?_) (fun h => ?_))
      · skip
        refine zw_aload_n (n := 67) d255_66 rfl rfl ?_
        refine zw_cI (n := 70) d255_67 (zs_V rfl rfl rfl rfl (by decide) (zj_5 hS).1 (zq_5 hS)) (by rw [ml_172]; rfl) (by decide) rfl (zc_mI h (fun r1 C1 h => ?_))
        exact zw_iret d255_70 rfl ⟨_, rfl, h⟩
      · skip
        refine zw_sw1 (t := 71) rfl (zite h (fun h => ?_) (fun h => ?_))
        · skip
          refine zw_aload_n (n := 72) d255_71 rfl rfl ?_
          refine zw_geti (n := 75) d255_72 rfl (zj_5 hS).1 (zj_5 hS).2 ?_
          exact zw_iret d255_75 rfl ⟨_, rfl, h⟩
        · skip
          refine zw_sw1 (t := 76) rfl (zite h (fun h => ?_) (fun h => ?_))
          · skip
            refine zw_aload_n (n := 77) d255_76 rfl rfl ?_
            refine zw_geti (n := 80) d255_77 rfl (zj_5 hS).1 (zj_5 hS).2 ?_
            exact zw_iret d255_80 rfl ⟨_, rfl, h⟩
          · skip
            refine zw_sw1 (t := 81) rfl (zite h (fun h => ?_) (fun h => ?_))
            · skip
              refine zw_aload_n (n := 82) d255_81 rfl rfl ?_
              refine zw_geti (n := 85) d255_82 rfl (zj_5 hS).1 (zj_5 hS).2 ?_
              exact zw_iret d255_85 rfl ⟨_, rfl, h⟩
            · skip
              refine zw_sw1 (t := 86) rfl (zite h (fun h => ?_) (fun h => ?_))
              · skip
                refine zw_iconst (n := 87) d255_86 rfl zk_i_0 ?_
                refine zw_istore_n (n := 88) d255_87 rfl rfl rfl ?_
                exact h
              · skip
                refine zw_sw1 (t := 123) rfl (zite h (fun h => ?_) (fun h => ?_))
                · skip
                  refine zw_aload_n (n := 124) d255_123 rfl rfl ?_
                  refine zw_geti (n := 127) d255_124 rfl (zj_5 hS).1 (zj_5 hS).2 ?_
                  exact zw_iret d255_127 rfl ⟨_, rfl, h⟩
                · skip
                  refine zw_sw1 (t := 128) rfl (zite h (fun h => ?_) (fun h => ?_))
                  · skip
                    refine zw_aload_n (n := 129) d255_128 rfl rfl ?_
                    refine zw_geti (n := 132) d255_129 rfl (zj_5 hS).1 (zj_5 hS).2 ?_
                    exact zw_iret d255_132 rfl ⟨_, rfl, h⟩
                  · skip
                    refine zw_sw1 (t := 133) rfl (zite h (fun h => ?_) (fun h => ?_))
                    · skip
                      refine zw_iconst (n := 134) d255_133 rfl zk_i_0 ?_
                      refine zw_istore_n (n := 135) d255_134 rfl rfl rfl ?_
                      exact h
                    · skip
                      refine zw_sw0 (t := 166) rfl ?_
                      refine zw_iload_n (n := 167) d255_166 rfl rfl ?_
                      refine zw_i2l (n := 168) d255_167 rfl ?_
                      refine zw_ldc2 (n := 171) d255_168 rfl zk_l_12 ?_
                      refine zw_ldc2 (n := 174) d255_171 rfl zk_l_16 ?_
                      refine zw_cI (n := 177) d255_174 (zs_S rfl rfl rfl rfl) (by rw [ml_159]; rfl) (by decide) rfl (zc_mI h (fun r2 C2 h => ?_))
                      refine zw_if_eq (n := 180) d255_177 rfl (zite h (fun h => ?_) (fun h => ?_))
                      · skip
                        refine zw_iconst (n := 193) d255_192 rfl zk_i_m1 ?_
                        exact zw_iret d255_193 rfl ⟨_, rfl, h⟩
                      · skip
                        refine zw_aload_n (n := 181) d255_180 rfl rfl ?_
                        refine zw_getr (n := 184) d255_181 rfl (zj_5 hS).1 (zj_5 hS).2 (zr_5_9 hS) ?_
                        refine zw_iload_n (n := 185) d255_184 rfl rfl ?_
                        refine zw_bipush (n := 187) d255_185 rfl zk_b_10 ?_
                        refine zw_isub (n := 188) d255_187 rfl ?_
                        obtain ⟨hi, h⟩ := h
                        refine zw_iald (n := 189) d255_188 rfl (za_5_9 hS).1 (za_5_9 hS).2 hi ?_
                        refine zw_goto d255_189 ?_
                        exact zw_iret d255_193 rfl ⟨_, rfl, h⟩
theorem vc255_88 {X : zX} {S : zx_S} {C : zx_C} {q : Int32 → zx_C → Prop} {e : Nat} {a1 : Int32} {z1 : Value} {z2 : Value} {i3 : Int32} (hS : zs_5 S e) (h : if (i3 : Int32) < (C.1 e 10) then (zCd X 0 215 [.ref e, .int i3] S C (zQi (fun r1 C1 => zCd X 1 216 [.ref e, .int i3, .int r1] S C1 (zQi (fun r2 C2 => vp_in i3 3 ∧ (zW X 2 255 88 [.ref e, z1, z2, .int (i3 + 1)] [] S (zp C2 (e + 34) (Int32.toNatClampNeg i3) r2) (zQi q))))))) else (zCd X 0 227 [.ref e] S C (zQi (fun r3 C3 => q r3 C3)))) : zW X 2 255 88 [.ref e, z1, z2, .int i3] [] S C (zQi q) := by
  refine zw_iload_n (n := 89) d255_88 rfl rfl ?_
  refine zw_aload_n (n := 90) d255_89 rfl rfl ?_
  refine zw_geti (n := 93) d255_90 rfl (zj_5 hS).1 (zj_5 hS).2 ?_
  refine zw_ic_ge (n := 96) d255_93 rfl (zite h (fun h => ?_) (fun h => ?_))
  · skip
    refine zw_aload_n (n := 97) d255_96 rfl rfl ?_
    refine zw_getr (n := 100) d255_97 rfl (zj_5 hS).1 (zj_5 hS).2 (zr_5_37 hS) ?_
    refine zw_iload_n (n := 101) d255_100 rfl rfl ?_
    refine zw_aload_n (n := 102) d255_101 rfl rfl ?_
    refine zw_iload_n (n := 103) d255_102 rfl rfl ?_
    refine zw_aload_n (n := 104) d255_103 rfl rfl ?_
    refine zw_iload_n (n := 105) d255_104 rfl rfl ?_
    refine zw_cI (n := 108) d255_105 (zs_V rfl rfl rfl rfl (by decide) (zj_5 hS).1 (zq_5 hS)) (by rw [ml_215]; rfl) (by decide) rfl (zc_mI h (fun r1 C1 h => ?_))
    refine zw_cI (n := 111) d255_108 (zs_V rfl rfl rfl rfl (by decide) (zj_5 hS).1 (zq_5 hS)) (by rw [ml_216]; rfl) (by decide) rfl (zc_mI h (fun r2 C2 h => ?_))
    obtain ⟨hi, h⟩ := h
    refine zw_iast (n := 112) d255_111 rfl (za_5_37 hS).1 (za_5_37 hS).2 hi ?_
    refine zw_iinc (n := 115) d255_112 rfl rfl zk_i_1 rfl ?_
    refine zw_goto d255_115 ?_
    exact h
  · skip
    refine zw_aload_n (n := 119) d255_118 rfl rfl ?_
    refine zw_cI (n := 122) d255_119 (zs_V rfl rfl rfl rfl (by decide) (zj_5 hS).1 (zq_5 hS)) (by rw [ml_227]; rfl) (by decide) rfl (zc_mI h (fun r3 C3 h => ?_))
    exact zw_iret d255_122 rfl ⟨_, rfl, h⟩
theorem vc255_135 {X : zX} {S : zx_S} {C : zx_C} {q : Int32 → zx_C → Prop} {e : Nat} {a1 : Int32} {z1 : Value} {i2 : Int32} {i3 : Int32} (hS : zs_5 S e) (h : if (i3 : Int32) < 8 then (vp_in i3 8 ∧ (if ((C.1 (e + 1) (Int32.toNatClampNeg i3)) : Int32) = 0 then (zW X 2 255 135 [.ref e, z1, .int (i2 + 0), .int (i3 + 1)] [] S C (zQi q)) else (zW X 2 255 135 [.ref e, z1, .int (i2 + 1), .int (i3 + 1)] [] S C (zQi q)))) else (q i2 C)) : zW X 2 255 135 [.ref e, z1, .int i2, .int i3] [] S C (zQi q) := by
  refine zw_iload_n (n := 136) d255_135 rfl rfl ?_
  refine zw_bipush (n := 138) d255_136 rfl zk_b_8 ?_
  refine zw_ic_ge (n := 141) d255_138 rfl (zite h (fun h => ?_) (fun h => ?_))
  · skip
    refine zw_iload_n (n := 142) d255_141 rfl rfl ?_
    refine zw_aload_n (n := 143) d255_142 rfl rfl ?_
    refine zw_getr (n := 146) d255_143 rfl (zj_5 hS).1 (zj_5 hS).2 (zr_5_0 hS) ?_
    refine zw_iload_n (n := 147) d255_146 rfl rfl ?_
    obtain ⟨hi, h⟩ := h
    refine zw_iald (n := 148) d255_147 rfl (za_5_0 hS).1 (za_5_0 hS).2 hi ?_
    refine zw_if_eq (n := 151) d255_148 rfl (zite h (fun h => ?_) (fun h => ?_))
    · skip
      refine zw_iconst (n := 156) d255_155 rfl zk_i_0 ?_
      refine zw_iadd (n := 157) d255_156 rfl ?_
      refine zw_istore_n (n := 158) d255_157 rfl rfl rfl ?_
      refine zw_iinc (n := 161) d255_158 rfl rfl zk_i_1 rfl ?_
      refine zw_goto d255_161 ?_
      exact h
    · skip
      refine zw_iconst (n := 152) d255_151 rfl zk_i_1 ?_
      refine zw_goto d255_152 ?_
      refine zw_iadd (n := 157) d255_156 rfl ?_
      refine zw_istore_n (n := 158) d255_157 rfl rfl rfl ?_
      refine zw_iinc (n := 161) d255_158 rfl rfl zk_i_1 rfl ?_
      refine zw_goto d255_161 ?_
      exact h
  · skip
    refine zw_iload_n (n := 165) d255_164 rfl rfl ?_
    exact zw_iret d255_165 rfl ⟨_, rfl, h⟩

set_option maxRecDepth 20000 in
theorem zf7 (pc : Nat) : zt_code 7 pc = zt_fd zl_7 pc := rfl
theorem d7_0 : zt_code 7 0 = some (.iload_n 1, 0, 0, 0) := (zf7 0).trans rfl
theorem d7_1 : zt_code 7 1 = some (.invokestatic 62, 8, 1, -1) := (zf7 1).trans rfl
theorem d7_4 : zt_code 7 4 = some (.ifCond .eq (20), 0, 24, 0) := (zf7 4).trans rfl
theorem d7_7 : zt_code 7 7 = some (.iload_n 2, 0, 0, 0) := (zf7 7).trans rfl
theorem d7_8 : zt_code 7 8 = some (.invokestatic 66, 9, 1, -1) := (zf7 8).trans rfl
theorem d7_11 : zt_code 7 11 = some (.ifCond .eq (13), 0, 24, 0) := (zf7 11).trans rfl
theorem d7_14 : zt_code 7 14 = some (.iload_n 3, 0, 0, 0) := (zf7 14).trans rfl
theorem d7_15 : zt_code 7 15 = some (.ifCond .lt (9), 0, 24, 0) := (zf7 15).trans rfl
theorem d7_18 : zt_code 7 18 = some (.iload_n 3, 0, 0, 0) := (zf7 18).trans rfl
theorem d7_19 : zt_code 7 19 = some (.bipush (40), 0, 0, 0) := (zf7 19).trans rfl
theorem d7_21 : zt_code 7 21 = some (.if_icmp .le (10), 0, 31, 0) := (zf7 21).trans rfl
theorem d7_24 : zt_code 7 24 = some (.aload_n 0, 0, 0, 0) := (zf7 24).trans rfl
theorem d7_25 : zt_code 7 25 = some (.bipush (-2), 0, 0, 0) := (zf7 25).trans rfl
theorem d7_27 : zt_code 7 27 = some (.invokevirtual 69, 10, 2, 4) := (zf7 27).trans rfl
theorem d7_30 : zt_code 7 30 = some (.ireturn, 0, 0, 0) := (zf7 30).trans rfl
theorem d7_31 : zt_code 7 31 = some (.aload_n 0, 0, 0, 0) := (zf7 31).trans rfl
theorem d7_32 : zt_code 7 32 = some (.getfield 32, 4, 4, 1) := (zf7 32).trans rfl
theorem d7_35 : zt_code 7 35 = some (.iload_n 1, 0, 0, 0) := (zf7 35).trans rfl
theorem d7_36 : zt_code 7 36 = some (.iload_n 2, 0, 0, 0) := (zf7 36).trans rfl
theorem d7_37 : zt_code 7 37 = some (.iload_n 3, 0, 0, 0) := (zf7 37).trans rfl
theorem d7_38 : zt_code 7 38 = some (.invokevirtual 73, 13, 4, 2) := (zf7 38).trans rfl
theorem d7_41 : zt_code 7 41 = some (.iconst (1), 0, 0, 0) := (zf7 41).trans rfl
theorem d7_42 : zt_code 7 42 = some (.ireturn, 0, 0, 0) := (zf7 42).trans rfl
/-- FirstAtTheFirst.row(III)I -/
theorem vc7 {X : zX} {S : zx_S} {C : zx_C} {q : Int32 → zx_C → Prop} {e : Nat} {a1 : Int32} {a2 : Int32} {a3 : Int32} (hS : zs_4 S e) (h : zCd X 0 8 [.int a1] S C (zQi (fun r1 C1 => if (r1 : Int32) = 0 then (zCd X 1 10 [.ref e, .int (-2)] S C1 (zQi (fun r2 C2 => q r2 C2))) else (zCd X 0 9 [.int a2] S C1 (zQi (fun r3 C3 => if (r3 : Int32) = 0 then (zCd X 1 10 [.ref e, .int (-2)] S C3 (zQi (fun r4 C4 => q r4 C4))) else (if (a3 : Int32) < 0 then (zCd X 1 10 [.ref e, .int (-2)] S C3 (zQi (fun r5 C5 => q r5 C5))) else (if (40 : Int32) < a3 then (zCd X 1 10 [.ref e, .int (-2)] S C3 (zQi (fun r6 C6 => q r6 C6))) else (zCd X 4 13 [.ref (e + 18), .int a1, .int a2, .int a3] S C3 (zQv (fun C7 => q 1 C7))))))))))) : zCd X 5 7 [.ref e, .int a1, .int a2, .int a3] S C (zQi q) := by
  refine zc_in ml_7 rfl ?_
  refine zw_iload_n (n := 1) d7_0 rfl rfl ?_
  refine zw_cI (n := 4) d7_1 (zs_S rfl rfl rfl rfl) (by rw [ml_8]; rfl) (by decide) rfl (zc_mI h (fun r1 C1 h => ?_))
  refine zw_if_eq (n := 7) d7_4 rfl (zite h (fun h => ?_) (fun h => ?_))
  · skip
    refine zw_aload_n (n := 25) d7_24 rfl rfl ?_
    refine zw_bipush (n := 27) d7_25 rfl zk_b_m2 ?_
    refine zw_cI (n := 30) d7_27 (zs_V rfl rfl rfl rfl (by decide) (zj_4 hS).1 (zq_4 hS)) (by rw [ml_10]; rfl) (by decide) rfl (zc_mI h (fun r2 C2 h => ?_))
    exact zw_iret d7_30 rfl ⟨_, rfl, h⟩
  · skip
    refine zw_iload_n (n := 8) d7_7 rfl rfl ?_
    refine zw_cI (n := 11) d7_8 (zs_S rfl rfl rfl rfl) (by rw [ml_9]; rfl) (by decide) rfl (zc_mI h (fun r3 C3 h => ?_))
    refine zw_if_eq (n := 14) d7_11 rfl (zite h (fun h => ?_) (fun h => ?_))
    · skip
      refine zw_aload_n (n := 25) d7_24 rfl rfl ?_
      refine zw_bipush (n := 27) d7_25 rfl zk_b_m2 ?_
      refine zw_cI (n := 30) d7_27 (zs_V rfl rfl rfl rfl (by decide) (zj_4 hS).1 (zq_4 hS)) (by rw [ml_10]; rfl) (by decide) rfl (zc_mI h (fun r4 C4 h => ?_))
      exact zw_iret d7_30 rfl ⟨_, rfl, h⟩
    · skip
      refine zw_iload_n (n := 15) d7_14 rfl rfl ?_
      refine zw_if_lt (n := 18) d7_15 rfl (zite h (fun h => ?_) (fun h => ?_))
      · skip
        refine zw_aload_n (n := 25) d7_24 rfl rfl ?_
        refine zw_bipush (n := 27) d7_25 rfl zk_b_m2 ?_
        refine zw_cI (n := 30) d7_27 (zs_V rfl rfl rfl rfl (by decide) (zj_4 hS).1 (zq_4 hS)) (by rw [ml_10]; rfl) (by decide) rfl (zc_mI h (fun r5 C5 h => ?_))
        exact zw_iret d7_30 rfl ⟨_, rfl, h⟩
      · skip
        refine zw_iload_n (n := 19) d7_18 rfl rfl ?_
        refine zw_bipush (n := 21) d7_19 rfl zk_b_40 ?_
        refine zw_ic_le (n := 24) d7_21 rfl (zite h (fun h => ?_) (fun h => ?_))
        · skip
          refine zw_aload_n (n := 25) d7_24 rfl rfl ?_
          refine zw_bipush (n := 27) d7_25 rfl zk_b_m2 ?_
          refine zw_cI (n := 30) d7_27 (zs_V rfl rfl rfl rfl (by decide) (zj_4 hS).1 (zq_4 hS)) (by rw [ml_10]; rfl) (by decide) rfl (zc_mI h (fun r6 C6 h => ?_))
          exact zw_iret d7_30 rfl ⟨_, rfl, h⟩
        · skip
          refine zw_aload_n (n := 32) d7_31 rfl rfl ?_
          refine zw_getr (n := 35) d7_32 rfl (zj_4 hS).1 (zj_4 hS).2 (zr_4_4 hS) ?_
          refine zw_iload_n (n := 36) d7_35 rfl rfl ?_
          refine zw_iload_n (n := 37) d7_36 rfl rfl ?_
          refine zw_iload_n (n := 38) d7_37 rfl rfl ?_
          refine zw_cV (n := 41) d7_38 (zs_V rfl rfl rfl rfl (by decide) (zj_2 (zo_4_4 hS)).1 (zq_2 (zo_4_4 hS))) (by rw [ml_13]; rfl) (by decide) rfl (zc_mV h (fun C7 h => ?_))
          refine zw_iconst (n := 42) d7_41 rfl zk_i_1 ?_
          exact zw_iret d7_42 rfl ⟨_, rfl, h⟩

set_option maxRecDepth 20000 in
theorem zf18 (pc : Nat) : zt_code 18 pc = zt_fd zl_18 pc := rfl
theorem d18_0 : zt_code 18 0 = some (.iload_n 1, 0, 0, 0) := (zf18 0).trans rfl
theorem d18_1 : zt_code 18 1 = some (.invokestatic 62, 8, 1, -1) := (zf18 1).trans rfl
theorem d18_4 : zt_code 18 4 = some (.ifCond .ne (10), 0, 14, 0) := (zf18 4).trans rfl
theorem d18_7 : zt_code 18 7 = some (.aload_n 0, 0, 0, 0) := (zf18 7).trans rfl
theorem d18_8 : zt_code 18 8 = some (.bipush (-2), 0, 0, 0) := (zf18 8).trans rfl
theorem d18_10 : zt_code 18 10 = some (.invokevirtual 69, 10, 2, 4) := (zf18 10).trans rfl
theorem d18_13 : zt_code 18 13 = some (.ireturn, 0, 0, 0) := (zf18 13).trans rfl
theorem d18_14 : zt_code 18 14 = some (.aload_n 0, 0, 0, 0) := (zf18 14).trans rfl
theorem d18_15 : zt_code 18 15 = some (.getfield 32, 4, 4, 1) := (zf18 15).trans rfl
theorem d18_18 : zt_code 18 18 = some (.iload_n 1, 0, 0, 0) := (zf18 18).trans rfl
theorem d18_19 : zt_code 18 19 = some (.invokevirtual 77, 19, 2, 2) := (zf18 19).trans rfl
theorem d18_22 : zt_code 18 22 = some (.istore 5, 0, 0, 0) := (zf18 22).trans rfl
theorem d18_24 : zt_code 18 24 = some (.iload 5, 0, 0, 0) := (zf18 24).trans rfl
theorem d18_26 : zt_code 18 26 = some (.ifCond .eq (10), 0, 36, 0) := (zf18 26).trans rfl
theorem d18_29 : zt_code 18 29 = some (.aload_n 0, 0, 0, 0) := (zf18 29).trans rfl
theorem d18_30 : zt_code 18 30 = some (.iload 5, 0, 0, 0) := (zf18 30).trans rfl
theorem d18_32 : zt_code 18 32 = some (.invokevirtual 69, 10, 2, 4) := (zf18 32).trans rfl
theorem d18_35 : zt_code 18 35 = some (.ireturn, 0, 0, 0) := (zf18 35).trans rfl
theorem d18_36 : zt_code 18 36 = some (.iload_n 2, 0, 0, 0) := (zf18 36).trans rfl
theorem d18_37 : zt_code 18 37 = some (.ifCond .lt (15), 0, 52, 0) := (zf18 37).trans rfl
theorem d18_40 : zt_code 18 40 = some (.iload_n 2, 0, 0, 0) := (zf18 40).trans rfl
theorem d18_41 : zt_code 18 41 = some (.aload_n 0, 0, 0, 0) := (zf18 41).trans rfl
theorem d18_42 : zt_code 18 42 = some (.getfield 32, 4, 4, 1) := (zf18 42).trans rfl
theorem d18_45 : zt_code 18 45 = some (.iload_n 1, 0, 0, 0) := (zf18 45).trans rfl
theorem d18_46 : zt_code 18 46 = some (.invokevirtual 80, 15, 2, 2) := (zf18 46).trans rfl
theorem d18_49 : zt_code 18 49 = some (.if_icmp .lt (10), 0, 59, 0) := (zf18 49).trans rfl
theorem d18_52 : zt_code 18 52 = some (.aload_n 0, 0, 0, 0) := (zf18 52).trans rfl
theorem d18_53 : zt_code 18 53 = some (.bipush (-2), 0, 0, 0) := (zf18 53).trans rfl
theorem d18_55 : zt_code 18 55 = some (.invokevirtual 69, 10, 2, 4) := (zf18 55).trans rfl
theorem d18_58 : zt_code 18 58 = some (.ireturn, 0, 0, 0) := (zf18 58).trans rfl
theorem d18_59 : zt_code 18 59 = some (.aload_n 0, 0, 0, 0) := (zf18 59).trans rfl
theorem d18_60 : zt_code 18 60 = some (.getfield 32, 4, 4, 1) := (zf18 60).trans rfl
theorem d18_63 : zt_code 18 63 = some (.iload_n 1, 0, 0, 0) := (zf18 63).trans rfl
theorem d18_64 : zt_code 18 64 = some (.iload_n 2, 0, 0, 0) := (zf18 64).trans rfl
theorem d18_65 : zt_code 18 65 = some (.lload_n 3, 0, 0, 0) := (zf18 65).trans rfl
theorem d18_66 : zt_code 18 66 = some (.invokevirtual 83, 14, 4, 2) := (zf18 66).trans rfl
theorem d18_69 : zt_code 18 69 = some (.iconst (1), 0, 0, 0) := (zf18 69).trans rfl
theorem d18_70 : zt_code 18 70 = some (.ireturn, 0, 0, 0) := (zf18 70).trans rfl
/-- FirstAtTheFirst.set(IIJ)I -/
theorem vc18 {X : zX} {S : zx_S} {C : zx_C} {q : Int32 → zx_C → Prop} {e : Nat} {a1 : Int32} {a2 : Int32} {a3 : Int64} (hS : zs_4 S e) (h : zCd X 0 8 [.int a1] S C (zQi (fun r1 C1 => if (r1 : Int32) = 0 then (zCd X 1 10 [.ref e, .int (-2)] S C1 (zQi (fun r2 C2 => q r2 C2))) else (zCd X 2 19 [.ref (e + 18), .int a1] S C1 (zQi (fun r3 C3 => if (r3 : Int32) = 0 then (if (a2 : Int32) < 0 then (zCd X 1 10 [.ref e, .int (-2)] S C3 (zQi (fun r4 C4 => q r4 C4))) else (zCd X 2 15 [.ref (e + 18), .int a1] S C3 (zQi (fun r5 C5 => if (a2 : Int32) < r5 then (zCd X 3 14 [.ref (e + 18), .int a1, .int a2, .long a3] S C5 (zQv (fun C6 => q 1 C6))) else (zCd X 1 10 [.ref e, .int (-2)] S C5 (zQi (fun r7 C7 => q r7 C7))))))) else (zCd X 1 10 [.ref e, .int r3] S C3 (zQi (fun r8 C8 => q r8 C8))))))))) : zCd X 4 18 [.ref e, .int a1, .int a2, .long a3] S C (zQi q) := by
  refine zc_in ml_18 rfl ?_
  refine zw_iload_n (n := 1) d18_0 rfl rfl ?_
  refine zw_cI (n := 4) d18_1 (zs_S rfl rfl rfl rfl) (by rw [ml_8]; rfl) (by decide) rfl (zc_mI h (fun r1 C1 h => ?_))
  refine zw_if_ne (n := 7) d18_4 rfl (zite h (fun h => ?_) (fun h => ?_))
  · skip
    refine zw_aload_n (n := 8) d18_7 rfl rfl ?_
    refine zw_bipush (n := 10) d18_8 rfl zk_b_m2 ?_
    refine zw_cI (n := 13) d18_10 (zs_V rfl rfl rfl rfl (by decide) (zj_4 hS).1 (zq_4 hS)) (by rw [ml_10]; rfl) (by decide) rfl (zc_mI h (fun r2 C2 h => ?_))
    exact zw_iret d18_13 rfl ⟨_, rfl, h⟩
  · skip
    refine zw_aload_n (n := 15) d18_14 rfl rfl ?_
    refine zw_getr (n := 18) d18_15 rfl (zj_4 hS).1 (zj_4 hS).2 (zr_4_4 hS) ?_
    refine zw_iload_n (n := 19) d18_18 rfl rfl ?_
    refine zw_cI (n := 22) d18_19 (zs_V rfl rfl rfl rfl (by decide) (zj_2 (zo_4_4 hS)).1 (zq_2 (zo_4_4 hS))) (by rw [ml_19]; rfl) (by decide) rfl (zc_mI h (fun r3 C3 h => ?_))
    refine zw_istore (n := 24) d18_22 rfl rfl rfl ?_
    refine zw_iload (n := 26) d18_24 rfl rfl ?_
    refine zw_if_eq (n := 29) d18_26 rfl (zite h (fun h => ?_) (fun h => ?_))
    · skip
      refine zw_iload_n (n := 37) d18_36 rfl rfl ?_
      refine zw_if_lt (n := 40) d18_37 rfl (zite h (fun h => ?_) (fun h => ?_))
      · skip
        refine zw_aload_n (n := 53) d18_52 rfl rfl ?_
        refine zw_bipush (n := 55) d18_53 rfl zk_b_m2 ?_
        refine zw_cI (n := 58) d18_55 (zs_V rfl rfl rfl rfl (by decide) (zj_4 hS).1 (zq_4 hS)) (by rw [ml_10]; rfl) (by decide) rfl (zc_mI h (fun r4 C4 h => ?_))
        exact zw_iret d18_58 rfl ⟨_, rfl, h⟩
      · skip
        refine zw_iload_n (n := 41) d18_40 rfl rfl ?_
        refine zw_aload_n (n := 42) d18_41 rfl rfl ?_
        refine zw_getr (n := 45) d18_42 rfl (zj_4 hS).1 (zj_4 hS).2 (zr_4_4 hS) ?_
        refine zw_iload_n (n := 46) d18_45 rfl rfl ?_
        refine zw_cI (n := 49) d18_46 (zs_V rfl rfl rfl rfl (by decide) (zj_2 (zo_4_4 hS)).1 (zq_2 (zo_4_4 hS))) (by rw [ml_15]; rfl) (by decide) rfl (zc_mI h (fun r5 C5 h => ?_))
        refine zw_ic_lt (n := 52) d18_49 rfl (zite h (fun h => ?_) (fun h => ?_))
        · skip
          refine zw_aload_n (n := 60) d18_59 rfl rfl ?_
          refine zw_getr (n := 63) d18_60 rfl (zj_4 hS).1 (zj_4 hS).2 (zr_4_4 hS) ?_
          refine zw_iload_n (n := 64) d18_63 rfl rfl ?_
          refine zw_iload_n (n := 65) d18_64 rfl rfl ?_
          refine zw_lload_n (n := 66) d18_65 rfl rfl rfl ?_
          refine zw_cV (n := 69) d18_66 (zs_V rfl rfl rfl rfl (by decide) (zj_2 (zo_4_4 hS)).1 (zq_2 (zo_4_4 hS))) (by rw [ml_14]; rfl) (by decide) rfl (zc_mV h (fun C6 h => ?_))
          refine zw_iconst (n := 70) d18_69 rfl zk_i_1 ?_
          exact zw_iret d18_70 rfl ⟨_, rfl, h⟩
        · skip
          refine zw_aload_n (n := 53) d18_52 rfl rfl ?_
          refine zw_bipush (n := 55) d18_53 rfl zk_b_m2 ?_
          refine zw_cI (n := 58) d18_55 (zs_V rfl rfl rfl rfl (by decide) (zj_4 hS).1 (zq_4 hS)) (by rw [ml_10]; rfl) (by decide) rfl (zc_mI h (fun r7 C7 h => ?_))
          exact zw_iret d18_58 rfl ⟨_, rfl, h⟩
    · skip
      refine zw_aload_n (n := 30) d18_29 rfl rfl ?_
      refine zw_iload (n := 32) d18_30 rfl rfl ?_
      refine zw_cI (n := 35) d18_32 (zs_V rfl rfl rfl rfl (by decide) (zj_4 hS).1 (zq_4 hS)) (by rw [ml_10]; rfl) (by decide) rfl (zc_mI h (fun r8 C8 h => ?_))
      exact zw_iret d18_35 rfl ⟨_, rfl, h⟩

set_option maxRecDepth 20000 in
theorem zf20 (pc : Nat) : zt_code 20 pc = zt_fd zl_20 pc := rfl
theorem d20_0 : zt_code 20 0 = some (.iload_n 1, 0, 0, 0) := (zf20 0).trans rfl
theorem d20_1 : zt_code 20 1 = some (.invokestatic 62, 8, 1, -1) := (zf20 1).trans rfl
theorem d20_4 : zt_code 20 4 = some (.ifCond .eq (10), 0, 14, 0) := (zf20 4).trans rfl
theorem d20_7 : zt_code 20 7 = some (.iload_n 2, 0, 0, 0) := (zf20 7).trans rfl
theorem d20_8 : zt_code 20 8 = some (.invokestatic 62, 8, 1, -1) := (zf20 8).trans rfl
theorem d20_11 : zt_code 20 11 = some (.ifCond .ne (10), 0, 21, 0) := (zf20 11).trans rfl
theorem d20_14 : zt_code 20 14 = some (.aload_n 0, 0, 0, 0) := (zf20 14).trans rfl
theorem d20_15 : zt_code 20 15 = some (.bipush (-2), 0, 0, 0) := (zf20 15).trans rfl
theorem d20_17 : zt_code 20 17 = some (.invokevirtual 69, 10, 2, 4) := (zf20 17).trans rfl
theorem d20_20 : zt_code 20 20 = some (.ireturn, 0, 0, 0) := (zf20 20).trans rfl
theorem d20_21 : zt_code 20 21 = some (.aload_n 0, 0, 0, 0) := (zf20 21).trans rfl
theorem d20_22 : zt_code 20 22 = some (.getfield 32, 4, 4, 1) := (zf20 22).trans rfl
theorem d20_25 : zt_code 20 25 = some (.iload_n 1, 0, 0, 0) := (zf20 25).trans rfl
theorem d20_26 : zt_code 20 26 = some (.iload_n 2, 0, 0, 0) := (zf20 26).trans rfl
theorem d20_27 : zt_code 20 27 = some (.invokevirtual 87, 21, 3, 2) := (zf20 27).trans rfl
theorem d20_30 : zt_code 20 30 = some (.istore 6, 0, 0, 0) := (zf20 30).trans rfl
theorem d20_32 : zt_code 20 32 = some (.iload 6, 0, 0, 0) := (zf20 32).trans rfl
theorem d20_34 : zt_code 20 34 = some (.ifCond .eq (10), 0, 44, 0) := (zf20 34).trans rfl
theorem d20_37 : zt_code 20 37 = some (.aload_n 0, 0, 0, 0) := (zf20 37).trans rfl
theorem d20_38 : zt_code 20 38 = some (.iload 6, 0, 0, 0) := (zf20 38).trans rfl
theorem d20_40 : zt_code 20 40 = some (.invokevirtual 69, 10, 2, 4) := (zf20 40).trans rfl
theorem d20_43 : zt_code 20 43 = some (.ireturn, 0, 0, 0) := (zf20 43).trans rfl
theorem d20_44 : zt_code 20 44 = some (.iload_n 3, 0, 0, 0) := (zf20 44).trans rfl
theorem d20_45 : zt_code 20 45 = some (.ifCond .lt (44), 0, 89, 0) := (zf20 45).trans rfl
theorem d20_48 : zt_code 20 48 = some (.iload 4, 0, 0, 0) := (zf20 48).trans rfl
theorem d20_50 : zt_code 20 50 = some (.ifCond .lt (39), 0, 89, 0) := (zf20 50).trans rfl
theorem d20_53 : zt_code 20 53 = some (.iload 5, 0, 0, 0) := (zf20 53).trans rfl
theorem d20_55 : zt_code 20 55 = some (.ifCond .lt (34), 0, 89, 0) := (zf20 55).trans rfl
theorem d20_58 : zt_code 20 58 = some (.iload 5, 0, 0, 0) := (zf20 58).trans rfl
theorem d20_60 : zt_code 20 60 = some (.aload_n 0, 0, 0, 0) := (zf20 60).trans rfl
theorem d20_61 : zt_code 20 61 = some (.getfield 32, 4, 4, 1) := (zf20 61).trans rfl
theorem d20_64 : zt_code 20 64 = some (.iload_n 1, 0, 0, 0) := (zf20 64).trans rfl
theorem d20_65 : zt_code 20 65 = some (.invokevirtual 80, 15, 2, 2) := (zf20 65).trans rfl
theorem d20_68 : zt_code 20 68 = some (.iload_n 3, 0, 0, 0) := (zf20 68).trans rfl
theorem d20_69 : zt_code 20 69 = some (.isub, 0, 0, 0) := (zf20 69).trans rfl
theorem d20_70 : zt_code 20 70 = some (.if_icmp .gt (19), 0, 89, 0) := (zf20 70).trans rfl
theorem d20_73 : zt_code 20 73 = some (.iload 5, 0, 0, 0) := (zf20 73).trans rfl
theorem d20_75 : zt_code 20 75 = some (.aload_n 0, 0, 0, 0) := (zf20 75).trans rfl
theorem d20_76 : zt_code 20 76 = some (.getfield 32, 4, 4, 1) := (zf20 76).trans rfl
theorem d20_79 : zt_code 20 79 = some (.iload_n 2, 0, 0, 0) := (zf20 79).trans rfl
theorem d20_80 : zt_code 20 80 = some (.invokevirtual 80, 15, 2, 2) := (zf20 80).trans rfl
theorem d20_83 : zt_code 20 83 = some (.iload 4, 0, 0, 0) := (zf20 83).trans rfl
theorem d20_85 : zt_code 20 85 = some (.isub, 0, 0, 0) := (zf20 85).trans rfl
theorem d20_86 : zt_code 20 86 = some (.if_icmp .le (10), 0, 96, 0) := (zf20 86).trans rfl
theorem d20_89 : zt_code 20 89 = some (.aload_n 0, 0, 0, 0) := (zf20 89).trans rfl
theorem d20_90 : zt_code 20 90 = some (.bipush (-2), 0, 0, 0) := (zf20 90).trans rfl
theorem d20_92 : zt_code 20 92 = some (.invokevirtual 69, 10, 2, 4) := (zf20 92).trans rfl
theorem d20_95 : zt_code 20 95 = some (.ireturn, 0, 0, 0) := (zf20 95).trans rfl
theorem d20_96 : zt_code 20 96 = some (.aload_n 0, 0, 0, 0) := (zf20 96).trans rfl
theorem d20_97 : zt_code 20 97 = some (.getfield 32, 4, 4, 1) := (zf20 97).trans rfl
theorem d20_100 : zt_code 20 100 = some (.iload_n 1, 0, 0, 0) := (zf20 100).trans rfl
theorem d20_101 : zt_code 20 101 = some (.iload_n 2, 0, 0, 0) := (zf20 101).trans rfl
theorem d20_102 : zt_code 20 102 = some (.iload_n 3, 0, 0, 0) := (zf20 102).trans rfl
theorem d20_103 : zt_code 20 103 = some (.iload 4, 0, 0, 0) := (zf20 103).trans rfl
theorem d20_105 : zt_code 20 105 = some (.iload 5, 0, 0, 0) := (zf20 105).trans rfl
theorem d20_107 : zt_code 20 107 = some (.invokevirtual 91, 22, 6, 2) := (zf20 107).trans rfl
theorem d20_110 : zt_code 20 110 = some (.iload 5, 0, 0, 0) := (zf20 110).trans rfl
theorem d20_112 : zt_code 20 112 = some (.ireturn, 0, 0, 0) := (zf20 112).trans rfl
/-- FirstAtTheFirst.copy(IIIII)I -/
theorem vc20 {X : zX} {S : zx_S} {C : zx_C} {q : Int32 → zx_C → Prop} {e : Nat} {a1 : Int32} {a2 : Int32} {a3 : Int32} {a4 : Int32} {a5 : Int32} (hS : zs_4 S e) (h : zCd X 0 8 [.int a1] S C (zQi (fun r1 C1 => if (r1 : Int32) = 0 then (zCd X 1 10 [.ref e, .int (-2)] S C1 (zQi (fun r2 C2 => q r2 C2))) else (zCd X 0 8 [.int a2] S C1 (zQi (fun r3 C3 => if (r3 : Int32) = 0 then (zCd X 1 10 [.ref e, .int (-2)] S C3 (zQi (fun r4 C4 => q r4 C4))) else (zCd X 3 21 [.ref (e + 18), .int a1, .int a2] S C3 (zQi (fun r5 C5 => if (r5 : Int32) = 0 then (if (a3 : Int32) < 0 then (zCd X 1 10 [.ref e, .int (-2)] S C5 (zQi (fun r6 C6 => q r6 C6))) else (if (a4 : Int32) < 0 then (zCd X 1 10 [.ref e, .int (-2)] S C5 (zQi (fun r7 C7 => q r7 C7))) else (if (a5 : Int32) < 0 then (zCd X 1 10 [.ref e, .int (-2)] S C5 (zQi (fun r8 C8 => q r8 C8))) else (zCd X 2 15 [.ref (e + 18), .int a1] S C5 (zQi (fun r9 C9 => if ((r9 - a3) : Int32) < a5 then (zCd X 1 10 [.ref e, .int (-2)] S C9 (zQi (fun r10 C10 => q r10 C10))) else (zCd X 2 15 [.ref (e + 18), .int a2] S C9 (zQi (fun r11 C11 => if ((r11 - a4) : Int32) < a5 then (zCd X 1 10 [.ref e, .int (-2)] S C11 (zQi (fun r12 C12 => q r12 C12))) else (zCd X 4 22 [.ref (e + 18), .int a1, .int a2, .int a3, .int a4, .int a5] S C11 (zQv (fun C13 => q a5 C13)))))))))))) else (zCd X 1 10 [.ref e, .int r5] S C5 (zQi (fun r14 C14 => q r14 C14)))))))))))) : zCd X 5 20 [.ref e, .int a1, .int a2, .int a3, .int a4, .int a5] S C (zQi q) := by
  refine zc_in ml_20 rfl ?_
  refine zw_iload_n (n := 1) d20_0 rfl rfl ?_
  refine zw_cI (n := 4) d20_1 (zs_S rfl rfl rfl rfl) (by rw [ml_8]; rfl) (by decide) rfl (zc_mI h (fun r1 C1 h => ?_))
  refine zw_if_eq (n := 7) d20_4 rfl (zite h (fun h => ?_) (fun h => ?_))
  · skip
    refine zw_aload_n (n := 15) d20_14 rfl rfl ?_
    refine zw_bipush (n := 17) d20_15 rfl zk_b_m2 ?_
    refine zw_cI (n := 20) d20_17 (zs_V rfl rfl rfl rfl (by decide) (zj_4 hS).1 (zq_4 hS)) (by rw [ml_10]; rfl) (by decide) rfl (zc_mI h (fun r2 C2 h => ?_))
    exact zw_iret d20_20 rfl ⟨_, rfl, h⟩
  · skip
    refine zw_iload_n (n := 8) d20_7 rfl rfl ?_
    refine zw_cI (n := 11) d20_8 (zs_S rfl rfl rfl rfl) (by rw [ml_8]; rfl) (by decide) rfl (zc_mI h (fun r3 C3 h => ?_))
    refine zw_if_ne (n := 14) d20_11 rfl (zite h (fun h => ?_) (fun h => ?_))
    · skip
      refine zw_aload_n (n := 15) d20_14 rfl rfl ?_
      refine zw_bipush (n := 17) d20_15 rfl zk_b_m2 ?_
      refine zw_cI (n := 20) d20_17 (zs_V rfl rfl rfl rfl (by decide) (zj_4 hS).1 (zq_4 hS)) (by rw [ml_10]; rfl) (by decide) rfl (zc_mI h (fun r4 C4 h => ?_))
      exact zw_iret d20_20 rfl ⟨_, rfl, h⟩
    · skip
      refine zw_aload_n (n := 22) d20_21 rfl rfl ?_
      refine zw_getr (n := 25) d20_22 rfl (zj_4 hS).1 (zj_4 hS).2 (zr_4_4 hS) ?_
      refine zw_iload_n (n := 26) d20_25 rfl rfl ?_
      refine zw_iload_n (n := 27) d20_26 rfl rfl ?_
      refine zw_cI (n := 30) d20_27 (zs_V rfl rfl rfl rfl (by decide) (zj_2 (zo_4_4 hS)).1 (zq_2 (zo_4_4 hS))) (by rw [ml_21]; rfl) (by decide) rfl (zc_mI h (fun r5 C5 h => ?_))
      refine zw_istore (n := 32) d20_30 rfl rfl rfl ?_
      refine zw_iload (n := 34) d20_32 rfl rfl ?_
      refine zw_if_eq (n := 37) d20_34 rfl (zite h (fun h => ?_) (fun h => ?_))
      · skip
        refine zw_iload_n (n := 45) d20_44 rfl rfl ?_
        refine zw_if_lt (n := 48) d20_45 rfl (zite h (fun h => ?_) (fun h => ?_))
        · skip
          refine zw_aload_n (n := 90) d20_89 rfl rfl ?_
          refine zw_bipush (n := 92) d20_90 rfl zk_b_m2 ?_
          refine zw_cI (n := 95) d20_92 (zs_V rfl rfl rfl rfl (by decide) (zj_4 hS).1 (zq_4 hS)) (by rw [ml_10]; rfl) (by decide) rfl (zc_mI h (fun r6 C6 h => ?_))
          exact zw_iret d20_95 rfl ⟨_, rfl, h⟩
        · skip
          refine zw_iload (n := 50) d20_48 rfl rfl ?_
          refine zw_if_lt (n := 53) d20_50 rfl (zite h (fun h => ?_) (fun h => ?_))
          · skip
            refine zw_aload_n (n := 90) d20_89 rfl rfl ?_
            refine zw_bipush (n := 92) d20_90 rfl zk_b_m2 ?_
            refine zw_cI (n := 95) d20_92 (zs_V rfl rfl rfl rfl (by decide) (zj_4 hS).1 (zq_4 hS)) (by rw [ml_10]; rfl) (by decide) rfl (zc_mI h (fun r7 C7 h => ?_))
            exact zw_iret d20_95 rfl ⟨_, rfl, h⟩
          · skip
            refine zw_iload (n := 55) d20_53 rfl rfl ?_
            refine zw_if_lt (n := 58) d20_55 rfl (zite h (fun h => ?_) (fun h => ?_))
            · skip
              refine zw_aload_n (n := 90) d20_89 rfl rfl ?_
              refine zw_bipush (n := 92) d20_90 rfl zk_b_m2 ?_
              refine zw_cI (n := 95) d20_92 (zs_V rfl rfl rfl rfl (by decide) (zj_4 hS).1 (zq_4 hS)) (by rw [ml_10]; rfl) (by decide) rfl (zc_mI h (fun r8 C8 h => ?_))
              exact zw_iret d20_95 rfl ⟨_, rfl, h⟩
            · skip
              refine zw_iload (n := 60) d20_58 rfl rfl ?_
              refine zw_aload_n (n := 61) d20_60 rfl rfl ?_
              refine zw_getr (n := 64) d20_61 rfl (zj_4 hS).1 (zj_4 hS).2 (zr_4_4 hS) ?_
              refine zw_iload_n (n := 65) d20_64 rfl rfl ?_
              refine zw_cI (n := 68) d20_65 (zs_V rfl rfl rfl rfl (by decide) (zj_2 (zo_4_4 hS)).1 (zq_2 (zo_4_4 hS))) (by rw [ml_15]; rfl) (by decide) rfl (zc_mI h (fun r9 C9 h => ?_))
              refine zw_iload_n (n := 69) d20_68 rfl rfl ?_
              refine zw_isub (n := 70) d20_69 rfl ?_
              refine zw_ic_gt (n := 73) d20_70 rfl (zite h (fun h => ?_) (fun h => ?_))
              · skip
                refine zw_aload_n (n := 90) d20_89 rfl rfl ?_
                refine zw_bipush (n := 92) d20_90 rfl zk_b_m2 ?_
                refine zw_cI (n := 95) d20_92 (zs_V rfl rfl rfl rfl (by decide) (zj_4 hS).1 (zq_4 hS)) (by rw [ml_10]; rfl) (by decide) rfl (zc_mI h (fun r10 C10 h => ?_))
                exact zw_iret d20_95 rfl ⟨_, rfl, h⟩
              · skip
                refine zw_iload (n := 75) d20_73 rfl rfl ?_
                refine zw_aload_n (n := 76) d20_75 rfl rfl ?_
                refine zw_getr (n := 79) d20_76 rfl (zj_4 hS).1 (zj_4 hS).2 (zr_4_4 hS) ?_
                refine zw_iload_n (n := 80) d20_79 rfl rfl ?_
                refine zw_cI (n := 83) d20_80 (zs_V rfl rfl rfl rfl (by decide) (zj_2 (zo_4_4 hS)).1 (zq_2 (zo_4_4 hS))) (by rw [ml_15]; rfl) (by decide) rfl (zc_mI h (fun r11 C11 h => ?_))
                refine zw_iload (n := 85) d20_83 rfl rfl ?_
                refine zw_isub (n := 86) d20_85 rfl ?_
                refine zw_ic_le (n := 89) d20_86 rfl (zite h (fun h => ?_) (fun h => ?_))
                · skip
                  refine zw_aload_n (n := 90) d20_89 rfl rfl ?_
                  refine zw_bipush (n := 92) d20_90 rfl zk_b_m2 ?_
                  refine zw_cI (n := 95) d20_92 (zs_V rfl rfl rfl rfl (by decide) (zj_4 hS).1 (zq_4 hS)) (by rw [ml_10]; rfl) (by decide) rfl (zc_mI h (fun r12 C12 h => ?_))
                  exact zw_iret d20_95 rfl ⟨_, rfl, h⟩
                · skip
                  refine zw_aload_n (n := 97) d20_96 rfl rfl ?_
                  refine zw_getr (n := 100) d20_97 rfl (zj_4 hS).1 (zj_4 hS).2 (zr_4_4 hS) ?_
                  refine zw_iload_n (n := 101) d20_100 rfl rfl ?_
                  refine zw_iload_n (n := 102) d20_101 rfl rfl ?_
                  refine zw_iload_n (n := 103) d20_102 rfl rfl ?_
                  refine zw_iload (n := 105) d20_103 rfl rfl ?_
                  refine zw_iload (n := 107) d20_105 rfl rfl ?_
                  refine zw_cV (n := 110) d20_107 (zs_V rfl rfl rfl rfl (by decide) (zj_2 (zo_4_4 hS)).1 (zq_2 (zo_4_4 hS))) (by rw [ml_22]; rfl) (by decide) rfl (zc_mV h (fun C13 h => ?_))
                  refine zw_iload (n := 112) d20_110 rfl rfl ?_
                  exact zw_iret d20_112 rfl ⟨_, rfl, h⟩
      · skip
        refine zw_aload_n (n := 38) d20_37 rfl rfl ?_
        refine zw_iload (n := 40) d20_38 rfl rfl ?_
        refine zw_cI (n := 43) d20_40 (zs_V rfl rfl rfl rfl (by decide) (zj_4 hS).1 (zq_4 hS)) (by rw [ml_10]; rfl) (by decide) rfl (zc_mI h (fun r14 C14 h => ?_))
        exact zw_iret d20_43 rfl ⟨_, rfl, h⟩

set_option maxRecDepth 20000 in
theorem zf24 (pc : Nat) : zt_code 24 pc = zt_fd zl_24 pc := rfl
theorem d24_0 : zt_code 24 0 = some (.aload_n 0, 0, 0, 0) := (zf24 0).trans rfl
theorem d24_1 : zt_code 24 1 = some (.getfield 32, 4, 4, 1) := (zf24 1).trans rfl
theorem d24_4 : zt_code 24 4 = some (.iload_n 1, 0, 0, 0) := (zf24 4).trans rfl
theorem d24_5 : zt_code 24 5 = some (.iload_n 2, 0, 0, 0) := (zf24 5).trans rfl
theorem d24_6 : zt_code 24 6 = some (.invokevirtual 95, 23, 3, 2) := (zf24 6).trans rfl
theorem d24_9 : zt_code 24 9 = some (.lreturn, 0, 0, 0) := (zf24 9).trans rfl
/-- FirstAtTheFirst.element(II)J -/
theorem vc24 {X : zX} {S : zx_S} {C : zx_C} {q : Int64 → zx_C → Prop} {e : Nat} {a1 : Int32} {a2 : Int32} (hS : zs_4 S e) (h : zCd X 3 23 [.ref (e + 18), .int a1, .int a2] S C (zQl (fun r1 C1 => q r1 C1))) : zCd X 4 24 [.ref e, .int a1, .int a2] S C (zQl q) := by
  refine zc_in ml_24 rfl ?_
  refine zw_aload_n (n := 1) d24_0 rfl rfl ?_
  refine zw_getr (n := 4) d24_1 rfl (zj_4 hS).1 (zj_4 hS).2 (zr_4_4 hS) ?_
  refine zw_iload_n (n := 5) d24_4 rfl rfl ?_
  refine zw_iload_n (n := 6) d24_5 rfl rfl ?_
  refine zw_cL (n := 9) d24_6 (zs_V rfl rfl rfl rfl (by decide) (zj_2 (zo_4_4 hS)).1 (zq_2 (zo_4_4 hS))) (by rw [ml_23]; rfl) (by decide) rfl (zc_mL h (fun r1 C1 h => ?_))
  exact zw_lret d24_9 ⟨_, rfl, h⟩

set_option maxRecDepth 20000 in
theorem zf25 (pc : Nat) : zt_code 25 pc = zt_fd zl_25 pc := rfl
theorem d25_0 : zt_code 25 0 = some (.aload_n 0, 0, 0, 0) := (zf25 0).trans rfl
theorem d25_1 : zt_code 25 1 = some (.getfield 32, 4, 4, 1) := (zf25 1).trans rfl
theorem d25_4 : zt_code 25 4 = some (.iload_n 1, 0, 0, 0) := (zf25 4).trans rfl
theorem d25_5 : zt_code 25 5 = some (.invokevirtual 99, 16, 2, 2) := (zf25 5).trans rfl
theorem d25_8 : zt_code 25 8 = some (.ireturn, 0, 0, 0) := (zf25 8).trans rfl
/-- FirstAtTheFirst.holds(I)I -/
theorem vc25 {X : zX} {S : zx_S} {C : zx_C} {q : Int32 → zx_C → Prop} {e : Nat} {a1 : Int32} (hS : zs_4 S e) (h : zCd X 1 16 [.ref (e + 18), .int a1] S C (zQi (fun r1 C1 => q r1 C1))) : zCd X 2 25 [.ref e, .int a1] S C (zQi q) := by
  refine zc_in ml_25 rfl ?_
  refine zw_aload_n (n := 1) d25_0 rfl rfl ?_
  refine zw_getr (n := 4) d25_1 rfl (zj_4 hS).1 (zj_4 hS).2 (zr_4_4 hS) ?_
  refine zw_iload_n (n := 5) d25_4 rfl rfl ?_
  refine zw_cI (n := 8) d25_5 (zs_V rfl rfl rfl rfl (by decide) (zj_2 (zo_4_4 hS)).1 (zq_2 (zo_4_4 hS))) (by rw [ml_16]; rfl) (by decide) rfl (zc_mI h (fun r1 C1 h => ?_))
  exact zw_iret d25_8 rfl ⟨_, rfl, h⟩

set_option maxRecDepth 20000 in
theorem zf26 (pc : Nat) : zt_code 26 pc = zt_fd zl_26 pc := rfl
theorem d26_0 : zt_code 26 0 = some (.iload_n 1, 0, 0, 0) := (zf26 0).trans rfl
theorem d26_1 : zt_code 26 1 = some (.invokestatic 62, 8, 1, -1) := (zf26 1).trans rfl
theorem d26_4 : zt_code 26 4 = some (.ifCond .eq (19), 0, 23, 0) := (zf26 4).trans rfl
theorem d26_7 : zt_code 26 7 = some (.iload_n 2, 0, 0, 0) := (zf26 7).trans rfl
theorem d26_8 : zt_code 26 8 = some (.iconst (-1), 0, 0, 0) := (zf26 8).trans rfl
theorem d26_9 : zt_code 26 9 = some (.if_icmp .eq (21), 0, 30, 0) := (zf26 9).trans rfl
theorem d26_12 : zt_code 26 12 = some (.aload_n 0, 0, 0, 0) := (zf26 12).trans rfl
theorem d26_13 : zt_code 26 13 = some (.getfield 12, 4, 0, 1) := (zf26 13).trans rfl
theorem d26_16 : zt_code 26 16 = some (.iload_n 2, 0, 0, 0) := (zf26 16).trans rfl
theorem d26_17 : zt_code 26 17 = some (.invokevirtual 102, 27, 2, 0) := (zf26 17).trans rfl
theorem d26_20 : zt_code 26 20 = some (.ifCond .ne (10), 0, 30, 0) := (zf26 20).trans rfl
theorem d26_23 : zt_code 26 23 = some (.aload_n 0, 0, 0, 0) := (zf26 23).trans rfl
theorem d26_24 : zt_code 26 24 = some (.bipush (-2), 0, 0, 0) := (zf26 24).trans rfl
theorem d26_26 : zt_code 26 26 = some (.invokevirtual 69, 10, 2, 4) := (zf26 26).trans rfl
theorem d26_29 : zt_code 26 29 = some (.ireturn, 0, 0, 0) := (zf26 29).trans rfl
theorem d26_30 : zt_code 26 30 = some (.iload_n 2, 0, 0, 0) := (zf26 30).trans rfl
theorem d26_31 : zt_code 26 31 = some (.iconst (-1), 0, 0, 0) := (zf26 31).trans rfl
theorem d26_32 : zt_code 26 32 = some (.if_icmp .ne (14), 0, 46, 0) := (zf26 32).trans rfl
theorem d26_35 : zt_code 26 35 = some (.aload_n 0, 0, 0, 0) := (zf26 35).trans rfl
theorem d26_36 : zt_code 26 36 = some (.getfield 32, 4, 4, 1) := (zf26 36).trans rfl
theorem d26_39 : zt_code 26 39 = some (.iload_n 1, 0, 0, 0) := (zf26 39).trans rfl
theorem d26_40 : zt_code 26 40 = some (.invokevirtual 105, 28, 2, 2) := (zf26 40).trans rfl
theorem d26_43 : zt_code 26 43 = some (.goto (20), 0, 63, 0) := (zf26 43).trans rfl
theorem d26_46 : zt_code 26 46 = some (.aload_n 0, 0, 0, 0) := (zf26 46).trans rfl
theorem d26_47 : zt_code 26 47 = some (.getfield 32, 4, 4, 1) := (zf26 47).trans rfl
theorem d26_50 : zt_code 26 50 = some (.iload_n 1, 0, 0, 0) := (zf26 50).trans rfl
theorem d26_51 : zt_code 26 51 = some (.iload_n 2, 0, 0, 0) := (zf26 51).trans rfl
theorem d26_52 : zt_code 26 52 = some (.aload_n 0, 0, 0, 0) := (zf26 52).trans rfl
theorem d26_53 : zt_code 26 53 = some (.getfield 12, 4, 0, 1) := (zf26 53).trans rfl
theorem d26_56 : zt_code 26 56 = some (.iload_n 2, 0, 0, 0) := (zf26 56).trans rfl
theorem d26_57 : zt_code 26 57 = some (.invokevirtual 109, 29, 2, 0) := (zf26 57).trans rfl
theorem d26_60 : zt_code 26 60 = some (.invokevirtual 112, 30, 4, 2) := (zf26 60).trans rfl
theorem d26_63 : zt_code 26 63 = some (.iconst (1), 0, 0, 0) := (zf26 63).trans rfl
theorem d26_64 : zt_code 26 64 = some (.ireturn, 0, 0, 0) := (zf26 64).trans rfl
/-- FirstAtTheFirst.show(II)I -/
theorem vc26 {X : zX} {S : zx_S} {C : zx_C} {q : Int32 → zx_C → Prop} {e : Nat} {a1 : Int32} {a2 : Int32} (hS : zs_4 S e) (h : zCd X 0 8 [.int a1] S C (zQi (fun r1 C1 => if (r1 : Int32) = 0 then (zCd X 1 10 [.ref e, .int (-2)] S C1 (zQi (fun r2 C2 => q r2 C2))) else (if (a2 : Int32) = (-1) then (if (a2 : Int32) = (-1) then (zCd X 1 28 [.ref (e + 18), .int a1] S C1 (zQv (fun C3 => q 1 C3))) else (zCd X 1 29 [.ref (e + 1), .int a2] S C1 (zQi (fun r4 C4 => zCd X 1 30 [.ref (e + 18), .int a1, .int a2, .int r4] S C4 (zQv (fun C5 => q 1 C5)))))) else (zCd X 0 27 [.ref (e + 1), .int a2] S C1 (zQi (fun r6 C6 => if (r6 : Int32) = 0 then (zCd X 1 10 [.ref e, .int (-2)] S C6 (zQi (fun r7 C7 => q r7 C7))) else (if (a2 : Int32) = (-1) then (zCd X 1 28 [.ref (e + 18), .int a1] S C6 (zQv (fun C8 => q 1 C8))) else (zCd X 1 29 [.ref (e + 1), .int a2] S C6 (zQi (fun r9 C9 => zCd X 1 30 [.ref (e + 18), .int a1, .int a2, .int r9] S C9 (zQv (fun C10 => q 1 C10))))))))))))) : zCd X 2 26 [.ref e, .int a1, .int a2] S C (zQi q) := by
  refine zc_in ml_26 rfl ?_
  refine zw_iload_n (n := 1) d26_0 rfl rfl ?_
  refine zw_cI (n := 4) d26_1 (zs_S rfl rfl rfl rfl) (by rw [ml_8]; rfl) (by decide) rfl (zc_mI h (fun r1 C1 h => ?_))
  refine zw_if_eq (n := 7) d26_4 rfl (zite h (fun h => ?_) (fun h => ?_))
  · skip
    refine zw_aload_n (n := 24) d26_23 rfl rfl ?_
    refine zw_bipush (n := 26) d26_24 rfl zk_b_m2 ?_
    refine zw_cI (n := 29) d26_26 (zs_V rfl rfl rfl rfl (by decide) (zj_4 hS).1 (zq_4 hS)) (by rw [ml_10]; rfl) (by decide) rfl (zc_mI h (fun r2 C2 h => ?_))
    exact zw_iret d26_29 rfl ⟨_, rfl, h⟩
  · skip
    refine zw_iload_n (n := 8) d26_7 rfl rfl ?_
    refine zw_iconst (n := 9) d26_8 rfl zk_i_m1 ?_
    refine zw_ic_eq (n := 12) d26_9 rfl (zite h (fun h => ?_) (fun h => ?_))
    · skip
      refine zw_iload_n (n := 31) d26_30 rfl rfl ?_
      refine zw_iconst (n := 32) d26_31 rfl zk_i_m1 ?_
      refine zw_ic_ne (n := 35) d26_32 rfl (zite h (fun h => ?_) (fun h => ?_))
      · skip
        refine zw_aload_n (n := 36) d26_35 rfl rfl ?_
        refine zw_getr (n := 39) d26_36 rfl (zj_4 hS).1 (zj_4 hS).2 (zr_4_4 hS) ?_
        refine zw_iload_n (n := 40) d26_39 rfl rfl ?_
        refine zw_cV (n := 43) d26_40 (zs_V rfl rfl rfl rfl (by decide) (zj_2 (zo_4_4 hS)).1 (zq_2 (zo_4_4 hS))) (by rw [ml_28]; rfl) (by decide) rfl (zc_mV h (fun C3 h => ?_))
        refine zw_goto d26_43 ?_
        refine zw_iconst (n := 64) d26_63 rfl zk_i_1 ?_
        exact zw_iret d26_64 rfl ⟨_, rfl, h⟩
      · skip
        refine zw_aload_n (n := 47) d26_46 rfl rfl ?_
        refine zw_getr (n := 50) d26_47 rfl (zj_4 hS).1 (zj_4 hS).2 (zr_4_4 hS) ?_
        refine zw_iload_n (n := 51) d26_50 rfl rfl ?_
        refine zw_iload_n (n := 52) d26_51 rfl rfl ?_
        refine zw_aload_n (n := 53) d26_52 rfl rfl ?_
        refine zw_getr (n := 56) d26_53 rfl (zj_4 hS).1 (zj_4 hS).2 (zr_4_0 hS) ?_
        refine zw_iload_n (n := 57) d26_56 rfl rfl ?_
        refine zw_cI (n := 60) d26_57 (zs_V rfl rfl rfl rfl (by decide) (zj_0 (zo_4_0 hS)).1 (zq_0 (zo_4_0 hS))) (by rw [ml_29]; rfl) (by decide) rfl (zc_mI h (fun r4 C4 h => ?_))
        refine zw_cV (n := 63) d26_60 (zs_V rfl rfl rfl rfl (by decide) (zj_2 (zo_4_4 hS)).1 (zq_2 (zo_4_4 hS))) (by rw [ml_30]; rfl) (by decide) rfl (zc_mV h (fun C5 h => ?_))
        refine zw_iconst (n := 64) d26_63 rfl zk_i_1 ?_
        exact zw_iret d26_64 rfl ⟨_, rfl, h⟩
    · skip
      refine zw_aload_n (n := 13) d26_12 rfl rfl ?_
      refine zw_getr (n := 16) d26_13 rfl (zj_4 hS).1 (zj_4 hS).2 (zr_4_0 hS) ?_
      refine zw_iload_n (n := 17) d26_16 rfl rfl ?_
      refine zw_cI (n := 20) d26_17 (zs_V rfl rfl rfl rfl (by decide) (zj_0 (zo_4_0 hS)).1 (zq_0 (zo_4_0 hS))) (by rw [ml_27]; rfl) (by decide) rfl (zc_mI h (fun r6 C6 h => ?_))
      refine zw_if_ne (n := 23) d26_20 rfl (zite h (fun h => ?_) (fun h => ?_))
      · skip
        refine zw_aload_n (n := 24) d26_23 rfl rfl ?_
        refine zw_bipush (n := 26) d26_24 rfl zk_b_m2 ?_
        refine zw_cI (n := 29) d26_26 (zs_V rfl rfl rfl rfl (by decide) (zj_4 hS).1 (zq_4 hS)) (by rw [ml_10]; rfl) (by decide) rfl (zc_mI h (fun r7 C7 h => ?_))
        exact zw_iret d26_29 rfl ⟨_, rfl, h⟩
      · skip
        refine zw_iload_n (n := 31) d26_30 rfl rfl ?_
        refine zw_iconst (n := 32) d26_31 rfl zk_i_m1 ?_
        refine zw_ic_ne (n := 35) d26_32 rfl (zite h (fun h => ?_) (fun h => ?_))
        · skip
          refine zw_aload_n (n := 36) d26_35 rfl rfl ?_
          refine zw_getr (n := 39) d26_36 rfl (zj_4 hS).1 (zj_4 hS).2 (zr_4_4 hS) ?_
          refine zw_iload_n (n := 40) d26_39 rfl rfl ?_
          refine zw_cV (n := 43) d26_40 (zs_V rfl rfl rfl rfl (by decide) (zj_2 (zo_4_4 hS)).1 (zq_2 (zo_4_4 hS))) (by rw [ml_28]; rfl) (by decide) rfl (zc_mV h (fun C8 h => ?_))
          refine zw_goto d26_43 ?_
          refine zw_iconst (n := 64) d26_63 rfl zk_i_1 ?_
          exact zw_iret d26_64 rfl ⟨_, rfl, h⟩
        · skip
          refine zw_aload_n (n := 47) d26_46 rfl rfl ?_
          refine zw_getr (n := 50) d26_47 rfl (zj_4 hS).1 (zj_4 hS).2 (zr_4_4 hS) ?_
          refine zw_iload_n (n := 51) d26_50 rfl rfl ?_
          refine zw_iload_n (n := 52) d26_51 rfl rfl ?_
          refine zw_aload_n (n := 53) d26_52 rfl rfl ?_
          refine zw_getr (n := 56) d26_53 rfl (zj_4 hS).1 (zj_4 hS).2 (zr_4_0 hS) ?_
          refine zw_iload_n (n := 57) d26_56 rfl rfl ?_
          refine zw_cI (n := 60) d26_57 (zs_V rfl rfl rfl rfl (by decide) (zj_0 (zo_4_0 hS)).1 (zq_0 (zo_4_0 hS))) (by rw [ml_29]; rfl) (by decide) rfl (zc_mI h (fun r9 C9 h => ?_))
          refine zw_cV (n := 63) d26_60 (zs_V rfl rfl rfl rfl (by decide) (zj_2 (zo_4_4 hS)).1 (zq_2 (zo_4_4 hS))) (by rw [ml_30]; rfl) (by decide) rfl (zc_mV h (fun C10 h => ?_))
          refine zw_iconst (n := 64) d26_63 rfl zk_i_1 ?_
          exact zw_iret d26_64 rfl ⟨_, rfl, h⟩

set_option maxRecDepth 20000 in
theorem zf31 (pc : Nat) : zt_code 31 pc = zt_fd zl_31 pc := rfl
theorem d31_0 : zt_code 31 0 = some (.iload_n 1, 0, 0, 0) := (zf31 0).trans rfl
theorem d31_1 : zt_code 31 1 = some (.invokestatic 62, 8, 1, -1) := (zf31 1).trans rfl
theorem d31_4 : zt_code 31 4 = some (.ifCond .eq (10), 0, 14, 0) := (zf31 4).trans rfl
theorem d31_7 : zt_code 31 7 = some (.iload_n 2, 0, 0, 0) := (zf31 7).trans rfl
theorem d31_8 : zt_code 31 8 = some (.invokestatic 115, 32, 1, -1) := (zf31 8).trans rfl
theorem d31_11 : zt_code 31 11 = some (.ifCond .ne (10), 0, 21, 0) := (zf31 11).trans rfl
theorem d31_14 : zt_code 31 14 = some (.aload_n 0, 0, 0, 0) := (zf31 14).trans rfl
theorem d31_15 : zt_code 31 15 = some (.bipush (-2), 0, 0, 0) := (zf31 15).trans rfl
theorem d31_17 : zt_code 31 17 = some (.invokevirtual 69, 10, 2, 4) := (zf31 17).trans rfl
theorem d31_20 : zt_code 31 20 = some (.ireturn, 0, 0, 0) := (zf31 20).trans rfl
theorem d31_21 : zt_code 31 21 = some (.aload_n 0, 0, 0, 0) := (zf31 21).trans rfl
theorem d31_22 : zt_code 31 22 = some (.getfield 32, 4, 4, 1) := (zf31 22).trans rfl
theorem d31_25 : zt_code 31 25 = some (.iload_n 1, 0, 0, 0) := (zf31 25).trans rfl
theorem d31_26 : zt_code 31 26 = some (.invokevirtual 118, 33, 2, 2) := (zf31 26).trans rfl
theorem d31_29 : zt_code 31 29 = some (.istore_n 3, 0, 0, 0) := (zf31 29).trans rfl
theorem d31_30 : zt_code 31 30 = some (.iload_n 3, 0, 0, 0) := (zf31 30).trans rfl
theorem d31_31 : zt_code 31 31 = some (.ifCond .eq (9), 0, 40, 0) := (zf31 31).trans rfl
theorem d31_34 : zt_code 31 34 = some (.aload_n 0, 0, 0, 0) := (zf31 34).trans rfl
theorem d31_35 : zt_code 31 35 = some (.iload_n 3, 0, 0, 0) := (zf31 35).trans rfl
theorem d31_36 : zt_code 31 36 = some (.invokevirtual 69, 10, 2, 4) := (zf31 36).trans rfl
theorem d31_39 : zt_code 31 39 = some (.ireturn, 0, 0, 0) := (zf31 39).trans rfl
theorem d31_40 : zt_code 31 40 = some (.aload_n 0, 0, 0, 0) := (zf31 40).trans rfl
theorem d31_41 : zt_code 31 41 = some (.getfield 32, 4, 4, 1) := (zf31 41).trans rfl
theorem d31_44 : zt_code 31 44 = some (.iload_n 1, 0, 0, 0) := (zf31 44).trans rfl
theorem d31_45 : zt_code 31 45 = some (.invokevirtual 121, 34, 2, 2) := (zf31 45).trans rfl
theorem d31_48 : zt_code 31 48 = some (.istore 4, 0, 0, 0) := (zf31 48).trans rfl
theorem d31_50 : zt_code 31 50 = some (.iload 4, 0, 0, 0) := (zf31 50).trans rfl
theorem d31_52 : zt_code 31 52 = some (.iload_n 2, 0, 0, 0) := (zf31 52).trans rfl
theorem d31_53 : zt_code 31 53 = some (.invokestatic 122, 35, 2, -1) := (zf31 53).trans rfl
theorem d31_56 : zt_code 31 56 = some (.ifCond .ne (10), 0, 66, 0) := (zf31 56).trans rfl
theorem d31_59 : zt_code 31 59 = some (.aload_n 0, 0, 0, 0) := (zf31 59).trans rfl
theorem d31_60 : zt_code 31 60 = some (.bipush (-3), 0, 0, 0) := (zf31 60).trans rfl
theorem d31_62 : zt_code 31 62 = some (.invokevirtual 69, 10, 2, 4) := (zf31 62).trans rfl
theorem d31_65 : zt_code 31 65 = some (.ireturn, 0, 0, 0) := (zf31 65).trans rfl
theorem d31_66 : zt_code 31 66 = some (.aload_n 0, 0, 0, 0) := (zf31 66).trans rfl
theorem d31_67 : zt_code 31 67 = some (.getfield 32, 4, 4, 1) := (zf31 67).trans rfl
theorem d31_70 : zt_code 31 70 = some (.iload_n 1, 0, 0, 0) := (zf31 70).trans rfl
theorem d31_71 : zt_code 31 71 = some (.invokevirtual 126, 36, 2, 2) := (zf31 71).trans rfl
theorem d31_74 : zt_code 31 74 = some (.istore 5, 0, 0, 0) := (zf31 74).trans rfl
theorem d31_76 : zt_code 31 76 = some (.aload_n 0, 0, 0, 0) := (zf31 76).trans rfl
theorem d31_77 : zt_code 31 77 = some (.getfield 12, 4, 0, 1) := (zf31 77).trans rfl
theorem d31_80 : zt_code 31 80 = some (.iload 5, 0, 0, 0) := (zf31 80).trans rfl
theorem d31_82 : zt_code 31 82 = some (.invokevirtual 102, 27, 2, 0) := (zf31 82).trans rfl
theorem d31_85 : zt_code 31 85 = some (.ifCond .ne (10), 0, 95, 0) := (zf31 85).trans rfl
theorem d31_88 : zt_code 31 88 = some (.aload_n 0, 0, 0, 0) := (zf31 88).trans rfl
theorem d31_89 : zt_code 31 89 = some (.bipush (-2), 0, 0, 0) := (zf31 89).trans rfl
theorem d31_91 : zt_code 31 91 = some (.invokevirtual 69, 10, 2, 4) := (zf31 91).trans rfl
theorem d31_94 : zt_code 31 94 = some (.ireturn, 0, 0, 0) := (zf31 94).trans rfl
theorem d31_95 : zt_code 31 95 = some (.aload_n 0, 0, 0, 0) := (zf31 95).trans rfl
theorem d31_96 : zt_code 31 96 = some (.iload 5, 0, 0, 0) := (zf31 96).trans rfl
theorem d31_98 : zt_code 31 98 = some (.iload 4, 0, 0, 0) := (zf31 98).trans rfl
theorem d31_100 : zt_code 31 100 = some (.invokevirtual 129, 37, 3, 4) := (zf31 100).trans rfl
theorem d31_103 : zt_code 31 103 = some (.ireturn, 0, 0, 0) := (zf31 103).trans rfl
/-- FirstAtTheFirst.says(II)I -/
theorem vc31 {X : zX} {S : zx_S} {C : zx_C} {q : Int32 → zx_C → Prop} {e : Nat} {a1 : Int32} {a2 : Int32} (hS : zs_4 S e) (h : zCd X 0 8 [.int a1] S C (zQi (fun r1 C1 => if (r1 : Int32) = 0 then (zCd X 1 10 [.ref e, .int (-2)] S C1 (zQi (fun r2 C2 => q r2 C2))) else (zCd X 0 32 [.int a2] S C1 (zQi (fun r3 C3 => if (r3 : Int32) = 0 then (zCd X 1 10 [.ref e, .int (-2)] S C3 (zQi (fun r4 C4 => q r4 C4))) else (zCd X 2 33 [.ref (e + 18), .int a1] S C3 (zQi (fun r5 C5 => if (r5 : Int32) = 0 then (zCd X 2 34 [.ref (e + 18), .int a1] S C5 (zQi (fun r6 C6 => zCd X 0 35 [.int r6, .int a2] S C6 (zQi (fun r7 C7 => if (r7 : Int32) = 0 then (zCd X 1 10 [.ref e, .int (-3)] S C7 (zQi (fun r8 C8 => q r8 C8))) else (zCd X 1 36 [.ref (e + 18), .int a1] S C7 (zQi (fun r9 C9 => zCd X 0 27 [.ref (e + 1), .int r9] S C9 (zQi (fun r10 C10 => if (r10 : Int32) = 0 then (zCd X 1 10 [.ref e, .int (-2)] S C10 (zQi (fun r11 C11 => q r11 C11))) else (zCd X 5 37 [.ref e, .int r9, .int r6] S C10 (zQi (fun r12 C12 => q r12 C12))))))))))))) else (zCd X 1 10 [.ref e, .int r5] S C5 (zQi (fun r13 C13 => q r13 C13)))))))))))) : zCd X 6 31 [.ref e, .int a1, .int a2] S C (zQi q) := by
  refine zc_in ml_31 rfl ?_
  refine zw_iload_n (n := 1) d31_0 rfl rfl ?_
  refine zw_cI (n := 4) d31_1 (zs_S rfl rfl rfl rfl) (by rw [ml_8]; rfl) (by decide) rfl (zc_mI h (fun r1 C1 h => ?_))
  refine zw_if_eq (n := 7) d31_4 rfl (zite h (fun h => ?_) (fun h => ?_))
  · skip
    refine zw_aload_n (n := 15) d31_14 rfl rfl ?_
    refine zw_bipush (n := 17) d31_15 rfl zk_b_m2 ?_
    refine zw_cI (n := 20) d31_17 (zs_V rfl rfl rfl rfl (by decide) (zj_4 hS).1 (zq_4 hS)) (by rw [ml_10]; rfl) (by decide) rfl (zc_mI h (fun r2 C2 h => ?_))
    exact zw_iret d31_20 rfl ⟨_, rfl, h⟩
  · skip
    refine zw_iload_n (n := 8) d31_7 rfl rfl ?_
    refine zw_cI (n := 11) d31_8 (zs_S rfl rfl rfl rfl) (by rw [ml_32]; rfl) (by decide) rfl (zc_mI h (fun r3 C3 h => ?_))
    refine zw_if_ne (n := 14) d31_11 rfl (zite h (fun h => ?_) (fun h => ?_))
    · skip
      refine zw_aload_n (n := 15) d31_14 rfl rfl ?_
      refine zw_bipush (n := 17) d31_15 rfl zk_b_m2 ?_
      refine zw_cI (n := 20) d31_17 (zs_V rfl rfl rfl rfl (by decide) (zj_4 hS).1 (zq_4 hS)) (by rw [ml_10]; rfl) (by decide) rfl (zc_mI h (fun r4 C4 h => ?_))
      exact zw_iret d31_20 rfl ⟨_, rfl, h⟩
    · skip
      refine zw_aload_n (n := 22) d31_21 rfl rfl ?_
      refine zw_getr (n := 25) d31_22 rfl (zj_4 hS).1 (zj_4 hS).2 (zr_4_4 hS) ?_
      refine zw_iload_n (n := 26) d31_25 rfl rfl ?_
      refine zw_cI (n := 29) d31_26 (zs_V rfl rfl rfl rfl (by decide) (zj_2 (zo_4_4 hS)).1 (zq_2 (zo_4_4 hS))) (by rw [ml_33]; rfl) (by decide) rfl (zc_mI h (fun r5 C5 h => ?_))
      refine zw_istore_n (n := 30) d31_29 rfl rfl rfl ?_
      refine zw_iload_n (n := 31) d31_30 rfl rfl ?_
      refine zw_if_eq (n := 34) d31_31 rfl (zite h (fun h => ?_) (fun h => ?_))
      · skip
        refine zw_aload_n (n := 41) d31_40 rfl rfl ?_
        refine zw_getr (n := 44) d31_41 rfl (zj_4 hS).1 (zj_4 hS).2 (zr_4_4 hS) ?_
        refine zw_iload_n (n := 45) d31_44 rfl rfl ?_
        refine zw_cI (n := 48) d31_45 (zs_V rfl rfl rfl rfl (by decide) (zj_2 (zo_4_4 hS)).1 (zq_2 (zo_4_4 hS))) (by rw [ml_34]; rfl) (by decide) rfl (zc_mI h (fun r6 C6 h => ?_))
        refine zw_istore (n := 50) d31_48 rfl rfl rfl ?_
        refine zw_iload (n := 52) d31_50 rfl rfl ?_
        refine zw_iload_n (n := 53) d31_52 rfl rfl ?_
        refine zw_cI (n := 56) d31_53 (zs_S rfl rfl rfl rfl) (by rw [ml_35]; rfl) (by decide) rfl (zc_mI h (fun r7 C7 h => ?_))
        refine zw_if_ne (n := 59) d31_56 rfl (zite h (fun h => ?_) (fun h => ?_))
        · skip
          refine zw_aload_n (n := 60) d31_59 rfl rfl ?_
          refine zw_bipush (n := 62) d31_60 rfl zk_b_m3 ?_
          refine zw_cI (n := 65) d31_62 (zs_V rfl rfl rfl rfl (by decide) (zj_4 hS).1 (zq_4 hS)) (by rw [ml_10]; rfl) (by decide) rfl (zc_mI h (fun r8 C8 h => ?_))
          exact zw_iret d31_65 rfl ⟨_, rfl, h⟩
        · skip
          refine zw_aload_n (n := 67) d31_66 rfl rfl ?_
          refine zw_getr (n := 70) d31_67 rfl (zj_4 hS).1 (zj_4 hS).2 (zr_4_4 hS) ?_
          refine zw_iload_n (n := 71) d31_70 rfl rfl ?_
          refine zw_cI (n := 74) d31_71 (zs_V rfl rfl rfl rfl (by decide) (zj_2 (zo_4_4 hS)).1 (zq_2 (zo_4_4 hS))) (by rw [ml_36]; rfl) (by decide) rfl (zc_mI h (fun r9 C9 h => ?_))
          refine zw_istore (n := 76) d31_74 rfl rfl rfl ?_
          refine zw_aload_n (n := 77) d31_76 rfl rfl ?_
          refine zw_getr (n := 80) d31_77 rfl (zj_4 hS).1 (zj_4 hS).2 (zr_4_0 hS) ?_
          refine zw_iload (n := 82) d31_80 rfl rfl ?_
          refine zw_cI (n := 85) d31_82 (zs_V rfl rfl rfl rfl (by decide) (zj_0 (zo_4_0 hS)).1 (zq_0 (zo_4_0 hS))) (by rw [ml_27]; rfl) (by decide) rfl (zc_mI h (fun r10 C10 h => ?_))
          refine zw_if_ne (n := 88) d31_85 rfl (zite h (fun h => ?_) (fun h => ?_))
          · skip
            refine zw_aload_n (n := 89) d31_88 rfl rfl ?_
            refine zw_bipush (n := 91) d31_89 rfl zk_b_m2 ?_
            refine zw_cI (n := 94) d31_91 (zs_V rfl rfl rfl rfl (by decide) (zj_4 hS).1 (zq_4 hS)) (by rw [ml_10]; rfl) (by decide) rfl (zc_mI h (fun r11 C11 h => ?_))
            exact zw_iret d31_94 rfl ⟨_, rfl, h⟩
          · skip
            refine zw_aload_n (n := 96) d31_95 rfl rfl ?_
            refine zw_iload (n := 98) d31_96 rfl rfl ?_
            refine zw_iload (n := 100) d31_98 rfl rfl ?_
            refine zw_cI (n := 103) d31_100 (zs_V rfl rfl rfl rfl (by decide) (zj_4 hS).1 (zq_4 hS)) (by rw [ml_37]; rfl) (by decide) rfl (zc_mI h (fun r12 C12 h => ?_))
            exact zw_iret d31_103 rfl ⟨_, rfl, h⟩
      · skip
        refine zw_aload_n (n := 35) d31_34 rfl rfl ?_
        refine zw_iload_n (n := 36) d31_35 rfl rfl ?_
        refine zw_cI (n := 39) d31_36 (zs_V rfl rfl rfl rfl (by decide) (zj_4 hS).1 (zq_4 hS)) (by rw [ml_10]; rfl) (by decide) rfl (zc_mI h (fun r13 C13 h => ?_))
        exact zw_iret d31_39 rfl ⟨_, rfl, h⟩

set_option maxRecDepth 20000 in
theorem zf37 (pc : Nat) : zt_code 37 pc = zt_fd zl_37 pc := rfl
theorem d37_0 : zt_code 37 0 = some (.aload_n 0, 0, 0, 0) := (zf37 0).trans rfl
theorem d37_1 : zt_code 37 1 = some (.getfield 43, 4, 7, 1) := (zf37 1).trans rfl
theorem d37_4 : zt_code 37 4 = some (.aload_n 0, 0, 0, 0) := (zf37 4).trans rfl
theorem d37_5 : zt_code 37 5 = some (.getfield 12, 4, 0, 1) := (zf37 5).trans rfl
theorem d37_8 : zt_code 37 8 = some (.invokevirtual 258, 38, 2, 1) := (zf37 8).trans rfl
theorem d37_11 : zt_code 37 11 = some (.aload_n 0, 0, 0, 0) := (zf37 11).trans rfl
theorem d37_12 : zt_code 37 12 = some (.getfield 43, 4, 7, 1) := (zf37 12).trans rfl
theorem d37_15 : zt_code 37 15 = some (.aload_n 0, 0, 0, 0) := (zf37 15).trans rfl
theorem d37_16 : zt_code 37 16 = some (.getfield 12, 4, 0, 1) := (zf37 16).trans rfl
theorem d37_19 : zt_code 37 19 = some (.aload_n 0, 0, 0, 0) := (zf37 19).trans rfl
theorem d37_20 : zt_code 37 20 = some (.getfield 12, 4, 0, 1) := (zf37 20).trans rfl
theorem d37_23 : zt_code 37 23 = some (.getfield 167, 0, 2, 0) := (zf37 23).trans rfl
theorem d37_26 : zt_code 37 26 = some (.invokevirtual 227, 45, 3, 1) := (zf37 26).trans rfl
theorem d37_29 : zt_code 37 29 = some (.aload_n 0, 0, 0, 0) := (zf37 29).trans rfl
theorem d37_30 : zt_code 37 30 = some (.getfield 43, 4, 7, 1) := (zf37 30).trans rfl
theorem d37_33 : zt_code 37 33 = some (.iload_n 1, 0, 0, 0) := (zf37 33).trans rfl
theorem d37_34 : zt_code 37 34 = some (.iload_n 2, 0, 0, 0) := (zf37 34).trans rfl
theorem d37_35 : zt_code 37 35 = some (.aload_n 0, 0, 0, 0) := (zf37 35).trans rfl
theorem d37_36 : zt_code 37 36 = some (.getfield 43, 4, 7, 1) := (zf37 36).trans rfl
theorem d37_39 : zt_code 37 39 = some (.getfield 273, 1, 5, 0) := (zf37 39).trans rfl
theorem d37_42 : zt_code 37 42 = some (.invokevirtual 312, 50, 4, 1) := (zf37 42).trans rfl
theorem d37_45 : zt_code 37 45 = some (.ireturn, 0, 0, 0) := (zf37 45).trans rfl
/-- FirstAtTheFirst.wouldTake(II)I -/
theorem vc37 {X : zX} {S : zx_S} {C : zx_C} {q : Int32 → zx_C → Prop} {e : Nat} {a1 : Int32} {a2 : Int32} (hS : zs_4 S e) (h : zCd X 3 38 [.ref (e + 24), .ref (e + 1)] S C (zQv (fun C1 => zCd X 2 45 [.ref (e + 24), .ref (e + 1), .int (C1.1 (e + 1) 2)] S C1 (zQv (fun C2 => zCd X 4 50 [.ref (e + 24), .int a1, .int a2, .int (C2.1 (e + 24) 5)] S C2 (zQi (fun r3 C3 => q r3 C3))))))) : zCd X 5 37 [.ref e, .int a1, .int a2] S C (zQi q) := by
  refine zc_in ml_37 rfl ?_
  refine zw_aload_n (n := 1) d37_0 rfl rfl ?_
  refine zw_getr (n := 4) d37_1 rfl (zj_4 hS).1 (zj_4 hS).2 (zr_4_7 hS) ?_
  refine zw_aload_n (n := 5) d37_4 rfl rfl ?_
  refine zw_getr (n := 8) d37_5 rfl (zj_4 hS).1 (zj_4 hS).2 (zr_4_0 hS) ?_
  refine zw_cV (n := 11) d37_8 (zs_V rfl rfl rfl rfl (by decide) (zj_1 (zo_4_7 hS)).1 (zq_1 (zo_4_7 hS))) (by rw [ml_38]; rfl) (by decide) rfl (zc_mV h (fun C1 h => ?_))
  refine zw_aload_n (n := 12) d37_11 rfl rfl ?_
  refine zw_getr (n := 15) d37_12 rfl (zj_4 hS).1 (zj_4 hS).2 (zr_4_7 hS) ?_
  refine zw_aload_n (n := 16) d37_15 rfl rfl ?_
  refine zw_getr (n := 19) d37_16 rfl (zj_4 hS).1 (zj_4 hS).2 (zr_4_0 hS) ?_
  refine zw_aload_n (n := 20) d37_19 rfl rfl ?_
  refine zw_getr (n := 23) d37_20 rfl (zj_4 hS).1 (zj_4 hS).2 (zr_4_0 hS) ?_
  refine zw_geti (n := 26) d37_23 rfl (zj_0 (zo_4_0 hS)).1 (zj_0 (zo_4_0 hS)).2 ?_
  refine zw_cV (n := 29) d37_26 (zs_V rfl rfl rfl rfl (by decide) (zj_1 (zo_4_7 hS)).1 (zq_1 (zo_4_7 hS))) (by rw [ml_45]; rfl) (by decide) rfl (zc_mV h (fun C2 h => ?_))
  refine zw_aload_n (n := 30) d37_29 rfl rfl ?_
  refine zw_getr (n := 33) d37_30 rfl (zj_4 hS).1 (zj_4 hS).2 (zr_4_7 hS) ?_
  refine zw_iload_n (n := 34) d37_33 rfl rfl ?_
  refine zw_iload_n (n := 35) d37_34 rfl rfl ?_
  refine zw_aload_n (n := 36) d37_35 rfl rfl ?_
  refine zw_getr (n := 39) d37_36 rfl (zj_4 hS).1 (zj_4 hS).2 (zr_4_7 hS) ?_
  refine zw_geti (n := 42) d37_39 rfl (zj_1 (zo_4_7 hS)).1 (zj_1 (zo_4_7 hS)).2 ?_
  refine zw_cI (n := 45) d37_42 (zs_V rfl rfl rfl rfl (by decide) (zj_1 (zo_4_7 hS)).1 (zq_1 (zo_4_7 hS))) (by rw [ml_50]; rfl) (by decide) rfl (zc_mI h (fun r3 C3 h => ?_))
  exact zw_iret d37_45 rfl ⟨_, rfl, h⟩

set_option maxRecDepth 20000 in
theorem zf67 (pc : Nat) : zt_code 67 pc = zt_fd zl_67 pc := rfl
theorem d67_0 : zt_code 67 0 = some (.iload_n 1, 0, 0, 0) := (zf67 0).trans rfl
theorem d67_1 : zt_code 67 1 = some (.iconst (2), 0, 0, 0) := (zf67 1).trans rfl
theorem d67_2 : zt_code 67 2 = some (.if_icmp .lt (8), 0, 10, 0) := (zf67 2).trans rfl
theorem d67_5 : zt_code 67 5 = some (.iload_n 1, 0, 0, 0) := (zf67 5).trans rfl
theorem d67_6 : zt_code 67 6 = some (.iconst (3), 0, 0, 0) := (zf67 6).trans rfl
theorem d67_7 : zt_code 67 7 = some (.if_icmp .le (10), 0, 17, 0) := (zf67 7).trans rfl
theorem d67_10 : zt_code 67 10 = some (.aload_n 0, 0, 0, 0) := (zf67 10).trans rfl
theorem d67_11 : zt_code 67 11 = some (.bipush (-2), 0, 0, 0) := (zf67 11).trans rfl
theorem d67_13 : zt_code 67 13 = some (.invokevirtual 69, 10, 2, 4) := (zf67 13).trans rfl
theorem d67_16 : zt_code 67 16 = some (.ireturn, 0, 0, 0) := (zf67 16).trans rfl
theorem d67_17 : zt_code 67 17 = some (.aload_n 0, 0, 0, 0) := (zf67 17).trans rfl
theorem d67_18 : zt_code 67 18 = some (.getfield 12, 4, 0, 1) := (zf67 18).trans rfl
theorem d67_21 : zt_code 67 21 = some (.getfield 132, 0, 1, 0) := (zf67 21).trans rfl
theorem d67_24 : zt_code 67 24 = some (.ifCond .le (10), 0, 34, 0) := (zf67 24).trans rfl
theorem d67_27 : zt_code 67 27 = some (.aload_n 0, 0, 0, 0) := (zf67 27).trans rfl
theorem d67_28 : zt_code 67 28 = some (.bipush (-5), 0, 0, 0) := (zf67 28).trans rfl
theorem d67_30 : zt_code 67 30 = some (.invokevirtual 69, 10, 2, 4) := (zf67 30).trans rfl
theorem d67_33 : zt_code 67 33 = some (.ireturn, 0, 0, 0) := (zf67 33).trans rfl
theorem d67_34 : zt_code 67 34 = some (.aload_n 0, 0, 0, 0) := (zf67 34).trans rfl
theorem d67_35 : zt_code 67 35 = some (.getfield 12, 4, 0, 1) := (zf67 35).trans rfl
theorem d67_38 : zt_code 67 38 = some (.getfield 136, 0, 0, 0) := (zf67 38).trans rfl
theorem d67_41 : zt_code 67 41 = some (.istore_n 2, 0, 0, 0) := (zf67 41).trans rfl
theorem d67_42 : zt_code 67 42 = some (.aload_n 0, 0, 0, 0) := (zf67 42).trans rfl
theorem d67_43 : zt_code 67 43 = some (.getfield 12, 4, 0, 1) := (zf67 43).trans rfl
theorem d67_46 : zt_code 67 46 = some (.iload_n 1, 0, 0, 0) := (zf67 46).trans rfl
theorem d67_47 : zt_code 67 47 = some (.invokevirtual 139, 68, 2, 0) := (zf67 47).trans rfl
theorem d67_50 : zt_code 67 50 = some (.iload_n 2, 0, 0, 0) := (zf67 50).trans rfl
theorem d67_51 : zt_code 67 51 = some (.ireturn, 0, 0, 0) := (zf67 51).trans rfl
/-- FirstAtTheFirst.sides(I)I -/
theorem vc67 {X : zX} {S : zx_S} {C : zx_C} {q : Int32 → zx_C → Prop} {e : Nat} {a1 : Int32} (hS : zs_4 S e) (h : if (a1 : Int32) < 2 then (zCd X 1 10 [.ref e, .int (-2)] S C (zQi (fun r1 C1 => q r1 C1))) else (if (3 : Int32) < a1 then (zCd X 1 10 [.ref e, .int (-2)] S C (zQi (fun r2 C2 => q r2 C2))) else (if (0 : Int32) < (C.1 (e + 1) 1) then (zCd X 1 10 [.ref e, .int (-5)] S C (zQi (fun r3 C3 => q r3 C3))) else (zCd X 1 68 [.ref (e + 1), .int a1] S C (zQv (fun C4 => q (C.1 (e + 1) 0) C4)))))) : zCd X 2 67 [.ref e, .int a1] S C (zQi q) := by
  refine zc_in ml_67 rfl ?_
  refine zw_iload_n (n := 1) d67_0 rfl rfl ?_
  refine zw_iconst (n := 2) d67_1 rfl zk_i_2 ?_
  refine zw_ic_lt (n := 5) d67_2 rfl (zite h (fun h => ?_) (fun h => ?_))
  · skip
    refine zw_aload_n (n := 11) d67_10 rfl rfl ?_
    refine zw_bipush (n := 13) d67_11 rfl zk_b_m2 ?_
    refine zw_cI (n := 16) d67_13 (zs_V rfl rfl rfl rfl (by decide) (zj_4 hS).1 (zq_4 hS)) (by rw [ml_10]; rfl) (by decide) rfl (zc_mI h (fun r1 C1 h => ?_))
    exact zw_iret d67_16 rfl ⟨_, rfl, h⟩
  · skip
    refine zw_iload_n (n := 6) d67_5 rfl rfl ?_
    refine zw_iconst (n := 7) d67_6 rfl zk_i_3 ?_
    refine zw_ic_le (n := 10) d67_7 rfl (zite h (fun h => ?_) (fun h => ?_))
    · skip
      refine zw_aload_n (n := 11) d67_10 rfl rfl ?_
      refine zw_bipush (n := 13) d67_11 rfl zk_b_m2 ?_
      refine zw_cI (n := 16) d67_13 (zs_V rfl rfl rfl rfl (by decide) (zj_4 hS).1 (zq_4 hS)) (by rw [ml_10]; rfl) (by decide) rfl (zc_mI h (fun r2 C2 h => ?_))
      exact zw_iret d67_16 rfl ⟨_, rfl, h⟩
    · skip
      refine zw_aload_n (n := 18) d67_17 rfl rfl ?_
      refine zw_getr (n := 21) d67_18 rfl (zj_4 hS).1 (zj_4 hS).2 (zr_4_0 hS) ?_
      refine zw_geti (n := 24) d67_21 rfl (zj_0 (zo_4_0 hS)).1 (zj_0 (zo_4_0 hS)).2 ?_
      refine zw_if_le (n := 27) d67_24 rfl (zite h (fun h => ?_) (fun h => ?_))
      · skip
        refine zw_aload_n (n := 28) d67_27 rfl rfl ?_
        refine zw_bipush (n := 30) d67_28 rfl zk_b_m5 ?_
        refine zw_cI (n := 33) d67_30 (zs_V rfl rfl rfl rfl (by decide) (zj_4 hS).1 (zq_4 hS)) (by rw [ml_10]; rfl) (by decide) rfl (zc_mI h (fun r3 C3 h => ?_))
        exact zw_iret d67_33 rfl ⟨_, rfl, h⟩
      · skip
        refine zw_aload_n (n := 35) d67_34 rfl rfl ?_
        refine zw_getr (n := 38) d67_35 rfl (zj_4 hS).1 (zj_4 hS).2 (zr_4_0 hS) ?_
        refine zw_geti (n := 41) d67_38 rfl (zj_0 (zo_4_0 hS)).1 (zj_0 (zo_4_0 hS)).2 ?_
        refine zw_istore_n (n := 42) d67_41 rfl rfl rfl ?_
        refine zw_aload_n (n := 43) d67_42 rfl rfl ?_
        refine zw_getr (n := 46) d67_43 rfl (zj_4 hS).1 (zj_4 hS).2 (zr_4_0 hS) ?_
        refine zw_iload_n (n := 47) d67_46 rfl rfl ?_
        refine zw_cV (n := 50) d67_47 (zs_V rfl rfl rfl rfl (by decide) (zj_0 (zo_4_0 hS)).1 (zq_0 (zo_4_0 hS))) (by rw [ml_68]; rfl) (by decide) rfl (zc_mV h (fun C4 h => ?_))
        refine zw_iload_n (n := 51) d67_50 rfl rfl ?_
        exact zw_iret d67_51 rfl ⟨_, rfl, h⟩

set_option maxRecDepth 20000 in
theorem zf69 (pc : Nat) : zt_code 69 pc = zt_fd zl_69 pc := rfl
theorem d69_0 : zt_code 69 0 = some (.iload_n 1, 0, 0, 0) := (zf69 0).trans rfl
theorem d69_1 : zt_code 69 1 = some (.invokestatic 142, 70, 1, -1) := (zf69 1).trans rfl
theorem d69_4 : zt_code 69 4 = some (.ifCond .eq (28), 0, 32, 0) := (zf69 4).trans rfl
theorem d69_7 : zt_code 69 7 = some (.iload_n 2, 0, 0, 0) := (zf69 7).trans rfl
theorem d69_8 : zt_code 69 8 = some (.invokestatic 142, 70, 1, -1) := (zf69 8).trans rfl
theorem d69_11 : zt_code 69 11 = some (.ifCond .eq (21), 0, 32, 0) := (zf69 11).trans rfl
theorem d69_14 : zt_code 69 14 = some (.aload_n 0, 0, 0, 0) := (zf69 14).trans rfl
theorem d69_15 : zt_code 69 15 = some (.getfield 12, 4, 0, 1) := (zf69 15).trans rfl
theorem d69_18 : zt_code 69 18 = some (.getfield 136, 0, 0, 0) := (zf69 18).trans rfl
theorem d69_21 : zt_code 69 21 = some (.iconst (2), 0, 0, 0) := (zf69 21).trans rfl
theorem d69_22 : zt_code 69 22 = some (.if_icmp .le (17), 0, 39, 0) := (zf69 22).trans rfl
theorem d69_25 : zt_code 69 25 = some (.iload_n 3, 0, 0, 0) := (zf69 25).trans rfl
theorem d69_26 : zt_code 69 26 = some (.invokestatic 142, 70, 1, -1) := (zf69 26).trans rfl
theorem d69_29 : zt_code 69 29 = some (.ifCond .ne (10), 0, 39, 0) := (zf69 29).trans rfl
theorem d69_32 : zt_code 69 32 = some (.aload_n 0, 0, 0, 0) := (zf69 32).trans rfl
theorem d69_33 : zt_code 69 33 = some (.bipush (-2), 0, 0, 0) := (zf69 33).trans rfl
theorem d69_35 : zt_code 69 35 = some (.invokevirtual 69, 10, 2, 4) := (zf69 35).trans rfl
theorem d69_38 : zt_code 69 38 = some (.ireturn, 0, 0, 0) := (zf69 38).trans rfl
theorem d69_39 : zt_code 69 39 = some (.aload_n 0, 0, 0, 0) := (zf69 39).trans rfl
theorem d69_40 : zt_code 69 40 = some (.getfield 12, 4, 0, 1) := (zf69 40).trans rfl
theorem d69_43 : zt_code 69 43 = some (.getfield 132, 0, 1, 0) := (zf69 43).trans rfl
theorem d69_46 : zt_code 69 46 = some (.bipush (8), 0, 0, 0) := (zf69 46).trans rfl
theorem d69_48 : zt_code 69 48 = some (.if_icmp .lt (10), 0, 58, 0) := (zf69 48).trans rfl
theorem d69_51 : zt_code 69 51 = some (.aload_n 0, 0, 0, 0) := (zf69 51).trans rfl
theorem d69_52 : zt_code 69 52 = some (.bipush (-6), 0, 0, 0) := (zf69 52).trans rfl
theorem d69_54 : zt_code 69 54 = some (.invokevirtual 69, 10, 2, 4) := (zf69 54).trans rfl
theorem d69_57 : zt_code 69 57 = some (.ireturn, 0, 0, 0) := (zf69 57).trans rfl
theorem d69_58 : zt_code 69 58 = some (.aload_n 0, 0, 0, 0) := (zf69 58).trans rfl
theorem d69_59 : zt_code 69 59 = some (.getfield 12, 4, 0, 1) := (zf69 59).trans rfl
theorem d69_62 : zt_code 69 62 = some (.iload_n 1, 0, 0, 0) := (zf69 62).trans rfl
theorem d69_63 : zt_code 69 63 = some (.iload_n 2, 0, 0, 0) := (zf69 63).trans rfl
theorem d69_64 : zt_code 69 64 = some (.iload_n 3, 0, 0, 0) := (zf69 64).trans rfl
theorem d69_65 : zt_code 69 65 = some (.invokevirtual 145, 71, 4, 0) := (zf69 65).trans rfl
theorem d69_68 : zt_code 69 68 = some (.aload_n 0, 0, 0, 0) := (zf69 68).trans rfl
theorem d69_69 : zt_code 69 69 = some (.getfield 12, 4, 0, 1) := (zf69 69).trans rfl
theorem d69_72 : zt_code 69 72 = some (.getfield 132, 0, 1, 0) := (zf69 72).trans rfl
theorem d69_75 : zt_code 69 75 = some (.iconst (1), 0, 0, 0) := (zf69 75).trans rfl
theorem d69_76 : zt_code 69 76 = some (.isub, 0, 0, 0) := (zf69 76).trans rfl
theorem d69_77 : zt_code 69 77 = some (.ireturn, 0, 0, 0) := (zf69 77).trans rfl
/-- FirstAtTheFirst.thing(III)I -/
theorem vc69 {X : zX} {S : zx_S} {C : zx_C} {q : Int32 → zx_C → Prop} {e : Nat} {a1 : Int32} {a2 : Int32} {a3 : Int32} (hS : zs_4 S e) (h : zCd X 0 70 [.int a1] S C (zQi (fun r1 C1 => if (r1 : Int32) = 0 then (zCd X 1 10 [.ref e, .int (-2)] S C1 (zQi (fun r2 C2 => q r2 C2))) else (zCd X 0 70 [.int a2] S C1 (zQi (fun r3 C3 => if (r3 : Int32) = 0 then (zCd X 1 10 [.ref e, .int (-2)] S C3 (zQi (fun r4 C4 => q r4 C4))) else (if (2 : Int32) < (C3.1 (e + 1) 0) then (zCd X 0 70 [.int a3] S C3 (zQi (fun r5 C5 => if (r5 : Int32) = 0 then (zCd X 1 10 [.ref e, .int (-2)] S C5 (zQi (fun r6 C6 => q r6 C6))) else (if ((C5.1 (e + 1) 1) : Int32) < 8 then (zCd X 1 71 [.ref (e + 1), .int a1, .int a2, .int a3] S C5 (zQv (fun C7 => q ((C7.1 (e + 1) 1) - 1) C7))) else (zCd X 1 10 [.ref e, .int (-6)] S C5 (zQi (fun r8 C8 => q r8 C8))))))) else (if ((C3.1 (e + 1) 1) : Int32) < 8 then (zCd X 1 71 [.ref (e + 1), .int a1, .int a2, .int a3] S C3 (zQv (fun C9 => q ((C9.1 (e + 1) 1) - 1) C9))) else (zCd X 1 10 [.ref e, .int (-6)] S C3 (zQi (fun r10 C10 => q r10 C10))))))))))) : zCd X 2 69 [.ref e, .int a1, .int a2, .int a3] S C (zQi q) := by
  refine zc_in ml_69 rfl ?_
  refine zw_iload_n (n := 1) d69_0 rfl rfl ?_
  refine zw_cI (n := 4) d69_1 (zs_S rfl rfl rfl rfl) (by rw [ml_70]; rfl) (by decide) rfl (zc_mI h (fun r1 C1 h => ?_))
  refine zw_if_eq (n := 7) d69_4 rfl (zite h (fun h => ?_) (fun h => ?_))
  · skip
    refine zw_aload_n (n := 33) d69_32 rfl rfl ?_
    refine zw_bipush (n := 35) d69_33 rfl zk_b_m2 ?_
    refine zw_cI (n := 38) d69_35 (zs_V rfl rfl rfl rfl (by decide) (zj_4 hS).1 (zq_4 hS)) (by rw [ml_10]; rfl) (by decide) rfl (zc_mI h (fun r2 C2 h => ?_))
    exact zw_iret d69_38 rfl ⟨_, rfl, h⟩
  · skip
    refine zw_iload_n (n := 8) d69_7 rfl rfl ?_
    refine zw_cI (n := 11) d69_8 (zs_S rfl rfl rfl rfl) (by rw [ml_70]; rfl) (by decide) rfl (zc_mI h (fun r3 C3 h => ?_))
    refine zw_if_eq (n := 14) d69_11 rfl (zite h (fun h => ?_) (fun h => ?_))
    · skip
      refine zw_aload_n (n := 33) d69_32 rfl rfl ?_
      refine zw_bipush (n := 35) d69_33 rfl zk_b_m2 ?_
      refine zw_cI (n := 38) d69_35 (zs_V rfl rfl rfl rfl (by decide) (zj_4 hS).1 (zq_4 hS)) (by rw [ml_10]; rfl) (by decide) rfl (zc_mI h (fun r4 C4 h => ?_))
      exact zw_iret d69_38 rfl ⟨_, rfl, h⟩
    · skip
      refine zw_aload_n (n := 15) d69_14 rfl rfl ?_
      refine zw_getr (n := 18) d69_15 rfl (zj_4 hS).1 (zj_4 hS).2 (zr_4_0 hS) ?_
      refine zw_geti (n := 21) d69_18 rfl (zj_0 (zo_4_0 hS)).1 (zj_0 (zo_4_0 hS)).2 ?_
      refine zw_iconst (n := 22) d69_21 rfl zk_i_2 ?_
      refine zw_ic_le (n := 25) d69_22 rfl (zite h (fun h => ?_) (fun h => ?_))
      · skip
        refine zw_iload_n (n := 26) d69_25 rfl rfl ?_
        refine zw_cI (n := 29) d69_26 (zs_S rfl rfl rfl rfl) (by rw [ml_70]; rfl) (by decide) rfl (zc_mI h (fun r5 C5 h => ?_))
        refine zw_if_ne (n := 32) d69_29 rfl (zite h (fun h => ?_) (fun h => ?_))
        · skip
          refine zw_aload_n (n := 33) d69_32 rfl rfl ?_
          refine zw_bipush (n := 35) d69_33 rfl zk_b_m2 ?_
          refine zw_cI (n := 38) d69_35 (zs_V rfl rfl rfl rfl (by decide) (zj_4 hS).1 (zq_4 hS)) (by rw [ml_10]; rfl) (by decide) rfl (zc_mI h (fun r6 C6 h => ?_))
          exact zw_iret d69_38 rfl ⟨_, rfl, h⟩
        · skip
          refine zw_aload_n (n := 40) d69_39 rfl rfl ?_
          refine zw_getr (n := 43) d69_40 rfl (zj_4 hS).1 (zj_4 hS).2 (zr_4_0 hS) ?_
          refine zw_geti (n := 46) d69_43 rfl (zj_0 (zo_4_0 hS)).1 (zj_0 (zo_4_0 hS)).2 ?_
          refine zw_bipush (n := 48) d69_46 rfl zk_b_8 ?_
          refine zw_ic_lt (n := 51) d69_48 rfl (zite h (fun h => ?_) (fun h => ?_))
          · skip
            refine zw_aload_n (n := 59) d69_58 rfl rfl ?_
            refine zw_getr (n := 62) d69_59 rfl (zj_4 hS).1 (zj_4 hS).2 (zr_4_0 hS) ?_
            refine zw_iload_n (n := 63) d69_62 rfl rfl ?_
            refine zw_iload_n (n := 64) d69_63 rfl rfl ?_
            refine zw_iload_n (n := 65) d69_64 rfl rfl ?_
            refine zw_cV (n := 68) d69_65 (zs_V rfl rfl rfl rfl (by decide) (zj_0 (zo_4_0 hS)).1 (zq_0 (zo_4_0 hS))) (by rw [ml_71]; rfl) (by decide) rfl (zc_mV h (fun C7 h => ?_))
            refine zw_aload_n (n := 69) d69_68 rfl rfl ?_
            refine zw_getr (n := 72) d69_69 rfl (zj_4 hS).1 (zj_4 hS).2 (zr_4_0 hS) ?_
            refine zw_geti (n := 75) d69_72 rfl (zj_0 (zo_4_0 hS)).1 (zj_0 (zo_4_0 hS)).2 ?_
            refine zw_iconst (n := 76) d69_75 rfl zk_i_1 ?_
            refine zw_isub (n := 77) d69_76 rfl ?_
            exact zw_iret d69_77 rfl ⟨_, rfl, h⟩
          · skip
            refine zw_aload_n (n := 52) d69_51 rfl rfl ?_
            refine zw_bipush (n := 54) d69_52 rfl zk_b_m6 ?_
            refine zw_cI (n := 57) d69_54 (zs_V rfl rfl rfl rfl (by decide) (zj_4 hS).1 (zq_4 hS)) (by rw [ml_10]; rfl) (by decide) rfl (zc_mI h (fun r8 C8 h => ?_))
            exact zw_iret d69_57 rfl ⟨_, rfl, h⟩
      · skip
        refine zw_aload_n (n := 40) d69_39 rfl rfl ?_
        refine zw_getr (n := 43) d69_40 rfl (zj_4 hS).1 (zj_4 hS).2 (zr_4_0 hS) ?_
        refine zw_geti (n := 46) d69_43 rfl (zj_0 (zo_4_0 hS)).1 (zj_0 (zo_4_0 hS)).2 ?_
        refine zw_bipush (n := 48) d69_46 rfl zk_b_8 ?_
        refine zw_ic_lt (n := 51) d69_48 rfl (zite h (fun h => ?_) (fun h => ?_))
        · skip
          refine zw_aload_n (n := 59) d69_58 rfl rfl ?_
          refine zw_getr (n := 62) d69_59 rfl (zj_4 hS).1 (zj_4 hS).2 (zr_4_0 hS) ?_
          refine zw_iload_n (n := 63) d69_62 rfl rfl ?_
          refine zw_iload_n (n := 64) d69_63 rfl rfl ?_
          refine zw_iload_n (n := 65) d69_64 rfl rfl ?_
          refine zw_cV (n := 68) d69_65 (zs_V rfl rfl rfl rfl (by decide) (zj_0 (zo_4_0 hS)).1 (zq_0 (zo_4_0 hS))) (by rw [ml_71]; rfl) (by decide) rfl (zc_mV h (fun C9 h => ?_))
          refine zw_aload_n (n := 69) d69_68 rfl rfl ?_
          refine zw_getr (n := 72) d69_69 rfl (zj_4 hS).1 (zj_4 hS).2 (zr_4_0 hS) ?_
          refine zw_geti (n := 75) d69_72 rfl (zj_0 (zo_4_0 hS)).1 (zj_0 (zo_4_0 hS)).2 ?_
          refine zw_iconst (n := 76) d69_75 rfl zk_i_1 ?_
          refine zw_isub (n := 77) d69_76 rfl ?_
          exact zw_iret d69_77 rfl ⟨_, rfl, h⟩
        · skip
          refine zw_aload_n (n := 52) d69_51 rfl rfl ?_
          refine zw_bipush (n := 54) d69_52 rfl zk_b_m6 ?_
          refine zw_cI (n := 57) d69_54 (zs_V rfl rfl rfl rfl (by decide) (zj_4 hS).1 (zq_4 hS)) (by rw [ml_10]; rfl) (by decide) rfl (zc_mI h (fun r10 C10 h => ?_))
          exact zw_iret d69_57 rfl ⟨_, rfl, h⟩

set_option maxRecDepth 20000 in
theorem zf72 (pc : Nat) : zt_code 72 pc = zt_fd zl_72 pc := rfl
theorem d72_0 : zt_code 72 0 = some (.aload_n 0, 0, 0, 0) := (zf72 0).trans rfl
theorem d72_1 : zt_code 72 1 = some (.getfield 12, 4, 0, 1) := (zf72 1).trans rfl
theorem d72_4 : zt_code 72 4 = some (.iload_n 1, 0, 0, 0) := (zf72 4).trans rfl
theorem d72_5 : zt_code 72 5 = some (.invokevirtual 102, 27, 2, 0) := (zf72 5).trans rfl
theorem d72_8 : zt_code 72 8 = some (.ifCond .eq (21), 0, 29, 0) := (zf72 8).trans rfl
theorem d72_11 : zt_code 72 11 = some (.aload_n 0, 0, 0, 0) := (zf72 11).trans rfl
theorem d72_12 : zt_code 72 12 = some (.getfield 12, 4, 0, 1) := (zf72 12).trans rfl
theorem d72_15 : zt_code 72 15 = some (.iload_n 2, 0, 0, 0) := (zf72 15).trans rfl
theorem d72_16 : zt_code 72 16 = some (.invokevirtual 148, 42, 2, 0) := (zf72 16).trans rfl
theorem d72_19 : zt_code 72 19 = some (.ifCond .eq (10), 0, 29, 0) := (zf72 19).trans rfl
theorem d72_22 : zt_code 72 22 = some (.iload_n 3, 0, 0, 0) := (zf72 22).trans rfl
theorem d72_23 : zt_code 72 23 = some (.invokestatic 142, 70, 1, -1) := (zf72 23).trans rfl
theorem d72_26 : zt_code 72 26 = some (.ifCond .ne (10), 0, 36, 0) := (zf72 26).trans rfl
theorem d72_29 : zt_code 72 29 = some (.aload_n 0, 0, 0, 0) := (zf72 29).trans rfl
theorem d72_30 : zt_code 72 30 = some (.bipush (-2), 0, 0, 0) := (zf72 30).trans rfl
theorem d72_32 : zt_code 72 32 = some (.invokevirtual 69, 10, 2, 4) := (zf72 32).trans rfl
theorem d72_35 : zt_code 72 35 = some (.ireturn, 0, 0, 0) := (zf72 35).trans rfl
theorem d72_36 : zt_code 72 36 = some (.aload_n 0, 0, 0, 0) := (zf72 36).trans rfl
theorem d72_37 : zt_code 72 37 = some (.getfield 12, 4, 0, 1) := (zf72 37).trans rfl
theorem d72_40 : zt_code 72 40 = some (.iload_n 1, 0, 0, 0) := (zf72 40).trans rfl
theorem d72_41 : zt_code 72 41 = some (.iload_n 2, 0, 0, 0) := (zf72 41).trans rfl
theorem d72_42 : zt_code 72 42 = some (.invokevirtual 151, 41, 3, 0) := (zf72 42).trans rfl
theorem d72_45 : zt_code 72 45 = some (.istore 4, 0, 0, 0) := (zf72 45).trans rfl
theorem d72_47 : zt_code 72 47 = some (.aload_n 0, 0, 0, 0) := (zf72 47).trans rfl
theorem d72_48 : zt_code 72 48 = some (.getfield 12, 4, 0, 1) := (zf72 48).trans rfl
theorem d72_51 : zt_code 72 51 = some (.getfield 154, 0, 9, 1) := (zf72 51).trans rfl
theorem d72_54 : zt_code 72 54 = some (.iload_n 1, 0, 0, 0) := (zf72 54).trans rfl
theorem d72_55 : zt_code 72 55 = some (.bipush (8), 0, 0, 0) := (zf72 55).trans rfl
theorem d72_57 : zt_code 72 57 = some (.imul, 0, 0, 0) := (zf72 57).trans rfl
theorem d72_58 : zt_code 72 58 = some (.iload_n 2, 0, 0, 0) := (zf72 58).trans rfl
theorem d72_59 : zt_code 72 59 = some (.iadd, 0, 0, 0) := (zf72 59).trans rfl
theorem d72_60 : zt_code 72 60 = some (.iload_n 3, 0, 0, 0) := (zf72 60).trans rfl
theorem d72_61 : zt_code 72 61 = some (.invokestatic 157, 12, 3, -1) := (zf72 61).trans rfl
theorem d72_64 : zt_code 72 64 = some (.iload 4, 0, 0, 0) := (zf72 64).trans rfl
theorem d72_66 : zt_code 72 66 = some (.ireturn, 0, 0, 0) := (zf72 66).trans rfl
/-- FirstAtTheFirst.worth(III)I -/
theorem vc72 {X : zX} {S : zx_S} {C : zx_C} {q : Int32 → zx_C → Prop} {e : Nat} {a1 : Int32} {a2 : Int32} {a3 : Int32} (hS : zs_4 S e) (h : zCd X 0 27 [.ref (e + 1), .int a1] S C (zQi (fun r1 C1 => if (r1 : Int32) = 0 then (zCd X 1 10 [.ref e, .int (-2)] S C1 (zQi (fun r2 C2 => q r2 C2))) else (zCd X 0 42 [.ref (e + 1), .int a2] S C1 (zQi (fun r3 C3 => if (r3 : Int32) = 0 then (zCd X 1 10 [.ref e, .int (-2)] S C3 (zQi (fun r4 C4 => q r4 C4))) else (zCd X 0 70 [.int a3] S C3 (zQi (fun r5 C5 => if (r5 : Int32) = 0 then (zCd X 1 10 [.ref e, .int (-2)] S C5 (zQi (fun r6 C6 => q r6 C6))) else (zCd X 1 41 [.ref (e + 1), .int a1, .int a2] S C5 (zQi (fun r7 C7 => zCd X 0 12 [.ref ((e + 1) + 4), .int ((a1 * 8) + a2), .int a3] S C7 (zQv (fun C8 => q r7 C8)))))))))))))) : zCd X 2 72 [.ref e, .int a1, .int a2, .int a3] S C (zQi q) := by
  refine zc_in ml_72 rfl ?_
  refine zw_aload_n (n := 1) d72_0 rfl rfl ?_
  refine zw_getr (n := 4) d72_1 rfl (zj_4 hS).1 (zj_4 hS).2 (zr_4_0 hS) ?_
  refine zw_iload_n (n := 5) d72_4 rfl rfl ?_
  refine zw_cI (n := 8) d72_5 (zs_V rfl rfl rfl rfl (by decide) (zj_0 (zo_4_0 hS)).1 (zq_0 (zo_4_0 hS))) (by rw [ml_27]; rfl) (by decide) rfl (zc_mI h (fun r1 C1 h => ?_))
  refine zw_if_eq (n := 11) d72_8 rfl (zite h (fun h => ?_) (fun h => ?_))
  · skip
    refine zw_aload_n (n := 30) d72_29 rfl rfl ?_
    refine zw_bipush (n := 32) d72_30 rfl zk_b_m2 ?_
    refine zw_cI (n := 35) d72_32 (zs_V rfl rfl rfl rfl (by decide) (zj_4 hS).1 (zq_4 hS)) (by rw [ml_10]; rfl) (by decide) rfl (zc_mI h (fun r2 C2 h => ?_))
    exact zw_iret d72_35 rfl ⟨_, rfl, h⟩
  · skip
    refine zw_aload_n (n := 12) d72_11 rfl rfl ?_
    refine zw_getr (n := 15) d72_12 rfl (zj_4 hS).1 (zj_4 hS).2 (zr_4_0 hS) ?_
    refine zw_iload_n (n := 16) d72_15 rfl rfl ?_
    refine zw_cI (n := 19) d72_16 (zs_V rfl rfl rfl rfl (by decide) (zj_0 (zo_4_0 hS)).1 (zq_0 (zo_4_0 hS))) (by rw [ml_42]; rfl) (by decide) rfl (zc_mI h (fun r3 C3 h => ?_))
    refine zw_if_eq (n := 22) d72_19 rfl (zite h (fun h => ?_) (fun h => ?_))
    · skip
      refine zw_aload_n (n := 30) d72_29 rfl rfl ?_
      refine zw_bipush (n := 32) d72_30 rfl zk_b_m2 ?_
      refine zw_cI (n := 35) d72_32 (zs_V rfl rfl rfl rfl (by decide) (zj_4 hS).1 (zq_4 hS)) (by rw [ml_10]; rfl) (by decide) rfl (zc_mI h (fun r4 C4 h => ?_))
      exact zw_iret d72_35 rfl ⟨_, rfl, h⟩
    · skip
      refine zw_iload_n (n := 23) d72_22 rfl rfl ?_
      refine zw_cI (n := 26) d72_23 (zs_S rfl rfl rfl rfl) (by rw [ml_70]; rfl) (by decide) rfl (zc_mI h (fun r5 C5 h => ?_))
      refine zw_if_ne (n := 29) d72_26 rfl (zite h (fun h => ?_) (fun h => ?_))
      · skip
        refine zw_aload_n (n := 30) d72_29 rfl rfl ?_
        refine zw_bipush (n := 32) d72_30 rfl zk_b_m2 ?_
        refine zw_cI (n := 35) d72_32 (zs_V rfl rfl rfl rfl (by decide) (zj_4 hS).1 (zq_4 hS)) (by rw [ml_10]; rfl) (by decide) rfl (zc_mI h (fun r6 C6 h => ?_))
        exact zw_iret d72_35 rfl ⟨_, rfl, h⟩
      · skip
        refine zw_aload_n (n := 37) d72_36 rfl rfl ?_
        refine zw_getr (n := 40) d72_37 rfl (zj_4 hS).1 (zj_4 hS).2 (zr_4_0 hS) ?_
        refine zw_iload_n (n := 41) d72_40 rfl rfl ?_
        refine zw_iload_n (n := 42) d72_41 rfl rfl ?_
        refine zw_cI (n := 45) d72_42 (zs_V rfl rfl rfl rfl (by decide) (zj_0 (zo_4_0 hS)).1 (zq_0 (zo_4_0 hS))) (by rw [ml_41]; rfl) (by decide) rfl (zc_mI h (fun r7 C7 h => ?_))
        refine zw_istore (n := 47) d72_45 rfl rfl rfl ?_
        refine zw_aload_n (n := 48) d72_47 rfl rfl ?_
        refine zw_getr (n := 51) d72_48 rfl (zj_4 hS).1 (zj_4 hS).2 (zr_4_0 hS) ?_
        refine zw_getr (n := 54) d72_51 rfl (zj_0 (zo_4_0 hS)).1 (zj_0 (zo_4_0 hS)).2 (zr_0_9 (zo_4_0 hS)) ?_
        refine zw_iload_n (n := 55) d72_54 rfl rfl ?_
        refine zw_bipush (n := 57) d72_55 rfl zk_b_8 ?_
        refine zw_imul (n := 58) d72_57 rfl ?_
        refine zw_iload_n (n := 59) d72_58 rfl rfl ?_
        refine zw_iadd (n := 60) d72_59 rfl ?_
        refine zw_iload_n (n := 61) d72_60 rfl rfl ?_
        refine zw_cV (n := 64) d72_61 (zs_S rfl rfl rfl rfl) (by rw [ml_12]; rfl) (by decide) rfl (zc_mV h (fun C8 h => ?_))
        refine zw_iload (n := 66) d72_64 rfl rfl ?_
        exact zw_iret d72_66 rfl ⟨_, rfl, h⟩

set_option maxRecDepth 20000 in
theorem zf73 (pc : Nat) : zt_code 73 pc = zt_fd zl_73 pc := rfl
theorem d73_0 : zt_code 73 0 = some (.aload_n 0, 0, 0, 0) := (zf73 0).trans rfl
theorem d73_1 : zt_code 73 1 = some (.getfield 12, 4, 0, 1) := (zf73 1).trans rfl
theorem d73_4 : zt_code 73 4 = some (.iload_n 1, 0, 0, 0) := (zf73 4).trans rfl
theorem d73_5 : zt_code 73 5 = some (.invokevirtual 102, 27, 2, 0) := (zf73 5).trans rfl
theorem d73_8 : zt_code 73 8 = some (.ifCond .eq (10), 0, 18, 0) := (zf73 8).trans rfl
theorem d73_11 : zt_code 73 11 = some (.iload_n 2, 0, 0, 0) := (zf73 11).trans rfl
theorem d73_12 : zt_code 73 12 = some (.invokestatic 115, 32, 1, -1) := (zf73 12).trans rfl
theorem d73_15 : zt_code 73 15 = some (.ifCond .ne (10), 0, 25, 0) := (zf73 15).trans rfl
theorem d73_18 : zt_code 73 18 = some (.aload_n 0, 0, 0, 0) := (zf73 18).trans rfl
theorem d73_19 : zt_code 73 19 = some (.bipush (-2), 0, 0, 0) := (zf73 19).trans rfl
theorem d73_21 : zt_code 73 21 = some (.invokevirtual 69, 10, 2, 4) := (zf73 21).trans rfl
theorem d73_24 : zt_code 73 24 = some (.ireturn, 0, 0, 0) := (zf73 24).trans rfl
theorem d73_25 : zt_code 73 25 = some (.aload_n 0, 0, 0, 0) := (zf73 25).trans rfl
theorem d73_26 : zt_code 73 26 = some (.getfield 12, 4, 0, 1) := (zf73 26).trans rfl
theorem d73_29 : zt_code 73 29 = some (.iload_n 1, 0, 0, 0) := (zf73 29).trans rfl
theorem d73_30 : zt_code 73 30 = some (.invokevirtual 109, 29, 2, 0) := (zf73 30).trans rfl
theorem d73_33 : zt_code 73 33 = some (.istore_n 3, 0, 0, 0) := (zf73 33).trans rfl
theorem d73_34 : zt_code 73 34 = some (.aload_n 0, 0, 0, 0) := (zf73 34).trans rfl
theorem d73_35 : zt_code 73 35 = some (.getfield 12, 4, 0, 1) := (zf73 35).trans rfl
theorem d73_38 : zt_code 73 38 = some (.getfield 161, 0, 7, 1) := (zf73 38).trans rfl
theorem d73_41 : zt_code 73 41 = some (.iload_n 1, 0, 0, 0) := (zf73 41).trans rfl
theorem d73_42 : zt_code 73 42 = some (.iload_n 2, 0, 0, 0) := (zf73 42).trans rfl
theorem d73_43 : zt_code 73 43 = some (.invokestatic 157, 12, 3, -1) := (zf73 43).trans rfl
theorem d73_46 : zt_code 73 46 = some (.iload_n 3, 0, 0, 0) := (zf73 46).trans rfl
theorem d73_47 : zt_code 73 47 = some (.ireturn, 0, 0, 0) := (zf73 47).trans rfl
/-- FirstAtTheFirst.bent(II)I -/
theorem vc73 {X : zX} {S : zx_S} {C : zx_C} {q : Int32 → zx_C → Prop} {e : Nat} {a1 : Int32} {a2 : Int32} (hS : zs_4 S e) (h : zCd X 0 27 [.ref (e + 1), .int a1] S C (zQi (fun r1 C1 => if (r1 : Int32) = 0 then (zCd X 1 10 [.ref e, .int (-2)] S C1 (zQi (fun r2 C2 => q r2 C2))) else (zCd X 0 32 [.int a2] S C1 (zQi (fun r3 C3 => if (r3 : Int32) = 0 then (zCd X 1 10 [.ref e, .int (-2)] S C3 (zQi (fun r4 C4 => q r4 C4))) else (zCd X 1 29 [.ref (e + 1), .int a1] S C3 (zQi (fun r5 C5 => zCd X 0 12 [.ref ((e + 1) + 2), .int a1, .int a2] S C5 (zQv (fun C6 => q r5 C6))))))))))) : zCd X 2 73 [.ref e, .int a1, .int a2] S C (zQi q) := by
  refine zc_in ml_73 rfl ?_
  refine zw_aload_n (n := 1) d73_0 rfl rfl ?_
  refine zw_getr (n := 4) d73_1 rfl (zj_4 hS).1 (zj_4 hS).2 (zr_4_0 hS) ?_
  refine zw_iload_n (n := 5) d73_4 rfl rfl ?_
  refine zw_cI (n := 8) d73_5 (zs_V rfl rfl rfl rfl (by decide) (zj_0 (zo_4_0 hS)).1 (zq_0 (zo_4_0 hS))) (by rw [ml_27]; rfl) (by decide) rfl (zc_mI h (fun r1 C1 h => ?_))
  refine zw_if_eq (n := 11) d73_8 rfl (zite h (fun h => ?_) (fun h => ?_))
  · skip
    refine zw_aload_n (n := 19) d73_18 rfl rfl ?_
    refine zw_bipush (n := 21) d73_19 rfl zk_b_m2 ?_
    refine zw_cI (n := 24) d73_21 (zs_V rfl rfl rfl rfl (by decide) (zj_4 hS).1 (zq_4 hS)) (by rw [ml_10]; rfl) (by decide) rfl (zc_mI h (fun r2 C2 h => ?_))
    exact zw_iret d73_24 rfl ⟨_, rfl, h⟩
  · skip
    refine zw_iload_n (n := 12) d73_11 rfl rfl ?_
    refine zw_cI (n := 15) d73_12 (zs_S rfl rfl rfl rfl) (by rw [ml_32]; rfl) (by decide) rfl (zc_mI h (fun r3 C3 h => ?_))
    refine zw_if_ne (n := 18) d73_15 rfl (zite h (fun h => ?_) (fun h => ?_))
    · skip
      refine zw_aload_n (n := 19) d73_18 rfl rfl ?_
      refine zw_bipush (n := 21) d73_19 rfl zk_b_m2 ?_
      refine zw_cI (n := 24) d73_21 (zs_V rfl rfl rfl rfl (by decide) (zj_4 hS).1 (zq_4 hS)) (by rw [ml_10]; rfl) (by decide) rfl (zc_mI h (fun r4 C4 h => ?_))
      exact zw_iret d73_24 rfl ⟨_, rfl, h⟩
    · skip
      refine zw_aload_n (n := 26) d73_25 rfl rfl ?_
      refine zw_getr (n := 29) d73_26 rfl (zj_4 hS).1 (zj_4 hS).2 (zr_4_0 hS) ?_
      refine zw_iload_n (n := 30) d73_29 rfl rfl ?_
      refine zw_cI (n := 33) d73_30 (zs_V rfl rfl rfl rfl (by decide) (zj_0 (zo_4_0 hS)).1 (zq_0 (zo_4_0 hS))) (by rw [ml_29]; rfl) (by decide) rfl (zc_mI h (fun r5 C5 h => ?_))
      refine zw_istore_n (n := 34) d73_33 rfl rfl rfl ?_
      refine zw_aload_n (n := 35) d73_34 rfl rfl ?_
      refine zw_getr (n := 38) d73_35 rfl (zj_4 hS).1 (zj_4 hS).2 (zr_4_0 hS) ?_
      refine zw_getr (n := 41) d73_38 rfl (zj_0 (zo_4_0 hS)).1 (zj_0 (zo_4_0 hS)).2 (zr_0_7 (zo_4_0 hS)) ?_
      refine zw_iload_n (n := 42) d73_41 rfl rfl ?_
      refine zw_iload_n (n := 43) d73_42 rfl rfl ?_
      refine zw_cV (n := 46) d73_43 (zs_S rfl rfl rfl rfl) (by rw [ml_12]; rfl) (by decide) rfl (zc_mV h (fun C6 h => ?_))
      refine zw_iload_n (n := 47) d73_46 rfl rfl ?_
      exact zw_iret d73_47 rfl ⟨_, rfl, h⟩

set_option maxRecDepth 20000 in
theorem zf74 (pc : Nat) : zt_code 74 pc = zt_fd zl_74 pc := rfl
theorem d74_0 : zt_code 74 0 = some (.iload_n 1, 0, 0, 0) := (zf74 0).trans rfl
theorem d74_1 : zt_code 74 1 = some (.invokestatic 164, 75, 1, -1) := (zf74 1).trans rfl
theorem d74_4 : zt_code 74 4 = some (.ifCond .ne (10), 0, 14, 0) := (zf74 4).trans rfl
theorem d74_7 : zt_code 74 7 = some (.aload_n 0, 0, 0, 0) := (zf74 7).trans rfl
theorem d74_8 : zt_code 74 8 = some (.bipush (-2), 0, 0, 0) := (zf74 8).trans rfl
theorem d74_10 : zt_code 74 10 = some (.invokevirtual 69, 10, 2, 4) := (zf74 10).trans rfl
theorem d74_13 : zt_code 74 13 = some (.ireturn, 0, 0, 0) := (zf74 13).trans rfl
theorem d74_14 : zt_code 74 14 = some (.aload_n 0, 0, 0, 0) := (zf74 14).trans rfl
theorem d74_15 : zt_code 74 15 = some (.getfield 12, 4, 0, 1) := (zf74 15).trans rfl
theorem d74_18 : zt_code 74 18 = some (.getfield 167, 0, 2, 0) := (zf74 18).trans rfl
theorem d74_21 : zt_code 74 21 = some (.istore_n 2, 0, 0, 0) := (zf74 21).trans rfl
theorem d74_22 : zt_code 74 22 = some (.aload_n 0, 0, 0, 0) := (zf74 22).trans rfl
theorem d74_23 : zt_code 74 23 = some (.getfield 12, 4, 0, 1) := (zf74 23).trans rfl
theorem d74_26 : zt_code 74 26 = some (.iload_n 1, 0, 0, 0) := (zf74 26).trans rfl
theorem d74_27 : zt_code 74 27 = some (.putfield 167, 0, 2, 0) := (zf74 27).trans rfl
theorem d74_30 : zt_code 74 30 = some (.iload_n 2, 0, 0, 0) := (zf74 30).trans rfl
theorem d74_31 : zt_code 74 31 = some (.ireturn, 0, 0, 0) := (zf74 31).trans rfl
/-- FirstAtTheFirst.law(I)I -/
theorem vc74 {X : zX} {S : zx_S} {C : zx_C} {q : Int32 → zx_C → Prop} {e : Nat} {a1 : Int32} (hS : zs_4 S e) (h : zCd X 0 75 [.int a1] S C (zQi (fun r1 C1 => if (r1 : Int32) = 0 then (zCd X 1 10 [.ref e, .int (-2)] S C1 (zQi (fun r2 C2 => q r2 C2))) else (q (C1.1 (e + 1) 2) (zp C1 (e + 1) 2 a1))))) : zCd X 2 74 [.ref e, .int a1] S C (zQi q) := by
  refine zc_in ml_74 rfl ?_
  refine zw_iload_n (n := 1) d74_0 rfl rfl ?_
  refine zw_cI (n := 4) d74_1 (zs_S rfl rfl rfl rfl) (by rw [ml_75]; rfl) (by decide) rfl (zc_mI h (fun r1 C1 h => ?_))
  refine zw_if_ne (n := 7) d74_4 rfl (zite h (fun h => ?_) (fun h => ?_))
  · skip
    refine zw_aload_n (n := 8) d74_7 rfl rfl ?_
    refine zw_bipush (n := 10) d74_8 rfl zk_b_m2 ?_
    refine zw_cI (n := 13) d74_10 (zs_V rfl rfl rfl rfl (by decide) (zj_4 hS).1 (zq_4 hS)) (by rw [ml_10]; rfl) (by decide) rfl (zc_mI h (fun r2 C2 h => ?_))
    exact zw_iret d74_13 rfl ⟨_, rfl, h⟩
  · skip
    refine zw_aload_n (n := 15) d74_14 rfl rfl ?_
    refine zw_getr (n := 18) d74_15 rfl (zj_4 hS).1 (zj_4 hS).2 (zr_4_0 hS) ?_
    refine zw_geti (n := 21) d74_18 rfl (zj_0 (zo_4_0 hS)).1 (zj_0 (zo_4_0 hS)).2 ?_
    refine zw_istore_n (n := 22) d74_21 rfl rfl rfl ?_
    refine zw_aload_n (n := 23) d74_22 rfl rfl ?_
    refine zw_getr (n := 26) d74_23 rfl (zj_4 hS).1 (zj_4 hS).2 (zr_4_0 hS) ?_
    refine zw_iload_n (n := 27) d74_26 rfl rfl ?_
    refine zw_puti (n := 30) d74_27 rfl (zj_0 (zo_4_0 hS)).1 (zj_0 (zo_4_0 hS)).2 ?_
    refine zw_iload_n (n := 31) d74_30 rfl rfl ?_
    exact zw_iret d74_31 rfl ⟨_, rfl, h⟩

set_option maxRecDepth 20000 in
theorem zf76 (pc : Nat) : zt_code 76 pc = zt_fd zl_76 pc := rfl
theorem d76_0 : zt_code 76 0 = some (.iload_n 1, 0, 0, 0) := (zf76 0).trans rfl
theorem d76_1 : zt_code 76 1 = some (.invokestatic 62, 8, 1, -1) := (zf76 1).trans rfl
theorem d76_4 : zt_code 76 4 = some (.ifCond .eq (14), 0, 18, 0) := (zf76 4).trans rfl
theorem d76_7 : zt_code 76 7 = some (.iload_n 2, 0, 0, 0) := (zf76 7).trans rfl
theorem d76_8 : zt_code 76 8 = some (.iconst (1), 0, 0, 0) := (zf76 8).trans rfl
theorem d76_9 : zt_code 76 9 = some (.if_icmp .lt (9), 0, 18, 0) := (zf76 9).trans rfl
theorem d76_12 : zt_code 76 12 = some (.iload_n 2, 0, 0, 0) := (zf76 12).trans rfl
theorem d76_13 : zt_code 76 13 = some (.bipush (12), 0, 0, 0) := (zf76 13).trans rfl
theorem d76_15 : zt_code 76 15 = some (.if_icmp .le (10), 0, 25, 0) := (zf76 15).trans rfl
theorem d76_18 : zt_code 76 18 = some (.aload_n 0, 0, 0, 0) := (zf76 18).trans rfl
theorem d76_19 : zt_code 76 19 = some (.bipush (-2), 0, 0, 0) := (zf76 19).trans rfl
theorem d76_21 : zt_code 76 21 = some (.invokevirtual 69, 10, 2, 4) := (zf76 21).trans rfl
theorem d76_24 : zt_code 76 24 = some (.ireturn, 0, 0, 0) := (zf76 24).trans rfl
theorem d76_25 : zt_code 76 25 = some (.aload_n 0, 0, 0, 0) := (zf76 25).trans rfl
theorem d76_26 : zt_code 76 26 = some (.getfield 32, 4, 4, 1) := (zf76 26).trans rfl
theorem d76_29 : zt_code 76 29 = some (.iload_n 1, 0, 0, 0) := (zf76 29).trans rfl
theorem d76_30 : zt_code 76 30 = some (.invokevirtual 77, 19, 2, 2) := (zf76 30).trans rfl
theorem d76_33 : zt_code 76 33 = some (.istore_n 3, 0, 0, 0) := (zf76 33).trans rfl
theorem d76_34 : zt_code 76 34 = some (.iload_n 3, 0, 0, 0) := (zf76 34).trans rfl
theorem d76_35 : zt_code 76 35 = some (.ifCond .eq (9), 0, 44, 0) := (zf76 35).trans rfl
theorem d76_38 : zt_code 76 38 = some (.aload_n 0, 0, 0, 0) := (zf76 38).trans rfl
theorem d76_39 : zt_code 76 39 = some (.iload_n 3, 0, 0, 0) := (zf76 39).trans rfl
theorem d76_40 : zt_code 76 40 = some (.invokevirtual 69, 10, 2, 4) := (zf76 40).trans rfl
theorem d76_43 : zt_code 76 43 = some (.ireturn, 0, 0, 0) := (zf76 43).trans rfl
theorem d76_44 : zt_code 76 44 = some (.aload_n 0, 0, 0, 0) := (zf76 44).trans rfl
theorem d76_45 : zt_code 76 45 = some (.getfield 32, 4, 4, 1) := (zf76 45).trans rfl
theorem d76_48 : zt_code 76 48 = some (.iload_n 1, 0, 0, 0) := (zf76 48).trans rfl
theorem d76_49 : zt_code 76 49 = some (.iload_n 2, 0, 0, 0) := (zf76 49).trans rfl
theorem d76_50 : zt_code 76 50 = some (.aload_n 0, 0, 0, 0) := (zf76 50).trans rfl
theorem d76_51 : zt_code 76 51 = some (.getfield 12, 4, 0, 1) := (zf76 51).trans rfl
theorem d76_54 : zt_code 76 54 = some (.getfield 136, 0, 0, 0) := (zf76 54).trans rfl
theorem d76_57 : zt_code 76 57 = some (.invokevirtual 170, 77, 4, 2) := (zf76 57).trans rfl
theorem d76_60 : zt_code 76 60 = some (.ifCond .ne (10), 0, 70, 0) := (zf76 60).trans rfl
theorem d76_63 : zt_code 76 63 = some (.aload_n 0, 0, 0, 0) := (zf76 63).trans rfl
theorem d76_64 : zt_code 76 64 = some (.bipush (-2), 0, 0, 0) := (zf76 64).trans rfl
theorem d76_66 : zt_code 76 66 = some (.invokevirtual 69, 10, 2, 4) := (zf76 66).trans rfl
theorem d76_69 : zt_code 76 69 = some (.ireturn, 0, 0, 0) := (zf76 69).trans rfl
theorem d76_70 : zt_code 76 70 = some (.iconst (0), 0, 0, 0) := (zf76 70).trans rfl
theorem d76_71 : zt_code 76 71 = some (.istore 4, 0, 0, 0) := (zf76 71).trans rfl
theorem d76_73 : zt_code 76 73 = some (.iload 4, 0, 0, 0) := (zf76 73).trans rfl
theorem d76_75 : zt_code 76 75 = some (.iload_n 2, 0, 0, 0) := (zf76 75).trans rfl
theorem d76_76 : zt_code 76 76 = some (.if_icmp .ge (32), 0, 108, 0) := (zf76 76).trans rfl
theorem d76_79 : zt_code 76 79 = some (.aload_n 0, 0, 0, 0) := (zf76 79).trans rfl
theorem d76_80 : zt_code 76 80 = some (.getfield 12, 4, 0, 1) := (zf76 80).trans rfl
theorem d76_83 : zt_code 76 83 = some (.getfield 174, 0, 6, 1) := (zf76 83).trans rfl
theorem d76_86 : zt_code 76 86 = some (.iload 4, 0, 0, 0) := (zf76 86).trans rfl
theorem d76_88 : zt_code 76 88 = some (.aload_n 0, 0, 0, 0) := (zf76 88).trans rfl
theorem d76_89 : zt_code 76 89 = some (.getfield 32, 4, 4, 1) := (zf76 89).trans rfl
theorem d76_92 : zt_code 76 92 = some (.iload_n 1, 0, 0, 0) := (zf76 92).trans rfl
theorem d76_93 : zt_code 76 93 = some (.iload 4, 0, 0, 0) := (zf76 93).trans rfl
theorem d76_95 : zt_code 76 95 = some (.invokevirtual 95, 23, 3, 2) := (zf76 95).trans rfl
theorem d76_98 : zt_code 76 98 = some (.l2i, 0, 0, 0) := (zf76 98).trans rfl
theorem d76_99 : zt_code 76 99 = some (.invokestatic 157, 12, 3, -1) := (zf76 99).trans rfl
theorem d76_102 : zt_code 76 102 = some (.iinc 4 (1), 0, 0, 0) := (zf76 102).trans rfl
theorem d76_105 : zt_code 76 105 = some (.goto (-32), 0, 73, 0) := (zf76 105).trans rfl
theorem d76_108 : zt_code 76 108 = some (.aload_n 0, 0, 0, 0) := (zf76 108).trans rfl
theorem d76_109 : zt_code 76 109 = some (.getfield 12, 4, 0, 1) := (zf76 109).trans rfl
theorem d76_112 : zt_code 76 112 = some (.iload_n 2, 0, 0, 0) := (zf76 112).trans rfl
theorem d76_113 : zt_code 76 113 = some (.putfield 177, 0, 5, 0) := (zf76 113).trans rfl
theorem d76_116 : zt_code 76 116 = some (.iload_n 2, 0, 0, 0) := (zf76 116).trans rfl
theorem d76_117 : zt_code 76 117 = some (.ireturn, 0, 0, 0) := (zf76 117).trans rfl
/-- FirstAtTheFirst.order(II)I -/
theorem vc76 {X : zX} {S : zx_S} {C : zx_C} {q : Int32 → zx_C → Prop} {e : Nat} {a1 : Int32} {a2 : Int32} (hS : zs_4 S e) (h : zCd X 0 8 [.int a1] S C (zQi (fun r1 C1 => if (r1 : Int32) = 0 then (zCd X 1 10 [.ref e, .int (-2)] S C1 (zQi (fun r2 C2 => q r2 C2))) else (if (a2 : Int32) < 1 then (zCd X 1 10 [.ref e, .int (-2)] S C1 (zQi (fun r3 C3 => q r3 C3))) else (if (12 : Int32) < a2 then (zCd X 1 10 [.ref e, .int (-2)] S C1 (zQi (fun r4 C4 => q r4 C4))) else (zCd X 2 19 [.ref (e + 18), .int a1] S C1 (zQi (fun r5 C5 => if (r5 : Int32) = 0 then (zCd X 4 77 [.ref (e + 18), .int a1, .int a2, .int (C5.1 (e + 1) 0)] S C5 (zQi (fun r6 C6 => if (r6 : Int32) = 0 then (zCd X 1 10 [.ref e, .int (-2)] S C6 (zQi (fun r7 C7 => q r7 C7))) else (zW X 5 76 73 [.ref e, .int a1, .int a2, .int r5, .int 0] [] S C6 (zQi q))))) else (zCd X 1 10 [.ref e, .int r5] S C5 (zQi (fun r8 C8 => q r8 C8))))))))))) : zCd X 5 76 [.ref e, .int a1, .int a2] S C (zQi q) := by
  refine zc_in ml_76 rfl ?_
  refine zw_iload_n (n := 1) d76_0 rfl rfl ?_
  refine zw_cI (n := 4) d76_1 (zs_S rfl rfl rfl rfl) (by rw [ml_8]; rfl) (by decide) rfl (zc_mI h (fun r1 C1 h => ?_))
  refine zw_if_eq (n := 7) d76_4 rfl (zite h (fun h => ?_) (fun h => ?_))
  · skip
    refine zw_aload_n (n := 19) d76_18 rfl rfl ?_
    refine zw_bipush (n := 21) d76_19 rfl zk_b_m2 ?_
    refine zw_cI (n := 24) d76_21 (zs_V rfl rfl rfl rfl (by decide) (zj_4 hS).1 (zq_4 hS)) (by rw [ml_10]; rfl) (by decide) rfl (zc_mI h (fun r2 C2 h => ?_))
    exact zw_iret d76_24 rfl ⟨_, rfl, h⟩
  · skip
    refine zw_iload_n (n := 8) d76_7 rfl rfl ?_
    refine zw_iconst (n := 9) d76_8 rfl zk_i_1 ?_
    refine zw_ic_lt (n := 12) d76_9 rfl (zite h (fun h => ?_) (fun h => ?_))
    · skip
      refine zw_aload_n (n := 19) d76_18 rfl rfl ?_
      refine zw_bipush (n := 21) d76_19 rfl zk_b_m2 ?_
      refine zw_cI (n := 24) d76_21 (zs_V rfl rfl rfl rfl (by decide) (zj_4 hS).1 (zq_4 hS)) (by rw [ml_10]; rfl) (by decide) rfl (zc_mI h (fun r3 C3 h => ?_))
      exact zw_iret d76_24 rfl ⟨_, rfl, h⟩
    · skip
      refine zw_iload_n (n := 13) d76_12 rfl rfl ?_
      refine zw_bipush (n := 15) d76_13 rfl zk_b_12 ?_
      refine zw_ic_le (n := 18) d76_15 rfl (zite h (fun h => ?_) (fun h => ?_))
      · skip
        refine zw_aload_n (n := 19) d76_18 rfl rfl ?_
        refine zw_bipush (n := 21) d76_19 rfl zk_b_m2 ?_
        refine zw_cI (n := 24) d76_21 (zs_V rfl rfl rfl rfl (by decide) (zj_4 hS).1 (zq_4 hS)) (by rw [ml_10]; rfl) (by decide) rfl (zc_mI h (fun r4 C4 h => ?_))
        exact zw_iret d76_24 rfl ⟨_, rfl, h⟩
      · skip
        refine zw_aload_n (n := 26) d76_25 rfl rfl ?_
        refine zw_getr (n := 29) d76_26 rfl (zj_4 hS).1 (zj_4 hS).2 (zr_4_4 hS) ?_
        refine zw_iload_n (n := 30) d76_29 rfl rfl ?_
        refine zw_cI (n := 33) d76_30 (zs_V rfl rfl rfl rfl (by decide) (zj_2 (zo_4_4 hS)).1 (zq_2 (zo_4_4 hS))) (by rw [ml_19]; rfl) (by decide) rfl (zc_mI h (fun r5 C5 h => ?_))
        refine zw_istore_n (n := 34) d76_33 rfl rfl rfl ?_
        refine zw_iload_n (n := 35) d76_34 rfl rfl ?_
        refine zw_if_eq (n := 38) d76_35 rfl (zite h (fun h => ?_) (fun h => ?_))
        · skip
          refine zw_aload_n (n := 45) d76_44 rfl rfl ?_
          refine zw_getr (n := 48) d76_45 rfl (zj_4 hS).1 (zj_4 hS).2 (zr_4_4 hS) ?_
          refine zw_iload_n (n := 49) d76_48 rfl rfl ?_
          refine zw_iload_n (n := 50) d76_49 rfl rfl ?_
          refine zw_aload_n (n := 51) d76_50 rfl rfl ?_
          refine zw_getr (n := 54) d76_51 rfl (zj_4 hS).1 (zj_4 hS).2 (zr_4_0 hS) ?_
          refine zw_geti (n := 57) d76_54 rfl (zj_0 (zo_4_0 hS)).1 (zj_0 (zo_4_0 hS)).2 ?_
          refine zw_cI (n := 60) d76_57 (zs_V rfl rfl rfl rfl (by decide) (zj_2 (zo_4_4 hS)).1 (zq_2 (zo_4_4 hS))) (by rw [ml_77]; rfl) (by decide) rfl (zc_mI h (fun r6 C6 h => ?_))
          refine zw_if_ne (n := 63) d76_60 rfl (zite h (fun h => ?_) (fun h => ?_))
          · skip
            refine zw_aload_n (n := 64) d76_63 rfl rfl ?_
            refine zw_bipush (n := 66) d76_64 rfl zk_b_m2 ?_
            refine zw_cI (n := 69) d76_66 (zs_V rfl rfl rfl rfl (by decide) (zj_4 hS).1 (zq_4 hS)) (by rw [ml_10]; rfl) (by decide) rfl (zc_mI h (fun r7 C7 h => ?_))
            exact zw_iret d76_69 rfl ⟨_, rfl, h⟩
          · skip
            refine zw_iconst (n := 71) d76_70 rfl zk_i_0 ?_
            refine zw_istore (n := 73) d76_71 rfl rfl rfl ?_
            exact h
        · skip
          refine zw_aload_n (n := 39) d76_38 rfl rfl ?_
          refine zw_iload_n (n := 40) d76_39 rfl rfl ?_
          refine zw_cI (n := 43) d76_40 (zs_V rfl rfl rfl rfl (by decide) (zj_4 hS).1 (zq_4 hS)) (by rw [ml_10]; rfl) (by decide) rfl (zc_mI h (fun r8 C8 h => ?_))
          exact zw_iret d76_43 rfl ⟨_, rfl, h⟩
theorem vc76_73 {X : zX} {S : zx_S} {C : zx_C} {q : Int32 → zx_C → Prop} {e : Nat} {a1 : Int32} {a2 : Int32} {i1 : Int32} {i2 : Int32} {z3 : Value} {i4 : Int32} (hS : zs_4 S e) (h : if (i4 : Int32) < i2 then (zCd X 3 23 [.ref (e + 18), .int i1, .int i4] S C (zQl (fun r1 C1 => zCd X 0 12 [.ref ((e + 1) + 1), .int i4, .int (Int64.toInt32 r1)] S C1 (zQv (fun C2 => zW X 5 76 73 [.ref e, .int i1, .int i2, z3, .int (i4 + 1)] [] S C2 (zQi q)))))) else (q i2 (zp C (e + 1) 5 i2))) : zW X 5 76 73 [.ref e, .int i1, .int i2, z3, .int i4] [] S C (zQi q) := by
  refine zw_iload (n := 75) d76_73 rfl rfl ?_
  refine zw_iload_n (n := 76) d76_75 rfl rfl ?_
  refine zw_ic_ge (n := 79) d76_76 rfl (zite h (fun h => ?_) (fun h => ?_))
  · skip
    refine zw_aload_n (n := 80) d76_79 rfl rfl ?_
    refine zw_getr (n := 83) d76_80 rfl (zj_4 hS).1 (zj_4 hS).2 (zr_4_0 hS) ?_
    refine zw_getr (n := 86) d76_83 rfl (zj_0 (zo_4_0 hS)).1 (zj_0 (zo_4_0 hS)).2 (zr_0_6 (zo_4_0 hS)) ?_
    refine zw_iload (n := 88) d76_86 rfl rfl ?_
    refine zw_aload_n (n := 89) d76_88 rfl rfl ?_
    refine zw_getr (n := 92) d76_89 rfl (zj_4 hS).1 (zj_4 hS).2 (zr_4_4 hS) ?_
    refine zw_iload_n (n := 93) d76_92 rfl rfl ?_
    refine zw_iload (n := 95) d76_93 rfl rfl ?_
    refine zw_cL (n := 98) d76_95 (zs_V rfl rfl rfl rfl (by decide) (zj_2 (zo_4_4 hS)).1 (zq_2 (zo_4_4 hS))) (by rw [ml_23]; rfl) (by decide) rfl (zc_mL h (fun r1 C1 h => ?_))
    refine zw_l2i (n := 99) d76_98 rfl ?_
    refine zw_cV (n := 102) d76_99 (zs_S rfl rfl rfl rfl) (by rw [ml_12]; rfl) (by decide) rfl (zc_mV h (fun C2 h => ?_))
    refine zw_iinc (n := 105) d76_102 rfl rfl zk_i_1 rfl ?_
    refine zw_goto d76_105 ?_
    exact h
  · skip
    refine zw_aload_n (n := 109) d76_108 rfl rfl ?_
    refine zw_getr (n := 112) d76_109 rfl (zj_4 hS).1 (zj_4 hS).2 (zr_4_0 hS) ?_
    refine zw_iload_n (n := 113) d76_112 rfl rfl ?_
    refine zw_puti (n := 116) d76_113 rfl (zj_0 (zo_4_0 hS)).1 (zj_0 (zo_4_0 hS)).2 ?_
    refine zw_iload_n (n := 117) d76_116 rfl rfl ?_
    exact zw_iret d76_117 rfl ⟨_, rfl, h⟩

set_option maxRecDepth 20000 in
theorem zf78 (pc : Nat) : zt_code 78 pc = zt_fd zl_78 pc := rfl
theorem d78_0 : zt_code 78 0 = some (.iload_n 1, 0, 0, 0) := (zf78 0).trans rfl
theorem d78_1 : zt_code 78 1 = some (.ifCond .lt (9), 0, 10, 0) := (zf78 1).trans rfl
theorem d78_4 : zt_code 78 4 = some (.iload_n 1, 0, 0, 0) := (zf78 4).trans rfl
theorem d78_5 : zt_code 78 5 = some (.ldc 180, 0, 0, 1000000000) := (zf78 5).trans rfl
theorem d78_7 : zt_code 78 7 = some (.if_icmp .le (10), 0, 17, 0) := (zf78 7).trans rfl
theorem d78_10 : zt_code 78 10 = some (.aload_n 0, 0, 0, 0) := (zf78 10).trans rfl
theorem d78_11 : zt_code 78 11 = some (.bipush (-2), 0, 0, 0) := (zf78 11).trans rfl
theorem d78_13 : zt_code 78 13 = some (.invokevirtual 69, 10, 2, 4) := (zf78 13).trans rfl
theorem d78_16 : zt_code 78 16 = some (.ireturn, 0, 0, 0) := (zf78 16).trans rfl
theorem d78_17 : zt_code 78 17 = some (.aload_n 0, 0, 0, 0) := (zf78 17).trans rfl
theorem d78_18 : zt_code 78 18 = some (.getfield 12, 4, 0, 1) := (zf78 18).trans rfl
theorem d78_21 : zt_code 78 21 = some (.getfield 181, 0, 3, 0) := (zf78 21).trans rfl
theorem d78_24 : zt_code 78 24 = some (.istore_n 2, 0, 0, 0) := (zf78 24).trans rfl
theorem d78_25 : zt_code 78 25 = some (.aload_n 0, 0, 0, 0) := (zf78 25).trans rfl
theorem d78_26 : zt_code 78 26 = some (.getfield 12, 4, 0, 1) := (zf78 26).trans rfl
theorem d78_29 : zt_code 78 29 = some (.iload_n 1, 0, 0, 0) := (zf78 29).trans rfl
theorem d78_30 : zt_code 78 30 = some (.putfield 181, 0, 3, 0) := (zf78 30).trans rfl
theorem d78_33 : zt_code 78 33 = some (.iload_n 2, 0, 0, 0) := (zf78 33).trans rfl
theorem d78_34 : zt_code 78 34 = some (.ireturn, 0, 0, 0) := (zf78 34).trans rfl
/-- FirstAtTheFirst.turn(I)I -/
theorem vc78 {X : zX} {S : zx_S} {C : zx_C} {q : Int32 → zx_C → Prop} {e : Nat} {a1 : Int32} (hS : zs_4 S e) (h : if (a1 : Int32) < 0 then (zCd X 1 10 [.ref e, .int (-2)] S C (zQi (fun r1 C1 => q r1 C1))) else (if (1000000000 : Int32) < a1 then (zCd X 1 10 [.ref e, .int (-2)] S C (zQi (fun r2 C2 => q r2 C2))) else (q (C.1 (e + 1) 3) (zp C (e + 1) 3 a1)))) : zCd X 2 78 [.ref e, .int a1] S C (zQi q) := by
  refine zc_in ml_78 rfl ?_
  refine zw_iload_n (n := 1) d78_0 rfl rfl ?_
  refine zw_if_lt (n := 4) d78_1 rfl (zite h (fun h => ?_) (fun h => ?_))
  · skip
    refine zw_aload_n (n := 11) d78_10 rfl rfl ?_
    refine zw_bipush (n := 13) d78_11 rfl zk_b_m2 ?_
    refine zw_cI (n := 16) d78_13 (zs_V rfl rfl rfl rfl (by decide) (zj_4 hS).1 (zq_4 hS)) (by rw [ml_10]; rfl) (by decide) rfl (zc_mI h (fun r1 C1 h => ?_))
    exact zw_iret d78_16 rfl ⟨_, rfl, h⟩
  · skip
    refine zw_iload_n (n := 5) d78_4 rfl rfl ?_
    refine zw_ldci (n := 7) d78_5 rfl zk_i_1000000000 ?_
    refine zw_ic_le (n := 10) d78_7 rfl (zite h (fun h => ?_) (fun h => ?_))
    · skip
      refine zw_aload_n (n := 11) d78_10 rfl rfl ?_
      refine zw_bipush (n := 13) d78_11 rfl zk_b_m2 ?_
      refine zw_cI (n := 16) d78_13 (zs_V rfl rfl rfl rfl (by decide) (zj_4 hS).1 (zq_4 hS)) (by rw [ml_10]; rfl) (by decide) rfl (zc_mI h (fun r2 C2 h => ?_))
      exact zw_iret d78_16 rfl ⟨_, rfl, h⟩
    · skip
      refine zw_aload_n (n := 18) d78_17 rfl rfl ?_
      refine zw_getr (n := 21) d78_18 rfl (zj_4 hS).1 (zj_4 hS).2 (zr_4_0 hS) ?_
      refine zw_geti (n := 24) d78_21 rfl (zj_0 (zo_4_0 hS)).1 (zj_0 (zo_4_0 hS)).2 ?_
      refine zw_istore_n (n := 25) d78_24 rfl rfl rfl ?_
      refine zw_aload_n (n := 26) d78_25 rfl rfl ?_
      refine zw_getr (n := 29) d78_26 rfl (zj_4 hS).1 (zj_4 hS).2 (zr_4_0 hS) ?_
      refine zw_iload_n (n := 30) d78_29 rfl rfl ?_
      refine zw_puti (n := 33) d78_30 rfl (zj_0 (zo_4_0 hS)).1 (zj_0 (zo_4_0 hS)).2 ?_
      refine zw_iload_n (n := 34) d78_33 rfl rfl ?_
      exact zw_iret d78_34 rfl ⟨_, rfl, h⟩

set_option maxRecDepth 20000 in
theorem zf79 (pc : Nat) : zt_code 79 pc = zt_fd zl_79 pc := rfl
theorem d79_0 : zt_code 79 0 = some (.aload_n 0, 0, 0, 0) := (zf79 0).trans rfl
theorem d79_1 : zt_code 79 1 = some (.getfield 12, 4, 0, 1) := (zf79 1).trans rfl
theorem d79_4 : zt_code 79 4 = some (.iload_n 1, 0, 0, 0) := (zf79 4).trans rfl
theorem d79_5 : zt_code 79 5 = some (.invokevirtual 148, 42, 2, 0) := (zf79 5).trans rfl
theorem d79_8 : zt_code 79 8 = some (.ifCond .eq (19), 0, 27, 0) := (zf79 8).trans rfl
theorem d79_11 : zt_code 79 11 = some (.iload_n 2, 0, 0, 0) := (zf79 11).trans rfl
theorem d79_12 : zt_code 79 12 = some (.iconst (-1), 0, 0, 0) := (zf79 12).trans rfl
theorem d79_13 : zt_code 79 13 = some (.if_icmp .eq (21), 0, 34, 0) := (zf79 13).trans rfl
theorem d79_16 : zt_code 79 16 = some (.aload_n 0, 0, 0, 0) := (zf79 16).trans rfl
theorem d79_17 : zt_code 79 17 = some (.getfield 12, 4, 0, 1) := (zf79 17).trans rfl
theorem d79_20 : zt_code 79 20 = some (.iload_n 2, 0, 0, 0) := (zf79 20).trans rfl
theorem d79_21 : zt_code 79 21 = some (.invokevirtual 102, 27, 2, 0) := (zf79 21).trans rfl
theorem d79_24 : zt_code 79 24 = some (.ifCond .ne (10), 0, 34, 0) := (zf79 24).trans rfl
theorem d79_27 : zt_code 79 27 = some (.aload_n 0, 0, 0, 0) := (zf79 27).trans rfl
theorem d79_28 : zt_code 79 28 = some (.bipush (-2), 0, 0, 0) := (zf79 28).trans rfl
theorem d79_30 : zt_code 79 30 = some (.invokevirtual 69, 10, 2, 4) := (zf79 30).trans rfl
theorem d79_33 : zt_code 79 33 = some (.ireturn, 0, 0, 0) := (zf79 33).trans rfl
theorem d79_34 : zt_code 79 34 = some (.aload_n 0, 0, 0, 0) := (zf79 34).trans rfl
theorem d79_35 : zt_code 79 35 = some (.getfield 12, 4, 0, 1) := (zf79 35).trans rfl
theorem d79_38 : zt_code 79 38 = some (.iload_n 1, 0, 0, 0) := (zf79 38).trans rfl
theorem d79_39 : zt_code 79 39 = some (.invokevirtual 184, 80, 2, 0) := (zf79 39).trans rfl
theorem d79_42 : zt_code 79 42 = some (.istore_n 3, 0, 0, 0) := (zf79 42).trans rfl
theorem d79_43 : zt_code 79 43 = some (.aload_n 0, 0, 0, 0) := (zf79 43).trans rfl
theorem d79_44 : zt_code 79 44 = some (.getfield 12, 4, 0, 1) := (zf79 44).trans rfl
theorem d79_47 : zt_code 79 47 = some (.getfield 187, 0, 8, 1) := (zf79 47).trans rfl
theorem d79_50 : zt_code 79 50 = some (.iload_n 1, 0, 0, 0) := (zf79 50).trans rfl
theorem d79_51 : zt_code 79 51 = some (.iload_n 2, 0, 0, 0) := (zf79 51).trans rfl
theorem d79_52 : zt_code 79 52 = some (.invokestatic 157, 12, 3, -1) := (zf79 52).trans rfl
theorem d79_55 : zt_code 79 55 = some (.iload_n 3, 0, 0, 0) := (zf79 55).trans rfl
theorem d79_56 : zt_code 79 56 = some (.ireturn, 0, 0, 0) := (zf79 56).trans rfl
/-- FirstAtTheFirst.own(II)I -/
theorem vc79 {X : zX} {S : zx_S} {C : zx_C} {q : Int32 → zx_C → Prop} {e : Nat} {a1 : Int32} {a2 : Int32} (hS : zs_4 S e) (h : zCd X 0 42 [.ref (e + 1), .int a1] S C (zQi (fun r1 C1 => if (r1 : Int32) = 0 then (zCd X 1 10 [.ref e, .int (-2)] S C1 (zQi (fun r2 C2 => q r2 C2))) else (if (a2 : Int32) = (-1) then (zCd X 1 80 [.ref (e + 1), .int a1] S C1 (zQi (fun r3 C3 => zCd X 0 12 [.ref ((e + 1) + 3), .int a1, .int a2] S C3 (zQv (fun C4 => q r3 C4))))) else (zCd X 0 27 [.ref (e + 1), .int a2] S C1 (zQi (fun r5 C5 => if (r5 : Int32) = 0 then (zCd X 1 10 [.ref e, .int (-2)] S C5 (zQi (fun r6 C6 => q r6 C6))) else (zCd X 1 80 [.ref (e + 1), .int a1] S C5 (zQi (fun r7 C7 => zCd X 0 12 [.ref ((e + 1) + 3), .int a1, .int a2] S C7 (zQv (fun C8 => q r7 C8)))))))))))) : zCd X 2 79 [.ref e, .int a1, .int a2] S C (zQi q) := by
  refine zc_in ml_79 rfl ?_
  refine zw_aload_n (n := 1) d79_0 rfl rfl ?_
  refine zw_getr (n := 4) d79_1 rfl (zj_4 hS).1 (zj_4 hS).2 (zr_4_0 hS) ?_
  refine zw_iload_n (n := 5) d79_4 rfl rfl ?_
  refine zw_cI (n := 8) d79_5 (zs_V rfl rfl rfl rfl (by decide) (zj_0 (zo_4_0 hS)).1 (zq_0 (zo_4_0 hS))) (by rw [ml_42]; rfl) (by decide) rfl (zc_mI h (fun r1 C1 h => ?_))
  refine zw_if_eq (n := 11) d79_8 rfl (zite h (fun h => ?_) (fun h => ?_))
  · skip
    refine zw_aload_n (n := 28) d79_27 rfl rfl ?_
    refine zw_bipush (n := 30) d79_28 rfl zk_b_m2 ?_
    refine zw_cI (n := 33) d79_30 (zs_V rfl rfl rfl rfl (by decide) (zj_4 hS).1 (zq_4 hS)) (by rw [ml_10]; rfl) (by decide) rfl (zc_mI h (fun r2 C2 h => ?_))
    exact zw_iret d79_33 rfl ⟨_, rfl, h⟩
  · skip
    refine zw_iload_n (n := 12) d79_11 rfl rfl ?_
    refine zw_iconst (n := 13) d79_12 rfl zk_i_m1 ?_
    refine zw_ic_eq (n := 16) d79_13 rfl (zite h (fun h => ?_) (fun h => ?_))
    · skip
      refine zw_aload_n (n := 35) d79_34 rfl rfl ?_
      refine zw_getr (n := 38) d79_35 rfl (zj_4 hS).1 (zj_4 hS).2 (zr_4_0 hS) ?_
      refine zw_iload_n (n := 39) d79_38 rfl rfl ?_
      refine zw_cI (n := 42) d79_39 (zs_V rfl rfl rfl rfl (by decide) (zj_0 (zo_4_0 hS)).1 (zq_0 (zo_4_0 hS))) (by rw [ml_80]; rfl) (by decide) rfl (zc_mI h (fun r3 C3 h => ?_))
      refine zw_istore_n (n := 43) d79_42 rfl rfl rfl ?_
      refine zw_aload_n (n := 44) d79_43 rfl rfl ?_
      refine zw_getr (n := 47) d79_44 rfl (zj_4 hS).1 (zj_4 hS).2 (zr_4_0 hS) ?_
      refine zw_getr (n := 50) d79_47 rfl (zj_0 (zo_4_0 hS)).1 (zj_0 (zo_4_0 hS)).2 (zr_0_8 (zo_4_0 hS)) ?_
      refine zw_iload_n (n := 51) d79_50 rfl rfl ?_
      refine zw_iload_n (n := 52) d79_51 rfl rfl ?_
      refine zw_cV (n := 55) d79_52 (zs_S rfl rfl rfl rfl) (by rw [ml_12]; rfl) (by decide) rfl (zc_mV h (fun C4 h => ?_))
      refine zw_iload_n (n := 56) d79_55 rfl rfl ?_
      exact zw_iret d79_56 rfl ⟨_, rfl, h⟩
    · skip
      refine zw_aload_n (n := 17) d79_16 rfl rfl ?_
      refine zw_getr (n := 20) d79_17 rfl (zj_4 hS).1 (zj_4 hS).2 (zr_4_0 hS) ?_
      refine zw_iload_n (n := 21) d79_20 rfl rfl ?_
      refine zw_cI (n := 24) d79_21 (zs_V rfl rfl rfl rfl (by decide) (zj_0 (zo_4_0 hS)).1 (zq_0 (zo_4_0 hS))) (by rw [ml_27]; rfl) (by decide) rfl (zc_mI h (fun r5 C5 h => ?_))
      refine zw_if_ne (n := 27) d79_24 rfl (zite h (fun h => ?_) (fun h => ?_))
      · skip
        refine zw_aload_n (n := 28) d79_27 rfl rfl ?_
        refine zw_bipush (n := 30) d79_28 rfl zk_b_m2 ?_
        refine zw_cI (n := 33) d79_30 (zs_V rfl rfl rfl rfl (by decide) (zj_4 hS).1 (zq_4 hS)) (by rw [ml_10]; rfl) (by decide) rfl (zc_mI h (fun r6 C6 h => ?_))
        exact zw_iret d79_33 rfl ⟨_, rfl, h⟩
      · skip
        refine zw_aload_n (n := 35) d79_34 rfl rfl ?_
        refine zw_getr (n := 38) d79_35 rfl (zj_4 hS).1 (zj_4 hS).2 (zr_4_0 hS) ?_
        refine zw_iload_n (n := 39) d79_38 rfl rfl ?_
        refine zw_cI (n := 42) d79_39 (zs_V rfl rfl rfl rfl (by decide) (zj_0 (zo_4_0 hS)).1 (zq_0 (zo_4_0 hS))) (by rw [ml_80]; rfl) (by decide) rfl (zc_mI h (fun r7 C7 h => ?_))
        refine zw_istore_n (n := 43) d79_42 rfl rfl rfl ?_
        refine zw_aload_n (n := 44) d79_43 rfl rfl ?_
        refine zw_getr (n := 47) d79_44 rfl (zj_4 hS).1 (zj_4 hS).2 (zr_4_0 hS) ?_
        refine zw_getr (n := 50) d79_47 rfl (zj_0 (zo_4_0 hS)).1 (zj_0 (zo_4_0 hS)).2 (zr_0_8 (zo_4_0 hS)) ?_
        refine zw_iload_n (n := 51) d79_50 rfl rfl ?_
        refine zw_iload_n (n := 52) d79_51 rfl rfl ?_
        refine zw_cV (n := 55) d79_52 (zs_S rfl rfl rfl rfl) (by rw [ml_12]; rfl) (by decide) rfl (zc_mV h (fun C8 h => ?_))
        refine zw_iload_n (n := 56) d79_55 rfl rfl ?_
        exact zw_iret d79_56 rfl ⟨_, rfl, h⟩

set_option maxRecDepth 20000 in
theorem zf81 (pc : Nat) : zt_code 81 pc = zt_fd zl_81 pc := rfl
theorem d81_0 : zt_code 81 0 = some (.iload_n 1, 0, 0, 0) := (zf81 0).trans rfl
theorem d81_1 : zt_code 81 1 = some (.ifCond .lt (10), 0, 11, 0) := (zf81 1).trans rfl
theorem d81_4 : zt_code 81 4 = some (.iload_n 1, 0, 0, 0) := (zf81 4).trans rfl
theorem d81_5 : zt_code 81 5 = some (.sipush (255), 0, 0, 0) := (zf81 5).trans rfl
theorem d81_8 : zt_code 81 8 = some (.if_icmp .le (10), 0, 18, 0) := (zf81 8).trans rfl
theorem d81_11 : zt_code 81 11 = some (.aload_n 0, 0, 0, 0) := (zf81 11).trans rfl
theorem d81_12 : zt_code 81 12 = some (.bipush (-2), 0, 0, 0) := (zf81 12).trans rfl
theorem d81_14 : zt_code 81 14 = some (.invokevirtual 69, 10, 2, 4) := (zf81 14).trans rfl
theorem d81_17 : zt_code 81 17 = some (.ireturn, 0, 0, 0) := (zf81 17).trans rfl
theorem d81_18 : zt_code 81 18 = some (.aload_n 0, 0, 0, 0) := (zf81 18).trans rfl
theorem d81_19 : zt_code 81 19 = some (.getfield 25, 4, 3, 1) := (zf81 19).trans rfl
theorem d81_22 : zt_code 81 22 = some (.getfield 190, 3, 1, 0) := (zf81 22).trans rfl
theorem d81_25 : zt_code 81 25 = some (.sipush (250), 0, 0, 0) := (zf81 25).trans rfl
theorem d81_28 : zt_code 81 28 = some (.if_icmp .lt (10), 0, 38, 0) := (zf81 28).trans rfl
theorem d81_31 : zt_code 81 31 = some (.aload_n 0, 0, 0, 0) := (zf81 31).trans rfl
theorem d81_32 : zt_code 81 32 = some (.bipush (-6), 0, 0, 0) := (zf81 32).trans rfl
theorem d81_34 : zt_code 81 34 = some (.invokevirtual 69, 10, 2, 4) := (zf81 34).trans rfl
theorem d81_37 : zt_code 81 37 = some (.ireturn, 0, 0, 0) := (zf81 37).trans rfl
theorem d81_38 : zt_code 81 38 = some (.aload_n 0, 0, 0, 0) := (zf81 38).trans rfl
theorem d81_39 : zt_code 81 39 = some (.getfield 25, 4, 3, 1) := (zf81 39).trans rfl
theorem d81_42 : zt_code 81 42 = some (.getfield 193, 3, 0, 1) := (zf81 42).trans rfl
theorem d81_45 : zt_code 81 45 = some (.aload_n 0, 0, 0, 0) := (zf81 45).trans rfl
theorem d81_46 : zt_code 81 46 = some (.getfield 25, 4, 3, 1) := (zf81 46).trans rfl
theorem d81_49 : zt_code 81 49 = some (.getfield 190, 3, 1, 0) := (zf81 49).trans rfl
theorem d81_52 : zt_code 81 52 = some (.iload_n 1, 0, 0, 0) := (zf81 52).trans rfl
theorem d81_53 : zt_code 81 53 = some (.invokestatic 157, 12, 3, -1) := (zf81 53).trans rfl
theorem d81_56 : zt_code 81 56 = some (.aload_n 0, 0, 0, 0) := (zf81 56).trans rfl
theorem d81_57 : zt_code 81 57 = some (.getfield 25, 4, 3, 1) := (zf81 57).trans rfl
theorem d81_60 : zt_code 81 60 = some (.dup, 0, 0, 0) := (zf81 60).trans rfl
theorem d81_61 : zt_code 81 61 = some (.getfield 190, 3, 1, 0) := (zf81 61).trans rfl
theorem d81_64 : zt_code 81 64 = some (.iconst (1), 0, 0, 0) := (zf81 64).trans rfl
theorem d81_65 : zt_code 81 65 = some (.iadd, 0, 0, 0) := (zf81 65).trans rfl
theorem d81_66 : zt_code 81 66 = some (.putfield 190, 3, 1, 0) := (zf81 66).trans rfl
theorem d81_69 : zt_code 81 69 = some (.aload_n 0, 0, 0, 0) := (zf81 69).trans rfl
theorem d81_70 : zt_code 81 70 = some (.getfield 25, 4, 3, 1) := (zf81 70).trans rfl
theorem d81_73 : zt_code 81 73 = some (.getfield 190, 3, 1, 0) := (zf81 73).trans rfl
theorem d81_76 : zt_code 81 76 = some (.ireturn, 0, 0, 0) := (zf81 76).trans rfl
/-- FirstAtTheFirst.feed(I)I -/
theorem vc81 {X : zX} {S : zx_S} {C : zx_C} {q : Int32 → zx_C → Prop} {e : Nat} {a1 : Int32} (hS : zs_4 S e) (h : if (a1 : Int32) < 0 then (zCd X 1 10 [.ref e, .int (-2)] S C (zQi (fun r1 C1 => q r1 C1))) else (if (255 : Int32) < a1 then (zCd X 1 10 [.ref e, .int (-2)] S C (zQi (fun r2 C2 => q r2 C2))) else (if ((C.1 (e + 16) 1) : Int32) < 250 then (zCd X 0 12 [.ref ((e + 16) + 1), .int (C.1 (e + 16) 1), .int a1] S C (zQv (fun C3 => q (Prod.fst (zp C3 (e + 16) 1 ((C3.1 (e + 16) 1) + 1)) (e + 16) 1) (zp C3 (e + 16) 1 ((C3.1 (e + 16) 1) + 1))))) else (zCd X 1 10 [.ref e, .int (-6)] S C (zQi (fun r4 C4 => q r4 C4)))))) : zCd X 2 81 [.ref e, .int a1] S C (zQi q) := by
  refine zc_in ml_81 rfl ?_
  refine zw_iload_n (n := 1) d81_0 rfl rfl ?_
  refine zw_if_lt (n := 4) d81_1 rfl (zite h (fun h => ?_) (fun h => ?_))
  · skip
    refine zw_aload_n (n := 12) d81_11 rfl rfl ?_
    refine zw_bipush (n := 14) d81_12 rfl zk_b_m2 ?_
    refine zw_cI (n := 17) d81_14 (zs_V rfl rfl rfl rfl (by decide) (zj_4 hS).1 (zq_4 hS)) (by rw [ml_10]; rfl) (by decide) rfl (zc_mI h (fun r1 C1 h => ?_))
    exact zw_iret d81_17 rfl ⟨_, rfl, h⟩
  · skip
    refine zw_iload_n (n := 5) d81_4 rfl rfl ?_
    refine zw_sipush (n := 8) d81_5 rfl zk_s_255 ?_
    refine zw_ic_le (n := 11) d81_8 rfl (zite h (fun h => ?_) (fun h => ?_))
    · skip
      refine zw_aload_n (n := 12) d81_11 rfl rfl ?_
      refine zw_bipush (n := 14) d81_12 rfl zk_b_m2 ?_
      refine zw_cI (n := 17) d81_14 (zs_V rfl rfl rfl rfl (by decide) (zj_4 hS).1 (zq_4 hS)) (by rw [ml_10]; rfl) (by decide) rfl (zc_mI h (fun r2 C2 h => ?_))
      exact zw_iret d81_17 rfl ⟨_, rfl, h⟩
    · skip
      refine zw_aload_n (n := 19) d81_18 rfl rfl ?_
      refine zw_getr (n := 22) d81_19 rfl (zj_4 hS).1 (zj_4 hS).2 (zr_4_3 hS) ?_
      refine zw_geti (n := 25) d81_22 rfl (zj_3 (zo_4_3 hS)).1 (zj_3 (zo_4_3 hS)).2 ?_
      refine zw_sipush (n := 28) d81_25 rfl zk_s_250 ?_
      refine zw_ic_lt (n := 31) d81_28 rfl (zite h (fun h => ?_) (fun h => ?_))
      · skip
        refine zw_aload_n (n := 39) d81_38 rfl rfl ?_
        refine zw_getr (n := 42) d81_39 rfl (zj_4 hS).1 (zj_4 hS).2 (zr_4_3 hS) ?_
        refine zw_getr (n := 45) d81_42 rfl (zj_3 (zo_4_3 hS)).1 (zj_3 (zo_4_3 hS)).2 (zr_3_0 (zo_4_3 hS)) ?_
        refine zw_aload_n (n := 46) d81_45 rfl rfl ?_
        refine zw_getr (n := 49) d81_46 rfl (zj_4 hS).1 (zj_4 hS).2 (zr_4_3 hS) ?_
        refine zw_geti (n := 52) d81_49 rfl (zj_3 (zo_4_3 hS)).1 (zj_3 (zo_4_3 hS)).2 ?_
        refine zw_iload_n (n := 53) d81_52 rfl rfl ?_
        refine zw_cV (n := 56) d81_53 (zs_S rfl rfl rfl rfl) (by rw [ml_12]; rfl) (by decide) rfl (zc_mV h (fun C3 h => ?_))
        refine zw_aload_n (n := 57) d81_56 rfl rfl ?_
        refine zw_getr (n := 60) d81_57 rfl (zj_4 hS).1 (zj_4 hS).2 (zr_4_3 hS) ?_
        refine zw_dup (n := 61) d81_60 rfl rfl ?_
        refine zw_geti (n := 64) d81_61 rfl (zj_3 (zo_4_3 hS)).1 (zj_3 (zo_4_3 hS)).2 ?_
        refine zw_iconst (n := 65) d81_64 rfl zk_i_1 ?_
        refine zw_iadd (n := 66) d81_65 rfl ?_
        refine zw_puti (n := 69) d81_66 rfl (zj_3 (zo_4_3 hS)).1 (zj_3 (zo_4_3 hS)).2 ?_
        refine zw_aload_n (n := 70) d81_69 rfl rfl ?_
        refine zw_getr (n := 73) d81_70 rfl (zj_4 hS).1 (zj_4 hS).2 (zr_4_3 hS) ?_
        refine zw_geti (n := 76) d81_73 rfl (zj_3 (zo_4_3 hS)).1 (zj_3 (zo_4_3 hS)).2 ?_
        exact zw_iret d81_76 rfl ⟨_, rfl, h⟩
      · skip
        refine zw_aload_n (n := 32) d81_31 rfl rfl ?_
        refine zw_bipush (n := 34) d81_32 rfl zk_b_m6 ?_
        refine zw_cI (n := 37) d81_34 (zs_V rfl rfl rfl rfl (by decide) (zj_4 hS).1 (zq_4 hS)) (by rw [ml_10]; rfl) (by decide) rfl (zc_mI h (fun r4 C4 h => ?_))
        exact zw_iret d81_37 rfl ⟨_, rfl, h⟩

set_option maxRecDepth 20000 in
theorem zf82 (pc : Nat) : zt_code 82 pc = zt_fd zl_82 pc := rfl
theorem d82_0 : zt_code 82 0 = some (.aload_n 0, 0, 0, 0) := (zf82 0).trans rfl
theorem d82_1 : zt_code 82 1 = some (.getfield 25, 4, 3, 1) := (zf82 1).trans rfl
theorem d82_4 : zt_code 82 4 = some (.getfield 190, 3, 1, 0) := (zf82 4).trans rfl
theorem d82_7 : zt_code 82 7 = some (.istore_n 1, 0, 0, 0) := (zf82 7).trans rfl
theorem d82_8 : zt_code 82 8 = some (.aload_n 0, 0, 0, 0) := (zf82 8).trans rfl
theorem d82_9 : zt_code 82 9 = some (.getfield 25, 4, 3, 1) := (zf82 9).trans rfl
theorem d82_12 : zt_code 82 12 = some (.iconst (0), 0, 0, 0) := (zf82 12).trans rfl
theorem d82_13 : zt_code 82 13 = some (.putfield 190, 3, 1, 0) := (zf82 13).trans rfl
theorem d82_16 : zt_code 82 16 = some (.iload_n 1, 0, 0, 0) := (zf82 16).trans rfl
theorem d82_17 : zt_code 82 17 = some (.ireturn, 0, 0, 0) := (zf82 17).trans rfl
/-- FirstAtTheFirst.wipe()I -/
theorem vc82 {X : zX} {S : zx_S} {C : zx_C} {q : Int32 → zx_C → Prop} {e : Nat} (hS : zs_4 S e) (h : q (C.1 (e + 16) 1) (zp C (e + 16) 1 0)) : zCd X 0 82 [.ref e] S C (zQi q) := by
  refine zc_in ml_82 rfl ?_
  refine zw_aload_n (n := 1) d82_0 rfl rfl ?_
  refine zw_getr (n := 4) d82_1 rfl (zj_4 hS).1 (zj_4 hS).2 (zr_4_3 hS) ?_
  refine zw_geti (n := 7) d82_4 rfl (zj_3 (zo_4_3 hS)).1 (zj_3 (zo_4_3 hS)).2 ?_
  refine zw_istore_n (n := 8) d82_7 rfl rfl rfl ?_
  refine zw_aload_n (n := 9) d82_8 rfl rfl ?_
  refine zw_getr (n := 12) d82_9 rfl (zj_4 hS).1 (zj_4 hS).2 (zr_4_3 hS) ?_
  refine zw_iconst (n := 13) d82_12 rfl zk_i_0 ?_
  refine zw_puti (n := 16) d82_13 rfl (zj_3 (zo_4_3 hS)).1 (zj_3 (zo_4_3 hS)).2 ?_
  refine zw_iload_n (n := 17) d82_16 rfl rfl ?_
  exact zw_iret d82_17 rfl ⟨_, rfl, h⟩

set_option maxRecDepth 20000 in
theorem zf83 (pc : Nat) : zt_code 83 pc = zt_fd zl_83 pc := rfl
theorem d83_0 : zt_code 83 0 = some (.aload_n 0, 0, 0, 0) := (zf83 0).trans rfl
theorem d83_1 : zt_code 83 1 = some (.getfield 19, 4, 2, 1) := (zf83 1).trans rfl
theorem d83_4 : zt_code 83 4 = some (.aload_n 0, 0, 0, 0) := (zf83 4).trans rfl
theorem d83_5 : zt_code 83 5 = some (.getfield 12, 4, 0, 1) := (zf83 5).trans rfl
theorem d83_8 : zt_code 83 8 = some (.invokevirtual 196, 84, 2, 0) := (zf83 8).trans rfl
theorem d83_11 : zt_code 83 11 = some (.aload_n 0, 0, 0, 0) := (zf83 11).trans rfl
theorem d83_12 : zt_code 83 12 = some (.getfield 25, 4, 3, 1) := (zf83 12).trans rfl
theorem d83_15 : zt_code 83 15 = some (.aload_n 0, 0, 0, 0) := (zf83 15).trans rfl
theorem d83_16 : zt_code 83 16 = some (.getfield 19, 4, 2, 1) := (zf83 16).trans rfl
theorem d83_19 : zt_code 83 19 = some (.invokevirtual 200, 85, 2, 3) := (zf83 19).trans rfl
theorem d83_22 : zt_code 83 22 = some (.istore_n 1, 0, 0, 0) := (zf83 22).trans rfl
theorem d83_23 : zt_code 83 23 = some (.aload_n 0, 0, 0, 0) := (zf83 23).trans rfl
theorem d83_24 : zt_code 83 24 = some (.getfield 25, 4, 3, 1) := (zf83 24).trans rfl
theorem d83_27 : zt_code 83 27 = some (.iconst (0), 0, 0, 0) := (zf83 27).trans rfl
theorem d83_28 : zt_code 83 28 = some (.putfield 190, 3, 1, 0) := (zf83 28).trans rfl
theorem d83_31 : zt_code 83 31 = some (.aload_n 0, 0, 0, 0) := (zf83 31).trans rfl
theorem d83_32 : zt_code 83 32 = some (.getfield 25, 4, 3, 1) := (zf83 32).trans rfl
theorem d83_35 : zt_code 83 35 = some (.getfield 204, 3, 2, 0) := (zf83 35).trans rfl
theorem d83_38 : zt_code 83 38 = some (.iconst (-1), 0, 0, 0) := (zf83 38).trans rfl
theorem d83_39 : zt_code 83 39 = some (.if_icmp .eq (21), 0, 60, 0) := (zf83 39).trans rfl
theorem d83_42 : zt_code 83 42 = some (.aload_n 0, 0, 0, 0) := (zf83 42).trans rfl
theorem d83_43 : zt_code 83 43 = some (.bipush (-2), 0, 0, 0) := (zf83 43).trans rfl
theorem d83_45 : zt_code 83 45 = some (.invokevirtual 69, 10, 2, 4) := (zf83 45).trans rfl
theorem d83_48 : zt_code 83 48 = some (.pop, 0, 0, 0) := (zf83 48).trans rfl
theorem d83_49 : zt_code 83 49 = some (.bipush (-20), 0, 0, 0) := (zf83 49).trans rfl
theorem d83_51 : zt_code 83 51 = some (.aload_n 0, 0, 0, 0) := (zf83 51).trans rfl
theorem d83_52 : zt_code 83 52 = some (.getfield 25, 4, 3, 1) := (zf83 52).trans rfl
theorem d83_55 : zt_code 83 55 = some (.getfield 204, 3, 2, 0) := (zf83 55).trans rfl
theorem d83_58 : zt_code 83 58 = some (.isub, 0, 0, 0) := (zf83 58).trans rfl
theorem d83_59 : zt_code 83 59 = some (.ireturn, 0, 0, 0) := (zf83 59).trans rfl
theorem d83_60 : zt_code 83 60 = some (.aload_n 0, 0, 0, 0) := (zf83 60).trans rfl
theorem d83_61 : zt_code 83 61 = some (.getfield 12, 4, 0, 1) := (zf83 61).trans rfl
theorem d83_64 : zt_code 83 64 = some (.aload_n 0, 0, 0, 0) := (zf83 64).trans rfl
theorem d83_65 : zt_code 83 65 = some (.getfield 19, 4, 2, 1) := (zf83 65).trans rfl
theorem d83_68 : zt_code 83 68 = some (.invokevirtual 196, 84, 2, 0) := (zf83 68).trans rfl
theorem d83_71 : zt_code 83 71 = some (.iload_n 1, 0, 0, 0) := (zf83 71).trans rfl
theorem d83_72 : zt_code 83 72 = some (.ireturn, 0, 0, 0) := (zf83 72).trans rfl
/-- FirstAtTheFirst.estate()I -/
theorem vc83 {X : zX} {S : zx_S} {C : zx_C} {q : Int32 → zx_C → Prop} {e : Nat} (hS : zs_4 S e) (h : zCd X 1 84 [.ref (e + 11), .ref (e + 1)] S C (zQv (fun C1 => zCd X 6 85 [.ref (e + 16), .ref (e + 11)] S C1 (zQi (fun r2 C2 => if ((Prod.fst (zp C2 (e + 16) 1 0) (e + 16) 2) : Int32) = (-1) then (zCd X 1 84 [.ref (e + 1), .ref (e + 11)] S (zp C2 (e + 16) 1 0) (zQv (fun C3 => q r2 C3))) else (zCd X 1 10 [.ref e, .int (-2)] S (zp C2 (e + 16) 1 0) (zQi (fun r4 C4 => q ((-20) - (C4.1 (e + 16) 2)) C4)))))))) : zCd X 7 83 [.ref e] S C (zQi q) := by
  refine zc_in ml_83 rfl ?_
  refine zw_aload_n (n := 1) d83_0 rfl rfl ?_
  refine zw_getr (n := 4) d83_1 rfl (zj_4 hS).1 (zj_4 hS).2 (zr_4_2 hS) ?_
  refine zw_aload_n (n := 5) d83_4 rfl rfl ?_
  refine zw_getr (n := 8) d83_5 rfl (zj_4 hS).1 (zj_4 hS).2 (zr_4_0 hS) ?_
  refine zw_cV (n := 11) d83_8 (zs_V rfl rfl rfl rfl (by decide) (zj_0 (zo_4_2 hS)).1 (zq_0 (zo_4_2 hS))) (by rw [ml_84]; rfl) (by decide) rfl (zc_mV h (fun C1 h => ?_))
  refine zw_aload_n (n := 12) d83_11 rfl rfl ?_
  refine zw_getr (n := 15) d83_12 rfl (zj_4 hS).1 (zj_4 hS).2 (zr_4_3 hS) ?_
  refine zw_aload_n (n := 16) d83_15 rfl rfl ?_
  refine zw_getr (n := 19) d83_16 rfl (zj_4 hS).1 (zj_4 hS).2 (zr_4_2 hS) ?_
  refine zw_cI (n := 22) d83_19 (zs_V rfl rfl rfl rfl (by decide) (zj_3 (zo_4_3 hS)).1 (zq_3 (zo_4_3 hS))) (by rw [ml_85]; rfl) (by decide) rfl (zc_mI h (fun r2 C2 h => ?_))
  refine zw_istore_n (n := 23) d83_22 rfl rfl rfl ?_
  refine zw_aload_n (n := 24) d83_23 rfl rfl ?_
  refine zw_getr (n := 27) d83_24 rfl (zj_4 hS).1 (zj_4 hS).2 (zr_4_3 hS) ?_
  refine zw_iconst (n := 28) d83_27 rfl zk_i_0 ?_
  refine zw_puti (n := 31) d83_28 rfl (zj_3 (zo_4_3 hS)).1 (zj_3 (zo_4_3 hS)).2 ?_
  refine zw_aload_n (n := 32) d83_31 rfl rfl ?_
  refine zw_getr (n := 35) d83_32 rfl (zj_4 hS).1 (zj_4 hS).2 (zr_4_3 hS) ?_
  refine zw_geti (n := 38) d83_35 rfl (zj_3 (zo_4_3 hS)).1 (zj_3 (zo_4_3 hS)).2 ?_
  refine zw_iconst (n := 39) d83_38 rfl zk_i_m1 ?_
  refine zw_ic_eq (n := 42) d83_39 rfl (zite h (fun h => ?_) (fun h => ?_))
  · skip
    refine zw_aload_n (n := 61) d83_60 rfl rfl ?_
    refine zw_getr (n := 64) d83_61 rfl (zj_4 hS).1 (zj_4 hS).2 (zr_4_0 hS) ?_
    refine zw_aload_n (n := 65) d83_64 rfl rfl ?_
    refine zw_getr (n := 68) d83_65 rfl (zj_4 hS).1 (zj_4 hS).2 (zr_4_2 hS) ?_
    refine zw_cV (n := 71) d83_68 (zs_V rfl rfl rfl rfl (by decide) (zj_0 (zo_4_0 hS)).1 (zq_0 (zo_4_0 hS))) (by rw [ml_84]; rfl) (by decide) rfl (zc_mV h (fun C3 h => ?_))
    refine zw_iload_n (n := 72) d83_71 rfl rfl ?_
    exact zw_iret d83_72 rfl ⟨_, rfl, h⟩
  · skip
    refine zw_aload_n (n := 43) d83_42 rfl rfl ?_
    refine zw_bipush (n := 45) d83_43 rfl zk_b_m2 ?_
    refine zw_cI (n := 48) d83_45 (zs_V rfl rfl rfl rfl (by decide) (zj_4 hS).1 (zq_4 hS)) (by rw [ml_10]; rfl) (by decide) rfl (zc_mI h (fun r4 C4 h => ?_))
    refine zw_pop (n := 49) d83_48 rfl rfl ?_
    refine zw_bipush (n := 51) d83_49 rfl zk_b_m20 ?_
    refine zw_aload_n (n := 52) d83_51 rfl rfl ?_
    refine zw_getr (n := 55) d83_52 rfl (zj_4 hS).1 (zj_4 hS).2 (zr_4_3 hS) ?_
    refine zw_geti (n := 58) d83_55 rfl (zj_3 (zo_4_3 hS)).1 (zj_3 (zo_4_3 hS)).2 ?_
    refine zw_isub (n := 59) d83_58 rfl ?_
    exact zw_iret d83_59 rfl ⟨_, rfl, h⟩

set_option maxRecDepth 20000 in
theorem zf109 (pc : Nat) : zt_code 109 pc = zt_fd zl_109 pc := rfl
theorem d109_0 : zt_code 109 0 = some (.aload_n 0, 0, 0, 0) := (zf109 0).trans rfl
theorem d109_1 : zt_code 109 1 = some (.getfield 12, 4, 0, 1) := (zf109 1).trans rfl
theorem d109_4 : zt_code 109 4 = some (.iload_n 1, 0, 0, 0) := (zf109 4).trans rfl
theorem d109_5 : zt_code 109 5 = some (.invokevirtual 148, 42, 2, 0) := (zf109 5).trans rfl
theorem d109_8 : zt_code 109 8 = some (.ifCond .eq (18), 0, 26, 0) := (zf109 8).trans rfl
theorem d109_11 : zt_code 109 11 = some (.iload_n 2, 0, 0, 0) := (zf109 11).trans rfl
theorem d109_12 : zt_code 109 12 = some (.ifCond .lt (14), 0, 26, 0) := (zf109 12).trans rfl
theorem d109_15 : zt_code 109 15 = some (.iload_n 2, 0, 0, 0) := (zf109 15).trans rfl
theorem d109_16 : zt_code 109 16 = some (.aload_n 0, 0, 0, 0) := (zf109 16).trans rfl
theorem d109_17 : zt_code 109 17 = some (.getfield 12, 4, 0, 1) := (zf109 17).trans rfl
theorem d109_20 : zt_code 109 20 = some (.getfield 136, 0, 0, 0) := (zf109 20).trans rfl
theorem d109_23 : zt_code 109 23 = some (.if_icmp .le (10), 0, 33, 0) := (zf109 23).trans rfl
theorem d109_26 : zt_code 109 26 = some (.aload_n 0, 0, 0, 0) := (zf109 26).trans rfl
theorem d109_27 : zt_code 109 27 = some (.bipush (-2), 0, 0, 0) := (zf109 27).trans rfl
theorem d109_29 : zt_code 109 29 = some (.invokevirtual 69, 10, 2, 4) := (zf109 29).trans rfl
theorem d109_32 : zt_code 109 32 = some (.ireturn, 0, 0, 0) := (zf109 32).trans rfl
theorem d109_33 : zt_code 109 33 = some (.iload_n 2, 0, 0, 0) := (zf109 33).trans rfl
theorem d109_34 : zt_code 109 34 = some (.ifCond .ne (14), 0, 48, 0) := (zf109 34).trans rfl
theorem d109_37 : zt_code 109 37 = some (.aload_n 0, 0, 0, 0) := (zf109 37).trans rfl
theorem d109_38 : zt_code 109 38 = some (.getfield 12, 4, 0, 1) := (zf109 38).trans rfl
theorem d109_41 : zt_code 109 41 = some (.iload_n 1, 0, 0, 0) := (zf109 41).trans rfl
theorem d109_42 : zt_code 109 42 = some (.invokevirtual 184, 80, 2, 0) := (zf109 42).trans rfl
theorem d109_45 : zt_code 109 45 = some (.goto (14), 0, 59, 0) := (zf109 45).trans rfl
theorem d109_48 : zt_code 109 48 = some (.aload_n 0, 0, 0, 0) := (zf109 48).trans rfl
theorem d109_49 : zt_code 109 49 = some (.getfield 12, 4, 0, 1) := (zf109 49).trans rfl
theorem d109_52 : zt_code 109 52 = some (.iload_n 2, 0, 0, 0) := (zf109 52).trans rfl
theorem d109_53 : zt_code 109 53 = some (.iconst (1), 0, 0, 0) := (zf109 53).trans rfl
theorem d109_54 : zt_code 109 54 = some (.isub, 0, 0, 0) := (zf109 54).trans rfl
theorem d109_55 : zt_code 109 55 = some (.iload_n 1, 0, 0, 0) := (zf109 55).trans rfl
theorem d109_56 : zt_code 109 56 = some (.invokevirtual 151, 41, 3, 0) := (zf109 56).trans rfl
theorem d109_59 : zt_code 109 59 = some (.ireturn, 0, 0, 0) := (zf109 59).trans rfl
/-- FirstAtTheFirst.thingOf(II)I -/
theorem vc109 {X : zX} {S : zx_S} {C : zx_C} {q : Int32 → zx_C → Prop} {e : Nat} {a1 : Int32} {a2 : Int32} (hS : zs_4 S e) (h : zCd X 0 42 [.ref (e + 1), .int a1] S C (zQi (fun r1 C1 => if (r1 : Int32) = 0 then (zCd X 1 10 [.ref e, .int (-2)] S C1 (zQi (fun r2 C2 => q r2 C2))) else (if (a2 : Int32) < 0 then (zCd X 1 10 [.ref e, .int (-2)] S C1 (zQi (fun r3 C3 => q r3 C3))) else (if ((C1.1 (e + 1) 0) : Int32) < a2 then (zCd X 1 10 [.ref e, .int (-2)] S C1 (zQi (fun r4 C4 => q r4 C4))) else (if (a2 : Int32) = 0 then (zCd X 1 80 [.ref (e + 1), .int a1] S C1 (zQi (fun r5 C5 => q r5 C5))) else (zCd X 1 41 [.ref (e + 1), .int (a2 - 1), .int a1] S C1 (zQi (fun r6 C6 => q r6 C6))))))))) : zCd X 2 109 [.ref e, .int a1, .int a2] S C (zQi q) := by
  refine zc_in ml_109 rfl ?_
  refine zw_aload_n (n := 1) d109_0 rfl rfl ?_
  refine zw_getr (n := 4) d109_1 rfl (zj_4 hS).1 (zj_4 hS).2 (zr_4_0 hS) ?_
  refine zw_iload_n (n := 5) d109_4 rfl rfl ?_
  refine zw_cI (n := 8) d109_5 (zs_V rfl rfl rfl rfl (by decide) (zj_0 (zo_4_0 hS)).1 (zq_0 (zo_4_0 hS))) (by rw [ml_42]; rfl) (by decide) rfl (zc_mI h (fun r1 C1 h => ?_))
  refine zw_if_eq (n := 11) d109_8 rfl (zite h (fun h => ?_) (fun h => ?_))
  · skip
    refine zw_aload_n (n := 27) d109_26 rfl rfl ?_
    refine zw_bipush (n := 29) d109_27 rfl zk_b_m2 ?_
    refine zw_cI (n := 32) d109_29 (zs_V rfl rfl rfl rfl (by decide) (zj_4 hS).1 (zq_4 hS)) (by rw [ml_10]; rfl) (by decide) rfl (zc_mI h (fun r2 C2 h => ?_))
    exact zw_iret d109_32 rfl ⟨_, rfl, h⟩
  · skip
    refine zw_iload_n (n := 12) d109_11 rfl rfl ?_
    refine zw_if_lt (n := 15) d109_12 rfl (zite h (fun h => ?_) (fun h => ?_))
    · skip
      refine zw_aload_n (n := 27) d109_26 rfl rfl ?_
      refine zw_bipush (n := 29) d109_27 rfl zk_b_m2 ?_
      refine zw_cI (n := 32) d109_29 (zs_V rfl rfl rfl rfl (by decide) (zj_4 hS).1 (zq_4 hS)) (by rw [ml_10]; rfl) (by decide) rfl (zc_mI h (fun r3 C3 h => ?_))
      exact zw_iret d109_32 rfl ⟨_, rfl, h⟩
    · skip
      refine zw_iload_n (n := 16) d109_15 rfl rfl ?_
      refine zw_aload_n (n := 17) d109_16 rfl rfl ?_
      refine zw_getr (n := 20) d109_17 rfl (zj_4 hS).1 (zj_4 hS).2 (zr_4_0 hS) ?_
      refine zw_geti (n := 23) d109_20 rfl (zj_0 (zo_4_0 hS)).1 (zj_0 (zo_4_0 hS)).2 ?_
      refine zw_ic_le (n := 26) d109_23 rfl (zite h (fun h => ?_) (fun h => ?_))
      · skip
        refine zw_aload_n (n := 27) d109_26 rfl rfl ?_
        refine zw_bipush (n := 29) d109_27 rfl zk_b_m2 ?_
        refine zw_cI (n := 32) d109_29 (zs_V rfl rfl rfl rfl (by decide) (zj_4 hS).1 (zq_4 hS)) (by rw [ml_10]; rfl) (by decide) rfl (zc_mI h (fun r4 C4 h => ?_))
        exact zw_iret d109_32 rfl ⟨_, rfl, h⟩
      · skip
        refine zw_iload_n (n := 34) d109_33 rfl rfl ?_
        refine zw_if_ne (n := 37) d109_34 rfl (zite h (fun h => ?_) (fun h => ?_))
        · skip
          refine zw_aload_n (n := 38) d109_37 rfl rfl ?_
          refine zw_getr (n := 41) d109_38 rfl (zj_4 hS).1 (zj_4 hS).2 (zr_4_0 hS) ?_
          refine zw_iload_n (n := 42) d109_41 rfl rfl ?_
          refine zw_cI (n := 45) d109_42 (zs_V rfl rfl rfl rfl (by decide) (zj_0 (zo_4_0 hS)).1 (zq_0 (zo_4_0 hS))) (by rw [ml_80]; rfl) (by decide) rfl (zc_mI h (fun r5 C5 h => ?_))
          refine zw_goto d109_45 ?_
          exact zw_iret d109_59 rfl ⟨_, rfl, h⟩
        · skip
          refine zw_aload_n (n := 49) d109_48 rfl rfl ?_
          refine zw_getr (n := 52) d109_49 rfl (zj_4 hS).1 (zj_4 hS).2 (zr_4_0 hS) ?_
          refine zw_iload_n (n := 53) d109_52 rfl rfl ?_
          refine zw_iconst (n := 54) d109_53 rfl zk_i_1 ?_
          refine zw_isub (n := 55) d109_54 rfl ?_
          refine zw_iload_n (n := 56) d109_55 rfl rfl ?_
          refine zw_cI (n := 59) d109_56 (zs_V rfl rfl rfl rfl (by decide) (zj_0 (zo_4_0 hS)).1 (zq_0 (zo_4_0 hS))) (by rw [ml_41]; rfl) (by decide) rfl (zc_mI h (fun r6 C6 h => ?_))
          exact zw_iret d109_59 rfl ⟨_, rfl, h⟩

set_option maxRecDepth 20000 in
theorem zf110 (pc : Nat) : zt_code 110 pc = zt_fd zl_110 pc := rfl
theorem d110_0 : zt_code 110 0 = some (.aload_n 0, 0, 0, 0) := (zf110 0).trans rfl
theorem d110_1 : zt_code 110 1 = some (.getfield 12, 4, 0, 1) := (zf110 1).trans rfl
theorem d110_4 : zt_code 110 4 = some (.iload_n 1, 0, 0, 0) := (zf110 4).trans rfl
theorem d110_5 : zt_code 110 5 = some (.invokevirtual 102, 27, 2, 0) := (zf110 5).trans rfl
theorem d110_8 : zt_code 110 8 = some (.ifCond .eq (12), 0, 20, 0) := (zf110 8).trans rfl
theorem d110_11 : zt_code 110 11 = some (.iload_n 2, 0, 0, 0) := (zf110 11).trans rfl
theorem d110_12 : zt_code 110 12 = some (.ifCond .lt (8), 0, 20, 0) := (zf110 12).trans rfl
theorem d110_15 : zt_code 110 15 = some (.iload_n 2, 0, 0, 0) := (zf110 15).trans rfl
theorem d110_16 : zt_code 110 16 = some (.iconst (2), 0, 0, 0) := (zf110 16).trans rfl
theorem d110_17 : zt_code 110 17 = some (.if_icmp .le (10), 0, 27, 0) := (zf110 17).trans rfl
theorem d110_20 : zt_code 110 20 = some (.aload_n 0, 0, 0, 0) := (zf110 20).trans rfl
theorem d110_21 : zt_code 110 21 = some (.bipush (-2), 0, 0, 0) := (zf110 21).trans rfl
theorem d110_23 : zt_code 110 23 = some (.invokevirtual 69, 10, 2, 4) := (zf110 23).trans rfl
theorem d110_26 : zt_code 110 26 = some (.ireturn, 0, 0, 0) := (zf110 26).trans rfl
theorem d110_27 : zt_code 110 27 = some (.iload_n 2, 0, 0, 0) := (zf110 27).trans rfl
theorem d110_28 : zt_code 110 28 = some (.ifCond .ne (12), 0, 40, 0) := (zf110 28).trans rfl
theorem d110_31 : zt_code 110 31 = some (.aload_n 0, 0, 0, 0) := (zf110 31).trans rfl
theorem d110_32 : zt_code 110 32 = some (.getfield 12, 4, 0, 1) := (zf110 32).trans rfl
theorem d110_35 : zt_code 110 35 = some (.iload_n 1, 0, 0, 0) := (zf110 35).trans rfl
theorem d110_36 : zt_code 110 36 = some (.invokevirtual 109, 29, 2, 0) := (zf110 36).trans rfl
theorem d110_39 : zt_code 110 39 = some (.ireturn, 0, 0, 0) := (zf110 39).trans rfl
theorem d110_40 : zt_code 110 40 = some (.iload_n 2, 0, 0, 0) := (zf110 40).trans rfl
theorem d110_41 : zt_code 110 41 = some (.iconst (1), 0, 0, 0) := (zf110 41).trans rfl
theorem d110_42 : zt_code 110 42 = some (.if_icmp .ne (14), 0, 56, 0) := (zf110 42).trans rfl
theorem d110_45 : zt_code 110 45 = some (.aload_n 0, 0, 0, 0) := (zf110 45).trans rfl
theorem d110_46 : zt_code 110 46 = some (.getfield 12, 4, 0, 1) := (zf110 46).trans rfl
theorem d110_49 : zt_code 110 49 = some (.iload_n 1, 0, 0, 0) := (zf110 49).trans rfl
theorem d110_50 : zt_code 110 50 = some (.invokevirtual 207, 40, 2, 0) := (zf110 50).trans rfl
theorem d110_53 : zt_code 110 53 = some (.goto (11), 0, 64, 0) := (zf110 53).trans rfl
theorem d110_56 : zt_code 110 56 = some (.aload_n 0, 0, 0, 0) := (zf110 56).trans rfl
theorem d110_57 : zt_code 110 57 = some (.getfield 12, 4, 0, 1) := (zf110 57).trans rfl
theorem d110_60 : zt_code 110 60 = some (.iload_n 1, 0, 0, 0) := (zf110 60).trans rfl
theorem d110_61 : zt_code 110 61 = some (.invokevirtual 210, 43, 2, 0) := (zf110 61).trans rfl
theorem d110_64 : zt_code 110 64 = some (.ireturn, 0, 0, 0) := (zf110 64).trans rfl
/-- FirstAtTheFirst.sideOf(II)I -/
theorem vc110 {X : zX} {S : zx_S} {C : zx_C} {q : Int32 → zx_C → Prop} {e : Nat} {a1 : Int32} {a2 : Int32} (hS : zs_4 S e) (h : zCd X 0 27 [.ref (e + 1), .int a1] S C (zQi (fun r1 C1 => if (r1 : Int32) = 0 then (zCd X 1 10 [.ref e, .int (-2)] S C1 (zQi (fun r2 C2 => q r2 C2))) else (if (a2 : Int32) < 0 then (zCd X 1 10 [.ref e, .int (-2)] S C1 (zQi (fun r3 C3 => q r3 C3))) else (if (2 : Int32) < a2 then (zCd X 1 10 [.ref e, .int (-2)] S C1 (zQi (fun r4 C4 => q r4 C4))) else (if (a2 : Int32) = 0 then (zCd X 1 29 [.ref (e + 1), .int a1] S C1 (zQi (fun r5 C5 => q r5 C5))) else (if (a2 : Int32) = 1 then (zCd X 2 40 [.ref (e + 1), .int a1] S C1 (zQi (fun r6 C6 => q r6 C6))) else (zCd X 1 43 [.ref (e + 1), .int a1] S C1 (zQi (fun r7 C7 => q r7 C7)))))))))) : zCd X 3 110 [.ref e, .int a1, .int a2] S C (zQi q) := by
  refine zc_in ml_110 rfl ?_
  refine zw_aload_n (n := 1) d110_0 rfl rfl ?_
  refine zw_getr (n := 4) d110_1 rfl (zj_4 hS).1 (zj_4 hS).2 (zr_4_0 hS) ?_
  refine zw_iload_n (n := 5) d110_4 rfl rfl ?_
  refine zw_cI (n := 8) d110_5 (zs_V rfl rfl rfl rfl (by decide) (zj_0 (zo_4_0 hS)).1 (zq_0 (zo_4_0 hS))) (by rw [ml_27]; rfl) (by decide) rfl (zc_mI h (fun r1 C1 h => ?_))
  refine zw_if_eq (n := 11) d110_8 rfl (zite h (fun h => ?_) (fun h => ?_))
  · skip
    refine zw_aload_n (n := 21) d110_20 rfl rfl ?_
    refine zw_bipush (n := 23) d110_21 rfl zk_b_m2 ?_
    refine zw_cI (n := 26) d110_23 (zs_V rfl rfl rfl rfl (by decide) (zj_4 hS).1 (zq_4 hS)) (by rw [ml_10]; rfl) (by decide) rfl (zc_mI h (fun r2 C2 h => ?_))
    exact zw_iret d110_26 rfl ⟨_, rfl, h⟩
  · skip
    refine zw_iload_n (n := 12) d110_11 rfl rfl ?_
    refine zw_if_lt (n := 15) d110_12 rfl (zite h (fun h => ?_) (fun h => ?_))
    · skip
      refine zw_aload_n (n := 21) d110_20 rfl rfl ?_
      refine zw_bipush (n := 23) d110_21 rfl zk_b_m2 ?_
      refine zw_cI (n := 26) d110_23 (zs_V rfl rfl rfl rfl (by decide) (zj_4 hS).1 (zq_4 hS)) (by rw [ml_10]; rfl) (by decide) rfl (zc_mI h (fun r3 C3 h => ?_))
      exact zw_iret d110_26 rfl ⟨_, rfl, h⟩
    · skip
      refine zw_iload_n (n := 16) d110_15 rfl rfl ?_
      refine zw_iconst (n := 17) d110_16 rfl zk_i_2 ?_
      refine zw_ic_le (n := 20) d110_17 rfl (zite h (fun h => ?_) (fun h => ?_))
      · skip
        refine zw_aload_n (n := 21) d110_20 rfl rfl ?_
        refine zw_bipush (n := 23) d110_21 rfl zk_b_m2 ?_
        refine zw_cI (n := 26) d110_23 (zs_V rfl rfl rfl rfl (by decide) (zj_4 hS).1 (zq_4 hS)) (by rw [ml_10]; rfl) (by decide) rfl (zc_mI h (fun r4 C4 h => ?_))
        exact zw_iret d110_26 rfl ⟨_, rfl, h⟩
      · skip
        refine zw_iload_n (n := 28) d110_27 rfl rfl ?_
        refine zw_if_ne (n := 31) d110_28 rfl (zite h (fun h => ?_) (fun h => ?_))
        · skip
          refine zw_aload_n (n := 32) d110_31 rfl rfl ?_
          refine zw_getr (n := 35) d110_32 rfl (zj_4 hS).1 (zj_4 hS).2 (zr_4_0 hS) ?_
          refine zw_iload_n (n := 36) d110_35 rfl rfl ?_
          refine zw_cI (n := 39) d110_36 (zs_V rfl rfl rfl rfl (by decide) (zj_0 (zo_4_0 hS)).1 (zq_0 (zo_4_0 hS))) (by rw [ml_29]; rfl) (by decide) rfl (zc_mI h (fun r5 C5 h => ?_))
          exact zw_iret d110_39 rfl ⟨_, rfl, h⟩
        · skip
          refine zw_iload_n (n := 41) d110_40 rfl rfl ?_
          refine zw_iconst (n := 42) d110_41 rfl zk_i_1 ?_
          refine zw_ic_ne (n := 45) d110_42 rfl (zite h (fun h => ?_) (fun h => ?_))
          · skip
            refine zw_aload_n (n := 46) d110_45 rfl rfl ?_
            refine zw_getr (n := 49) d110_46 rfl (zj_4 hS).1 (zj_4 hS).2 (zr_4_0 hS) ?_
            refine zw_iload_n (n := 50) d110_49 rfl rfl ?_
            refine zw_cI (n := 53) d110_50 (zs_V rfl rfl rfl rfl (by decide) (zj_0 (zo_4_0 hS)).1 (zq_0 (zo_4_0 hS))) (by rw [ml_40]; rfl) (by decide) rfl (zc_mI h (fun r6 C6 h => ?_))
            refine zw_goto d110_53 ?_
            exact zw_iret d110_64 rfl ⟨_, rfl, h⟩
          · skip
            refine zw_aload_n (n := 57) d110_56 rfl rfl ?_
            refine zw_getr (n := 60) d110_57 rfl (zj_4 hS).1 (zj_4 hS).2 (zr_4_0 hS) ?_
            refine zw_iload_n (n := 61) d110_60 rfl rfl ?_
            refine zw_cI (n := 64) d110_61 (zs_V rfl rfl rfl rfl (by decide) (zj_0 (zo_4_0 hS)).1 (zq_0 (zo_4_0 hS))) (by rw [ml_43]; rfl) (by decide) rfl (zc_mI h (fun r7 C7 h => ?_))
            exact zw_iret d110_64 rfl ⟨_, rfl, h⟩

set_option maxRecDepth 20000 in
theorem zf111 (pc : Nat) : zt_code 111 pc = zt_fd zl_111 pc := rfl
theorem d111_0 : zt_code 111 0 = some (.iload_n 1, 0, 0, 0) := (zf111 0).trans rfl
theorem d111_1 : zt_code 111 1 = some (.invokestatic 164, 75, 1, -1) := (zf111 1).trans rfl
theorem d111_4 : zt_code 111 4 = some (.ifCond .eq (13), 0, 17, 0) := (zf111 4).trans rfl
theorem d111_7 : zt_code 111 7 = some (.iload_n 2, 0, 0, 0) := (zf111 7).trans rfl
theorem d111_8 : zt_code 111 8 = some (.ifCond .lt (9), 0, 17, 0) := (zf111 8).trans rfl
theorem d111_11 : zt_code 111 11 = some (.iload_n 2, 0, 0, 0) := (zf111 11).trans rfl
theorem d111_12 : zt_code 111 12 = some (.ldc 180, 0, 0, 1000000000) := (zf111 12).trans rfl
theorem d111_14 : zt_code 111 14 = some (.if_icmp .le (10), 0, 24, 0) := (zf111 14).trans rfl
theorem d111_17 : zt_code 111 17 = some (.aload_n 0, 0, 0, 0) := (zf111 17).trans rfl
theorem d111_18 : zt_code 111 18 = some (.bipush (-2), 0, 0, 0) := (zf111 18).trans rfl
theorem d111_20 : zt_code 111 20 = some (.invokevirtual 69, 10, 2, 4) := (zf111 20).trans rfl
theorem d111_23 : zt_code 111 23 = some (.ireturn, 0, 0, 0) := (zf111 23).trans rfl
theorem d111_24 : zt_code 111 24 = some (.aload_n 0, 0, 0, 0) := (zf111 24).trans rfl
theorem d111_25 : zt_code 111 25 = some (.getfield 12, 4, 0, 1) := (zf111 25).trans rfl
theorem d111_28 : zt_code 111 28 = some (.iload_n 1, 0, 0, 0) := (zf111 28).trans rfl
theorem d111_29 : zt_code 111 29 = some (.iload_n 2, 0, 0, 0) := (zf111 29).trans rfl
theorem d111_30 : zt_code 111 30 = some (.invokevirtual 213, 46, 3, 0) := (zf111 30).trans rfl
theorem d111_33 : zt_code 111 33 = some (.ireturn, 0, 0, 0) := (zf111 33).trans rfl
/-- FirstAtTheFirst.whose(II)I -/
theorem vc111 {X : zX} {S : zx_S} {C : zx_C} {q : Int32 → zx_C → Prop} {e : Nat} {a1 : Int32} {a2 : Int32} (hS : zs_4 S e) (h : zCd X 0 75 [.int a1] S C (zQi (fun r1 C1 => if (r1 : Int32) = 0 then (zCd X 1 10 [.ref e, .int (-2)] S C1 (zQi (fun r2 C2 => q r2 C2))) else (if (a2 : Int32) < 0 then (zCd X 1 10 [.ref e, .int (-2)] S C1 (zQi (fun r3 C3 => q r3 C3))) else (if (1000000000 : Int32) < a2 then (zCd X 1 10 [.ref e, .int (-2)] S C1 (zQi (fun r4 C4 => q r4 C4))) else (zCd X 1 46 [.ref (e + 1), .int a1, .int a2] S C1 (zQi (fun r5 C5 => q r5 C5)))))))) : zCd X 2 111 [.ref e, .int a1, .int a2] S C (zQi q) := by
  refine zc_in ml_111 rfl ?_
  refine zw_iload_n (n := 1) d111_0 rfl rfl ?_
  refine zw_cI (n := 4) d111_1 (zs_S rfl rfl rfl rfl) (by rw [ml_75]; rfl) (by decide) rfl (zc_mI h (fun r1 C1 h => ?_))
  refine zw_if_eq (n := 7) d111_4 rfl (zite h (fun h => ?_) (fun h => ?_))
  · skip
    refine zw_aload_n (n := 18) d111_17 rfl rfl ?_
    refine zw_bipush (n := 20) d111_18 rfl zk_b_m2 ?_
    refine zw_cI (n := 23) d111_20 (zs_V rfl rfl rfl rfl (by decide) (zj_4 hS).1 (zq_4 hS)) (by rw [ml_10]; rfl) (by decide) rfl (zc_mI h (fun r2 C2 h => ?_))
    exact zw_iret d111_23 rfl ⟨_, rfl, h⟩
  · skip
    refine zw_iload_n (n := 8) d111_7 rfl rfl ?_
    refine zw_if_lt (n := 11) d111_8 rfl (zite h (fun h => ?_) (fun h => ?_))
    · skip
      refine zw_aload_n (n := 18) d111_17 rfl rfl ?_
      refine zw_bipush (n := 20) d111_18 rfl zk_b_m2 ?_
      refine zw_cI (n := 23) d111_20 (zs_V rfl rfl rfl rfl (by decide) (zj_4 hS).1 (zq_4 hS)) (by rw [ml_10]; rfl) (by decide) rfl (zc_mI h (fun r3 C3 h => ?_))
      exact zw_iret d111_23 rfl ⟨_, rfl, h⟩
    · skip
      refine zw_iload_n (n := 12) d111_11 rfl rfl ?_
      refine zw_ldci (n := 14) d111_12 rfl zk_i_1000000000 ?_
      refine zw_ic_le (n := 17) d111_14 rfl (zite h (fun h => ?_) (fun h => ?_))
      · skip
        refine zw_aload_n (n := 18) d111_17 rfl rfl ?_
        refine zw_bipush (n := 20) d111_18 rfl zk_b_m2 ?_
        refine zw_cI (n := 23) d111_20 (zs_V rfl rfl rfl rfl (by decide) (zj_4 hS).1 (zq_4 hS)) (by rw [ml_10]; rfl) (by decide) rfl (zc_mI h (fun r4 C4 h => ?_))
        exact zw_iret d111_23 rfl ⟨_, rfl, h⟩
      · skip
        refine zw_aload_n (n := 25) d111_24 rfl rfl ?_
        refine zw_getr (n := 28) d111_25 rfl (zj_4 hS).1 (zj_4 hS).2 (zr_4_0 hS) ?_
        refine zw_iload_n (n := 29) d111_28 rfl rfl ?_
        refine zw_iload_n (n := 30) d111_29 rfl rfl ?_
        refine zw_cI (n := 33) d111_30 (zs_V rfl rfl rfl rfl (by decide) (zj_0 (zo_4_0 hS)).1 (zq_0 (zo_4_0 hS))) (by rw [ml_46]; rfl) (by decide) rfl (zc_mI h (fun r5 C5 h => ?_))
        exact zw_iret d111_33 rfl ⟨_, rfl, h⟩

set_option maxRecDepth 20000 in
theorem zf112 (pc : Nat) : zt_code 112 pc = zt_fd zl_112 pc := rfl
theorem d112_0 : zt_code 112 0 = some (.iload_n 1, 0, 0, 0) := (zf112 0).trans rfl
theorem d112_1 : zt_code 112 1 = some (.invokestatic 164, 75, 1, -1) := (zf112 1).trans rfl
theorem d112_4 : zt_code 112 4 = some (.ifCond .eq (15), 0, 19, 0) := (zf112 4).trans rfl
theorem d112_7 : zt_code 112 7 = some (.iload_n 2, 0, 0, 0) := (zf112 7).trans rfl
theorem d112_8 : zt_code 112 8 = some (.iconst (1), 0, 0, 0) := (zf112 8).trans rfl
theorem d112_9 : zt_code 112 9 = some (.if_icmp .lt (10), 0, 19, 0) := (zf112 9).trans rfl
theorem d112_12 : zt_code 112 12 = some (.iload_n 2, 0, 0, 0) := (zf112 12).trans rfl
theorem d112_13 : zt_code 112 13 = some (.sipush (4000), 0, 0, 0) := (zf112 13).trans rfl
theorem d112_16 : zt_code 112 16 = some (.if_icmp .le (10), 0, 26, 0) := (zf112 16).trans rfl
theorem d112_19 : zt_code 112 19 = some (.aload_n 0, 0, 0, 0) := (zf112 19).trans rfl
theorem d112_20 : zt_code 112 20 = some (.bipush (-2), 0, 0, 0) := (zf112 20).trans rfl
theorem d112_22 : zt_code 112 22 = some (.invokevirtual 69, 10, 2, 4) := (zf112 22).trans rfl
theorem d112_25 : zt_code 112 25 = some (.ireturn, 0, 0, 0) := (zf112 25).trans rfl
theorem d112_26 : zt_code 112 26 = some (.iconst (0), 0, 0, 0) := (zf112 26).trans rfl
theorem d112_27 : zt_code 112 27 = some (.istore_n 3, 0, 0, 0) := (zf112 27).trans rfl
theorem d112_28 : zt_code 112 28 = some (.iconst (0), 0, 0, 0) := (zf112 28).trans rfl
theorem d112_29 : zt_code 112 29 = some (.istore 4, 0, 0, 0) := (zf112 29).trans rfl
theorem d112_31 : zt_code 112 31 = some (.iconst (-1), 0, 0, 0) := (zf112 31).trans rfl
theorem d112_32 : zt_code 112 32 = some (.istore 5, 0, 0, 0) := (zf112 32).trans rfl
theorem d112_34 : zt_code 112 34 = some (.iconst (0), 0, 0, 0) := (zf112 34).trans rfl
theorem d112_35 : zt_code 112 35 = some (.istore 6, 0, 0, 0) := (zf112 35).trans rfl
theorem d112_37 : zt_code 112 37 = some (.iload 6, 0, 0, 0) := (zf112 37).trans rfl
theorem d112_39 : zt_code 112 39 = some (.iload_n 2, 0, 0, 0) := (zf112 39).trans rfl
theorem d112_40 : zt_code 112 40 = some (.if_icmp .ge (49), 0, 89, 0) := (zf112 40).trans rfl
theorem d112_43 : zt_code 112 43 = some (.aload_n 0, 0, 0, 0) := (zf112 43).trans rfl
theorem d112_44 : zt_code 112 44 = some (.getfield 12, 4, 0, 1) := (zf112 44).trans rfl
theorem d112_47 : zt_code 112 47 = some (.iload_n 1, 0, 0, 0) := (zf112 47).trans rfl
theorem d112_48 : zt_code 112 48 = some (.iload 6, 0, 0, 0) := (zf112 48).trans rfl
theorem d112_50 : zt_code 112 50 = some (.invokevirtual 213, 46, 3, 0) := (zf112 50).trans rfl
theorem d112_53 : zt_code 112 53 = some (.istore 7, 0, 0, 0) := (zf112 53).trans rfl
theorem d112_55 : zt_code 112 55 = some (.iload 7, 0, 0, 0) := (zf112 55).trans rfl
theorem d112_57 : zt_code 112 57 = some (.iload 5, 0, 0, 0) := (zf112 57).trans rfl
theorem d112_59 : zt_code 112 59 = some (.if_icmp .ne (10), 0, 69, 0) := (zf112 59).trans rfl
theorem d112_62 : zt_code 112 62 = some (.iload 4, 0, 0, 0) := (zf112 62).trans rfl
theorem d112_64 : zt_code 112 64 = some (.iconst (1), 0, 0, 0) := (zf112 64).trans rfl
theorem d112_65 : zt_code 112 65 = some (.iadd, 0, 0, 0) := (zf112 65).trans rfl
theorem d112_66 : zt_code 112 66 = some (.goto (4), 0, 70, 0) := (zf112 66).trans rfl
theorem d112_69 : zt_code 112 69 = some (.iconst (1), 0, 0, 0) := (zf112 69).trans rfl
theorem d112_70 : zt_code 112 70 = some (.istore 4, 0, 0, 0) := (zf112 70).trans rfl
theorem d112_72 : zt_code 112 72 = some (.iload 7, 0, 0, 0) := (zf112 72).trans rfl
theorem d112_74 : zt_code 112 74 = some (.istore 5, 0, 0, 0) := (zf112 74).trans rfl
theorem d112_76 : zt_code 112 76 = some (.iload_n 3, 0, 0, 0) := (zf112 76).trans rfl
theorem d112_77 : zt_code 112 77 = some (.iload 4, 0, 0, 0) := (zf112 77).trans rfl
theorem d112_79 : zt_code 112 79 = some (.invokestatic 216, 0, 2, 97) := (zf112 79).trans rfl
theorem d112_82 : zt_code 112 82 = some (.istore_n 3, 0, 0, 0) := (zf112 82).trans rfl
theorem d112_83 : zt_code 112 83 = some (.iinc 6 (1), 0, 0, 0) := (zf112 83).trans rfl
theorem d112_86 : zt_code 112 86 = some (.goto (-49), 0, 37, 0) := (zf112 86).trans rfl
theorem d112_89 : zt_code 112 89 = some (.iload_n 3, 0, 0, 0) := (zf112 89).trans rfl
theorem d112_90 : zt_code 112 90 = some (.ireturn, 0, 0, 0) := (zf112 90).trans rfl
/-- FirstAtTheFirst.runs(II)I -/
theorem vc112 {X : zX} {S : zx_S} {C : zx_C} {q : Int32 → zx_C → Prop} {e : Nat} {a1 : Int32} {a2 : Int32} (hS : zs_4 S e) (h : zCd X 0 75 [.int a1] S C (zQi (fun r1 C1 => if (r1 : Int32) = 0 then (zCd X 1 10 [.ref e, .int (-2)] S C1 (zQi (fun r2 C2 => q r2 C2))) else (if (a2 : Int32) < 1 then (zCd X 1 10 [.ref e, .int (-2)] S C1 (zQi (fun r3 C3 => q r3 C3))) else (if (4000 : Int32) < a2 then (zCd X 1 10 [.ref e, .int (-2)] S C1 (zQi (fun r4 C4 => q r4 C4))) else (zW X 2 112 37 [.ref e, .int a1, .int a2, .int 0, .int 0, .int (-1), .int 0, .retAddr 0] [] S C1 (zQi q))))))) : zCd X 2 112 [.ref e, .int a1, .int a2] S C (zQi q) := by
  refine zc_in ml_112 rfl ?_
  refine zw_iload_n (n := 1) d112_0 rfl rfl ?_
  refine zw_cI (n := 4) d112_1 (zs_S rfl rfl rfl rfl) (by rw [ml_75]; rfl) (by decide) rfl (zc_mI h (fun r1 C1 h => ?_))
  refine zw_if_eq (n := 7) d112_4 rfl (zite h (fun h => ?_) (fun h => ?_))
  · skip
    refine zw_aload_n (n := 20) d112_19 rfl rfl ?_
    refine zw_bipush (n := 22) d112_20 rfl zk_b_m2 ?_
    refine zw_cI (n := 25) d112_22 (zs_V rfl rfl rfl rfl (by decide) (zj_4 hS).1 (zq_4 hS)) (by rw [ml_10]; rfl) (by decide) rfl (zc_mI h (fun r2 C2 h => ?_))
    exact zw_iret d112_25 rfl ⟨_, rfl, h⟩
  · skip
    refine zw_iload_n (n := 8) d112_7 rfl rfl ?_
    refine zw_iconst (n := 9) d112_8 rfl zk_i_1 ?_
    refine zw_ic_lt (n := 12) d112_9 rfl (zite h (fun h => ?_) (fun h => ?_))
    · skip
      refine zw_aload_n (n := 20) d112_19 rfl rfl ?_
      refine zw_bipush (n := 22) d112_20 rfl zk_b_m2 ?_
      refine zw_cI (n := 25) d112_22 (zs_V rfl rfl rfl rfl (by decide) (zj_4 hS).1 (zq_4 hS)) (by rw [ml_10]; rfl) (by decide) rfl (zc_mI h (fun r3 C3 h => ?_))
      exact zw_iret d112_25 rfl ⟨_, rfl, h⟩
    · skip
      refine zw_iload_n (n := 13) d112_12 rfl rfl ?_
      refine zw_sipush (n := 16) d112_13 rfl zk_s_4000 ?_
      refine zw_ic_le (n := 19) d112_16 rfl (zite h (fun h => ?_) (fun h => ?_))
      · skip
        refine zw_aload_n (n := 20) d112_19 rfl rfl ?_
        refine zw_bipush (n := 22) d112_20 rfl zk_b_m2 ?_
        refine zw_cI (n := 25) d112_22 (zs_V rfl rfl rfl rfl (by decide) (zj_4 hS).1 (zq_4 hS)) (by rw [ml_10]; rfl) (by decide) rfl (zc_mI h (fun r4 C4 h => ?_))
        exact zw_iret d112_25 rfl ⟨_, rfl, h⟩
      · skip
        refine zw_iconst (n := 27) d112_26 rfl zk_i_0 ?_
        refine zw_istore_n (n := 28) d112_27 rfl rfl rfl ?_
        refine zw_iconst (n := 29) d112_28 rfl zk_i_0 ?_
        refine zw_istore (n := 31) d112_29 rfl rfl rfl ?_
        refine zw_iconst (n := 32) d112_31 rfl zk_i_m1 ?_
        refine zw_istore (n := 34) d112_32 rfl rfl rfl ?_
        refine zw_iconst (n := 35) d112_34 rfl zk_i_0 ?_
        refine zw_istore (n := 37) d112_35 rfl rfl rfl ?_
        exact h
theorem vc112_37 {X : zX} {S : zx_S} {C : zx_C} {q : Int32 → zx_C → Prop} {e : Nat} {a1 : Int32} {a2 : Int32} {i1 : Int32} {i2 : Int32} {i3 : Int32} {i4 : Int32} {i5 : Int32} {i6 : Int32} {z7 : Value} (hS : zs_4 S e) (h : if (i6 : Int32) < i2 then (zCd X 1 46 [.ref (e + 1), .int i1, .int i6] S C (zQi (fun r1 C1 => if (r1 : Int32) = i5 then (zW X 2 112 37 [.ref e, .int i1, .int i2, .int (if (i3 : Int32) < (i4 + 1) then (i4 + 1) else i3), .int (i4 + 1), .int r1, .int (i6 + 1), .int r1] [] S C1 (zQi q)) else (zW X 2 112 37 [.ref e, .int i1, .int i2, .int (if (i3 : Int32) < 1 then 1 else i3), .int 1, .int r1, .int (i6 + 1), .int r1] [] S C1 (zQi q))))) else (q i3 C)) : zW X 2 112 37 [.ref e, .int i1, .int i2, .int i3, .int i4, .int i5, .int i6, z7] [] S C (zQi q) := by
  refine zw_iload (n := 39) d112_37 rfl rfl ?_
  refine zw_iload_n (n := 40) d112_39 rfl rfl ?_
  refine zw_ic_ge (n := 43) d112_40 rfl (zite h (fun h => ?_) (fun h => ?_))
  · skip
    refine zw_aload_n (n := 44) d112_43 rfl rfl ?_
    refine zw_getr (n := 47) d112_44 rfl (zj_4 hS).1 (zj_4 hS).2 (zr_4_0 hS) ?_
    refine zw_iload_n (n := 48) d112_47 rfl rfl ?_
    refine zw_iload (n := 50) d112_48 rfl rfl ?_
    refine zw_cI (n := 53) d112_50 (zs_V rfl rfl rfl rfl (by decide) (zj_0 (zo_4_0 hS)).1 (zq_0 (zo_4_0 hS))) (by rw [ml_46]; rfl) (by decide) rfl (zc_mI h (fun r1 C1 h => ?_))
    refine zw_istore (n := 55) d112_53 rfl rfl rfl ?_
    refine zw_iload (n := 57) d112_55 rfl rfl ?_
    refine zw_iload (n := 59) d112_57 rfl rfl ?_
    refine zw_ic_ne (n := 62) d112_59 rfl (zite h (fun h => ?_) (fun h => ?_))
    · skip
      refine zw_iload (n := 64) d112_62 rfl rfl ?_
      refine zw_iconst (n := 65) d112_64 rfl zk_i_1 ?_
      refine zw_iadd (n := 66) d112_65 rfl ?_
      refine zw_goto d112_66 ?_
      refine zw_istore (n := 72) d112_70 rfl rfl rfl ?_
      refine zw_iload (n := 74) d112_72 rfl rfl ?_
      refine zw_istore (n := 76) d112_74 rfl rfl rfl ?_
      refine zw_iload_n (n := 77) d112_76 rfl rfl ?_
      refine zw_iload (n := 79) d112_77 rfl rfl ?_
      refine zw_math (n := 82) d112_79 rfl (Or.inl ⟨rfl, rfl⟩) rfl ?_
      refine zw_istore_n (n := 83) d112_82 rfl rfl rfl ?_
      refine zw_iinc (n := 86) d112_83 rfl rfl zk_i_1 rfl ?_
      refine zw_goto d112_86 ?_
      exact h
    · skip
      refine zw_iconst (n := 70) d112_69 rfl zk_i_1 ?_
      refine zw_istore (n := 72) d112_70 rfl rfl rfl ?_
      refine zw_iload (n := 74) d112_72 rfl rfl ?_
      refine zw_istore (n := 76) d112_74 rfl rfl rfl ?_
      refine zw_iload_n (n := 77) d112_76 rfl rfl ?_
      refine zw_iload (n := 79) d112_77 rfl rfl ?_
      refine zw_math (n := 82) d112_79 rfl (Or.inl ⟨rfl, rfl⟩) rfl ?_
      refine zw_istore_n (n := 83) d112_82 rfl rfl rfl ?_
      refine zw_iinc (n := 86) d112_83 rfl rfl zk_i_1 rfl ?_
      refine zw_goto d112_86 ?_
      exact h
  · skip
    refine zw_iload_n (n := 90) d112_89 rfl rfl ?_
    exact zw_iret d112_90 rfl ⟨_, rfl, h⟩

set_option maxRecDepth 20000 in
theorem zf114 (pc : Nat) : zt_code 114 pc = zt_fd zl_114 pc := rfl
theorem d114_0 : zt_code 114 0 = some (.iload_n 1, 0, 0, 0) := (zf114 0).trans rfl
theorem d114_1 : zt_code 114 1 = some (.invokestatic 164, 75, 1, -1) := (zf114 1).trans rfl
theorem d114_4 : zt_code 114 4 = some (.ifCond .eq (23), 0, 27, 0) := (zf114 4).trans rfl
theorem d114_7 : zt_code 114 7 = some (.iload_n 2, 0, 0, 0) := (zf114 7).trans rfl
theorem d114_8 : zt_code 114 8 = some (.ifCond .lt (19), 0, 27, 0) := (zf114 8).trans rfl
theorem d114_11 : zt_code 114 11 = some (.iload_n 2, 0, 0, 0) := (zf114 11).trans rfl
theorem d114_12 : zt_code 114 12 = some (.sipush (1000), 0, 0, 0) := (zf114 12).trans rfl
theorem d114_15 : zt_code 114 15 = some (.if_icmp .gt (12), 0, 27, 0) := (zf114 15).trans rfl
theorem d114_18 : zt_code 114 18 = some (.iload_n 3, 0, 0, 0) := (zf114 18).trans rfl
theorem d114_19 : zt_code 114 19 = some (.ifCond .lt (8), 0, 27, 0) := (zf114 19).trans rfl
theorem d114_22 : zt_code 114 22 = some (.iload_n 3, 0, 0, 0) := (zf114 22).trans rfl
theorem d114_23 : zt_code 114 23 = some (.iconst (3), 0, 0, 0) := (zf114 23).trans rfl
theorem d114_24 : zt_code 114 24 = some (.if_icmp .le (15), 0, 39, 0) := (zf114 24).trans rfl
theorem d114_27 : zt_code 114 27 = some (.ldc2_w 221, 0, 0, -10000000000000) := (zf114 27).trans rfl
theorem d114_30 : zt_code 114 30 = some (.aload_n 0, 0, 0, 0) := (zf114 30).trans rfl
theorem d114_31 : zt_code 114 31 = some (.bipush (-2), 0, 0, 0) := (zf114 31).trans rfl
theorem d114_33 : zt_code 114 33 = some (.invokevirtual 69, 10, 2, 4) := (zf114 33).trans rfl
theorem d114_36 : zt_code 114 36 = some (.i2l, 0, 0, 0) := (zf114 36).trans rfl
theorem d114_37 : zt_code 114 37 = some (.ladd, 0, 0, 0) := (zf114 37).trans rfl
theorem d114_38 : zt_code 114 38 = some (.lreturn, 0, 0, 0) := (zf114 38).trans rfl
theorem d114_39 : zt_code 114 39 = some (.lconst 0, 0, 0, 0) := (zf114 39).trans rfl
theorem d114_40 : zt_code 114 40 = some (.lstore 4, 0, 0, 0) := (zf114 40).trans rfl
theorem d114_42 : zt_code 114 42 = some (.iconst (0), 0, 0, 0) := (zf114 42).trans rfl
theorem d114_43 : zt_code 114 43 = some (.istore 6, 0, 0, 0) := (zf114 43).trans rfl
theorem d114_45 : zt_code 114 45 = some (.iload 6, 0, 0, 0) := (zf114 45).trans rfl
theorem d114_47 : zt_code 114 47 = some (.iload_n 2, 0, 0, 0) := (zf114 47).trans rfl
theorem d114_48 : zt_code 114 48 = some (.if_icmp .ge (59), 0, 107, 0) := (zf114 48).trans rfl
theorem d114_51 : zt_code 114 51 = some (.aload_n 0, 0, 0, 0) := (zf114 51).trans rfl
theorem d114_52 : zt_code 114 52 = some (.getfield 12, 4, 0, 1) := (zf114 52).trans rfl
theorem d114_55 : zt_code 114 55 = some (.iload_n 1, 0, 0, 0) := (zf114 55).trans rfl
theorem d114_56 : zt_code 114 56 = some (.iload 6, 0, 0, 0) := (zf114 56).trans rfl
theorem d114_58 : zt_code 114 58 = some (.invokevirtual 213, 46, 3, 0) := (zf114 58).trans rfl
theorem d114_61 : zt_code 114 61 = some (.istore 7, 0, 0, 0) := (zf114 61).trans rfl
theorem d114_63 : zt_code 114 63 = some (.iload 7, 0, 0, 0) := (zf114 63).trans rfl
theorem d114_65 : zt_code 114 65 = some (.ifCond .ne (18), 0, 83, 0) := (zf114 65).trans rfl
theorem d114_68 : zt_code 114 68 = some (.lload 4, 0, 0, 0) := (zf114 68).trans rfl
theorem d114_70 : zt_code 114 70 = some (.iload 6, 0, 0, 0) := (zf114 70).trans rfl
theorem d114_72 : zt_code 114 72 = some (.i2l, 0, 0, 0) := (zf114 72).trans rfl
theorem d114_73 : zt_code 114 73 = some (.iload_n 3, 0, 0, 0) := (zf114 73).trans rfl
theorem d114_74 : zt_code 114 74 = some (.invokestatic 223, 115, 2, -1) := (zf114 74).trans rfl
theorem d114_77 : zt_code 114 77 = some (.ladd, 0, 0, 0) := (zf114 77).trans rfl
theorem d114_78 : zt_code 114 78 = some (.lstore 4, 0, 0, 0) := (zf114 78).trans rfl
theorem d114_80 : zt_code 114 80 = some (.goto (21), 0, 101, 0) := (zf114 80).trans rfl
theorem d114_83 : zt_code 114 83 = some (.iload 7, 0, 0, 0) := (zf114 83).trans rfl
theorem d114_85 : zt_code 114 85 = some (.iconst (1), 0, 0, 0) := (zf114 85).trans rfl
theorem d114_86 : zt_code 114 86 = some (.if_icmp .ne (15), 0, 101, 0) := (zf114 86).trans rfl
theorem d114_89 : zt_code 114 89 = some (.lload 4, 0, 0, 0) := (zf114 89).trans rfl
theorem d114_91 : zt_code 114 91 = some (.iload 6, 0, 0, 0) := (zf114 91).trans rfl
theorem d114_93 : zt_code 114 93 = some (.i2l, 0, 0, 0) := (zf114 93).trans rfl
theorem d114_94 : zt_code 114 94 = some (.iload_n 3, 0, 0, 0) := (zf114 94).trans rfl
theorem d114_95 : zt_code 114 95 = some (.invokestatic 223, 115, 2, -1) := (zf114 95).trans rfl
theorem d114_98 : zt_code 114 98 = some (.lsub, 0, 0, 0) := (zf114 98).trans rfl
theorem d114_99 : zt_code 114 99 = some (.lstore 4, 0, 0, 0) := (zf114 99).trans rfl
theorem d114_101 : zt_code 114 101 = some (.iinc 6 (1), 0, 0, 0) := (zf114 101).trans rfl
theorem d114_104 : zt_code 114 104 = some (.goto (-59), 0, 45, 0) := (zf114 104).trans rfl
theorem d114_107 : zt_code 114 107 = some (.lload 4, 0, 0, 0) := (zf114 107).trans rfl
theorem d114_109 : zt_code 114 109 = some (.lreturn, 0, 0, 0) := (zf114 109).trans rfl
/-- FirstAtTheFirst.powers(III)J -/
theorem vc114 {X : zX} {S : zx_S} {C : zx_C} {q : Int64 → zx_C → Prop} {e : Nat} {a1 : Int32} {a2 : Int32} {a3 : Int32} (hS : zs_4 S e) (h : zCd X 0 75 [.int a1] S C (zQi (fun r1 C1 => if (r1 : Int32) = 0 then (zCd X 1 10 [.ref e, .int (-2)] S C1 (zQi (fun r2 C2 => q ((-10000000000000) + (Int32.toInt64 r2)) C2))) else (if (a2 : Int32) < 0 then (zCd X 1 10 [.ref e, .int (-2)] S C1 (zQi (fun r3 C3 => q ((-10000000000000) + (Int32.toInt64 r3)) C3))) else (if (1000 : Int32) < a2 then (zCd X 1 10 [.ref e, .int (-2)] S C1 (zQi (fun r4 C4 => q ((-10000000000000) + (Int32.toInt64 r4)) C4))) else (if (a3 : Int32) < 0 then (zCd X 1 10 [.ref e, .int (-2)] S C1 (zQi (fun r5 C5 => q ((-10000000000000) + (Int32.toInt64 r5)) C5))) else (if (3 : Int32) < a3 then (zCd X 1 10 [.ref e, .int (-2)] S C1 (zQi (fun r6 C6 => q ((-10000000000000) + (Int32.toInt64 r6)) C6))) else (zW X 2 114 45 [.ref e, .int a1, .int a2, .int a3, .long 0, .retAddr 1, .int 0, .retAddr 0] [] S C1 (zQl q))))))))) : zCd X 2 114 [.ref e, .int a1, .int a2, .int a3] S C (zQl q) := by
  refine zc_in ml_114 rfl ?_
  refine zw_iload_n (n := 1) d114_0 rfl rfl ?_
  refine zw_cI (n := 4) d114_1 (zs_S rfl rfl rfl rfl) (by rw [ml_75]; rfl) (by decide) rfl (zc_mI h (fun r1 C1 h => ?_))
  refine zw_if_eq (n := 7) d114_4 rfl (zite h (fun h => ?_) (fun h => ?_))
  · skip
    refine zw_ldc2 (n := 30) d114_27 rfl zk_l_m10000000000000 ?_
    refine zw_aload_n (n := 31) d114_30 rfl rfl ?_
    refine zw_bipush (n := 33) d114_31 rfl zk_b_m2 ?_
    refine zw_cI (n := 36) d114_33 (zs_V rfl rfl rfl rfl (by decide) (zj_4 hS).1 (zq_4 hS)) (by rw [ml_10]; rfl) (by decide) rfl (zc_mI h (fun r2 C2 h => ?_))
    refine zw_i2l (n := 37) d114_36 rfl ?_
    refine zw_ladd (n := 38) d114_37 rfl ?_
    exact zw_lret d114_38 ⟨_, rfl, h⟩
  · skip
    refine zw_iload_n (n := 8) d114_7 rfl rfl ?_
    refine zw_if_lt (n := 11) d114_8 rfl (zite h (fun h => ?_) (fun h => ?_))
    · skip
      refine zw_ldc2 (n := 30) d114_27 rfl zk_l_m10000000000000 ?_
      refine zw_aload_n (n := 31) d114_30 rfl rfl ?_
      refine zw_bipush (n := 33) d114_31 rfl zk_b_m2 ?_
      refine zw_cI (n := 36) d114_33 (zs_V rfl rfl rfl rfl (by decide) (zj_4 hS).1 (zq_4 hS)) (by rw [ml_10]; rfl) (by decide) rfl (zc_mI h (fun r3 C3 h => ?_))
      refine zw_i2l (n := 37) d114_36 rfl ?_
      refine zw_ladd (n := 38) d114_37 rfl ?_
      exact zw_lret d114_38 ⟨_, rfl, h⟩
    · skip
      refine zw_iload_n (n := 12) d114_11 rfl rfl ?_
      refine zw_sipush (n := 15) d114_12 rfl zk_s_1000 ?_
      refine zw_ic_gt (n := 18) d114_15 rfl (zite h (fun h => ?_) (fun h => ?_))
      · skip
        refine zw_ldc2 (n := 30) d114_27 rfl zk_l_m10000000000000 ?_
        refine zw_aload_n (n := 31) d114_30 rfl rfl ?_
        refine zw_bipush (n := 33) d114_31 rfl zk_b_m2 ?_
        refine zw_cI (n := 36) d114_33 (zs_V rfl rfl rfl rfl (by decide) (zj_4 hS).1 (zq_4 hS)) (by rw [ml_10]; rfl) (by decide) rfl (zc_mI h (fun r4 C4 h => ?_))
        refine zw_i2l (n := 37) d114_36 rfl ?_
        refine zw_ladd (n := 38) d114_37 rfl ?_
        exact zw_lret d114_38 ⟨_, rfl, h⟩
      · skip
        refine zw_iload_n (n := 19) d114_18 rfl rfl ?_
        refine zw_if_lt (n := 22) d114_19 rfl (zite h (fun h => ?_) (fun h => ?_))
        · skip
          refine zw_ldc2 (n := 30) d114_27 rfl zk_l_m10000000000000 ?_
          refine zw_aload_n (n := 31) d114_30 rfl rfl ?_
          refine zw_bipush (n := 33) d114_31 rfl zk_b_m2 ?_
          refine zw_cI (n := 36) d114_33 (zs_V rfl rfl rfl rfl (by decide) (zj_4 hS).1 (zq_4 hS)) (by rw [ml_10]; rfl) (by decide) rfl (zc_mI h (fun r5 C5 h => ?_))
          refine zw_i2l (n := 37) d114_36 rfl ?_
          refine zw_ladd (n := 38) d114_37 rfl ?_
          exact zw_lret d114_38 ⟨_, rfl, h⟩
        · skip
          refine zw_iload_n (n := 23) d114_22 rfl rfl ?_
          refine zw_iconst (n := 24) d114_23 rfl zk_i_3 ?_
          refine zw_ic_le (n := 27) d114_24 rfl (zite h (fun h => ?_) (fun h => ?_))
          · skip
            refine zw_ldc2 (n := 30) d114_27 rfl zk_l_m10000000000000 ?_
            refine zw_aload_n (n := 31) d114_30 rfl rfl ?_
            refine zw_bipush (n := 33) d114_31 rfl zk_b_m2 ?_
            refine zw_cI (n := 36) d114_33 (zs_V rfl rfl rfl rfl (by decide) (zj_4 hS).1 (zq_4 hS)) (by rw [ml_10]; rfl) (by decide) rfl (zc_mI h (fun r6 C6 h => ?_))
            refine zw_i2l (n := 37) d114_36 rfl ?_
            refine zw_ladd (n := 38) d114_37 rfl ?_
            exact zw_lret d114_38 ⟨_, rfl, h⟩
          · skip
            refine zw_lconst (n := 40) d114_39 rfl zk_c_0 ?_
            refine zw_lstore (n := 42) d114_40 rfl rfl rfl ?_
            refine zw_iconst (n := 43) d114_42 rfl zk_i_0 ?_
            refine zw_istore (n := 45) d114_43 rfl rfl rfl ?_
            exact h
theorem vc114_45 {X : zX} {S : zx_S} {C : zx_C} {q : Int64 → zx_C → Prop} {e : Nat} {a1 : Int32} {a2 : Int32} {a3 : Int32} {i1 : Int32} {i2 : Int32} {i3 : Int32} {i4 : Int64} {i6 : Int32} {z7 : Value} (hS : zs_4 S e) (h : if (i6 : Int32) < i2 then (zCd X 1 46 [.ref (e + 1), .int i1, .int i6] S C (zQi (fun r1 C1 => if (r1 : Int32) = 0 then (zCd X 0 115 [.long (Int32.toInt64 i6), .int i3] S C1 (zQl (fun r2 C2 => zW X 2 114 45 [.ref e, .int i1, .int i2, .int i3, .long (i4 + r2), .retAddr 1, .int (i6 + 1), .int r1] [] S C2 (zQl q)))) else (if (r1 : Int32) = 1 then (zCd X 0 115 [.long (Int32.toInt64 i6), .int i3] S C1 (zQl (fun r3 C3 => zW X 2 114 45 [.ref e, .int i1, .int i2, .int i3, .long (i4 - r3), .retAddr 1, .int (i6 + 1), .int r1] [] S C3 (zQl q)))) else (zW X 2 114 45 [.ref e, .int i1, .int i2, .int i3, .long i4, .retAddr 1, .int (i6 + 1), .int r1] [] S C1 (zQl q)))))) else (q i4 C)) : zW X 2 114 45 [.ref e, .int i1, .int i2, .int i3, .long i4, .retAddr 1, .int i6, z7] [] S C (zQl q) := by
  refine zw_iload (n := 47) d114_45 rfl rfl ?_
  refine zw_iload_n (n := 48) d114_47 rfl rfl ?_
  refine zw_ic_ge (n := 51) d114_48 rfl (zite h (fun h => ?_) (fun h => ?_))
  · skip
    refine zw_aload_n (n := 52) d114_51 rfl rfl ?_
    refine zw_getr (n := 55) d114_52 rfl (zj_4 hS).1 (zj_4 hS).2 (zr_4_0 hS) ?_
    refine zw_iload_n (n := 56) d114_55 rfl rfl ?_
    refine zw_iload (n := 58) d114_56 rfl rfl ?_
    refine zw_cI (n := 61) d114_58 (zs_V rfl rfl rfl rfl (by decide) (zj_0 (zo_4_0 hS)).1 (zq_0 (zo_4_0 hS))) (by rw [ml_46]; rfl) (by decide) rfl (zc_mI h (fun r1 C1 h => ?_))
    refine zw_istore (n := 63) d114_61 rfl rfl rfl ?_
    refine zw_iload (n := 65) d114_63 rfl rfl ?_
    refine zw_if_ne (n := 68) d114_65 rfl (zite h (fun h => ?_) (fun h => ?_))
    · skip
      refine zw_lload (n := 70) d114_68 rfl rfl rfl ?_
      refine zw_iload (n := 72) d114_70 rfl rfl ?_
      refine zw_i2l (n := 73) d114_72 rfl ?_
      refine zw_iload_n (n := 74) d114_73 rfl rfl ?_
      refine zw_cL (n := 77) d114_74 (zs_S rfl rfl rfl rfl) (by rw [ml_115]; rfl) (by decide) rfl (zc_mL h (fun r2 C2 h => ?_))
      refine zw_ladd (n := 78) d114_77 rfl ?_
      refine zw_lstore (n := 80) d114_78 rfl rfl rfl ?_
      refine zw_goto d114_80 ?_
      refine zw_iinc (n := 104) d114_101 rfl rfl zk_i_1 rfl ?_
      refine zw_goto d114_104 ?_
      exact h
    · skip
      refine zw_iload (n := 85) d114_83 rfl rfl ?_
      refine zw_iconst (n := 86) d114_85 rfl zk_i_1 ?_
      refine zw_ic_ne (n := 89) d114_86 rfl (zite h (fun h => ?_) (fun h => ?_))
      · skip
        refine zw_lload (n := 91) d114_89 rfl rfl rfl ?_
        refine zw_iload (n := 93) d114_91 rfl rfl ?_
        refine zw_i2l (n := 94) d114_93 rfl ?_
        refine zw_iload_n (n := 95) d114_94 rfl rfl ?_
        refine zw_cL (n := 98) d114_95 (zs_S rfl rfl rfl rfl) (by rw [ml_115]; rfl) (by decide) rfl (zc_mL h (fun r3 C3 h => ?_))
        refine zw_lsub (n := 99) d114_98 rfl ?_
        refine zw_lstore (n := 101) d114_99 rfl rfl rfl ?_
        refine zw_iinc (n := 104) d114_101 rfl rfl zk_i_1 rfl ?_
        refine zw_goto d114_104 ?_
        exact h
      · skip
        refine zw_iinc (n := 104) d114_101 rfl rfl zk_i_1 rfl ?_
        refine zw_goto d114_104 ?_
        exact h
  · skip
    refine zw_lload (n := 109) d114_107 rfl rfl rfl ?_
    exact zw_lret d114_109 ⟨_, rfl, h⟩

set_option maxRecDepth 20000 in
theorem zf116 (pc : Nat) : zt_code 116 pc = zt_fd zl_116 pc := rfl
theorem d116_0 : zt_code 116 0 = some (.aload_n 0, 0, 0, 0) := (zf116 0).trans rfl
theorem d116_1 : zt_code 116 1 = some (.getfield 12, 4, 0, 1) := (zf116 1).trans rfl
theorem d116_4 : zt_code 116 4 = some (.iload_n 1, 0, 0, 0) := (zf116 4).trans rfl
theorem d116_5 : zt_code 116 5 = some (.invokevirtual 102, 27, 2, 0) := (zf116 5).trans rfl
theorem d116_8 : zt_code 116 8 = some (.ifCond .ne (10), 0, 18, 0) := (zf116 8).trans rfl
theorem d116_11 : zt_code 116 11 = some (.aload_n 0, 0, 0, 0) := (zf116 11).trans rfl
theorem d116_12 : zt_code 116 12 = some (.bipush (-2), 0, 0, 0) := (zf116 12).trans rfl
theorem d116_14 : zt_code 116 14 = some (.invokevirtual 69, 10, 2, 4) := (zf116 14).trans rfl
theorem d116_17 : zt_code 116 17 = some (.ireturn, 0, 0, 0) := (zf116 17).trans rfl
theorem d116_18 : zt_code 116 18 = some (.aload_n 0, 0, 0, 0) := (zf116 18).trans rfl
theorem d116_19 : zt_code 116 19 = some (.getfield 43, 4, 7, 1) := (zf116 19).trans rfl
theorem d116_22 : zt_code 116 22 = some (.aload_n 0, 0, 0, 0) := (zf116 22).trans rfl
theorem d116_23 : zt_code 116 23 = some (.getfield 12, 4, 0, 1) := (zf116 23).trans rfl
theorem d116_26 : zt_code 116 26 = some (.aload_n 0, 0, 0, 0) := (zf116 26).trans rfl
theorem d116_27 : zt_code 116 27 = some (.getfield 12, 4, 0, 1) := (zf116 27).trans rfl
theorem d116_30 : zt_code 116 30 = some (.getfield 167, 0, 2, 0) := (zf116 30).trans rfl
theorem d116_33 : zt_code 116 33 = some (.invokevirtual 227, 45, 3, 1) := (zf116 33).trans rfl
theorem d116_36 : zt_code 116 36 = some (.aload_n 0, 0, 0, 0) := (zf116 36).trans rfl
theorem d116_37 : zt_code 116 37 = some (.getfield 43, 4, 7, 1) := (zf116 37).trans rfl
theorem d116_40 : zt_code 116 40 = some (.iload_n 1, 0, 0, 0) := (zf116 40).trans rfl
theorem d116_41 : zt_code 116 41 = some (.iconst (0), 0, 0, 0) := (zf116 41).trans rfl
theorem d116_42 : zt_code 116 42 = some (.invokevirtual 231, 56, 3, 1) := (zf116 42).trans rfl
theorem d116_45 : zt_code 116 45 = some (.ireturn, 0, 0, 0) := (zf116 45).trans rfl
/-- FirstAtTheFirst.rival(I)I -/
theorem vc116 {X : zX} {S : zx_S} {C : zx_C} {q : Int32 → zx_C → Prop} {e : Nat} {a1 : Int32} (hS : zs_4 S e) (h : zCd X 0 27 [.ref (e + 1), .int a1] S C (zQi (fun r1 C1 => if (r1 : Int32) = 0 then (zCd X 1 10 [.ref e, .int (-2)] S C1 (zQi (fun r2 C2 => q r2 C2))) else (zCd X 2 45 [.ref (e + 24), .ref (e + 1), .int (C1.1 (e + 1) 2)] S C1 (zQv (fun C3 => zCd X 1 56 [.ref (e + 24), .int a1, .int 0] S C3 (zQi (fun r4 C4 => q r4 C4)))))))) : zCd X 3 116 [.ref e, .int a1] S C (zQi q) := by
  refine zc_in ml_116 rfl ?_
  refine zw_aload_n (n := 1) d116_0 rfl rfl ?_
  refine zw_getr (n := 4) d116_1 rfl (zj_4 hS).1 (zj_4 hS).2 (zr_4_0 hS) ?_
  refine zw_iload_n (n := 5) d116_4 rfl rfl ?_
  refine zw_cI (n := 8) d116_5 (zs_V rfl rfl rfl rfl (by decide) (zj_0 (zo_4_0 hS)).1 (zq_0 (zo_4_0 hS))) (by rw [ml_27]; rfl) (by decide) rfl (zc_mI h (fun r1 C1 h => ?_))
  refine zw_if_ne (n := 11) d116_8 rfl (zite h (fun h => ?_) (fun h => ?_))
  · skip
    refine zw_aload_n (n := 12) d116_11 rfl rfl ?_
    refine zw_bipush (n := 14) d116_12 rfl zk_b_m2 ?_
    refine zw_cI (n := 17) d116_14 (zs_V rfl rfl rfl rfl (by decide) (zj_4 hS).1 (zq_4 hS)) (by rw [ml_10]; rfl) (by decide) rfl (zc_mI h (fun r2 C2 h => ?_))
    exact zw_iret d116_17 rfl ⟨_, rfl, h⟩
  · skip
    refine zw_aload_n (n := 19) d116_18 rfl rfl ?_
    refine zw_getr (n := 22) d116_19 rfl (zj_4 hS).1 (zj_4 hS).2 (zr_4_7 hS) ?_
    refine zw_aload_n (n := 23) d116_22 rfl rfl ?_
    refine zw_getr (n := 26) d116_23 rfl (zj_4 hS).1 (zj_4 hS).2 (zr_4_0 hS) ?_
    refine zw_aload_n (n := 27) d116_26 rfl rfl ?_
    refine zw_getr (n := 30) d116_27 rfl (zj_4 hS).1 (zj_4 hS).2 (zr_4_0 hS) ?_
    refine zw_geti (n := 33) d116_30 rfl (zj_0 (zo_4_0 hS)).1 (zj_0 (zo_4_0 hS)).2 ?_
    refine zw_cV (n := 36) d116_33 (zs_V rfl rfl rfl rfl (by decide) (zj_1 (zo_4_7 hS)).1 (zq_1 (zo_4_7 hS))) (by rw [ml_45]; rfl) (by decide) rfl (zc_mV h (fun C3 h => ?_))
    refine zw_aload_n (n := 37) d116_36 rfl rfl ?_
    refine zw_getr (n := 40) d116_37 rfl (zj_4 hS).1 (zj_4 hS).2 (zr_4_7 hS) ?_
    refine zw_iload_n (n := 41) d116_40 rfl rfl ?_
    refine zw_iconst (n := 42) d116_41 rfl zk_i_0 ?_
    refine zw_cI (n := 45) d116_42 (zs_V rfl rfl rfl rfl (by decide) (zj_1 (zo_4_7 hS)).1 (zq_1 (zo_4_7 hS))) (by rw [ml_56]; rfl) (by decide) rfl (zc_mI h (fun r4 C4 h => ?_))
    exact zw_iret d116_45 rfl ⟨_, rfl, h⟩

set_option maxRecDepth 20000 in
theorem zf117 (pc : Nat) : zt_code 117 pc = zt_fd zl_117 pc := rfl
theorem d117_0 : zt_code 117 0 = some (.aload_n 0, 0, 0, 0) := (zf117 0).trans rfl
theorem d117_1 : zt_code 117 1 = some (.getfield 12, 4, 0, 1) := (zf117 1).trans rfl
theorem d117_4 : zt_code 117 4 = some (.iload_n 1, 0, 0, 0) := (zf117 4).trans rfl
theorem d117_5 : zt_code 117 5 = some (.invokevirtual 102, 27, 2, 0) := (zf117 5).trans rfl
theorem d117_8 : zt_code 117 8 = some (.ifCond .ne (10), 0, 18, 0) := (zf117 8).trans rfl
theorem d117_11 : zt_code 117 11 = some (.aload_n 0, 0, 0, 0) := (zf117 11).trans rfl
theorem d117_12 : zt_code 117 12 = some (.bipush (-2), 0, 0, 0) := (zf117 12).trans rfl
theorem d117_14 : zt_code 117 14 = some (.invokevirtual 69, 10, 2, 4) := (zf117 14).trans rfl
theorem d117_17 : zt_code 117 17 = some (.ireturn, 0, 0, 0) := (zf117 17).trans rfl
theorem d117_18 : zt_code 117 18 = some (.aload_n 0, 0, 0, 0) := (zf117 18).trans rfl
theorem d117_19 : zt_code 117 19 = some (.getfield 12, 4, 0, 1) := (zf117 19).trans rfl
theorem d117_22 : zt_code 117 22 = some (.iconst (-1), 0, 0, 0) := (zf117 22).trans rfl
theorem d117_23 : zt_code 117 23 = some (.invokevirtual 210, 43, 2, 0) := (zf117 23).trans rfl
theorem d117_26 : zt_code 117 26 = some (.ifCond .ne (10), 0, 36, 0) := (zf117 26).trans rfl
theorem d117_29 : zt_code 117 29 = some (.aload_n 0, 0, 0, 0) := (zf117 29).trans rfl
theorem d117_30 : zt_code 117 30 = some (.bipush (-5), 0, 0, 0) := (zf117 30).trans rfl
theorem d117_32 : zt_code 117 32 = some (.invokevirtual 69, 10, 2, 4) := (zf117 32).trans rfl
theorem d117_35 : zt_code 117 35 = some (.ireturn, 0, 0, 0) := (zf117 35).trans rfl
theorem d117_36 : zt_code 117 36 = some (.aload_n 0, 0, 0, 0) := (zf117 36).trans rfl
theorem d117_37 : zt_code 117 37 = some (.iload_n 1, 0, 0, 0) := (zf117 37).trans rfl
theorem d117_38 : zt_code 117 38 = some (.aload_n 0, 0, 0, 0) := (zf117 38).trans rfl
theorem d117_39 : zt_code 117 39 = some (.getfield 12, 4, 0, 1) := (zf117 39).trans rfl
theorem d117_42 : zt_code 117 42 = some (.iload_n 1, 0, 0, 0) := (zf117 42).trans rfl
theorem d117_43 : zt_code 117 43 = some (.invokevirtual 109, 29, 2, 0) := (zf117 43).trans rfl
theorem d117_46 : zt_code 117 46 = some (.invokevirtual 129, 37, 3, 4) := (zf117 46).trans rfl
theorem d117_49 : zt_code 117 49 = some (.ireturn, 0, 0, 0) := (zf117 49).trans rfl
/-- FirstAtTheFirst.takes(I)I -/
theorem vc117 {X : zX} {S : zx_S} {C : zx_C} {q : Int32 → zx_C → Prop} {e : Nat} {a1 : Int32} (hS : zs_4 S e) (h : zCd X 0 27 [.ref (e + 1), .int a1] S C (zQi (fun r1 C1 => if (r1 : Int32) = 0 then (zCd X 1 10 [.ref e, .int (-2)] S C1 (zQi (fun r2 C2 => q r2 C2))) else (zCd X 1 43 [.ref (e + 1), .int (-1)] S C1 (zQi (fun r3 C3 => if (r3 : Int32) = 0 then (zCd X 1 10 [.ref e, .int (-5)] S C3 (zQi (fun r4 C4 => q r4 C4))) else (zCd X 1 29 [.ref (e + 1), .int a1] S C3 (zQi (fun r5 C5 => zCd X 5 37 [.ref e, .int a1, .int r5] S C5 (zQi (fun r6 C6 => q r6 C6))))))))))) : zCd X 6 117 [.ref e, .int a1] S C (zQi q) := by
  refine zc_in ml_117 rfl ?_
  refine zw_aload_n (n := 1) d117_0 rfl rfl ?_
  refine zw_getr (n := 4) d117_1 rfl (zj_4 hS).1 (zj_4 hS).2 (zr_4_0 hS) ?_
  refine zw_iload_n (n := 5) d117_4 rfl rfl ?_
  refine zw_cI (n := 8) d117_5 (zs_V rfl rfl rfl rfl (by decide) (zj_0 (zo_4_0 hS)).1 (zq_0 (zo_4_0 hS))) (by rw [ml_27]; rfl) (by decide) rfl (zc_mI h (fun r1 C1 h => ?_))
  refine zw_if_ne (n := 11) d117_8 rfl (zite h (fun h => ?_) (fun h => ?_))
  · skip
    refine zw_aload_n (n := 12) d117_11 rfl rfl ?_
    refine zw_bipush (n := 14) d117_12 rfl zk_b_m2 ?_
    refine zw_cI (n := 17) d117_14 (zs_V rfl rfl rfl rfl (by decide) (zj_4 hS).1 (zq_4 hS)) (by rw [ml_10]; rfl) (by decide) rfl (zc_mI h (fun r2 C2 h => ?_))
    exact zw_iret d117_17 rfl ⟨_, rfl, h⟩
  · skip
    refine zw_aload_n (n := 19) d117_18 rfl rfl ?_
    refine zw_getr (n := 22) d117_19 rfl (zj_4 hS).1 (zj_4 hS).2 (zr_4_0 hS) ?_
    refine zw_iconst (n := 23) d117_22 rfl zk_i_m1 ?_
    refine zw_cI (n := 26) d117_23 (zs_V rfl rfl rfl rfl (by decide) (zj_0 (zo_4_0 hS)).1 (zq_0 (zo_4_0 hS))) (by rw [ml_43]; rfl) (by decide) rfl (zc_mI h (fun r3 C3 h => ?_))
    refine zw_if_ne (n := 29) d117_26 rfl (zite h (fun h => ?_) (fun h => ?_))
    · skip
      refine zw_aload_n (n := 30) d117_29 rfl rfl ?_
      refine zw_bipush (n := 32) d117_30 rfl zk_b_m5 ?_
      refine zw_cI (n := 35) d117_32 (zs_V rfl rfl rfl rfl (by decide) (zj_4 hS).1 (zq_4 hS)) (by rw [ml_10]; rfl) (by decide) rfl (zc_mI h (fun r4 C4 h => ?_))
      exact zw_iret d117_35 rfl ⟨_, rfl, h⟩
    · skip
      refine zw_aload_n (n := 37) d117_36 rfl rfl ?_
      refine zw_iload_n (n := 38) d117_37 rfl rfl ?_
      refine zw_aload_n (n := 39) d117_38 rfl rfl ?_
      refine zw_getr (n := 42) d117_39 rfl (zj_4 hS).1 (zj_4 hS).2 (zr_4_0 hS) ?_
      refine zw_iload_n (n := 43) d117_42 rfl rfl ?_
      refine zw_cI (n := 46) d117_43 (zs_V rfl rfl rfl rfl (by decide) (zj_0 (zo_4_0 hS)).1 (zq_0 (zo_4_0 hS))) (by rw [ml_29]; rfl) (by decide) rfl (zc_mI h (fun r5 C5 h => ?_))
      refine zw_cI (n := 49) d117_46 (zs_V rfl rfl rfl rfl (by decide) (zj_4 hS).1 (zq_4 hS)) (by rw [ml_37]; rfl) (by decide) rfl (zc_mI h (fun r6 C6 h => ?_))
      exact zw_iret d117_49 rfl ⟨_, rfl, h⟩

set_option maxRecDepth 20000 in
theorem zf118 (pc : Nat) : zt_code 118 pc = zt_fd zl_118 pc := rfl
theorem d118_0 : zt_code 118 0 = some (.iload_n 1, 0, 0, 0) := (zf118 0).trans rfl
theorem d118_1 : zt_code 118 1 = some (.invokestatic 164, 75, 1, -1) := (zf118 1).trans rfl
theorem d118_4 : zt_code 118 4 = some (.ifCond .eq (7), 0, 11, 0) := (zf118 4).trans rfl
theorem d118_7 : zt_code 118 7 = some (.iload_n 2, 0, 0, 0) := (zf118 7).trans rfl
theorem d118_8 : zt_code 118 8 = some (.ifCond .ge (10), 0, 18, 0) := (zf118 8).trans rfl
theorem d118_11 : zt_code 118 11 = some (.aload_n 0, 0, 0, 0) := (zf118 11).trans rfl
theorem d118_12 : zt_code 118 12 = some (.bipush (-2), 0, 0, 0) := (zf118 12).trans rfl
theorem d118_14 : zt_code 118 14 = some (.invokevirtual 69, 10, 2, 4) := (zf118 14).trans rfl
theorem d118_17 : zt_code 118 17 = some (.ireturn, 0, 0, 0) := (zf118 17).trans rfl
theorem d118_18 : zt_code 118 18 = some (.iload_n 2, 0, 0, 0) := (zf118 18).trans rfl
theorem d118_19 : zt_code 118 19 = some (.aload_n 0, 0, 0, 0) := (zf118 19).trans rfl
theorem d118_20 : zt_code 118 20 = some (.getfield 12, 4, 0, 1) := (zf118 20).trans rfl
theorem d118_23 : zt_code 118 23 = some (.iconst (-1), 0, 0, 0) := (zf118 23).trans rfl
theorem d118_24 : zt_code 118 24 = some (.invokevirtual 210, 43, 2, 0) := (zf118 24).trans rfl
theorem d118_27 : zt_code 118 27 = some (.invokestatic 234, 44, 1, -1) := (zf118 27).trans rfl
theorem d118_30 : zt_code 118 30 = some (.if_icmp .lt (10), 0, 40, 0) := (zf118 30).trans rfl
theorem d118_33 : zt_code 118 33 = some (.aload_n 0, 0, 0, 0) := (zf118 33).trans rfl
theorem d118_34 : zt_code 118 34 = some (.bipush (-5), 0, 0, 0) := (zf118 34).trans rfl
theorem d118_36 : zt_code 118 36 = some (.invokevirtual 69, 10, 2, 4) := (zf118 36).trans rfl
theorem d118_39 : zt_code 118 39 = some (.ireturn, 0, 0, 0) := (zf118 39).trans rfl
theorem d118_40 : zt_code 118 40 = some (.aload_n 0, 0, 0, 0) := (zf118 40).trans rfl
theorem d118_41 : zt_code 118 41 = some (.iload_n 1, 0, 0, 0) := (zf118 41).trans rfl
theorem d118_42 : zt_code 118 42 = some (.invokevirtual 239, 119, 2, 4) := (zf118 42).trans rfl
theorem d118_45 : zt_code 118 45 = some (.aload_n 0, 0, 0, 0) := (zf118 45).trans rfl
theorem d118_46 : zt_code 118 46 = some (.getfield 50, 4, 9, 1) := (zf118 46).trans rfl
theorem d118_49 : zt_code 118 49 = some (.iload_n 2, 0, 0, 0) := (zf118 49).trans rfl
theorem d118_50 : zt_code 118 50 = some (.invokestatic 242, 11, 2, -1) := (zf118 50).trans rfl
theorem d118_53 : zt_code 118 53 = some (.ireturn, 0, 0, 0) := (zf118 53).trans rfl
/-- FirstAtTheFirst.run(II)I -/
theorem vc118 {X : zX} {S : zx_S} {C : zx_C} {q : Int32 → zx_C → Prop} {e : Nat} {a1 : Int32} {a2 : Int32} (hS : zs_4 S e) (h : zCd X 0 75 [.int a1] S C (zQi (fun r1 C1 => if (r1 : Int32) = 0 then (zCd X 1 10 [.ref e, .int (-2)] S C1 (zQi (fun r2 C2 => q r2 C2))) else (if (a2 : Int32) < 0 then (zCd X 1 10 [.ref e, .int (-2)] S C1 (zQi (fun r3 C3 => q r3 C3))) else (zCd X 1 43 [.ref (e + 1), .int (-1)] S C1 (zQi (fun r4 C4 => zCd X 0 44 [.int r4] S C4 (zQi (fun r5 C5 => if (a2 : Int32) < r5 then (zCd X 6 119 [.ref e, .int a1] S C5 (zQv (fun C6 => zCd X 0 11 [.ref (e + 38), .int a2] S C6 (zQi (fun r7 C7 => q r7 C7))))) else (zCd X 1 10 [.ref e, .int (-5)] S C5 (zQi (fun r8 C8 => q r8 C8)))))))))))) : zCd X 7 118 [.ref e, .int a1, .int a2] S C (zQi q) := by
  refine zc_in ml_118 rfl ?_
  refine zw_iload_n (n := 1) d118_0 rfl rfl ?_
  refine zw_cI (n := 4) d118_1 (zs_S rfl rfl rfl rfl) (by rw [ml_75]; rfl) (by decide) rfl (zc_mI h (fun r1 C1 h => ?_))
  refine zw_if_eq (n := 7) d118_4 rfl (zite h (fun h => ?_) (fun h => ?_))
  · skip
    refine zw_aload_n (n := 12) d118_11 rfl rfl ?_
    refine zw_bipush (n := 14) d118_12 rfl zk_b_m2 ?_
    refine zw_cI (n := 17) d118_14 (zs_V rfl rfl rfl rfl (by decide) (zj_4 hS).1 (zq_4 hS)) (by rw [ml_10]; rfl) (by decide) rfl (zc_mI h (fun r2 C2 h => ?_))
    exact zw_iret d118_17 rfl ⟨_, rfl, h⟩
  · skip
    refine zw_iload_n (n := 8) d118_7 rfl rfl ?_
    refine zw_if_ge (n := 11) d118_8 rfl (zite h (fun h => ?_) (fun h => ?_))
    · skip
      refine zw_aload_n (n := 12) d118_11 rfl rfl ?_
      refine zw_bipush (n := 14) d118_12 rfl zk_b_m2 ?_
      refine zw_cI (n := 17) d118_14 (zs_V rfl rfl rfl rfl (by decide) (zj_4 hS).1 (zq_4 hS)) (by rw [ml_10]; rfl) (by decide) rfl (zc_mI h (fun r3 C3 h => ?_))
      exact zw_iret d118_17 rfl ⟨_, rfl, h⟩
    · skip
      refine zw_iload_n (n := 19) d118_18 rfl rfl ?_
      refine zw_aload_n (n := 20) d118_19 rfl rfl ?_
      refine zw_getr (n := 23) d118_20 rfl (zj_4 hS).1 (zj_4 hS).2 (zr_4_0 hS) ?_
      refine zw_iconst (n := 24) d118_23 rfl zk_i_m1 ?_
      refine zw_cI (n := 27) d118_24 (zs_V rfl rfl rfl rfl (by decide) (zj_0 (zo_4_0 hS)).1 (zq_0 (zo_4_0 hS))) (by rw [ml_43]; rfl) (by decide) rfl (zc_mI h (fun r4 C4 h => ?_))
      refine zw_cI (n := 30) d118_27 (zs_S rfl rfl rfl rfl) (by rw [ml_44]; rfl) (by decide) rfl (zc_mI h (fun r5 C5 h => ?_))
      refine zw_ic_lt (n := 33) d118_30 rfl (zite h (fun h => ?_) (fun h => ?_))
      · skip
        refine zw_aload_n (n := 41) d118_40 rfl rfl ?_
        refine zw_iload_n (n := 42) d118_41 rfl rfl ?_
        refine zw_cV (n := 45) d118_42 (zs_V rfl rfl rfl rfl (by decide) (zj_4 hS).1 (zq_4 hS)) (by rw [ml_119]; rfl) (by decide) rfl (zc_mV h (fun C6 h => ?_))
        refine zw_aload_n (n := 46) d118_45 rfl rfl ?_
        refine zw_getr (n := 49) d118_46 rfl (zj_4 hS).1 (zj_4 hS).2 (zr_4_9 hS) ?_
        refine zw_iload_n (n := 50) d118_49 rfl rfl ?_
        refine zw_cI (n := 53) d118_50 (zs_S rfl rfl rfl rfl) (by rw [ml_11]; rfl) (by decide) rfl (zc_mI h (fun r7 C7 h => ?_))
        exact zw_iret d118_53 rfl ⟨_, rfl, h⟩
      · skip
        refine zw_aload_n (n := 34) d118_33 rfl rfl ?_
        refine zw_bipush (n := 36) d118_34 rfl zk_b_m5 ?_
        refine zw_cI (n := 39) d118_36 (zs_V rfl rfl rfl rfl (by decide) (zj_4 hS).1 (zq_4 hS)) (by rw [ml_10]; rfl) (by decide) rfl (zc_mI h (fun r8 C8 h => ?_))
        exact zw_iret d118_39 rfl ⟨_, rfl, h⟩

set_option maxRecDepth 20000 in
theorem zf119 (pc : Nat) : zt_code 119 pc = zt_fd zl_119 pc := rfl
theorem d119_0 : zt_code 119 0 = some (.aload_n 0, 0, 0, 0) := (zf119 0).trans rfl
theorem d119_1 : zt_code 119 1 = some (.getfield 43, 4, 7, 1) := (zf119 1).trans rfl
theorem d119_4 : zt_code 119 4 = some (.aload_n 0, 0, 0, 0) := (zf119 4).trans rfl
theorem d119_5 : zt_code 119 5 = some (.getfield 12, 4, 0, 1) := (zf119 5).trans rfl
theorem d119_8 : zt_code 119 8 = some (.invokevirtual 258, 38, 2, 1) := (zf119 8).trans rfl
theorem d119_11 : zt_code 119 11 = some (.aload_n 0, 0, 0, 0) := (zf119 11).trans rfl
theorem d119_12 : zt_code 119 12 = some (.getfield 43, 4, 7, 1) := (zf119 12).trans rfl
theorem d119_15 : zt_code 119 15 = some (.aload_n 0, 0, 0, 0) := (zf119 15).trans rfl
theorem d119_16 : zt_code 119 16 = some (.getfield 12, 4, 0, 1) := (zf119 16).trans rfl
theorem d119_19 : zt_code 119 19 = some (.iload_n 1, 0, 0, 0) := (zf119 19).trans rfl
theorem d119_20 : zt_code 119 20 = some (.invokevirtual 227, 45, 3, 1) := (zf119 20).trans rfl
theorem d119_23 : zt_code 119 23 = some (.aload_n 0, 0, 0, 0) := (zf119 23).trans rfl
theorem d119_24 : zt_code 119 24 = some (.aload_n 0, 0, 0, 0) := (zf119 24).trans rfl
theorem d119_25 : zt_code 119 25 = some (.getfield 43, 4, 7, 1) := (zf119 25).trans rfl
theorem d119_28 : zt_code 119 28 = some (.iconst (-1), 0, 0, 0) := (zf119 28).trans rfl
theorem d119_29 : zt_code 119 29 = some (.invokevirtual 262, 120, 3, 4) := (zf119 29).trans rfl
theorem d119_32 : zt_code 119 32 = some (.return_, 0, 0, 0) := (zf119 32).trans rfl
/-- FirstAtTheFirst.runByLaw(I)V -/
theorem vc119 {X : zX} {S : zx_S} {C : zx_C} {q : zx_C → Prop} {e : Nat} {a1 : Int32} (hS : zs_4 S e) (h : zCd X 3 38 [.ref (e + 24), .ref (e + 1)] S C (zQv (fun C1 => zCd X 2 45 [.ref (e + 24), .ref (e + 1), .int a1] S C1 (zQv (fun C2 => zCd X 5 120 [.ref e, .ref (e + 24), .int (-1)] S C2 (zQv (fun C3 => q C3))))))) : zCd X 6 119 [.ref e, .int a1] S C (zQv q) := by
  refine zc_in ml_119 rfl ?_
  refine zw_aload_n (n := 1) d119_0 rfl rfl ?_
  refine zw_getr (n := 4) d119_1 rfl (zj_4 hS).1 (zj_4 hS).2 (zr_4_7 hS) ?_
  refine zw_aload_n (n := 5) d119_4 rfl rfl ?_
  refine zw_getr (n := 8) d119_5 rfl (zj_4 hS).1 (zj_4 hS).2 (zr_4_0 hS) ?_
  refine zw_cV (n := 11) d119_8 (zs_V rfl rfl rfl rfl (by decide) (zj_1 (zo_4_7 hS)).1 (zq_1 (zo_4_7 hS))) (by rw [ml_38]; rfl) (by decide) rfl (zc_mV h (fun C1 h => ?_))
  refine zw_aload_n (n := 12) d119_11 rfl rfl ?_
  refine zw_getr (n := 15) d119_12 rfl (zj_4 hS).1 (zj_4 hS).2 (zr_4_7 hS) ?_
  refine zw_aload_n (n := 16) d119_15 rfl rfl ?_
  refine zw_getr (n := 19) d119_16 rfl (zj_4 hS).1 (zj_4 hS).2 (zr_4_0 hS) ?_
  refine zw_iload_n (n := 20) d119_19 rfl rfl ?_
  refine zw_cV (n := 23) d119_20 (zs_V rfl rfl rfl rfl (by decide) (zj_1 (zo_4_7 hS)).1 (zq_1 (zo_4_7 hS))) (by rw [ml_45]; rfl) (by decide) rfl (zc_mV h (fun C2 h => ?_))
  refine zw_aload_n (n := 24) d119_23 rfl rfl ?_
  refine zw_aload_n (n := 25) d119_24 rfl rfl ?_
  refine zw_getr (n := 28) d119_25 rfl (zj_4 hS).1 (zj_4 hS).2 (zr_4_7 hS) ?_
  refine zw_iconst (n := 29) d119_28 rfl zk_i_m1 ?_
  refine zw_cV (n := 32) d119_29 (zs_V rfl rfl rfl rfl (by decide) (zj_4 hS).1 (zq_4 hS)) (by rw [ml_120]; rfl) (by decide) rfl (zc_mV h (fun C3 h => ?_))
  exact zw_ret d119_32 ⟨rfl, h⟩

set_option maxRecDepth 20000 in
theorem zf120 (pc : Nat) : zt_code 120 pc = zt_fd zl_120 pc := rfl
theorem d120_0 : zt_code 120 0 = some (.iconst (0), 0, 0, 0) := (zf120 0).trans rfl
theorem d120_1 : zt_code 120 1 = some (.istore_n 3, 0, 0, 0) := (zf120 1).trans rfl
theorem d120_2 : zt_code 120 2 = some (.iload_n 3, 0, 0, 0) := (zf120 2).trans rfl
theorem d120_3 : zt_code 120 3 = some (.iconst (3), 0, 0, 0) := (zf120 3).trans rfl
theorem d120_4 : zt_code 120 4 = some (.if_icmp .ge (25), 0, 29, 0) := (zf120 4).trans rfl
theorem d120_7 : zt_code 120 7 = some (.aload_n 0, 0, 0, 0) := (zf120 7).trans rfl
theorem d120_8 : zt_code 120 8 = some (.getfield 53, 4, 11, 1) := (zf120 8).trans rfl
theorem d120_11 : zt_code 120 11 = some (.iload_n 3, 0, 0, 0) := (zf120 11).trans rfl
theorem d120_12 : zt_code 120 12 = some (.aload_n 0, 0, 0, 0) := (zf120 12).trans rfl
theorem d120_13 : zt_code 120 13 = some (.getfield 43, 4, 7, 1) := (zf120 13).trans rfl
theorem d120_16 : zt_code 120 16 = some (.iload_n 3, 0, 0, 0) := (zf120 16).trans rfl
theorem d120_17 : zt_code 120 17 = some (.invokevirtual 315, 121, 2, 1) := (zf120 17).trans rfl
theorem d120_20 : zt_code 120 20 = some (.invokestatic 157, 12, 3, -1) := (zf120 20).trans rfl
theorem d120_23 : zt_code 120 23 = some (.iinc 3 (1), 0, 0, 0) := (zf120 23).trans rfl
theorem d120_26 : zt_code 120 26 = some (.goto (-24), 0, 2, 0) := (zf120 26).trans rfl
theorem d120_29 : zt_code 120 29 = some (.aload_n 0, 0, 0, 0) := (zf120 29).trans rfl
theorem d120_30 : zt_code 120 30 = some (.getfield 43, 4, 7, 1) := (zf120 30).trans rfl
theorem d120_33 : zt_code 120 33 = some (.getfield 273, 1, 5, 0) := (zf120 33).trans rfl
theorem d120_36 : zt_code 120 36 = some (.istore_n 3, 0, 0, 0) := (zf120 36).trans rfl
theorem d120_37 : zt_code 120 37 = some (.aload_n 0, 0, 0, 0) := (zf120 37).trans rfl
theorem d120_38 : zt_code 120 38 = some (.iconst (0), 0, 0, 0) := (zf120 38).trans rfl
theorem d120_39 : zt_code 120 39 = some (.putfield 290, 4, 10, 0) := (zf120 39).trans rfl
theorem d120_42 : zt_code 120 42 = some (.iconst (0), 0, 0, 0) := (zf120 42).trans rfl
theorem d120_43 : zt_code 120 43 = some (.istore 4, 0, 0, 0) := (zf120 43).trans rfl
theorem d120_45 : zt_code 120 45 = some (.iload 4, 0, 0, 0) := (zf120 45).trans rfl
theorem d120_47 : zt_code 120 47 = some (.bipush (8), 0, 0, 0) := (zf120 47).trans rfl
theorem d120_49 : zt_code 120 49 = some (.if_icmp .ge (112), 0, 161, 0) := (zf120 49).trans rfl
theorem d120_52 : zt_code 120 52 = some (.iload_n 3, 0, 0, 0) := (zf120 52).trans rfl
theorem d120_53 : zt_code 120 53 = some (.ifCond .eq (108), 0, 161, 0) := (zf120 53).trans rfl
theorem d120_56 : zt_code 120 56 = some (.aload_n 0, 0, 0, 0) := (zf120 56).trans rfl
theorem d120_57 : zt_code 120 57 = some (.getfield 43, 4, 7, 1) := (zf120 57).trans rfl
theorem d120_60 : zt_code 120 60 = some (.iload_n 3, 0, 0, 0) := (zf120 60).trans rfl
theorem d120_61 : zt_code 120 61 = some (.invokevirtual 318, 63, 2, 1) := (zf120 61).trans rfl
theorem d120_64 : zt_code 120 64 = some (.istore 5, 0, 0, 0) := (zf120 64).trans rfl
theorem d120_66 : zt_code 120 66 = some (.iload 5, 0, 0, 0) := (zf120 66).trans rfl
theorem d120_68 : zt_code 120 68 = some (.iload_n 2, 0, 0, 0) := (zf120 68).trans rfl
theorem d120_69 : zt_code 120 69 = some (.if_icmp .ne (10), 0, 79, 0) := (zf120 69).trans rfl
theorem d120_72 : zt_code 120 72 = some (.aload_n 0, 0, 0, 0) := (zf120 72).trans rfl
theorem d120_73 : zt_code 120 73 = some (.getfield 43, 4, 7, 1) := (zf120 73).trans rfl
theorem d120_76 : zt_code 120 76 = some (.goto (4), 0, 80, 0) := (zf120 76).trans rfl
theorem d120_79 : zt_code 120 79 = some (.aload_n 1, 0, 0, 0) := (zf120 79).trans rfl
theorem d120_80 : zt_code 120 80 = some (.astore 6, 0, 0, 0) := (zf120 80).trans rfl
theorem d120_82 : zt_code 120 82 = some (.aload 6, 0, 0, 0) := (zf120 82).trans rfl
theorem d120_84 : zt_code 120 84 = some (.iload 5, 0, 0, 0) := (zf120 84).trans rfl
theorem d120_86 : zt_code 120 86 = some (.aload 6, 0, 0, 0) := (zf120 86).trans rfl
theorem d120_88 : zt_code 120 88 = some (.iload 5, 0, 0, 0) := (zf120 88).trans rfl
theorem d120_90 : zt_code 120 90 = some (.invokevirtual 321, 64, 2, 1) := (zf120 90).trans rfl
theorem d120_93 : zt_code 120 93 = some (.iload_n 3, 0, 0, 0) := (zf120 93).trans rfl
theorem d120_94 : zt_code 120 94 = some (.invokevirtual 312, 50, 4, 1) := (zf120 94).trans rfl
theorem d120_97 : zt_code 120 97 = some (.istore 7, 0, 0, 0) := (zf120 97).trans rfl
theorem d120_99 : zt_code 120 99 = some (.aload_n 0, 0, 0, 0) := (zf120 99).trans rfl
theorem d120_100 : zt_code 120 100 = some (.getfield 50, 4, 9, 1) := (zf120 100).trans rfl
theorem d120_103 : zt_code 120 103 = some (.iload 4, 0, 0, 0) := (zf120 103).trans rfl
theorem d120_105 : zt_code 120 105 = some (.iload 7, 0, 0, 0) := (zf120 105).trans rfl
theorem d120_107 : zt_code 120 107 = some (.invokestatic 157, 12, 3, -1) := (zf120 107).trans rfl
theorem d120_110 : zt_code 120 110 = some (.aload_n 0, 0, 0, 0) := (zf120 110).trans rfl
theorem d120_111 : zt_code 120 111 = some (.getfield 53, 4, 11, 1) := (zf120 111).trans rfl
theorem d120_114 : zt_code 120 114 = some (.iload 5, 0, 0, 0) := (zf120 114).trans rfl
theorem d120_116 : zt_code 120 116 = some (.aload_n 0, 0, 0, 0) := (zf120 116).trans rfl
theorem d120_117 : zt_code 120 117 = some (.getfield 53, 4, 11, 1) := (zf120 117).trans rfl
theorem d120_120 : zt_code 120 120 = some (.iload 5, 0, 0, 0) := (zf120 120).trans rfl
theorem d120_122 : zt_code 120 122 = some (.invokestatic 242, 11, 2, -1) := (zf120 122).trans rfl
theorem d120_125 : zt_code 120 125 = some (.aload_n 0, 0, 0, 0) := (zf120 125).trans rfl
theorem d120_126 : zt_code 120 126 = some (.getfield 43, 4, 7, 1) := (zf120 126).trans rfl
theorem d120_129 : zt_code 120 129 = some (.iload 5, 0, 0, 0) := (zf120 129).trans rfl
theorem d120_131 : zt_code 120 131 = some (.iload 7, 0, 0, 0) := (zf120 131).trans rfl
theorem d120_133 : zt_code 120 133 = some (.invokevirtual 322, 59, 3, 1) := (zf120 133).trans rfl
theorem d120_136 : zt_code 120 136 = some (.iadd, 0, 0, 0) := (zf120 136).trans rfl
theorem d120_137 : zt_code 120 137 = some (.invokestatic 157, 12, 3, -1) := (zf120 137).trans rfl
theorem d120_140 : zt_code 120 140 = some (.iload_n 3, 0, 0, 0) := (zf120 140).trans rfl
theorem d120_141 : zt_code 120 141 = some (.iload 7, 0, 0, 0) := (zf120 141).trans rfl
theorem d120_143 : zt_code 120 143 = some (.invokestatic 281, 61, 2, -1) := (zf120 143).trans rfl
theorem d120_146 : zt_code 120 146 = some (.istore_n 3, 0, 0, 0) := (zf120 146).trans rfl
theorem d120_147 : zt_code 120 147 = some (.aload_n 0, 0, 0, 0) := (zf120 147).trans rfl
theorem d120_148 : zt_code 120 148 = some (.iload 4, 0, 0, 0) := (zf120 148).trans rfl
theorem d120_150 : zt_code 120 150 = some (.iconst (1), 0, 0, 0) := (zf120 150).trans rfl
theorem d120_151 : zt_code 120 151 = some (.iadd, 0, 0, 0) := (zf120 151).trans rfl
theorem d120_152 : zt_code 120 152 = some (.putfield 290, 4, 10, 0) := (zf120 152).trans rfl
theorem d120_155 : zt_code 120 155 = some (.iinc 4 (1), 0, 0, 0) := (zf120 155).trans rfl
theorem d120_158 : zt_code 120 158 = some (.goto (-113), 0, 45, 0) := (zf120 158).trans rfl
theorem d120_161 : zt_code 120 161 = some (.return_, 0, 0, 0) := (zf120 161).trans rfl
/-- FirstAtTheFirst.goOn(LFirstAtTheFirst$Mind;I)V -/
theorem vc120 {X : zX} {S : zx_S} {C : zx_C} {q : zx_C → Prop} {e : Nat} {a1 : Nat} {a2 : Int32} (hS : zs_4 S e) (h1 : zs_1 S a1) (h : zW X 5 120 2 [.ref e, .ref a1, .int a2, .int 0, .retAddr 0, .retAddr 0, .retAddr 0, .retAddr 0] [] S C (zQv q)) : zCd X 5 120 [.ref e, .ref a1, .int a2] S C (zQv q) := by
  refine zc_in ml_120 rfl ?_
  refine zw_iconst (n := 1) d120_0 rfl zk_i_0 ?_
  refine zw_istore_n (n := 2) d120_1 rfl rfl rfl ?_
  exact h
theorem vc120_2 {X : zX} {S : zx_S} {C : zx_C} {q : zx_C → Prop} {e : Nat} {a1 : Nat} {a2 : Int32} {i2 : Int32} {i3 : Int32} {z4 : Value} {z5 : Value} {z6 : Value} {z7 : Value} (hS : zs_4 S e) (h1 : zs_1 S a1) (h : if (i3 : Int32) < 3 then (zCd X 1 121 [.ref (e + 24), .int i3] S C (zQi (fun r1 C1 => zCd X 0 12 [.ref (e + 39), .int i3, .int r1] S C1 (zQv (fun C2 => zW X 5 120 2 [.ref e, .ref a1, .int i2, .int (i3 + 1), z4, z5, z6, z7] [] S C2 (zQv q)))))) else (zW X 5 120 45 [.ref e, .ref a1, .int i2, .int (C.1 (e + 24) 5), .int 0, z5, z6, z7] [] S (zp C e 10 0) (zQv q))) : zW X 5 120 2 [.ref e, .ref a1, .int i2, .int i3, z4, z5, z6, z7] [] S C (zQv q) := by
  refine zw_iload_n (n := 3) d120_2 rfl rfl ?_
  refine zw_iconst (n := 4) d120_3 rfl zk_i_3 ?_
  refine zw_ic_ge (n := 7) d120_4 rfl (zite h (fun h => ?_) (fun h => ?_))
  · skip
    refine zw_aload_n (n := 8) d120_7 rfl rfl ?_
    refine zw_getr (n := 11) d120_8 rfl (zj_4 hS).1 (zj_4 hS).2 (zr_4_11 hS) ?_
    refine zw_iload_n (n := 12) d120_11 rfl rfl ?_
    refine zw_aload_n (n := 13) d120_12 rfl rfl ?_
    refine zw_getr (n := 16) d120_13 rfl (zj_4 hS).1 (zj_4 hS).2 (zr_4_7 hS) ?_
    refine zw_iload_n (n := 17) d120_16 rfl rfl ?_
    refine zw_cI (n := 20) d120_17 (zs_V rfl rfl rfl rfl (by decide) (zj_1 (zo_4_7 hS)).1 (zq_1 (zo_4_7 hS))) (by rw [ml_121]; rfl) (by decide) rfl (zc_mI h (fun r1 C1 h => ?_))
    refine zw_cV (n := 23) d120_20 (zs_S rfl rfl rfl rfl) (by rw [ml_12]; rfl) (by decide) rfl (zc_mV h (fun C2 h => ?_))
    refine zw_iinc (n := 26) d120_23 rfl rfl zk_i_1 rfl ?_
    refine zw_goto d120_26 ?_
    exact h
  · skip
    refine zw_aload_n (n := 30) d120_29 rfl rfl ?_
    refine zw_getr (n := 33) d120_30 rfl (zj_4 hS).1 (zj_4 hS).2 (zr_4_7 hS) ?_
    refine zw_geti (n := 36) d120_33 rfl (zj_1 (zo_4_7 hS)).1 (zj_1 (zo_4_7 hS)).2 ?_
    refine zw_istore_n (n := 37) d120_36 rfl rfl rfl ?_
    refine zw_aload_n (n := 38) d120_37 rfl rfl ?_
    refine zw_iconst (n := 39) d120_38 rfl zk_i_0 ?_
    refine zw_puti (n := 42) d120_39 rfl (zj_4 hS).1 (zj_4 hS).2 ?_
    refine zw_iconst (n := 43) d120_42 rfl zk_i_0 ?_
    refine zw_istore (n := 45) d120_43 rfl rfl rfl ?_
    exact h
theorem vc120_45 {X : zX} {S : zx_S} {C : zx_C} {q : zx_C → Prop} {e : Nat} {a1 : Nat} {a2 : Int32} {i2 : Int32} {i3 : Int32} {i4 : Int32} {z5 : Value} {z6 : Value} {z7 : Value} (hS : zs_4 S e) (h1 : zs_1 S a1) (h : if (i4 : Int32) < 8 then (if (i3 : Int32) = 0 then (q C) else (zCd X 2 63 [.ref (e + 24), .int i3] S C (zQi (fun r1 C1 => if (r1 : Int32) = i2 then (zCd X 1 64 [.ref (e + 24), .int r1] S C1 (zQi (fun r2 C2 => zCd X 4 50 [.ref (e + 24), .int r1, .int r2, .int i3] S C2 (zQi (fun r3 C3 => zCd X 0 12 [.ref (e + 38), .int i4, .int r3] S C3 (zQv (fun C4 => zCd X 0 11 [.ref (e + 39), .int r1] S C4 (zQi (fun r5 C5 => zCd X 0 59 [.ref (e + 24), .int r1, .int r3] S C5 (zQi (fun r6 C6 => zCd X 0 12 [.ref (e + 39), .int r1, .int (r5 + r6)] S C6 (zQv (fun C7 => zCd X 0 61 [.int i3, .int r3] S C7 (zQi (fun r8 C8 => zW X 5 120 45 [.ref e, .ref a1, .int i2, .int r8, .int (i4 + 1), .int r1, .ref (e + 24), .int r3] [] S (zp C8 e 10 (i4 + 1)) (zQv q)))))))))))))))) else (zCd X 1 64 [.ref a1, .int r1] S C1 (zQi (fun r9 C9 => zCd X 4 50 [.ref a1, .int r1, .int r9, .int i3] S C9 (zQi (fun r10 C10 => zCd X 0 12 [.ref (e + 38), .int i4, .int r10] S C10 (zQv (fun C11 => zCd X 0 11 [.ref (e + 39), .int r1] S C11 (zQi (fun r12 C12 => zCd X 0 59 [.ref (e + 24), .int r1, .int r10] S C12 (zQi (fun r13 C13 => zCd X 0 12 [.ref (e + 39), .int r1, .int (r12 + r13)] S C13 (zQv (fun C14 => zCd X 0 61 [.int i3, .int r10] S C14 (zQi (fun r15 C15 => zW X 5 120 45 [.ref e, .ref a1, .int i2, .int r15, .int (i4 + 1), .int r1, .ref a1, .int r10] [] S (zp C15 e 10 (i4 + 1)) (zQv q)))))))))))))))))))) else (q C)) : zW X 5 120 45 [.ref e, .ref a1, .int i2, .int i3, .int i4, z5, z6, z7] [] S C (zQv q) := by
  refine zw_iload (n := 47) d120_45 rfl rfl ?_
  refine zw_bipush (n := 49) d120_47 rfl zk_b_8 ?_
  refine zw_ic_ge (n := 52) d120_49 rfl (zite h (fun h => ?_) (fun h => ?_))
  · skip
    refine zw_iload_n (n := 53) d120_52 rfl rfl ?_
    refine zw_if_eq (n := 56) d120_53 rfl (zite h (fun h => ?_) (fun h => ?_))
    · skip
      exact zw_ret d120_161 ⟨rfl, h⟩
    · skip
      refine zw_aload_n (n := 57) d120_56 rfl rfl ?_
      refine zw_getr (n := 60) d120_57 rfl (zj_4 hS).1 (zj_4 hS).2 (zr_4_7 hS) ?_
      refine zw_iload_n (n := 61) d120_60 rfl rfl ?_
      refine zw_cI (n := 64) d120_61 (zs_V rfl rfl rfl rfl (by decide) (zj_1 (zo_4_7 hS)).1 (zq_1 (zo_4_7 hS))) (by rw [ml_63]; rfl) (by decide) rfl (zc_mI h (fun r1 C1 h => ?_))
      refine zw_istore (n := 66) d120_64 rfl rfl rfl ?_
      refine zw_iload (n := 68) d120_66 rfl rfl ?_
      refine zw_iload_n (n := 69) d120_68 rfl rfl ?_
      refine zw_ic_ne (n := 72) d120_69 rfl (zite h (fun h => ?_) (fun h => ?_))
      · skip
        refine zw_aload_n (n := 73) d120_72 rfl rfl ?_
        refine zw_getr (n := 76) d120_73 rfl (zj_4 hS).1 (zj_4 hS).2 (zr_4_7 hS) ?_
        refine zw_goto d120_76 ?_
        refine zw_astore (n := 82) d120_80 rfl rfl rfl ?_
        refine zw_aload (n := 84) d120_82 rfl rfl ?_
        refine zw_iload (n := 86) d120_84 rfl rfl ?_
        refine zw_aload (n := 88) d120_86 rfl rfl ?_
        refine zw_iload (n := 90) d120_88 rfl rfl ?_
        refine zw_cI (n := 93) d120_90 (zs_V rfl rfl rfl rfl (by decide) (zj_1 (zo_4_7 hS)).1 (zq_1 (zo_4_7 hS))) (by rw [ml_64]; rfl) (by decide) rfl (zc_mI h (fun r2 C2 h => ?_))
        refine zw_iload_n (n := 94) d120_93 rfl rfl ?_
        refine zw_cI (n := 97) d120_94 (zs_V rfl rfl rfl rfl (by decide) (zj_1 (zo_4_7 hS)).1 (zq_1 (zo_4_7 hS))) (by rw [ml_50]; rfl) (by decide) rfl (zc_mI h (fun r3 C3 h => ?_))
        refine zw_istore (n := 99) d120_97 rfl rfl rfl ?_
        refine zw_aload_n (n := 100) d120_99 rfl rfl ?_
        refine zw_getr (n := 103) d120_100 rfl (zj_4 hS).1 (zj_4 hS).2 (zr_4_9 hS) ?_
        refine zw_iload (n := 105) d120_103 rfl rfl ?_
        refine zw_iload (n := 107) d120_105 rfl rfl ?_
        refine zw_cV (n := 110) d120_107 (zs_S rfl rfl rfl rfl) (by rw [ml_12]; rfl) (by decide) rfl (zc_mV h (fun C4 h => ?_))
        refine zw_aload_n (n := 111) d120_110 rfl rfl ?_
        refine zw_getr (n := 114) d120_111 rfl (zj_4 hS).1 (zj_4 hS).2 (zr_4_11 hS) ?_
        refine zw_iload (n := 116) d120_114 rfl rfl ?_
        refine zw_aload_n (n := 117) d120_116 rfl rfl ?_
        refine zw_getr (n := 120) d120_117 rfl (zj_4 hS).1 (zj_4 hS).2 (zr_4_11 hS) ?_
        refine zw_iload (n := 122) d120_120 rfl rfl ?_
        refine zw_cI (n := 125) d120_122 (zs_S rfl rfl rfl rfl) (by rw [ml_11]; rfl) (by decide) rfl (zc_mI h (fun r5 C5 h => ?_))
        refine zw_aload_n (n := 126) d120_125 rfl rfl ?_
        refine zw_getr (n := 129) d120_126 rfl (zj_4 hS).1 (zj_4 hS).2 (zr_4_7 hS) ?_
        refine zw_iload (n := 131) d120_129 rfl rfl ?_
        refine zw_iload (n := 133) d120_131 rfl rfl ?_
        refine zw_cI (n := 136) d120_133 (zs_V rfl rfl rfl rfl (by decide) (zj_1 (zo_4_7 hS)).1 (zq_1 (zo_4_7 hS))) (by rw [ml_59]; rfl) (by decide) rfl (zc_mI h (fun r6 C6 h => ?_))
        refine zw_iadd (n := 137) d120_136 rfl ?_
        refine zw_cV (n := 140) d120_137 (zs_S rfl rfl rfl rfl) (by rw [ml_12]; rfl) (by decide) rfl (zc_mV h (fun C7 h => ?_))
        refine zw_iload_n (n := 141) d120_140 rfl rfl ?_
        refine zw_iload (n := 143) d120_141 rfl rfl ?_
        refine zw_cI (n := 146) d120_143 (zs_S rfl rfl rfl rfl) (by rw [ml_61]; rfl) (by decide) rfl (zc_mI h (fun r8 C8 h => ?_))
        refine zw_istore_n (n := 147) d120_146 rfl rfl rfl ?_
        refine zw_aload_n (n := 148) d120_147 rfl rfl ?_
        refine zw_iload (n := 150) d120_148 rfl rfl ?_
        refine zw_iconst (n := 151) d120_150 rfl zk_i_1 ?_
        refine zw_iadd (n := 152) d120_151 rfl ?_
        refine zw_puti (n := 155) d120_152 rfl (zj_4 hS).1 (zj_4 hS).2 ?_
        refine zw_iinc (n := 158) d120_155 rfl rfl zk_i_1 rfl ?_
        refine zw_goto d120_158 ?_
        exact h
      · skip
        refine zw_aload_n (n := 80) d120_79 rfl rfl ?_
        refine zw_astore (n := 82) d120_80 rfl rfl rfl ?_
        refine zw_aload (n := 84) d120_82 rfl rfl ?_
        refine zw_iload (n := 86) d120_84 rfl rfl ?_
        refine zw_aload (n := 88) d120_86 rfl rfl ?_
        refine zw_iload (n := 90) d120_88 rfl rfl ?_
        refine zw_cI (n := 93) d120_90 (zs_V rfl rfl rfl rfl (by decide) (zj_1 h1).1 (zq_1 h1)) (by rw [ml_64]; rfl) (by decide) rfl (zc_mI h (fun r9 C9 h => ?_))
        refine zw_iload_n (n := 94) d120_93 rfl rfl ?_
        refine zw_cI (n := 97) d120_94 (zs_V rfl rfl rfl rfl (by decide) (zj_1 h1).1 (zq_1 h1)) (by rw [ml_50]; rfl) (by decide) rfl (zc_mI h (fun r10 C10 h => ?_))
        refine zw_istore (n := 99) d120_97 rfl rfl rfl ?_
        refine zw_aload_n (n := 100) d120_99 rfl rfl ?_
        refine zw_getr (n := 103) d120_100 rfl (zj_4 hS).1 (zj_4 hS).2 (zr_4_9 hS) ?_
        refine zw_iload (n := 105) d120_103 rfl rfl ?_
        refine zw_iload (n := 107) d120_105 rfl rfl ?_
        refine zw_cV (n := 110) d120_107 (zs_S rfl rfl rfl rfl) (by rw [ml_12]; rfl) (by decide) rfl (zc_mV h (fun C11 h => ?_))
        refine zw_aload_n (n := 111) d120_110 rfl rfl ?_
        refine zw_getr (n := 114) d120_111 rfl (zj_4 hS).1 (zj_4 hS).2 (zr_4_11 hS) ?_
        refine zw_iload (n := 116) d120_114 rfl rfl ?_
        refine zw_aload_n (n := 117) d120_116 rfl rfl ?_
        refine zw_getr (n := 120) d120_117 rfl (zj_4 hS).1 (zj_4 hS).2 (zr_4_11 hS) ?_
        refine zw_iload (n := 122) d120_120 rfl rfl ?_
        refine zw_cI (n := 125) d120_122 (zs_S rfl rfl rfl rfl) (by rw [ml_11]; rfl) (by decide) rfl (zc_mI h (fun r12 C12 h => ?_))
        refine zw_aload_n (n := 126) d120_125 rfl rfl ?_
        refine zw_getr (n := 129) d120_126 rfl (zj_4 hS).1 (zj_4 hS).2 (zr_4_7 hS) ?_
        refine zw_iload (n := 131) d120_129 rfl rfl ?_
        refine zw_iload (n := 133) d120_131 rfl rfl ?_
        refine zw_cI (n := 136) d120_133 (zs_V rfl rfl rfl rfl (by decide) (zj_1 (zo_4_7 hS)).1 (zq_1 (zo_4_7 hS))) (by rw [ml_59]; rfl) (by decide) rfl (zc_mI h (fun r13 C13 h => ?_))
        refine zw_iadd (n := 137) d120_136 rfl ?_
        refine zw_cV (n := 140) d120_137 (zs_S rfl rfl rfl rfl) (by rw [ml_12]; rfl) (by decide) rfl (zc_mV h (fun C14 h => ?_))
        refine zw_iload_n (n := 141) d120_140 rfl rfl ?_
        refine zw_iload (n := 143) d120_141 rfl rfl ?_
        refine zw_cI (n := 146) d120_143 (zs_S rfl rfl rfl rfl) (by rw [ml_61]; rfl) (by decide) rfl (zc_mI h (fun r15 C15 h => ?_))
        refine zw_istore_n (n := 147) d120_146 rfl rfl rfl ?_
        refine zw_aload_n (n := 148) d120_147 rfl rfl ?_
        refine zw_iload (n := 150) d120_148 rfl rfl ?_
        refine zw_iconst (n := 151) d120_150 rfl zk_i_1 ?_
        refine zw_iadd (n := 152) d120_151 rfl ?_
        refine zw_puti (n := 155) d120_152 rfl (zj_4 hS).1 (zj_4 hS).2 ?_
        refine zw_iinc (n := 158) d120_155 rfl rfl zk_i_1 rfl ?_
        refine zw_goto d120_158 ?_
        exact h
  · skip
    exact zw_ret d120_161 ⟨rfl, h⟩

set_option maxRecDepth 20000 in
theorem zf122 (pc : Nat) : zt_code 122 pc = zt_fd zl_122 pc := rfl
theorem d122_0 : zt_code 122 0 = some (.iload_n 1, 0, 0, 0) := (zf122 0).trans rfl
theorem d122_1 : zt_code 122 1 = some (.invokestatic 164, 75, 1, -1) := (zf122 1).trans rfl
theorem d122_4 : zt_code 122 4 = some (.ifCond .eq (14), 0, 18, 0) := (zf122 4).trans rfl
theorem d122_7 : zt_code 122 7 = some (.aload_n 0, 0, 0, 0) := (zf122 7).trans rfl
theorem d122_8 : zt_code 122 8 = some (.getfield 12, 4, 0, 1) := (zf122 8).trans rfl
theorem d122_11 : zt_code 122 11 = some (.iload_n 2, 0, 0, 0) := (zf122 11).trans rfl
theorem d122_12 : zt_code 122 12 = some (.invokevirtual 102, 27, 2, 0) := (zf122 12).trans rfl
theorem d122_15 : zt_code 122 15 = some (.ifCond .ne (10), 0, 25, 0) := (zf122 15).trans rfl
theorem d122_18 : zt_code 122 18 = some (.aload_n 0, 0, 0, 0) := (zf122 18).trans rfl
theorem d122_19 : zt_code 122 19 = some (.bipush (-2), 0, 0, 0) := (zf122 19).trans rfl
theorem d122_21 : zt_code 122 21 = some (.invokevirtual 69, 10, 2, 4) := (zf122 21).trans rfl
theorem d122_24 : zt_code 122 24 = some (.ireturn, 0, 0, 0) := (zf122 24).trans rfl
theorem d122_25 : zt_code 122 25 = some (.aload_n 0, 0, 0, 0) := (zf122 25).trans rfl
theorem d122_26 : zt_code 122 26 = some (.iload_n 1, 0, 0, 0) := (zf122 26).trans rfl
theorem d122_27 : zt_code 122 27 = some (.invokevirtual 239, 119, 2, 4) := (zf122 27).trans rfl
theorem d122_30 : zt_code 122 30 = some (.aload_n 0, 0, 0, 0) := (zf122 30).trans rfl
theorem d122_31 : zt_code 122 31 = some (.getfield 53, 4, 11, 1) := (zf122 31).trans rfl
theorem d122_34 : zt_code 122 34 = some (.iload_n 2, 0, 0, 0) := (zf122 34).trans rfl
theorem d122_35 : zt_code 122 35 = some (.invokestatic 242, 11, 2, -1) := (zf122 35).trans rfl
theorem d122_38 : zt_code 122 38 = some (.ireturn, 0, 0, 0) := (zf122 38).trans rfl
/-- FirstAtTheFirst.gets(II)I -/
theorem vc122 {X : zX} {S : zx_S} {C : zx_C} {q : Int32 → zx_C → Prop} {e : Nat} {a1 : Int32} {a2 : Int32} (hS : zs_4 S e) (h : zCd X 0 75 [.int a1] S C (zQi (fun r1 C1 => if (r1 : Int32) = 0 then (zCd X 1 10 [.ref e, .int (-2)] S C1 (zQi (fun r2 C2 => q r2 C2))) else (zCd X 0 27 [.ref (e + 1), .int a2] S C1 (zQi (fun r3 C3 => if (r3 : Int32) = 0 then (zCd X 1 10 [.ref e, .int (-2)] S C3 (zQi (fun r4 C4 => q r4 C4))) else (zCd X 6 119 [.ref e, .int a1] S C3 (zQv (fun C5 => zCd X 0 11 [.ref (e + 39), .int a2] S C5 (zQi (fun r6 C6 => q r6 C6))))))))))) : zCd X 7 122 [.ref e, .int a1, .int a2] S C (zQi q) := by
  refine zc_in ml_122 rfl ?_
  refine zw_iload_n (n := 1) d122_0 rfl rfl ?_
  refine zw_cI (n := 4) d122_1 (zs_S rfl rfl rfl rfl) (by rw [ml_75]; rfl) (by decide) rfl (zc_mI h (fun r1 C1 h => ?_))
  refine zw_if_eq (n := 7) d122_4 rfl (zite h (fun h => ?_) (fun h => ?_))
  · skip
    refine zw_aload_n (n := 19) d122_18 rfl rfl ?_
    refine zw_bipush (n := 21) d122_19 rfl zk_b_m2 ?_
    refine zw_cI (n := 24) d122_21 (zs_V rfl rfl rfl rfl (by decide) (zj_4 hS).1 (zq_4 hS)) (by rw [ml_10]; rfl) (by decide) rfl (zc_mI h (fun r2 C2 h => ?_))
    exact zw_iret d122_24 rfl ⟨_, rfl, h⟩
  · skip
    refine zw_aload_n (n := 8) d122_7 rfl rfl ?_
    refine zw_getr (n := 11) d122_8 rfl (zj_4 hS).1 (zj_4 hS).2 (zr_4_0 hS) ?_
    refine zw_iload_n (n := 12) d122_11 rfl rfl ?_
    refine zw_cI (n := 15) d122_12 (zs_V rfl rfl rfl rfl (by decide) (zj_0 (zo_4_0 hS)).1 (zq_0 (zo_4_0 hS))) (by rw [ml_27]; rfl) (by decide) rfl (zc_mI h (fun r3 C3 h => ?_))
    refine zw_if_ne (n := 18) d122_15 rfl (zite h (fun h => ?_) (fun h => ?_))
    · skip
      refine zw_aload_n (n := 19) d122_18 rfl rfl ?_
      refine zw_bipush (n := 21) d122_19 rfl zk_b_m2 ?_
      refine zw_cI (n := 24) d122_21 (zs_V rfl rfl rfl rfl (by decide) (zj_4 hS).1 (zq_4 hS)) (by rw [ml_10]; rfl) (by decide) rfl (zc_mI h (fun r4 C4 h => ?_))
      exact zw_iret d122_24 rfl ⟨_, rfl, h⟩
    · skip
      refine zw_aload_n (n := 26) d122_25 rfl rfl ?_
      refine zw_iload_n (n := 27) d122_26 rfl rfl ?_
      refine zw_cV (n := 30) d122_27 (zs_V rfl rfl rfl rfl (by decide) (zj_4 hS).1 (zq_4 hS)) (by rw [ml_119]; rfl) (by decide) rfl (zc_mV h (fun C5 h => ?_))
      refine zw_aload_n (n := 31) d122_30 rfl rfl ?_
      refine zw_getr (n := 34) d122_31 rfl (zj_4 hS).1 (zj_4 hS).2 (zr_4_11 hS) ?_
      refine zw_iload_n (n := 35) d122_34 rfl rfl ?_
      refine zw_cI (n := 38) d122_35 (zs_S rfl rfl rfl rfl) (by rw [ml_11]; rfl) (by decide) rfl (zc_mI h (fun r6 C6 h => ?_))
      exact zw_iret d122_38 rfl ⟨_, rfl, h⟩

set_option maxRecDepth 20000 in
theorem zf123 (pc : Nat) : zt_code 123 pc = zt_fd zl_123 pc := rfl
theorem d123_0 : zt_code 123 0 = some (.iload_n 1, 0, 0, 0) := (zf123 0).trans rfl
theorem d123_1 : zt_code 123 1 = some (.invokestatic 164, 75, 1, -1) := (zf123 1).trans rfl
theorem d123_4 : zt_code 123 4 = some (.ifCond .ne (10), 0, 14, 0) := (zf123 4).trans rfl
theorem d123_7 : zt_code 123 7 = some (.aload_n 0, 0, 0, 0) := (zf123 7).trans rfl
theorem d123_8 : zt_code 123 8 = some (.bipush (-2), 0, 0, 0) := (zf123 8).trans rfl
theorem d123_10 : zt_code 123 10 = some (.invokevirtual 69, 10, 2, 4) := (zf123 10).trans rfl
theorem d123_13 : zt_code 123 13 = some (.ireturn, 0, 0, 0) := (zf123 13).trans rfl
theorem d123_14 : zt_code 123 14 = some (.aload_n 0, 0, 0, 0) := (zf123 14).trans rfl
theorem d123_15 : zt_code 123 15 = some (.iload_n 1, 0, 0, 0) := (zf123 15).trans rfl
theorem d123_16 : zt_code 123 16 = some (.invokevirtual 239, 119, 2, 4) := (zf123 16).trans rfl
theorem d123_19 : zt_code 123 19 = some (.aload_n 0, 0, 0, 0) := (zf123 19).trans rfl
theorem d123_20 : zt_code 123 20 = some (.invokevirtual 246, 124, 1, 4) := (zf123 20).trans rfl
theorem d123_23 : zt_code 123 23 = some (.ireturn, 0, 0, 0) := (zf123 23).trans rfl
/-- FirstAtTheFirst.unequal(I)I -/
theorem vc123 {X : zX} {S : zx_S} {C : zx_C} {q : Int32 → zx_C → Prop} {e : Nat} {a1 : Int32} (hS : zs_4 S e) (h : zCd X 0 75 [.int a1] S C (zQi (fun r1 C1 => if (r1 : Int32) = 0 then (zCd X 1 10 [.ref e, .int (-2)] S C1 (zQi (fun r2 C2 => q r2 C2))) else (zCd X 6 119 [.ref e, .int a1] S C1 (zQv (fun C3 => zCd X 1 124 [.ref e] S C3 (zQi (fun r4 C4 => q r4 C4)))))))) : zCd X 7 123 [.ref e, .int a1] S C (zQi q) := by
  refine zc_in ml_123 rfl ?_
  refine zw_iload_n (n := 1) d123_0 rfl rfl ?_
  refine zw_cI (n := 4) d123_1 (zs_S rfl rfl rfl rfl) (by rw [ml_75]; rfl) (by decide) rfl (zc_mI h (fun r1 C1 h => ?_))
  refine zw_if_ne (n := 7) d123_4 rfl (zite h (fun h => ?_) (fun h => ?_))
  · skip
    refine zw_aload_n (n := 8) d123_7 rfl rfl ?_
    refine zw_bipush (n := 10) d123_8 rfl zk_b_m2 ?_
    refine zw_cI (n := 13) d123_10 (zs_V rfl rfl rfl rfl (by decide) (zj_4 hS).1 (zq_4 hS)) (by rw [ml_10]; rfl) (by decide) rfl (zc_mI h (fun r2 C2 h => ?_))
    exact zw_iret d123_13 rfl ⟨_, rfl, h⟩
  · skip
    refine zw_aload_n (n := 15) d123_14 rfl rfl ?_
    refine zw_iload_n (n := 16) d123_15 rfl rfl ?_
    refine zw_cV (n := 19) d123_16 (zs_V rfl rfl rfl rfl (by decide) (zj_4 hS).1 (zq_4 hS)) (by rw [ml_119]; rfl) (by decide) rfl (zc_mV h (fun C3 h => ?_))
    refine zw_aload_n (n := 20) d123_19 rfl rfl ?_
    refine zw_cI (n := 23) d123_20 (zs_V rfl rfl rfl rfl (by decide) (zj_4 hS).1 (zq_4 hS)) (by rw [ml_124]; rfl) (by decide) rfl (zc_mI h (fun r4 C4 h => ?_))
    exact zw_iret d123_23 rfl ⟨_, rfl, h⟩

set_option maxRecDepth 20000 in
theorem zf124 (pc : Nat) : zt_code 124 pc = zt_fd zl_124 pc := rfl
theorem d124_0 : zt_code 124 0 = some (.aload_n 0, 0, 0, 0) := (zf124 0).trans rfl
theorem d124_1 : zt_code 124 1 = some (.getfield 53, 4, 11, 1) := (zf124 1).trans rfl
theorem d124_4 : zt_code 124 4 = some (.iconst (0), 0, 0, 0) := (zf124 4).trans rfl
theorem d124_5 : zt_code 124 5 = some (.invokestatic 242, 11, 2, -1) := (zf124 5).trans rfl
theorem d124_8 : zt_code 124 8 = some (.istore_n 1, 0, 0, 0) := (zf124 8).trans rfl
theorem d124_9 : zt_code 124 9 = some (.iload_n 1, 0, 0, 0) := (zf124 9).trans rfl
theorem d124_10 : zt_code 124 10 = some (.istore_n 2, 0, 0, 0) := (zf124 10).trans rfl
theorem d124_11 : zt_code 124 11 = some (.iconst (1), 0, 0, 0) := (zf124 11).trans rfl
theorem d124_12 : zt_code 124 12 = some (.istore_n 3, 0, 0, 0) := (zf124 12).trans rfl
theorem d124_13 : zt_code 124 13 = some (.iload_n 3, 0, 0, 0) := (zf124 13).trans rfl
theorem d124_14 : zt_code 124 14 = some (.aload_n 0, 0, 0, 0) := (zf124 14).trans rfl
theorem d124_15 : zt_code 124 15 = some (.getfield 12, 4, 0, 1) := (zf124 15).trans rfl
theorem d124_18 : zt_code 124 18 = some (.getfield 136, 0, 0, 0) := (zf124 18).trans rfl
theorem d124_21 : zt_code 124 21 = some (.if_icmp .ge (35), 0, 56, 0) := (zf124 21).trans rfl
theorem d124_24 : zt_code 124 24 = some (.iload_n 1, 0, 0, 0) := (zf124 24).trans rfl
theorem d124_25 : zt_code 124 25 = some (.aload_n 0, 0, 0, 0) := (zf124 25).trans rfl
theorem d124_26 : zt_code 124 26 = some (.getfield 53, 4, 11, 1) := (zf124 26).trans rfl
theorem d124_29 : zt_code 124 29 = some (.iload_n 3, 0, 0, 0) := (zf124 29).trans rfl
theorem d124_30 : zt_code 124 30 = some (.invokestatic 242, 11, 2, -1) := (zf124 30).trans rfl
theorem d124_33 : zt_code 124 33 = some (.invokestatic 216, 0, 2, 97) := (zf124 33).trans rfl
theorem d124_36 : zt_code 124 36 = some (.istore_n 1, 0, 0, 0) := (zf124 36).trans rfl
theorem d124_37 : zt_code 124 37 = some (.iload_n 2, 0, 0, 0) := (zf124 37).trans rfl
theorem d124_38 : zt_code 124 38 = some (.aload_n 0, 0, 0, 0) := (zf124 38).trans rfl
theorem d124_39 : zt_code 124 39 = some (.getfield 53, 4, 11, 1) := (zf124 39).trans rfl
theorem d124_42 : zt_code 124 42 = some (.iload_n 3, 0, 0, 0) := (zf124 42).trans rfl
theorem d124_43 : zt_code 124 43 = some (.invokestatic 242, 11, 2, -1) := (zf124 43).trans rfl
theorem d124_46 : zt_code 124 46 = some (.invokestatic 293, 0, 2, 98) := (zf124 46).trans rfl
theorem d124_49 : zt_code 124 49 = some (.istore_n 2, 0, 0, 0) := (zf124 49).trans rfl
theorem d124_50 : zt_code 124 50 = some (.iinc 3 (1), 0, 0, 0) := (zf124 50).trans rfl
theorem d124_53 : zt_code 124 53 = some (.goto (-40), 0, 13, 0) := (zf124 53).trans rfl
theorem d124_56 : zt_code 124 56 = some (.iload_n 1, 0, 0, 0) := (zf124 56).trans rfl
theorem d124_57 : zt_code 124 57 = some (.iload_n 2, 0, 0, 0) := (zf124 57).trans rfl
theorem d124_58 : zt_code 124 58 = some (.isub, 0, 0, 0) := (zf124 58).trans rfl
theorem d124_59 : zt_code 124 59 = some (.ireturn, 0, 0, 0) := (zf124 59).trans rfl
/-- FirstAtTheFirst.spread()I -/
theorem vc124 {X : zX} {S : zx_S} {C : zx_C} {q : Int32 → zx_C → Prop} {e : Nat} (hS : zs_4 S e) (h : zCd X 0 11 [.ref (e + 39), .int 0] S C (zQi (fun r1 C1 => zW X 1 124 13 [.ref e, .int r1, .int r1, .int 1] [] S C1 (zQi q)))) : zCd X 1 124 [.ref e] S C (zQi q) := by
  refine zc_in ml_124 rfl ?_
  refine zw_aload_n (n := 1) d124_0 rfl rfl ?_
  refine zw_getr (n := 4) d124_1 rfl (zj_4 hS).1 (zj_4 hS).2 (zr_4_11 hS) ?_
  refine zw_iconst (n := 5) d124_4 rfl zk_i_0 ?_
  refine zw_cI (n := 8) d124_5 (zs_S rfl rfl rfl rfl) (by rw [ml_11]; rfl) (by decide) rfl (zc_mI h (fun r1 C1 h => ?_))
  refine zw_istore_n (n := 9) d124_8 rfl rfl rfl ?_
  refine zw_iload_n (n := 10) d124_9 rfl rfl ?_
  refine zw_istore_n (n := 11) d124_10 rfl rfl rfl ?_
  refine zw_iconst (n := 12) d124_11 rfl zk_i_1 ?_
  refine zw_istore_n (n := 13) d124_12 rfl rfl rfl ?_
  exact h
theorem vc124_13 {X : zX} {S : zx_S} {C : zx_C} {q : Int32 → zx_C → Prop} {e : Nat} {i1 : Int32} {i2 : Int32} {i3 : Int32} (hS : zs_4 S e) (h : if (i3 : Int32) < (C.1 (e + 1) 0) then (zCd X 0 11 [.ref (e + 39), .int i3] S C (zQi (fun r1 C1 => zCd X 0 11 [.ref (e + 39), .int i3] S C1 (zQi (fun r2 C2 => zW X 1 124 13 [.ref e, .int (if (i1 : Int32) < r1 then r1 else i1), .int (if (r2 : Int32) < i2 then r2 else i2), .int (i3 + 1)] [] S C2 (zQi q)))))) else (q (i1 - i2) C)) : zW X 1 124 13 [.ref e, .int i1, .int i2, .int i3] [] S C (zQi q) := by
  refine zw_iload_n (n := 14) d124_13 rfl rfl ?_
  refine zw_aload_n (n := 15) d124_14 rfl rfl ?_
  refine zw_getr (n := 18) d124_15 rfl (zj_4 hS).1 (zj_4 hS).2 (zr_4_0 hS) ?_
  refine zw_geti (n := 21) d124_18 rfl (zj_0 (zo_4_0 hS)).1 (zj_0 (zo_4_0 hS)).2 ?_
  refine zw_ic_ge (n := 24) d124_21 rfl (zite h (fun h => ?_) (fun h => ?_))
  · skip
    refine zw_iload_n (n := 25) d124_24 rfl rfl ?_
    refine zw_aload_n (n := 26) d124_25 rfl rfl ?_
    refine zw_getr (n := 29) d124_26 rfl (zj_4 hS).1 (zj_4 hS).2 (zr_4_11 hS) ?_
    refine zw_iload_n (n := 30) d124_29 rfl rfl ?_
    refine zw_cI (n := 33) d124_30 (zs_S rfl rfl rfl rfl) (by rw [ml_11]; rfl) (by decide) rfl (zc_mI h (fun r1 C1 h => ?_))
    refine zw_math (n := 36) d124_33 rfl (Or.inl ⟨rfl, rfl⟩) rfl ?_
    refine zw_istore_n (n := 37) d124_36 rfl rfl rfl ?_
    refine zw_iload_n (n := 38) d124_37 rfl rfl ?_
    refine zw_aload_n (n := 39) d124_38 rfl rfl ?_
    refine zw_getr (n := 42) d124_39 rfl (zj_4 hS).1 (zj_4 hS).2 (zr_4_11 hS) ?_
    refine zw_iload_n (n := 43) d124_42 rfl rfl ?_
    refine zw_cI (n := 46) d124_43 (zs_S rfl rfl rfl rfl) (by rw [ml_11]; rfl) (by decide) rfl (zc_mI h (fun r2 C2 h => ?_))
    refine zw_math (n := 49) d124_46 rfl (Or.inr ⟨rfl, rfl⟩) rfl ?_
    refine zw_istore_n (n := 50) d124_49 rfl rfl rfl ?_
    refine zw_iinc (n := 53) d124_50 rfl rfl zk_i_1 rfl ?_
    refine zw_goto d124_53 ?_
    exact h
  · skip
    refine zw_iload_n (n := 57) d124_56 rfl rfl ?_
    refine zw_iload_n (n := 58) d124_57 rfl rfl ?_
    refine zw_isub (n := 59) d124_58 rfl ?_
    exact zw_iret d124_59 rfl ⟨_, rfl, h⟩

set_option maxRecDepth 20000 in
theorem zf125 (pc : Nat) : zt_code 125 pc = zt_fd zl_125 pc := rfl
theorem d125_0 : zt_code 125 0 = some (.iload_n 1, 0, 0, 0) := (zf125 0).trans rfl
theorem d125_1 : zt_code 125 1 = some (.invokestatic 164, 75, 1, -1) := (zf125 1).trans rfl
theorem d125_4 : zt_code 125 4 = some (.ifCond .eq (19), 0, 23, 0) := (zf125 4).trans rfl
theorem d125_7 : zt_code 125 7 = some (.iload_n 2, 0, 0, 0) := (zf125 7).trans rfl
theorem d125_8 : zt_code 125 8 = some (.iconst (-1), 0, 0, 0) := (zf125 8).trans rfl
theorem d125_9 : zt_code 125 9 = some (.if_icmp .eq (21), 0, 30, 0) := (zf125 9).trans rfl
theorem d125_12 : zt_code 125 12 = some (.aload_n 0, 0, 0, 0) := (zf125 12).trans rfl
theorem d125_13 : zt_code 125 13 = some (.getfield 12, 4, 0, 1) := (zf125 13).trans rfl
theorem d125_16 : zt_code 125 16 = some (.iload_n 2, 0, 0, 0) := (zf125 16).trans rfl
theorem d125_17 : zt_code 125 17 = some (.invokevirtual 102, 27, 2, 0) := (zf125 17).trans rfl
theorem d125_20 : zt_code 125 20 = some (.ifCond .ne (10), 0, 30, 0) := (zf125 20).trans rfl
theorem d125_23 : zt_code 125 23 = some (.aload_n 0, 0, 0, 0) := (zf125 23).trans rfl
theorem d125_24 : zt_code 125 24 = some (.bipush (-2), 0, 0, 0) := (zf125 24).trans rfl
theorem d125_26 : zt_code 125 26 = some (.invokevirtual 69, 10, 2, 4) := (zf125 26).trans rfl
theorem d125_29 : zt_code 125 29 = some (.ireturn, 0, 0, 0) := (zf125 29).trans rfl
theorem d125_30 : zt_code 125 30 = some (.aload_n 0, 0, 0, 0) := (zf125 30).trans rfl
theorem d125_31 : zt_code 125 31 = some (.iload_n 1, 0, 0, 0) := (zf125 31).trans rfl
theorem d125_32 : zt_code 125 32 = some (.invokevirtual 250, 126, 2, 4) := (zf125 32).trans rfl
theorem d125_35 : zt_code 125 35 = some (.pop, 0, 0, 0) := (zf125 35).trans rfl
theorem d125_36 : zt_code 125 36 = some (.iload_n 2, 0, 0, 0) := (zf125 36).trans rfl
theorem d125_37 : zt_code 125 37 = some (.iconst (-1), 0, 0, 0) := (zf125 37).trans rfl
theorem d125_38 : zt_code 125 38 = some (.if_icmp .ne (10), 0, 48, 0) := (zf125 38).trans rfl
theorem d125_41 : zt_code 125 41 = some (.aload_n 0, 0, 0, 0) := (zf125 41).trans rfl
theorem d125_42 : zt_code 125 42 = some (.invokevirtual 246, 124, 1, 4) := (zf125 42).trans rfl
theorem d125_45 : zt_code 125 45 = some (.goto (11), 0, 56, 0) := (zf125 45).trans rfl
theorem d125_48 : zt_code 125 48 = some (.aload_n 0, 0, 0, 0) := (zf125 48).trans rfl
theorem d125_49 : zt_code 125 49 = some (.getfield 53, 4, 11, 1) := (zf125 49).trans rfl
theorem d125_52 : zt_code 125 52 = some (.iload_n 2, 0, 0, 0) := (zf125 52).trans rfl
theorem d125_53 : zt_code 125 53 = some (.invokestatic 242, 11, 2, -1) := (zf125 53).trans rfl
theorem d125_56 : zt_code 125 56 = some (.ireturn, 0, 0, 0) := (zf125 56).trans rfl
/-- FirstAtTheFirst.game(II)I -/
theorem vc125 {X : zX} {S : zx_S} {C : zx_C} {q : Int32 → zx_C → Prop} {e : Nat} {a1 : Int32} {a2 : Int32} (hS : zs_4 S e) (h : zCd X 0 75 [.int a1] S C (zQi (fun r1 C1 => if (r1 : Int32) = 0 then (zCd X 1 10 [.ref e, .int (-2)] S C1 (zQi (fun r2 C2 => q r2 C2))) else (if (a2 : Int32) = (-1) then (zCd X 4 126 [.ref e, .int a1] S C1 (zQi (fun r3 C3 => if (a2 : Int32) = (-1) then (zCd X 1 124 [.ref e] S C3 (zQi (fun r4 C4 => q r4 C4))) else (zCd X 0 11 [.ref (e + 39), .int a2] S C3 (zQi (fun r5 C5 => q r5 C5)))))) else (zCd X 0 27 [.ref (e + 1), .int a2] S C1 (zQi (fun r6 C6 => if (r6 : Int32) = 0 then (zCd X 1 10 [.ref e, .int (-2)] S C6 (zQi (fun r7 C7 => q r7 C7))) else (zCd X 4 126 [.ref e, .int a1] S C6 (zQi (fun r8 C8 => if (a2 : Int32) = (-1) then (zCd X 1 124 [.ref e] S C8 (zQi (fun r9 C9 => q r9 C9))) else (zCd X 0 11 [.ref (e + 39), .int a2] S C8 (zQi (fun r10 C10 => q r10 C10))))))))))))) : zCd X 5 125 [.ref e, .int a1, .int a2] S C (zQi q) := by
  refine zc_in ml_125 rfl ?_
  refine zw_iload_n (n := 1) d125_0 rfl rfl ?_
  refine zw_cI (n := 4) d125_1 (zs_S rfl rfl rfl rfl) (by rw [ml_75]; rfl) (by decide) rfl (zc_mI h (fun r1 C1 h => ?_))
  refine zw_if_eq (n := 7) d125_4 rfl (zite h (fun h => ?_) (fun h => ?_))
  · skip
    refine zw_aload_n (n := 24) d125_23 rfl rfl ?_
    refine zw_bipush (n := 26) d125_24 rfl zk_b_m2 ?_
    refine zw_cI (n := 29) d125_26 (zs_V rfl rfl rfl rfl (by decide) (zj_4 hS).1 (zq_4 hS)) (by rw [ml_10]; rfl) (by decide) rfl (zc_mI h (fun r2 C2 h => ?_))
    exact zw_iret d125_29 rfl ⟨_, rfl, h⟩
  · skip
    refine zw_iload_n (n := 8) d125_7 rfl rfl ?_
    refine zw_iconst (n := 9) d125_8 rfl zk_i_m1 ?_
    refine zw_ic_eq (n := 12) d125_9 rfl (zite h (fun h => ?_) (fun h => ?_))
    · skip
      refine zw_aload_n (n := 31) d125_30 rfl rfl ?_
      refine zw_iload_n (n := 32) d125_31 rfl rfl ?_
      refine zw_cI (n := 35) d125_32 (zs_V rfl rfl rfl rfl (by decide) (zj_4 hS).1 (zq_4 hS)) (by rw [ml_126]; rfl) (by decide) rfl (zc_mI h (fun r3 C3 h => ?_))
      refine zw_pop (n := 36) d125_35 rfl rfl ?_
      refine zw_iload_n (n := 37) d125_36 rfl rfl ?_
      refine zw_iconst (n := 38) d125_37 rfl zk_i_m1 ?_
      refine zw_ic_ne (n := 41) d125_38 rfl (zite h (fun h => ?_) (fun h => ?_))
      · skip
        refine zw_aload_n (n := 42) d125_41 rfl rfl ?_
        refine zw_cI (n := 45) d125_42 (zs_V rfl rfl rfl rfl (by decide) (zj_4 hS).1 (zq_4 hS)) (by rw [ml_124]; rfl) (by decide) rfl (zc_mI h (fun r4 C4 h => ?_))
        refine zw_goto d125_45 ?_
        exact zw_iret d125_56 rfl ⟨_, rfl, h⟩
      · skip
        refine zw_aload_n (n := 49) d125_48 rfl rfl ?_
        refine zw_getr (n := 52) d125_49 rfl (zj_4 hS).1 (zj_4 hS).2 (zr_4_11 hS) ?_
        refine zw_iload_n (n := 53) d125_52 rfl rfl ?_
        refine zw_cI (n := 56) d125_53 (zs_S rfl rfl rfl rfl) (by rw [ml_11]; rfl) (by decide) rfl (zc_mI h (fun r5 C5 h => ?_))
        exact zw_iret d125_56 rfl ⟨_, rfl, h⟩
    · skip
      refine zw_aload_n (n := 13) d125_12 rfl rfl ?_
      refine zw_getr (n := 16) d125_13 rfl (zj_4 hS).1 (zj_4 hS).2 (zr_4_0 hS) ?_
      refine zw_iload_n (n := 17) d125_16 rfl rfl ?_
      refine zw_cI (n := 20) d125_17 (zs_V rfl rfl rfl rfl (by decide) (zj_0 (zo_4_0 hS)).1 (zq_0 (zo_4_0 hS))) (by rw [ml_27]; rfl) (by decide) rfl (zc_mI h (fun r6 C6 h => ?_))
      refine zw_if_ne (n := 23) d125_20 rfl (zite h (fun h => ?_) (fun h => ?_))
      · skip
        refine zw_aload_n (n := 24) d125_23 rfl rfl ?_
        refine zw_bipush (n := 26) d125_24 rfl zk_b_m2 ?_
        refine zw_cI (n := 29) d125_26 (zs_V rfl rfl rfl rfl (by decide) (zj_4 hS).1 (zq_4 hS)) (by rw [ml_10]; rfl) (by decide) rfl (zc_mI h (fun r7 C7 h => ?_))
        exact zw_iret d125_29 rfl ⟨_, rfl, h⟩
      · skip
        refine zw_aload_n (n := 31) d125_30 rfl rfl ?_
        refine zw_iload_n (n := 32) d125_31 rfl rfl ?_
        refine zw_cI (n := 35) d125_32 (zs_V rfl rfl rfl rfl (by decide) (zj_4 hS).1 (zq_4 hS)) (by rw [ml_126]; rfl) (by decide) rfl (zc_mI h (fun r8 C8 h => ?_))
        refine zw_pop (n := 36) d125_35 rfl rfl ?_
        refine zw_iload_n (n := 37) d125_36 rfl rfl ?_
        refine zw_iconst (n := 38) d125_37 rfl zk_i_m1 ?_
        refine zw_ic_ne (n := 41) d125_38 rfl (zite h (fun h => ?_) (fun h => ?_))
        · skip
          refine zw_aload_n (n := 42) d125_41 rfl rfl ?_
          refine zw_cI (n := 45) d125_42 (zs_V rfl rfl rfl rfl (by decide) (zj_4 hS).1 (zq_4 hS)) (by rw [ml_124]; rfl) (by decide) rfl (zc_mI h (fun r9 C9 h => ?_))
          refine zw_goto d125_45 ?_
          exact zw_iret d125_56 rfl ⟨_, rfl, h⟩
        · skip
          refine zw_aload_n (n := 49) d125_48 rfl rfl ?_
          refine zw_getr (n := 52) d125_49 rfl (zj_4 hS).1 (zj_4 hS).2 (zr_4_11 hS) ?_
          refine zw_iload_n (n := 53) d125_52 rfl rfl ?_
          refine zw_cI (n := 56) d125_53 (zs_S rfl rfl rfl rfl) (by rw [ml_11]; rfl) (by decide) rfl (zc_mI h (fun r10 C10 h => ?_))
          exact zw_iret d125_56 rfl ⟨_, rfl, h⟩

set_option maxRecDepth 20000 in
theorem zf126 (pc : Nat) : zt_code 126 pc = zt_fd zl_126 pc := rfl
theorem d126_0 : zt_code 126 0 = some (.aload_n 0, 0, 0, 0) := (zf126 0).trans rfl
theorem d126_1 : zt_code 126 1 = some (.getfield 43, 4, 7, 1) := (zf126 1).trans rfl
theorem d126_4 : zt_code 126 4 = some (.aload_n 0, 0, 0, 0) := (zf126 4).trans rfl
theorem d126_5 : zt_code 126 5 = some (.getfield 12, 4, 0, 1) := (zf126 5).trans rfl
theorem d126_8 : zt_code 126 8 = some (.invokevirtual 258, 38, 2, 1) := (zf126 8).trans rfl
theorem d126_11 : zt_code 126 11 = some (.aload_n 0, 0, 0, 0) := (zf126 11).trans rfl
theorem d126_12 : zt_code 126 12 = some (.getfield 43, 4, 7, 1) := (zf126 12).trans rfl
theorem d126_15 : zt_code 126 15 = some (.aload_n 0, 0, 0, 0) := (zf126 15).trans rfl
theorem d126_16 : zt_code 126 16 = some (.getfield 12, 4, 0, 1) := (zf126 16).trans rfl
theorem d126_19 : zt_code 126 19 = some (.iload_n 1, 0, 0, 0) := (zf126 19).trans rfl
theorem d126_20 : zt_code 126 20 = some (.invokevirtual 227, 45, 3, 1) := (zf126 20).trans rfl
theorem d126_23 : zt_code 126 23 = some (.aload_n 0, 0, 0, 0) := (zf126 23).trans rfl
theorem d126_24 : zt_code 126 24 = some (.getfield 43, 4, 7, 1) := (zf126 24).trans rfl
theorem d126_27 : zt_code 126 27 = some (.invokevirtual 323, 127, 1, 1) := (zf126 27).trans rfl
theorem d126_30 : zt_code 126 30 = some (.istore_n 2, 0, 0, 0) := (zf126 30).trans rfl
theorem d126_31 : zt_code 126 31 = some (.iconst (0), 0, 0, 0) := (zf126 31).trans rfl
theorem d126_32 : zt_code 126 32 = some (.istore_n 3, 0, 0, 0) := (zf126 32).trans rfl
theorem d126_33 : zt_code 126 33 = some (.iload_n 3, 0, 0, 0) := (zf126 33).trans rfl
theorem d126_34 : zt_code 126 34 = some (.iconst (3), 0, 0, 0) := (zf126 34).trans rfl
theorem d126_35 : zt_code 126 35 = some (.if_icmp .ge (41), 0, 76, 0) := (zf126 35).trans rfl
theorem d126_38 : zt_code 126 38 = some (.aload_n 0, 0, 0, 0) := (zf126 38).trans rfl
theorem d126_39 : zt_code 126 39 = some (.getfield 53, 4, 11, 1) := (zf126 39).trans rfl
theorem d126_42 : zt_code 126 42 = some (.iload_n 3, 0, 0, 0) := (zf126 42).trans rfl
theorem d126_43 : zt_code 126 43 = some (.aload_n 0, 0, 0, 0) := (zf126 43).trans rfl
theorem d126_44 : zt_code 126 44 = some (.getfield 43, 4, 7, 1) := (zf126 44).trans rfl
theorem d126_47 : zt_code 126 47 = some (.iload_n 3, 0, 0, 0) := (zf126 47).trans rfl
theorem d126_48 : zt_code 126 48 = some (.invokevirtual 315, 121, 2, 1) := (zf126 48).trans rfl
theorem d126_51 : zt_code 126 51 = some (.aload_n 0, 0, 0, 0) := (zf126 51).trans rfl
theorem d126_52 : zt_code 126 52 = some (.getfield 43, 4, 7, 1) := (zf126 52).trans rfl
theorem d126_55 : zt_code 126 55 = some (.iload_n 3, 0, 0, 0) := (zf126 55).trans rfl
theorem d126_56 : zt_code 126 56 = some (.aload_n 0, 0, 0, 0) := (zf126 56).trans rfl
theorem d126_57 : zt_code 126 57 = some (.getfield 43, 4, 7, 1) := (zf126 57).trans rfl
theorem d126_60 : zt_code 126 60 = some (.getfield 273, 1, 5, 0) := (zf126 60).trans rfl
theorem d126_63 : zt_code 126 63 = some (.invokevirtual 326, 66, 3, 1) := (zf126 63).trans rfl
theorem d126_66 : zt_code 126 66 = some (.iadd, 0, 0, 0) := (zf126 66).trans rfl
theorem d126_67 : zt_code 126 67 = some (.invokestatic 157, 12, 3, -1) := (zf126 67).trans rfl
theorem d126_70 : zt_code 126 70 = some (.iinc 3 (1), 0, 0, 0) := (zf126 70).trans rfl
theorem d126_73 : zt_code 126 73 = some (.goto (-40), 0, 33, 0) := (zf126 73).trans rfl
theorem d126_76 : zt_code 126 76 = some (.iload_n 2, 0, 0, 0) := (zf126 76).trans rfl
theorem d126_77 : zt_code 126 77 = some (.ireturn, 0, 0, 0) := (zf126 77).trans rfl
/-- FirstAtTheFirst.playGame(I)I -/
theorem vc126 {X : zX} {S : zx_S} {C : zx_C} {q : Int32 → zx_C → Prop} {e : Nat} {a1 : Int32} (hS : zs_4 S e) (h : zCd X 3 38 [.ref (e + 24), .ref (e + 1)] S C (zQv (fun C1 => zCd X 2 45 [.ref (e + 24), .ref (e + 1), .int a1] S C1 (zQv (fun C2 => zCd X 3 127 [.ref (e + 24)] S C2 (zQi (fun r3 C3 => zW X 4 126 33 [.ref e, .int a1, .int r3, .int 0] [] S C3 (zQi q)))))))) : zCd X 4 126 [.ref e, .int a1] S C (zQi q) := by
  refine zc_in ml_126 rfl ?_
  refine zw_aload_n (n := 1) d126_0 rfl rfl ?_
  refine zw_getr (n := 4) d126_1 rfl (zj_4 hS).1 (zj_4 hS).2 (zr_4_7 hS) ?_
  refine zw_aload_n (n := 5) d126_4 rfl rfl ?_
  refine zw_getr (n := 8) d126_5 rfl (zj_4 hS).1 (zj_4 hS).2 (zr_4_0 hS) ?_
  refine zw_cV (n := 11) d126_8 (zs_V rfl rfl rfl rfl (by decide) (zj_1 (zo_4_7 hS)).1 (zq_1 (zo_4_7 hS))) (by rw [ml_38]; rfl) (by decide) rfl (zc_mV h (fun C1 h => ?_))
  refine zw_aload_n (n := 12) d126_11 rfl rfl ?_
  refine zw_getr (n := 15) d126_12 rfl (zj_4 hS).1 (zj_4 hS).2 (zr_4_7 hS) ?_
  refine zw_aload_n (n := 16) d126_15 rfl rfl ?_
  refine zw_getr (n := 19) d126_16 rfl (zj_4 hS).1 (zj_4 hS).2 (zr_4_0 hS) ?_
  refine zw_iload_n (n := 20) d126_19 rfl rfl ?_
  refine zw_cV (n := 23) d126_20 (zs_V rfl rfl rfl rfl (by decide) (zj_1 (zo_4_7 hS)).1 (zq_1 (zo_4_7 hS))) (by rw [ml_45]; rfl) (by decide) rfl (zc_mV h (fun C2 h => ?_))
  refine zw_aload_n (n := 24) d126_23 rfl rfl ?_
  refine zw_getr (n := 27) d126_24 rfl (zj_4 hS).1 (zj_4 hS).2 (zr_4_7 hS) ?_
  refine zw_cI (n := 30) d126_27 (zs_V rfl rfl rfl rfl (by decide) (zj_1 (zo_4_7 hS)).1 (zq_1 (zo_4_7 hS))) (by rw [ml_127]; rfl) (by decide) rfl (zc_mI h (fun r3 C3 h => ?_))
  refine zw_istore_n (n := 31) d126_30 rfl rfl rfl ?_
  refine zw_iconst (n := 32) d126_31 rfl zk_i_0 ?_
  refine zw_istore_n (n := 33) d126_32 rfl rfl rfl ?_
  exact h
theorem vc126_33 {X : zX} {S : zx_S} {C : zx_C} {q : Int32 → zx_C → Prop} {e : Nat} {a1 : Int32} {z1 : Value} {i2 : Int32} {i3 : Int32} (hS : zs_4 S e) (h : if (i3 : Int32) < 3 then (zCd X 1 121 [.ref (e + 24), .int i3] S C (zQi (fun r1 C1 => zCd X 0 66 [.ref (e + 24), .int i3, .int (C1.1 (e + 24) 5)] S C1 (zQi (fun r2 C2 => zCd X 0 12 [.ref (e + 39), .int i3, .int (r1 + r2)] S C2 (zQv (fun C3 => zW X 4 126 33 [.ref e, z1, .int i2, .int (i3 + 1)] [] S C3 (zQi q)))))))) else (q i2 C)) : zW X 4 126 33 [.ref e, z1, .int i2, .int i3] [] S C (zQi q) := by
  refine zw_iload_n (n := 34) d126_33 rfl rfl ?_
  refine zw_iconst (n := 35) d126_34 rfl zk_i_3 ?_
  refine zw_ic_ge (n := 38) d126_35 rfl (zite h (fun h => ?_) (fun h => ?_))
  · skip
    refine zw_aload_n (n := 39) d126_38 rfl rfl ?_
    refine zw_getr (n := 42) d126_39 rfl (zj_4 hS).1 (zj_4 hS).2 (zr_4_11 hS) ?_
    refine zw_iload_n (n := 43) d126_42 rfl rfl ?_
    refine zw_aload_n (n := 44) d126_43 rfl rfl ?_
    refine zw_getr (n := 47) d126_44 rfl (zj_4 hS).1 (zj_4 hS).2 (zr_4_7 hS) ?_
    refine zw_iload_n (n := 48) d126_47 rfl rfl ?_
    refine zw_cI (n := 51) d126_48 (zs_V rfl rfl rfl rfl (by decide) (zj_1 (zo_4_7 hS)).1 (zq_1 (zo_4_7 hS))) (by rw [ml_121]; rfl) (by decide) rfl (zc_mI h (fun r1 C1 h => ?_))
    refine zw_aload_n (n := 52) d126_51 rfl rfl ?_
    refine zw_getr (n := 55) d126_52 rfl (zj_4 hS).1 (zj_4 hS).2 (zr_4_7 hS) ?_
    refine zw_iload_n (n := 56) d126_55 rfl rfl ?_
    refine zw_aload_n (n := 57) d126_56 rfl rfl ?_
    refine zw_getr (n := 60) d126_57 rfl (zj_4 hS).1 (zj_4 hS).2 (zr_4_7 hS) ?_
    refine zw_geti (n := 63) d126_60 rfl (zj_1 (zo_4_7 hS)).1 (zj_1 (zo_4_7 hS)).2 ?_
    refine zw_cI (n := 66) d126_63 (zs_V rfl rfl rfl rfl (by decide) (zj_1 (zo_4_7 hS)).1 (zq_1 (zo_4_7 hS))) (by rw [ml_66]; rfl) (by decide) rfl (zc_mI h (fun r2 C2 h => ?_))
    refine zw_iadd (n := 67) d126_66 rfl ?_
    refine zw_cV (n := 70) d126_67 (zs_S rfl rfl rfl rfl) (by rw [ml_12]; rfl) (by decide) rfl (zc_mV h (fun C3 h => ?_))
    refine zw_iinc (n := 73) d126_70 rfl rfl zk_i_1 rfl ?_
    refine zw_goto d126_73 ?_
    exact h
  · skip
    refine zw_iload_n (n := 77) d126_76 rfl rfl ?_
    exact zw_iret d126_77 rfl ⟨_, rfl, h⟩

set_option maxRecDepth 20000 in
theorem zf128 (pc : Nat) : zt_code 128 pc = zt_fd zl_128 pc := rfl
theorem d128_0 : zt_code 128 0 = some (.iload_n 1, 0, 0, 0) := (zf128 0).trans rfl
theorem d128_1 : zt_code 128 1 = some (.invokestatic 164, 75, 1, -1) := (zf128 1).trans rfl
theorem d128_4 : zt_code 128 4 = some (.ifCond .ne (10), 0, 14, 0) := (zf128 4).trans rfl
theorem d128_7 : zt_code 128 7 = some (.aload_n 0, 0, 0, 0) := (zf128 7).trans rfl
theorem d128_8 : zt_code 128 8 = some (.bipush (-2), 0, 0, 0) := (zf128 8).trans rfl
theorem d128_10 : zt_code 128 10 = some (.invokevirtual 69, 10, 2, 4) := (zf128 10).trans rfl
theorem d128_13 : zt_code 128 13 = some (.ireturn, 0, 0, 0) := (zf128 13).trans rfl
theorem d128_14 : zt_code 128 14 = some (.aload_n 0, 0, 0, 0) := (zf128 14).trans rfl
theorem d128_15 : zt_code 128 15 = some (.getfield 12, 4, 0, 1) := (zf128 15).trans rfl
theorem d128_18 : zt_code 128 18 = some (.iconst (-1), 0, 0, 0) := (zf128 18).trans rfl
theorem d128_19 : zt_code 128 19 = some (.invokevirtual 210, 43, 2, 0) := (zf128 19).trans rfl
theorem d128_22 : zt_code 128 22 = some (.ifCond .ne (10), 0, 32, 0) := (zf128 22).trans rfl
theorem d128_25 : zt_code 128 25 = some (.aload_n 0, 0, 0, 0) := (zf128 25).trans rfl
theorem d128_26 : zt_code 128 26 = some (.bipush (-5), 0, 0, 0) := (zf128 26).trans rfl
theorem d128_28 : zt_code 128 28 = some (.invokevirtual 69, 10, 2, 4) := (zf128 28).trans rfl
theorem d128_31 : zt_code 128 31 = some (.ireturn, 0, 0, 0) := (zf128 31).trans rfl
theorem d128_32 : zt_code 128 32 = some (.aload_n 0, 0, 0, 0) := (zf128 32).trans rfl
theorem d128_33 : zt_code 128 33 = some (.iload_n 1, 0, 0, 0) := (zf128 33).trans rfl
theorem d128_34 : zt_code 128 34 = some (.invokevirtual 250, 126, 2, 4) := (zf128 34).trans rfl
theorem d128_37 : zt_code 128 37 = some (.ireturn, 0, 0, 0) := (zf128 37).trans rfl
/-- FirstAtTheFirst.opening(I)I -/
theorem vc128 {X : zX} {S : zx_S} {C : zx_C} {q : Int32 → zx_C → Prop} {e : Nat} {a1 : Int32} (hS : zs_4 S e) (h : zCd X 0 75 [.int a1] S C (zQi (fun r1 C1 => if (r1 : Int32) = 0 then (zCd X 1 10 [.ref e, .int (-2)] S C1 (zQi (fun r2 C2 => q r2 C2))) else (zCd X 1 43 [.ref (e + 1), .int (-1)] S C1 (zQi (fun r3 C3 => if (r3 : Int32) = 0 then (zCd X 1 10 [.ref e, .int (-5)] S C3 (zQi (fun r4 C4 => q r4 C4))) else (zCd X 4 126 [.ref e, .int a1] S C3 (zQi (fun r5 C5 => q r5 C5))))))))) : zCd X 5 128 [.ref e, .int a1] S C (zQi q) := by
  refine zc_in ml_128 rfl ?_
  refine zw_iload_n (n := 1) d128_0 rfl rfl ?_
  refine zw_cI (n := 4) d128_1 (zs_S rfl rfl rfl rfl) (by rw [ml_75]; rfl) (by decide) rfl (zc_mI h (fun r1 C1 h => ?_))
  refine zw_if_ne (n := 7) d128_4 rfl (zite h (fun h => ?_) (fun h => ?_))
  · skip
    refine zw_aload_n (n := 8) d128_7 rfl rfl ?_
    refine zw_bipush (n := 10) d128_8 rfl zk_b_m2 ?_
    refine zw_cI (n := 13) d128_10 (zs_V rfl rfl rfl rfl (by decide) (zj_4 hS).1 (zq_4 hS)) (by rw [ml_10]; rfl) (by decide) rfl (zc_mI h (fun r2 C2 h => ?_))
    exact zw_iret d128_13 rfl ⟨_, rfl, h⟩
  · skip
    refine zw_aload_n (n := 15) d128_14 rfl rfl ?_
    refine zw_getr (n := 18) d128_15 rfl (zj_4 hS).1 (zj_4 hS).2 (zr_4_0 hS) ?_
    refine zw_iconst (n := 19) d128_18 rfl zk_i_m1 ?_
    refine zw_cI (n := 22) d128_19 (zs_V rfl rfl rfl rfl (by decide) (zj_0 (zo_4_0 hS)).1 (zq_0 (zo_4_0 hS))) (by rw [ml_43]; rfl) (by decide) rfl (zc_mI h (fun r3 C3 h => ?_))
    refine zw_if_ne (n := 25) d128_22 rfl (zite h (fun h => ?_) (fun h => ?_))
    · skip
      refine zw_aload_n (n := 26) d128_25 rfl rfl ?_
      refine zw_bipush (n := 28) d128_26 rfl zk_b_m5 ?_
      refine zw_cI (n := 31) d128_28 (zs_V rfl rfl rfl rfl (by decide) (zj_4 hS).1 (zq_4 hS)) (by rw [ml_10]; rfl) (by decide) rfl (zc_mI h (fun r4 C4 h => ?_))
      exact zw_iret d128_31 rfl ⟨_, rfl, h⟩
    · skip
      refine zw_aload_n (n := 33) d128_32 rfl rfl ?_
      refine zw_iload_n (n := 34) d128_33 rfl rfl ?_
      refine zw_cI (n := 37) d128_34 (zs_V rfl rfl rfl rfl (by decide) (zj_4 hS).1 (zq_4 hS)) (by rw [ml_126]; rfl) (by decide) rfl (zc_mI h (fun r5 C5 h => ?_))
      exact zw_iret d128_37 rfl ⟨_, rfl, h⟩

set_option maxRecDepth 20000 in
theorem zf129 (pc : Nat) : zt_code 129 pc = zt_fd zl_129 pc := rfl
theorem d129_0 : zt_code 129 0 = some (.iload_n 1, 0, 0, 0) := (zf129 0).trans rfl
theorem d129_1 : zt_code 129 1 = some (.iconst (-1), 0, 0, 0) := (zf129 1).trans rfl
theorem d129_2 : zt_code 129 2 = some (.if_icmp .ge (10), 0, 12, 0) := (zf129 2).trans rfl
theorem d129_5 : zt_code 129 5 = some (.aload_n 0, 0, 0, 0) := (zf129 5).trans rfl
theorem d129_6 : zt_code 129 6 = some (.bipush (-2), 0, 0, 0) := (zf129 6).trans rfl
theorem d129_8 : zt_code 129 8 = some (.invokevirtual 69, 10, 2, 4) := (zf129 8).trans rfl
theorem d129_11 : zt_code 129 11 = some (.ireturn, 0, 0, 0) := (zf129 11).trans rfl
theorem d129_12 : zt_code 129 12 = some (.aload_n 0, 0, 0, 0) := (zf129 12).trans rfl
theorem d129_13 : zt_code 129 13 = some (.getfield 12, 4, 0, 1) := (zf129 13).trans rfl
theorem d129_16 : zt_code 129 16 = some (.iconst (-1), 0, 0, 0) := (zf129 16).trans rfl
theorem d129_17 : zt_code 129 17 = some (.invokevirtual 210, 43, 2, 0) := (zf129 17).trans rfl
theorem d129_20 : zt_code 129 20 = some (.invokestatic 234, 44, 1, -1) := (zf129 20).trans rfl
theorem d129_23 : zt_code 129 23 = some (.istore_n 2, 0, 0, 0) := (zf129 23).trans rfl
theorem d129_24 : zt_code 129 24 = some (.iload_n 1, 0, 0, 0) := (zf129 24).trans rfl
theorem d129_25 : zt_code 129 25 = some (.iload_n 2, 0, 0, 0) := (zf129 25).trans rfl
theorem d129_26 : zt_code 129 26 = some (.if_icmp .lt (10), 0, 36, 0) := (zf129 26).trans rfl
theorem d129_29 : zt_code 129 29 = some (.aload_n 0, 0, 0, 0) := (zf129 29).trans rfl
theorem d129_30 : zt_code 129 30 = some (.bipush (-5), 0, 0, 0) := (zf129 30).trans rfl
theorem d129_32 : zt_code 129 32 = some (.invokevirtual 69, 10, 2, 4) := (zf129 32).trans rfl
theorem d129_35 : zt_code 129 35 = some (.ireturn, 0, 0, 0) := (zf129 35).trans rfl
theorem d129_36 : zt_code 129 36 = some (.aload_n 0, 0, 0, 0) := (zf129 36).trans rfl
theorem d129_37 : zt_code 129 37 = some (.iload_n 2, 0, 0, 0) := (zf129 37).trans rfl
theorem d129_38 : zt_code 129 38 = some (.invokevirtual 253, 130, 2, 4) := (zf129 38).trans rfl
theorem d129_41 : zt_code 129 41 = some (.istore_n 3, 0, 0, 0) := (zf129 41).trans rfl
theorem d129_42 : zt_code 129 42 = some (.iload_n 1, 0, 0, 0) := (zf129 42).trans rfl
theorem d129_43 : zt_code 129 43 = some (.iconst (-1), 0, 0, 0) := (zf129 43).trans rfl
theorem d129_44 : zt_code 129 44 = some (.if_icmp .ne (7), 0, 51, 0) := (zf129 44).trans rfl
theorem d129_47 : zt_code 129 47 = some (.iload_n 3, 0, 0, 0) := (zf129 47).trans rfl
theorem d129_48 : zt_code 129 48 = some (.goto (11), 0, 59, 0) := (zf129 48).trans rfl
theorem d129_51 : zt_code 129 51 = some (.aload_n 0, 0, 0, 0) := (zf129 51).trans rfl
theorem d129_52 : zt_code 129 52 = some (.getfield 59, 4, 13, 1) := (zf129 52).trans rfl
theorem d129_55 : zt_code 129 55 = some (.iload_n 1, 0, 0, 0) := (zf129 55).trans rfl
theorem d129_56 : zt_code 129 56 = some (.invokestatic 242, 11, 2, -1) := (zf129 56).trans rfl
theorem d129_59 : zt_code 129 59 = some (.ireturn, 0, 0, 0) := (zf129 59).trans rfl
/-- FirstAtTheFirst.fairest(I)I -/
theorem vc129 {X : zX} {S : zx_S} {C : zx_C} {q : Int32 → zx_C → Prop} {e : Nat} {a1 : Int32} (hS : zs_4 S e) (h : if (a1 : Int32) < (-1) then (zCd X 1 10 [.ref e, .int (-2)] S C (zQi (fun r1 C1 => q r1 C1))) else (zCd X 1 43 [.ref (e + 1), .int (-1)] S C (zQi (fun r2 C2 => zCd X 0 44 [.int r2] S C2 (zQi (fun r3 C3 => if (a1 : Int32) < r3 then (zCd X 6 130 [.ref e, .int r3] S C3 (zQi (fun r4 C4 => if (a1 : Int32) = (-1) then (q r4 C4) else (zCd X 0 11 [.ref (e + 41), .int a1] S C4 (zQi (fun r5 C5 => q r5 C5)))))) else (zCd X 1 10 [.ref e, .int (-5)] S C3 (zQi (fun r6 C6 => q r6 C6))))))))) : zCd X 7 129 [.ref e, .int a1] S C (zQi q) := by
  refine zc_in ml_129 rfl ?_
  refine zw_iload_n (n := 1) d129_0 rfl rfl ?_
  refine zw_iconst (n := 2) d129_1 rfl zk_i_m1 ?_
  refine zw_ic_ge (n := 5) d129_2 rfl (zite h (fun h => ?_) (fun h => ?_))
  · skip
    refine zw_aload_n (n := 6) d129_5 rfl rfl ?_
    refine zw_bipush (n := 8) d129_6 rfl zk_b_m2 ?_
    refine zw_cI (n := 11) d129_8 (zs_V rfl rfl rfl rfl (by decide) (zj_4 hS).1 (zq_4 hS)) (by rw [ml_10]; rfl) (by decide) rfl (zc_mI h (fun r1 C1 h => ?_))
    exact zw_iret d129_11 rfl ⟨_, rfl, h⟩
  · skip
    refine zw_aload_n (n := 13) d129_12 rfl rfl ?_
    refine zw_getr (n := 16) d129_13 rfl (zj_4 hS).1 (zj_4 hS).2 (zr_4_0 hS) ?_
    refine zw_iconst (n := 17) d129_16 rfl zk_i_m1 ?_
    refine zw_cI (n := 20) d129_17 (zs_V rfl rfl rfl rfl (by decide) (zj_0 (zo_4_0 hS)).1 (zq_0 (zo_4_0 hS))) (by rw [ml_43]; rfl) (by decide) rfl (zc_mI h (fun r2 C2 h => ?_))
    refine zw_cI (n := 23) d129_20 (zs_S rfl rfl rfl rfl) (by rw [ml_44]; rfl) (by decide) rfl (zc_mI h (fun r3 C3 h => ?_))
    refine zw_istore_n (n := 24) d129_23 rfl rfl rfl ?_
    refine zw_iload_n (n := 25) d129_24 rfl rfl ?_
    refine zw_iload_n (n := 26) d129_25 rfl rfl ?_
    refine zw_ic_lt (n := 29) d129_26 rfl (zite h (fun h => ?_) (fun h => ?_))
    · skip
      refine zw_aload_n (n := 37) d129_36 rfl rfl ?_
      refine zw_iload_n (n := 38) d129_37 rfl rfl ?_
      refine zw_cI (n := 41) d129_38 (zs_V rfl rfl rfl rfl (by decide) (zj_4 hS).1 (zq_4 hS)) (by rw [ml_130]; rfl) (by decide) rfl (zc_mI h (fun r4 C4 h => ?_))
      refine zw_istore_n (n := 42) d129_41 rfl rfl rfl ?_
      refine zw_iload_n (n := 43) d129_42 rfl rfl ?_
      refine zw_iconst (n := 44) d129_43 rfl zk_i_m1 ?_
      refine zw_ic_ne (n := 47) d129_44 rfl (zite h (fun h => ?_) (fun h => ?_))
      · skip
        refine zw_iload_n (n := 48) d129_47 rfl rfl ?_
        refine zw_goto d129_48 ?_
        exact zw_iret d129_59 rfl ⟨_, rfl, h⟩
      · skip
        refine zw_aload_n (n := 52) d129_51 rfl rfl ?_
        refine zw_getr (n := 55) d129_52 rfl (zj_4 hS).1 (zj_4 hS).2 (zr_4_13 hS) ?_
        refine zw_iload_n (n := 56) d129_55 rfl rfl ?_
        refine zw_cI (n := 59) d129_56 (zs_S rfl rfl rfl rfl) (by rw [ml_11]; rfl) (by decide) rfl (zc_mI h (fun r5 C5 h => ?_))
        exact zw_iret d129_59 rfl ⟨_, rfl, h⟩
    · skip
      refine zw_aload_n (n := 30) d129_29 rfl rfl ?_
      refine zw_bipush (n := 32) d129_30 rfl zk_b_m5 ?_
      refine zw_cI (n := 35) d129_32 (zs_V rfl rfl rfl rfl (by decide) (zj_4 hS).1 (zq_4 hS)) (by rw [ml_10]; rfl) (by decide) rfl (zc_mI h (fun r6 C6 h => ?_))
      exact zw_iret d129_35 rfl ⟨_, rfl, h⟩

set_option maxRecDepth 20000 in
theorem zf130 (pc : Nat) : zt_code 130 pc = zt_fd zl_130 pc := rfl
theorem d130_0 : zt_code 130 0 = some (.aload_n 0, 0, 0, 0) := (zf130 0).trans rfl
theorem d130_1 : zt_code 130 1 = some (.getfield 43, 4, 7, 1) := (zf130 1).trans rfl
theorem d130_4 : zt_code 130 4 = some (.aload_n 0, 0, 0, 0) := (zf130 4).trans rfl
theorem d130_5 : zt_code 130 5 = some (.getfield 12, 4, 0, 1) := (zf130 5).trans rfl
theorem d130_8 : zt_code 130 8 = some (.invokevirtual 258, 38, 2, 1) := (zf130 8).trans rfl
theorem d130_11 : zt_code 130 11 = some (.aload_n 0, 0, 0, 0) := (zf130 11).trans rfl
theorem d130_12 : zt_code 130 12 = some (.getfield 43, 4, 7, 1) := (zf130 12).trans rfl
theorem d130_15 : zt_code 130 15 = some (.invokevirtual 329, 49, 1, 1) := (zf130 15).trans rfl
theorem d130_18 : zt_code 130 18 = some (.aload_n 0, 0, 0, 0) := (zf130 18).trans rfl
theorem d130_19 : zt_code 130 19 = some (.getfield 12, 4, 0, 1) := (zf130 19).trans rfl
theorem d130_22 : zt_code 130 22 = some (.getfield 136, 0, 0, 0) := (zf130 22).trans rfl
theorem d130_25 : zt_code 130 25 = some (.i2l, 0, 0, 0) := (zf130 25).trans rfl
theorem d130_26 : zt_code 130 26 = some (.iload_n 1, 0, 0, 0) := (zf130 26).trans rfl
theorem d130_27 : zt_code 130 27 = some (.invokestatic 223, 115, 2, -1) := (zf130 27).trans rfl
theorem d130_30 : zt_code 130 30 = some (.lstore_n 2, 0, 0, 0) := (zf130 30).trans rfl
theorem d130_31 : zt_code 130 31 = some (.ldc_w 256, 0, 0, 1000000) := (zf130 31).trans rfl
theorem d130_34 : zt_code 130 34 = some (.istore 4, 0, 0, 0) := (zf130 34).trans rfl
theorem d130_36 : zt_code 130 36 = some (.iconst (0), 0, 0, 0) := (zf130 36).trans rfl
theorem d130_37 : zt_code 130 37 = some (.istore 5, 0, 0, 0) := (zf130 37).trans rfl
theorem d130_39 : zt_code 130 39 = some (.iload 5, 0, 0, 0) := (zf130 39).trans rfl
theorem d130_41 : zt_code 130 41 = some (.i2l, 0, 0, 0) := (zf130 41).trans rfl
theorem d130_42 : zt_code 130 42 = some (.lload_n 2, 0, 0, 0) := (zf130 42).trans rfl
theorem d130_43 : zt_code 130 43 = some (.lcmp, 0, 0, 0) := (zf130 43).trans rfl
theorem d130_44 : zt_code 130 44 = some (.ifCond .ge (113), 0, 157, 0) := (zf130 44).trans rfl
theorem d130_47 : zt_code 130 47 = some (.aload_n 0, 0, 0, 0) := (zf130 47).trans rfl
theorem d130_48 : zt_code 130 48 = some (.iload 5, 0, 0, 0) := (zf130 48).trans rfl
theorem d130_50 : zt_code 130 50 = some (.iload_n 1, 0, 0, 0) := (zf130 50).trans rfl
theorem d130_51 : zt_code 130 51 = some (.invokevirtual 332, 131, 3, 4) := (zf130 51).trans rfl
theorem d130_54 : zt_code 130 54 = some (.ifCond .eq (97), 0, 151, 0) := (zf130 54).trans rfl
theorem d130_57 : zt_code 130 57 = some (.iload 4, 0, 0, 0) := (zf130 57).trans rfl
theorem d130_59 : zt_code 130 59 = some (.ifCond .ne (21), 0, 80, 0) := (zf130 59).trans rfl
theorem d130_62 : zt_code 130 62 = some (.aload_n 0, 0, 0, 0) := (zf130 62).trans rfl
theorem d130_63 : zt_code 130 63 = some (.getfield 56, 4, 12, 1) := (zf130 63).trans rfl
theorem d130_66 : zt_code 130 66 = some (.aload_n 0, 0, 0, 0) := (zf130 66).trans rfl
theorem d130_67 : zt_code 130 67 = some (.getfield 59, 4, 13, 1) := (zf130 67).trans rfl
theorem d130_70 : zt_code 130 70 = some (.iload_n 1, 0, 0, 0) := (zf130 70).trans rfl
theorem d130_71 : zt_code 130 71 = some (.invokestatic 335, 256, 3, -1) := (zf130 71).trans rfl
theorem d130_74 : zt_code 130 74 = some (.ifCond .ne (6), 0, 80, 0) := (zf130 74).trans rfl
theorem d130_77 : zt_code 130 77 = some (.goto (74), 0, 151, 0) := (zf130 77).trans rfl
theorem d130_80 : zt_code 130 80 = some (.aload_n 0, 0, 0, 0) := (zf130 80).trans rfl
theorem d130_81 : zt_code 130 81 = some (.getfield 43, 4, 7, 1) := (zf130 81).trans rfl
theorem d130_84 : zt_code 130 84 = some (.aload_n 0, 0, 0, 0) := (zf130 84).trans rfl
theorem d130_85 : zt_code 130 85 = some (.getfield 56, 4, 12, 1) := (zf130 85).trans rfl
theorem d130_88 : zt_code 130 88 = some (.iload_n 1, 0, 0, 0) := (zf130 88).trans rfl
theorem d130_89 : zt_code 130 89 = some (.invokevirtual 339, 132, 3, 1) := (zf130 89).trans rfl
theorem d130_92 : zt_code 130 92 = some (.aload_n 0, 0, 0, 0) := (zf130 92).trans rfl
theorem d130_93 : zt_code 130 93 = some (.aload_n 0, 0, 0, 0) := (zf130 93).trans rfl
theorem d130_94 : zt_code 130 94 = some (.getfield 43, 4, 7, 1) := (zf130 94).trans rfl
theorem d130_97 : zt_code 130 97 = some (.iconst (-1), 0, 0, 0) := (zf130 97).trans rfl
theorem d130_98 : zt_code 130 98 = some (.invokevirtual 262, 120, 3, 4) := (zf130 98).trans rfl
theorem d130_101 : zt_code 130 101 = some (.aload_n 0, 0, 0, 0) := (zf130 101).trans rfl
theorem d130_102 : zt_code 130 102 = some (.invokevirtual 246, 124, 1, 4) := (zf130 102).trans rfl
theorem d130_105 : zt_code 130 105 = some (.istore 6, 0, 0, 0) := (zf130 105).trans rfl
theorem d130_107 : zt_code 130 107 = some (.iload 6, 0, 0, 0) := (zf130 107).trans rfl
theorem d130_109 : zt_code 130 109 = some (.iload 4, 0, 0, 0) := (zf130 109).trans rfl
theorem d130_111 : zt_code 130 111 = some (.if_icmp .lt (25), 0, 136, 0) := (zf130 111).trans rfl
theorem d130_114 : zt_code 130 114 = some (.iload 6, 0, 0, 0) := (zf130 114).trans rfl
theorem d130_116 : zt_code 130 116 = some (.iload 4, 0, 0, 0) := (zf130 116).trans rfl
theorem d130_118 : zt_code 130 118 = some (.if_icmp .ne (33), 0, 151, 0) := (zf130 118).trans rfl
theorem d130_121 : zt_code 130 121 = some (.aload_n 0, 0, 0, 0) := (zf130 121).trans rfl
theorem d130_122 : zt_code 130 122 = some (.getfield 56, 4, 12, 1) := (zf130 122).trans rfl
theorem d130_125 : zt_code 130 125 = some (.aload_n 0, 0, 0, 0) := (zf130 125).trans rfl
theorem d130_126 : zt_code 130 126 = some (.getfield 59, 4, 13, 1) := (zf130 126).trans rfl
theorem d130_129 : zt_code 130 129 = some (.iload_n 1, 0, 0, 0) := (zf130 129).trans rfl
theorem d130_130 : zt_code 130 130 = some (.invokestatic 335, 256, 3, -1) := (zf130 130).trans rfl
theorem d130_133 : zt_code 130 133 = some (.ifCond .eq (18), 0, 151, 0) := (zf130 133).trans rfl
theorem d130_136 : zt_code 130 136 = some (.iload 6, 0, 0, 0) := (zf130 136).trans rfl
theorem d130_138 : zt_code 130 138 = some (.istore 4, 0, 0, 0) := (zf130 138).trans rfl
theorem d130_140 : zt_code 130 140 = some (.aload_n 0, 0, 0, 0) := (zf130 140).trans rfl
theorem d130_141 : zt_code 130 141 = some (.getfield 56, 4, 12, 1) := (zf130 141).trans rfl
theorem d130_144 : zt_code 130 144 = some (.aload_n 0, 0, 0, 0) := (zf130 144).trans rfl
theorem d130_145 : zt_code 130 145 = some (.getfield 59, 4, 13, 1) := (zf130 145).trans rfl
theorem d130_148 : zt_code 130 148 = some (.invokestatic 343, 39, 2, -1) := (zf130 148).trans rfl
theorem d130_151 : zt_code 130 151 = some (.iinc 5 (1), 0, 0, 0) := (zf130 151).trans rfl
theorem d130_154 : zt_code 130 154 = some (.goto (-115), 0, 39, 0) := (zf130 154).trans rfl
theorem d130_157 : zt_code 130 157 = some (.iload 4, 0, 0, 0) := (zf130 157).trans rfl
theorem d130_159 : zt_code 130 159 = some (.ireturn, 0, 0, 0) := (zf130 159).trans rfl
/-- FirstAtTheFirst.findFairest(I)I -/
theorem vc130 {X : zX} {S : zx_S} {C : zx_C} {q : Int32 → zx_C → Prop} {e : Nat} {a1 : Int32} (hS : zs_4 S e) (h : zCd X 3 38 [.ref (e + 24), .ref (e + 1)] S C (zQv (fun C1 => zCd X 2 49 [.ref (e + 24)] S C1 (zQv (fun C2 => zCd X 0 115 [.long (Int32.toInt64 (C2.1 (e + 1) 0)), .int a1] S C2 (zQl (fun r3 C3 => zW X 6 130 39 [.ref e, .int a1, .long r3, .retAddr 1, .int 1000000, .int 0, .retAddr 0] [] S C3 (zQi q)))))))) : zCd X 6 130 [.ref e, .int a1] S C (zQi q) := by
  refine zc_in ml_130 rfl ?_
  refine zw_aload_n (n := 1) d130_0 rfl rfl ?_
  refine zw_getr (n := 4) d130_1 rfl (zj_4 hS).1 (zj_4 hS).2 (zr_4_7 hS) ?_
  refine zw_aload_n (n := 5) d130_4 rfl rfl ?_
  refine zw_getr (n := 8) d130_5 rfl (zj_4 hS).1 (zj_4 hS).2 (zr_4_0 hS) ?_
  refine zw_cV (n := 11) d130_8 (zs_V rfl rfl rfl rfl (by decide) (zj_1 (zo_4_7 hS)).1 (zq_1 (zo_4_7 hS))) (by rw [ml_38]; rfl) (by decide) rfl (zc_mV h (fun C1 h => ?_))
  refine zw_aload_n (n := 12) d130_11 rfl rfl ?_
  refine zw_getr (n := 15) d130_12 rfl (zj_4 hS).1 (zj_4 hS).2 (zr_4_7 hS) ?_
  refine zw_cV (n := 18) d130_15 (zs_V rfl rfl rfl rfl (by decide) (zj_1 (zo_4_7 hS)).1 (zq_1 (zo_4_7 hS))) (by rw [ml_49]; rfl) (by decide) rfl (zc_mV h (fun C2 h => ?_))
  refine zw_aload_n (n := 19) d130_18 rfl rfl ?_
  refine zw_getr (n := 22) d130_19 rfl (zj_4 hS).1 (zj_4 hS).2 (zr_4_0 hS) ?_
  refine zw_geti (n := 25) d130_22 rfl (zj_0 (zo_4_0 hS)).1 (zj_0 (zo_4_0 hS)).2 ?_
  refine zw_i2l (n := 26) d130_25 rfl ?_
  refine zw_iload_n (n := 27) d130_26 rfl rfl ?_
  refine zw_cL (n := 30) d130_27 (zs_S rfl rfl rfl rfl) (by rw [ml_115]; rfl) (by decide) rfl (zc_mL h (fun r3 C3 h => ?_))
  refine zw_lstore_n (n := 31) d130_30 rfl rfl rfl ?_
  refine zw_ldcw (n := 34) d130_31 rfl zk_i_1000000 ?_
  refine zw_istore (n := 36) d130_34 rfl rfl rfl ?_
  refine zw_iconst (n := 37) d130_36 rfl zk_i_0 ?_
  refine zw_istore (n := 39) d130_37 rfl rfl rfl ?_
  exact h
theorem vc130_39 {X : zX} {S : zx_S} {C : zx_C} {q : Int32 → zx_C → Prop} {e : Nat} {a1 : Int32} {i1 : Int32} {i2 : Int64} {i4 : Int32} {i5 : Int32} {z6 : Value} (hS : zs_4 S e) (h : if ((lg_cmp (Int32.toInt64 i5) i2) : Int32) < 0 then (zCd X 1 131 [.ref e, .int i5, .int i1] S C (zQi (fun r1 C1 => if (r1 : Int32) = 0 then (zW X 6 130 39 [.ref e, .int i1, .long i2, .retAddr 1, .int i4, .int (i5 + 1), z6] [] S C1 (zQi q)) else (if (i4 : Int32) = 0 then (zCd X 1 256 [.ref (e + 40), .ref (e + 41), .int i1] S C1 (zQi (fun r2 C2 => if (r2 : Int32) = 0 then (zW X 6 130 39 [.ref e, .int i1, .long i2, .retAddr 1, .int i4, .int (i5 + 1), z6] [] S C2 (zQi q)) else (zCd X 1 132 [.ref (e + 24), .ref (e + 40), .int i1] S C2 (zQv (fun C3 => zCd X 5 120 [.ref e, .ref (e + 24), .int (-1)] S C3 (zQv (fun C4 => zCd X 1 124 [.ref e] S C4 (zQi (fun r5 C5 => if (r5 : Int32) < i4 then (zCd X 0 39 [.ref (e + 40), .ref (e + 41)] S C5 (zQv (fun C6 => zW X 6 130 39 [.ref e, .int i1, .long i2, .retAddr 1, .int r5, .int (i5 + 1), .int r5] [] S C6 (zQi q)))) else (if (r5 : Int32) = i4 then (zCd X 1 256 [.ref (e + 40), .ref (e + 41), .int i1] S C5 (zQi (fun r7 C7 => if (r7 : Int32) = 0 then (zW X 6 130 39 [.ref e, .int i1, .long i2, .retAddr 1, .int i4, .int (i5 + 1), .int r5] [] S C7 (zQi q)) else (zCd X 0 39 [.ref (e + 40), .ref (e + 41)] S C7 (zQv (fun C8 => zW X 6 130 39 [.ref e, .int i1, .long i2, .retAddr 1, .int r5, .int (i5 + 1), .int r5] [] S C8 (zQi q))))))) else (zW X 6 130 39 [.ref e, .int i1, .long i2, .retAddr 1, .int i4, .int (i5 + 1), .int r5] [] S C5 (zQi q))))))))))))) else (zCd X 1 132 [.ref (e + 24), .ref (e + 40), .int i1] S C1 (zQv (fun C9 => zCd X 5 120 [.ref e, .ref (e + 24), .int (-1)] S C9 (zQv (fun C10 => zCd X 1 124 [.ref e] S C10 (zQi (fun r11 C11 => if (r11 : Int32) < i4 then (zCd X 0 39 [.ref (e + 40), .ref (e + 41)] S C11 (zQv (fun C12 => zW X 6 130 39 [.ref e, .int i1, .long i2, .retAddr 1, .int r11, .int (i5 + 1), .int r11] [] S C12 (zQi q)))) else (if (r11 : Int32) = i4 then (zCd X 1 256 [.ref (e + 40), .ref (e + 41), .int i1] S C11 (zQi (fun r13 C13 => if (r13 : Int32) = 0 then (zW X 6 130 39 [.ref e, .int i1, .long i2, .retAddr 1, .int i4, .int (i5 + 1), .int r11] [] S C13 (zQi q)) else (zCd X 0 39 [.ref (e + 40), .ref (e + 41)] S C13 (zQv (fun C14 => zW X 6 130 39 [.ref e, .int i1, .long i2, .retAddr 1, .int r11, .int (i5 + 1), .int r11] [] S C14 (zQi q))))))) else (zW X 6 130 39 [.ref e, .int i1, .long i2, .retAddr 1, .int i4, .int (i5 + 1), .int r11] [] S C11 (zQi q)))))))))))))) else (q i4 C)) : zW X 6 130 39 [.ref e, .int i1, .long i2, .retAddr 1, .int i4, .int i5, z6] [] S C (zQi q) := by
  refine zw_iload (n := 41) d130_39 rfl rfl ?_
  refine zw_i2l (n := 42) d130_41 rfl ?_
  refine zw_lload_n (n := 43) d130_42 rfl rfl rfl ?_
  refine zw_lcmp (n := 44) d130_43 rfl ?_
  refine zw_if_ge (n := 47) d130_44 rfl (zite h (fun h => ?_) (fun h => ?_))
  · skip
    refine zw_aload_n (n := 48) d130_47 rfl rfl ?_
    refine zw_iload (n := 50) d130_48 rfl rfl ?_
    refine zw_iload_n (n := 51) d130_50 rfl rfl ?_
    refine zw_cI (n := 54) d130_51 (zs_V rfl rfl rfl rfl (by decide) (zj_4 hS).1 (zq_4 hS)) (by rw [ml_131]; rfl) (by decide) rfl (zc_mI h (fun r1 C1 h => ?_))
    refine zw_if_eq (n := 57) d130_54 rfl (zite h (fun h => ?_) (fun h => ?_))
    · skip
      refine zw_iinc (n := 154) d130_151 rfl rfl zk_i_1 rfl ?_
      refine zw_goto d130_154 ?_
      exact h
    · skip
      refine zw_iload (n := 59) d130_57 rfl rfl ?_
      refine zw_if_ne (n := 62) d130_59 rfl (zite h (fun h => ?_) (fun h => ?_))
      · skip
        refine zw_aload_n (n := 63) d130_62 rfl rfl ?_
        refine zw_getr (n := 66) d130_63 rfl (zj_4 hS).1 (zj_4 hS).2 (zr_4_12 hS) ?_
        refine zw_aload_n (n := 67) d130_66 rfl rfl ?_
        refine zw_getr (n := 70) d130_67 rfl (zj_4 hS).1 (zj_4 hS).2 (zr_4_13 hS) ?_
        refine zw_iload_n (n := 71) d130_70 rfl rfl ?_
        refine zw_cI (n := 74) d130_71 (zs_S rfl rfl rfl rfl) (by rw [ml_256]; rfl) (by decide) rfl (zc_mI h (fun r2 C2 h => ?_))
        refine zw_if_ne (n := 77) d130_74 rfl (zite h (fun h => ?_) (fun h => ?_))
        · skip
          refine zw_goto d130_77 ?_
          refine zw_iinc (n := 154) d130_151 rfl rfl zk_i_1 rfl ?_
          refine zw_goto d130_154 ?_
          exact h
        · skip
          refine zw_aload_n (n := 81) d130_80 rfl rfl ?_
          refine zw_getr (n := 84) d130_81 rfl (zj_4 hS).1 (zj_4 hS).2 (zr_4_7 hS) ?_
          refine zw_aload_n (n := 85) d130_84 rfl rfl ?_
          refine zw_getr (n := 88) d130_85 rfl (zj_4 hS).1 (zj_4 hS).2 (zr_4_12 hS) ?_
          refine zw_iload_n (n := 89) d130_88 rfl rfl ?_
          refine zw_cV (n := 92) d130_89 (zs_V rfl rfl rfl rfl (by decide) (zj_1 (zo_4_7 hS)).1 (zq_1 (zo_4_7 hS))) (by rw [ml_132]; rfl) (by decide) rfl (zc_mV h (fun C3 h => ?_))
          refine zw_aload_n (n := 93) d130_92 rfl rfl ?_
          refine zw_aload_n (n := 94) d130_93 rfl rfl ?_
          refine zw_getr (n := 97) d130_94 rfl (zj_4 hS).1 (zj_4 hS).2 (zr_4_7 hS) ?_
          refine zw_iconst (n := 98) d130_97 rfl zk_i_m1 ?_
          refine zw_cV (n := 101) d130_98 (zs_V rfl rfl rfl rfl (by decide) (zj_4 hS).1 (zq_4 hS)) (by rw [ml_120]; rfl) (by decide) rfl (zc_mV h (fun C4 h => ?_))
          refine zw_aload_n (n := 102) d130_101 rfl rfl ?_
          refine zw_cI (n := 105) d130_102 (zs_V rfl rfl rfl rfl (by decide) (zj_4 hS).1 (zq_4 hS)) (by rw [ml_124]; rfl) (by decide) rfl (zc_mI h (fun r5 C5 h => ?_))
          refine zw_istore (n := 107) d130_105 rfl rfl rfl ?_
          refine zw_iload (n := 109) d130_107 rfl rfl ?_
          refine zw_iload (n := 111) d130_109 rfl rfl ?_
          refine zw_ic_lt (n := 114) d130_111 rfl (zite h (fun h => ?_) (fun h => ?_))
          · skip
            refine zw_iload (n := 138) d130_136 rfl rfl ?_
            refine zw_istore (n := 140) d130_138 rfl rfl rfl ?_
            refine zw_aload_n (n := 141) d130_140 rfl rfl ?_
            refine zw_getr (n := 144) d130_141 rfl (zj_4 hS).1 (zj_4 hS).2 (zr_4_12 hS) ?_
            refine zw_aload_n (n := 145) d130_144 rfl rfl ?_
            refine zw_getr (n := 148) d130_145 rfl (zj_4 hS).1 (zj_4 hS).2 (zr_4_13 hS) ?_
            refine zw_cV (n := 151) d130_148 (zs_S rfl rfl rfl rfl) (by rw [ml_39]; rfl) (by decide) rfl (zc_mV h (fun C6 h => ?_))
            refine zw_iinc (n := 154) d130_151 rfl rfl zk_i_1 rfl ?_
            refine zw_goto d130_154 ?_
            exact h
          · skip
            refine zw_iload (n := 116) d130_114 rfl rfl ?_
            refine zw_iload (n := 118) d130_116 rfl rfl ?_
            refine zw_ic_ne (n := 121) d130_118 rfl (zite h (fun h => ?_) (fun h => ?_))
            · skip
              refine zw_aload_n (n := 122) d130_121 rfl rfl ?_
              refine zw_getr (n := 125) d130_122 rfl (zj_4 hS).1 (zj_4 hS).2 (zr_4_12 hS) ?_
              refine zw_aload_n (n := 126) d130_125 rfl rfl ?_
              refine zw_getr (n := 129) d130_126 rfl (zj_4 hS).1 (zj_4 hS).2 (zr_4_13 hS) ?_
              refine zw_iload_n (n := 130) d130_129 rfl rfl ?_
              refine zw_cI (n := 133) d130_130 (zs_S rfl rfl rfl rfl) (by rw [ml_256]; rfl) (by decide) rfl (zc_mI h (fun r7 C7 h => ?_))
              refine zw_if_eq (n := 136) d130_133 rfl (zite h (fun h => ?_) (fun h => ?_))
              · skip
                refine zw_iinc (n := 154) d130_151 rfl rfl zk_i_1 rfl ?_
                refine zw_goto d130_154 ?_
                exact h
              · skip
                refine zw_iload (n := 138) d130_136 rfl rfl ?_
                refine zw_istore (n := 140) d130_138 rfl rfl rfl ?_
                refine zw_aload_n (n := 141) d130_140 rfl rfl ?_
                refine zw_getr (n := 144) d130_141 rfl (zj_4 hS).1 (zj_4 hS).2 (zr_4_12 hS) ?_
                refine zw_aload_n (n := 145) d130_144 rfl rfl ?_
                refine zw_getr (n := 148) d130_145 rfl (zj_4 hS).1 (zj_4 hS).2 (zr_4_13 hS) ?_
                refine zw_cV (n := 151) d130_148 (zs_S rfl rfl rfl rfl) (by rw [ml_39]; rfl) (by decide) rfl (zc_mV h (fun C8 h => ?_))
                refine zw_iinc (n := 154) d130_151 rfl rfl zk_i_1 rfl ?_
                refine zw_goto d130_154 ?_
                exact h
            · skip
              refine zw_iinc (n := 154) d130_151 rfl rfl zk_i_1 rfl ?_
              refine zw_goto d130_154 ?_
              exact h
      · skip
        refine zw_aload_n (n := 81) d130_80 rfl rfl ?_
        refine zw_getr (n := 84) d130_81 rfl (zj_4 hS).1 (zj_4 hS).2 (zr_4_7 hS) ?_
        refine zw_aload_n (n := 85) d130_84 rfl rfl ?_
        refine zw_getr (n := 88) d130_85 rfl (zj_4 hS).1 (zj_4 hS).2 (zr_4_12 hS) ?_
        refine zw_iload_n (n := 89) d130_88 rfl rfl ?_
        refine zw_cV (n := 92) d130_89 (zs_V rfl rfl rfl rfl (by decide) (zj_1 (zo_4_7 hS)).1 (zq_1 (zo_4_7 hS))) (by rw [ml_132]; rfl) (by decide) rfl (zc_mV h (fun C9 h => ?_))
        refine zw_aload_n (n := 93) d130_92 rfl rfl ?_
        refine zw_aload_n (n := 94) d130_93 rfl rfl ?_
        refine zw_getr (n := 97) d130_94 rfl (zj_4 hS).1 (zj_4 hS).2 (zr_4_7 hS) ?_
        refine zw_iconst (n := 98) d130_97 rfl zk_i_m1 ?_
        refine zw_cV (n := 101) d130_98 (zs_V rfl rfl rfl rfl (by decide) (zj_4 hS).1 (zq_4 hS)) (by rw [ml_120]; rfl) (by decide) rfl (zc_mV h (fun C10 h => ?_))
        refine zw_aload_n (n := 102) d130_101 rfl rfl ?_
        refine zw_cI (n := 105) d130_102 (zs_V rfl rfl rfl rfl (by decide) (zj_4 hS).1 (zq_4 hS)) (by rw [ml_124]; rfl) (by decide) rfl (zc_mI h (fun r11 C11 h => ?_))
        refine zw_istore (n := 107) d130_105 rfl rfl rfl ?_
        refine zw_iload (n := 109) d130_107 rfl rfl ?_
        refine zw_iload (n := 111) d130_109 rfl rfl ?_
        refine zw_ic_lt (n := 114) d130_111 rfl (zite h (fun h => ?_) (fun h => ?_))
        · skip
          refine zw_iload (n := 138) d130_136 rfl rfl ?_
          refine zw_istore (n := 140) d130_138 rfl rfl rfl ?_
          refine zw_aload_n (n := 141) d130_140 rfl rfl ?_
          refine zw_getr (n := 144) d130_141 rfl (zj_4 hS).1 (zj_4 hS).2 (zr_4_12 hS) ?_
          refine zw_aload_n (n := 145) d130_144 rfl rfl ?_
          refine zw_getr (n := 148) d130_145 rfl (zj_4 hS).1 (zj_4 hS).2 (zr_4_13 hS) ?_
          refine zw_cV (n := 151) d130_148 (zs_S rfl rfl rfl rfl) (by rw [ml_39]; rfl) (by decide) rfl (zc_mV h (fun C12 h => ?_))
          refine zw_iinc (n := 154) d130_151 rfl rfl zk_i_1 rfl ?_
          refine zw_goto d130_154 ?_
          exact h
        · skip
          refine zw_iload (n := 116) d130_114 rfl rfl ?_
          refine zw_iload (n := 118) d130_116 rfl rfl ?_
          refine zw_ic_ne (n := 121) d130_118 rfl (zite h (fun h => ?_) (fun h => ?_))
          · skip
            refine zw_aload_n (n := 122) d130_121 rfl rfl ?_
            refine zw_getr (n := 125) d130_122 rfl (zj_4 hS).1 (zj_4 hS).2 (zr_4_12 hS) ?_
            refine zw_aload_n (n := 126) d130_125 rfl rfl ?_
            refine zw_getr (n := 129) d130_126 rfl (zj_4 hS).1 (zj_4 hS).2 (zr_4_13 hS) ?_
            refine zw_iload_n (n := 130) d130_129 rfl rfl ?_
            refine zw_cI (n := 133) d130_130 (zs_S rfl rfl rfl rfl) (by rw [ml_256]; rfl) (by decide) rfl (zc_mI h (fun r13 C13 h => ?_))
            refine zw_if_eq (n := 136) d130_133 rfl (zite h (fun h => ?_) (fun h => ?_))
            · skip
              refine zw_iinc (n := 154) d130_151 rfl rfl zk_i_1 rfl ?_
              refine zw_goto d130_154 ?_
              exact h
            · skip
              refine zw_iload (n := 138) d130_136 rfl rfl ?_
              refine zw_istore (n := 140) d130_138 rfl rfl rfl ?_
              refine zw_aload_n (n := 141) d130_140 rfl rfl ?_
              refine zw_getr (n := 144) d130_141 rfl (zj_4 hS).1 (zj_4 hS).2 (zr_4_12 hS) ?_
              refine zw_aload_n (n := 145) d130_144 rfl rfl ?_
              refine zw_getr (n := 148) d130_145 rfl (zj_4 hS).1 (zj_4 hS).2 (zr_4_13 hS) ?_
              refine zw_cV (n := 151) d130_148 (zs_S rfl rfl rfl rfl) (by rw [ml_39]; rfl) (by decide) rfl (zc_mV h (fun C14 h => ?_))
              refine zw_iinc (n := 154) d130_151 rfl rfl zk_i_1 rfl ?_
              refine zw_goto d130_154 ?_
              exact h
          · skip
            refine zw_iinc (n := 154) d130_151 rfl rfl zk_i_1 rfl ?_
            refine zw_goto d130_154 ?_
            exact h
  · skip
    refine zw_iload (n := 159) d130_157 rfl rfl ?_
    exact zw_iret d130_159 rfl ⟨_, rfl, h⟩

set_option maxRecDepth 20000 in
theorem zf131 (pc : Nat) : zt_code 131 pc = zt_fd zl_131 pc := rfl
theorem d131_0 : zt_code 131 0 = some (.aload_n 0, 0, 0, 0) := (zf131 0).trans rfl
theorem d131_1 : zt_code 131 1 = some (.getfield 12, 4, 0, 1) := (zf131 1).trans rfl
theorem d131_4 : zt_code 131 4 = some (.getfield 136, 0, 0, 0) := (zf131 4).trans rfl
theorem d131_7 : zt_code 131 7 = some (.iconst (2), 0, 0, 0) := (zf131 7).trans rfl
theorem d131_8 : zt_code 131 8 = some (.if_icmp .le (7), 0, 15, 0) := (zf131 8).trans rfl
theorem d131_11 : zt_code 131 11 = some (.iconst (3), 0, 0, 0) := (zf131 11).trans rfl
theorem d131_12 : zt_code 131 12 = some (.goto (4), 0, 16, 0) := (zf131 12).trans rfl
theorem d131_15 : zt_code 131 15 = some (.iconst (2), 0, 0, 0) := (zf131 15).trans rfl
theorem d131_16 : zt_code 131 16 = some (.istore_n 3, 0, 0, 0) := (zf131 16).trans rfl
theorem d131_17 : zt_code 131 17 = some (.iload_n 1, 0, 0, 0) := (zf131 17).trans rfl
theorem d131_18 : zt_code 131 18 = some (.istore 4, 0, 0, 0) := (zf131 18).trans rfl
theorem d131_20 : zt_code 131 20 = some (.iconst (0), 0, 0, 0) := (zf131 20).trans rfl
theorem d131_21 : zt_code 131 21 = some (.istore 5, 0, 0, 0) := (zf131 21).trans rfl
theorem d131_23 : zt_code 131 23 = some (.iload 5, 0, 0, 0) := (zf131 23).trans rfl
theorem d131_25 : zt_code 131 25 = some (.iload_n 2, 0, 0, 0) := (zf131 25).trans rfl
theorem d131_26 : zt_code 131 26 = some (.if_icmp .ge (28), 0, 54, 0) := (zf131 26).trans rfl
theorem d131_29 : zt_code 131 29 = some (.aload_n 0, 0, 0, 0) := (zf131 29).trans rfl
theorem d131_30 : zt_code 131 30 = some (.getfield 56, 4, 12, 1) := (zf131 30).trans rfl
theorem d131_33 : zt_code 131 33 = some (.iload 5, 0, 0, 0) := (zf131 33).trans rfl
theorem d131_35 : zt_code 131 35 = some (.iload 4, 0, 0, 0) := (zf131 35).trans rfl
theorem d131_37 : zt_code 131 37 = some (.iload_n 3, 0, 0, 0) := (zf131 37).trans rfl
theorem d131_38 : zt_code 131 38 = some (.irem, 0, 0, 0) := (zf131 38).trans rfl
theorem d131_39 : zt_code 131 39 = some (.invokestatic 157, 12, 3, -1) := (zf131 39).trans rfl
theorem d131_42 : zt_code 131 42 = some (.iload 4, 0, 0, 0) := (zf131 42).trans rfl
theorem d131_44 : zt_code 131 44 = some (.iload_n 3, 0, 0, 0) := (zf131 44).trans rfl
theorem d131_45 : zt_code 131 45 = some (.idiv, 0, 0, 0) := (zf131 45).trans rfl
theorem d131_46 : zt_code 131 46 = some (.istore 4, 0, 0, 0) := (zf131 46).trans rfl
theorem d131_48 : zt_code 131 48 = some (.iinc 5 (1), 0, 0, 0) := (zf131 48).trans rfl
theorem d131_51 : zt_code 131 51 = some (.goto (-28), 0, 23, 0) := (zf131 51).trans rfl
theorem d131_54 : zt_code 131 54 = some (.iload_n 2, 0, 0, 0) := (zf131 54).trans rfl
theorem d131_55 : zt_code 131 55 = some (.iload_n 3, 0, 0, 0) := (zf131 55).trans rfl
theorem d131_56 : zt_code 131 56 = some (.idiv, 0, 0, 0) := (zf131 56).trans rfl
theorem d131_57 : zt_code 131 57 = some (.istore 5, 0, 0, 0) := (zf131 57).trans rfl
theorem d131_59 : zt_code 131 59 = some (.iload_n 2, 0, 0, 0) := (zf131 59).trans rfl
theorem d131_60 : zt_code 131 60 = some (.iload_n 3, 0, 0, 0) := (zf131 60).trans rfl
theorem d131_61 : zt_code 131 61 = some (.irem, 0, 0, 0) := (zf131 61).trans rfl
theorem d131_62 : zt_code 131 62 = some (.ifCond .ne (8), 0, 70, 0) := (zf131 62).trans rfl
theorem d131_65 : zt_code 131 65 = some (.iload 5, 0, 0, 0) := (zf131 65).trans rfl
theorem d131_67 : zt_code 131 67 = some (.goto (7), 0, 74, 0) := (zf131 67).trans rfl
theorem d131_70 : zt_code 131 70 = some (.iload 5, 0, 0, 0) := (zf131 70).trans rfl
theorem d131_72 : zt_code 131 72 = some (.iconst (1), 0, 0, 0) := (zf131 72).trans rfl
theorem d131_73 : zt_code 131 73 = some (.iadd, 0, 0, 0) := (zf131 73).trans rfl
theorem d131_74 : zt_code 131 74 = some (.istore 6, 0, 0, 0) := (zf131 74).trans rfl
theorem d131_76 : zt_code 131 76 = some (.iconst (0), 0, 0, 0) := (zf131 76).trans rfl
theorem d131_77 : zt_code 131 77 = some (.istore 7, 0, 0, 0) := (zf131 77).trans rfl
theorem d131_79 : zt_code 131 79 = some (.iload 7, 0, 0, 0) := (zf131 79).trans rfl
theorem d131_81 : zt_code 131 81 = some (.iload_n 3, 0, 0, 0) := (zf131 81).trans rfl
theorem d131_82 : zt_code 131 82 = some (.if_icmp .ge (67), 0, 149, 0) := (zf131 82).trans rfl
theorem d131_85 : zt_code 131 85 = some (.iconst (0), 0, 0, 0) := (zf131 85).trans rfl
theorem d131_86 : zt_code 131 86 = some (.istore 8, 0, 0, 0) := (zf131 86).trans rfl
theorem d131_88 : zt_code 131 88 = some (.iconst (0), 0, 0, 0) := (zf131 88).trans rfl
theorem d131_89 : zt_code 131 89 = some (.istore 9, 0, 0, 0) := (zf131 89).trans rfl
theorem d131_91 : zt_code 131 91 = some (.iload 9, 0, 0, 0) := (zf131 91).trans rfl
theorem d131_93 : zt_code 131 93 = some (.iload_n 2, 0, 0, 0) := (zf131 93).trans rfl
theorem d131_94 : zt_code 131 94 = some (.if_icmp .ge (33), 0, 127, 0) := (zf131 94).trans rfl
theorem d131_97 : zt_code 131 97 = some (.iload 8, 0, 0, 0) := (zf131 97).trans rfl
theorem d131_99 : zt_code 131 99 = some (.aload_n 0, 0, 0, 0) := (zf131 99).trans rfl
theorem d131_100 : zt_code 131 100 = some (.getfield 56, 4, 12, 1) := (zf131 100).trans rfl
theorem d131_103 : zt_code 131 103 = some (.iload 9, 0, 0, 0) := (zf131 103).trans rfl
theorem d131_105 : zt_code 131 105 = some (.invokestatic 242, 11, 2, -1) := (zf131 105).trans rfl
theorem d131_108 : zt_code 131 108 = some (.iload 7, 0, 0, 0) := (zf131 108).trans rfl
theorem d131_110 : zt_code 131 110 = some (.if_icmp .ne (7), 0, 117, 0) := (zf131 110).trans rfl
theorem d131_113 : zt_code 131 113 = some (.iconst (1), 0, 0, 0) := (zf131 113).trans rfl
theorem d131_114 : zt_code 131 114 = some (.goto (4), 0, 118, 0) := (zf131 114).trans rfl
theorem d131_117 : zt_code 131 117 = some (.iconst (0), 0, 0, 0) := (zf131 117).trans rfl
theorem d131_118 : zt_code 131 118 = some (.iadd, 0, 0, 0) := (zf131 118).trans rfl
theorem d131_119 : zt_code 131 119 = some (.istore 8, 0, 0, 0) := (zf131 119).trans rfl
theorem d131_121 : zt_code 131 121 = some (.iinc 9 (1), 0, 0, 0) := (zf131 121).trans rfl
theorem d131_124 : zt_code 131 124 = some (.goto (-33), 0, 91, 0) := (zf131 124).trans rfl
theorem d131_127 : zt_code 131 127 = some (.iload 8, 0, 0, 0) := (zf131 127).trans rfl
theorem d131_129 : zt_code 131 129 = some (.iload 5, 0, 0, 0) := (zf131 129).trans rfl
theorem d131_131 : zt_code 131 131 = some (.if_icmp .lt (10), 0, 141, 0) := (zf131 131).trans rfl
theorem d131_134 : zt_code 131 134 = some (.iload 8, 0, 0, 0) := (zf131 134).trans rfl
theorem d131_136 : zt_code 131 136 = some (.iload 6, 0, 0, 0) := (zf131 136).trans rfl
theorem d131_138 : zt_code 131 138 = some (.if_icmp .le (5), 0, 143, 0) := (zf131 138).trans rfl
theorem d131_141 : zt_code 131 141 = some (.iconst (0), 0, 0, 0) := (zf131 141).trans rfl
theorem d131_142 : zt_code 131 142 = some (.ireturn, 1, 0, 0) := (zf131 142).trans rfl
theorem d131_143 : zt_code 131 143 = some (.iinc 7 (1), 0, 0, 0) := (zf131 143).trans rfl
theorem d131_146 : zt_code 131 146 = some (.goto (-67), 0, 79, 0) := (zf131 146).trans rfl
theorem d131_149 : zt_code 131 149 = some (.iconst (1), 0, 0, 0) := (zf131 149).trans rfl
theorem d131_150 : zt_code 131 150 = some (.ireturn, 1, 0, 0) := (zf131 150).trans rfl
/-- FirstAtTheFirst.spellOrder(II)Z -/
theorem vc131 {X : zX} {S : zx_S} {C : zx_C} {q : Int32 → zx_C → Prop} {e : Nat} {a1 : Int32} {a2 : Int32} (hS : zs_4 S e) (h : if (2 : Int32) < (C.1 (e + 1) 0) then (zW X 1 131 23 [.ref e, .int a1, .int a2, .int 3, .int a1, .int 0, .retAddr 0, .retAddr 0, .retAddr 0, .retAddr 0] [] S C (zQi q)) else (zW X 1 131 23 [.ref e, .int a1, .int a2, .int 2, .int a1, .int 0, .retAddr 0, .retAddr 0, .retAddr 0, .retAddr 0] [] S C (zQi q))) : zCd X 1 131 [.ref e, .int a1, .int a2] S C (zQi q) := by
  refine zc_in ml_131 rfl ?_
  refine zw_aload_n (n := 1) d131_0 rfl rfl ?_
  refine zw_getr (n := 4) d131_1 rfl (zj_4 hS).1 (zj_4 hS).2 (zr_4_0 hS) ?_
  refine zw_geti (n := 7) d131_4 rfl (zj_0 (zo_4_0 hS)).1 (zj_0 (zo_4_0 hS)).2 ?_
  refine zw_iconst (n := 8) d131_7 rfl zk_i_2 ?_
  refine zw_ic_le (n := 11) d131_8 rfl (zite h (fun h => ?_) (fun h => ?_))
  · skip
    refine zw_iconst (n := 12) d131_11 rfl zk_i_3 ?_
    refine zw_goto d131_12 ?_
    refine zw_istore_n (n := 17) d131_16 rfl rfl rfl ?_
    refine zw_iload_n (n := 18) d131_17 rfl rfl ?_
    refine zw_istore (n := 20) d131_18 rfl rfl rfl ?_
    refine zw_iconst (n := 21) d131_20 rfl zk_i_0 ?_
    refine zw_istore (n := 23) d131_21 rfl rfl rfl ?_
    exact h
  · skip
    refine zw_iconst (n := 16) d131_15 rfl zk_i_2 ?_
    refine zw_istore_n (n := 17) d131_16 rfl rfl rfl ?_
    refine zw_iload_n (n := 18) d131_17 rfl rfl ?_
    refine zw_istore (n := 20) d131_18 rfl rfl rfl ?_
    refine zw_iconst (n := 21) d131_20 rfl zk_i_0 ?_
    refine zw_istore (n := 23) d131_21 rfl rfl rfl ?_
    exact h
theorem vc131_23 {X : zX} {S : zx_S} {C : zx_C} {q : Int32 → zx_C → Prop} {e : Nat} {a1 : Int32} {a2 : Int32} {z1 : Value} {i2 : Int32} {i3 : Int32} {i4 : Int32} {i5 : Int32} {z6 : Value} {z7 : Value} {z8 : Value} {z9 : Value} (hS : zs_4 S e) (h : if (i5 : Int32) < i2 then (¬ (i3 : Int32) = 0 ∧ (zCd X 0 12 [.ref (e + 40), .int i5, .int (i4 - i4 / i3 * i3)] S C (zQv (fun C1 => ¬ (i3 : Int32) = 0 ∧ (zW X 1 131 23 [.ref e, z1, .int i2, .int i3, .int (i4 / i3), .int (i5 + 1), z6, z7, z8, z9] [] S C1 (zQi q)))))) else (¬ (i3 : Int32) = 0 ∧ (¬ (i3 : Int32) = 0 ∧ (if ((i2 - i2 / i3 * i3) : Int32) = 0 then (zW X 1 131 79 [.ref e, z1, .int i2, .int i3, .int i4, .int (i2 / i3), .int (i2 / i3), .int 0, z8, z9] [] S C (zQi q)) else (zW X 1 131 79 [.ref e, z1, .int i2, .int i3, .int i4, .int (i2 / i3), .int ((i2 / i3) + 1), .int 0, z8, z9] [] S C (zQi q)))))) : zW X 1 131 23 [.ref e, z1, .int i2, .int i3, .int i4, .int i5, z6, z7, z8, z9] [] S C (zQi q) := by
  refine zw_iload (n := 25) d131_23 rfl rfl ?_
  refine zw_iload_n (n := 26) d131_25 rfl rfl ?_
  refine zw_ic_ge (n := 29) d131_26 rfl (zite h (fun h => ?_) (fun h => ?_))
  · skip
    refine zw_aload_n (n := 30) d131_29 rfl rfl ?_
    refine zw_getr (n := 33) d131_30 rfl (zj_4 hS).1 (zj_4 hS).2 (zr_4_12 hS) ?_
    refine zw_iload (n := 35) d131_33 rfl rfl ?_
    refine zw_iload (n := 37) d131_35 rfl rfl ?_
    refine zw_iload_n (n := 38) d131_37 rfl rfl ?_
    obtain ⟨hy, h⟩ := h
    refine zw_irem (n := 39) d131_38 rfl hy ?_
    refine zw_cV (n := 42) d131_39 (zs_S rfl rfl rfl rfl) (by rw [ml_12]; rfl) (by decide) rfl (zc_mV h (fun C1 h => ?_))
    refine zw_iload (n := 44) d131_42 rfl rfl ?_
    refine zw_iload_n (n := 45) d131_44 rfl rfl ?_
    obtain ⟨hy, h⟩ := h
    refine zw_idiv (n := 46) d131_45 rfl hy ?_
    refine zw_istore (n := 48) d131_46 rfl rfl rfl ?_
    refine zw_iinc (n := 51) d131_48 rfl rfl zk_i_1 rfl ?_
    refine zw_goto d131_51 ?_
    exact h
  · skip
    refine zw_iload_n (n := 55) d131_54 rfl rfl ?_
    refine zw_iload_n (n := 56) d131_55 rfl rfl ?_
    obtain ⟨hy, h⟩ := h
    refine zw_idiv (n := 57) d131_56 rfl hy ?_
    refine zw_istore (n := 59) d131_57 rfl rfl rfl ?_
    refine zw_iload_n (n := 60) d131_59 rfl rfl ?_
    refine zw_iload_n (n := 61) d131_60 rfl rfl ?_
    obtain ⟨hy, h⟩ := h
    refine zw_irem (n := 62) d131_61 rfl hy ?_
    refine zw_if_ne (n := 65) d131_62 rfl (zite h (fun h => ?_) (fun h => ?_))
    · skip
      refine zw_iload (n := 67) d131_65 rfl rfl ?_
      refine zw_goto d131_67 ?_
      refine zw_istore (n := 76) d131_74 rfl rfl rfl ?_
      refine zw_iconst (n := 77) d131_76 rfl zk_i_0 ?_
      refine zw_istore (n := 79) d131_77 rfl rfl rfl ?_
      exact h
    · skip
      refine zw_iload (n := 72) d131_70 rfl rfl ?_
      refine zw_iconst (n := 73) d131_72 rfl zk_i_1 ?_
      refine zw_iadd (n := 74) d131_73 rfl ?_
      refine zw_istore (n := 76) d131_74 rfl rfl rfl ?_
      refine zw_iconst (n := 77) d131_76 rfl zk_i_0 ?_
      refine zw_istore (n := 79) d131_77 rfl rfl rfl ?_
      exact h
theorem vc131_79 {X : zX} {S : zx_S} {C : zx_C} {q : Int32 → zx_C → Prop} {e : Nat} {a1 : Int32} {a2 : Int32} {z1 : Value} {i2 : Int32} {i3 : Int32} {z4 : Value} {i5 : Int32} {i6 : Int32} {i7 : Int32} {z8 : Value} {z9 : Value} (hS : zs_4 S e) (h : if (i7 : Int32) < i3 then (zW X 1 131 91 [.ref e, z1, .int i2, .int i3, z4, .int i5, .int i6, .int i7, .int 0, .int 0] [] S C (zQi q)) else (q 1 C)) : zW X 1 131 79 [.ref e, z1, .int i2, .int i3, z4, .int i5, .int i6, .int i7, z8, z9] [] S C (zQi q) := by
  refine zw_iload (n := 81) d131_79 rfl rfl ?_
  refine zw_iload_n (n := 82) d131_81 rfl rfl ?_
  refine zw_ic_ge (n := 85) d131_82 rfl (zite h (fun h => ?_) (fun h => ?_))
  · skip
    refine zw_iconst (n := 86) d131_85 rfl zk_i_0 ?_
    refine zw_istore (n := 88) d131_86 rfl rfl rfl ?_
    refine zw_iconst (n := 89) d131_88 rfl zk_i_0 ?_
    refine zw_istore (n := 91) d131_89 rfl rfl rfl ?_
    exact h
  · skip
    refine zw_iconst (n := 150) d131_149 rfl zk_i_1 ?_
    exact zw_iret d131_150 rfl ⟨_, rfl, h⟩
theorem vc131_91 {X : zX} {S : zx_S} {C : zx_C} {q : Int32 → zx_C → Prop} {e : Nat} {a1 : Int32} {a2 : Int32} {z1 : Value} {i2 : Int32} {i3 : Int32} {z4 : Value} {i5 : Int32} {i6 : Int32} {i7 : Int32} {i8 : Int32} {i9 : Int32} (hS : zs_4 S e) (h : if (i9 : Int32) < i2 then (zCd X 0 11 [.ref (e + 40), .int i9] S C (zQi (fun r1 C1 => if (r1 : Int32) = i7 then (zW X 1 131 91 [.ref e, z1, .int i2, .int i3, z4, .int i5, .int i6, .int i7, .int (i8 + 1), .int (i9 + 1)] [] S C1 (zQi q)) else (zW X 1 131 91 [.ref e, z1, .int i2, .int i3, z4, .int i5, .int i6, .int i7, .int (i8 + 0), .int (i9 + 1)] [] S C1 (zQi q))))) else (if (i8 : Int32) < i5 then (q 0 C) else (if (i6 : Int32) < i8 then (q 0 C) else (zW X 1 131 79 [.ref e, z1, .int i2, .int i3, z4, .int i5, .int i6, .int (i7 + 1), .int i8, .int i9] [] S C (zQi q))))) : zW X 1 131 91 [.ref e, z1, .int i2, .int i3, z4, .int i5, .int i6, .int i7, .int i8, .int i9] [] S C (zQi q) := by
  refine zw_iload (n := 93) d131_91 rfl rfl ?_
  refine zw_iload_n (n := 94) d131_93 rfl rfl ?_
  refine zw_ic_ge (n := 97) d131_94 rfl (zite h (fun h => ?_) (fun h => ?_))
  · skip
    refine zw_iload (n := 99) d131_97 rfl rfl ?_
    refine zw_aload_n (n := 100) d131_99 rfl rfl ?_
    refine zw_getr (n := 103) d131_100 rfl (zj_4 hS).1 (zj_4 hS).2 (zr_4_12 hS) ?_
    refine zw_iload (n := 105) d131_103 rfl rfl ?_
    refine zw_cI (n := 108) d131_105 (zs_S rfl rfl rfl rfl) (by rw [ml_11]; rfl) (by decide) rfl (zc_mI h (fun r1 C1 h => ?_))
    refine zw_iload (n := 110) d131_108 rfl rfl ?_
    refine zw_ic_ne (n := 113) d131_110 rfl (zite h (fun h => ?_) (fun h => ?_))
    · skip
      refine zw_iconst (n := 114) d131_113 rfl zk_i_1 ?_
      refine zw_goto d131_114 ?_
      refine zw_iadd (n := 119) d131_118 rfl ?_
      refine zw_istore (n := 121) d131_119 rfl rfl rfl ?_
      refine zw_iinc (n := 124) d131_121 rfl rfl zk_i_1 rfl ?_
      refine zw_goto d131_124 ?_
      exact h
    · skip
      refine zw_iconst (n := 118) d131_117 rfl zk_i_0 ?_
      refine zw_iadd (n := 119) d131_118 rfl ?_
      refine zw_istore (n := 121) d131_119 rfl rfl rfl ?_
      refine zw_iinc (n := 124) d131_121 rfl rfl zk_i_1 rfl ?_
      refine zw_goto d131_124 ?_
      exact h
  · skip
    refine zw_iload (n := 129) d131_127 rfl rfl ?_
    refine zw_iload (n := 131) d131_129 rfl rfl ?_
    refine zw_ic_lt (n := 134) d131_131 rfl (zite h (fun h => ?_) (fun h => ?_))
    · skip
      refine zw_iconst (n := 142) d131_141 rfl zk_i_0 ?_
      exact zw_iret d131_142 rfl ⟨_, rfl, h⟩
    · skip
      refine zw_iload (n := 136) d131_134 rfl rfl ?_
      refine zw_iload (n := 138) d131_136 rfl rfl ?_
      refine zw_ic_le (n := 141) d131_138 rfl (zite h (fun h => ?_) (fun h => ?_))
      · skip
        refine zw_iconst (n := 142) d131_141 rfl zk_i_0 ?_
        exact zw_iret d131_142 rfl ⟨_, rfl, h⟩
      · skip
        refine zw_iinc (n := 146) d131_143 rfl rfl zk_i_1 rfl ?_
        refine zw_goto d131_146 ?_
        exact h

set_option maxRecDepth 20000 in
theorem zf133 (pc : Nat) : zt_code 133 pc = zt_fd zl_133 pc := rfl
theorem d133_0 : zt_code 133 0 = some (.iconst (0), 0, 0, 0) := (zf133 0).trans rfl
theorem d133_1 : zt_code 133 1 = some (.istore_n 1, 0, 0, 0) := (zf133 1).trans rfl
theorem d133_2 : zt_code 133 2 = some (.ldc_w 256, 0, 0, 1000000) := (zf133 2).trans rfl
theorem d133_5 : zt_code 133 5 = some (.istore_n 2, 0, 0, 0) := (zf133 5).trans rfl
theorem d133_6 : zt_code 133 6 = some (.iconst (0), 0, 0, 0) := (zf133 6).trans rfl
theorem d133_7 : zt_code 133 7 = some (.istore_n 3, 0, 0, 0) := (zf133 7).trans rfl
theorem d133_8 : zt_code 133 8 = some (.iload_n 3, 0, 0, 0) := (zf133 8).trans rfl
theorem d133_9 : zt_code 133 9 = some (.iconst (3), 0, 0, 0) := (zf133 9).trans rfl
theorem d133_10 : zt_code 133 10 = some (.if_icmp .gt (31), 0, 41, 0) := (zf133 10).trans rfl
theorem d133_13 : zt_code 133 13 = some (.aload_n 0, 0, 0, 0) := (zf133 13).trans rfl
theorem d133_14 : zt_code 133 14 = some (.iload_n 3, 0, 0, 0) := (zf133 14).trans rfl
theorem d133_15 : zt_code 133 15 = some (.invokevirtual 239, 119, 2, 4) := (zf133 15).trans rfl
theorem d133_18 : zt_code 133 18 = some (.aload_n 0, 0, 0, 0) := (zf133 18).trans rfl
theorem d133_19 : zt_code 133 19 = some (.invokevirtual 246, 124, 1, 4) := (zf133 19).trans rfl
theorem d133_22 : zt_code 133 22 = some (.istore 4, 0, 0, 0) := (zf133 22).trans rfl
theorem d133_24 : zt_code 133 24 = some (.iload 4, 0, 0, 0) := (zf133 24).trans rfl
theorem d133_26 : zt_code 133 26 = some (.iload_n 2, 0, 0, 0) := (zf133 26).trans rfl
theorem d133_27 : zt_code 133 27 = some (.if_icmp .ge (8), 0, 35, 0) := (zf133 27).trans rfl
theorem d133_30 : zt_code 133 30 = some (.iload 4, 0, 0, 0) := (zf133 30).trans rfl
theorem d133_32 : zt_code 133 32 = some (.istore_n 2, 0, 0, 0) := (zf133 32).trans rfl
theorem d133_33 : zt_code 133 33 = some (.iload_n 3, 0, 0, 0) := (zf133 33).trans rfl
theorem d133_34 : zt_code 133 34 = some (.istore_n 1, 0, 0, 0) := (zf133 34).trans rfl
theorem d133_35 : zt_code 133 35 = some (.iinc 3 (1), 0, 0, 0) := (zf133 35).trans rfl
theorem d133_38 : zt_code 133 38 = some (.goto (-30), 0, 8, 0) := (zf133 38).trans rfl
theorem d133_41 : zt_code 133 41 = some (.iload_n 1, 0, 0, 0) := (zf133 41).trans rfl
theorem d133_42 : zt_code 133 42 = some (.ireturn, 0, 0, 0) := (zf133 42).trans rfl
/-- FirstAtTheFirst.best()I -/
theorem vc133 {X : zX} {S : zx_S} {C : zx_C} {q : Int32 → zx_C → Prop} {e : Nat} (hS : zs_4 S e) (h : zW X 7 133 8 [.ref e, .int 0, .int 1000000, .int 0, .retAddr 0] [] S C (zQi q)) : zCd X 7 133 [.ref e] S C (zQi q) := by
  refine zc_in ml_133 rfl ?_
  refine zw_iconst (n := 1) d133_0 rfl zk_i_0 ?_
  refine zw_istore_n (n := 2) d133_1 rfl rfl rfl ?_
  refine zw_ldcw (n := 5) d133_2 rfl zk_i_1000000 ?_
  refine zw_istore_n (n := 6) d133_5 rfl rfl rfl ?_
  refine zw_iconst (n := 7) d133_6 rfl zk_i_0 ?_
  refine zw_istore_n (n := 8) d133_7 rfl rfl rfl ?_
  exact h
theorem vc133_8 {X : zX} {S : zx_S} {C : zx_C} {q : Int32 → zx_C → Prop} {e : Nat} {i1 : Int32} {i2 : Int32} {i3 : Int32} {z4 : Value} (hS : zs_4 S e) (h : if (3 : Int32) < i3 then (q i1 C) else (zCd X 6 119 [.ref e, .int i3] S C (zQv (fun C1 => zCd X 1 124 [.ref e] S C1 (zQi (fun r2 C2 => if (r2 : Int32) < i2 then (zW X 7 133 8 [.ref e, .int i3, .int r2, .int (i3 + 1), .int r2] [] S C2 (zQi q)) else (zW X 7 133 8 [.ref e, .int i1, .int i2, .int (i3 + 1), .int r2] [] S C2 (zQi q)))))))) : zW X 7 133 8 [.ref e, .int i1, .int i2, .int i3, z4] [] S C (zQi q) := by
  refine zw_iload_n (n := 9) d133_8 rfl rfl ?_
  refine zw_iconst (n := 10) d133_9 rfl zk_i_3 ?_
  refine zw_ic_gt (n := 13) d133_10 rfl (zite h (fun h => ?_) (fun h => ?_))
  · skip
    refine zw_iload_n (n := 42) d133_41 rfl rfl ?_
    exact zw_iret d133_42 rfl ⟨_, rfl, h⟩
  · skip
    refine zw_aload_n (n := 14) d133_13 rfl rfl ?_
    refine zw_iload_n (n := 15) d133_14 rfl rfl ?_
    refine zw_cV (n := 18) d133_15 (zs_V rfl rfl rfl rfl (by decide) (zj_4 hS).1 (zq_4 hS)) (by rw [ml_119]; rfl) (by decide) rfl (zc_mV h (fun C1 h => ?_))
    refine zw_aload_n (n := 19) d133_18 rfl rfl ?_
    refine zw_cI (n := 22) d133_19 (zs_V rfl rfl rfl rfl (by decide) (zj_4 hS).1 (zq_4 hS)) (by rw [ml_124]; rfl) (by decide) rfl (zc_mI h (fun r2 C2 h => ?_))
    refine zw_istore (n := 24) d133_22 rfl rfl rfl ?_
    refine zw_iload (n := 26) d133_24 rfl rfl ?_
    refine zw_iload_n (n := 27) d133_26 rfl rfl ?_
    refine zw_ic_ge (n := 30) d133_27 rfl (zite h (fun h => ?_) (fun h => ?_))
    · skip
      refine zw_iload (n := 32) d133_30 rfl rfl ?_
      refine zw_istore_n (n := 33) d133_32 rfl rfl rfl ?_
      refine zw_iload_n (n := 34) d133_33 rfl rfl ?_
      refine zw_istore_n (n := 35) d133_34 rfl rfl rfl ?_
      refine zw_iinc (n := 38) d133_35 rfl rfl zk_i_1 rfl ?_
      refine zw_goto d133_38 ?_
      exact h
    · skip
      refine zw_iinc (n := 38) d133_35 rfl rfl zk_i_1 rfl ?_
      refine zw_goto d133_38 ?_
      exact h

set_option maxRecDepth 20000 in
theorem zf134 (pc : Nat) : zt_code 134 pc = zt_fd zl_134 pc := rfl
theorem d134_0 : zt_code 134 0 = some (.iload_n 2, 0, 0, 0) := (zf134 0).trans rfl
theorem d134_1 : zt_code 134 1 = some (.invokestatic 62, 8, 1, -1) := (zf134 1).trans rfl
theorem d134_4 : zt_code 134 4 = some (.ifCond .eq (14), 0, 18, 0) := (zf134 4).trans rfl
theorem d134_7 : zt_code 134 7 = some (.aload_n 0, 0, 0, 0) := (zf134 7).trans rfl
theorem d134_8 : zt_code 134 8 = some (.getfield 12, 4, 0, 1) := (zf134 8).trans rfl
theorem d134_11 : zt_code 134 11 = some (.iload_n 1, 0, 0, 0) := (zf134 11).trans rfl
theorem d134_12 : zt_code 134 12 = some (.invokevirtual 102, 27, 2, 0) := (zf134 12).trans rfl
theorem d134_15 : zt_code 134 15 = some (.ifCond .ne (14), 0, 29, 0) := (zf134 15).trans rfl
theorem d134_18 : zt_code 134 18 = some (.ldc_w 257, 0, 0, -10000000) := (zf134 18).trans rfl
theorem d134_21 : zt_code 134 21 = some (.aload_n 0, 0, 0, 0) := (zf134 21).trans rfl
theorem d134_22 : zt_code 134 22 = some (.bipush (-2), 0, 0, 0) := (zf134 22).trans rfl
theorem d134_24 : zt_code 134 24 = some (.invokevirtual 69, 10, 2, 4) := (zf134 24).trans rfl
theorem d134_27 : zt_code 134 27 = some (.iadd, 0, 0, 0) := (zf134 27).trans rfl
theorem d134_28 : zt_code 134 28 = some (.ireturn, 0, 0, 0) := (zf134 28).trans rfl
theorem d134_29 : zt_code 134 29 = some (.aload_n 0, 0, 0, 0) := (zf134 29).trans rfl
theorem d134_30 : zt_code 134 30 = some (.getfield 32, 4, 4, 1) := (zf134 30).trans rfl
theorem d134_33 : zt_code 134 33 = some (.iload_n 2, 0, 0, 0) := (zf134 33).trans rfl
theorem d134_34 : zt_code 134 34 = some (.invokevirtual 77, 19, 2, 2) := (zf134 34).trans rfl
theorem d134_37 : zt_code 134 37 = some (.istore_n 3, 0, 0, 0) := (zf134 37).trans rfl
theorem d134_38 : zt_code 134 38 = some (.iload_n 3, 0, 0, 0) := (zf134 38).trans rfl
theorem d134_39 : zt_code 134 39 = some (.ifCond .eq (13), 0, 52, 0) := (zf134 39).trans rfl
theorem d134_42 : zt_code 134 42 = some (.ldc_w 257, 0, 0, -10000000) := (zf134 42).trans rfl
theorem d134_45 : zt_code 134 45 = some (.aload_n 0, 0, 0, 0) := (zf134 45).trans rfl
theorem d134_46 : zt_code 134 46 = some (.iload_n 3, 0, 0, 0) := (zf134 46).trans rfl
theorem d134_47 : zt_code 134 47 = some (.invokevirtual 69, 10, 2, 4) := (zf134 47).trans rfl
theorem d134_50 : zt_code 134 50 = some (.iadd, 0, 0, 0) := (zf134 50).trans rfl
theorem d134_51 : zt_code 134 51 = some (.ireturn, 0, 0, 0) := (zf134 51).trans rfl
theorem d134_52 : zt_code 134 52 = some (.aload_n 0, 0, 0, 0) := (zf134 52).trans rfl
theorem d134_53 : zt_code 134 53 = some (.getfield 32, 4, 4, 1) := (zf134 53).trans rfl
theorem d134_56 : zt_code 134 56 = some (.iload_n 2, 0, 0, 0) := (zf134 56).trans rfl
theorem d134_57 : zt_code 134 57 = some (.aload_n 0, 0, 0, 0) := (zf134 57).trans rfl
theorem d134_58 : zt_code 134 58 = some (.getfield 12, 4, 0, 1) := (zf134 58).trans rfl
theorem d134_61 : zt_code 134 61 = some (.getfield 132, 0, 1, 0) := (zf134 61).trans rfl
theorem d134_64 : zt_code 134 64 = some (.bipush (100), 0, 0, 0) := (zf134 64).trans rfl
theorem d134_66 : zt_code 134 66 = some (.invokevirtual 170, 77, 4, 2) := (zf134 66).trans rfl
theorem d134_69 : zt_code 134 69 = some (.ifCond .ne (14), 0, 83, 0) := (zf134 69).trans rfl
theorem d134_72 : zt_code 134 72 = some (.ldc_w 257, 0, 0, -10000000) := (zf134 72).trans rfl
theorem d134_75 : zt_code 134 75 = some (.aload_n 0, 0, 0, 0) := (zf134 75).trans rfl
theorem d134_76 : zt_code 134 76 = some (.bipush (-2), 0, 0, 0) := (zf134 76).trans rfl
theorem d134_78 : zt_code 134 78 = some (.invokevirtual 69, 10, 2, 4) := (zf134 78).trans rfl
theorem d134_81 : zt_code 134 81 = some (.iadd, 0, 0, 0) := (zf134 81).trans rfl
theorem d134_82 : zt_code 134 82 = some (.ireturn, 0, 0, 0) := (zf134 82).trans rfl
theorem d134_83 : zt_code 134 83 = some (.aload_n 0, 0, 0, 0) := (zf134 83).trans rfl
theorem d134_84 : zt_code 134 84 = some (.aload_n 0, 0, 0, 0) := (zf134 84).trans rfl
theorem d134_85 : zt_code 134 85 = some (.getfield 12, 4, 0, 1) := (zf134 85).trans rfl
theorem d134_88 : zt_code 134 88 = some (.getfield 167, 0, 2, 0) := (zf134 88).trans rfl
theorem d134_91 : zt_code 134 91 = some (.invokevirtual 239, 119, 2, 4) := (zf134 91).trans rfl
theorem d134_94 : zt_code 134 94 = some (.aload_n 0, 0, 0, 0) := (zf134 94).trans rfl
theorem d134_95 : zt_code 134 95 = some (.getfield 53, 4, 11, 1) := (zf134 95).trans rfl
theorem d134_98 : zt_code 134 98 = some (.iload_n 1, 0, 0, 0) := (zf134 98).trans rfl
theorem d134_99 : zt_code 134 99 = some (.invokestatic 242, 11, 2, -1) := (zf134 99).trans rfl
theorem d134_102 : zt_code 134 102 = some (.istore 4, 0, 0, 0) := (zf134 102).trans rfl
theorem d134_104 : zt_code 134 104 = some (.aload_n 0, 0, 0, 0) := (zf134 104).trans rfl
theorem d134_105 : zt_code 134 105 = some (.getfield 47, 4, 8, 1) := (zf134 105).trans rfl
theorem d134_108 : zt_code 134 108 = some (.aload_n 0, 0, 0, 0) := (zf134 108).trans rfl
theorem d134_109 : zt_code 134 109 = some (.getfield 12, 4, 0, 1) := (zf134 109).trans rfl
theorem d134_112 : zt_code 134 112 = some (.invokevirtual 258, 38, 2, 1) := (zf134 112).trans rfl
theorem d134_115 : zt_code 134 115 = some (.iconst (0), 0, 0, 0) := (zf134 115).trans rfl
theorem d134_116 : zt_code 134 116 = some (.istore 5, 0, 0, 0) := (zf134 116).trans rfl
theorem d134_118 : zt_code 134 118 = some (.iload 5, 0, 0, 0) := (zf134 118).trans rfl
theorem d134_120 : zt_code 134 120 = some (.aload_n 0, 0, 0, 0) := (zf134 120).trans rfl
theorem d134_121 : zt_code 134 121 = some (.getfield 12, 4, 0, 1) := (zf134 121).trans rfl
theorem d134_124 : zt_code 134 124 = some (.getfield 132, 0, 1, 0) := (zf134 124).trans rfl
theorem d134_127 : zt_code 134 127 = some (.if_icmp .ge (37), 0, 164, 0) := (zf134 127).trans rfl
theorem d134_130 : zt_code 134 130 = some (.aload_n 0, 0, 0, 0) := (zf134 130).trans rfl
theorem d134_131 : zt_code 134 131 = some (.getfield 47, 4, 8, 1) := (zf134 131).trans rfl
theorem d134_134 : zt_code 134 134 = some (.getfield 261, 1, 0, 1) := (zf134 134).trans rfl
theorem d134_137 : zt_code 134 137 = some (.iload_n 1, 0, 0, 0) := (zf134 137).trans rfl
theorem d134_138 : zt_code 134 138 = some (.bipush (8), 0, 0, 0) := (zf134 138).trans rfl
theorem d134_140 : zt_code 134 140 = some (.imul, 0, 0, 0) := (zf134 140).trans rfl
theorem d134_141 : zt_code 134 141 = some (.iload 5, 0, 0, 0) := (zf134 141).trans rfl
theorem d134_143 : zt_code 134 143 = some (.iadd, 0, 0, 0) := (zf134 143).trans rfl
theorem d134_144 : zt_code 134 144 = some (.aload_n 0, 0, 0, 0) := (zf134 144).trans rfl
theorem d134_145 : zt_code 134 145 = some (.getfield 32, 4, 4, 1) := (zf134 145).trans rfl
theorem d134_148 : zt_code 134 148 = some (.iload_n 2, 0, 0, 0) := (zf134 148).trans rfl
theorem d134_149 : zt_code 134 149 = some (.iload 5, 0, 0, 0) := (zf134 149).trans rfl
theorem d134_151 : zt_code 134 151 = some (.invokevirtual 95, 23, 3, 2) := (zf134 151).trans rfl
theorem d134_154 : zt_code 134 154 = some (.l2i, 0, 0, 0) := (zf134 154).trans rfl
theorem d134_155 : zt_code 134 155 = some (.invokestatic 157, 12, 3, -1) := (zf134 155).trans rfl
theorem d134_158 : zt_code 134 158 = some (.iinc 5 (1), 0, 0, 0) := (zf134 158).trans rfl
theorem d134_161 : zt_code 134 161 = some (.goto (-43), 0, 118, 0) := (zf134 161).trans rfl
theorem d134_164 : zt_code 134 164 = some (.aload_n 0, 0, 0, 0) := (zf134 164).trans rfl
theorem d134_165 : zt_code 134 165 = some (.getfield 47, 4, 8, 1) := (zf134 165).trans rfl
theorem d134_168 : zt_code 134 168 = some (.aload_n 0, 0, 0, 0) := (zf134 168).trans rfl
theorem d134_169 : zt_code 134 169 = some (.getfield 12, 4, 0, 1) := (zf134 169).trans rfl
theorem d134_172 : zt_code 134 172 = some (.aload_n 0, 0, 0, 0) := (zf134 172).trans rfl
theorem d134_173 : zt_code 134 173 = some (.getfield 12, 4, 0, 1) := (zf134 173).trans rfl
theorem d134_176 : zt_code 134 176 = some (.getfield 167, 0, 2, 0) := (zf134 176).trans rfl
theorem d134_179 : zt_code 134 179 = some (.invokevirtual 227, 45, 3, 1) := (zf134 179).trans rfl
theorem d134_182 : zt_code 134 182 = some (.aload_n 0, 0, 0, 0) := (zf134 182).trans rfl
theorem d134_183 : zt_code 134 183 = some (.aload_n 0, 0, 0, 0) := (zf134 183).trans rfl
theorem d134_184 : zt_code 134 184 = some (.getfield 47, 4, 8, 1) := (zf134 184).trans rfl
theorem d134_187 : zt_code 134 187 = some (.iload_n 1, 0, 0, 0) := (zf134 187).trans rfl
theorem d134_188 : zt_code 134 188 = some (.invokevirtual 262, 120, 3, 4) := (zf134 188).trans rfl
theorem d134_191 : zt_code 134 191 = some (.aload_n 0, 0, 0, 0) := (zf134 191).trans rfl
theorem d134_192 : zt_code 134 192 = some (.getfield 53, 4, 11, 1) := (zf134 192).trans rfl
theorem d134_195 : zt_code 134 195 = some (.iload_n 1, 0, 0, 0) := (zf134 195).trans rfl
theorem d134_196 : zt_code 134 196 = some (.invokestatic 242, 11, 2, -1) := (zf134 196).trans rfl
theorem d134_199 : zt_code 134 199 = some (.iload 4, 0, 0, 0) := (zf134 199).trans rfl
theorem d134_201 : zt_code 134 201 = some (.isub, 0, 0, 0) := (zf134 201).trans rfl
theorem d134_202 : zt_code 134 202 = some (.ireturn, 0, 0, 0) := (zf134 202).trans rfl
/-- FirstAtTheFirst.sham(II)I -/
theorem vc134 {X : zX} {S : zx_S} {C : zx_C} {q : Int32 → zx_C → Prop} {e : Nat} {a1 : Int32} {a2 : Int32} (hS : zs_4 S e) (h : zCd X 0 8 [.int a2] S C (zQi (fun r1 C1 => if (r1 : Int32) = 0 then (zCd X 1 10 [.ref e, .int (-2)] S C1 (zQi (fun r2 C2 => q ((-10000000) + r2) C2))) else (zCd X 0 27 [.ref (e + 1), .int a1] S C1 (zQi (fun r3 C3 => if (r3 : Int32) = 0 then (zCd X 1 10 [.ref e, .int (-2)] S C3 (zQi (fun r4 C4 => q ((-10000000) + r4) C4))) else (zCd X 2 19 [.ref (e + 18), .int a2] S C3 (zQi (fun r5 C5 => if (r5 : Int32) = 0 then (zCd X 4 77 [.ref (e + 18), .int a2, .int (C5.1 (e + 1) 1), .int 100] S C5 (zQi (fun r6 C6 => if (r6 : Int32) = 0 then (zCd X 1 10 [.ref e, .int (-2)] S C6 (zQi (fun r7 C7 => q ((-10000000) + r7) C7))) else (zCd X 6 119 [.ref e, .int (C6.1 (e + 1) 2)] S C6 (zQv (fun C8 => zCd X 0 11 [.ref (e + 39), .int a1] S C8 (zQi (fun r9 C9 => zCd X 3 38 [.ref (e + 31), .ref (e + 1)] S C9 (zQv (fun C10 => zW X 7 134 118 [.ref e, .int a1, .int a2, .int r5, .int r9, .int 0] [] S C10 (zQi q))))))))))) else (zCd X 1 10 [.ref e, .int r5] S C5 (zQi (fun r11 C11 => q ((-10000000) + r11) C11)))))))))))) : zCd X 7 134 [.ref e, .int a1, .int a2] S C (zQi q) := by
  refine zc_in ml_134 rfl ?_
  refine zw_iload_n (n := 1) d134_0 rfl rfl ?_
  refine zw_cI (n := 4) d134_1 (zs_S rfl rfl rfl rfl) (by rw [ml_8]; rfl) (by decide) rfl (zc_mI h (fun r1 C1 h => ?_))
  refine zw_if_eq (n := 7) d134_4 rfl (zite h (fun h => ?_) (fun h => ?_))
  · skip
    refine zw_ldcw (n := 21) d134_18 rfl zk_i_m10000000 ?_
    refine zw_aload_n (n := 22) d134_21 rfl rfl ?_
    refine zw_bipush (n := 24) d134_22 rfl zk_b_m2 ?_
    refine zw_cI (n := 27) d134_24 (zs_V rfl rfl rfl rfl (by decide) (zj_4 hS).1 (zq_4 hS)) (by rw [ml_10]; rfl) (by decide) rfl (zc_mI h (fun r2 C2 h => ?_))
    refine zw_iadd (n := 28) d134_27 rfl ?_
    exact zw_iret d134_28 rfl ⟨_, rfl, h⟩
  · skip
    refine zw_aload_n (n := 8) d134_7 rfl rfl ?_
    refine zw_getr (n := 11) d134_8 rfl (zj_4 hS).1 (zj_4 hS).2 (zr_4_0 hS) ?_
    refine zw_iload_n (n := 12) d134_11 rfl rfl ?_
    refine zw_cI (n := 15) d134_12 (zs_V rfl rfl rfl rfl (by decide) (zj_0 (zo_4_0 hS)).1 (zq_0 (zo_4_0 hS))) (by rw [ml_27]; rfl) (by decide) rfl (zc_mI h (fun r3 C3 h => ?_))
    refine zw_if_ne (n := 18) d134_15 rfl (zite h (fun h => ?_) (fun h => ?_))
    · skip
      refine zw_ldcw (n := 21) d134_18 rfl zk_i_m10000000 ?_
      refine zw_aload_n (n := 22) d134_21 rfl rfl ?_
      refine zw_bipush (n := 24) d134_22 rfl zk_b_m2 ?_
      refine zw_cI (n := 27) d134_24 (zs_V rfl rfl rfl rfl (by decide) (zj_4 hS).1 (zq_4 hS)) (by rw [ml_10]; rfl) (by decide) rfl (zc_mI h (fun r4 C4 h => ?_))
      refine zw_iadd (n := 28) d134_27 rfl ?_
      exact zw_iret d134_28 rfl ⟨_, rfl, h⟩
    · skip
      refine zw_aload_n (n := 30) d134_29 rfl rfl ?_
      refine zw_getr (n := 33) d134_30 rfl (zj_4 hS).1 (zj_4 hS).2 (zr_4_4 hS) ?_
      refine zw_iload_n (n := 34) d134_33 rfl rfl ?_
      refine zw_cI (n := 37) d134_34 (zs_V rfl rfl rfl rfl (by decide) (zj_2 (zo_4_4 hS)).1 (zq_2 (zo_4_4 hS))) (by rw [ml_19]; rfl) (by decide) rfl (zc_mI h (fun r5 C5 h => ?_))
      refine zw_istore_n (n := 38) d134_37 rfl rfl rfl ?_
      refine zw_iload_n (n := 39) d134_38 rfl rfl ?_
      refine zw_if_eq (n := 42) d134_39 rfl (zite h (fun h => ?_) (fun h => ?_))
      · skip
        refine zw_aload_n (n := 53) d134_52 rfl rfl ?_
        refine zw_getr (n := 56) d134_53 rfl (zj_4 hS).1 (zj_4 hS).2 (zr_4_4 hS) ?_
        refine zw_iload_n (n := 57) d134_56 rfl rfl ?_
        refine zw_aload_n (n := 58) d134_57 rfl rfl ?_
        refine zw_getr (n := 61) d134_58 rfl (zj_4 hS).1 (zj_4 hS).2 (zr_4_0 hS) ?_
        refine zw_geti (n := 64) d134_61 rfl (zj_0 (zo_4_0 hS)).1 (zj_0 (zo_4_0 hS)).2 ?_
        refine zw_bipush (n := 66) d134_64 rfl zk_b_100 ?_
        refine zw_cI (n := 69) d134_66 (zs_V rfl rfl rfl rfl (by decide) (zj_2 (zo_4_4 hS)).1 (zq_2 (zo_4_4 hS))) (by rw [ml_77]; rfl) (by decide) rfl (zc_mI h (fun r6 C6 h => ?_))
        refine zw_if_ne (n := 72) d134_69 rfl (zite h (fun h => ?_) (fun h => ?_))
        · skip
          refine zw_ldcw (n := 75) d134_72 rfl zk_i_m10000000 ?_
          refine zw_aload_n (n := 76) d134_75 rfl rfl ?_
          refine zw_bipush (n := 78) d134_76 rfl zk_b_m2 ?_
          refine zw_cI (n := 81) d134_78 (zs_V rfl rfl rfl rfl (by decide) (zj_4 hS).1 (zq_4 hS)) (by rw [ml_10]; rfl) (by decide) rfl (zc_mI h (fun r7 C7 h => ?_))
          refine zw_iadd (n := 82) d134_81 rfl ?_
          exact zw_iret d134_82 rfl ⟨_, rfl, h⟩
        · skip
          refine zw_aload_n (n := 84) d134_83 rfl rfl ?_
          refine zw_aload_n (n := 85) d134_84 rfl rfl ?_
          refine zw_getr (n := 88) d134_85 rfl (zj_4 hS).1 (zj_4 hS).2 (zr_4_0 hS) ?_
          refine zw_geti (n := 91) d134_88 rfl (zj_0 (zo_4_0 hS)).1 (zj_0 (zo_4_0 hS)).2 ?_
          refine zw_cV (n := 94) d134_91 (zs_V rfl rfl rfl rfl (by decide) (zj_4 hS).1 (zq_4 hS)) (by rw [ml_119]; rfl) (by decide) rfl (zc_mV h (fun C8 h => ?_))
          refine zw_aload_n (n := 95) d134_94 rfl rfl ?_
          refine zw_getr (n := 98) d134_95 rfl (zj_4 hS).1 (zj_4 hS).2 (zr_4_11 hS) ?_
          refine zw_iload_n (n := 99) d134_98 rfl rfl ?_
          refine zw_cI (n := 102) d134_99 (zs_S rfl rfl rfl rfl) (by rw [ml_11]; rfl) (by decide) rfl (zc_mI h (fun r9 C9 h => ?_))
          refine zw_istore (n := 104) d134_102 rfl rfl rfl ?_
          refine zw_aload_n (n := 105) d134_104 rfl rfl ?_
          refine zw_getr (n := 108) d134_105 rfl (zj_4 hS).1 (zj_4 hS).2 (zr_4_8 hS) ?_
          refine zw_aload_n (n := 109) d134_108 rfl rfl ?_
          refine zw_getr (n := 112) d134_109 rfl (zj_4 hS).1 (zj_4 hS).2 (zr_4_0 hS) ?_
          refine zw_cV (n := 115) d134_112 (zs_V rfl rfl rfl rfl (by decide) (zj_1 (zo_4_8 hS)).1 (zq_1 (zo_4_8 hS))) (by rw [ml_38]; rfl) (by decide) rfl (zc_mV h (fun C10 h => ?_))
          refine zw_iconst (n := 116) d134_115 rfl zk_i_0 ?_
          refine zw_istore (n := 118) d134_116 rfl rfl rfl ?_
          exact h
      · skip
        refine zw_ldcw (n := 45) d134_42 rfl zk_i_m10000000 ?_
        refine zw_aload_n (n := 46) d134_45 rfl rfl ?_
        refine zw_iload_n (n := 47) d134_46 rfl rfl ?_
        refine zw_cI (n := 50) d134_47 (zs_V rfl rfl rfl rfl (by decide) (zj_4 hS).1 (zq_4 hS)) (by rw [ml_10]; rfl) (by decide) rfl (zc_mI h (fun r11 C11 h => ?_))
        refine zw_iadd (n := 51) d134_50 rfl ?_
        exact zw_iret d134_51 rfl ⟨_, rfl, h⟩
theorem vc134_118 {X : zX} {S : zx_S} {C : zx_C} {q : Int32 → zx_C → Prop} {e : Nat} {a1 : Int32} {a2 : Int32} {i1 : Int32} {i2 : Int32} {z3 : Value} {i4 : Int32} {i5 : Int32} (hS : zs_4 S e) (h : if (i5 : Int32) < (C.1 (e + 1) 1) then (zCd X 3 23 [.ref (e + 18), .int i2, .int i5] S C (zQl (fun r1 C1 => zCd X 0 12 [.ref ((e + 31) + 1), .int ((i1 * 8) + i5), .int (Int64.toInt32 r1)] S C1 (zQv (fun C2 => zW X 7 134 118 [.ref e, .int i1, .int i2, z3, .int i4, .int (i5 + 1)] [] S C2 (zQi q)))))) else (zCd X 2 45 [.ref (e + 31), .ref (e + 1), .int (C.1 (e + 1) 2)] S C (zQv (fun C3 => zCd X 5 120 [.ref e, .ref (e + 31), .int i1] S C3 (zQv (fun C4 => zCd X 0 11 [.ref (e + 39), .int i1] S C4 (zQi (fun r5 C5 => q (r5 - i4) C5)))))))) : zW X 7 134 118 [.ref e, .int i1, .int i2, z3, .int i4, .int i5] [] S C (zQi q) := by
  refine zw_iload (n := 120) d134_118 rfl rfl ?_
  refine zw_aload_n (n := 121) d134_120 rfl rfl ?_
  refine zw_getr (n := 124) d134_121 rfl (zj_4 hS).1 (zj_4 hS).2 (zr_4_0 hS) ?_
  refine zw_geti (n := 127) d134_124 rfl (zj_0 (zo_4_0 hS)).1 (zj_0 (zo_4_0 hS)).2 ?_
  refine zw_ic_ge (n := 130) d134_127 rfl (zite h (fun h => ?_) (fun h => ?_))
  · skip
    refine zw_aload_n (n := 131) d134_130 rfl rfl ?_
    refine zw_getr (n := 134) d134_131 rfl (zj_4 hS).1 (zj_4 hS).2 (zr_4_8 hS) ?_
    refine zw_getr (n := 137) d134_134 rfl (zj_1 (zo_4_8 hS)).1 (zj_1 (zo_4_8 hS)).2 (zr_1_0 (zo_4_8 hS)) ?_
    refine zw_iload_n (n := 138) d134_137 rfl rfl ?_
    refine zw_bipush (n := 140) d134_138 rfl zk_b_8 ?_
    refine zw_imul (n := 141) d134_140 rfl ?_
    refine zw_iload (n := 143) d134_141 rfl rfl ?_
    refine zw_iadd (n := 144) d134_143 rfl ?_
    refine zw_aload_n (n := 145) d134_144 rfl rfl ?_
    refine zw_getr (n := 148) d134_145 rfl (zj_4 hS).1 (zj_4 hS).2 (zr_4_4 hS) ?_
    refine zw_iload_n (n := 149) d134_148 rfl rfl ?_
    refine zw_iload (n := 151) d134_149 rfl rfl ?_
    refine zw_cL (n := 154) d134_151 (zs_V rfl rfl rfl rfl (by decide) (zj_2 (zo_4_4 hS)).1 (zq_2 (zo_4_4 hS))) (by rw [ml_23]; rfl) (by decide) rfl (zc_mL h (fun r1 C1 h => ?_))
    refine zw_l2i (n := 155) d134_154 rfl ?_
    refine zw_cV (n := 158) d134_155 (zs_S rfl rfl rfl rfl) (by rw [ml_12]; rfl) (by decide) rfl (zc_mV h (fun C2 h => ?_))
    refine zw_iinc (n := 161) d134_158 rfl rfl zk_i_1 rfl ?_
    refine zw_goto d134_161 ?_
    exact h
  · skip
    refine zw_aload_n (n := 165) d134_164 rfl rfl ?_
    refine zw_getr (n := 168) d134_165 rfl (zj_4 hS).1 (zj_4 hS).2 (zr_4_8 hS) ?_
    refine zw_aload_n (n := 169) d134_168 rfl rfl ?_
    refine zw_getr (n := 172) d134_169 rfl (zj_4 hS).1 (zj_4 hS).2 (zr_4_0 hS) ?_
    refine zw_aload_n (n := 173) d134_172 rfl rfl ?_
    refine zw_getr (n := 176) d134_173 rfl (zj_4 hS).1 (zj_4 hS).2 (zr_4_0 hS) ?_
    refine zw_geti (n := 179) d134_176 rfl (zj_0 (zo_4_0 hS)).1 (zj_0 (zo_4_0 hS)).2 ?_
    refine zw_cV (n := 182) d134_179 (zs_V rfl rfl rfl rfl (by decide) (zj_1 (zo_4_8 hS)).1 (zq_1 (zo_4_8 hS))) (by rw [ml_45]; rfl) (by decide) rfl (zc_mV h (fun C3 h => ?_))
    refine zw_aload_n (n := 183) d134_182 rfl rfl ?_
    refine zw_aload_n (n := 184) d134_183 rfl rfl ?_
    refine zw_getr (n := 187) d134_184 rfl (zj_4 hS).1 (zj_4 hS).2 (zr_4_8 hS) ?_
    refine zw_iload_n (n := 188) d134_187 rfl rfl ?_
    refine zw_cV (n := 191) d134_188 (zs_V rfl rfl rfl rfl (by decide) (zj_4 hS).1 (zq_4 hS)) (by rw [ml_120]; rfl) (by decide) rfl (zc_mV h (fun C4 h => ?_))
    refine zw_aload_n (n := 192) d134_191 rfl rfl ?_
    refine zw_getr (n := 195) d134_192 rfl (zj_4 hS).1 (zj_4 hS).2 (zr_4_11 hS) ?_
    refine zw_iload_n (n := 196) d134_195 rfl rfl ?_
    refine zw_cI (n := 199) d134_196 (zs_S rfl rfl rfl rfl) (by rw [ml_11]; rfl) (by decide) rfl (zc_mI h (fun r5 C5 h => ?_))
    refine zw_iload (n := 201) d134_199 rfl rfl ?_
    refine zw_isub (n := 202) d134_201 rfl ?_
    exact zw_iret d134_202 rfl ⟨_, rfl, h⟩

set_option maxRecDepth 20000 in
theorem zf135 (pc : Nat) : zt_code 135 pc = zt_fd zl_135 pc := rfl
theorem d135_0 : zt_code 135 0 = some (.aload_n 0, 0, 0, 0) := (zf135 0).trans rfl
theorem d135_1 : zt_code 135 1 = some (.iload_n 1, 0, 0, 0) := (zf135 1).trans rfl
theorem d135_2 : zt_code 135 2 = some (.iload_n 2, 0, 0, 0) := (zf135 2).trans rfl
theorem d135_3 : zt_code 135 3 = some (.iconst (0), 0, 0, 0) := (zf135 3).trans rfl
theorem d135_4 : zt_code 135 4 = some (.invokevirtual 266, 136, 4, 4) := (zf135 4).trans rfl
theorem d135_7 : zt_code 135 7 = some (.istore_n 3, 0, 0, 0) := (zf135 7).trans rfl
theorem d135_8 : zt_code 135 8 = some (.iload_n 3, 0, 0, 0) := (zf135 8).trans rfl
theorem d135_9 : zt_code 135 9 = some (.ifCond .eq (11), 0, 20, 0) := (zf135 9).trans rfl
theorem d135_12 : zt_code 135 12 = some (.aload_n 0, 0, 0, 0) := (zf135 12).trans rfl
theorem d135_13 : zt_code 135 13 = some (.iload_n 3, 0, 0, 0) := (zf135 13).trans rfl
theorem d135_14 : zt_code 135 14 = some (.invokevirtual 69, 10, 2, 4) := (zf135 14).trans rfl
theorem d135_17 : zt_code 135 17 = some (.goto (10), 0, 27, 0) := (zf135 17).trans rfl
theorem d135_20 : zt_code 135 20 = some (.aload_n 0, 0, 0, 0) := (zf135 20).trans rfl
theorem d135_21 : zt_code 135 21 = some (.iload_n 1, 0, 0, 0) := (zf135 21).trans rfl
theorem d135_22 : zt_code 135 22 = some (.iload_n 2, 0, 0, 0) := (zf135 22).trans rfl
theorem d135_23 : zt_code 135 23 = some (.iconst (-1), 0, 0, 0) := (zf135 23).trans rfl
theorem d135_24 : zt_code 135 24 = some (.invokevirtual 270, 137, 4, 4) := (zf135 24).trans rfl
theorem d135_27 : zt_code 135 27 = some (.ireturn, 0, 0, 0) := (zf135 27).trans rfl
/-- FirstAtTheFirst.judge(II)I -/
theorem vc135 {X : zX} {S : zx_S} {C : zx_C} {q : Int32 → zx_C → Prop} {e : Nat} {a1 : Int32} {a2 : Int32} (hS : zs_4 S e) (h : zCd X 3 136 [.ref e, .int a1, .int a2, .int 0] S C (zQi (fun r1 C1 => if (r1 : Int32) = 0 then (zCd X 4 137 [.ref e, .int a1, .int a2, .int (-1)] S C1 (zQi (fun r2 C2 => q r2 C2))) else (zCd X 1 10 [.ref e, .int r1] S C1 (zQi (fun r3 C3 => q r3 C3)))))) : zCd X 5 135 [.ref e, .int a1, .int a2] S C (zQi q) := by
  refine zc_in ml_135 rfl ?_
  refine zw_aload_n (n := 1) d135_0 rfl rfl ?_
  refine zw_iload_n (n := 2) d135_1 rfl rfl ?_
  refine zw_iload_n (n := 3) d135_2 rfl rfl ?_
  refine zw_iconst (n := 4) d135_3 rfl zk_i_0 ?_
  refine zw_cI (n := 7) d135_4 (zs_V rfl rfl rfl rfl (by decide) (zj_4 hS).1 (zq_4 hS)) (by rw [ml_136]; rfl) (by decide) rfl (zc_mI h (fun r1 C1 h => ?_))
  refine zw_istore_n (n := 8) d135_7 rfl rfl rfl ?_
  refine zw_iload_n (n := 9) d135_8 rfl rfl ?_
  refine zw_if_eq (n := 12) d135_9 rfl (zite h (fun h => ?_) (fun h => ?_))
  · skip
    refine zw_aload_n (n := 21) d135_20 rfl rfl ?_
    refine zw_iload_n (n := 22) d135_21 rfl rfl ?_
    refine zw_iload_n (n := 23) d135_22 rfl rfl ?_
    refine zw_iconst (n := 24) d135_23 rfl zk_i_m1 ?_
    refine zw_cI (n := 27) d135_24 (zs_V rfl rfl rfl rfl (by decide) (zj_4 hS).1 (zq_4 hS)) (by rw [ml_137]; rfl) (by decide) rfl (zc_mI h (fun r2 C2 h => ?_))
    exact zw_iret d135_27 rfl ⟨_, rfl, h⟩
  · skip
    refine zw_aload_n (n := 13) d135_12 rfl rfl ?_
    refine zw_iload_n (n := 14) d135_13 rfl rfl ?_
    refine zw_cI (n := 17) d135_14 (zs_V rfl rfl rfl rfl (by decide) (zj_4 hS).1 (zq_4 hS)) (by rw [ml_10]; rfl) (by decide) rfl (zc_mI h (fun r3 C3 h => ?_))
    refine zw_goto d135_17 ?_
    exact zw_iret d135_27 rfl ⟨_, rfl, h⟩

set_option maxRecDepth 20000 in
theorem zf136 (pc : Nat) : zt_code 136 pc = zt_fd zl_136 pc := rfl
theorem d136_0 : zt_code 136 0 = some (.iload_n 1, 0, 0, 0) := (zf136 0).trans rfl
theorem d136_1 : zt_code 136 1 = some (.invokestatic 62, 8, 1, -1) := (zf136 1).trans rfl
theorem d136_4 : zt_code 136 4 = some (.ifCond .eq (14), 0, 18, 0) := (zf136 4).trans rfl
theorem d136_7 : zt_code 136 7 = some (.iload_n 2, 0, 0, 0) := (zf136 7).trans rfl
theorem d136_8 : zt_code 136 8 = some (.iload_n 3, 0, 0, 0) := (zf136 8).trans rfl
theorem d136_9 : zt_code 136 9 = some (.if_icmp .lt (9), 0, 18, 0) := (zf136 9).trans rfl
theorem d136_12 : zt_code 136 12 = some (.iload_n 2, 0, 0, 0) := (zf136 12).trans rfl
theorem d136_13 : zt_code 136 13 = some (.bipush (8), 0, 0, 0) := (zf136 13).trans rfl
theorem d136_15 : zt_code 136 15 = some (.if_icmp .le (6), 0, 21, 0) := (zf136 15).trans rfl
theorem d136_18 : zt_code 136 18 = some (.bipush (-2), 0, 0, 0) := (zf136 18).trans rfl
theorem d136_20 : zt_code 136 20 = some (.ireturn, 0, 0, 0) := (zf136 20).trans rfl
theorem d136_21 : zt_code 136 21 = some (.aload_n 0, 0, 0, 0) := (zf136 21).trans rfl
theorem d136_22 : zt_code 136 22 = some (.getfield 32, 4, 4, 1) := (zf136 22).trans rfl
theorem d136_25 : zt_code 136 25 = some (.iload_n 1, 0, 0, 0) := (zf136 25).trans rfl
theorem d136_26 : zt_code 136 26 = some (.invokevirtual 77, 19, 2, 2) := (zf136 26).trans rfl
theorem d136_29 : zt_code 136 29 = some (.istore 4, 0, 0, 0) := (zf136 29).trans rfl
theorem d136_31 : zt_code 136 31 = some (.iload 4, 0, 0, 0) := (zf136 31).trans rfl
theorem d136_33 : zt_code 136 33 = some (.ifCond .eq (6), 0, 39, 0) := (zf136 33).trans rfl
theorem d136_36 : zt_code 136 36 = some (.iload 4, 0, 0, 0) := (zf136 36).trans rfl
theorem d136_38 : zt_code 136 38 = some (.ireturn, 0, 0, 0) := (zf136 38).trans rfl
theorem d136_39 : zt_code 136 39 = some (.iload_n 2, 0, 0, 0) := (zf136 39).trans rfl
theorem d136_40 : zt_code 136 40 = some (.aload_n 0, 0, 0, 0) := (zf136 40).trans rfl
theorem d136_41 : zt_code 136 41 = some (.getfield 32, 4, 4, 1) := (zf136 41).trans rfl
theorem d136_44 : zt_code 136 44 = some (.iload_n 1, 0, 0, 0) := (zf136 44).trans rfl
theorem d136_45 : zt_code 136 45 = some (.invokevirtual 80, 15, 2, 2) := (zf136 45).trans rfl
theorem d136_48 : zt_code 136 48 = some (.if_icmp .le (8), 0, 56, 0) := (zf136 48).trans rfl
theorem d136_51 : zt_code 136 51 = some (.bipush (-2), 0, 0, 0) := (zf136 51).trans rfl
theorem d136_53 : zt_code 136 53 = some (.goto (4), 0, 57, 0) := (zf136 53).trans rfl
theorem d136_56 : zt_code 136 56 = some (.iconst (0), 0, 0, 0) := (zf136 56).trans rfl
theorem d136_57 : zt_code 136 57 = some (.ireturn, 0, 0, 0) := (zf136 57).trans rfl
/-- FirstAtTheFirst.bookTrouble(III)I -/
theorem vc136 {X : zX} {S : zx_S} {C : zx_C} {q : Int32 → zx_C → Prop} {e : Nat} {a1 : Int32} {a2 : Int32} {a3 : Int32} (hS : zs_4 S e) (h : zCd X 0 8 [.int a1] S C (zQi (fun r1 C1 => if (r1 : Int32) = 0 then (q (-2) C1) else (if (a2 : Int32) < a3 then (q (-2) C1) else (if (8 : Int32) < a2 then (q (-2) C1) else (zCd X 2 19 [.ref (e + 18), .int a1] S C1 (zQi (fun r2 C2 => if (r2 : Int32) = 0 then (zCd X 2 15 [.ref (e + 18), .int a1] S C2 (zQi (fun r3 C3 => if (r3 : Int32) < a2 then (q (-2) C3) else (q 0 C3)))) else (q r2 C2))))))))) : zCd X 3 136 [.ref e, .int a1, .int a2, .int a3] S C (zQi q) := by
  refine zc_in ml_136 rfl ?_
  refine zw_iload_n (n := 1) d136_0 rfl rfl ?_
  refine zw_cI (n := 4) d136_1 (zs_S rfl rfl rfl rfl) (by rw [ml_8]; rfl) (by decide) rfl (zc_mI h (fun r1 C1 h => ?_))
  refine zw_if_eq (n := 7) d136_4 rfl (zite h (fun h => ?_) (fun h => ?_))
  · skip
    refine zw_bipush (n := 20) d136_18 rfl zk_b_m2 ?_
    exact zw_iret d136_20 rfl ⟨_, rfl, h⟩
  · skip
    refine zw_iload_n (n := 8) d136_7 rfl rfl ?_
    refine zw_iload_n (n := 9) d136_8 rfl rfl ?_
    refine zw_ic_lt (n := 12) d136_9 rfl (zite h (fun h => ?_) (fun h => ?_))
    · skip
      refine zw_bipush (n := 20) d136_18 rfl zk_b_m2 ?_
      exact zw_iret d136_20 rfl ⟨_, rfl, h⟩
    · skip
      refine zw_iload_n (n := 13) d136_12 rfl rfl ?_
      refine zw_bipush (n := 15) d136_13 rfl zk_b_8 ?_
      refine zw_ic_le (n := 18) d136_15 rfl (zite h (fun h => ?_) (fun h => ?_))
      · skip
        refine zw_bipush (n := 20) d136_18 rfl zk_b_m2 ?_
        exact zw_iret d136_20 rfl ⟨_, rfl, h⟩
      · skip
        refine zw_aload_n (n := 22) d136_21 rfl rfl ?_
        refine zw_getr (n := 25) d136_22 rfl (zj_4 hS).1 (zj_4 hS).2 (zr_4_4 hS) ?_
        refine zw_iload_n (n := 26) d136_25 rfl rfl ?_
        refine zw_cI (n := 29) d136_26 (zs_V rfl rfl rfl rfl (by decide) (zj_2 (zo_4_4 hS)).1 (zq_2 (zo_4_4 hS))) (by rw [ml_19]; rfl) (by decide) rfl (zc_mI h (fun r2 C2 h => ?_))
        refine zw_istore (n := 31) d136_29 rfl rfl rfl ?_
        refine zw_iload (n := 33) d136_31 rfl rfl ?_
        refine zw_if_eq (n := 36) d136_33 rfl (zite h (fun h => ?_) (fun h => ?_))
        · skip
          refine zw_iload_n (n := 40) d136_39 rfl rfl ?_
          refine zw_aload_n (n := 41) d136_40 rfl rfl ?_
          refine zw_getr (n := 44) d136_41 rfl (zj_4 hS).1 (zj_4 hS).2 (zr_4_4 hS) ?_
          refine zw_iload_n (n := 45) d136_44 rfl rfl ?_
          refine zw_cI (n := 48) d136_45 (zs_V rfl rfl rfl rfl (by decide) (zj_2 (zo_4_4 hS)).1 (zq_2 (zo_4_4 hS))) (by rw [ml_15]; rfl) (by decide) rfl (zc_mI h (fun r3 C3 h => ?_))
          refine zw_ic_le (n := 51) d136_48 rfl (zite h (fun h => ?_) (fun h => ?_))
          · skip
            refine zw_bipush (n := 53) d136_51 rfl zk_b_m2 ?_
            refine zw_goto d136_53 ?_
            exact zw_iret d136_57 rfl ⟨_, rfl, h⟩
          · skip
            refine zw_iconst (n := 57) d136_56 rfl zk_i_0 ?_
            exact zw_iret d136_57 rfl ⟨_, rfl, h⟩
        · skip
          refine zw_iload (n := 38) d136_36 rfl rfl ?_
          exact zw_iret d136_38 rfl ⟨_, rfl, h⟩

set_option maxRecDepth 20000 in
theorem zf137 (pc : Nat) : zt_code 137 pc = zt_fd zl_137 pc := rfl
theorem d137_0 : zt_code 137 0 = some (.aload_n 0, 0, 0, 0) := (zf137 0).trans rfl
theorem d137_1 : zt_code 137 1 = some (.getfield 12, 4, 0, 1) := (zf137 1).trans rfl
theorem d137_4 : zt_code 137 4 = some (.iconst (-1), 0, 0, 0) := (zf137 4).trans rfl
theorem d137_5 : zt_code 137 5 = some (.invokevirtual 210, 43, 2, 0) := (zf137 5).trans rfl
theorem d137_8 : zt_code 137 8 = some (.istore 4, 0, 0, 0) := (zf137 8).trans rfl
theorem d137_10 : zt_code 137 10 = some (.aload_n 0, 0, 0, 0) := (zf137 10).trans rfl
theorem d137_11 : zt_code 137 11 = some (.getfield 12, 4, 0, 1) := (zf137 11).trans rfl
theorem d137_14 : zt_code 137 14 = some (.getfield 181, 0, 3, 0) := (zf137 14).trans rfl
theorem d137_17 : zt_code 137 17 = some (.istore 5, 0, 0, 0) := (zf137 17).trans rfl
theorem d137_19 : zt_code 137 19 = some (.iconst (0), 0, 0, 0) := (zf137 19).trans rfl
theorem d137_20 : zt_code 137 20 = some (.istore 6, 0, 0, 0) := (zf137 20).trans rfl
theorem d137_22 : zt_code 137 22 = some (.iload 6, 0, 0, 0) := (zf137 22).trans rfl
theorem d137_24 : zt_code 137 24 = some (.iload_n 2, 0, 0, 0) := (zf137 24).trans rfl
theorem d137_25 : zt_code 137 25 = some (.if_icmp .ge (101), 0, 126, 0) := (zf137 25).trans rfl
theorem d137_28 : zt_code 137 28 = some (.iload 6, 0, 0, 0) := (zf137 28).trans rfl
theorem d137_30 : zt_code 137 30 = some (.iload_n 3, 0, 0, 0) := (zf137 30).trans rfl
theorem d137_31 : zt_code 137 31 = some (.if_icmp .ne (6), 0, 37, 0) := (zf137 31).trans rfl
theorem d137_34 : zt_code 137 34 = some (.goto (86), 0, 120, 0) := (zf137 34).trans rfl
theorem d137_37 : zt_code 137 37 = some (.aload_n 0, 0, 0, 0) := (zf137 37).trans rfl
theorem d137_38 : zt_code 137 38 = some (.getfield 32, 4, 4, 1) := (zf137 38).trans rfl
theorem d137_41 : zt_code 137 41 = some (.iload_n 1, 0, 0, 0) := (zf137 41).trans rfl
theorem d137_42 : zt_code 137 42 = some (.iload 6, 0, 0, 0) := (zf137 42).trans rfl
theorem d137_44 : zt_code 137 44 = some (.invokevirtual 95, 23, 3, 2) := (zf137 44).trans rfl
theorem d137_47 : zt_code 137 47 = some (.lstore 7, 0, 0, 0) := (zf137 47).trans rfl
theorem d137_49 : zt_code 137 49 = some (.lload 7, 0, 0, 0) := (zf137 49).trans rfl
theorem d137_51 : zt_code 137 51 = some (.lconst 0, 0, 0, 0) := (zf137 51).trans rfl
theorem d137_52 : zt_code 137 52 = some (.lcmp, 0, 0, 0) := (zf137 52).trans rfl
theorem d137_53 : zt_code 137 53 = some (.ifCond .lt (30), 0, 83, 0) := (zf137 53).trans rfl
theorem d137_56 : zt_code 137 56 = some (.lload 7, 0, 0, 0) := (zf137 56).trans rfl
theorem d137_58 : zt_code 137 58 = some (.ldc2_w 276, 0, 0, 10) := (zf137 58).trans rfl
theorem d137_61 : zt_code 137 61 = some (.ldiv, 0, 0, 0) := (zf137 61).trans rfl
theorem d137_62 : zt_code 137 62 = some (.aload_n 0, 0, 0, 0) := (zf137 62).trans rfl
theorem d137_63 : zt_code 137 63 = some (.getfield 12, 4, 0, 1) := (zf137 63).trans rfl
theorem d137_66 : zt_code 137 66 = some (.aload_n 0, 0, 0, 0) := (zf137 66).trans rfl
theorem d137_67 : zt_code 137 67 = some (.getfield 12, 4, 0, 1) := (zf137 67).trans rfl
theorem d137_70 : zt_code 137 70 = some (.getfield 167, 0, 2, 0) := (zf137 70).trans rfl
theorem d137_73 : zt_code 137 73 = some (.iload 5, 0, 0, 0) := (zf137 73).trans rfl
theorem d137_75 : zt_code 137 75 = some (.invokevirtual 213, 46, 3, 0) := (zf137 75).trans rfl
theorem d137_78 : zt_code 137 78 = some (.i2l, 0, 0, 0) := (zf137 78).trans rfl
theorem d137_79 : zt_code 137 79 = some (.lcmp, 0, 0, 0) := (zf137 79).trans rfl
theorem d137_80 : zt_code 137 80 = some (.ifCond .eq (6), 0, 86, 0) := (zf137 80).trans rfl
theorem d137_83 : zt_code 137 83 = some (.iload 6, 0, 0, 0) := (zf137 83).trans rfl
theorem d137_85 : zt_code 137 85 = some (.ireturn, 0, 0, 0) := (zf137 85).trans rfl
theorem d137_86 : zt_code 137 86 = some (.lload 7, 0, 0, 0) := (zf137 86).trans rfl
theorem d137_88 : zt_code 137 88 = some (.ldc2_w 276, 0, 0, 10) := (zf137 88).trans rfl
theorem d137_91 : zt_code 137 91 = some (.lrem, 0, 0, 0) := (zf137 91).trans rfl
theorem d137_92 : zt_code 137 92 = some (.l2i, 0, 0, 0) := (zf137 92).trans rfl
theorem d137_93 : zt_code 137 93 = some (.istore 9, 0, 0, 0) := (zf137 93).trans rfl
theorem d137_95 : zt_code 137 95 = some (.iload 4, 0, 0, 0) := (zf137 95).trans rfl
theorem d137_97 : zt_code 137 97 = some (.iload 9, 0, 0, 0) := (zf137 97).trans rfl
theorem d137_99 : zt_code 137 99 = some (.invokestatic 347, 53, 2, -1) := (zf137 99).trans rfl
theorem d137_102 : zt_code 137 102 = some (.ifCond .ne (6), 0, 108, 0) := (zf137 102).trans rfl
theorem d137_105 : zt_code 137 105 = some (.iload 6, 0, 0, 0) := (zf137 105).trans rfl
theorem d137_107 : zt_code 137 107 = some (.ireturn, 0, 0, 0) := (zf137 107).trans rfl
theorem d137_108 : zt_code 137 108 = some (.iload 4, 0, 0, 0) := (zf137 108).trans rfl
theorem d137_110 : zt_code 137 110 = some (.iload 9, 0, 0, 0) := (zf137 110).trans rfl
theorem d137_112 : zt_code 137 112 = some (.invokestatic 281, 61, 2, -1) := (zf137 112).trans rfl
theorem d137_115 : zt_code 137 115 = some (.istore 4, 0, 0, 0) := (zf137 115).trans rfl
theorem d137_117 : zt_code 137 117 = some (.iinc 5 (1), 0, 0, 0) := (zf137 117).trans rfl
theorem d137_120 : zt_code 137 120 = some (.iinc 6 (1), 0, 0, 0) := (zf137 120).trans rfl
theorem d137_123 : zt_code 137 123 = some (.goto (-101), 0, 22, 0) := (zf137 123).trans rfl
theorem d137_126 : zt_code 137 126 = some (.iconst (-1), 0, 0, 0) := (zf137 126).trans rfl
theorem d137_127 : zt_code 137 127 = some (.ireturn, 0, 0, 0) := (zf137 127).trans rfl
/-- FirstAtTheFirst.firstWrong(III)I -/
theorem vc137 {X : zX} {S : zx_S} {C : zx_C} {q : Int32 → zx_C → Prop} {e : Nat} {a1 : Int32} {a2 : Int32} {a3 : Int32} (hS : zs_4 S e) (h : zCd X 1 43 [.ref (e + 1), .int (-1)] S C (zQi (fun r1 C1 => zW X 4 137 22 [.ref e, .int a1, .int a2, .int a3, .int r1, .int (C1.1 (e + 1) 3), .int 0, .retAddr 0, .retAddr 0, .retAddr 0] [] S C1 (zQi q)))) : zCd X 4 137 [.ref e, .int a1, .int a2, .int a3] S C (zQi q) := by
  refine zc_in ml_137 rfl ?_
  refine zw_aload_n (n := 1) d137_0 rfl rfl ?_
  refine zw_getr (n := 4) d137_1 rfl (zj_4 hS).1 (zj_4 hS).2 (zr_4_0 hS) ?_
  refine zw_iconst (n := 5) d137_4 rfl zk_i_m1 ?_
  refine zw_cI (n := 8) d137_5 (zs_V rfl rfl rfl rfl (by decide) (zj_0 (zo_4_0 hS)).1 (zq_0 (zo_4_0 hS))) (by rw [ml_43]; rfl) (by decide) rfl (zc_mI h (fun r1 C1 h => ?_))
  refine zw_istore (n := 10) d137_8 rfl rfl rfl ?_
  refine zw_aload_n (n := 11) d137_10 rfl rfl ?_
  refine zw_getr (n := 14) d137_11 rfl (zj_4 hS).1 (zj_4 hS).2 (zr_4_0 hS) ?_
  refine zw_geti (n := 17) d137_14 rfl (zj_0 (zo_4_0 hS)).1 (zj_0 (zo_4_0 hS)).2 ?_
  refine zw_istore (n := 19) d137_17 rfl rfl rfl ?_
  refine zw_iconst (n := 20) d137_19 rfl zk_i_0 ?_
  refine zw_istore (n := 22) d137_20 rfl rfl rfl ?_
  exact h
theorem vc137_22 {X : zX} {S : zx_S} {C : zx_C} {q : Int32 → zx_C → Prop} {e : Nat} {a1 : Int32} {a2 : Int32} {a3 : Int32} {i1 : Int32} {i2 : Int32} {i3 : Int32} {i4 : Int32} {i5 : Int32} {i6 : Int32} {z7 : Value} {z8 : Value} {z9 : Value} (hS : zs_4 S e) (h : if (i6 : Int32) < i2 then (if (i6 : Int32) = i3 then (zW X 4 137 22 [.ref e, .int i1, .int i2, .int i3, .int i4, .int i5, .int (i6 + 1), z7, z8, z9] [] S C (zQi q)) else (zCd X 3 23 [.ref (e + 18), .int i1, .int i6] S C (zQl (fun r1 C1 => if ((lg_cmp r1 0) : Int32) < 0 then (q i6 C1) else (zCd X 1 46 [.ref (e + 1), .int (C1.1 (e + 1) 2), .int i5] S C1 (zQi (fun r2 C2 => if ((lg_cmp (r1 / 10) (Int32.toInt64 r2)) : Int32) = 0 then (zCd X 0 53 [.int i4, .int (Int64.toInt32 (r1 - r1 / 10 * 10))] S C2 (zQi (fun r3 C3 => if (r3 : Int32) = 0 then (q i6 C3) else (zCd X 0 61 [.int i4, .int (Int64.toInt32 (r1 - r1 / 10 * 10))] S C3 (zQi (fun r4 C4 => zW X 4 137 22 [.ref e, .int i1, .int i2, .int i3, .int r4, .int (i5 + 1), .int (i6 + 1), .long r1, .retAddr 1, .int (Int64.toInt32 (r1 - r1 / 10 * 10))] [] S C4 (zQi q))))))) else (q i6 C2)))))))) else (q (-1) C)) : zW X 4 137 22 [.ref e, .int i1, .int i2, .int i3, .int i4, .int i5, .int i6, z7, z8, z9] [] S C (zQi q) := by
  refine zw_iload (n := 24) d137_22 rfl rfl ?_
  refine zw_iload_n (n := 25) d137_24 rfl rfl ?_
  refine zw_ic_ge (n := 28) d137_25 rfl (zite h (fun h => ?_) (fun h => ?_))
  · skip
    refine zw_iload (n := 30) d137_28 rfl rfl ?_
    refine zw_iload_n (n := 31) d137_30 rfl rfl ?_
    refine zw_ic_ne (n := 34) d137_31 rfl (zite h (fun h => ?_) (fun h => ?_))
    · skip
      refine zw_goto d137_34 ?_
      refine zw_iinc (n := 123) d137_120 rfl rfl zk_i_1 rfl ?_
      refine zw_goto d137_123 ?_
      exact h
    · skip
      refine zw_aload_n (n := 38) d137_37 rfl rfl ?_
      refine zw_getr (n := 41) d137_38 rfl (zj_4 hS).1 (zj_4 hS).2 (zr_4_4 hS) ?_
      refine zw_iload_n (n := 42) d137_41 rfl rfl ?_
      refine zw_iload (n := 44) d137_42 rfl rfl ?_
      refine zw_cL (n := 47) d137_44 (zs_V rfl rfl rfl rfl (by decide) (zj_2 (zo_4_4 hS)).1 (zq_2 (zo_4_4 hS))) (by rw [ml_23]; rfl) (by decide) rfl (zc_mL h (fun r1 C1 h => ?_))
      refine zw_lstore (n := 49) d137_47 rfl rfl rfl ?_
      refine zw_lload (n := 51) d137_49 rfl rfl rfl ?_
      refine zw_lconst (n := 52) d137_51 rfl zk_c_0 ?_
      refine zw_lcmp (n := 53) d137_52 rfl ?_
      refine zw_if_lt (n := 56) d137_53 rfl (zite h (fun h => ?_) (fun h => ?_))
      · skip
        refine zw_iload (n := 85) d137_83 rfl rfl ?_
        exact zw_iret d137_85 rfl ⟨_, rfl, h⟩
      · skip
        refine zw_lload (n := 58) d137_56 rfl rfl rfl ?_
        refine zw_ldc2 (n := 61) d137_58 rfl zk_l_10 ?_
        refine zw_ldiv (n := 62) d137_61 rfl (by decide) ?_
        refine zw_aload_n (n := 63) d137_62 rfl rfl ?_
        refine zw_getr (n := 66) d137_63 rfl (zj_4 hS).1 (zj_4 hS).2 (zr_4_0 hS) ?_
        refine zw_aload_n (n := 67) d137_66 rfl rfl ?_
        refine zw_getr (n := 70) d137_67 rfl (zj_4 hS).1 (zj_4 hS).2 (zr_4_0 hS) ?_
        refine zw_geti (n := 73) d137_70 rfl (zj_0 (zo_4_0 hS)).1 (zj_0 (zo_4_0 hS)).2 ?_
        refine zw_iload (n := 75) d137_73 rfl rfl ?_
        refine zw_cI (n := 78) d137_75 (zs_V rfl rfl rfl rfl (by decide) (zj_0 (zo_4_0 hS)).1 (zq_0 (zo_4_0 hS))) (by rw [ml_46]; rfl) (by decide) rfl (zc_mI h (fun r2 C2 h => ?_))
        refine zw_i2l (n := 79) d137_78 rfl ?_
        refine zw_lcmp (n := 80) d137_79 rfl ?_
        refine zw_if_eq (n := 83) d137_80 rfl (zite h (fun h => ?_) (fun h => ?_))
        · skip
          refine zw_lload (n := 88) d137_86 rfl rfl rfl ?_
          refine zw_ldc2 (n := 91) d137_88 rfl zk_l_10 ?_
          refine zw_lrem (n := 92) d137_91 rfl (by decide) ?_
          refine zw_l2i (n := 93) d137_92 rfl ?_
          refine zw_istore (n := 95) d137_93 rfl rfl rfl ?_
          refine zw_iload (n := 97) d137_95 rfl rfl ?_
          refine zw_iload (n := 99) d137_97 rfl rfl ?_
          refine zw_cI (n := 102) d137_99 (zs_S rfl rfl rfl rfl) (by rw [ml_53]; rfl) (by decide) rfl (zc_mI h (fun r3 C3 h => ?_))
          refine zw_if_ne (n := 105) d137_102 rfl (zite h (fun h => ?_) (fun h => ?_))
          · skip
            refine zw_iload (n := 107) d137_105 rfl rfl ?_
            exact zw_iret d137_107 rfl ⟨_, rfl, h⟩
          · skip
            refine zw_iload (n := 110) d137_108 rfl rfl ?_
            refine zw_iload (n := 112) d137_110 rfl rfl ?_
            refine zw_cI (n := 115) d137_112 (zs_S rfl rfl rfl rfl) (by rw [ml_61]; rfl) (by decide) rfl (zc_mI h (fun r4 C4 h => ?_))
            refine zw_istore (n := 117) d137_115 rfl rfl rfl ?_
            refine zw_iinc (n := 120) d137_117 rfl rfl zk_i_1 rfl ?_
            refine zw_iinc (n := 123) d137_120 rfl rfl zk_i_1 rfl ?_
            refine zw_goto d137_123 ?_
            exact h
        · skip
          refine zw_iload (n := 85) d137_83 rfl rfl ?_
          exact zw_iret d137_85 rfl ⟨_, rfl, h⟩
  · skip
    refine zw_iconst (n := 127) d137_126 rfl zk_i_m1 ?_
    exact zw_iret d137_127 rfl ⟨_, rfl, h⟩

set_option maxRecDepth 20000 in
theorem zf138 (pc : Nat) : zt_code 138 pc = zt_fd zl_138 pc := rfl
theorem d138_0 : zt_code 138 0 = some (.aload_n 0, 0, 0, 0) := (zf138 0).trans rfl
theorem d138_1 : zt_code 138 1 = some (.iload_n 1, 0, 0, 0) := (zf138 1).trans rfl
theorem d138_2 : zt_code 138 2 = some (.iload_n 2, 0, 0, 0) := (zf138 2).trans rfl
theorem d138_3 : zt_code 138 3 = some (.iconst (1), 0, 0, 0) := (zf138 3).trans rfl
theorem d138_4 : zt_code 138 4 = some (.invokevirtual 266, 136, 4, 4) := (zf138 4).trans rfl
theorem d138_7 : zt_code 138 7 = some (.istore_n 3, 0, 0, 0) := (zf138 7).trans rfl
theorem d138_8 : zt_code 138 8 = some (.iload_n 3, 0, 0, 0) := (zf138 8).trans rfl
theorem d138_9 : zt_code 138 9 = some (.ifCond .eq (9), 0, 18, 0) := (zf138 9).trans rfl
theorem d138_12 : zt_code 138 12 = some (.aload_n 0, 0, 0, 0) := (zf138 12).trans rfl
theorem d138_13 : zt_code 138 13 = some (.iload_n 3, 0, 0, 0) := (zf138 13).trans rfl
theorem d138_14 : zt_code 138 14 = some (.invokevirtual 69, 10, 2, 4) := (zf138 14).trans rfl
theorem d138_17 : zt_code 138 17 = some (.ireturn, 0, 0, 0) := (zf138 17).trans rfl
theorem d138_18 : zt_code 138 18 = some (.iconst (0), 0, 0, 0) := (zf138 18).trans rfl
theorem d138_19 : zt_code 138 19 = some (.istore 4, 0, 0, 0) := (zf138 19).trans rfl
theorem d138_21 : zt_code 138 21 = some (.iload 4, 0, 0, 0) := (zf138 21).trans rfl
theorem d138_23 : zt_code 138 23 = some (.iload_n 2, 0, 0, 0) := (zf138 23).trans rfl
theorem d138_24 : zt_code 138 24 = some (.if_icmp .ge (24), 0, 48, 0) := (zf138 24).trans rfl
theorem d138_27 : zt_code 138 27 = some (.aload_n 0, 0, 0, 0) := (zf138 27).trans rfl
theorem d138_28 : zt_code 138 28 = some (.iload_n 1, 0, 0, 0) := (zf138 28).trans rfl
theorem d138_29 : zt_code 138 29 = some (.iload_n 2, 0, 0, 0) := (zf138 29).trans rfl
theorem d138_30 : zt_code 138 30 = some (.iload 4, 0, 0, 0) := (zf138 30).trans rfl
theorem d138_32 : zt_code 138 32 = some (.invokevirtual 270, 137, 4, 4) := (zf138 32).trans rfl
theorem d138_35 : zt_code 138 35 = some (.iconst (-1), 0, 0, 0) := (zf138 35).trans rfl
theorem d138_36 : zt_code 138 36 = some (.if_icmp .ne (6), 0, 42, 0) := (zf138 36).trans rfl
theorem d138_39 : zt_code 138 39 = some (.iload 4, 0, 0, 0) := (zf138 39).trans rfl
theorem d138_41 : zt_code 138 41 = some (.ireturn, 0, 0, 0) := (zf138 41).trans rfl
theorem d138_42 : zt_code 138 42 = some (.iinc 4 (1), 0, 0, 0) := (zf138 42).trans rfl
theorem d138_45 : zt_code 138 45 = some (.goto (-24), 0, 21, 0) := (zf138 45).trans rfl
theorem d138_48 : zt_code 138 48 = some (.iconst (-1), 0, 0, 0) := (zf138 48).trans rfl
theorem d138_49 : zt_code 138 49 = some (.ireturn, 0, 0, 0) := (zf138 49).trans rfl
/-- FirstAtTheFirst.stolen(II)I -/
theorem vc138 {X : zX} {S : zx_S} {C : zx_C} {q : Int32 → zx_C → Prop} {e : Nat} {a1 : Int32} {a2 : Int32} (hS : zs_4 S e) (h : zCd X 3 136 [.ref e, .int a1, .int a2, .int 1] S C (zQi (fun r1 C1 => if (r1 : Int32) = 0 then (zW X 5 138 21 [.ref e, .int a1, .int a2, .int r1, .int 0] [] S C1 (zQi q)) else (zCd X 1 10 [.ref e, .int r1] S C1 (zQi (fun r2 C2 => q r2 C2)))))) : zCd X 5 138 [.ref e, .int a1, .int a2] S C (zQi q) := by
  refine zc_in ml_138 rfl ?_
  refine zw_aload_n (n := 1) d138_0 rfl rfl ?_
  refine zw_iload_n (n := 2) d138_1 rfl rfl ?_
  refine zw_iload_n (n := 3) d138_2 rfl rfl ?_
  refine zw_iconst (n := 4) d138_3 rfl zk_i_1 ?_
  refine zw_cI (n := 7) d138_4 (zs_V rfl rfl rfl rfl (by decide) (zj_4 hS).1 (zq_4 hS)) (by rw [ml_136]; rfl) (by decide) rfl (zc_mI h (fun r1 C1 h => ?_))
  refine zw_istore_n (n := 8) d138_7 rfl rfl rfl ?_
  refine zw_iload_n (n := 9) d138_8 rfl rfl ?_
  refine zw_if_eq (n := 12) d138_9 rfl (zite h (fun h => ?_) (fun h => ?_))
  · skip
    refine zw_iconst (n := 19) d138_18 rfl zk_i_0 ?_
    refine zw_istore (n := 21) d138_19 rfl rfl rfl ?_
    exact h
  · skip
    refine zw_aload_n (n := 13) d138_12 rfl rfl ?_
    refine zw_iload_n (n := 14) d138_13 rfl rfl ?_
    refine zw_cI (n := 17) d138_14 (zs_V rfl rfl rfl rfl (by decide) (zj_4 hS).1 (zq_4 hS)) (by rw [ml_10]; rfl) (by decide) rfl (zc_mI h (fun r2 C2 h => ?_))
    exact zw_iret d138_17 rfl ⟨_, rfl, h⟩
theorem vc138_21 {X : zX} {S : zx_S} {C : zx_C} {q : Int32 → zx_C → Prop} {e : Nat} {a1 : Int32} {a2 : Int32} {i1 : Int32} {i2 : Int32} {z3 : Value} {i4 : Int32} (hS : zs_4 S e) (h : if (i4 : Int32) < i2 then (zCd X 4 137 [.ref e, .int i1, .int i2, .int i4] S C (zQi (fun r1 C1 => if (r1 : Int32) = (-1) then (q i4 C1) else (zW X 5 138 21 [.ref e, .int i1, .int i2, z3, .int (i4 + 1)] [] S C1 (zQi q))))) else (q (-1) C)) : zW X 5 138 21 [.ref e, .int i1, .int i2, z3, .int i4] [] S C (zQi q) := by
  refine zw_iload (n := 23) d138_21 rfl rfl ?_
  refine zw_iload_n (n := 24) d138_23 rfl rfl ?_
  refine zw_ic_ge (n := 27) d138_24 rfl (zite h (fun h => ?_) (fun h => ?_))
  · skip
    refine zw_aload_n (n := 28) d138_27 rfl rfl ?_
    refine zw_iload_n (n := 29) d138_28 rfl rfl ?_
    refine zw_iload_n (n := 30) d138_29 rfl rfl ?_
    refine zw_iload (n := 32) d138_30 rfl rfl ?_
    refine zw_cI (n := 35) d138_32 (zs_V rfl rfl rfl rfl (by decide) (zj_4 hS).1 (zq_4 hS)) (by rw [ml_137]; rfl) (by decide) rfl (zc_mI h (fun r1 C1 h => ?_))
    refine zw_iconst (n := 36) d138_35 rfl zk_i_m1 ?_
    refine zw_ic_ne (n := 39) d138_36 rfl (zite h (fun h => ?_) (fun h => ?_))
    · skip
      refine zw_iload (n := 41) d138_39 rfl rfl ?_
      exact zw_iret d138_41 rfl ⟨_, rfl, h⟩
    · skip
      refine zw_iinc (n := 45) d138_42 rfl rfl zk_i_1 rfl ?_
      refine zw_goto d138_45 ?_
      exact h
  · skip
    refine zw_iconst (n := 49) d138_48 rfl zk_i_m1 ?_
    exact zw_iret d138_49 rfl ⟨_, rfl, h⟩

set_option maxRecDepth 20000 in
theorem zf139 (pc : Nat) : zt_code 139 pc = zt_fd zl_139 pc := rfl
theorem d139_0 : zt_code 139 0 = some (.aload_n 0, 0, 0, 0) := (zf139 0).trans rfl
theorem d139_1 : zt_code 139 1 = some (.getfield 12, 4, 0, 1) := (zf139 1).trans rfl
theorem d139_4 : zt_code 139 4 = some (.iload_n 3, 0, 0, 0) := (zf139 4).trans rfl
theorem d139_5 : zt_code 139 5 = some (.invokevirtual 102, 27, 2, 0) := (zf139 5).trans rfl
theorem d139_8 : zt_code 139 8 = some (.ifCond .eq (13), 0, 21, 0) := (zf139 8).trans rfl
theorem d139_11 : zt_code 139 11 = some (.aload_n 0, 0, 0, 0) := (zf139 11).trans rfl
theorem d139_12 : zt_code 139 12 = some (.iload_n 1, 0, 0, 0) := (zf139 12).trans rfl
theorem d139_13 : zt_code 139 13 = some (.iload_n 2, 0, 0, 0) := (zf139 13).trans rfl
theorem d139_14 : zt_code 139 14 = some (.iconst (0), 0, 0, 0) := (zf139 14).trans rfl
theorem d139_15 : zt_code 139 15 = some (.invokevirtual 266, 136, 4, 4) := (zf139 15).trans rfl
theorem d139_18 : zt_code 139 18 = some (.goto (5), 0, 23, 0) := (zf139 18).trans rfl
theorem d139_21 : zt_code 139 21 = some (.bipush (-2), 0, 0, 0) := (zf139 21).trans rfl
theorem d139_23 : zt_code 139 23 = some (.istore 4, 0, 0, 0) := (zf139 23).trans rfl
theorem d139_25 : zt_code 139 25 = some (.iload 4, 0, 0, 0) := (zf139 25).trans rfl
theorem d139_27 : zt_code 139 27 = some (.ifCond .eq (10), 0, 37, 0) := (zf139 27).trans rfl
theorem d139_30 : zt_code 139 30 = some (.aload_n 0, 0, 0, 0) := (zf139 30).trans rfl
theorem d139_31 : zt_code 139 31 = some (.iload 4, 0, 0, 0) := (zf139 31).trans rfl
theorem d139_33 : zt_code 139 33 = some (.invokevirtual 69, 10, 2, 4) := (zf139 33).trans rfl
theorem d139_36 : zt_code 139 36 = some (.ireturn, 0, 0, 0) := (zf139 36).trans rfl
theorem d139_37 : zt_code 139 37 = some (.aload_n 0, 0, 0, 0) := (zf139 37).trans rfl
theorem d139_38 : zt_code 139 38 = some (.iload_n 1, 0, 0, 0) := (zf139 38).trans rfl
theorem d139_39 : zt_code 139 39 = some (.iload_n 2, 0, 0, 0) := (zf139 39).trans rfl
theorem d139_40 : zt_code 139 40 = some (.iconst (-1), 0, 0, 0) := (zf139 40).trans rfl
theorem d139_41 : zt_code 139 41 = some (.invokevirtual 270, 137, 4, 4) := (zf139 41).trans rfl
theorem d139_44 : zt_code 139 44 = some (.iconst (-1), 0, 0, 0) := (zf139 44).trans rfl
theorem d139_45 : zt_code 139 45 = some (.if_icmp .eq (10), 0, 55, 0) := (zf139 45).trans rfl
theorem d139_48 : zt_code 139 48 = some (.aload_n 0, 0, 0, 0) := (zf139 48).trans rfl
theorem d139_49 : zt_code 139 49 = some (.bipush (-5), 0, 0, 0) := (zf139 49).trans rfl
theorem d139_51 : zt_code 139 51 = some (.invokevirtual 69, 10, 2, 4) := (zf139 51).trans rfl
theorem d139_54 : zt_code 139 54 = some (.ireturn, 0, 0, 0) := (zf139 54).trans rfl
theorem d139_55 : zt_code 139 55 = some (.aload_n 0, 0, 0, 0) := (zf139 55).trans rfl
theorem d139_56 : zt_code 139 56 = some (.getfield 43, 4, 7, 1) := (zf139 56).trans rfl
theorem d139_59 : zt_code 139 59 = some (.aload_n 0, 0, 0, 0) := (zf139 59).trans rfl
theorem d139_60 : zt_code 139 60 = some (.getfield 12, 4, 0, 1) := (zf139 60).trans rfl
theorem d139_63 : zt_code 139 63 = some (.invokevirtual 258, 38, 2, 1) := (zf139 63).trans rfl
theorem d139_66 : zt_code 139 66 = some (.aload_n 0, 0, 0, 0) := (zf139 66).trans rfl
theorem d139_67 : zt_code 139 67 = some (.getfield 43, 4, 7, 1) := (zf139 67).trans rfl
theorem d139_70 : zt_code 139 70 = some (.aload_n 0, 0, 0, 0) := (zf139 70).trans rfl
theorem d139_71 : zt_code 139 71 = some (.getfield 12, 4, 0, 1) := (zf139 71).trans rfl
theorem d139_74 : zt_code 139 74 = some (.aload_n 0, 0, 0, 0) := (zf139 74).trans rfl
theorem d139_75 : zt_code 139 75 = some (.getfield 12, 4, 0, 1) := (zf139 75).trans rfl
theorem d139_78 : zt_code 139 78 = some (.getfield 167, 0, 2, 0) := (zf139 78).trans rfl
theorem d139_81 : zt_code 139 81 = some (.invokevirtual 227, 45, 3, 1) := (zf139 81).trans rfl
theorem d139_84 : zt_code 139 84 = some (.bipush (63), 0, 0, 0) := (zf139 84).trans rfl
theorem d139_86 : zt_code 139 86 = some (.istore 5, 0, 0, 0) := (zf139 86).trans rfl
theorem d139_88 : zt_code 139 88 = some (.aload_n 0, 0, 0, 0) := (zf139 88).trans rfl
theorem d139_89 : zt_code 139 89 = some (.getfield 43, 4, 7, 1) := (zf139 89).trans rfl
theorem d139_92 : zt_code 139 92 = some (.getfield 273, 1, 5, 0) := (zf139 92).trans rfl
theorem d139_95 : zt_code 139 95 = some (.istore 6, 0, 0, 0) := (zf139 95).trans rfl
theorem d139_97 : zt_code 139 97 = some (.iconst (0), 0, 0, 0) := (zf139 97).trans rfl
theorem d139_98 : zt_code 139 98 = some (.istore 7, 0, 0, 0) := (zf139 98).trans rfl
theorem d139_100 : zt_code 139 100 = some (.iload 7, 0, 0, 0) := (zf139 100).trans rfl
theorem d139_102 : zt_code 139 102 = some (.iload_n 2, 0, 0, 0) := (zf139 102).trans rfl
theorem d139_103 : zt_code 139 103 = some (.if_icmp .ge (68), 0, 171, 0) := (zf139 103).trans rfl
theorem d139_106 : zt_code 139 106 = some (.aload_n 0, 0, 0, 0) := (zf139 106).trans rfl
theorem d139_107 : zt_code 139 107 = some (.getfield 32, 4, 4, 1) := (zf139 107).trans rfl
theorem d139_110 : zt_code 139 110 = some (.iload_n 1, 0, 0, 0) := (zf139 110).trans rfl
theorem d139_111 : zt_code 139 111 = some (.iload 7, 0, 0, 0) := (zf139 111).trans rfl
theorem d139_113 : zt_code 139 113 = some (.invokevirtual 95, 23, 3, 2) := (zf139 113).trans rfl
theorem d139_116 : zt_code 139 116 = some (.lstore 8, 0, 0, 0) := (zf139 116).trans rfl
theorem d139_118 : zt_code 139 118 = some (.lload 8, 0, 0, 0) := (zf139 118).trans rfl
theorem d139_120 : zt_code 139 120 = some (.ldc2_w 276, 0, 0, 10) := (zf139 120).trans rfl
theorem d139_123 : zt_code 139 123 = some (.lrem, 0, 0, 0) := (zf139 123).trans rfl
theorem d139_124 : zt_code 139 124 = some (.l2i, 0, 0, 0) := (zf139 124).trans rfl
theorem d139_125 : zt_code 139 125 = some (.istore 10, 0, 0, 0) := (zf139 125).trans rfl
theorem d139_127 : zt_code 139 127 = some (.lload 8, 0, 0, 0) := (zf139 127).trans rfl
theorem d139_129 : zt_code 139 129 = some (.ldc2_w 276, 0, 0, 10) := (zf139 129).trans rfl
theorem d139_132 : zt_code 139 132 = some (.ldiv, 0, 0, 0) := (zf139 132).trans rfl
theorem d139_133 : zt_code 139 133 = some (.iload_n 3, 0, 0, 0) := (zf139 133).trans rfl
theorem d139_134 : zt_code 139 134 = some (.i2l, 0, 0, 0) := (zf139 134).trans rfl
theorem d139_135 : zt_code 139 135 = some (.lcmp, 0, 0, 0) := (zf139 135).trans rfl
theorem d139_136 : zt_code 139 136 = some (.ifCond .ne (20), 0, 156, 0) := (zf139 136).trans rfl
theorem d139_139 : zt_code 139 139 = some (.iload 5, 0, 0, 0) := (zf139 139).trans rfl
theorem d139_141 : zt_code 139 141 = some (.aload_n 0, 0, 0, 0) := (zf139 141).trans rfl
theorem d139_142 : zt_code 139 142 = some (.getfield 43, 4, 7, 1) := (zf139 142).trans rfl
theorem d139_145 : zt_code 139 145 = some (.iload_n 3, 0, 0, 0) := (zf139 145).trans rfl
theorem d139_146 : zt_code 139 146 = some (.iload 10, 0, 0, 0) := (zf139 146).trans rfl
theorem d139_148 : zt_code 139 148 = some (.iload 6, 0, 0, 0) := (zf139 148).trans rfl
theorem d139_150 : zt_code 139 150 = some (.invokevirtual 278, 140, 4, 1) := (zf139 150).trans rfl
theorem d139_153 : zt_code 139 153 = some (.iand, 0, 0, 0) := (zf139 153).trans rfl
theorem d139_154 : zt_code 139 154 = some (.istore 5, 0, 0, 0) := (zf139 154).trans rfl
theorem d139_156 : zt_code 139 156 = some (.iload 6, 0, 0, 0) := (zf139 156).trans rfl
theorem d139_158 : zt_code 139 158 = some (.iload 10, 0, 0, 0) := (zf139 158).trans rfl
theorem d139_160 : zt_code 139 160 = some (.invokestatic 281, 61, 2, -1) := (zf139 160).trans rfl
theorem d139_163 : zt_code 139 163 = some (.istore 6, 0, 0, 0) := (zf139 163).trans rfl
theorem d139_165 : zt_code 139 165 = some (.iinc 7 (1), 0, 0, 0) := (zf139 165).trans rfl
theorem d139_168 : zt_code 139 168 = some (.goto (-68), 0, 100, 0) := (zf139 168).trans rfl
theorem d139_171 : zt_code 139 171 = some (.iload 5, 0, 0, 0) := (zf139 171).trans rfl
theorem d139_173 : zt_code 139 173 = some (.ireturn, 0, 0, 0) := (zf139 173).trans rfl
/-- FirstAtTheFirst.fits(III)I -/
theorem vc139 {X : zX} {S : zx_S} {C : zx_C} {q : Int32 → zx_C → Prop} {e : Nat} {a1 : Int32} {a2 : Int32} {a3 : Int32} (hS : zs_4 S e) (h : zCd X 0 27 [.ref (e + 1), .int a3] S C (zQi (fun r1 C1 => if (r1 : Int32) = 0 then (if ((-2) : Int32) = 0 then (zCd X 4 137 [.ref e, .int a1, .int a2, .int (-1)] S C1 (zQi (fun r2 C2 => if (r2 : Int32) = (-1) then (zCd X 3 38 [.ref (e + 24), .ref (e + 1)] S C2 (zQv (fun C3 => zCd X 2 45 [.ref (e + 24), .ref (e + 1), .int (C3.1 (e + 1) 2)] S C3 (zQv (fun C4 => zW X 6 139 100 [.ref e, .int a1, .int a2, .int a3, .int (-2), .int 63, .int (C4.1 (e + 24) 5), .int 0, .retAddr 0, .retAddr 0, .retAddr 0] [] S C4 (zQi q)))))) else (zCd X 1 10 [.ref e, .int (-5)] S C2 (zQi (fun r5 C5 => q r5 C5)))))) else (zCd X 1 10 [.ref e, .int (-2)] S C1 (zQi (fun r6 C6 => q r6 C6)))) else (zCd X 3 136 [.ref e, .int a1, .int a2, .int 0] S C1 (zQi (fun r7 C7 => if (r7 : Int32) = 0 then (zCd X 4 137 [.ref e, .int a1, .int a2, .int (-1)] S C7 (zQi (fun r8 C8 => if (r8 : Int32) = (-1) then (zCd X 3 38 [.ref (e + 24), .ref (e + 1)] S C8 (zQv (fun C9 => zCd X 2 45 [.ref (e + 24), .ref (e + 1), .int (C9.1 (e + 1) 2)] S C9 (zQv (fun C10 => zW X 6 139 100 [.ref e, .int a1, .int a2, .int a3, .int r7, .int 63, .int (C10.1 (e + 24) 5), .int 0, .retAddr 0, .retAddr 0, .retAddr 0] [] S C10 (zQi q)))))) else (zCd X 1 10 [.ref e, .int (-5)] S C8 (zQi (fun r11 C11 => q r11 C11)))))) else (zCd X 1 10 [.ref e, .int r7] S C7 (zQi (fun r12 C12 => q r12 C12))))))))) : zCd X 6 139 [.ref e, .int a1, .int a2, .int a3] S C (zQi q) := by
  refine zc_in ml_139 rfl ?_
  refine zw_aload_n (n := 1) d139_0 rfl rfl ?_
  refine zw_getr (n := 4) d139_1 rfl (zj_4 hS).1 (zj_4 hS).2 (zr_4_0 hS) ?_
  refine zw_iload_n (n := 5) d139_4 rfl rfl ?_
  refine zw_cI (n := 8) d139_5 (zs_V rfl rfl rfl rfl (by decide) (zj_0 (zo_4_0 hS)).1 (zq_0 (zo_4_0 hS))) (by rw [ml_27]; rfl) (by decide) rfl (zc_mI h (fun r1 C1 h => ?_))
  refine zw_if_eq (n := 11) d139_8 rfl (zite h (fun h => ?_) (fun h => ?_))
  · skip
    refine zw_bipush (n := 23) d139_21 rfl zk_b_m2 ?_
    refine zw_istore (n := 25) d139_23 rfl rfl rfl ?_
    refine zw_iload (n := 27) d139_25 rfl rfl ?_
    refine zw_if_eq (n := 30) d139_27 rfl (zite h (fun h => ?_) (fun h => ?_))
    · skip
      refine zw_aload_n (n := 38) d139_37 rfl rfl ?_
      refine zw_iload_n (n := 39) d139_38 rfl rfl ?_
      refine zw_iload_n (n := 40) d139_39 rfl rfl ?_
      refine zw_iconst (n := 41) d139_40 rfl zk_i_m1 ?_
      refine zw_cI (n := 44) d139_41 (zs_V rfl rfl rfl rfl (by decide) (zj_4 hS).1 (zq_4 hS)) (by rw [ml_137]; rfl) (by decide) rfl (zc_mI h (fun r2 C2 h => ?_))
      refine zw_iconst (n := 45) d139_44 rfl zk_i_m1 ?_
      refine zw_ic_eq (n := 48) d139_45 rfl (zite h (fun h => ?_) (fun h => ?_))
      · skip
        refine zw_aload_n (n := 56) d139_55 rfl rfl ?_
        refine zw_getr (n := 59) d139_56 rfl (zj_4 hS).1 (zj_4 hS).2 (zr_4_7 hS) ?_
        refine zw_aload_n (n := 60) d139_59 rfl rfl ?_
        refine zw_getr (n := 63) d139_60 rfl (zj_4 hS).1 (zj_4 hS).2 (zr_4_0 hS) ?_
        refine zw_cV (n := 66) d139_63 (zs_V rfl rfl rfl rfl (by decide) (zj_1 (zo_4_7 hS)).1 (zq_1 (zo_4_7 hS))) (by rw [ml_38]; rfl) (by decide) rfl (zc_mV h (fun C3 h => ?_))
        refine zw_aload_n (n := 67) d139_66 rfl rfl ?_
        refine zw_getr (n := 70) d139_67 rfl (zj_4 hS).1 (zj_4 hS).2 (zr_4_7 hS) ?_
        refine zw_aload_n (n := 71) d139_70 rfl rfl ?_
        refine zw_getr (n := 74) d139_71 rfl (zj_4 hS).1 (zj_4 hS).2 (zr_4_0 hS) ?_
        refine zw_aload_n (n := 75) d139_74 rfl rfl ?_
        refine zw_getr (n := 78) d139_75 rfl (zj_4 hS).1 (zj_4 hS).2 (zr_4_0 hS) ?_
        refine zw_geti (n := 81) d139_78 rfl (zj_0 (zo_4_0 hS)).1 (zj_0 (zo_4_0 hS)).2 ?_
        refine zw_cV (n := 84) d139_81 (zs_V rfl rfl rfl rfl (by decide) (zj_1 (zo_4_7 hS)).1 (zq_1 (zo_4_7 hS))) (by rw [ml_45]; rfl) (by decide) rfl (zc_mV h (fun C4 h => ?_))
        refine zw_bipush (n := 86) d139_84 rfl zk_b_63 ?_
        refine zw_istore (n := 88) d139_86 rfl rfl rfl ?_
        refine zw_aload_n (n := 89) d139_88 rfl rfl ?_
        refine zw_getr (n := 92) d139_89 rfl (zj_4 hS).1 (zj_4 hS).2 (zr_4_7 hS) ?_
        refine zw_geti (n := 95) d139_92 rfl (zj_1 (zo_4_7 hS)).1 (zj_1 (zo_4_7 hS)).2 ?_
        refine zw_istore (n := 97) d139_95 rfl rfl rfl ?_
        refine zw_iconst (n := 98) d139_97 rfl zk_i_0 ?_
        refine zw_istore (n := 100) d139_98 rfl rfl rfl ?_
        exact h
      · skip
        refine zw_aload_n (n := 49) d139_48 rfl rfl ?_
        refine zw_bipush (n := 51) d139_49 rfl zk_b_m5 ?_
        refine zw_cI (n := 54) d139_51 (zs_V rfl rfl rfl rfl (by decide) (zj_4 hS).1 (zq_4 hS)) (by rw [ml_10]; rfl) (by decide) rfl (zc_mI h (fun r5 C5 h => ?_))
        exact zw_iret d139_54 rfl ⟨_, rfl, h⟩
    · skip
      refine zw_aload_n (n := 31) d139_30 rfl rfl ?_
      refine zw_iload (n := 33) d139_31 rfl rfl ?_
      refine zw_cI (n := 36) d139_33 (zs_V rfl rfl rfl rfl (by decide) (zj_4 hS).1 (zq_4 hS)) (by rw [ml_10]; rfl) (by decide) rfl (zc_mI h (fun r6 C6 h => ?_))
      exact zw_iret d139_36 rfl ⟨_, rfl, h⟩
  · skip
    refine zw_aload_n (n := 12) d139_11 rfl rfl ?_
    refine zw_iload_n (n := 13) d139_12 rfl rfl ?_
    refine zw_iload_n (n := 14) d139_13 rfl rfl ?_
    refine zw_iconst (n := 15) d139_14 rfl zk_i_0 ?_
    refine zw_cI (n := 18) d139_15 (zs_V rfl rfl rfl rfl (by decide) (zj_4 hS).1 (zq_4 hS)) (by rw [ml_136]; rfl) (by decide) rfl (zc_mI h (fun r7 C7 h => ?_))
    refine zw_goto d139_18 ?_
    refine zw_istore (n := 25) d139_23 rfl rfl rfl ?_
    refine zw_iload (n := 27) d139_25 rfl rfl ?_
    refine zw_if_eq (n := 30) d139_27 rfl (zite h (fun h => ?_) (fun h => ?_))
    · skip
      refine zw_aload_n (n := 38) d139_37 rfl rfl ?_
      refine zw_iload_n (n := 39) d139_38 rfl rfl ?_
      refine zw_iload_n (n := 40) d139_39 rfl rfl ?_
      refine zw_iconst (n := 41) d139_40 rfl zk_i_m1 ?_
      refine zw_cI (n := 44) d139_41 (zs_V rfl rfl rfl rfl (by decide) (zj_4 hS).1 (zq_4 hS)) (by rw [ml_137]; rfl) (by decide) rfl (zc_mI h (fun r8 C8 h => ?_))
      refine zw_iconst (n := 45) d139_44 rfl zk_i_m1 ?_
      refine zw_ic_eq (n := 48) d139_45 rfl (zite h (fun h => ?_) (fun h => ?_))
      · skip
        refine zw_aload_n (n := 56) d139_55 rfl rfl ?_
        refine zw_getr (n := 59) d139_56 rfl (zj_4 hS).1 (zj_4 hS).2 (zr_4_7 hS) ?_
        refine zw_aload_n (n := 60) d139_59 rfl rfl ?_
        refine zw_getr (n := 63) d139_60 rfl (zj_4 hS).1 (zj_4 hS).2 (zr_4_0 hS) ?_
        refine zw_cV (n := 66) d139_63 (zs_V rfl rfl rfl rfl (by decide) (zj_1 (zo_4_7 hS)).1 (zq_1 (zo_4_7 hS))) (by rw [ml_38]; rfl) (by decide) rfl (zc_mV h (fun C9 h => ?_))
        refine zw_aload_n (n := 67) d139_66 rfl rfl ?_
        refine zw_getr (n := 70) d139_67 rfl (zj_4 hS).1 (zj_4 hS).2 (zr_4_7 hS) ?_
        refine zw_aload_n (n := 71) d139_70 rfl rfl ?_
        refine zw_getr (n := 74) d139_71 rfl (zj_4 hS).1 (zj_4 hS).2 (zr_4_0 hS) ?_
        refine zw_aload_n (n := 75) d139_74 rfl rfl ?_
        refine zw_getr (n := 78) d139_75 rfl (zj_4 hS).1 (zj_4 hS).2 (zr_4_0 hS) ?_
        refine zw_geti (n := 81) d139_78 rfl (zj_0 (zo_4_0 hS)).1 (zj_0 (zo_4_0 hS)).2 ?_
        refine zw_cV (n := 84) d139_81 (zs_V rfl rfl rfl rfl (by decide) (zj_1 (zo_4_7 hS)).1 (zq_1 (zo_4_7 hS))) (by rw [ml_45]; rfl) (by decide) rfl (zc_mV h (fun C10 h => ?_))
        refine zw_bipush (n := 86) d139_84 rfl zk_b_63 ?_
        refine zw_istore (n := 88) d139_86 rfl rfl rfl ?_
        refine zw_aload_n (n := 89) d139_88 rfl rfl ?_
        refine zw_getr (n := 92) d139_89 rfl (zj_4 hS).1 (zj_4 hS).2 (zr_4_7 hS) ?_
        refine zw_geti (n := 95) d139_92 rfl (zj_1 (zo_4_7 hS)).1 (zj_1 (zo_4_7 hS)).2 ?_
        refine zw_istore (n := 97) d139_95 rfl rfl rfl ?_
        refine zw_iconst (n := 98) d139_97 rfl zk_i_0 ?_
        refine zw_istore (n := 100) d139_98 rfl rfl rfl ?_
        exact h
      · skip
        refine zw_aload_n (n := 49) d139_48 rfl rfl ?_
        refine zw_bipush (n := 51) d139_49 rfl zk_b_m5 ?_
        refine zw_cI (n := 54) d139_51 (zs_V rfl rfl rfl rfl (by decide) (zj_4 hS).1 (zq_4 hS)) (by rw [ml_10]; rfl) (by decide) rfl (zc_mI h (fun r11 C11 h => ?_))
        exact zw_iret d139_54 rfl ⟨_, rfl, h⟩
    · skip
      refine zw_aload_n (n := 31) d139_30 rfl rfl ?_
      refine zw_iload (n := 33) d139_31 rfl rfl ?_
      refine zw_cI (n := 36) d139_33 (zs_V rfl rfl rfl rfl (by decide) (zj_4 hS).1 (zq_4 hS)) (by rw [ml_10]; rfl) (by decide) rfl (zc_mI h (fun r12 C12 h => ?_))
      exact zw_iret d139_36 rfl ⟨_, rfl, h⟩
theorem vc139_100 {X : zX} {S : zx_S} {C : zx_C} {q : Int32 → zx_C → Prop} {e : Nat} {a1 : Int32} {a2 : Int32} {a3 : Int32} {i1 : Int32} {i2 : Int32} {i3 : Int32} {z4 : Value} {i5 : Int32} {i6 : Int32} {i7 : Int32} {z8 : Value} {z9 : Value} {z10 : Value} (hS : zs_4 S e) (h : if (i7 : Int32) < i2 then (zCd X 3 23 [.ref (e + 18), .int i1, .int i7] S C (zQl (fun r1 C1 => if ((lg_cmp (r1 / 10) (Int32.toInt64 i3)) : Int32) = 0 then (zCd X 5 140 [.ref (e + 24), .int i3, .int (Int64.toInt32 (r1 - r1 / 10 * 10)), .int i6] S C1 (zQi (fun r2 C2 => zCd X 0 61 [.int i6, .int (Int64.toInt32 (r1 - r1 / 10 * 10))] S C2 (zQi (fun r3 C3 => zW X 6 139 100 [.ref e, .int i1, .int i2, .int i3, z4, .int (i5 &&& r2), .int r3, .int (i7 + 1), .long r1, .retAddr 1, .int (Int64.toInt32 (r1 - r1 / 10 * 10))] [] S C3 (zQi q)))))) else (zCd X 0 61 [.int i6, .int (Int64.toInt32 (r1 - r1 / 10 * 10))] S C1 (zQi (fun r4 C4 => zW X 6 139 100 [.ref e, .int i1, .int i2, .int i3, z4, .int i5, .int r4, .int (i7 + 1), .long r1, .retAddr 1, .int (Int64.toInt32 (r1 - r1 / 10 * 10))] [] S C4 (zQi q))))))) else (q i5 C)) : zW X 6 139 100 [.ref e, .int i1, .int i2, .int i3, z4, .int i5, .int i6, .int i7, z8, z9, z10] [] S C (zQi q) := by
  refine zw_iload (n := 102) d139_100 rfl rfl ?_
  refine zw_iload_n (n := 103) d139_102 rfl rfl ?_
  refine zw_ic_ge (n := 106) d139_103 rfl (zite h (fun h => ?_) (fun h => ?_))
  · skip
    refine zw_aload_n (n := 107) d139_106 rfl rfl ?_
    refine zw_getr (n := 110) d139_107 rfl (zj_4 hS).1 (zj_4 hS).2 (zr_4_4 hS) ?_
    refine zw_iload_n (n := 111) d139_110 rfl rfl ?_
    refine zw_iload (n := 113) d139_111 rfl rfl ?_
    refine zw_cL (n := 116) d139_113 (zs_V rfl rfl rfl rfl (by decide) (zj_2 (zo_4_4 hS)).1 (zq_2 (zo_4_4 hS))) (by rw [ml_23]; rfl) (by decide) rfl (zc_mL h (fun r1 C1 h => ?_))
    refine zw_lstore (n := 118) d139_116 rfl rfl rfl ?_
    refine zw_lload (n := 120) d139_118 rfl rfl rfl ?_
    refine zw_ldc2 (n := 123) d139_120 rfl zk_l_10 ?_
    refine zw_lrem (n := 124) d139_123 rfl (by decide) ?_
    refine zw_l2i (n := 125) d139_124 rfl ?_
    refine zw_istore (n := 127) d139_125 rfl rfl rfl ?_
    refine zw_lload (n := 129) d139_127 rfl rfl rfl ?_
    refine zw_ldc2 (n := 132) d139_129 rfl zk_l_10 ?_
    refine zw_ldiv (n := 133) d139_132 rfl (by decide) ?_
    refine zw_iload_n (n := 134) d139_133 rfl rfl ?_
    refine zw_i2l (n := 135) d139_134 rfl ?_
    refine zw_lcmp (n := 136) d139_135 rfl ?_
    refine zw_if_ne (n := 139) d139_136 rfl (zite h (fun h => ?_) (fun h => ?_))
    · skip
      refine zw_iload (n := 141) d139_139 rfl rfl ?_
      refine zw_aload_n (n := 142) d139_141 rfl rfl ?_
      refine zw_getr (n := 145) d139_142 rfl (zj_4 hS).1 (zj_4 hS).2 (zr_4_7 hS) ?_
      refine zw_iload_n (n := 146) d139_145 rfl rfl ?_
      refine zw_iload (n := 148) d139_146 rfl rfl ?_
      refine zw_iload (n := 150) d139_148 rfl rfl ?_
      refine zw_cI (n := 153) d139_150 (zs_V rfl rfl rfl rfl (by decide) (zj_1 (zo_4_7 hS)).1 (zq_1 (zo_4_7 hS))) (by rw [ml_140]; rfl) (by decide) rfl (zc_mI h (fun r2 C2 h => ?_))
      refine zw_iand (n := 154) d139_153 rfl ?_
      refine zw_istore (n := 156) d139_154 rfl rfl rfl ?_
      refine zw_iload (n := 158) d139_156 rfl rfl ?_
      refine zw_iload (n := 160) d139_158 rfl rfl ?_
      refine zw_cI (n := 163) d139_160 (zs_S rfl rfl rfl rfl) (by rw [ml_61]; rfl) (by decide) rfl (zc_mI h (fun r3 C3 h => ?_))
      refine zw_istore (n := 165) d139_163 rfl rfl rfl ?_
      refine zw_iinc (n := 168) d139_165 rfl rfl zk_i_1 rfl ?_
      refine zw_goto d139_168 ?_
      exact h
    · skip
      refine zw_iload (n := 158) d139_156 rfl rfl ?_
      refine zw_iload (n := 160) d139_158 rfl rfl ?_
      refine zw_cI (n := 163) d139_160 (zs_S rfl rfl rfl rfl) (by rw [ml_61]; rfl) (by decide) rfl (zc_mI h (fun r4 C4 h => ?_))
      refine zw_istore (n := 165) d139_163 rfl rfl rfl ?_
      refine zw_iinc (n := 168) d139_165 rfl rfl zk_i_1 rfl ?_
      refine zw_goto d139_168 ?_
      exact h
  · skip
    refine zw_iload (n := 173) d139_171 rfl rfl ?_
    exact zw_iret d139_173 rfl ⟨_, rfl, h⟩

set_option maxRecDepth 20000 in
theorem zf141 (pc : Nat) : zt_code 141 pc = zt_fd zl_141 pc := rfl
theorem d141_0 : zt_code 141 0 = some (.aload_n 0, 0, 0, 0) := (zf141 0).trans rfl
theorem d141_1 : zt_code 141 1 = some (.iload_n 1, 0, 0, 0) := (zf141 1).trans rfl
theorem d141_2 : zt_code 141 2 = some (.iload_n 2, 0, 0, 0) := (zf141 2).trans rfl
theorem d141_3 : zt_code 141 3 = some (.iconst (0), 0, 0, 0) := (zf141 3).trans rfl
theorem d141_4 : zt_code 141 4 = some (.invokevirtual 266, 136, 4, 4) := (zf141 4).trans rfl
theorem d141_7 : zt_code 141 7 = some (.istore_n 3, 0, 0, 0) := (zf141 7).trans rfl
theorem d141_8 : zt_code 141 8 = some (.iload_n 3, 0, 0, 0) := (zf141 8).trans rfl
theorem d141_9 : zt_code 141 9 = some (.ifCond .eq (9), 0, 18, 0) := (zf141 9).trans rfl
theorem d141_12 : zt_code 141 12 = some (.aload_n 0, 0, 0, 0) := (zf141 12).trans rfl
theorem d141_13 : zt_code 141 13 = some (.iload_n 3, 0, 0, 0) := (zf141 13).trans rfl
theorem d141_14 : zt_code 141 14 = some (.invokevirtual 69, 10, 2, 4) := (zf141 14).trans rfl
theorem d141_17 : zt_code 141 17 = some (.ireturn, 0, 0, 0) := (zf141 17).trans rfl
theorem d141_18 : zt_code 141 18 = some (.aload_n 0, 0, 0, 0) := (zf141 18).trans rfl
theorem d141_19 : zt_code 141 19 = some (.iload_n 1, 0, 0, 0) := (zf141 19).trans rfl
theorem d141_20 : zt_code 141 20 = some (.iload_n 2, 0, 0, 0) := (zf141 20).trans rfl
theorem d141_21 : zt_code 141 21 = some (.iconst (-1), 0, 0, 0) := (zf141 21).trans rfl
theorem d141_22 : zt_code 141 22 = some (.invokevirtual 270, 137, 4, 4) := (zf141 22).trans rfl
theorem d141_25 : zt_code 141 25 = some (.iconst (-1), 0, 0, 0) := (zf141 25).trans rfl
theorem d141_26 : zt_code 141 26 = some (.if_icmp .ne (17), 0, 43, 0) := (zf141 26).trans rfl
theorem d141_29 : zt_code 141 29 = some (.iload_n 2, 0, 0, 0) := (zf141 29).trans rfl
theorem d141_30 : zt_code 141 30 = some (.ldc 180, 0, 0, 1000000000) := (zf141 30).trans rfl
theorem d141_32 : zt_code 141 32 = some (.aload_n 0, 0, 0, 0) := (zf141 32).trans rfl
theorem d141_33 : zt_code 141 33 = some (.getfield 12, 4, 0, 1) := (zf141 33).trans rfl
theorem d141_36 : zt_code 141 36 = some (.getfield 181, 0, 3, 0) := (zf141 36).trans rfl
theorem d141_39 : zt_code 141 39 = some (.isub, 0, 0, 0) := (zf141 39).trans rfl
theorem d141_40 : zt_code 141 40 = some (.if_icmp .le (10), 0, 50, 0) := (zf141 40).trans rfl
theorem d141_43 : zt_code 141 43 = some (.aload_n 0, 0, 0, 0) := (zf141 43).trans rfl
theorem d141_44 : zt_code 141 44 = some (.bipush (-5), 0, 0, 0) := (zf141 44).trans rfl
theorem d141_46 : zt_code 141 46 = some (.invokevirtual 69, 10, 2, 4) := (zf141 46).trans rfl
theorem d141_49 : zt_code 141 49 = some (.ireturn, 0, 0, 0) := (zf141 49).trans rfl
theorem d141_50 : zt_code 141 50 = some (.iconst (0), 0, 0, 0) := (zf141 50).trans rfl
theorem d141_51 : zt_code 141 51 = some (.istore 4, 0, 0, 0) := (zf141 51).trans rfl
theorem d141_53 : zt_code 141 53 = some (.iload 4, 0, 0, 0) := (zf141 53).trans rfl
theorem d141_55 : zt_code 141 55 = some (.iload_n 2, 0, 0, 0) := (zf141 55).trans rfl
theorem d141_56 : zt_code 141 56 = some (.if_icmp .ge (31), 0, 87, 0) := (zf141 56).trans rfl
theorem d141_59 : zt_code 141 59 = some (.aload_n 0, 0, 0, 0) := (zf141 59).trans rfl
theorem d141_60 : zt_code 141 60 = some (.getfield 12, 4, 0, 1) := (zf141 60).trans rfl
theorem d141_63 : zt_code 141 63 = some (.aload_n 0, 0, 0, 0) := (zf141 63).trans rfl
theorem d141_64 : zt_code 141 64 = some (.getfield 32, 4, 4, 1) := (zf141 64).trans rfl
theorem d141_67 : zt_code 141 67 = some (.iload_n 1, 0, 0, 0) := (zf141 67).trans rfl
theorem d141_68 : zt_code 141 68 = some (.iload 4, 0, 0, 0) := (zf141 68).trans rfl
theorem d141_70 : zt_code 141 70 = some (.invokevirtual 95, 23, 3, 2) := (zf141 70).trans rfl
theorem d141_73 : zt_code 141 73 = some (.ldc2_w 276, 0, 0, 10) := (zf141 73).trans rfl
theorem d141_76 : zt_code 141 76 = some (.lrem, 0, 0, 0) := (zf141 76).trans rfl
theorem d141_77 : zt_code 141 77 = some (.l2i, 0, 0, 0) := (zf141 77).trans rfl
theorem d141_78 : zt_code 141 78 = some (.invokevirtual 284, 142, 2, 0) := (zf141 78).trans rfl
theorem d141_81 : zt_code 141 81 = some (.iinc 4 (1), 0, 0, 0) := (zf141 81).trans rfl
theorem d141_84 : zt_code 141 84 = some (.goto (-31), 0, 53, 0) := (zf141 84).trans rfl
theorem d141_87 : zt_code 141 87 = some (.iload_n 2, 0, 0, 0) := (zf141 87).trans rfl
theorem d141_88 : zt_code 141 88 = some (.ireturn, 0, 0, 0) := (zf141 88).trans rfl
/-- FirstAtTheFirst.books(II)I -/
theorem vc141 {X : zX} {S : zx_S} {C : zx_C} {q : Int32 → zx_C → Prop} {e : Nat} {a1 : Int32} {a2 : Int32} (hS : zs_4 S e) (h : zCd X 3 136 [.ref e, .int a1, .int a2, .int 0] S C (zQi (fun r1 C1 => if (r1 : Int32) = 0 then (zCd X 4 137 [.ref e, .int a1, .int a2, .int (-1)] S C1 (zQi (fun r2 C2 => if (r2 : Int32) = (-1) then (if ((1000000000 - (C2.1 (e + 1) 3)) : Int32) < a2 then (zCd X 1 10 [.ref e, .int (-5)] S C2 (zQi (fun r3 C3 => q r3 C3))) else (zW X 5 141 53 [.ref e, .int a1, .int a2, .int r1, .int 0] [] S C2 (zQi q))) else (zCd X 1 10 [.ref e, .int (-5)] S C2 (zQi (fun r4 C4 => q r4 C4)))))) else (zCd X 1 10 [.ref e, .int r1] S C1 (zQi (fun r5 C5 => q r5 C5)))))) : zCd X 5 141 [.ref e, .int a1, .int a2] S C (zQi q) := by
  refine zc_in ml_141 rfl ?_
  refine zw_aload_n (n := 1) d141_0 rfl rfl ?_
  refine zw_iload_n (n := 2) d141_1 rfl rfl ?_
  refine zw_iload_n (n := 3) d141_2 rfl rfl ?_
  refine zw_iconst (n := 4) d141_3 rfl zk_i_0 ?_
  refine zw_cI (n := 7) d141_4 (zs_V rfl rfl rfl rfl (by decide) (zj_4 hS).1 (zq_4 hS)) (by rw [ml_136]; rfl) (by decide) rfl (zc_mI h (fun r1 C1 h => ?_))
  refine zw_istore_n (n := 8) d141_7 rfl rfl rfl ?_
  refine zw_iload_n (n := 9) d141_8 rfl rfl ?_
  refine zw_if_eq (n := 12) d141_9 rfl (zite h (fun h => ?_) (fun h => ?_))
  · skip
    refine zw_aload_n (n := 19) d141_18 rfl rfl ?_
    refine zw_iload_n (n := 20) d141_19 rfl rfl ?_
    refine zw_iload_n (n := 21) d141_20 rfl rfl ?_
    refine zw_iconst (n := 22) d141_21 rfl zk_i_m1 ?_
    refine zw_cI (n := 25) d141_22 (zs_V rfl rfl rfl rfl (by decide) (zj_4 hS).1 (zq_4 hS)) (by rw [ml_137]; rfl) (by decide) rfl (zc_mI h (fun r2 C2 h => ?_))
    refine zw_iconst (n := 26) d141_25 rfl zk_i_m1 ?_
    refine zw_ic_ne (n := 29) d141_26 rfl (zite h (fun h => ?_) (fun h => ?_))
    · skip
      refine zw_iload_n (n := 30) d141_29 rfl rfl ?_
      refine zw_ldci (n := 32) d141_30 rfl zk_i_1000000000 ?_
      refine zw_aload_n (n := 33) d141_32 rfl rfl ?_
      refine zw_getr (n := 36) d141_33 rfl (zj_4 hS).1 (zj_4 hS).2 (zr_4_0 hS) ?_
      refine zw_geti (n := 39) d141_36 rfl (zj_0 (zo_4_0 hS)).1 (zj_0 (zo_4_0 hS)).2 ?_
      refine zw_isub (n := 40) d141_39 rfl ?_
      refine zw_ic_le (n := 43) d141_40 rfl (zite h (fun h => ?_) (fun h => ?_))
      · skip
        refine zw_aload_n (n := 44) d141_43 rfl rfl ?_
        refine zw_bipush (n := 46) d141_44 rfl zk_b_m5 ?_
        refine zw_cI (n := 49) d141_46 (zs_V rfl rfl rfl rfl (by decide) (zj_4 hS).1 (zq_4 hS)) (by rw [ml_10]; rfl) (by decide) rfl (zc_mI h (fun r3 C3 h => ?_))
        exact zw_iret d141_49 rfl ⟨_, rfl, h⟩
      · skip
        refine zw_iconst (n := 51) d141_50 rfl zk_i_0 ?_
        refine zw_istore (n := 53) d141_51 rfl rfl rfl ?_
        exact h
    · skip
      refine zw_aload_n (n := 44) d141_43 rfl rfl ?_
      refine zw_bipush (n := 46) d141_44 rfl zk_b_m5 ?_
      refine zw_cI (n := 49) d141_46 (zs_V rfl rfl rfl rfl (by decide) (zj_4 hS).1 (zq_4 hS)) (by rw [ml_10]; rfl) (by decide) rfl (zc_mI h (fun r4 C4 h => ?_))
      exact zw_iret d141_49 rfl ⟨_, rfl, h⟩
  · skip
    refine zw_aload_n (n := 13) d141_12 rfl rfl ?_
    refine zw_iload_n (n := 14) d141_13 rfl rfl ?_
    refine zw_cI (n := 17) d141_14 (zs_V rfl rfl rfl rfl (by decide) (zj_4 hS).1 (zq_4 hS)) (by rw [ml_10]; rfl) (by decide) rfl (zc_mI h (fun r5 C5 h => ?_))
    exact zw_iret d141_17 rfl ⟨_, rfl, h⟩
theorem vc141_53 {X : zX} {S : zx_S} {C : zx_C} {q : Int32 → zx_C → Prop} {e : Nat} {a1 : Int32} {a2 : Int32} {i1 : Int32} {i2 : Int32} {z3 : Value} {i4 : Int32} (hS : zs_4 S e) (h : if (i4 : Int32) < i2 then (zCd X 3 23 [.ref (e + 18), .int i1, .int i4] S C (zQl (fun r1 C1 => zCd X 2 142 [.ref (e + 1), .int (Int64.toInt32 (r1 - r1 / 10 * 10))] S C1 (zQv (fun C2 => zW X 5 141 53 [.ref e, .int i1, .int i2, z3, .int (i4 + 1)] [] S C2 (zQi q)))))) else (q i2 C)) : zW X 5 141 53 [.ref e, .int i1, .int i2, z3, .int i4] [] S C (zQi q) := by
  refine zw_iload (n := 55) d141_53 rfl rfl ?_
  refine zw_iload_n (n := 56) d141_55 rfl rfl ?_
  refine zw_ic_ge (n := 59) d141_56 rfl (zite h (fun h => ?_) (fun h => ?_))
  · skip
    refine zw_aload_n (n := 60) d141_59 rfl rfl ?_
    refine zw_getr (n := 63) d141_60 rfl (zj_4 hS).1 (zj_4 hS).2 (zr_4_0 hS) ?_
    refine zw_aload_n (n := 64) d141_63 rfl rfl ?_
    refine zw_getr (n := 67) d141_64 rfl (zj_4 hS).1 (zj_4 hS).2 (zr_4_4 hS) ?_
    refine zw_iload_n (n := 68) d141_67 rfl rfl ?_
    refine zw_iload (n := 70) d141_68 rfl rfl ?_
    refine zw_cL (n := 73) d141_70 (zs_V rfl rfl rfl rfl (by decide) (zj_2 (zo_4_4 hS)).1 (zq_2 (zo_4_4 hS))) (by rw [ml_23]; rfl) (by decide) rfl (zc_mL h (fun r1 C1 h => ?_))
    refine zw_ldc2 (n := 76) d141_73 rfl zk_l_10 ?_
    refine zw_lrem (n := 77) d141_76 rfl (by decide) ?_
    refine zw_l2i (n := 78) d141_77 rfl ?_
    refine zw_cV (n := 81) d141_78 (zs_V rfl rfl rfl rfl (by decide) (zj_0 (zo_4_0 hS)).1 (zq_0 (zo_4_0 hS))) (by rw [ml_142]; rfl) (by decide) rfl (zc_mV h (fun C2 h => ?_))
    refine zw_iinc (n := 84) d141_81 rfl rfl zk_i_1 rfl ?_
    refine zw_goto d141_84 ?_
    exact h
  · skip
    refine zw_iload_n (n := 88) d141_87 rfl rfl ?_
    exact zw_iret d141_88 rfl ⟨_, rfl, h⟩

set_option maxRecDepth 20000 in
theorem zf143 (pc : Nat) : zt_code 143 pc = zt_fd zl_143 pc := rfl
theorem d143_0 : zt_code 143 0 = some (.iload_n 1, 0, 0, 0) := (zf143 0).trans rfl
theorem d143_1 : zt_code 143 1 = some (.ifCond .lt (8), 0, 9, 0) := (zf143 1).trans rfl
theorem d143_4 : zt_code 143 4 = some (.iload_n 1, 0, 0, 0) := (zf143 4).trans rfl
theorem d143_5 : zt_code 143 5 = some (.iconst (1), 0, 0, 0) := (zf143 5).trans rfl
theorem d143_6 : zt_code 143 6 = some (.if_icmp .le (10), 0, 16, 0) := (zf143 6).trans rfl
theorem d143_9 : zt_code 143 9 = some (.aload_n 0, 0, 0, 0) := (zf143 9).trans rfl
theorem d143_10 : zt_code 143 10 = some (.bipush (-2), 0, 0, 0) := (zf143 10).trans rfl
theorem d143_12 : zt_code 143 12 = some (.invokevirtual 69, 10, 2, 4) := (zf143 12).trans rfl
theorem d143_15 : zt_code 143 15 = some (.ireturn, 0, 0, 0) := (zf143 15).trans rfl
theorem d143_16 : zt_code 143 16 = some (.iconst (0), 0, 0, 0) := (zf143 16).trans rfl
theorem d143_17 : zt_code 143 17 = some (.istore_n 2, 0, 0, 0) := (zf143 17).trans rfl
theorem d143_18 : zt_code 143 18 = some (.iconst (0), 0, 0, 0) := (zf143 18).trans rfl
theorem d143_19 : zt_code 143 19 = some (.istore_n 3, 0, 0, 0) := (zf143 19).trans rfl
theorem d143_20 : zt_code 143 20 = some (.bipush (-5), 0, 0, 0) := (zf143 20).trans rfl
theorem d143_22 : zt_code 143 22 = some (.istore 4, 0, 0, 0) := (zf143 22).trans rfl
theorem d143_24 : zt_code 143 24 = some (.iconst (0), 0, 0, 0) := (zf143 24).trans rfl
theorem d143_25 : zt_code 143 25 = some (.istore 5, 0, 0, 0) := (zf143 25).trans rfl
theorem d143_27 : zt_code 143 27 = some (.iload 5, 0, 0, 0) := (zf143 27).trans rfl
theorem d143_29 : zt_code 143 29 = some (.aload_n 0, 0, 0, 0) := (zf143 29).trans rfl
theorem d143_30 : zt_code 143 30 = some (.getfield 12, 4, 0, 1) := (zf143 30).trans rfl
theorem d143_33 : zt_code 143 33 = some (.getfield 132, 0, 1, 0) := (zf143 33).trans rfl
theorem d143_36 : zt_code 143 36 = some (.if_icmp .ge (78), 0, 114, 0) := (zf143 36).trans rfl
theorem d143_39 : zt_code 143 39 = some (.iload 5, 0, 0, 0) := (zf143 39).trans rfl
theorem d143_41 : zt_code 143 41 = some (.iconst (1), 0, 0, 0) := (zf143 41).trans rfl
theorem d143_42 : zt_code 143 42 = some (.iadd, 0, 0, 0) := (zf143 42).trans rfl
theorem d143_43 : zt_code 143 43 = some (.istore 6, 0, 0, 0) := (zf143 43).trans rfl
theorem d143_45 : zt_code 143 45 = some (.iload 6, 0, 0, 0) := (zf143 45).trans rfl
theorem d143_47 : zt_code 143 47 = some (.aload_n 0, 0, 0, 0) := (zf143 47).trans rfl
theorem d143_48 : zt_code 143 48 = some (.getfield 12, 4, 0, 1) := (zf143 48).trans rfl
theorem d143_51 : zt_code 143 51 = some (.getfield 132, 0, 1, 0) := (zf143 51).trans rfl
theorem d143_54 : zt_code 143 54 = some (.if_icmp .ge (54), 0, 108, 0) := (zf143 54).trans rfl
theorem d143_57 : zt_code 143 57 = some (.aload_n 0, 0, 0, 0) := (zf143 57).trans rfl
theorem d143_58 : zt_code 143 58 = some (.getfield 12, 4, 0, 1) := (zf143 58).trans rfl
theorem d143_61 : zt_code 143 61 = some (.iload 5, 0, 0, 0) := (zf143 61).trans rfl
theorem d143_63 : zt_code 143 63 = some (.iload 6, 0, 0, 0) := (zf143 63).trans rfl
theorem d143_65 : zt_code 143 65 = some (.invokevirtual 287, 144, 3, 0) := (zf143 65).trans rfl
theorem d143_68 : zt_code 143 68 = some (.istore 7, 0, 0, 0) := (zf143 68).trans rfl
theorem d143_70 : zt_code 143 70 = some (.iload_n 2, 0, 0, 0) := (zf143 70).trans rfl
theorem d143_71 : zt_code 143 71 = some (.iload 7, 0, 0, 0) := (zf143 71).trans rfl
theorem d143_73 : zt_code 143 73 = some (.ifCond .le (7), 0, 80, 0) := (zf143 73).trans rfl
theorem d143_76 : zt_code 143 76 = some (.iconst (1), 0, 0, 0) := (zf143 76).trans rfl
theorem d143_77 : zt_code 143 77 = some (.goto (4), 0, 81, 0) := (zf143 77).trans rfl
theorem d143_80 : zt_code 143 80 = some (.iconst (0), 0, 0, 0) := (zf143 80).trans rfl
theorem d143_81 : zt_code 143 81 = some (.iadd, 0, 0, 0) := (zf143 81).trans rfl
theorem d143_82 : zt_code 143 82 = some (.istore_n 2, 0, 0, 0) := (zf143 82).trans rfl
theorem d143_83 : zt_code 143 83 = some (.iload 7, 0, 0, 0) := (zf143 83).trans rfl
theorem d143_85 : zt_code 143 85 = some (.iload_n 3, 0, 0, 0) := (zf143 85).trans rfl
theorem d143_86 : zt_code 143 86 = some (.if_icmp .le (16), 0, 102, 0) := (zf143 86).trans rfl
theorem d143_89 : zt_code 143 89 = some (.iload 7, 0, 0, 0) := (zf143 89).trans rfl
theorem d143_91 : zt_code 143 91 = some (.istore_n 3, 0, 0, 0) := (zf143 91).trans rfl
theorem d143_92 : zt_code 143 92 = some (.bipush (10), 0, 0, 0) := (zf143 92).trans rfl
theorem d143_94 : zt_code 143 94 = some (.iload 5, 0, 0, 0) := (zf143 94).trans rfl
theorem d143_96 : zt_code 143 96 = some (.imul, 0, 0, 0) := (zf143 96).trans rfl
theorem d143_97 : zt_code 143 97 = some (.iload 6, 0, 0, 0) := (zf143 97).trans rfl
theorem d143_99 : zt_code 143 99 = some (.iadd, 0, 0, 0) := (zf143 99).trans rfl
theorem d143_100 : zt_code 143 100 = some (.istore 4, 0, 0, 0) := (zf143 100).trans rfl
theorem d143_102 : zt_code 143 102 = some (.iinc 6 (1), 0, 0, 0) := (zf143 102).trans rfl
theorem d143_105 : zt_code 143 105 = some (.goto (-60), 0, 45, 0) := (zf143 105).trans rfl
theorem d143_108 : zt_code 143 108 = some (.iinc 5 (1), 0, 0, 0) := (zf143 108).trans rfl
theorem d143_111 : zt_code 143 111 = some (.goto (-84), 0, 27, 0) := (zf143 111).trans rfl
theorem d143_114 : zt_code 143 114 = some (.iload_n 1, 0, 0, 0) := (zf143 114).trans rfl
theorem d143_115 : zt_code 143 115 = some (.ifCond .ne (5), 0, 120, 0) := (zf143 115).trans rfl
theorem d143_118 : zt_code 143 118 = some (.iload_n 2, 0, 0, 0) := (zf143 118).trans rfl
theorem d143_119 : zt_code 143 119 = some (.ireturn, 0, 0, 0) := (zf143 119).trans rfl
theorem d143_120 : zt_code 143 120 = some (.iload_n 2, 0, 0, 0) := (zf143 120).trans rfl
theorem d143_121 : zt_code 143 121 = some (.ifCond .ne (12), 0, 133, 0) := (zf143 121).trans rfl
theorem d143_124 : zt_code 143 124 = some (.aload_n 0, 0, 0, 0) := (zf143 124).trans rfl
theorem d143_125 : zt_code 143 125 = some (.bipush (-5), 0, 0, 0) := (zf143 125).trans rfl
theorem d143_127 : zt_code 143 127 = some (.invokevirtual 69, 10, 2, 4) := (zf143 127).trans rfl
theorem d143_130 : zt_code 143 130 = some (.goto (5), 0, 135, 0) := (zf143 130).trans rfl
theorem d143_133 : zt_code 143 133 = some (.iload 4, 0, 0, 0) := (zf143 133).trans rfl
theorem d143_135 : zt_code 143 135 = some (.ireturn, 0, 0, 0) := (zf143 135).trans rfl
/-- FirstAtTheFirst.trades(I)I -/
theorem vc143 {X : zX} {S : zx_S} {C : zx_C} {q : Int32 → zx_C → Prop} {e : Nat} {a1 : Int32} (hS : zs_4 S e) (h : if (a1 : Int32) < 0 then (zCd X 1 10 [.ref e, .int (-2)] S C (zQi (fun r1 C1 => q r1 C1))) else (if (1 : Int32) < a1 then (zCd X 1 10 [.ref e, .int (-2)] S C (zQi (fun r2 C2 => q r2 C2))) else (zW X 3 143 27 [.ref e, .int a1, .int 0, .int 0, .int (-5), .int 0, .retAddr 0, .retAddr 0] [] S C (zQi q)))) : zCd X 3 143 [.ref e, .int a1] S C (zQi q) := by
  refine zc_in ml_143 rfl ?_
  refine zw_iload_n (n := 1) d143_0 rfl rfl ?_
  refine zw_if_lt (n := 4) d143_1 rfl (zite h (fun h => ?_) (fun h => ?_))
  · skip
    refine zw_aload_n (n := 10) d143_9 rfl rfl ?_
    refine zw_bipush (n := 12) d143_10 rfl zk_b_m2 ?_
    refine zw_cI (n := 15) d143_12 (zs_V rfl rfl rfl rfl (by decide) (zj_4 hS).1 (zq_4 hS)) (by rw [ml_10]; rfl) (by decide) rfl (zc_mI h (fun r1 C1 h => ?_))
    exact zw_iret d143_15 rfl ⟨_, rfl, h⟩
  · skip
    refine zw_iload_n (n := 5) d143_4 rfl rfl ?_
    refine zw_iconst (n := 6) d143_5 rfl zk_i_1 ?_
    refine zw_ic_le (n := 9) d143_6 rfl (zite h (fun h => ?_) (fun h => ?_))
    · skip
      refine zw_aload_n (n := 10) d143_9 rfl rfl ?_
      refine zw_bipush (n := 12) d143_10 rfl zk_b_m2 ?_
      refine zw_cI (n := 15) d143_12 (zs_V rfl rfl rfl rfl (by decide) (zj_4 hS).1 (zq_4 hS)) (by rw [ml_10]; rfl) (by decide) rfl (zc_mI h (fun r2 C2 h => ?_))
      exact zw_iret d143_15 rfl ⟨_, rfl, h⟩
    · skip
      refine zw_iconst (n := 17) d143_16 rfl zk_i_0 ?_
      refine zw_istore_n (n := 18) d143_17 rfl rfl rfl ?_
      refine zw_iconst (n := 19) d143_18 rfl zk_i_0 ?_
      refine zw_istore_n (n := 20) d143_19 rfl rfl rfl ?_
      refine zw_bipush (n := 22) d143_20 rfl zk_b_m5 ?_
      refine zw_istore (n := 24) d143_22 rfl rfl rfl ?_
      refine zw_iconst (n := 25) d143_24 rfl zk_i_0 ?_
      refine zw_istore (n := 27) d143_25 rfl rfl rfl ?_
      exact h
theorem vc143_27 {X : zX} {S : zx_S} {C : zx_C} {q : Int32 → zx_C → Prop} {e : Nat} {a1 : Int32} {i1 : Int32} {i2 : Int32} {i3 : Int32} {i4 : Int32} {i5 : Int32} {z6 : Value} {z7 : Value} (hS : zs_4 S e) (h : if (i5 : Int32) < (C.1 (e + 1) 1) then (zW X 3 143 45 [.ref e, .int i1, .int i2, .int i3, .int i4, .int i5, .int (i5 + 1), z7] [] S C (zQi q)) else (if (i1 : Int32) = 0 then (q i2 C) else (if (i2 : Int32) = 0 then (zCd X 1 10 [.ref e, .int (-5)] S C (zQi (fun r1 C1 => q r1 C1))) else (q i4 C)))) : zW X 3 143 27 [.ref e, .int i1, .int i2, .int i3, .int i4, .int i5, z6, z7] [] S C (zQi q) := by
  refine zw_iload (n := 29) d143_27 rfl rfl ?_
  refine zw_aload_n (n := 30) d143_29 rfl rfl ?_
  refine zw_getr (n := 33) d143_30 rfl (zj_4 hS).1 (zj_4 hS).2 (zr_4_0 hS) ?_
  refine zw_geti (n := 36) d143_33 rfl (zj_0 (zo_4_0 hS)).1 (zj_0 (zo_4_0 hS)).2 ?_
  refine zw_ic_ge (n := 39) d143_36 rfl (zite h (fun h => ?_) (fun h => ?_))
  · skip
    refine zw_iload (n := 41) d143_39 rfl rfl ?_
    refine zw_iconst (n := 42) d143_41 rfl zk_i_1 ?_
    refine zw_iadd (n := 43) d143_42 rfl ?_
    refine zw_istore (n := 45) d143_43 rfl rfl rfl ?_
    exact h
  · skip
    refine zw_iload_n (n := 115) d143_114 rfl rfl ?_
    refine zw_if_ne (n := 118) d143_115 rfl (zite h (fun h => ?_) (fun h => ?_))
    · skip
      refine zw_iload_n (n := 119) d143_118 rfl rfl ?_
      exact zw_iret d143_119 rfl ⟨_, rfl, h⟩
    · skip
      refine zw_iload_n (n := 121) d143_120 rfl rfl ?_
      refine zw_if_ne (n := 124) d143_121 rfl (zite h (fun h => ?_) (fun h => ?_))
      · skip
        refine zw_aload_n (n := 125) d143_124 rfl rfl ?_
        refine zw_bipush (n := 127) d143_125 rfl zk_b_m5 ?_
        refine zw_cI (n := 130) d143_127 (zs_V rfl rfl rfl rfl (by decide) (zj_4 hS).1 (zq_4 hS)) (by rw [ml_10]; rfl) (by decide) rfl (zc_mI h (fun r1 C1 h => ?_))
        refine zw_goto d143_130 ?_
        exact zw_iret d143_135 rfl ⟨_, rfl, h⟩
      · skip
        refine zw_iload (n := 135) d143_133 rfl rfl ?_
        exact zw_iret d143_135 rfl ⟨_, rfl, h⟩
theorem vc143_45 {X : zX} {S : zx_S} {C : zx_C} {q : Int32 → zx_C → Prop} {e : Nat} {a1 : Int32} {i1 : Int32} {i2 : Int32} {i3 : Int32} {i4 : Int32} {i5 : Int32} {i6 : Int32} {z7 : Value} (hS : zs_4 S e) (h : if (i6 : Int32) < (C.1 (e + 1) 1) then (zCd X 2 144 [.ref (e + 1), .int i5, .int i6] S C (zQi (fun r1 C1 => if (0 : Int32) < r1 then (if (i3 : Int32) < r1 then (zW X 3 143 45 [.ref e, .int i1, .int (i2 + 1), .int r1, .int ((10 * i5) + i6), .int i5, .int (i6 + 1), .int r1] [] S C1 (zQi q)) else (zW X 3 143 45 [.ref e, .int i1, .int (i2 + 1), .int i3, .int i4, .int i5, .int (i6 + 1), .int r1] [] S C1 (zQi q))) else (if (i3 : Int32) < r1 then (zW X 3 143 45 [.ref e, .int i1, .int (i2 + 0), .int r1, .int ((10 * i5) + i6), .int i5, .int (i6 + 1), .int r1] [] S C1 (zQi q)) else (zW X 3 143 45 [.ref e, .int i1, .int (i2 + 0), .int i3, .int i4, .int i5, .int (i6 + 1), .int r1] [] S C1 (zQi q)))))) else (zW X 3 143 27 [.ref e, .int i1, .int i2, .int i3, .int i4, .int (i5 + 1), .int i6, z7] [] S C (zQi q))) : zW X 3 143 45 [.ref e, .int i1, .int i2, .int i3, .int i4, .int i5, .int i6, z7] [] S C (zQi q) := by
  refine zw_iload (n := 47) d143_45 rfl rfl ?_
  refine zw_aload_n (n := 48) d143_47 rfl rfl ?_
  refine zw_getr (n := 51) d143_48 rfl (zj_4 hS).1 (zj_4 hS).2 (zr_4_0 hS) ?_
  refine zw_geti (n := 54) d143_51 rfl (zj_0 (zo_4_0 hS)).1 (zj_0 (zo_4_0 hS)).2 ?_
  refine zw_ic_ge (n := 57) d143_54 rfl (zite h (fun h => ?_) (fun h => ?_))
  · skip
    refine zw_aload_n (n := 58) d143_57 rfl rfl ?_
    refine zw_getr (n := 61) d143_58 rfl (zj_4 hS).1 (zj_4 hS).2 (zr_4_0 hS) ?_
    refine zw_iload (n := 63) d143_61 rfl rfl ?_
    refine zw_iload (n := 65) d143_63 rfl rfl ?_
    refine zw_cI (n := 68) d143_65 (zs_V rfl rfl rfl rfl (by decide) (zj_0 (zo_4_0 hS)).1 (zq_0 (zo_4_0 hS))) (by rw [ml_144]; rfl) (by decide) rfl (zc_mI h (fun r1 C1 h => ?_))
    refine zw_istore (n := 70) d143_68 rfl rfl rfl ?_
    refine zw_iload_n (n := 71) d143_70 rfl rfl ?_
    refine zw_iload (n := 73) d143_71 rfl rfl ?_
    refine zw_if_le (n := 76) d143_73 rfl (zite h (fun h => ?_) (fun h => ?_))
    · skip
      refine zw_iconst (n := 77) d143_76 rfl zk_i_1 ?_
      refine zw_goto d143_77 ?_
      refine zw_iadd (n := 82) d143_81 rfl ?_
      refine zw_istore_n (n := 83) d143_82 rfl rfl rfl ?_
      refine zw_iload (n := 85) d143_83 rfl rfl ?_
      refine zw_iload_n (n := 86) d143_85 rfl rfl ?_
      refine zw_ic_le (n := 89) d143_86 rfl (zite h (fun h => ?_) (fun h => ?_))
      · skip
        refine zw_iload (n := 91) d143_89 rfl rfl ?_
        refine zw_istore_n (n := 92) d143_91 rfl rfl rfl ?_
        refine zw_bipush (n := 94) d143_92 rfl zk_b_10 ?_
        refine zw_iload (n := 96) d143_94 rfl rfl ?_
        refine zw_imul (n := 97) d143_96 rfl ?_
        refine zw_iload (n := 99) d143_97 rfl rfl ?_
        refine zw_iadd (n := 100) d143_99 rfl ?_
        refine zw_istore (n := 102) d143_100 rfl rfl rfl ?_
        refine zw_iinc (n := 105) d143_102 rfl rfl zk_i_1 rfl ?_
        refine zw_goto d143_105 ?_
        exact h
      · skip
        refine zw_iinc (n := 105) d143_102 rfl rfl zk_i_1 rfl ?_
        refine zw_goto d143_105 ?_
        exact h
    · skip
      refine zw_iconst (n := 81) d143_80 rfl zk_i_0 ?_
      refine zw_iadd (n := 82) d143_81 rfl ?_
      refine zw_istore_n (n := 83) d143_82 rfl rfl rfl ?_
      refine zw_iload (n := 85) d143_83 rfl rfl ?_
      refine zw_iload_n (n := 86) d143_85 rfl rfl ?_
      refine zw_ic_le (n := 89) d143_86 rfl (zite h (fun h => ?_) (fun h => ?_))
      · skip
        refine zw_iload (n := 91) d143_89 rfl rfl ?_
        refine zw_istore_n (n := 92) d143_91 rfl rfl rfl ?_
        refine zw_bipush (n := 94) d143_92 rfl zk_b_10 ?_
        refine zw_iload (n := 96) d143_94 rfl rfl ?_
        refine zw_imul (n := 97) d143_96 rfl ?_
        refine zw_iload (n := 99) d143_97 rfl rfl ?_
        refine zw_iadd (n := 100) d143_99 rfl ?_
        refine zw_istore (n := 102) d143_100 rfl rfl rfl ?_
        refine zw_iinc (n := 105) d143_102 rfl rfl zk_i_1 rfl ?_
        refine zw_goto d143_105 ?_
        exact h
      · skip
        refine zw_iinc (n := 105) d143_102 rfl rfl zk_i_1 rfl ?_
        refine zw_goto d143_105 ?_
        exact h
  · skip
    refine zw_iinc (n := 111) d143_108 rfl rfl zk_i_1 rfl ?_
    refine zw_goto d143_111 ?_
    exact h

set_option maxRecDepth 20000 in
theorem zf145 (pc : Nat) : zt_code 145 pc = zt_fd zl_145 pc := rfl
theorem d145_0 : zt_code 145 0 = some (.aload_n 0, 0, 0, 0) := (zf145 0).trans rfl
theorem d145_1 : zt_code 145 1 = some (.getfield 12, 4, 0, 1) := (zf145 1).trans rfl
theorem d145_4 : zt_code 145 4 = some (.iload_n 1, 0, 0, 0) := (zf145 4).trans rfl
theorem d145_5 : zt_code 145 5 = some (.invokevirtual 148, 42, 2, 0) := (zf145 5).trans rfl
theorem d145_8 : zt_code 145 8 = some (.ifCond .eq (19), 0, 27, 0) := (zf145 8).trans rfl
theorem d145_11 : zt_code 145 11 = some (.aload_n 0, 0, 0, 0) := (zf145 11).trans rfl
theorem d145_12 : zt_code 145 12 = some (.getfield 12, 4, 0, 1) := (zf145 12).trans rfl
theorem d145_15 : zt_code 145 15 = some (.iload_n 2, 0, 0, 0) := (zf145 15).trans rfl
theorem d145_16 : zt_code 145 16 = some (.invokevirtual 148, 42, 2, 0) := (zf145 16).trans rfl
theorem d145_19 : zt_code 145 19 = some (.ifCond .eq (8), 0, 27, 0) := (zf145 19).trans rfl
theorem d145_22 : zt_code 145 22 = some (.iload_n 1, 0, 0, 0) := (zf145 22).trans rfl
theorem d145_23 : zt_code 145 23 = some (.iload_n 2, 0, 0, 0) := (zf145 23).trans rfl
theorem d145_24 : zt_code 145 24 = some (.if_icmp .ne (10), 0, 34, 0) := (zf145 24).trans rfl
theorem d145_27 : zt_code 145 27 = some (.aload_n 0, 0, 0, 0) := (zf145 27).trans rfl
theorem d145_28 : zt_code 145 28 = some (.bipush (-2), 0, 0, 0) := (zf145 28).trans rfl
theorem d145_30 : zt_code 145 30 = some (.invokevirtual 69, 10, 2, 4) := (zf145 30).trans rfl
theorem d145_33 : zt_code 145 33 = some (.ireturn, 0, 0, 0) := (zf145 33).trans rfl
theorem d145_34 : zt_code 145 34 = some (.aload_n 0, 0, 0, 0) := (zf145 34).trans rfl
theorem d145_35 : zt_code 145 35 = some (.getfield 12, 4, 0, 1) := (zf145 35).trans rfl
theorem d145_38 : zt_code 145 38 = some (.iload_n 1, 0, 0, 0) := (zf145 38).trans rfl
theorem d145_39 : zt_code 145 39 = some (.invokevirtual 184, 80, 2, 0) := (zf145 39).trans rfl
theorem d145_42 : zt_code 145 42 = some (.istore_n 3, 0, 0, 0) := (zf145 42).trans rfl
theorem d145_43 : zt_code 145 43 = some (.aload_n 0, 0, 0, 0) := (zf145 43).trans rfl
theorem d145_44 : zt_code 145 44 = some (.getfield 12, 4, 0, 1) := (zf145 44).trans rfl
theorem d145_47 : zt_code 145 47 = some (.iload_n 2, 0, 0, 0) := (zf145 47).trans rfl
theorem d145_48 : zt_code 145 48 = some (.invokevirtual 184, 80, 2, 0) := (zf145 48).trans rfl
theorem d145_51 : zt_code 145 51 = some (.istore 4, 0, 0, 0) := (zf145 51).trans rfl
theorem d145_53 : zt_code 145 53 = some (.iload_n 3, 0, 0, 0) := (zf145 53).trans rfl
theorem d145_54 : zt_code 145 54 = some (.iload 4, 0, 0, 0) := (zf145 54).trans rfl
theorem d145_56 : zt_code 145 56 = some (.if_icmp .ne (5), 0, 61, 0) := (zf145 56).trans rfl
theorem d145_59 : zt_code 145 59 = some (.iconst (0), 0, 0, 0) := (zf145 59).trans rfl
theorem d145_60 : zt_code 145 60 = some (.ireturn, 0, 0, 0) := (zf145 60).trans rfl
theorem d145_61 : zt_code 145 61 = some (.iload_n 3, 0, 0, 0) := (zf145 61).trans rfl
theorem d145_62 : zt_code 145 62 = some (.iconst (-1), 0, 0, 0) := (zf145 62).trans rfl
theorem d145_63 : zt_code 145 63 = some (.if_icmp .eq (9), 0, 72, 0) := (zf145 63).trans rfl
theorem d145_66 : zt_code 145 66 = some (.iload 4, 0, 0, 0) := (zf145 66).trans rfl
theorem d145_68 : zt_code 145 68 = some (.iconst (-1), 0, 0, 0) := (zf145 68).trans rfl
theorem d145_69 : zt_code 145 69 = some (.if_icmp .ne (10), 0, 79, 0) := (zf145 69).trans rfl
theorem d145_72 : zt_code 145 72 = some (.aload_n 0, 0, 0, 0) := (zf145 72).trans rfl
theorem d145_73 : zt_code 145 73 = some (.bipush (-5), 0, 0, 0) := (zf145 73).trans rfl
theorem d145_75 : zt_code 145 75 = some (.invokevirtual 69, 10, 2, 4) := (zf145 75).trans rfl
theorem d145_78 : zt_code 145 78 = some (.ireturn, 0, 0, 0) := (zf145 78).trans rfl
theorem d145_79 : zt_code 145 79 = some (.aload_n 0, 0, 0, 0) := (zf145 79).trans rfl
theorem d145_80 : zt_code 145 80 = some (.getfield 12, 4, 0, 1) := (zf145 80).trans rfl
theorem d145_83 : zt_code 145 83 = some (.getfield 187, 0, 8, 1) := (zf145 83).trans rfl
theorem d145_86 : zt_code 145 86 = some (.iload_n 1, 0, 0, 0) := (zf145 86).trans rfl
theorem d145_87 : zt_code 145 87 = some (.iload 4, 0, 0, 0) := (zf145 87).trans rfl
theorem d145_89 : zt_code 145 89 = some (.invokestatic 157, 12, 3, -1) := (zf145 89).trans rfl
theorem d145_92 : zt_code 145 92 = some (.aload_n 0, 0, 0, 0) := (zf145 92).trans rfl
theorem d145_93 : zt_code 145 93 = some (.getfield 12, 4, 0, 1) := (zf145 93).trans rfl
theorem d145_96 : zt_code 145 96 = some (.getfield 187, 0, 8, 1) := (zf145 96).trans rfl
theorem d145_99 : zt_code 145 99 = some (.iload_n 2, 0, 0, 0) := (zf145 99).trans rfl
theorem d145_100 : zt_code 145 100 = some (.iload_n 3, 0, 0, 0) := (zf145 100).trans rfl
theorem d145_101 : zt_code 145 101 = some (.invokestatic 157, 12, 3, -1) := (zf145 101).trans rfl
theorem d145_104 : zt_code 145 104 = some (.iconst (1), 0, 0, 0) := (zf145 104).trans rfl
theorem d145_105 : zt_code 145 105 = some (.ireturn, 0, 0, 0) := (zf145 105).trans rfl
/-- FirstAtTheFirst.swap(II)I -/
theorem vc145 {X : zX} {S : zx_S} {C : zx_C} {q : Int32 → zx_C → Prop} {e : Nat} {a1 : Int32} {a2 : Int32} (hS : zs_4 S e) (h : zCd X 0 42 [.ref (e + 1), .int a1] S C (zQi (fun r1 C1 => if (r1 : Int32) = 0 then (zCd X 1 10 [.ref e, .int (-2)] S C1 (zQi (fun r2 C2 => q r2 C2))) else (zCd X 0 42 [.ref (e + 1), .int a2] S C1 (zQi (fun r3 C3 => if (r3 : Int32) = 0 then (zCd X 1 10 [.ref e, .int (-2)] S C3 (zQi (fun r4 C4 => q r4 C4))) else (if (a1 : Int32) = a2 then (zCd X 1 10 [.ref e, .int (-2)] S C3 (zQi (fun r5 C5 => q r5 C5))) else (zCd X 1 80 [.ref (e + 1), .int a1] S C3 (zQi (fun r6 C6 => zCd X 1 80 [.ref (e + 1), .int a2] S C6 (zQi (fun r7 C7 => if (r6 : Int32) = r7 then (q 0 C7) else (if (r6 : Int32) = (-1) then (zCd X 1 10 [.ref e, .int (-5)] S C7 (zQi (fun r8 C8 => q r8 C8))) else (if (r7 : Int32) = (-1) then (zCd X 1 10 [.ref e, .int (-5)] S C7 (zQi (fun r9 C9 => q r9 C9))) else (zCd X 0 12 [.ref ((e + 1) + 3), .int a1, .int r7] S C7 (zQv (fun C10 => zCd X 0 12 [.ref ((e + 1) + 3), .int a2, .int r6] S C10 (zQv (fun C11 => q 1 C11))))))))))))))))))) : zCd X 2 145 [.ref e, .int a1, .int a2] S C (zQi q) := by
  refine zc_in ml_145 rfl ?_
  refine zw_aload_n (n := 1) d145_0 rfl rfl ?_
  refine zw_getr (n := 4) d145_1 rfl (zj_4 hS).1 (zj_4 hS).2 (zr_4_0 hS) ?_
  refine zw_iload_n (n := 5) d145_4 rfl rfl ?_
  refine zw_cI (n := 8) d145_5 (zs_V rfl rfl rfl rfl (by decide) (zj_0 (zo_4_0 hS)).1 (zq_0 (zo_4_0 hS))) (by rw [ml_42]; rfl) (by decide) rfl (zc_mI h (fun r1 C1 h => ?_))
  refine zw_if_eq (n := 11) d145_8 rfl (zite h (fun h => ?_) (fun h => ?_))
  · skip
    refine zw_aload_n (n := 28) d145_27 rfl rfl ?_
    refine zw_bipush (n := 30) d145_28 rfl zk_b_m2 ?_
    refine zw_cI (n := 33) d145_30 (zs_V rfl rfl rfl rfl (by decide) (zj_4 hS).1 (zq_4 hS)) (by rw [ml_10]; rfl) (by decide) rfl (zc_mI h (fun r2 C2 h => ?_))
    exact zw_iret d145_33 rfl ⟨_, rfl, h⟩
  · skip
    refine zw_aload_n (n := 12) d145_11 rfl rfl ?_
    refine zw_getr (n := 15) d145_12 rfl (zj_4 hS).1 (zj_4 hS).2 (zr_4_0 hS) ?_
    refine zw_iload_n (n := 16) d145_15 rfl rfl ?_
    refine zw_cI (n := 19) d145_16 (zs_V rfl rfl rfl rfl (by decide) (zj_0 (zo_4_0 hS)).1 (zq_0 (zo_4_0 hS))) (by rw [ml_42]; rfl) (by decide) rfl (zc_mI h (fun r3 C3 h => ?_))
    refine zw_if_eq (n := 22) d145_19 rfl (zite h (fun h => ?_) (fun h => ?_))
    · skip
      refine zw_aload_n (n := 28) d145_27 rfl rfl ?_
      refine zw_bipush (n := 30) d145_28 rfl zk_b_m2 ?_
      refine zw_cI (n := 33) d145_30 (zs_V rfl rfl rfl rfl (by decide) (zj_4 hS).1 (zq_4 hS)) (by rw [ml_10]; rfl) (by decide) rfl (zc_mI h (fun r4 C4 h => ?_))
      exact zw_iret d145_33 rfl ⟨_, rfl, h⟩
    · skip
      refine zw_iload_n (n := 23) d145_22 rfl rfl ?_
      refine zw_iload_n (n := 24) d145_23 rfl rfl ?_
      refine zw_ic_ne (n := 27) d145_24 rfl (zite h (fun h => ?_) (fun h => ?_))
      · skip
        refine zw_aload_n (n := 28) d145_27 rfl rfl ?_
        refine zw_bipush (n := 30) d145_28 rfl zk_b_m2 ?_
        refine zw_cI (n := 33) d145_30 (zs_V rfl rfl rfl rfl (by decide) (zj_4 hS).1 (zq_4 hS)) (by rw [ml_10]; rfl) (by decide) rfl (zc_mI h (fun r5 C5 h => ?_))
        exact zw_iret d145_33 rfl ⟨_, rfl, h⟩
      · skip
        refine zw_aload_n (n := 35) d145_34 rfl rfl ?_
        refine zw_getr (n := 38) d145_35 rfl (zj_4 hS).1 (zj_4 hS).2 (zr_4_0 hS) ?_
        refine zw_iload_n (n := 39) d145_38 rfl rfl ?_
        refine zw_cI (n := 42) d145_39 (zs_V rfl rfl rfl rfl (by decide) (zj_0 (zo_4_0 hS)).1 (zq_0 (zo_4_0 hS))) (by rw [ml_80]; rfl) (by decide) rfl (zc_mI h (fun r6 C6 h => ?_))
        refine zw_istore_n (n := 43) d145_42 rfl rfl rfl ?_
        refine zw_aload_n (n := 44) d145_43 rfl rfl ?_
        refine zw_getr (n := 47) d145_44 rfl (zj_4 hS).1 (zj_4 hS).2 (zr_4_0 hS) ?_
        refine zw_iload_n (n := 48) d145_47 rfl rfl ?_
        refine zw_cI (n := 51) d145_48 (zs_V rfl rfl rfl rfl (by decide) (zj_0 (zo_4_0 hS)).1 (zq_0 (zo_4_0 hS))) (by rw [ml_80]; rfl) (by decide) rfl (zc_mI h (fun r7 C7 h => ?_))
        refine zw_istore (n := 53) d145_51 rfl rfl rfl ?_
        refine zw_iload_n (n := 54) d145_53 rfl rfl ?_
        refine zw_iload (n := 56) d145_54 rfl rfl ?_
        refine zw_ic_ne (n := 59) d145_56 rfl (zite h (fun h => ?_) (fun h => ?_))
        · skip
          refine zw_iconst (n := 60) d145_59 rfl zk_i_0 ?_
          exact zw_iret d145_60 rfl ⟨_, rfl, h⟩
        · skip
          refine zw_iload_n (n := 62) d145_61 rfl rfl ?_
          refine zw_iconst (n := 63) d145_62 rfl zk_i_m1 ?_
          refine zw_ic_eq (n := 66) d145_63 rfl (zite h (fun h => ?_) (fun h => ?_))
          · skip
            refine zw_aload_n (n := 73) d145_72 rfl rfl ?_
            refine zw_bipush (n := 75) d145_73 rfl zk_b_m5 ?_
            refine zw_cI (n := 78) d145_75 (zs_V rfl rfl rfl rfl (by decide) (zj_4 hS).1 (zq_4 hS)) (by rw [ml_10]; rfl) (by decide) rfl (zc_mI h (fun r8 C8 h => ?_))
            exact zw_iret d145_78 rfl ⟨_, rfl, h⟩
          · skip
            refine zw_iload (n := 68) d145_66 rfl rfl ?_
            refine zw_iconst (n := 69) d145_68 rfl zk_i_m1 ?_
            refine zw_ic_ne (n := 72) d145_69 rfl (zite h (fun h => ?_) (fun h => ?_))
            · skip
              refine zw_aload_n (n := 73) d145_72 rfl rfl ?_
              refine zw_bipush (n := 75) d145_73 rfl zk_b_m5 ?_
              refine zw_cI (n := 78) d145_75 (zs_V rfl rfl rfl rfl (by decide) (zj_4 hS).1 (zq_4 hS)) (by rw [ml_10]; rfl) (by decide) rfl (zc_mI h (fun r9 C9 h => ?_))
              exact zw_iret d145_78 rfl ⟨_, rfl, h⟩
            · skip
              refine zw_aload_n (n := 80) d145_79 rfl rfl ?_
              refine zw_getr (n := 83) d145_80 rfl (zj_4 hS).1 (zj_4 hS).2 (zr_4_0 hS) ?_
              refine zw_getr (n := 86) d145_83 rfl (zj_0 (zo_4_0 hS)).1 (zj_0 (zo_4_0 hS)).2 (zr_0_8 (zo_4_0 hS)) ?_
              refine zw_iload_n (n := 87) d145_86 rfl rfl ?_
              refine zw_iload (n := 89) d145_87 rfl rfl ?_
              refine zw_cV (n := 92) d145_89 (zs_S rfl rfl rfl rfl) (by rw [ml_12]; rfl) (by decide) rfl (zc_mV h (fun C10 h => ?_))
              refine zw_aload_n (n := 93) d145_92 rfl rfl ?_
              refine zw_getr (n := 96) d145_93 rfl (zj_4 hS).1 (zj_4 hS).2 (zr_4_0 hS) ?_
              refine zw_getr (n := 99) d145_96 rfl (zj_0 (zo_4_0 hS)).1 (zj_0 (zo_4_0 hS)).2 (zr_0_8 (zo_4_0 hS)) ?_
              refine zw_iload_n (n := 100) d145_99 rfl rfl ?_
              refine zw_iload_n (n := 101) d145_100 rfl rfl ?_
              refine zw_cV (n := 104) d145_101 (zs_S rfl rfl rfl rfl) (by rw [ml_12]; rfl) (by decide) rfl (zc_mV h (fun C11 h => ?_))
              refine zw_iconst (n := 105) d145_104 rfl zk_i_1 ?_
              exact zw_iret d145_105 rfl ⟨_, rfl, h⟩

set_option maxRecDepth 20000 in
theorem zf146 (pc : Nat) : zt_code 146 pc = zt_fd zl_146 pc := rfl
theorem d146_0 : zt_code 146 0 = some (.aload_n 0, 0, 0, 0) := (zf146 0).trans rfl
theorem d146_1 : zt_code 146 1 = some (.getfield 12, 4, 0, 1) := (zf146 1).trans rfl
theorem d146_4 : zt_code 146 4 = some (.iload_n 1, 0, 0, 0) := (zf146 4).trans rfl
theorem d146_5 : zt_code 146 5 = some (.invokevirtual 148, 42, 2, 0) := (zf146 5).trans rfl
theorem d146_8 : zt_code 146 8 = some (.ifCond .ne (10), 0, 18, 0) := (zf146 8).trans rfl
theorem d146_11 : zt_code 146 11 = some (.aload_n 0, 0, 0, 0) := (zf146 11).trans rfl
theorem d146_12 : zt_code 146 12 = some (.bipush (-2), 0, 0, 0) := (zf146 12).trans rfl
theorem d146_14 : zt_code 146 14 = some (.invokevirtual 69, 10, 2, 4) := (zf146 14).trans rfl
theorem d146_17 : zt_code 146 17 = some (.ireturn, 0, 0, 0) := (zf146 17).trans rfl
theorem d146_18 : zt_code 146 18 = some (.aload_n 0, 0, 0, 0) := (zf146 18).trans rfl
theorem d146_19 : zt_code 146 19 = some (.getfield 12, 4, 0, 1) := (zf146 19).trans rfl
theorem d146_22 : zt_code 146 22 = some (.iload_n 1, 0, 0, 0) := (zf146 22).trans rfl
theorem d146_23 : zt_code 146 23 = some (.invokevirtual 184, 80, 2, 0) := (zf146 23).trans rfl
theorem d146_26 : zt_code 146 26 = some (.iconst (-1), 0, 0, 0) := (zf146 26).trans rfl
theorem d146_27 : zt_code 146 27 = some (.if_icmp .ne (15), 0, 42, 0) := (zf146 27).trans rfl
theorem d146_30 : zt_code 146 30 = some (.aload_n 0, 0, 0, 0) := (zf146 30).trans rfl
theorem d146_31 : zt_code 146 31 = some (.getfield 12, 4, 0, 1) := (zf146 31).trans rfl
theorem d146_34 : zt_code 146 34 = some (.getfield 181, 0, 3, 0) := (zf146 34).trans rfl
theorem d146_37 : zt_code 146 37 = some (.ldc 180, 0, 0, 1000000000) := (zf146 37).trans rfl
theorem d146_39 : zt_code 146 39 = some (.if_icmp .lt (10), 0, 49, 0) := (zf146 39).trans rfl
theorem d146_42 : zt_code 146 42 = some (.aload_n 0, 0, 0, 0) := (zf146 42).trans rfl
theorem d146_43 : zt_code 146 43 = some (.bipush (-5), 0, 0, 0) := (zf146 43).trans rfl
theorem d146_45 : zt_code 146 45 = some (.invokevirtual 69, 10, 2, 4) := (zf146 45).trans rfl
theorem d146_48 : zt_code 146 48 = some (.ireturn, 0, 0, 0) := (zf146 48).trans rfl
theorem d146_49 : zt_code 146 49 = some (.aload_n 0, 0, 0, 0) := (zf146 49).trans rfl
theorem d146_50 : zt_code 146 50 = some (.getfield 12, 4, 0, 1) := (zf146 50).trans rfl
theorem d146_53 : zt_code 146 53 = some (.iload_n 1, 0, 0, 0) := (zf146 53).trans rfl
theorem d146_54 : zt_code 146 54 = some (.invokevirtual 284, 142, 2, 0) := (zf146 54).trans rfl
theorem d146_57 : zt_code 146 57 = some (.aload_n 0, 0, 0, 0) := (zf146 57).trans rfl
theorem d146_58 : zt_code 146 58 = some (.getfield 12, 4, 0, 1) := (zf146 58).trans rfl
theorem d146_61 : zt_code 146 61 = some (.iload_n 1, 0, 0, 0) := (zf146 61).trans rfl
theorem d146_62 : zt_code 146 62 = some (.invokevirtual 184, 80, 2, 0) := (zf146 62).trans rfl
theorem d146_65 : zt_code 146 65 = some (.ireturn, 0, 0, 0) := (zf146 65).trans rfl
/-- FirstAtTheFirst.pick(I)I -/
theorem vc146 {X : zX} {S : zx_S} {C : zx_C} {q : Int32 → zx_C → Prop} {e : Nat} {a1 : Int32} (hS : zs_4 S e) (h : zCd X 0 42 [.ref (e + 1), .int a1] S C (zQi (fun r1 C1 => if (r1 : Int32) = 0 then (zCd X 1 10 [.ref e, .int (-2)] S C1 (zQi (fun r2 C2 => q r2 C2))) else (zCd X 1 80 [.ref (e + 1), .int a1] S C1 (zQi (fun r3 C3 => if (r3 : Int32) = (-1) then (if ((C3.1 (e + 1) 3) : Int32) < 1000000000 then (zCd X 2 142 [.ref (e + 1), .int a1] S C3 (zQv (fun C4 => zCd X 1 80 [.ref (e + 1), .int a1] S C4 (zQi (fun r5 C5 => q r5 C5))))) else (zCd X 1 10 [.ref e, .int (-5)] S C3 (zQi (fun r6 C6 => q r6 C6)))) else (zCd X 1 10 [.ref e, .int (-5)] S C3 (zQi (fun r7 C7 => q r7 C7))))))))) : zCd X 3 146 [.ref e, .int a1] S C (zQi q) := by
  refine zc_in ml_146 rfl ?_
  refine zw_aload_n (n := 1) d146_0 rfl rfl ?_
  refine zw_getr (n := 4) d146_1 rfl (zj_4 hS).1 (zj_4 hS).2 (zr_4_0 hS) ?_
  refine zw_iload_n (n := 5) d146_4 rfl rfl ?_
  refine zw_cI (n := 8) d146_5 (zs_V rfl rfl rfl rfl (by decide) (zj_0 (zo_4_0 hS)).1 (zq_0 (zo_4_0 hS))) (by rw [ml_42]; rfl) (by decide) rfl (zc_mI h (fun r1 C1 h => ?_))
  refine zw_if_ne (n := 11) d146_8 rfl (zite h (fun h => ?_) (fun h => ?_))
  · skip
    refine zw_aload_n (n := 12) d146_11 rfl rfl ?_
    refine zw_bipush (n := 14) d146_12 rfl zk_b_m2 ?_
    refine zw_cI (n := 17) d146_14 (zs_V rfl rfl rfl rfl (by decide) (zj_4 hS).1 (zq_4 hS)) (by rw [ml_10]; rfl) (by decide) rfl (zc_mI h (fun r2 C2 h => ?_))
    exact zw_iret d146_17 rfl ⟨_, rfl, h⟩
  · skip
    refine zw_aload_n (n := 19) d146_18 rfl rfl ?_
    refine zw_getr (n := 22) d146_19 rfl (zj_4 hS).1 (zj_4 hS).2 (zr_4_0 hS) ?_
    refine zw_iload_n (n := 23) d146_22 rfl rfl ?_
    refine zw_cI (n := 26) d146_23 (zs_V rfl rfl rfl rfl (by decide) (zj_0 (zo_4_0 hS)).1 (zq_0 (zo_4_0 hS))) (by rw [ml_80]; rfl) (by decide) rfl (zc_mI h (fun r3 C3 h => ?_))
    refine zw_iconst (n := 27) d146_26 rfl zk_i_m1 ?_
    refine zw_ic_ne (n := 30) d146_27 rfl (zite h (fun h => ?_) (fun h => ?_))
    · skip
      refine zw_aload_n (n := 31) d146_30 rfl rfl ?_
      refine zw_getr (n := 34) d146_31 rfl (zj_4 hS).1 (zj_4 hS).2 (zr_4_0 hS) ?_
      refine zw_geti (n := 37) d146_34 rfl (zj_0 (zo_4_0 hS)).1 (zj_0 (zo_4_0 hS)).2 ?_
      refine zw_ldci (n := 39) d146_37 rfl zk_i_1000000000 ?_
      refine zw_ic_lt (n := 42) d146_39 rfl (zite h (fun h => ?_) (fun h => ?_))
      · skip
        refine zw_aload_n (n := 50) d146_49 rfl rfl ?_
        refine zw_getr (n := 53) d146_50 rfl (zj_4 hS).1 (zj_4 hS).2 (zr_4_0 hS) ?_
        refine zw_iload_n (n := 54) d146_53 rfl rfl ?_
        refine zw_cV (n := 57) d146_54 (zs_V rfl rfl rfl rfl (by decide) (zj_0 (zo_4_0 hS)).1 (zq_0 (zo_4_0 hS))) (by rw [ml_142]; rfl) (by decide) rfl (zc_mV h (fun C4 h => ?_))
        refine zw_aload_n (n := 58) d146_57 rfl rfl ?_
        refine zw_getr (n := 61) d146_58 rfl (zj_4 hS).1 (zj_4 hS).2 (zr_4_0 hS) ?_
        refine zw_iload_n (n := 62) d146_61 rfl rfl ?_
        refine zw_cI (n := 65) d146_62 (zs_V rfl rfl rfl rfl (by decide) (zj_0 (zo_4_0 hS)).1 (zq_0 (zo_4_0 hS))) (by rw [ml_80]; rfl) (by decide) rfl (zc_mI h (fun r5 C5 h => ?_))
        exact zw_iret d146_65 rfl ⟨_, rfl, h⟩
      · skip
        refine zw_aload_n (n := 43) d146_42 rfl rfl ?_
        refine zw_bipush (n := 45) d146_43 rfl zk_b_m5 ?_
        refine zw_cI (n := 48) d146_45 (zs_V rfl rfl rfl rfl (by decide) (zj_4 hS).1 (zq_4 hS)) (by rw [ml_10]; rfl) (by decide) rfl (zc_mI h (fun r6 C6 h => ?_))
        exact zw_iret d146_48 rfl ⟨_, rfl, h⟩
    · skip
      refine zw_aload_n (n := 43) d146_42 rfl rfl ?_
      refine zw_bipush (n := 45) d146_43 rfl zk_b_m5 ?_
      refine zw_cI (n := 48) d146_45 (zs_V rfl rfl rfl rfl (by decide) (zj_4 hS).1 (zq_4 hS)) (by rw [ml_10]; rfl) (by decide) rfl (zc_mI h (fun r7 C7 h => ?_))
      exact zw_iret d146_48 rfl ⟨_, rfl, h⟩

set_option maxRecDepth 20000 in
theorem zf147 (pc : Nat) : zt_code 147 pc = zt_fd zl_147 pc := rfl
theorem d147_0 : zt_code 147 0 = some (.iload_n 1, 0, 0, 0) := (zf147 0).trans rfl
theorem d147_1 : zt_code 147 1 = some (.iconst (1), 0, 0, 0) := (zf147 1).trans rfl
theorem d147_2 : zt_code 147 2 = some (.if_icmp .lt (9), 0, 11, 0) := (zf147 2).trans rfl
theorem d147_5 : zt_code 147 5 = some (.iload_n 1, 0, 0, 0) := (zf147 5).trans rfl
theorem d147_6 : zt_code 147 6 = some (.bipush (8), 0, 0, 0) := (zf147 6).trans rfl
theorem d147_8 : zt_code 147 8 = some (.if_icmp .le (10), 0, 18, 0) := (zf147 8).trans rfl
theorem d147_11 : zt_code 147 11 = some (.aload_n 0, 0, 0, 0) := (zf147 11).trans rfl
theorem d147_12 : zt_code 147 12 = some (.bipush (-2), 0, 0, 0) := (zf147 12).trans rfl
theorem d147_14 : zt_code 147 14 = some (.invokevirtual 69, 10, 2, 4) := (zf147 14).trans rfl
theorem d147_17 : zt_code 147 17 = some (.ireturn, 0, 0, 0) := (zf147 17).trans rfl
theorem d147_18 : zt_code 147 18 = some (.iload_n 1, 0, 0, 0) := (zf147 18).trans rfl
theorem d147_19 : zt_code 147 19 = some (.ldc 180, 0, 0, 1000000000) := (zf147 19).trans rfl
theorem d147_21 : zt_code 147 21 = some (.aload_n 0, 0, 0, 0) := (zf147 21).trans rfl
theorem d147_22 : zt_code 147 22 = some (.getfield 12, 4, 0, 1) := (zf147 22).trans rfl
theorem d147_25 : zt_code 147 25 = some (.getfield 181, 0, 3, 0) := (zf147 25).trans rfl
theorem d147_28 : zt_code 147 28 = some (.isub, 0, 0, 0) := (zf147 28).trans rfl
theorem d147_29 : zt_code 147 29 = some (.if_icmp .le (10), 0, 39, 0) := (zf147 29).trans rfl
theorem d147_32 : zt_code 147 32 = some (.aload_n 0, 0, 0, 0) := (zf147 32).trans rfl
theorem d147_33 : zt_code 147 33 = some (.bipush (-5), 0, 0, 0) := (zf147 33).trans rfl
theorem d147_35 : zt_code 147 35 = some (.invokevirtual 69, 10, 2, 4) := (zf147 35).trans rfl
theorem d147_38 : zt_code 147 38 = some (.ireturn, 0, 0, 0) := (zf147 38).trans rfl
theorem d147_39 : zt_code 147 39 = some (.aload_n 0, 0, 0, 0) := (zf147 39).trans rfl
theorem d147_40 : zt_code 147 40 = some (.aload_n 0, 0, 0, 0) := (zf147 40).trans rfl
theorem d147_41 : zt_code 147 41 = some (.getfield 12, 4, 0, 1) := (zf147 41).trans rfl
theorem d147_44 : zt_code 147 44 = some (.getfield 167, 0, 2, 0) := (zf147 44).trans rfl
theorem d147_47 : zt_code 147 47 = some (.invokevirtual 239, 119, 2, 4) := (zf147 47).trans rfl
theorem d147_50 : zt_code 147 50 = some (.iload_n 1, 0, 0, 0) := (zf147 50).trans rfl
theorem d147_51 : zt_code 147 51 = some (.aload_n 0, 0, 0, 0) := (zf147 51).trans rfl
theorem d147_52 : zt_code 147 52 = some (.getfield 290, 4, 10, 0) := (zf147 52).trans rfl
theorem d147_55 : zt_code 147 55 = some (.invokestatic 293, 0, 2, 98) := (zf147 55).trans rfl
theorem d147_58 : zt_code 147 58 = some (.istore_n 2, 0, 0, 0) := (zf147 58).trans rfl
theorem d147_59 : zt_code 147 59 = some (.iconst (0), 0, 0, 0) := (zf147 59).trans rfl
theorem d147_60 : zt_code 147 60 = some (.istore_n 3, 0, 0, 0) := (zf147 60).trans rfl
theorem d147_61 : zt_code 147 61 = some (.iload_n 3, 0, 0, 0) := (zf147 61).trans rfl
theorem d147_62 : zt_code 147 62 = some (.iload_n 2, 0, 0, 0) := (zf147 62).trans rfl
theorem d147_63 : zt_code 147 63 = some (.if_icmp .ge (24), 0, 87, 0) := (zf147 63).trans rfl
theorem d147_66 : zt_code 147 66 = some (.aload_n 0, 0, 0, 0) := (zf147 66).trans rfl
theorem d147_67 : zt_code 147 67 = some (.getfield 12, 4, 0, 1) := (zf147 67).trans rfl
theorem d147_70 : zt_code 147 70 = some (.aload_n 0, 0, 0, 0) := (zf147 70).trans rfl
theorem d147_71 : zt_code 147 71 = some (.getfield 50, 4, 9, 1) := (zf147 71).trans rfl
theorem d147_74 : zt_code 147 74 = some (.iload_n 3, 0, 0, 0) := (zf147 74).trans rfl
theorem d147_75 : zt_code 147 75 = some (.invokestatic 242, 11, 2, -1) := (zf147 75).trans rfl
theorem d147_78 : zt_code 147 78 = some (.invokevirtual 284, 142, 2, 0) := (zf147 78).trans rfl
theorem d147_81 : zt_code 147 81 = some (.iinc 3 (1), 0, 0, 0) := (zf147 81).trans rfl
theorem d147_84 : zt_code 147 84 = some (.goto (-23), 0, 61, 0) := (zf147 84).trans rfl
theorem d147_87 : zt_code 147 87 = some (.iload_n 2, 0, 0, 0) := (zf147 87).trans rfl
theorem d147_88 : zt_code 147 88 = some (.ireturn, 0, 0, 0) := (zf147 88).trans rfl
/-- FirstAtTheFirst.goes(I)I -/
theorem vc147 {X : zX} {S : zx_S} {C : zx_C} {q : Int32 → zx_C → Prop} {e : Nat} {a1 : Int32} (hS : zs_4 S e) (h : if (a1 : Int32) < 1 then (zCd X 1 10 [.ref e, .int (-2)] S C (zQi (fun r1 C1 => q r1 C1))) else (if (8 : Int32) < a1 then (zCd X 1 10 [.ref e, .int (-2)] S C (zQi (fun r2 C2 => q r2 C2))) else (if ((1000000000 - (C.1 (e + 1) 3)) : Int32) < a1 then (zCd X 1 10 [.ref e, .int (-5)] S C (zQi (fun r3 C3 => q r3 C3))) else (zCd X 6 119 [.ref e, .int (C.1 (e + 1) 2)] S C (zQv (fun C4 => zW X 7 147 61 [.ref e, .int a1, .int (if ((C4.1 e 10) : Int32) < a1 then (C4.1 e 10) else a1), .int 0] [] S C4 (zQi q))))))) : zCd X 7 147 [.ref e, .int a1] S C (zQi q) := by
  refine zc_in ml_147 rfl ?_
  refine zw_iload_n (n := 1) d147_0 rfl rfl ?_
  refine zw_iconst (n := 2) d147_1 rfl zk_i_1 ?_
  refine zw_ic_lt (n := 5) d147_2 rfl (zite h (fun h => ?_) (fun h => ?_))
  · skip
    refine zw_aload_n (n := 12) d147_11 rfl rfl ?_
    refine zw_bipush (n := 14) d147_12 rfl zk_b_m2 ?_
    refine zw_cI (n := 17) d147_14 (zs_V rfl rfl rfl rfl (by decide) (zj_4 hS).1 (zq_4 hS)) (by rw [ml_10]; rfl) (by decide) rfl (zc_mI h (fun r1 C1 h => ?_))
    exact zw_iret d147_17 rfl ⟨_, rfl, h⟩
  · skip
    refine zw_iload_n (n := 6) d147_5 rfl rfl ?_
    refine zw_bipush (n := 8) d147_6 rfl zk_b_8 ?_
    refine zw_ic_le (n := 11) d147_8 rfl (zite h (fun h => ?_) (fun h => ?_))
    · skip
      refine zw_aload_n (n := 12) d147_11 rfl rfl ?_
      refine zw_bipush (n := 14) d147_12 rfl zk_b_m2 ?_
      refine zw_cI (n := 17) d147_14 (zs_V rfl rfl rfl rfl (by decide) (zj_4 hS).1 (zq_4 hS)) (by rw [ml_10]; rfl) (by decide) rfl (zc_mI h (fun r2 C2 h => ?_))
      exact zw_iret d147_17 rfl ⟨_, rfl, h⟩
    · skip
      refine zw_iload_n (n := 19) d147_18 rfl rfl ?_
      refine zw_ldci (n := 21) d147_19 rfl zk_i_1000000000 ?_
      refine zw_aload_n (n := 22) d147_21 rfl rfl ?_
      refine zw_getr (n := 25) d147_22 rfl (zj_4 hS).1 (zj_4 hS).2 (zr_4_0 hS) ?_
      refine zw_geti (n := 28) d147_25 rfl (zj_0 (zo_4_0 hS)).1 (zj_0 (zo_4_0 hS)).2 ?_
      refine zw_isub (n := 29) d147_28 rfl ?_
      refine zw_ic_le (n := 32) d147_29 rfl (zite h (fun h => ?_) (fun h => ?_))
      · skip
        refine zw_aload_n (n := 33) d147_32 rfl rfl ?_
        refine zw_bipush (n := 35) d147_33 rfl zk_b_m5 ?_
        refine zw_cI (n := 38) d147_35 (zs_V rfl rfl rfl rfl (by decide) (zj_4 hS).1 (zq_4 hS)) (by rw [ml_10]; rfl) (by decide) rfl (zc_mI h (fun r3 C3 h => ?_))
        exact zw_iret d147_38 rfl ⟨_, rfl, h⟩
      · skip
        refine zw_aload_n (n := 40) d147_39 rfl rfl ?_
        refine zw_aload_n (n := 41) d147_40 rfl rfl ?_
        refine zw_getr (n := 44) d147_41 rfl (zj_4 hS).1 (zj_4 hS).2 (zr_4_0 hS) ?_
        refine zw_geti (n := 47) d147_44 rfl (zj_0 (zo_4_0 hS)).1 (zj_0 (zo_4_0 hS)).2 ?_
        refine zw_cV (n := 50) d147_47 (zs_V rfl rfl rfl rfl (by decide) (zj_4 hS).1 (zq_4 hS)) (by rw [ml_119]; rfl) (by decide) rfl (zc_mV h (fun C4 h => ?_))
        refine zw_iload_n (n := 51) d147_50 rfl rfl ?_
        refine zw_aload_n (n := 52) d147_51 rfl rfl ?_
        refine zw_geti (n := 55) d147_52 rfl (zj_4 hS).1 (zj_4 hS).2 ?_
        refine zw_math (n := 58) d147_55 rfl (Or.inr ⟨rfl, rfl⟩) rfl ?_
        refine zw_istore_n (n := 59) d147_58 rfl rfl rfl ?_
        refine zw_iconst (n := 60) d147_59 rfl zk_i_0 ?_
        refine zw_istore_n (n := 61) d147_60 rfl rfl rfl ?_
        exact h
theorem vc147_61 {X : zX} {S : zx_S} {C : zx_C} {q : Int32 → zx_C → Prop} {e : Nat} {a1 : Int32} {z1 : Value} {i2 : Int32} {i3 : Int32} (hS : zs_4 S e) (h : if (i3 : Int32) < i2 then (zCd X 0 11 [.ref (e + 38), .int i3] S C (zQi (fun r1 C1 => zCd X 2 142 [.ref (e + 1), .int r1] S C1 (zQv (fun C2 => zW X 7 147 61 [.ref e, z1, .int i2, .int (i3 + 1)] [] S C2 (zQi q)))))) else (q i2 C)) : zW X 7 147 61 [.ref e, z1, .int i2, .int i3] [] S C (zQi q) := by
  refine zw_iload_n (n := 62) d147_61 rfl rfl ?_
  refine zw_iload_n (n := 63) d147_62 rfl rfl ?_
  refine zw_ic_ge (n := 66) d147_63 rfl (zite h (fun h => ?_) (fun h => ?_))
  · skip
    refine zw_aload_n (n := 67) d147_66 rfl rfl ?_
    refine zw_getr (n := 70) d147_67 rfl (zj_4 hS).1 (zj_4 hS).2 (zr_4_0 hS) ?_
    refine zw_aload_n (n := 71) d147_70 rfl rfl ?_
    refine zw_getr (n := 74) d147_71 rfl (zj_4 hS).1 (zj_4 hS).2 (zr_4_9 hS) ?_
    refine zw_iload_n (n := 75) d147_74 rfl rfl ?_
    refine zw_cI (n := 78) d147_75 (zs_S rfl rfl rfl rfl) (by rw [ml_11]; rfl) (by decide) rfl (zc_mI h (fun r1 C1 h => ?_))
    refine zw_cV (n := 81) d147_78 (zs_V rfl rfl rfl rfl (by decide) (zj_0 (zo_4_0 hS)).1 (zq_0 (zo_4_0 hS))) (by rw [ml_142]; rfl) (by decide) rfl (zc_mV h (fun C2 h => ?_))
    refine zw_iinc (n := 84) d147_81 rfl rfl zk_i_1 rfl ?_
    refine zw_goto d147_84 ?_
    exact h
  · skip
    refine zw_iload_n (n := 88) d147_87 rfl rfl ?_
    exact zw_iret d147_88 rfl ⟨_, rfl, h⟩

set_option maxRecDepth 20000 in
theorem zf148 (pc : Nat) : zt_code 148 pc = zt_fd zl_148 pc := rfl
theorem d148_0 : zt_code 148 0 = some (.iconst (0), 0, 0, 0) := (zf148 0).trans rfl
theorem d148_1 : zt_code 148 1 = some (.istore_n 1, 0, 0, 0) := (zf148 1).trans rfl
theorem d148_2 : zt_code 148 2 = some (.iconst (0), 0, 0, 0) := (zf148 2).trans rfl
theorem d148_3 : zt_code 148 3 = some (.istore_n 2, 0, 0, 0) := (zf148 3).trans rfl
theorem d148_4 : zt_code 148 4 = some (.iload_n 2, 0, 0, 0) := (zf148 4).trans rfl
theorem d148_5 : zt_code 148 5 = some (.aload_n 0, 0, 0, 0) := (zf148 5).trans rfl
theorem d148_6 : zt_code 148 6 = some (.getfield 12, 4, 0, 1) := (zf148 6).trans rfl
theorem d148_9 : zt_code 148 9 = some (.getfield 132, 0, 1, 0) := (zf148 9).trans rfl
theorem d148_12 : zt_code 148 12 = some (.if_icmp .ge (41), 0, 53, 0) := (zf148 12).trans rfl
theorem d148_15 : zt_code 148 15 = some (.iload_n 1, 0, 0, 0) := (zf148 15).trans rfl
theorem d148_16 : zt_code 148 16 = some (.aload_n 0, 0, 0, 0) := (zf148 16).trans rfl
theorem d148_17 : zt_code 148 17 = some (.getfield 12, 4, 0, 1) := (zf148 17).trans rfl
theorem d148_20 : zt_code 148 20 = some (.iload_n 2, 0, 0, 0) := (zf148 20).trans rfl
theorem d148_21 : zt_code 148 21 = some (.invokevirtual 184, 80, 2, 0) := (zf148 21).trans rfl
theorem d148_24 : zt_code 148 24 = some (.iconst (-1), 0, 0, 0) := (zf148 24).trans rfl
theorem d148_25 : zt_code 148 25 = some (.if_icmp .ne (7), 0, 32, 0) := (zf148 25).trans rfl
theorem d148_28 : zt_code 148 28 = some (.iconst (0), 0, 0, 0) := (zf148 28).trans rfl
theorem d148_29 : zt_code 148 29 = some (.goto (4), 0, 33, 0) := (zf148 29).trans rfl
theorem d148_32 : zt_code 148 32 = some (.iconst (1), 0, 0, 0) := (zf148 32).trans rfl
theorem d148_33 : zt_code 148 33 = some (.iadd, 0, 0, 0) := (zf148 33).trans rfl
theorem d148_34 : zt_code 148 34 = some (.istore_n 1, 0, 0, 0) := (zf148 34).trans rfl
theorem d148_35 : zt_code 148 35 = some (.aload_n 0, 0, 0, 0) := (zf148 35).trans rfl
theorem d148_36 : zt_code 148 36 = some (.getfield 12, 4, 0, 1) := (zf148 36).trans rfl
theorem d148_39 : zt_code 148 39 = some (.getfield 187, 0, 8, 1) := (zf148 39).trans rfl
theorem d148_42 : zt_code 148 42 = some (.iload_n 2, 0, 0, 0) := (zf148 42).trans rfl
theorem d148_43 : zt_code 148 43 = some (.iconst (-1), 0, 0, 0) := (zf148 43).trans rfl
theorem d148_44 : zt_code 148 44 = some (.invokestatic 157, 12, 3, -1) := (zf148 44).trans rfl
theorem d148_47 : zt_code 148 47 = some (.iinc 2 (1), 0, 0, 0) := (zf148 47).trans rfl
theorem d148_50 : zt_code 148 50 = some (.goto (-46), 0, 4, 0) := (zf148 50).trans rfl
theorem d148_53 : zt_code 148 53 = some (.aload_n 0, 0, 0, 0) := (zf148 53).trans rfl
theorem d148_54 : zt_code 148 54 = some (.getfield 12, 4, 0, 1) := (zf148 54).trans rfl
theorem d148_57 : zt_code 148 57 = some (.iconst (0), 0, 0, 0) := (zf148 57).trans rfl
theorem d148_58 : zt_code 148 58 = some (.putfield 181, 0, 3, 0) := (zf148 58).trans rfl
theorem d148_61 : zt_code 148 61 = some (.iload_n 1, 0, 0, 0) := (zf148 61).trans rfl
theorem d148_62 : zt_code 148 62 = some (.ireturn, 0, 0, 0) := (zf148 62).trans rfl
/-- FirstAtTheFirst.again()I -/
theorem vc148 {X : zX} {S : zx_S} {C : zx_C} {q : Int32 → zx_C → Prop} {e : Nat} (hS : zs_4 S e) (h : zW X 2 148 4 [.ref e, .int 0, .int 0] [] S C (zQi q)) : zCd X 2 148 [.ref e] S C (zQi q) := by
  refine zc_in ml_148 rfl ?_
  refine zw_iconst (n := 1) d148_0 rfl zk_i_0 ?_
  refine zw_istore_n (n := 2) d148_1 rfl rfl rfl ?_
  refine zw_iconst (n := 3) d148_2 rfl zk_i_0 ?_
  refine zw_istore_n (n := 4) d148_3 rfl rfl rfl ?_
  exact h
theorem vc148_4 {X : zX} {S : zx_S} {C : zx_C} {q : Int32 → zx_C → Prop} {e : Nat} {i1 : Int32} {i2 : Int32} (hS : zs_4 S e) (h : if (i2 : Int32) < (C.1 (e + 1) 1) then (zCd X 1 80 [.ref (e + 1), .int i2] S C (zQi (fun r1 C1 => if (r1 : Int32) = (-1) then (zCd X 0 12 [.ref ((e + 1) + 3), .int i2, .int (-1)] S C1 (zQv (fun C2 => zW X 2 148 4 [.ref e, .int (i1 + 0), .int (i2 + 1)] [] S C2 (zQi q)))) else (zCd X 0 12 [.ref ((e + 1) + 3), .int i2, .int (-1)] S C1 (zQv (fun C3 => zW X 2 148 4 [.ref e, .int (i1 + 1), .int (i2 + 1)] [] S C3 (zQi q))))))) else (q i1 (zp C (e + 1) 3 0))) : zW X 2 148 4 [.ref e, .int i1, .int i2] [] S C (zQi q) := by
  refine zw_iload_n (n := 5) d148_4 rfl rfl ?_
  refine zw_aload_n (n := 6) d148_5 rfl rfl ?_
  refine zw_getr (n := 9) d148_6 rfl (zj_4 hS).1 (zj_4 hS).2 (zr_4_0 hS) ?_
  refine zw_geti (n := 12) d148_9 rfl (zj_0 (zo_4_0 hS)).1 (zj_0 (zo_4_0 hS)).2 ?_
  refine zw_ic_ge (n := 15) d148_12 rfl (zite h (fun h => ?_) (fun h => ?_))
  · skip
    refine zw_iload_n (n := 16) d148_15 rfl rfl ?_
    refine zw_aload_n (n := 17) d148_16 rfl rfl ?_
    refine zw_getr (n := 20) d148_17 rfl (zj_4 hS).1 (zj_4 hS).2 (zr_4_0 hS) ?_
    refine zw_iload_n (n := 21) d148_20 rfl rfl ?_
    refine zw_cI (n := 24) d148_21 (zs_V rfl rfl rfl rfl (by decide) (zj_0 (zo_4_0 hS)).1 (zq_0 (zo_4_0 hS))) (by rw [ml_80]; rfl) (by decide) rfl (zc_mI h (fun r1 C1 h => ?_))
    refine zw_iconst (n := 25) d148_24 rfl zk_i_m1 ?_
    refine zw_ic_ne (n := 28) d148_25 rfl (zite h (fun h => ?_) (fun h => ?_))
    · skip
      refine zw_iconst (n := 29) d148_28 rfl zk_i_0 ?_
      refine zw_goto d148_29 ?_
      refine zw_iadd (n := 34) d148_33 rfl ?_
      refine zw_istore_n (n := 35) d148_34 rfl rfl rfl ?_
      refine zw_aload_n (n := 36) d148_35 rfl rfl ?_
      refine zw_getr (n := 39) d148_36 rfl (zj_4 hS).1 (zj_4 hS).2 (zr_4_0 hS) ?_
      refine zw_getr (n := 42) d148_39 rfl (zj_0 (zo_4_0 hS)).1 (zj_0 (zo_4_0 hS)).2 (zr_0_8 (zo_4_0 hS)) ?_
      refine zw_iload_n (n := 43) d148_42 rfl rfl ?_
      refine zw_iconst (n := 44) d148_43 rfl zk_i_m1 ?_
      refine zw_cV (n := 47) d148_44 (zs_S rfl rfl rfl rfl) (by rw [ml_12]; rfl) (by decide) rfl (zc_mV h (fun C2 h => ?_))
      refine zw_iinc (n := 50) d148_47 rfl rfl zk_i_1 rfl ?_
      refine zw_goto d148_50 ?_
      exact h
    · skip
      refine zw_iconst (n := 33) d148_32 rfl zk_i_1 ?_
      refine zw_iadd (n := 34) d148_33 rfl ?_
      refine zw_istore_n (n := 35) d148_34 rfl rfl rfl ?_
      refine zw_aload_n (n := 36) d148_35 rfl rfl ?_
      refine zw_getr (n := 39) d148_36 rfl (zj_4 hS).1 (zj_4 hS).2 (zr_4_0 hS) ?_
      refine zw_getr (n := 42) d148_39 rfl (zj_0 (zo_4_0 hS)).1 (zj_0 (zo_4_0 hS)).2 (zr_0_8 (zo_4_0 hS)) ?_
      refine zw_iload_n (n := 43) d148_42 rfl rfl ?_
      refine zw_iconst (n := 44) d148_43 rfl zk_i_m1 ?_
      refine zw_cV (n := 47) d148_44 (zs_S rfl rfl rfl rfl) (by rw [ml_12]; rfl) (by decide) rfl (zc_mV h (fun C3 h => ?_))
      refine zw_iinc (n := 50) d148_47 rfl rfl zk_i_1 rfl ?_
      refine zw_goto d148_50 ?_
      exact h
  · skip
    refine zw_aload_n (n := 54) d148_53 rfl rfl ?_
    refine zw_getr (n := 57) d148_54 rfl (zj_4 hS).1 (zj_4 hS).2 (zr_4_0 hS) ?_
    refine zw_iconst (n := 58) d148_57 rfl zk_i_0 ?_
    refine zw_puti (n := 61) d148_58 rfl (zj_0 (zo_4_0 hS)).1 (zj_0 (zo_4_0 hS)).2 ?_
    refine zw_iload_n (n := 62) d148_61 rfl rfl ?_
    exact zw_iret d148_62 rfl ⟨_, rfl, h⟩

set_option maxRecDepth 20000 in
theorem zf149 (pc : Nat) : zt_code 149 pc = zt_fd zl_149 pc := rfl
theorem d149_0 : zt_code 149 0 = some (.iload_n 1, 0, 0, 0) := (zf149 0).trans rfl
theorem d149_1 : zt_code 149 1 = some (.iconst (1), 0, 0, 0) := (zf149 1).trans rfl
theorem d149_2 : zt_code 149 2 = some (.if_icmp .lt (9), 0, 11, 0) := (zf149 2).trans rfl
theorem d149_5 : zt_code 149 5 = some (.iload_n 1, 0, 0, 0) := (zf149 5).trans rfl
theorem d149_6 : zt_code 149 6 = some (.bipush (8), 0, 0, 0) := (zf149 6).trans rfl
theorem d149_8 : zt_code 149 8 = some (.if_icmp .le (10), 0, 18, 0) := (zf149 8).trans rfl
theorem d149_11 : zt_code 149 11 = some (.aload_n 0, 0, 0, 0) := (zf149 11).trans rfl
theorem d149_12 : zt_code 149 12 = some (.bipush (-2), 0, 0, 0) := (zf149 12).trans rfl
theorem d149_14 : zt_code 149 14 = some (.invokevirtual 69, 10, 2, 4) := (zf149 14).trans rfl
theorem d149_17 : zt_code 149 17 = some (.ireturn, 0, 0, 0) := (zf149 17).trans rfl
theorem d149_18 : zt_code 149 18 = some (.iload_n 1, 0, 0, 0) := (zf149 18).trans rfl
theorem d149_19 : zt_code 149 19 = some (.bipush (8), 0, 0, 0) := (zf149 19).trans rfl
theorem d149_21 : zt_code 149 21 = some (.aload_n 0, 0, 0, 0) := (zf149 21).trans rfl
theorem d149_22 : zt_code 149 22 = some (.getfield 12, 4, 0, 1) := (zf149 22).trans rfl
theorem d149_25 : zt_code 149 25 = some (.getfield 132, 0, 1, 0) := (zf149 25).trans rfl
theorem d149_28 : zt_code 149 28 = some (.isub, 0, 0, 0) := (zf149 28).trans rfl
theorem d149_29 : zt_code 149 29 = some (.invokestatic 293, 0, 2, 98) := (zf149 29).trans rfl
theorem d149_32 : zt_code 149 32 = some (.istore_n 2, 0, 0, 0) := (zf149 32).trans rfl
theorem d149_33 : zt_code 149 33 = some (.iconst (0), 0, 0, 0) := (zf149 33).trans rfl
theorem d149_34 : zt_code 149 34 = some (.istore_n 3, 0, 0, 0) := (zf149 34).trans rfl
theorem d149_35 : zt_code 149 35 = some (.iload_n 3, 0, 0, 0) := (zf149 35).trans rfl
theorem d149_36 : zt_code 149 36 = some (.iload_n 2, 0, 0, 0) := (zf149 36).trans rfl
theorem d149_37 : zt_code 149 37 = some (.if_icmp .ge (70), 0, 107, 0) := (zf149 37).trans rfl
theorem d149_40 : zt_code 149 40 = some (.aload_n 0, 0, 0, 0) := (zf149 40).trans rfl
theorem d149_41 : zt_code 149 41 = some (.getfield 12, 4, 0, 1) := (zf149 41).trans rfl
theorem d149_44 : zt_code 149 44 = some (.bipush (100), 0, 0, 0) := (zf149 44).trans rfl
theorem d149_46 : zt_code 149 46 = some (.invokevirtual 296, 150, 2, 0) := (zf149 46).trans rfl
theorem d149_49 : zt_code 149 49 = some (.istore 4, 0, 0, 0) := (zf149 49).trans rfl
theorem d149_51 : zt_code 149 51 = some (.aload_n 0, 0, 0, 0) := (zf149 51).trans rfl
theorem d149_52 : zt_code 149 52 = some (.getfield 12, 4, 0, 1) := (zf149 52).trans rfl
theorem d149_55 : zt_code 149 55 = some (.bipush (100), 0, 0, 0) := (zf149 55).trans rfl
theorem d149_57 : zt_code 149 57 = some (.invokevirtual 296, 150, 2, 0) := (zf149 57).trans rfl
theorem d149_60 : zt_code 149 60 = some (.istore 5, 0, 0, 0) := (zf149 60).trans rfl
theorem d149_62 : zt_code 149 62 = some (.aload_n 0, 0, 0, 0) := (zf149 62).trans rfl
theorem d149_63 : zt_code 149 63 = some (.getfield 12, 4, 0, 1) := (zf149 63).trans rfl
theorem d149_66 : zt_code 149 66 = some (.getfield 136, 0, 0, 0) := (zf149 66).trans rfl
theorem d149_69 : zt_code 149 69 = some (.iconst (2), 0, 0, 0) := (zf149 69).trans rfl
theorem d149_70 : zt_code 149 70 = some (.if_icmp .le (15), 0, 85, 0) := (zf149 70).trans rfl
theorem d149_73 : zt_code 149 73 = some (.aload_n 0, 0, 0, 0) := (zf149 73).trans rfl
theorem d149_74 : zt_code 149 74 = some (.getfield 12, 4, 0, 1) := (zf149 74).trans rfl
theorem d149_77 : zt_code 149 77 = some (.bipush (100), 0, 0, 0) := (zf149 77).trans rfl
theorem d149_79 : zt_code 149 79 = some (.invokevirtual 296, 150, 2, 0) := (zf149 79).trans rfl
theorem d149_82 : zt_code 149 82 = some (.goto (4), 0, 86, 0) := (zf149 82).trans rfl
theorem d149_85 : zt_code 149 85 = some (.iconst (0), 0, 0, 0) := (zf149 85).trans rfl
theorem d149_86 : zt_code 149 86 = some (.istore 6, 0, 0, 0) := (zf149 86).trans rfl
theorem d149_88 : zt_code 149 88 = some (.aload_n 0, 0, 0, 0) := (zf149 88).trans rfl
theorem d149_89 : zt_code 149 89 = some (.getfield 12, 4, 0, 1) := (zf149 89).trans rfl
theorem d149_92 : zt_code 149 92 = some (.iload 4, 0, 0, 0) := (zf149 92).trans rfl
theorem d149_94 : zt_code 149 94 = some (.iload 5, 0, 0, 0) := (zf149 94).trans rfl
theorem d149_96 : zt_code 149 96 = some (.iload 6, 0, 0, 0) := (zf149 96).trans rfl
theorem d149_98 : zt_code 149 98 = some (.invokevirtual 145, 71, 4, 0) := (zf149 98).trans rfl
theorem d149_101 : zt_code 149 101 = some (.iinc 3 (1), 0, 0, 0) := (zf149 101).trans rfl
theorem d149_104 : zt_code 149 104 = some (.goto (-69), 0, 35, 0) := (zf149 104).trans rfl
theorem d149_107 : zt_code 149 107 = some (.iload_n 2, 0, 0, 0) := (zf149 107).trans rfl
theorem d149_108 : zt_code 149 108 = some (.ireturn, 0, 0, 0) := (zf149 108).trans rfl
/-- FirstAtTheFirst.deal(I)I -/
theorem vc149 {X : zX} {S : zx_S} {C : zx_C} {q : Int32 → zx_C → Prop} {e : Nat} {a1 : Int32} (hS : zs_4 S e) (h : if (a1 : Int32) < 1 then (zCd X 1 10 [.ref e, .int (-2)] S C (zQi (fun r1 C1 => q r1 C1))) else (if (8 : Int32) < a1 then (zCd X 1 10 [.ref e, .int (-2)] S C (zQi (fun r2 C2 => q r2 C2))) else (zW X 2 149 35 [.ref e, .int a1, .int (if ((8 - (C.1 (e + 1) 1)) : Int32) < a1 then (8 - (C.1 (e + 1) 1)) else a1), .int 0, .retAddr 0, .retAddr 0, .retAddr 0] [] S C (zQi q)))) : zCd X 2 149 [.ref e, .int a1] S C (zQi q) := by
  refine zc_in ml_149 rfl ?_
  refine zw_iload_n (n := 1) d149_0 rfl rfl ?_
  refine zw_iconst (n := 2) d149_1 rfl zk_i_1 ?_
  refine zw_ic_lt (n := 5) d149_2 rfl (zite h (fun h => ?_) (fun h => ?_))
  · skip
    refine zw_aload_n (n := 12) d149_11 rfl rfl ?_
    refine zw_bipush (n := 14) d149_12 rfl zk_b_m2 ?_
    refine zw_cI (n := 17) d149_14 (zs_V rfl rfl rfl rfl (by decide) (zj_4 hS).1 (zq_4 hS)) (by rw [ml_10]; rfl) (by decide) rfl (zc_mI h (fun r1 C1 h => ?_))
    exact zw_iret d149_17 rfl ⟨_, rfl, h⟩
  · skip
    refine zw_iload_n (n := 6) d149_5 rfl rfl ?_
    refine zw_bipush (n := 8) d149_6 rfl zk_b_8 ?_
    refine zw_ic_le (n := 11) d149_8 rfl (zite h (fun h => ?_) (fun h => ?_))
    · skip
      refine zw_aload_n (n := 12) d149_11 rfl rfl ?_
      refine zw_bipush (n := 14) d149_12 rfl zk_b_m2 ?_
      refine zw_cI (n := 17) d149_14 (zs_V rfl rfl rfl rfl (by decide) (zj_4 hS).1 (zq_4 hS)) (by rw [ml_10]; rfl) (by decide) rfl (zc_mI h (fun r2 C2 h => ?_))
      exact zw_iret d149_17 rfl ⟨_, rfl, h⟩
    · skip
      refine zw_iload_n (n := 19) d149_18 rfl rfl ?_
      refine zw_bipush (n := 21) d149_19 rfl zk_b_8 ?_
      refine zw_aload_n (n := 22) d149_21 rfl rfl ?_
      refine zw_getr (n := 25) d149_22 rfl (zj_4 hS).1 (zj_4 hS).2 (zr_4_0 hS) ?_
      refine zw_geti (n := 28) d149_25 rfl (zj_0 (zo_4_0 hS)).1 (zj_0 (zo_4_0 hS)).2 ?_
      refine zw_isub (n := 29) d149_28 rfl ?_
      refine zw_math (n := 32) d149_29 rfl (Or.inr ⟨rfl, rfl⟩) rfl ?_
      refine zw_istore_n (n := 33) d149_32 rfl rfl rfl ?_
      refine zw_iconst (n := 34) d149_33 rfl zk_i_0 ?_
      refine zw_istore_n (n := 35) d149_34 rfl rfl rfl ?_
      exact h
theorem vc149_35 {X : zX} {S : zx_S} {C : zx_C} {q : Int32 → zx_C → Prop} {e : Nat} {a1 : Int32} {z1 : Value} {i2 : Int32} {i3 : Int32} {z4 : Value} {z5 : Value} {z6 : Value} (hS : zs_4 S e) (h : if (i3 : Int32) < i2 then (zCd X 0 150 [.ref (e + 1), .int 100] S C (zQi (fun r1 C1 => zCd X 0 150 [.ref (e + 1), .int 100] S C1 (zQi (fun r2 C2 => if (2 : Int32) < (C2.1 (e + 1) 0) then (zCd X 0 150 [.ref (e + 1), .int 100] S C2 (zQi (fun r3 C3 => zCd X 1 71 [.ref (e + 1), .int r1, .int r2, .int r3] S C3 (zQv (fun C4 => zW X 2 149 35 [.ref e, z1, .int i2, .int (i3 + 1), .int r1, .int r2, .int r3] [] S C4 (zQi q)))))) else (zCd X 1 71 [.ref (e + 1), .int r1, .int r2, .int 0] S C2 (zQv (fun C5 => zW X 2 149 35 [.ref e, z1, .int i2, .int (i3 + 1), .int r1, .int r2, .int 0] [] S C5 (zQi q))))))))) else (q i2 C)) : zW X 2 149 35 [.ref e, z1, .int i2, .int i3, z4, z5, z6] [] S C (zQi q) := by
  refine zw_iload_n (n := 36) d149_35 rfl rfl ?_
  refine zw_iload_n (n := 37) d149_36 rfl rfl ?_
  refine zw_ic_ge (n := 40) d149_37 rfl (zite h (fun h => ?_) (fun h => ?_))
  · skip
    refine zw_aload_n (n := 41) d149_40 rfl rfl ?_
    refine zw_getr (n := 44) d149_41 rfl (zj_4 hS).1 (zj_4 hS).2 (zr_4_0 hS) ?_
    refine zw_bipush (n := 46) d149_44 rfl zk_b_100 ?_
    refine zw_cI (n := 49) d149_46 (zs_V rfl rfl rfl rfl (by decide) (zj_0 (zo_4_0 hS)).1 (zq_0 (zo_4_0 hS))) (by rw [ml_150]; rfl) (by decide) rfl (zc_mI h (fun r1 C1 h => ?_))
    refine zw_istore (n := 51) d149_49 rfl rfl rfl ?_
    refine zw_aload_n (n := 52) d149_51 rfl rfl ?_
    refine zw_getr (n := 55) d149_52 rfl (zj_4 hS).1 (zj_4 hS).2 (zr_4_0 hS) ?_
    refine zw_bipush (n := 57) d149_55 rfl zk_b_100 ?_
    refine zw_cI (n := 60) d149_57 (zs_V rfl rfl rfl rfl (by decide) (zj_0 (zo_4_0 hS)).1 (zq_0 (zo_4_0 hS))) (by rw [ml_150]; rfl) (by decide) rfl (zc_mI h (fun r2 C2 h => ?_))
    refine zw_istore (n := 62) d149_60 rfl rfl rfl ?_
    refine zw_aload_n (n := 63) d149_62 rfl rfl ?_
    refine zw_getr (n := 66) d149_63 rfl (zj_4 hS).1 (zj_4 hS).2 (zr_4_0 hS) ?_
    refine zw_geti (n := 69) d149_66 rfl (zj_0 (zo_4_0 hS)).1 (zj_0 (zo_4_0 hS)).2 ?_
    refine zw_iconst (n := 70) d149_69 rfl zk_i_2 ?_
    refine zw_ic_le (n := 73) d149_70 rfl (zite h (fun h => ?_) (fun h => ?_))
    · skip
      refine zw_aload_n (n := 74) d149_73 rfl rfl ?_
      refine zw_getr (n := 77) d149_74 rfl (zj_4 hS).1 (zj_4 hS).2 (zr_4_0 hS) ?_
      refine zw_bipush (n := 79) d149_77 rfl zk_b_100 ?_
      refine zw_cI (n := 82) d149_79 (zs_V rfl rfl rfl rfl (by decide) (zj_0 (zo_4_0 hS)).1 (zq_0 (zo_4_0 hS))) (by rw [ml_150]; rfl) (by decide) rfl (zc_mI h (fun r3 C3 h => ?_))
      refine zw_goto d149_82 ?_
      refine zw_istore (n := 88) d149_86 rfl rfl rfl ?_
      refine zw_aload_n (n := 89) d149_88 rfl rfl ?_
      refine zw_getr (n := 92) d149_89 rfl (zj_4 hS).1 (zj_4 hS).2 (zr_4_0 hS) ?_
      refine zw_iload (n := 94) d149_92 rfl rfl ?_
      refine zw_iload (n := 96) d149_94 rfl rfl ?_
      refine zw_iload (n := 98) d149_96 rfl rfl ?_
      refine zw_cV (n := 101) d149_98 (zs_V rfl rfl rfl rfl (by decide) (zj_0 (zo_4_0 hS)).1 (zq_0 (zo_4_0 hS))) (by rw [ml_71]; rfl) (by decide) rfl (zc_mV h (fun C4 h => ?_))
      refine zw_iinc (n := 104) d149_101 rfl rfl zk_i_1 rfl ?_
      refine zw_goto d149_104 ?_
      exact h
    · skip
      refine zw_iconst (n := 86) d149_85 rfl zk_i_0 ?_
      refine zw_istore (n := 88) d149_86 rfl rfl rfl ?_
      refine zw_aload_n (n := 89) d149_88 rfl rfl ?_
      refine zw_getr (n := 92) d149_89 rfl (zj_4 hS).1 (zj_4 hS).2 (zr_4_0 hS) ?_
      refine zw_iload (n := 94) d149_92 rfl rfl ?_
      refine zw_iload (n := 96) d149_94 rfl rfl ?_
      refine zw_iload (n := 98) d149_96 rfl rfl ?_
      refine zw_cV (n := 101) d149_98 (zs_V rfl rfl rfl rfl (by decide) (zj_0 (zo_4_0 hS)).1 (zq_0 (zo_4_0 hS))) (by rw [ml_71]; rfl) (by decide) rfl (zc_mV h (fun C5 h => ?_))
      refine zw_iinc (n := 104) d149_101 rfl rfl zk_i_1 rfl ?_
      refine zw_goto d149_104 ?_
      exact h
  · skip
    refine zw_iload_n (n := 108) d149_107 rfl rfl ?_
    exact zw_iret d149_108 rfl ⟨_, rfl, h⟩

set_option maxRecDepth 20000 in
theorem zf151 (pc : Nat) : zt_code 151 pc = zt_fd zl_151 pc := rfl
theorem d151_0 : zt_code 151 0 = some (.aload_n 0, 0, 0, 0) := (zf151 0).trans rfl
theorem d151_1 : zt_code 151 1 = some (.getfield 12, 4, 0, 1) := (zf151 1).trans rfl
theorem d151_4 : zt_code 151 4 = some (.getfield 299, 0, 4, 0) := (zf151 4).trans rfl
theorem d151_7 : zt_code 151 7 = some (.istore_n 2, 0, 0, 0) := (zf151 7).trans rfl
theorem d151_8 : zt_code 151 8 = some (.aload_n 0, 0, 0, 0) := (zf151 8).trans rfl
theorem d151_9 : zt_code 151 9 = some (.getfield 12, 4, 0, 1) := (zf151 9).trans rfl
theorem d151_12 : zt_code 151 12 = some (.iload_n 1, 0, 0, 0) := (zf151 12).trans rfl
theorem d151_13 : zt_code 151 13 = some (.putfield 299, 0, 4, 0) := (zf151 13).trans rfl
theorem d151_16 : zt_code 151 16 = some (.iload_n 2, 0, 0, 0) := (zf151 16).trans rfl
theorem d151_17 : zt_code 151 17 = some (.ireturn, 0, 0, 0) := (zf151 17).trans rfl
/-- FirstAtTheFirst.seed(I)I -/
theorem vc151 {X : zX} {S : zx_S} {C : zx_C} {q : Int32 → zx_C → Prop} {e : Nat} {a1 : Int32} (hS : zs_4 S e) (h : q (C.1 (e + 1) 4) (zp C (e + 1) 4 a1)) : zCd X 0 151 [.ref e, .int a1] S C (zQi q) := by
  refine zc_in ml_151 rfl ?_
  refine zw_aload_n (n := 1) d151_0 rfl rfl ?_
  refine zw_getr (n := 4) d151_1 rfl (zj_4 hS).1 (zj_4 hS).2 (zr_4_0 hS) ?_
  refine zw_geti (n := 7) d151_4 rfl (zj_0 (zo_4_0 hS)).1 (zj_0 (zo_4_0 hS)).2 ?_
  refine zw_istore_n (n := 8) d151_7 rfl rfl rfl ?_
  refine zw_aload_n (n := 9) d151_8 rfl rfl ?_
  refine zw_getr (n := 12) d151_9 rfl (zj_4 hS).1 (zj_4 hS).2 (zr_4_0 hS) ?_
  refine zw_iload_n (n := 13) d151_12 rfl rfl ?_
  refine zw_puti (n := 16) d151_13 rfl (zj_0 (zo_4_0 hS)).1 (zj_0 (zo_4_0 hS)).2 ?_
  refine zw_iload_n (n := 17) d151_16 rfl rfl ?_
  exact zw_iret d151_17 rfl ⟨_, rfl, h⟩

set_option maxRecDepth 20000 in
theorem zf152 (pc : Nat) : zt_code 152 pc = zt_fd zl_152 pc := rfl
theorem d152_0 : zt_code 152 0 = some (.aload_n 0, 0, 0, 0) := (zf152 0).trans rfl
theorem d152_1 : zt_code 152 1 = some (.getfield 16, 4, 1, 1) := (zf152 1).trans rfl
theorem d152_4 : zt_code 152 4 = some (.aload_n 0, 0, 0, 0) := (zf152 4).trans rfl
theorem d152_5 : zt_code 152 5 = some (.getfield 12, 4, 0, 1) := (zf152 5).trans rfl
theorem d152_8 : zt_code 152 8 = some (.invokevirtual 196, 84, 2, 0) := (zf152 8).trans rfl
theorem d152_11 : zt_code 152 11 = some (.aload_n 0, 0, 0, 0) := (zf152 11).trans rfl
theorem d152_12 : zt_code 152 12 = some (.iconst (1), 0, 0, 0) := (zf152 12).trans rfl
theorem d152_13 : zt_code 152 13 = some (.putfield 302, 4, 6, 4) := (zf152 13).trans rfl
theorem d152_16 : zt_code 152 16 = some (.iconst (1), 0, 0, 0) := (zf152 16).trans rfl
theorem d152_17 : zt_code 152 17 = some (.ireturn, 0, 0, 0) := (zf152 17).trans rfl
/-- FirstAtTheFirst.image()I -/
theorem vc152 {X : zX} {S : zx_S} {C : zx_C} {q : Int32 → zx_C → Prop} {e : Nat} (hS : zs_4 S e) (h : zCd X 1 84 [.ref (e + 6), .ref (e + 1)] S C (zQv (fun C1 => q 1 (zp C1 e 6 1)))) : zCd X 2 152 [.ref e] S C (zQi q) := by
  refine zc_in ml_152 rfl ?_
  refine zw_aload_n (n := 1) d152_0 rfl rfl ?_
  refine zw_getr (n := 4) d152_1 rfl (zj_4 hS).1 (zj_4 hS).2 (zr_4_1 hS) ?_
  refine zw_aload_n (n := 5) d152_4 rfl rfl ?_
  refine zw_getr (n := 8) d152_5 rfl (zj_4 hS).1 (zj_4 hS).2 (zr_4_0 hS) ?_
  refine zw_cV (n := 11) d152_8 (zs_V rfl rfl rfl rfl (by decide) (zj_0 (zo_4_1 hS)).1 (zq_0 (zo_4_1 hS))) (by rw [ml_84]; rfl) (by decide) rfl (zc_mV h (fun C1 h => ?_))
  refine zw_aload_n (n := 12) d152_11 rfl rfl ?_
  refine zw_iconst (n := 13) d152_12 rfl zk_i_1 ?_
  refine zw_putz (n := 16) d152_13 rfl (zj_4 hS).1 (zj_4 hS).2 (by decide) ?_
  refine zw_iconst (n := 17) d152_16 rfl zk_i_1 ?_
  exact zw_iret d152_17 rfl ⟨_, rfl, h⟩

set_option maxRecDepth 20000 in
theorem zf153 (pc : Nat) : zt_code 153 pc = zt_fd zl_153 pc := rfl
theorem d153_0 : zt_code 153 0 = some (.aload_n 0, 0, 0, 0) := (zf153 0).trans rfl
theorem d153_1 : zt_code 153 1 = some (.getfield 302, 4, 6, 0) := (zf153 1).trans rfl
theorem d153_4 : zt_code 153 4 = some (.ifCond .ne (10), 0, 14, 0) := (zf153 4).trans rfl
theorem d153_7 : zt_code 153 7 = some (.aload_n 0, 0, 0, 0) := (zf153 7).trans rfl
theorem d153_8 : zt_code 153 8 = some (.bipush (-5), 0, 0, 0) := (zf153 8).trans rfl
theorem d153_10 : zt_code 153 10 = some (.invokevirtual 69, 10, 2, 4) := (zf153 10).trans rfl
theorem d153_13 : zt_code 153 13 = some (.ireturn, 0, 0, 0) := (zf153 13).trans rfl
theorem d153_14 : zt_code 153 14 = some (.aload_n 0, 0, 0, 0) := (zf153 14).trans rfl
theorem d153_15 : zt_code 153 15 = some (.getfield 12, 4, 0, 1) := (zf153 15).trans rfl
theorem d153_18 : zt_code 153 18 = some (.aload_n 0, 0, 0, 0) := (zf153 18).trans rfl
theorem d153_19 : zt_code 153 19 = some (.getfield 16, 4, 1, 1) := (zf153 19).trans rfl
theorem d153_22 : zt_code 153 22 = some (.invokevirtual 196, 84, 2, 0) := (zf153 22).trans rfl
theorem d153_25 : zt_code 153 25 = some (.iconst (1), 0, 0, 0) := (zf153 25).trans rfl
theorem d153_26 : zt_code 153 26 = some (.ireturn, 0, 0, 0) := (zf153 26).trans rfl
/-- FirstAtTheFirst.back()I -/
theorem vc153 {X : zX} {S : zx_S} {C : zx_C} {q : Int32 → zx_C → Prop} {e : Nat} (hS : zs_4 S e) (h : if ((C.1 e 6) : Int32) = 0 then (zCd X 1 10 [.ref e, .int (-5)] S C (zQi (fun r1 C1 => q r1 C1))) else (zCd X 1 84 [.ref (e + 1), .ref (e + 6)] S C (zQv (fun C2 => q 1 C2)))) : zCd X 2 153 [.ref e] S C (zQi q) := by
  refine zc_in ml_153 rfl ?_
  refine zw_aload_n (n := 1) d153_0 rfl rfl ?_
  refine zw_geti (n := 4) d153_1 rfl (zj_4 hS).1 (zj_4 hS).2 ?_
  refine zw_if_ne (n := 7) d153_4 rfl (zite h (fun h => ?_) (fun h => ?_))
  · skip
    refine zw_aload_n (n := 8) d153_7 rfl rfl ?_
    refine zw_bipush (n := 10) d153_8 rfl zk_b_m5 ?_
    refine zw_cI (n := 13) d153_10 (zs_V rfl rfl rfl rfl (by decide) (zj_4 hS).1 (zq_4 hS)) (by rw [ml_10]; rfl) (by decide) rfl (zc_mI h (fun r1 C1 h => ?_))
    exact zw_iret d153_13 rfl ⟨_, rfl, h⟩
  · skip
    refine zw_aload_n (n := 15) d153_14 rfl rfl ?_
    refine zw_getr (n := 18) d153_15 rfl (zj_4 hS).1 (zj_4 hS).2 (zr_4_0 hS) ?_
    refine zw_aload_n (n := 19) d153_18 rfl rfl ?_
    refine zw_getr (n := 22) d153_19 rfl (zj_4 hS).1 (zj_4 hS).2 (zr_4_1 hS) ?_
    refine zw_cV (n := 25) d153_22 (zs_V rfl rfl rfl rfl (by decide) (zj_0 (zo_4_0 hS)).1 (zq_0 (zo_4_0 hS))) (by rw [ml_84]; rfl) (by decide) rfl (zc_mV h (fun C2 h => ?_))
    refine zw_iconst (n := 26) d153_25 rfl zk_i_1 ?_
    exact zw_iret d153_26 rfl ⟨_, rfl, h⟩

set_option maxRecDepth 20000 in
theorem zf154 (pc : Nat) : zt_code 154 pc = zt_fd zl_154 pc := rfl
theorem d154_0 : zt_code 154 0 = some (.iload_n 1, 0, 0, 0) := (zf154 0).trans rfl
theorem d154_1 : zt_code 154 1 = some (.tableswitch (133) (0) (9) #[55, 63, 71, 80, 88, 96, 104, 109, 117, 125], 0, 0, 0) := (zf154 1).trans rfl
theorem d154_56 : zt_code 154 56 = some (.aload_n 0, 0, 0, 0) := (zf154 56).trans rfl
theorem d154_57 : zt_code 154 57 = some (.getfield 12, 4, 0, 1) := (zf154 57).trans rfl
theorem d154_60 : zt_code 154 60 = some (.getfield 136, 0, 0, 0) := (zf154 60).trans rfl
theorem d154_63 : zt_code 154 63 = some (.ireturn, 0, 0, 0) := (zf154 63).trans rfl
theorem d154_64 : zt_code 154 64 = some (.aload_n 0, 0, 0, 0) := (zf154 64).trans rfl
theorem d154_65 : zt_code 154 65 = some (.getfield 12, 4, 0, 1) := (zf154 65).trans rfl
theorem d154_68 : zt_code 154 68 = some (.getfield 132, 0, 1, 0) := (zf154 68).trans rfl
theorem d154_71 : zt_code 154 71 = some (.ireturn, 0, 0, 0) := (zf154 71).trans rfl
theorem d154_72 : zt_code 154 72 = some (.aload_n 0, 0, 0, 0) := (zf154 72).trans rfl
theorem d154_73 : zt_code 154 73 = some (.getfield 12, 4, 0, 1) := (zf154 73).trans rfl
theorem d154_76 : zt_code 154 76 = some (.iconst (-1), 0, 0, 0) := (zf154 76).trans rfl
theorem d154_77 : zt_code 154 77 = some (.invokevirtual 210, 43, 2, 0) := (zf154 77).trans rfl
theorem d154_80 : zt_code 154 80 = some (.ireturn, 0, 0, 0) := (zf154 80).trans rfl
theorem d154_81 : zt_code 154 81 = some (.aload_n 0, 0, 0, 0) := (zf154 81).trans rfl
theorem d154_82 : zt_code 154 82 = some (.getfield 12, 4, 0, 1) := (zf154 82).trans rfl
theorem d154_85 : zt_code 154 85 = some (.getfield 167, 0, 2, 0) := (zf154 85).trans rfl
theorem d154_88 : zt_code 154 88 = some (.ireturn, 0, 0, 0) := (zf154 88).trans rfl
theorem d154_89 : zt_code 154 89 = some (.aload_n 0, 0, 0, 0) := (zf154 89).trans rfl
theorem d154_90 : zt_code 154 90 = some (.getfield 12, 4, 0, 1) := (zf154 90).trans rfl
theorem d154_93 : zt_code 154 93 = some (.getfield 181, 0, 3, 0) := (zf154 93).trans rfl
theorem d154_96 : zt_code 154 96 = some (.ireturn, 0, 0, 0) := (zf154 96).trans rfl
theorem d154_97 : zt_code 154 97 = some (.aload_n 0, 0, 0, 0) := (zf154 97).trans rfl
theorem d154_98 : zt_code 154 98 = some (.getfield 12, 4, 0, 1) := (zf154 98).trans rfl
theorem d154_101 : zt_code 154 101 = some (.getfield 177, 0, 5, 0) := (zf154 101).trans rfl
theorem d154_104 : zt_code 154 104 = some (.ireturn, 0, 0, 0) := (zf154 104).trans rfl
theorem d154_105 : zt_code 154 105 = some (.aload_n 0, 0, 0, 0) := (zf154 105).trans rfl
theorem d154_106 : zt_code 154 106 = some (.invokevirtual 306, 155, 1, 4) := (zf154 106).trans rfl
theorem d154_109 : zt_code 154 109 = some (.ireturn, 0, 0, 0) := (zf154 109).trans rfl
theorem d154_110 : zt_code 154 110 = some (.aload_n 0, 0, 0, 0) := (zf154 110).trans rfl
theorem d154_111 : zt_code 154 111 = some (.getfield 25, 4, 3, 1) := (zf154 111).trans rfl
theorem d154_114 : zt_code 154 114 = some (.getfield 190, 3, 1, 0) := (zf154 114).trans rfl
theorem d154_117 : zt_code 154 117 = some (.ireturn, 0, 0, 0) := (zf154 117).trans rfl
theorem d154_118 : zt_code 154 118 = some (.aload_n 0, 0, 0, 0) := (zf154 118).trans rfl
theorem d154_119 : zt_code 154 119 = some (.getfield 12, 4, 0, 1) := (zf154 119).trans rfl
theorem d154_122 : zt_code 154 122 = some (.getfield 299, 0, 4, 0) := (zf154 122).trans rfl
theorem d154_125 : zt_code 154 125 = some (.ireturn, 0, 0, 0) := (zf154 125).trans rfl
theorem d154_126 : zt_code 154 126 = some (.aload_n 0, 0, 0, 0) := (zf154 126).trans rfl
theorem d154_127 : zt_code 154 127 = some (.getfield 32, 4, 4, 1) := (zf154 127).trans rfl
theorem d154_130 : zt_code 154 130 = some (.invokevirtual 309, 156, 1, 2) := (zf154 130).trans rfl
theorem d154_133 : zt_code 154 133 = some (.ireturn, 0, 0, 0) := (zf154 133).trans rfl
theorem d154_134 : zt_code 154 134 = some (.iload_n 1, 0, 0, 0) := (zf154 134).trans rfl
theorem d154_135 : zt_code 154 135 = some (.bipush (12), 0, 0, 0) := (zf154 135).trans rfl
theorem d154_137 : zt_code 154 137 = some (.if_icmp .lt (23), 0, 160, 0) := (zf154 137).trans rfl
theorem d154_140 : zt_code 154 140 = some (.iload_n 1, 0, 0, 0) := (zf154 140).trans rfl
theorem d154_141 : zt_code 154 141 = some (.bipush (16), 0, 0, 0) := (zf154 141).trans rfl
theorem d154_143 : zt_code 154 143 = some (.if_icmp .gt (17), 0, 160, 0) := (zf154 143).trans rfl
theorem d154_146 : zt_code 154 146 = some (.aload_n 0, 0, 0, 0) := (zf154 146).trans rfl
theorem d154_147 : zt_code 154 147 = some (.getfield 36, 4, 5, 1) := (zf154 147).trans rfl
theorem d154_150 : zt_code 154 150 = some (.iload_n 1, 0, 0, 0) := (zf154 150).trans rfl
theorem d154_151 : zt_code 154 151 = some (.bipush (12), 0, 0, 0) := (zf154 151).trans rfl
theorem d154_153 : zt_code 154 153 = some (.isub, 0, 0, 0) := (zf154 153).trans rfl
theorem d154_154 : zt_code 154 154 = some (.invokestatic 242, 11, 2, -1) := (zf154 154).trans rfl
theorem d154_157 : zt_code 154 157 = some (.goto (4), 0, 161, 0) := (zf154 157).trans rfl
theorem d154_160 : zt_code 154 160 = some (.iconst (-1), 0, 0, 0) := (zf154 160).trans rfl
theorem d154_161 : zt_code 154 161 = some (.ireturn, 0, 0, 0) := (zf154 161).trans rfl
/-- FirstAtTheFirst.status(I)I -/
theorem vc154 {X : zX} {S : zx_S} {C : zx_C} {q : Int32 → zx_C → Prop} {e : Nat} {a1 : Int32} (hS : zs_4 S e) (h : if Int32.toInt a1 = 0 then (q (C.1 (e + 1) 0) C) else (if Int32.toInt a1 = 0 + 1 then (q (C.1 (e + 1) 1) C) else (if Int32.toInt a1 = 0 + 1 + 1 then (zCd X 1 43 [.ref (e + 1), .int (-1)] S C (zQi (fun r1 C1 => q r1 C1))) else (if Int32.toInt a1 = 0 + 1 + 1 + 1 then (q (C.1 (e + 1) 2) C) else (if Int32.toInt a1 = 0 + 1 + 1 + 1 + 1 then (q (C.1 (e + 1) 3) C) else (if Int32.toInt a1 = 0 + 1 + 1 + 1 + 1 + 1 then (q (C.1 (e + 1) 5) C) else (if Int32.toInt a1 = 0 + 1 + 1 + 1 + 1 + 1 + 1 then (zCd X 3 155 [.ref e] S C (zQi (fun r2 C2 => q r2 C2))) else (if Int32.toInt a1 = 0 + 1 + 1 + 1 + 1 + 1 + 1 + 1 then (q (C.1 (e + 16) 1) C) else (if Int32.toInt a1 = 0 + 1 + 1 + 1 + 1 + 1 + 1 + 1 + 1 then (q (C.1 (e + 1) 4) C) else (if Int32.toInt a1 = 0 + 1 + 1 + 1 + 1 + 1 + 1 + 1 + 1 + 1 then (zCd X 2 156 [.ref (e + 18)] S C (zQi (fun r3 C3 => q r3 C3))) else (if (a1 : Int32) < 12 then (q (-1) C) else (if (16 : Int32) < a1 then (q (-1) C) else (zCd X 0 11 [.ref (e + 23), .int (a1 - 12)] S C (zQi (fun r4 C4 => q r4 C4))))))))))))))) : zCd X 4 154 [.ref e, .int a1] S C (zQi q) := by
  refine zc_in ml_154 rfl ?_
  refine zw_iload_n (n := 1) d154_0 rfl rfl ?_
  refine zw_tsw d154_1 rfl ?_
  refine zw_sw1 (t := 56) rfl (zite h (fun h => ?_) (fun h => ?_))
  · skip
    refine zw_aload_n (n := 57) d154_56 rfl rfl ?_
    refine zw_getr (n := 60) d154_57 rfl (zj_4 hS).1 (zj_4 hS).2 (zr_4_0 hS) ?_
    refine zw_geti (n := 63) d154_60 rfl (zj_0 (zo_4_0 hS)).1 (zj_0 (zo_4_0 hS)).2 ?_
    exact zw_iret d154_63 rfl ⟨_, rfl, h⟩
  · skip
    refine zw_sw1 (t := 64) rfl (zite h (fun h => ?_) (fun h => ?_))
    · skip
      refine zw_aload_n (n := 65) d154_64 rfl rfl ?_
      refine zw_getr (n := 68) d154_65 rfl (zj_4 hS).1 (zj_4 hS).2 (zr_4_0 hS) ?_
      refine zw_geti (n := 71) d154_68 rfl (zj_0 (zo_4_0 hS)).1 (zj_0 (zo_4_0 hS)).2 ?_
      exact zw_iret d154_71 rfl ⟨_, rfl, h⟩
    · skip
      refine zw_sw1 (t := 72) rfl (zite h (fun h => ?_) (fun h => ?_))
      · skip
        refine zw_aload_n (n := 73) d154_72 rfl rfl ?_
        refine zw_getr (n := 76) d154_73 rfl (zj_4 hS).1 (zj_4 hS).2 (zr_4_0 hS) ?_
        refine zw_iconst (n := 77) d154_76 rfl zk_i_m1 ?_
        refine zw_cI (n := 80) d154_77 (zs_V rfl rfl rfl rfl (by decide) (zj_0 (zo_4_0 hS)).1 (zq_0 (zo_4_0 hS))) (by rw [ml_43]; rfl) (by decide) rfl (zc_mI h (fun r1 C1 h => ?_))
        exact zw_iret d154_80 rfl ⟨_, rfl, h⟩
      · skip
        refine zw_sw1 (t := 81) rfl (zite h (fun h => ?_) (fun h => ?_))
        · skip
          refine zw_aload_n (n := 82) d154_81 rfl rfl ?_
          refine zw_getr (n := 85) d154_82 rfl (zj_4 hS).1 (zj_4 hS).2 (zr_4_0 hS) ?_
          refine zw_geti (n := 88) d154_85 rfl (zj_0 (zo_4_0 hS)).1 (zj_0 (zo_4_0 hS)).2 ?_
          exact zw_iret d154_88 rfl ⟨_, rfl, h⟩
        · skip
          refine zw_sw1 (t := 89) rfl (zite h (fun h => ?_) (fun h => ?_))
          · skip
            refine zw_aload_n (n := 90) d154_89 rfl rfl ?_
            refine zw_getr (n := 93) d154_90 rfl (zj_4 hS).1 (zj_4 hS).2 (zr_4_0 hS) ?_
            refine zw_geti (n := 96) d154_93 rfl (zj_0 (zo_4_0 hS)).1 (zj_0 (zo_4_0 hS)).2 ?_
            exact zw_iret d154_96 rfl ⟨_, rfl, h⟩
          · skip
            refine zw_sw1 (t := 97) rfl (zite h (fun h => ?_) (fun h => ?_))
            · skip
              refine zw_aload_n (n := 98) d154_97 rfl rfl ?_
              refine zw_getr (n := 101) d154_98 rfl (zj_4 hS).1 (zj_4 hS).2 (zr_4_0 hS) ?_
              refine zw_geti (n := 104) d154_101 rfl (zj_0 (zo_4_0 hS)).1 (zj_0 (zo_4_0 hS)).2 ?_
              exact zw_iret d154_104 rfl ⟨_, rfl, h⟩
            · skip
              refine zw_sw1 (t := 105) rfl (zite h (fun h => ?_) (fun h => ?_))
              · skip
                refine zw_aload_n (n := 106) d154_105 rfl rfl ?_
                refine zw_cI (n := 109) d154_106 (zs_V rfl rfl rfl rfl (by decide) (zj_4 hS).1 (zq_4 hS)) (by rw [ml_155]; rfl) (by decide) rfl (zc_mI h (fun r2 C2 h => ?_))
                exact zw_iret d154_109 rfl ⟨_, rfl, h⟩
              · skip
                refine zw_sw1 (t := 110) rfl (zite h (fun h => ?_) (fun h => ?_))
                · skip
                  refine zw_aload_n (n := 111) d154_110 rfl rfl ?_
                  refine zw_getr (n := 114) d154_111 rfl (zj_4 hS).1 (zj_4 hS).2 (zr_4_3 hS) ?_
                  refine zw_geti (n := 117) d154_114 rfl (zj_3 (zo_4_3 hS)).1 (zj_3 (zo_4_3 hS)).2 ?_
                  exact zw_iret d154_117 rfl ⟨_, rfl, h⟩
                · skip
                  refine zw_sw1 (t := 118) rfl (zite h (fun h => ?_) (fun h => ?_))
                  · skip
                    refine zw_aload_n (n := 119) d154_118 rfl rfl ?_
                    refine zw_getr (n := 122) d154_119 rfl (zj_4 hS).1 (zj_4 hS).2 (zr_4_0 hS) ?_
                    refine zw_geti (n := 125) d154_122 rfl (zj_0 (zo_4_0 hS)).1 (zj_0 (zo_4_0 hS)).2 ?_
                    exact zw_iret d154_125 rfl ⟨_, rfl, h⟩
                  · skip
                    refine zw_sw1 (t := 126) rfl (zite h (fun h => ?_) (fun h => ?_))
                    · skip
                      refine zw_aload_n (n := 127) d154_126 rfl rfl ?_
                      refine zw_getr (n := 130) d154_127 rfl (zj_4 hS).1 (zj_4 hS).2 (zr_4_4 hS) ?_
                      refine zw_cI (n := 133) d154_130 (zs_V rfl rfl rfl rfl (by decide) (zj_2 (zo_4_4 hS)).1 (zq_2 (zo_4_4 hS))) (by rw [ml_156]; rfl) (by decide) rfl (zc_mI h (fun r3 C3 h => ?_))
                      exact zw_iret d154_133 rfl ⟨_, rfl, h⟩
                    · skip
                      refine zw_sw0 (t := 134) rfl ?_
                      refine zw_iload_n (n := 135) d154_134 rfl rfl ?_
                      refine zw_bipush (n := 137) d154_135 rfl zk_b_12 ?_
                      refine zw_ic_lt (n := 140) d154_137 rfl (zite h (fun h => ?_) (fun h => ?_))
                      · skip
                        refine zw_iconst (n := 161) d154_160 rfl zk_i_m1 ?_
                        exact zw_iret d154_161 rfl ⟨_, rfl, h⟩
                      · skip
                        refine zw_iload_n (n := 141) d154_140 rfl rfl ?_
                        refine zw_bipush (n := 143) d154_141 rfl zk_b_16 ?_
                        refine zw_ic_gt (n := 146) d154_143 rfl (zite h (fun h => ?_) (fun h => ?_))
                        · skip
                          refine zw_iconst (n := 161) d154_160 rfl zk_i_m1 ?_
                          exact zw_iret d154_161 rfl ⟨_, rfl, h⟩
                        · skip
                          refine zw_aload_n (n := 147) d154_146 rfl rfl ?_
                          refine zw_getr (n := 150) d154_147 rfl (zj_4 hS).1 (zj_4 hS).2 (zr_4_5 hS) ?_
                          refine zw_iload_n (n := 151) d154_150 rfl rfl ?_
                          refine zw_bipush (n := 153) d154_151 rfl zk_b_12 ?_
                          refine zw_isub (n := 154) d154_153 rfl ?_
                          refine zw_cI (n := 157) d154_154 (zs_S rfl rfl rfl rfl) (by rw [ml_11]; rfl) (by decide) rfl (zc_mI h (fun r4 C4 h => ?_))
                          refine zw_goto d154_157 ?_
                          exact zw_iret d154_161 rfl ⟨_, rfl, h⟩

set_option maxRecDepth 20000 in
theorem zf155 (pc : Nat) : zt_code 155 pc = zt_fd zl_155 pc := rfl
theorem d155_0 : zt_code 155 0 = some (.iconst (0), 0, 0, 0) := (zf155 0).trans rfl
theorem d155_1 : zt_code 155 1 = some (.istore_n 1, 0, 0, 0) := (zf155 1).trans rfl
theorem d155_2 : zt_code 155 2 = some (.iload_n 1, 0, 0, 0) := (zf155 2).trans rfl
theorem d155_3 : zt_code 155 3 = some (.iconst (3), 0, 0, 0) := (zf155 3).trans rfl
theorem d155_4 : zt_code 155 4 = some (.if_icmp .ge (25), 0, 29, 0) := (zf155 4).trans rfl
theorem d155_7 : zt_code 155 7 = some (.aload_n 0, 0, 0, 0) := (zf155 7).trans rfl
theorem d155_8 : zt_code 155 8 = some (.getfield 53, 4, 11, 1) := (zf155 8).trans rfl
theorem d155_11 : zt_code 155 11 = some (.iload_n 1, 0, 0, 0) := (zf155 11).trans rfl
theorem d155_12 : zt_code 155 12 = some (.aload_n 0, 0, 0, 0) := (zf155 12).trans rfl
theorem d155_13 : zt_code 155 13 = some (.getfield 12, 4, 0, 1) := (zf155 13).trans rfl
theorem d155_16 : zt_code 155 16 = some (.iload_n 1, 0, 0, 0) := (zf155 16).trans rfl
theorem d155_17 : zt_code 155 17 = some (.invokevirtual 207, 40, 2, 0) := (zf155 17).trans rfl
theorem d155_20 : zt_code 155 20 = some (.invokestatic 157, 12, 3, -1) := (zf155 20).trans rfl
theorem d155_23 : zt_code 155 23 = some (.iinc 1 (1), 0, 0, 0) := (zf155 23).trans rfl
theorem d155_26 : zt_code 155 26 = some (.goto (-24), 0, 2, 0) := (zf155 26).trans rfl
theorem d155_29 : zt_code 155 29 = some (.aload_n 0, 0, 0, 0) := (zf155 29).trans rfl
theorem d155_30 : zt_code 155 30 = some (.invokevirtual 246, 124, 1, 4) := (zf155 30).trans rfl
theorem d155_33 : zt_code 155 33 = some (.ireturn, 0, 0, 0) := (zf155 33).trans rfl
/-- FirstAtTheFirst.spreadNow()I -/
theorem vc155 {X : zX} {S : zx_S} {C : zx_C} {q : Int32 → zx_C → Prop} {e : Nat} (hS : zs_4 S e) (h : zW X 3 155 2 [.ref e, .int 0] [] S C (zQi q)) : zCd X 3 155 [.ref e] S C (zQi q) := by
  refine zc_in ml_155 rfl ?_
  refine zw_iconst (n := 1) d155_0 rfl zk_i_0 ?_
  refine zw_istore_n (n := 2) d155_1 rfl rfl rfl ?_
  exact h
theorem vc155_2 {X : zX} {S : zx_S} {C : zx_C} {q : Int32 → zx_C → Prop} {e : Nat} {i1 : Int32} (hS : zs_4 S e) (h : if (i1 : Int32) < 3 then (zCd X 2 40 [.ref (e + 1), .int i1] S C (zQi (fun r1 C1 => zCd X 0 12 [.ref (e + 39), .int i1, .int r1] S C1 (zQv (fun C2 => zW X 3 155 2 [.ref e, .int (i1 + 1)] [] S C2 (zQi q)))))) else (zCd X 1 124 [.ref e] S C (zQi (fun r3 C3 => q r3 C3)))) : zW X 3 155 2 [.ref e, .int i1] [] S C (zQi q) := by
  refine zw_iload_n (n := 3) d155_2 rfl rfl ?_
  refine zw_iconst (n := 4) d155_3 rfl zk_i_3 ?_
  refine zw_ic_ge (n := 7) d155_4 rfl (zite h (fun h => ?_) (fun h => ?_))
  · skip
    refine zw_aload_n (n := 8) d155_7 rfl rfl ?_
    refine zw_getr (n := 11) d155_8 rfl (zj_4 hS).1 (zj_4 hS).2 (zr_4_11 hS) ?_
    refine zw_iload_n (n := 12) d155_11 rfl rfl ?_
    refine zw_aload_n (n := 13) d155_12 rfl rfl ?_
    refine zw_getr (n := 16) d155_13 rfl (zj_4 hS).1 (zj_4 hS).2 (zr_4_0 hS) ?_
    refine zw_iload_n (n := 17) d155_16 rfl rfl ?_
    refine zw_cI (n := 20) d155_17 (zs_V rfl rfl rfl rfl (by decide) (zj_0 (zo_4_0 hS)).1 (zq_0 (zo_4_0 hS))) (by rw [ml_40]; rfl) (by decide) rfl (zc_mI h (fun r1 C1 h => ?_))
    refine zw_cV (n := 23) d155_20 (zs_S rfl rfl rfl rfl) (by rw [ml_12]; rfl) (by decide) rfl (zc_mV h (fun C2 h => ?_))
    refine zw_iinc (n := 26) d155_23 rfl rfl zk_i_1 rfl ?_
    refine zw_goto d155_26 ?_
    exact h
  · skip
    refine zw_aload_n (n := 30) d155_29 rfl rfl ?_
    refine zw_cI (n := 33) d155_30 (zs_V rfl rfl rfl rfl (by decide) (zj_4 hS).1 (zq_4 hS)) (by rw [ml_124]; rfl) (by decide) rfl (zc_mI h (fun r3 C3 h => ?_))
    exact zw_iret d155_33 rfl ⟨_, rfl, h⟩

set_option maxRecDepth 20000 in
theorem zf38 (pc : Nat) : zt_code 38 pc = zt_fd zl_38 pc := rfl
theorem d38_0 : zt_code 38 0 = some (.aload_n 1, 0, 0, 0) := (zf38 0).trans rfl
theorem d38_1 : zt_code 38 1 = some (.ifnull (71), 0, 72, 0) := (zf38 1).trans rfl
theorem d38_4 : zt_code 38 4 = some (.aload_n 1, 0, 0, 0) := (zf38 4).trans rfl
theorem d38_5 : zt_code 38 5 = some (.getfield 30, 0, 9, 1) := (zf38 5).trans rfl
theorem d38_8 : zt_code 38 8 = some (.aload_n 0, 0, 0, 0) := (zf38 8).trans rfl
theorem d38_9 : zt_code 38 9 = some (.getfield 9, 1, 0, 1) := (zf38 9).trans rfl
theorem d38_12 : zt_code 38 12 = some (.invokestatic 33, 39, 2, -1) := (zf38 12).trans rfl
theorem d38_15 : zt_code 38 15 = some (.aload_n 1, 0, 0, 0) := (zf38 15).trans rfl
theorem d38_16 : zt_code 38 16 = some (.getfield 37, 0, 7, 1) := (zf38 16).trans rfl
theorem d38_19 : zt_code 38 19 = some (.aload_n 0, 0, 0, 0) := (zf38 19).trans rfl
theorem d38_20 : zt_code 38 20 = some (.getfield 15, 1, 1, 1) := (zf38 20).trans rfl
theorem d38_23 : zt_code 38 23 = some (.invokestatic 33, 39, 2, -1) := (zf38 23).trans rfl
theorem d38_26 : zt_code 38 26 = some (.iconst (0), 0, 0, 0) := (zf38 26).trans rfl
theorem d38_27 : zt_code 38 27 = some (.istore_n 2, 0, 0, 0) := (zf38 27).trans rfl
theorem d38_28 : zt_code 38 28 = some (.iload_n 2, 0, 0, 0) := (zf38 28).trans rfl
theorem d38_29 : zt_code 38 29 = some (.iconst (3), 0, 0, 0) := (zf38 29).trans rfl
theorem d38_30 : zt_code 38 30 = some (.if_icmp .ge (22), 0, 52, 0) := (zf38 30).trans rfl
theorem d38_33 : zt_code 38 33 = some (.aload_n 0, 0, 0, 0) := (zf38 33).trans rfl
theorem d38_34 : zt_code 38 34 = some (.getfield 18, 1, 2, 1) := (zf38 34).trans rfl
theorem d38_37 : zt_code 38 37 = some (.iload_n 2, 0, 0, 0) := (zf38 37).trans rfl
theorem d38_38 : zt_code 38 38 = some (.aload_n 1, 0, 0, 0) := (zf38 38).trans rfl
theorem d38_39 : zt_code 38 39 = some (.iload_n 2, 0, 0, 0) := (zf38 39).trans rfl
theorem d38_40 : zt_code 38 40 = some (.invokevirtual 38, 40, 2, 0) := (zf38 40).trans rfl
theorem d38_43 : zt_code 38 43 = some (.invokestatic 42, 12, 3, -1) := (zf38 43).trans rfl
theorem d38_46 : zt_code 38 46 = some (.iinc 2 (1), 0, 0, 0) := (zf38 46).trans rfl
theorem d38_49 : zt_code 38 49 = some (.goto (-21), 0, 28, 0) := (zf38 49).trans rfl
theorem d38_52 : zt_code 38 52 = some (.aload_n 0, 0, 0, 0) := (zf38 52).trans rfl
theorem d38_53 : zt_code 38 53 = some (.aload_n 1, 0, 0, 0) := (zf38 53).trans rfl
theorem d38_54 : zt_code 38 54 = some (.iconst (-1), 0, 0, 0) := (zf38 54).trans rfl
theorem d38_55 : zt_code 38 55 = some (.invokevirtual 46, 43, 2, 0) := (zf38 55).trans rfl
theorem d38_58 : zt_code 38 58 = some (.putfield 49, 1, 5, 0) := (zf38 58).trans rfl
theorem d38_61 : zt_code 38 61 = some (.aload_n 0, 0, 0, 0) := (zf38 61).trans rfl
theorem d38_62 : zt_code 38 62 = some (.aload_n 0, 0, 0, 0) := (zf38 62).trans rfl
theorem d38_63 : zt_code 38 63 = some (.getfield 49, 1, 5, 0) := (zf38 63).trans rfl
theorem d38_66 : zt_code 38 66 = some (.invokestatic 53, 44, 1, -1) := (zf38 66).trans rfl
theorem d38_69 : zt_code 38 69 = some (.putfield 58, 1, 6, 0) := (zf38 69).trans rfl
theorem d38_72 : zt_code 38 72 = some (.return_, 0, 0, 0) := (zf38 72).trans rfl
/-- FirstAtTheFirst$Mind.know(LFirstAtTheFirst$Estate;)V -/
theorem vc38 {X : zX} {S : zx_S} {C : zx_C} {q : zx_C → Prop} {e : Nat} {a1 : Nat} (hS : zs_1 S e) (h1 : zs_0 S a1) (h : zCd X 0 39 [.ref (a1 + 4), .ref (e + 1)] S C (zQv (fun C1 => zCd X 0 39 [.ref (a1 + 2), .ref (e + 2)] S C1 (zQv (fun C2 => zW X 3 38 28 [.ref e, .ref a1, .int 0] [] S C2 (zQv q)))))) : zCd X 3 38 [.ref e, .ref a1] S C (zQv q) := by
  refine zc_in ml_38 rfl ?_
  refine zw_aload_n (n := 1) d38_0 rfl rfl ?_
  refine zw_ifnull (n := 4) d38_1 rfl ?_
  refine zw_aload_n (n := 5) d38_4 rfl rfl ?_
  refine zw_getr (n := 8) d38_5 rfl (zj_0 h1).1 (zj_0 h1).2 (zr_0_9 h1) ?_
  refine zw_aload_n (n := 9) d38_8 rfl rfl ?_
  refine zw_getr (n := 12) d38_9 rfl (zj_1 hS).1 (zj_1 hS).2 (zr_1_0 hS) ?_
  refine zw_cV (n := 15) d38_12 (zs_S rfl rfl rfl rfl) (by rw [ml_39]; rfl) (by decide) rfl (zc_mV h (fun C1 h => ?_))
  refine zw_aload_n (n := 16) d38_15 rfl rfl ?_
  refine zw_getr (n := 19) d38_16 rfl (zj_0 h1).1 (zj_0 h1).2 (zr_0_7 h1) ?_
  refine zw_aload_n (n := 20) d38_19 rfl rfl ?_
  refine zw_getr (n := 23) d38_20 rfl (zj_1 hS).1 (zj_1 hS).2 (zr_1_1 hS) ?_
  refine zw_cV (n := 26) d38_23 (zs_S rfl rfl rfl rfl) (by rw [ml_39]; rfl) (by decide) rfl (zc_mV h (fun C2 h => ?_))
  refine zw_iconst (n := 27) d38_26 rfl zk_i_0 ?_
  refine zw_istore_n (n := 28) d38_27 rfl rfl rfl ?_
  exact h
theorem vc38_28 {X : zX} {S : zx_S} {C : zx_C} {q : zx_C → Prop} {e : Nat} {a1 : Nat} {i2 : Int32} (hS : zs_1 S e) (h1 : zs_0 S a1) (h : if (i2 : Int32) < 3 then (zCd X 2 40 [.ref a1, .int i2] S C (zQi (fun r1 C1 => zCd X 0 12 [.ref (e + 3), .int i2, .int r1] S C1 (zQv (fun C2 => zW X 3 38 28 [.ref e, .ref a1, .int (i2 + 1)] [] S C2 (zQv q)))))) else (zCd X 1 43 [.ref a1, .int (-1)] S C (zQi (fun r3 C3 => zCd X 0 44 [.int (Prod.fst (zp C3 e 5 r3) e 5)] S (zp C3 e 5 r3) (zQi (fun r4 C4 => q (zp C4 e 6 r4))))))) : zW X 3 38 28 [.ref e, .ref a1, .int i2] [] S C (zQv q) := by
  refine zw_iload_n (n := 29) d38_28 rfl rfl ?_
  refine zw_iconst (n := 30) d38_29 rfl zk_i_3 ?_
  refine zw_ic_ge (n := 33) d38_30 rfl (zite h (fun h => ?_) (fun h => ?_))
  · skip
    refine zw_aload_n (n := 34) d38_33 rfl rfl ?_
    refine zw_getr (n := 37) d38_34 rfl (zj_1 hS).1 (zj_1 hS).2 (zr_1_2 hS) ?_
    refine zw_iload_n (n := 38) d38_37 rfl rfl ?_
    refine zw_aload_n (n := 39) d38_38 rfl rfl ?_
    refine zw_iload_n (n := 40) d38_39 rfl rfl ?_
    refine zw_cI (n := 43) d38_40 (zs_V rfl rfl rfl rfl (by decide) (zj_0 h1).1 (zq_0 h1)) (by rw [ml_40]; rfl) (by decide) rfl (zc_mI h (fun r1 C1 h => ?_))
    refine zw_cV (n := 46) d38_43 (zs_S rfl rfl rfl rfl) (by rw [ml_12]; rfl) (by decide) rfl (zc_mV h (fun C2 h => ?_))
    refine zw_iinc (n := 49) d38_46 rfl rfl zk_i_1 rfl ?_
    refine zw_goto d38_49 ?_
    exact h
  · skip
    refine zw_aload_n (n := 53) d38_52 rfl rfl ?_
    refine zw_aload_n (n := 54) d38_53 rfl rfl ?_
    refine zw_iconst (n := 55) d38_54 rfl zk_i_m1 ?_
    refine zw_cI (n := 58) d38_55 (zs_V rfl rfl rfl rfl (by decide) (zj_0 h1).1 (zq_0 h1)) (by rw [ml_43]; rfl) (by decide) rfl (zc_mI h (fun r3 C3 h => ?_))
    refine zw_puti (n := 61) d38_58 rfl (zj_1 hS).1 (zj_1 hS).2 ?_
    refine zw_aload_n (n := 62) d38_61 rfl rfl ?_
    refine zw_aload_n (n := 63) d38_62 rfl rfl ?_
    refine zw_geti (n := 66) d38_63 rfl (zj_1 hS).1 (zj_1 hS).2 ?_
    refine zw_cI (n := 69) d38_66 (zs_S rfl rfl rfl rfl) (by rw [ml_44]; rfl) (by decide) rfl (zc_mI h (fun r4 C4 h => ?_))
    refine zw_puti (n := 72) d38_69 rfl (zj_1 hS).1 (zj_1 hS).2 ?_
    exact zw_ret d38_72 ⟨rfl, h⟩

set_option maxRecDepth 20000 in
theorem zf45 (pc : Nat) : zt_code 45 pc = zt_fd zl_45 pc := rfl
theorem d45_0 : zt_code 45 0 = some (.aload_n 1, 0, 0, 0) := (zf45 0).trans rfl
theorem d45_1 : zt_code 45 1 = some (.ifnull (50), 0, 51, 0) := (zf45 1).trans rfl
theorem d45_4 : zt_code 45 4 = some (.iconst (0), 0, 0, 0) := (zf45 4).trans rfl
theorem d45_5 : zt_code 45 5 = some (.istore_n 3, 0, 0, 0) := (zf45 5).trans rfl
theorem d45_6 : zt_code 45 6 = some (.iload_n 3, 0, 0, 0) := (zf45 6).trans rfl
theorem d45_7 : zt_code 45 7 = some (.aload_n 0, 0, 0, 0) := (zf45 7).trans rfl
theorem d45_8 : zt_code 45 8 = some (.getfield 21, 1, 3, 1) := (zf45 8).trans rfl
theorem d45_11 : zt_code 45 11 = some (.arraylength, 0, 0, 0) := (zf45 11).trans rfl
theorem d45_12 : zt_code 45 12 = some (.if_icmp .ge (26), 0, 38, 0) := (zf45 12).trans rfl
theorem d45_15 : zt_code 45 15 = some (.aload_n 0, 0, 0, 0) := (zf45 15).trans rfl
theorem d45_16 : zt_code 45 16 = some (.getfield 21, 1, 3, 1) := (zf45 16).trans rfl
theorem d45_19 : zt_code 45 19 = some (.iload_n 3, 0, 0, 0) := (zf45 19).trans rfl
theorem d45_20 : zt_code 45 20 = some (.aload_n 1, 0, 0, 0) := (zf45 20).trans rfl
theorem d45_21 : zt_code 45 21 = some (.iload_n 2, 0, 0, 0) := (zf45 21).trans rfl
theorem d45_22 : zt_code 45 22 = some (.aload_n 1, 0, 0, 0) := (zf45 22).trans rfl
theorem d45_23 : zt_code 45 23 = some (.getfield 61, 0, 3, 0) := (zf45 23).trans rfl
theorem d45_26 : zt_code 45 26 = some (.iload_n 3, 0, 0, 0) := (zf45 26).trans rfl
theorem d45_27 : zt_code 45 27 = some (.iadd, 0, 0, 0) := (zf45 27).trans rfl
theorem d45_28 : zt_code 45 28 = some (.invokevirtual 64, 46, 3, 0) := (zf45 28).trans rfl
theorem d45_31 : zt_code 45 31 = some (.iastore, 0, 0, 0) := (zf45 31).trans rfl
theorem d45_32 : zt_code 45 32 = some (.iinc 3 (1), 0, 0, 0) := (zf45 32).trans rfl
theorem d45_35 : zt_code 45 35 = some (.goto (-29), 0, 6, 0) := (zf45 35).trans rfl
theorem d45_38 : zt_code 45 38 = some (.aload_n 0, 0, 0, 0) := (zf45 38).trans rfl
theorem d45_39 : zt_code 45 39 = some (.aload_n 0, 0, 0, 0) := (zf45 39).trans rfl
theorem d45_40 : zt_code 45 40 = some (.getfield 21, 1, 3, 1) := (zf45 40).trans rfl
theorem d45_43 : zt_code 45 43 = some (.arraylength, 0, 0, 0) := (zf45 43).trans rfl
theorem d45_44 : zt_code 45 44 = some (.putfield 68, 1, 4, 0) := (zf45 44).trans rfl
theorem d45_47 : zt_code 45 47 = some (.aload_n 0, 0, 0, 0) := (zf45 47).trans rfl
theorem d45_48 : zt_code 45 48 = some (.invokevirtual 71, 48, 1, 1) := (zf45 48).trans rfl
theorem d45_51 : zt_code 45 51 = some (.return_, 0, 0, 0) := (zf45 51).trans rfl
/-- FirstAtTheFirst$Mind.expectLaw(LFirstAtTheFirst$Estate;I)V -/
theorem vc45 {X : zX} {S : zx_S} {C : zx_C} {q : zx_C → Prop} {e : Nat} {a1 : Nat} {a2 : Int32} (hS : zs_1 S e) (h1 : zs_0 S a1) (h : zW X 2 45 6 [.ref e, .ref a1, .int a2, .int 0] [] S C (zQv q)) : zCd X 2 45 [.ref e, .ref a1, .int a2] S C (zQv q) := by
  refine zc_in ml_45 rfl ?_
  refine zw_aload_n (n := 1) d45_0 rfl rfl ?_
  refine zw_ifnull (n := 4) d45_1 rfl ?_
  refine zw_iconst (n := 5) d45_4 rfl zk_i_0 ?_
  refine zw_istore_n (n := 6) d45_5 rfl rfl rfl ?_
  exact h
theorem vc45_6 {X : zX} {S : zx_S} {C : zx_C} {q : zx_C → Prop} {e : Nat} {a1 : Nat} {a2 : Int32} {i2 : Int32} {i3 : Int32} (hS : zs_1 S e) (h1 : zs_0 S a1) (h : if (i3 : Int32) < (Int32.ofNat 32) then (zCd X 1 46 [.ref a1, .int i2, .int ((C.1 a1 3) + i3)] S C (zQi (fun r1 C1 => vp_in i3 32 ∧ (zW X 2 45 6 [.ref e, .ref a1, .int i2, .int (i3 + 1)] [] S (zp C1 (e + 4) (Int32.toNatClampNeg i3) r1) (zQv q))))) else (zCd X 1 48 [.ref e] S (zp C e 4 (Int32.ofNat 32)) (zQv (fun C2 => q C2)))) : zW X 2 45 6 [.ref e, .ref a1, .int i2, .int i3] [] S C (zQv q) := by
  refine zw_iload_n (n := 7) d45_6 rfl rfl ?_
  refine zw_aload_n (n := 8) d45_7 rfl rfl ?_
  refine zw_getr (n := 11) d45_8 rfl (zj_1 hS).1 (zj_1 hS).2 (zr_1_3 hS) ?_
  refine zw_alen (n := 12) d45_11 rfl (za_1_3 hS).1 (za_1_3 hS).2 (by decide) rfl ?_
  refine zw_ic_ge (n := 15) d45_12 rfl (zite h (fun h => ?_) (fun h => ?_))
  · skip
    refine zw_aload_n (n := 16) d45_15 rfl rfl ?_
    refine zw_getr (n := 19) d45_16 rfl (zj_1 hS).1 (zj_1 hS).2 (zr_1_3 hS) ?_
    refine zw_iload_n (n := 20) d45_19 rfl rfl ?_
    refine zw_aload_n (n := 21) d45_20 rfl rfl ?_
    refine zw_iload_n (n := 22) d45_21 rfl rfl ?_
    refine zw_aload_n (n := 23) d45_22 rfl rfl ?_
    refine zw_geti (n := 26) d45_23 rfl (zj_0 h1).1 (zj_0 h1).2 ?_
    refine zw_iload_n (n := 27) d45_26 rfl rfl ?_
    refine zw_iadd (n := 28) d45_27 rfl ?_
    refine zw_cI (n := 31) d45_28 (zs_V rfl rfl rfl rfl (by decide) (zj_0 h1).1 (zq_0 h1)) (by rw [ml_46]; rfl) (by decide) rfl (zc_mI h (fun r1 C1 h => ?_))
    obtain ⟨hi, h⟩ := h
    refine zw_iast (n := 32) d45_31 rfl (za_1_3 hS).1 (za_1_3 hS).2 hi ?_
    refine zw_iinc (n := 35) d45_32 rfl rfl zk_i_1 rfl ?_
    refine zw_goto d45_35 ?_
    exact h
  · skip
    refine zw_aload_n (n := 39) d45_38 rfl rfl ?_
    refine zw_aload_n (n := 40) d45_39 rfl rfl ?_
    refine zw_getr (n := 43) d45_40 rfl (zj_1 hS).1 (zj_1 hS).2 (zr_1_3 hS) ?_
    refine zw_alen (n := 44) d45_43 rfl (za_1_3 hS).1 (za_1_3 hS).2 (by decide) rfl ?_
    refine zw_puti (n := 47) d45_44 rfl (zj_1 hS).1 (zj_1 hS).2 ?_
    refine zw_aload_n (n := 48) d45_47 rfl rfl ?_
    refine zw_cV (n := 51) d45_48 (zs_V rfl rfl rfl rfl (by decide) (zj_1 hS).1 (zq_1 hS)) (by rw [ml_48]; rfl) (by decide) rfl (zc_mV h (fun C2 h => ?_))
    exact zw_ret d45_51 ⟨rfl, h⟩

set_option maxRecDepth 20000 in
theorem zf48 (pc : Nat) : zt_code 48 pc = zt_fd zl_48 pc := rfl
theorem d48_0 : zt_code 48 0 = some (.iconst (0), 0, 0, 0) := (zf48 0).trans rfl
theorem d48_1 : zt_code 48 1 = some (.istore_n 1, 0, 0, 0) := (zf48 1).trans rfl
theorem d48_2 : zt_code 48 2 = some (.iload_n 1, 0, 0, 0) := (zf48 2).trans rfl
theorem d48_3 : zt_code 48 3 = some (.iconst (3), 0, 0, 0) := (zf48 3).trans rfl
theorem d48_4 : zt_code 48 4 = some (.if_icmp .ge (18), 0, 22, 0) := (zf48 4).trans rfl
theorem d48_7 : zt_code 48 7 = some (.aload_n 0, 0, 0, 0) := (zf48 7).trans rfl
theorem d48_8 : zt_code 48 8 = some (.getfield 27, 1, 8, 1) := (zf48 8).trans rfl
theorem d48_11 : zt_code 48 11 = some (.iload_n 1, 0, 0, 0) := (zf48 11).trans rfl
theorem d48_12 : zt_code 48 12 = some (.iconst (0), 0, 0, 0) := (zf48 12).trans rfl
theorem d48_13 : zt_code 48 13 = some (.invokestatic 42, 12, 3, -1) := (zf48 13).trans rfl
theorem d48_16 : zt_code 48 16 = some (.iinc 1 (1), 0, 0, 0) := (zf48 16).trans rfl
theorem d48_19 : zt_code 48 19 = some (.goto (-17), 0, 2, 0) := (zf48 19).trans rfl
theorem d48_22 : zt_code 48 22 = some (.return_, 0, 0, 0) := (zf48 22).trans rfl
/-- FirstAtTheFirst$Mind.forgetLooks()V -/
theorem vc48 {X : zX} {S : zx_S} {C : zx_C} {q : zx_C → Prop} {e : Nat} (hS : zs_1 S e) (h : zW X 1 48 2 [.ref e, .int 0] [] S C (zQv q)) : zCd X 1 48 [.ref e] S C (zQv q) := by
  refine zc_in ml_48 rfl ?_
  refine zw_iconst (n := 1) d48_0 rfl zk_i_0 ?_
  refine zw_istore_n (n := 2) d48_1 rfl rfl rfl ?_
  exact h
theorem vc48_2 {X : zX} {S : zx_S} {C : zx_C} {q : zx_C → Prop} {e : Nat} {i1 : Int32} (hS : zs_1 S e) (h : if (i1 : Int32) < 3 then (zCd X 0 12 [.ref (e + 6), .int i1, .int 0] S C (zQv (fun C1 => zW X 1 48 2 [.ref e, .int (i1 + 1)] [] S C1 (zQv q)))) else (q C)) : zW X 1 48 2 [.ref e, .int i1] [] S C (zQv q) := by
  refine zw_iload_n (n := 3) d48_2 rfl rfl ?_
  refine zw_iconst (n := 4) d48_3 rfl zk_i_3 ?_
  refine zw_ic_ge (n := 7) d48_4 rfl (zite h (fun h => ?_) (fun h => ?_))
  · skip
    refine zw_aload_n (n := 8) d48_7 rfl rfl ?_
    refine zw_getr (n := 11) d48_8 rfl (zj_1 hS).1 (zj_1 hS).2 (zr_1_8 hS) ?_
    refine zw_iload_n (n := 12) d48_11 rfl rfl ?_
    refine zw_iconst (n := 13) d48_12 rfl zk_i_0 ?_
    refine zw_cV (n := 16) d48_13 (zs_S rfl rfl rfl rfl) (by rw [ml_12]; rfl) (by decide) rfl (zc_mV h (fun C1 h => ?_))
    refine zw_iinc (n := 19) d48_16 rfl rfl zk_i_1 rfl ?_
    refine zw_goto d48_19 ?_
    exact h
  · skip
    exact zw_ret d48_22 ⟨rfl, h⟩

set_option maxRecDepth 20000 in
theorem zf49 (pc : Nat) : zt_code 49 pc = zt_fd zl_49 pc := rfl
theorem d49_0 : zt_code 49 0 = some (.aload_n 0, 0, 0, 0) := (zf49 0).trans rfl
theorem d49_1 : zt_code 49 1 = some (.iconst (0), 0, 0, 0) := (zf49 1).trans rfl
theorem d49_2 : zt_code 49 2 = some (.putfield 68, 1, 4, 0) := (zf49 2).trans rfl
theorem d49_5 : zt_code 49 5 = some (.aload_n 0, 0, 0, 0) := (zf49 5).trans rfl
theorem d49_6 : zt_code 49 6 = some (.invokevirtual 71, 48, 1, 1) := (zf49 6).trans rfl
theorem d49_9 : zt_code 49 9 = some (.return_, 0, 0, 0) := (zf49 9).trans rfl
/-- FirstAtTheFirst$Mind.expectNothing()V -/
theorem vc49 {X : zX} {S : zx_S} {C : zx_C} {q : zx_C → Prop} {e : Nat} (hS : zs_1 S e) (h : zCd X 1 48 [.ref e] S (zp C e 4 0) (zQv (fun C1 => q C1))) : zCd X 2 49 [.ref e] S C (zQv q) := by
  refine zc_in ml_49 rfl ?_
  refine zw_aload_n (n := 1) d49_0 rfl rfl ?_
  refine zw_iconst (n := 2) d49_1 rfl zk_i_0 ?_
  refine zw_puti (n := 5) d49_2 rfl (zj_1 hS).1 (zj_1 hS).2 ?_
  refine zw_aload_n (n := 6) d49_5 rfl rfl ?_
  refine zw_cV (n := 9) d49_6 (zs_V rfl rfl rfl rfl (by decide) (zj_1 hS).1 (zq_1 hS)) (by rw [ml_48]; rfl) (by decide) rfl (zc_mV h (fun C1 h => ?_))
  exact zw_ret d49_9 ⟨rfl, h⟩

set_option maxRecDepth 20000 in
theorem zf50 (pc : Nat) : zt_code 50 pc = zt_fd zl_50 pc := rfl
theorem d50_0 : zt_code 50 0 = some (.iload_n 2, 0, 0, 0) := (zf50 0).trans rfl
theorem d50_1 : zt_code 50 1 = some (.iconst (5), 0, 0, 0) := (zf50 1).trans rfl
theorem d50_2 : zt_code 50 2 = some (.if_icmp .eq (11), 0, 13, 0) := (zf50 2).trans rfl
theorem d50_5 : zt_code 50 5 = some (.aload_n 0, 0, 0, 0) := (zf50 5).trans rfl
theorem d50_6 : zt_code 50 6 = some (.iload_n 1, 0, 0, 0) := (zf50 6).trans rfl
theorem d50_7 : zt_code 50 7 = some (.iload_n 2, 0, 0, 0) := (zf50 7).trans rfl
theorem d50_8 : zt_code 50 8 = some (.iload_n 3, 0, 0, 0) := (zf50 8).trans rfl
theorem d50_9 : zt_code 50 9 = some (.invokevirtual 86, 51, 4, 1) := (zf50 9).trans rfl
theorem d50_12 : zt_code 50 12 = some (.ireturn, 0, 0, 0) := (zf50 12).trans rfl
theorem d50_13 : zt_code 50 13 = some (.aload_n 0, 0, 0, 0) := (zf50 13).trans rfl
theorem d50_14 : zt_code 50 14 = some (.iload_n 1, 0, 0, 0) := (zf50 14).trans rfl
theorem d50_15 : zt_code 50 15 = some (.iload_n 3, 0, 0, 0) := (zf50 15).trans rfl
theorem d50_16 : zt_code 50 16 = some (.invokestatic 53, 44, 1, -1) := (zf50 16).trans rfl
theorem d50_19 : zt_code 50 19 = some (.iconst (1), 0, 0, 0) := (zf50 19).trans rfl
theorem d50_20 : zt_code 50 20 = some (.isub, 0, 0, 0) := (zf50 20).trans rfl
theorem d50_21 : zt_code 50 21 = some (.invokevirtual 90, 62, 3, 1) := (zf50 21).trans rfl
theorem d50_24 : zt_code 50 24 = some (.aload_n 0, 0, 0, 0) := (zf50 24).trans rfl
theorem d50_25 : zt_code 50 25 = some (.iload_n 1, 0, 0, 0) := (zf50 25).trans rfl
theorem d50_26 : zt_code 50 26 = some (.iload_n 3, 0, 0, 0) := (zf50 26).trans rfl
theorem d50_27 : zt_code 50 27 = some (.invokevirtual 94, 65, 3, 1) := (zf50 27).trans rfl
theorem d50_30 : zt_code 50 30 = some (.ireturn, 0, 0, 0) := (zf50 30).trans rfl
/-- FirstAtTheFirst$Mind.choose(III)I -/
theorem vc50 {X : zX} {S : zx_S} {C : zx_C} {q : Int32 → zx_C → Prop} {e : Nat} {a1 : Int32} {a2 : Int32} {a3 : Int32} (hS : zs_1 S e) (h : if (a2 : Int32) = 5 then (zCd X 0 44 [.int a3] S C (zQi (fun r1 C1 => zCd X 3 62 [.ref e, .int a1, .int (r1 - 1)] S C1 (zQv (fun C2 => zCd X 1 65 [.ref e, .int a1, .int a3] S C2 (zQi (fun r3 C3 => q r3 C3))))))) else (zCd X 2 51 [.ref e, .int a1, .int a2, .int a3] S C (zQi (fun r4 C4 => q r4 C4)))) : zCd X 4 50 [.ref e, .int a1, .int a2, .int a3] S C (zQi q) := by
  refine zc_in ml_50 rfl ?_
  refine zw_iload_n (n := 1) d50_0 rfl rfl ?_
  refine zw_iconst (n := 2) d50_1 rfl zk_i_5 ?_
  refine zw_ic_eq (n := 5) d50_2 rfl (zite h (fun h => ?_) (fun h => ?_))
  · skip
    refine zw_aload_n (n := 14) d50_13 rfl rfl ?_
    refine zw_iload_n (n := 15) d50_14 rfl rfl ?_
    refine zw_iload_n (n := 16) d50_15 rfl rfl ?_
    refine zw_cI (n := 19) d50_16 (zs_S rfl rfl rfl rfl) (by rw [ml_44]; rfl) (by decide) rfl (zc_mI h (fun r1 C1 h => ?_))
    refine zw_iconst (n := 20) d50_19 rfl zk_i_1 ?_
    refine zw_isub (n := 21) d50_20 rfl ?_
    refine zw_cV (n := 24) d50_21 (zs_V rfl rfl rfl rfl (by decide) (zj_1 hS).1 (zq_1 hS)) (by rw [ml_62]; rfl) (by decide) rfl (zc_mV h (fun C2 h => ?_))
    refine zw_aload_n (n := 25) d50_24 rfl rfl ?_
    refine zw_iload_n (n := 26) d50_25 rfl rfl ?_
    refine zw_iload_n (n := 27) d50_26 rfl rfl ?_
    refine zw_cI (n := 30) d50_27 (zs_V rfl rfl rfl rfl (by decide) (zj_1 hS).1 (zq_1 hS)) (by rw [ml_65]; rfl) (by decide) rfl (zc_mI h (fun r3 C3 h => ?_))
    exact zw_iret d50_30 rfl ⟨_, rfl, h⟩
  · skip
    refine zw_aload_n (n := 6) d50_5 rfl rfl ?_
    refine zw_iload_n (n := 7) d50_6 rfl rfl ?_
    refine zw_iload_n (n := 8) d50_7 rfl rfl ?_
    refine zw_iload_n (n := 9) d50_8 rfl rfl ?_
    refine zw_cI (n := 12) d50_9 (zs_V rfl rfl rfl rfl (by decide) (zj_1 hS).1 (zq_1 hS)) (by rw [ml_51]; rfl) (by decide) rfl (zc_mI h (fun r4 C4 h => ?_))
    exact zw_iret d50_12 rfl ⟨_, rfl, h⟩

set_option maxRecDepth 20000 in
theorem zf51 (pc : Nat) : zt_code 51 pc = zt_fd zl_51 pc := rfl
theorem d51_0 : zt_code 51 0 = some (.iload_n 2, 0, 0, 0) := (zf51 0).trans rfl
theorem d51_1 : zt_code 51 1 = some (.tableswitch (136) (0) (4) #[35, 136, 45, 76, 40], 0, 0, 0) := (zf51 1).trans rfl
theorem d51_36 : zt_code 51 36 = some (.iload_n 3, 0, 0, 0) := (zf51 36).trans rfl
theorem d51_37 : zt_code 51 37 = some (.invokestatic 100, 52, 1, -1) := (zf51 37).trans rfl
theorem d51_40 : zt_code 51 40 = some (.ireturn, 0, 0, 0) := (zf51 40).trans rfl
theorem d51_41 : zt_code 51 41 = some (.iload_n 3, 0, 0, 0) := (zf51 41).trans rfl
theorem d51_42 : zt_code 51 42 = some (.invokestatic 103, 54, 1, -1) := (zf51 42).trans rfl
theorem d51_45 : zt_code 51 45 = some (.ireturn, 0, 0, 0) := (zf51 45).trans rfl
theorem d51_46 : zt_code 51 46 = some (.aload_n 0, 0, 0, 0) := (zf51 46).trans rfl
theorem d51_47 : zt_code 51 47 = some (.iload_n 1, 0, 0, 0) := (zf51 47).trans rfl
theorem d51_48 : zt_code 51 48 = some (.aload_n 0, 0, 0, 0) := (zf51 48).trans rfl
theorem d51_49 : zt_code 51 49 = some (.iload_n 3, 0, 0, 0) := (zf51 49).trans rfl
theorem d51_50 : zt_code 51 50 = some (.invokevirtual 83, 55, 2, 1) := (zf51 50).trans rfl
theorem d51_53 : zt_code 51 53 = some (.invokevirtual 106, 56, 3, 1) := (zf51 53).trans rfl
theorem d51_56 : zt_code 51 56 = some (.istore 4, 0, 0, 0) := (zf51 56).trans rfl
theorem d51_58 : zt_code 51 58 = some (.aload_n 0, 0, 0, 0) := (zf51 58).trans rfl
theorem d51_59 : zt_code 51 59 = some (.iload 4, 0, 0, 0) := (zf51 59).trans rfl
theorem d51_61 : zt_code 51 61 = some (.iconst (-1), 0, 0, 0) := (zf51 61).trans rfl
theorem d51_62 : zt_code 51 62 = some (.if_icmp .ne (7), 0, 69, 0) := (zf51 62).trans rfl
theorem d51_65 : zt_code 51 65 = some (.iload_n 1, 0, 0, 0) := (zf51 65).trans rfl
theorem d51_66 : zt_code 51 66 = some (.goto (5), 0, 71, 0) := (zf51 66).trans rfl
theorem d51_69 : zt_code 51 69 = some (.iload 4, 0, 0, 0) := (zf51 69).trans rfl
theorem d51_71 : zt_code 51 71 = some (.iload_n 1, 0, 0, 0) := (zf51 71).trans rfl
theorem d51_72 : zt_code 51 72 = some (.iload_n 3, 0, 0, 0) := (zf51 72).trans rfl
theorem d51_73 : zt_code 51 73 = some (.invokevirtual 109, 58, 4, 1) := (zf51 73).trans rfl
theorem d51_76 : zt_code 51 76 = some (.ireturn, 0, 0, 0) := (zf51 76).trans rfl
theorem d51_77 : zt_code 51 77 = some (.aload_n 0, 0, 0, 0) := (zf51 77).trans rfl
theorem d51_78 : zt_code 51 78 = some (.iload_n 1, 0, 0, 0) := (zf51 78).trans rfl
theorem d51_79 : zt_code 51 79 = some (.aload_n 0, 0, 0, 0) := (zf51 79).trans rfl
theorem d51_80 : zt_code 51 80 = some (.iload_n 3, 0, 0, 0) := (zf51 80).trans rfl
theorem d51_81 : zt_code 51 81 = some (.invokevirtual 83, 55, 2, 1) := (zf51 81).trans rfl
theorem d51_84 : zt_code 51 84 = some (.invokevirtual 106, 56, 3, 1) := (zf51 84).trans rfl
theorem d51_87 : zt_code 51 87 = some (.istore 5, 0, 0, 0) := (zf51 87).trans rfl
theorem d51_89 : zt_code 51 89 = some (.iload 5, 0, 0, 0) := (zf51 89).trans rfl
theorem d51_91 : zt_code 51 91 = some (.iconst (-1), 0, 0, 0) := (zf51 91).trans rfl
theorem d51_92 : zt_code 51 92 = some (.if_icmp .eq (15), 0, 107, 0) := (zf51 92).trans rfl
theorem d51_95 : zt_code 51 95 = some (.iload_n 3, 0, 0, 0) := (zf51 95).trans rfl
theorem d51_96 : zt_code 51 96 = some (.invokestatic 53, 44, 1, -1) := (zf51 96).trans rfl
theorem d51_99 : zt_code 51 99 = some (.iconst (1), 0, 0, 0) := (zf51 99).trans rfl
theorem d51_100 : zt_code 51 100 = some (.if_icmp .le (7), 0, 107, 0) := (zf51 100).trans rfl
theorem d51_103 : zt_code 51 103 = some (.iconst (1), 0, 0, 0) := (zf51 103).trans rfl
theorem d51_104 : zt_code 51 104 = some (.goto (4), 0, 108, 0) := (zf51 104).trans rfl
theorem d51_107 : zt_code 51 107 = some (.iconst (0), 0, 0, 0) := (zf51 107).trans rfl
theorem d51_108 : zt_code 51 108 = some (.istore 6, 0, 0, 0) := (zf51 108).trans rfl
theorem d51_110 : zt_code 51 110 = some (.aload_n 0, 0, 0, 0) := (zf51 110).trans rfl
theorem d51_111 : zt_code 51 111 = some (.iload_n 1, 0, 0, 0) := (zf51 111).trans rfl
theorem d51_112 : zt_code 51 112 = some (.iload_n 1, 0, 0, 0) := (zf51 112).trans rfl
theorem d51_113 : zt_code 51 113 = some (.iload 6, 0, 0, 0) := (zf51 113).trans rfl
theorem d51_115 : zt_code 51 115 = some (.ifCond .eq (17), 0, 132, 0) := (zf51 115).trans rfl
theorem d51_118 : zt_code 51 118 = some (.iload_n 3, 0, 0, 0) := (zf51 118).trans rfl
theorem d51_119 : zt_code 51 119 = some (.aload_n 0, 0, 0, 0) := (zf51 119).trans rfl
theorem d51_120 : zt_code 51 120 = some (.iload 5, 0, 0, 0) := (zf51 120).trans rfl
theorem d51_122 : zt_code 51 122 = some (.iload_n 3, 0, 0, 0) := (zf51 122).trans rfl
theorem d51_123 : zt_code 51 123 = some (.invokevirtual 112, 60, 3, 1) := (zf51 123).trans rfl
theorem d51_126 : zt_code 51 126 = some (.invokestatic 115, 61, 2, -1) := (zf51 126).trans rfl
theorem d51_129 : zt_code 51 129 = some (.goto (4), 0, 133, 0) := (zf51 129).trans rfl
theorem d51_132 : zt_code 51 132 = some (.iload_n 3, 0, 0, 0) := (zf51 132).trans rfl
theorem d51_133 : zt_code 51 133 = some (.invokevirtual 109, 58, 4, 1) := (zf51 133).trans rfl
theorem d51_136 : zt_code 51 136 = some (.ireturn, 0, 0, 0) := (zf51 136).trans rfl
theorem d51_137 : zt_code 51 137 = some (.aload_n 0, 0, 0, 0) := (zf51 137).trans rfl
theorem d51_138 : zt_code 51 138 = some (.iload_n 1, 0, 0, 0) := (zf51 138).trans rfl
theorem d51_139 : zt_code 51 139 = some (.iload_n 1, 0, 0, 0) := (zf51 139).trans rfl
theorem d51_140 : zt_code 51 140 = some (.iload_n 3, 0, 0, 0) := (zf51 140).trans rfl
theorem d51_141 : zt_code 51 141 = some (.invokevirtual 109, 58, 4, 1) := (zf51 141).trans rfl
theorem d51_144 : zt_code 51 144 = some (.ireturn, 0, 0, 0) := (zf51 144).trans rfl
/-- FirstAtTheFirst$Mind.chooseBlind(III)I -/
theorem vc51 {X : zX} {S : zx_S} {C : zx_C} {q : Int32 → zx_C → Prop} {e : Nat} {a1 : Int32} {a2 : Int32} {a3 : Int32} (hS : zs_1 S e) (h : if Int32.toInt a2 = 0 then (zCd X 1 52 [.int a3] S C (zQi (fun r1 C1 => q r1 C1))) else (if Int32.toInt a2 = 0 + 1 then (zCd X 1 58 [.ref e, .int a1, .int a1, .int a3] S C (zQi (fun r2 C2 => q r2 C2))) else (if Int32.toInt a2 = 0 + 1 + 1 then (zCd X 1 55 [.ref e, .int a3] S C (zQi (fun r3 C3 => zCd X 1 56 [.ref e, .int a1, .int r3] S C3 (zQi (fun r4 C4 => if (r4 : Int32) = (-1) then (zCd X 1 58 [.ref e, .int a1, .int a1, .int a3] S C4 (zQi (fun r5 C5 => q r5 C5))) else (zCd X 1 58 [.ref e, .int r4, .int a1, .int a3] S C4 (zQi (fun r6 C6 => q r6 C6)))))))) else (if Int32.toInt a2 = 0 + 1 + 1 + 1 then (zCd X 1 55 [.ref e, .int a3] S C (zQi (fun r7 C7 => zCd X 1 56 [.ref e, .int a1, .int r7] S C7 (zQi (fun r8 C8 => if (r8 : Int32) = (-1) then (if (0 : Int32) = 0 then (zCd X 1 58 [.ref e, .int a1, .int a1, .int a3] S C8 (zQi (fun r9 C9 => q r9 C9))) else (zCd X 1 60 [.ref e, .int r8, .int a3] S C8 (zQi (fun r10 C10 => zCd X 0 61 [.int a3, .int r10] S C10 (zQi (fun r11 C11 => zCd X 1 58 [.ref e, .int a1, .int a1, .int r11] S C11 (zQi (fun r12 C12 => q r12 C12)))))))) else (zCd X 0 44 [.int a3] S C8 (zQi (fun r13 C13 => if (1 : Int32) < r13 then (if (1 : Int32) = 0 then (zCd X 1 58 [.ref e, .int a1, .int a1, .int a3] S C13 (zQi (fun r14 C14 => q r14 C14))) else (zCd X 1 60 [.ref e, .int r8, .int a3] S C13 (zQi (fun r15 C15 => zCd X 0 61 [.int a3, .int r15] S C15 (zQi (fun r16 C16 => zCd X 1 58 [.ref e, .int a1, .int a1, .int r16] S C16 (zQi (fun r17 C17 => q r17 C17)))))))) else (if (0 : Int32) = 0 then (zCd X 1 58 [.ref e, .int a1, .int a1, .int a3] S C13 (zQi (fun r18 C18 => q r18 C18))) else (zCd X 1 60 [.ref e, .int r8, .int a3] S C13 (zQi (fun r19 C19 => zCd X 0 61 [.int a3, .int r19] S C19 (zQi (fun r20 C20 => zCd X 1 58 [.ref e, .int a1, .int a1, .int r20] S C20 (zQi (fun r21 C21 => q r21 C21)))))))))))))))) else (if Int32.toInt a2 = 0 + 1 + 1 + 1 + 1 then (zCd X 1 54 [.int a3] S C (zQi (fun r22 C22 => q r22 C22))) else (zCd X 1 58 [.ref e, .int a1, .int a1, .int a3] S C (zQi (fun r23 C23 => q r23 C23)))))))) : zCd X 2 51 [.ref e, .int a1, .int a2, .int a3] S C (zQi q) := by
  refine zc_in ml_51 rfl ?_
  refine zw_iload_n (n := 1) d51_0 rfl rfl ?_
  refine zw_tsw d51_1 rfl ?_
  refine zw_sw1 (t := 36) rfl (zite h (fun h => ?_) (fun h => ?_))
  · skip
    refine zw_iload_n (n := 37) d51_36 rfl rfl ?_
    refine zw_cI (n := 40) d51_37 (zs_S rfl rfl rfl rfl) (by rw [ml_52]; rfl) (by decide) rfl (zc_mI h (fun r1 C1 h => ?_))
    exact zw_iret d51_40 rfl ⟨_, rfl, h⟩
  · skip
    refine zw_sw1 (t := 137) rfl (zite h (fun h => ?_) (fun h => ?_))
    · skip
      refine zw_aload_n (n := 138) d51_137 rfl rfl ?_
      refine zw_iload_n (n := 139) d51_138 rfl rfl ?_
      refine zw_iload_n (n := 140) d51_139 rfl rfl ?_
      refine zw_iload_n (n := 141) d51_140 rfl rfl ?_
      refine zw_cI (n := 144) d51_141 (zs_V rfl rfl rfl rfl (by decide) (zj_1 hS).1 (zq_1 hS)) (by rw [ml_58]; rfl) (by decide) rfl (zc_mI h (fun r2 C2 h => ?_))
      exact zw_iret d51_144 rfl ⟨_, rfl, h⟩
    · skip
      refine zw_sw1 (t := 46) rfl (zite h (fun h => ?_) (fun h => ?_))
      · skip
        refine zw_aload_n (n := 47) d51_46 rfl rfl ?_
        refine zw_iload_n (n := 48) d51_47 rfl rfl ?_
        refine zw_aload_n (n := 49) d51_48 rfl rfl ?_
        refine zw_iload_n (n := 50) d51_49 rfl rfl ?_
        refine zw_cI (n := 53) d51_50 (zs_V rfl rfl rfl rfl (by decide) (zj_1 hS).1 (zq_1 hS)) (by rw [ml_55]; rfl) (by decide) rfl (zc_mI h (fun r3 C3 h => ?_))
        refine zw_cI (n := 56) d51_53 (zs_V rfl rfl rfl rfl (by decide) (zj_1 hS).1 (zq_1 hS)) (by rw [ml_56]; rfl) (by decide) rfl (zc_mI h (fun r4 C4 h => ?_))
        refine zw_istore (n := 58) d51_56 rfl rfl rfl ?_
        refine zw_aload_n (n := 59) d51_58 rfl rfl ?_
        refine zw_iload (n := 61) d51_59 rfl rfl ?_
        refine zw_iconst (n := 62) d51_61 rfl zk_i_m1 ?_
        refine zw_ic_ne (n := 65) d51_62 rfl (zite h (fun h => ?_) (fun h => ?_))
        · skip
          refine zw_iload_n (n := 66) d51_65 rfl rfl ?_
          refine zw_goto d51_66 ?_
          refine zw_iload_n (n := 72) d51_71 rfl rfl ?_
          refine zw_iload_n (n := 73) d51_72 rfl rfl ?_
          refine zw_cI (n := 76) d51_73 (zs_V rfl rfl rfl rfl (by decide) (zj_1 hS).1 (zq_1 hS)) (by rw [ml_58]; rfl) (by decide) rfl (zc_mI h (fun r5 C5 h => ?_))
          exact zw_iret d51_76 rfl ⟨_, rfl, h⟩
        · skip
          refine zw_iload (n := 71) d51_69 rfl rfl ?_
          refine zw_iload_n (n := 72) d51_71 rfl rfl ?_
          refine zw_iload_n (n := 73) d51_72 rfl rfl ?_
          refine zw_cI (n := 76) d51_73 (zs_V rfl rfl rfl rfl (by decide) (zj_1 hS).1 (zq_1 hS)) (by rw [ml_58]; rfl) (by decide) rfl (zc_mI h (fun r6 C6 h => ?_))
          exact zw_iret d51_76 rfl ⟨_, rfl, h⟩
      · skip
        refine zw_sw1 (t := 77) rfl (zite h (fun h => ?_) (fun h => ?_))
        · skip
          refine zw_aload_n (n := 78) d51_77 rfl rfl ?_
          refine zw_iload_n (n := 79) d51_78 rfl rfl ?_
          refine zw_aload_n (n := 80) d51_79 rfl rfl ?_
          refine zw_iload_n (n := 81) d51_80 rfl rfl ?_
          refine zw_cI (n := 84) d51_81 (zs_V rfl rfl rfl rfl (by decide) (zj_1 hS).1 (zq_1 hS)) (by rw [ml_55]; rfl) (by decide) rfl (zc_mI h (fun r7 C7 h => ?_))
          refine zw_cI (n := 87) d51_84 (zs_V rfl rfl rfl rfl (by decide) (zj_1 hS).1 (zq_1 hS)) (by rw [ml_56]; rfl) (by decide) rfl (zc_mI h (fun r8 C8 h => ?_))
          refine zw_istore (n := 89) d51_87 rfl rfl rfl ?_
          refine zw_iload (n := 91) d51_89 rfl rfl ?_
          refine zw_iconst (n := 92) d51_91 rfl zk_i_m1 ?_
          refine zw_ic_eq (n := 95) d51_92 rfl (zite h (fun h => ?_) (fun h => ?_))
          · skip
            refine zw_iconst (n := 108) d51_107 rfl zk_i_0 ?_
            refine zw_istore (n := 110) d51_108 rfl rfl rfl ?_
            refine zw_aload_n (n := 111) d51_110 rfl rfl ?_
            refine zw_iload_n (n := 112) d51_111 rfl rfl ?_
            refine zw_iload_n (n := 113) d51_112 rfl rfl ?_
            refine zw_iload (n := 115) d51_113 rfl rfl ?_
            refine zw_if_eq (n := 118) d51_115 rfl (zite h (fun h => ?_) (fun h => ?_))
            · skip
              refine zw_iload_n (n := 133) d51_132 rfl rfl ?_
              refine zw_cI (n := 136) d51_133 (zs_V rfl rfl rfl rfl (by decide) (zj_1 hS).1 (zq_1 hS)) (by rw [ml_58]; rfl) (by decide) rfl (zc_mI h (fun r9 C9 h => ?_))
              exact zw_iret d51_136 rfl ⟨_, rfl, h⟩
            · skip
              refine zw_iload_n (n := 119) d51_118 rfl rfl ?_
              refine zw_aload_n (n := 120) d51_119 rfl rfl ?_
              refine zw_iload (n := 122) d51_120 rfl rfl ?_
              refine zw_iload_n (n := 123) d51_122 rfl rfl ?_
              refine zw_cI (n := 126) d51_123 (zs_V rfl rfl rfl rfl (by decide) (zj_1 hS).1 (zq_1 hS)) (by rw [ml_60]; rfl) (by decide) rfl (zc_mI h (fun r10 C10 h => ?_))
              refine zw_cI (n := 129) d51_126 (zs_S rfl rfl rfl rfl) (by rw [ml_61]; rfl) (by decide) rfl (zc_mI h (fun r11 C11 h => ?_))
              refine zw_goto d51_129 ?_
              refine zw_cI (n := 136) d51_133 (zs_V rfl rfl rfl rfl (by decide) (zj_1 hS).1 (zq_1 hS)) (by rw [ml_58]; rfl) (by decide) rfl (zc_mI h (fun r12 C12 h => ?_))
              exact zw_iret d51_136 rfl ⟨_, rfl, h⟩
          · skip
            refine zw_iload_n (n := 96) d51_95 rfl rfl ?_
            refine zw_cI (n := 99) d51_96 (zs_S rfl rfl rfl rfl) (by rw [ml_44]; rfl) (by decide) rfl (zc_mI h (fun r13 C13 h => ?_))
            refine zw_iconst (n := 100) d51_99 rfl zk_i_1 ?_
            refine zw_ic_le (n := 103) d51_100 rfl (zite h (fun h => ?_) (fun h => ?_))
            · skip
              refine zw_iconst (n := 104) d51_103 rfl zk_i_1 ?_
              refine zw_goto d51_104 ?_
              refine zw_istore (n := 110) d51_108 rfl rfl rfl ?_
              refine zw_aload_n (n := 111) d51_110 rfl rfl ?_
              refine zw_iload_n (n := 112) d51_111 rfl rfl ?_
              refine zw_iload_n (n := 113) d51_112 rfl rfl ?_
              refine zw_iload (n := 115) d51_113 rfl rfl ?_
              refine zw_if_eq (n := 118) d51_115 rfl (zite h (fun h => ?_) (fun h => ?_))
              · skip
                refine zw_iload_n (n := 133) d51_132 rfl rfl ?_
                refine zw_cI (n := 136) d51_133 (zs_V rfl rfl rfl rfl (by decide) (zj_1 hS).1 (zq_1 hS)) (by rw [ml_58]; rfl) (by decide) rfl (zc_mI h (fun r14 C14 h => ?_))
                exact zw_iret d51_136 rfl ⟨_, rfl, h⟩
              · skip
                refine zw_iload_n (n := 119) d51_118 rfl rfl ?_
                refine zw_aload_n (n := 120) d51_119 rfl rfl ?_
                refine zw_iload (n := 122) d51_120 rfl rfl ?_
                refine zw_iload_n (n := 123) d51_122 rfl rfl ?_
                refine zw_cI (n := 126) d51_123 (zs_V rfl rfl rfl rfl (by decide) (zj_1 hS).1 (zq_1 hS)) (by rw [ml_60]; rfl) (by decide) rfl (zc_mI h (fun r15 C15 h => ?_))
                refine zw_cI (n := 129) d51_126 (zs_S rfl rfl rfl rfl) (by rw [ml_61]; rfl) (by decide) rfl (zc_mI h (fun r16 C16 h => ?_))
                refine zw_goto d51_129 ?_
                refine zw_cI (n := 136) d51_133 (zs_V rfl rfl rfl rfl (by decide) (zj_1 hS).1 (zq_1 hS)) (by rw [ml_58]; rfl) (by decide) rfl (zc_mI h (fun r17 C17 h => ?_))
                exact zw_iret d51_136 rfl ⟨_, rfl, h⟩
            · skip
              refine zw_iconst (n := 108) d51_107 rfl zk_i_0 ?_
              refine zw_istore (n := 110) d51_108 rfl rfl rfl ?_
              refine zw_aload_n (n := 111) d51_110 rfl rfl ?_
              refine zw_iload_n (n := 112) d51_111 rfl rfl ?_
              refine zw_iload_n (n := 113) d51_112 rfl rfl ?_
              refine zw_iload (n := 115) d51_113 rfl rfl ?_
              refine zw_if_eq (n := 118) d51_115 rfl (zite h (fun h => ?_) (fun h => ?_))
              · skip
                refine zw_iload_n (n := 133) d51_132 rfl rfl ?_
                refine zw_cI (n := 136) d51_133 (zs_V rfl rfl rfl rfl (by decide) (zj_1 hS).1 (zq_1 hS)) (by rw [ml_58]; rfl) (by decide) rfl (zc_mI h (fun r18 C18 h => ?_))
                exact zw_iret d51_136 rfl ⟨_, rfl, h⟩
              · skip
                refine zw_iload_n (n := 119) d51_118 rfl rfl ?_
                refine zw_aload_n (n := 120) d51_119 rfl rfl ?_
                refine zw_iload (n := 122) d51_120 rfl rfl ?_
                refine zw_iload_n (n := 123) d51_122 rfl rfl ?_
                refine zw_cI (n := 126) d51_123 (zs_V rfl rfl rfl rfl (by decide) (zj_1 hS).1 (zq_1 hS)) (by rw [ml_60]; rfl) (by decide) rfl (zc_mI h (fun r19 C19 h => ?_))
                refine zw_cI (n := 129) d51_126 (zs_S rfl rfl rfl rfl) (by rw [ml_61]; rfl) (by decide) rfl (zc_mI h (fun r20 C20 h => ?_))
                refine zw_goto d51_129 ?_
                refine zw_cI (n := 136) d51_133 (zs_V rfl rfl rfl rfl (by decide) (zj_1 hS).1 (zq_1 hS)) (by rw [ml_58]; rfl) (by decide) rfl (zc_mI h (fun r21 C21 h => ?_))
                exact zw_iret d51_136 rfl ⟨_, rfl, h⟩
        · skip
          refine zw_sw1 (t := 41) rfl (zite h (fun h => ?_) (fun h => ?_))
          · skip
            refine zw_iload_n (n := 42) d51_41 rfl rfl ?_
            refine zw_cI (n := 45) d51_42 (zs_S rfl rfl rfl rfl) (by rw [ml_54]; rfl) (by decide) rfl (zc_mI h (fun r22 C22 h => ?_))
            exact zw_iret d51_45 rfl ⟨_, rfl, h⟩
          · skip
            refine zw_sw0 (t := 137) rfl ?_
            refine zw_aload_n (n := 138) d51_137 rfl rfl ?_
            refine zw_iload_n (n := 139) d51_138 rfl rfl ?_
            refine zw_iload_n (n := 140) d51_139 rfl rfl ?_
            refine zw_iload_n (n := 141) d51_140 rfl rfl ?_
            refine zw_cI (n := 144) d51_141 (zs_V rfl rfl rfl rfl (by decide) (zj_1 hS).1 (zq_1 hS)) (by rw [ml_58]; rfl) (by decide) rfl (zc_mI h (fun r23 C23 h => ?_))
            exact zw_iret d51_144 rfl ⟨_, rfl, h⟩

set_option maxRecDepth 20000 in
theorem zf52 (pc : Nat) : zt_code 52 pc = zt_fd zl_52 pc := rfl
theorem d52_0 : zt_code 52 0 = some (.iconst (0), 0, 0, 0) := (zf52 0).trans rfl
theorem d52_1 : zt_code 52 1 = some (.istore_n 1, 0, 0, 0) := (zf52 1).trans rfl
theorem d52_2 : zt_code 52 2 = some (.iload_n 1, 0, 0, 0) := (zf52 2).trans rfl
theorem d52_3 : zt_code 52 3 = some (.bipush (8), 0, 0, 0) := (zf52 3).trans rfl
theorem d52_5 : zt_code 52 5 = some (.if_icmp .ge (19), 0, 24, 0) := (zf52 5).trans rfl
theorem d52_8 : zt_code 52 8 = some (.iload_n 0, 0, 0, 0) := (zf52 8).trans rfl
theorem d52_9 : zt_code 52 9 = some (.iload_n 1, 0, 0, 0) := (zf52 9).trans rfl
theorem d52_10 : zt_code 52 10 = some (.invokestatic 118, 53, 2, -1) := (zf52 10).trans rfl
theorem d52_13 : zt_code 52 13 = some (.ifCond .eq (5), 0, 18, 0) := (zf52 13).trans rfl
theorem d52_16 : zt_code 52 16 = some (.iload_n 1, 0, 0, 0) := (zf52 16).trans rfl
theorem d52_17 : zt_code 52 17 = some (.ireturn, 0, 0, 0) := (zf52 17).trans rfl
theorem d52_18 : zt_code 52 18 = some (.iinc 1 (1), 0, 0, 0) := (zf52 18).trans rfl
theorem d52_21 : zt_code 52 21 = some (.goto (-19), 0, 2, 0) := (zf52 21).trans rfl
theorem d52_24 : zt_code 52 24 = some (.iconst (-1), 0, 0, 0) := (zf52 24).trans rfl
theorem d52_25 : zt_code 52 25 = some (.ireturn, 0, 0, 0) := (zf52 25).trans rfl
/-- FirstAtTheFirst$Mind.first(I)I -/
theorem vc52 {X : zX} {S : zx_S} {C : zx_C} {q : Int32 → zx_C → Prop} {a1 : Int32}  (h : zW X 1 52 2 [.int a1, .int 0] [] S C (zQi q)) : zCd X 1 52 [.int a1] S C (zQi q) := by
  refine zc_in ml_52 rfl ?_
  refine zw_iconst (n := 1) d52_0 rfl zk_i_0 ?_
  refine zw_istore_n (n := 2) d52_1 rfl rfl rfl ?_
  exact h
theorem vc52_2 {X : zX} {S : zx_S} {C : zx_C} {q : Int32 → zx_C → Prop} {a1 : Int32} {i0 : Int32} {i1 : Int32}  (h : if (i1 : Int32) < 8 then (zCd X 0 53 [.int i0, .int i1] S C (zQi (fun r1 C1 => if (r1 : Int32) = 0 then (zW X 1 52 2 [.int i0, .int (i1 + 1)] [] S C1 (zQi q)) else (q i1 C1)))) else (q (-1) C)) : zW X 1 52 2 [.int i0, .int i1] [] S C (zQi q) := by
  refine zw_iload_n (n := 3) d52_2 rfl rfl ?_
  refine zw_bipush (n := 5) d52_3 rfl zk_b_8 ?_
  refine zw_ic_ge (n := 8) d52_5 rfl (zite h (fun h => ?_) (fun h => ?_))
  · skip
    refine zw_iload_n (n := 9) d52_8 rfl rfl ?_
    refine zw_iload_n (n := 10) d52_9 rfl rfl ?_
    refine zw_cI (n := 13) d52_10 (zs_S rfl rfl rfl rfl) (by rw [ml_53]; rfl) (by decide) rfl (zc_mI h (fun r1 C1 h => ?_))
    refine zw_if_eq (n := 16) d52_13 rfl (zite h (fun h => ?_) (fun h => ?_))
    · skip
      refine zw_iinc (n := 21) d52_18 rfl rfl zk_i_1 rfl ?_
      refine zw_goto d52_21 ?_
      exact h
    · skip
      refine zw_iload_n (n := 17) d52_16 rfl rfl ?_
      exact zw_iret d52_17 rfl ⟨_, rfl, h⟩
  · skip
    refine zw_iconst (n := 25) d52_24 rfl zk_i_m1 ?_
    exact zw_iret d52_25 rfl ⟨_, rfl, h⟩

set_option maxRecDepth 20000 in
theorem zf54 (pc : Nat) : zt_code 54 pc = zt_fd zl_54 pc := rfl
theorem d54_0 : zt_code 54 0 = some (.bipush (7), 0, 0, 0) := (zf54 0).trans rfl
theorem d54_2 : zt_code 54 2 = some (.istore_n 1, 0, 0, 0) := (zf54 2).trans rfl
theorem d54_3 : zt_code 54 3 = some (.iload_n 1, 0, 0, 0) := (zf54 3).trans rfl
theorem d54_4 : zt_code 54 4 = some (.ifCond .lt (19), 0, 23, 0) := (zf54 4).trans rfl
theorem d54_7 : zt_code 54 7 = some (.iload_n 0, 0, 0, 0) := (zf54 7).trans rfl
theorem d54_8 : zt_code 54 8 = some (.iload_n 1, 0, 0, 0) := (zf54 8).trans rfl
theorem d54_9 : zt_code 54 9 = some (.invokestatic 118, 53, 2, -1) := (zf54 9).trans rfl
theorem d54_12 : zt_code 54 12 = some (.ifCond .eq (5), 0, 17, 0) := (zf54 12).trans rfl
theorem d54_15 : zt_code 54 15 = some (.iload_n 1, 0, 0, 0) := (zf54 15).trans rfl
theorem d54_16 : zt_code 54 16 = some (.ireturn, 0, 0, 0) := (zf54 16).trans rfl
theorem d54_17 : zt_code 54 17 = some (.iinc 1 (-1), 0, 0, 0) := (zf54 17).trans rfl
theorem d54_20 : zt_code 54 20 = some (.goto (-17), 0, 3, 0) := (zf54 20).trans rfl
theorem d54_23 : zt_code 54 23 = some (.iconst (-1), 0, 0, 0) := (zf54 23).trans rfl
theorem d54_24 : zt_code 54 24 = some (.ireturn, 0, 0, 0) := (zf54 24).trans rfl
/-- FirstAtTheFirst$Mind.last(I)I -/
theorem vc54 {X : zX} {S : zx_S} {C : zx_C} {q : Int32 → zx_C → Prop} {a1 : Int32}  (h : zW X 1 54 3 [.int a1, .int 7] [] S C (zQi q)) : zCd X 1 54 [.int a1] S C (zQi q) := by
  refine zc_in ml_54 rfl ?_
  refine zw_bipush (n := 2) d54_0 rfl zk_b_7 ?_
  refine zw_istore_n (n := 3) d54_2 rfl rfl rfl ?_
  exact h
theorem vc54_3 {X : zX} {S : zx_S} {C : zx_C} {q : Int32 → zx_C → Prop} {a1 : Int32} {i0 : Int32} {i1 : Int32}  (h : if (i1 : Int32) < 0 then (q (-1) C) else (zCd X 0 53 [.int i0, .int i1] S C (zQi (fun r1 C1 => if (r1 : Int32) = 0 then (zW X 1 54 3 [.int i0, .int (i1 + (-1))] [] S C1 (zQi q)) else (q i1 C1))))) : zW X 1 54 3 [.int i0, .int i1] [] S C (zQi q) := by
  refine zw_iload_n (n := 4) d54_3 rfl rfl ?_
  refine zw_if_lt (n := 7) d54_4 rfl (zite h (fun h => ?_) (fun h => ?_))
  · skip
    refine zw_iconst (n := 24) d54_23 rfl zk_i_m1 ?_
    exact zw_iret d54_24 rfl ⟨_, rfl, h⟩
  · skip
    refine zw_iload_n (n := 8) d54_7 rfl rfl ?_
    refine zw_iload_n (n := 9) d54_8 rfl rfl ?_
    refine zw_cI (n := 12) d54_9 (zs_S rfl rfl rfl rfl) (by rw [ml_53]; rfl) (by decide) rfl (zc_mI h (fun r1 C1 h => ?_))
    refine zw_if_eq (n := 15) d54_12 rfl (zite h (fun h => ?_) (fun h => ?_))
    · skip
      refine zw_iinc (n := 20) d54_17 rfl rfl zk_i_m1 rfl ?_
      refine zw_goto d54_20 ?_
      exact h
    · skip
      refine zw_iload_n (n := 16) d54_15 rfl rfl ?_
      exact zw_iret d54_16 rfl ⟨_, rfl, h⟩

set_option maxRecDepth 20000 in
theorem zf55 (pc : Nat) : zt_code 55 pc = zt_fd zl_55 pc := rfl
theorem d55_0 : zt_code 55 0 = some (.aload_n 0, 0, 0, 0) := (zf55 0).trans rfl
theorem d55_1 : zt_code 55 1 = some (.getfield 58, 1, 6, 0) := (zf55 1).trans rfl
theorem d55_4 : zt_code 55 4 = some (.iload_n 1, 0, 0, 0) := (zf55 4).trans rfl
theorem d55_5 : zt_code 55 5 = some (.invokestatic 53, 44, 1, -1) := (zf55 5).trans rfl
theorem d55_8 : zt_code 55 8 = some (.isub, 0, 0, 0) := (zf55 8).trans rfl
theorem d55_9 : zt_code 55 9 = some (.ireturn, 0, 0, 0) := (zf55 9).trans rfl
/-- FirstAtTheFirst$Mind.turnWhen(I)I -/
theorem vc55 {X : zX} {S : zx_S} {C : zx_C} {q : Int32 → zx_C → Prop} {e : Nat} {a1 : Int32} (hS : zs_1 S e) (h : zCd X 0 44 [.int a1] S C (zQi (fun r1 C1 => q ((C.1 e 6) - r1) C1))) : zCd X 1 55 [.ref e, .int a1] S C (zQi q) := by
  refine zc_in ml_55 rfl ?_
  refine zw_aload_n (n := 1) d55_0 rfl rfl ?_
  refine zw_geti (n := 4) d55_1 rfl (zj_1 hS).1 (zj_1 hS).2 ?_
  refine zw_iload_n (n := 5) d55_4 rfl rfl ?_
  refine zw_cI (n := 8) d55_5 (zs_S rfl rfl rfl rfl) (by rw [ml_44]; rfl) (by decide) rfl (zc_mI h (fun r1 C1 h => ?_))
  refine zw_isub (n := 9) d55_8 rfl ?_
  exact zw_iret d55_9 rfl ⟨_, rfl, h⟩

set_option maxRecDepth 20000 in
theorem zf56 (pc : Nat) : zt_code 56 pc = zt_fd zl_56 pc := rfl
theorem d56_0 : zt_code 56 0 = some (.aload_n 0, 0, 0, 0) := (zf56 0).trans rfl
theorem d56_1 : zt_code 56 1 = some (.getfield 68, 1, 4, 0) := (zf56 1).trans rfl
theorem d56_4 : zt_code 56 4 = some (.iload_n 2, 0, 0, 0) := (zf56 4).trans rfl
theorem d56_5 : zt_code 56 5 = some (.bipush (24), 0, 0, 0) := (zf56 5).trans rfl
theorem d56_7 : zt_code 56 7 = some (.iadd, 0, 0, 0) := (zf56 7).trans rfl
theorem d56_8 : zt_code 56 8 = some (.iconst (1), 0, 0, 0) := (zf56 8).trans rfl
theorem d56_9 : zt_code 56 9 = some (.iadd, 0, 0, 0) := (zf56 9).trans rfl
theorem d56_10 : zt_code 56 10 = some (.invokestatic 78, 0, 2, 98) := (zf56 10).trans rfl
theorem d56_13 : zt_code 56 13 = some (.istore_n 3, 0, 0, 0) := (zf56 13).trans rfl
theorem d56_14 : zt_code 56 14 = some (.iload_n 2, 0, 0, 0) := (zf56 14).trans rfl
theorem d56_15 : zt_code 56 15 = some (.iconst (1), 0, 0, 0) := (zf56 15).trans rfl
theorem d56_16 : zt_code 56 16 = some (.iadd, 0, 0, 0) := (zf56 16).trans rfl
theorem d56_17 : zt_code 56 17 = some (.istore 4, 0, 0, 0) := (zf56 17).trans rfl
theorem d56_19 : zt_code 56 19 = some (.iload 4, 0, 0, 0) := (zf56 19).trans rfl
theorem d56_21 : zt_code 56 21 = some (.iload_n 3, 0, 0, 0) := (zf56 21).trans rfl
theorem d56_22 : zt_code 56 22 = some (.if_icmp .ge (32), 0, 54, 0) := (zf56 22).trans rfl
theorem d56_25 : zt_code 56 25 = some (.aload_n 0, 0, 0, 0) := (zf56 25).trans rfl
theorem d56_26 : zt_code 56 26 = some (.getfield 21, 1, 3, 1) := (zf56 26).trans rfl
theorem d56_29 : zt_code 56 29 = some (.iload 4, 0, 0, 0) := (zf56 29).trans rfl
theorem d56_31 : zt_code 56 31 = some (.invokestatic 74, 11, 2, -1) := (zf56 31).trans rfl
theorem d56_34 : zt_code 56 34 = some (.iload_n 1, 0, 0, 0) := (zf56 34).trans rfl
theorem d56_35 : zt_code 56 35 = some (.if_icmp .eq (13), 0, 48, 0) := (zf56 35).trans rfl
theorem d56_38 : zt_code 56 38 = some (.aload_n 0, 0, 0, 0) := (zf56 38).trans rfl
theorem d56_39 : zt_code 56 39 = some (.getfield 21, 1, 3, 1) := (zf56 39).trans rfl
theorem d56_42 : zt_code 56 42 = some (.iload 4, 0, 0, 0) := (zf56 42).trans rfl
theorem d56_44 : zt_code 56 44 = some (.invokestatic 74, 11, 2, -1) := (zf56 44).trans rfl
theorem d56_47 : zt_code 56 47 = some (.ireturn, 0, 0, 0) := (zf56 47).trans rfl
theorem d56_48 : zt_code 56 48 = some (.iinc 4 (1), 0, 0, 0) := (zf56 48).trans rfl
theorem d56_51 : zt_code 56 51 = some (.goto (-32), 0, 19, 0) := (zf56 51).trans rfl
theorem d56_54 : zt_code 56 54 = some (.iconst (-1), 0, 0, 0) := (zf56 54).trans rfl
theorem d56_55 : zt_code 56 55 = some (.ireturn, 0, 0, 0) := (zf56 55).trans rfl
/-- FirstAtTheFirst$Mind.rivalOf(II)I -/
theorem vc56 {X : zX} {S : zx_S} {C : zx_C} {q : Int32 → zx_C → Prop} {e : Nat} {a1 : Int32} {a2 : Int32} (hS : zs_1 S e) (h : zW X 1 56 19 [.ref e, .int a1, .int a2, .int (if (((a2 + 24) + 1) : Int32) < (C.1 e 4) then ((a2 + 24) + 1) else (C.1 e 4)), .int (a2 + 1)] [] S C (zQi q)) : zCd X 1 56 [.ref e, .int a1, .int a2] S C (zQi q) := by
  refine zc_in ml_56 rfl ?_
  refine zw_aload_n (n := 1) d56_0 rfl rfl ?_
  refine zw_geti (n := 4) d56_1 rfl (zj_1 hS).1 (zj_1 hS).2 ?_
  refine zw_iload_n (n := 5) d56_4 rfl rfl ?_
  refine zw_bipush (n := 7) d56_5 rfl zk_b_24 ?_
  refine zw_iadd (n := 8) d56_7 rfl ?_
  refine zw_iconst (n := 9) d56_8 rfl zk_i_1 ?_
  refine zw_iadd (n := 10) d56_9 rfl ?_
  refine zw_math (n := 13) d56_10 rfl (Or.inr ⟨rfl, rfl⟩) rfl ?_
  refine zw_istore_n (n := 14) d56_13 rfl rfl rfl ?_
  refine zw_iload_n (n := 15) d56_14 rfl rfl ?_
  refine zw_iconst (n := 16) d56_15 rfl zk_i_1 ?_
  refine zw_iadd (n := 17) d56_16 rfl ?_
  refine zw_istore (n := 19) d56_17 rfl rfl rfl ?_
  exact h
theorem vc56_19 {X : zX} {S : zx_S} {C : zx_C} {q : Int32 → zx_C → Prop} {e : Nat} {a1 : Int32} {a2 : Int32} {i1 : Int32} {z2 : Value} {i3 : Int32} {i4 : Int32} (hS : zs_1 S e) (h : if (i4 : Int32) < i3 then (zCd X 0 11 [.ref (e + 4), .int i4] S C (zQi (fun r1 C1 => if (r1 : Int32) = i1 then (zW X 1 56 19 [.ref e, .int i1, z2, .int i3, .int (i4 + 1)] [] S C1 (zQi q)) else (zCd X 0 11 [.ref (e + 4), .int i4] S C1 (zQi (fun r2 C2 => q r2 C2)))))) else (q (-1) C)) : zW X 1 56 19 [.ref e, .int i1, z2, .int i3, .int i4] [] S C (zQi q) := by
  refine zw_iload (n := 21) d56_19 rfl rfl ?_
  refine zw_iload_n (n := 22) d56_21 rfl rfl ?_
  refine zw_ic_ge (n := 25) d56_22 rfl (zite h (fun h => ?_) (fun h => ?_))
  · skip
    refine zw_aload_n (n := 26) d56_25 rfl rfl ?_
    refine zw_getr (n := 29) d56_26 rfl (zj_1 hS).1 (zj_1 hS).2 (zr_1_3 hS) ?_
    refine zw_iload (n := 31) d56_29 rfl rfl ?_
    refine zw_cI (n := 34) d56_31 (zs_S rfl rfl rfl rfl) (by rw [ml_11]; rfl) (by decide) rfl (zc_mI h (fun r1 C1 h => ?_))
    refine zw_iload_n (n := 35) d56_34 rfl rfl ?_
    refine zw_ic_eq (n := 38) d56_35 rfl (zite h (fun h => ?_) (fun h => ?_))
    · skip
      refine zw_iinc (n := 51) d56_48 rfl rfl zk_i_1 rfl ?_
      refine zw_goto d56_51 ?_
      exact h
    · skip
      refine zw_aload_n (n := 39) d56_38 rfl rfl ?_
      refine zw_getr (n := 42) d56_39 rfl (zj_1 hS).1 (zj_1 hS).2 (zr_1_3 hS) ?_
      refine zw_iload (n := 44) d56_42 rfl rfl ?_
      refine zw_cI (n := 47) d56_44 (zs_S rfl rfl rfl rfl) (by rw [ml_11]; rfl) (by decide) rfl (zc_mI h (fun r2 C2 h => ?_))
      exact zw_iret d56_47 rfl ⟨_, rfl, h⟩
  · skip
    refine zw_iconst (n := 55) d56_54 rfl zk_i_m1 ?_
    exact zw_iret d56_55 rfl ⟨_, rfl, h⟩

set_option maxRecDepth 20000 in
theorem zf58 (pc : Nat) : zt_code 58 pc = zt_fd zl_58 pc := rfl
theorem d58_0 : zt_code 58 0 = some (.iconst (-1), 0, 0, 0) := (zf58 0).trans rfl
theorem d58_1 : zt_code 58 1 = some (.istore 4, 0, 0, 0) := (zf58 1).trans rfl
theorem d58_3 : zt_code 58 3 = some (.iconst (-1), 0, 0, 0) := (zf58 3).trans rfl
theorem d58_4 : zt_code 58 4 = some (.istore 5, 0, 0, 0) := (zf58 4).trans rfl
theorem d58_6 : zt_code 58 6 = some (.iconst (0), 0, 0, 0) := (zf58 6).trans rfl
theorem d58_7 : zt_code 58 7 = some (.istore 6, 0, 0, 0) := (zf58 7).trans rfl
theorem d58_9 : zt_code 58 9 = some (.iload 6, 0, 0, 0) := (zf58 9).trans rfl
theorem d58_11 : zt_code 58 11 = some (.bipush (8), 0, 0, 0) := (zf58 11).trans rfl
theorem d58_13 : zt_code 58 13 = some (.if_icmp .ge (53), 0, 66, 0) := (zf58 13).trans rfl
theorem d58_16 : zt_code 58 16 = some (.iload_n 3, 0, 0, 0) := (zf58 16).trans rfl
theorem d58_17 : zt_code 58 17 = some (.iload 6, 0, 0, 0) := (zf58 17).trans rfl
theorem d58_19 : zt_code 58 19 = some (.invokestatic 118, 53, 2, -1) := (zf58 19).trans rfl
theorem d58_22 : zt_code 58 22 = some (.ifCond .eq (38), 0, 60, 0) := (zf58 22).trans rfl
theorem d58_25 : zt_code 58 25 = some (.aload_n 0, 0, 0, 0) := (zf58 25).trans rfl
theorem d58_26 : zt_code 58 26 = some (.iload_n 1, 0, 0, 0) := (zf58 26).trans rfl
theorem d58_27 : zt_code 58 27 = some (.iload 6, 0, 0, 0) := (zf58 27).trans rfl
theorem d58_29 : zt_code 58 29 = some (.invokevirtual 122, 59, 3, 1) := (zf58 29).trans rfl
theorem d58_32 : zt_code 58 32 = some (.bipush (100), 0, 0, 0) := (zf58 32).trans rfl
theorem d58_34 : zt_code 58 34 = some (.imul, 0, 0, 0) := (zf58 34).trans rfl
theorem d58_35 : zt_code 58 35 = some (.aload_n 0, 0, 0, 0) := (zf58 35).trans rfl
theorem d58_36 : zt_code 58 36 = some (.iload_n 2, 0, 0, 0) := (zf58 36).trans rfl
theorem d58_37 : zt_code 58 37 = some (.iload 6, 0, 0, 0) := (zf58 37).trans rfl
theorem d58_39 : zt_code 58 39 = some (.invokevirtual 122, 59, 3, 1) := (zf58 39).trans rfl
theorem d58_42 : zt_code 58 42 = some (.iadd, 0, 0, 0) := (zf58 42).trans rfl
theorem d58_43 : zt_code 58 43 = some (.istore 7, 0, 0, 0) := (zf58 43).trans rfl
theorem d58_45 : zt_code 58 45 = some (.iload 7, 0, 0, 0) := (zf58 45).trans rfl
theorem d58_47 : zt_code 58 47 = some (.iload 4, 0, 0, 0) := (zf58 47).trans rfl
theorem d58_49 : zt_code 58 49 = some (.if_icmp .le (11), 0, 60, 0) := (zf58 49).trans rfl
theorem d58_52 : zt_code 58 52 = some (.iload 7, 0, 0, 0) := (zf58 52).trans rfl
theorem d58_54 : zt_code 58 54 = some (.istore 4, 0, 0, 0) := (zf58 54).trans rfl
theorem d58_56 : zt_code 58 56 = some (.iload 6, 0, 0, 0) := (zf58 56).trans rfl
theorem d58_58 : zt_code 58 58 = some (.istore 5, 0, 0, 0) := (zf58 58).trans rfl
theorem d58_60 : zt_code 58 60 = some (.iinc 6 (1), 0, 0, 0) := (zf58 60).trans rfl
theorem d58_63 : zt_code 58 63 = some (.goto (-54), 0, 9, 0) := (zf58 63).trans rfl
theorem d58_66 : zt_code 58 66 = some (.iload 5, 0, 0, 0) := (zf58 66).trans rfl
theorem d58_68 : zt_code 58 68 = some (.ireturn, 0, 0, 0) := (zf58 68).trans rfl
/-- FirstAtTheFirst$Mind.greatest(III)I -/
theorem vc58 {X : zX} {S : zx_S} {C : zx_C} {q : Int32 → zx_C → Prop} {e : Nat} {a1 : Int32} {a2 : Int32} {a3 : Int32} (hS : zs_1 S e) (h : zW X 1 58 9 [.ref e, .int a1, .int a2, .int a3, .int (-1), .int (-1), .int 0, .retAddr 0] [] S C (zQi q)) : zCd X 1 58 [.ref e, .int a1, .int a2, .int a3] S C (zQi q) := by
  refine zc_in ml_58 rfl ?_
  refine zw_iconst (n := 1) d58_0 rfl zk_i_m1 ?_
  refine zw_istore (n := 3) d58_1 rfl rfl rfl ?_
  refine zw_iconst (n := 4) d58_3 rfl zk_i_m1 ?_
  refine zw_istore (n := 6) d58_4 rfl rfl rfl ?_
  refine zw_iconst (n := 7) d58_6 rfl zk_i_0 ?_
  refine zw_istore (n := 9) d58_7 rfl rfl rfl ?_
  exact h
theorem vc58_9 {X : zX} {S : zx_S} {C : zx_C} {q : Int32 → zx_C → Prop} {e : Nat} {a1 : Int32} {a2 : Int32} {a3 : Int32} {i1 : Int32} {i2 : Int32} {i3 : Int32} {i4 : Int32} {i5 : Int32} {i6 : Int32} {z7 : Value} (hS : zs_1 S e) (h : if (i6 : Int32) < 8 then (zCd X 0 53 [.int i3, .int i6] S C (zQi (fun r1 C1 => if (r1 : Int32) = 0 then (zW X 1 58 9 [.ref e, .int i1, .int i2, .int i3, .int i4, .int i5, .int (i6 + 1), z7] [] S C1 (zQi q)) else (zCd X 0 59 [.ref e, .int i1, .int i6] S C1 (zQi (fun r2 C2 => zCd X 0 59 [.ref e, .int i2, .int i6] S C2 (zQi (fun r3 C3 => if (i4 : Int32) < ((r2 * 100) + r3) then (zW X 1 58 9 [.ref e, .int i1, .int i2, .int i3, .int ((r2 * 100) + r3), .int i6, .int (i6 + 1), .int ((r2 * 100) + r3)] [] S C3 (zQi q)) else (zW X 1 58 9 [.ref e, .int i1, .int i2, .int i3, .int i4, .int i5, .int (i6 + 1), .int ((r2 * 100) + r3)] [] S C3 (zQi q)))))))))) else (q i5 C)) : zW X 1 58 9 [.ref e, .int i1, .int i2, .int i3, .int i4, .int i5, .int i6, z7] [] S C (zQi q) := by
  refine zw_iload (n := 11) d58_9 rfl rfl ?_
  refine zw_bipush (n := 13) d58_11 rfl zk_b_8 ?_
  refine zw_ic_ge (n := 16) d58_13 rfl (zite h (fun h => ?_) (fun h => ?_))
  · skip
    refine zw_iload_n (n := 17) d58_16 rfl rfl ?_
    refine zw_iload (n := 19) d58_17 rfl rfl ?_
    refine zw_cI (n := 22) d58_19 (zs_S rfl rfl rfl rfl) (by rw [ml_53]; rfl) (by decide) rfl (zc_mI h (fun r1 C1 h => ?_))
    refine zw_if_eq (n := 25) d58_22 rfl (zite h (fun h => ?_) (fun h => ?_))
    · skip
      refine zw_iinc (n := 63) d58_60 rfl rfl zk_i_1 rfl ?_
      refine zw_goto d58_63 ?_
      exact h
    · skip
      refine zw_aload_n (n := 26) d58_25 rfl rfl ?_
      refine zw_iload_n (n := 27) d58_26 rfl rfl ?_
      refine zw_iload (n := 29) d58_27 rfl rfl ?_
      refine zw_cI (n := 32) d58_29 (zs_V rfl rfl rfl rfl (by decide) (zj_1 hS).1 (zq_1 hS)) (by rw [ml_59]; rfl) (by decide) rfl (zc_mI h (fun r2 C2 h => ?_))
      refine zw_bipush (n := 34) d58_32 rfl zk_b_100 ?_
      refine zw_imul (n := 35) d58_34 rfl ?_
      refine zw_aload_n (n := 36) d58_35 rfl rfl ?_
      refine zw_iload_n (n := 37) d58_36 rfl rfl ?_
      refine zw_iload (n := 39) d58_37 rfl rfl ?_
      refine zw_cI (n := 42) d58_39 (zs_V rfl rfl rfl rfl (by decide) (zj_1 hS).1 (zq_1 hS)) (by rw [ml_59]; rfl) (by decide) rfl (zc_mI h (fun r3 C3 h => ?_))
      refine zw_iadd (n := 43) d58_42 rfl ?_
      refine zw_istore (n := 45) d58_43 rfl rfl rfl ?_
      refine zw_iload (n := 47) d58_45 rfl rfl ?_
      refine zw_iload (n := 49) d58_47 rfl rfl ?_
      refine zw_ic_le (n := 52) d58_49 rfl (zite h (fun h => ?_) (fun h => ?_))
      · skip
        refine zw_iload (n := 54) d58_52 rfl rfl ?_
        refine zw_istore (n := 56) d58_54 rfl rfl rfl ?_
        refine zw_iload (n := 58) d58_56 rfl rfl ?_
        refine zw_istore (n := 60) d58_58 rfl rfl rfl ?_
        refine zw_iinc (n := 63) d58_60 rfl rfl zk_i_1 rfl ?_
        refine zw_goto d58_63 ?_
        exact h
      · skip
        refine zw_iinc (n := 63) d58_60 rfl rfl zk_i_1 rfl ?_
        refine zw_goto d58_63 ?_
        exact h
  · skip
    refine zw_iload (n := 68) d58_66 rfl rfl ?_
    exact zw_iret d58_68 rfl ⟨_, rfl, h⟩

set_option maxRecDepth 20000 in
theorem zf59 (pc : Nat) : zt_code 59 pc = zt_fd zl_59 pc := rfl
theorem d59_0 : zt_code 59 0 = some (.iload_n 1, 0, 0, 0) := (zf59 0).trans rfl
theorem d59_1 : zt_code 59 1 = some (.bipush (8), 0, 0, 0) := (zf59 1).trans rfl
theorem d59_3 : zt_code 59 3 = some (.imul, 0, 0, 0) := (zf59 3).trans rfl
theorem d59_4 : zt_code 59 4 = some (.iload_n 2, 0, 0, 0) := (zf59 4).trans rfl
theorem d59_5 : zt_code 59 5 = some (.iadd, 0, 0, 0) := (zf59 5).trans rfl
theorem d59_6 : zt_code 59 6 = some (.istore_n 3, 0, 0, 0) := (zf59 6).trans rfl
theorem d59_7 : zt_code 59 7 = some (.iload_n 3, 0, 0, 0) := (zf59 7).trans rfl
theorem d59_8 : zt_code 59 8 = some (.ifCond .lt (21), 0, 29, 0) := (zf59 8).trans rfl
theorem d59_11 : zt_code 59 11 = some (.iload_n 3, 0, 0, 0) := (zf59 11).trans rfl
theorem d59_12 : zt_code 59 12 = some (.aload_n 0, 0, 0, 0) := (zf59 12).trans rfl
theorem d59_13 : zt_code 59 13 = some (.getfield 9, 1, 0, 1) := (zf59 13).trans rfl
theorem d59_16 : zt_code 59 16 = some (.arraylength, 0, 0, 0) := (zf59 16).trans rfl
theorem d59_17 : zt_code 59 17 = some (.if_icmp .ge (12), 0, 29, 0) := (zf59 17).trans rfl
theorem d59_20 : zt_code 59 20 = some (.aload_n 0, 0, 0, 0) := (zf59 20).trans rfl
theorem d59_21 : zt_code 59 21 = some (.getfield 9, 1, 0, 1) := (zf59 21).trans rfl
theorem d59_24 : zt_code 59 24 = some (.iload_n 3, 0, 0, 0) := (zf59 24).trans rfl
theorem d59_25 : zt_code 59 25 = some (.iaload, 0, 0, 0) := (zf59 25).trans rfl
theorem d59_26 : zt_code 59 26 = some (.goto (4), 0, 30, 0) := (zf59 26).trans rfl
theorem d59_29 : zt_code 59 29 = some (.iconst (0), 0, 0, 0) := (zf59 29).trans rfl
theorem d59_30 : zt_code 59 30 = some (.ireturn, 0, 0, 0) := (zf59 30).trans rfl
/-- FirstAtTheFirst$Mind.worthTo(II)I -/
theorem vc59 {X : zX} {S : zx_S} {C : zx_C} {q : Int32 → zx_C → Prop} {e : Nat} {a1 : Int32} {a2 : Int32} (hS : zs_1 S e) (h : if (((a1 * 8) + a2) : Int32) < 0 then (q 0 C) else (if (((a1 * 8) + a2) : Int32) < (Int32.ofNat 24) then (vp_in ((a1 * 8) + a2) 24 ∧ (q (C.1 (e + 1) (Int32.toNatClampNeg ((a1 * 8) + a2))) C)) else (q 0 C))) : zCd X 0 59 [.ref e, .int a1, .int a2] S C (zQi q) := by
  refine zc_in ml_59 rfl ?_
  refine zw_iload_n (n := 1) d59_0 rfl rfl ?_
  refine zw_bipush (n := 3) d59_1 rfl zk_b_8 ?_
  refine zw_imul (n := 4) d59_3 rfl ?_
  refine zw_iload_n (n := 5) d59_4 rfl rfl ?_
  refine zw_iadd (n := 6) d59_5 rfl ?_
  refine zw_istore_n (n := 7) d59_6 rfl rfl rfl ?_
  refine zw_iload_n (n := 8) d59_7 rfl rfl ?_
  refine zw_if_lt (n := 11) d59_8 rfl (zite h (fun h => ?_) (fun h => ?_))
  · skip
    refine zw_iconst (n := 30) d59_29 rfl zk_i_0 ?_
    exact zw_iret d59_30 rfl ⟨_, rfl, h⟩
  · skip
    refine zw_iload_n (n := 12) d59_11 rfl rfl ?_
    refine zw_aload_n (n := 13) d59_12 rfl rfl ?_
    refine zw_getr (n := 16) d59_13 rfl (zj_1 hS).1 (zj_1 hS).2 (zr_1_0 hS) ?_
    refine zw_alen (n := 17) d59_16 rfl (za_1_0 hS).1 (za_1_0 hS).2 (by decide) rfl ?_
    refine zw_ic_ge (n := 20) d59_17 rfl (zite h (fun h => ?_) (fun h => ?_))
    · skip
      refine zw_aload_n (n := 21) d59_20 rfl rfl ?_
      refine zw_getr (n := 24) d59_21 rfl (zj_1 hS).1 (zj_1 hS).2 (zr_1_0 hS) ?_
      refine zw_iload_n (n := 25) d59_24 rfl rfl ?_
      obtain ⟨hi, h⟩ := h
      refine zw_iald (n := 26) d59_25 rfl (za_1_0 hS).1 (za_1_0 hS).2 hi ?_
      refine zw_goto d59_26 ?_
      exact zw_iret d59_30 rfl ⟨_, rfl, h⟩
    · skip
      refine zw_iconst (n := 30) d59_29 rfl zk_i_0 ?_
      exact zw_iret d59_30 rfl ⟨_, rfl, h⟩

set_option maxRecDepth 20000 in
theorem zf60 (pc : Nat) : zt_code 60 pc = zt_fd zl_60 pc := rfl
theorem d60_0 : zt_code 60 0 = some (.ldc 125, 0, 0, 1000000) := (zf60 0).trans rfl
theorem d60_2 : zt_code 60 2 = some (.istore_n 3, 0, 0, 0) := (zf60 2).trans rfl
theorem d60_3 : zt_code 60 3 = some (.iconst (-1), 0, 0, 0) := (zf60 3).trans rfl
theorem d60_4 : zt_code 60 4 = some (.istore 4, 0, 0, 0) := (zf60 4).trans rfl
theorem d60_6 : zt_code 60 6 = some (.iconst (0), 0, 0, 0) := (zf60 6).trans rfl
theorem d60_7 : zt_code 60 7 = some (.istore 5, 0, 0, 0) := (zf60 7).trans rfl
theorem d60_9 : zt_code 60 9 = some (.iload 5, 0, 0, 0) := (zf60 9).trans rfl
theorem d60_11 : zt_code 60 11 = some (.bipush (8), 0, 0, 0) := (zf60 11).trans rfl
theorem d60_13 : zt_code 60 13 = some (.if_icmp .ge (41), 0, 54, 0) := (zf60 13).trans rfl
theorem d60_16 : zt_code 60 16 = some (.iload_n 2, 0, 0, 0) := (zf60 16).trans rfl
theorem d60_17 : zt_code 60 17 = some (.iload 5, 0, 0, 0) := (zf60 17).trans rfl
theorem d60_19 : zt_code 60 19 = some (.invokestatic 118, 53, 2, -1) := (zf60 19).trans rfl
theorem d60_22 : zt_code 60 22 = some (.ifCond .eq (26), 0, 48, 0) := (zf60 22).trans rfl
theorem d60_25 : zt_code 60 25 = some (.aload_n 0, 0, 0, 0) := (zf60 25).trans rfl
theorem d60_26 : zt_code 60 26 = some (.iload_n 1, 0, 0, 0) := (zf60 26).trans rfl
theorem d60_27 : zt_code 60 27 = some (.iload 5, 0, 0, 0) := (zf60 27).trans rfl
theorem d60_29 : zt_code 60 29 = some (.invokevirtual 122, 59, 3, 1) := (zf60 29).trans rfl
theorem d60_32 : zt_code 60 32 = some (.iload_n 3, 0, 0, 0) := (zf60 32).trans rfl
theorem d60_33 : zt_code 60 33 = some (.if_icmp .gt (15), 0, 48, 0) := (zf60 33).trans rfl
theorem d60_36 : zt_code 60 36 = some (.aload_n 0, 0, 0, 0) := (zf60 36).trans rfl
theorem d60_37 : zt_code 60 37 = some (.iload_n 1, 0, 0, 0) := (zf60 37).trans rfl
theorem d60_38 : zt_code 60 38 = some (.iload 5, 0, 0, 0) := (zf60 38).trans rfl
theorem d60_40 : zt_code 60 40 = some (.invokevirtual 122, 59, 3, 1) := (zf60 40).trans rfl
theorem d60_43 : zt_code 60 43 = some (.istore_n 3, 0, 0, 0) := (zf60 43).trans rfl
theorem d60_44 : zt_code 60 44 = some (.iload 5, 0, 0, 0) := (zf60 44).trans rfl
theorem d60_46 : zt_code 60 46 = some (.istore 4, 0, 0, 0) := (zf60 46).trans rfl
theorem d60_48 : zt_code 60 48 = some (.iinc 5 (1), 0, 0, 0) := (zf60 48).trans rfl
theorem d60_51 : zt_code 60 51 = some (.goto (-42), 0, 9, 0) := (zf60 51).trans rfl
theorem d60_54 : zt_code 60 54 = some (.iload 4, 0, 0, 0) := (zf60 54).trans rfl
theorem d60_56 : zt_code 60 56 = some (.ireturn, 0, 0, 0) := (zf60 56).trans rfl
/-- FirstAtTheFirst$Mind.lastLeast(II)I -/
theorem vc60 {X : zX} {S : zx_S} {C : zx_C} {q : Int32 → zx_C → Prop} {e : Nat} {a1 : Int32} {a2 : Int32} (hS : zs_1 S e) (h : zW X 1 60 9 [.ref e, .int a1, .int a2, .int 1000000, .int (-1), .int 0] [] S C (zQi q)) : zCd X 1 60 [.ref e, .int a1, .int a2] S C (zQi q) := by
  refine zc_in ml_60 rfl ?_
  refine zw_ldci (n := 2) d60_0 rfl zk_i_1000000 ?_
  refine zw_istore_n (n := 3) d60_2 rfl rfl rfl ?_
  refine zw_iconst (n := 4) d60_3 rfl zk_i_m1 ?_
  refine zw_istore (n := 6) d60_4 rfl rfl rfl ?_
  refine zw_iconst (n := 7) d60_6 rfl zk_i_0 ?_
  refine zw_istore (n := 9) d60_7 rfl rfl rfl ?_
  exact h
theorem vc60_9 {X : zX} {S : zx_S} {C : zx_C} {q : Int32 → zx_C → Prop} {e : Nat} {a1 : Int32} {a2 : Int32} {i1 : Int32} {i2 : Int32} {i3 : Int32} {i4 : Int32} {i5 : Int32} (hS : zs_1 S e) (h : if (i5 : Int32) < 8 then (zCd X 0 53 [.int i2, .int i5] S C (zQi (fun r1 C1 => if (r1 : Int32) = 0 then (zW X 1 60 9 [.ref e, .int i1, .int i2, .int i3, .int i4, .int (i5 + 1)] [] S C1 (zQi q)) else (zCd X 0 59 [.ref e, .int i1, .int i5] S C1 (zQi (fun r2 C2 => if (i3 : Int32) < r2 then (zW X 1 60 9 [.ref e, .int i1, .int i2, .int i3, .int i4, .int (i5 + 1)] [] S C2 (zQi q)) else (zCd X 0 59 [.ref e, .int i1, .int i5] S C2 (zQi (fun r3 C3 => zW X 1 60 9 [.ref e, .int i1, .int i2, .int r3, .int i5, .int (i5 + 1)] [] S C3 (zQi q)))))))))) else (q i4 C)) : zW X 1 60 9 [.ref e, .int i1, .int i2, .int i3, .int i4, .int i5] [] S C (zQi q) := by
  refine zw_iload (n := 11) d60_9 rfl rfl ?_
  refine zw_bipush (n := 13) d60_11 rfl zk_b_8 ?_
  refine zw_ic_ge (n := 16) d60_13 rfl (zite h (fun h => ?_) (fun h => ?_))
  · skip
    refine zw_iload_n (n := 17) d60_16 rfl rfl ?_
    refine zw_iload (n := 19) d60_17 rfl rfl ?_
    refine zw_cI (n := 22) d60_19 (zs_S rfl rfl rfl rfl) (by rw [ml_53]; rfl) (by decide) rfl (zc_mI h (fun r1 C1 h => ?_))
    refine zw_if_eq (n := 25) d60_22 rfl (zite h (fun h => ?_) (fun h => ?_))
    · skip
      refine zw_iinc (n := 51) d60_48 rfl rfl zk_i_1 rfl ?_
      refine zw_goto d60_51 ?_
      exact h
    · skip
      refine zw_aload_n (n := 26) d60_25 rfl rfl ?_
      refine zw_iload_n (n := 27) d60_26 rfl rfl ?_
      refine zw_iload (n := 29) d60_27 rfl rfl ?_
      refine zw_cI (n := 32) d60_29 (zs_V rfl rfl rfl rfl (by decide) (zj_1 hS).1 (zq_1 hS)) (by rw [ml_59]; rfl) (by decide) rfl (zc_mI h (fun r2 C2 h => ?_))
      refine zw_iload_n (n := 33) d60_32 rfl rfl ?_
      refine zw_ic_gt (n := 36) d60_33 rfl (zite h (fun h => ?_) (fun h => ?_))
      · skip
        refine zw_iinc (n := 51) d60_48 rfl rfl zk_i_1 rfl ?_
        refine zw_goto d60_51 ?_
        exact h
      · skip
        refine zw_aload_n (n := 37) d60_36 rfl rfl ?_
        refine zw_iload_n (n := 38) d60_37 rfl rfl ?_
        refine zw_iload (n := 40) d60_38 rfl rfl ?_
        refine zw_cI (n := 43) d60_40 (zs_V rfl rfl rfl rfl (by decide) (zj_1 hS).1 (zq_1 hS)) (by rw [ml_59]; rfl) (by decide) rfl (zc_mI h (fun r3 C3 h => ?_))
        refine zw_istore_n (n := 44) d60_43 rfl rfl rfl ?_
        refine zw_iload (n := 46) d60_44 rfl rfl ?_
        refine zw_istore (n := 48) d60_46 rfl rfl rfl ?_
        refine zw_iinc (n := 51) d60_48 rfl rfl zk_i_1 rfl ?_
        refine zw_goto d60_51 ?_
        exact h
  · skip
    refine zw_iload (n := 56) d60_54 rfl rfl ?_
    exact zw_iret d60_56 rfl ⟨_, rfl, h⟩

set_option maxRecDepth 20000 in
theorem zf62 (pc : Nat) : zt_code 62 pc = zt_fd zl_62 pc := rfl
theorem d62_0 : zt_code 62 0 = some (.aload_n 0, 0, 0, 0) := (zf62 0).trans rfl
theorem d62_1 : zt_code 62 1 = some (.getfield 27, 1, 8, 1) := (zf62 1).trans rfl
theorem d62_4 : zt_code 62 4 = some (.iload_n 1, 0, 0, 0) := (zf62 4).trans rfl
theorem d62_5 : zt_code 62 5 = some (.invokestatic 74, 11, 2, -1) := (zf62 5).trans rfl
theorem d62_8 : zt_code 62 8 = some (.istore_n 3, 0, 0, 0) := (zf62 8).trans rfl
theorem d62_9 : zt_code 62 9 = some (.iconst (1), 0, 0, 0) := (zf62 9).trans rfl
theorem d62_10 : zt_code 62 10 = some (.istore 4, 0, 0, 0) := (zf62 10).trans rfl
theorem d62_12 : zt_code 62 12 = some (.iload 4, 0, 0, 0) := (zf62 12).trans rfl
theorem d62_14 : zt_code 62 14 = some (.aload_n 0, 0, 0, 0) := (zf62 14).trans rfl
theorem d62_15 : zt_code 62 15 = some (.getfield 49, 1, 5, 0) := (zf62 15).trans rfl
theorem d62_18 : zt_code 62 18 = some (.if_icmp .gt (156), 0, 174, 0) := (zf62 18).trans rfl
theorem d62_21 : zt_code 62 21 = some (.iload 4, 0, 0, 0) := (zf62 21).trans rfl
theorem d62_23 : zt_code 62 23 = some (.sipush (256), 0, 0, 0) := (zf62 23).trans rfl
theorem d62_26 : zt_code 62 26 = some (.if_icmp .ge (148), 0, 174, 0) := (zf62 26).trans rfl
theorem d62_29 : zt_code 62 29 = some (.iload_n 3, 0, 0, 0) := (zf62 29).trans rfl
theorem d62_30 : zt_code 62 30 = some (.iload_n 2, 0, 0, 0) := (zf62 30).trans rfl
theorem d62_31 : zt_code 62 31 = some (.if_icmp .ge (143), 0, 174, 0) := (zf62 31).trans rfl
theorem d62_34 : zt_code 62 34 = some (.iload 4, 0, 0, 0) := (zf62 34).trans rfl
theorem d62_36 : zt_code 62 36 = some (.invokestatic 53, 44, 1, -1) := (zf62 36).trans rfl
theorem d62_39 : zt_code 62 39 = some (.istore 5, 0, 0, 0) := (zf62 39).trans rfl
theorem d62_41 : zt_code 62 41 = some (.iload 4, 0, 0, 0) := (zf62 41).trans rfl
theorem d62_43 : zt_code 62 43 = some (.aload_n 0, 0, 0, 0) := (zf62 43).trans rfl
theorem d62_44 : zt_code 62 44 = some (.getfield 49, 1, 5, 0) := (zf62 44).trans rfl
theorem d62_47 : zt_code 62 47 = some (.iconst (-1), 0, 0, 0) := (zf62 47).trans rfl
theorem d62_48 : zt_code 62 48 = some (.ixor, 0, 0, 0) := (zf62 48).trans rfl
theorem d62_49 : zt_code 62 49 = some (.iand, 0, 0, 0) := (zf62 49).trans rfl
theorem d62_50 : zt_code 62 50 = some (.ifCond .ne (118), 0, 168, 0) := (zf62 50).trans rfl
theorem d62_53 : zt_code 62 53 = some (.iload 5, 0, 0, 0) := (zf62 53).trans rfl
theorem d62_55 : zt_code 62 55 = some (.iload_n 3, 0, 0, 0) := (zf62 55).trans rfl
theorem d62_56 : zt_code 62 56 = some (.if_icmp .le (112), 0, 168, 0) := (zf62 56).trans rfl
theorem d62_59 : zt_code 62 59 = some (.iload 5, 0, 0, 0) := (zf62 59).trans rfl
theorem d62_61 : zt_code 62 61 = some (.iload_n 2, 0, 0, 0) := (zf62 61).trans rfl
theorem d62_62 : zt_code 62 62 = some (.if_icmp .gt (106), 0, 168, 0) := (zf62 62).trans rfl
theorem d62_65 : zt_code 62 65 = some (.aload_n 0, 0, 0, 0) := (zf62 65).trans rfl
theorem d62_66 : zt_code 62 66 = some (.iload 4, 0, 0, 0) := (zf62 66).trans rfl
theorem d62_68 : zt_code 62 68 = some (.invokevirtual 129, 63, 2, 1) := (zf62 68).trans rfl
theorem d62_71 : zt_code 62 71 = some (.istore 6, 0, 0, 0) := (zf62 71).trans rfl
theorem d62_73 : zt_code 62 73 = some (.aload_n 0, 0, 0, 0) := (zf62 73).trans rfl
theorem d62_74 : zt_code 62 74 = some (.iload 6, 0, 0, 0) := (zf62 74).trans rfl
theorem d62_76 : zt_code 62 76 = some (.invokevirtual 132, 64, 2, 1) := (zf62 76).trans rfl
theorem d62_79 : zt_code 62 79 = some (.istore 7, 0, 0, 0) := (zf62 79).trans rfl
theorem d62_81 : zt_code 62 81 = some (.iload 6, 0, 0, 0) := (zf62 81).trans rfl
theorem d62_83 : zt_code 62 83 = some (.iload_n 1, 0, 0, 0) := (zf62 83).trans rfl
theorem d62_84 : zt_code 62 84 = some (.if_icmp .ne (13), 0, 97, 0) := (zf62 84).trans rfl
theorem d62_87 : zt_code 62 87 = some (.aload_n 0, 0, 0, 0) := (zf62 87).trans rfl
theorem d62_88 : zt_code 62 88 = some (.iload_n 1, 0, 0, 0) := (zf62 88).trans rfl
theorem d62_89 : zt_code 62 89 = some (.iload 4, 0, 0, 0) := (zf62 89).trans rfl
theorem d62_91 : zt_code 62 91 = some (.invokevirtual 94, 65, 3, 1) := (zf62 91).trans rfl
theorem d62_94 : zt_code 62 94 = some (.goto (23), 0, 117, 0) := (zf62 94).trans rfl
theorem d62_97 : zt_code 62 97 = some (.aload_n 0, 0, 0, 0) := (zf62 97).trans rfl
theorem d62_98 : zt_code 62 98 = some (.iload 6, 0, 0, 0) := (zf62 98).trans rfl
theorem d62_100 : zt_code 62 100 = some (.iload 7, 0, 0, 0) := (zf62 100).trans rfl
theorem d62_102 : zt_code 62 102 = some (.iconst (5), 0, 0, 0) := (zf62 102).trans rfl
theorem d62_103 : zt_code 62 103 = some (.if_icmp .ne (7), 0, 110, 0) := (zf62 103).trans rfl
theorem d62_106 : zt_code 62 106 = some (.iconst (1), 0, 0, 0) := (zf62 106).trans rfl
theorem d62_107 : zt_code 62 107 = some (.goto (5), 0, 112, 0) := (zf62 107).trans rfl
theorem d62_110 : zt_code 62 110 = some (.iload 7, 0, 0, 0) := (zf62 110).trans rfl
theorem d62_112 : zt_code 62 112 = some (.iload 4, 0, 0, 0) := (zf62 112).trans rfl
theorem d62_114 : zt_code 62 114 = some (.invokevirtual 86, 51, 4, 1) := (zf62 114).trans rfl
theorem d62_117 : zt_code 62 117 = some (.istore 8, 0, 0, 0) := (zf62 117).trans rfl
theorem d62_119 : zt_code 62 119 = some (.iload 6, 0, 0, 0) := (zf62 119).trans rfl
theorem d62_121 : zt_code 62 121 = some (.iload_n 1, 0, 0, 0) := (zf62 121).trans rfl
theorem d62_122 : zt_code 62 122 = some (.if_icmp .ne (13), 0, 135, 0) := (zf62 122).trans rfl
theorem d62_125 : zt_code 62 125 = some (.aload_n 0, 0, 0, 0) := (zf62 125).trans rfl
theorem d62_126 : zt_code 62 126 = some (.iload_n 1, 0, 0, 0) := (zf62 126).trans rfl
theorem d62_127 : zt_code 62 127 = some (.iload 8, 0, 0, 0) := (zf62 127).trans rfl
theorem d62_129 : zt_code 62 129 = some (.invokevirtual 122, 59, 3, 1) := (zf62 129).trans rfl
theorem d62_132 : zt_code 62 132 = some (.goto (4), 0, 136, 0) := (zf62 132).trans rfl
theorem d62_135 : zt_code 62 135 = some (.iconst (0), 0, 0, 0) := (zf62 135).trans rfl
theorem d62_136 : zt_code 62 136 = some (.istore 9, 0, 0, 0) := (zf62 136).trans rfl
theorem d62_138 : zt_code 62 138 = some (.aload_n 0, 0, 0, 0) := (zf62 138).trans rfl
theorem d62_139 : zt_code 62 139 = some (.getfield 24, 1, 7, 1) := (zf62 139).trans rfl
theorem d62_142 : zt_code 62 142 = some (.iload_n 1, 0, 0, 0) := (zf62 142).trans rfl
theorem d62_143 : zt_code 62 143 = some (.sipush (256), 0, 0, 0) := (zf62 143).trans rfl
theorem d62_146 : zt_code 62 146 = some (.imul, 0, 0, 0) := (zf62 146).trans rfl
theorem d62_147 : zt_code 62 147 = some (.iload 4, 0, 0, 0) := (zf62 147).trans rfl
theorem d62_149 : zt_code 62 149 = some (.iadd, 0, 0, 0) := (zf62 149).trans rfl
theorem d62_150 : zt_code 62 150 = some (.iload 9, 0, 0, 0) := (zf62 150).trans rfl
theorem d62_152 : zt_code 62 152 = some (.aload_n 0, 0, 0, 0) := (zf62 152).trans rfl
theorem d62_153 : zt_code 62 153 = some (.iload_n 1, 0, 0, 0) := (zf62 153).trans rfl
theorem d62_154 : zt_code 62 154 = some (.iload 4, 0, 0, 0) := (zf62 154).trans rfl
theorem d62_156 : zt_code 62 156 = some (.iload 8, 0, 0, 0) := (zf62 156).trans rfl
theorem d62_158 : zt_code 62 158 = some (.invokestatic 115, 61, 2, -1) := (zf62 158).trans rfl
theorem d62_161 : zt_code 62 161 = some (.invokevirtual 126, 66, 3, 1) := (zf62 161).trans rfl
theorem d62_164 : zt_code 62 164 = some (.iadd, 0, 0, 0) := (zf62 164).trans rfl
theorem d62_165 : zt_code 62 165 = some (.invokestatic 42, 12, 3, -1) := (zf62 165).trans rfl
theorem d62_168 : zt_code 62 168 = some (.iinc 4 (1), 0, 0, 0) := (zf62 168).trans rfl
theorem d62_171 : zt_code 62 171 = some (.goto (-159), 0, 12, 0) := (zf62 171).trans rfl
theorem d62_174 : zt_code 62 174 = some (.aload_n 0, 0, 0, 0) := (zf62 174).trans rfl
theorem d62_175 : zt_code 62 175 = some (.getfield 27, 1, 8, 1) := (zf62 175).trans rfl
theorem d62_178 : zt_code 62 178 = some (.iload_n 1, 0, 0, 0) := (zf62 178).trans rfl
theorem d62_179 : zt_code 62 179 = some (.iload_n 3, 0, 0, 0) := (zf62 179).trans rfl
theorem d62_180 : zt_code 62 180 = some (.iload_n 2, 0, 0, 0) := (zf62 180).trans rfl
theorem d62_181 : zt_code 62 181 = some (.invokestatic 135, 0, 2, 97) := (zf62 181).trans rfl
theorem d62_184 : zt_code 62 184 = some (.invokestatic 42, 12, 3, -1) := (zf62 184).trans rfl
theorem d62_187 : zt_code 62 187 = some (.return_, 0, 0, 0) := (zf62 187).trans rfl
/-- FirstAtTheFirst$Mind.lookAhead(II)V -/
theorem vc62 {X : zX} {S : zx_S} {C : zx_C} {q : zx_C → Prop} {e : Nat} {a1 : Int32} {a2 : Int32} (hS : zs_1 S e) (h : zCd X 0 11 [.ref (e + 6), .int a1] S C (zQi (fun r1 C1 => zW X 3 62 12 [.ref e, .int a1, .int a2, .int r1, .int 1, .retAddr 0, .retAddr 0, .retAddr 0, .retAddr 0, .retAddr 0] [] S C1 (zQv q)))) : zCd X 3 62 [.ref e, .int a1, .int a2] S C (zQv q) := by
  refine zc_in ml_62 rfl ?_
  refine zw_aload_n (n := 1) d62_0 rfl rfl ?_
  refine zw_getr (n := 4) d62_1 rfl (zj_1 hS).1 (zj_1 hS).2 (zr_1_8 hS) ?_
  refine zw_iload_n (n := 5) d62_4 rfl rfl ?_
  refine zw_cI (n := 8) d62_5 (zs_S rfl rfl rfl rfl) (by rw [ml_11]; rfl) (by decide) rfl (zc_mI h (fun r1 C1 h => ?_))
  refine zw_istore_n (n := 9) d62_8 rfl rfl rfl ?_
  refine zw_iconst (n := 10) d62_9 rfl zk_i_1 ?_
  refine zw_istore (n := 12) d62_10 rfl rfl rfl ?_
  exact h
theorem vc62_12 {X : zX} {S : zx_S} {C : zx_C} {q : zx_C → Prop} {e : Nat} {a1 : Int32} {a2 : Int32} {i1 : Int32} {i2 : Int32} {i3 : Int32} {i4 : Int32} {z5 : Value} {z6 : Value} {z7 : Value} {z8 : Value} {z9 : Value} (hS : zs_1 S e) (h : if ((C.1 e 5) : Int32) < i4 then (zCd X 0 12 [.ref (e + 6), .int i1, .int (if (i3 : Int32) < i2 then i2 else i3)] S C (zQv (fun C1 => q C1))) else (if (i4 : Int32) < 256 then (if (i3 : Int32) < i2 then (zCd X 0 44 [.int i4] S C (zQi (fun r2 C2 => if ((i4 &&& ((C2.1 e 5) ^^^ (-1))) : Int32) = 0 then (if (i3 : Int32) < r2 then (if (i2 : Int32) < r2 then (zW X 3 62 12 [.ref e, .int i1, .int i2, .int i3, .int (i4 + 1), .int r2, z6, z7, z8, z9] [] S C2 (zQv q)) else (zCd X 2 63 [.ref e, .int i4] S C2 (zQi (fun r3 C3 => zCd X 1 64 [.ref e, .int r3] S C3 (zQi (fun r4 C4 => if (r3 : Int32) = i1 then (zCd X 1 65 [.ref e, .int i1, .int i4] S C4 (zQi (fun r5 C5 => if (r3 : Int32) = i1 then (zCd X 0 59 [.ref e, .int i1, .int r5] S C5 (zQi (fun r6 C6 => zCd X 0 61 [.int i4, .int r5] S C6 (zQi (fun r7 C7 => zCd X 0 66 [.ref e, .int i1, .int r7] S C7 (zQi (fun r8 C8 => zCd X 0 12 [.ref (e + 5), .int ((i1 * 256) + i4), .int (r6 + r8)] S C8 (zQv (fun C9 => zW X 3 62 12 [.ref e, .int i1, .int i2, .int i3, .int (i4 + 1), .int r2, .int r3, .int r4, .int r5, .int r6] [] S C9 (zQv q)))))))))) else (zCd X 0 61 [.int i4, .int r5] S C5 (zQi (fun r10 C10 => zCd X 0 66 [.ref e, .int i1, .int r10] S C10 (zQi (fun r11 C11 => zCd X 0 12 [.ref (e + 5), .int ((i1 * 256) + i4), .int (0 + r11)] S C11 (zQv (fun C12 => zW X 3 62 12 [.ref e, .int i1, .int i2, .int i3, .int (i4 + 1), .int r2, .int r3, .int r4, .int r5, .int 0] [] S C12 (zQv q))))))))))) else (if (r4 : Int32) = 5 then (zCd X 2 51 [.ref e, .int r3, .int 1, .int i4] S C4 (zQi (fun r13 C13 => if (r3 : Int32) = i1 then (zCd X 0 59 [.ref e, .int i1, .int r13] S C13 (zQi (fun r14 C14 => zCd X 0 61 [.int i4, .int r13] S C14 (zQi (fun r15 C15 => zCd X 0 66 [.ref e, .int i1, .int r15] S C15 (zQi (fun r16 C16 => zCd X 0 12 [.ref (e + 5), .int ((i1 * 256) + i4), .int (r14 + r16)] S C16 (zQv (fun C17 => zW X 3 62 12 [.ref e, .int i1, .int i2, .int i3, .int (i4 + 1), .int r2, .int r3, .int r4, .int r13, .int r14] [] S C17 (zQv q)))))))))) else (zCd X 0 61 [.int i4, .int r13] S C13 (zQi (fun r18 C18 => zCd X 0 66 [.ref e, .int i1, .int r18] S C18 (zQi (fun r19 C19 => zCd X 0 12 [.ref (e + 5), .int ((i1 * 256) + i4), .int (0 + r19)] S C19 (zQv (fun C20 => zW X 3 62 12 [.ref e, .int i1, .int i2, .int i3, .int (i4 + 1), .int r2, .int r3, .int r4, .int r13, .int 0] [] S C20 (zQv q))))))))))) else (zCd X 2 51 [.ref e, .int r3, .int r4, .int i4] S C4 (zQi (fun r21 C21 => if (r3 : Int32) = i1 then (zCd X 0 59 [.ref e, .int i1, .int r21] S C21 (zQi (fun r22 C22 => zCd X 0 61 [.int i4, .int r21] S C22 (zQi (fun r23 C23 => zCd X 0 66 [.ref e, .int i1, .int r23] S C23 (zQi (fun r24 C24 => zCd X 0 12 [.ref (e + 5), .int ((i1 * 256) + i4), .int (r22 + r24)] S C24 (zQv (fun C25 => zW X 3 62 12 [.ref e, .int i1, .int i2, .int i3, .int (i4 + 1), .int r2, .int r3, .int r4, .int r21, .int r22] [] S C25 (zQv q)))))))))) else (zCd X 0 61 [.int i4, .int r21] S C21 (zQi (fun r26 C26 => zCd X 0 66 [.ref e, .int i1, .int r26] S C26 (zQi (fun r27 C27 => zCd X 0 12 [.ref (e + 5), .int ((i1 * 256) + i4), .int (0 + r27)] S C27 (zQv (fun C28 => zW X 3 62 12 [.ref e, .int i1, .int i2, .int i3, .int (i4 + 1), .int r2, .int r3, .int r4, .int r21, .int 0] [] S C28 (zQv q)))))))))))))))))) else (zW X 3 62 12 [.ref e, .int i1, .int i2, .int i3, .int (i4 + 1), .int r2, z6, z7, z8, z9] [] S C2 (zQv q))) else (zW X 3 62 12 [.ref e, .int i1, .int i2, .int i3, .int (i4 + 1), .int r2, z6, z7, z8, z9] [] S C2 (zQv q))))) else (zCd X 0 12 [.ref (e + 6), .int i1, .int (if (i3 : Int32) < i2 then i2 else i3)] S C (zQv (fun C29 => q C29)))) else (zCd X 0 12 [.ref (e + 6), .int i1, .int (if (i3 : Int32) < i2 then i2 else i3)] S C (zQv (fun C30 => q C30))))) : zW X 3 62 12 [.ref e, .int i1, .int i2, .int i3, .int i4, z5, z6, z7, z8, z9] [] S C (zQv q) := by
  refine zw_iload (n := 14) d62_12 rfl rfl ?_
  refine zw_aload_n (n := 15) d62_14 rfl rfl ?_
  refine zw_geti (n := 18) d62_15 rfl (zj_1 hS).1 (zj_1 hS).2 ?_
  refine zw_ic_gt (n := 21) d62_18 rfl (zite h (fun h => ?_) (fun h => ?_))
  · skip
    refine zw_aload_n (n := 175) d62_174 rfl rfl ?_
    refine zw_getr (n := 178) d62_175 rfl (zj_1 hS).1 (zj_1 hS).2 (zr_1_8 hS) ?_
    refine zw_iload_n (n := 179) d62_178 rfl rfl ?_
    refine zw_iload_n (n := 180) d62_179 rfl rfl ?_
    refine zw_iload_n (n := 181) d62_180 rfl rfl ?_
    refine zw_math (n := 184) d62_181 rfl (Or.inl ⟨rfl, rfl⟩) rfl ?_
    refine zw_cV (n := 187) d62_184 (zs_S rfl rfl rfl rfl) (by rw [ml_12]; rfl) (by decide) rfl (zc_mV h (fun C1 h => ?_))
    exact zw_ret d62_187 ⟨rfl, h⟩
  · skip
    refine zw_iload (n := 23) d62_21 rfl rfl ?_
    refine zw_sipush (n := 26) d62_23 rfl zk_s_256 ?_
    refine zw_ic_ge (n := 29) d62_26 rfl (zite h (fun h => ?_) (fun h => ?_))
    · skip
      refine zw_iload_n (n := 30) d62_29 rfl rfl ?_
      refine zw_iload_n (n := 31) d62_30 rfl rfl ?_
      refine zw_ic_ge (n := 34) d62_31 rfl (zite h (fun h => ?_) (fun h => ?_))
      · skip
        refine zw_iload (n := 36) d62_34 rfl rfl ?_
        refine zw_cI (n := 39) d62_36 (zs_S rfl rfl rfl rfl) (by rw [ml_44]; rfl) (by decide) rfl (zc_mI h (fun r2 C2 h => ?_))
        refine zw_istore (n := 41) d62_39 rfl rfl rfl ?_
        refine zw_iload (n := 43) d62_41 rfl rfl ?_
        refine zw_aload_n (n := 44) d62_43 rfl rfl ?_
        refine zw_geti (n := 47) d62_44 rfl (zj_1 hS).1 (zj_1 hS).2 ?_
        refine zw_iconst (n := 48) d62_47 rfl zk_i_m1 ?_
        refine zw_ixor (n := 49) d62_48 rfl ?_
        refine zw_iand (n := 50) d62_49 rfl ?_
        refine zw_if_ne (n := 53) d62_50 rfl (zite h (fun h => ?_) (fun h => ?_))
        · skip
          refine zw_iload (n := 55) d62_53 rfl rfl ?_
          refine zw_iload_n (n := 56) d62_55 rfl rfl ?_
          refine zw_ic_le (n := 59) d62_56 rfl (zite h (fun h => ?_) (fun h => ?_))
          · skip
            refine zw_iload (n := 61) d62_59 rfl rfl ?_
            refine zw_iload_n (n := 62) d62_61 rfl rfl ?_
            refine zw_ic_gt (n := 65) d62_62 rfl (zite h (fun h => ?_) (fun h => ?_))
            · skip
              refine zw_iinc (n := 171) d62_168 rfl rfl zk_i_1 rfl ?_
              refine zw_goto d62_171 ?_
              exact h
            · skip
              refine zw_aload_n (n := 66) d62_65 rfl rfl ?_
              refine zw_iload (n := 68) d62_66 rfl rfl ?_
              refine zw_cI (n := 71) d62_68 (zs_V rfl rfl rfl rfl (by decide) (zj_1 hS).1 (zq_1 hS)) (by rw [ml_63]; rfl) (by decide) rfl (zc_mI h (fun r3 C3 h => ?_))
              refine zw_istore (n := 73) d62_71 rfl rfl rfl ?_
              refine zw_aload_n (n := 74) d62_73 rfl rfl ?_
              refine zw_iload (n := 76) d62_74 rfl rfl ?_
              refine zw_cI (n := 79) d62_76 (zs_V rfl rfl rfl rfl (by decide) (zj_1 hS).1 (zq_1 hS)) (by rw [ml_64]; rfl) (by decide) rfl (zc_mI h (fun r4 C4 h => ?_))
              refine zw_istore (n := 81) d62_79 rfl rfl rfl ?_
              refine zw_iload (n := 83) d62_81 rfl rfl ?_
              refine zw_iload_n (n := 84) d62_83 rfl rfl ?_
              refine zw_ic_ne (n := 87) d62_84 rfl (zite h (fun h => ?_) (fun h => ?_))
              · skip
                refine zw_aload_n (n := 88) d62_87 rfl rfl ?_
                refine zw_iload_n (n := 89) d62_88 rfl rfl ?_
                refine zw_iload (n := 91) d62_89 rfl rfl ?_
                refine zw_cI (n := 94) d62_91 (zs_V rfl rfl rfl rfl (by decide) (zj_1 hS).1 (zq_1 hS)) (by rw [ml_65]; rfl) (by decide) rfl (zc_mI h (fun r5 C5 h => ?_))
                refine zw_goto d62_94 ?_
                refine zw_istore (n := 119) d62_117 rfl rfl rfl ?_
                refine zw_iload (n := 121) d62_119 rfl rfl ?_
                refine zw_iload_n (n := 122) d62_121 rfl rfl ?_
                refine zw_ic_ne (n := 125) d62_122 rfl (zite h (fun h => ?_) (fun h => ?_))
                · skip
                  refine zw_aload_n (n := 126) d62_125 rfl rfl ?_
                  refine zw_iload_n (n := 127) d62_126 rfl rfl ?_
                  refine zw_iload (n := 129) d62_127 rfl rfl ?_
                  refine zw_cI (n := 132) d62_129 (zs_V rfl rfl rfl rfl (by decide) (zj_1 hS).1 (zq_1 hS)) (by rw [ml_59]; rfl) (by decide) rfl (zc_mI h (fun r6 C6 h => ?_))
                  refine zw_goto d62_132 ?_
                  refine zw_istore (n := 138) d62_136 rfl rfl rfl ?_
                  refine zw_aload_n (n := 139) d62_138 rfl rfl ?_
                  refine zw_getr (n := 142) d62_139 rfl (zj_1 hS).1 (zj_1 hS).2 (zr_1_7 hS) ?_
                  refine zw_iload_n (n := 143) d62_142 rfl rfl ?_
                  refine zw_sipush (n := 146) d62_143 rfl zk_s_256 ?_
                  refine zw_imul (n := 147) d62_146 rfl ?_
                  refine zw_iload (n := 149) d62_147 rfl rfl ?_
                  refine zw_iadd (n := 150) d62_149 rfl ?_
                  refine zw_iload (n := 152) d62_150 rfl rfl ?_
                  refine zw_aload_n (n := 153) d62_152 rfl rfl ?_
                  refine zw_iload_n (n := 154) d62_153 rfl rfl ?_
                  refine zw_iload (n := 156) d62_154 rfl rfl ?_
                  refine zw_iload (n := 158) d62_156 rfl rfl ?_
                  refine zw_cI (n := 161) d62_158 (zs_S rfl rfl rfl rfl) (by rw [ml_61]; rfl) (by decide) rfl (zc_mI h (fun r7 C7 h => ?_))
                  refine zw_cI (n := 164) d62_161 (zs_V rfl rfl rfl rfl (by decide) (zj_1 hS).1 (zq_1 hS)) (by rw [ml_66]; rfl) (by decide) rfl (zc_mI h (fun r8 C8 h => ?_))
                  refine zw_iadd (n := 165) d62_164 rfl ?_
                  refine zw_cV (n := 168) d62_165 (zs_S rfl rfl rfl rfl) (by rw [ml_12]; rfl) (by decide) rfl (zc_mV h (fun C9 h => ?_))
                  refine zw_iinc (n := 171) d62_168 rfl rfl zk_i_1 rfl ?_
                  refine zw_goto d62_171 ?_
                  exact h
                · skip
                  refine zw_iconst (n := 136) d62_135 rfl zk_i_0 ?_
                  refine zw_istore (n := 138) d62_136 rfl rfl rfl ?_
                  refine zw_aload_n (n := 139) d62_138 rfl rfl ?_
                  refine zw_getr (n := 142) d62_139 rfl (zj_1 hS).1 (zj_1 hS).2 (zr_1_7 hS) ?_
                  refine zw_iload_n (n := 143) d62_142 rfl rfl ?_
                  refine zw_sipush (n := 146) d62_143 rfl zk_s_256 ?_
                  refine zw_imul (n := 147) d62_146 rfl ?_
                  refine zw_iload (n := 149) d62_147 rfl rfl ?_
                  refine zw_iadd (n := 150) d62_149 rfl ?_
                  refine zw_iload (n := 152) d62_150 rfl rfl ?_
                  refine zw_aload_n (n := 153) d62_152 rfl rfl ?_
                  refine zw_iload_n (n := 154) d62_153 rfl rfl ?_
                  refine zw_iload (n := 156) d62_154 rfl rfl ?_
                  refine zw_iload (n := 158) d62_156 rfl rfl ?_
                  refine zw_cI (n := 161) d62_158 (zs_S rfl rfl rfl rfl) (by rw [ml_61]; rfl) (by decide) rfl (zc_mI h (fun r10 C10 h => ?_))
                  refine zw_cI (n := 164) d62_161 (zs_V rfl rfl rfl rfl (by decide) (zj_1 hS).1 (zq_1 hS)) (by rw [ml_66]; rfl) (by decide) rfl (zc_mI h (fun r11 C11 h => ?_))
                  refine zw_iadd (n := 165) d62_164 rfl ?_
                  refine zw_cV (n := 168) d62_165 (zs_S rfl rfl rfl rfl) (by rw [ml_12]; rfl) (by decide) rfl (zc_mV h (fun C12 h => ?_))
                  refine zw_iinc (n := 171) d62_168 rfl rfl zk_i_1 rfl ?_
                  refine zw_goto d62_171 ?_
                  exact h
              · skip
                refine zw_aload_n (n := 98) d62_97 rfl rfl ?_
                refine zw_iload (n := 100) d62_98 rfl rfl ?_
                refine zw_iload (n := 102) d62_100 rfl rfl ?_
                refine zw_iconst (n := 103) d62_102 rfl zk_i_5 ?_
                refine zw_ic_ne (n := 106) d62_103 rfl (zite h (fun h => ?_) (fun h => ?_))
                · skip
                  refine zw_iconst (n := 107) d62_106 rfl zk_i_1 ?_
                  refine zw_goto d62_107 ?_
                  refine zw_iload (n := 114) d62_112 rfl rfl ?_
                  refine zw_cI (n := 117) d62_114 (zs_V rfl rfl rfl rfl (by decide) (zj_1 hS).1 (zq_1 hS)) (by rw [ml_51]; rfl) (by decide) rfl (zc_mI h (fun r13 C13 h => ?_))
                  refine zw_istore (n := 119) d62_117 rfl rfl rfl ?_
                  refine zw_iload (n := 121) d62_119 rfl rfl ?_
                  refine zw_iload_n (n := 122) d62_121 rfl rfl ?_
                  refine zw_ic_ne (n := 125) d62_122 rfl (zite h (fun h => ?_) (fun h => ?_))
                  · skip
                    refine zw_aload_n (n := 126) d62_125 rfl rfl ?_
                    refine zw_iload_n (n := 127) d62_126 rfl rfl ?_
                    refine zw_iload (n := 129) d62_127 rfl rfl ?_
                    refine zw_cI (n := 132) d62_129 (zs_V rfl rfl rfl rfl (by decide) (zj_1 hS).1 (zq_1 hS)) (by rw [ml_59]; rfl) (by decide) rfl (zc_mI h (fun r14 C14 h => ?_))
                    refine zw_goto d62_132 ?_
                    refine zw_istore (n := 138) d62_136 rfl rfl rfl ?_
                    refine zw_aload_n (n := 139) d62_138 rfl rfl ?_
                    refine zw_getr (n := 142) d62_139 rfl (zj_1 hS).1 (zj_1 hS).2 (zr_1_7 hS) ?_
                    refine zw_iload_n (n := 143) d62_142 rfl rfl ?_
                    refine zw_sipush (n := 146) d62_143 rfl zk_s_256 ?_
                    refine zw_imul (n := 147) d62_146 rfl ?_
                    refine zw_iload (n := 149) d62_147 rfl rfl ?_
                    refine zw_iadd (n := 150) d62_149 rfl ?_
                    refine zw_iload (n := 152) d62_150 rfl rfl ?_
                    refine zw_aload_n (n := 153) d62_152 rfl rfl ?_
                    refine zw_iload_n (n := 154) d62_153 rfl rfl ?_
                    refine zw_iload (n := 156) d62_154 rfl rfl ?_
                    refine zw_iload (n := 158) d62_156 rfl rfl ?_
                    refine zw_cI (n := 161) d62_158 (zs_S rfl rfl rfl rfl) (by rw [ml_61]; rfl) (by decide) rfl (zc_mI h (fun r15 C15 h => ?_))
                    refine zw_cI (n := 164) d62_161 (zs_V rfl rfl rfl rfl (by decide) (zj_1 hS).1 (zq_1 hS)) (by rw [ml_66]; rfl) (by decide) rfl (zc_mI h (fun r16 C16 h => ?_))
                    refine zw_iadd (n := 165) d62_164 rfl ?_
                    refine zw_cV (n := 168) d62_165 (zs_S rfl rfl rfl rfl) (by rw [ml_12]; rfl) (by decide) rfl (zc_mV h (fun C17 h => ?_))
                    refine zw_iinc (n := 171) d62_168 rfl rfl zk_i_1 rfl ?_
                    refine zw_goto d62_171 ?_
                    exact h
                  · skip
                    refine zw_iconst (n := 136) d62_135 rfl zk_i_0 ?_
                    refine zw_istore (n := 138) d62_136 rfl rfl rfl ?_
                    refine zw_aload_n (n := 139) d62_138 rfl rfl ?_
                    refine zw_getr (n := 142) d62_139 rfl (zj_1 hS).1 (zj_1 hS).2 (zr_1_7 hS) ?_
                    refine zw_iload_n (n := 143) d62_142 rfl rfl ?_
                    refine zw_sipush (n := 146) d62_143 rfl zk_s_256 ?_
                    refine zw_imul (n := 147) d62_146 rfl ?_
                    refine zw_iload (n := 149) d62_147 rfl rfl ?_
                    refine zw_iadd (n := 150) d62_149 rfl ?_
                    refine zw_iload (n := 152) d62_150 rfl rfl ?_
                    refine zw_aload_n (n := 153) d62_152 rfl rfl ?_
                    refine zw_iload_n (n := 154) d62_153 rfl rfl ?_
                    refine zw_iload (n := 156) d62_154 rfl rfl ?_
                    refine zw_iload (n := 158) d62_156 rfl rfl ?_
                    refine zw_cI (n := 161) d62_158 (zs_S rfl rfl rfl rfl) (by rw [ml_61]; rfl) (by decide) rfl (zc_mI h (fun r18 C18 h => ?_))
                    refine zw_cI (n := 164) d62_161 (zs_V rfl rfl rfl rfl (by decide) (zj_1 hS).1 (zq_1 hS)) (by rw [ml_66]; rfl) (by decide) rfl (zc_mI h (fun r19 C19 h => ?_))
                    refine zw_iadd (n := 165) d62_164 rfl ?_
                    refine zw_cV (n := 168) d62_165 (zs_S rfl rfl rfl rfl) (by rw [ml_12]; rfl) (by decide) rfl (zc_mV h (fun C20 h => ?_))
                    refine zw_iinc (n := 171) d62_168 rfl rfl zk_i_1 rfl ?_
                    refine zw_goto d62_171 ?_
                    exact h
                · skip
                  refine zw_iload (n := 112) d62_110 rfl rfl ?_
                  refine zw_iload (n := 114) d62_112 rfl rfl ?_
                  refine zw_cI (n := 117) d62_114 (zs_V rfl rfl rfl rfl (by decide) (zj_1 hS).1 (zq_1 hS)) (by rw [ml_51]; rfl) (by decide) rfl (zc_mI h (fun r21 C21 h => ?_))
                  refine zw_istore (n := 119) d62_117 rfl rfl rfl ?_
                  refine zw_iload (n := 121) d62_119 rfl rfl ?_
                  refine zw_iload_n (n := 122) d62_121 rfl rfl ?_
                  refine zw_ic_ne (n := 125) d62_122 rfl (zite h (fun h => ?_) (fun h => ?_))
                  · skip
                    refine zw_aload_n (n := 126) d62_125 rfl rfl ?_
                    refine zw_iload_n (n := 127) d62_126 rfl rfl ?_
                    refine zw_iload (n := 129) d62_127 rfl rfl ?_
                    refine zw_cI (n := 132) d62_129 (zs_V rfl rfl rfl rfl (by decide) (zj_1 hS).1 (zq_1 hS)) (by rw [ml_59]; rfl) (by decide) rfl (zc_mI h (fun r22 C22 h => ?_))
                    refine zw_goto d62_132 ?_
                    refine zw_istore (n := 138) d62_136 rfl rfl rfl ?_
                    refine zw_aload_n (n := 139) d62_138 rfl rfl ?_
                    refine zw_getr (n := 142) d62_139 rfl (zj_1 hS).1 (zj_1 hS).2 (zr_1_7 hS) ?_
                    refine zw_iload_n (n := 143) d62_142 rfl rfl ?_
                    refine zw_sipush (n := 146) d62_143 rfl zk_s_256 ?_
                    refine zw_imul (n := 147) d62_146 rfl ?_
                    refine zw_iload (n := 149) d62_147 rfl rfl ?_
                    refine zw_iadd (n := 150) d62_149 rfl ?_
                    refine zw_iload (n := 152) d62_150 rfl rfl ?_
                    refine zw_aload_n (n := 153) d62_152 rfl rfl ?_
                    refine zw_iload_n (n := 154) d62_153 rfl rfl ?_
                    refine zw_iload (n := 156) d62_154 rfl rfl ?_
                    refine zw_iload (n := 158) d62_156 rfl rfl ?_
                    refine zw_cI (n := 161) d62_158 (zs_S rfl rfl rfl rfl) (by rw [ml_61]; rfl) (by decide) rfl (zc_mI h (fun r23 C23 h => ?_))
                    refine zw_cI (n := 164) d62_161 (zs_V rfl rfl rfl rfl (by decide) (zj_1 hS).1 (zq_1 hS)) (by rw [ml_66]; rfl) (by decide) rfl (zc_mI h (fun r24 C24 h => ?_))
                    refine zw_iadd (n := 165) d62_164 rfl ?_
                    refine zw_cV (n := 168) d62_165 (zs_S rfl rfl rfl rfl) (by rw [ml_12]; rfl) (by decide) rfl (zc_mV h (fun C25 h => ?_))
                    refine zw_iinc (n := 171) d62_168 rfl rfl zk_i_1 rfl ?_
                    refine zw_goto d62_171 ?_
                    exact h
                  · skip
                    refine zw_iconst (n := 136) d62_135 rfl zk_i_0 ?_
                    refine zw_istore (n := 138) d62_136 rfl rfl rfl ?_
                    refine zw_aload_n (n := 139) d62_138 rfl rfl ?_
                    refine zw_getr (n := 142) d62_139 rfl (zj_1 hS).1 (zj_1 hS).2 (zr_1_7 hS) ?_
                    refine zw_iload_n (n := 143) d62_142 rfl rfl ?_
                    refine zw_sipush (n := 146) d62_143 rfl zk_s_256 ?_
                    refine zw_imul (n := 147) d62_146 rfl ?_
                    refine zw_iload (n := 149) d62_147 rfl rfl ?_
                    refine zw_iadd (n := 150) d62_149 rfl ?_
                    refine zw_iload (n := 152) d62_150 rfl rfl ?_
                    refine zw_aload_n (n := 153) d62_152 rfl rfl ?_
                    refine zw_iload_n (n := 154) d62_153 rfl rfl ?_
                    refine zw_iload (n := 156) d62_154 rfl rfl ?_
                    refine zw_iload (n := 158) d62_156 rfl rfl ?_
                    refine zw_cI (n := 161) d62_158 (zs_S rfl rfl rfl rfl) (by rw [ml_61]; rfl) (by decide) rfl (zc_mI h (fun r26 C26 h => ?_))
                    refine zw_cI (n := 164) d62_161 (zs_V rfl rfl rfl rfl (by decide) (zj_1 hS).1 (zq_1 hS)) (by rw [ml_66]; rfl) (by decide) rfl (zc_mI h (fun r27 C27 h => ?_))
                    refine zw_iadd (n := 165) d62_164 rfl ?_
                    refine zw_cV (n := 168) d62_165 (zs_S rfl rfl rfl rfl) (by rw [ml_12]; rfl) (by decide) rfl (zc_mV h (fun C28 h => ?_))
                    refine zw_iinc (n := 171) d62_168 rfl rfl zk_i_1 rfl ?_
                    refine zw_goto d62_171 ?_
                    exact h
          · skip
            refine zw_iinc (n := 171) d62_168 rfl rfl zk_i_1 rfl ?_
            refine zw_goto d62_171 ?_
            exact h
        · skip
          refine zw_iinc (n := 171) d62_168 rfl rfl zk_i_1 rfl ?_
          refine zw_goto d62_171 ?_
          exact h
      · skip
        refine zw_aload_n (n := 175) d62_174 rfl rfl ?_
        refine zw_getr (n := 178) d62_175 rfl (zj_1 hS).1 (zj_1 hS).2 (zr_1_8 hS) ?_
        refine zw_iload_n (n := 179) d62_178 rfl rfl ?_
        refine zw_iload_n (n := 180) d62_179 rfl rfl ?_
        refine zw_iload_n (n := 181) d62_180 rfl rfl ?_
        refine zw_math (n := 184) d62_181 rfl (Or.inl ⟨rfl, rfl⟩) rfl ?_
        refine zw_cV (n := 187) d62_184 (zs_S rfl rfl rfl rfl) (by rw [ml_12]; rfl) (by decide) rfl (zc_mV h (fun C29 h => ?_))
        exact zw_ret d62_187 ⟨rfl, h⟩
    · skip
      refine zw_aload_n (n := 175) d62_174 rfl rfl ?_
      refine zw_getr (n := 178) d62_175 rfl (zj_1 hS).1 (zj_1 hS).2 (zr_1_8 hS) ?_
      refine zw_iload_n (n := 179) d62_178 rfl rfl ?_
      refine zw_iload_n (n := 180) d62_179 rfl rfl ?_
      refine zw_iload_n (n := 181) d62_180 rfl rfl ?_
      refine zw_math (n := 184) d62_181 rfl (Or.inl ⟨rfl, rfl⟩) rfl ?_
      refine zw_cV (n := 187) d62_184 (zs_S rfl rfl rfl rfl) (by rw [ml_12]; rfl) (by decide) rfl (zc_mV h (fun C30 h => ?_))
      exact zw_ret d62_187 ⟨rfl, h⟩

set_option maxRecDepth 20000 in
theorem zf63 (pc : Nat) : zt_code 63 pc = zt_fd zl_63 pc := rfl
theorem d63_0 : zt_code 63 0 = some (.aload_n 0, 0, 0, 0) := (zf63 0).trans rfl
theorem d63_1 : zt_code 63 1 = some (.getfield 21, 1, 3, 1) := (zf63 1).trans rfl
theorem d63_4 : zt_code 63 4 = some (.aload_n 0, 0, 0, 0) := (zf63 4).trans rfl
theorem d63_5 : zt_code 63 5 = some (.iload_n 1, 0, 0, 0) := (zf63 5).trans rfl
theorem d63_6 : zt_code 63 6 = some (.invokevirtual 83, 55, 2, 1) := (zf63 6).trans rfl
theorem d63_9 : zt_code 63 9 = some (.invokestatic 74, 11, 2, -1) := (zf63 9).trans rfl
theorem d63_12 : zt_code 63 12 = some (.ireturn, 0, 0, 0) := (zf63 12).trans rfl
/-- FirstAtTheFirst$Mind.moverWhen(I)I -/
theorem vc63 {X : zX} {S : zx_S} {C : zx_C} {q : Int32 → zx_C → Prop} {e : Nat} {a1 : Int32} (hS : zs_1 S e) (h : zCd X 1 55 [.ref e, .int a1] S C (zQi (fun r1 C1 => zCd X 0 11 [.ref (e + 4), .int r1] S C1 (zQi (fun r2 C2 => q r2 C2))))) : zCd X 2 63 [.ref e, .int a1] S C (zQi q) := by
  refine zc_in ml_63 rfl ?_
  refine zw_aload_n (n := 1) d63_0 rfl rfl ?_
  refine zw_getr (n := 4) d63_1 rfl (zj_1 hS).1 (zj_1 hS).2 (zr_1_3 hS) ?_
  refine zw_aload_n (n := 5) d63_4 rfl rfl ?_
  refine zw_iload_n (n := 6) d63_5 rfl rfl ?_
  refine zw_cI (n := 9) d63_6 (zs_V rfl rfl rfl rfl (by decide) (zj_1 hS).1 (zq_1 hS)) (by rw [ml_55]; rfl) (by decide) rfl (zc_mI h (fun r1 C1 h => ?_))
  refine zw_cI (n := 12) d63_9 (zs_S rfl rfl rfl rfl) (by rw [ml_11]; rfl) (by decide) rfl (zc_mI h (fun r2 C2 h => ?_))
  exact zw_iret d63_12 rfl ⟨_, rfl, h⟩

set_option maxRecDepth 20000 in
theorem zf64 (pc : Nat) : zt_code 64 pc = zt_fd zl_64 pc := rfl
theorem d64_0 : zt_code 64 0 = some (.aload_n 0, 0, 0, 0) := (zf64 0).trans rfl
theorem d64_1 : zt_code 64 1 = some (.getfield 15, 1, 1, 1) := (zf64 1).trans rfl
theorem d64_4 : zt_code 64 4 = some (.iload_n 1, 0, 0, 0) := (zf64 4).trans rfl
theorem d64_5 : zt_code 64 5 = some (.invokestatic 74, 11, 2, -1) := (zf64 5).trans rfl
theorem d64_8 : zt_code 64 8 = some (.ireturn, 0, 0, 0) := (zf64 8).trans rfl
/-- FirstAtTheFirst$Mind.bentOf(I)I -/
theorem vc64 {X : zX} {S : zx_S} {C : zx_C} {q : Int32 → zx_C → Prop} {e : Nat} {a1 : Int32} (hS : zs_1 S e) (h : zCd X 0 11 [.ref (e + 2), .int a1] S C (zQi (fun r1 C1 => q r1 C1))) : zCd X 1 64 [.ref e, .int a1] S C (zQi q) := by
  refine zc_in ml_64 rfl ?_
  refine zw_aload_n (n := 1) d64_0 rfl rfl ?_
  refine zw_getr (n := 4) d64_1 rfl (zj_1 hS).1 (zj_1 hS).2 (zr_1_1 hS) ?_
  refine zw_iload_n (n := 5) d64_4 rfl rfl ?_
  refine zw_cI (n := 8) d64_5 (zs_S rfl rfl rfl rfl) (by rw [ml_11]; rfl) (by decide) rfl (zc_mI h (fun r1 C1 h => ?_))
  exact zw_iret d64_8 rfl ⟨_, rfl, h⟩

set_option maxRecDepth 20000 in
theorem zf65 (pc : Nat) : zt_code 65 pc = zt_fd zl_65 pc := rfl
theorem d65_0 : zt_code 65 0 = some (.iconst (-1), 0, 0, 0) := (zf65 0).trans rfl
theorem d65_1 : zt_code 65 1 = some (.istore_n 3, 0, 0, 0) := (zf65 1).trans rfl
theorem d65_2 : zt_code 65 2 = some (.iconst (-1), 0, 0, 0) := (zf65 2).trans rfl
theorem d65_3 : zt_code 65 3 = some (.istore 4, 0, 0, 0) := (zf65 3).trans rfl
theorem d65_5 : zt_code 65 5 = some (.iconst (0), 0, 0, 0) := (zf65 5).trans rfl
theorem d65_6 : zt_code 65 6 = some (.istore 5, 0, 0, 0) := (zf65 6).trans rfl
theorem d65_8 : zt_code 65 8 = some (.iload 5, 0, 0, 0) := (zf65 8).trans rfl
theorem d65_10 : zt_code 65 10 = some (.bipush (8), 0, 0, 0) := (zf65 10).trans rfl
theorem d65_12 : zt_code 65 12 = some (.if_icmp .ge (52), 0, 64, 0) := (zf65 12).trans rfl
theorem d65_15 : zt_code 65 15 = some (.iload_n 2, 0, 0, 0) := (zf65 15).trans rfl
theorem d65_16 : zt_code 65 16 = some (.iload 5, 0, 0, 0) := (zf65 16).trans rfl
theorem d65_18 : zt_code 65 18 = some (.invokestatic 118, 53, 2, -1) := (zf65 18).trans rfl
theorem d65_21 : zt_code 65 21 = some (.ifCond .eq (37), 0, 58, 0) := (zf65 21).trans rfl
theorem d65_24 : zt_code 65 24 = some (.aload_n 0, 0, 0, 0) := (zf65 24).trans rfl
theorem d65_25 : zt_code 65 25 = some (.iload_n 1, 0, 0, 0) := (zf65 25).trans rfl
theorem d65_26 : zt_code 65 26 = some (.iload 5, 0, 0, 0) := (zf65 26).trans rfl
theorem d65_28 : zt_code 65 28 = some (.invokevirtual 122, 59, 3, 1) := (zf65 28).trans rfl
theorem d65_31 : zt_code 65 31 = some (.aload_n 0, 0, 0, 0) := (zf65 31).trans rfl
theorem d65_32 : zt_code 65 32 = some (.iload_n 1, 0, 0, 0) := (zf65 32).trans rfl
theorem d65_33 : zt_code 65 33 = some (.iload_n 2, 0, 0, 0) := (zf65 33).trans rfl
theorem d65_34 : zt_code 65 34 = some (.iload 5, 0, 0, 0) := (zf65 34).trans rfl
theorem d65_36 : zt_code 65 36 = some (.invokestatic 115, 61, 2, -1) := (zf65 36).trans rfl
theorem d65_39 : zt_code 65 39 = some (.invokevirtual 126, 66, 3, 1) := (zf65 39).trans rfl
theorem d65_42 : zt_code 65 42 = some (.iadd, 0, 0, 0) := (zf65 42).trans rfl
theorem d65_43 : zt_code 65 43 = some (.istore 6, 0, 0, 0) := (zf65 43).trans rfl
theorem d65_45 : zt_code 65 45 = some (.iload 6, 0, 0, 0) := (zf65 45).trans rfl
theorem d65_47 : zt_code 65 47 = some (.iload_n 3, 0, 0, 0) := (zf65 47).trans rfl
theorem d65_48 : zt_code 65 48 = some (.if_icmp .le (10), 0, 58, 0) := (zf65 48).trans rfl
theorem d65_51 : zt_code 65 51 = some (.iload 6, 0, 0, 0) := (zf65 51).trans rfl
theorem d65_53 : zt_code 65 53 = some (.istore_n 3, 0, 0, 0) := (zf65 53).trans rfl
theorem d65_54 : zt_code 65 54 = some (.iload 5, 0, 0, 0) := (zf65 54).trans rfl
theorem d65_56 : zt_code 65 56 = some (.istore 4, 0, 0, 0) := (zf65 56).trans rfl
theorem d65_58 : zt_code 65 58 = some (.iinc 5 (1), 0, 0, 0) := (zf65 58).trans rfl
theorem d65_61 : zt_code 65 61 = some (.goto (-53), 0, 8, 0) := (zf65 61).trans rfl
theorem d65_64 : zt_code 65 64 = some (.iload 4, 0, 0, 0) := (zf65 64).trans rfl
theorem d65_66 : zt_code 65 66 = some (.ireturn, 0, 0, 0) := (zf65 66).trans rfl
/-- FirstAtTheFirst$Mind.farthest(II)I -/
theorem vc65 {X : zX} {S : zx_S} {C : zx_C} {q : Int32 → zx_C → Prop} {e : Nat} {a1 : Int32} {a2 : Int32} (hS : zs_1 S e) (h : zW X 1 65 8 [.ref e, .int a1, .int a2, .int (-1), .int (-1), .int 0, .retAddr 0] [] S C (zQi q)) : zCd X 1 65 [.ref e, .int a1, .int a2] S C (zQi q) := by
  refine zc_in ml_65 rfl ?_
  refine zw_iconst (n := 1) d65_0 rfl zk_i_m1 ?_
  refine zw_istore_n (n := 2) d65_1 rfl rfl rfl ?_
  refine zw_iconst (n := 3) d65_2 rfl zk_i_m1 ?_
  refine zw_istore (n := 5) d65_3 rfl rfl rfl ?_
  refine zw_iconst (n := 6) d65_5 rfl zk_i_0 ?_
  refine zw_istore (n := 8) d65_6 rfl rfl rfl ?_
  exact h
theorem vc65_8 {X : zX} {S : zx_S} {C : zx_C} {q : Int32 → zx_C → Prop} {e : Nat} {a1 : Int32} {a2 : Int32} {i1 : Int32} {i2 : Int32} {i3 : Int32} {i4 : Int32} {i5 : Int32} {z6 : Value} (hS : zs_1 S e) (h : if (i5 : Int32) < 8 then (zCd X 0 53 [.int i2, .int i5] S C (zQi (fun r1 C1 => if (r1 : Int32) = 0 then (zW X 1 65 8 [.ref e, .int i1, .int i2, .int i3, .int i4, .int (i5 + 1), z6] [] S C1 (zQi q)) else (zCd X 0 59 [.ref e, .int i1, .int i5] S C1 (zQi (fun r2 C2 => zCd X 0 61 [.int i2, .int i5] S C2 (zQi (fun r3 C3 => zCd X 0 66 [.ref e, .int i1, .int r3] S C3 (zQi (fun r4 C4 => if (i3 : Int32) < (r2 + r4) then (zW X 1 65 8 [.ref e, .int i1, .int i2, .int (r2 + r4), .int i5, .int (i5 + 1), .int (r2 + r4)] [] S C4 (zQi q)) else (zW X 1 65 8 [.ref e, .int i1, .int i2, .int i3, .int i4, .int (i5 + 1), .int (r2 + r4)] [] S C4 (zQi q)))))))))))) else (q i4 C)) : zW X 1 65 8 [.ref e, .int i1, .int i2, .int i3, .int i4, .int i5, z6] [] S C (zQi q) := by
  refine zw_iload (n := 10) d65_8 rfl rfl ?_
  refine zw_bipush (n := 12) d65_10 rfl zk_b_8 ?_
  refine zw_ic_ge (n := 15) d65_12 rfl (zite h (fun h => ?_) (fun h => ?_))
  · skip
    refine zw_iload_n (n := 16) d65_15 rfl rfl ?_
    refine zw_iload (n := 18) d65_16 rfl rfl ?_
    refine zw_cI (n := 21) d65_18 (zs_S rfl rfl rfl rfl) (by rw [ml_53]; rfl) (by decide) rfl (zc_mI h (fun r1 C1 h => ?_))
    refine zw_if_eq (n := 24) d65_21 rfl (zite h (fun h => ?_) (fun h => ?_))
    · skip
      refine zw_iinc (n := 61) d65_58 rfl rfl zk_i_1 rfl ?_
      refine zw_goto d65_61 ?_
      exact h
    · skip
      refine zw_aload_n (n := 25) d65_24 rfl rfl ?_
      refine zw_iload_n (n := 26) d65_25 rfl rfl ?_
      refine zw_iload (n := 28) d65_26 rfl rfl ?_
      refine zw_cI (n := 31) d65_28 (zs_V rfl rfl rfl rfl (by decide) (zj_1 hS).1 (zq_1 hS)) (by rw [ml_59]; rfl) (by decide) rfl (zc_mI h (fun r2 C2 h => ?_))
      refine zw_aload_n (n := 32) d65_31 rfl rfl ?_
      refine zw_iload_n (n := 33) d65_32 rfl rfl ?_
      refine zw_iload_n (n := 34) d65_33 rfl rfl ?_
      refine zw_iload (n := 36) d65_34 rfl rfl ?_
      refine zw_cI (n := 39) d65_36 (zs_S rfl rfl rfl rfl) (by rw [ml_61]; rfl) (by decide) rfl (zc_mI h (fun r3 C3 h => ?_))
      refine zw_cI (n := 42) d65_39 (zs_V rfl rfl rfl rfl (by decide) (zj_1 hS).1 (zq_1 hS)) (by rw [ml_66]; rfl) (by decide) rfl (zc_mI h (fun r4 C4 h => ?_))
      refine zw_iadd (n := 43) d65_42 rfl ?_
      refine zw_istore (n := 45) d65_43 rfl rfl rfl ?_
      refine zw_iload (n := 47) d65_45 rfl rfl ?_
      refine zw_iload_n (n := 48) d65_47 rfl rfl ?_
      refine zw_ic_le (n := 51) d65_48 rfl (zite h (fun h => ?_) (fun h => ?_))
      · skip
        refine zw_iload (n := 53) d65_51 rfl rfl ?_
        refine zw_istore_n (n := 54) d65_53 rfl rfl rfl ?_
        refine zw_iload (n := 56) d65_54 rfl rfl ?_
        refine zw_istore (n := 58) d65_56 rfl rfl rfl ?_
        refine zw_iinc (n := 61) d65_58 rfl rfl zk_i_1 rfl ?_
        refine zw_goto d65_61 ?_
        exact h
      · skip
        refine zw_iinc (n := 61) d65_58 rfl rfl zk_i_1 rfl ?_
        refine zw_goto d65_61 ?_
        exact h
  · skip
    refine zw_iload (n := 66) d65_64 rfl rfl ?_
    exact zw_iret d65_66 rfl ⟨_, rfl, h⟩

set_option maxRecDepth 20000 in
theorem zf66 (pc : Nat) : zt_code 66 pc = zt_fd zl_66 pc := rfl
theorem d66_0 : zt_code 66 0 = some (.iload_n 1, 0, 0, 0) := (zf66 0).trans rfl
theorem d66_1 : zt_code 66 1 = some (.sipush (256), 0, 0, 0) := (zf66 1).trans rfl
theorem d66_4 : zt_code 66 4 = some (.imul, 0, 0, 0) := (zf66 4).trans rfl
theorem d66_5 : zt_code 66 5 = some (.iload_n 2, 0, 0, 0) := (zf66 5).trans rfl
theorem d66_6 : zt_code 66 6 = some (.iadd, 0, 0, 0) := (zf66 6).trans rfl
theorem d66_7 : zt_code 66 7 = some (.istore_n 3, 0, 0, 0) := (zf66 7).trans rfl
theorem d66_8 : zt_code 66 8 = some (.iload_n 3, 0, 0, 0) := (zf66 8).trans rfl
theorem d66_9 : zt_code 66 9 = some (.ifCond .lt (21), 0, 30, 0) := (zf66 9).trans rfl
theorem d66_12 : zt_code 66 12 = some (.iload_n 3, 0, 0, 0) := (zf66 12).trans rfl
theorem d66_13 : zt_code 66 13 = some (.aload_n 0, 0, 0, 0) := (zf66 13).trans rfl
theorem d66_14 : zt_code 66 14 = some (.getfield 24, 1, 7, 1) := (zf66 14).trans rfl
theorem d66_17 : zt_code 66 17 = some (.arraylength, 0, 0, 0) := (zf66 17).trans rfl
theorem d66_18 : zt_code 66 18 = some (.if_icmp .ge (12), 0, 30, 0) := (zf66 18).trans rfl
theorem d66_21 : zt_code 66 21 = some (.aload_n 0, 0, 0, 0) := (zf66 21).trans rfl
theorem d66_22 : zt_code 66 22 = some (.getfield 24, 1, 7, 1) := (zf66 22).trans rfl
theorem d66_25 : zt_code 66 25 = some (.iload_n 3, 0, 0, 0) := (zf66 25).trans rfl
theorem d66_26 : zt_code 66 26 = some (.iaload, 0, 0, 0) := (zf66 26).trans rfl
theorem d66_27 : zt_code 66 27 = some (.goto (4), 0, 31, 0) := (zf66 27).trans rfl
theorem d66_30 : zt_code 66 30 = some (.iconst (0), 0, 0, 0) := (zf66 30).trans rfl
theorem d66_31 : zt_code 66 31 = some (.ireturn, 0, 0, 0) := (zf66 31).trans rfl
/-- FirstAtTheFirst$Mind.stillGets(II)I -/
theorem vc66 {X : zX} {S : zx_S} {C : zx_C} {q : Int32 → zx_C → Prop} {e : Nat} {a1 : Int32} {a2 : Int32} (hS : zs_1 S e) (h : if (((a1 * 256) + a2) : Int32) < 0 then (q 0 C) else (if (((a1 * 256) + a2) : Int32) < (Int32.ofNat 768) then (vp_in ((a1 * 256) + a2) 768 ∧ (q (C.1 (e + 5) (Int32.toNatClampNeg ((a1 * 256) + a2))) C)) else (q 0 C))) : zCd X 0 66 [.ref e, .int a1, .int a2] S C (zQi q) := by
  refine zc_in ml_66 rfl ?_
  refine zw_iload_n (n := 1) d66_0 rfl rfl ?_
  refine zw_sipush (n := 4) d66_1 rfl zk_s_256 ?_
  refine zw_imul (n := 5) d66_4 rfl ?_
  refine zw_iload_n (n := 6) d66_5 rfl rfl ?_
  refine zw_iadd (n := 7) d66_6 rfl ?_
  refine zw_istore_n (n := 8) d66_7 rfl rfl rfl ?_
  refine zw_iload_n (n := 9) d66_8 rfl rfl ?_
  refine zw_if_lt (n := 12) d66_9 rfl (zite h (fun h => ?_) (fun h => ?_))
  · skip
    refine zw_iconst (n := 31) d66_30 rfl zk_i_0 ?_
    exact zw_iret d66_31 rfl ⟨_, rfl, h⟩
  · skip
    refine zw_iload_n (n := 13) d66_12 rfl rfl ?_
    refine zw_aload_n (n := 14) d66_13 rfl rfl ?_
    refine zw_getr (n := 17) d66_14 rfl (zj_1 hS).1 (zj_1 hS).2 (zr_1_7 hS) ?_
    refine zw_alen (n := 18) d66_17 rfl (za_1_7 hS).1 (za_1_7 hS).2 (by decide) rfl ?_
    refine zw_ic_ge (n := 21) d66_18 rfl (zite h (fun h => ?_) (fun h => ?_))
    · skip
      refine zw_aload_n (n := 22) d66_21 rfl rfl ?_
      refine zw_getr (n := 25) d66_22 rfl (zj_1 hS).1 (zj_1 hS).2 (zr_1_7 hS) ?_
      refine zw_iload_n (n := 26) d66_25 rfl rfl ?_
      obtain ⟨hi, h⟩ := h
      refine zw_iald (n := 27) d66_26 rfl (za_1_7 hS).1 (za_1_7 hS).2 hi ?_
      refine zw_goto d66_27 ?_
      exact zw_iret d66_31 rfl ⟨_, rfl, h⟩
    · skip
      refine zw_iconst (n := 31) d66_30 rfl zk_i_0 ?_
      exact zw_iret d66_31 rfl ⟨_, rfl, h⟩

set_option maxRecDepth 20000 in
theorem zf121 (pc : Nat) : zt_code 121 pc = zt_fd zl_121 pc := rfl
theorem d121_0 : zt_code 121 0 = some (.aload_n 0, 0, 0, 0) := (zf121 0).trans rfl
theorem d121_1 : zt_code 121 1 = some (.getfield 18, 1, 2, 1) := (zf121 1).trans rfl
theorem d121_4 : zt_code 121 4 = some (.iload_n 1, 0, 0, 0) := (zf121 4).trans rfl
theorem d121_5 : zt_code 121 5 = some (.invokestatic 74, 11, 2, -1) := (zf121 5).trans rfl
theorem d121_8 : zt_code 121 8 = some (.ireturn, 0, 0, 0) := (zf121 8).trans rfl
/-- FirstAtTheFirst$Mind.owned(I)I -/
theorem vc121 {X : zX} {S : zx_S} {C : zx_C} {q : Int32 → zx_C → Prop} {e : Nat} {a1 : Int32} (hS : zs_1 S e) (h : zCd X 0 11 [.ref (e + 3), .int a1] S C (zQi (fun r1 C1 => q r1 C1))) : zCd X 1 121 [.ref e, .int a1] S C (zQi q) := by
  refine zc_in ml_121 rfl ?_
  refine zw_aload_n (n := 1) d121_0 rfl rfl ?_
  refine zw_getr (n := 4) d121_1 rfl (zj_1 hS).1 (zj_1 hS).2 (zr_1_2 hS) ?_
  refine zw_iload_n (n := 5) d121_4 rfl rfl ?_
  refine zw_cI (n := 8) d121_5 (zs_S rfl rfl rfl rfl) (by rw [ml_11]; rfl) (by decide) rfl (zc_mI h (fun r1 C1 h => ?_))
  exact zw_iret d121_8 rfl ⟨_, rfl, h⟩

set_option maxRecDepth 20000 in
theorem zf127 (pc : Nat) : zt_code 127 pc = zt_fd zl_127 pc := rfl
theorem d127_0 : zt_code 127 0 = some (.iconst (-1), 0, 0, 0) := (zf127 0).trans rfl
theorem d127_1 : zt_code 127 1 = some (.istore_n 1, 0, 0, 0) := (zf127 1).trans rfl
theorem d127_2 : zt_code 127 2 = some (.iconst (1), 0, 0, 0) := (zf127 2).trans rfl
theorem d127_3 : zt_code 127 3 = some (.istore_n 2, 0, 0, 0) := (zf127 3).trans rfl
theorem d127_4 : zt_code 127 4 = some (.iload_n 2, 0, 0, 0) := (zf127 4).trans rfl
theorem d127_5 : zt_code 127 5 = some (.aload_n 0, 0, 0, 0) := (zf127 5).trans rfl
theorem d127_6 : zt_code 127 6 = some (.getfield 49, 1, 5, 0) := (zf127 6).trans rfl
theorem d127_9 : zt_code 127 9 = some (.if_icmp .gt (103), 0, 112, 0) := (zf127 9).trans rfl
theorem d127_12 : zt_code 127 12 = some (.iload_n 2, 0, 0, 0) := (zf127 12).trans rfl
theorem d127_13 : zt_code 127 13 = some (.sipush (256), 0, 0, 0) := (zf127 13).trans rfl
theorem d127_16 : zt_code 127 16 = some (.if_icmp .ge (96), 0, 112, 0) := (zf127 16).trans rfl
theorem d127_19 : zt_code 127 19 = some (.iload_n 2, 0, 0, 0) := (zf127 19).trans rfl
theorem d127_20 : zt_code 127 20 = some (.aload_n 0, 0, 0, 0) := (zf127 20).trans rfl
theorem d127_21 : zt_code 127 21 = some (.getfield 49, 1, 5, 0) := (zf127 21).trans rfl
theorem d127_24 : zt_code 127 24 = some (.iconst (-1), 0, 0, 0) := (zf127 24).trans rfl
theorem d127_25 : zt_code 127 25 = some (.ixor, 0, 0, 0) := (zf127 25).trans rfl
theorem d127_26 : zt_code 127 26 = some (.iand, 0, 0, 0) := (zf127 26).trans rfl
theorem d127_27 : zt_code 127 27 = some (.ifCond .ne (79), 0, 106, 0) := (zf127 27).trans rfl
theorem d127_30 : zt_code 127 30 = some (.aload_n 0, 0, 0, 0) := (zf127 30).trans rfl
theorem d127_31 : zt_code 127 31 = some (.iload_n 2, 0, 0, 0) := (zf127 31).trans rfl
theorem d127_32 : zt_code 127 32 = some (.invokevirtual 129, 63, 2, 1) := (zf127 32).trans rfl
theorem d127_35 : zt_code 127 35 = some (.istore_n 3, 0, 0, 0) := (zf127 35).trans rfl
theorem d127_36 : zt_code 127 36 = some (.aload_n 0, 0, 0, 0) := (zf127 36).trans rfl
theorem d127_37 : zt_code 127 37 = some (.iload_n 3, 0, 0, 0) := (zf127 37).trans rfl
theorem d127_38 : zt_code 127 38 = some (.iload_n 2, 0, 0, 0) := (zf127 38).trans rfl
theorem d127_39 : zt_code 127 39 = some (.invokevirtual 94, 65, 3, 1) := (zf127 39).trans rfl
theorem d127_42 : zt_code 127 42 = some (.istore_n 1, 0, 0, 0) := (zf127 42).trans rfl
theorem d127_43 : zt_code 127 43 = some (.iconst (0), 0, 0, 0) := (zf127 43).trans rfl
theorem d127_44 : zt_code 127 44 = some (.istore 4, 0, 0, 0) := (zf127 44).trans rfl
theorem d127_46 : zt_code 127 46 = some (.iload 4, 0, 0, 0) := (zf127 46).trans rfl
theorem d127_48 : zt_code 127 48 = some (.iconst (3), 0, 0, 0) := (zf127 48).trans rfl
theorem d127_49 : zt_code 127 49 = some (.if_icmp .ge (57), 0, 106, 0) := (zf127 49).trans rfl
theorem d127_52 : zt_code 127 52 = some (.iload 4, 0, 0, 0) := (zf127 52).trans rfl
theorem d127_54 : zt_code 127 54 = some (.iload_n 3, 0, 0, 0) := (zf127 54).trans rfl
theorem d127_55 : zt_code 127 55 = some (.if_icmp .ne (13), 0, 68, 0) := (zf127 55).trans rfl
theorem d127_58 : zt_code 127 58 = some (.aload_n 0, 0, 0, 0) := (zf127 58).trans rfl
theorem d127_59 : zt_code 127 59 = some (.iload 4, 0, 0, 0) := (zf127 59).trans rfl
theorem d127_61 : zt_code 127 61 = some (.iload_n 1, 0, 0, 0) := (zf127 61).trans rfl
theorem d127_62 : zt_code 127 62 = some (.invokevirtual 122, 59, 3, 1) := (zf127 62).trans rfl
theorem d127_65 : zt_code 127 65 = some (.goto (4), 0, 69, 0) := (zf127 65).trans rfl
theorem d127_68 : zt_code 127 68 = some (.iconst (0), 0, 0, 0) := (zf127 68).trans rfl
theorem d127_69 : zt_code 127 69 = some (.istore 5, 0, 0, 0) := (zf127 69).trans rfl
theorem d127_71 : zt_code 127 71 = some (.aload_n 0, 0, 0, 0) := (zf127 71).trans rfl
theorem d127_72 : zt_code 127 72 = some (.getfield 24, 1, 7, 1) := (zf127 72).trans rfl
theorem d127_75 : zt_code 127 75 = some (.iload 4, 0, 0, 0) := (zf127 75).trans rfl
theorem d127_77 : zt_code 127 77 = some (.sipush (256), 0, 0, 0) := (zf127 77).trans rfl
theorem d127_80 : zt_code 127 80 = some (.imul, 0, 0, 0) := (zf127 80).trans rfl
theorem d127_81 : zt_code 127 81 = some (.iload_n 2, 0, 0, 0) := (zf127 81).trans rfl
theorem d127_82 : zt_code 127 82 = some (.iadd, 0, 0, 0) := (zf127 82).trans rfl
theorem d127_83 : zt_code 127 83 = some (.iload 5, 0, 0, 0) := (zf127 83).trans rfl
theorem d127_85 : zt_code 127 85 = some (.aload_n 0, 0, 0, 0) := (zf127 85).trans rfl
theorem d127_86 : zt_code 127 86 = some (.iload 4, 0, 0, 0) := (zf127 86).trans rfl
theorem d127_88 : zt_code 127 88 = some (.iload_n 2, 0, 0, 0) := (zf127 88).trans rfl
theorem d127_89 : zt_code 127 89 = some (.iload_n 1, 0, 0, 0) := (zf127 89).trans rfl
theorem d127_90 : zt_code 127 90 = some (.invokestatic 115, 61, 2, -1) := (zf127 90).trans rfl
theorem d127_93 : zt_code 127 93 = some (.invokevirtual 126, 66, 3, 1) := (zf127 93).trans rfl
theorem d127_96 : zt_code 127 96 = some (.iadd, 0, 0, 0) := (zf127 96).trans rfl
theorem d127_97 : zt_code 127 97 = some (.invokestatic 42, 12, 3, -1) := (zf127 97).trans rfl
theorem d127_100 : zt_code 127 100 = some (.iinc 4 (1), 0, 0, 0) := (zf127 100).trans rfl
theorem d127_103 : zt_code 127 103 = some (.goto (-57), 0, 46, 0) := (zf127 103).trans rfl
theorem d127_106 : zt_code 127 106 = some (.iinc 2 (1), 0, 0, 0) := (zf127 106).trans rfl
theorem d127_109 : zt_code 127 109 = some (.goto (-105), 0, 4, 0) := (zf127 109).trans rfl
theorem d127_112 : zt_code 127 112 = some (.iload_n 1, 0, 0, 0) := (zf127 112).trans rfl
theorem d127_113 : zt_code 127 113 = some (.ireturn, 0, 0, 0) := (zf127 113).trans rfl
/-- FirstAtTheFirst$Mind.lookAllAhead()I -/
theorem vc127 {X : zX} {S : zx_S} {C : zx_C} {q : Int32 → zx_C → Prop} {e : Nat} (hS : zs_1 S e) (h : zW X 3 127 4 [.ref e, .int (-1), .int 1, .retAddr 0, .retAddr 0, .retAddr 0] [] S C (zQi q)) : zCd X 3 127 [.ref e] S C (zQi q) := by
  refine zc_in ml_127 rfl ?_
  refine zw_iconst (n := 1) d127_0 rfl zk_i_m1 ?_
  refine zw_istore_n (n := 2) d127_1 rfl rfl rfl ?_
  refine zw_iconst (n := 3) d127_2 rfl zk_i_1 ?_
  refine zw_istore_n (n := 4) d127_3 rfl rfl rfl ?_
  exact h
theorem vc127_4 {X : zX} {S : zx_S} {C : zx_C} {q : Int32 → zx_C → Prop} {e : Nat} {i1 : Int32} {i2 : Int32} {z3 : Value} {z4 : Value} {z5 : Value} (hS : zs_1 S e) (h : if ((C.1 e 5) : Int32) < i2 then (q i1 C) else (if (i2 : Int32) < 256 then (if ((i2 &&& ((C.1 e 5) ^^^ (-1))) : Int32) = 0 then (zCd X 2 63 [.ref e, .int i2] S C (zQi (fun r1 C1 => zCd X 1 65 [.ref e, .int r1, .int i2] S C1 (zQi (fun r2 C2 => zW X 3 127 46 [.ref e, .int r2, .int i2, .int r1, .int 0, z5] [] S C2 (zQi q)))))) else (zW X 3 127 4 [.ref e, .int i1, .int (i2 + 1), z3, z4, z5] [] S C (zQi q))) else (q i1 C))) : zW X 3 127 4 [.ref e, .int i1, .int i2, z3, z4, z5] [] S C (zQi q) := by
  refine zw_iload_n (n := 5) d127_4 rfl rfl ?_
  refine zw_aload_n (n := 6) d127_5 rfl rfl ?_
  refine zw_geti (n := 9) d127_6 rfl (zj_1 hS).1 (zj_1 hS).2 ?_
  refine zw_ic_gt (n := 12) d127_9 rfl (zite h (fun h => ?_) (fun h => ?_))
  · skip
    refine zw_iload_n (n := 113) d127_112 rfl rfl ?_
    exact zw_iret d127_113 rfl ⟨_, rfl, h⟩
  · skip
    refine zw_iload_n (n := 13) d127_12 rfl rfl ?_
    refine zw_sipush (n := 16) d127_13 rfl zk_s_256 ?_
    refine zw_ic_ge (n := 19) d127_16 rfl (zite h (fun h => ?_) (fun h => ?_))
    · skip
      refine zw_iload_n (n := 20) d127_19 rfl rfl ?_
      refine zw_aload_n (n := 21) d127_20 rfl rfl ?_
      refine zw_geti (n := 24) d127_21 rfl (zj_1 hS).1 (zj_1 hS).2 ?_
      refine zw_iconst (n := 25) d127_24 rfl zk_i_m1 ?_
      refine zw_ixor (n := 26) d127_25 rfl ?_
      refine zw_iand (n := 27) d127_26 rfl ?_
      refine zw_if_ne (n := 30) d127_27 rfl (zite h (fun h => ?_) (fun h => ?_))
      · skip
        refine zw_aload_n (n := 31) d127_30 rfl rfl ?_
        refine zw_iload_n (n := 32) d127_31 rfl rfl ?_
        refine zw_cI (n := 35) d127_32 (zs_V rfl rfl rfl rfl (by decide) (zj_1 hS).1 (zq_1 hS)) (by rw [ml_63]; rfl) (by decide) rfl (zc_mI h (fun r1 C1 h => ?_))
        refine zw_istore_n (n := 36) d127_35 rfl rfl rfl ?_
        refine zw_aload_n (n := 37) d127_36 rfl rfl ?_
        refine zw_iload_n (n := 38) d127_37 rfl rfl ?_
        refine zw_iload_n (n := 39) d127_38 rfl rfl ?_
        refine zw_cI (n := 42) d127_39 (zs_V rfl rfl rfl rfl (by decide) (zj_1 hS).1 (zq_1 hS)) (by rw [ml_65]; rfl) (by decide) rfl (zc_mI h (fun r2 C2 h => ?_))
        refine zw_istore_n (n := 43) d127_42 rfl rfl rfl ?_
        refine zw_iconst (n := 44) d127_43 rfl zk_i_0 ?_
        refine zw_istore (n := 46) d127_44 rfl rfl rfl ?_
        exact h
      · skip
        refine zw_iinc (n := 109) d127_106 rfl rfl zk_i_1 rfl ?_
        refine zw_goto d127_109 ?_
        exact h
    · skip
      refine zw_iload_n (n := 113) d127_112 rfl rfl ?_
      exact zw_iret d127_113 rfl ⟨_, rfl, h⟩
theorem vc127_46 {X : zX} {S : zx_S} {C : zx_C} {q : Int32 → zx_C → Prop} {e : Nat} {i1 : Int32} {i2 : Int32} {i3 : Int32} {i4 : Int32} {z5 : Value} (hS : zs_1 S e) (h : if (i4 : Int32) < 3 then (if (i4 : Int32) = i3 then (zCd X 0 59 [.ref e, .int i4, .int i1] S C (zQi (fun r1 C1 => zCd X 0 61 [.int i2, .int i1] S C1 (zQi (fun r2 C2 => zCd X 0 66 [.ref e, .int i4, .int r2] S C2 (zQi (fun r3 C3 => zCd X 0 12 [.ref (e + 5), .int ((i4 * 256) + i2), .int (r1 + r3)] S C3 (zQv (fun C4 => zW X 3 127 46 [.ref e, .int i1, .int i2, .int i3, .int (i4 + 1), .int r1] [] S C4 (zQi q)))))))))) else (zCd X 0 61 [.int i2, .int i1] S C (zQi (fun r5 C5 => zCd X 0 66 [.ref e, .int i4, .int r5] S C5 (zQi (fun r6 C6 => zCd X 0 12 [.ref (e + 5), .int ((i4 * 256) + i2), .int (0 + r6)] S C6 (zQv (fun C7 => zW X 3 127 46 [.ref e, .int i1, .int i2, .int i3, .int (i4 + 1), .int 0] [] S C7 (zQi q))))))))) else (zW X 3 127 4 [.ref e, .int i1, .int (i2 + 1), .int i3, .int i4, z5] [] S C (zQi q))) : zW X 3 127 46 [.ref e, .int i1, .int i2, .int i3, .int i4, z5] [] S C (zQi q) := by
  refine zw_iload (n := 48) d127_46 rfl rfl ?_
  refine zw_iconst (n := 49) d127_48 rfl zk_i_3 ?_
  refine zw_ic_ge (n := 52) d127_49 rfl (zite h (fun h => ?_) (fun h => ?_))
  · skip
    refine zw_iload (n := 54) d127_52 rfl rfl ?_
    refine zw_iload_n (n := 55) d127_54 rfl rfl ?_
    refine zw_ic_ne (n := 58) d127_55 rfl (zite h (fun h => ?_) (fun h => ?_))
    · skip
      refine zw_aload_n (n := 59) d127_58 rfl rfl ?_
      refine zw_iload (n := 61) d127_59 rfl rfl ?_
      refine zw_iload_n (n := 62) d127_61 rfl rfl ?_
      refine zw_cI (n := 65) d127_62 (zs_V rfl rfl rfl rfl (by decide) (zj_1 hS).1 (zq_1 hS)) (by rw [ml_59]; rfl) (by decide) rfl (zc_mI h (fun r1 C1 h => ?_))
      refine zw_goto d127_65 ?_
      refine zw_istore (n := 71) d127_69 rfl rfl rfl ?_
      refine zw_aload_n (n := 72) d127_71 rfl rfl ?_
      refine zw_getr (n := 75) d127_72 rfl (zj_1 hS).1 (zj_1 hS).2 (zr_1_7 hS) ?_
      refine zw_iload (n := 77) d127_75 rfl rfl ?_
      refine zw_sipush (n := 80) d127_77 rfl zk_s_256 ?_
      refine zw_imul (n := 81) d127_80 rfl ?_
      refine zw_iload_n (n := 82) d127_81 rfl rfl ?_
      refine zw_iadd (n := 83) d127_82 rfl ?_
      refine zw_iload (n := 85) d127_83 rfl rfl ?_
      refine zw_aload_n (n := 86) d127_85 rfl rfl ?_
      refine zw_iload (n := 88) d127_86 rfl rfl ?_
      refine zw_iload_n (n := 89) d127_88 rfl rfl ?_
      refine zw_iload_n (n := 90) d127_89 rfl rfl ?_
      refine zw_cI (n := 93) d127_90 (zs_S rfl rfl rfl rfl) (by rw [ml_61]; rfl) (by decide) rfl (zc_mI h (fun r2 C2 h => ?_))
      refine zw_cI (n := 96) d127_93 (zs_V rfl rfl rfl rfl (by decide) (zj_1 hS).1 (zq_1 hS)) (by rw [ml_66]; rfl) (by decide) rfl (zc_mI h (fun r3 C3 h => ?_))
      refine zw_iadd (n := 97) d127_96 rfl ?_
      refine zw_cV (n := 100) d127_97 (zs_S rfl rfl rfl rfl) (by rw [ml_12]; rfl) (by decide) rfl (zc_mV h (fun C4 h => ?_))
      refine zw_iinc (n := 103) d127_100 rfl rfl zk_i_1 rfl ?_
      refine zw_goto d127_103 ?_
      exact h
    · skip
      refine zw_iconst (n := 69) d127_68 rfl zk_i_0 ?_
      refine zw_istore (n := 71) d127_69 rfl rfl rfl ?_
      refine zw_aload_n (n := 72) d127_71 rfl rfl ?_
      refine zw_getr (n := 75) d127_72 rfl (zj_1 hS).1 (zj_1 hS).2 (zr_1_7 hS) ?_
      refine zw_iload (n := 77) d127_75 rfl rfl ?_
      refine zw_sipush (n := 80) d127_77 rfl zk_s_256 ?_
      refine zw_imul (n := 81) d127_80 rfl ?_
      refine zw_iload_n (n := 82) d127_81 rfl rfl ?_
      refine zw_iadd (n := 83) d127_82 rfl ?_
      refine zw_iload (n := 85) d127_83 rfl rfl ?_
      refine zw_aload_n (n := 86) d127_85 rfl rfl ?_
      refine zw_iload (n := 88) d127_86 rfl rfl ?_
      refine zw_iload_n (n := 89) d127_88 rfl rfl ?_
      refine zw_iload_n (n := 90) d127_89 rfl rfl ?_
      refine zw_cI (n := 93) d127_90 (zs_S rfl rfl rfl rfl) (by rw [ml_61]; rfl) (by decide) rfl (zc_mI h (fun r5 C5 h => ?_))
      refine zw_cI (n := 96) d127_93 (zs_V rfl rfl rfl rfl (by decide) (zj_1 hS).1 (zq_1 hS)) (by rw [ml_66]; rfl) (by decide) rfl (zc_mI h (fun r6 C6 h => ?_))
      refine zw_iadd (n := 97) d127_96 rfl ?_
      refine zw_cV (n := 100) d127_97 (zs_S rfl rfl rfl rfl) (by rw [ml_12]; rfl) (by decide) rfl (zc_mV h (fun C7 h => ?_))
      refine zw_iinc (n := 103) d127_100 rfl rfl zk_i_1 rfl ?_
      refine zw_goto d127_103 ?_
      exact h
  · skip
    refine zw_iinc (n := 109) d127_106 rfl rfl zk_i_1 rfl ?_
    refine zw_goto d127_109 ?_
    exact h

set_option maxRecDepth 20000 in
theorem zf132 (pc : Nat) : zt_code 132 pc = zt_fd zl_132 pc := rfl
theorem d132_0 : zt_code 132 0 = some (.iconst (0), 0, 0, 0) := (zf132 0).trans rfl
theorem d132_1 : zt_code 132 1 = some (.istore_n 3, 0, 0, 0) := (zf132 1).trans rfl
theorem d132_2 : zt_code 132 2 = some (.iload_n 3, 0, 0, 0) := (zf132 2).trans rfl
theorem d132_3 : zt_code 132 3 = some (.iload_n 2, 0, 0, 0) := (zf132 3).trans rfl
theorem d132_4 : zt_code 132 4 = some (.if_icmp .ge (41), 0, 45, 0) := (zf132 4).trans rfl
theorem d132_7 : zt_code 132 7 = some (.aload_n 0, 0, 0, 0) := (zf132 7).trans rfl
theorem d132_8 : zt_code 132 8 = some (.getfield 68, 1, 4, 0) := (zf132 8).trans rfl
theorem d132_11 : zt_code 132 11 = some (.iload_n 2, 0, 0, 0) := (zf132 11).trans rfl
theorem d132_12 : zt_code 132 12 = some (.if_icmp .ne (33), 0, 45, 0) := (zf132 12).trans rfl
theorem d132_15 : zt_code 132 15 = some (.aload_n 1, 0, 0, 0) := (zf132 15).trans rfl
theorem d132_16 : zt_code 132 16 = some (.iload_n 2, 0, 0, 0) := (zf132 16).trans rfl
theorem d132_17 : zt_code 132 17 = some (.iconst (1), 0, 0, 0) := (zf132 17).trans rfl
theorem d132_18 : zt_code 132 18 = some (.isub, 0, 0, 0) := (zf132 18).trans rfl
theorem d132_19 : zt_code 132 19 = some (.iload_n 3, 0, 0, 0) := (zf132 19).trans rfl
theorem d132_20 : zt_code 132 20 = some (.isub, 0, 0, 0) := (zf132 20).trans rfl
theorem d132_21 : zt_code 132 21 = some (.invokestatic 74, 11, 2, -1) := (zf132 21).trans rfl
theorem d132_24 : zt_code 132 24 = some (.aload_n 0, 0, 0, 0) := (zf132 24).trans rfl
theorem d132_25 : zt_code 132 25 = some (.getfield 21, 1, 3, 1) := (zf132 25).trans rfl
theorem d132_28 : zt_code 132 28 = some (.iload_n 2, 0, 0, 0) := (zf132 28).trans rfl
theorem d132_29 : zt_code 132 29 = some (.iconst (1), 0, 0, 0) := (zf132 29).trans rfl
theorem d132_30 : zt_code 132 30 = some (.isub, 0, 0, 0) := (zf132 30).trans rfl
theorem d132_31 : zt_code 132 31 = some (.iload_n 3, 0, 0, 0) := (zf132 31).trans rfl
theorem d132_32 : zt_code 132 32 = some (.isub, 0, 0, 0) := (zf132 32).trans rfl
theorem d132_33 : zt_code 132 33 = some (.invokestatic 74, 11, 2, -1) := (zf132 33).trans rfl
theorem d132_36 : zt_code 132 36 = some (.if_icmp .ne (9), 0, 45, 0) := (zf132 36).trans rfl
theorem d132_39 : zt_code 132 39 = some (.iinc 3 (1), 0, 0, 0) := (zf132 39).trans rfl
theorem d132_42 : zt_code 132 42 = some (.goto (-40), 0, 2, 0) := (zf132 42).trans rfl
theorem d132_45 : zt_code 132 45 = some (.iconst (0), 0, 0, 0) := (zf132 45).trans rfl
theorem d132_46 : zt_code 132 46 = some (.istore 4, 0, 0, 0) := (zf132 46).trans rfl
theorem d132_48 : zt_code 132 48 = some (.iload 4, 0, 0, 0) := (zf132 48).trans rfl
theorem d132_50 : zt_code 132 50 = some (.iconst (3), 0, 0, 0) := (zf132 50).trans rfl
theorem d132_51 : zt_code 132 51 = some (.if_icmp .ge (31), 0, 82, 0) := (zf132 51).trans rfl
theorem d132_54 : zt_code 132 54 = some (.aload_n 0, 0, 0, 0) := (zf132 54).trans rfl
theorem d132_55 : zt_code 132 55 = some (.getfield 27, 1, 8, 1) := (zf132 55).trans rfl
theorem d132_58 : zt_code 132 58 = some (.iload 4, 0, 0, 0) := (zf132 58).trans rfl
theorem d132_60 : zt_code 132 60 = some (.iload_n 3, 0, 0, 0) := (zf132 60).trans rfl
theorem d132_61 : zt_code 132 61 = some (.aload_n 0, 0, 0, 0) := (zf132 61).trans rfl
theorem d132_62 : zt_code 132 62 = some (.getfield 27, 1, 8, 1) := (zf132 62).trans rfl
theorem d132_65 : zt_code 132 65 = some (.iload 4, 0, 0, 0) := (zf132 65).trans rfl
theorem d132_67 : zt_code 132 67 = some (.invokestatic 74, 11, 2, -1) := (zf132 67).trans rfl
theorem d132_70 : zt_code 132 70 = some (.invokestatic 78, 0, 2, 98) := (zf132 70).trans rfl
theorem d132_73 : zt_code 132 73 = some (.invokestatic 42, 12, 3, -1) := (zf132 73).trans rfl
theorem d132_76 : zt_code 132 76 = some (.iinc 4 (1), 0, 0, 0) := (zf132 76).trans rfl
theorem d132_79 : zt_code 132 79 = some (.goto (-31), 0, 48, 0) := (zf132 79).trans rfl
theorem d132_82 : zt_code 132 82 = some (.aload_n 1, 0, 0, 0) := (zf132 82).trans rfl
theorem d132_83 : zt_code 132 83 = some (.aload_n 0, 0, 0, 0) := (zf132 83).trans rfl
theorem d132_84 : zt_code 132 84 = some (.getfield 21, 1, 3, 1) := (zf132 84).trans rfl
theorem d132_87 : zt_code 132 87 = some (.invokestatic 33, 39, 2, -1) := (zf132 87).trans rfl
theorem d132_90 : zt_code 132 90 = some (.aload_n 0, 0, 0, 0) := (zf132 90).trans rfl
theorem d132_91 : zt_code 132 91 = some (.iload_n 2, 0, 0, 0) := (zf132 91).trans rfl
theorem d132_92 : zt_code 132 92 = some (.putfield 68, 1, 4, 0) := (zf132 92).trans rfl
theorem d132_95 : zt_code 132 95 = some (.return_, 0, 0, 0) := (zf132 95).trans rfl
/-- FirstAtTheFirst$Mind.expectRow([II)V -/
theorem vc132 {X : zX} {S : zx_S} {C : zx_C} {q : zx_C → Prop} {e : Nat} {a1 n1 : Nat} {a2 : Int32} (hS : zs_1 S e) (h1 : a1 < 900000 ∧ S.1 a1 = (10, n1)) (h : zW X 1 132 2 [.ref e, .ref a1, .int a2, .int 0, .retAddr 0] [] S C (zQv q)) : zCd X 1 132 [.ref e, .ref a1, .int a2] S C (zQv q) := by
  refine zc_in ml_132 rfl ?_
  refine zw_iconst (n := 1) d132_0 rfl zk_i_0 ?_
  refine zw_istore_n (n := 2) d132_1 rfl rfl rfl ?_
  exact h
theorem vc132_2 {X : zX} {S : zx_S} {C : zx_C} {q : zx_C → Prop} {e : Nat} {a1 n1 : Nat} {a2 : Int32} {i2 : Int32} {i3 : Int32} {z4 : Value} (hS : zs_1 S e) (h1 : a1 < 900000 ∧ S.1 a1 = (10, n1)) (h : if (i3 : Int32) < i2 then (if ((C.1 e 4) : Int32) = i2 then (zCd X 0 11 [.ref a1, .int ((i2 - 1) - i3)] S C (zQi (fun r1 C1 => zCd X 0 11 [.ref (e + 4), .int ((i2 - 1) - i3)] S C1 (zQi (fun r2 C2 => if (r1 : Int32) = r2 then (zW X 1 132 2 [.ref e, .ref a1, .int i2, .int (i3 + 1), z4] [] S C2 (zQv q)) else (zW X 1 132 48 [.ref e, .ref a1, .int i2, .int i3, .int 0] [] S C2 (zQv q))))))) else (zW X 1 132 48 [.ref e, .ref a1, .int i2, .int i3, .int 0] [] S C (zQv q))) else (zW X 1 132 48 [.ref e, .ref a1, .int i2, .int i3, .int 0] [] S C (zQv q))) : zW X 1 132 2 [.ref e, .ref a1, .int i2, .int i3, z4] [] S C (zQv q) := by
  refine zw_iload_n (n := 3) d132_2 rfl rfl ?_
  refine zw_iload_n (n := 4) d132_3 rfl rfl ?_
  refine zw_ic_ge (n := 7) d132_4 rfl (zite h (fun h => ?_) (fun h => ?_))
  · skip
    refine zw_aload_n (n := 8) d132_7 rfl rfl ?_
    refine zw_geti (n := 11) d132_8 rfl (zj_1 hS).1 (zj_1 hS).2 ?_
    refine zw_iload_n (n := 12) d132_11 rfl rfl ?_
    refine zw_ic_ne (n := 15) d132_12 rfl (zite h (fun h => ?_) (fun h => ?_))
    · skip
      refine zw_aload_n (n := 16) d132_15 rfl rfl ?_
      refine zw_iload_n (n := 17) d132_16 rfl rfl ?_
      refine zw_iconst (n := 18) d132_17 rfl zk_i_1 ?_
      refine zw_isub (n := 19) d132_18 rfl ?_
      refine zw_iload_n (n := 20) d132_19 rfl rfl ?_
      refine zw_isub (n := 21) d132_20 rfl ?_
      refine zw_cI (n := 24) d132_21 (zs_S rfl rfl rfl rfl) (by rw [ml_11]; rfl) (by decide) rfl (zc_mI h (fun r1 C1 h => ?_))
      refine zw_aload_n (n := 25) d132_24 rfl rfl ?_
      refine zw_getr (n := 28) d132_25 rfl (zj_1 hS).1 (zj_1 hS).2 (zr_1_3 hS) ?_
      refine zw_iload_n (n := 29) d132_28 rfl rfl ?_
      refine zw_iconst (n := 30) d132_29 rfl zk_i_1 ?_
      refine zw_isub (n := 31) d132_30 rfl ?_
      refine zw_iload_n (n := 32) d132_31 rfl rfl ?_
      refine zw_isub (n := 33) d132_32 rfl ?_
      refine zw_cI (n := 36) d132_33 (zs_S rfl rfl rfl rfl) (by rw [ml_11]; rfl) (by decide) rfl (zc_mI h (fun r2 C2 h => ?_))
      refine zw_ic_ne (n := 39) d132_36 rfl (zite h (fun h => ?_) (fun h => ?_))
      · skip
        refine zw_iinc (n := 42) d132_39 rfl rfl zk_i_1 rfl ?_
        refine zw_goto d132_42 ?_
        exact h
      · skip
        refine zw_iconst (n := 46) d132_45 rfl zk_i_0 ?_
        refine zw_istore (n := 48) d132_46 rfl rfl rfl ?_
        exact h
    · skip
      refine zw_iconst (n := 46) d132_45 rfl zk_i_0 ?_
      refine zw_istore (n := 48) d132_46 rfl rfl rfl ?_
      exact h
  · skip
    refine zw_iconst (n := 46) d132_45 rfl zk_i_0 ?_
    refine zw_istore (n := 48) d132_46 rfl rfl rfl ?_
    exact h
theorem vc132_48 {X : zX} {S : zx_S} {C : zx_C} {q : zx_C → Prop} {e : Nat} {a1 n1 : Nat} {a2 : Int32} {i2 : Int32} {i3 : Int32} {i4 : Int32} (hS : zs_1 S e) (h1 : a1 < 900000 ∧ S.1 a1 = (10, n1)) (h : if (i4 : Int32) < 3 then (zCd X 0 11 [.ref (e + 6), .int i4] S C (zQi (fun r1 C1 => zCd X 0 12 [.ref (e + 6), .int i4, .int (if (r1 : Int32) < i3 then r1 else i3)] S C1 (zQv (fun C2 => zW X 1 132 48 [.ref e, .ref a1, .int i2, .int i3, .int (i4 + 1)] [] S C2 (zQv q)))))) else (zCd X 0 39 [.ref a1, .ref (e + 4)] S C (zQv (fun C3 => q (zp C3 e 4 i2))))) : zW X 1 132 48 [.ref e, .ref a1, .int i2, .int i3, .int i4] [] S C (zQv q) := by
  refine zw_iload (n := 50) d132_48 rfl rfl ?_
  refine zw_iconst (n := 51) d132_50 rfl zk_i_3 ?_
  refine zw_ic_ge (n := 54) d132_51 rfl (zite h (fun h => ?_) (fun h => ?_))
  · skip
    refine zw_aload_n (n := 55) d132_54 rfl rfl ?_
    refine zw_getr (n := 58) d132_55 rfl (zj_1 hS).1 (zj_1 hS).2 (zr_1_8 hS) ?_
    refine zw_iload (n := 60) d132_58 rfl rfl ?_
    refine zw_iload_n (n := 61) d132_60 rfl rfl ?_
    refine zw_aload_n (n := 62) d132_61 rfl rfl ?_
    refine zw_getr (n := 65) d132_62 rfl (zj_1 hS).1 (zj_1 hS).2 (zr_1_8 hS) ?_
    refine zw_iload (n := 67) d132_65 rfl rfl ?_
    refine zw_cI (n := 70) d132_67 (zs_S rfl rfl rfl rfl) (by rw [ml_11]; rfl) (by decide) rfl (zc_mI h (fun r1 C1 h => ?_))
    refine zw_math (n := 73) d132_70 rfl (Or.inr ⟨rfl, rfl⟩) rfl ?_
    refine zw_cV (n := 76) d132_73 (zs_S rfl rfl rfl rfl) (by rw [ml_12]; rfl) (by decide) rfl (zc_mV h (fun C2 h => ?_))
    refine zw_iinc (n := 79) d132_76 rfl rfl zk_i_1 rfl ?_
    refine zw_goto d132_79 ?_
    exact h
  · skip
    refine zw_aload_n (n := 83) d132_82 rfl rfl ?_
    refine zw_aload_n (n := 84) d132_83 rfl rfl ?_
    refine zw_getr (n := 87) d132_84 rfl (zj_1 hS).1 (zj_1 hS).2 (zr_1_3 hS) ?_
    refine zw_cV (n := 90) d132_87 (zs_S rfl rfl rfl rfl) (by rw [ml_39]; rfl) (by decide) rfl (zc_mV h (fun C3 h => ?_))
    refine zw_aload_n (n := 91) d132_90 rfl rfl ?_
    refine zw_iload_n (n := 92) d132_91 rfl rfl ?_
    refine zw_puti (n := 95) d132_92 rfl (zj_1 hS).1 (zj_1 hS).2 ?_
    exact zw_ret d132_95 ⟨rfl, h⟩

set_option maxRecDepth 20000 in
theorem zf140 (pc : Nat) : zt_code 140 pc = zt_fd zl_140 pc := rfl
theorem d140_0 : zt_code 140 0 = some (.iconst (0), 0, 0, 0) := (zf140 0).trans rfl
theorem d140_1 : zt_code 140 1 = some (.istore 4, 0, 0, 0) := (zf140 1).trans rfl
theorem d140_3 : zt_code 140 3 = some (.iconst (0), 0, 0, 0) := (zf140 3).trans rfl
theorem d140_4 : zt_code 140 4 = some (.istore 5, 0, 0, 0) := (zf140 4).trans rfl
theorem d140_6 : zt_code 140 6 = some (.iload 5, 0, 0, 0) := (zf140 6).trans rfl
theorem d140_8 : zt_code 140 8 = some (.iconst (5), 0, 0, 0) := (zf140 8).trans rfl
theorem d140_9 : zt_code 140 9 = some (.if_icmp .gt (30), 0, 39, 0) := (zf140 9).trans rfl
theorem d140_12 : zt_code 140 12 = some (.aload_n 0, 0, 0, 0) := (zf140 12).trans rfl
theorem d140_13 : zt_code 140 13 = some (.iload_n 1, 0, 0, 0) := (zf140 13).trans rfl
theorem d140_14 : zt_code 140 14 = some (.iload 5, 0, 0, 0) := (zf140 14).trans rfl
theorem d140_16 : zt_code 140 16 = some (.iload_n 3, 0, 0, 0) := (zf140 16).trans rfl
theorem d140_17 : zt_code 140 17 = some (.invokevirtual 97, 50, 4, 1) := (zf140 17).trans rfl
theorem d140_20 : zt_code 140 20 = some (.iload_n 2, 0, 0, 0) := (zf140 20).trans rfl
theorem d140_21 : zt_code 140 21 = some (.if_icmp .ne (12), 0, 33, 0) := (zf140 21).trans rfl
theorem d140_24 : zt_code 140 24 = some (.iload 4, 0, 0, 0) := (zf140 24).trans rfl
theorem d140_26 : zt_code 140 26 = some (.iconst (1), 0, 0, 0) := (zf140 26).trans rfl
theorem d140_27 : zt_code 140 27 = some (.iload 5, 0, 0, 0) := (zf140 27).trans rfl
theorem d140_29 : zt_code 140 29 = some (.ishl, 0, 0, 0) := (zf140 29).trans rfl
theorem d140_30 : zt_code 140 30 = some (.ior, 0, 0, 0) := (zf140 30).trans rfl
theorem d140_31 : zt_code 140 31 = some (.istore 4, 0, 0, 0) := (zf140 31).trans rfl
theorem d140_33 : zt_code 140 33 = some (.iinc 5 (1), 0, 0, 0) := (zf140 33).trans rfl
theorem d140_36 : zt_code 140 36 = some (.goto (-30), 0, 6, 0) := (zf140 36).trans rfl
theorem d140_39 : zt_code 140 39 = some (.iload 4, 0, 0, 0) := (zf140 39).trans rfl
theorem d140_41 : zt_code 140 41 = some (.ireturn, 0, 0, 0) := (zf140 41).trans rfl
/-- FirstAtTheFirst$Mind.bentsTaking(III)I -/
theorem vc140 {X : zX} {S : zx_S} {C : zx_C} {q : Int32 → zx_C → Prop} {e : Nat} {a1 : Int32} {a2 : Int32} {a3 : Int32} (hS : zs_1 S e) (h : zW X 5 140 6 [.ref e, .int a1, .int a2, .int a3, .int 0, .int 0] [] S C (zQi q)) : zCd X 5 140 [.ref e, .int a1, .int a2, .int a3] S C (zQi q) := by
  refine zc_in ml_140 rfl ?_
  refine zw_iconst (n := 1) d140_0 rfl zk_i_0 ?_
  refine zw_istore (n := 3) d140_1 rfl rfl rfl ?_
  refine zw_iconst (n := 4) d140_3 rfl zk_i_0 ?_
  refine zw_istore (n := 6) d140_4 rfl rfl rfl ?_
  exact h
theorem vc140_6 {X : zX} {S : zx_S} {C : zx_C} {q : Int32 → zx_C → Prop} {e : Nat} {a1 : Int32} {a2 : Int32} {a3 : Int32} {i1 : Int32} {i2 : Int32} {i3 : Int32} {i4 : Int32} {i5 : Int32} (hS : zs_1 S e) (h : if (5 : Int32) < i5 then (q i4 C) else (zCd X 4 50 [.ref e, .int i1, .int i5, .int i3] S C (zQi (fun r1 C1 => if (r1 : Int32) = i2 then (zW X 5 140 6 [.ref e, .int i1, .int i2, .int i3, .int (i4 ||| (1 <<< (i5 &&& 31))), .int (i5 + 1)] [] S C1 (zQi q)) else (zW X 5 140 6 [.ref e, .int i1, .int i2, .int i3, .int i4, .int (i5 + 1)] [] S C1 (zQi q)))))) : zW X 5 140 6 [.ref e, .int i1, .int i2, .int i3, .int i4, .int i5] [] S C (zQi q) := by
  refine zw_iload (n := 8) d140_6 rfl rfl ?_
  refine zw_iconst (n := 9) d140_8 rfl zk_i_5 ?_
  refine zw_ic_gt (n := 12) d140_9 rfl (zite h (fun h => ?_) (fun h => ?_))
  · skip
    refine zw_iload (n := 41) d140_39 rfl rfl ?_
    exact zw_iret d140_41 rfl ⟨_, rfl, h⟩
  · skip
    refine zw_aload_n (n := 13) d140_12 rfl rfl ?_
    refine zw_iload_n (n := 14) d140_13 rfl rfl ?_
    refine zw_iload (n := 16) d140_14 rfl rfl ?_
    refine zw_iload_n (n := 17) d140_16 rfl rfl ?_
    refine zw_cI (n := 20) d140_17 (zs_V rfl rfl rfl rfl (by decide) (zj_1 hS).1 (zq_1 hS)) (by rw [ml_50]; rfl) (by decide) rfl (zc_mI h (fun r1 C1 h => ?_))
    refine zw_iload_n (n := 21) d140_20 rfl rfl ?_
    refine zw_ic_ne (n := 24) d140_21 rfl (zite h (fun h => ?_) (fun h => ?_))
    · skip
      refine zw_iload (n := 26) d140_24 rfl rfl ?_
      refine zw_iconst (n := 27) d140_26 rfl zk_i_1 ?_
      refine zw_iload (n := 29) d140_27 rfl rfl ?_
      refine zw_ishl (n := 30) d140_29 rfl ?_
      refine zw_ior (n := 31) d140_30 rfl ?_
      refine zw_istore (n := 33) d140_31 rfl rfl rfl ?_
      refine zw_iinc (n := 36) d140_33 rfl rfl zk_i_1 rfl ?_
      refine zw_goto d140_36 ?_
      exact h
    · skip
      refine zw_iinc (n := 36) d140_33 rfl rfl zk_i_1 rfl ?_
      refine zw_goto d140_36 ?_
      exact h

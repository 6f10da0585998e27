/-! TEXTS: length and charAt of the seven words -/
set_option maxRecDepth 20000
theorem zf90 (pc : Nat) : zt_code 90 pc = zt_fd zl_90 pc := rfl
theorem zf91 (pc : Nat) : zt_code 91 pc = zt_fd zl_91 pc := rfl
theorem zf92 (pc : Nat) : zt_code 92 pc = zt_fd zl_92 pc := rfl
theorem zf93 (pc : Nat) : zt_code 93 pc = zt_fd zl_93 pc := rfl
theorem zf94 (pc : Nat) : zt_code 94 pc = zt_fd zl_94 pc := rfl
theorem zf95 (pc : Nat) : zt_code 95 pc = zt_fd zl_95 pc := rfl
theorem zf96 (pc : Nat) : zt_code 96 pc = zt_fd zl_96 pc := rfl
/-- the words' lengths and letters -/
def wL (w : Nat) : Nat := (zt_txt.getD w []).length
def wB (w i : Nat) : Int := ((zt_txt.getD w []).getD i 0).toInt
theorem zx_len_t {X : zX} {H : zx_H} {w : Nat} (hw : w < 7) {k : Nat → zx_O} : zx_len (zt_P X) H (2000000 + w + 100000) k = k (wL w) := by
  have h7 : (zt_P X).2.1.length = 7 := rfl
  unfold zx_len
  rw [if_neg (by omega), if_neg (by omega), if_pos ⟨by omega, by rw [h7]; omega⟩, show 2000000 + w + 100000 - 2100000 = w by omega]
  rfl
theorem zs_al {X : zX} {pc e n a b : Nat} {k : Int} {ls r : List Value} {H : zx_H} (h : ∀ f : Nat → zx_O, zx_len (zt_P X) H e f = f n) : zx_step (zt_P X) (.arraylength, a, b, k) pc ls (.ref e :: r) H = some (.inl (pc + 1, ls, .int (Int32.ofNat n) :: r, H)) := by
  show zx_len (zt_P X) H e (fun n => zx_n (pc + 1) ls (.int (Int32.ofNat n) :: r) H) = _
  rw [h]
  rfl
theorem zs_bl {X : zX} {pc e a b : Nat} {k : Int} {i v : Int32} {ls r : List Value} {H : zx_H} (h1 : 2100000 ≤ e ∧ e < 2100000 + (zt_P X).2.1.length) (h2 : ¬ (i < 0 ∨ ((zt_P X).2.1.getD (e - 2100000) []).length ≤ i.toNatClampNeg)) (hv : ((zt_P X).2.1.getD (e - 2100000) []).getD i.toNatClampNeg 0 = v) : zx_step (zt_P X) (.baload, a, b, k) pc ls (.int i :: .ref e :: r) H = some (.inl (pc + 1, ls, .int v :: r, H)) := by
  show (if 2100000 ≤ e ∧ e < 2100000 + (zt_P X).2.1.length then (if i < 0 ∨ ((zt_P X).2.1.getD (e - 2100000) []).length ≤ i.toNatClampNeg then none else zx_n (pc + 1) ls (.int (((zt_P X).2.1.getD (e - 2100000) []).getD i.toNatClampNeg 0) :: r) H) else none) = _
  rw [if_pos h1, if_neg h2, hv]
  rfl
theorem wL_le : ∀ w, w < 7 → 3 ≤ wL w ∧ wL w ≤ 5 := by decide +kernel
theorem wB_ok : ∀ w, w < 7 → ∀ i, i < 5 → i < wL w → (97 ≤ wB w i ∧ wB w i ≤ 122) ∧ zx_rb 2 ((((zt_txt.getD w []).getD i 0 &&& 255).toUInt32 % 65536).toInt32) = true ∧ (((zt_txt.getD w []).getD i 0 &&& 255).toUInt32 % 65536).toInt32 = zi (wB w i) := by decide +kernel
theorem wL_sh : ∀ w, w < 7 → Int32.ofNat (wL w) >>> ((0 : Int32) &&& 31) = zi (wL w) := by decide +kernel
section
variable {X : zX} {S : zx_S} {C : zx_C} {w : Nat}
theorem sp91 (hw : w < 7) {q : Int32 → zx_C → Prop} : zCd X 0 91 [.ref (2000000 + w)] S C (zQi q) = q 0 C := by
  refine zc_eI (fun q h => ?_) q
  refine zc_in ml_91 rfl ?_
  refine zw_n (n := 3) (ls' := [.ref (2000000 + w)]) (st' := [.int 1]) (C' := C) ((zf91 0).trans rfl) rfl ?_
  refine zw_n (n := 6) (ls' := [.ref (2000000 + w)]) (st' := []) (C' := C) ((zf91 3).trans rfl) rfl ?_
  refine zw_aload_n (n := 7) ((zf91 6).trans rfl) rfl rfl ?_
  refine zw_n (n := 10) (ls' := [.ref (2000000 + w)]) (st' := [.int 0]) (C' := C) ((zf91 7).trans rfl) (by
    show (if 2000000 ≤ 2000000 + w ∧ 2000000 + w < 2000000 + 7 then zx_n (7 + 3) [.ref (2000000 + w)] (.int 0 :: []) (S, C) else none) = _
    rw [if_pos (by omega)]
    rfl) ?_
  refine zw_goto ((zf91 10).trans rfl) ?_
  exact zw_iret ((zf91 14).trans rfl) (by decide) ⟨_, rfl, h⟩
/-- length -/
theorem sp90 (hw : w < 7) {q : Int32 → zx_C → Prop} : zCd X 1 90 [.ref (2000000 + w)] S C (zQi q) = q (zi (wL w)) C := by
  refine zc_eI (fun q h => ?_) q
  refine zc_in ml_90 rfl ?_
  refine zw_aload_n (n := 1) ((zf90 0).trans rfl) rfl rfl ?_
  refine zw_n (n := 4) (ls' := [.ref (2000000 + w)]) (st' := [.ref (2000000 + w + 100000)]) (C' := C) ((zf90 1).trans rfl) (by
    show (if 2000000 ≤ 2000000 + w ∧ 2000000 + w < 2000000 + 7 then zx_n (1 + 3) [.ref (2000000 + w)] (.ref (2000000 + w + 100000) :: []) (S, C) else none) = _
    rw [if_pos (by omega)]
    rfl) ?_
  refine zw_n (n := 5) (ls' := [.ref (2000000 + w)]) (st' := [.int (Int32.ofNat (wL w))]) (C' := C) ((zf90 4).trans rfl) (zs_al (fun f => zx_len_t hw)) ?_
  refine zw_aload_n (n := 6) ((zf90 5).trans rfl) rfl rfl ?_
  refine zw_cI (n := 9) (d' := 0) ((zf90 6).trans rfl) (zs_T rfl rfl rfl rfl hw) (by rw [ml_91]; rfl) (by decide) rfl ?_
  rw [sp91 hw]
  refine zw_n (n := 10) (ls' := [.ref (2000000 + w)]) (st' := [.int (Int32.ofNat (wL w) >>> ((0 : Int32) &&& 31))]) (C' := C) ((zf90 9).trans rfl) rfl ?_
  rw [wL_sh w hw]
  exact zw_iret ((zf90 10).trans rfl) rfl ⟨_, rfl, h⟩
theorem sp93 (hw : w < 7) {q : Int32 → zx_C → Prop} : zCd X 0 93 [.ref (2000000 + w)] S C (zQi q) = q 1 C := by
  refine zc_eI (fun q h => ?_) q
  refine zc_in ml_93 rfl ?_
  refine zw_n (n := 3) (ls' := [.ref (2000000 + w)]) (st' := [.int 1]) (C' := C) ((zf93 0).trans rfl) rfl ?_
  refine zw_n (n := 6) (ls' := [.ref (2000000 + w)]) (st' := []) (C' := C) ((zf93 3).trans rfl) rfl ?_
  refine zw_aload_n (n := 7) ((zf93 6).trans rfl) rfl rfl ?_
  refine zw_n (n := 10) (ls' := [.ref (2000000 + w)]) (st' := [.int 0]) (C' := C) ((zf93 7).trans rfl) (by
    show (if 2000000 ≤ 2000000 + w ∧ 2000000 + w < 2000000 + 7 then zx_n (7 + 3) [.ref (2000000 + w)] (.int 0 :: []) (S, C) else none) = _
    rw [if_pos (by omega)]
    rfl) ?_
  refine zw_n (n := 13) (ls' := [.ref (2000000 + w)]) (st' := []) (C' := C) ((zf93 10).trans rfl) rfl ?_
  refine zw_iconst (n := 14) ((zf93 13).trans rfl) rfl zk_i_1 ?_
  refine zw_goto ((zf93 14).trans rfl) ?_
  exact zw_iret ((zf93 18).trans rfl) (by decide) ⟨_, rfl, h⟩
theorem sp96 {i n : Nat} (h : i < n) (hn : n < 2147483648) {q : Int32 → zx_C → Prop} : zCd X 0 96 [.int (zi i), .int (zi n), .retAddr 7] S C (zQi q) = q (zi i) C := by
  refine zc_eI (fun q h => ?_) q
  refine zc_in ml_96 rfl ?_
  refine zw_n (n := 1) (ls' := [.int (zi i), .int (zi n), .retAddr 7]) (st' := [.int (zi i)]) (C' := C) ((zf96 0).trans rfl) rfl ?_
  refine zw_n (n := 4) (ls' := [.int (zi i), .int (zi n), .retAddr 7]) (st' := []) (C' := C) ((zf96 1).trans rfl) (by
    show zx_n (if zi (i : Int) < zi 0 then 9 else 1 + 3) [.int (zi i), .int (zi n), .retAddr 7] [] (S, C) = _
    rw [if_neg (fun q => absurd ((zi_lt (by omega) (by omega) (by omega) (by omega)).mp q) (by omega))]
    rfl) ?_
  refine zw_n (n := 5) (ls' := [.int (zi i), .int (zi n), .retAddr 7]) (st' := [.int (zi i)]) (C' := C) ((zf96 4).trans rfl) rfl ?_
  refine zw_n (n := 6) (ls' := [.int (zi i), .int (zi n), .retAddr 7]) (st' := [.int (zi n), .int (zi i)]) (C' := C) ((zf96 5).trans rfl) rfl ?_
  refine zw_n (n := 16) (ls' := [.int (zi i), .int (zi n), .retAddr 7]) (st' := []) (C' := C) ((zf96 6).trans rfl) (by
    show zx_n (if zi (i : Int) < zi (n : Int) then 16 else 6 + 3) [.int (zi i), .int (zi n), .retAddr 7] [] (S, C) = _
    rw [if_pos ((zi_lt (by omega) (by omega) (by omega) (by omega)).mpr (by omega))]
    rfl) ?_
  refine zw_n (n := 17) (ls' := [.int (zi i), .int (zi n), .retAddr 7]) (st' := [.int (zi i)]) (C' := C) ((zf96 16).trans rfl) rfl ?_
  exact zw_iret ((zf96 17).trans rfl) rfl ⟨_, rfl, h⟩
theorem sp95 {i n : Nat} (h : i < n) (hn : n < 2147483648) {q : zx_C → Prop} : zCd X 1 95 [.int (zi i), .int (zi n)] S C (zQv q) = q C := by
  refine zc_eV (fun q h2 => ?_) q
  refine zc_in ml_95 rfl ?_
  refine zw_n (n := 1) (ls' := [.int (zi i), .int (zi n)]) (st' := [.int (zi i)]) (C' := C) ((zf95 0).trans rfl) rfl ?_
  refine zw_n (n := 2) (ls' := [.int (zi i), .int (zi n)]) (st' := [.int (zi n), .int (zi i)]) (C' := C) ((zf95 1).trans rfl) rfl ?_
  refine zw_n (n := 5) (ls' := [.int (zi i), .int (zi n)]) (st' := [.retAddr 7, .int (zi n), .int (zi i)]) (C' := C) ((zf95 2).trans rfl) rfl ?_
  refine zw_cI (n := 8) (d' := 0) ((zf95 5).trans rfl) (zs_S (as := [.int (zi i), .int (zi n), .retAddr 7]) (rest := []) rfl rfl rfl rfl) (by rw [ml_96]; rfl) (by decide) rfl ?_
  rw [sp96 h hn]
  refine zw_n (n := 9) (ls' := [.int (zi i), .int (zi n)]) (st' := []) (C' := C) ((zf95 8).trans rfl) rfl ?_
  exact zE_ret ((zf95 9).trans rfl) rfl ⟨rfl, rfl, h2⟩
theorem sp94 (hw : w < 7) {i : Nat} (hi : i < wL w) {q : Int32 → zx_C → Prop} : zCd X 2 94 [.ref (2000000 + w + 100000), .int (zi i)] S C (zQi q) = q (zi (wB w i)) C := by
  have hl := wL_le w hw
  have hb := wB_ok w hw i (by omega) hi
  refine zc_eI (fun q h => ?_) q
  refine zc_in ml_94 rfl ?_
  refine zw_n (n := 1) (ls' := [.ref (2000000 + w + 100000), .int (zi i)]) (st' := [.int (zi i)]) (C' := C) ((zf94 0).trans rfl) rfl ?_
  refine zw_n (n := 2) (ls' := [.ref (2000000 + w + 100000), .int (zi i)]) (st' := [.ref (2000000 + w + 100000), .int (zi i)]) (C' := C) ((zf94 1).trans rfl) rfl ?_
  refine zw_n (n := 3) (ls' := [.ref (2000000 + w + 100000), .int (zi i)]) (st' := [.int (zi (wL w)), .int (zi i)]) (C' := C) ((zf94 2).trans rfl) (zs_al (fun f => zx_len_t hw)) ?_
  refine zw_cV (n := 6) (d' := 1) ((zf94 3).trans rfl) (zs_S (as := [.int (zi i), .int (zi (wL w))]) (rest := []) rfl rfl rfl rfl) (by rw [ml_95]; rfl) (by decide) rfl ?_
  rw [sp95 hi (by omega)]
  refine zw_n (n := 7) (ls' := [.ref (2000000 + w + 100000), .int (zi i)]) (st' := [.ref (2000000 + w + 100000)]) (C' := C) ((zf94 6).trans rfl) rfl ?_
  refine zw_n (n := 8) (ls' := [.ref (2000000 + w + 100000), .int (zi i)]) (st' := [.int (zi i), .ref (2000000 + w + 100000)]) (C' := C) ((zf94 7).trans rfl) rfl ?_
  refine zw_n (n := 9) (ls' := [.ref (2000000 + w + 100000), .int (zi i)]) (st' := [.int ((zt_txt.getD w []).getD i 0)]) (C' := C) ((zf94 8).trans rfl) (zs_bl ⟨by omega, by rw [show (zt_P X).2.1.length = 7 from rfl]; omega⟩ (by
    have hv : vp_in (zi (i : Int)) (wL w) := zi_in (by omega) (by omega) (by omega)
    rw [show 2000000 + w + 100000 - 2100000 = w by omega]
    exact hv) (by
    rw [show 2000000 + w + 100000 - 2100000 = w by omega, zi_ix (by omega) (by omega), Int.toNat_natCast]
    rfl)) ?_
  refine zw_n (n := 12) (ls' := [.ref (2000000 + w + 100000), .int (zi i)]) (st' := [.int 255, .int ((zt_txt.getD w []).getD i 0)]) (C' := C) ((zf94 9).trans rfl) rfl ?_
  refine zw_n (n := 13) (ls' := [.ref (2000000 + w + 100000), .int (zi i)]) (st' := [.int ((zt_txt.getD w []).getD i 0 &&& 255)]) (C' := C) ((zf94 12).trans rfl) rfl ?_
  refine zw_n (n := 14) (ls' := [.ref (2000000 + w + 100000), .int (zi i)]) (st' := [.int ((((zt_txt.getD w []).getD i 0 &&& 255).toUInt32 % 65536).toInt32)]) (C' := C) ((zf94 13).trans rfl) rfl ?_
  refine zw_iret ((zf94 14).trans rfl) hb.2.1 ⟨_, rfl, ?_⟩
  rw [hb.2.2]
  exact h
/-- charAt -/
theorem sp92 (hw : w < 7) {i : Nat} (hi : i < wL w) {q : Int32 → zx_C → Prop} : zCd X 3 92 [.ref (2000000 + w), .int (zi i)] S C (zQi q) = q (zi (wB w i)) C := by
  have hl := wL_le w hw
  have hb := wB_ok w hw i (by omega) hi
  refine zc_eI (fun q h => ?_) q
  refine zc_in ml_92 rfl ?_
  refine zw_aload_n (n := 1) ((zf92 0).trans rfl) rfl rfl ?_
  refine zw_cI (n := 4) (d' := 0) ((zf92 1).trans rfl) (zs_T rfl rfl rfl rfl hw) (by rw [ml_93]; rfl) (by decide) rfl ?_
  rw [sp93 hw]
  refine zw_n (n := 7) (ls' := [.ref (2000000 + w), .int (zi i)]) (st' := []) (C' := C) ((zf92 4).trans rfl) rfl ?_
  refine zw_aload_n (n := 8) ((zf92 7).trans rfl) rfl rfl ?_
  refine zw_n (n := 11) (ls' := [.ref (2000000 + w), .int (zi i)]) (st' := [.ref (2000000 + w + 100000)]) (C' := C) ((zf92 8).trans rfl) (by
    show (if 2000000 ≤ 2000000 + w ∧ 2000000 + w < 2000000 + 7 then zx_n (8 + 3) [.ref (2000000 + w), .int (zi i)] (.ref (2000000 + w + 100000) :: []) (S, C) else none) = _
    rw [if_pos (by omega)]
    rfl) ?_
  refine zw_n (n := 12) (ls' := [.ref (2000000 + w), .int (zi i)]) (st' := [.int (zi i), .ref (2000000 + w + 100000)]) (C' := C) ((zf92 11).trans rfl) rfl ?_
  refine zw_cI (n := 15) (d' := 2) ((zf92 12).trans rfl) (zs_S (as := [.ref (2000000 + w + 100000), .int (zi i)]) (rest := []) rfl rfl rfl rfl) (by rw [ml_94]; rfl) (by decide) rfl ?_
  rw [sp94 hw hi]
  refine zw_iret ((zf92 15).trans rfl) ?_ ⟨_, rfl, h⟩
  rw [← hb.2.2]
  exact hb.2.1
end

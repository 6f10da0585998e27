/-! BACK, both; and a call of both in one form -/
section
variable {X : zX} {S : zx_S} {C : zx_C} {e : Nat} {D : zDD}
theorem x153n (hX : zs_4 S e) (hn : gK D = none) (hI : zIX C e D) : zCd X 2 153 [.ref e] S C (zQi (fun r C1 => r = zi (-5) ∧ zIX C1 e (zRf D (-5)) ∧ zOut C C1 e (e + 42))) := by
  have h2 := hI.2.1
  rw [hn] at h2
  refine vc153 hX ?_
  rw [show C.1 e 6 = zi 0 from h2, zi_0, if_pos rfl, z_m5]
  exact xrf hX hI (by omega)
theorem x153s (hX : zs_4 S e) (hW : zWI D) {K : zT} (hn : gK D = some K) (hI : zIX C e D) : zCd X 2 153 [.ref e] S C (zQi (fun r C1 => r = zi 1 ∧ zIX C1 e (K, D.2) ∧ zOut C C1 e (e + 42))) := by
  have h2 := hI.2.1
  rw [hn] at h2
  refine vc153 hX ?_
  rw [show C.1 e 6 = zi 1 from h2.1, if_neg (by decide)]
  refine zc_mV (sp84 (zo_4_0 hX) (zo_4_1 hX) (Or.inl (by omega)) h2.2 (hW.2.1 K hn)) (fun C1 h => ?_)
  exact ⟨rfl, zIX_E hI h.1 (fun b k hb => h.2.1 b k (by omega)) h.2.2, fun b k hb => h.2.1 b k (by omega), fun b k _ => by rw [h.2.2]⟩
end
section
variable {X : zX} {a : Nat} {D : zDD}
theorem m254n (hW : zWI D) (hn : gK D = none) : zMI X a D 2 254 [] (zi (-5)) (zRf D (-5)) := by
  refine zMI_of (fun S C hS hI => ?_)
  have h2 := hI.2.1
  rw [hn] at h2
  have hr : S.2.1 a 20 = none := h2
  have hk := zj_5 hS
  refine zc_in ml_254 rfl ?_
  refine zw_aload_n (n := 1) ((zf254 0).trans rfl) rfl rfl ?_
  refine zw_n (n := 4) (ls' := [.ref a]) (st' := [.null]) (C' := C) ((zf254 1).trans rfl) (by
    show (if a < 900000 ∧ (S.1 a).1 = 5 then zx_n (1 + 3) [.ref a] (va_rf (S.2.1 a 20) :: []) (S, C) else none) = _
    rw [if_pos hk, hr]
    rfl) ?_
  refine zw_n (n := 7) (ls' := [.ref a]) (st' := []) (C' := C) ((zf254 4).trans rfl) rfl ?_
  refine zw_aload_n (n := 8) ((zf254 7).trans rfl) rfl rfl ?_
  refine zw_bipush (n := 10) ((zf254 8).trans rfl) rfl zk_b_m5 ?_
  refine zw_cI (n := 13) (d' := 0) ((zf254 10).trans rfl) (zs_V rfl rfl rfl rfl (by decide) hk.1 (zq_5 hS)) (by rw [ml_160]; rfl) (by decide) rfl ?_
  rw [z_m5]
  refine zc_mI (mrf hS hW hI (by omega)) (fun x C1 h => ?_)
  exact zw_iret ((zf254 13).trans rfl) rfl ⟨_, rfl, h.1, h.2.1, fun b k hb => h.2.2.1 b k (by omega), fun b k hb => h.2.2.2 b k (by omega)⟩
theorem m254s (hW : zWI D) {K : zT} (hn : gK D = some K) : zMI X a D 2 254 [] (zi 1) (K, D.2) := by
  refine zMI_of (fun S C hS hI => ?_)
  have h2 := hI.2.1
  rw [hn] at h2
  obtain ⟨k, hr, hk, hka, hkt, hE⟩ := h2
  refine zc_in ml_254 rfl ?_
  refine zw_aload_n (n := 1) ((zf254 0).trans rfl) rfl rfl ?_
  refine zw_getr (n := 4) ((zf254 1).trans rfl) rfl (zj_5 hS).1 (zj_5 hS).2 hr ?_
  refine zw_ifnonnull (n := 14) ((zf254 4).trans rfl) ?_
  refine zw_aload_n (n := 15) ((zf254 14).trans rfl) rfl rfl ?_
  refine zw_aload_n (n := 16) ((zf254 15).trans rfl) rfl rfl ?_
  refine zw_getr (n := 19) ((zf254 16).trans rfl) rfl (zj_5 hS).1 (zj_5 hS).2 hr ?_
  refine zw_cV (n := 22) (d' := 1) ((zf254 19).trans rfl) (zs_V rfl rfl rfl rfl (by decide) (zj_5 hS).1 (zq_5 hS)) (by rw [ml_200]; rfl) (by decide) rfl (zc_mV (sp200 hS hk (by omega) hE (hW.2.1 K hn)) (fun C1 h => ?_))
  refine zw_iconst (n := 23) ((zf254 22).trans rfl) rfl zk_i_1 ?_
  exact zw_iret ((zf254 23).trans rfl) rfl ⟨_, rfl, rfl, zIM_E hW hI h.1 h.2.1 h.2.2, fun b k hb => h.2.1 b k (by omega) (by omega), fun b k hb => by rw [h.2.2]⟩
end
/-- a call of both, where the model may make an object -/
def zMJ (X : zX) (S : zx_S) (a : Nat) (D : zDD) (dm mm : Nat) (am : List Value) (Q : Option Value → Prop) (D' : zDD) : Prop := ∀ C : zx_C, zs_5 S a → zSz S a → zIM S C a D → zE X dm mm 0 (zx_ent (zt_mt mm).2.2.1 (.ref a :: am)) [] (S, C) (fun r H' => Q r ∧ zs_5 H'.1 a ∧ zSz H'.1 a ∧ zSg S H'.1 a ∧ zIM H'.1 H'.2 a D' ∧ (∀ b k, b < a → H'.2.1 b k = C.1 b k) ∧ ∀ b k, b < a → H'.2.2 b k = C.2 b k)
def zBX (X : zX) (S : zx_S) (e a : Nat) (D : zDD) (dx mx : Nat) (ax : List Value) (dm mm : Nat) (am : List Value) : Prop := ∃ (R : Int32) (D' : zDD), zWI D' ∧ (∀ C, zIX C e D → zCd X dx mx (.ref e :: ax) S C (zQi (fun r C1 => r = R ∧ zIX C1 e D' ∧ zOut C C1 e (e + 42)))) ∧ zMJ X S a D dm mm am (fun r => r = some (.int R)) D'
def zBY (X : zX) (S : zx_S) (e a : Nat) (D : zDD) (dx mx : Nat) (ax : List Value) (dm mm : Nat) (am : List Value) : Prop := ∃ (R : Int64) (D' : zDD), zWI D' ∧ (∀ C, zIX C e D → zCd X dx mx (.ref e :: ax) S C (zQl (fun r C1 => r = R ∧ zIX C1 e D' ∧ zOut C C1 e (e + 42)))) ∧ zMJ X S a D dm mm am (fun r => r = some (.long R)) D'
theorem zBX_of {X : zX} {S : zx_S} {e a : Nat} {D : zDD} {dx mx : Nat} {ax : List Value} {dm mm : Nat} {am : List Value} (h : zBI X S e a D dx mx ax dm mm am) : zBX X S e a D dx mx ax dm mm am := by
  obtain ⟨R, D', h1, h2, h3⟩ := h
  refine ⟨R, D', h1, h2, fun C hS hz hI => zE_mono (h3 C hI) (fun r H' w => ?_)⟩
  obtain ⟨w1, x, w2, w3, w4, w5⟩ := w
  refine ⟨by rw [w2, w3], by rw [w1]; exact hS, by rw [w1]; exact hz, by rw [w1]; exact ⟨Nat.le_refl _, fun _ _ => rfl, fun _ _ _ _ => rfl⟩, by rw [w1]; exact w4, fun b k hb => w5.1 b k (Or.inl hb), fun b k hb => w5.2 b k (Or.inl hb)⟩
theorem zBY_of {X : zX} {S : zx_S} {e a : Nat} {D : zDD} {dx mx : Nat} {ax : List Value} {dm mm : Nat} {am : List Value} (h : zBL X S e a D dx mx ax dm mm am) : zBY X S e a D dx mx ax dm mm am := by
  obtain ⟨R, D', h1, h2, h3⟩ := h
  refine ⟨R, D', h1, h2, fun C hS hz hI => zE_mono (h3 C hI) (fun r H' w => ?_)⟩
  obtain ⟨w1, x, w2, w3, w4, w5⟩ := w
  refine ⟨by rw [w2, w3], by rw [w1]; exact hS, by rw [w1]; exact hz, by rw [w1]; exact ⟨Nat.le_refl _, fun _ _ => rfl, fun _ _ _ _ => rfl⟩, by rw [w1]; exact w4, fun b k hb => w5.1 b k (Or.inl hb), fun b k hb => w5.2 b k (Or.inl hb)⟩
theorem cl_image {X : zX} {S : zx_S} {e a : Nat} {D : zDD} (hX : zs_4 S e) (hW : zWI D) (ha : a ≤ 600000) : zBX X S e a D 2 152 [] 2 253 [] :=
  ⟨zi 1, (gE D, some (gE D), D.2.2), ⟨hW.1, fun K h => by cases h; exact hW.1, hW.2.2⟩, fun C hI => x152 hX hW hI, fun C hS hz hI => m253 ha hW S C hS hz hI⟩
theorem cl_back {X : zX} {S : zx_S} {e a : Nat} {D : zDD} (hX : zs_4 S e) (hW : zWI D) : zBX X S e a D 2 153 [] 2 254 [] := by
  cases hn : gK D with
  | none => exact ⟨zi (-5), zRf D (-5), hW, fun C hI => x153n hX hn hI, fun C hS hz hI => m254n hW hn S C hS hz hI⟩
  | some K => exact ⟨zi 1, (K, D.2), ⟨hW.2.1 K hn, hW.2⟩, fun C hI => x153s hX hW hn hI, fun C hS hz hI => m254s hW hn S C hS hz hI⟩

section
variable {X : zX} {S : zx_S} {C : zx_C} {q : Int32 → zx_C → Prop} {e : Nat} {M : zD}
theorem lq127_46 (hS : zs_1 S e) (hD : zWD M) {v k w : Nat} (hM : zMd C e M) (hw : w = dW M (mTurn M v)) (hwn : w < dN M) (hv : v < 256) (hv0 : v ≠ 0) (hk8 : k < dT M) (hk : mGt M v = some k) (hvt : v.testBit k = true) (hF : ∀ s, s < 3 → C.1 (e + 5) (s * 256 + wo v k) = zi (mGm M (wo v k) s)) : ∀ (j i : Nat) (C0 : zx_C) (z5 : Value), i + j = 3 → (∀ s, s < i → C0.1 (e + 5) (s * 256 + v) = zi (mGm M v s)) → (∀ s x, s < 3 → x < 256 → x ≠ v → C0.1 (e + 5) (s * 256 + x) = C.1 (e + 5) (s * 256 + x)) → (∀ b k, b ≠ e + 5 → C0.1 b k = C.1 b k) → C0.2 = C.2 → (∀ (C1 : zx_C) (y4 y5 : Value), (∀ s, s < 3 → C1.1 (e + 5) (s * 256 + v) = zi (mGm M v s)) → (∀ s x, s < 3 → x < 256 → x ≠ v → C1.1 (e + 5) (s * 256 + x) = C.1 (e + 5) (s * 256 + x)) → (∀ b k, b ≠ e + 5 → C1.1 b k = C.1 b k) → C1.2 = C.2 → zW X 3 127 4 [.ref e, .int (zi k), .int (zi ((v + 1 : Nat) : Int)), .int (zi w), y4, y5] [] S C1 (zQi q)) → zW X 3 127 46 [.ref e, .int (zi k), .int (zi v), .int (zi w), .int (zi i), z5] [] S C0 (zQi q) := by
  have hn := hD.1
  have hT := hD.2.1
  have hgs := fun x => mGm_s (M := M) (x := x) hv hv0
  intro j
  induction j with
  | zero =>
    intro i C0 z5 hi g1 g2 g3 g4 K
    refine vc127_46 hS ?_
    rw [zi_3, zlt_f (by omega), zi_s]
    exact K C0 _ _ (fun s hs => g1 s (by omega)) g2 g3 g4
  | succ j ih =>
    intro i C0 z5 hi g1 g2 g3 g4 K
    refine vc127_46 hS ?_
    have hwk : wo v k < v := wo_lt hvt
    have hM0 : zMd C0 e M := zMd_of hM (fun b k _ _ => g3 b k (by omega))
    have hval : C0.1 (e + 5) (i * 256 + wo v k) = zi (mGm M (wo v k) i) := by
      rw [g2 i (wo v k) (by omega) (by omega) (by omega)]
      exact hF i (by omega)
    have hgi := hgs i
    rw [hk] at hgi
    dsimp only at hgi
    have fin : ∀ (y : Value) (u : Int32), u = zi (mGm M v i) → zW X 3 127 46 [.ref e, .int (zi k), .int (zi v), .int (zi w), .int (zi ((i + 1 : Nat) : Int)), y] [] S (zp C0 (e + 5) (i * 256 + v) u) (zQi q) := by
      intro y u hu
      refine ih (i + 1) _ y (by omega) (fun s hs => ?_) (fun s x hs hx hxv => ?_) (fun b k hb => ?_) g4 K
      · by_cases c : s = i
        · subst c; rw [zp_hit, hu]
        · rw [zp_nf (by omega)]; exact g1 s (by omega)
      · rw [zp_nf (by omega)]; exact g2 s x hs hx hxv
      · rw [zp_ne hb]; exact g3 b k hb
    rw [zi_3, zlt_t (by omega), zeq_i (by omega)]
    by_cases c : (i : Int) = (w : Int)
    · rw [if_pos c]
      have ciw : i = w := by omega
      rw [if_pos (by omega)] at hgi
      rw [sp59 hS hM0 hD (by omega) hk8, sp61 (by omega) hv, sp66 hS (by omega) (by omega), hval, zi_add, zi_256, zi_mul, zi_add, sp12 (za_1_7 hS) (by omega) (by omega) (by omega), zi_s, show ((i : Int) * 256 + v).toNat = i * 256 + v by omega]
      exact fin _ _ (by rw [hgi, ← hw, ciw])
    · rw [if_neg c]
      rw [if_neg (by omega), Int.zero_add] at hgi
      rw [sp61 (by omega) hv, sp66 hS (by omega) (by omega), hval, zi_0, zi_add, Int.zero_add, zi_256, zi_mul, zi_add, sp12 (za_1_7 hS) (by omega) (by omega) (by omega), zi_s, show ((i : Int) * 256 + v).toNat = i * 256 + v by omega]
      exact fin _ _ (by rw [hgi])
theorem lq127_4 (hS : zs_1 S e) (hD : zWD M) : ∀ (j v : Nat) (C0 : zx_C) (i1 : Int32) (z3 z4 z5 : Value), v + j = dL M + 1 → 1 ≤ v → zMd C0 e M → (∀ x, x < v → mSub x (dL M) → ∀ s, s < 3 → C0.1 (e + 5) (s * 256 + x) = zi (mGm M x s)) → (v = dL M + 1 → i1 = zi (zo (mGt M (dL M)))) → zW X 3 127 4 [.ref e, .int i1, .int (zi v), z3, z4, z5] [] S C0 (zQi (fun r C1 => r = zi (zo (mGt M (dL M))) ∧ (∀ s, s < 3 → C1.1 (e + 5) (s * 256 + dL M) = zi (mGm M (dL M) s)) ∧ (∀ b k, (b ≠ e + 5 ∨ k = 0 ∨ k = 256 ∨ k = 512) → C1.1 b k = C0.1 b k) ∧ C1.2 = C0.2)) := by
  have hn := hD.1
  have hL2 : dL M < 256 := pow_256 hD.2.2.1 hD.2.1
  intro j
  induction j with
  | zero =>
    intro v C0 i1 z3 z4 z5 hv h1 g1 g2 g3
    refine vc127_4 hS ?_
    rw [g1.2.2.2.2.1, zlt_t (by omega)]
    exact ⟨g3 (by omega), fun s hs => g2 _ (by omega) (mSub_r _) s hs, fun _ _ _ => rfl, rfl⟩
  | succ j ih =>
    intro v C0 i1 z3 z4 z5 hv h1 g1 g2 g3
    refine vc127_4 hS ?_
    have hv2 : v < 256 := by omega
    rw [g1.2.2.2.2.1, zlt_f (by omega), zi_256, zlt_t (by omega)]
    by_cases hsub : mSub v (dL M)
    · rw [zi_0, if_pos ((bz_sub hv2 hL2).mpr hsub)]
      have hv0 : v ≠ 0 := by omega
      have hvT : v < 2 ^ dT M := Nat.lt_of_le_of_lt (mSub_le hsub) hD.2.2.1
      have hlt := hD.2.2.2.2.1 _ (mTurn_lt hD hsub hv0)
      have hF : ∀ k, k < dT M → v.testBit k = true → C0.1 (e + 5) (dW M (mTurn M v) * 256 + wo v k) = zi (mGm M (wo v k) (dW M (mTurn M v))) ∧ 0 ≤ mGm M (wo v k) (dW M (mTurn M v)) ∧ mGm M (wo v k) (dW M (mTurn M v)) ≤ 792 := fun k hk hb =>
        have h8 := hD.2.1
        ⟨g2 _ (wo_lt hb) (mSub_t (mSub_wo hv2 (by omega)) hsub) _ (by omega), mGm_b hD (mSub_t (mSub_wo hv2 (by omega)) hsub)⟩
      rw [sp63 hS g1 hD hv2 hv0 (mSub_cnt hsub 8), sp65 hS g1 hD hlt hvT hF]
      obtain ⟨k, hk, hk8, hkb⟩ := mArg_some (lt := ltf (fun k => dU M (dW M (mTurn M v)) k + mGm M (wo v k) (dW M (mTurn M v)))) hv2 hv0
      have hk2 : mGt M v = some k := hk
      have hk3 : mGr (fun k => dU M (dW M (mTurn M v)) k + mGm M (wo v k) (dW M (mTurn M v))) v = some k := hk
      have hkT := bit_lt hvT hkb
      rw [hk3]
      show zW X 3 127 46 [.ref e, .int (zi (k : Int)), .int (zi v), .int (zi (dW M (mTurn M v) : Nat)), .int (zi ((0 : Nat) : Int)), z5] [] S C0 _
      refine lq127_46 hS hD g1 rfl hlt hv2 hv0 hkT hk2 hkb (fun s hs => g2 _ (wo_lt hkb) (mSub_t (mSub_wo hv2 hk8) hsub) s hs) 3 0 C0 z5 (by omega) (fun s hs => absurd hs (Nat.not_lt_zero s)) (fun _ _ _ _ _ => rfl) (fun _ _ _ => rfl) rfl (fun C1 y4 y5 b1 b2 b3 b4 => ?_)
      have fr : ∀ b k, (b ≠ e + 5 ∨ k = 0 ∨ k = 256 ∨ k = 512) → C1.1 b k = C0.1 b k := fun b k hb => by
        by_cases cb : b = e + 5
        · subst cb
          rcases hb with hb | hb | hb | hb
          · exact absurd rfl hb
          · subst hb; exact b2 0 0 (by omega) (by omega) (by omega)
          · subst hb; exact b2 1 0 (by omega) (by omega) (by omega)
          · subst hb; exact b2 2 0 (by omega) (by omega) (by omega)
        · exact b3 b k cb
      refine zW_mono (ih (v + 1) C1 _ _ y4 y5 (by omega) (by omega) (zMd_of g1 (fun b k _ _ => b3 b k (by omega))) (fun x hx hxL s hs => ?_) (fun hvL => ?_)) (fun r C2 w => by obtain ⟨y, e1, w1, w2, w3, w4⟩ := w; exact ⟨y, e1, w1, w2, fun b k hb => (w3 b k hb).trans (fr b k hb), w4.trans b4⟩)
      · by_cases c : x = v
        · subst c; exact b1 s hs
        · rw [b2 s x hs (by omega) c]
          exact g2 x (by omega) hxL s hs
      · have hvL2 : v = dL M := by omega
        rw [← hvL2, hk2]
        rfl
    · rw [zi_0, if_neg (fun q => hsub ((bz_sub hv2 hL2).mp q)), zi_s]
      refine ih (v + 1) C0 i1 z3 z4 z5 (by omega) (by omega) g1 (fun x hx hxL => ?_) (fun hvL => ?_)
      · by_cases c : x = v
        · subst c; exact absurd hxL hsub
        · exact g2 x (by omega) hxL
      · have hvL2 : v = dL M := by omega
        rw [hvL2] at hsub
        exact absurd (mSub_r _) hsub
/-- lookAllAhead -/
theorem sp127 (hS : zs_1 S e) (hM : zMd C e M) (hD : zWD M) (hz : zMz C e) : zCd X 3 127 [.ref e] S C (zQi (fun r C1 => r = zi (zo (mGt M (dL M))) ∧ (∀ s, s < 3 → C1.1 (e + 5) (s * 256 + dL M) = zi (mGm M (dL M) s)) ∧ (∀ b k, (b ≠ e + 5 ∨ k = 0 ∨ k = 256 ∨ k = 512) → C1.1 b k = C.1 b k) ∧ C1.2 = C.2)) := by
  refine vc127 hS ?_
  refine lq127_4 hS hD (dL M) 1 C _ _ _ _ (by omega) (by omega) hM (fun x hx _ s hs => ?_) (fun hL => ?_)
  · have hx0 : x = 0 := by omega
    subst hx0
    have h0 : s * 256 + 0 = s * 256 := Nat.add_zero _
    rw [mGm_z, h0]
    exact hz s hs
  · have hL0 : dL M = 0 := by omega
    have hg : mGt M 0 = none := mArg_none (fun j _ => Nat.zero_testBit j)
    rw [hL0, hg]
    rfl
end

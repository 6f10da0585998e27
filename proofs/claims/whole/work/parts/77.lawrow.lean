/-! THE LAW'S LOOP: its rows -/
abbrev zLl (i : Nat) : List Value := [.ref 3000000, .ref 0, .ref 42, .int (zi (i : Int))]
def zA (pc : Nat) (k : Int) : Prop := zt_code 0 pc = some (.aload_n 0, 0, 0, 0) ∧ zt_code 0 (pc + 1) = some (.iload_n 3, 0, 0, 0) ∧ zt_code 0 (pc + 2) = some (.iconst k, 0, 0, 0) ∧ zt_code 0 (pc + 3) = some (.iadd, 0, 0, 0) ∧ zt_code 0 (pc + 4) = some (.iaload, 0, 0, 0)
theorem zi_to (x : Int32) : zi x.toInt = x := Int32.ofInt_toInt x
theorem zrg (x : Int32) : -2147483648 ≤ x.toInt ∧ x.toInt < 2147483648 := ⟨x.le_toInt, x.toInt_lt⟩
section
variable {L : Nat} {xs : Nat → Int32} {i d pc : Nat} {st : List Value} {H : zx_H} {Q : Option Value → zx_H → Prop}
theorem ze_arg {kn : Nat} (hc : zA pc (kn : Int)) (hi : i + 6 ≤ L) (hk : kn < 6) (hL : L ≤ 3072) (h : zE (some (L, xs)) d 0 (pc + 5) (zLl i) (.int (xs (i + kn)) :: st) H Q) : zE (some (L, xs)) d 0 pc (zLl i) st H Q := by
  obtain ⟨c0, c1, c2, c3, c4⟩ := hc
  refine zE_next (pc' := pc + 1) (ls' := zLl i) (st' := .ref 3000000 :: st) (H' := H) c0 rfl ?_
  refine zE_next (pc' := pc + 2) (ls' := zLl i) (st' := .int (zi (i : Int)) :: .ref 3000000 :: st) (H' := H) c1 rfl ?_
  refine zE_next (pc' := pc + 3) (ls' := zLl i) (st' := .int (Int32.ofInt (kn : Int)) :: .int (zi (i : Int)) :: .ref 3000000 :: st) (H' := H) c2 rfl ?_
  refine zE_next (pc' := pc + 4) (ls' := zLl i) (st' := .int (zi ((i + kn : Nat) : Int)) :: .ref 3000000 :: st) (H' := H) c3 (by
    rw [Int.natCast_add, ← zi_add]
    rfl) ?_
  refine zE_next (pc' := pc + 5) (ls' := zLl i) (st' := .int (xs (i + kn)) :: st) (H' := H) c4 (by
    show (if zi ((i + kn : Nat) : Int) < 0 ∨ L ≤ (zi ((i + kn : Nat) : Int)).toNatClampNeg then none else zx_n (pc + 4 + 1) (zLl i) (.int (xs (zi ((i + kn : Nat) : Int)).toNatClampNeg) :: st) H) = _
    have hv : vp_in (zi ((i + kn : Nat) : Int)) L := zi_in (by omega) (by omega) (by omega)
    rw [if_neg hv, zi_ix (by omega) (by omega), Int.toNat_natCast]
    rfl) ?_
  exact h
end
/-- what stands before each call -/
def zIn (S : zx_S) (C : zx_C) (D : zDD) : Prop := zs_4 S 0 ∧ zs_5 S 42 ∧ zSz S 42 ∧ zWI D ∧ zIX C 0 D ∧ zIM S C 42 D
theorem zIX_low {C C1 : zx_C} {e : Nat} {D : zDD} (h : zIX C e D) (h1 : ∀ b k, b < e + 42 → C1.1 b k = C.1 b k) (h2 : ∀ b k, b < e + 42 → C1.2 b k = C.2 b k) : zIX C1 e D := by
  obtain ⟨g1, g2, g3, g4, g5, g6, g7⟩ := h
  refine ⟨zXE_of g1 (fun b k _ _ => h1 b k (by omega)), zXk_of g2 (h1 _ _ (by omega)) (fun b k _ _ => h1 b k (by omega)), zXS_of g3 (fun b k _ _ => h1 b k (by omega)) (fun b k _ _ => h2 b k (by omega)), ?_, fun i hi => ?_, fun j hj => ?_, zZz_of g7 (fun b k hb _ => h1 b k (by omega))⟩
  · rw [h1 _ _ (by omega)]; exact g4
  · rw [h1 _ _ (by omega)]; exact g5 i hi
  · rw [h1 _ _ (by omega)]; exact g6 j hj
theorem zIM_up {S : zx_S} {C C1 : zx_C} {a : Nat} {D : zDD} (hW : zWI D) (h : zIM S C a D) (h1 : ∀ b k, a ≤ b → C1.1 b k = C.1 b k) (h2 : ∀ b k, a ≤ b → C1.2 b k = C.2 b k) : zIM S C1 a D := by
  obtain ⟨g1, g2, g3, g4, g5, g6, g7⟩ := h
  refine ⟨zME_of hW.1 g1 (fun b k _ q _ => h1 b k q), zMk_of hW.2.1 g2 (fun b k hb => h1 b k (by omega)), zMS_of g3 (fun b k _ _ => h1 b k (by omega)) (fun b k _ _ => h1 b k (by omega)) (fun b k _ _ => h2 b k (by omega)), ?_, fun i hi => ?_, fun j hj => ?_, g7⟩
  · rw [h1 _ _ (by omega)]; exact g4
  · rw [h1 _ _ (by omega)]; exact g5 i hi
  · rw [h1 _ _ (by omega)]; exact g6 j hj
section
variable {X : zX} {d p j mx mm dx dm na : Nat} {ax am st ls : List Value} {S : zx_S} {C : zx_C} {D : zDD} {Q : Option Value → zx_H → Prop}
/-- the class's call -/
theorem ze_cx (hB : zBX X S 0 42 D dx mx ax dm mm am) (hI : zIn S C D) (hc : zt_code 0 p = some (.invokevirtual j, mx, na, 4)) (h1 : Nat.ble na st.length = true) (h2 : (st.take na).reverse = .ref 0 :: ax) (h3 : st.drop na = []) (ha : zx_aok (zt_mt mx).2.2.1 (.ref 0 :: ax) = true) (hd : dx ≤ d)
    (K : ∀ R D' C1, zWI D' → zIX C1 0 D' → zIM S C1 42 D → zMJ X S 42 D dm mm am (fun r => r = some (.int R)) D' → zE X (d + 1) 0 (p + 3) ls [.int R] (S, C1) Q) : zE X (d + 1) 0 p ls st (S, C) Q := by
  obtain ⟨hX, hM, hz, hW, hIX, hIM⟩ := hI
  obtain ⟨R, D', b1, b2, b3⟩ := hB
  refine zE_call hc (zs_V h1 h2 h3 rfl (by decide) (zj_4 hX).1 (zq_4 hX)) ha (zE_deep hd (zE_mono (b2 C hIX) (fun r H' w => ?_)))
  obtain ⟨w1, x, w2, w3, w4, w5⟩ := w
  obtain ⟨S1, C1⟩ := H'
  dsimp only at w1 w4 w5
  subst w1
  subst w2
  subst w3
  exact K x D' C1 b1 w4 (zIM_up hW hIM (fun b k hb => w5.1 b k (Or.inr (by omega))) (fun b k hb => w5.2 b k (Or.inr (by omega)))) b3
/-- the model's call -/
theorem ze_cm {v : Value} {D' : zDD} (hJ : zMJ X S 42 D dm mm am (fun r => r = some v) D') (hS : zs_4 S 0 ∧ zs_5 S 42 ∧ zSz S 42) (hW' : zWI D') (hX : zIX C 0 D') (hM : zIM S C 42 D) (hc : zt_code 0 p = some (.invokevirtual j, mm, na, 5)) (h1 : Nat.ble na st.length = true) (h2 : (st.take na).reverse = .ref 42 :: am) (h3 : st.drop na = [v]) (hv : v.category ≤ 2) (ha : zx_aok (zt_mt mm).2.2.1 (.ref 42 :: am) = true) (hd : dm ≤ d)
    (K : ∀ S2 C2, zIn S2 C2 D' → zE X (d + 1) 0 (p + 3) ls [v, v] (S2, C2) Q) : zE X (d + 1) 0 p ls st (S, C) Q := by
  obtain ⟨hx, hm, hz⟩ := hS
  refine zE_call hc (zs_V h1 h2 h3 (by show Nat.ble (v.category + 0) 8 = true; exact Nat.ble_eq_true_of_le (by omega)) (by decide) (zj_5 hm).1 (zq_5 hm)) ha (zE_deep hd (zE_mono (hJ C hm hz hM) (fun r H' w => ?_)))
  obtain ⟨w1, w2, w3, w4, w5, w6, w7⟩ := w
  obtain ⟨S1, C1⟩ := H'
  subst w1
  have hcn : 42 ≤ S.2.2.1 := by
    obtain ⟨u, v, -, -, q, -⟩ := hz
    rw [q]
    exact Nat.le_trans (by decide) (Nat.le_add_right 42 _)
  exact K S1 C1 ⟨zs_4_of hx (fun b _ q => w4.2.1 b (by omega)) (fun b k _ q => w4.2.2 b k (by omega) (by omega)), w2, w3, hW', zIX_low hX (fun b k q => w6 b k (by omega)) (fun b k q => w7 b k (by omega)), w5⟩
end

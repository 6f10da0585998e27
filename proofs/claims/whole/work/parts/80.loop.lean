/-! THE LAW'S LOOP (cases by program: wip/whole/gen78.py; this part by hand) -/
set_option maxRecDepth 40000
theorem ze_sw {X : zX} {d m pc t : Nat} {e lo o : Int} {x : Int32} {os : List Int} {ls st : List Value} {H : zx_H} {Q : Option Value → zx_H → Prop} (ht : ((pc : Int) + o).toNat = t) (h1 : zE X d m t ls st H Q) (h2 : zE X d m (zx_sw pc e x (lo + 1) os) ls st H Q) : zE X d m (zx_sw pc e x lo (o :: os)) ls st H Q := by
  unfold zx_sw
  by_cases c : x.toInt = lo
  · rw [if_pos c, ht]; exact h1
  · rw [if_neg c]; exact h2
section
variable {L : Nat} {xs : Nat → Int32} {d : Nat}
def zQe (r : Option Value) (H' : zx_H) : Prop := r = some (.int 1) ∧ zSz H'.1 42
theorem law_loop (hEst : ∀ S D, zs_4 S 0 → zs_5 S 42 → zWI D → zBX (some (L, xs)) S 0 42 D 7 83 [] 7 198 []) (hL : L ≤ 3072) (hd : 64 ≤ d) : ∀ (j i : Nat) (S : zx_S) (C : zx_C) (D : zDD), L ≤ i + 6 * j → i ≤ 3078 → zIn S C D → zE (some (L, xs)) (d + 1) 0 18 (zLl i) [] (S, C) zQe := by
  intro j
  induction j with
  | zero =>
    intro i S C D hj hi hI
    refine zE_next (pc' := 19) (ls' := zLl i) (st' := [.int (zi (i : Int))]) (H' := (S, C)) ((zf0 18).trans rfl) rfl ?_
    refine zE_next (pc' := 20) (ls' := zLl i) (st' := [.ref 3000000, .int (zi (i : Int))]) (H' := (S, C)) ((zf0 19).trans rfl) rfl ?_
    refine zE_next (pc' := 21) (ls' := zLl i) (st' := [.int (Int32.ofNat L), .int (zi (i : Int))]) (H' := (S, C)) ((zf0 20).trans rfl) rfl ?_
    refine zE_next (pc' := 23) (ls' := zLl i) (st' := [.int (zi 6), .int (Int32.ofNat L), .int (zi (i : Int))]) (H' := (S, C)) ((zf0 21).trans rfl) rfl ?_
    refine zE_next (pc' := 24) (ls' := zLl i) (st' := [.int (zi ((L : Int) - 6)), .int (zi (i : Int))]) (H' := (S, C)) ((zf0 23).trans rfl) (by rw [← zi_sub]; rfl) ?_
    refine zE_next (pc' := 1635) (ls' := zLl i) (st' := []) (H' := (S, C)) ((zf0 24).trans rfl) (by
      show zx_n (if zi ((L : Int) - 6) < zi (i : Int) then 1635 else 24 + 3) (zLl i) [] (S, C) = _
      rw [if_pos ((zi_lt (a := (L : Int) - 6) (b := (i : Int)) (by omega) (by omega) (by omega) (by omega)).mpr (by omega))]; rfl) ?_
    refine zE_next (pc' := 1636) (ls' := zLl i) (st' := [.int 1]) (H' := (S, C)) ((zf0 1635).trans rfl) rfl ?_
    exact zE_ret ((zf0 1636).trans rfl) rfl ⟨rfl, hI.2.2.1⟩
  | succ j ih =>
    intro i S C D hj hi hI
    refine zE_next (pc' := 19) (ls' := zLl i) (st' := [.int (zi (i : Int))]) (H' := (S, C)) ((zf0 18).trans rfl) rfl ?_
    refine zE_next (pc' := 20) (ls' := zLl i) (st' := [.ref 3000000, .int (zi (i : Int))]) (H' := (S, C)) ((zf0 19).trans rfl) rfl ?_
    refine zE_next (pc' := 21) (ls' := zLl i) (st' := [.int (Int32.ofNat L), .int (zi (i : Int))]) (H' := (S, C)) ((zf0 20).trans rfl) rfl ?_
    refine zE_next (pc' := 23) (ls' := zLl i) (st' := [.int (zi 6), .int (Int32.ofNat L), .int (zi (i : Int))]) (H' := (S, C)) ((zf0 21).trans rfl) rfl ?_
    refine zE_next (pc' := 24) (ls' := zLl i) (st' := [.int (zi ((L : Int) - 6)), .int (zi (i : Int))]) (H' := (S, C)) ((zf0 23).trans rfl) (by rw [← zi_sub]; rfl) ?_
    by_cases c : (L : Int) - 6 < (i : Int)
    · refine zE_next (pc' := 1635) (ls' := zLl i) (st' := []) (H' := (S, C)) ((zf0 24).trans rfl) (by
        show zx_n (if zi ((L : Int) - 6) < zi (i : Int) then 1635 else 24 + 3) (zLl i) [] (S, C) = _
        rw [if_pos ((zi_lt (a := (L : Int) - 6) (b := (i : Int)) (by omega) (by omega) (by omega) (by omega)).mpr c)]; rfl) ?_
      refine zE_next (pc' := 1636) (ls' := zLl i) (st' := [.int 1]) (H' := (S, C)) ((zf0 1635).trans rfl) rfl ?_
      exact zE_ret ((zf0 1636).trans rfl) rfl ⟨rfl, hI.2.2.1⟩
    have hi2 : i + 6 ≤ L := by omega
    refine zE_next (pc' := 27) (ls' := zLl i) (st' := []) (H' := (S, C)) ((zf0 24).trans rfl) (by
      show zx_n (if zi ((L : Int) - 6) < zi (i : Int) then 1635 else 24 + 3) (zLl i) [] (S, C) = _
      rw [if_neg (fun h => c ((zi_lt (a := (L : Int) - 6) (b := (i : Int)) (by omega) (by omega) (by omega) (by omega)).mp h))]; rfl) ?_
    refine zE_next (pc' := 28) (ls' := zLl i) (st' := [.ref 3000000]) (H' := (S, C)) ((zf0 27).trans rfl) rfl ?_
    refine zE_next (pc' := 29) (ls' := zLl i) (st' := [.int (zi (i : Int)), .ref 3000000]) (H' := (S, C)) ((zf0 28).trans rfl) rfl ?_
    refine zE_next (pc' := 30) (ls' := zLl i) (st' := [.int (xs i)]) (H' := (S, C)) ((zf0 29).trans rfl) (by
      show (if zi (i : Int) < 0 ∨ L ≤ (zi (i : Int)).toNatClampNeg then none else zx_n (29 + 1) (zLl i) (.int (xs (zi (i : Int)).toNatClampNeg) :: []) (S, C)) = _
      have hv : vp_in (zi (i : Int)) L := zi_in (by omega) (by omega) (by omega)
      rw [if_neg hv, zi_ix (by omega) (by omega), Int.toNat_natCast]
      rfl) ?_
    refine zE_next (pc' := 32) (ls' := zLl i) (st' := [.int (zi 63), .int (xs i)]) (H' := (S, C)) ((zf0 30).trans rfl) rfl ?_
    refine zE_next (pc' := 33) (ls' := zLl i) (st' := [.int (xs i &&& zi 63)]) (H' := (S, C)) ((zf0 32).trans rfl) rfl ?_
    have K : ∀ S2 C2 D2, zIn S2 C2 D2 → zE (some (L, xs)) (d + 1) 0 1629 (zLl i) [] (S2, C2) zQe := by
      intro S2 C2 D2 h2
      refine zE_next (pc' := 1632) (ls' := zLl (i + 6)) (st' := []) (H' := (S2, C2)) ((zf0 1629).trans rfl) (by
        show zx_n (1629 + 3) [.ref 3000000, .ref 0, .ref 42, .int (zi (i : Int) + zi 6)] [] (S2, C2) = _
        rw [zi_add]; rfl) ?_
      refine zE_next (pc' := 18) (ls' := zLl (i + 6)) (st' := []) (H' := (S2, C2)) ((zf0 1632).trans rfl) rfl ?_
      exact ih (i + 6) S2 C2 D2 (by omega) (by omega) h2
    refine zE_next (pc' := zx_sw 33 1596 (xs i &&& zi 63) 0 [203, 246, 319, 382, 416, 439, 472, 505, 528, 571, 614, 647, 670, 703, 726, 759, 782, 795, 808, 841, 874, 907, 940, 984, 1007, 1030, 1063, 1096, 1119, 1152, 1175, 1198, 1211, 1244, 1277, 1310, 1353, 1376, 1409, 1432, 1455, 1488, 1501, 1524, 1547, 1560, 1573]) (ls' := zLl i) (st' := []) (H' := (S, C)) ((zf0 33).trans rfl) rfl ?_
    refine ze_sw (t := 236) rfl (law_0 hI hi2 hL hd K) ?_
    refine ze_sw (t := 279) rfl (law_1 hI hi2 hL hd K) ?_
    refine ze_sw (t := 352) rfl (law_2 hI hi2 hL hd K) ?_
    refine ze_sw (t := 415) rfl (law_3 hI hi2 hL hd K) ?_
    refine ze_sw (t := 449) rfl (law_4 hI hi2 hL hd K) ?_
    refine ze_sw (t := 472) rfl (law_5 hI hi2 hL hd K) ?_
    refine ze_sw (t := 505) rfl (law_6 hI hi2 hL hd K) ?_
    refine ze_sw (t := 538) rfl (law_7 hI hi2 hL hd K) ?_
    refine ze_sw (t := 561) rfl (law_8 hI hi2 hL hd K) ?_
    refine ze_sw (t := 604) rfl (law_9 hI hi2 hL hd K) ?_
    refine ze_sw (t := 647) rfl (law_10 hI hi2 hL hd K) ?_
    refine ze_sw (t := 680) rfl (law_11 hI hi2 hL hd K) ?_
    refine ze_sw (t := 703) rfl (law_12 hI hi2 hL hd K) ?_
    refine ze_sw (t := 736) rfl (law_13 hI hi2 hL hd K) ?_
    refine ze_sw (t := 759) rfl (law_14 hI hi2 hL hd K) ?_
    refine ze_sw (t := 792) rfl (law_15 hI hi2 hL hd K) ?_
    refine ze_sw (t := 815) rfl (law_16 hI hi2 hL hd K) ?_
    refine ze_sw (t := 828) rfl (law_17 hEst hI hi2 hL hd K) ?_
    refine ze_sw (t := 841) rfl (law_18 hI hi2 hL hd K) ?_
    refine ze_sw (t := 874) rfl (law_19 hI hi2 hL hd K) ?_
    refine ze_sw (t := 907) rfl (law_20 hI hi2 hL hd K) ?_
    refine ze_sw (t := 940) rfl (law_21 hI hi2 hL hd K) ?_
    refine ze_sw (t := 973) rfl (law_22 hI hi2 hL hd K) ?_
    refine ze_sw (t := 1017) rfl (law_23 hI hi2 hL hd K) ?_
    refine ze_sw (t := 1040) rfl (law_24 hI hi2 hL hd K) ?_
    refine ze_sw (t := 1063) rfl (law_25 hI hi2 hL hd K) ?_
    refine ze_sw (t := 1096) rfl (law_26 hI hi2 hL hd K) ?_
    refine ze_sw (t := 1129) rfl (law_27 hI hi2 hL hd K) ?_
    refine ze_sw (t := 1152) rfl (law_28 hI hi2 hL hd K) ?_
    refine ze_sw (t := 1185) rfl (law_29 hI hi2 hL hd K) ?_
    refine ze_sw (t := 1208) rfl (law_30 hI hi2 hL hd K) ?_
    refine ze_sw (t := 1231) rfl (law_31 hI hi2 hL hd K) ?_
    refine ze_sw (t := 1244) rfl (law_32 hI hi2 hL hd K) ?_
    refine ze_sw (t := 1277) rfl (law_33 hI hi2 hL hd K) ?_
    refine ze_sw (t := 1310) rfl (law_34 hI hi2 hL hd K) ?_
    refine ze_sw (t := 1343) rfl (law_35 hI hi2 hL hd K) ?_
    refine ze_sw (t := 1386) rfl (law_36 hI hi2 hL hd K) ?_
    refine ze_sw (t := 1409) rfl (law_37 hI hi2 hL hd K) ?_
    refine ze_sw (t := 1442) rfl (law_38 hI hi2 hL hd K) ?_
    refine ze_sw (t := 1465) rfl (law_39 hI hi2 hL hd K) ?_
    refine ze_sw (t := 1488) rfl (law_40 hI hi2 hL hd K) ?_
    refine ze_sw (t := 1521) rfl (law_41 hI hi2 hL hd K) ?_
    refine ze_sw (t := 1534) rfl (law_42 hI hi2 hL hd K) ?_
    refine ze_sw (t := 1557) rfl (law_43 hI hi2 hL hd K) ?_
    refine ze_sw (t := 1580) rfl (law_44 hI hi2 hL hd K) ?_
    refine ze_sw (t := 1593) rfl (law_45 hI hi2 hL hd K) ?_
    refine ze_sw (t := 1606) rfl (law_46 hI hi2 hL hd K) ?_
    exact K S C D hI
/-- from the law's entry -/
def zH00 : zx_H := ((fun _ => (99, 0), fun _ _ => none, 0, 0), fun _ _ => 0, fun _ _ => 0)
theorem law_all (hEst : ∀ S D, zs_4 S 0 → zs_5 S 42 → zWI D → zBX (some (L, xs)) S 0 42 D 7 83 [] 7 198 []) (hL : L ≤ 3072) (hd : 64 ≤ d) : zE (some (L, xs)) (d + 1) 0 0 [.ref 3000000, .retAddr 0, .retAddr 0, .retAddr 0] [] zH00 zQe := by
  obtain ⟨H1, a1, J1⟩ := mk1 (some (L, xs)) zH00 (by decide)
  have hl := zKx_l
  have hm := zKm_l
  have hc1 : H1.1.2.2.1 = 42 := by
    have := J1.1
    rw [hl.1] at this
    exact this
  have hs1 : H1.1.2.2.2 ≤ 3000 := by
    have h2 : H1.1.2.2.2 = 0 + zKx.2.2.2 := J1.2.1
    omega
  obtain ⟨H2, a2, J2⟩ := mk157 (some (L, xs)) H1 (by omega)
  rw [hc1] at a2 J2
  have hk1 : (zx_new zH00 (4, 0) 14).1.1 0 = (4, 0) := rfl
  have hk2 : (zx_new H1 (5, 0) 43).1.1 42 = (5, 0) := if_pos hc1.symm
  refine zE_next (pc' := 3) (ls' := [.ref 3000000, .retAddr 0, .retAddr 0, .retAddr 0]) (st' := [.ref 0]) (H' := zx_new zH00 (4, 0) 14) ((zf0 0).trans rfl) rfl ?_
  refine zE_next (pc' := 4) (ls' := [.ref 3000000, .retAddr 0, .retAddr 0, .retAddr 0]) (st' := [.ref 0, .ref 0]) (H' := zx_new zH00 (4, 0) 14) ((zf0 3).trans rfl) rfl ?_
  refine zE_call (m' := 1) (as := [.ref 0]) (rest := [.ref 0]) ((zf0 4).trans rfl) (zs_C rfl rfl rfl rfl (by decide) (by rw [hk1]; decide)) (by rw [ml_1]; rfl) ?_
  rw [ml_1]
  refine ⟨200, none, H1, zr_dmono (some (L, xs)) (by omega) a1, ?_⟩
  refine zE_next (pc' := 8) (ls' := [.ref 3000000, .ref 0, .retAddr 0, .retAddr 0]) (st' := []) (H' := H1) ((zf0 7).trans rfl) rfl ?_
  refine zE_next (pc' := 11) (ls' := [.ref 3000000, .ref 0, .retAddr 0, .retAddr 0]) (st' := [.ref 42]) (H' := zx_new H1 (5, 0) 43) ((zf0 8).trans rfl) (by
    show (if H1.1.2.2.1 < 800000 then zx_n (8 + 3) [.ref 3000000, .ref 0, .retAddr 0, .retAddr 0] (.ref H1.1.2.2.1 :: []) (zx_new H1 (5, 0) 43) else none) = _
    rw [if_pos (by omega), hc1]; rfl) ?_
  refine zE_next (pc' := 12) (ls' := [.ref 3000000, .ref 0, .retAddr 0, .retAddr 0]) (st' := [.ref 42, .ref 42]) (H' := zx_new H1 (5, 0) 43) ((zf0 11).trans rfl) rfl ?_
  refine zE_call (m' := 157) (as := [.ref 42]) (rest := [.ref 42]) ((zf0 12).trans rfl) (zs_C rfl rfl rfl rfl (by decide) (by rw [hk2]; decide)) (by rw [ml_157]; rfl) ?_
  rw [ml_157]
  refine ⟨200, none, H2, zr_dmono (some (L, xs)) (by omega) a2, ?_⟩
  refine zE_next (pc' := 16) (ls' := [.ref 3000000, .ref 0, .ref 42, .retAddr 0]) (st' := []) (H' := H2) ((zf0 15).trans rfl) rfl ?_
  refine zE_next (pc' := 17) (ls' := [.ref 3000000, .ref 0, .ref 42, .retAddr 0]) (st' := [.int (zi 0)]) (H' := H2) ((zf0 16).trans rfl) rfl ?_
  refine zE_next (pc' := 18) (ls' := zLl 0) (st' := []) (H' := H2) ((zf0 17).trans rfl) rfl ?_
  have hcn : H2.1.2.2.1 = 42 + 295 := by rw [J2.1, hm.1]
  have hsl : H2.1.2.2.2 ≤ 6000 := by
    have h2 : H2.1.2.2.2 = H1.1.2.2.2 + zKm.2.2.2 := J2.2.1
    omega
  have z4 : zs_4 H1.1 0 := zs4_mk J1 (by decide)
  have hI : zIn H2.1 H2.2 zD0 := ⟨zs_4_of z4 (fun b _ q => J2.2.2.1 b (by omega)) (fun b k _ q => J2.2.2.2.1 b k (by omega)), zs5_mk J2 (by decide), ⟨0, 0, Or.inl ⟨zJn J2 zKm_n.1, rfl⟩, Or.inl ⟨zJn J2 zKm_n.2, rfl⟩, hcn, hsl⟩, zWI_0, zIX_low (zIX_0 J1) (fun b k q => J2.2.2.2.2.1 b k (by omega)) (fun b k q => J2.2.2.2.2.2.1 b k (by omega)), zIM_0 J2⟩
  exact law_loop hEst hL hd L 0 H2.1 H2.2 zD0 (by omega) (by omega) hI
end

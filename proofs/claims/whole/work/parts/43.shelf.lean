/-- an element, 0 where there is none -/
def mElem (H : zH) (s : Nat) (i : Int) : Int64 := if 0 ≤ i ∧ 0 ≤ hk H s ∧ hk H s ≤ 4 ∧ i < hz H s then hl H s i.toNat else 0
section
variable {X : zX} {S : zx_S} {C : zx_C} {q : Int64 → zx_C → Prop} {e : Nat} {H : zH}
/-- elementOf -/
theorem sp23 (hS : zs_2 S e) (hH : zXS C e H) (hW : zWH H) {s : Nat} (hs : s < 8) {i : Int} (hi : -2147483648 ≤ i ∧ i < 2147483648) : zCd X 3 23 [.ref e, .int (zi s), .int (zi i)] S C (zQl q) = q (mElem H s i) C := by
  refine zc_eL (fun q h => vc23 hS ?_) q
  have hw := hW s hs
  have hh := hH s hs
  unfold mElem at h
  by_cases c : i < 0
  · rw [if_neg (by omega)] at h
    rw [zi_0, zlt_t (by omega), if_pos rfl]
    exact h
  · rw [zi_0, zlt_f (by omega), sp15 hS hH hW hs]
    by_cases c2 : 0 ≤ hk H s ∧ hk H s ≤ 4
    · rw [if_pos c2]
      by_cases c3 : i < hz H s
      · rw [if_pos ⟨by omega, c2.1, c2.2, c3⟩] at h
        rw [zlt_t (by omega), zi_40, zi_mul, zi_add, zlt_f (by omega), zi_nat, zlt_t (by omega), if_neg (by decide), zi_ix (by omega) (by omega)]
        refine ⟨zi_in (by omega) (by omega) (by omega), ?_⟩
        rw [show ((s : Int) * 40 + i).toNat = s * 40 + i.toNat by omega, hh.2.2.2 c2.1 c2.2 i.toNat (by omega)]
        exact h
      · rw [if_neg (by omega)] at h
        rw [zlt_f (by omega), if_pos rfl]
        exact h
    · rw [if_neg c2, zlt_f (by omega), if_pos rfl]
      rw [if_neg (by omega)] at h
      exact h
end

/-! a step keeps the number of locals; cells only come; what is no answer and no call goes on -/
def zx_mo (ls : List Value) (H : zx_H) (o : zx_O) : Prop := (∀ a b c d, o = some (.inl (a, b, c, d)) → b.length = ls.length ∧ H.1.2.2.1 ≤ d.1.2.2.1 ∧ H.1.2.2.2 ≤ d.1.2.2.2) ∧ ∀ z, o ≠ some (.inr z)
theorem zx_mo_n {ls : List Value} {H : zx_H} {a : Nat} {b c : List Value} {d : zx_H} (h1 : b.length = ls.length) (h2 : H.1.2.2.1 ≤ d.1.2.2.1) (h3 : H.1.2.2.2 ≤ d.1.2.2.2) : zx_mo ls H (zx_n a b c d) := by
  refine ⟨fun a' b' c' d' h => ?_, fun z h => ?_⟩
  · obtain ⟨rfl, rfl, rfl, rfl⟩ := zx_n_inv h
    exact ⟨h1, h2, h3⟩
  · unfold zx_n at h
    cases h
theorem zx_mo_0 {ls : List Value} {H : zx_H} : zx_mo ls H none := ⟨fun a b c d h => (by cases h), fun z h => (by cases h)⟩
theorem zx_mo_ite {ls : List Value} {H : zx_H} {c : Prop} {dc : Decidable c} {x y : zx_O} (h1 : zx_mo ls H x) (h2 : zx_mo ls H y) : zx_mo ls H (@ite _ c dc x y) := by
  by_cases h : c
  · rw [if_pos h]; exact h1
  · rw [if_neg h]; exact h2
theorem zx_mo_pi {ls st : List Value} {H : zx_H} {k : Int32 → List Value → zx_O} (h : ∀ x r, zx_mo ls H (k x r)) : zx_mo ls H (zx_pi st k) := by
  unfold zx_pi; split; exact h _ _; exact zx_mo_0
theorem zx_mo_pl {ls st : List Value} {H : zx_H} {k : Int64 → List Value → zx_O} (h : ∀ x r, zx_mo ls H (k x r)) : zx_mo ls H (zx_pl st k) := by
  unfold zx_pl; split; exact h _ _; exact zx_mo_0
theorem zx_mo_pr {ls st : List Value} {H : zx_H} {k : Nat → List Value → zx_O} (h : ∀ x r, zx_mo ls H (k x r)) : zx_mo ls H (zx_pr st k) := by
  unfold zx_pr; split; exact h _ _; exact zx_mo_0
theorem zx_mo_p1 {ls st : List Value} {H : zx_H} {k : Value → List Value → zx_O} (h : ∀ x r, zx_mo ls H (k x r)) : zx_mo ls H (zx_p1 st k) := by
  unfold zx_p1; split; exact zx_mo_ite (h _ _) zx_mo_0; exact zx_mo_0
theorem zx_mo_li {ls : List Value} {v : Option Value} {H : zx_H} {k : Int32 → zx_O} (h : ∀ x, zx_mo ls H (k x)) : zx_mo ls H (zx_li v k) := by
  unfold zx_li; split; exact h _; exact zx_mo_0
theorem zx_mo_lr {ls : List Value} {v : Option Value} {H : zx_H} {k : Nat → zx_O} (h : ∀ x, zx_mo ls H (k x)) : zx_mo ls H (zx_lr v k) := by
  unfold zx_lr; split; exact h _; exact zx_mo_0
theorem zx_mo_ll {ls : List Value} {v u : Option Value} {H : zx_H} {k : Int64 → zx_O} (h : ∀ x, zx_mo ls H (k x)) : zx_mo ls H (zx_ll v u k) := by
  unfold zx_ll; split; exact h _; exact zx_mo_0
theorem zx_mo_len {ls : List Value} {P : zx_P} {e : Nat} {H : zx_H} {k : Nat → zx_O} (h : ∀ x, zx_mo ls H (k x)) : zx_mo ls H (zx_len P H e k) := by
  unfold zx_len
  refine zx_mo_ite (zx_mo_ite (h _) zx_mo_0) (zx_mo_ite ?_ (zx_mo_ite (h _) zx_mo_0))
  split; exact h _; exact zx_mo_0
theorem zx_mo_ld {ls : List Value} {P : zx_P} {e : Nat} {i : Int32} {H : zx_H} {k : Int32 → zx_O} (h : ∀ x, zx_mo ls H (k x)) : zx_mo ls H (zx_ld P H e i k) := by
  unfold zx_ld
  refine zx_mo_ite (zx_mo_ite (zx_mo_ite zx_mo_0 (h _)) zx_mo_0) (zx_mo_ite ?_ zx_mo_0)
  split; exact zx_mo_ite zx_mo_0 (h _); exact zx_mo_0
theorem zx_set2 {ls : List Value} {i : Nat} {v : Value} : (ls.set i v).length = ls.length := List.length_set ..
theorem zx_set3 {ls : List Value} {i j : Nat} {v u : Value} : ((ls.set i v).set j u).length = ls.length := by rw [List.length_set, List.length_set]
/-- the instructions that end or call -/
def zx_out : Instr → Bool
  | .ireturn | .lreturn | .areturn | .return_ | .invokevirtual _ | .invokespecial _ | .invokestatic _ => true
  | _ => false
set_option maxHeartbeats 8000000 in
theorem zx_step_mo (P : zx_P) (en : zx_En) (pc : Nat) (ls st : List Value) (H : zx_H) (ho : zx_out en.1 = false) : zx_mo ls H (zx_step P en pc ls st H) := by
  obtain ⟨ins, ea, eb, ek⟩ := en
  unfold zx_step
  dsimp only
  split <;> first
    | exact zx_mo_0
    | (exfalso; exact Bool.noConfusion ho)
    | (repeat' first
        | exact zx_mo_0
        | exact zx_mo_n rfl (Nat.le_refl _) (Nat.le_refl _)
        | exact zx_mo_n zx_set2 (Nat.le_refl _) (Nat.le_refl _)
        | exact zx_mo_n zx_set3 (Nat.le_refl _) (Nat.le_refl _)
        | exact zx_mo_n rfl (Nat.le_succ _) (Nat.le_add_right _ _)
        | exact zx_mo_n rfl (Nat.le_add_right _ _) (Nat.le_add_right _ _)
        | (refine zx_mo_pi fun x r => ?_)
        | (refine zx_mo_pl fun x r => ?_)
        | (refine zx_mo_pr fun x r => ?_)
        | (refine zx_mo_p1 fun x r => ?_)
        | (refine zx_mo_li fun x => ?_)
        | (refine zx_mo_lr fun x => ?_)
        | (refine zx_mo_ll fun x => ?_)
        | (refine zx_mo_len fun x => ?_)
        | (refine zx_mo_ld fun x => ?_)
        | (refine zx_mo_ite ?_ ?_)
        | split)
theorem zx_step_out {P : zx_P} {en : zx_En} {pc : Nat} {ls st : List Value} {H : zx_H} {z : (Option Value) ⊕ (Nat × List Value × List Value)} (h : zx_step P en pc ls st H = some (.inr z)) : zx_out en.1 = true := by
  cases ho : zx_out en.1 with
  | true => rfl
  | false => exact absurd h ((zx_step_mo P en pc ls st H ho).2 z)
theorem zx_call_inv {P : zx_P} {en : zx_En} {st : List Value} {H : zx_H} {z : (Nat × List Value × List Value × zx_H) ⊕ (Option Value) ⊕ (Nat × List Value × List Value)} (h : zx_call P en st H = some z) :
    en.2.2.1 ≤ st.length ∧ zx_rc P H en.2.2.2 (st.take en.2.2.1).reverse = true ∧ ((st.drop en.2.2.1).map fun v => v.category).sum ≤ 8 ∧ z = .inr (.inr (en.2.1, (st.take en.2.2.1).reverse, st.drop en.2.2.1)) := by
  unfold zx_call at h
  obtain ⟨⟨h1, h2, h3⟩, h⟩ := zx_it h
  exact ⟨h1, h2, h3, (Option.some.inj h).symm⟩
theorem zx_spec_mo {P : zx_P} {k ea eb : Nat} {ek : Int} {pc : Nat} {ls st : List Value} {H : zx_H} {a : Nat} {b c : List Value} {d : zx_H} (h : zx_step P (.invokespecial k, ea, eb, ek) pc ls st H = some (.inl (a, b, c, d))) : b.length = ls.length ∧ H.1.2.2.1 ≤ d.1.2.2.1 ∧ H.1.2.2.2 ≤ d.1.2.2.2 := by
  unfold zx_step at h
  dsimp only at h
  split at h
  · have hm : zx_mo ls H (zx_pr st fun _ r => if (r.map fun v => v.category).sum ≤ 8 then zx_n (pc + 3) ls r H else none) := zx_mo_pr fun x r => zx_mo_ite (zx_mo_n rfl (Nat.le_refl _) (Nat.le_refl _)) zx_mo_0
    exact hm.1 _ _ _ _ h
  · have h2 := (zx_call_inv h).2.2.2
    cases h2
theorem zx_spec_in {P : zx_P} {k ea eb : Nat} {ek : Int} {pc : Nat} {ls st : List Value} {H : zx_H} {z : (Option Value) ⊕ (Nat × List Value × List Value)} (h : zx_step P (.invokespecial k, ea, eb, ek) pc ls st H = some (.inr z)) : ¬ ek = 99 ∧ zx_call P (.invokespecial k, ea, eb, ek) st H = some (.inr z) := by
  unfold zx_step at h
  dsimp only at h
  split at h
  · have hm : zx_mo ls H (zx_pr st fun _ r => if (r.map fun v => v.category).sum ≤ 8 then zx_n (pc + 3) ls r H else none) := zx_mo_pr fun x r => zx_mo_ite (zx_mo_n rfl (Nat.le_refl _) (Nat.le_refl _)) zx_mo_0
    exact absurd h (hm.2 _)
  · rename_i hk
    exact ⟨hk, h⟩
theorem zx_mm_mo {f : Int32 → Int32 → Int32} {pc : Nat} {ls st : List Value} {H : zx_H} : zx_mo ls H (zx_mm f pc ls st H) := zx_mo_pi fun x r => zx_mo_pi fun y r => zx_mo_ite (zx_mo_n rfl (Nat.le_refl _) (Nat.le_refl _)) zx_mo_0
theorem zx_stat_mo {P : zx_P} {k ea eb : Nat} {ek : Int} {pc : Nat} {ls st : List Value} {H : zx_H} {a : Nat} {b c : List Value} {d : zx_H} (h : zx_step P (.invokestatic k, ea, eb, ek) pc ls st H = some (.inl (a, b, c, d))) : b.length = ls.length ∧ H.1.2.2.1 ≤ d.1.2.2.1 ∧ H.1.2.2.2 ≤ d.1.2.2.2 := by
  unfold zx_step at h
  dsimp only at h
  split at h
  · exact zx_mm_mo.1 _ _ _ _ h
  · split at h
    · exact zx_mm_mo.1 _ _ _ _ h
    · have h2 := (zx_call_inv h).2.2.2
      cases h2
theorem zx_stat_in {P : zx_P} {k ea eb : Nat} {ek : Int} {pc : Nat} {ls st : List Value} {H : zx_H} {z : (Option Value) ⊕ (Nat × List Value × List Value)} (h : zx_step P (.invokestatic k, ea, eb, ek) pc ls st H = some (.inr z)) : (¬ ek = 97 ∧ ¬ ek = 98) ∧ zx_call P (.invokestatic k, ea, eb, ek) st H = some (.inr z) := by
  unfold zx_step at h
  dsimp only at h
  split at h
  · exact absurd h (zx_mm_mo.2 _)
  · split at h
    · exact absurd h (zx_mm_mo.2 _)
    · rename_i hk hk2
      exact ⟨⟨hk, hk2⟩, h⟩
theorem zx_next_mo {P : zx_P} {en : zx_En} {pc : Nat} {ls st : List Value} {H : zx_H} {a : Nat} {b c : List Value} {d : zx_H} (h : zx_step P en pc ls st H = some (.inl (a, b, c, d))) : b.length = ls.length ∧ H.1.2.2.1 ≤ d.1.2.2.1 ∧ H.1.2.2.2 ≤ d.1.2.2.2 := by
  cases ho : zx_out en.1 with
  | false => exact (zx_step_mo P en pc ls st H ho).1 _ _ _ _ h
  | true =>
    obtain ⟨ins, ea, eb, ek⟩ := en
    dsimp only at ho
    unfold zx_out at ho
    split at ho
    · unfold zx_step at h
      dsimp only at h
      split at h
      · obtain ⟨-, h⟩ := zx_it h
        cases h
      · cases h
    · unfold zx_step at h
      dsimp only at h
      split at h <;> cases h
    · unfold zx_step at h
      dsimp only at h
      split at h <;> cases h
    · unfold zx_step at h
      dsimp only at h
      split at h <;> cases h
    · have h2 := (zx_call_inv h).2.2.2
      cases h2
    · exact zx_spec_mo h
    · exact zx_stat_mo h
    · cases ho
theorem zx_run_mono (P : zx_P) (code : Nat → Nat → Option zx_En) (ml : Nat → Nat) : ∀ (n d m pc : Nat) (ls st : List Value) (H H' : zx_H) (v : Option Value), zx_run P code ml n d m pc ls st H = some (v, H') → H.1.2.2.1 ≤ H'.1.2.2.1 ∧ H.1.2.2.2 ≤ H'.1.2.2.2
  | 0, d, m, pc, ls, st, H, H', v, h => by
    unfold zx_run at h
    cases h
  | n + 1, d, m, pc, ls, st, H, H', v, h => by
    unfold zx_run at h
    split at h
    · cases h
    · rename_i en hen
      split at h
      · cases h
      · rename_i pc' ls' st' H1 hs
        have h1 := zx_run_mono P code ml n _ _ _ _ _ _ _ _ h
        have h2 := zx_next_mo hs
        exact ⟨Nat.le_trans h2.2.1 h1.1, Nat.le_trans h2.2.2 h1.2⟩
      · cases h
        exact ⟨Nat.le_refl _, Nat.le_refl _⟩
      · split at h
        · cases h
        · split at h
          · split at h
            · cases h
            · rename_i v1 H1 hr
              have h1 := zx_run_mono P code ml n _ _ _ _ _ _ _ _ hr
              have h2 := zx_run_mono P code ml n _ _ _ _ _ _ _ _ h
              exact ⟨Nat.le_trans h1.1 h2.1, Nat.le_trans h1.2 h2.2⟩
          · cases h

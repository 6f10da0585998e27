/-! ENDS: what a method comes to, in the small machine -/
abbrev zX : Type := Option (Nat × (Nat → Int32))
def zr (X : zX) : Nat → Nat → Nat → Nat → List Value → List Value → zx_H → Option (Option Value × zx_H) := zx_run (zt_P X) zt_code (fun j => (zt_mt j).2.2.1)
theorem zr_mono1 (X : zX) : ∀ (n d m pc : Nat) (ls st : List Value) (H : zx_H) (r : Option Value × zx_H), zr X n d m pc ls st H = some r → zr X (n + 1) d m pc ls st H = some r
  | 0, d, m, pc, ls, st, H, r, h => by
    unfold zr zx_run at h
    cases h
  | n + 1, d, m, pc, ls, st, H, r, h => by
    unfold zr at h ⊢
    unfold zx_run at h ⊢
    split at h
    · cases h
    · rename_i en hen
      split at h
      · cases h
      · exact zr_mono1 X n _ _ _ _ _ _ _ h
      · exact h
      · split at h
        · cases h
        · split at h
          · rename_i hao
            rw [if_pos hao]
            split at h
            · cases h
            · rename_i v H1 hr
              have h1 := zr_mono1 X n _ _ _ _ _ _ _ hr
              have h2 := zr_mono1 X n _ _ _ _ _ _ _ h
              unfold zr at h1 h2
              rw [h1]
              exact h2
          · cases h
theorem zr_mono (X : zX) {n k d m pc : Nat} {ls st : List Value} {H : zx_H} {r : Option Value × zx_H} (hk : n ≤ k) (h : zr X n d m pc ls st H = some r) : zr X k d m pc ls st H = some r := by
  induction hk with
  | refl => exact h
  | step _ ih => exact zr_mono1 X _ _ _ _ _ _ _ _ ih
theorem zr_dmono1 (X : zX) : ∀ (n d m pc : Nat) (ls st : List Value) (H : zx_H) (r : Option Value × zx_H), zr X n d m pc ls st H = some r → zr X n (d + 1) m pc ls st H = some r
  | 0, d, m, pc, ls, st, H, r, h => by
    unfold zr zx_run at h
    cases h
  | n + 1, d, m, pc, ls, st, H, r, h => by
    unfold zr at h ⊢
    unfold zx_run at h ⊢
    split at h
    · cases h
    · rename_i en hen
      split at h
      · cases h
      · exact zr_dmono1 X n _ _ _ _ _ _ _ h
      · exact h
      · split at h
        · cases h
        · rename_i d1
          split at h
          · rename_i hao
            rw [if_pos hao]
            split at h
            · cases h
            · rename_i v H1 hr
              have h1 := zr_dmono1 X n _ _ _ _ _ _ _ hr
              have h2 := zr_dmono1 X n _ _ _ _ _ _ _ h
              unfold zr at h1 h2
              rw [h1]
              exact h2
          · cases h
theorem zr_dmono (X : zX) {n d k m pc : Nat} {ls st : List Value} {H : zx_H} {r : Option Value × zx_H} (hk : d ≤ k) (h : zr X n d m pc ls st H = some r) : zr X n k m pc ls st H = some r := by
  induction hk with
  | refl => exact h
  | step _ ih => exact zr_dmono1 X _ _ _ _ _ _ _ _ ih
def zE (X : zX) (d m pc : Nat) (ls st : List Value) (H : zx_H) (Q : Option Value → zx_H → Prop) : Prop := ∃ n r H', zr X n d m pc ls st H = some (r, H') ∧ Q r H'
theorem zE_mono {X : zX} {d m pc : Nat} {ls st : List Value} {H : zx_H} {Q Q' : Option Value → zx_H → Prop} (h : zE X d m pc ls st H Q) (hQ : ∀ r H', Q r H' → Q' r H') : zE X d m pc ls st H Q' := by
  obtain ⟨n, r, H', h1, h2⟩ := h
  exact ⟨n, r, H', h1, hQ _ _ h2⟩
theorem zE_deep {X : zX} {d k m pc : Nat} {ls st : List Value} {H : zx_H} {Q : Option Value → zx_H → Prop} (hk : d ≤ k) (h : zE X d m pc ls st H Q) : zE X k m pc ls st H Q := by
  obtain ⟨n, r, H', h1, h2⟩ := h
  exact ⟨n, r, H', zr_dmono X hk h1, h2⟩
/-- one end alone -/
theorem zE_det {X : zX} {d d' m pc : Nat} {ls st : List Value} {H : zx_H} {Q Q' : Option Value → zx_H → Prop} (h : zE X d m pc ls st H Q) (h' : zE X d' m pc ls st H Q') : zE X d m pc ls st H (fun r H' => Q r H' ∧ Q' r H') := by
  obtain ⟨n, r, H', h1, h2⟩ := h
  obtain ⟨n', r', H'', h1', h2'⟩ := h'
  have a := zr_mono X (Nat.le_max_left n n') (zr_dmono X (Nat.le_max_left d d') h1)
  have b := zr_mono X (Nat.le_max_right n n') (zr_dmono X (Nat.le_max_right d d') h1')
  cases a.symm.trans b
  exact ⟨n, r, H', h1, h2, h2'⟩
theorem zE_next {X : zX} {d m pc pc' : Nat} {en : zx_En} {ls ls' st st' : List Value} {H H' : zx_H} {Q : Option Value → zx_H → Prop} (hc : zt_code m pc = some en) (hs : zx_step (zt_P X) en pc ls st H = some (.inl (pc', ls', st', H'))) (k : zE X d m pc' ls' st' H' Q) : zE X d m pc ls st H Q := by
  obtain ⟨n, r, H2, h1, h2⟩ := k
  refine ⟨n + 1, r, H2, ?_, h2⟩
  unfold zr zx_run
  rw [hc]
  dsimp only
  rw [hs]
  exact h1
theorem zE_ret {X : zX} {d m pc : Nat} {en : zx_En} {ls st : List Value} {H : zx_H} {v : Option Value} {Q : Option Value → zx_H → Prop} (hc : zt_code m pc = some en) (hs : zx_step (zt_P X) en pc ls st H = some (.inr (.inl v))) (k : Q v H) : zE X d m pc ls st H Q := by
  refine ⟨1, v, H, ?_, k⟩
  unfold zr zx_run
  rw [hc]
  dsimp only
  rw [hs]
theorem zE_call {X : zX} {d m pc m' : Nat} {en : zx_En} {ls st as rest : List Value} {H : zx_H} {Q : Option Value → zx_H → Prop} (hc : zt_code m pc = some en) (hs : zx_step (zt_P X) en pc ls st H = some (.inr (.inr (m', as, rest)))) (ha : zx_aok (zt_mt m').2.2.1 as = true)
    (k : zE X d m' 0 (zx_ent (zt_mt m').2.2.1 as) [] H (fun r H' => zE X (d + 1) m (pc + 3) ls (r.toList ++ rest) H' Q)) : zE X (d + 1) m pc ls st H Q := by
  obtain ⟨n1, r1, H1, h1, n2, r2, H2, h2, h3⟩ := k
  refine ⟨max n1 n2 + 1, r2, H2, ?_, h3⟩
  have a := zr_mono X (Nat.le_max_left n1 n2) h1
  have b := zr_mono X (Nat.le_max_right n1 n2) h2
  unfold zr at a b ⊢
  unfold zx_run
  rw [hc]
  dsimp only
  rw [hs]
  dsimp only
  rw [if_pos ha, a]
  exact b

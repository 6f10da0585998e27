/-! WHERE THE CELLS OF AN OBJECT LIE -/
def zs_0 (S : zx_S) (e : Nat) : Prop := e + 5 ≤ 800000 ∧ (S.1 e).1 = 0 ∧ (S.2.1 e 6 = some (e + 1) ∧ S.1 (e + 1) = (10, 12)) ∧ (S.2.1 e 7 = some (e + 2) ∧ S.1 (e + 2) = (10, 3)) ∧ (S.2.1 e 8 = some (e + 3) ∧ S.1 (e + 3) = (10, 8)) ∧ (S.2.1 e 9 = some (e + 4) ∧ S.1 (e + 4) = (10, 24))
theorem zj_0 {S : zx_S} {e : Nat} (h : zs_0 S e) : e < 900000 ∧ (S.1 e).1 = 0 := ⟨by have := h.1; omega, h.2.1⟩
theorem zq_0 {S : zx_S} {e : Nat} (h : zs_0 S e) : (((S.1 e).1 : Nat) : Int) = 0 := by rw [h.2.1]; rfl
theorem zr_0_6 {S : zx_S} {e : Nat} (h : zs_0 S e) : S.2.1 e 6 = some (e + 1) := (h.2.2.1).1
theorem za_0_6 {S : zx_S} {e : Nat} (h : zs_0 S e) : e + 1 < 900000 ∧ S.1 (e + 1) = (10, 12) := ⟨by have := h.1; omega, (h.2.2.1).2⟩
theorem zr_0_7 {S : zx_S} {e : Nat} (h : zs_0 S e) : S.2.1 e 7 = some (e + 2) := (h.2.2.2.1).1
theorem za_0_7 {S : zx_S} {e : Nat} (h : zs_0 S e) : e + 2 < 900000 ∧ S.1 (e + 2) = (10, 3) := ⟨by have := h.1; omega, (h.2.2.2.1).2⟩
theorem zr_0_8 {S : zx_S} {e : Nat} (h : zs_0 S e) : S.2.1 e 8 = some (e + 3) := (h.2.2.2.2.1).1
theorem za_0_8 {S : zx_S} {e : Nat} (h : zs_0 S e) : e + 3 < 900000 ∧ S.1 (e + 3) = (10, 8) := ⟨by have := h.1; omega, (h.2.2.2.2.1).2⟩
theorem zr_0_9 {S : zx_S} {e : Nat} (h : zs_0 S e) : S.2.1 e 9 = some (e + 4) := (h.2.2.2.2.2).1
theorem za_0_9 {S : zx_S} {e : Nat} (h : zs_0 S e) : e + 4 < 900000 ∧ S.1 (e + 4) = (10, 24) := ⟨by have := h.1; omega, (h.2.2.2.2.2).2⟩
def zs_1 (S : zx_S) (e : Nat) : Prop := e + 7 ≤ 800000 ∧ (S.1 e).1 = 1 ∧ (S.2.1 e 0 = some (e + 1) ∧ S.1 (e + 1) = (10, 24)) ∧ (S.2.1 e 1 = some (e + 2) ∧ S.1 (e + 2) = (10, 3)) ∧ (S.2.1 e 2 = some (e + 3) ∧ S.1 (e + 3) = (10, 3)) ∧ (S.2.1 e 3 = some (e + 4) ∧ S.1 (e + 4) = (10, 32)) ∧ (S.2.1 e 7 = some (e + 5) ∧ S.1 (e + 5) = (10, 768)) ∧ (S.2.1 e 8 = some (e + 6) ∧ S.1 (e + 6) = (10, 3))
theorem zj_1 {S : zx_S} {e : Nat} (h : zs_1 S e) : e < 900000 ∧ (S.1 e).1 = 1 := ⟨by have := h.1; omega, h.2.1⟩
theorem zq_1 {S : zx_S} {e : Nat} (h : zs_1 S e) : (((S.1 e).1 : Nat) : Int) = 1 := by rw [h.2.1]; rfl
theorem zr_1_0 {S : zx_S} {e : Nat} (h : zs_1 S e) : S.2.1 e 0 = some (e + 1) := (h.2.2.1).1
theorem za_1_0 {S : zx_S} {e : Nat} (h : zs_1 S e) : e + 1 < 900000 ∧ S.1 (e + 1) = (10, 24) := ⟨by have := h.1; omega, (h.2.2.1).2⟩
theorem zr_1_1 {S : zx_S} {e : Nat} (h : zs_1 S e) : S.2.1 e 1 = some (e + 2) := (h.2.2.2.1).1
theorem za_1_1 {S : zx_S} {e : Nat} (h : zs_1 S e) : e + 2 < 900000 ∧ S.1 (e + 2) = (10, 3) := ⟨by have := h.1; omega, (h.2.2.2.1).2⟩
theorem zr_1_2 {S : zx_S} {e : Nat} (h : zs_1 S e) : S.2.1 e 2 = some (e + 3) := (h.2.2.2.2.1).1
theorem za_1_2 {S : zx_S} {e : Nat} (h : zs_1 S e) : e + 3 < 900000 ∧ S.1 (e + 3) = (10, 3) := ⟨by have := h.1; omega, (h.2.2.2.2.1).2⟩
theorem zr_1_3 {S : zx_S} {e : Nat} (h : zs_1 S e) : S.2.1 e 3 = some (e + 4) := (h.2.2.2.2.2.1).1
theorem za_1_3 {S : zx_S} {e : Nat} (h : zs_1 S e) : e + 4 < 900000 ∧ S.1 (e + 4) = (10, 32) := ⟨by have := h.1; omega, (h.2.2.2.2.2.1).2⟩
theorem zr_1_7 {S : zx_S} {e : Nat} (h : zs_1 S e) : S.2.1 e 7 = some (e + 5) := (h.2.2.2.2.2.2.1).1
theorem za_1_7 {S : zx_S} {e : Nat} (h : zs_1 S e) : e + 5 < 900000 ∧ S.1 (e + 5) = (10, 768) := ⟨by have := h.1; omega, (h.2.2.2.2.2.2.1).2⟩
theorem zr_1_8 {S : zx_S} {e : Nat} (h : zs_1 S e) : S.2.1 e 8 = some (e + 6) := (h.2.2.2.2.2.2.2).1
theorem za_1_8 {S : zx_S} {e : Nat} (h : zs_1 S e) : e + 6 < 900000 ∧ S.1 (e + 6) = (10, 3) := ⟨by have := h.1; omega, (h.2.2.2.2.2.2.2).2⟩
def zs_2 (S : zx_S) (e : Nat) : Prop := e + 5 ≤ 800000 ∧ (S.1 e).1 = 2 ∧ (S.2.1 e 0 = some (e + 1) ∧ S.1 (e + 1) = (10, 8)) ∧ (S.2.1 e 1 = some (e + 2) ∧ S.1 (e + 2) = (10, 8)) ∧ (S.2.1 e 2 = some (e + 3) ∧ S.1 (e + 3) = (10, 8)) ∧ (S.2.1 e 3 = some (e + 4) ∧ S.1 (e + 4) = (11, 320))
theorem zj_2 {S : zx_S} {e : Nat} (h : zs_2 S e) : e < 900000 ∧ (S.1 e).1 = 2 := ⟨by have := h.1; omega, h.2.1⟩
theorem zq_2 {S : zx_S} {e : Nat} (h : zs_2 S e) : (((S.1 e).1 : Nat) : Int) = 2 := by rw [h.2.1]; rfl
theorem zr_2_0 {S : zx_S} {e : Nat} (h : zs_2 S e) : S.2.1 e 0 = some (e + 1) := (h.2.2.1).1
theorem za_2_0 {S : zx_S} {e : Nat} (h : zs_2 S e) : e + 1 < 900000 ∧ S.1 (e + 1) = (10, 8) := ⟨by have := h.1; omega, (h.2.2.1).2⟩
theorem zr_2_1 {S : zx_S} {e : Nat} (h : zs_2 S e) : S.2.1 e 1 = some (e + 2) := (h.2.2.2.1).1
theorem za_2_1 {S : zx_S} {e : Nat} (h : zs_2 S e) : e + 2 < 900000 ∧ S.1 (e + 2) = (10, 8) := ⟨by have := h.1; omega, (h.2.2.2.1).2⟩
theorem zr_2_2 {S : zx_S} {e : Nat} (h : zs_2 S e) : S.2.1 e 2 = some (e + 3) := (h.2.2.2.2.1).1
theorem za_2_2 {S : zx_S} {e : Nat} (h : zs_2 S e) : e + 3 < 900000 ∧ S.1 (e + 3) = (10, 8) := ⟨by have := h.1; omega, (h.2.2.2.2.1).2⟩
theorem zr_2_3 {S : zx_S} {e : Nat} (h : zs_2 S e) : S.2.1 e 3 = some (e + 4) := (h.2.2.2.2.2).1
theorem za_2_3 {S : zx_S} {e : Nat} (h : zs_2 S e) : e + 4 < 900000 ∧ S.1 (e + 4) = (11, 320) := ⟨by have := h.1; omega, (h.2.2.2.2.2).2⟩
def zs_3 (S : zx_S) (e : Nat) : Prop := e + 2 ≤ 800000 ∧ (S.1 e).1 = 3 ∧ (S.2.1 e 0 = some (e + 1) ∧ S.1 (e + 1) = (10, 250))
theorem zj_3 {S : zx_S} {e : Nat} (h : zs_3 S e) : e < 900000 ∧ (S.1 e).1 = 3 := ⟨by have := h.1; omega, h.2.1⟩
theorem zq_3 {S : zx_S} {e : Nat} (h : zs_3 S e) : (((S.1 e).1 : Nat) : Int) = 3 := by rw [h.2.1]; rfl
theorem zr_3_0 {S : zx_S} {e : Nat} (h : zs_3 S e) : S.2.1 e 0 = some (e + 1) := (h.2.2).1
theorem za_3_0 {S : zx_S} {e : Nat} (h : zs_3 S e) : e + 1 < 900000 ∧ S.1 (e + 1) = (10, 250) := ⟨by have := h.1; omega, (h.2.2).2⟩
def zs_4 (S : zx_S) (e : Nat) : Prop := e + 42 ≤ 800000 ∧ (S.1 e).1 = 4 ∧ (S.2.1 e 0 = some (e + 1) ∧ zs_0 S (e + 1)) ∧ (S.2.1 e 1 = some (e + 6) ∧ zs_0 S (e + 6)) ∧ (S.2.1 e 2 = some (e + 11) ∧ zs_0 S (e + 11)) ∧ (S.2.1 e 3 = some (e + 16) ∧ zs_3 S (e + 16)) ∧ (S.2.1 e 4 = some (e + 18) ∧ zs_2 S (e + 18)) ∧ (S.2.1 e 5 = some (e + 23) ∧ S.1 (e + 23) = (10, 5)) ∧ (S.2.1 e 7 = some (e + 24) ∧ zs_1 S (e + 24)) ∧ (S.2.1 e 8 = some (e + 31) ∧ zs_1 S (e + 31)) ∧ (S.2.1 e 9 = some (e + 38) ∧ S.1 (e + 38) = (10, 8)) ∧ (S.2.1 e 11 = some (e + 39) ∧ S.1 (e + 39) = (10, 3)) ∧ (S.2.1 e 12 = some (e + 40) ∧ S.1 (e + 40) = (10, 8)) ∧ (S.2.1 e 13 = some (e + 41) ∧ S.1 (e + 41) = (10, 8))
theorem zj_4 {S : zx_S} {e : Nat} (h : zs_4 S e) : e < 900000 ∧ (S.1 e).1 = 4 := ⟨by have := h.1; omega, h.2.1⟩
theorem zq_4 {S : zx_S} {e : Nat} (h : zs_4 S e) : (((S.1 e).1 : Nat) : Int) = 4 := by rw [h.2.1]; rfl
theorem zr_4_0 {S : zx_S} {e : Nat} (h : zs_4 S e) : S.2.1 e 0 = some (e + 1) := (h.2.2.1).1
theorem zo_4_0 {S : zx_S} {e : Nat} (h : zs_4 S e) : zs_0 S (e + 1) := (h.2.2.1).2
theorem zr_4_1 {S : zx_S} {e : Nat} (h : zs_4 S e) : S.2.1 e 1 = some (e + 6) := (h.2.2.2.1).1
theorem zo_4_1 {S : zx_S} {e : Nat} (h : zs_4 S e) : zs_0 S (e + 6) := (h.2.2.2.1).2
theorem zr_4_2 {S : zx_S} {e : Nat} (h : zs_4 S e) : S.2.1 e 2 = some (e + 11) := (h.2.2.2.2.1).1
theorem zo_4_2 {S : zx_S} {e : Nat} (h : zs_4 S e) : zs_0 S (e + 11) := (h.2.2.2.2.1).2
theorem zr_4_3 {S : zx_S} {e : Nat} (h : zs_4 S e) : S.2.1 e 3 = some (e + 16) := (h.2.2.2.2.2.1).1
theorem zo_4_3 {S : zx_S} {e : Nat} (h : zs_4 S e) : zs_3 S (e + 16) := (h.2.2.2.2.2.1).2
theorem zr_4_4 {S : zx_S} {e : Nat} (h : zs_4 S e) : S.2.1 e 4 = some (e + 18) := (h.2.2.2.2.2.2.1).1
theorem zo_4_4 {S : zx_S} {e : Nat} (h : zs_4 S e) : zs_2 S (e + 18) := (h.2.2.2.2.2.2.1).2
theorem zr_4_5 {S : zx_S} {e : Nat} (h : zs_4 S e) : S.2.1 e 5 = some (e + 23) := (h.2.2.2.2.2.2.2.1).1
theorem za_4_5 {S : zx_S} {e : Nat} (h : zs_4 S e) : e + 23 < 900000 ∧ S.1 (e + 23) = (10, 5) := ⟨by have := h.1; omega, (h.2.2.2.2.2.2.2.1).2⟩
theorem zr_4_7 {S : zx_S} {e : Nat} (h : zs_4 S e) : S.2.1 e 7 = some (e + 24) := (h.2.2.2.2.2.2.2.2.1).1
theorem zo_4_7 {S : zx_S} {e : Nat} (h : zs_4 S e) : zs_1 S (e + 24) := (h.2.2.2.2.2.2.2.2.1).2
theorem zr_4_8 {S : zx_S} {e : Nat} (h : zs_4 S e) : S.2.1 e 8 = some (e + 31) := (h.2.2.2.2.2.2.2.2.2.1).1
theorem zo_4_8 {S : zx_S} {e : Nat} (h : zs_4 S e) : zs_1 S (e + 31) := (h.2.2.2.2.2.2.2.2.2.1).2
theorem zr_4_9 {S : zx_S} {e : Nat} (h : zs_4 S e) : S.2.1 e 9 = some (e + 38) := (h.2.2.2.2.2.2.2.2.2.2.1).1
theorem za_4_9 {S : zx_S} {e : Nat} (h : zs_4 S e) : e + 38 < 900000 ∧ S.1 (e + 38) = (10, 8) := ⟨by have := h.1; omega, (h.2.2.2.2.2.2.2.2.2.2.1).2⟩
theorem zr_4_11 {S : zx_S} {e : Nat} (h : zs_4 S e) : S.2.1 e 11 = some (e + 39) := (h.2.2.2.2.2.2.2.2.2.2.2.1).1
theorem za_4_11 {S : zx_S} {e : Nat} (h : zs_4 S e) : e + 39 < 900000 ∧ S.1 (e + 39) = (10, 3) := ⟨by have := h.1; omega, (h.2.2.2.2.2.2.2.2.2.2.2.1).2⟩
theorem zr_4_12 {S : zx_S} {e : Nat} (h : zs_4 S e) : S.2.1 e 12 = some (e + 40) := (h.2.2.2.2.2.2.2.2.2.2.2.2.1).1
theorem za_4_12 {S : zx_S} {e : Nat} (h : zs_4 S e) : e + 40 < 900000 ∧ S.1 (e + 40) = (10, 8) := ⟨by have := h.1; omega, (h.2.2.2.2.2.2.2.2.2.2.2.2.1).2⟩
theorem zr_4_13 {S : zx_S} {e : Nat} (h : zs_4 S e) : S.2.1 e 13 = some (e + 41) := (h.2.2.2.2.2.2.2.2.2.2.2.2.2).1
theorem za_4_13 {S : zx_S} {e : Nat} (h : zs_4 S e) : e + 41 < 900000 ∧ S.1 (e + 41) = (10, 8) := ⟨by have := h.1; omega, (h.2.2.2.2.2.2.2.2.2.2.2.2.2).2⟩
def zs_5 (S : zx_S) (e : Nat) : Prop := e + 295 ≤ 800000 ∧ (S.1 e).1 = 5 ∧ (S.2.1 e 0 = some (e + 1) ∧ S.1 (e + 1) = (10, 8)) ∧ (S.2.1 e 1 = some (e + 2) ∧ S.1 (e + 2) = (10, 8)) ∧ (S.2.1 e 2 = some (e + 3) ∧ S.1 (e + 3) = (10, 8)) ∧ (S.2.1 e 3 = some (e + 4) ∧ S.1 (e + 4) = (13, 8) ∧ ∀ i, i < 8 → S.2.1 (e + 4) i = some (e + 5 + i) ∧ S.1 (e + 5 + i) = (11, 40)) ∧ (S.2.1 e 4 = some (e + 13) ∧ S.1 (e + 13) = (11, 40)) ∧ (S.2.1 e 5 = some (e + 14) ∧ S.1 (e + 14) = (10, 8)) ∧ (S.2.1 e 6 = some (e + 15) ∧ S.1 (e + 15) = (10, 8)) ∧ (S.2.1 e 7 = some (e + 16) ∧ S.1 (e + 16) = (10, 250)) ∧ (S.2.1 e 9 = some (e + 17) ∧ S.1 (e + 17) = (10, 8)) ∧ (S.2.1 e 12 = some (e + 18) ∧ S.1 (e + 18) = (12, 8) ∧ ∀ i, i < 8 → S.2.1 (e + 18) i = some (e + 19 + i) ∧ S.1 (e + 19 + i) = (10, 3)) ∧ (S.2.1 e 13 = some (e + 27) ∧ S.1 (e + 27) = (10, 8)) ∧ (S.2.1 e 15 = some (e + 28) ∧ S.1 (e + 28) = (10, 12)) ∧ (S.2.1 e 17 = some (e + 29) ∧ S.1 (e + 29) = (10, 3)) ∧ (S.2.1 e 27 = some (e + 30) ∧ S.1 (e + 30) = (10, 3)) ∧ (S.2.1 e 30 = some (e + 31) ∧ S.1 (e + 31) = (10, 8)) ∧ (S.2.1 e 34 = some (e + 32) ∧ S.1 (e + 32) = (10, 8)) ∧ (S.2.1 e 35 = some (e + 33) ∧ S.1 (e + 33) = (10, 8)) ∧ (S.2.1 e 37 = some (e + 34) ∧ S.1 (e + 34) = (10, 3)) ∧ (S.2.1 e 38 = some (e + 35) ∧ S.1 (e + 35) = (10, 256)) ∧ (S.2.1 e 39 = some (e + 36) ∧ S.1 (e + 36) = (12, 256) ∧ ∀ i, i < 256 → S.2.1 (e + 36) i = some (e + 37 + i) ∧ S.1 (e + 37 + i) = (10, 3)) ∧ (S.2.1 e 40 = some (e + 293) ∧ S.1 (e + 293) = (10, 8)) ∧ (S.2.1 e 42 = some (e + 294) ∧ S.1 (e + 294) = (10, 3))
theorem zj_5 {S : zx_S} {e : Nat} (h : zs_5 S e) : e < 900000 ∧ (S.1 e).1 = 5 := ⟨by have := h.1; omega, h.2.1⟩
theorem zq_5 {S : zx_S} {e : Nat} (h : zs_5 S e) : (((S.1 e).1 : Nat) : Int) = 5 := by rw [h.2.1]; rfl
theorem zr_5_0 {S : zx_S} {e : Nat} (h : zs_5 S e) : S.2.1 e 0 = some (e + 1) := (h.2.2.1).1
theorem za_5_0 {S : zx_S} {e : Nat} (h : zs_5 S e) : e + 1 < 900000 ∧ S.1 (e + 1) = (10, 8) := ⟨by have := h.1; omega, (h.2.2.1).2⟩
theorem zr_5_1 {S : zx_S} {e : Nat} (h : zs_5 S e) : S.2.1 e 1 = some (e + 2) := (h.2.2.2.1).1
theorem za_5_1 {S : zx_S} {e : Nat} (h : zs_5 S e) : e + 2 < 900000 ∧ S.1 (e + 2) = (10, 8) := ⟨by have := h.1; omega, (h.2.2.2.1).2⟩
theorem zr_5_2 {S : zx_S} {e : Nat} (h : zs_5 S e) : S.2.1 e 2 = some (e + 3) := (h.2.2.2.2.1).1
theorem za_5_2 {S : zx_S} {e : Nat} (h : zs_5 S e) : e + 3 < 900000 ∧ S.1 (e + 3) = (10, 8) := ⟨by have := h.1; omega, (h.2.2.2.2.1).2⟩
theorem zr_5_3 {S : zx_S} {e : Nat} (h : zs_5 S e) : S.2.1 e 3 = some (e + 4) := (h.2.2.2.2.2.1).1
theorem za_5_3 {S : zx_S} {e : Nat} (h : zs_5 S e) : e + 4 < 900000 ∧ S.1 (e + 4) = (13, 8) := ⟨by have := h.1; omega, (h.2.2.2.2.2.1).2.1⟩
theorem zb_5_3 {S : zx_S} {e i : Nat} (h : zs_5 S e) (hi : i < 8) : S.2.1 (e + 4) i = some (e + 5 + i) ∧ e + 5 + i < 900000 ∧ S.1 (e + 5 + i) = (11, 40) := ⟨((h.2.2.2.2.2.1).2.2 i hi).1, by have := h.1; omega, ((h.2.2.2.2.2.1).2.2 i hi).2⟩
theorem zr_5_4 {S : zx_S} {e : Nat} (h : zs_5 S e) : S.2.1 e 4 = some (e + 13) := (h.2.2.2.2.2.2.1).1
theorem za_5_4 {S : zx_S} {e : Nat} (h : zs_5 S e) : e + 13 < 900000 ∧ S.1 (e + 13) = (11, 40) := ⟨by have := h.1; omega, (h.2.2.2.2.2.2.1).2⟩
theorem zr_5_5 {S : zx_S} {e : Nat} (h : zs_5 S e) : S.2.1 e 5 = some (e + 14) := (h.2.2.2.2.2.2.2.1).1
theorem za_5_5 {S : zx_S} {e : Nat} (h : zs_5 S e) : e + 14 < 900000 ∧ S.1 (e + 14) = (10, 8) := ⟨by have := h.1; omega, (h.2.2.2.2.2.2.2.1).2⟩
theorem zr_5_6 {S : zx_S} {e : Nat} (h : zs_5 S e) : S.2.1 e 6 = some (e + 15) := (h.2.2.2.2.2.2.2.2.1).1
theorem za_5_6 {S : zx_S} {e : Nat} (h : zs_5 S e) : e + 15 < 900000 ∧ S.1 (e + 15) = (10, 8) := ⟨by have := h.1; omega, (h.2.2.2.2.2.2.2.2.1).2⟩
theorem zr_5_7 {S : zx_S} {e : Nat} (h : zs_5 S e) : S.2.1 e 7 = some (e + 16) := (h.2.2.2.2.2.2.2.2.2.1).1
theorem za_5_7 {S : zx_S} {e : Nat} (h : zs_5 S e) : e + 16 < 900000 ∧ S.1 (e + 16) = (10, 250) := ⟨by have := h.1; omega, (h.2.2.2.2.2.2.2.2.2.1).2⟩
theorem zr_5_9 {S : zx_S} {e : Nat} (h : zs_5 S e) : S.2.1 e 9 = some (e + 17) := (h.2.2.2.2.2.2.2.2.2.2.1).1
theorem za_5_9 {S : zx_S} {e : Nat} (h : zs_5 S e) : e + 17 < 900000 ∧ S.1 (e + 17) = (10, 8) := ⟨by have := h.1; omega, (h.2.2.2.2.2.2.2.2.2.2.1).2⟩
theorem zr_5_12 {S : zx_S} {e : Nat} (h : zs_5 S e) : S.2.1 e 12 = some (e + 18) := (h.2.2.2.2.2.2.2.2.2.2.2.1).1
theorem za_5_12 {S : zx_S} {e : Nat} (h : zs_5 S e) : e + 18 < 900000 ∧ S.1 (e + 18) = (12, 8) := ⟨by have := h.1; omega, (h.2.2.2.2.2.2.2.2.2.2.2.1).2.1⟩
theorem zb_5_12 {S : zx_S} {e i : Nat} (h : zs_5 S e) (hi : i < 8) : S.2.1 (e + 18) i = some (e + 19 + i) ∧ e + 19 + i < 900000 ∧ S.1 (e + 19 + i) = (10, 3) := ⟨((h.2.2.2.2.2.2.2.2.2.2.2.1).2.2 i hi).1, by have := h.1; omega, ((h.2.2.2.2.2.2.2.2.2.2.2.1).2.2 i hi).2⟩
theorem zr_5_13 {S : zx_S} {e : Nat} (h : zs_5 S e) : S.2.1 e 13 = some (e + 27) := (h.2.2.2.2.2.2.2.2.2.2.2.2.1).1
theorem za_5_13 {S : zx_S} {e : Nat} (h : zs_5 S e) : e + 27 < 900000 ∧ S.1 (e + 27) = (10, 8) := ⟨by have := h.1; omega, (h.2.2.2.2.2.2.2.2.2.2.2.2.1).2⟩
theorem zr_5_15 {S : zx_S} {e : Nat} (h : zs_5 S e) : S.2.1 e 15 = some (e + 28) := (h.2.2.2.2.2.2.2.2.2.2.2.2.2.1).1
theorem za_5_15 {S : zx_S} {e : Nat} (h : zs_5 S e) : e + 28 < 900000 ∧ S.1 (e + 28) = (10, 12) := ⟨by have := h.1; omega, (h.2.2.2.2.2.2.2.2.2.2.2.2.2.1).2⟩
theorem zr_5_17 {S : zx_S} {e : Nat} (h : zs_5 S e) : S.2.1 e 17 = some (e + 29) := (h.2.2.2.2.2.2.2.2.2.2.2.2.2.2.1).1
theorem za_5_17 {S : zx_S} {e : Nat} (h : zs_5 S e) : e + 29 < 900000 ∧ S.1 (e + 29) = (10, 3) := ⟨by have := h.1; omega, (h.2.2.2.2.2.2.2.2.2.2.2.2.2.2.1).2⟩
theorem zr_5_27 {S : zx_S} {e : Nat} (h : zs_5 S e) : S.2.1 e 27 = some (e + 30) := (h.2.2.2.2.2.2.2.2.2.2.2.2.2.2.2.1).1
theorem za_5_27 {S : zx_S} {e : Nat} (h : zs_5 S e) : e + 30 < 900000 ∧ S.1 (e + 30) = (10, 3) := ⟨by have := h.1; omega, (h.2.2.2.2.2.2.2.2.2.2.2.2.2.2.2.1).2⟩
theorem zr_5_30 {S : zx_S} {e : Nat} (h : zs_5 S e) : S.2.1 e 30 = some (e + 31) := (h.2.2.2.2.2.2.2.2.2.2.2.2.2.2.2.2.1).1
theorem za_5_30 {S : zx_S} {e : Nat} (h : zs_5 S e) : e + 31 < 900000 ∧ S.1 (e + 31) = (10, 8) := ⟨by have := h.1; omega, (h.2.2.2.2.2.2.2.2.2.2.2.2.2.2.2.2.1).2⟩
theorem zr_5_34 {S : zx_S} {e : Nat} (h : zs_5 S e) : S.2.1 e 34 = some (e + 32) := (h.2.2.2.2.2.2.2.2.2.2.2.2.2.2.2.2.2.1).1
theorem za_5_34 {S : zx_S} {e : Nat} (h : zs_5 S e) : e + 32 < 900000 ∧ S.1 (e + 32) = (10, 8) := ⟨by have := h.1; omega, (h.2.2.2.2.2.2.2.2.2.2.2.2.2.2.2.2.2.1).2⟩
theorem zr_5_35 {S : zx_S} {e : Nat} (h : zs_5 S e) : S.2.1 e 35 = some (e + 33) := (h.2.2.2.2.2.2.2.2.2.2.2.2.2.2.2.2.2.2.1).1
theorem za_5_35 {S : zx_S} {e : Nat} (h : zs_5 S e) : e + 33 < 900000 ∧ S.1 (e + 33) = (10, 8) := ⟨by have := h.1; omega, (h.2.2.2.2.2.2.2.2.2.2.2.2.2.2.2.2.2.2.1).2⟩
theorem zr_5_37 {S : zx_S} {e : Nat} (h : zs_5 S e) : S.2.1 e 37 = some (e + 34) := (h.2.2.2.2.2.2.2.2.2.2.2.2.2.2.2.2.2.2.2.1).1
theorem za_5_37 {S : zx_S} {e : Nat} (h : zs_5 S e) : e + 34 < 900000 ∧ S.1 (e + 34) = (10, 3) := ⟨by have := h.1; omega, (h.2.2.2.2.2.2.2.2.2.2.2.2.2.2.2.2.2.2.2.1).2⟩
theorem zr_5_38 {S : zx_S} {e : Nat} (h : zs_5 S e) : S.2.1 e 38 = some (e + 35) := (h.2.2.2.2.2.2.2.2.2.2.2.2.2.2.2.2.2.2.2.2.1).1
theorem za_5_38 {S : zx_S} {e : Nat} (h : zs_5 S e) : e + 35 < 900000 ∧ S.1 (e + 35) = (10, 256) := ⟨by have := h.1; omega, (h.2.2.2.2.2.2.2.2.2.2.2.2.2.2.2.2.2.2.2.2.1).2⟩
theorem zr_5_39 {S : zx_S} {e : Nat} (h : zs_5 S e) : S.2.1 e 39 = some (e + 36) := (h.2.2.2.2.2.2.2.2.2.2.2.2.2.2.2.2.2.2.2.2.2.1).1
theorem za_5_39 {S : zx_S} {e : Nat} (h : zs_5 S e) : e + 36 < 900000 ∧ S.1 (e + 36) = (12, 256) := ⟨by have := h.1; omega, (h.2.2.2.2.2.2.2.2.2.2.2.2.2.2.2.2.2.2.2.2.2.1).2.1⟩
theorem zb_5_39 {S : zx_S} {e i : Nat} (h : zs_5 S e) (hi : i < 256) : S.2.1 (e + 36) i = some (e + 37 + i) ∧ e + 37 + i < 900000 ∧ S.1 (e + 37 + i) = (10, 3) := ⟨((h.2.2.2.2.2.2.2.2.2.2.2.2.2.2.2.2.2.2.2.2.2.1).2.2 i hi).1, by have := h.1; omega, ((h.2.2.2.2.2.2.2.2.2.2.2.2.2.2.2.2.2.2.2.2.2.1).2.2 i hi).2⟩
theorem zr_5_40 {S : zx_S} {e : Nat} (h : zs_5 S e) : S.2.1 e 40 = some (e + 293) := (h.2.2.2.2.2.2.2.2.2.2.2.2.2.2.2.2.2.2.2.2.2.2.1).1
theorem za_5_40 {S : zx_S} {e : Nat} (h : zs_5 S e) : e + 293 < 900000 ∧ S.1 (e + 293) = (10, 8) := ⟨by have := h.1; omega, (h.2.2.2.2.2.2.2.2.2.2.2.2.2.2.2.2.2.2.2.2.2.2.1).2⟩
theorem zr_5_42 {S : zx_S} {e : Nat} (h : zs_5 S e) : S.2.1 e 42 = some (e + 294) := (h.2.2.2.2.2.2.2.2.2.2.2.2.2.2.2.2.2.2.2.2.2.2.2).1
theorem za_5_42 {S : zx_S} {e : Nat} (h : zs_5 S e) : e + 294 < 900000 ∧ S.1 (e + 294) = (10, 3) := ⟨by have := h.1; omega, (h.2.2.2.2.2.2.2.2.2.2.2.2.2.2.2.2.2.2.2.2.2.2.2).2⟩
theorem vp_lt {i : Int32} {n : Nat} (h : vp_in i n) : i.toNatClampNeg < n := Nat.not_le.mp fun q => h (Or.inr q)
theorem zx_rb1 {x : Int32} (h : x = 0 ∨ x = 1) : zx_rb 1 x = true := by rcases h with rfl | rfl <;> rfl
theorem ml_0 : (zt_mt 0).2.2.1 = 4 := by decide +kernel
theorem ml_1 : (zt_mt 1).2.2.1 = 1 := by decide +kernel
theorem ml_3 : (zt_mt 3).2.2.1 = 1 := by decide +kernel
theorem ml_4 : (zt_mt 4).2.2.1 = 1 := by decide +kernel
theorem ml_5 : (zt_mt 5).2.2.1 = 1 := by decide +kernel
theorem ml_6 : (zt_mt 6).2.2.1 = 1 := by decide +kernel
theorem ml_7 : (zt_mt 7).2.2.1 = 4 := by decide +kernel
theorem ml_8 : (zt_mt 8).2.2.1 = 1 := by decide +kernel
theorem ml_9 : (zt_mt 9).2.2.1 = 1 := by decide +kernel
theorem ml_10 : (zt_mt 10).2.2.1 = 3 := by decide +kernel
theorem ml_11 : (zt_mt 11).2.2.1 = 2 := by decide +kernel
theorem ml_12 : (zt_mt 12).2.2.1 = 3 := by decide +kernel
theorem ml_13 : (zt_mt 13).2.2.1 = 5 := by decide +kernel
theorem ml_14 : (zt_mt 14).2.2.1 = 6 := by decide +kernel
theorem ml_15 : (zt_mt 15).2.2.1 = 2 := by decide +kernel
theorem ml_16 : (zt_mt 16).2.2.1 = 2 := by decide +kernel
theorem ml_17 : (zt_mt 17).2.2.1 = 3 := by decide +kernel
theorem ml_18 : (zt_mt 18).2.2.1 = 6 := by decide +kernel
theorem ml_19 : (zt_mt 19).2.2.1 = 2 := by decide +kernel
theorem ml_20 : (zt_mt 20).2.2.1 = 7 := by decide +kernel
theorem ml_21 : (zt_mt 21).2.2.1 = 5 := by decide +kernel
theorem ml_22 : (zt_mt 22).2.2.1 = 8 := by decide +kernel
theorem ml_23 : (zt_mt 23).2.2.1 = 5 := by decide +kernel
theorem ml_24 : (zt_mt 24).2.2.1 = 3 := by decide +kernel
theorem ml_25 : (zt_mt 25).2.2.1 = 2 := by decide +kernel
theorem ml_26 : (zt_mt 26).2.2.1 = 3 := by decide +kernel
theorem ml_27 : (zt_mt 27).2.2.1 = 2 := by decide +kernel
theorem ml_28 : (zt_mt 28).2.2.1 = 2 := by decide +kernel
theorem ml_29 : (zt_mt 29).2.2.1 = 2 := by decide +kernel
theorem ml_30 : (zt_mt 30).2.2.1 = 4 := by decide +kernel
theorem ml_31 : (zt_mt 31).2.2.1 = 6 := by decide +kernel
theorem ml_32 : (zt_mt 32).2.2.1 = 1 := by decide +kernel
theorem ml_33 : (zt_mt 33).2.2.1 = 2 := by decide +kernel
theorem ml_34 : (zt_mt 34).2.2.1 = 2 := by decide +kernel
theorem ml_35 : (zt_mt 35).2.2.1 = 2 := by decide +kernel
theorem ml_36 : (zt_mt 36).2.2.1 = 2 := by decide +kernel
theorem ml_37 : (zt_mt 37).2.2.1 = 3 := by decide +kernel
theorem ml_38 : (zt_mt 38).2.2.1 = 3 := by decide +kernel
theorem ml_39 : (zt_mt 39).2.2.1 = 3 := by decide +kernel
theorem ml_40 : (zt_mt 40).2.2.1 = 4 := by decide +kernel
theorem ml_41 : (zt_mt 41).2.2.1 = 3 := by decide +kernel
theorem ml_42 : (zt_mt 42).2.2.1 = 2 := by decide +kernel
theorem ml_43 : (zt_mt 43).2.2.1 = 4 := by decide +kernel
theorem ml_44 : (zt_mt 44).2.2.1 = 1 := by decide +kernel
theorem ml_45 : (zt_mt 45).2.2.1 = 4 := by decide +kernel
theorem ml_46 : (zt_mt 46).2.2.1 = 5 := by decide +kernel
theorem ml_47 : (zt_mt 47).2.2.1 = 5 := by decide +kernel
theorem ml_48 : (zt_mt 48).2.2.1 = 2 := by decide +kernel
theorem ml_49 : (zt_mt 49).2.2.1 = 1 := by decide +kernel
theorem ml_50 : (zt_mt 50).2.2.1 = 4 := by decide +kernel
theorem ml_51 : (zt_mt 51).2.2.1 = 7 := by decide +kernel
theorem ml_52 : (zt_mt 52).2.2.1 = 2 := by decide +kernel
theorem ml_53 : (zt_mt 53).2.2.1 = 2 := by decide +kernel
theorem ml_54 : (zt_mt 54).2.2.1 = 2 := by decide +kernel
theorem ml_55 : (zt_mt 55).2.2.1 = 2 := by decide +kernel
theorem ml_56 : (zt_mt 56).2.2.1 = 5 := by decide +kernel
theorem ml_58 : (zt_mt 58).2.2.1 = 8 := by decide +kernel
theorem ml_59 : (zt_mt 59).2.2.1 = 4 := by decide +kernel
theorem ml_60 : (zt_mt 60).2.2.1 = 6 := by decide +kernel
theorem ml_61 : (zt_mt 61).2.2.1 = 2 := by decide +kernel
theorem ml_62 : (zt_mt 62).2.2.1 = 10 := by decide +kernel
theorem ml_63 : (zt_mt 63).2.2.1 = 2 := by decide +kernel
theorem ml_64 : (zt_mt 64).2.2.1 = 2 := by decide +kernel
theorem ml_65 : (zt_mt 65).2.2.1 = 7 := by decide +kernel
theorem ml_66 : (zt_mt 66).2.2.1 = 4 := by decide +kernel
theorem ml_67 : (zt_mt 67).2.2.1 = 3 := by decide +kernel
theorem ml_68 : (zt_mt 68).2.2.1 = 3 := by decide +kernel
theorem ml_69 : (zt_mt 69).2.2.1 = 4 := by decide +kernel
theorem ml_70 : (zt_mt 70).2.2.1 = 1 := by decide +kernel
theorem ml_71 : (zt_mt 71).2.2.1 = 4 := by decide +kernel
theorem ml_72 : (zt_mt 72).2.2.1 = 5 := by decide +kernel
theorem ml_73 : (zt_mt 73).2.2.1 = 4 := by decide +kernel
theorem ml_74 : (zt_mt 74).2.2.1 = 3 := by decide +kernel
theorem ml_75 : (zt_mt 75).2.2.1 = 1 := by decide +kernel
theorem ml_76 : (zt_mt 76).2.2.1 = 5 := by decide +kernel
theorem ml_77 : (zt_mt 77).2.2.1 = 7 := by decide +kernel
theorem ml_78 : (zt_mt 78).2.2.1 = 3 := by decide +kernel
theorem ml_79 : (zt_mt 79).2.2.1 = 4 := by decide +kernel
theorem ml_80 : (zt_mt 80).2.2.1 = 2 := by decide +kernel
theorem ml_81 : (zt_mt 81).2.2.1 = 2 := by decide +kernel
theorem ml_82 : (zt_mt 82).2.2.1 = 2 := by decide +kernel
theorem ml_83 : (zt_mt 83).2.2.1 = 2 := by decide +kernel
theorem ml_84 : (zt_mt 84).2.2.1 = 2 := by decide +kernel
theorem ml_85 : (zt_mt 85).2.2.1 = 5 := by decide +kernel
theorem ml_86 : (zt_mt 86).2.2.1 = 2 := by decide +kernel
theorem ml_87 : (zt_mt 87).2.2.1 = 3 := by decide +kernel
theorem ml_88 : (zt_mt 88).2.2.1 = 2 := by decide +kernel
theorem ml_89 : (zt_mt 89).2.2.1 = 3 := by decide +kernel
theorem ml_90 : (zt_mt 90).2.2.1 = 1 := by decide +kernel
theorem ml_91 : (zt_mt 91).2.2.1 = 1 := by decide +kernel
theorem ml_92 : (zt_mt 92).2.2.1 = 2 := by decide +kernel
theorem ml_93 : (zt_mt 93).2.2.1 = 1 := by decide +kernel
theorem ml_94 : (zt_mt 94).2.2.1 = 2 := by decide +kernel
theorem ml_95 : (zt_mt 95).2.2.1 = 2 := by decide +kernel
theorem ml_96 : (zt_mt 96).2.2.1 = 3 := by decide +kernel
theorem ml_101 : (zt_mt 101).2.2.1 = 3 := by decide +kernel
theorem ml_102 : (zt_mt 102).2.2.1 = 6 := by decide +kernel
theorem ml_103 : (zt_mt 103).2.2.1 = 5 := by decide +kernel
theorem ml_104 : (zt_mt 104).2.2.1 = 3 := by decide +kernel
theorem ml_105 : (zt_mt 105).2.2.1 = 4 := by decide +kernel
theorem ml_106 : (zt_mt 106).2.2.1 = 4 := by decide +kernel
theorem ml_107 : (zt_mt 107).2.2.1 = 3 := by decide +kernel
theorem ml_108 : (zt_mt 108).2.2.1 = 4 := by decide +kernel
theorem ml_109 : (zt_mt 109).2.2.1 = 3 := by decide +kernel
theorem ml_110 : (zt_mt 110).2.2.1 = 3 := by decide +kernel
theorem ml_111 : (zt_mt 111).2.2.1 = 3 := by decide +kernel
theorem ml_112 : (zt_mt 112).2.2.1 = 8 := by decide +kernel
theorem ml_114 : (zt_mt 114).2.2.1 = 8 := by decide +kernel
theorem ml_115 : (zt_mt 115).2.2.1 = 6 := by decide +kernel
theorem ml_116 : (zt_mt 116).2.2.1 = 2 := by decide +kernel
theorem ml_117 : (zt_mt 117).2.2.1 = 2 := by decide +kernel
theorem ml_118 : (zt_mt 118).2.2.1 = 3 := by decide +kernel
theorem ml_119 : (zt_mt 119).2.2.1 = 2 := by decide +kernel
theorem ml_120 : (zt_mt 120).2.2.1 = 8 := by decide +kernel
theorem ml_121 : (zt_mt 121).2.2.1 = 2 := by decide +kernel
theorem ml_122 : (zt_mt 122).2.2.1 = 3 := by decide +kernel
theorem ml_123 : (zt_mt 123).2.2.1 = 2 := by decide +kernel
theorem ml_124 : (zt_mt 124).2.2.1 = 4 := by decide +kernel
theorem ml_125 : (zt_mt 125).2.2.1 = 3 := by decide +kernel
theorem ml_126 : (zt_mt 126).2.2.1 = 4 := by decide +kernel
theorem ml_127 : (zt_mt 127).2.2.1 = 6 := by decide +kernel
theorem ml_128 : (zt_mt 128).2.2.1 = 2 := by decide +kernel
theorem ml_129 : (zt_mt 129).2.2.1 = 4 := by decide +kernel
theorem ml_130 : (zt_mt 130).2.2.1 = 7 := by decide +kernel
theorem ml_131 : (zt_mt 131).2.2.1 = 10 := by decide +kernel
theorem ml_132 : (zt_mt 132).2.2.1 = 5 := by decide +kernel
theorem ml_133 : (zt_mt 133).2.2.1 = 5 := by decide +kernel
theorem ml_134 : (zt_mt 134).2.2.1 = 6 := by decide +kernel
theorem ml_135 : (zt_mt 135).2.2.1 = 4 := by decide +kernel
theorem ml_136 : (zt_mt 136).2.2.1 = 5 := by decide +kernel
theorem ml_137 : (zt_mt 137).2.2.1 = 10 := by decide +kernel
theorem ml_138 : (zt_mt 138).2.2.1 = 5 := by decide +kernel
theorem ml_139 : (zt_mt 139).2.2.1 = 11 := by decide +kernel
theorem ml_140 : (zt_mt 140).2.2.1 = 6 := by decide +kernel
theorem ml_141 : (zt_mt 141).2.2.1 = 5 := by decide +kernel
theorem ml_142 : (zt_mt 142).2.2.1 = 2 := by decide +kernel
theorem ml_143 : (zt_mt 143).2.2.1 = 8 := by decide +kernel
theorem ml_144 : (zt_mt 144).2.2.1 = 7 := by decide +kernel
theorem ml_145 : (zt_mt 145).2.2.1 = 5 := by decide +kernel
theorem ml_146 : (zt_mt 146).2.2.1 = 2 := by decide +kernel
theorem ml_147 : (zt_mt 147).2.2.1 = 4 := by decide +kernel
theorem ml_148 : (zt_mt 148).2.2.1 = 3 := by decide +kernel
theorem ml_149 : (zt_mt 149).2.2.1 = 7 := by decide +kernel
theorem ml_150 : (zt_mt 150).2.2.1 = 2 := by decide +kernel
theorem ml_151 : (zt_mt 151).2.2.1 = 3 := by decide +kernel
theorem ml_152 : (zt_mt 152).2.2.1 = 1 := by decide +kernel
theorem ml_153 : (zt_mt 153).2.2.1 = 1 := by decide +kernel
theorem ml_154 : (zt_mt 154).2.2.1 = 2 := by decide +kernel
theorem ml_155 : (zt_mt 155).2.2.1 = 2 := by decide +kernel
theorem ml_156 : (zt_mt 156).2.2.1 = 3 := by decide +kernel
theorem ml_157 : (zt_mt 157).2.2.1 = 1 := by decide +kernel
theorem ml_158 : (zt_mt 158).2.2.1 = 5 := by decide +kernel
theorem ml_159 : (zt_mt 159).2.2.1 = 6 := by decide +kernel
theorem ml_160 : (zt_mt 160).2.2.1 = 2 := by decide +kernel
theorem ml_161 : (zt_mt 161).2.2.1 = 6 := by decide +kernel
theorem ml_162 : (zt_mt 162).2.2.1 = 2 := by decide +kernel
theorem ml_163 : (zt_mt 163).2.2.1 = 3 := by decide +kernel
theorem ml_164 : (zt_mt 164).2.2.1 = 7 := by decide +kernel
theorem ml_165 : (zt_mt 165).2.2.1 = 3 := by decide +kernel
theorem ml_166 : (zt_mt 166).2.2.1 = 2 := by decide +kernel
theorem ml_167 : (zt_mt 167).2.2.1 = 3 := by decide +kernel
theorem ml_168 : (zt_mt 168).2.2.1 = 2 := by decide +kernel
theorem ml_169 : (zt_mt 169).2.2.1 = 3 := by decide +kernel
theorem ml_170 : (zt_mt 170).2.2.1 = 2 := by decide +kernel
theorem ml_171 : (zt_mt 171).2.2.1 = 2 := by decide +kernel
theorem ml_172 : (zt_mt 172).2.2.1 = 3 := by decide +kernel
theorem ml_173 : (zt_mt 173).2.2.1 = 7 := by decide +kernel
theorem ml_174 : (zt_mt 174).2.2.1 = 2 := by decide +kernel
theorem ml_175 : (zt_mt 175).2.2.1 = 8 := by decide +kernel
theorem ml_176 : (zt_mt 176).2.2.1 = 6 := by decide +kernel
theorem ml_177 : (zt_mt 177).2.2.1 = 2 := by decide +kernel
theorem ml_178 : (zt_mt 178).2.2.1 = 5 := by decide +kernel
theorem ml_179 : (zt_mt 179).2.2.1 = 5 := by decide +kernel
theorem ml_180 : (zt_mt 180).2.2.1 = 6 := by decide +kernel
theorem ml_181 : (zt_mt 181).2.2.1 = 4 := by decide +kernel
theorem ml_182 : (zt_mt 182).2.2.1 = 9 := by decide +kernel
theorem ml_183 : (zt_mt 183).2.2.1 = 3 := by decide +kernel
theorem ml_184 : (zt_mt 184).2.2.1 = 7 := by decide +kernel
theorem ml_185 : (zt_mt 185).2.2.1 = 3 := by decide +kernel
theorem ml_186 : (zt_mt 186).2.2.1 = 3 := by decide +kernel
theorem ml_187 : (zt_mt 187).2.2.1 = 4 := by decide +kernel
theorem ml_188 : (zt_mt 188).2.2.1 = 4 := by decide +kernel
theorem ml_189 : (zt_mt 189).2.2.1 = 5 := by decide +kernel
theorem ml_190 : (zt_mt 190).2.2.1 = 2 := by decide +kernel
theorem ml_191 : (zt_mt 191).2.2.1 = 4 := by decide +kernel
theorem ml_192 : (zt_mt 192).2.2.1 = 3 := by decide +kernel
theorem ml_193 : (zt_mt 193).2.2.1 = 5 := by decide +kernel
theorem ml_194 : (zt_mt 194).2.2.1 = 3 := by decide +kernel
theorem ml_195 : (zt_mt 195).2.2.1 = 4 := by decide +kernel
theorem ml_196 : (zt_mt 196).2.2.1 = 2 := by decide +kernel
theorem ml_197 : (zt_mt 197).2.2.1 = 2 := by decide +kernel
theorem ml_198 : (zt_mt 198).2.2.1 = 3 := by decide +kernel
theorem ml_199 : (zt_mt 199).2.2.1 = 1 := by decide +kernel
theorem ml_200 : (zt_mt 200).2.2.1 = 3 := by decide +kernel
theorem ml_201 : (zt_mt 201).2.2.1 = 3 := by decide +kernel
theorem ml_202 : (zt_mt 202).2.2.1 = 1 := by decide +kernel
theorem ml_203 : (zt_mt 203).2.2.1 = 1 := by decide +kernel
theorem ml_204 : (zt_mt 204).2.2.1 = 1 := by decide +kernel
theorem ml_205 : (zt_mt 205).2.2.1 = 1 := by decide +kernel
theorem ml_206 : (zt_mt 206).2.2.1 = 2 := by decide +kernel
theorem ml_207 : (zt_mt 207).2.2.1 = 3 := by decide +kernel
theorem ml_208 : (zt_mt 208).2.2.1 = 3 := by decide +kernel
theorem ml_209 : (zt_mt 209).2.2.1 = 4 := by decide +kernel
theorem ml_210 : (zt_mt 210).2.2.1 = 1 := by decide +kernel
theorem ml_211 : (zt_mt 211).2.2.1 = 1 := by decide +kernel
theorem ml_212 : (zt_mt 212).2.2.1 = 2 := by decide +kernel
theorem ml_213 : (zt_mt 213).2.2.1 = 3 := by decide +kernel
theorem ml_214 : (zt_mt 214).2.2.1 = 3 := by decide +kernel
theorem ml_215 : (zt_mt 215).2.2.1 = 4 := by decide +kernel
theorem ml_216 : (zt_mt 216).2.2.1 = 5 := by decide +kernel
theorem ml_217 : (zt_mt 217).2.2.1 = 3 := by decide +kernel
theorem ml_218 : (zt_mt 218).2.2.1 = 6 := by decide +kernel
theorem ml_219 : (zt_mt 219).2.2.1 = 10 := by decide +kernel
theorem ml_220 : (zt_mt 220).2.2.1 = 2 := by decide +kernel
theorem ml_221 : (zt_mt 221).2.2.1 = 2 := by decide +kernel
theorem ml_222 : (zt_mt 222).2.2.1 = 3 := by decide +kernel
theorem ml_223 : (zt_mt 223).2.2.1 = 2 := by decide +kernel
theorem ml_224 : (zt_mt 224).2.2.1 = 4 := by decide +kernel
theorem ml_225 : (zt_mt 225).2.2.1 = 3 := by decide +kernel
theorem ml_226 : (zt_mt 226).2.2.1 = 2 := by decide +kernel
theorem ml_227 : (zt_mt 227).2.2.1 = 4 := by decide +kernel
theorem ml_228 : (zt_mt 228).2.2.1 = 5 := by decide +kernel
theorem ml_229 : (zt_mt 229).2.2.1 = 4 := by decide +kernel
theorem ml_230 : (zt_mt 230).2.2.1 = 4 := by decide +kernel
theorem ml_231 : (zt_mt 231).2.2.1 = 8 := by decide +kernel
theorem ml_232 : (zt_mt 232).2.2.1 = 2 := by decide +kernel
theorem ml_233 : (zt_mt 233).2.2.1 = 3 := by decide +kernel
theorem ml_234 : (zt_mt 234).2.2.1 = 5 := by decide +kernel
theorem ml_235 : (zt_mt 235).2.2.1 = 5 := by decide +kernel
theorem ml_236 : (zt_mt 236).2.2.1 = 6 := by decide +kernel
theorem ml_237 : (zt_mt 237).2.2.1 = 4 := by decide +kernel
theorem ml_238 : (zt_mt 238).2.2.1 = 5 := by decide +kernel
theorem ml_239 : (zt_mt 239).2.2.1 = 8 := by decide +kernel
theorem ml_240 : (zt_mt 240).2.2.1 = 5 := by decide +kernel
theorem ml_241 : (zt_mt 241).2.2.1 = 7 := by decide +kernel
theorem ml_242 : (zt_mt 242).2.2.1 = 8 := by decide +kernel
theorem ml_243 : (zt_mt 243).2.2.1 = 8 := by decide +kernel
theorem ml_244 : (zt_mt 244).2.2.1 = 5 := by decide +kernel
theorem ml_245 : (zt_mt 245).2.2.1 = 4 := by decide +kernel
theorem ml_246 : (zt_mt 246).2.2.1 = 2 := by decide +kernel
theorem ml_247 : (zt_mt 247).2.2.1 = 4 := by decide +kernel
theorem ml_248 : (zt_mt 248).2.2.1 = 5 := by decide +kernel
theorem ml_249 : (zt_mt 249).2.2.1 = 3 := by decide +kernel
theorem ml_250 : (zt_mt 250).2.2.1 = 5 := by decide +kernel
theorem ml_251 : (zt_mt 251).2.2.1 = 2 := by decide +kernel
theorem ml_252 : (zt_mt 252).2.2.1 = 3 := by decide +kernel
theorem ml_253 : (zt_mt 253).2.2.1 = 1 := by decide +kernel
theorem ml_254 : (zt_mt 254).2.2.1 = 1 := by decide +kernel
theorem ml_255 : (zt_mt 255).2.2.1 = 4 := by decide +kernel
theorem ml_256 : (zt_mt 256).2.2.1 = 4 := by decide +kernel
theorem zk_b_m20 : (Int8.ofInt (-20)).toInt32 = (-20 : Int32) := by decide
theorem zk_b_m6 : (Int8.ofInt (-6)).toInt32 = (-6 : Int32) := by decide
theorem zk_b_m5 : (Int8.ofInt (-5)).toInt32 = (-5 : Int32) := by decide
theorem zk_b_m4 : (Int8.ofInt (-4)).toInt32 = (-4 : Int32) := by decide
theorem zk_b_m3 : (Int8.ofInt (-3)).toInt32 = (-3 : Int32) := by decide
theorem zk_b_m2 : (Int8.ofInt (-2)).toInt32 = (-2 : Int32) := by decide
theorem zk_b_6 : (Int8.ofInt (6)).toInt32 = (6 : Int32) := by decide
theorem zk_b_7 : (Int8.ofInt (7)).toInt32 = (7 : Int32) := by decide
theorem zk_b_8 : (Int8.ofInt (8)).toInt32 = (8 : Int32) := by decide
theorem zk_b_10 : (Int8.ofInt (10)).toInt32 = (10 : Int32) := by decide
theorem zk_b_12 : (Int8.ofInt (12)).toInt32 = (12 : Int32) := by decide
theorem zk_b_16 : (Int8.ofInt (16)).toInt32 = (16 : Int32) := by decide
theorem zk_b_24 : (Int8.ofInt (24)).toInt32 = (24 : Int32) := by decide
theorem zk_b_31 : (Int8.ofInt (31)).toInt32 = (31 : Int32) := by decide
theorem zk_b_32 : (Int8.ofInt (32)).toInt32 = (32 : Int32) := by decide
theorem zk_b_40 : (Int8.ofInt (40)).toInt32 = (40 : Int32) := by decide
theorem zk_b_48 : (Int8.ofInt (48)).toInt32 = (48 : Int32) := by decide
theorem zk_b_57 : (Int8.ofInt (57)).toInt32 = (57 : Int32) := by decide
theorem zk_b_59 : (Int8.ofInt (59)).toInt32 = (59 : Int32) := by decide
theorem zk_b_63 : (Int8.ofInt (63)).toInt32 = (63 : Int32) := by decide
theorem zk_b_97 : (Int8.ofInt (97)).toInt32 = (97 : Int32) := by decide
theorem zk_b_99 : (Int8.ofInt (99)).toInt32 = (99 : Int32) := by decide
theorem zk_b_100 : (Int8.ofInt (100)).toInt32 = (100 : Int32) := by decide
theorem zk_b_122 : (Int8.ofInt (122)).toInt32 = (122 : Int32) := by decide
theorem zk_c_0 : Int64.ofNat ((0 : Fin 2) : Nat) = (0 : Int64) := by decide
theorem zk_c_1 : Int64.ofNat ((1 : Fin 2) : Nat) = (1 : Int64) := by decide
theorem zk_i_m10000000 : Int32.ofInt (-10000000) = (-10000000 : Int32) := by decide
theorem zk_i_m1 : Int32.ofInt (-1) = (-1 : Int32) := by decide
theorem zk_i_0 : Int32.ofInt (0) = (0 : Int32) := by decide
theorem zk_i_1 : Int32.ofInt (1) = (1 : Int32) := by decide
theorem zk_i_2 : Int32.ofInt (2) = (2 : Int32) := by decide
theorem zk_i_3 : Int32.ofInt (3) = (3 : Int32) := by decide
theorem zk_i_4 : Int32.ofInt (4) = (4 : Int32) := by decide
theorem zk_i_5 : Int32.ofInt (5) = (5 : Int32) := by decide
theorem zk_i_6 : Int32.ofInt (6) = (6 : Int32) := by decide
theorem zk_i_100000 : Int32.ofInt (100000) = (100000 : Int32) := by decide
theorem zk_i_1000000 : Int32.ofInt (1000000) = (1000000 : Int32) := by decide
theorem zk_i_252645135 : Int32.ofInt (252645135) = (252645135 : Int32) := by decide
theorem zk_i_858993459 : Int32.ofInt (858993459) = (858993459 : Int32) := by decide
theorem zk_i_1000000000 : Int32.ofInt (1000000000) = (1000000000 : Int32) := by decide
theorem zk_i_1103515245 : Int32.ofInt (1103515245) = (1103515245 : Int32) := by decide
theorem zk_i_1431655765 : Int32.ofInt (1431655765) = (1431655765 : Int32) := by decide
theorem zk_l_m10000000000002 : Int64.ofInt (-10000000000002) = (-10000000000002 : Int64) := by decide
theorem zk_l_m10000000000000 : Int64.ofInt (-10000000000000) = (-10000000000000 : Int64) := by decide
theorem zk_l_2 : Int64.ofInt (2) = (2 : Int64) := by decide
theorem zk_l_3 : Int64.ofInt (3) = (3 : Int64) := by decide
theorem zk_l_4 : Int64.ofInt (4) = (4 : Int64) := by decide
theorem zk_l_5 : Int64.ofInt (5) = (5 : Int64) := by decide
theorem zk_l_7 : Int64.ofInt (7) = (7 : Int64) := by decide
theorem zk_l_8 : Int64.ofInt (8) = (8 : Int64) := by decide
theorem zk_l_10 : Int64.ofInt (10) = (10 : Int64) := by decide
theorem zk_l_12 : Int64.ofInt (12) = (12 : Int64) := by decide
theorem zk_l_16 : Int64.ofInt (16) = (16 : Int64) := by decide
theorem zk_l_40 : Int64.ofInt (40) = (40 : Int64) := by decide
theorem zk_l_99 : Int64.ofInt (99) = (99 : Int64) := by decide
theorem zk_l_255 : Int64.ofInt (255) = (255 : Int64) := by decide
theorem zk_l_1000 : Int64.ofInt (1000) = (1000 : Int64) := by decide
theorem zk_l_4000 : Int64.ofInt (4000) = (4000 : Int64) := by decide
theorem zk_l_1000000000 : Int64.ofInt (1000000000) = (1000000000 : Int64) := by decide
theorem zk_l_4294967295 : Int64.ofInt (4294967295) = (4294967295 : Int64) := by decide
theorem zk_s_250 : (Int16.ofInt (250)).toInt32 = (250 : Int32) := by decide
theorem zk_s_255 : (Int16.ofInt (255)).toInt32 = (255 : Int32) := by decide
theorem zk_s_256 : (Int16.ofInt (256)).toInt32 = (256 : Int32) := by decide
theorem zk_s_320 : (Int16.ofInt (320)).toInt32 = (320 : Int32) := by decide
theorem zk_s_768 : (Int16.ofInt (768)).toInt32 = (768 : Int32) := by decide
theorem zk_s_1000 : (Int16.ofInt (1000)).toInt32 = (1000 : Int32) := by decide
theorem zk_s_4000 : (Int16.ofInt (4000)).toInt32 = (4000 : Int32) := by decide
theorem zk_s_9999 : (Int16.ofInt (9999)).toInt32 = (9999 : Int32) := by decide
theorem zk_s_12345 : (Int16.ofInt (12345)).toInt32 = (12345 : Int32) := by decide

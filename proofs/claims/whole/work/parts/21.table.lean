/-! ===== the table: the class's bits and the model's marks ===== -/
/-- open or closed; parents; traits; abstract ones -/
def rT (σ τ : PS) : Prop :=
  (gI σ 400 0 4 = gI τ 500 0 4 ∧ (gI τ 500 0 4 = 0 ∨ gI τ 500 0 4 = 1)) ∧
  (∀ c, c < 12 → gI σ 401 0 c = gI τ 501 0 c ∧ (gI τ 501 0 c = -1 ∨ ∃ q, q < 12 ∧ gI τ 501 0 c = nI q)) ∧
  (∀ x t, x < 16 → t < 16 → (gI τ 502 0 (16 * x + t) = 0 ∨ gI τ 502 0 (16 * x + t) = 1) ∧ (bt (gI σ 402 0 x) t = true ↔ gI τ 502 0 (16 * x + t) = 1)) ∧
  (∀ x t, x < 16 → 16 ≤ t → t < 32 → bt (gI σ 402 0 x) t = false) ∧
  (∀ c, c < 12 → (gI τ 504 0 c = 0 ∨ gI τ 504 0 c = 1) ∧ (bt (gI σ 400 0 3) c = true ↔ gI τ 504 0 c = 1)) ∧
  (∀ t, 12 ≤ t → t < 32 → bt (gI σ 400 0 3) t = false)
theorem isClass_in {j : Nat} (h : j < 12) (τ : PS) : X10_isClass (nI j) τ = some 1 := by
  unfold X10_isClass
  rw [if_neg (nI_pos (by omega)), if_neg (by exact nI_ge (b := 12) h (by omega))]
theorem isClass_out {x : Int32} (h : x < 0 ∨ (¬ x < 0 ∧ nI 12 ≤ x)) (τ : PS) : X10_isClass x τ = some 0 := by
  unfold X10_isClass
  rcases h with h | ⟨h, h2⟩
  · rw [if_pos h]
  · rw [if_neg h, if_pos (by exact h2)]
theorem isClass9 (z : Nat × Nat) (x : Int32) (σ τ : PS) : X9_isClass z x σ = X10_isClass x τ := rfl
theorem isTrait9 (z : Nat × Nat) (x : Int32) (σ τ : PS) : X9_isTrait z x σ = X10_isTrait x τ := rfl
theorem isTrait_in {j : Nat} (h : 12 ≤ j) (h2 : j < 16) (τ : PS) : X10_isTrait (nI j) τ = some 1 := by
  unfold X10_isTrait
  rw [if_neg (by exact nI_nlt (a := j) (b := 12) h (by omega)), if_neg (by exact nI_ge (b := 16) h2 (by omega))]
theorem cases_trait (x : Int32) : (∀ τ : PS, X10_isTrait x τ = some 0) ∨ ∃ j : Nat, 12 ≤ j ∧ j < 16 ∧ x = nI j := by
  rcases cases_nI x (n := 16) (by omega) with h | ⟨h, h2⟩ | ⟨j, hj, rfl⟩
  · left; intro τ; unfold X10_isTrait
    rw [if_pos (Int32.lt_trans h (by decide))]
  · left; intro τ; unfold X10_isTrait
    by_cases h12 : x < 12
    · rw [if_pos h12]
    · rw [if_neg h12, if_pos (by exact h2)]
  · by_cases h12 : 12 ≤ j
    · exact Or.inr ⟨j, h12, hj, rfl⟩
    · left; intro τ; unfold X10_isTrait
      rw [if_pos (by exact nI_lt (a := j) (b := 12) (by omega) (by omega))]
theorem cases_class (x : Int32) : (∀ τ : PS, X10_isClass x τ = some 0) ∨ ∃ j : Nat, j < 12 ∧ x = nI j := by
  rcases cases_nI x (n := 12) (by omega) with h | h | h
  · exact Or.inl (isClass_out (Or.inl h))
  · exact Or.inl (isClass_out (Or.inr h))
  · exact Or.inr h
/-- parent: refused alike, or the same parent is written -/
theorem s_parent (z : Nat × Nat) (x1 x2 : Int32) {σ τ : PS} (h : rT σ τ) :
    (∃ r, X9_parent z x1 x2 σ = some (r, σ) ∧ X10_parent x1 x2 τ = some (r, τ)) ∨
    (∃ c, c < 12 ∧ (x2 = -1 ∨ ∃ q, q < 12 ∧ x2 = nI q) ∧ gI τ 500 0 4 = 0 ∧ X9_parent z x1 x2 σ = some (1, sI σ 401 0 c x2) ∧ X10_parent x1 x2 τ = some (1, sI τ 501 0 c x2)) := by
  unfold X9_parent X10_parent
  simp only [isClass9 z _ σ τ]
  rcases cases_class x1 with h1 | ⟨c, hc, rfl⟩
  · left; exact ⟨-2, by rw [h1]; rfl, by rw [h1]; rfl⟩
  · rw [isClass_in hc]
    simp only [Option.bind_some, if_neg (show ¬ (1 : Int32) = 0 by decide), h.1.1, ib_nI (show c < 2 ^ 31 by omega), gd_d hc, nm_b, ix_nI (show c < 2 ^ 31 by omega)]
    by_cases h2 : x2 = -1
    · simp only [if_pos h2]
      by_cases h3 : gI τ 500 0 4 = 0
      · right; exact ⟨c, hc, Or.inl h2, h3, by rw [if_pos h3], by rw [if_pos h3]⟩
      · left; exact ⟨-3, by rw [if_neg h3], by rw [if_neg h3]⟩
    · simp only [if_neg h2]
      rcases cases_class x2 with h4 | ⟨q, hq, rfl⟩
      · left; exact ⟨-2, by rw [h4]; rfl, by rw [h4]; rfl⟩
      · rw [isClass_in hq]
        simp only [Option.bind_some, if_neg (show ¬ (1 : Int32) = 0 by decide)]
        by_cases h3 : gI τ 500 0 4 = 0
        · right; exact ⟨c, hc, Or.inr ⟨q, hq, rfl⟩, h3, by rw [if_pos h3], by rw [if_pos h3]⟩
        · left; exact ⟨-3, by rw [if_neg h3], by rw [if_neg h3]⟩
theorem rT_parent {σ τ : PS} (h : rT σ τ) {c : Nat} {v : Int32} (hc : c < 12) (hv : v = -1 ∨ ∃ q, q < 12 ∧ v = nI q) : rT (sI σ 401 0 c v) (sI τ 501 0 c v) := by
  obtain ⟨h1, h2, h3, h4, h5, h6⟩ := h
  refine ⟨?_, fun d hd => ?_, fun x t hx ht => ?_, fun x t hx ht ht2 => ?_, fun d hd => ?_, fun t ht ht2 => ?_⟩
  · simpa [gI_sI] using h1
  · by_cases hdc : d = c
    · subst hdc; simpa [gI_sI] using hv
    · simpa [gI_sI, hdc] using h2 d hd
  · simpa [gI_sI] using h3 x t hx ht
  · simpa [gI_sI] using h4 x t hx ht ht2
  · simpa [gI_sI] using h5 d hd
  · simpa [gI_sI] using h6 t ht ht2

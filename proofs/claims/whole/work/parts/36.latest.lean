/-! ===== what the latest call left: value(), failure(), step(), where() ===== -/
def rV (σ τ : PS) : Prop := (gI σ 150 0 3 = gI τ 500 0 25 ∨ (gI τ 500 0 25 = -1 ∧ gI σ 150 0 3 = 0 ∧ gL σ 150 0 5 = 0)) ∧ (gI τ 500 0 25 = 0 → gL σ 150 0 5 = gL τ 500 0 26) ∧ (gI τ 500 0 25 = 3 → gI σ 150 0 4 = gI τ 500 0 27) ∧ gI σ 450 0 11 = gI τ 500 0 33 ∧ gI σ 150 0 2 = gI τ 500 0 30 ∧ ∃ sc : Nat, sc < 2 ^ 30 ∧ gI σ 150 0 1 = nI sc ∧ gI τ 500 0 29 = nI sc ∧ ∀ k, k < sc → k < 1000 → gI σ 151 0 k = gI τ 529 0 k
theorem s_where (z : Nat × Nat) {σ τ : PS} (h : rV σ τ) : ∃ r, X9_where z σ = some r ∧ X10_where τ = some r := ⟨_, by unfold X9_where; rw [h.2.2.2.1], rfl⟩
theorem s_value (z : Nat × Nat) {σ τ : PS} (h : rV σ τ) : ∃ r, X9_value z σ = some r ∧ X10_value τ = some r := by
  unfold X9_value X10_value
  obtain ⟨h1, h2, -⟩ := h
  rcases h1 with e | ⟨e1, e2, e3⟩
  · rw [e]
    by_cases k : gI τ 500 0 25 = 0
    · exact ⟨gL τ 500 0 26, by simp [k, h2 k], by simp [k]⟩
    · exact ⟨0, by simp [k], by simp [k]⟩
  · exact ⟨0, by simp [e2, e3], by rw [e1]; rfl⟩
theorem s_failure (z : Nat × Nat) {σ τ : PS} (h : rV σ τ) : ∃ r, X9_failure z σ = some r ∧ X10_failure τ = some r := by
  unfold X9_failure X10_failure
  obtain ⟨h1, -, h3, -⟩ := h
  rcases h1 with e | ⟨e1, e2, e3⟩
  · rw [e]
    by_cases k : gI τ 500 0 25 = 3
    · exact ⟨gI τ 500 0 27, by simp [k, h3 k], by simp [k]⟩
    · exact ⟨0, by simp [k], by simp [k]⟩
  · exact ⟨0, by rw [e2]; rfl, by rw [e1]; rfl⟩
theorem s_step (z : Nat × Nat) (x1 : Int32) {σ τ : PS} (h : rV σ τ) : ∃ r, X9_step z x1 σ = some r ∧ X10_step x1 τ = some r := by
  unfold X9_step X10_step
  obtain ⟨-, -, -, -, -, sc, hs, e1, e2, e3⟩ := h
  rw [e1, e2]
  rcases cases_nI x1 (n := sc) (by omega) with k | ⟨k, k2⟩ | ⟨i, hi, rfl⟩
  · exact ⟨-1, by simp [k], by simp [k]⟩
  · exact ⟨-1, by simp [k, k2], by simp [k, k2]⟩
  · have n1 : ¬ nI i < 0 := nI_pos (by omega)
    have n2 : ¬ nI sc ≤ nI i := nI_ge hi (by omega)
    by_cases c : i < 1000
    · have n3 : nI i < (1000 : Int32) := nI_lt (b := 1000) c (by omega)
      have n4 : ¬ (1000 : Int32) ≤ nI i := nI_ge (b := 1000) c (by omega)
      exact ⟨gI τ 529 0 i, by simp [n1, n2, n3, n4, ib_nI (show i < 2 ^ 31 by omega), c, gd_t, ix_nI (show i < 2 ^ 31 by omega), e3 i hi c], by simp [n1, n2, n3, n4, ib_nI (show i < 2 ^ 31 by omega), c, gd_t, ix_nI (show i < 2 ^ 31 by omega)]⟩
    · have n3 : ¬ nI i < (1000 : Int32) := nI_nlt (b := 1000) (by omega) (by omega)
      have n4 : (1000 : Int32) ≤ nI i := nI_le (a := 1000) (by omega) (by omega)
      exact ⟨-1, by simp [n1, n2, n3, n4], by simp [n1, n2, n3, n4]⟩

/-! ===== place() and test() ===== -/
theorem s_place {z : Nat × Nat} {own pn : Nat → Nat} {σ τ : PS} (hF : rF z pn σ τ) (h : rH z own pn σ τ) (x1 x2 x3 : Int32) :
    (∃ r, X9_place z x1 x2 x3 σ = some (r, σ) ∧ X10_place x1 x2 x3 τ = some (r, τ)) ∨
    (∃ g i, g < z.2 ∧ i < pn (own g) ∧ gI τ 520 0 g = 0 ∧ (x3 = -1 ∨ ∃ c, c < 16 ∧ x3 = nI c) ∧ X9_place z x1 x2 x3 σ = some (1, sI σ 106 g i x3) ∧ X10_place x1 x2 x3 τ = some (1, sI τ 521 0 (2 * g + i) x3)) := by
  unfold X9_place X10_place
  have h40 := h.1
  rcases hdAt h x1 with ⟨e1, e2⟩ | ⟨g, hg, rfl, e1, e2⟩
  · left
    refine ⟨-2, by rw [e1]; rfl, ?_⟩
    unfold X10_hasPlace
    rw [e2]; rfl
  · obtain ⟨⟨a1, a2, a3, a4⟩, ⟨-, -, -, -, -, -, s1, -⟩, ⟨g1, -, -⟩, -⟩ := h.2.2.2 g hg
    rw [e1]
    simp only [Option.bind_some, oc_s' hg, a3, dr_s a2, s1]
    rcases hasPl hF h hg x2 with ⟨k1, k2⟩ | ⟨i, hi, hi2, rfl, k1, k2⟩
    · left; exact ⟨-2, by rw [k1]; rfl, by rw [k2]; rfl⟩
    · rw [k1, k2]
      simp only [Option.bind_some, if_neg (show ¬ (1 : Int32) = 0 by decide), ib_nI (show g < 2 ^ 31 by omega), gd_d (show g < 40 by omega), ix_nI (show g < 2 ^ 31 by omega), ib_nI (show i < 2 ^ 31 by omega), g1, gd_d hi, ix_nI (show i < 2 ^ 31 by omega), nI_2, ib_nI (show 2 * g + i < 2 ^ 31 by omega), gd_d (show 2 * g + i < 80 by omega), ix_nI (show 2 * g + i < 2 ^ 31 by omega), nm_b]
      rcases cases_code x3 with ⟨c1, c2, c3 | ⟨c3, c4⟩⟩ | ⟨c1, c2, c3⟩ | ⟨c, hc, c0, c1, c2, c3, c4⟩
      · left; exact ⟨-2, by rw [if_neg c1, c2]; rfl, by rw [if_pos c3]⟩
      · left; exact ⟨-2, by rw [if_neg c1, c2]; rfl, by rw [if_neg c3, if_neg c4]⟩
      · rw [if_pos c1, if_neg c2, if_pos c3]
        by_cases k : gI τ 520 0 g = 0
        · right; exact ⟨g, i, hg, hi, k, Or.inl c1, by rw [if_pos k], by rw [if_pos k]⟩
        · left; exact ⟨-3, by rw [if_neg k], by rw [if_neg k]⟩
      · rw [if_neg c1, if_neg c2, if_pos c3, c4]
        simp only [Option.bind_some, if_neg (show ¬ (1 : Int32) = 0 by decide)]
        by_cases k : gI τ 520 0 g = 0
        · right; exact ⟨g, i, hg, hi, k, Or.inr ⟨c, hc, c0⟩, by rw [if_pos k], by rw [if_pos k]⟩
        · left; exact ⟨-3, by rw [if_neg k], by rw [if_neg k]⟩
theorem s_test {z : Nat × Nat} {own pn : Nat → Nat} {σ τ : PS} (hF : rF z pn σ τ) (h : rH z own pn σ τ) (x1 x2 x3 x4 : Int32) :
    (∃ r, X9_test z x1 x2 x3 x4 σ = some (r, σ) ∧ X10_test x1 x2 x3 x4 τ = some (r, τ)) ∨
    (∃ g i, g < z.2 ∧ i < pn (own g) ∧ gI τ 520 0 g = 0 ∧ x3 ≤ x4 ∧ X9_test z x1 x2 x3 x4 σ = some (1, sI (sI σ 107 g i x3) 108 g i x4) ∧ X10_test x1 x2 x3 x4 τ = some (1, sI (sI τ 522 0 (2 * g + i) x3) 523 0 (2 * g + i) x4)) := by
  unfold X9_test X10_test
  have h40 := h.1
  rcases hdAt h x1 with ⟨e1, e2⟩ | ⟨g, hg, rfl, e1, e2⟩
  · left
    refine ⟨-2, by rw [e1]; rfl, ?_⟩
    unfold X10_hasPlace
    rw [e2]; rfl
  · obtain ⟨⟨a1, a2, a3, a4⟩, ⟨-, -, -, -, -, -, s1, -⟩, ⟨-, g2, g3⟩, -⟩ := h.2.2.2 g hg
    rw [e1]
    simp only [Option.bind_some, oc_s' hg, a3, dr_s a2, s1]
    rcases hasPl hF h hg x2 with ⟨k1, k2⟩ | ⟨i, hi, hi2, rfl, k1, k2⟩
    · left; exact ⟨-2, by rw [k1]; rfl, by rw [k2]; rfl⟩
    · rw [k1, k2]
      simp only [Option.bind_some, if_neg (show ¬ (1 : Int32) = 0 by decide), ib_nI (show g < 2 ^ 31 by omega), gd_d (show g < 40 by omega), ix_nI (show g < 2 ^ 31 by omega), ib_nI (show i < 2 ^ 31 by omega), gN_sI, g2, g3, gd_d hi, ix_nI (show i < 2 ^ 31 by omega), nI_2, ib_nI (show 2 * g + i < 2 ^ 31 by omega), gd_d (show 2 * g + i < 80 by omega), ix_nI (show 2 * g + i < 2 ^ 31 by omega), nm_b]
      by_cases c : x3 ≤ x4
      · rw [if_pos c, if_pos c]
        by_cases k : gI τ 520 0 g = 0
        · right; exact ⟨g, i, hg, hi, k, c, by rw [if_pos k], by rw [if_pos k]⟩
        · left; exact ⟨-3, by rw [if_neg k], by rw [if_neg k]⟩
      · left; exact ⟨-2, by rw [if_neg c], by rw [if_neg c]⟩
theorem rH_place {z : Nat × Nat} {own pn : Nat → Nat} {σ τ : PS} (hF : rF z pn σ τ) (h : rH z own pn σ τ) {g i : Nat} {v : Int32} (hg : g < z.2) (hi : i < pn (own g)) (hv : v = -1 ∨ ∃ c, c < 16 ∧ v = nI c) : rH z own pn (sI σ 106 g i v) (sI τ 521 0 (2 * g + i) v) := by
  obtain ⟨h1, h2, h3, h4⟩ := h
  refine ⟨h1, by simpa [gI_sI] using h2, by simpa [gI_sI] using h3, fun k hk => ?_⟩
  obtain ⟨⟨a1, a2, a3, a4⟩, b, c1, c2⟩ := h4 k hk
  refine ⟨⟨a1, a2, a3, by simpa [gI_sI] using a4⟩, by simpa [rHo, gI_sI] using b, c1, fun j hj => ?_⟩
  have q1 := (hF.2.2.2 (own k) a2).2.2.1.2
  have q2 := (hF.2.2.2 (own g) (h4 g hg).1.2.1).2.2.1.2
  by_cases e : k = g ∧ j = i
  · obtain ⟨rfl, rfl⟩ := e
    obtain ⟨d1, d2, d3, d4⟩ := c2 j hj
    exact ⟨by simp [gI_sI], by simpa [gI_sI] using hv, by simpa [gI_sI] using d3, by simpa [gI_sI] using d4⟩
  · have e1 : ¬ 2 * k + j = 2 * g + i := by omega
    simpa [gI_sI, e, e1] using c2 j hj
theorem rH_test {z : Nat × Nat} {own pn : Nat → Nat} {σ τ : PS} (hF : rF z pn σ τ) (h : rH z own pn σ τ) {g i : Nat} {v w : Int32} (hg : g < z.2) (hi : i < pn (own g)) : rH z own pn (sI (sI σ 107 g i v) 108 g i w) (sI (sI τ 522 0 (2 * g + i) v) 523 0 (2 * g + i) w) := by
  obtain ⟨h1, h2, h3, h4⟩ := h
  refine ⟨h1, by simpa [gI_sI] using h2, by simpa [gI_sI] using h3, fun k hk => ?_⟩
  obtain ⟨⟨a1, a2, a3, a4⟩, b, c1, c2⟩ := h4 k hk
  refine ⟨⟨a1, a2, a3, by simpa [gI_sI] using a4⟩, by simpa [rHo, gI_sI] using b, c1, fun j hj => ?_⟩
  have q1 := (hF.2.2.2 (own k) a2).2.2.1.2
  have q2 := (hF.2.2.2 (own g) (h4 g hg).1.2.1).2.2.1.2
  by_cases e : k = g ∧ j = i
  · obtain ⟨rfl, rfl⟩ := e
    obtain ⟨d1, d2, d3, d4⟩ := c2 j hj
    exact ⟨by simpa [gI_sI] using d1, by simpa [gI_sI] using d2, by simp [gI_sI], by simp [gI_sI]⟩
  · have e1 : ¬ 2 * k + j = 2 * g + i := by omega
    simpa [gI_sI, e, e1] using c2 j hj

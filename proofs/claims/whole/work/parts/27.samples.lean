/-! ===== below, samples, told samples, counters ===== -/
theorem belowC (z : Nat × Nat) {x y : Nat} (hx : x < 16) (hy : y < 16) (σ : PS) : X8_isBelow z (nI x) (nI y) σ = some (if x = y ∨ bt (gI σ 403 0 x) y = true then 1 else 0) := by
  unfold X8_isBelow
  by_cases e : x = y
  · subst e; rw [if_pos rfl, if_pos (Or.inl rfl)]
  · have e' : ¬ nI x = nI y := fun q => e ((nI_eq (by omega) (by omega)).mp q)
    rw [if_neg e', ib_nI (by omega), gd_d hx, ix_nI (by omega)]
    rcases hb : bt (gI σ 403 0 x) y with _ | _
    · rw [if_pos ((b_test (by omega)).mpr hb), if_neg (by simp [e])]
    · rw [if_neg (fun q => by rw [b_test (by omega)] at q; rw [q] at hb; cases hb), if_pos (Or.inr rfl)]
theorem belowM {σ τ : PS} (h : rB σ τ) {x y : Nat} (hx : x < 16) (hy : y < 16) : X10_isBelow (nI x) (nI y) τ = some (if x = y ∨ bt (gI σ 403 0 x) y = true then 1 else 0) := by
  unfold X10_isBelow
  obtain ⟨h1, h2⟩ := h x y hx hy
  rw [nI_16, ib_nI (by omega), gd_d (by omega), ix_nI (by omega)]
  have hB : isB (gI τ 503 0 (16 * x + y)) = true := by rcases h1 with q | q <;> simp [isB, q]
  rw [hB, gd_t]
  by_cases k : x = y ∨ bt (gI σ 403 0 x) y = true
  · rw [if_pos k, h2.mpr k]
  · rw [if_neg k]
    rcases h1 with q | q
    · rw [q]
    · exact absurd (h2.mp q) k
theorem s_below (z : Nat × Nat) (x1 x2 : Int32) {σ τ : PS} (h : rT σ τ) (hB : gI τ 500 0 4 = 1 → rB σ τ) : ∃ r, X9_below z x1 x2 σ = some r ∧ X10_below x1 x2 τ = some r := by
  unfold X9_below X10_below X9_isCode
  rw [h.1.1]
  rcases h.1.2 with h0 | h0
  · exact ⟨0, by rw [if_pos h0], by rw [if_pos h0]⟩
  · have hne : ¬ gI τ 500 0 4 = 0 := by rw [h0]; decide
    rw [if_neg hne, if_neg hne]
    rcases cases_nI x1 (n := 16) (by omega) with k | ⟨k, k2⟩ | ⟨x, hx, rfl⟩
    · exact ⟨0, by simp [k], by simp [k]⟩
    · have k3 : (16 : Int32) ≤ x1 := k2
      exact ⟨0, by simp [k, k3], by simp [k, k3]⟩
    · have n1 : ¬ nI x < 0 := nI_pos (by omega)
      have n2 : ¬ (16 : Int32) ≤ nI x := nI_ge (b := 16) hx (by omega)
      rcases cases_nI x2 (n := 16) (by omega) with k | ⟨k, k2⟩ | ⟨y, hy, rfl⟩
      · exact ⟨0, by simp [n1, n2, k], by simp [n1, n2, k]⟩
      · have k3 : (16 : Int32) ≤ x2 := k2
        exact ⟨0, by simp [n1, n2, k, k3], by simp [n1, n2, k, k3]⟩
      · have m1 : ¬ nI y < 0 := nI_pos (by omega)
        have m2 : ¬ (16 : Int32) ≤ nI y := nI_ge (b := 16) hy (by omega)
        rw [belowC z hx hy, belowM (hB h0) hx hy]
        simp only [if_neg n1, if_neg n2, if_neg m1, if_neg m2, Option.bind_some, if_neg (show ¬ (1 : Int32) = 0 by decide)]
        by_cases k : x = y ∨ bt (gI σ 403 0 x) y = true
        · exact ⟨1, by rw [if_pos k]; rfl, by rw [if_pos k]; rfl⟩
        · exact ⟨0, by rw [if_neg k]; rfl, by rw [if_neg k]; rfl⟩
/-- the samples: how many, their classes and weights -/
def rS (ns : Nat) (σ τ : PS) : Prop := ns ≤ 300 ∧ gI σ 350 0 2 = nI ns ∧ gI τ 500 0 5 = nI ns ∧ ∀ i, i < ns → gI σ 351 0 i = gI τ 507 0 i ∧ gI σ 352 0 i = gI τ 508 0 i ∧ ∃ c, c < 12 ∧ gI τ 507 0 i = nI c
/-- a sample more -/
def nS (σ : PS) (n : Nat) (c w : Int32) : PS := sI (sI (sI σ 351 0 n c) 352 0 n w) 350 0 2 (nI (n + 1))
def nSM (τ : PS) (n : Nat) (c w : Int32) : PS := sI (sI (sI τ 507 0 n c) 508 0 n w) 500 0 5 (nI (n + 1))
theorem rS_new {ns : Nat} {σ τ : PS} (h : rS ns σ τ) (hn : ns < 300) {c : Nat} (hc : c < 12) (w : Int32) : rS (ns + 1) (nS σ ns (nI c) w) (nSM τ ns (nI c) w) := by
  obtain ⟨h1, h2, h3, h4⟩ := h
  refine ⟨by omega, by simp [nS, gI_sI], by simp [nSM, gI_sI], fun i hi => ?_⟩
  by_cases e : i = ns
  · subst e
    refine ⟨by simp [nS, nSM, gI_sI], by simp [nS, nSM, gI_sI], c, hc, by simp [nSM, gI_sI]⟩
  · have := h4 i (by omega)
    simpa [nS, nSM, gI_sI, e] using this
theorem holdsC (z : Nat × Nat) {ns : Nat} (hn : ns ≤ 300) (x : Int32) {σ : PS} (h : gI σ 350 0 2 = nI ns) : (X7_holds z x σ = some 0 ∧ (x < 0 ∨ (¬ x < 0 ∧ nI ns ≤ x))) ∨ ∃ i, i < ns ∧ x = nI i ∧ X7_holds z x σ = some 1 := by
  unfold X7_holds
  rw [h]
  rcases cases_nI x (n := ns) (by omega) with k | ⟨k, k2⟩ | ⟨i, hi, rfl⟩
  · exact Or.inl ⟨by rw [if_pos k], Or.inl k⟩
  · exact Or.inl ⟨by rw [if_neg k, if_pos k2], Or.inr ⟨k, k2⟩⟩
  · exact Or.inr ⟨i, hi, rfl, by rw [if_neg (nI_pos (by omega)), if_neg (nI_ge hi (by omega))]⟩
theorem bringC (z : Nat × Nat) {ns : Nat} (hn : ns ≤ 300) (x1 x2 : Int32) {σ : PS} (h : gI σ 350 0 2 = nI ns) : X7_bring z x1 x2 σ = if ns < 300 then some (nI ns, nS σ ns x1 x2) else some (-1, σ) := by
  unfold X7_bring
  rw [h]
  by_cases k : ns < 300
  · rw [if_pos (show nI ns < (300 : Int32) from nI_lt (b := 300) k (by omega)), if_pos k, ib_nI (by omega), gd_d k, ix_nI (by omega)]
    simp only [nm_b, gI_sI]
    simp [h, ib_nI (show ns < 2 ^ 31 by omega), ix_nI (show ns < 2 ^ 31 by omega), k, gd_t, nI_s, nS, nI_pred]
  · rw [if_neg (show ¬ nI ns < (300 : Int32) from nI_nlt (b := 300) (by omega) (by omega)), if_neg k]
theorem s_samples (z : Nat × Nat) {ns : Nat} {σ τ : PS} (h : rS ns σ τ) : ∃ r, X9_samples z σ = some r ∧ X10_samples τ = some r := ⟨nI ns, by unfold X9_samples; rw [h.2.1], by unfold X10_samples; rw [h.2.2.1]⟩
theorem s_counter (z : Nat × Nat) (x1 : Int32) {σ τ : PS} (h : ∀ k, k < 8 → gI σ 456 0 k = gI τ 524 0 k) : ∃ r, X9_counter z x1 σ = some r ∧ X10_counter x1 τ = some r := by
  unfold X9_counter X10_counter
  rcases cases_nI x1 (n := 8) (by omega) with k | ⟨k, k2⟩ | ⟨i, hi, rfl⟩
  · exact ⟨-1, by rw [if_pos k], by rw [if_pos k]⟩
  · have k3 : (8 : Int32) ≤ x1 := k2
    have k4 : ¬ x1 < (8 : Int32) := Int32.not_lt.mpr k3
    have k5 : ¬ x1 ≤ (7 : Int32) := fun q => k4 (Int32.lt_of_le_of_lt q (by decide))
    exact ⟨-1, by rw [if_neg k, if_neg k4], by rw [if_neg k, if_neg k5]⟩
  · refine ⟨gI τ 524 0 i, ?_, ?_⟩
    · rw [if_neg (nI_pos (by omega)), if_pos (show nI i < (8 : Int32) from nI_lt (b := 8) hi (by omega)), ib_nI (by omega), gd_d hi, ix_nI (by omega), h i hi]
    · rw [if_neg (nI_pos (by omega)), if_pos (show nI i ≤ (7 : Int32) from nI_le (b := 7) (by omega) (by omega)), ib_nI (by omega), gd_d hi, ix_nI (by omega)]
theorem s_of (z : Nat × Nat) (x1 x2 : Int32) {ns : Nat} {σ τ : PS} (h : rS ns σ τ) : ∃ r, X9_of z x1 x2 σ = some r ∧ X10_of x1 x2 τ = some r := by
  obtain ⟨h1, h2, h3, h4⟩ := h
  unfold X9_of X10_of
  rw [h3]
  rcases holdsC z h1 x1 h2 with ⟨e, k | ⟨k, k2⟩⟩ | ⟨i, hi, rfl, e⟩
  · exact ⟨-1, by rw [e]; rfl, by rw [if_pos k]⟩
  · exact ⟨-1, by rw [e]; rfl, by rw [if_neg k, if_pos k2]⟩
  · rw [e]
    have n1 : ¬ nI i < 0 := nI_pos (by omega)
    have n2 : ¬ nI ns ≤ nI i := nI_ge hi (by omega)
    simp only [Option.bind_some, if_neg (show ¬ (1 : Int32) = 0 by decide), if_neg n1, if_neg n2, ib_nI (show i < 2 ^ 31 by omega), gd_d (show i < 300 by omega), ix_nI (show i < 2 ^ 31 by omega)]
    obtain ⟨a1, a2, -⟩ := h4 i hi
    rcases cases_nI x2 (n := 2) (by omega) with k | ⟨k, k2⟩ | ⟨j, hj, rfl⟩
    · have e0 : ¬ x2 = 0 := fun q => by rw [q] at k; exact absurd k (by decide)
      have e1 : ¬ x2 = 1 := fun q => by rw [q] at k; exact absurd k (by decide)
      exact ⟨-1, by rw [if_neg e0, if_neg e1], by rw [if_pos k]⟩
    · have k3 : (2 : Int32) ≤ x2 := k2
      have e0 : ¬ x2 = 0 := fun q => by rw [q] at k3; exact absurd k3 (by decide)
      have e1 : ¬ x2 = 1 := fun q => by rw [q] at k3; exact absurd k3 (by decide)
      have e2 : ¬ x2 ≤ 1 := fun q => absurd (Int32.le_trans k3 q) (by decide)
      exact ⟨-1, by rw [if_neg e0, if_neg e1], by rw [if_neg k, if_neg e2]⟩
    · rcases (show j = 0 ∨ j = 1 by omega) with rfl | rfl
      · exact ⟨gI τ 507 0 i, by rw [if_pos (show nI 0 = 0 from rfl), a1], by rw [if_neg (by decide), if_pos (by decide), if_pos (show nI 0 = 0 from rfl)]⟩
      · exact ⟨gI τ 508 0 i, by rw [if_neg (by decide), if_pos (show nI 1 = 1 from rfl), a2], by rw [if_neg (by decide), if_pos (by decide), if_neg (by decide)]⟩

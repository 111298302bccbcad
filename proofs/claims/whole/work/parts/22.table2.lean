/-! ===== traits and abstract ones ===== -/
theorem nI_16 {x t : Nat} : (16 : Int32) * nI x + nI t = nI (16 * x + t) := by
  show nI 16 * nI x + nI t = _
  rw [pk_mul, nI_add]
/-- a trait is added to code x alike: both tell 1 if it wasn't there -/
theorem s_add (z : Nat × Nat) {x t : Nat} (hx : x < 16) (ht : t < 16) {σ τ : PS} (h : rT σ τ) (h0 : gI τ 500 0 4 = 0) :
    (∃ r v, X8_addTrait z (nI x) (nI t) σ = some (r, v) ∧ X10_add (nI x) (nI t) τ = some (r, sI τ 502 0 (16 * x + t) 1) ∧ (v = σ ∧ bt (gI σ 402 0 x) t = true ∨ v = sI σ 402 0 x (gI σ 402 0 x ||| ((1 : Int32) <<< (nI t &&& 31))))) := by
  unfold X8_addTrait X10_add
  obtain ⟨h1, h2, h3, h4, h5, h6⟩ := h
  simp only [nm_b, if_pos h0, nI_16, ib_nI (show x < 2 ^ 31 by omega), ib_nI (show 16 * x + t < 2 ^ 31 by omega), gd_d hx, gd_d (show 16 * x + t < 256 by omega), ix_nI (show x < 2 ^ 31 by omega), ix_nI (show 16 * x + t < 2 ^ 31 by omega)]
  obtain ⟨ha, hb⟩ := h3 x t hx ht
  by_cases hbt : bt (gI σ 402 0 x) t = true
  · have hm := hb.mp hbt
    refine ⟨0, σ, ?_, ?_, Or.inl ⟨rfl, hbt⟩⟩
    · rw [if_neg (fun q => by rw [b_test (show t < 32 by omega)] at q; rw [q] at hbt; cases hbt)]
    · rw [if_neg (by rw [hm]; decide)]
  · have hbf : bt (gI σ 402 0 x) t = false := by simpa using hbt
    have hm : gI τ 502 0 (16 * x + t) = 0 := ha.elim id (fun q => absurd (hb.mpr q) hbt)
    refine ⟨1, _, ?_, ?_, Or.inr rfl⟩
    · rw [if_pos ((b_test (show t < 32 by omega)).mpr hbf)]
    · rw [if_pos hm]
theorem rT_add {σ τ : PS} (h : rT σ τ) {x t : Nat} (hx : x < 16) (ht : t < 16) {v : PS} (hv : v = σ ∧ bt (gI σ 402 0 x) t = true ∨ v = sI σ 402 0 x (gI σ 402 0 x ||| ((1 : Int32) <<< (nI t &&& 31)))) : rT v (sI τ 502 0 (16 * x + t) 1) := by
  obtain ⟨h1, h2, h3, h4, h5, h6⟩ := h
  have key : ∀ y u, y < 16 → u < 16 → (16 * y + u = 16 * x + t ↔ y = x ∧ u = t) := fun y u hy hu => by omega
  rcases hv with ⟨rfl, hbt⟩ | rfl
  · refine ⟨?_, fun d hd => ?_, fun y u hy hu => ?_, h4, fun d hd => ?_, h6⟩
    · simpa [gI_sI] using h1
    · simpa [gI_sI] using h2 d hd
    · obtain ⟨ha, hb⟩ := h3 y u hy hu
      by_cases e : y = x ∧ u = t
      · obtain ⟨rfl, rfl⟩ := e
        simp [gI_sI, hbt]
      · have e' : ¬ 16 * y + u = 16 * x + t := fun q => e ((key y u hy hu).mp q)
        simpa [gI_sI, e'] using h3 y u hy hu
    · simpa [gI_sI] using h5 d hd
  · refine ⟨?_, fun d hd => ?_, fun y u hy hu => ?_, fun y u hy hu hu2 => ?_, fun d hd => ?_, fun u hu hu2 => ?_⟩
    · simpa [gI_sI] using h1
    · simpa [gI_sI] using h2 d hd
    · by_cases e : y = x ∧ u = t
      · obtain ⟨rfl, rfl⟩ := e
        simp [gI_sI, b_put (show u < 32 by omega) (show u < 32 by omega)]
      · have e' : ¬ 16 * y + u = 16 * x + t := fun q => e ((key y u hy hu).mp q)
        by_cases ey : y = x
        · subst ey
          have eu : ¬ u = t := fun q => e ⟨rfl, q⟩
          simpa [gI_sI, e', eu, b_put (show t < 32 by omega) (show u < 32 by omega)] using h3 y u hy hu
        · simpa [gI_sI, e', ey] using h3 y u hy hu
    · by_cases ey : y = x
      · subst ey
        have eu : ¬ u = t := by omega
        simpa [gI_sI, eu, b_put (show t < 32 by omega) hu2] using h4 y u hy hu hu2
      · simpa [gI_sI, ey] using h4 y u hy hu hu2
    · simpa [gI_sI] using h5 d hd
    · simpa [gI_sI] using h6 u hu hu2
/-- trait and has -/
theorem s_trait (z : Nat × Nat) (x1 x2 : Int32) {σ τ : PS} (h : rT σ τ) :
    (∃ r, X9_trait z x1 x2 σ = some (r, σ) ∧ X10_trait x1 x2 τ = some (r, τ)) ∨
    (∃ r x t v, x < 16 ∧ t < 16 ∧ gI τ 500 0 4 = 0 ∧ X9_trait z x1 x2 σ = some (r, v) ∧ X10_trait x1 x2 τ = some (r, sI τ 502 0 (16 * x + t) 1) ∧ (v = σ ∧ bt (gI σ 402 0 x) t = true ∨ v = sI σ 402 0 x (gI σ 402 0 x ||| ((1 : Int32) <<< (nI t &&& 31))))) := by
  unfold X9_trait X10_trait
  simp only [isTrait9 z _ σ τ]
  rcases cases_trait x1 with h1 | ⟨x, hx, hx2, rfl⟩
  · left; exact ⟨-2, by rw [h1]; rfl, by rw [h1]; rfl⟩
  · rw [isTrait_in hx hx2]
    simp only [Option.bind_some, if_neg (show ¬ (1 : Int32) = 0 by decide)]
    rcases cases_trait x2 with h4 | ⟨t, ht, ht2, rfl⟩
    · left; exact ⟨-2, by rw [h4]; rfl, by rw [h4]; rfl⟩
    · rw [isTrait_in ht ht2]
      simp only [Option.bind_some, if_neg (show ¬ (1 : Int32) = 0 by decide), h.1.1]
      by_cases h3 : gI τ 500 0 4 = 0
      · obtain ⟨r, v, e1, e2, e3⟩ := s_add z (x := x) (t := t) (by omega) (by omega) h h3
        right
        exact ⟨r, x, t, v, by omega, by omega, h3, by rw [if_pos h3, e1]; rfl, by rw [e2]; rfl, e3⟩
      · left
        exact ⟨-3, by rw [if_neg h3], by unfold X10_add; rw [if_neg h3]; rfl⟩
theorem s_has (z : Nat × Nat) (x1 x2 : Int32) {σ τ : PS} (h : rT σ τ) :
    (∃ r, X9_has z x1 x2 σ = some (r, σ) ∧ X10_has x1 x2 τ = some (r, τ)) ∨
    (∃ r x t v, x < 16 ∧ t < 16 ∧ gI τ 500 0 4 = 0 ∧ X9_has z x1 x2 σ = some (r, v) ∧ X10_has x1 x2 τ = some (r, sI τ 502 0 (16 * x + t) 1) ∧ (v = σ ∧ bt (gI σ 402 0 x) t = true ∨ v = sI σ 402 0 x (gI σ 402 0 x ||| ((1 : Int32) <<< (nI t &&& 31))))) := by
  unfold X9_has X10_has
  simp only [isTrait9 z _ σ τ, isClass9 z _ σ τ]
  rcases cases_class x1 with h1 | ⟨x, hx, rfl⟩
  · left; exact ⟨-2, by rw [h1]; rfl, by rw [h1]; rfl⟩
  · rw [isClass_in hx]
    simp only [Option.bind_some, if_neg (show ¬ (1 : Int32) = 0 by decide)]
    rcases cases_trait x2 with h4 | ⟨t, ht, ht2, rfl⟩
    · left; exact ⟨-2, by rw [h4]; rfl, by rw [h4]; rfl⟩
    · rw [isTrait_in ht ht2]
      simp only [Option.bind_some, if_neg (show ¬ (1 : Int32) = 0 by decide), h.1.1]
      by_cases h3 : gI τ 500 0 4 = 0
      · obtain ⟨r, v, e1, e2, e3⟩ := s_add z (x := x) (t := t) (by omega) (by omega) h h3
        right
        exact ⟨r, x, t, v, by omega, by omega, h3, by rw [if_pos h3, e1]; rfl, by rw [e2]; rfl, e3⟩
      · left
        exact ⟨-3, by rw [if_neg h3], by unfold X10_add; rw [if_neg h3]; rfl⟩
/-- is a class abstract: the bit -/
theorem isAbs (z : Nat × Nat) {c : Nat} (hc : c < 32) (σ : PS) : X8_isAbstract z (nI c) σ = some (if bt (gI σ 400 0 3) c = true then 1 else 0) := by
  unfold X8_isAbstract
  by_cases h : bt (gI σ 400 0 3) c = true
  · rw [if_pos h, if_neg (fun q => by rw [b_test hc] at q; rw [q] at h; cases h)]
  · rw [if_neg h, if_pos ((b_test hc).mpr (by simpa using h))]
theorem s_flag (z : Nat × Nat) (x1 : Int32) {σ τ : PS} (h : rT σ τ) :
    (∃ r, X9_flag z x1 σ = some (r, σ) ∧ X10_flag x1 τ = some (r, τ)) ∨
    (∃ r c v, c < 12 ∧ gI τ 500 0 4 = 0 ∧ X9_flag z x1 σ = some (r, v) ∧ X10_flag x1 τ = some (r, sI τ 504 0 c 1) ∧ (v = σ ∧ bt (gI σ 400 0 3) c = true ∨ v = sI σ 400 0 3 (gI σ 400 0 3 ||| ((1 : Int32) <<< (nI c &&& 31))))) := by
  unfold X9_flag X10_flag
  simp only [isClass9 z _ σ τ]
  rcases cases_class x1 with h1 | ⟨c, hc, rfl⟩
  · left; exact ⟨-2, by rw [h1]; rfl, by rw [h1]; rfl⟩
  · rw [isClass_in hc, isAbs z (show c < 32 by omega)]
    simp only [Option.bind_some, if_neg (show ¬ (1 : Int32) = 0 by decide), h.1.1, ib_nI (show c < 2 ^ 31 by omega), gd_d hc, nm_b, ix_nI (show c < 2 ^ 31 by omega)]
    obtain ⟨ha, hb⟩ := h.2.2.2.2.1 c hc
    by_cases h3 : gI τ 500 0 4 = 0
    · right
      by_cases hbt : bt (gI σ 400 0 3) c = true
      · have hm := hb.mp hbt
        exact ⟨0, c, σ, hc, h3, by simp [h3, hbt], by simp [h3, hm], Or.inl ⟨rfl, hbt⟩⟩
      · have hm : gI τ 504 0 c = 0 := ha.elim id (fun q => absurd (hb.mpr q) hbt)
        exact ⟨1, c, _, hc, h3, by simp only [if_pos h3, if_neg hbt]; rfl, by simp [h3, hm], Or.inr rfl⟩
    · left
      exact ⟨-3, by rw [if_neg h3], by rw [if_neg h3]⟩
theorem rT_flag {σ τ : PS} (h : rT σ τ) {c : Nat} (hc : c < 12) {v : PS} (hv : v = σ ∧ bt (gI σ 400 0 3) c = true ∨ v = sI σ 400 0 3 (gI σ 400 0 3 ||| ((1 : Int32) <<< (nI c &&& 31)))) : rT v (sI τ 504 0 c 1) := by
  obtain ⟨h1, h2, h3, h4, h5, h6⟩ := h
  rcases hv with ⟨rfl, hbt⟩ | rfl
  · refine ⟨?_, fun d hd => ?_, fun y u hy hu => ?_, h4, fun d hd => ?_, h6⟩
    · simpa [gI_sI] using h1
    · simpa [gI_sI] using h2 d hd
    · simpa [gI_sI] using h3 y u hy hu
    · by_cases e : d = c
      · subst e; simp [gI_sI, hbt]
      · simpa [gI_sI, e] using h5 d hd
  · refine ⟨?_, fun d hd => ?_, fun y u hy hu => ?_, fun y u hy hu hu2 => ?_, fun d hd => ?_, fun u hu hu2 => ?_⟩
    · simpa [gI_sI] using h1
    · simpa [gI_sI] using h2 d hd
    · simpa [gI_sI] using h3 y u hy hu
    · simpa [gI_sI] using h4 y u hy hu hu2
    · by_cases e : d = c
      · subst e; simp [gI_sI, b_put (show d < 32 by omega) (show d < 32 by omega)]
      · simpa [gI_sI, e, b_put (show c < 32 by omega) (show d < 32 by omega)] using h5 d hd
    · have e : ¬ u = c := by omega
      simpa [gI_sI, e, b_put (show c < 32 by omega) hu2] using h6 u hu hu2

/-! ===== sample() and arg() ===== -/
theorem s_sample (z : Nat × Nat) (x1 x2 : Int32) {ns : Nat} {σ τ : PS} (h : rT σ τ) (hs : rS ns σ τ) :
    (∃ r, X9_sample z x1 x2 σ = some (r, σ) ∧ X10_sample x1 x2 τ = some (r, τ)) ∨
    (∃ c, c < 12 ∧ ns < 300 ∧ gI τ 500 0 4 = 1 ∧ gI τ 504 0 c = 0 ∧ X9_sample z x1 x2 σ = some (nI ns, nS σ ns (nI c) x2) ∧ X10_sample x1 x2 τ = some (nI ns, nSM τ ns (nI c) x2)) := by
  unfold X9_sample X10_sample
  simp only [isClass9 z _ σ τ]
  obtain ⟨s1, s2, s3, -⟩ := id hs
  rcases cases_class x1 with h1 | ⟨c, hc, rfl⟩
  · left; exact ⟨-2, by rw [h1]; rfl, by rw [h1]; rfl⟩
  · rw [isClass_in hc, isAbs z (show c < 32 by omega), bringC z s1 _ _ s2]
    simp only [Option.bind_some, if_neg (show ¬ (1 : Int32) = 0 by decide), h.1.1, ib_nI (show c < 2 ^ 31 by omega), gd_d hc, ix_nI (show c < 2 ^ 31 by omega)]
    rcases h.1.2 with h0 | h0
    · left; exact ⟨-3, by rw [if_pos h0], by rw [if_pos h0]⟩
    · have hne : ¬ gI τ 500 0 4 = 0 := by rw [h0]; decide
      simp only [if_neg hne]
      obtain ⟨a1, a2⟩ := h.2.2.2.2.1 c hc
      by_cases hb : bt (gI σ 400 0 3) c = true
      · left
        refine ⟨-6, ?_, ?_⟩
        · simp [hb]
        · rw [if_neg (by rw [a2.mp hb]; decide)]
      · have hm : gI τ 504 0 c = 0 := a1.elim id (fun q => absurd (a2.mpr q) hb)
        rw [if_pos hm, s3]
        by_cases k : ns < 300
        · right
          have e1 : ¬ nI ns = (300 : Int32) := fun q => by
            have := (nI_eq (a := ns) (b := 300) (by omega) (by omega)).mp q
            omega
          have e2 : ¬ nI ns = (-1 : Int32) := fun q => by
            have := congrArg Int32.toInt q
            rw [nI_toInt (by omega)] at this
            have h9 : ((-1 : Int32)).toInt = -1 := by decide
            omega
          refine ⟨c, hc, k, h0, hm, ?_, ?_⟩
          · simp [hb, k, bp_s, e2]
          · rw [if_neg e1, ib_nI (by omega), gd_d k, ix_nI (by omega)]
            simp only [nm_b, gI_sI]
            simp [s3, ib_nI (show ns < 2 ^ 31 by omega), ix_nI (show ns < 2 ^ 31 by omega), k, gd_t, nI_s, nSM, nI_pred]
        · left
          have e : ns = 300 := by omega
          subst e
          refine ⟨-4, ?_, ?_⟩
          · simp [hb, bp_s]
          · rw [if_pos (by decide)]
/-- the told samples -/
def rA (ns : Nat) (σ τ : PS) : Prop := ∀ i, i < 2 → gI σ 455 0 i = gI τ 525 0 i ∧ (gI τ 525 0 i = -1 ∨ ∃ s, s < ns ∧ gI τ 525 0 i = nI s)
theorem s_arg (z : Nat × Nat) (x1 x2 : Int32) {ns : Nat} {σ τ : PS} (hs : rS ns σ τ) :
    (∃ r, X9_arg z x1 x2 σ = some (r, σ) ∧ X10_arg x1 x2 τ = some (r, τ)) ∨
    (∃ i s, i < 2 ∧ s < ns ∧ X9_arg z x1 x2 σ = some (1, sI σ 455 0 i (nI s)) ∧ X10_arg x1 x2 τ = some (1, sI τ 525 0 i (nI s))) := by
  unfold X9_arg X10_arg
  obtain ⟨s1, s2, s3, -⟩ := id hs
  rw [s3]
  rcases cases_nI x1 (n := 2) (by omega) with k | ⟨k, k2⟩ | ⟨i, hi, rfl⟩
  · left; exact ⟨-2, by rw [if_pos k], by rw [if_pos k]⟩
  · have k3 : (2 : Int32) ≤ x1 := k2
    have k4 : (1 : Int32) < x1 := Int32.lt_of_lt_of_le (by decide) k3
    left; exact ⟨-2, by rw [if_neg k, if_pos k3], by rw [if_neg k, if_pos k4]⟩
  · have n1 : ¬ nI i < 0 := nI_pos (by omega)
    have n2 : ¬ (2 : Int32) ≤ nI i := nI_ge (b := 2) hi (by omega)
    have n3 : ¬ (1 : Int32) < nI i := nI_nlt (a := 1) (b := i) (by omega) (by omega)
    rw [if_neg n1, if_neg n2, if_neg n1, if_neg n3]
    rcases holdsC z s1 x2 s2 with ⟨e, k | ⟨k, k2⟩⟩ | ⟨s, hs', rfl, e⟩
    · left; exact ⟨-2, by rw [e]; rfl, by rw [if_pos k]⟩
    · left; exact ⟨-2, by rw [e]; rfl, by rw [if_neg k, if_neg (Int32.not_lt.mpr k2)]⟩
    · right
      refine ⟨i, s, hi, hs', ?_, ?_⟩
      · rw [e]
        simp only [Option.bind_some, if_neg (show ¬ (1 : Int32) = 0 by decide), ib_nI (show i < 2 ^ 31 by omega), gd_d hi, ix_nI (show i < 2 ^ 31 by omega), nm_b]
      · rw [if_neg (nI_pos (by omega)), if_pos (nI_lt hs' (by omega)), ib_nI (by omega), gd_d hi, ix_nI (by omega), nm_b]
theorem rA_arg {ns : Nat} {σ τ : PS} (h : rA ns σ τ) {i s : Nat} (hs : s < ns) : rA ns (sI σ 455 0 i (nI s)) (sI τ 525 0 i (nI s)) := by
  intro j hj
  by_cases e : j = i
  · subst e
    exact ⟨by simp [gI_sI], Or.inr ⟨s, hs, by simp [gI_sI]⟩⟩
  · simpa [gI_sI, e] using h j hj

/-! ===== what a handler takes at a place: the class's side ===== -/
def tcP (τ : PS) (h i c : Nat) : Bool := decide (cdP τ h i = -1) || blP τ (nI c) (cdP τ h i)
def twP (τ : PS) (h i : Nat) (w : Int32) : Bool := decide (lwP τ h i ≤ w) && decide (w ≤ hgP τ h i)
theorem takesC (z : Nat × Nat) {σ τ : PS} (hB : rB σ τ) {p h i f c : Nat} (hh : rHp p σ τ h) (hi : i < p) (hp : p ≤ 2) (ho : gR σ 100 h 0 = some f) (hf : f < z.1) (hc : c < 16) : X2_takesClass z h (nI i) (nI c) σ = some (bI (tcP τ h i c)) := by
  obtain ⟨⟨a1, a2, a3⟩, a4⟩ := hh
  obtain ⟨c1, cc, c2, c3⟩ := a4 i hi
  change gI σ 106 h i = cdP τ h i at c1
  change cdP τ h i = -1 ∨ ∃ c, c < 16 ∧ cdP τ h i = nI c at cc
  unfold X2_takesClass tcP
  simp only [ib_nI (show i < 2 ^ 31 by omega), a1, gd_d hi, ix_nI (show i < 2 ^ 31 by omega), c1, ho, dr_s hf]
  rcases cc with e | ⟨d, hd, e⟩
  · simp [e, bI]
  · have nd : ¬ nI d = (-1 : Int32) := fun q => by
      have := congrArg Int32.toInt q
      rw [nI_toInt (by omega)] at this
      have h9 : ((-1 : Int32)).toInt = -1 := by decide
      omega
    rw [e, if_neg nd, blC z hB hc hd]
    rcases blP τ (nI c) (nI d) with _ | _ <;> simp [nd, bI]
theorem takesW (z : Nat × Nat) {σ τ : PS} {p h i : Nat} (w : Int32) (hh : rHp p σ τ h) (hi : i < p) (hp : p ≤ 2) : X2_takesWeight z h (nI i) w σ = some (bI (twP τ h i w)) := by
  obtain ⟨⟨a1, a2, a3⟩, a4⟩ := hh
  obtain ⟨c1, cc, c2, c3⟩ := a4 i hi
  change gI σ 107 h i = lwP τ h i at c2
  change gI σ 108 h i = hgP τ h i at c3
  unfold X2_takesWeight twP
  simp only [ib_nI (show i < 2 ^ 31 by omega), a2, a3, gd_d hi, ix_nI (show i < 2 ^ 31 by omega), c2, c3]
  by_cases k1 : lwP τ h i ≤ w
  · by_cases k2 : w ≤ hgP τ h i
    · simp [k1, k2, bI, Int32.not_lt.mpr k1, Int32.not_lt.mpr k2]
    · simp [k1, k2, bI, Int32.not_le.mp k2]
  · simp [k1, bI, Int32.not_le.mp k1]

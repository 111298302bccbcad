/-! ===== same, narrower at a place: in words of the model's memory ===== -/
def bI (b : Bool) : Int32 := if b = true then 1 else 0
theorem bI_t : bI true = 1 := rfl
theorem bI_f : bI false = 0 := rfl
theorem bI_0 {b : Bool} : bI b = 0 ↔ b = false := by cases b <;> decide
def cdP (τ : PS) (h i : Nat) : Int32 := gI τ 521 0 (2 * h + i)
def lwP (τ : PS) (h i : Nat) : Int32 := gI τ 522 0 (2 * h + i)
def hgP (τ : PS) (h i : Nat) : Int32 := gI τ 523 0 (2 * h + i)
def smP (τ : PS) (h g i : Nat) : Bool := decide (cdP τ h i = cdP τ g i) && decide (lwP τ h i = lwP τ g i) && decide (hgP τ h i = hgP τ g i)
def blP (τ : PS) (x y : Int32) : Bool := decide (gI τ 503 0 (16 * ix x + ix y) = 1)
def nrP (τ : PS) (h g i : Nat) : Bool := if cdP τ h i = cdP τ g i then (!decide (lwP τ h i < lwP τ g i) && !decide (hgP τ g i < hgP τ h i)) && !smP τ h g i else if cdP τ h i = -1 then false else if cdP τ g i = -1 then true else blP τ (cdP τ h i) (cdP τ g i)
/-- every code that a handler has is one, or ANY -/
def rQ (n : Nat) (τ : PS) : Prop := ∀ h i, h < n → i < 2 → cdP τ h i = -1 ∨ ∃ c, c < 16 ∧ cdP τ h i = nI c
theorem sameM (τ : PS) {h g i : Nat} (hh : h < 40) (hg : g < 40) (hi : i < 2) : X10_areSame (nI h) (nI g) (nI i) τ = some (bI (smP τ h g i)) := by
  unfold X10_areSame
  simp only [nI_2, ib_nI (show 2 * h + i < 2 ^ 31 by omega), ib_nI (show 2 * g + i < 2 ^ 31 by omega), gd_d (show 2 * h + i < 80 by omega), gd_d (show 2 * g + i < 80 by omega), ix_nI (show 2 * h + i < 2 ^ 31 by omega), ix_nI (show 2 * g + i < 2 ^ 31 by omega)]
  unfold smP cdP lwP hgP
  by_cases k1 : gI τ 521 0 (2 * h + i) = gI τ 521 0 (2 * g + i)
  · by_cases k2 : gI τ 522 0 (2 * h + i) = gI τ 522 0 (2 * g + i)
    · by_cases k3 : gI τ 523 0 (2 * h + i) = gI τ 523 0 (2 * g + i)
      · simp [k1, k2, k3, bI]
      · simp [k1, k2, k3, bI]
    · simp [k1, k2, bI]
  · simp [k1, bI]
theorem blM {σ τ : PS} (h : rB σ τ) {x y : Nat} (hx : x < 16) (hy : y < 16) : X10_isBelow (nI x) (nI y) τ = some (bI (blP τ (nI x) (nI y))) := by
  rw [belowM h hx hy]
  unfold blP bI
  rw [ix_nI (by omega), ix_nI (by omega)]
  simp only [decide_eq_true_eq, (h x y hx hy).2]
theorem narM {σ τ : PS} (hB : rB σ τ) {h g i : Nat} (hh : h < 40) (hg : g < 40) (hi : i < 2) (c1 : cdP τ h i = -1 ∨ ∃ c, c < 16 ∧ cdP τ h i = nI c) (c2 : cdP τ g i = -1 ∨ ∃ c, c < 16 ∧ cdP τ g i = nI c) : X10_isNarrower (nI h) (nI g) (nI i) τ = some (bI (nrP τ h g i)) := by
  unfold X10_isNarrower
  rw [sameM τ hh hg hi]
  simp only [nI_2, ib_nI (show 2 * h + i < 2 ^ 31 by omega), ib_nI (show 2 * g + i < 2 ^ 31 by omega), gd_d (show 2 * h + i < 80 by omega), gd_d (show 2 * g + i < 80 by omega), ix_nI (show 2 * h + i < 2 ^ 31 by omega), ix_nI (show 2 * g + i < 2 ^ 31 by omega), nm_b, Option.bind_some]
  change (if cdP τ h i = cdP τ g i then (if lwP τ h i < lwP τ g i then some (0 : Int32) else if hgP τ g i < hgP τ h i then some (0 : Int32) else if bI (smP τ h g i) = 0 then some (1 : Int32) else some (0 : Int32)) else if cdP τ h i = -1 then some (0 : Int32) else if cdP τ g i = -1 then some (1 : Int32) else (X10_isBelow (cdP τ h i) (cdP τ g i) τ).bind (fun r10 => if r10 = 0 then some (0 : Int32) else some (1 : Int32))) = _
  unfold nrP
  by_cases k1 : cdP τ h i = cdP τ g i
  · rw [if_pos k1, if_pos k1]
    by_cases k2 : lwP τ h i < lwP τ g i
    · simp [k2, bI]
    · by_cases k3 : hgP τ g i < hgP τ h i
      · simp [k2, k3, bI]
      · rw [if_neg k2, if_neg k3]
        rcases hs : smP τ h g i with _ | _
        · simp [k2, k3, bI]
        · simp [bI]
  · rw [if_neg k1, if_neg k1]
    rcases c1 with c1 | ⟨a, ha, c1⟩
    · simp [c1, bI]
    · have na : ¬ nI a = (-1 : Int32) := fun q => by
        have := congrArg Int32.toInt q
        rw [nI_toInt (by omega)] at this
        have h9 : ((-1 : Int32)).toInt = -1 := by decide
        omega
      rcases c2 with c2 | ⟨b, hb, c2⟩
      · rw [c1, c2, if_neg na, if_neg na, if_pos rfl, if_pos rfl]; rfl
      · have nb : ¬ nI b = (-1 : Int32) := fun q => by
          have := congrArg Int32.toInt q
          rw [nI_toInt (by omega)] at this
          have h9 : ((-1 : Int32)).toInt = -1 := by decide
          omega
        rw [c1, c2, if_neg na, if_neg na, if_neg nb, if_neg nb, blM hB ha hb]
        rcases blP τ (nI a) (nI b) with _ | _ <;> rfl

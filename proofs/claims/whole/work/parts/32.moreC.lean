/-! ===== same, narrower at a place: the class's side ===== -/
theorem sameC (z : Nat × Nat) {σ τ : PS} {p h g i : Nat} (hh : rHp p σ τ h) (hg : rHp p σ τ g) (hi : i < p) (hp : p ≤ 2) : X2_isSameAt z h (nI i) g σ = some (bI (smP τ h g i)) := by
  obtain ⟨⟨a1, a2, a3⟩, a4⟩ := hh
  obtain ⟨⟨b1, b2, b3⟩, b4⟩ := hg
  obtain ⟨c1, -, c2, c3⟩ := a4 i hi
  obtain ⟨d1, -, d2, d3⟩ := b4 i hi
  unfold X2_isSameAt
  simp only [ib_nI (show i < 2 ^ 31 by omega), a1, a2, a3, b1, b2, b3, gd_d hi, ix_nI (show i < 2 ^ 31 by omega), c1, c2, c3, d1, d2, d3]
  unfold smP cdP lwP hgP
  by_cases k1 : gI τ 521 0 (2 * h + i) = gI τ 521 0 (2 * g + i)
  · by_cases k2 : gI τ 522 0 (2 * h + i) = gI τ 522 0 (2 * g + i)
    · by_cases k3 : gI τ 523 0 (2 * h + i) = gI τ 523 0 (2 * g + i)
      · simp [k1, k2, k3, bI]
      · simp [k1, k2, k3, bI]
    · simp [k1, k2, bI]
  · simp [k1, bI]
theorem blC (z : Nat × Nat) {σ τ : PS} (h : rB σ τ) {x y : Nat} (hx : x < 16) (hy : y < 16) : X8_isBelow z (nI x) (nI y) σ = some (bI (blP τ (nI x) (nI y))) := by
  rw [belowC z hx hy]
  unfold blP bI
  rw [ix_nI (by omega), ix_nI (by omega)]
  simp only [decide_eq_true_eq, (h x y hx hy).2]
theorem narC (z : Nat × Nat) {σ τ : PS} (hB : rB σ τ) {p h g i f : Nat} (hh : rHp p σ τ h) (hg : rHp p σ τ g) (hi : i < p) (hp : p ≤ 2) (ho : gR σ 100 h 0 = some f) (hf : f < z.1) : X2_isNarrowerAt z h (nI i) g σ = some (bI (nrP τ h g i)) := by
  have hsm := sameC z hh hg hi hp
  obtain ⟨⟨a1, a2, a3⟩, a4⟩ := hh
  obtain ⟨⟨b1, b2, b3⟩, b4⟩ := hg
  obtain ⟨c1, cc, c2, c3⟩ := a4 i hi
  obtain ⟨d1, dc, d2, d3⟩ := b4 i hi
  unfold X2_isNarrowerAt
  rw [hsm]
  simp only [ib_nI (show i < 2 ^ 31 by omega), a1, a2, a3, b1, b2, b3, gd_d hi, ix_nI (show i < 2 ^ 31 by omega), c1, c2, c3, d1, d2, d3, ho, dr_s hf, Option.bind_some]
  change (if cdP τ h i = cdP τ g i then (if lwP τ h i < lwP τ g i then some (0 : Int32) else if hgP τ g i < hgP τ h i then some (0 : Int32) else if bI (smP τ h g i) = 0 then some (1 : Int32) else some (0 : Int32)) else if cdP τ h i = -1 then some (0 : Int32) else if cdP τ g i = -1 then some (1 : Int32) else (X8_isBelow z (cdP τ h i) (cdP τ g i) σ).bind (fun r10 => if r10 = 0 then some (0 : Int32) else some (1 : Int32))) = _
  change cdP τ h i = -1 ∨ ∃ c, c < 16 ∧ cdP τ h i = nI c at cc
  change cdP τ g i = -1 ∨ ∃ c, c < 16 ∧ cdP τ g i = nI c at dc
  unfold nrP
  by_cases k1 : cdP τ h i = cdP τ g i
  · rw [if_pos k1, if_pos k1]
    by_cases k2 : lwP τ h i < lwP τ g i
    · simp [k2, bI]
    · by_cases k3 : hgP τ g i < hgP τ h i
      · simp [k2, k3, bI]
      · rw [if_neg k2, if_neg k3]
        rcases hs : smP τ h g i with _ | _
        · simp [k2, k3, bI]
        · simp [bI]
  · rw [if_neg k1, if_neg k1]
    rcases cc with cc | ⟨a, ha, cc⟩
    · simp [cc, bI]
    · have na : ¬ nI a = (-1 : Int32) := fun q => by
        have := congrArg Int32.toInt q
        rw [nI_toInt (by omega)] at this
        have h9 : ((-1 : Int32)).toInt = -1 := by decide
        omega
      rcases dc with dc | ⟨b, hb, dc⟩
      · rw [cc, dc, if_neg na, if_neg na, if_pos rfl, if_pos rfl]; rfl
      · have nb : ¬ nI b = (-1 : Int32) := fun q => by
          have := congrArg Int32.toInt q
          rw [nI_toInt (by omega)] at this
          have h9 : ((-1 : Int32)).toInt = -1 := by decide
          omega
        rw [cc, dc, if_neg na, if_neg na, if_neg nb, if_neg nb, blC z hB ha hb]
        rcases blP τ (nI a) (nI b) with _ | _ <;> rfl
/-- more specific, from place i on -/
def allP (τ : PS) (h g : Nat) : Nat → Nat → Bool
  | 0, _ => true
  | k + 1, i => (nrP τ h g i || smP τ h g i) && allP τ h g k (i + 1)
def anyP (τ : PS) (h g : Nat) : Nat → Nat → Bool
  | 0, _ => false
  | k + 1, i => nrP τ h g i || anyP τ h g k (i + 1)
def moP (τ : PS) (p h g : Nat) : Bool := allP τ h g p 0 && anyP τ h g p 0
/-- the class's loop -/
theorem moreC_l (z : Nat × Nat) {σ τ : PS} (hB : rB σ τ) {p h g f : Nat} (hh : rHp p σ τ h) (hg : rHp p σ τ g) (hp : p ≤ 2) (ho : gR σ 100 h 0 = some f) (hf : f < z.1) (hpl : gI σ 50 f 2 = nI p) : ∀ (n i : Nat) (b : Bool), i ≤ p → p - i < n → X2_isMoreSpecific_l4 z h σ (fun v2 => X2_isMoreSpecific_c46 z h σ v2) n g (bI b) (nI i) = some (bI (allP τ h g (p - i) i && (b || anyP τ h g (p - i) i))) := by
  intro n
  induction n with
  | zero => intro i b hi hn; omega
  | succ n ih =>
    intro i b hi hn
    rw [X2_isMoreSpecific_l4.eq_2]
    simp only [ho, dr_s hf, hpl]
    by_cases he : i = p
    · subst he
      rw [if_pos (nI_le (Nat.le_refl _) (by omega)), Nat.sub_self]
      unfold X2_isMoreSpecific_c46 allP anyP
      cases b <;> rfl
    · have hlt : i < p := by omega
      rw [if_neg (nI_ge hlt (by omega)), narC z hB hh hg hlt hp ho hf, sameC z hh hg hlt hp]
      simp only [Option.bind_some, nI_s]
      have e : p - i = (p - (i + 1)) + 1 := by omega
      rw [e]
      unfold allP anyP
      rcases hn1 : nrP τ h g i with _ | _
      · rw [if_pos (by rfl)]
        rcases hs1 : smP τ h g i with _ | _
        · rw [if_pos (by rfl)]; simp [bI]
        · rw [if_neg (by decide), ih (i + 1) b (by omega) (by omega)]
          simp
      · rw [if_neg (by decide)]
        have := ih (i + 1) true (by omega) (by omega)
        rw [bI_t] at this
        rw [this]
        simp

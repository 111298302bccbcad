/-! ===== functions and handlers: what each holds ===== -/
def rF (z : Nat × Nat) (pn : Nat → Nat) (σ τ : PS) : Prop := z.1 ≤ 4 ∧ gI σ 450 0 9 = nI z.1 ∧ gI τ 500 0 8 = nI z.1 ∧ ∀ f, f < z.1 → gR σ 453 0 f = some f ∧ gI σ 50 f 1 = nI f ∧ (1 ≤ pn f ∧ pn f ≤ 2) ∧ gI σ 50 f 2 = nI (pn f) ∧ gI τ 510 0 f = nI (pn f) ∧ gI σ 50 f 9 = gI τ 511 0 f ∧ (gI τ 511 0 f = 0 ∨ gI τ 511 0 f = 1)
/-- a handler's own fields, and what it has at its places -/
def rHo (σ τ : PS) (h : Nat) : Prop := gI σ 100 h 1 = nI h ∧ gI σ 100 h 2 = gI τ 517 0 h ∧ (∃ a, a < 8 ∧ gI τ 517 0 h = nI a) ∧ gI σ 100 h 3 = gI τ 518 0 h ∧ gI σ 100 h 4 = gI τ 519 0 h ∧ (gI τ 519 0 h = 0 ∨ gI τ 519 0 h = 1) ∧ gI σ 100 h 8 = gI τ 520 0 h ∧ (gI τ 520 0 h = 0 ∨ gI τ 520 0 h = 1 ∨ gI τ 520 0 h = 2)
def rHp (p : Nat) (σ τ : PS) (h : Nat) : Prop := (gN σ 106 h = p ∧ gN σ 107 h = p ∧ gN σ 108 h = p) ∧ ∀ i, i < p → gI σ 106 h i = gI τ 521 0 (2 * h + i) ∧ (gI τ 521 0 (2 * h + i) = -1 ∨ ∃ c, c < 16 ∧ gI τ 521 0 (2 * h + i) = nI c) ∧ gI σ 107 h i = gI τ 522 0 (2 * h + i) ∧ gI σ 108 h i = gI τ 523 0 (2 * h + i)
def rH (z : Nat × Nat) (own pn : Nat → Nat) (σ τ : PS) : Prop := z.2 ≤ 40 ∧ gI σ 450 0 10 = nI z.2 ∧ gI τ 500 0 14 = nI z.2 ∧ ∀ h, h < z.2 → (gR σ 454 0 h = some h ∧ own h < z.1 ∧ gR σ 100 h 0 = some (own h) ∧ gI τ 516 0 h = nI (own h)) ∧ rHo σ τ h ∧ rHp (pn (own h)) σ τ h
theorem fnAt {z : Nat × Nat} {pn : Nat → Nat} {σ τ : PS} (h : rF z pn σ τ) (x : Int32) : (X9_functionAt z x σ = some none ∧ X10_isFunction x τ = some 0) ∨ ∃ f, f < z.1 ∧ x = nI f ∧ X9_functionAt z x σ = some (some f) ∧ X10_isFunction x τ = some 1 := by
  obtain ⟨h1, h2, h3, h4⟩ := h
  unfold X9_functionAt X10_isFunction
  rw [h2, h3]
  rcases cases_nI x (n := z.1) (by omega) with k | ⟨k, k2⟩ | ⟨f, hf, rfl⟩
  · exact Or.inl ⟨by rw [if_pos k], by rw [if_pos k]⟩
  · exact Or.inl ⟨by rw [if_neg k, if_pos k2], by rw [if_neg k, if_pos k2]⟩
  · have n1 : ¬ nI f < 0 := nI_pos (by omega)
    have n2 : ¬ nI z.1 ≤ nI f := nI_ge hf (by omega)
    exact Or.inr ⟨f, hf, rfl, by rw [if_neg n1, if_neg n2, ib_nI (by omega), gd_d (by omega), nm_b, ix_nI (by omega), (h4 f hf).1], by rw [if_neg n1, if_neg n2]⟩
theorem hdAt {z : Nat × Nat} {own pn : Nat → Nat} {σ τ : PS} (h : rH z own pn σ τ) (x : Int32) : (X9_handlerAt z x σ = some none ∧ X10_isHandler x τ = some 0) ∨ ∃ g, g < z.2 ∧ x = nI g ∧ X9_handlerAt z x σ = some (some g) ∧ X10_isHandler x τ = some 1 := by
  obtain ⟨h1, h2, h3, h4⟩ := h
  unfold X9_handlerAt X10_isHandler
  rw [h2, h3]
  rcases cases_nI x (n := z.2) (by omega) with k | ⟨k, k2⟩ | ⟨f, hf, rfl⟩
  · exact Or.inl ⟨by rw [if_pos k], by rw [if_pos k]⟩
  · exact Or.inl ⟨by rw [if_neg k, if_pos k2], by rw [if_neg k, if_pos k2]⟩
  · have n1 : ¬ nI f < 0 := nI_pos (by omega)
    have n2 : ¬ nI z.2 ≤ nI f := nI_ge hf (by omega)
    exact Or.inr ⟨f, hf, rfl, by rw [if_neg n1, if_neg n2, ib_nI (by omega), gd_d (by omega), nm_b, ix_nI (by omega), (h4 f hf).1.1], by rw [if_neg n1, if_neg n2]⟩
/-- freeze: refused alike, told alike; what is written is the same -/
theorem s_freeze {z : Nat × Nat} {pn : Nat → Nat} {σ τ : PS} (h : rF z pn σ τ) (x1 x2 : Int32) (hx : x2 = 0 ∨ x2 = 1) :
    (∃ r, X9_freeze z x1 x2 σ = some (r, σ) ∧ X10_freeze x1 x2 τ = some (r, τ)) ∨
    (∃ r f v, f < z.1 ∧ X9_freeze z x1 x2 σ = some (r, v) ∧ X10_freeze x1 x2 τ = some (r, sI τ 511 0 f x2) ∧ (v = σ ∧ gI σ 50 f 9 = x2 ∨ v = sI σ 50 f 9 x2)) := by
  unfold X9_freeze X10_freeze
  have hB : isB x2 = true := by rcases hx with rfl | rfl <;> rfl
  rcases fnAt h x1 with ⟨e1, e2⟩ | ⟨f, hf, rfl, e1, e2⟩
  · left; exact ⟨-2, by rw [e1]; rfl, by rw [e2]; rfl⟩
  · right
    have hf4 := h.1
    rw [e1, e2]
    simp only [Option.bind_some, if_neg (show ¬ (1 : Int32) = 0 by decide), ib_nI (show f < 2 ^ 31 by omega), gd_d (show f < 4 by omega), ix_nI (show f < 2 ^ 31 by omega), hB, gd_t, nm_b, oc_s' hf]
    have e := (h.2.2.2 f hf).2.2.2.2.2.1
    by_cases k : gI τ 511 0 f = x2
    · exact ⟨0, f, σ, hf, by rw [e, if_pos k], by rw [if_pos k], Or.inl ⟨rfl, e.trans k⟩⟩
    · exact ⟨1, f, _, hf, by rw [e, if_neg k], by rw [if_neg k], Or.inr rfl⟩
/-- has a handler such a place -/
theorem hasPl {z : Nat × Nat} {own pn : Nat → Nat} {σ τ : PS} (hF : rF z pn σ τ) (h : rH z own pn σ τ) {g : Nat} (hg : g < z.2) (x : Int32) : (X1_hasPlace z (own g) x σ = some 0 ∧ X10_hasPlace (nI g) x τ = some 0) ∨ ∃ i, i < pn (own g) ∧ i < 2 ∧ x = nI i ∧ X1_hasPlace z (own g) x σ = some 1 ∧ X10_hasPlace (nI g) x τ = some 1 := by
  obtain ⟨h1, h2, h3, h4⟩ := id h
  obtain ⟨⟨a1, a2, a3, a4⟩, -, -⟩ := h4 g hg
  obtain ⟨-, -, ⟨p1, p2⟩, b1, b2, -⟩ := hF.2.2.2 (own g) a2
  have hf4 := hF.1
  have eH : X10_isHandler (nI g) τ = some 1 := by
    unfold X10_isHandler
    rw [h3, if_neg (nI_pos (by omega)), if_neg (nI_ge hg (by omega))]
  unfold X1_hasPlace X10_hasPlace
  rw [eH, b1]
  simp only [Option.bind_some, if_neg (show ¬ (1 : Int32) = 0 by decide), ib_nI (show g < 2 ^ 31 by omega), gd_d (show g < 40 by omega), ix_nI (show g < 2 ^ 31 by omega), a4, ib_nI (show own g < 2 ^ 31 by omega), gd_d (show own g < 4 by omega), ix_nI (show own g < 2 ^ 31 by omega), b2]
  rcases cases_nI x (n := pn (own g)) (by omega) with k | ⟨k, k2⟩ | ⟨i, hi, rfl⟩
  · exact Or.inl ⟨by rw [if_pos k], by rw [if_pos k]⟩
  · exact Or.inl ⟨by rw [if_neg k, if_pos k2], by rw [if_neg k, if_pos k2]⟩
  · have n1 : ¬ nI i < 0 := nI_pos (by omega)
    have n2 : ¬ nI (pn (own g)) ≤ nI i := nI_ge hi (by omega)
    exact Or.inr ⟨i, hi, by omega, rfl, by rw [if_neg n1, if_neg n2], by rw [if_neg n1, if_neg n2]⟩
theorem nI_2 {x t : Nat} : (2 : Int32) * nI x + nI t = nI (2 * x + t) := by
  show nI 2 * nI x + nI t = _
  rw [pk_mul, nI_add]
theorem cases_code (x : Int32) : (¬ x = -1 ∧ (∀ (z : Nat × Nat) (σ : PS), X9_isCode z x σ = some 0) ∧ (x < -1 ∨ (¬ x < -1 ∧ ¬ x ≤ 15))) ∨ (x = -1 ∧ ¬ x < -1 ∧ x ≤ 15) ∨ ∃ c, c < 16 ∧ x = nI c ∧ ¬ x = -1 ∧ ¬ x < -1 ∧ x ≤ 15 ∧ ∀ (z : Nat × Nat) (σ : PS), X9_isCode z x σ = some 1 := by
  unfold X9_isCode
  rcases cases_nI x (n := 16) (by omega) with k | ⟨k, k2⟩ | ⟨c, hc, rfl⟩
  · by_cases e : x = -1
    · subst e; exact Or.inr (Or.inl ⟨rfl, by decide, by decide⟩)
    · refine Or.inl ⟨e, fun _ _ => by rw [if_pos k], Or.inl ?_⟩
      rw [Int32.lt_iff_toInt_lt] at k ⊢
      have h1 : ((-1 : Int32)).toInt = -1 := by decide
      have h2 : ((0 : Int32)).toInt = 0 := by decide
      rw [h1]
      rw [h2] at k
      have h3 : ¬ x.toInt = -1 := fun q => e (Int32.toInt_inj.mp (by rw [q, h1]))
      omega
  · have k3 : (16 : Int32) ≤ x := k2
    have e : ¬ x = -1 := fun q => by rw [q] at k3; exact absurd k3 (by decide)
    refine Or.inl ⟨e, fun _ _ => by rw [if_neg k, if_pos k3], Or.inr ⟨fun q => k (Int32.lt_trans q (by decide)), fun q => absurd (Int32.le_trans k3 q) (by decide)⟩⟩
  · have n1 : ¬ nI c < 0 := nI_pos (by omega)
    refine Or.inr (Or.inr ⟨c, hc, rfl, ?_, fun q => n1 (Int32.lt_trans q (by decide)), nI_le (b := 15) (by omega) (by omega), fun _ _ => by rw [if_neg n1, if_neg (show ¬ (16 : Int32) ≤ nI c from nI_ge (b := 16) hc (by omega))]⟩)
    intro q
    rw [q] at n1
    exact n1 (by decide)

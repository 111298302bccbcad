/-! ===== sets of laid handlers as bits ===== -/
def mkS : Nat → (Nat → Bool) → Int32
  | 0, _ => 0
  | k + 1, P => if P k = true then mkS k P ||| ((1 : Int32) <<< (nI k &&& 31)) else mkS k P
theorem mkS_s (P : Nat → Bool) (k : Nat) : mkS (k + 1) P = if P k = true then mkS k P ||| ((1 : Int32) <<< (nI k &&& 31)) else mkS k P := rfl
theorem bt_mkS (P : Nat → Bool) : ∀ (n : Nat), n ≤ 32 → ∀ j, j < 32 → bt (mkS n P) j = (decide (j < n) && P j) := by
  intro n
  induction n with
  | zero => intro _ j _; simp [mkS, b_0]
  | succ n ih =>
    intro hn j hj
    unfold mkS
    by_cases k : P n = true
    · rw [if_pos k, b_put (by omega) hj, ih (by omega) j hj]
      by_cases e : j = n
      · subst e; simp [k]
      · have e1 : (j < n + 1) = (j < n) := by simp only [eq_iff_iff]; omega
        simp [e, e1]
    · rw [if_neg k, ih (by omega) j hj]
      have kf : P n = false := by simpa using k
      by_cases e : j = n
      · subst e; simp [kf]
      · have e1 : (j < n + 1) = (j < n) := by simp only [eq_iff_iff]; omega
        simp [e1]
/-- the laid handlers of a function: how many, which -/
def rLd (z : Nat × Nat) (f lc : Nat) (la : Nat → Nat) (σ : PS) : Prop := lc ≤ 8 ∧ gI σ 50 f 7 = nI lc ∧ ∀ i, i < lc → gR σ 56 f i = some (la i) ∧ la i < z.2
theorem tkW_l (z : Nat × Nat) {σ τ : PS} {p f lc : Nat} {la : Nat → Nat} (hL : rLd z f lc la σ) (hh : ∀ i, i < lc → rHp p σ τ (la i)) {i : Nat} (hi : i < p) (hp : p ≤ 2) (w : Int32) (kx : Int32 → Option Int32) : ∀ (n j : Nat), j ≤ lc → lc - j < n → X1_takersOfWeight_l5 z f σ kx n (nI i) w (mkS j (fun a => twP τ (la a) i w)) (nI j) = kx (mkS lc (fun a => twP τ (la a) i w)) := by
  obtain ⟨h1, h2, h3⟩ := hL
  intro n
  induction n with
  | zero => intro j hj hn; omega
  | succ n ih =>
    intro j hj hn
    rw [X1_takersOfWeight_l5.eq_2, h2]
    by_cases he : j = lc
    · subst he; rw [if_pos (nI_le (Nat.le_refl _) (by omega))]
    · have hlt : j < lc := by omega
      obtain ⟨e1, e2⟩ := h3 j hlt
      rw [if_neg (nI_ge hlt (by omega)), ib_nI (by omega), gd_d (by omega), ix_nI (by omega), nm_b, e1, dr_s e2, takesW z w (hh j hlt) hi hp]
      simp only [Option.bind_some, nI_s, nm_b]
      have := ih (j + 1) (by omega) (by omega)
      rw [mkS_s] at this
      rcases hb : twP τ (la j) i w with _ | _
      · rw [if_neg (by simp [hb])] at this
        rw [if_pos (by rfl)]
        exact this
      · rw [if_pos (by simp [hb])] at this
        rw [if_neg (by decide)]
        exact this
theorem tkW (z : Nat × Nat) {σ τ : PS} {p f lc : Nat} {la : Nat → Nat} (hL : rLd z f lc la σ) (hh : ∀ i, i < lc → rHp p σ τ (la i)) {i : Nat} (hi : i < p) (hp : p ≤ 2) (w : Int32) : X1_takersOfWeight z f (nI i) w σ = some (mkS lc (fun a => twP τ (la a) i w)) := by
  have hfu := fuel_ge
  have h1 := hL.1
  unfold X1_takersOfWeight
  exact tkW_l z hL hh hi hp w _ fuel 0 (by omega) (by omega)

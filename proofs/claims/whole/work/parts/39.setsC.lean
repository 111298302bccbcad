theorem tkC_l (z : Nat × Nat) {σ τ : PS} {p f lc : Nat} {la : Nat → Nat} (hL : rLd z f lc la σ) (hh : ∀ i, i < lc → rHp p σ τ (la i)) {i : Nat} (hi : i < p) (hp : p ≤ 2) {f0 c : Nat} (hB : rB σ τ) (ho : ∀ i, i < lc → gR σ 100 (la i) 0 = some f0) (hf0 : f0 < z.1) (hc : c < 16) (kx : Int32 → Option Int32) : ∀ (n j : Nat), j ≤ lc → lc - j < n → X1_takersOfClass_l5 z f σ kx n (nI i) (nI c) (mkS j (fun a => tcP τ (la a) i c)) (nI j) = kx (mkS lc (fun a => tcP τ (la a) i c)) := by
  obtain ⟨h1, h2, h3⟩ := hL
  intro n
  induction n with
  | zero => intro j hj hn; omega
  | succ n ih =>
    intro j hj hn
    rw [X1_takersOfClass_l5.eq_2, h2]
    by_cases he : j = lc
    · subst he; rw [if_pos (nI_le (Nat.le_refl _) (by omega))]
    · have hlt : j < lc := by omega
      obtain ⟨e1, e2⟩ := h3 j hlt
      rw [if_neg (nI_ge hlt (by omega)), ib_nI (by omega), gd_d (by omega), ix_nI (by omega), nm_b, e1, dr_s e2, takesC z hB (hh j hlt) hi hp (ho j hlt) hf0 hc]
      simp only [Option.bind_some, nI_s, nm_b]
      have := ih (j + 1) (by omega) (by omega)
      rw [mkS_s] at this
      rcases hb : tcP τ (la j) i c with _ | _
      · rw [if_neg (by simp [hb])] at this
        rw [if_pos (by rfl)]
        exact this
      · rw [if_pos (by simp [hb])] at this
        rw [if_neg (by decide)]
        exact this
theorem tkC (z : Nat × Nat) {σ τ : PS} {p f lc : Nat} {la : Nat → Nat} (hL : rLd z f lc la σ) (hh : ∀ i, i < lc → rHp p σ τ (la i)) {i : Nat} (hi : i < p) (hp : p ≤ 2) {f0 c : Nat} (hB : rB σ τ) (ho : ∀ i, i < lc → gR σ 100 (la i) 0 = some f0) (hf0 : f0 < z.1) (hc : c < 16) : X1_takersOfClass z f (nI i) (nI c) σ = some (mkS lc (fun a => tcP τ (la a) i c)) := by
  have hfu := fuel_ge
  have h1 := hL.1
  unfold X1_takersOfClass
  exact tkC_l z hL hh hi hp hB ho hf0 hc _ fuel 0 (by omega) (by omega)

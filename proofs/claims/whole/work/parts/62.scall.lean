theorem s_call {z : Nat × Nat} {ns t : Nat} {σ τ : PS} {own pn : Nat → Nat} {lc : Nat → Nat} {la od : Nat → Nat → Nat} (hC : z.1 = 0 ∨ CR z own pn lc la od σ τ) (hF : rF z pn σ τ) (hs : rS ns σ τ) (hA : rA ns σ τ) (hK : rK σ τ) (hM : ∀ g, g < z.1 → rM1 (pn g) g t σ τ) (ht : t + 12 < 2 ^ 30) (x1 : Int32) :
    (∃ r σ' τ', X9_call z x1 σ = some (r, σ') ∧ X10_call x1 τ = some (r, τ') ∧ ag DRC σ σ' ∧ ag DRM τ τ') ∨
    (∃ o ns' t' sc' σ' τ', X9_call z x1 σ = some (o, σ') ∧ X10_call x1 τ = some (o, τ') ∧ gI σ' 150 0 3 = o ∧ gI τ' 500 0 25 = o ∧ (o = 3 → gI σ' 150 0 4 = gI τ' 500 0 27) ∧ ns ≤ ns' ∧ t' ≤ t + 12 ∧ sc' ≤ 192 ∧ RC z own pn lc la od ns' t' sc' σ' τ' ∧ gI σ' 150 0 2 = gI τ' 500 0 30 ∧ ag DKC σ σ' ∧ ag (DKM z.1) τ τ') := by
  have hfu := fuel_ge
  unfold X9_call X10_call
  rcases fnAt hF x1 with ⟨e1, e2⟩ | ⟨f, hf, rfl, e1, e2⟩
  · left; exact ⟨-2, σ, τ, by rw [e1]; rfl, by rw [e2]; rfl, ag_r _, ag_r _⟩
  · have hC := hC.elim (fun q => by omega) id
    rw [e1, e2]
    simp only [Option.bind_some, if_neg (show ¬ (1 : Int32) = 0 by decide), oc_s' hf]
    rcases tell hs hA hF hf with ⟨σ', τ', t1, t2, t3, t4⟩ | ⟨c, w, σ1, τ1, t1, t2, t3, t4, t5, t6, t7⟩
    · left; exact ⟨-3, σ', τ', by rw [t1]; rfl, by rw [t2]; rfl, t3, t4⟩
    · right
      rw [t1, t2]
      simp only [bp_s, if_neg (show ¬ (1 : Int32) = 0 by decide)]
      have eB : X3_begin z σ1 = some (sL (sI (sI (sI (sI σ1 150 0 1 0) 150 0 2 0) 150 0 3 0) 150 0 4 0) 150 0 5 0) := rfl
      rw [eB]
      simp only [Option.bind_some, nm_b]
      have a2 : ag (fun k _ _ => k = 150) σ1 (sL (sI (sI (sI (sI σ1 150 0 1 0) 150 0 2 0) 150 0 3 0) 150 0 4 0) 150 0 5 0) := ag_t (ag_t (ag_t (ag_t (ag_sI rfl) (ag_sI rfl)) (ag_sI rfl)) (ag_sI rfl)) (ag_sL rfl)
      have b2 : ag (fun k _ i => k = 500 ∧ (i = 29 ∨ i = 30 ∨ i = 26 ∨ i = 27)) τ1 (sI (sL (sI (sI τ1 500 0 29 0) 500 0 30 0) 500 0 26 0) 500 0 27 0) := ag_t (ag_t (ag_t (ag_sI (by omega)) (ag_sI (by omega))) (ag_sL (by omega))) (ag_sI (by omega))
      have g1 : gI (sL (sI (sI (sI (sI σ1 150 0 1 0) 150 0 2 0) 150 0 3 0) 150 0 4 0) 150 0 5 0) 150 0 1 = nI 0 := by simp [gI_sI, gI_sL]; rfl
      have g2 : gI (sL (sI (sI (sI (sI σ1 150 0 1 0) 150 0 2 0) 150 0 3 0) 150 0 4 0) 150 0 5 0) 150 0 2 = nI 0 := by simp [gI_sI, gI_sL]; rfl
      have g3 : gL (sL (sI (sI (sI (sI σ1 150 0 1 0) 150 0 2 0) 150 0 3 0) 150 0 4 0) 150 0 5 0) 150 0 5 = 0 := by simp [gL_sL]
      have m1 : gI (sI (sL (sI (sI τ1 500 0 29 0) 500 0 30 0) 500 0 26 0) 500 0 27 0) 500 0 29 = nI 0 := by simp [gI_sI, gI_sL]; rfl
      have m2 : gI (sI (sL (sI (sI τ1 500 0 29 0) 500 0 30 0) 500 0 26 0) 500 0 27 0) 500 0 30 = nI 0 := by simp [gI_sI, gI_sL]; rfl
      have m3 : gL (sI (sL (sI (sI τ1 500 0 29 0) 500 0 30 0) 500 0 26 0) 500 0 27 0) 500 0 26 = 0 := by simp [gL_sL, gL_sI]
      generalize sL (sI (sI (sI (sI σ1 150 0 1 0) 150 0 2 0) 150 0 3 0) 150 0 4 0) 150 0 5 0 = σ2 at a2 g1 g2 g3 ⊢
      generalize sI (sL (sI (sI τ1 500 0 29 0) 500 0 30 0) 500 0 26 0) 500 0 27 0 = τ2 at b2 m1 m2 m3 ⊢
      have a3 : ag DKC σ σ2 := ag_t (ag_m t3 (fun k n i q => by unfold DRC at q; unfold DKC; omega)) (ag_m a2 (fun k n i q => by unfold DKC; omega))
      have b3 : ag (DKM z.1) τ τ2 := ag_t (ag_m t4 (fun k n i q => by unfold DRM at q; unfold DKM; omega)) (ag_m b2 (fun k n i q => by unfold DKM; omega))
      have a4 : ag (fun k _ _ => k = 150 ∨ k = 300 ∨ k = 301 ∨ k = 302) σ σ2 := ag_t (ag_m t3 (fun k n i q => by unfold DRC at q; omega)) (ag_m a2 (fun k n i q => by omega))
      have b4 : ag (fun k _ i => k = 532 ∨ k = 533 ∨ k = 500 ∧ (i = 29 ∨ i = 30 ∨ i = 26 ∨ i = 27)) τ τ2 := ag_t (ag_m t4 (fun k n i q => by unfold DRM at q; omega)) (ag_m b2 (fun k n i q => by omega))
      have hR : RC z own pn lc la od ns t 0 σ2 τ2 := ⟨CR_ag hC a4 b4 (fun k n i q => by omega) (fun k n i q => by omega), rS_ag hs a4 b4 (fun k n i q => by omega) (fun k n i q => by omega), rK_ag hK a4 b4 (fun k n i q => by omega) (fun k n i q => by omega), fun g hg => rM1_ag (hM g hg) a4 b4 (fun k n i q => by omega) (fun k n i q => by omega), ⟨g1, m1, fun k hk => by omega⟩, by rw [g3, m3]⟩
      obtain ⟨o, ns', t', sc', σ', τ', r1, r2, r3, r4, r5, r6, r7, r8, r9, r10, r11, r12⟩ := callB 12 1 f fuel fuel ns t 0 σ2 τ2 c w (by omega) (by omega) (by omega) (by omega) (by omega) (by omega) hf hR (rWC_ag t5 a2 (fun k n i q => by omega)) (rWM_ag t6 b2 (fun k n i q => by omega)) (by rw [agI a2 (by omega), t7]) g2 m2
      exact ⟨o, ns', t', sc', σ', τ', r1, r2, r3, r4, r5, r6, r7, r8, r9, r10, ag_t a3 r11, ag_t b3 r12⟩

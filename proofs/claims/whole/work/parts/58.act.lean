/-! ===== a handler acts, on both sides ===== -/
def rK (σ τ : PS) : Prop := ∀ k, k < 8 → gI σ 456 0 k = gI τ 524 0 k
def RC (z : Nat × Nat) (own pn : Nat → Nat) (lc : Nat → Nat) (la od : Nat → Nat → Nat) (ns t sc : Nat) (σ τ : PS) : Prop := CR z own pn lc la od σ τ ∧ rS ns σ τ ∧ rK σ τ ∧ (∀ g, g < z.1 → rM1 (pn g) g t σ τ) ∧ rSt sc σ τ ∧ gL σ 150 0 5 = gL τ 500 0 26
section FR3
variable {D E : Nat → Nat → Nat → Prop} {σ σ' τ τ' : PS}
theorem rK_ag (h : rK σ τ) (a : ag D σ σ') (b : ag E τ τ') (hD : ∀ k n i, k = 456 → ¬ D k n i) (hE : ∀ k n i, k = 524 → ¬ E k n i) : rK σ' τ' := fun k hk => by rw [agI a (hD _ _ _ rfl), agI b (hE _ _ _ rfl)]; exact h k hk
theorem rM1_ag {p f t : Nat} (h : rM1 p f t σ τ) (a : ag D σ σ') (b : ag E τ τ') (hD : ∀ k n i, n = f ∧ (k = 200 ∨ k = 201 ∨ k = 202 ∨ k = 203 ∨ k = 204) → ¬ D k n i) (hE : ∀ k n i, ((k = 512 ∨ k = 514) ∧ i = f ∨ k = 513 ∧ 64 * f ≤ i ∧ i < 64 * f + 64) → ¬ E k n i) : rM1 p f t σ' τ' := by
  obtain ⟨h0, m, k, π, ρ, u, hm, hk, s5, t5, s4, h1, h2, h3, h4⟩ := h
  have e1 : ∀ i, gI σ' 200 f i = gI σ 200 f i := fun i => agI a (hD _ _ _ (by omega))
  have e2 : ∀ i, gI σ' 201 f i = gI σ 201 f i := fun i => agI a (hD _ _ _ (by omega))
  have e3 : ∀ i, gL σ' 202 f i = gL σ 202 f i := fun i => agL a (hD _ _ _ (by omega))
  have e4 : ∀ i, gL σ' 203 f i = gL σ 203 f i := fun i => agL a (hD _ _ _ (by omega))
  have e5 : ∀ i, gI σ' 204 f i = gI σ 204 f i := fun i => agI a (hD _ _ _ (by omega))
  have f1 : gI τ' 512 0 f = gI τ 512 0 f := agI b (hE _ _ _ (by omega))
  have f2 : gI τ' 514 0 f = gI τ 514 0 f := agI b (hE _ _ _ (by omega))
  have f3 : ∀ j q, j < m → q < 4 → gL τ' 513 0 (64 * f + 4 * j + q) = gL τ 513 0 (64 * f + 4 * j + q) := fun j q hj hq => agL b (hE _ _ _ (by omega))
  have f4 : ∀ j, j < m → gL τ' 513 0 (64 * f + 4 * j) = gL τ 513 0 (64 * f + 4 * j) := fun j hj => f3 j 0 hj (by omega)
  refine ⟨by rw [e1, f1, h0], m, k, π, ρ, u, hm, hk, by rw [e1, s5], by rw [f2, t5], by rw [e1, s4], fun j hj => ?_, h2, h3, fun i j hi hj hij => ?_⟩
  · obtain ⟨a1, a2, a3, a4, x, y, b1, b2, b3, b4, b5, b6, b7⟩ := h1 j hj
    exact ⟨a1, a2, a3, by rw [e5, a4], x, y, b1, b2, by rw [e2, b3], by rw [f4 j hj, b4], by rw [f3 j 2 hj (by omega), b5], by rw [e3, f3 j 1 hj (by omega), b6], by rw [e4, f3 j 3 hj (by omega), b7]⟩
  · unfold mM
    rw [f4 i hi, f4 j hj, f3 i 1 hi (by omega), f3 j 1 hj (by omega), f3 i 2 hi (by omega), f3 j 2 hj (by omega), f3 i 3 hi (by omega), f3 j 3 hj (by omega)]
    exact h4 i j hi hj hij
theorem rM1_t {p f t t' : Nat} (h : rM1 p f t σ τ) (ht : t ≤ t') : rM1 p f t' σ τ := by
  obtain ⟨h0, m, k, π, ρ, u, hm, hk, r⟩ := h
  exact ⟨h0, m, k, π, ρ, u, hm, by omega, r⟩
end FR3
theorem bp_id {α β : Type} (X : Option (α × β)) : bp X (fun a b => some (a, b)) = X := by
  cases X with
  | none => rfl
  | some x => rfl
noncomputable def runT (x1 x2 y2 : Int32) (σ3 : PS) : Option (Int32 × PS) := gd (ib x2 40) (if (gI σ3 517 0 (ix x2)) = (0 : Int32) then bp (X10_end y2.toInt64 σ3) (fun r5 σ5 => some (r5, σ5)) else if (gI σ3 517 0 (ix x2)) = (1 : Int32) then (X10_weight x1 σ3).bind (fun r6 => bp (X10_end (r6 + y2.toInt64) σ3) (fun r7 σ7 => some (r7, σ7))) else if (gI σ3 517 0 (ix x2)) = (2 : Int32) then (X10_offered x1 x2 σ3).bind (fun r8 => if r8 = 0 then bp (X10_end y2.toInt64 σ3) (fun r11 σ11 => some (r11, σ11)) else nm (sL σ3 500 0 26 ((gL σ3 500 0 26) + y2.toInt64)) (fun σ9 => (X10_choose x1 x2 σ9).bind (fun r10 => some (r10, σ9)))) else if (gI σ3 517 0 (ix x2)) = (3 : Int32) then bp (X10_fail y2 σ3) (fun r12 σ12 => some (r12, σ12)) else if (gI σ3 517 0 (ix x2)) = (4 : Int32) then (X10_rest y2 (8 : Int32) σ3).bind (fun r13 => gd (ib r13 8) (gd (ib r13 8) (nm (sI σ3 524 0 (ix r13) ((gI σ3 524 0 (ix r13)) + (1 : Int32))) (fun σ16 => gd (ib r13 8) (bp (X10_end (gI σ16 524 0 (ix r13)).toInt64 σ16) (fun r18 σ18 => some (r18, σ18))))))) else if (gI σ3 517 0 (ix x2)) = (5 : Int32) then bp (X10_grow y2 σ3) (fun r19 σ19 => some (r19, σ19)) else bp (X10_callOn x1 x2 σ3) (fun r20 σ20 => some (r20, σ20)))
theorem run_eq (x1 x2 : Int32) (σ : PS) : X10_run x1 x2 σ = gd (ib x2 40) (nm (gI σ 518 0 (ix x2)) (fun y2 => (X10_note x2 σ).bind (fun σ3 => runT x1 x2 y2 σ3))) := rfl
/-- a call within: which function, or none -/
theorem cwB {z : Nat × Nat} {σ τ : PS} {own pn : Nat → Nat} (hF : rF z pn σ τ) (hH : rH z own pn σ τ) {f h : Nat} (hf : f < z.1) (hh : h < z.2) (h3 : gI σ 300 0 2 = nI (pn f)) :
    (X9_calledWithin z h σ = some (none, sI (sI σ 150 0 3 3) 150 0 4 (-2)) ∧ X10_callOn (nI f) (nI h) τ = some (-5, sI τ 500 0 27 (-2))) ∨
    (∃ g, g < z.1 ∧ pn g = pn f ∧ X9_calledWithin z h σ = some (some g, sL σ 150 0 5 (gL σ 150 0 5 + 1)) ∧ X10_callOn (nI f) (nI h) τ = (if gI τ 517 0 h = 7 then (if nI (pn f) = (2 : Int32) then (X10_turn τ).bind (fun σ13 => X10_begin (nI g) (sL σ13 500 0 26 (gL σ13 500 0 26 + 1))) else X10_begin (nI g) (sL τ 500 0 26 (gL τ 500 0 26 + 1))) else X10_begin (nI g) (sL τ 500 0 26 (gL τ 500 0 26 + 1)))) := by
  have h40 := hH.1
  have hf4 := hF.1
  obtain ⟨-, -, ⟨p1, p2⟩, p3, p4, -⟩ := hF.2.2.2 f hf
  obtain ⟨-, bo, -⟩ := hH.2.2.2 h hh
  obtain ⟨k, k1, k2, k3⟩ := modB z (gI τ 518 0 h) (m := 4) (Or.inl rfl) σ τ
  unfold X9_calledWithin X10_callOn
  rw [show (4 : Int32) = nI 4 from rfl, bo.2.2.2.1, k2, ib_nI (by omega), gd_d (by omega), ix_nI (by omega), k3]
  simp only [Option.bind_some, bp_id, nm_b, gd_d (show h < 40 by omega), ib_nI (show f < 2 ^ 31 by omega), gd_d hf4, ix_nI (show f < 2 ^ 31 by omega), ib_nI (show k < 2 ^ 31 by omega), ix_nI (show k < 2 ^ 31 by omega), p4, h3]
  have e3 : X3_endWithFailure z (-2) σ = some (sI (sI σ 150 0 3 3) 150 0 4 (-2)) := rfl
  have e4 : X10_fail (-2) τ = some (-5, sI τ 500 0 27 (-2)) := rfl
  rcases fnAt hF (nI k) with ⟨q1, q2⟩ | ⟨g, hg, e, q1, q2⟩
  · left
    rw [q1, q2, e3, e4]
    exact ⟨rfl, rfl⟩
  · have hgk : k = g := (nI_eq (by omega) (by omega)).mp e
    subst hgk
    obtain ⟨-, -, ⟨g1, g2⟩, g3, g4, -⟩ := hF.2.2.2 k hg
    rw [q1, q2]
    simp only [Option.bind_some, oc_s' hg, if_neg (show ¬ (1 : Int32) = 0 by decide), g3, g4, ib_nI (show f < 2 ^ 31 by omega), gd_d (show k < 4 by omega), gd_d (show f < 4 by omega)]
    by_cases q : pn k = pn f
    · right
      refine ⟨k, hg, q, ?_, ?_⟩
      · rw [if_pos (by rw [q])]
      · rw [if_pos (by rw [q])]
    · left
      have q' : ¬ nI (pn k) = nI (pn f) := fun r => q ((nI_eq (by omega) (by omega)).mp r)
      rw [if_neg q', if_neg q', e3, e4]
      exact ⟨rfl, rfl⟩
def DAC : Nat → Nat → Nat → Prop := fun k _ i => k = 150 ∧ (i = 3 ∨ i = 4 ∨ i = 5) ∨ k = 456 ∨ k = 350 ∨ k = 351 ∨ k = 352 ∨ k = 301 ∨ k = 302
def DAM : Nat → Nat → Nat → Prop := fun k _ i => k = 500 ∧ (i = 5 ∨ i = 26 ∨ i = 27) ∨ k = 507 ∨ k = 508 ∨ k = 524 ∨ k = 532 ∨ k = 533
theorem RC_fr {z : Nat × Nat} {own pn : Nat → Nat} {lc : Nat → Nat} {la od : Nat → Nat → Nat} {ns ns' t sc : Nat} {σ τ σ' τ' : PS} (h : RC z own pn lc la od ns t sc σ τ) (a : ag DAC σ σ') (b : ag DAM τ τ') (hs : rS ns' σ' τ') (hk : rK σ' τ') (hl : gL σ' 150 0 5 = gL τ' 500 0 26) : RC z own pn lc la od ns' t sc σ' τ' := by
  obtain ⟨h1, h2, h3, h4, h5, h6⟩ := h
  exact ⟨CR_ag h1 a b (fun k n i q => by unfold DAC; omega) (fun k n i q => by unfold DAM; omega), hs, hk, fun g hg => rM1_ag (h4 g hg) a b (fun k n i q => by unfold DAC; omega) (fun k n i q => by unfold DAM; omega), rSt_ag h5 a b (fun k n i q => by unfold DAC; omega) (fun k n i q => by unfold DAM; omega), hl⟩
/-- the row is turned round -/
theorem turnB (z : Nat × Nat) {σ τ : PS} {c : Nat → Nat} {w : Nat → Int32} (h3 : gI σ 300 0 2 = nI 2) (hWC : rWC 2 c w σ) (hWM : rWM 2 c w τ) : ∃ σ' τ', X6_turnRound z σ = some σ' ∧ X10_turn τ = some τ' ∧ ag (fun k _ _ => k = 301 ∨ k = 302) σ σ' ∧ ag (fun k _ _ => k = 532 ∨ k = 533) τ τ' ∧ rWC 2 (fun i => c (1 - i)) (fun i => w (1 - i)) σ' ∧ rWM 2 (fun i => c (1 - i)) (fun i => w (1 - i)) τ' := by
  obtain ⟨a1, a2, a3⟩ := hWC 0 (by omega)
  obtain ⟨b1, b2, b3⟩ := hWC 1 (by omega)
  obtain ⟨-, c2, c3⟩ := hWM 0 (by omega)
  obtain ⟨-, d2, d3⟩ := hWM 1 (by omega)
  unfold X6_turnRound X10_turn
  rw [h3, if_pos (by decide)]
  simp only [show ib (0 : Int32) 2 = true by decide, show ib (1 : Int32) 2 = true by decide, gd_t, nm_b, show ix (0 : Int32) = 0 from rfl, show ix (1 : Int32) = 1 from rfl]
  refine ⟨_, _, rfl, rfl, ag_t (ag_t (ag_t (ag_sI (by omega)) (ag_sI (by omega))) (ag_sI (by omega))) (ag_sI (by omega)), ag_t (ag_t (ag_t (ag_sI (by omega)) (ag_sL (by omega))) (ag_sI (by omega))) (ag_sL (by omega)), fun i hi => ?_, fun i hi => ?_⟩
  · rcases (show i = 0 ∨ i = 1 by omega) with rfl | rfl
    · exact ⟨b1, by simp [gI_sI, b2], by simp [gI_sI, b3]⟩
    · exact ⟨a1, by simp [gI_sI, a2], by simp [gI_sI, a3]⟩
  · rcases (show i = 0 ∨ i = 1 by omega) with rfl | rfl
    · exact ⟨b1, by simp [gI_sI, gI_sL, d2], by simp [gL_sL, gL_sI, d3]⟩
    · exact ⟨a1, by simp [gI_sI, gI_sL, c2], by simp [gL_sL, gL_sI, c3]⟩

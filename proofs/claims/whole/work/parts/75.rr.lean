/-! ===== all relations at once; each public method keeps them ===== -/
def rN (z : Nat × Nat) (τ : PS) : Prop := (∀ f, z.1 ≤ f → f < 4 → gI τ 511 0 f = 0 ∧ gI τ 512 0 f = 0 ∧ gI τ 514 0 f = 0) ∧ ∀ h, z.2 ≤ h → h < 40 → gI τ 520 0 h = 0
def RQ (z : Nat × Nat) (own pn : Nat → Nat) (lc : Nat → Nat) (la od : Nat → Nat → Nat) (ns t : Nat) (σ τ : PS) : Prop := rT σ τ ∧ (gI τ 500 0 4 = 1 → rB σ τ ∧ rO τ) ∧ (gI τ 500 0 4 = 0 → z.1 = 0) ∧ rS ns σ τ ∧ rA ns σ τ ∧ rF z pn σ τ ∧ rH z own pn σ τ ∧ rQ z.2 τ ∧ rL z own pn lc la od σ τ ∧ rV σ τ ∧ rK σ τ ∧ (∀ g, g < z.1 → rM1 (pn g) g t σ τ) ∧ rN z τ
def RR (z : Nat × Nat) (t : Nat) (σ τ : PS) : Prop := ∃ own pn lc la od ns, RQ z own pn lc la od ns t σ τ
theorem RQ_C {z : Nat × Nat} {own pn : Nat → Nat} {lc : Nat → Nat} {la od : Nat → Nat → Nat} {ns t : Nat} {σ τ : PS} (h : RQ z own pn lc la od ns t σ τ) : z.1 = 0 ∨ CR z own pn lc la od σ τ := by
  obtain ⟨h1, h2, h3, h4, h5, h6, h7, h8, h9, -⟩ := h
  rcases h1.1.2 with q | q
  · exact Or.inl (h3 q)
  · exact Or.inr ⟨(h2 q).1, (h2 q).2, h8, h6, h7, h9⟩
theorem RQ_C2 {z : Nat × Nat} {own pn : Nat → Nat} {lc : Nat → Nat} {la od : Nat → Nat → Nat} {ns t : Nat} {σ τ : PS} (h : RQ z own pn lc la od ns t σ τ) : z.2 = 0 ∨ CR z own pn lc la od σ τ := by
  rcases RQ_C h with q | q
  · left
    rcases Nat.eq_zero_or_pos z.2 with r | r
    · exact r
    · have := (h.2.2.2.2.2.2.1.2.2.2 0 r).1.2.1
      omega
  · exact Or.inr q
section FR4
variable {D E : Nat → Nat → Nat → Prop} {σ σ' τ τ' : PS}
theorem rV_ag (h : rV σ τ) (a : ag D σ σ') (b : ag E τ τ') (hD : ∀ k n i, (k = 150 ∨ k = 151 ∨ k = 450 ∧ i = 11) → ¬ D k n i) (hE : ∀ k n i, (k = 500 ∧ (i = 25 ∨ i = 26 ∨ i = 27 ∨ i = 29 ∨ i = 30 ∨ i = 33) ∨ k = 529) → ¬ E k n i) : rV σ' τ' := by
  have e1 : ∀ i, gI σ' 150 0 i = gI σ 150 0 i := fun i => agI a (hD _ _ _ (by omega))
  have e2 : ∀ i, gL σ' 150 0 i = gL σ 150 0 i := fun i => agL a (hD _ _ _ (by omega))
  have e3 : ∀ i, gI σ' 151 0 i = gI σ 151 0 i := fun i => agI a (hD _ _ _ (by omega))
  have e4 : gI σ' 450 0 11 = gI σ 450 0 11 := agI a (hD _ _ _ (by omega))
  have f1 : gI τ' 500 0 25 = gI τ 500 0 25 := agI b (hE _ _ _ (by omega))
  have f2 : gL τ' 500 0 26 = gL τ 500 0 26 := agL b (hE _ _ _ (by omega))
  have f3 : gI τ' 500 0 27 = gI τ 500 0 27 := agI b (hE _ _ _ (by omega))
  have f4 : gI τ' 500 0 29 = gI τ 500 0 29 := agI b (hE _ _ _ (by omega))
  have f5 : gI τ' 500 0 30 = gI τ 500 0 30 := agI b (hE _ _ _ (by omega))
  have f6 : gI τ' 500 0 33 = gI τ 500 0 33 := agI b (hE _ _ _ (by omega))
  have f7 : ∀ i, gI τ' 529 0 i = gI τ 529 0 i := fun i => agI b (hE _ _ _ (by omega))
  unfold rV at h ⊢
  simp only [e1, e2, e3, e4, f1, f2, f3, f4, f5, f6, f7]
  exact h
theorem rN_ag {z : Nat × Nat} (h : rN z τ) (b : ag E τ τ') (hE : ∀ k n i, ((k = 511 ∨ k = 512 ∨ k = 514) ∧ z.1 ≤ i ∨ k = 520 ∧ z.2 ≤ i) → ¬ E k n i) : rN z τ' := ⟨fun f h1 h2 => by rw [agI b (hE _ _ _ (by omega)), agI b (hE _ _ _ (by omega)), agI b (hE _ _ _ (by omega))]; exact h.1 f h1 h2, fun g h1 h2 => by rw [agI b (hE _ _ _ (by omega))]; exact h.2 g h1 h2⟩
/-- all but some parts, by what stays -/
theorem RQ_ag {z : Nat × Nat} {own pn : Nat → Nat} {lc : Nat → Nat} {la od : Nat → Nat → Nat} {ns t : Nat} (h : RQ z own pn lc la od ns t σ τ) (a : ag D σ σ') (b : ag E τ τ') (hD : ∀ k n i, D k n i → (k = 0 ∨ k = 1 ∨ k = 2 ∨ k = 3 ∨ k = 5 ∨ k = 6 ∨ k = 250 ∨ k = 300 ∨ k = 301 ∨ k = 302)) (hE : ∀ k n i, E k n i → (k = 532 ∨ k = 533 ∨ k = 535 ∨ k = 536 ∨ k = 537 ∨ k = 538 ∨ k = 539)) : RQ z own pn lc la od ns t σ' τ' := by
  obtain ⟨h1, h2, h3, h4, h5, h6, h7, h8, h9, h10, h11, h12, h13⟩ := h
  have hD' : ∀ k n i, ¬ (k = 0 ∨ k = 1 ∨ k = 2 ∨ k = 3 ∨ k = 5 ∨ k = 6 ∨ k = 250 ∨ k = 300 ∨ k = 301 ∨ k = 302) → ¬ D k n i := fun k n i q r => q (hD k n i r)
  have hE' : ∀ k n i, ¬ (k = 532 ∨ k = 533 ∨ k = 535 ∨ k = 536 ∨ k = 537 ∨ k = 538 ∨ k = 539) → ¬ E k n i := fun k n i q r => q (hE k n i r)
  have e4 : gI τ' 500 0 4 = gI τ 500 0 4 := agI b (hE' _ _ _ (by omega))
  exact ⟨rT_ag h1 a b (fun k n i q => hD' k n i (by omega)) (fun k n i q => hE' k n i (by omega)), fun q => ⟨rB_ag (h2 (by rw [← e4]; exact q)).1 a b (fun k n i q => hD' k n i (by omega)) (fun k n i q => hE' k n i (by omega)), rO_ag (h2 (by rw [← e4]; exact q)).2 b (fun k n i q => hE' k n i (by omega))⟩, fun q => h3 (by rw [← e4]; exact q), rS_ag h4 a b (fun k n i q => hD' k n i (by omega)) (fun k n i q => hE' k n i (by omega)), rA_ag h5 a b (fun k n i q => hD' k n i (by omega)) (fun k n i q => hE' k n i (by omega)), rF_ag h6 a b (fun k n i q => hD' k n i (by omega)) (fun k n i q => hE' k n i (by omega)), rH_ag h7 a b (fun k n i q => hD' k n i (by omega)) (fun k n i q => hE' k n i (by omega)), rQ_ag h8 b (fun k n i q => hE' k n i (by omega)), fun f hf => rL1_ag (h9 f hf) a b (fun k n i q => hD' k n i (by omega)) (fun k n i q => hE' k n i (by omega)), rV_ag h10 a b (fun k n i q => hD' k n i (by omega)) (fun k n i q => hE' k n i (by omega)), rK_ag h11 a b (fun k n i q => hD' k n i (by omega)) (fun k n i q => hE' k n i (by omega)), fun g hg => rM1_ag (h12 g hg) a b (fun k n i q => hD' k n i (by omega)) (fun k n i q => hE' k n i (by omega)), rN_ag h13 b (fun k n i q => hE' k n i (by omega))⟩
/-- while the table is open -/
theorem RQ_op {z : Nat × Nat} {own pn : Nat → Nat} {lc : Nat → Nat} {la od : Nat → Nat → Nat} {ns t : Nat} (h : RQ z own pn lc la od ns t σ τ) (ho : gI τ 500 0 4 = 0) (a : ag D σ σ') (b : ag E τ τ') (hD : ∀ k n i, D k n i → (k = 400 ∨ k = 401 ∨ k = 402 ∨ k = 403)) (hE : ∀ k n i, E k n i → (k = 500 ∧ i = 4 ∨ k = 501 ∨ k = 502 ∨ k = 503 ∨ k = 504)) (hT : rT σ' τ') (hBO : gI τ' 500 0 4 = 1 → rB σ' τ' ∧ rO τ') : RQ z own pn lc la od ns t σ' τ' := by
  obtain ⟨h1, h2, h3, h4, h5, h6, h7, h8, h9, h10, h11, h12, h13⟩ := h
  have hD' : ∀ k n i, ¬ (k = 400 ∨ k = 401 ∨ k = 402 ∨ k = 403) → ¬ D k n i := fun k n i q r => q (hD k n i r)
  have hE' : ∀ k n i, ¬ (k = 500 ∧ i = 4 ∨ k = 501 ∨ k = 502 ∨ k = 503 ∨ k = 504) → ¬ E k n i := fun k n i q r => q (hE k n i r)
  have hz := h3 ho
  exact ⟨hT, hBO, fun _ => hz, rS_ag h4 a b (fun k n i q => hD' k n i (by omega)) (fun k n i q => hE' k n i (by omega)), rA_ag h5 a b (fun k n i q => hD' k n i (by omega)) (fun k n i q => hE' k n i (by omega)), rF_ag h6 a b (fun k n i q => hD' k n i (by omega)) (fun k n i q => hE' k n i (by omega)), rH_ag h7 a b (fun k n i q => hD' k n i (by omega)) (fun k n i q => hE' k n i (by omega)), rQ_ag h8 b (fun k n i q => hE' k n i (by omega)), fun f hf => by omega, rV_ag h10 a b (fun k n i q => hD' k n i (by omega)) (fun k n i q => hE' k n i (by omega)), rK_ag h11 a b (fun k n i q => hD' k n i (by omega)) (fun k n i q => hE' k n i (by omega)), fun g hg => by omega, rN_ag h13 b (fun k n i q => hE' k n i (by omega))⟩
end FR4
section MM
variable {z : Nat × Nat} {t : Nat} {σ τ : PS}
theorem m_parent (h : RR z t σ τ) (x1 x2 : Int32) : ∃ r σ' τ', X9_parent z x1 x2 σ = some (r, σ') ∧ X10_parent x1 x2 τ = some (r, τ') ∧ RR z t σ' τ' := by
  obtain ⟨own, pn, lc, la, od, ns, h⟩ := h
  rcases s_parent z x1 x2 h.1 with ⟨r, e1, e2⟩ | ⟨c, hc, hv, ho, e1, e2⟩
  · exact ⟨r, σ, τ, e1, e2, own, pn, lc, la, od, ns, h⟩
  · refine ⟨1, _, _, e1, e2, own, pn, lc, la, od, ns, RQ_op h ho (ag_sI (D := fun k _ _ => k = 401) rfl) (ag_sI (D := fun k _ _ => k = 501) rfl) (fun k n i q => by omega) (fun k n i q => by omega) (rT_parent h.1 hc hv) (fun q => ?_)⟩
    rw [gI_k (by decide), ho] at q; exact absurd q (by decide)
theorem m_add (h : RR z t σ τ) {x u : Nat} {v : PS} (hx : x < 16) (hu : u < 16) (ho : gI τ 500 0 4 = 0) (hv : v = σ ∧ bt (gI σ 402 0 x) u = true ∨ v = sI σ 402 0 x (gI σ 402 0 x ||| ((1 : Int32) <<< (nI u &&& 31)))) : RR z t v (sI τ 502 0 (16 * x + u) 1) := by
  obtain ⟨own, pn, lc, la, od, ns, h⟩ := h
  refine ⟨own, pn, lc, la, od, ns, RQ_op (D := fun k _ _ => k = 402) h ho ?_ (ag_sI (D := fun k _ _ => k = 502) rfl) (fun k n i q => by omega) (fun k n i q => by omega) (rT_add h.1 hx hu hv) (fun q => ?_)⟩
  · rcases hv with ⟨rfl, -⟩ | rfl
    · exact ag_r _
    · exact ag_sI rfl
  · rw [gI_k (by decide), ho] at q; exact absurd q (by decide)
theorem m_trait (h : RR z t σ τ) (x1 x2 : Int32) : ∃ r σ' τ', X9_trait z x1 x2 σ = some (r, σ') ∧ X10_trait x1 x2 τ = some (r, τ') ∧ RR z t σ' τ' := by
  obtain ⟨own, pn, lc, la, od, ns, h0⟩ := id h
  rcases s_trait z x1 x2 h0.1 with ⟨r, e1, e2⟩ | ⟨r, x, u, v, hx, hu, ho, e1, e2, hv⟩
  · exact ⟨r, σ, τ, e1, e2, h⟩
  · exact ⟨r, v, _, e1, e2, m_add h hx hu ho hv⟩
theorem m_has (h : RR z t σ τ) (x1 x2 : Int32) : ∃ r σ' τ', X9_has z x1 x2 σ = some (r, σ') ∧ X10_has x1 x2 τ = some (r, τ') ∧ RR z t σ' τ' := by
  obtain ⟨own, pn, lc, la, od, ns, h0⟩ := id h
  rcases s_has z x1 x2 h0.1 with ⟨r, e1, e2⟩ | ⟨r, x, u, v, hx, hu, ho, e1, e2, hv⟩
  · exact ⟨r, σ, τ, e1, e2, h⟩
  · exact ⟨r, v, _, e1, e2, m_add h hx hu ho hv⟩
theorem m_flag (h : RR z t σ τ) (x1 : Int32) : ∃ r σ' τ', X9_flag z x1 σ = some (r, σ') ∧ X10_flag x1 τ = some (r, τ') ∧ RR z t σ' τ' := by
  obtain ⟨own, pn, lc, la, od, ns, h⟩ := h
  rcases s_flag z x1 h.1 with ⟨r, e1, e2⟩ | ⟨r, c, v, hc, ho, e1, e2, hv⟩
  · exact ⟨r, σ, τ, e1, e2, own, pn, lc, la, od, ns, h⟩
  · refine ⟨r, _, _, e1, e2, own, pn, lc, la, od, ns, RQ_op (D := fun k _ _ => k = 400) h ho ?_ (ag_sI (D := fun k _ _ => k = 504) rfl) (fun k n i q => by omega) (fun k n i q => by omega) (rT_flag h.1 hc hv) (fun q => ?_)⟩
    · rcases hv with ⟨rfl, -⟩ | rfl
      · exact ag_r _
      · exact ag_sI rfl
    · rw [gI_k (by decide), ho] at q; exact absurd q (by decide)
theorem m_close (h : RR z t σ τ) : ∃ r σ' τ', X9_close z σ = some (r, σ') ∧ X10_close τ = some (r, τ') ∧ RR z t σ' τ' := by
  obtain ⟨own, pn, lc, la, od, ns, h⟩ := h
  rcases s_close z h.1 with ⟨-, e1, e2⟩ | ⟨ho, f, g, e1, e2⟩ | ⟨ho, f, g, hB, hO, e1, e2⟩
  · exact ⟨-3, σ, τ, e1, e2, own, pn, lc, la, od, ns, h⟩
  · have a : ag (fun k _ _ => k = 403) σ (sM σ 403 g) := ag_sM (fun _ => rfl)
    have b : ag (fun k _ _ => k = 503) τ (sM τ 503 f) := ag_sM (fun _ => rfl)
    refine ⟨-5, _, _, e1, e2, own, pn, lc, la, od, ns, RQ_op h ho a b (fun k n i q => by omega) (fun k n i q => by omega) (rT_ag h.1 a b (fun k n i q => by omega) (fun k n i q => by omega)) (fun q => ?_)⟩
    rw [agI b (by omega), ho] at q; exact absurd q (by decide)
  · have a : ag (fun k _ _ => k = 403) σ (sM σ 403 g) := ag_sM (fun _ => rfl)
    have b : ag (fun k _ _ => k = 503) τ (sM τ 503 f) := ag_sM (fun _ => rfl)
    have a1 : ag (fun k _ i => k = 400 ∧ i = 4) (sM σ 403 g) (sI (sM σ 403 g) 400 0 4 1) := ag_sI ⟨rfl, rfl⟩
    have b1 : ag (fun k _ i => k = 500 ∧ i = 4) (sM τ 503 f) (sI (sM τ 503 f) 500 0 4 1) := ag_sI ⟨rfl, rfl⟩
    have hT1 := rT_ag h.1 a b (fun k n i q => by omega) (fun k n i q => by omega)
    refine ⟨1, _, _, e1, e2, own, pn, lc, la, od, ns, RQ_op (D := fun k _ _ => k = 400 ∨ k = 403) (E := fun k _ i => k = 500 ∧ i = 4 ∨ k = 503) h ho (ag_t (ag_m a (fun k n i q => by omega)) (ag_m a1 (fun k n i q => by omega))) (ag_t (ag_m b (fun k n i q => by omega)) (ag_m b1 (fun k n i q => by omega))) (fun k n i q => by omega) (fun k n i q => by omega) ?_ (fun _ => ⟨rB_ag hB a1 b1 (fun k n i q => by omega) (fun k n i q => by omega), rO_ag hO b1 (fun k n i q => by omega)⟩)⟩
    obtain ⟨-, t2, t3, t4, t5, t6⟩ := hT1
    exact ⟨⟨by simp [gI_sI], Or.inr (by simp [gI_sI])⟩, by simpa [gI_sI] using t2, by simpa [gI_sI] using t3, by simpa [gI_sI] using t4, by simpa [gI_sI] using t5, by simpa [gI_sI] using t6⟩
theorem m_below (h : RR z t σ τ) (x1 x2 : Int32) : ∃ r, X9_below z x1 x2 σ = some r ∧ X10_below x1 x2 τ = some r := by
  obtain ⟨own, pn, lc, la, od, ns, h⟩ := h
  exact s_below z x1 x2 h.1 (fun q => (h.2.1 q).1)
theorem m_sample (h : RR z t σ τ) (x1 x2 : Int32) : ∃ r σ' τ', X9_sample z x1 x2 σ = some (r, σ') ∧ X10_sample x1 x2 τ = some (r, τ') ∧ RR z t σ' τ' := by
  obtain ⟨own, pn, lc, la, od, ns, h⟩ := h
  rcases s_sample z x1 x2 h.1 h.2.2.2.1 with ⟨r, e1, e2⟩ | ⟨c, hc, hn, ho, hz, e1, e2⟩
  · exact ⟨r, σ, τ, e1, e2, own, pn, lc, la, od, ns, h⟩
  · obtain ⟨h1, h2, h3, h4, h5, h6, h7, h8, h9, h10, h11, h12, h13⟩ := h
    have a : ag (fun k _ _ => k = 350 ∨ k = 351 ∨ k = 352) σ (nS σ ns (nI c) x2) := ag_t (ag_t (ag_sI (by omega)) (ag_sI (by omega))) (ag_sI (by omega))
    have b : ag (fun k _ i => k = 500 ∧ i = 5 ∨ k = 507 ∨ k = 508) τ (nSM τ ns (nI c) x2) := ag_t (ag_t (ag_sI (by omega)) (ag_sI (by omega))) (ag_sI (by omega))
    have e4 : gI (nSM τ ns (nI c) x2) 500 0 4 = gI τ 500 0 4 := agI b (by omega)
    refine ⟨nI ns, _, _, e1, e2, own, pn, lc, la, od, ns + 1, rT_ag h1 a b (fun k n i q => by omega) (fun k n i q => by omega), fun q => ⟨rB_ag (h2 ho).1 a b (fun k n i q => by omega) (fun k n i q => by omega), rO_ag (h2 ho).2 b (fun k n i q => by omega)⟩, fun q => h3 (by rw [← e4]; exact q), rS_new h4 hn hc x2, ?_, rF_ag h6 a b (fun k n i q => by omega) (fun k n i q => by omega), rH_ag h7 a b (fun k n i q => by omega) (fun k n i q => by omega), rQ_ag h8 b (fun k n i q => by omega), fun f hf => rL1_ag (h9 f hf) a b (fun k n i q => by omega) (fun k n i q => by omega), rV_ag h10 a b (fun k n i q => by omega) (fun k n i q => by omega), rK_ag h11 a b (fun k n i q => by omega) (fun k n i q => by omega), fun g hg => rM1_ag (h12 g hg) a b (fun k n i q => by omega) (fun k n i q => by omega), rN_ag h13 b (fun k n i q => by omega)⟩
    intro i hi
    obtain ⟨q1, q2⟩ := rA_ag h5 a b (fun k n i q => by omega) (fun k n i q => by omega) i hi
    exact ⟨q1, q2.imp id (fun ⟨s, hs, e⟩ => ⟨s, by omega, e⟩)⟩
theorem m_of (h : RR z t σ τ) (x1 x2 : Int32) : ∃ r, X9_of z x1 x2 σ = some r ∧ X10_of x1 x2 τ = some r := by
  obtain ⟨own, pn, lc, la, od, ns, h⟩ := h
  exact s_of z x1 x2 h.2.2.2.1
theorem m_samples (h : RR z t σ τ) : ∃ r, X9_samples z σ = some r ∧ X10_samples τ = some r := by
  obtain ⟨own, pn, lc, la, od, ns, h⟩ := h
  exact s_samples z h.2.2.2.1
theorem m_about (h : RR z t σ τ) (x1 x2 : Int32) : ∃ r, X9_about z x1 x2 σ = some r ∧ X10_about x1 x2 τ = some r := by
  obtain ⟨own, pn, lc, la, od, ns, h⟩ := h
  exact s_about h.2.2.2.2.2.1 h.2.2.2.2.2.2.1 x1 x2
theorem m_dominates (h : RR z t σ τ) (x1 x2 : Int32) : ∃ r, X9_dominates z x1 x2 σ = some r ∧ X10_dominates x1 x2 τ = some r := by
  obtain ⟨own, pn, lc, la, od, ns, h⟩ := h
  exact s_dominates ((RQ_C2 h).imp id (fun q => q.1)) h.2.2.2.2.2.2.2.1 h.2.2.2.2.2.1 h.2.2.2.2.2.2.1 x1 x2
theorem m_order (h : RR z t σ τ) (x1 x2 : Int32) : ∃ r τ', X9_order z x1 x2 σ = some r ∧ X10_order x1 x2 τ = some (r, τ') ∧ RR z t σ τ' := by
  obtain ⟨own, pn, lc, la, od, ns, h⟩ := h
  obtain ⟨r, τ', e1, e2, a⟩ := s_order ((RQ_C h).imp id (fun q => q.1)) h.2.2.2.2.2.2.2.1 h.2.2.2.2.2.1 h.2.2.2.2.2.2.1 h.2.2.2.2.2.2.2.2.1 x1 x2
  exact ⟨r, τ', e1, e2, own, pn, lc, la, od, ns, RQ_ag h (ag_r (D := fun _ _ _ => False) σ) a (fun k n i q => q.elim) (fun k n i q => by unfold DG at q; omega)⟩
theorem m_arg (h : RR z t σ τ) (x1 x2 : Int32) : ∃ r σ' τ', X9_arg z x1 x2 σ = some (r, σ') ∧ X10_arg x1 x2 τ = some (r, τ') ∧ RR z t σ' τ' := by
  obtain ⟨own, pn, lc, la, od, ns, h⟩ := h
  rcases s_arg z x1 x2 h.2.2.2.1 with ⟨r, e1, e2⟩ | ⟨i, s, hi, hs, e1, e2⟩
  · exact ⟨r, σ, τ, e1, e2, own, pn, lc, la, od, ns, h⟩
  · obtain ⟨h1, h2, h3, h4, h5, h6, h7, h8, h9, h10, h11, h12, h13⟩ := h
    have a : ag (fun k _ _ => k = 455) σ (sI σ 455 0 i (nI s)) := ag_sI rfl
    have b : ag (fun k _ _ => k = 525) τ (sI τ 525 0 i (nI s)) := ag_sI rfl
    have e4 : gI (sI τ 525 0 i (nI s)) 500 0 4 = gI τ 500 0 4 := agI b (by omega)
    exact ⟨1, _, _, e1, e2, own, pn, lc, la, od, ns, rT_ag h1 a b (fun k n i q => by omega) (fun k n i q => by omega), fun q => ⟨rB_ag (h2 (by rw [← e4]; exact q)).1 a b (fun k n i q => by omega) (fun k n i q => by omega), rO_ag (h2 (by rw [← e4]; exact q)).2 b (fun k n i q => by omega)⟩, fun q => h3 (by rw [← e4]; exact q), rS_ag h4 a b (fun k n i q => by omega) (fun k n i q => by omega), rA_arg h5 hs, rF_ag h6 a b (fun k n i q => by omega) (fun k n i q => by omega), rH_ag h7 a b (fun k n i q => by omega) (fun k n i q => by omega), rQ_ag h8 b (fun k n i q => by omega), fun f hf => rL1_ag (h9 f hf) a b (fun k n i q => by omega) (fun k n i q => by omega), rV_ag h10 a b (fun k n i q => by omega) (fun k n i q => by omega), rK_ag h11 a b (fun k n i q => by omega) (fun k n i q => by omega), fun g hg => rM1_ag (h12 g hg) a b (fun k n i q => by omega) (fun k n i q => by omega), rN_ag h13 b (fun k n i q => by omega)⟩
theorem m_freeze (h : RR z t σ τ) (x1 x2 : Int32) (hx : x2 = 0 ∨ x2 = 1) : ∃ r σ' τ', X9_freeze z x1 x2 σ = some (r, σ') ∧ X10_freeze x1 x2 τ = some (r, τ') ∧ RR z t σ' τ' := by
  obtain ⟨own, pn, lc, la, od, ns, h⟩ := h
  rcases s_freeze h.2.2.2.2.2.1 x1 x2 hx with ⟨r, e1, e2⟩ | ⟨r, f, v, hf, e1, e2, hv⟩
  · exact ⟨r, σ, τ, e1, e2, own, pn, lc, la, od, ns, h⟩
  · obtain ⟨h1, h2, h3, h4, h5, h6, h7, h8, h9, h10, h11, h12, h13⟩ := h
    have a : ag (fun k n i => k = 50 ∧ n = f ∧ i = 9) σ v := by
      rcases hv with ⟨rfl, -⟩ | rfl
      · exact ag_r _
      · exact ag_sI ⟨rfl, rfl, rfl⟩
    have b : ag (fun k _ i => k = 511 ∧ i = f) τ (sI τ 511 0 f x2) := ag_sI ⟨rfl, rfl⟩
    have e4 : gI (sI τ 511 0 f x2) 500 0 4 = gI τ 500 0 4 := agI b (by omega)
    have ev : gI v 50 f 9 = x2 := by
      rcases hv with ⟨rfl, q⟩ | rfl
      · exact q
      · simp [gI_sI]
    refine ⟨r, _, _, e1, e2, own, pn, lc, la, od, ns, rT_ag h1 a b (fun k n i q => by omega) (fun k n i q => by omega), fun q => ⟨rB_ag (h2 (by rw [← e4]; exact q)).1 a b (fun k n i q => by omega) (fun k n i q => by omega), rO_ag (h2 (by rw [← e4]; exact q)).2 b (fun k n i q => by omega)⟩, fun q => h3 (by rw [← e4]; exact q), rS_ag h4 a b (fun k n i q => by omega) (fun k n i q => by omega), rA_ag h5 a b (fun k n i q => by omega) (fun k n i q => by omega), ?_, rH_ag h7 a b (fun k n i q => by omega) (fun k n i q => by omega), rQ_ag h8 b (fun k n i q => by omega), fun f hf => rL1_ag (h9 f hf) a b (fun k n i q => by omega) (fun k n i q => by omega), rV_ag h10 a b (fun k n i q => by omega) (fun k n i q => by omega), rK_ag h11 a b (fun k n i q => by omega) (fun k n i q => by omega), fun g hg => rM1_ag (h12 g hg) a b (fun k n i q => by omega) (fun k n i q => by omega), rN_ag h13 b (fun k n i q => by omega)⟩
    obtain ⟨f1, f2, f3, f4⟩ := h6
    refine ⟨f1, (agI a (by omega)).trans f2, (agI b (by omega)).trans f3, fun g hg => ?_⟩
    obtain ⟨g1, g2, g3, g4, g5, g6, g7⟩ := f4 g hg
    refine ⟨(agR a (by omega)).trans g1, (agI a (by omega)).trans g2, g3, (agI a (by omega)).trans g4, (agI b (by omega)).trans g5, ?_⟩
    by_cases q : g = f
    · subst q
      rw [ev, gI_sI, if_pos ⟨rfl, rfl, rfl⟩]
      exact ⟨rfl, hx⟩
    · rw [agI a (by omega), agI b (by omega)]
      exact ⟨g6, g7⟩
theorem m_value (h : RR z t σ τ) : ∃ r, X9_value z σ = some r ∧ X10_value τ = some r := by
  obtain ⟨own, pn, lc, la, od, ns, h⟩ := h
  exact s_value z h.2.2.2.2.2.2.2.2.2.1
theorem m_failure (h : RR z t σ τ) : ∃ r, X9_failure z σ = some r ∧ X10_failure τ = some r := by
  obtain ⟨own, pn, lc, la, od, ns, h⟩ := h
  exact s_failure z h.2.2.2.2.2.2.2.2.2.1
theorem m_step (h : RR z t σ τ) (x1 : Int32) : ∃ r, X9_step z x1 σ = some r ∧ X10_step x1 τ = some r := by
  obtain ⟨own, pn, lc, la, od, ns, h⟩ := h
  exact s_step z x1 h.2.2.2.2.2.2.2.2.2.1
theorem m_where (h : RR z t σ τ) : ∃ r, X9_where z σ = some r ∧ X10_where τ = some r := by
  obtain ⟨own, pn, lc, la, od, ns, h⟩ := h
  exact s_where z h.2.2.2.2.2.2.2.2.2.1
theorem m_counter (h : RR z t σ τ) (x1 : Int32) : ∃ r, X9_counter z x1 σ = some r ∧ X10_counter x1 τ = some r := by
  obtain ⟨own, pn, lc, la, od, ns, h⟩ := h
  exact s_counter z x1 h.2.2.2.2.2.2.2.2.2.2.1
theorem m_applicable (h : RR z t σ τ) (x1 x2 : Int32) : ∃ r σ' τ', X9_applicable z x1 x2 σ = some (r, σ') ∧ X10_applicable x1 x2 τ = some (r, τ') ∧ RR z t σ' τ' := by
  obtain ⟨own, pn, lc, la, od, ns, h⟩ := h
  obtain ⟨r, σ', τ', e1, e2, a, b⟩ := s_applicable (RQ_C h) h.2.2.2.2.2.1 h.2.2.2.1 h.2.2.2.2.1 x1 x2
  exact ⟨r, σ', τ', e1, e2, own, pn, lc, la, od, ns, RQ_ag h a b (fun k n i q => by unfold DRC at q; omega) (fun k n i q => by unfold DRM at q; omega)⟩
theorem m_most (h : RR z t σ τ) (x1 : Int32) : ∃ r σ' τ', X9_most z x1 σ = some (r, σ') ∧ X10_most x1 τ = some (r, τ') ∧ RR z t σ' τ' := by
  obtain ⟨own, pn, lc, la, od, ns, h⟩ := h
  obtain ⟨r, σ', τ', e1, e2, a, b⟩ := s_most (RQ_C h) h.2.2.2.2.2.1 h.2.2.2.1 h.2.2.2.2.1 x1
  exact ⟨r, σ', τ', e1, e2, own, pn, lc, la, od, ns, RQ_ag h a b (fun k n i q => by unfold DRC at q; omega) (fun k n i q => by unfold DRM at q; omega)⟩
theorem m_covered (h : RR z t σ τ) (x1 : Int32) : ∃ r σ' τ', X9_covered z x1 σ = some (r, σ') ∧ X10_covered x1 τ = some (r, τ') ∧ RR z t σ' τ' := by
  obtain ⟨own, pn, lc, la, od, ns, h⟩ := h
  obtain ⟨r, σ', τ', e1, e2, a, b⟩ := s_covered (RQ_C h) h.2.2.2.2.2.1 h.1 x1
  exact ⟨r, σ', τ', e1, e2, own, pn, lc, la, od, ns, RQ_ag h a b (fun k n i q => by unfold DHC at q; omega) (fun k n i q => by unfold DHM at q; omega)⟩
theorem m_hole (h : RR z t σ τ) (x1 x2 : Int32) : ∃ r σ' τ', X9_hole z x1 x2 σ = some (r, σ') ∧ X10_hole x1 x2 τ = some (r, τ') ∧ RR z t σ' τ' := by
  obtain ⟨own, pn, lc, la, od, ns, h⟩ := h
  obtain ⟨r, σ', τ', e1, e2, a, b⟩ := s_hole (RQ_C h) h.2.2.2.2.2.1 h.1 x1 x2
  exact ⟨r, σ', τ', e1, e2, own, pn, lc, la, od, ns, RQ_ag h a b (fun k n i q => by unfold DHC at q; omega) (fun k n i q => by unfold DHM at q; omega)⟩
theorem m_doubt (h : RR z t σ τ) (x1 x2 x3 : Int32) : ∃ r σ' τ', X9_doubt z x1 x2 x3 σ = some (r, σ') ∧ X10_doubt x1 x2 x3 τ = some (r, τ') ∧ RR z t σ' τ' := by
  obtain ⟨own, pn, lc, la, od, ns, h⟩ := h
  obtain ⟨r, σ', τ', e1, e2, a, b⟩ := s_doubt (RQ_C h) h.2.2.2.2.2.1 h.1 x1 x2 x3
  exact ⟨r, σ', τ', e1, e2, own, pn, lc, la, od, ns, RQ_ag h a b (fun k n i q => by unfold DHC at q; omega) (fun k n i q => by unfold DHM at q; omega)⟩
theorem m_count (h : RR z t σ τ) (x1 x2 : Int32) : ∃ r, X9_count z x1 x2 σ = some r ∧ X10_count x1 x2 τ = some r := by
  obtain ⟨own, pn, lc, la, od, ns, h⟩ := h
  refine s_count h.2.2.2.2.2.1 h.2.2.2.2.2.2.1 h.2.2.2.2.2.2.2.2.1 h.1 h.2.2.2.2.2.2.2.2.2.1 (fun f hf => ?_) x1 x2
  obtain ⟨h0, m, k, π, ρ, u, -, -, s5, t5, -⟩ := h.2.2.2.2.2.2.2.2.2.2.2.1 f hf
  exact ⟨h0, by rw [s5, t5]⟩
theorem m_explain (h : RR z t σ τ) (x1 : Int32) : ∃ r σ' τ', X9_explain z x1 σ = some (r, σ') ∧ X10_explain x1 τ = some (r, τ') ∧ RR z t σ' τ' := by
  obtain ⟨own, pn, lc, la, od, ns, h⟩ := h
  obtain ⟨r, σ', τ', e1, e2, a, b, hw⟩ := s_explain (RQ_C2 h) h.2.2.2.2.2.1 h.2.2.2.2.2.2.1 h.2.2.2.1 h.2.2.2.2.1 x1
  refine ⟨r, σ', τ', e1, e2, own, pn, lc, la, od, ns, ?_⟩
  obtain ⟨h1, h2, h3, h4, h5, h6, h7, h8, h9, h10, h11, h12, h13⟩ := h
  have e4 : gI τ' 500 0 4 = gI τ 500 0 4 := agI b (by unfold DEM; omega)
  refine ⟨rT_ag h1 a b (fun k n i q => by unfold DEC; omega) (fun k n i q => by unfold DEM; omega), fun q => ⟨rB_ag (h2 (by rw [← e4]; exact q)).1 a b (fun k n i q => by unfold DEC; omega) (fun k n i q => by unfold DEM; omega), rO_ag (h2 (by rw [← e4]; exact q)).2 b (fun k n i q => by unfold DEM; omega)⟩, fun q => h3 (by rw [← e4]; exact q), rS_ag h4 a b (fun k n i q => by unfold DEC; omega) (fun k n i q => by unfold DEM; omega), rA_ag h5 a b (fun k n i q => by unfold DEC; omega) (fun k n i q => by unfold DEM; omega), rF_ag h6 a b (fun k n i q => by unfold DEC; omega) (fun k n i q => by unfold DEM; omega), rH_ag h7 a b (fun k n i q => by unfold DEC; omega) (fun k n i q => by unfold DEM; omega), rQ_ag h8 b (fun k n i q => by unfold DEM; omega), fun f hf => rL1_ag (h9 f hf) a b (fun k n i q => by unfold DEC; omega) (fun k n i q => by unfold DEM; omega), ?_, rK_ag h11 a b (fun k n i q => by unfold DEC; omega) (fun k n i q => by unfold DEM; omega), fun g hg => rM1_ag (h12 g hg) a b (fun k n i q => by unfold DEC; omega) (fun k n i q => by unfold DEM; omega), rN_ag h13 b (fun k n i q => by unfold DEM; omega)⟩
  have g1 : ∀ i, gI σ' 150 0 i = gI σ 150 0 i := fun i => agI a (by unfold DEC; omega)
  have g2 : ∀ i, gL σ' 150 0 i = gL σ 150 0 i := fun i => agL a (by unfold DEC; omega)
  have g3 : ∀ i, gI σ' 151 0 i = gI σ 151 0 i := fun i => agI a (by unfold DEC; omega)
  have f1 : gI τ' 500 0 25 = gI τ 500 0 25 := agI b (by unfold DEM; omega)
  have f2 : gL τ' 500 0 26 = gL τ 500 0 26 := agL b (by unfold DEM; omega)
  have f3 : gI τ' 500 0 27 = gI τ 500 0 27 := agI b (by unfold DEM; omega)
  have f4 : gI τ' 500 0 29 = gI τ 500 0 29 := agI b (by unfold DEM; omega)
  have f5 : gI τ' 500 0 30 = gI τ 500 0 30 := agI b (by unfold DEM; omega)
  have f7 : ∀ i, gI τ' 529 0 i = gI τ 529 0 i := fun i => agI b (by unfold DEM; omega)
  have h33 := hw h10.2.2.2.1
  unfold rV at h10 ⊢
  simp only [g1, g2, g3, f1, f2, f3, f4, f5, f7]
  exact ⟨h10.1, h10.2.1, h10.2.2.1, h33, h10.2.2.2.2⟩
end MM

section MM2
variable {z : Nat × Nat} {t : Nat} {σ τ : PS}
/-- where two handlers' codes and ranges stay, so does which is more specific -/
theorem moP_c {τ τ' : PS} {h g : Nat} (h503 : ∀ i, gI τ' 503 0 i = gI τ 503 0 i) (c1 : ∀ i, i < 2 → cdP τ' h i = cdP τ h i ∧ lwP τ' h i = lwP τ h i ∧ hgP τ' h i = hgP τ h i) (c2 : ∀ i, i < 2 → cdP τ' g i = cdP τ g i ∧ lwP τ' g i = lwP τ g i ∧ hgP τ' g i = hgP τ g i) {p : Nat} (hp : p ≤ 2) : moP τ' p h g = moP τ p h g := by
  have s1 : ∀ i, i < 2 → smP τ' h g i = smP τ h g i := fun i hi => by
    obtain ⟨a1, a2, a3⟩ := c1 i hi
    obtain ⟨b1, b2, b3⟩ := c2 i hi
    unfold smP
    rw [a1, a2, a3, b1, b2, b3]
  have s2 : ∀ i, i < 2 → nrP τ' h g i = nrP τ h g i := fun i hi => by
    obtain ⟨a1, a2, a3⟩ := c1 i hi
    obtain ⟨b1, b2, b3⟩ := c2 i hi
    unfold nrP blP
    rw [a1, a2, a3, b1, b2, b3, s1 i hi, h503]
  rcases (show p = 0 ∨ p = 1 ∨ p = 2 by omega) with rfl | rfl | rfl
  · rfl
  · unfold moP allP anyP allP anyP
    rw [s1 0 (by omega), s2 0 (by omega)]
  · unfold moP allP anyP allP anyP allP anyP
    rw [s1 0 (by omega), s2 0 (by omega), s1 1 (by omega), s2 1 (by omega)]
/-- a handler that isn't laid has other codes or ranges -/
theorem RQ_h {own pn : Nat → Nat} {lc : Nat → Nat} {la od : Nat → Nat → Nat} {ns : Nat} {D E : Nat → Nat → Nat → Prop} {σ' τ' : PS} (h : RQ z own pn lc la od ns t σ τ) {g : Nat} (hg : g < z.2) (h0 : gI τ 520 0 g = 0) (a : ag D σ σ') (b : ag E τ τ') (hD : ∀ k n i, D k n i → k = 106 ∨ k = 107 ∨ k = 108) (hE : ∀ k n i, E k n i → (k = 521 ∨ k = 522 ∨ k = 523) ∧ (i = 2 * g ∨ i = 2 * g + 1)) (hH : rH z own pn σ' τ') (hQ : rQ z.2 τ') : RQ z own pn lc la od ns t σ' τ' := by
  obtain ⟨h1, h2, h3, h4, h5, h6, h7, h8, h9, h10, h11, h12, h13⟩ := h
  have hD' : ∀ k n i, ¬ (k = 106 ∨ k = 107 ∨ k = 108) → ¬ D k n i := fun k n i q r => q (hD k n i r)
  have hE' : ∀ k n i, ¬ ((k = 521 ∨ k = 522 ∨ k = 523) ∧ (i = 2 * g ∨ i = 2 * g + 1)) → ¬ E k n i := fun k n i q r => q (hE k n i r)
  have e4 : gI τ' 500 0 4 = gI τ 500 0 4 := agI b (hE' _ _ _ (by omega))
  refine ⟨rT_ag h1 a b (fun k n i q => hD' k n i (by omega)) (fun k n i q => hE' k n i (by omega)), fun q => ⟨rB_ag (h2 (by rw [← e4]; exact q)).1 a b (fun k n i q => hD' k n i (by omega)) (fun k n i q => hE' k n i (by omega)), rO_ag (h2 (by rw [← e4]; exact q)).2 b (fun k n i q => hE' k n i (by omega))⟩, fun q => h3 (by rw [← e4]; exact q), rS_ag h4 a b (fun k n i q => hD' k n i (by omega)) (fun k n i q => hE' k n i (by omega)), rA_ag h5 a b (fun k n i q => hD' k n i (by omega)) (fun k n i q => hE' k n i (by omega)), rF_ag h6 a b (fun k n i q => hD' k n i (by omega)) (fun k n i q => hE' k n i (by omega)), hH, hQ, fun f hf => ?_, rV_ag h10 a b (fun k n i q => hD' k n i (by omega)) (fun k n i q => hE' k n i (by omega)), rK_ag h11 a b (fun k n i q => hD' k n i (by omega)) (fun k n i q => hE' k n i (by omega)), fun g hg => rM1_ag (h12 g hg) a b (fun k n i q => hD' k n i (by omega)) (fun k n i q => hE' k n i (by omega)), rN_ag h13 b (fun k n i q => hE' k n i (by omega))⟩
  obtain ⟨l1, l2, l3, l4, l5, l6, l7⟩ := h9 f hf
  obtain ⟨-, -, ⟨-, p2⟩, -⟩ := h6.2.2.2 f hf
  have hld : ∀ f x, ldP own τ' f x = ldP own τ f x := fun f x => ldP_ag b (fun k n i q => hE' k n i (by omega)) f x
  have hpl : ∀ x, plP τ' x = plP τ x := fun x => plP_ag b (fun k n i q => hE' k n i (by omega)) x
  have hne : ∀ i, i < lc f → ¬ la f i = g := fun i hi q => by
    have := (l3 _ (l1.2.2 i hi).2).mpr ⟨i, hi, rfl⟩
    unfold ldP at this
    rw [q, h0] at this
    simp at this
  have hk : ∀ x, ¬ x = g → ∀ i, i < 2 → cdP τ' x i = cdP τ x i ∧ lwP τ' x i = lwP τ x i ∧ hgP τ' x i = hgP τ x i := fun x hx i hi => ⟨agI b (hE' _ _ _ (by omega)), agI b (hE' _ _ _ (by omega)), agI b (hE' _ _ _ (by omega))⟩
  have hmo : ∀ i j, i < lc f → j < lc f → moP τ' (pn f) (la f i) (la f j) = moP τ (pn f) (la f i) (la f j) := fun i j hi hj => moP_c (fun i => agI b (hE' _ _ _ (by omega))) (hk _ (hne i hi)) (hk _ (hne j hj)) p2
  refine ⟨rLd_ag l1 a (fun k n i q => hD' k n i (by omega)), l2, fun x hx => by rw [hld]; exact l3 x hx, ?_, fun i hi => ?_, ?_, fun k hk' => (agI a (hD' _ _ _ (by omega))).trans (l7 k hk')⟩
  · rw [agI a (hD' _ _ _ (by omega)), l4]; simp only [hpl]
  · rw [agI a (hD' _ _ _ (by omega)), l5 i hi]
    exact mkS_congr (fun j hj => (hmo i j hi hj).symm)
  · intro k hk'
    obtain ⟨o1, o2, o3, o4⟩ := l6 k hk'
    refine ⟨o1, o2, fun i hi hl => ?_, fun i hi hl => ?_⟩
    · show moP τ' (pn f) (la f i) (la f (od f k)) = false
      rw [hmo i _ hi o1]; exact o3 i hi hl
    · obtain ⟨x, x1, x2, x3⟩ := o4 i hi hl
      refine ⟨x, x1, x2, ?_⟩
      show moP τ' (pn f) (la f x) (la f i) = true
      rw [hmo x i x1 (by omega)]; exact x3
theorem m_place (h : RR z t σ τ) (x1 x2 x3 : Int32) : ∃ r σ' τ', X9_place z x1 x2 x3 σ = some (r, σ') ∧ X10_place x1 x2 x3 τ = some (r, τ') ∧ RR z t σ' τ' := by
  obtain ⟨own, pn, lc, la, od, ns, h⟩ := h
  have hF := h.2.2.2.2.2.1
  have hH := h.2.2.2.2.2.2.1
  rcases s_place hF hH x1 x2 x3 with ⟨r, e1, e2⟩ | ⟨g, i, hg, hi, h0, hv, e1, e2⟩
  · exact ⟨r, σ, τ, e1, e2, own, pn, lc, la, od, ns, h⟩
  · obtain ⟨-, -, ⟨-, p2⟩, -⟩ := hF.2.2.2 (own g) (hH.2.2.2 g hg).1.2.1
    refine ⟨1, _, _, e1, e2, own, pn, lc, la, od, ns, RQ_h h hg h0 (ag_sI (D := fun k _ _ => k = 106) rfl) (ag_sI (D := fun k _ x => k = 521 ∧ (x = 2 * g ∨ x = 2 * g + 1)) ⟨rfl, by omega⟩) (fun k n i q => by omega) (fun k n i q => by omega) (rH_place hF hH hg hi hv) ?_⟩
    intro x j hx hj
    unfold cdP
    rw [gI_sI]
    by_cases q : 521 = 521 ∧ 0 = 0 ∧ 2 * x + j = 2 * g + i
    · rw [if_pos q]; exact hv
    · rw [if_neg q]; exact h.2.2.2.2.2.2.2.1 x j hx hj
theorem m_test (h : RR z t σ τ) (x1 x2 x3 x4 : Int32) : ∃ r σ' τ', X9_test z x1 x2 x3 x4 σ = some (r, σ') ∧ X10_test x1 x2 x3 x4 τ = some (r, τ') ∧ RR z t σ' τ' := by
  obtain ⟨own, pn, lc, la, od, ns, h⟩ := h
  have hF := h.2.2.2.2.2.1
  have hH := h.2.2.2.2.2.2.1
  rcases s_test hF hH x1 x2 x3 x4 with ⟨r, e1, e2⟩ | ⟨g, i, hg, hi, h0, -, e1, e2⟩
  · exact ⟨r, σ, τ, e1, e2, own, pn, lc, la, od, ns, h⟩
  · obtain ⟨-, -, ⟨-, p2⟩, -⟩ := hF.2.2.2 (own g) (hH.2.2.2 g hg).1.2.1
    have b : ag (fun k _ x => (k = 522 ∨ k = 523) ∧ (x = 2 * g ∨ x = 2 * g + 1)) τ (sI (sI τ 522 0 (2 * g + i) x3) 523 0 (2 * g + i) x4) := ag_t (ag_sI (by omega)) (ag_sI (by omega))
    exact ⟨1, _, _, e1, e2, own, pn, lc, la, od, ns, RQ_h h hg h0 (ag_t (ag_sI (D := fun k _ _ => k = 107 ∨ k = 108) (by omega)) (ag_sI (by omega))) b (fun k n i q => by omega) (fun k n i q => by omega) (rH_test hF hH hg hi) (rQ_ag h.2.2.2.2.2.2.2.1 b (fun k n i q => by omega))⟩
/-- nothing is remembered any more -/
theorem rM1_0 {p f : Nat} {σ' τ' : PS} (h : rM1 p f t σ τ) (e6 : gI σ' 200 f 6 = gI σ 200 f 6) (e4 : gI σ' 200 f 4 = gI σ 200 f 4) (f6 : gI τ' 512 0 f = gI τ 512 0 f) (s5 : gI σ' 200 f 5 = 0) (t5 : gI τ' 514 0 f = 0) : rM1 p f t σ' τ' := by
  obtain ⟨h0, m, k, π, ρ, u, hm, hk, -, -, s4, -⟩ := h
  exact ⟨by rw [e6, f6, h0], 0, k, π, ρ, u, by omega, hk, s5, t5, by rw [e4, s4], fun j hj => by omega, fun j hj => by omega, fun i j _ hj => by omega, fun i j hi => by omega⟩
theorem m_ll {own pn : Nat → Nat} {lc : Nat → Nat} {la od : Nat → Nat → Nat} {ns : Nat} (h : RQ z own pn lc la od ns t σ τ) {g : Nat} {v : Int32} {σ' : PS} {lc' : Nat → Nat} {la' od' : Nat → Nat → Nat} (hg : g < z.2) (a : ag (DL (own g) g) σ σ') (h5' : gI σ' 200 (own g) 5 = 0) (hC : CR z own pn lc' la' od' σ' (sI (sI τ 520 0 g v) 514 0 (own g) 0)) : RR z t σ' (sI (sI τ 520 0 g v) 514 0 (own g) 0) := by
  obtain ⟨h1, h2, h3, h4, h5, h6, h7, h8, h9, h10, h11, h12, h13⟩ := h
  have b : ag (fun k _ i => k = 520 ∧ i = g ∨ k = 514 ∧ i = own g) τ (sI (sI τ 520 0 g v) 514 0 (own g) 0) := ag_t (ag_sI (by omega)) (ag_sI (by omega))
  have hog := (h7.2.2.2 g hg).1.2.1
  have e4 : gI (sI (sI τ 520 0 g v) 514 0 (own g) 0) 500 0 4 = gI τ 500 0 4 := agI b (by omega)
  refine ⟨own, pn, lc', la', od', ns, rT_ag h1 a b (fun k n i q => by unfold DL; omega) (fun k n i q => by omega), fun _ => ⟨hC.1, hC.2.1⟩, fun q => h3 (by rw [← e4]; exact q), rS_ag h4 a b (fun k n i q => by unfold DL; omega) (fun k n i q => by omega), rA_ag h5 a b (fun k n i q => by unfold DL; omega) (fun k n i q => by omega), hC.2.2.2.1, hC.2.2.2.2.1, hC.2.2.1, hC.2.2.2.2.2, rV_ag h10 a b (fun k n i q => by unfold DL; omega) (fun k n i q => by omega), rK_ag h11 a b (fun k n i q => by unfold DL; omega) (fun k n i q => by omega), fun f hf => ?_, rN_ag h13 b (fun k n i q => by omega)⟩
  by_cases q : f = own g
  · subst q
    exact rM1_0 (h12 _ hf) (agI a (by unfold DL; omega)) (agI a (by unfold DL; omega)) (agI b (by omega)) h5' (by simp [gI_sI])
  · exact rM1_ag (h12 f hf) a b (fun k n i r => by unfold DL; omega) (fun k n i r => by omega)
theorem m_lay (h : RR z t σ τ) (x1 : Int32) : ∃ r σ' τ', X9_lay z x1 σ = some (r, σ') ∧ X10_lay x1 τ = some (r, τ') ∧ RR z t σ' τ' := by
  obtain ⟨own, pn, lc, la, od, ns, h⟩ := h
  rcases s_lay (RQ_C2 h) h.2.2.2.2.2.2.1 x1 with ⟨r, e1, e2⟩ | ⟨g, σ', lc', la', od', hg, e1, e2, a, h5, hC⟩
  · exact ⟨r, σ, τ, e1, e2, own, pn, lc, la, od, ns, h⟩
  · exact ⟨1, _, _, e1, e2, m_ll h hg a h5 hC⟩
theorem m_lift (h : RR z t σ τ) (x1 : Int32) : ∃ r σ' τ', X9_lift z x1 σ = some (r, σ') ∧ X10_lift x1 τ = some (r, τ') ∧ RR z t σ' τ' := by
  obtain ⟨own, pn, lc, la, od, ns, h⟩ := h
  rcases s_lift (RQ_C2 h) h.2.2.2.2.2.2.1 x1 with ⟨r, e1, e2⟩ | ⟨g, σ', lc', la', od', hg, e1, e2, a, h5, hC⟩
  · exact ⟨r, σ, τ, e1, e2, own, pn, lc, la, od, ns, h⟩
  · exact ⟨1, _, _, e1, e2, m_ll h hg a h5 hC⟩
theorem m_call (h : RR z t σ τ) (ht : t + 12 < 2 ^ 30) (x1 : Int32) : ∃ r σ' τ', X9_call z x1 σ = some (r, σ') ∧ X10_call x1 τ = some (r, τ') ∧ RR z (t + 12) σ' τ' := by
  obtain ⟨own, pn, lc, la, od, ns, h⟩ := h
  rcases s_call (RQ_C h) h.2.2.2.2.2.1 h.2.2.2.1 h.2.2.2.2.1 h.2.2.2.2.2.2.2.2.2.2.1 h.2.2.2.2.2.2.2.2.2.2.2.1 ht x1 with ⟨r, σ', τ', e1, e2, a, b⟩ | ⟨o, ns', t', sc, σ', τ', e1, e2, o1, o2, o3, n1, n2, n3, hR, hd, a, b⟩
  · obtain ⟨h1, h2, h3, h4, h5, h6, h7, h8, h9, h10, h11, h12, h13⟩ := RQ_ag h a b (fun k n i q => by unfold DRC at q; omega) (fun k n i q => by unfold DRM at q; omega)
    exact ⟨r, σ', τ', e1, e2, own, pn, lc, la, od, ns, h1, h2, h3, h4, h5, h6, h7, h8, h9, h10, h11, fun g hg => rM1_t (h12 g hg) (by omega), h13⟩
  · obtain ⟨h1, h2, h3, h4, h5, h6, h7, h8, h9, h10, h11, h12, h13⟩ := h
    obtain ⟨hC, hS, hK, hM, hSt, hSu⟩ := hR
    have e4 : gI τ' 500 0 4 = gI τ 500 0 4 := agI b (by unfold DKM; omega)
    refine ⟨o, σ', τ', e1, e2, own, pn, lc, la, od, ns', rT_ag h1 a b (fun k n i q => by unfold DKC; omega) (fun k n i q => by unfold DKM; omega), fun _ => ⟨hC.1, hC.2.1⟩, fun q => h3 (by rw [← e4]; exact q), hS, ?_, hC.2.2.2.1, hC.2.2.2.2.1, hC.2.2.1, hC.2.2.2.2.2, ?_, hK, fun g hg => rM1_t (hM g hg) (by omega), rN_ag h13 b (fun k n i q => by unfold DKM; omega)⟩
    · intro i hi
      obtain ⟨q1, q2⟩ := rA_ag h5 a b (fun k n i q => by unfold DKC; omega) (fun k n i q => by unfold DKM; omega) i hi
      exact ⟨q1, q2.imp id (fun ⟨s, hs, e⟩ => ⟨s, by omega, e⟩)⟩
    · refine ⟨Or.inl (o1.trans o2.symm), fun _ => hSu, fun q => o3 (o2.symm.trans q), ?_, hd, sc, by omega, hSt.1, hSt.2.1, hSt.2.2⟩
      rw [agI a (by unfold DKC; omega), agI b (by unfold DKM; omega)]
      exact h10.2.2.2.1
end MM2

/-! ===== covered() and hole() ===== -/
def DHC : Nat → Nat → Nat → Prop := fun k _ _ => k = 0 ∨ k = 1 ∨ k = 2 ∨ k = 3 ∨ k = 5 ∨ k = 6 ∨ k = 250
def DHM : Nat → Nat → Nat → Prop := fun k _ _ => k = 532 ∨ k = 533 ∨ k = 536 ∨ k = 537 ∨ k = 538 ∨ k = 539
theorem clS_ag {D : Nat → Nat → Nat → Prop} {n sz : Nat} {cl : Nat → Nat} {wt mk : Nat → Int32} {σ σ' : PS} (h : clS n sz cl wt mk σ) (a : ag D σ σ') (hD : ∀ k m i, m = n ∧ (k = 1 ∨ k = 2 ∨ k = 3 ∨ k = 0 ∧ i = 3) → ¬ D k m i) : clS n sz cl wt mk σ' := ⟨h.1, (agI a (hD _ _ _ (by omega))).trans h.2.1, fun k hk => ⟨(agI a (hD _ _ _ (by omega))).trans (h.2.2 k hk).1, (agI a (hD _ _ _ (by omega))).trans (h.2.2 k hk).2.1, (agI a (hD _ _ _ (by omega))).trans (h.2.2 k hk).2.2⟩⟩
theorem fillB {z : Nat × Nat} {σ τ : PS} {own pn : Nat → Nat} {lc : Nat → Nat} {la od : Nat → Nat → Nat} (hC : CR z own pn lc la od σ τ) (hT : rT σ τ) {f : Nat} (hf : f < z.1) : ∃ s0 cl0 wt0 mk0 s1 cl1 wt1 mk1 σ', X5_fillCells z f σ = some σ' ∧ clS 0 s0 cl0 wt0 mk0 σ' ∧ clS 1 s1 cl1 wt1 mk1 σ' ∧ ceOK (vcl τ) (mkP τ (lc f) (la f) 0) s0 cl0 wt0 mk0 ∧ ((pn f = 2 ∧ ceOK (vcl τ) (mkP τ (lc f) (la f) 1) s1 cl1 wt1 mk1) ∨ (pn f = 1 ∧ s1 = 1 ∧ cl1 0 = 0 ∧ wt1 0 = 0 ∧ mk1 0 = mkS (lc f) (fun x => plP τ (la f x)))) ∧ ag DHC σ σ' := by
  obtain ⟨-, -, ⟨p1, p2⟩, p3, -⟩ := hC.2.2.2.1.2.2.2 f hf
  obtain ⟨s0, cl0, wt0, mk0, σ1, a1, a2, a3, a4⟩ := fillC (n := 0) hC hT hf (show 0 < pn f by omega)
  have g1 : ag DHC σ σ1 := ag_m a4 (fun k n i q => by unfold DCn at q; unfold DHC; omega)
  have hC1 := CR_ag hC a4 (ag_r (D := fun _ _ _ => False) τ) (fun k n i q => by unfold DCn; omega) (fun k n i q => id)
  have hT1 := rT_ag hT a4 (ag_r (D := fun _ _ _ => False) τ) (fun k n i q => by unfold DCn; omega) (fun k n i q => id)
  unfold X5_fillCells
  rw [show (0 : Int32) = nI 0 from rfl, show (1 : Int32) = nI 1 from rfl, a1]
  simp only [Option.bind_some]
  rcases (show pn f = 1 ∨ pn f = 2 by omega) with e | e
  · obtain ⟨σ2, b1, b2, b3⟩ := fillO (z := z) (σ := σ1) (f := f) (i := 1) (n := 1) (p := 1) (by omega) (by rw [agI a4 (by unfold DCn; omega), p3, e]) (by omega) (by omega)
    have hpl : gI σ1 50 f 8 = mkS (lc f) (fun x => plP τ (la f x)) := (hC1.2.2.2.2.2 f hf).2.2.2.1
    exact ⟨s0, cl0, wt0, mk0, 1, _, _, _, σ2, by rw [b1]; rfl, clS_ag a2 b3 (fun k m i q => by unfold DCn; omega), b2, a3, Or.inr ⟨e, rfl, rfl, rfl, hpl⟩, ag_t g1 (ag_m b3 (fun k n i q => by unfold DCn at q; unfold DHC; omega))⟩
  · obtain ⟨s1, cl1, wt1, mk1, σ2, b1, b2, b3, b4⟩ := fillC (n := 1) hC1 hT1 hf (show 1 < pn f by omega)
    exact ⟨s0, cl0, wt0, mk0, s1, cl1, wt1, mk1, σ2, by rw [b1]; rfl, clS_ag a2 b4 (fun k m i q => by unfold DCn; omega), b2, a3, Or.inl ⟨e, b3⟩, ag_t g1 (ag_m b4 (fun k n i q => by unfold DCn at q; unfold DHC; omega))⟩
theorem isCh_c {lc : Nat} {S S' : Nat → Bool} {B : Nat → Nat → Bool} {i : Nat} (h : ∀ x, x < lc → S x = S' x) (hi : isCh lc S B i) : isCh lc S' B i := ⟨hi.1, by rw [← h i hi.1]; exact hi.2.1, fun j hj hs => hi.2.2 j hj (by rw [h j hj]; exact hs)⟩
theorem chP {z : Nat × Nat} {σ τ : PS} {own pn : Nat → Nat} {lc : Nat → Nat} {la od : Nat → Nat → Nat} (hC : CR z own pn lc la od σ τ) {f : Nat} (hf : f < z.1) {S S' : Nat → Bool} (h : ∀ x, x < lc f → S x = (S' x && plP τ (la f x))) : ∃ r, X1_chosenOf z f (mkS (lc f) S) σ = some r ∧ (r = -1 ↔ HOL τ (pn f) (lc f) (la f) S') := by
  have hL := hC.2.2.2.2.2 f hf
  have h8 := hL.1.1
  obtain ⟨r, r1, r2⟩ := chC z (S := S) hL.1.1 hL.1.2.1 hL.2.2.2.2.1
  refine ⟨r, r1, ?_⟩
  rcases r2 with ⟨q1, q2⟩ | ⟨j, q1, q2⟩
  · exact ⟨fun _ i hi => q2 i (isCh_c (fun x hx => (h x hx).symm) hi), fun _ => q1⟩
  · have := q1.1
    exact ⟨fun q => absurd (q2.symm.trans q) (nI_m1 (by omega)), fun q => absurd (isCh_c h q1) (q j)⟩
/-- the tuple told -/
theorem potC (z : Nat × Nat) {s0 s1 a b : Nat} {cl0 cl1 : Nat → Nat} {wt0 wt1 mk0 mk1 : Nat → Int32} {σ : PS} (h0 : clS 0 s0 cl0 wt0 mk0 σ) (h1 : clS 1 s1 cl1 wt1 mk1 σ) (ha : a < s0) (hb : b < s1) (e2 : gI σ 250 0 2 = nI a) (e3 : gI σ 250 0 3 = nI b) : X5_partOfTuple z (nI 0) σ = some (nI (cl0 a)) ∧ X5_partOfTuple z (nI 1) σ = some (nI (cl1 b)) ∧ X5_partOfTuple z (nI 2) σ = some (wt0 a) ∧ X5_partOfTuple z (nI 3) σ = some (wt1 b) := by
  have m0 := h0.1
  have m1 := h1.1
  unfold X5_partOfTuple
  rw [e2, e3, ib_nI (by omega), gd_d (by omega), ib_nI (by omega), gd_d (by omega), gd_d (by omega), gd_d (by omega), ix_nI (by omega), ix_nI (by omega), (h0.2.2 a ha).1, (h0.2.2 a ha).2.1, (h1.2.2 b hb).1, (h1.2.2 b hb).2.1]
  exact ⟨rfl, rfl, rfl, rfl⟩
theorem fHB {z : Nat × Nat} {σ τ : PS} {own pn : Nat → Nat} {lc : Nat → Nat} {la od : Nat → Nat → Nat} (hC : CR z own pn lc la od σ τ) (hT : rT σ τ) {f : Nat} (hf : f < z.1) : ∃ r σ' τ', X5_findHole z f σ = some (r, σ') ∧ X10_findHole (nI f) τ = some (r, τ') ∧ ag DHC σ σ' ∧ ag DHM τ τ' ∧ (r = 0 ∨ (r = 1 ∧ ∀ q, q < 4 → ∃ v, X5_partOfTuple z (nI q) σ' = some v ∧ gL τ' 539 0 q = v.toInt64)) := by
  have hfu := fuel_ge
  obtain ⟨hB, hO, hQ, hF, hH, hLL⟩ := id hC
  have hL := hLL f hf
  have hlc := hL.1.1
  have hf4 := hF.1
  obtain ⟨-, -, ⟨p1, p2⟩, p3, p4, -⟩ := hF.2.2.2 f hf
  obtain ⟨s0, cl0, wt0, mk0, s1, cl1, wt1, mk1, σ1, c1, c2, c3, c4, c5, c6⟩ := fillB hC hT hf
  have hC1 := CR_ag hC c6 (ag_r (D := fun _ _ _ => False) τ) (fun k n i q => by unfold DHC; omega) (fun k n i q => id)
  have eC : X5_findHole z f σ = X5_findHole_l7 z (fun σ => X5_findHole_c77 z σ) fuel f 0 σ1 := by
    unfold X5_findHole
    rw [c1]; rfl
  have endM' : ∀ (v2 : Int32) (τ1 : PS), (v2 = 0 ∨ v2 = 1) → ag DFT τ τ1 → ∃ τ2, X10_findHole_c28 (nI f) v2 τ1 = some (v2, τ2) ∧ ag DHM τ τ2 ∧ gL τ2 539 0 0 = (gI τ1 532 0 0).toInt64 ∧ gL τ2 539 0 1 = (if pn f = 2 then (gI τ1 532 0 1).toInt64 else 0) ∧ gL τ2 539 0 2 = gL τ1 533 0 0 ∧ gL τ2 539 0 3 = (if pn f = 2 then gL τ1 533 0 1 else 0) := fun v2 τ1 hv a => by
    obtain ⟨τ2, k1, k2, k3, k4, k5, k6⟩ := keepM (τ := τ1) (f := f) (p := pn f) (by omega) ⟨p1, p2⟩ (by rw [agI a (by unfold DFT; omega), p4])
    refine ⟨τ2, ?_, ag_t (ag_m a (fun k n i q => by unfold DFT at q; unfold DHM; omega)) (ag_m k2 (fun k n i q => by unfold DHM; omega)), k3, k4, k5, k6⟩
    unfold X10_findHole_c28
    rw [k1]
    rcases hv with rfl | rfl <;> rfl
  have agC : ∀ a b, ag DHC σ (sI (sI σ1 250 0 2 (nI a)) 250 0 3 (nI b)) := fun a b => ag_t c6 (ag_t (ag_sI (by unfold DHC; omega)) (ag_sI (by unfold DHC; omega)))
  have clC : ∀ a b, clS 0 s0 cl0 wt0 mk0 (sI (sI σ1 250 0 2 (nI a)) 250 0 3 (nI b)) ∧ clS 1 s1 cl1 wt1 mk1 (sI (sI σ1 250 0 2 (nI a)) 250 0 3 (nI b)) := fun a b => by
    have g : ag (fun k _ _ => k = 250) σ1 (sI (sI σ1 250 0 2 (nI a)) 250 0 3 (nI b)) := ag_t (ag_sI rfl) (ag_sI rfl)
    exact ⟨clS_ag c2 g (fun k m i q => by omega), clS_ag c3 g (fun k m i q => by omega)⟩
  have potB : ∀ a b, a < s0 → b < s1 → ∀ τ2 : PS, gL τ2 539 0 0 = (nI (cl0 a)).toInt64 → gL τ2 539 0 1 = (nI (cl1 b)).toInt64 → gL τ2 539 0 2 = (wt0 a).toInt64 → gL τ2 539 0 3 = (wt1 b).toInt64 → ∀ q, q < 4 → ∃ v, X5_partOfTuple z (nI q) (sI (sI σ1 250 0 2 (nI a)) 250 0 3 (nI b)) = some v ∧ gL τ2 539 0 q = v.toInt64 := fun a b ha hb τ2 e0 e1 e2 e3 q hq => by
    obtain ⟨x0, x1, x2, x3⟩ := potC z (clC a b).1 (clC a b).2 ha hb (by simp [gI_sI]) (by simp [gI_sI])
    rcases (show q = 0 ∨ q = 1 ∨ q = 2 ∨ q = 3 by omega) with rfl | rfl | rfl | rfl
    · exact ⟨_, x0, e0⟩
    · exact ⟨_, x1, e1⟩
    · exact ⟨_, x2, e2⟩
    · exact ⟨_, x3, e3⟩
  rw [eC]
  have eM : X10_findHole (nI f) τ = bp (X10_firstTuple (nI f) τ) (fun r1 σ1 => X10_findHole_l6 (fun v1 v2 σ => X10_findHole_c28 v1 v2 σ) fuel (nI f) r1 σ1) := rfl
  rw [eM]
  rcases c5 with ⟨ep, c5⟩ | ⟨ep, rfl, d1, d2, d3⟩
  · -- two places
    have hP : ∀ a b, a < s0 → b < s1 → ∃ r, X1_chosenOf z f (mk0 a &&& mk1 b) σ1 = some r ∧ (r = -1 ↔ Q2 τ (la f) (HOL τ (pn f) (lc f) (la f)) (cl0 a) (wt0 a) (cl1 b) (wt1 b)) := fun a b ha hb => by
      rw [(c4.1 a ha).2, (c5.1 b hb).2]
      unfold mkP
      rw [mkS_and (show lc f ≤ 32 by omega)]
      refine chP hC1 hf (fun x _ => ?_)
      rcases psP τ (la f) 0 (cl0 a) (wt0 a) x <;> rcases psP τ (la f) 1 (cl1 b) (wt1 b) x <;> rcases plP τ (la f x) <;> rfl
    have hPc : ∀ a b, a < s0 → b < s1 → (Q2 τ (la f) (HOL τ (pn f) (lc f) (la f)) (cl0 a) (wt0 a) (cl1 b) (wt1 b) ↔ Q2 τ (la f) (HOL τ (pn f) (lc f) (la f)) (cl0 a) (wt0 a) (cl1 b) (wt1 b)) := fun _ _ _ _ => Iff.rfl
    have hx := HOL_p τ (pn f) (lc f) (la f)
    have hMc : ∃ r τ', bp (X10_firstTuple (nI f) τ) (fun r1 σ1 => X10_findHole_l6 (fun v1 v2 σ => X10_findHole_c28 v1 v2 σ) fuel (nI f) r1 σ1) = some (r, τ') ∧ ag DHM τ τ' ∧ ((r = 0 ∧ ∀ x v, vcl τ x → ∀ y u, vcl τ y → ¬ Q2 τ (la f) (HOL τ (pn f) (lc f) (la f)) x v y u) ∨ (r = 1 ∧ ∃ c0 w0 c1 w1, vcl τ c0 ∧ vcl τ c1 ∧ Q2 τ (la f) (HOL τ (pn f) (lc f) (la f)) c0 w0 c1 w1 ∧ iv2 τ (la f) (HOL τ (pn f) (lc f) (la f)) c0 w0 c1 w1 ∧ gL τ' 539 0 0 = (nI c0).toInt64 ∧ gL τ' 539 0 1 = (nI c1).toInt64 ∧ gL τ' 539 0 2 = w0.toInt64 ∧ gL τ' 539 0 3 = w1.toInt64)) := by
      rcases ftM hF hH hf hL with ⟨c, em, e, τ1, f1, f2, f3, f4⟩ | ⟨τ1, f1, f2, f3⟩
      · rw [f2]
        simp only [bp_s]
        obtain ⟨w0, g0⟩ := f3 0 (by omega)
        obtain ⟨w1, g1⟩ := f3 1 (by omega)
        obtain ⟨r, τ2, r1, r2, r3⟩ := hw2 hC hf ep g0 g1 (fun v1 v2 σ => X10_findHole_c28 v1 v2 σ) fuel c 0 c 0 τ1 (by omega) f4 w0 w1 ⟨fun x v hv hl => absurd hl (fsc_p g0.2.2.1 f1 hv), fun y u hy hl => absurd hl (fsc_p g1.2.2.1 f1 hy)⟩
        rw [r1]
        rcases r3 with ⟨rfl, r3⟩ | ⟨rfl, c0, j0, c1', j1, u0, u1, u2, u3⟩
        · obtain ⟨τ3, k1, k2, -⟩ := endM' 0 τ2 (Or.inl rfl) r2
          exact ⟨0, τ3, k1, k2, Or.inl ⟨rfl, r3⟩⟩
        · obtain ⟨τ3, k1, k2, k3, k4, k5, k6⟩ := endM' 1 τ2 (Or.inr rfl) r2
          rw [if_pos ep] at k4 k6
          have v0 : vcl τ c0 := ⟨u0.1.1, by have := u0.1.2; rwa [agI r2 (by unfold DFT; omega)] at this⟩
          have v1 : vcl τ c1' := ⟨u1.1.1, by have := u1.1.2; rwa [agI r2 (by unfold DFT; omega)] at this⟩
          exact ⟨1, τ3, k1, k2, Or.inr ⟨rfl, c0, e 0 j0, c1', e 1 j1, v0, v1, u2, u3, by rw [k3, u0.2.2.2.2.1], by rw [k4, u1.2.2.2.2.1], by rw [k5, u0.2.2.2.2.2.1], by rw [k6, u1.2.2.2.2.2.1]⟩⟩
      · rw [f2]
        simp only [bp_s]
        obtain ⟨n, hn⟩ : ∃ n, fuel = n + 1 := ⟨fuel - 1, by omega⟩
        rw [hn, X10_findHole_l6.eq_2, if_pos rfl]
        obtain ⟨τ3, k1, k2, -⟩ := endM' 0 τ1 (Or.inl rfl) f3
        exact ⟨0, τ3, k1, k2, Or.inl ⟨rfl, fun x v hv => absurd hv (f1 x)⟩⟩
    obtain ⟨r, τ', m1, m2, m3⟩ := hMc
    rcases fhC z c2 c3 hP with ⟨q1, q2⟩ | ⟨a, b, q1, q2⟩
    · rcases m3 with ⟨rfl, m3⟩ | ⟨rfl, x0, y0, x1, y1, v0, v1, m3, -⟩
      · exact ⟨0, σ1, τ', q1, m1, c6, m2, Or.inl rfl⟩
      · exact absurd m3 (mt2_no hlc hx c4 c5 hPc q2 v0 v1)
    · rcases m3 with ⟨rfl, m3⟩ | ⟨rfl, x0, y0, x1, y1, v0, v1, m3, m4, t0, t1, t2, t3⟩
      · exact absurd q2.2.2.1 (m3 _ _ (c4.1 a q2.1).1 _ _ (c5.1 b q2.2.1).1)
      · obtain ⟨rfl, rfl, rfl, rfl⟩ := mt2 hlc hx c4 c5 hPc q2 v0 v1 m3 m4
        exact ⟨1, _, τ', q1, m1, agC a b, m2, Or.inr ⟨rfl, potB a b q2.1 q2.2.1 τ' t0 t1 t2 t3⟩⟩
  · -- one place
    have hP : ∀ a b, a < s0 → b < 1 → ∃ r, X1_chosenOf z f (mk0 a &&& mk1 b) σ1 = some r ∧ (r = -1 ↔ Q1 τ (la f) (HOL τ (pn f) (lc f) (la f)) (cl0 a) (wt0 a)) := fun a b ha hb => by
      have : b = 0 := by omega
      subst this
      rw [(c4.1 a ha).2, d3]
      unfold mkP
      rw [mkS_and (show lc f ≤ 32 by omega)]
      refine chP hC1 hf (fun x _ => ?_)
      rcases psP τ (la f) 0 (cl0 a) (wt0 a) x <;> rcases plP τ (la f x) <;> rfl
    have hx := HOL_p τ (pn f) (lc f) (la f)
    have hMc : ∃ r τ', bp (X10_firstTuple (nI f) τ) (fun r1 σ1 => X10_findHole_l6 (fun v1 v2 σ => X10_findHole_c28 v1 v2 σ) fuel (nI f) r1 σ1) = some (r, τ') ∧ ag DHM τ τ' ∧ ((r = 0 ∧ ∀ x v, vcl τ x → ¬ Q1 τ (la f) (HOL τ (pn f) (lc f) (la f)) x v) ∨ (r = 1 ∧ ∃ c0 w0, vcl τ c0 ∧ Q1 τ (la f) (HOL τ (pn f) (lc f) (la f)) c0 w0 ∧ iv1 τ (la f) (HOL τ (pn f) (lc f) (la f)) c0 w0 ∧ gL τ' 539 0 0 = (nI c0).toInt64 ∧ gL τ' 539 0 1 = 0 ∧ gL τ' 539 0 2 = w0.toInt64 ∧ gL τ' 539 0 3 = 0)) := by
      rcases ftM hF hH hf hL with ⟨c, em, e, τ1, f1, f2, f3, f4⟩ | ⟨τ1, f1, f2, f3⟩
      · rw [f2]
        simp only [bp_s]
        obtain ⟨w0, g0⟩ := f3 0 (by omega)
        obtain ⟨r, τ2, r1, r2, r3⟩ := hw1 hC hf ep g0 (fun v1 v2 σ => X10_findHole_c28 v1 v2 σ) fuel c 0 τ1 (by omega) f4 w0 (fun x v hv hl => absurd hl (fsc_p g0.2.2.1 f1 hv))
        rw [r1]
        rcases r3 with ⟨rfl, r3⟩ | ⟨rfl, c0, j0, u0, u2, u3⟩
        · obtain ⟨τ3, k1, k2, -⟩ := endM' 0 τ2 (Or.inl rfl) r2
          exact ⟨0, τ3, k1, k2, Or.inl ⟨rfl, r3⟩⟩
        · obtain ⟨τ3, k1, k2, k3, k4, k5, k6⟩ := endM' 1 τ2 (Or.inr rfl) r2
          rw [if_neg (by omega)] at k4 k6
          have v0 : vcl τ c0 := ⟨u0.1.1, by have := u0.1.2; rwa [agI r2 (by unfold DFT; omega)] at this⟩
          exact ⟨1, τ3, k1, k2, Or.inr ⟨rfl, c0, e 0 j0, v0, u2, u3, by rw [k3, u0.2.2.2.2.1], k4, by rw [k5, u0.2.2.2.2.2.1], k6⟩⟩
      · rw [f2]
        simp only [bp_s]
        obtain ⟨n, hn⟩ : ∃ n, fuel = n + 1 := ⟨fuel - 1, by omega⟩
        rw [hn, X10_findHole_l6.eq_2, if_pos rfl]
        obtain ⟨τ3, k1, k2, -⟩ := endM' 0 τ1 (Or.inl rfl) f3
        exact ⟨0, τ3, k1, k2, Or.inl ⟨rfl, fun x v hv => absurd hv (f1 x)⟩⟩
    obtain ⟨r, τ', m1, m2, m3⟩ := hMc
    rcases fhC z c2 c3 (Pc := fun a _ => Q1 τ (la f) (HOL τ (pn f) (lc f) (la f)) (cl0 a) (wt0 a)) hP with ⟨q1, q2⟩ | ⟨a, b, q1, q2⟩
    · rcases m3 with ⟨rfl, m3⟩ | ⟨rfl, x0, y0, v0, m3, -⟩
      · exact ⟨0, σ1, τ', q1, m1, c6, m2, Or.inl rfl⟩
      · exact absurd m3 (mt1_no hlc hx c4 (Pc := fun a _ => Q1 τ (la f) (HOL τ (pn f) (lc f) (la f)) (cl0 a) (wt0 a)) (fun _ _ => Iff.rfl) q2 v0)
    · rcases m3 with ⟨rfl, m3⟩ | ⟨rfl, x0, y0, v0, m3, m4, t0, t1, t2, t3⟩
      · exact absurd q2.2.2.1 (m3 _ _ (c4.1 a q2.1).1)
      · obtain ⟨rfl, rfl⟩ := mt1 hlc hx c4 (Pc := fun a _ => Q1 τ (la f) (HOL τ (pn f) (lc f) (la f)) (cl0 a) (wt0 a)) (fun _ _ => Iff.rfl) q2 v0 m3 m4
        have eb : b = 0 := by have := q2.2.1; omega
        subst eb
        exact ⟨1, _, τ', q1, m1, agC a 0, m2, Or.inr ⟨rfl, potB a 0 q2.1 q2.2.1 τ' t0 (by rw [t1, d1]; decide) t2 (by rw [t3, d2]; decide)⟩⟩
theorem s_covered {z : Nat × Nat} {σ τ : PS} {own pn : Nat → Nat} {lc : Nat → Nat} {la od : Nat → Nat → Nat} (hC : z.1 = 0 ∨ CR z own pn lc la od σ τ) (hF : rF z pn σ τ) (hT : rT σ τ) (x1 : Int32) : ∃ r σ' τ', X9_covered z x1 σ = some (r, σ') ∧ X10_covered x1 τ = some (r, τ') ∧ ag DHC σ σ' ∧ ag DHM τ τ' := by
  unfold X9_covered X10_covered
  rcases fnAt hF x1 with ⟨e1, e2⟩ | ⟨f, hf, rfl, e1, e2⟩
  · exact ⟨-2, σ, τ, by rw [e1]; rfl, by rw [e2]; rfl, ag_r _, ag_r _⟩
  · have hC := hC.elim (fun q => by omega) id
    rw [e1, e2]
    simp only [Option.bind_some, if_neg (show ¬ (1 : Int32) = 0 by decide), oc_s' hf]
    obtain ⟨r, σ', τ', r1, r2, r3, r4, -⟩ := fHB hC hT hf
    rw [r1, r2]
    simp only [bp_s]
    by_cases q : r = 0
    · exact ⟨1, σ', τ', by rw [if_pos q], by rw [if_pos q], r3, r4⟩
    · exact ⟨0, σ', τ', by rw [if_neg q], by rw [if_neg q], r3, r4⟩
theorem s_hole {z : Nat × Nat} {σ τ : PS} {own pn : Nat → Nat} {lc : Nat → Nat} {la od : Nat → Nat → Nat} (hC : z.1 = 0 ∨ CR z own pn lc la od σ τ) (hF : rF z pn σ τ) (hT : rT σ τ) (x1 x2 : Int32) : ∃ r σ' τ', X9_hole z x1 x2 σ = some (r, σ') ∧ X10_hole x1 x2 τ = some (r, τ') ∧ ag DHC σ σ' ∧ ag DHM τ τ' := by
  unfold X9_hole X10_hole
  rcases fnAt hF x1 with ⟨e1, e2⟩ | ⟨f, hf, rfl, e1, e2⟩
  · exact ⟨1099511627776, σ, τ, by rw [e1]; rfl, by rw [e2]; rfl, ag_r _, ag_r _⟩
  · have hC := hC.elim (fun q => by omega) id
    rw [e1, e2]
    simp only [Option.bind_some, if_neg (show ¬ (1 : Int32) = 0 by decide), oc_s' hf]
    rcases cases_nI x2 (n := 4) (by omega) with k | ⟨k, k2⟩ | ⟨q, hq, rfl⟩
    · exact ⟨_, σ, τ, by rw [if_pos k], by rw [if_pos k], ag_r _, ag_r _⟩
    · have k3 : (4 : Int32) ≤ x2 := k2
      have k4 : (3 : Int32) < x2 := Int32.lt_of_lt_of_le (by decide) k3
      exact ⟨_, σ, τ, by rw [if_neg k, if_pos k4], by rw [if_neg k, if_pos k3], ag_r _, ag_r _⟩
    · have n1 : ¬ nI q < 0 := nI_pos (by omega)
      have n2 : ¬ (3 : Int32) < nI q := nI_nlt (a := 3) (by omega) (by omega)
      have n3 : ¬ (4 : Int32) ≤ nI q := nI_ge (b := 4) hq (by omega)
      rw [if_neg n1, if_neg n2, if_neg n1, if_neg n3]
      obtain ⟨r, σ', τ', r1, r2, r3, r4, r5⟩ := fHB hC hT hf
      rw [r1, r2]
      simp only [bp_s]
      rcases r5 with rfl | ⟨rfl, r5⟩
      · exact ⟨_, σ', τ', by rw [if_pos rfl], by rw [if_pos rfl], r3, r4⟩
      · obtain ⟨v, v1, v2⟩ := r5 q hq
        refine ⟨v.toInt64, σ', τ', ?_, ?_, r3, r4⟩
        · rw [if_neg (by decide), v1]; rfl
        · rw [if_neg (by decide), ib_nI (by omega), gd_d hq, ix_nI (by omega), v2]

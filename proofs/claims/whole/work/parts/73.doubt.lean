/-! ===== doubt(), both sides ===== -/
def D250 : Nat → Nat → Nat → Prop := fun k _ _ => k = 250
/-- the cells of both places, as fillB leaves them -/
def ceB (τ : PS) (p lc : Nat) (la : Nat → Nat) (s0 : Nat) (cl0 : Nat → Nat) (wt0 mk0 : Nat → Int32) (s1 : Nat) (cl1 : Nat → Nat) (wt1 mk1 : Nat → Int32) : Prop := ceOK (vcl τ) (mkP τ lc la 0) s0 cl0 wt0 mk0 ∧ ((p = 2 ∧ ceOK (vcl τ) (mkP τ lc la 1) s1 cl1 wt1 mk1) ∨ (p = 1 ∧ s1 = 1 ∧ cl1 0 = 0 ∧ wt1 0 = 0 ∧ mk1 0 = mkS lc (fun x => plP τ (la x))))
theorem ceB_ag {D : Nat → Nat → Nat → Prop} {τ τ' : PS} {p lc s0 s1 : Nat} {la cl0 cl1 : Nat → Nat} {wt0 wt1 mk0 mk1 : Nat → Int32} (h : ceB τ p lc la s0 cl0 wt0 mk0 s1 cl1 wt1 mk1) (a : ag D τ τ') (hD : ∀ k n i, (k = 503 ∨ k = 504 ∨ k = 519 ∨ k = 521 ∨ k = 522 ∨ k = 523) → ¬ D k n i) : ceB τ' p lc la s0 cl0 wt0 mk0 s1 cl1 wt1 mk1 := by
  have c1 := fun h i => cdP_ag a (fun k n i q => hD k n i (by omega)) h i
  have c2 := fun h i => lwP_ag a (fun k n i q => hD k n i (by omega)) h i
  have c3 := fun h i => hgP_ag a (fun k n i q => hD k n i (by omega)) h i
  have c4 : ∀ i, gI τ' 503 0 i = gI τ 503 0 i := fun i => agI a (hD _ _ _ (by omega))
  have c5 : ∀ i, gI τ' 504 0 i = gI τ 504 0 i := fun i => agI a (hD _ _ _ (by omega))
  have c6 := fun h => plP_ag a (fun k n i q => hD k n i (by omega)) h
  have e1 : vcl τ' = vcl τ := by funext c; unfold vcl; rw [c5]
  have e2 : ∀ i, mkP τ' lc la i = mkP τ lc la i := fun i => by
    funext c w
    unfold mkP psP tcP twP blP
    simp only [c1, c2, c3, c4, c6]
  unfold ceB at h ⊢
  rw [e1, e2, e2]
  simp only [c6]
  exact h
theorem pairB {z : Nat × Nat} {σ τ : PS} {own pn : Nat → Nat} {lc : Nat → Nat} {la od : Nat → Nat → Nat} (hC : CR z own pn lc la od σ τ) {f g h s0 s1 : Nat} {cl0 cl1 : Nat → Nat} {wt0 wt1 mk0 mk1 : Nat → Int32} (hf : f < z.1) (hg : g < lc f) (hh : h < lc f) (h0 : clS 0 s0 cl0 wt0 mk0 σ) (h1 : clS 1 s1 cl1 wt1 mk1 σ) (hce : ceB τ (pn f) (lc f) (la f) s0 cl0 wt0 mk0 s1 cl1 wt1 mk1) :
    (¬ (plP τ (la f g) = true ∧ plP τ (la f h) = true) ∧ X5_haveDoubt z f (nI g) (nI h) σ = some (0, σ)) ∨
    ((plP τ (la f g) = true ∧ plP τ (la f h) = true) ∧ ∃ r σ' τ', X5_haveDoubt z f (nI g) (nI h) σ = some (r, σ') ∧ X10_findDoubt (nI f) (nI (la f g)) (nI (la f h)) τ = some (r, τ') ∧ (r = 0 ∨ r = 1) ∧ ag D250 σ σ' ∧ ag DHM τ τ' ∧ (r = 1 → ∀ q, q < 4 → ∃ v, X5_partOfTuple z (nI q) σ' = some v ∧ gL τ' 539 0 q = v.toInt64)) := by
  have hfu := fuel_ge
  obtain ⟨hB, hO, hQ, hF, hH, hLL⟩ := id hC
  have hL := hLL f hf
  have hlc := hL.1.1
  have hf4 := hF.1
  have hN : ∀ i, i < lc f → la f i < z.2 := fun i hi => (hL.1.2.2 i hi).2
  have hown : ∀ i, i < lc f → own (la f i) = f := fun i hi => ld_own ((hL.2.2.1 _ (hN i hi)).mpr ⟨i, hi, rfl⟩)
  obtain ⟨-, -, ⟨p1, p2⟩, p3, p4, -⟩ := hF.2.2.2 f hf
  obtain ⟨c4, c5⟩ := hce
  -- the sets of a pair of cells
  have hm : ∀ a b, a < s0 → b < s1 → mk0 a &&& mk1 b = mkS (lc f) (fun x => (if pn f = 2 then (psP τ (la f) 0 (cl0 a) (wt0 a) x && psP τ (la f) 1 (cl1 b) (wt1 b) x) else psP τ (la f) 0 (cl0 a) (wt0 a) x) && plP τ (la f x)) := fun a b ha hb => by
    rcases c5 with ⟨ep, c5⟩ | ⟨ep, e1, -, -, d3⟩
    · rw [(c4.1 a ha).2, (c5.1 b hb).2]
      unfold mkP
      rw [mkS_and (show lc f ≤ 32 by omega)]
      refine mkS_congr (fun x _ => ?_)
      rw [if_pos ep]
      generalize psP τ (la f) 0 (cl0 a) (wt0 a) x = A
      generalize psP τ (la f) 1 (cl1 b) (wt1 b) x = B
      generalize plP τ (la f x) = C
      cases A <;> cases B <;> cases C <;> rfl
    · have : b = 0 := by omega
      subst this
      rw [(c4.1 a ha).2, d3]
      unfold mkP
      rw [mkS_and (show lc f ≤ 32 by omega)]
      refine mkS_congr (fun x _ => ?_)
      rw [if_neg (by omega)]
      generalize psP τ (la f) 0 (cl0 a) (wt0 a) x = A
      generalize plP τ (la f x) = C
      cases A <;> cases C <;> rfl
  have hdc := hdC hC hf hg hh h0 h1 (St := fun a b x => if pn f = 2 then (psP τ (la f) 0 (cl0 a) (wt0 a) x && psP τ (la f) 1 (cl1 b) (wt1 b) x) else psP τ (la f) 0 (cl0 a) (wt0 a) x) hm
  by_cases hpl : plP τ (la f g) = true ∧ plP τ (la f h) = true
  · right
    refine ⟨hpl, ?_⟩
    have hx := DOU_p (p := pn f) hg hh hpl.1 hpl.2
    -- the model's search
    unfold X10_findDoubt
    rw [moreM hB hQ hF hH (hN g hg) (hN h hh), moreM hB hQ hF hH (hN h hh) (hN g hg), hown g hg, hown h hh]
    simp only [Option.bind_some, decide_true, Bool.true_and]
    have noC : ¬ prP τ (pn f) (la f) g h → X5_haveDoubt z f (nI g) (nI h) σ = some (0, σ) := fun hn => by
      rcases hdc with ⟨q, -⟩ | ⟨a, b, -, q, -⟩
      · exact q
      · exact absurd q hn
    rcases k2 : moP τ (pn f) (la f g) (la f h) with _ | _
    · rw [if_pos (by rfl)]
      rcases k3 : moP τ (pn f) (la f h) (la f g) with _ | _
      · rw [if_pos (by rfl)]
        have hpr : prP τ (pn f) (la f) g h := ⟨hpl.1, hpl.2, k2, k3⟩
        have endM' : ∀ (v2 : Int32) (τ1 : PS), (v2 = 0 ∨ v2 = 1) → ag DFT τ τ1 → ∃ τ2, X10_findDoubt_c116 (nI f) v2 τ1 = some (v2, τ2) ∧ ag DHM τ τ2 ∧ gL τ2 539 0 0 = (gI τ1 532 0 0).toInt64 ∧ gL τ2 539 0 1 = (if pn f = 2 then (gI τ1 532 0 1).toInt64 else 0) ∧ gL τ2 539 0 2 = gL τ1 533 0 0 ∧ gL τ2 539 0 3 = (if pn f = 2 then gL τ1 533 0 1 else 0) := fun v2 τ1 hv a => by
          obtain ⟨τ2, k1, k2, k3, k4, k5, k6⟩ := keepM (τ := τ1) (f := f) (p := pn f) (by omega) ⟨p1, p2⟩ (by rw [agI a (by unfold DFT; omega), p4])
          refine ⟨τ2, ?_, ag_t (ag_m a (fun k n i q => by unfold DFT at q; unfold DHM; omega)) (ag_m k2 (fun k n i q => by unfold DHM; omega)), k3, k4, k5, k6⟩
          unfold X10_findDoubt_c116
          rw [k1]
          rcases hv with rfl | rfl <;> rfl
        have agC : ∀ a b, ag D250 σ (sI (sI σ 250 0 2 (nI a)) 250 0 3 (nI b)) := fun a b => ag_t (ag_sI rfl) (ag_sI rfl)
        have clC : ∀ a b, clS 0 s0 cl0 wt0 mk0 (sI (sI σ 250 0 2 (nI a)) 250 0 3 (nI b)) ∧ clS 1 s1 cl1 wt1 mk1 (sI (sI σ 250 0 2 (nI a)) 250 0 3 (nI b)) := fun a b => ⟨clS_ag h0 (agC a b) (fun k m i q => by unfold D250; omega), clS_ag h1 (agC a b) (fun k m i q => by unfold D250; omega)⟩
        have potB : ∀ a b, a < s0 → b < s1 → ∀ τ2 : PS, gL τ2 539 0 0 = (nI (cl0 a)).toInt64 → gL τ2 539 0 1 = (nI (cl1 b)).toInt64 → gL τ2 539 0 2 = (wt0 a).toInt64 → gL τ2 539 0 3 = (wt1 b).toInt64 → ∀ q, q < 4 → ∃ v, X5_partOfTuple z (nI q) (sI (sI σ 250 0 2 (nI a)) 250 0 3 (nI b)) = some v ∧ gL τ2 539 0 q = v.toInt64 := fun a b ha hb τ2 e0 e1 e2 e3 q hq => by
          obtain ⟨x0, x1, x2, x3⟩ := potC z (clC a b).1 (clC a b).2 ha hb (by simp [gI_sI]) (by simp [gI_sI])
          rcases (show q = 0 ∨ q = 1 ∨ q = 2 ∨ q = 3 by omega) with rfl | rfl | rfl | rfl
          · exact ⟨_, x0, e0⟩
          · exact ⟨_, x1, e1⟩
          · exact ⟨_, x2, e2⟩
          · exact ⟨_, x3, e3⟩
        rcases c5 with ⟨ep, c5⟩ | ⟨ep, rfl, d1, d2, d3⟩
        · -- two places
          simp only [if_pos ep] at hdc
          have hMc : ∃ r τ', bp (X10_firstTuple (nI f) τ) (fun r3 σ3 => X10_findDoubt_l30 (fun v1 v4 σ => X10_findDoubt_c116 v1 v4 σ) fuel (nI f) (nI (la f g)) (nI (la f h)) r3 0 σ3) = some (r, τ') ∧ ag DHM τ τ' ∧ ((r = 0 ∧ ∀ x v, vcl τ x → ∀ y u, vcl τ y → ¬ Q2 τ (la f) (DOU τ (pn f) (lc f) (la f) g h) x v y u) ∨ (r = 1 ∧ ∃ c0 w0 c1 w1, vcl τ c0 ∧ vcl τ c1 ∧ Q2 τ (la f) (DOU τ (pn f) (lc f) (la f) g h) c0 w0 c1 w1 ∧ iv2 τ (la f) (DOU τ (pn f) (lc f) (la f) g h) c0 w0 c1 w1 ∧ gL τ' 539 0 0 = (nI c0).toInt64 ∧ gL τ' 539 0 1 = (nI c1).toInt64 ∧ gL τ' 539 0 2 = w0.toInt64 ∧ gL τ' 539 0 3 = w1.toInt64)) := by
            rcases ftM hF hH hf hL with ⟨c, em, e, τ1, f1, f2, f3, f4⟩ | ⟨τ1, f1, f2, f3⟩
            · rw [f2]
              simp only [bp_s]
              obtain ⟨w0, g0⟩ := f3 0 (by omega)
              obtain ⟨w1, g1⟩ := f3 1 (by omega)
              obtain ⟨r, τ2, r1, r2, r3⟩ := dw2 hC hf ep hg hh (exP_D hx) g0 g1 (fun v1 v2 σ => X10_findDoubt_c116 v1 v2 σ) fuel c 0 c 0 τ1 (by omega) f4 w0 w1 ⟨fun x v hv hl => absurd hl (fsc_p g0.2.2.1 f1 hv), fun y u hy hl => absurd hl (fsc_p g1.2.2.1 f1 hy)⟩
              rw [r1]
              rcases r3 with ⟨rfl, r3⟩ | ⟨rfl, c0, j0, c1', j1, u0, u1, u2, u3⟩
              · obtain ⟨τ3, k1, k2, -⟩ := endM' 0 τ2 (Or.inl rfl) r2
                exact ⟨0, τ3, k1, k2, Or.inl ⟨rfl, r3⟩⟩
              · obtain ⟨τ3, k1, k2, k3, k4, k5, k6⟩ := endM' 1 τ2 (Or.inr rfl) r2
                rw [if_pos ep] at k4 k6
                have v0 : vcl τ c0 := ⟨u0.1.1, by have := u0.1.2; rwa [agI r2 (by unfold DFT; omega)] at this⟩
                have v1 : vcl τ c1' := ⟨u1.1.1, by have := u1.1.2; rwa [agI r2 (by unfold DFT; omega)] at this⟩
                exact ⟨1, τ3, k1, k2, Or.inr ⟨rfl, c0, e 0 j0, c1', e 1 j1, v0, v1, u2, u3, by rw [k3, u0.2.2.2.2.1], by rw [k4, u1.2.2.2.2.1], by rw [k5, u0.2.2.2.2.2.1], by rw [k6, u1.2.2.2.2.2.1]⟩⟩
            · rw [f2]
              simp only [bp_s]
              obtain ⟨n, hn⟩ : ∃ n, fuel = n + 1 := ⟨fuel - 1, by omega⟩
              rw [hn, X10_findDoubt_l30.eq_2, if_pos rfl]
              obtain ⟨τ3, k1, k2, -⟩ := endM' 0 τ1 (Or.inl rfl) f3
              exact ⟨0, τ3, k1, k2, Or.inl ⟨rfl, fun x v hv => absurd hv (f1 x)⟩⟩
          obtain ⟨r, τ', m1, m2, m3⟩ := hMc
          have hPc : ∀ a b, a < s0 → b < s1 → (DOU τ (pn f) (lc f) (la f) g h (fun x => psP τ (la f) 0 (cl0 a) (wt0 a) x && psP τ (la f) 1 (cl1 b) (wt1 b) x) ↔ Q2 τ (la f) (DOU τ (pn f) (lc f) (la f) g h) (cl0 a) (wt0 a) (cl1 b) (wt1 b)) := fun _ _ _ _ => Iff.rfl
          rcases hdc with ⟨q1, q2⟩ | ⟨a, b, q1, -, q2⟩
          · rcases m3 with ⟨rfl, m3⟩ | ⟨rfl, x0, y0, x1, y1, v0, v1, m3, -⟩
            · exact ⟨0, σ, τ', q1, m1, Or.inl rfl, ag_r _, m2, fun q => absurd q (by decide)⟩
            · exact absurd m3 (mt2_no hlc hx c4 c5 hPc (q2 hpr) v0 v1)
          · rcases m3 with ⟨rfl, m3⟩ | ⟨rfl, x0, y0, x1, y1, v0, v1, m3, m4, t0, t1, t2, t3⟩
            · exact absurd q2.2.2.1 (m3 _ _ (c4.1 a q2.1).1 _ _ (c5.1 b q2.2.1).1)
            · obtain ⟨rfl, rfl, rfl, rfl⟩ := mt2 hlc hx c4 c5 hPc q2 v0 v1 m3 m4
              exact ⟨1, _, τ', q1, m1, Or.inr rfl, agC a b, m2, fun _ => potB a b q2.1 q2.2.1 τ' t0 t1 t2 t3⟩
        · -- one place
          simp only [if_neg (show ¬ pn f = 2 by omega)] at hdc
          have hMc : ∃ r τ', bp (X10_firstTuple (nI f) τ) (fun r3 σ3 => X10_findDoubt_l30 (fun v1 v4 σ => X10_findDoubt_c116 v1 v4 σ) fuel (nI f) (nI (la f g)) (nI (la f h)) r3 0 σ3) = some (r, τ') ∧ ag DHM τ τ' ∧ ((r = 0 ∧ ∀ x v, vcl τ x → ¬ Q1 τ (la f) (DOU τ (pn f) (lc f) (la f) g h) x v) ∨ (r = 1 ∧ ∃ c0 w0, vcl τ c0 ∧ Q1 τ (la f) (DOU τ (pn f) (lc f) (la f) g h) c0 w0 ∧ iv1 τ (la f) (DOU τ (pn f) (lc f) (la f) g h) c0 w0 ∧ gL τ' 539 0 0 = (nI c0).toInt64 ∧ gL τ' 539 0 1 = 0 ∧ gL τ' 539 0 2 = w0.toInt64 ∧ gL τ' 539 0 3 = 0)) := by
            rcases ftM hF hH hf hL with ⟨c, em, e, τ1, f1, f2, f3, f4⟩ | ⟨τ1, f1, f2, f3⟩
            · rw [f2]
              simp only [bp_s]
              obtain ⟨w0, g0⟩ := f3 0 (by omega)
              obtain ⟨r, τ2, r1, r2, r3⟩ := dw1 hC hf ep hg hh (exP_D hx) g0 (fun v1 v2 σ => X10_findDoubt_c116 v1 v2 σ) fuel c 0 τ1 (by omega) f4 w0 (fun x v hv hl => absurd hl (fsc_p g0.2.2.1 f1 hv))
              rw [r1]
              rcases r3 with ⟨rfl, r3⟩ | ⟨rfl, c0, j0, u0, u2, u3⟩
              · obtain ⟨τ3, k1, k2, -⟩ := endM' 0 τ2 (Or.inl rfl) r2
                exact ⟨0, τ3, k1, k2, Or.inl ⟨rfl, r3⟩⟩
              · obtain ⟨τ3, k1, k2, k3, k4, k5, k6⟩ := endM' 1 τ2 (Or.inr rfl) r2
                rw [if_neg (by omega)] at k4 k6
                have v0 : vcl τ c0 := ⟨u0.1.1, by have := u0.1.2; rwa [agI r2 (by unfold DFT; omega)] at this⟩
                exact ⟨1, τ3, k1, k2, Or.inr ⟨rfl, c0, e 0 j0, v0, u2, u3, by rw [k3, u0.2.2.2.2.1], k4, by rw [k5, u0.2.2.2.2.2.1], k6⟩⟩
            · rw [f2]
              simp only [bp_s]
              obtain ⟨n, hn⟩ : ∃ n, fuel = n + 1 := ⟨fuel - 1, by omega⟩
              rw [hn, X10_findDoubt_l30.eq_2, if_pos rfl]
              obtain ⟨τ3, k1, k2, -⟩ := endM' 0 τ1 (Or.inl rfl) f3
              exact ⟨0, τ3, k1, k2, Or.inl ⟨rfl, fun x v hv => absurd hv (f1 x)⟩⟩
          obtain ⟨r, τ', m1, m2, m3⟩ := hMc
          rcases hdc with ⟨q1, q2⟩ | ⟨a, b, q1, -, q2⟩
          · rcases m3 with ⟨rfl, m3⟩ | ⟨rfl, x0, y0, v0, m3, -⟩
            · exact ⟨0, σ, τ', q1, m1, Or.inl rfl, ag_r _, m2, fun q => absurd q (by decide)⟩
            · exact absurd m3 (mt1_no hlc hx c4 (Pc := fun a _ => DOU τ (pn f) (lc f) (la f) g h (fun x => psP τ (la f) 0 (cl0 a) (wt0 a) x)) (fun _ _ => Iff.rfl) (q2 hpr) v0)
          · rcases m3 with ⟨rfl, m3⟩ | ⟨rfl, x0, y0, v0, m3, m4, t0, t1, t2, t3⟩
            · exact absurd q2.2.2.1 (m3 _ _ (c4.1 a q2.1).1)
            · obtain ⟨rfl, rfl⟩ := mt1 hlc hx c4 (Pc := fun a _ => DOU τ (pn f) (lc f) (la f) g h (fun x => psP τ (la f) 0 (cl0 a) (wt0 a) x)) (fun _ _ => Iff.rfl) q2 v0 m3 m4
              have eb : b = 0 := by have := q2.2.1; omega
              subst eb
              exact ⟨1, _, τ', q1, m1, Or.inr rfl, agC a 0, m2, fun _ => potB a 0 q2.1 q2.2.1 τ' t0 (by rw [t1, d1]; decide) t2 (by rw [t3, d2]; decide)⟩
      · rw [if_neg (by decide)]
        exact ⟨0, σ, τ, noC (fun q => by rw [q.2.2.2] at k3; cases k3), rfl, Or.inl rfl, ag_r _, ag_r _, fun q => absurd q (by decide)⟩
    · rw [if_neg (by decide)]
      exact ⟨0, σ, τ, noC (fun q => by rw [q.2.2.1] at k2; cases k2), rfl, Or.inl rfl, ag_r _, ag_r _, fun q => absurd q (by decide)⟩
  · left
    refine ⟨hpl, ?_⟩
    rcases hdc with ⟨q, -⟩ | ⟨a, b, -, q, -⟩
    · exact q
    · exact absurd ⟨q.1, q.2.1⟩ hpl

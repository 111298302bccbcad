/-! ===== a new function, a new handler: the memories ===== -/
def nF (σ : PS) (f p : Nat) : PS :=
  (fun k n => if n = f ∧ k = 50 then (fun i => if i = 1 then nI f else if i = 2 then nI p else 0) else if n = f ∧ (k = 55 ∨ k = 57 ∨ k = 200 ∨ k = 201 ∨ k = 204) then (fun _ => 0) else if k = 450 ∧ n = 0 then upd (σ.1 k n) 9 (nI (f + 1)) else σ.1 k n,
   fun k n => if n = f ∧ (k = 202 ∨ k = 203) then (fun _ => 0) else σ.2.1 k n,
   fun k n => if n = f ∧ k = 56 then (fun _ => none) else if k = 453 ∧ n = 0 then va_up (σ.2.2.1 k n) f (some f) else σ.2.2.1 k n,
   σ.2.2.2)
def DNF (f : Nat) : Nat → Nat → Nat → Prop := fun k n i => n = f ∧ (k = 50 ∨ k = 55 ∨ k = 56 ∨ k = 57 ∨ k = 200 ∨ k = 201 ∨ k = 202 ∨ k = 203 ∨ k = 204) ∨ k = 450 ∧ i = 9 ∨ k = 453 ∧ i = f
theorem ag_nF (σ : PS) (f p : Nat) : ag (DNF f) σ (nF σ f p) := by
  refine ⟨fun k n i hd => ?_, fun _ _ => rfl⟩
  unfold DNF at hd
  have h1 : ¬ (n = f ∧ k = 50) := fun q => hd (by omega)
  have h2 : ¬ (n = f ∧ (k = 55 ∨ k = 57 ∨ k = 200 ∨ k = 201 ∨ k = 204)) := fun q => hd (by omega)
  have h3 : ¬ (n = f ∧ (k = 202 ∨ k = 203)) := fun q => hd (by omega)
  have h4 : ¬ (n = f ∧ k = 56) := fun q => hd (by omega)
  refine ⟨?_, ?_, ?_⟩
  · show (if n = f ∧ k = 50 then _ else if n = f ∧ (k = 55 ∨ k = 57 ∨ k = 200 ∨ k = 201 ∨ k = 204) then _ else if k = 450 ∧ n = 0 then upd (σ.1 k n) 9 (nI (f + 1)) else σ.1 k n) i = σ.1 k n i
    rw [if_neg h1, if_neg h2]
    by_cases q : k = 450 ∧ n = 0
    · rw [if_pos q, upd_a, if_neg (fun r => hd (by omega))]
    · rw [if_neg q]
  · show (if n = f ∧ (k = 202 ∨ k = 203) then _ else σ.2.1 k n) i = σ.2.1 k n i
    rw [if_neg h3]
  · show (if n = f ∧ k = 56 then _ else if k = 453 ∧ n = 0 then va_up (σ.2.2.1 k n) f (some f) else σ.2.2.1 k n) i = σ.2.2.1 k n i
    rw [if_neg h4]
    by_cases q : k = 453 ∧ n = 0
    · rw [if_pos q]
      unfold va_up
      rw [if_neg (fun r => hd (by omega))]
    · rw [if_neg q]
def tF (τ : PS) (f p : Nat) : PS := sI (sI τ 510 0 f (nI p)) 500 0 8 (nI (f + 1))
theorem RR_F {z : Nat × Nat} {t p : Nat} {σ τ : PS} (h : RR z t σ τ) (hc : gI τ 500 0 4 = 1) (hz : z.1 < 4) (hp : p = 1 ∨ p = 2) : RR (z.1 + 1, z.2) t (nF σ z.1 p) (tF τ z.1 p) := by
  obtain ⟨own, pn, lc, la, od, ns, h1, h2, h3, h4, h5, h6, h7, h8, h9, h10, h11, h12, h13⟩ := h
  have a := ag_nF σ z.1 p
  have b : ag (fun k _ i => k = 510 ∧ i = z.1 ∨ k = 500 ∧ i = 8) τ (tF τ z.1 p) := ag_t (ag_sI (by omega)) (ag_sI (by omega))
  have e4 : gI (tF τ z.1 p) 500 0 4 = gI τ 500 0 4 := agI b (by omega)
  have i50 : ∀ i, gI (nF σ z.1 p) 50 z.1 i = if i = 1 then nI z.1 else if i = 2 then nI p else 0 := fun i => by simp [gI, nF]
  have i200 : ∀ i, gI (nF σ z.1 p) 200 z.1 i = 0 := fun i => by simp [gI, nF]
  have hown : ∀ x, x < z.2 → ¬ own x = z.1 := fun x hx => by have := (h7.2.2.2 x hx).1.2.1; omega
  refine ⟨own, (fun g => if g = z.1 then p else pn g), (fun g => if g = z.1 then 0 else lc g), la, od, ns, rT_ag h1 a b (fun k n i q => by unfold DNF; omega) (fun k n i q => by omega), fun _ => ⟨rB_ag (h2 hc).1 a b (fun k n i q => by unfold DNF; omega) (fun k n i q => by omega), rO_ag (h2 hc).2 b (fun k n i q => by omega)⟩, fun q => by rw [e4, hc] at q; exact absurd q (by decide), rS_ag h4 a b (fun k n i q => by unfold DNF; omega) (fun k n i q => by omega), rA_ag h5 a b (fun k n i q => by unfold DNF; omega) (fun k n i q => by omega), ?_, ?_, rQ_ag h8 b (fun k n i q => by omega), ?_, rV_ag h10 a b (fun k n i q => by unfold DNF; omega) (fun k n i q => by omega), rK_ag h11 a b (fun k n i q => by unfold DNF; omega) (fun k n i q => by omega), ?_, ?_⟩
  · obtain ⟨f1, f2, f3, f4⟩ := h6
    refine ⟨by show z.1 + 1 ≤ 4; omega, ?_, by simp [tF, gI_sI], fun g hg => ?_⟩
    · simp [gI, nF, upd_a]
    · by_cases q : g = z.1
      · subst q
        simp only [if_true]
        refine ⟨?_, by rw [i50]; rfl, by omega, by rw [i50]; rfl, by simp [tF, gI_sI], ?_, ?_⟩
        · simp [gR, nF, va_up]
        · rw [i50, agI b (by omega), (h13.1 z.1 (Nat.le_refl _) hz).1]; rfl
        · left; rw [agI b (by omega), (h13.1 z.1 (Nat.le_refl _) hz).1]
      · have hg' : g < z.1 := by have : g < z.1 + 1 := hg; omega
        simp only [if_neg q]
        obtain ⟨g1, g2, g3, g4, g5, g6, g7⟩ := f4 g hg'
        exact ⟨(agR a (by unfold DNF; omega)).trans g1, (agI a (by unfold DNF; omega)).trans g2, g3, (agI a (by unfold DNF; omega)).trans g4, (agI b (by omega)).trans g5, by rw [agI a (by unfold DNF; omega), agI b (by omega)]; exact g6, by rw [agI b (by omega)]; exact g7⟩
  · obtain ⟨g1, g2, g3, g4⟩ := rH_ag h7 a b (fun k n i q => by unfold DNF; omega) (fun k n i q => by omega)
    refine ⟨g1, g2, g3, fun x hx => ?_⟩
    obtain ⟨⟨q1, q2, q3, q4⟩, q5, q6⟩ := g4 x hx
    refine ⟨⟨q1, by show own x < z.1 + 1; omega, q3, q4⟩, q5, ?_⟩
    dsimp only
    rw [if_neg (hown x hx)]; exact q6
  · intro g hg
    by_cases q : g = z.1
    · subst q
      simp only [if_true]
      refine ⟨⟨by omega, by rw [i50]; rfl, fun i hi => by omega⟩, fun i j _ hj => by omega, fun x hx => ?_, by rw [i50]; rfl, fun i hi => by omega, fun k hk => by omega, fun k hk => by omega⟩
      constructor
      · intro r; exact absurd (ld_own r) (hown x hx)
      · rintro ⟨i, hi, -⟩; omega
    · have hg' : g < z.1 := by have : g < z.1 + 1 := hg; omega
      simp only [if_neg q]
      exact rL1_ag (h9 g hg') a b (fun k n i r => by unfold DNF; omega) (fun k n i r => by omega)
  · intro g hg
    by_cases q : g = z.1
    · subst q
      simp only [if_true]
      obtain ⟨n1, n2, n3⟩ := h13.1 z.1 (Nat.le_refl _) hz
      exact ⟨by rw [i200, agI b (by omega), n2], 0, 0, id, id, id, by omega, by omega, by rw [i200]; rfl, by rw [agI b (by omega), n3]; rfl, by rw [i200]; rfl, fun j hj => by omega, fun j hj => by omega, fun i j _ hj => by omega, fun i j hi => by omega⟩
    · have hg' : g < z.1 := by have : g < z.1 + 1 := hg; omega
      simp only [if_neg q]
      exact rM1_ag (h12 g hg') a b (fun k n i r => by unfold DNF; omega) (fun k n i r => by omega)
  · exact ⟨fun g a1 a2 => by have a3 : z.1 + 1 ≤ g := a1; rw [agI b (by omega), agI b (by omega), agI b (by omega)]; exact h13.1 g (by omega) a2, fun x a1 a2 => by rw [agI b (by omega)]; exact h13.2 x a1 a2⟩
/-- a handler more -/
def nH (σ : PS) (h f p : Nat) (act val ar : Int32) : PS :=
  (fun k n => if n = h ∧ k = 100 then (fun i => if i = 1 then nI h else if i = 2 then act else if i = 3 then val else if i = 4 then ar else 0) else if n = h ∧ k = 106 then (fun _ => -1) else if n = h ∧ k = 107 then (fun _ => -2147483648) else if n = h ∧ k = 108 then (fun _ => 2147483647) else if k = 450 ∧ n = 0 then upd (σ.1 k n) 10 (nI (h + 1)) else σ.1 k n,
   σ.2.1,
   fun k n => if n = h ∧ k = 100 then (fun _ => some f) else if k = 454 ∧ n = 0 then va_up (σ.2.2.1 k n) h (some h) else σ.2.2.1 k n,
   fun k n => if n = h ∧ (k = 106 ∨ k = 107 ∨ k = 108) then p else σ.2.2.2 k n)
def nH0 (σ : PS) (h f p : Nat) (act val ar : Int32) : PS := ((nH σ h f p act val ar).1, (nH σ h f p act val ar).2.1, (nH σ h f p act val ar).2.2.1, σ.2.2.2)
def DNH (h : Nat) : Nat → Nat → Nat → Prop := fun k n i => n = h ∧ (k = 100 ∨ k = 106 ∨ k = 107 ∨ k = 108) ∨ k = 450 ∧ i = 10 ∨ k = 454 ∧ i = h
theorem ag_nH (σ : PS) (h f p : Nat) (act val ar : Int32) : ag (DNH h) σ (nH0 σ h f p act val ar) := by
  refine ⟨fun k n i hd => ?_, fun _ _ => rfl⟩
  unfold DNH at hd
  have h1 : ¬ (n = h ∧ k = 100) := fun q => hd (by omega)
  have h2 : ¬ (n = h ∧ k = 106) := fun q => hd (by omega)
  have h3 : ¬ (n = h ∧ k = 107) := fun q => hd (by omega)
  have h4 : ¬ (n = h ∧ k = 108) := fun q => hd (by omega)
  refine ⟨?_, rfl, ?_⟩
  · show (if n = h ∧ k = 100 then _ else if n = h ∧ k = 106 then _ else if n = h ∧ k = 107 then _ else if n = h ∧ k = 108 then _ else if k = 450 ∧ n = 0 then upd (σ.1 k n) 10 (nI (h + 1)) else σ.1 k n) i = σ.1 k n i
    rw [if_neg h1, if_neg h2, if_neg h3, if_neg h4]
    by_cases q : k = 450 ∧ n = 0
    · rw [if_pos q, upd_a, if_neg (fun r => hd (by omega))]
    · rw [if_neg q]
  · show (if n = h ∧ k = 100 then _ else if k = 454 ∧ n = 0 then va_up (σ.2.2.1 k n) h (some h) else σ.2.2.1 k n) i = σ.2.2.1 k n i
    rw [if_neg h1]
    by_cases q : k = 454 ∧ n = 0
    · rw [if_pos q]
      unfold va_up
      rw [if_neg (fun r => hd (by omega))]
    · rw [if_neg q]
def tH (τ : PS) (h f : Nat) (act val ar : Int32) : PS := sI (sI (sI (sI (sI (sI (sI (sI (sI (sI (sI τ 500 0 14 (nI (h + 1))) 516 0 h (nI f)) 517 0 h act) 518 0 h val) 519 0 h ar) 521 0 (2 * h) (-1)) 522 0 (2 * h) (-2147483648)) 523 0 (2 * h) 2147483647) 521 0 (2 * h + 1) (-1)) 522 0 (2 * h + 1) (-2147483648)) 523 0 (2 * h + 1) 2147483647
theorem RR_H {z : Nat × Nat} {t f a0 : Nat} {σ τ : PS} {act val ar : Int32} (h : RR z t σ τ) (hf : f < z.1) (hz : z.2 < 40) (ha0 : a0 < 8) (hact : act = nI a0) (har : ar = 0 ∨ ar = 1) : ∃ p, gI σ 50 f 2 = nI p ∧ (p = 1 ∨ p = 2) ∧ RR (z.1, z.2 + 1) t (nH σ z.2 f p act val ar) (tH τ z.2 f act val ar) := by
  obtain ⟨own, pn, lc, la, od, ns, h1, h2, h3, h4, h5, h6, h7, h8, h9, h10, h11, h12, h13⟩ := h
  obtain ⟨-, -, ⟨pp1, pp2⟩, p3, -⟩ := h6.2.2.2 f hf
  refine ⟨pn f, p3, by omega, ?_⟩
  have a := ag_nH σ z.2 f (pn f) act val ar
  have hn := h13.2 z.2 (Nat.le_refl _) hz
  have b : ag (fun k _ i => k = 500 ∧ i = 14 ∨ (k = 516 ∨ k = 517 ∨ k = 518 ∨ k = 519) ∧ i = z.2 ∨ (k = 521 ∨ k = 522 ∨ k = 523) ∧ (i = 2 * z.2 ∨ i = 2 * z.2 + 1)) τ (tH τ z.2 f act val ar) := ag_t (ag_t (ag_t (ag_t (ag_t (ag_t (ag_t (ag_t (ag_t (ag_t (ag_sI (by omega)) (ag_sI (by omega))) (ag_sI (by omega))) (ag_sI (by omega))) (ag_sI (by omega))) (ag_sI (by omega))) (ag_sI (by omega))) (ag_sI (by omega))) (ag_sI (by omega))) (ag_sI (by omega))) (ag_sI (by omega))
  have e4 : gI (tH τ z.2 f act val ar) 500 0 4 = gI τ 500 0 4 := agI b (by omega)
  have hownf : ∀ x, x < z.2 → (if x = z.2 then f else own x) = own x := fun x hx => if_neg (by omega)
  have cT : rT (nH0 σ z.2 f (pn f) act val ar) (tH τ z.2 f act val ar) := rT_ag h1 a b (fun k n i q => by unfold DNH; omega) (fun k n i q => by omega)
  have cB : gI τ 500 0 4 = 1 → rB (nH0 σ z.2 f (pn f) act val ar) (tH τ z.2 f act val ar) := fun q => rB_ag (h2 q).1 a b (fun k n i q => by unfold DNH; omega) (fun k n i q => by omega)
  have cS : rS ns (nH0 σ z.2 f (pn f) act val ar) (tH τ z.2 f act val ar) := rS_ag h4 a b (fun k n i q => by unfold DNH; omega) (fun k n i q => by omega)
  have cA : rA ns (nH0 σ z.2 f (pn f) act val ar) (tH τ z.2 f act val ar) := rA_ag h5 a b (fun k n i q => by unfold DNH; omega) (fun k n i q => by omega)
  have cF : rF z pn (nH0 σ z.2 f (pn f) act val ar) (tH τ z.2 f act val ar) := rF_ag h6 a b (fun k n i q => by unfold DNH; omega) (fun k n i q => by omega)
  have cV : rV (nH0 σ z.2 f (pn f) act val ar) (tH τ z.2 f act val ar) := rV_ag h10 a b (fun k n i q => by unfold DNH; omega) (fun k n i q => by omega)
  have cK : rK (nH0 σ z.2 f (pn f) act val ar) (tH τ z.2 f act val ar) := rK_ag h11 a b (fun k n i q => by unfold DNH; omega) (fun k n i q => by omega)
  have cM : ∀ g, g < z.1 → rM1 (pn g) g t (nH0 σ z.2 f (pn f) act val ar) (tH τ z.2 f act val ar) := fun g hg => rM1_ag (h12 g hg) a b (fun k n i q => by unfold DNH; omega) (fun k n i q => by omega)
  have eI : gI (nH σ z.2 f (pn f) act val ar) = gI (nH0 σ z.2 f (pn f) act val ar) := rfl
  have eL : gL (nH σ z.2 f (pn f) act val ar) = gL (nH0 σ z.2 f (pn f) act val ar) := rfl
  have eR : gR (nH σ z.2 f (pn f) act val ar) = gR (nH0 σ z.2 f (pn f) act val ar) := rfl
  refine ⟨(fun x => if x = z.2 then f else own x), pn, lc, la, od, ns, by unfold rT at cT ⊢; simp only [eI]; exact cT, fun q => ⟨by have := cB (by rw [← e4]; exact q); unfold rB at this ⊢; simp only [eI]; exact this, rO_ag (h2 (by rw [← e4]; exact q)).2 b (fun k n i q => by omega)⟩, fun q => h3 (by rw [← e4]; exact q), by unfold rS at cS ⊢; simp only [eI]; exact cS, by unfold rA at cA ⊢; simp only [eI]; exact cA, by unfold rF at cF ⊢; simp only [eI, eR]; exact cF, ?_, ?_, ?_, by unfold rV at cV ⊢; simp only [eI, eL]; exact cV, by unfold rK at cK ⊢; simp only [eI]; exact cK, fun g hg => by have := cM g hg; unfold rM1 rwE at this ⊢; simp only [eI, eL]; exact this, ?_⟩
  · refine ⟨by show z.2 + 1 ≤ 40; omega, ?_, by simp [tH, gI_sI], fun x hx => ?_⟩
    · simp [gI, nH, upd_a]
    · by_cases q : x = z.2
      · subst q
        simp only [if_true]
        have i100 : ∀ i, gI (nH σ z.2 f (pn f) act val ar) 100 z.2 i = if i = 1 then nI z.2 else if i = 2 then act else if i = 3 then val else if i = 4 then ar else 0 := fun i => by simp [gI, nH]
        have i106 : ∀ i, gI (nH σ z.2 f (pn f) act val ar) 106 z.2 i = -1 := fun i => by simp [gI, nH]
        have i107 : ∀ i, gI (nH σ z.2 f (pn f) act val ar) 107 z.2 i = -2147483648 := fun i => by simp [gI, nH]
        have i108 : ∀ i, gI (nH σ z.2 f (pn f) act val ar) 108 z.2 i = 2147483647 := fun i => by simp [gI, nH]
        have iN : ∀ k, (k = 106 ∨ k = 107 ∨ k = 108) → gN (nH σ z.2 f (pn f) act val ar) k z.2 = pn f := fun k hk => by
          show (if z.2 = z.2 ∧ (k = 106 ∨ k = 107 ∨ k = 108) then pn f else _) = _
          rw [if_pos ⟨rfl, hk⟩]
        refine ⟨⟨?_, hf, ?_, by simp [tH, gI_sI]⟩, ⟨by rw [i100]; rfl, ?_, ⟨a0, ha0, ?_⟩, ?_, ?_, ?_, ?_, ?_⟩, ⟨iN 106 (by omega), iN 107 (by omega), iN 108 (by omega)⟩, fun i hi => ?_⟩
        · simp [gR, nH, va_up]
        · simp [gR, nH]
        · rw [i100]; simp [tH, gI_sI]
        · rw [← hact]; simp [tH, gI_sI]
        · rw [i100]; simp [tH, gI_sI]
        · rw [i100]; simp [tH, gI_sI]
        · have : gI (tH τ z.2 f act val ar) 519 0 z.2 = ar := by simp [tH, gI_sI]
          rw [this]; exact har
        · rw [i100, agI b (by omega), hn]; rfl
        · left; rw [agI b (by omega), hn]
        · rw [i106, i107, i108]
          rcases (show i = 0 ∨ i = 1 by omega) with rfl | rfl
          · exact ⟨by simp [tH, gI_sI], Or.inl (by simp [tH, gI_sI]), by simp [tH, gI_sI], by simp [tH, gI_sI]⟩
          · exact ⟨by simp [tH, gI_sI], Or.inl (by simp [tH, gI_sI]), by simp [tH, gI_sI], by simp [tH, gI_sI]⟩
      · have hx' : x < z.2 := by have : x < z.2 + 1 := hx; omega
        simp only [if_neg q]
        obtain ⟨⟨q1, q2, q3, q4⟩, q5, q6⟩ := h7.2.2.2 x hx'
        have q5' : rHo (nH0 σ z.2 f (pn f) act val ar) (tH τ z.2 f act val ar) x := rHo_ag q5 a b (fun k n i r => by unfold DNH; omega) (fun k n i r => by omega)
        refine ⟨⟨by rw [eR]; exact (agR a (by unfold DNH; omega)).trans q1, q2, by rw [eR]; exact (agR a (by unfold DNH; omega)).trans q3, (agI b (by omega)).trans q4⟩, by unfold rHo at q5' ⊢; simp only [eI]; exact q5', ?_⟩
        obtain ⟨⟨n1, n2, n3⟩, n4⟩ := q6
        have gn : ∀ k, gN (nH σ z.2 f (pn f) act val ar) k x = gN σ k x := fun k => by
          show (if x = z.2 ∧ (k = 106 ∨ k = 107 ∨ k = 108) then _ else σ.2.2.2 k x) = _
          rw [if_neg (fun r => q r.1)]; rfl
        refine ⟨⟨by rw [gn, n1], by rw [gn, n2], by rw [gn, n3]⟩, fun i hi => ?_⟩
        have hi2 : i < 2 := by
          obtain ⟨-, -, ⟨-, g2⟩, -⟩ := h6.2.2.2 _ q2
          omega
        obtain ⟨m1, m2, m3, m4⟩ := n4 i hi
        have e1 : gI (nH σ z.2 f (pn f) act val ar) 106 x i = gI σ 106 x i := by rw [eI]; exact agI a (by unfold DNH; omega)
        have e2 : gI (nH σ z.2 f (pn f) act val ar) 107 x i = gI σ 107 x i := by rw [eI]; exact agI a (by unfold DNH; omega)
        have e3 : gI (nH σ z.2 f (pn f) act val ar) 108 x i = gI σ 108 x i := by rw [eI]; exact agI a (by unfold DNH; omega)
        rw [e1, e2, e3, agI b (by omega), agI b (by omega), agI b (by omega)]
        exact ⟨m1, m2, m3, m4⟩
  · intro x i hx hi
    by_cases q : x = z.2
    · subst q
      left
      unfold cdP
      rcases (show i = 0 ∨ i = 1 by omega) with rfl | rfl
      · simp [tH, gI_sI]
      · simp [tH, gI_sI]
    · have hx' : x < z.2 := by have : x < z.2 + 1 := hx; omega
      have : cdP (tH τ z.2 f act val ar) x i = cdP τ x i := agI b (by omega)
      rw [this]
      exact h8 x i hx' hi
  · intro g hg
    obtain ⟨l1, l2, l3, l4, l5, l6, l7⟩ := h9 g hg
    obtain ⟨-, -, ⟨-, g2⟩, -⟩ := h6.2.2.2 g hg
    have hlt : ∀ i, i < lc g → la g i < z.2 := fun i hi => (l1.2.2 i hi).2
    have hpl : ∀ x, x < z.2 → plP (tH τ z.2 f act val ar) x = plP τ x := fun x hx => by
      unfold plP
      rw [agI b (by omega)]
    have hk : ∀ x, x < z.2 → ∀ i, i < 2 → cdP (tH τ z.2 f act val ar) x i = cdP τ x i ∧ lwP (tH τ z.2 f act val ar) x i = lwP τ x i ∧ hgP (tH τ z.2 f act val ar) x i = hgP τ x i := fun x hx i hi => ⟨agI b (by omega), agI b (by omega), agI b (by omega)⟩
    have hmo : ∀ i j, i < lc g → j < lc g → moP (tH τ z.2 f act val ar) (pn g) (la g i) (la g j) = moP τ (pn g) (la g i) (la g j) := fun i j hi hj => moP_c (fun i => agI b (by omega)) (hk _ (hlt i hi)) (hk _ (hlt j hj)) g2
    refine ⟨⟨l1.1, by rw [eI]; exact (agI a (by unfold DNH; omega)).trans l1.2.1, fun i hi => ⟨by rw [eR]; exact (agR a (by unfold DNH; omega)).trans (l1.2.2 i hi).1, by show la g i < z.2 + 1; have := hlt i hi; omega⟩⟩, l2, fun x hx => ?_, ?_, fun i hi => ?_, ?_, fun k hk' => by rw [eI]; exact (agI a (by unfold DNH; omega)).trans (l7 k hk')⟩
    · by_cases q : x = z.2
      · subst q
        have : gI (tH τ z.2 f act val ar) 520 0 z.2 = 0 := by rw [agI b (by omega), hn]
        constructor
        · intro r
          unfold ldP at r
          rw [this] at r
          simp at r
        · rintro ⟨i, hi, e⟩
          have := hlt i hi; omega
      · have hx' : x < z.2 := by have : x < z.2 + 1 := hx; omega
        have : ldP (fun x => if x = z.2 then f else own x) (tH τ z.2 f act val ar) g x = ldP own τ g x := by
          unfold ldP
          rw [agI b (by omega)]
          simp only [if_neg q]
        rw [this]; exact l3 x hx'
    · rw [eI, agI a (show ¬ DNH z.2 50 g 8 by unfold DNH; omega), l4]
      exact mkS_congr (fun i hi => (hpl _ (hlt i hi)).symm)
    · rw [eI, agI a (show ¬ DNH z.2 57 g i by unfold DNH; omega), l5 i hi]
      exact mkS_congr (fun j hj => (hmo i j hi hj).symm)
    · intro k hk'
      obtain ⟨o1, o2, o3, o4⟩ := l6 k hk'
      refine ⟨o1, o2, fun i hi hl => ?_, fun i hi hl => ?_⟩
      · show moP (tH τ z.2 f act val ar) (pn g) (la g i) (la g (od g k)) = false
        rw [hmo i _ hi o1]; exact o3 i hi hl
      · obtain ⟨x, x1, x2, x3⟩ := o4 i hi hl
        refine ⟨x, x1, x2, ?_⟩
        show moP (tH τ z.2 f act val ar) (pn g) (la g x) (la g i) = true
        rw [hmo x i x1 (by omega)]; exact x3
  · exact ⟨fun g a1 a2 => by rw [agI b (by omega), agI b (by omega), agI b (by omega)]; exact h13.1 g a1 a2, fun x a1 a2 => by have a3 : z.2 + 1 ≤ x := a1; rw [agI b (by omega)]; exact h13.2 x (by omega) a2⟩
/-- the model's answers -/
theorem mM_function {z : Nat × Nat} {t : Nat} {σ τ : PS} (h : RR z t σ τ) (x1 : Int32) : (∃ r, (r = -2 ∧ (x1 < 1 ∨ ¬ x1 ≤ 2) ∨ r = -3 ∧ gI τ 500 0 4 = 0 ∧ (¬ x1 < 1 ∧ x1 ≤ 2) ∨ r = -4 ∧ gI τ 500 0 4 = 1 ∧ z.1 = 4 ∧ (¬ x1 < 1 ∧ x1 ≤ 2)) ∧ X10_function x1 τ = some (r, τ)) ∨ ∃ p, (p = 1 ∨ p = 2) ∧ x1 = nI p ∧ gI τ 500 0 4 = 1 ∧ z.1 < 4 ∧ X10_function x1 τ = some (nI z.1, tF τ z.1 p) := by
  obtain ⟨own, pn, lc, la, od, ns, h1, -, -, -, -, h6, -⟩ := h
  unfold X10_function
  by_cases k1 : x1 < 1
  · left; exact ⟨-2, Or.inl ⟨rfl, Or.inl k1⟩, by rw [if_pos k1]⟩
  · rw [if_neg k1]
    by_cases k2 : x1 ≤ 2
    · rw [if_pos k2]
      rcases h1.1.2 with k3 | k3
      · left; exact ⟨-3, Or.inr (Or.inl ⟨rfl, k3, k1, k2⟩), by rw [if_pos k3]⟩
      · rw [if_neg (by rw [k3]; decide), h6.2.2.1]
        have h4 := h6.1
        by_cases k4 : z.1 = 4
        · left; exact ⟨-4, Or.inr (Or.inr ⟨rfl, k3, k4, k1, k2⟩), by rw [k4, if_pos (by decide)]⟩
        · right
          have k5 : ¬ nI z.1 = (4 : Int32) := fun q => k4 ((nI_eq (a := z.1) (b := 4) (by omega) (by omega)).mp q)
          obtain ⟨p, hp, rfl⟩ := nI_of2 (x := x1) (M := 2) (n := 2) (by decide) (fun q => k1 (Int32.lt_trans q (by decide))) k2
          have hp0 : ¬ p = 0 := fun q => k1 (by rw [q]; decide)
          refine ⟨p, by omega, rfl, k3, by omega, ?_⟩
          rw [if_neg k5, ib_nI (by omega), gd_d (by omega), nm_b, ix_nI (by omega)]
          simp only [gI_k (show ¬ 500 = 510 by decide), h6.2.2.1, nm_b, nI_s]
          rw [gI_sI, if_pos ⟨rfl, rfl, rfl⟩, nI_pred]
          rfl
    · left; exact ⟨-2, Or.inl ⟨rfl, Or.inr k2⟩, by rw [if_neg k2]⟩
theorem mM_handler {z : Nat × Nat} {t : Nat} {σ τ : PS} (h : RR z t σ τ) (x1 x2 x3 x4 : Int32) (hx : x4 = 0 ∨ x4 = 1) : (∃ r, (r = -2 ∧ (X9_functionAt z x1 σ = some none ∨ ∃ f, f < z.1 ∧ x1 = nI f ∧ X9_functionAt z x1 σ = some (some f) ∧ (x2 < 0 ∨ ¬ x2 ≤ 7)) ∨ r = -4 ∧ z.2 = 40 ∧ ∃ f, f < z.1 ∧ x1 = nI f ∧ X9_functionAt z x1 σ = some (some f) ∧ ¬ x2 < 0 ∧ x2 ≤ 7) ∧ X10_handler x1 x2 x3 x4 τ = some (r, τ)) ∨ ∃ f a0, f < z.1 ∧ x1 = nI f ∧ X9_functionAt z x1 σ = some (some f) ∧ a0 < 8 ∧ x2 = nI a0 ∧ ¬ x2 < 0 ∧ x2 ≤ 7 ∧ z.2 < 40 ∧ X10_handler x1 x2 x3 x4 τ = some (nI z.2, tH τ z.2 f x2 x3 x4) := by
  have hfu := fuel_ge
  obtain ⟨own, pn, lc, la, od, ns, h1, -, -, -, -, h6, h7, -⟩ := h
  have h40 := h7.1
  unfold X10_handler
  rcases fnAt h6 x1 with ⟨e1, e2⟩ | ⟨f, hf, rfl, e1, e2⟩
  · left; exact ⟨-2, Or.inl ⟨rfl, Or.inl e1⟩, by rw [e2]; rfl⟩
  · have hf4 := h6.1
    rw [e2]
    simp only [Option.bind_some, if_neg (show ¬ (1 : Int32) = 0 by decide)]
    by_cases k1 : x2 < 0
    · left; exact ⟨-2, Or.inl ⟨rfl, Or.inr ⟨f, hf, rfl, e1, Or.inl k1⟩⟩, by rw [if_pos k1]⟩
    · rw [if_neg k1]
      by_cases k2 : x2 ≤ 7
      · rw [if_pos k2, h7.2.2.1]
        by_cases k3 : z.2 = 40
        · left; exact ⟨-4, Or.inr ⟨rfl, k3, f, hf, rfl, e1, k1, k2⟩, by rw [k3, if_pos (by decide)]⟩
        · right
          have k4 : ¬ nI z.2 = (40 : Int32) := fun q => k3 ((nI_eq (a := z.2) (b := 40) (by omega) (by omega)).mp q)
          obtain ⟨a0, ha, rfl⟩ := nI_of2 (x := x2) (M := 7) (n := 7) (by decide) k1 k2
          refine ⟨f, a0, hf, rfl, e1, by omega, rfl, k1, k2, by omega, ?_⟩
          have hB : isB x4 = true := by rcases hx with rfl | rfl <;> rfl
          obtain ⟨n, hn⟩ : ∃ n, fuel = n + 3 := ⟨fuel - 3, by omega⟩
          rw [if_neg k4]
          simp only [nm_b, nI_s, ib_nI (show z.2 < 2 ^ 31 by omega), gd_d (show z.2 < 40 by omega), ix_nI (show z.2 < 2 ^ 31 by omega), hB, gd_t]
          have m0 : (2 : Int32) * nI z.2 + 0 = nI (2 * z.2) := by rw [show (2 : Int32) = nI 2 from rfl, show (0 : Int32) = nI 0 from rfl, pk_mul, nI_add]; rfl
          have m1 : (2 : Int32) * nI z.2 + 1 = nI (2 * z.2 + 1) := by rw [show (2 : Int32) = nI 2 from rfl, show (1 : Int32) = nI 1 from rfl, pk_mul, nI_add]
          rw [hn, X10_handler_l85.eq_2, if_neg (by decide)]
          simp only [m0, ib_nI (show 2 * z.2 < 2 ^ 31 by omega), gd_d (show 2 * z.2 < 80 by omega), ix_nI (show 2 * z.2 < 2 ^ 31 by omega), nm_b, show (0 : Int32) + 1 = 1 by decide]
          rw [X10_handler_l85.eq_2, if_neg (by decide)]
          simp only [m1, ib_nI (show 2 * z.2 + 1 < 2 ^ 31 by omega), gd_d (show 2 * z.2 + 1 < 80 by omega), ix_nI (show 2 * z.2 + 1 < 2 ^ 31 by omega), nm_b, show (1 : Int32) + 1 = 2 by decide]
          rw [X10_handler_l85.eq_2, if_pos (by decide)]
          rfl
      · left; exact ⟨-2, Or.inl ⟨rfl, Or.inr ⟨f, hf, rfl, e1, Or.inr k2⟩⟩, by rw [if_neg k2]⟩

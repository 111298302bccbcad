/-! ===== what stays: two memories that agree but where D says ===== -/
def ag (D : Nat → Nat → Nat → Prop) (σ σ' : PS) : Prop := (∀ k n i, ¬ D k n i → gI σ' k n i = gI σ k n i ∧ gL σ' k n i = gL σ k n i ∧ gR σ' k n i = gR σ k n i) ∧ ∀ k n, gN σ' k n = gN σ k n
theorem ag_r {D : Nat → Nat → Nat → Prop} (σ : PS) : ag D σ σ := ⟨fun _ _ _ _ => ⟨rfl, rfl, rfl⟩, fun _ _ => rfl⟩
theorem ag_t {D : Nat → Nat → Nat → Prop} {a b c : PS} (h1 : ag D a b) (h2 : ag D b c) : ag D a c := ⟨fun k n i hd => ⟨(h2.1 k n i hd).1.trans (h1.1 k n i hd).1, (h2.1 k n i hd).2.1.trans (h1.1 k n i hd).2.1, (h2.1 k n i hd).2.2.trans (h1.1 k n i hd).2.2⟩, fun k n => (h2.2 k n).trans (h1.2 k n)⟩
theorem ag_m {D E : Nat → Nat → Nat → Prop} {a b : PS} (h : ag D a b) (hE : ∀ k n i, D k n i → E k n i) : ag E a b := ⟨fun k n i hd => h.1 k n i (fun q => hd (hE k n i q)), h.2⟩
theorem ag_sI {D : Nat → Nat → Nat → Prop} {σ : PS} {k n i : Nat} {v : Int32} (h : D k n i) : ag D σ (sI σ k n i v) := ⟨fun a b c hd => ⟨by rw [gI_sI, if_neg (fun q => hd (by rw [q.1, q.2.1, q.2.2]; exact h))], rfl, rfl⟩, fun _ _ => rfl⟩
theorem ag_sL {D : Nat → Nat → Nat → Prop} {σ : PS} {k n i : Nat} {v : Int64} (h : D k n i) : ag D σ (sL σ k n i v) := ⟨fun a b c hd => ⟨rfl, by rw [gL_sL, if_neg (fun q => hd (by rw [q.1, q.2.1, q.2.2]; exact h))], rfl⟩, fun _ _ => rfl⟩
theorem ag_sR {D : Nat → Nat → Nat → Prop} {σ : PS} {k n i : Nat} {v : Option Nat} (h : D k n i) : ag D σ (sR σ k n i v) := ⟨fun a b c hd => ⟨rfl, rfl, by rw [gR_sR, if_neg (fun q => hd (by rw [q.1, q.2.1, q.2.2]; exact h))]⟩, fun _ _ => rfl⟩
theorem ag_sM {D : Nat → Nat → Nat → Prop} {σ : PS} {k : Nat} {f : Nat → Int32} (h : ∀ i, D k 0 i) : ag D σ (sM σ k f) := ⟨fun a b c hd => ⟨by rw [gI_sM, if_neg (fun q => hd (by rw [q.1, q.2]; exact h c))], rfl, rfl⟩, fun _ _ => rfl⟩
theorem agI {D : Nat → Nat → Nat → Prop} {σ σ' : PS} (a : ag D σ σ') {k n i : Nat} (h : ¬ D k n i) : gI σ' k n i = gI σ k n i := (a.1 k n i h).1
theorem agL {D : Nat → Nat → Nat → Prop} {σ σ' : PS} (a : ag D σ σ') {k n i : Nat} (h : ¬ D k n i) : gL σ' k n i = gL σ k n i := (a.1 k n i h).2.1
theorem agR {D : Nat → Nat → Nat → Prop} {σ σ' : PS} (a : ag D σ σ') {k n i : Nat} (h : ¬ D k n i) : gR σ' k n i = gR σ k n i := (a.1 k n i h).2.2
section FR
variable {D E : Nat → Nat → Nat → Prop} {σ σ' τ τ' : PS}
theorem rT_ag (h : rT σ τ) (a : ag D σ σ') (b : ag E τ τ') (hD : ∀ k n i, (k = 400 ∨ k = 401 ∨ k = 402) → ¬ D k n i) (hE : ∀ k n i, (k = 500 ∧ i = 4 ∨ k = 501 ∨ k = 502 ∨ k = 504) → ¬ E k n i) : rT σ' τ' := by
  have e1 : ∀ i, gI σ' 400 0 i = gI σ 400 0 i := fun i => agI a (hD _ _ _ (by omega))
  have e2 : ∀ i, gI σ' 401 0 i = gI σ 401 0 i := fun i => agI a (hD _ _ _ (by omega))
  have e3 : ∀ i, gI σ' 402 0 i = gI σ 402 0 i := fun i => agI a (hD _ _ _ (by omega))
  have f1 : gI τ' 500 0 4 = gI τ 500 0 4 := agI b (hE _ _ _ (by omega))
  have f2 : ∀ i, gI τ' 501 0 i = gI τ 501 0 i := fun i => agI b (hE _ _ _ (by omega))
  have f3 : ∀ i, gI τ' 502 0 i = gI τ 502 0 i := fun i => agI b (hE _ _ _ (by omega))
  have f4 : ∀ i, gI τ' 504 0 i = gI τ 504 0 i := fun i => agI b (hE _ _ _ (by omega))
  unfold rT at h ⊢
  simp only [e1, e2, e3, f1, f2, f3, f4]
  exact h
theorem rB_ag (h : rB σ τ) (a : ag D σ σ') (b : ag E τ τ') (hD : ∀ k n i, k = 403 → ¬ D k n i) (hE : ∀ k n i, k = 503 → ¬ E k n i) : rB σ' τ' := by
  have e1 : ∀ i, gI σ' 403 0 i = gI σ 403 0 i := fun i => agI a (hD _ _ _ (by omega))
  have f1 : ∀ i, gI τ' 503 0 i = gI τ 503 0 i := fun i => agI b (hE _ _ _ (by omega))
  unfold rB at h ⊢
  simp only [e1, f1]
  exact h
theorem rO_ag (h : rO τ) (b : ag E τ τ') (hE : ∀ k n i, k = 503 → ¬ E k n i) : rO τ' := by
  have f1 : ∀ i, gI τ' 503 0 i = gI τ 503 0 i := fun i => agI b (hE _ _ _ (by omega))
  unfold rO at h ⊢
  simp only [f1]
  exact h
theorem rS_ag {ns : Nat} (h : rS ns σ τ) (a : ag D σ σ') (b : ag E τ τ') (hD : ∀ k n i, (k = 350 ∨ k = 351 ∨ k = 352) → ¬ D k n i) (hE : ∀ k n i, (k = 500 ∧ i = 5 ∨ k = 507 ∨ k = 508) → ¬ E k n i) : rS ns σ' τ' := by
  have e1 : gI σ' 350 0 2 = gI σ 350 0 2 := agI a (hD _ _ _ (by omega))
  have e2 : ∀ i, gI σ' 351 0 i = gI σ 351 0 i := fun i => agI a (hD _ _ _ (by omega))
  have e3 : ∀ i, gI σ' 352 0 i = gI σ 352 0 i := fun i => agI a (hD _ _ _ (by omega))
  have f1 : gI τ' 500 0 5 = gI τ 500 0 5 := agI b (hE _ _ _ (by omega))
  have f2 : ∀ i, gI τ' 507 0 i = gI τ 507 0 i := fun i => agI b (hE _ _ _ (by omega))
  have f3 : ∀ i, gI τ' 508 0 i = gI τ 508 0 i := fun i => agI b (hE _ _ _ (by omega))
  unfold rS at h ⊢
  simp only [e1, e2, e3, f1, f2, f3]
  exact h
theorem rA_ag {ns : Nat} (h : rA ns σ τ) (a : ag D σ σ') (b : ag E τ τ') (hD : ∀ k n i, k = 455 → ¬ D k n i) (hE : ∀ k n i, k = 525 → ¬ E k n i) : rA ns σ' τ' := by
  have e1 : ∀ i, gI σ' 455 0 i = gI σ 455 0 i := fun i => agI a (hD _ _ _ (by omega))
  have f1 : ∀ i, gI τ' 525 0 i = gI τ 525 0 i := fun i => agI b (hE _ _ _ (by omega))
  unfold rA at h ⊢
  simp only [e1, f1]
  exact h
theorem rF_ag {z : Nat × Nat} {pn : Nat → Nat} (h : rF z pn σ τ) (a : ag D σ σ') (b : ag E τ τ') (hD : ∀ k n i, (k = 450 ∧ i = 9 ∨ k = 453 ∨ k = 50 ∧ (i = 1 ∨ i = 2 ∨ i = 9)) → ¬ D k n i) (hE : ∀ k n i, (k = 500 ∧ i = 8 ∨ k = 510 ∨ k = 511) → ¬ E k n i) : rF z pn σ' τ' := by
  have e1 : gI σ' 450 0 9 = gI σ 450 0 9 := agI a (hD _ _ _ (by omega))
  have e2 : ∀ i, gR σ' 453 0 i = gR σ 453 0 i := fun i => agR a (hD _ _ _ (by omega))
  have e3 : ∀ f, gI σ' 50 f 1 = gI σ 50 f 1 := fun i => agI a (hD _ _ _ (by omega))
  have e4 : ∀ f, gI σ' 50 f 2 = gI σ 50 f 2 := fun i => agI a (hD _ _ _ (by omega))
  have e5 : ∀ f, gI σ' 50 f 9 = gI σ 50 f 9 := fun i => agI a (hD _ _ _ (by omega))
  have f1 : gI τ' 500 0 8 = gI τ 500 0 8 := agI b (hE _ _ _ (by omega))
  have f2 : ∀ i, gI τ' 510 0 i = gI τ 510 0 i := fun i => agI b (hE _ _ _ (by omega))
  have f3 : ∀ i, gI τ' 511 0 i = gI τ 511 0 i := fun i => agI b (hE _ _ _ (by omega))
  unfold rF at h ⊢
  simp only [e1, e2, e3, e4, e5, f1, f2, f3]
  exact h
theorem rHo_ag {g : Nat} (h : rHo σ τ g) (a : ag D σ σ') (b : ag E τ τ') (hD : ∀ k n i, (k = 100 ∧ n = g) → ¬ D k n i) (hE : ∀ k n i, (k = 517 ∨ k = 518 ∨ k = 519 ∨ k = 520) ∧ i = g → ¬ E k n i) : rHo σ' τ' g := by
  have e1 : ∀ i, gI σ' 100 g i = gI σ 100 g i := fun i => agI a (hD _ _ _ (by omega))
  have f1 : gI τ' 517 0 g = gI τ 517 0 g := agI b (hE _ _ _ (by omega))
  have f2 : gI τ' 518 0 g = gI τ 518 0 g := agI b (hE _ _ _ (by omega))
  have f3 : gI τ' 519 0 g = gI τ 519 0 g := agI b (hE _ _ _ (by omega))
  have f4 : gI τ' 520 0 g = gI τ 520 0 g := agI b (hE _ _ _ (by omega))
  unfold rHo at h ⊢
  simp only [e1, f1, f2, f3, f4]
  exact h
theorem rHp_ag {p g : Nat} (h : rHp p σ τ g) (a : ag D σ σ') (b : ag E τ τ') (hD : ∀ k n i, (k = 106 ∨ k = 107 ∨ k = 108) ∧ n = g → ¬ D k n i) (hE : ∀ k n i, (k = 521 ∨ k = 522 ∨ k = 523) → ¬ E k n i) : rHp p σ' τ' g := by
  have e1 : ∀ i, gI σ' 106 g i = gI σ 106 g i := fun i => agI a (hD _ _ _ (by omega))
  have e2 : ∀ i, gI σ' 107 g i = gI σ 107 g i := fun i => agI a (hD _ _ _ (by omega))
  have e3 : ∀ i, gI σ' 108 g i = gI σ 108 g i := fun i => agI a (hD _ _ _ (by omega))
  have e4 : ∀ k, gN σ' k g = gN σ k g := fun k => a.2 k g
  have f1 : ∀ i, gI τ' 521 0 i = gI τ 521 0 i := fun i => agI b (hE _ _ _ (by omega))
  have f2 : ∀ i, gI τ' 522 0 i = gI τ 522 0 i := fun i => agI b (hE _ _ _ (by omega))
  have f3 : ∀ i, gI τ' 523 0 i = gI τ 523 0 i := fun i => agI b (hE _ _ _ (by omega))
  unfold rHp at h ⊢
  simp only [e1, e2, e3, e4, f1, f2, f3]
  exact h
theorem rH_ag {z : Nat × Nat} {own pn : Nat → Nat} (h : rH z own pn σ τ) (a : ag D σ σ') (b : ag E τ τ') (hD : ∀ k n i, (k = 450 ∧ i = 10 ∨ k = 454 ∨ k = 100 ∨ k = 106 ∨ k = 107 ∨ k = 108) → ¬ D k n i) (hE : ∀ k n i, (k = 500 ∧ i = 14 ∨ k = 516 ∨ k = 517 ∨ k = 518 ∨ k = 519 ∨ k = 520 ∨ k = 521 ∨ k = 522 ∨ k = 523) → ¬ E k n i) : rH z own pn σ' τ' := by
  obtain ⟨h1, h2, h3, h4⟩ := h
  refine ⟨h1, (agI a (hD _ _ _ (by omega))).trans h2, (agI b (hE _ _ _ (by omega))).trans h3, fun g hg => ?_⟩
  obtain ⟨⟨a1, a2, a3, a4⟩, a5, a6⟩ := h4 g hg
  exact ⟨⟨(agR a (hD _ _ _ (by omega))).trans a1, a2, (agR a (hD _ _ _ (by omega))).trans a3, (agI b (hE _ _ _ (by omega))).trans a4⟩, rHo_ag a5 a b (fun k n i q => hD _ _ _ (by omega)) (fun k n i q => hE _ _ _ (by omega)), rHp_ag a6 a b (fun k n i q => hD _ _ _ (by omega)) (fun k n i q => hE _ _ _ (by omega))⟩
theorem rQ_ag {n : Nat} (h : rQ n τ) (b : ag E τ τ') (hE : ∀ k n i, k = 521 → ¬ E k n i) : rQ n τ' := by
  have f1 : ∀ i, gI τ' 521 0 i = gI τ 521 0 i := fun i => agI b (hE _ _ _ (by omega))
  unfold rQ cdP at h ⊢
  simp only [f1]
  exact h
theorem cdP_ag (b : ag E τ τ') (hE : ∀ k n i, k = 521 → ¬ E k n i) (h i : Nat) : cdP τ' h i = cdP τ h i := agI b (hE _ _ _ rfl)
theorem lwP_ag (b : ag E τ τ') (hE : ∀ k n i, k = 522 → ¬ E k n i) (h i : Nat) : lwP τ' h i = lwP τ h i := agI b (hE _ _ _ rfl)
theorem hgP_ag (b : ag E τ τ') (hE : ∀ k n i, k = 523 → ¬ E k n i) (h i : Nat) : hgP τ' h i = hgP τ h i := agI b (hE _ _ _ rfl)
theorem moP_ag (b : ag E τ τ') (hE : ∀ k n i, (k = 503 ∨ k = 521 ∨ k = 522 ∨ k = 523) → ¬ E k n i) (p h g : Nat) : moP τ' p h g = moP τ p h g := by
  have c1 := fun h i => cdP_ag b (fun k n i q => hE k n i (by omega)) h i
  have c2 := fun h i => lwP_ag b (fun k n i q => hE k n i (by omega)) h i
  have c3 := fun h i => hgP_ag b (fun k n i q => hE k n i (by omega)) h i
  have c4 : ∀ i, gI τ' 503 0 i = gI τ 503 0 i := fun i => agI b (hE _ _ _ (by omega))
  have s1 : ∀ h g i, smP τ' h g i = smP τ h g i := fun h g i => by unfold smP; simp only [c1, c2, c3]
  have s2 : ∀ h g i, nrP τ' h g i = nrP τ h g i := fun h g i => by unfold nrP blP; simp only [c1, c2, c3, c4, s1]
  have s3 : ∀ k i, allP τ' h g k i = allP τ h g k i := by
    intro k
    induction k with
    | zero => intro i; rfl
    | succ k ih => intro i; unfold allP; rw [s1, s2, ih]
  have s4 : ∀ k i, anyP τ' h g k i = anyP τ h g k i := by
    intro k
    induction k with
    | zero => intro i; rfl
    | succ k ih => intro i; unfold anyP; rw [s2, ih]
  unfold moP
  rw [s3, s4]
end FR

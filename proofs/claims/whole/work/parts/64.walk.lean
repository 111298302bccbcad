/-! ===== the model's walk over tuples ===== -/
def vcl (τ : PS) (c : Nat) : Prop := c < 12 ∧ gI τ 504 0 c = 0
theorem ncM (τ : PS) {c : Nat} (hc : c ≤ 12) : ∃ c', c ≤ c' ∧ c' ≤ 12 ∧ (c' < 12 → gI τ 504 0 c' = 0) ∧ (∀ x, c ≤ x → x < c' → ¬ gI τ 504 0 x = 0) ∧ X10_nextClass (nI c) τ = some (nI c') := by
  have hfu := fuel_ge
  have key : ∀ (n i : Nat), i ≤ 12 → 12 - i < n → ∃ c', i ≤ c' ∧ c' ≤ 12 ∧ (c' < 12 → gI τ 504 0 c' = 0) ∧ (∀ x, i ≤ x → x < c' → ¬ gI τ 504 0 x = 0) ∧ X10_nextClass_l2 τ (fun v2 => X10_nextClass_c23 τ v2) n (nI i) = some (nI c') := by
    intro n
    induction n with
    | zero => intro i hi hn; omega
    | succ n ih =>
      intro i hi hn
      rw [X10_nextClass_l2.eq_2]
      by_cases he : i = 12
      · subst he
        rw [if_pos (by decide)]
        exact ⟨12, by omega, by omega, fun q => by omega, fun x a b => by omega, rfl⟩
      · have hlt : i < 12 := by omega
        rw [if_neg (show ¬ (12 : Int32) ≤ nI i from nI_ge (b := 12) hlt (by omega)), ib_nI (by omega), gd_d hlt, ix_nI (by omega)]
        by_cases k : gI τ 504 0 i = 0
        · rw [if_pos k]
          exact ⟨i, Nat.le_refl _, by omega, fun _ => k, fun x a b => by omega, rfl⟩
        · rw [if_neg k, nI_s]
          obtain ⟨c', h1, h2, h3, h4, h5⟩ := ih (i + 1) (by omega) (by omega)
          refine ⟨c', by omega, h2, h3, fun x a b => ?_, h5⟩
          rcases Nat.lt_or_ge i x with q | q
          · exact h4 x (by omega) b
          · have : x = i := by omega
            subst this; exact k
  exact key fuel c hc (by omega)
/-- where the walk stands at a place -/
def wk1 (i em : Nat) (e : Nat → Int32) (c j : Nat) (τ : PS) : Prop := vcl τ c ∧ j < em ∧ em ≤ 17 ∧ e 0 = -2147483648 ∧ gI τ 532 0 i = nI c ∧ gL τ 533 0 i = (e j).toInt64 ∧ gI τ 538 0 i = nI j ∧ gI τ 537 0 i = nI em ∧ ∀ x, x < em → gL τ 536 0 (34 * i + x) = (e x).toInt64
theorem wk1_ag {D : Nat → Nat → Nat → Prop} {i em c j : Nat} {e : Nat → Int32} {τ τ' : PS} (h : wk1 i em e c j τ) (a : ag D τ τ') (hD : ∀ k n x, ((k = 532 ∨ k = 533 ∨ k = 538 ∨ k = 537) ∧ x = i ∨ k = 536 ∧ 34 * i ≤ x ∧ x < 34 * i + 34 ∨ k = 504) → ¬ D k n x) : wk1 i em e c j τ' := by
  obtain ⟨⟨h1, h2⟩, h3, h4, h5, h6, h7, h8, h9, h10⟩ := h
  exact ⟨⟨h1, (agI a (hD _ _ _ (by omega))).trans h2⟩, h3, h4, h5, (agI a (hD _ _ _ (by omega))).trans h6, (agL a (hD _ _ _ (by omega))).trans h7, (agI a (hD _ _ _ (by omega))).trans h8, (agI a (hD _ _ _ (by omega))).trans h9, fun x hx => (agL a (hD _ _ _ (by omega))).trans (h10 x hx)⟩
/-- the next one at a place; none; the first class -/
def sc2 (τ : PS) (em c j c' j' : Nat) : Prop := (j + 1 < em ∧ c' = c ∧ j' = j + 1) ∨ (¬ j + 1 < em ∧ j' = 0 ∧ c < c' ∧ vcl τ c' ∧ ∀ x, c < x → x < c' → ¬ gI τ 504 0 x = 0)
def noS (τ : PS) (em c j : Nat) : Prop := ¬ j + 1 < em ∧ ∀ x, c < x → x < 12 → ¬ gI τ 504 0 x = 0
def fsc (τ : PS) (c : Nat) : Prop := vcl τ c ∧ ∀ x, x < c → ¬ gI τ 504 0 x = 0
def DWK : Nat → Nat → Nat → Prop := fun k _ _ => k = 532 ∨ k = 533 ∨ k = 538
def DWi (i : Nat) : Nat → Nat → Nat → Prop := fun k _ x => (k = 532 ∨ k = 533 ∨ k = 538) ∧ x = i
theorem fsc_of {τ : PS} {c : Nat} (h : vcl τ c) : ∃ c0, c0 ≤ c ∧ fsc τ c0 ∧ X10_nextClass 0 τ = some (nI c0) := by
  obtain ⟨c', h1, h2, h3, h4, h5⟩ := ncM τ (c := 0) (by omega)
  have : c' ≤ c := by
    rcases Nat.lt_or_ge c c' with q | q
    · exact absurd h.2 (h4 c (by omega) q)
    · exact q
  exact ⟨c', this, ⟨⟨by have := h.1; omega, h3 (by have := h.1; omega)⟩, fun x hx => h4 x (by omega) hx⟩, h5⟩
theorem stepM {i em c j : Nat} {e : Nat → Int32} {τ : PS} (hi : i < 2) (h : wk1 i em e c j τ) (kx : PS → Option (Int32 × PS)) (n : Nat) :
    (∃ c' j' τ', sc2 τ em c j c' j' ∧ X10_nextAt_l49 kx (n + 1) (nI i) τ = some (1, τ') ∧ wk1 i em e c' j' τ' ∧ ag (DWi i) τ τ') ∨
    (∃ c' τ', noS τ em c j ∧ fsc τ c' ∧ X10_nextAt_l49 kx (n + 1) (nI i) τ = X10_nextAt_l49 kx n (nI i + (-1)) τ' ∧ wk1 i em e c' 0 τ' ∧ ag (DWi i) τ τ') := by
  obtain ⟨hv, h3, h4, h5, h6, h7, h8, h9, h10⟩ := id h
  have hc := hv.1
  rw [X10_nextAt_l49.eq_2, if_neg (nI_pos (by omega))]
  have e538 : gI (sI τ 538 0 i (nI (j + 1))) 538 0 i = nI (j + 1) := by simp [gI_sI]
  simp only [ib_nI (show i < 2 ^ 31 by omega), gd_d hi, ix_nI (show i < 2 ^ 31 by omega), nm_b, h8, nI_s, gI_k (show ¬ 537 = 538 by decide), h9, e538]
  by_cases k : j + 1 < em
  · left
    rw [if_neg (nI_ge k (by omega))]
    have e34 : (34 : Int32) * nI i + nI (j + 1) = nI (34 * i + (j + 1)) := by rw [show (34 : Int32) = nI 34 from rfl, pk_mul, nI_add]
    rw [e34, ib_nI (by omega), gd_d (by omega), ix_nI (by omega), gL_sI, h10 (j + 1) k]
    refine ⟨c, j + 1, _, Or.inl ⟨k, rfl, rfl⟩, rfl, ?_, ag_t (ag_sI (by unfold DWi; omega)) (ag_sL (by unfold DWi; omega))⟩
    exact ⟨⟨hc, by simpa [gI_sL, gI_sI] using hv.2⟩, k, h4, h5, by simpa [gI_sL, gI_sI] using h6, by simp [gL_sL], by simp [gI_sL, gI_sI], by simpa [gI_sL, gI_sI] using h9, fun x hx => by simpa [gL_sL, gL_sI] using h10 x hx⟩
  · rw [if_pos (nI_le (by omega) (by omega))]
    simp only [sI_sI, gI_sL, gI_k (show ¬ 532 = 538 by decide), h6, nI_s]
    have e504 : ∀ x, gI (sL (sI τ 538 0 i 0) 533 0 i (-2147483648)) 504 0 x = gI τ 504 0 x := fun x => by simp [gI_sL, gI_sI]
    obtain ⟨c', n1, n2, n3, n4, n5⟩ := ncM (sL (sI τ 538 0 i 0) 533 0 i (-2147483648)) (c := c + 1) (by omega)
    rw [n5]
    simp only [Option.bind_some, gI_sI, and_self, if_true, e504] at n3 n4 ⊢
    have hL0 : ((-2147483648 : Int64)) = (e 0).toInt64 := by rw [h5]; decide
    by_cases k2 : c' < 12
    · left
      rw [if_neg (show ¬ (12 : Int32) ≤ nI c' from nI_ge (b := 12) k2 (by omega))]
      refine ⟨c', 0, _, Or.inr ⟨k, rfl, by omega, ⟨k2, n3 k2⟩, fun x a b => n4 x (by omega) b⟩, rfl, ?_, ag_t (ag_t (ag_sI (by unfold DWi; omega)) (ag_sL (by unfold DWi; omega))) (ag_sI (by unfold DWi; omega))⟩
      exact ⟨⟨k2, by simpa [gI_sL, gI_sI] using n3 k2⟩, by omega, h4, h5, by simp [gI_sI], by rw [gL_sI, gL_sL, if_pos ⟨rfl, rfl, rfl⟩, hL0], by simp [gI_sL, gI_sI]; rfl, by simpa [gI_sL, gI_sI] using h9, fun x hx => by simpa [gL_sL, gL_sI] using h10 x hx⟩
    · right
      have ec : c' = 12 := by omega
      subst ec
      rw [if_pos (show (12 : Int32) ≤ nI 12 by decide)]
      have hv2 : vcl (sI (sL (sI τ 538 0 i 0) 533 0 i (-2147483648)) 532 0 i (nI 12)) c := ⟨hc, by simpa [gI_sL, gI_sI] using hv.2⟩
      obtain ⟨c0, -, f2, f3⟩ := fsc_of hv2
      rw [f3]
      simp only [Option.bind_some, sI_sI]
      have ef : fsc τ c0 := ⟨⟨f2.1.1, by have := f2.1.2; simpa [gI_sL, gI_sI] using this⟩, fun x hx => by have := f2.2 x hx; simpa [gI_sL, gI_sI] using this⟩
      refine ⟨c0, _, ⟨k, fun x a b => n4 x (by omega) b⟩, ef, rfl, ?_, ag_t (ag_t (ag_sI (by unfold DWi; omega)) (ag_sL (by unfold DWi; omega))) (ag_sI (by unfold DWi; omega))⟩
      exact ⟨⟨ef.1.1, by have := ef.1.2; simpa [gI_sL, gI_sI] using this⟩, by omega, h4, h5, by simp [gI_sI], by rw [gL_sI, gL_sL, if_pos ⟨rfl, rfl, rfl⟩, hL0], by simp [gI_sL, gI_sI]; rfl, by simpa [gI_sL, gI_sI] using h9, fun x hx => by simpa [gL_sL, gL_sI] using h10 x hx⟩
theorem sc2_ag {D : Nat → Nat → Nat → Prop} {τ τ' : PS} {em c j c' j' : Nat} (a : ag D τ τ') (hD : ∀ k n x, k = 504 → ¬ D k n x) (h : sc2 τ' em c j c' j') : sc2 τ em c j c' j' := by
  have e : ∀ x, gI τ' 504 0 x = gI τ 504 0 x := fun x => agI a (hD _ _ _ rfl)
  unfold sc2 vcl at h ⊢
  simp only [e] at h
  exact h
theorem noS_ag {D : Nat → Nat → Nat → Prop} {τ τ' : PS} {em c j : Nat} (a : ag D τ τ') (hD : ∀ k n x, k = 504 → ¬ D k n x) (h : noS τ' em c j) : noS τ em c j := by
  have e : ∀ x, gI τ' 504 0 x = gI τ 504 0 x := fun x => agI a (hD _ _ _ rfl)
  unfold noS at h ⊢
  simp only [e] at h
  exact h
theorem fsc_ag {D : Nat → Nat → Nat → Prop} {τ τ' : PS} {c : Nat} (a : ag D τ τ') (hD : ∀ k n x, k = 504 → ¬ D k n x) (h : fsc τ' c) : fsc τ c := by
  have e : ∀ x, gI τ' 504 0 x = gI τ 504 0 x := fun x => agI a (hD _ _ _ rfl)
  unfold fsc vcl at h ⊢
  simp only [e] at h
  exact h
/-- one place: the next tuple -/
theorem nxA {f em c j : Nat} {e : Nat → Int32} {τ : PS} (hf : f < 4) (hp : gI τ 510 0 f = nI 1) (h : wk1 0 em e c j τ) :
    (∃ c' j' τ', sc2 τ em c j c' j' ∧ X10_nextAt (nI f) 0 τ = some (1, τ') ∧ wk1 0 em e c' j' τ' ∧ ag DWK τ τ') ∨
    (∃ τ', noS τ em c j ∧ X10_nextAt (nI f) 0 τ = some (0, τ') ∧ ag DWK τ τ') := by
  have hfu := fuel_ge
  obtain ⟨n, hn⟩ : ∃ n, fuel = n + 2 := ⟨fuel - 2, by omega⟩
  have e0 : X10_nextAt (nI f) 0 τ = X10_nextAt_l49 (fun σ => X10_nextAt_c166 σ) (n + 1 + 1) (nI 0) τ := by
    unfold X10_nextAt
    rw [ib_nI (by omega), gd_d hf, nm_b, ix_nI (by omega), hp]
    have : X10_nextAt_l9 (fun v2 σ => X10_nextAt_c47 v2 σ) fuel 0 (nI 1 - 1) τ = X10_nextAt_c47 0 τ := by
      rw [hn, X10_nextAt_l9.eq_2, if_pos (by decide)]
    rw [this]
    unfold X10_nextAt_c47
    rw [hn]; rfl
  rw [e0]
  rcases stepM (by omega) h (fun σ => X10_nextAt_c166 σ) (n + 1) with ⟨c', j', τ', s1, s2, s3, s4⟩ | ⟨c', τ', s1, s2, s3, s4, s5⟩
  · exact Or.inl ⟨c', j', τ', s1, s2, s3, ag_m s4 (fun k n i q => by unfold DWi at q; unfold DWK; omega)⟩
  · refine Or.inr ⟨τ', s1, ?_, ag_m s5 (fun k n i q => by unfold DWi at q; unfold DWK; omega)⟩
    rw [s3, X10_nextAt_l49.eq_2, if_pos (show nI 0 + (-1) < 0 by decide)]
    rfl
/-- two places: the next tuple -/
theorem nxB {f em0 c0 j0 em1 c1 j1 : Nat} {e0 e1 : Nat → Int32} {τ : PS} (hf : f < 4) (hp : gI τ 510 0 f = nI 2) (h0 : wk1 0 em0 e0 c0 j0 τ) (h1 : wk1 1 em1 e1 c1 j1 τ) :
    (∃ c' j' τ', sc2 τ em1 c1 j1 c' j' ∧ X10_nextAt (nI f) 1 τ = some (1, τ') ∧ wk1 0 em0 e0 c0 j0 τ' ∧ wk1 1 em1 e1 c' j' τ' ∧ ag DWK τ τ') ∨
    (∃ c' j' c1' τ', noS τ em1 c1 j1 ∧ sc2 τ em0 c0 j0 c' j' ∧ fsc τ c1' ∧ X10_nextAt (nI f) 1 τ = some (1, τ') ∧ wk1 0 em0 e0 c' j' τ' ∧ wk1 1 em1 e1 c1' 0 τ' ∧ ag DWK τ τ') ∨
    (∃ τ', noS τ em1 c1 j1 ∧ noS τ em0 c0 j0 ∧ X10_nextAt (nI f) 1 τ = some (0, τ') ∧ ag DWK τ τ') := by
  have hfu := fuel_ge
  obtain ⟨n, hn⟩ : ∃ n, fuel = n + 3 := ⟨fuel - 3, by omega⟩
  have e0 : X10_nextAt (nI f) 1 τ = X10_nextAt_l49 (fun σ => X10_nextAt_c166 σ) (n + 2 + 1) (nI 1) τ := by
    unfold X10_nextAt
    rw [ib_nI (by omega), gd_d hf, nm_b, ix_nI (by omega), hp]
    have : X10_nextAt_l9 (fun v2 σ => X10_nextAt_c47 v2 σ) fuel 1 (nI 2 - 1) τ = X10_nextAt_c47 1 τ := by
      rw [hn, X10_nextAt_l9.eq_2, if_pos (by decide)]
    rw [this]
    unfold X10_nextAt_c47
    rw [hn]; rfl
  rw [e0]
  rcases stepM (by omega) h1 (fun σ => X10_nextAt_c166 σ) (n + 2) with ⟨c', j', τ', s1, s2, s3, s4⟩ | ⟨c1', τ1, s1, s2, s3, s4, s5⟩
  · exact Or.inl ⟨c', j', τ', s1, s2, wk1_ag h0 s4 (fun k n x q => by unfold DWi; omega), s3, ag_m s4 (fun k n i q => by unfold DWi at q; unfold DWK; omega)⟩
  · have h0' := wk1_ag h0 s5 (fun k n x q => by unfold DWi; omega)
    have hm : nI 1 + (-1) = nI 0 := by decide
    rw [s3, hm]
    rcases stepM (by omega) h0' (fun σ => X10_nextAt_c166 σ) (n + 1) with ⟨c', j', τ', t1, t2, t3, t4⟩ | ⟨c', τ', t1, t2, t3, t4, t5⟩
    · refine Or.inr (Or.inl ⟨c', j', c1', τ', s1, sc2_ag s5 (fun k n x q => by unfold DWi; omega) t1, s2, t2, t3, wk1_ag s4 t4 (fun k n x q => by unfold DWi; omega), ag_t (ag_m s5 (fun k n i q => by unfold DWi at q; unfold DWK; omega)) (ag_m t4 (fun k n i q => by unfold DWi at q; unfold DWK; omega))⟩)
    · refine Or.inr (Or.inr ⟨τ', s1, noS_ag s5 (fun k n x q => by unfold DWi; omega) t1, ?_, ag_t (ag_m s5 (fun k n i q => by unfold DWi at q; unfold DWK; omega)) (ag_m t5 (fun k n i q => by unfold DWi at q; unfold DWK; omega))⟩)
      rw [t3, X10_nextAt_l49.eq_2, if_pos (show nI 0 + (-1) < 0 by decide)]
      rfl
/-- two places: the next one at place 0, place 1 from its start -/
theorem nxC {f em0 c0 j0 em1 c1 j1 : Nat} {e0 e1 : Nat → Int32} {τ : PS} (hf : f < 4) (hp : gI τ 510 0 f = nI 2) (h0 : wk1 0 em0 e0 c0 j0 τ) (h1 : wk1 1 em1 e1 c1 j1 τ) :
    (∃ c' j' c1' τ', sc2 τ em0 c0 j0 c' j' ∧ fsc τ c1' ∧ X10_nextAt (nI f) 0 τ = some (1, τ') ∧ wk1 0 em0 e0 c' j' τ' ∧ wk1 1 em1 e1 c1' 0 τ' ∧ ag DWK τ τ') ∨
    (∃ τ', noS τ em0 c0 j0 ∧ X10_nextAt (nI f) 0 τ = some (0, τ') ∧ ag DWK τ τ') := by
  have hfu := fuel_ge
  obtain ⟨n, hn⟩ : ∃ n, fuel = n + 3 := ⟨fuel - 3, by omega⟩
  obtain ⟨hv, h3, h4, h5, h6, h7, h8, h9, h10⟩ := id h1
  obtain ⟨c1', -, f2, f3⟩ := fsc_of hv
  have hL0 : ((-2147483648 : Int64)) = (e1 0).toInt64 := by rw [h5]; decide
  have e0 : X10_nextAt (nI f) 0 τ = X10_nextAt_l49 (fun σ => X10_nextAt_c166 σ) (n + 2 + 1) (nI 0) (sI (sL (sI τ 532 0 1 (nI c1')) 533 0 1 (-2147483648)) 538 0 1 0) := by
    unfold X10_nextAt
    rw [ib_nI (by omega), gd_d hf, nm_b, ix_nI (by omega), hp]
    have : X10_nextAt_l9 (fun v2 σ => X10_nextAt_c47 v2 σ) fuel 0 (nI 2 - 1) τ = X10_nextAt_c47 0 (sI (sL (sI τ 532 0 1 (nI c1')) 533 0 1 (-2147483648)) 538 0 1 0) := by
      rw [hn, X10_nextAt_l9.eq_2, if_neg (by decide), f3]
      simp only [Option.bind_some, show nI 2 - 1 = nI 1 by decide, ib_nI (show 1 < 2 ^ 31 by omega), gd_d (show 1 < 2 by omega), ix_nI (show 1 < 2 ^ 31 by omega), nm_b]
      rw [X10_nextAt_l9.eq_2, if_pos (by decide)]
    rw [this]
    unfold X10_nextAt_c47
    rw [hn]; rfl
  have g1 : ag (DWi 1) τ (sI (sL (sI τ 532 0 1 (nI c1')) 533 0 1 (-2147483648)) 538 0 1 0) := ag_t (ag_t (ag_sI (by unfold DWi; omega)) (ag_sL (by unfold DWi; omega))) (ag_sI (by unfold DWi; omega))
  have h0' := wk1_ag h0 g1 (fun k n x q => by unfold DWi; omega)
  have h1' : wk1 1 em1 e1 c1' 0 (sI (sL (sI τ 532 0 1 (nI c1')) 533 0 1 (-2147483648)) 538 0 1 0) := ⟨⟨f2.1.1, by have := f2.1.2; simpa [gI_sL, gI_sI] using this⟩, by omega, h4, h5, by simp [gI_sL, gI_sI], by rw [gL_sI, gL_sL, if_pos ⟨rfl, rfl, rfl⟩, hL0], by simp [gI_sI]; rfl, by simpa [gI_sL, gI_sI] using h9, fun x hx => by simpa [gL_sL, gL_sI] using h10 x hx⟩
  rw [e0]
  generalize sI (sL (sI τ 532 0 1 (nI c1')) 533 0 1 (-2147483648)) 538 0 1 0 = τ1 at g1 h0' h1' ⊢
  rcases stepM (by omega) h0' (fun σ => X10_nextAt_c166 σ) (n + 2) with ⟨c', j', τ', t1, t2, t3, t4⟩ | ⟨c', τ', t1, t2, t3, t4, t5⟩
  · exact Or.inl ⟨c', j', c1', τ', sc2_ag g1 (fun k n x q => by unfold DWi; omega) t1, f2, t2, t3, wk1_ag h1' t4 (fun k n x q => by unfold DWi; omega), ag_t (ag_m g1 (fun k n i q => by unfold DWi at q; unfold DWK; omega)) (ag_m t4 (fun k n i q => by unfold DWi at q; unfold DWK; omega))⟩
  · refine Or.inr ⟨τ', noS_ag g1 (fun k n x q => by unfold DWi; omega) t1, ?_, ag_t (ag_m g1 (fun k n i q => by unfold DWi at q; unfold DWK; omega)) (ag_m t5 (fun k n i q => by unfold DWi at q; unfold DWK; omega))⟩
    rw [t3, X10_nextAt_l49.eq_2, if_pos (show nI 0 + (-1) < 0 by decide)]
    rfl

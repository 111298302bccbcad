/-! ===== compareLaid, whole ===== -/
def CH (z : Nat × Nat) (own pn : Nat → Nat) (σ τ : PS) : Prop := rB σ τ ∧ rO τ ∧ rQ z.2 τ ∧ rF z pn σ τ ∧ rH z own pn σ τ
theorem CH_ag {D E : Nat → Nat → Nat → Prop} {σ σ' τ τ' : PS} {z : Nat × Nat} {own pn : Nat → Nat} (h : CH z own pn σ τ) (a : ag D σ σ') (b : ag E τ τ') (hD : ∀ k n i, (k = 403 ∨ k = 450 ∧ (i = 9 ∨ i = 10) ∨ k = 453 ∨ k = 454 ∨ k = 50 ∧ (i = 1 ∨ i = 2 ∨ i = 9) ∨ k = 100 ∨ k = 106 ∨ k = 107 ∨ k = 108) → ¬ D k n i) (hE : ∀ k n i, (k = 503 ∨ k = 500 ∧ (i = 8 ∨ i = 14) ∨ k = 510 ∨ k = 511 ∨ k = 516 ∨ k = 517 ∨ k = 518 ∨ k = 519 ∨ k = 520 ∨ k = 521 ∨ k = 522 ∨ k = 523) → ¬ E k n i) : CH z own pn σ' τ' := by
  obtain ⟨h1, h2, h3, h4, h5⟩ := h
  exact ⟨rB_ag h1 a b (fun k n i q => hD k n i (by omega)) (fun k n i q => hE k n i (by omega)), rO_ag h2 b (fun k n i q => hE k n i (by omega)), rQ_ag h3 b (fun k n i q => hE k n i (by omega)), rF_ag h4 a b (fun k n i q => hD k n i (by omega)) (fun k n i q => hE k n i (by omega)), rH_ag h5 a b (fun k n i q => hD k n i (by omega)) (fun k n i q => hE k n i (by omega))⟩
theorem rLd_ag {D : Nat → Nat → Nat → Prop} {σ σ' : PS} {z : Nat × Nat} {f lc : Nat} {la : Nat → Nat} (h : rLd z f lc la σ) (a : ag D σ σ') (hD : ∀ k n i, (n = f ∧ (k = 50 ∧ i = 7 ∨ k = 56)) → ¬ D k n i) : rLd z f lc la σ' := ⟨h.1, (agI a (hD _ _ _ (by omega))).trans h.2.1, fun i hi => ⟨(agR a (hD _ _ _ (by omega))).trans (h.2.2 i hi).1, (h.2.2 i hi).2⟩⟩
theorem cmp_i {z : Nat × Nat} {σ0 τ : PS} {own pn : Nat → Nat} {f lc : Nat} {la : Nat → Nat} (hC : CH z own pn σ0 τ) (hL : rLd z f lc la σ0) (ho : ∀ i, i < lc → own (la i) = f) (kx : Int32 → PS → Option PS) {i : Nat} (hi : i < lc) : ∀ (n j : Nat) (σ : PS), j ≤ lc → lc - j < n → ag (DCL f) σ0 σ → gI σ 57 f i = mkS j (fun b => moP τ (pn f) (la i) (la b)) → ∃ σ', X1_compareLaid_l48 z f kx n (nI i) (nI j) σ = kx (nI i) σ' ∧ ag (DCL f) σ0 σ' ∧ gI σ' 57 f i = mkS lc (fun b => moP τ (pn f) (la i) (la b)) ∧ (∀ a, ¬ a = i → gI σ' 57 f a = gI σ 57 f a) ∧ gI σ' 50 f 8 = gI σ 50 f 8 := by
  intro n
  induction n with
  | zero => intro j σ hj hn; omega
  | succ n ih =>
    intro j σ hj hn ha h57
    obtain ⟨hB, hO, hQ, hF, hH⟩ := CH_ag hC ha (ag_r (D := fun _ _ _ => False) τ) (fun k n i q => by unfold DCL; omega) (fun k n i q => id)
    obtain ⟨l1, l2, l3⟩ := rLd_ag hL ha (fun k n i q => by unfold DCL; omega)
    rw [X1_compareLaid_l48.eq_2, l2]
    by_cases he : j = lc
    · subst he
      rw [if_pos (nI_le (Nat.le_refl _) (by omega))]
      exact ⟨σ, rfl, ha, h57, fun _ _ => rfl, rfl⟩
    · have hlt : j < lc := by omega
      obtain ⟨a1, a2⟩ := l3 i hi
      obtain ⟨b1, b2⟩ := l3 j hlt
      have hm := moreC z hB hF hH a2 b2 (by rw [ho i hi, ho j hlt])
      rw [ho i hi] at hm
      rw [if_neg (nI_ge hlt (by omega)), ib_nI (show i < 2 ^ 31 by omega), gd_d (show i < 8 by omega), nm_b, ix_nI (show i < 2 ^ 31 by omega), a1, ib_nI (show j < 2 ^ 31 by omega), gd_d (show j < 8 by omega), nm_b, ix_nI (show j < 2 ^ 31 by omega), b1, dr_s b2, dr_s a2, hm]
      simp only [Option.bind_some, gd_d (show i < 8 by omega), nm_b, nI_s, h57]
      rcases hq : moP τ (pn f) (la i) (la j) with _ | _
      · rw [if_pos (by rfl)]
        exact ih (j + 1) σ (by omega) (by omega) ha (by rw [h57, mkS_s, if_neg (by rw [hq]; decide)])
      · rw [if_neg (by decide)]
        obtain ⟨σ', r1, r2, r3, r4, r5⟩ := ih (j + 1) (sI σ 57 f i (mkS j (fun b => moP τ (pn f) (la i) (la b)) ||| ((1 : Int32) <<< (nI j &&& 31)))) (by omega) (by omega) (ag_t ha (ag_sI (by unfold DCL; omega))) (by simp only [gI_sI, and_self, if_true]; rw [mkS_s, if_pos hq])
        refine ⟨σ', r1, r2, r3, fun a hne => ?_, ?_⟩
        · rw [r4 a hne, gI_sI, if_neg (fun q => hne q.2.2)]
        · rw [r5, gI_sI, if_neg (by omega)]
theorem cmpC {z : Nat × Nat} {σ0 τ : PS} {own pn : Nat → Nat} {f lc : Nat} {la : Nat → Nat} (hC : CH z own pn σ0 τ) (hL : rLd z f lc la σ0) (hf : f < z.1) (ho : ∀ i, i < lc → own (la i) = f) : ∃ σ' od, X1_compareLaid z f σ0 = some σ' ∧ ag (DCL f) σ0 σ' ∧ gI σ' 50 f 8 = mkS lc (fun i => plP τ (la i)) ∧ (∀ i, i < lc → gI σ' 57 f i = mkS lc (fun j => moP τ (pn f) (la i) (la j))) ∧ isO lc (fun i j => moP τ (pn f) (la i) (la j)) od ∧ (∀ k, k < lc → gI σ' 55 f k = nI (od k)) ∧ gI σ' 200 f 5 = 0 := by
  have hfu := fuel_ge
  have hlc := hL.1
  have hN : ∀ i, i < lc → la i < z.2 := fun i hi => (hL.2.2 i hi).2
  have key : ∀ (n i : Nat) (σ : PS), i ≤ lc → lc - i < n → ag (DCL f) σ0 σ → (∀ a, a < i → gI σ 57 f a = mkS lc (fun b => moP τ (pn f) (la a) (la b))) → gI σ 50 f 8 = mkS i (fun a => plP τ (la a)) → ∃ σ', X1_compareLaid_l7 z f (fun σ => X1_compareLaid_c98 z f σ) n (nI i) σ = X1_compareLaid_c98 z f σ' ∧ ag (DCL f) σ0 σ' ∧ (∀ a, a < lc → gI σ' 57 f a = mkS lc (fun b => moP τ (pn f) (la a) (la b))) ∧ gI σ' 50 f 8 = mkS lc (fun a => plP τ (la a)) := by
    intro n
    induction n with
    | zero => intro i σ hi hn; omega
    | succ n ih =>
      intro i σ hi hn ha h57 h8
      obtain ⟨hB, hO, hQ, hF, hH⟩ := CH_ag hC ha (ag_r (D := fun _ _ _ => False) τ) (fun k n i q => by unfold DCL; omega) (fun k n i q => id)
      obtain ⟨l1, l2, l3⟩ := rLd_ag hL ha (fun k n i q => by unfold DCL; omega)
      rw [X1_compareLaid_l7.eq_2, l2]
      by_cases he : i = lc
      · subst he
        rw [if_pos (nI_le (Nat.le_refl _) (by omega))]
        exact ⟨σ, rfl, ha, h57, h8⟩
      · have hlt : i < lc := by omega
        obtain ⟨a1, a2⟩ := l3 i hlt
        obtain ⟨-, -, -, -, o5, -⟩ := (hH.2.2.2 (la i) a2).2.1
        rw [if_neg (nI_ge hlt (by omega)), ib_nI (show i < 2 ^ 31 by omega), gd_d (show i < 8 by omega), nm_b, ix_nI (show i < 2 ^ 31 by omega)]
        simp only [gd_d (show i < 8 by omega), nm_b, gR_sI, a1, dr_s a2, gI_k (show ¬ 100 = 57 by decide), gI_k (show ¬ 50 = 57 by decide), o5, h8]
        unfold X1_compareLaid_c46
        -- behind the mark of those not around
        have go : ∀ σ1 : PS, ag (DCL f) σ0 σ1 → gI σ1 57 f i = 0 → (∀ a, a < i → gI σ1 57 f a = mkS lc (fun b => moP τ (pn f) (la a) (la b))) → gI σ1 50 f 8 = mkS (i + 1) (fun a => plP τ (la a)) → ∃ σ', X1_compareLaid_l48 z f (fun v1 σ => X1_compareLaid_c92 z f (X1_compareLaid_l7 z f (fun σ => X1_compareLaid_c98 z f σ) n) (fun σ => X1_compareLaid_c98 z f σ) v1 σ) fuel (nI i) 0 σ1 = X1_compareLaid_c98 z f σ' ∧ ag (DCL f) σ0 σ' ∧ (∀ a, a < lc → gI σ' 57 f a = mkS lc (fun b => moP τ (pn f) (la a) (la b))) ∧ gI σ' 50 f 8 = mkS lc (fun a => plP τ (la a)) := by
          intro σ1 q1 q2 q3 q4
          obtain ⟨σ2, r1, r2, r3, r4, r5⟩ := cmp_i hC hL ho (fun v1 σ => X1_compareLaid_c92 z f (X1_compareLaid_l7 z f (fun σ => X1_compareLaid_c98 z f σ) n) (fun σ => X1_compareLaid_c98 z f σ) v1 σ) hlt fuel 0 σ1 (by omega) (by omega) q1 q2
          rw [show (0 : Int32) = nI 0 from rfl, r1]
          unfold X1_compareLaid_c92
          rw [nI_s]
          refine ih (i + 1) σ2 (by omega) (by omega) r2 (fun a ha' => ?_) (by rw [r5, q4])
          by_cases e : a = i
          · subst e; exact r3
          · rw [r4 a e]; exact q3 a (by omega)
        have g1 : ag (DCL f) σ0 (sI σ 57 f i 0) := ag_t ha (ag_sI (by unfold DCL; omega))
        by_cases k : gI τ 519 0 (la i) = 0
        · rw [if_pos k]
          refine go _ (ag_t g1 (ag_sI (by unfold DCL; omega))) (by simp [gI_sI]) (fun a ha' => ?_) ?_
          · have : ¬ a = i := by omega
            simpa [gI_sI, this] using h57 a ha'
          · simp only [gI_sI, and_self, if_true]
            rw [mkS_s, if_pos (show plP τ (la i) = true by unfold plP; simp [k])]
        · rw [if_neg k]
          refine go _ g1 (by simp [gI_sI]) (fun a ha' => ?_) ?_
          · have : ¬ a = i := by omega
            simpa [gI_sI, this] using h57 a ha'
          · rw [gI_k (by decide), h8, mkS_s, if_neg (show ¬ plP τ (la i) = true by unfold plP; simp [k])]
  obtain ⟨σ1, r1, r2, r3, r4⟩ := key fuel 0 (sI σ0 50 f 8 0) (by omega) (by omega) (ag_sI (by unfold DCL; omega)) (fun a ha => by omega) (by simp [gI_sI, mkS])
  obtain ⟨-, hO, hQ, hF, hH⟩ := hC
  obtain ⟨-, -, ⟨-, p2⟩, -⟩ := hF.2.2.2 f hf
  obtain ⟨σ2, od, s1, s2, s3, s4⟩ := pioC z hlc ((rLd_ag hL r2 (fun k n i q => by unfold DCL; omega)).2.1) r3 (fun i _ => mo_irr _ _ _) (fun i j k hi hj hk a b => mo_tr hO hQ p2 (hN i hi) (hN j hj) (hN k hk) a b)
  refine ⟨sI σ2 200 f 5 0, od, ?_, ag_t (ag_t r2 (ag_m s2 (fun k n i q => by unfold D55 at q; unfold DCL; omega))) (ag_sI (by unfold DCL; omega)), ?_, fun i hi => ?_, s3, fun k hk => ?_, by simp [gI_sI]⟩
  · unfold X1_compareLaid
    rw [nm_b, show (0 : Int32) = nI 0 from rfl]
    rw [show nI 0 = (0 : Int32) from rfl] at r1
    rw [show nI 0 = (0 : Int32) from rfl, r1]
    unfold X1_compareLaid_c98
    rw [s1]
    rfl
  · rw [gI_k (by decide), agI s2 (by unfold D55; omega), r4]
  · rw [gI_k (by decide), agI s2 (by unfold D55; omega), r3 i hi]
  · rw [gI_k (by decide), s4 k hk]

/-! ===== lay() and lift(), whole ===== -/
theorem rL1_c {D : Nat → Nat → Nat → Prop} {σ σ' τ τ' : PS} {z : Nat × Nat} {own : Nat → Nat} {p f lc : Nat} {la od : Nat → Nat} (h : rL1 z own p f lc la od σ τ) (a : ag D σ σ') (hD : ∀ k n i, (n = f ∧ (k = 50 ∧ (i = 7 ∨ i = 8) ∨ k = 55 ∨ k = 56 ∨ k = 57)) → ¬ D k n i) (f1 : ∀ g, ldP own τ' f g = ldP own τ f g) (f2 : ∀ g, plP τ' g = plP τ g) (f3 : ∀ p h g, moP τ' p h g = moP τ p h g) : rL1 z own p f lc la od σ' τ' := by
  have e1 : gI σ' 50 f 7 = gI σ 50 f 7 := agI a (hD _ _ _ (by omega))
  have e2 : gI σ' 50 f 8 = gI σ 50 f 8 := agI a (hD _ _ _ (by omega))
  have e3 : ∀ i, gI σ' 55 f i = gI σ 55 f i := fun i => agI a (hD _ _ _ (by omega))
  have e4 : ∀ i, gR σ' 56 f i = gR σ 56 f i := fun i => agR a (hD _ _ _ (by omega))
  have e5 : ∀ i, gI σ' 57 f i = gI σ 57 f i := fun i => agI a (hD _ _ _ (by omega))
  unfold rL1 rLd at h ⊢
  simp only [e1, e2, e3, e4, e5, f1, f2, f3]
  exact h
theorem rH_state {z : Nat × Nat} {own pn : Nat → Nat} {σ τ : PS} (hH : rH z own pn σ τ) (h : Nat) {v : Int32} (hv : v = 0 ∨ v = 1 ∨ v = 2) : rH z own pn (sI σ 100 h 8 v) (sI τ 520 0 h v) := by
  obtain ⟨h1, h2, h3, h4⟩ := hH
  refine ⟨h1, by rw [gI_k (by decide), h2], by rw [gI_k (by decide), h3], fun g hg => ?_⟩
  obtain ⟨⟨a1, a2, a3, a4⟩, a5, a6⟩ := h4 g hg
  refine ⟨⟨a1, a2, a3, by rw [gI_k (by decide), a4]⟩, ?_, ?_⟩
  · by_cases e : g = h
    · subst e
      obtain ⟨b1, b2, b3, b4, b5, b6, b7, b8⟩ := a5
      refine ⟨by simpa [gI_sI] using b1, by simpa [gI_sI] using b2, by simpa [gI_sI] using b3, by simpa [gI_sI] using b4, by simpa [gI_sI] using b5, by simpa [gI_sI] using b6, by simp [gI_sI], by simpa [gI_sI] using hv⟩
    · unfold rHo at a5 ⊢
      simpa [gI_sI, e] using a5
  · unfold rHp at a6 ⊢
    simpa [gI_sI, gN_sI] using a6
def DL (f h : Nat) : Nat → Nat → Nat → Prop := fun k n i => (n = f ∧ (k = 50 ∧ (i = 7 ∨ i = 8) ∨ k = 55 ∨ k = 56 ∨ k = 57 ∨ k = 200 ∧ i = 5)) ∨ (k = 100 ∧ n = h ∧ i = 8)
def D2 : Nat → Nat → Nat → Prop := fun k _ _ => k = 514 ∨ k = 520
theorem s_lay {z : Nat × Nat} {σ τ : PS} {own pn : Nat → Nat} {lc : Nat → Nat} {la od : Nat → Nat → Nat} (hC : z.2 = 0 ∨ CR z own pn lc la od σ τ) (hH : rH z own pn σ τ) (x1 : Int32) :
    (∃ r, X9_lay z x1 σ = some (r, σ) ∧ X10_lay x1 τ = some (r, τ)) ∨
    (∃ h σ' lc' la' od', h < z.2 ∧ X9_lay z x1 σ = some (1, σ') ∧ X10_lay x1 τ = some (1, sI (sI τ 520 0 h 1) 514 0 (own h) 0) ∧ ag (DL (own h) h) σ σ' ∧ gI σ' 200 (own h) 5 = 0 ∧ CR z own pn lc' la' od' σ' (sI (sI τ 520 0 h 1) 514 0 (own h) 0)) := by
  have hfu := fuel_ge
  unfold X9_lay X10_lay
  rcases hdAt hH x1 with ⟨e1, e2⟩ | ⟨h, hh, rfl, e1, e2⟩
  · left; exact ⟨-2, by rw [e1]; rfl, by rw [e2]; rfl⟩
  · have hC := hC.elim (fun q => by omega) id
    obtain ⟨hB, hO, hQ, hF, -, hL⟩ := id hC
    have h40 := hH.1
    have hf4 := hF.1
    obtain ⟨⟨-, a2, a3, a4⟩, ao, -⟩ := hH.2.2.2 h hh
    have o7 := ao.2.2.2.2.2.2.1
    obtain ⟨-, -, -, -, -, p6, -⟩ := hF.2.2.2 (own h) a2
    have hL1 := hL (own h) a2
    obtain ⟨l1, l2, l3, l4, l5, l6, l7⟩ := id hL1
    have hlc := l1.1
    have hN : ∀ i, i < lc (own h) → la (own h) i < z.2 := fun i hi => (l1.2.2 i hi).2
    have hown : ∀ i, i < lc (own h) → own (la (own h) i) = own h := fun i hi => ld_own ((l3 _ (hN i hi)).mpr ⟨i, hi, rfl⟩)
    rw [e1, e2]
    simp only [Option.bind_some, if_neg (show ¬ (1 : Int32) = 0 by decide), oc_s' hh, ib_nI (show h < 2 ^ 31 by omega), gd_d (show h < 40 by omega), ix_nI (show h < 2 ^ 31 by omega), nm_b, a3, a4, dr_s a2, o7, p6, ib_nI (show own h < 2 ^ 31 by omega), gd_d (show own h < 4 by omega), ix_nI (show own h < 2 ^ 31 by omega)]
    by_cases k1 : gI τ 520 0 h = 0
    · by_cases k2 : gI τ 511 0 (own h) = 0
      · simp only [if_pos k1, if_pos k2]
        have hno : ∀ i, i < lc (own h) → ¬ la (own h) i = h := fun i hi q => by
          have := (l3 h hh).mpr ⟨i, hi, q⟩
          unfold ldP at this
          rw [k1] at this
          simp at this
        obtain ⟨r, r1, r2⟩ := hlsC hF hH l1 hown hh rfl
        have hM := layM_l hF hH a2 hh (fun v1 v2 σ => X10_lay_c137 v1 v2 σ) fuel 0 (by omega) (by omega)
        rw [show nI 0 = (0 : Int32) from rfl] at hM
        rw [r1]
        simp only [Option.bind_some]
        rcases r2 with ⟨r2, i, hi, hs⟩ | ⟨r2, hs⟩
        · left
          refine ⟨-5, by rw [r2]; rfl, ?_⟩
          rcases hM with ⟨m1, -⟩ | ⟨-, m2⟩
          · exact m1
          · rw [m2 (la (own h) i) (by omega) (hN i hi) ((l3 _ (hN i hi)).mpr ⟨i, hi, rfl⟩)] at hs; cases hs
        · rw [if_pos r2]
          have hM' : X10_lay_l41 (fun v1 v2 σ => X10_lay_c137 v1 v2 σ) fuel (nI h) (nI (own h)) 0 τ = X10_lay_c137 (nI h) (nI (own h)) τ := by
            rcases hM with ⟨-, g, g1, g2, g3⟩ | ⟨m1, -⟩
            · obtain ⟨i, hi, rfl⟩ := (l3 g g1).mp g2
              rw [hs i hi] at g3; cases g3
            · exact m1
          rw [hM']
          unfold X10_lay_c137 X1_putLaid
          rw [laidM hF hH a2 hL1, l1.2.1]
          simp only [Option.bind_some]
          by_cases k3 : lc (own h) < 8
          · right
            rw [if_pos (show nI (lc (own h)) < (8 : Int32) from nI_lt (b := 8) k3 (by omega)), nm_b]
            have k3' : ¬ nI (lc (own h)) = (8 : Int32) := fun q => by
              have := (nI_eq (a := lc (own h)) (b := 8) (by omega) (by omega)).mp q
              omega
            rw [if_neg k3']
            obtain ⟨x, σ1, s1, s2, s3, s4, s5, s6, s7⟩ := putC_l hH l1 k3 hh hno l2 (fun v1 v2 σ => X1_putLaid_c58 z (own h) v1 v2 σ) fuel (lc (own h)) σ (Nat.le_refl _) (by omega) (ag_r _) (fun j hj => (l1.2.2 j hj).1) (fun j a b => by omega) (fun j a b => by omega)
            rw [s1]
            unfold X1_putLaid_c58
            rw [ib_nI (show x < 2 ^ 31 by omega), gd_d (show x < 8 by omega), nm_b, ix_nI (show x < 2 ^ 31 by omega), nm_b, gI_sR, agI s3 (show ¬ D56 (own h) 50 (own h) 7 by unfold D56; omega), l1.2.1, nI_s]
            have g3 : ag (DL (own h) h) σ (sI (sR σ1 56 (own h) x (some h)) 50 (own h) 7 (nI (lc (own h) + 1))) := ag_t (ag_t (ag_m s3 (fun k n i q => by unfold D56 at q; unfold DL; omega)) (ag_sR (by unfold DL; omega))) (ag_sI (by unfold DL; omega))
            have hins : ∀ j, j < lc (own h) + 1 → gR (sI (sR σ1 56 (own h) x (some h)) 50 (own h) 7 (nI (lc (own h) + 1))) 56 (own h) j = some (insL (la (own h)) x h j) ∧ insL (la (own h)) x h j < z.2 ∧ own (insL (la (own h)) x h j) = own h := fun j hj => by
              rw [gR_sI, gR_sR]
              unfold insL
              by_cases q1 : j = x
              · rw [if_pos ⟨rfl, rfl, q1⟩, if_neg (by omega), if_pos q1]; exact ⟨rfl, hh, rfl⟩
              · rw [if_neg (fun q => q1 q.2.2)]
                by_cases q2 : j < x
                · rw [if_pos q2]; exact ⟨s4 j q2, hN j (by omega), hown j (by omega)⟩
                · rw [if_neg q2, if_neg q1]; exact ⟨s5 j (by omega) (by omega), hN _ (by omega), hown _ (by omega)⟩
            generalize hσ3 : sI (sR σ1 56 (own h) x (some h)) 50 (own h) 7 (nI (lc (own h) + 1)) = σ3 at g3 hins ⊢
            have h37 : gI σ3 50 (own h) 7 = nI (lc (own h) + 1) := by rw [← hσ3]; simp [gI_sI]
            have hCH3 : CH z own pn σ3 τ := by
              have hCH : CH z own pn σ τ := ⟨hB, hO, hQ, hF, hH⟩
              rw [← hσ3]
              exact CH_ag hCH (ag_t (ag_t (ag_m s3 (fun k n i q => by unfold D56 at q; exact (show (k = 56 ∨ k = 50 ∧ i = 7) by omega))) (ag_sR (by omega))) (ag_sI (by omega))) (ag_r (D := fun _ _ _ => False) τ) (fun k n i q => by omega) (fun k n i q => id)
            have hL3 : rLd z (own h) (lc (own h) + 1) (insL (la (own h)) x h) σ3 := ⟨by omega, h37, fun j hj => ⟨(hins j hj).1, (hins j hj).2.1⟩⟩
            obtain ⟨σ4, od4, c1, c2, c3, c4, c5, c6, c7⟩ := cmpC hCH3 hL3 a2 (fun j hj => (hins j hj).2.2)
            rw [c1]
            simp only [Option.bind_some, bp_s, if_neg (show ¬ (1 : Int32) = 0 by decide)]
            have g4 : ag (DL (own h) h) σ σ4 := ag_t g3 (ag_m c2 (fun k n i q => by unfold DCL at q; unfold DL; omega))
            have g5 : ag (DL (own h) h) σ (sI σ4 100 h 8 1) := ag_t g4 (ag_sI (by unfold DL; omega))
            have b5 : ag D2 τ (sI (sI τ 520 0 h 1) 514 0 (own h) 0) := ag_t (ag_sI (by unfold D2; omega)) (ag_sI (by unfold D2; omega))
            have f2 : ∀ g, plP (sI (sI τ 520 0 h 1) 514 0 (own h) 0) g = plP τ g := fun g => plP_ag b5 (fun k n i q => by unfold D2; omega) g
            have f3 : ∀ p a b, moP (sI (sI τ 520 0 h 1) 514 0 (own h) 0) p a b = moP τ p a b := fun p a b => moP_ag b5 (fun k n i q => by unfold D2; omega) p a b
            have f1 : ∀ f g, ldP own (sI (sI τ 520 0 h 1) 514 0 (own h) 0) f g = (ldP own τ f g || (decide (g = h) && decide (own h = f))) := fun f g => by
              unfold ldP
              rw [gI_k (by decide), gI_sI]
              by_cases q : g = h
              · subst q; simp [k1]
              · simp [q]
            refine ⟨h, _, (fun g => if g = own h then lc (own h) + 1 else lc g), (fun g => if g = own h then insL (la (own h)) x h else la g), (fun g => if g = own h then od4 else od g), hh, rfl, ?_, g5, ?_, ?_, ?_, ?_, ?_, ?_, ?_⟩
            · simp only [ib_nI (show h < 2 ^ 31 by omega), gd_d (show h < 40 by omega), ix_nI (show h < 2 ^ 31 by omega), nm_b, ib_nI (show own h < 2 ^ 31 by omega), gd_d (show own h < 4 by omega), ix_nI (show own h < 2 ^ 31 by omega)]
            · rw [gI_k (by decide), c7]
            · exact rB_ag hB g5 b5 (fun k n i q => by unfold DL; omega) (fun k n i q => by unfold D2; omega)
            · exact rO_ag hO b5 (fun k n i q => by unfold D2; omega)
            · exact rQ_ag hQ b5 (fun k n i q => by unfold D2; omega)
            · exact rF_ag hF g5 b5 (fun k n i q => by unfold DL; omega) (fun k n i q => by unfold D2; omega)
            · have hH4 : rH z own pn σ4 τ := (CH_ag hCH3 c2 (ag_r (D := fun _ _ _ => False) τ) (fun k n i q => by unfold DCL; omega) (fun k n i q => id)).2.2.2.2
              exact rH_ag (rH_state hH4 h (Or.inr (Or.inl rfl))) (ag_r (D := fun _ _ _ => False) _) (ag_sI (D := fun k _ _ => k = 514) rfl) (fun k n i q => id) (fun k n i q => by omega)
            · intro f hf
              by_cases ef : f = own h
              · subst ef
                simp only [if_true]
                refine ⟨⟨by omega, ?_, fun j hj => ⟨?_, (hins j hj).2.1⟩⟩, fun i j hij hj => ?_, fun g hg => ?_, ?_, fun i hi => ?_, ?_, fun k hk => ?_⟩
                · rw [gI_k (by decide), agI c2 (by unfold DCL; omega), h37]
                · rw [gR_sI, agR c2 (by unfold DCL; omega)]; exact (hins j hj).1
                · unfold insL
                  by_cases q1 : j < x
                  · rw [if_pos q1, if_pos (by omega)]; exact l2 i j hij (by omega)
                  · rw [if_neg q1]
                    by_cases q2 : j = x
                    · rw [if_pos q2, if_pos (by omega)]; exact s7 i (by omega)
                    · rw [if_neg q2]
                      by_cases q3 : i < x
                      · rw [if_pos q3]; have := s7 i q3; have := s6 (j - 1) (by omega) (by omega); omega
                      · rw [if_neg q3]
                        by_cases q4 : i = x
                        · rw [if_pos q4]; exact s6 (j - 1) (by omega) (by omega)
                        · rw [if_neg q4]; exact l2 (i - 1) (j - 1) (by omega) (by omega)
                · rw [f1, Bool.or_eq_true, l3 g hg]
                  simp only [decide_true, Bool.and_true, decide_eq_true_eq]
                  constructor
                  · rintro (⟨i, hi, e⟩ | e)
                    · by_cases q : i < x
                      · exact ⟨i, by omega, by unfold insL; rw [if_pos q, e]⟩
                      · exact ⟨i + 1, by omega, by unfold insL; rw [if_neg (by omega), if_neg (by omega), show i + 1 - 1 = i by omega, e]⟩
                    · exact ⟨x, by omega, by unfold insL; rw [if_neg (by omega), if_pos rfl, e]⟩
                  · rintro ⟨i, hi, e⟩
                    unfold insL at e
                    by_cases q1 : i < x
                    · rw [if_pos q1] at e; exact Or.inl ⟨i, by omega, e⟩
                    · rw [if_neg q1] at e
                      by_cases q2 : i = x
                      · rw [if_pos q2] at e; exact Or.inr e.symm
                      · rw [if_neg q2] at e; exact Or.inl ⟨i - 1, by omega, e⟩
                · rw [gI_k (by decide), c3]; simp only [f2]
                · rw [gI_k (by decide), c4 i hi]; simp only [f3]
                · simp only [f3]; exact c5
                · rw [gI_k (by decide), c6 k hk]
              · simp only [if_neg ef]
                refine rL1_c (hL f hf) g5 (fun k n i q => by unfold DL; omega) (fun g => ?_) f2 f3
                rw [f1]
                simp [show ¬ own h = f from fun q => ef q.symm]
          · left
            have e8 : lc (own h) = 8 := by omega
            refine ⟨-4, ?_, ?_⟩
            · rw [e8, if_neg (by decide)]; rfl
            · rw [e8, if_pos (by decide)]
      · left; exact ⟨-3, by rw [if_pos k1, if_neg k2], by rw [if_pos k1, if_neg k2]⟩
    · left; exact ⟨-3, by rw [if_neg k1], by rw [if_neg k1]⟩
theorem s_lift {z : Nat × Nat} {σ τ : PS} {own pn : Nat → Nat} {lc : Nat → Nat} {la od : Nat → Nat → Nat} (hC : z.2 = 0 ∨ CR z own pn lc la od σ τ) (hH : rH z own pn σ τ) (x1 : Int32) :
    (∃ r, X9_lift z x1 σ = some (r, σ) ∧ X10_lift x1 τ = some (r, τ)) ∨
    (∃ h σ' lc' la' od', h < z.2 ∧ X9_lift z x1 σ = some (1, σ') ∧ X10_lift x1 τ = some (1, sI (sI τ 520 0 h 2) 514 0 (own h) 0) ∧ ag (DL (own h) h) σ σ' ∧ gI σ' 200 (own h) 5 = 0 ∧ CR z own pn lc' la' od' σ' (sI (sI τ 520 0 h 2) 514 0 (own h) 0)) := by
  have hfu := fuel_ge
  unfold X9_lift X10_lift
  rcases hdAt hH x1 with ⟨e1, e2⟩ | ⟨h, hh, rfl, e1, e2⟩
  · left; exact ⟨-2, by rw [e1]; rfl, by rw [e2]; rfl⟩
  · have hC := hC.elim (fun q => by omega) id
    obtain ⟨hB, hO, hQ, hF, -, hL⟩ := id hC
    have h40 := hH.1
    have hf4 := hF.1
    obtain ⟨⟨-, a2, a3, a4⟩, ao, -⟩ := hH.2.2.2 h hh
    have o7 := ao.2.2.2.2.2.2.1
    obtain ⟨-, -, -, -, -, p6, -⟩ := hF.2.2.2 (own h) a2
    have hL1 := hL (own h) a2
    obtain ⟨l1, l2, l3, l4, l5, l6, l7⟩ := id hL1
    have hlc := l1.1
    have hN : ∀ i, i < lc (own h) → la (own h) i < z.2 := fun i hi => (l1.2.2 i hi).2
    have hown : ∀ i, i < lc (own h) → own (la (own h) i) = own h := fun i hi => ld_own ((l3 _ (hN i hi)).mpr ⟨i, hi, rfl⟩)
    rw [e1, e2]
    simp only [Option.bind_some, if_neg (show ¬ (1 : Int32) = 0 by decide), oc_s' hh, ib_nI (show h < 2 ^ 31 by omega), gd_d (show h < 40 by omega), ix_nI (show h < 2 ^ 31 by omega), nm_b, a3, a4, dr_s a2, o7, p6, ib_nI (show own h < 2 ^ 31 by omega), gd_d (show own h < 4 by omega), ix_nI (show own h < 2 ^ 31 by omega), gR_sI, gI_k (show ¬ 516 = 520 by decide)]
    by_cases k1 : gI τ 520 0 h = 1
    · by_cases k2 : gI τ 511 0 (own h) = 0
      · right
        simp only [if_pos k1, if_pos k2]
        obtain ⟨x, hx, ex⟩ := (l3 h hh).mp (show ldP own τ (own h) h = true by unfold ldP; simp [k1])
        have gS : ag (DL (own h) h) σ (sI σ 100 h 8 2) := ag_sI (by unfold DL; omega)
        have bS : ag D2 τ (sI τ 520 0 h 2) := ag_sI (by unfold D2; omega)
        have hCHS : CH z own pn (sI σ 100 h 8 2) (sI τ 520 0 h 2) := ⟨rB_ag hB gS bS (fun k n i q => by unfold DL; omega) (fun k n i q => by unfold D2; omega), rO_ag hO bS (fun k n i q => by unfold D2; omega), rQ_ag hQ bS (fun k n i q => by unfold D2; omega), rF_ag hF gS bS (fun k n i q => by unfold DL; omega) (fun k n i q => by unfold D2; omega), rH_state hH h (Or.inr (Or.inr rfl))⟩
        have lS : rLd z (own h) (lc (own h)) (la (own h)) (sI σ 100 h 8 2) := rLd_ag l1 (ag_sI (D := fun k _ _ => k = 100) rfl) (fun k n i q => by omega)
        unfold X1_dropLaid
        have hd := dropC_l hCHS.2.2.2.2 lS hx l2 (fun v2 σ => X1_dropLaid_c49 z (own h) v2 σ) fuel 0 (sI σ 100 h 8 2) (by omega) (by omega) (ag_r _) (fun j hj => by simp at hj) (fun j _ hj => (lS.2.2 j hj).1)
        rw [if_pos (Nat.zero_le _), show nI 0 = (0 : Int32) from rfl, ex] at hd
        obtain ⟨σ1, s1, s2, s3⟩ := hd
        rw [s1]
        unfold X1_dropLaid_c49
        rw [nm_b]
        have g3 : ag (DL (own h) h) σ (sI σ1 50 (own h) 7 (nI (lc (own h) - 1))) := ag_t (ag_t gS (ag_m s2 (fun k n i q => by unfold D56 at q; unfold DL; omega))) (ag_sI (by unfold DL; omega))
        have hdel : ∀ j, j < lc (own h) - 1 → gR (sI σ1 50 (own h) 7 (nI (lc (own h) - 1))) 56 (own h) j = some (delL (la (own h)) x j) ∧ delL (la (own h)) x j < z.2 ∧ own (delL (la (own h)) x j) = own h := fun j hj => by
          rw [gR_sI]
          refine ⟨s3 j hj, ?_⟩
          unfold delL
          by_cases q : j < x
          · rw [if_pos q]; exact ⟨hN j (by omega), hown j (by omega)⟩
          · rw [if_neg q]; exact ⟨hN _ (by omega), hown _ (by omega)⟩
        have hCH3 : CH z own pn (sI σ1 50 (own h) 7 (nI (lc (own h) - 1))) (sI τ 520 0 h 2) := CH_ag hCHS (ag_t (ag_m s2 (fun k n i q => by unfold D56 at q; exact (show (k = 56 ∨ k = 50 ∧ i = 7) by omega))) (ag_sI (by omega))) (ag_r (D := fun _ _ _ => False) _) (fun k n i q => by omega) (fun k n i q => id)
        have hL3 : rLd z (own h) (lc (own h) - 1) (delL (la (own h)) x) (sI σ1 50 (own h) 7 (nI (lc (own h) - 1))) := ⟨by omega, by simp [gI_sI], fun j hj => ⟨(hdel j hj).1, (hdel j hj).2.1⟩⟩
        generalize sI σ1 50 (own h) 7 (nI (lc (own h) - 1)) = σ3 at g3 hdel hCH3 hL3 ⊢
        obtain ⟨σ4, od4, c1, c2, c3, c4, c5, c6, c7⟩ := cmpC hCH3 hL3 a2 (fun j hj => (hdel j hj).2.2)
        rw [c1]
        simp only [Option.bind_some]
        have g4 : ag (DL (own h) h) σ σ4 := ag_t g3 (ag_m c2 (fun k n i q => by unfold DCL at q; unfold DL; omega))
        have b5 : ag D2 τ (sI (sI τ 520 0 h 2) 514 0 (own h) 0) := ag_t bS (ag_sI (by unfold D2; omega))
        have f2 : ∀ g, plP (sI (sI τ 520 0 h 2) 514 0 (own h) 0) g = plP τ g := fun g => plP_ag b5 (fun k n i q => by unfold D2; omega) g
        have f3 : ∀ p a b, moP (sI (sI τ 520 0 h 2) 514 0 (own h) 0) p a b = moP τ p a b := fun p a b => moP_ag b5 (fun k n i q => by unfold D2; omega) p a b
        have f2' : ∀ g, plP (sI τ 520 0 h 2) g = plP τ g := fun g => plP_ag bS (fun k n i q => by unfold D2; omega) g
        have f3' : ∀ p a b, moP (sI τ 520 0 h 2) p a b = moP τ p a b := fun p a b => moP_ag bS (fun k n i q => by unfold D2; omega) p a b
        have f1 : ∀ f g, ldP own (sI (sI τ 520 0 h 2) 514 0 (own h) 0) f g = (ldP own τ f g && !decide (g = h)) := fun f g => by
          unfold ldP
          rw [gI_k (by decide), gI_sI]
          by_cases q : g = h
          · subst q; simp
          · simp [q]
        refine ⟨h, σ4, (fun g => if g = own h then lc (own h) - 1 else lc g), (fun g => if g = own h then delL (la (own h)) x else la g), (fun g => if g = own h then od4 else od g), hh, rfl, rfl, g4, c7, ?_, ?_, ?_, ?_, ?_, ?_⟩
        · exact rB_ag hB g4 b5 (fun k n i q => by unfold DL; omega) (fun k n i q => by unfold D2; omega)
        · exact rO_ag hO b5 (fun k n i q => by unfold D2; omega)
        · exact rQ_ag hQ b5 (fun k n i q => by unfold D2; omega)
        · exact rF_ag hF g4 b5 (fun k n i q => by unfold DL; omega) (fun k n i q => by unfold D2; omega)
        · have hH4 : rH z own pn σ4 (sI τ 520 0 h 2) := (CH_ag hCH3 c2 (ag_r (D := fun _ _ _ => False) _) (fun k n i q => by unfold DCL; omega) (fun k n i q => id)).2.2.2.2
          exact rH_ag hH4 (ag_r (D := fun _ _ _ => False) _) (ag_sI (D := fun k _ _ => k = 514) rfl) (fun k n i q => id) (fun k n i q => by omega)
        · intro f hf
          by_cases ef : f = own h
          · subst ef
            simp only [if_true]
            refine ⟨⟨by omega, ?_, fun j hj => ⟨?_, (hdel j hj).2.1⟩⟩, fun i j hij hj => ?_, fun g hg => ?_, ?_, fun i hi => ?_, ?_, fun k hk => ?_⟩
            · rw [agI c2 (by unfold DCL; omega), hL3.2.1]
            · rw [agR c2 (by unfold DCL; omega)]; exact (hdel j hj).1
            · unfold delL
              by_cases q1 : j < x
              · rw [if_pos q1, if_pos (by omega)]; exact l2 i j hij (by omega)
              · rw [if_neg q1]
                by_cases q2 : i < x
                · rw [if_pos q2]; exact l2 i (j + 1) (by omega) (by omega)
                · rw [if_neg q2]; exact l2 (i + 1) (j + 1) (by omega) (by omega)
            · rw [f1, Bool.and_eq_true, l3 g hg]
              simp only [Bool.not_eq_true', decide_eq_false_iff_not]
              constructor
              · rintro ⟨⟨i, hi, e⟩, ne⟩
                rcases Nat.lt_trichotomy i x with q | q | q
                · exact ⟨i, by omega, by unfold delL; rw [if_pos q, e]⟩
                · subst q; exact absurd (e.symm.trans ex) ne
                · exact ⟨i - 1, by omega, by unfold delL; rw [if_neg (by omega), show i - 1 + 1 = i by omega, e]⟩
              · rintro ⟨i, hi, e⟩
                unfold delL at e
                by_cases q : i < x
                · rw [if_pos q] at e
                  refine ⟨⟨i, by omega, e⟩, fun e2 => ?_⟩
                  have := la_inj l2 (show i < lc (own h) by omega) hx (by rw [e, e2, ex]); omega
                · rw [if_neg q] at e
                  refine ⟨⟨i + 1, by omega, e⟩, fun e2 => ?_⟩
                  have := la_inj l2 (show i + 1 < lc (own h) by omega) hx (by rw [e, e2, ex]); omega
            · rw [c3]; simp only [f2, f2']
            · rw [c4 i hi]; simp only [f3, f3']
            · simp only [f3]; simp only [f3'] at c5; exact c5
            · rw [c6 k hk]
          · simp only [if_neg ef]
            refine rL1_c (hL f hf) g4 (fun k n i q => by unfold DL; omega) (fun g => ?_) f2 f3
            rw [f1]
            by_cases q : g = h
            · subst q
              have : ldP own τ f g = false := by unfold ldP; simp [show ¬ own g = f from fun q => ef q.symm]
              simp [this]
            · simp [q]
      · left; exact ⟨-3, by rw [if_pos k1, if_neg k2], by rw [if_pos k1, if_neg k2]⟩
    · left; exact ⟨-3, by rw [if_neg k1], by rw [if_neg k1]⟩

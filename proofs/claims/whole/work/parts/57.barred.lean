/-! ===== the ones around: barred or not, on both sides ===== -/
def DSX : Nat → Nat → Nat → Prop := fun k _ i => k = 500 ∧ i = 29 ∨ k = 529 ∨ k = 535
theorem barB_l {z : Nat × Nat} {σ0 τ0 : PS} {own pn : Nat → Nat} {lc : Nat → Nat} {la od : Nat → Nat → Nat} (hC0 : CR z own pn lc la od σ0 τ0) {f sc : Nat} (hf : f < z.1) {c : Nat → Nat} {w : Nat → Int32} (hWM0 : rWM (pn f) c w τ0) (hsc : sc + 8 < 2 ^ 30) (wt : Int64) (hwt : wt = (w 0).toInt64 + (if pn f = 2 then (w 1).toInt64 else 0)) : ∀ (n n' k sk : Nat) (σ τ : PS), k ≤ lc f → lc f - k < n → lc f - k < n' → ag DSC σ0 σ → ag DSX τ0 τ → rSt sk σ τ → sk ≤ sc + k → ∃ b σ' τ' sc', X9_isBarred_l21 z (fun σ => X9_isBarred_c102 z σ) n f wt (mkS (lc f) (fun a => tkP τ0 c w (pn f) (la f a))) (nI k) σ = some (bI b, σ') ∧ X10_isBarred_l8 (fun σ => X10_isBarred_c71 σ) n' (nI f) (nI (lc f)) (nI k) τ = some (bI b, τ') ∧ ag DSC σ0 σ' ∧ ag DSX τ0 τ' ∧ rSt sc' σ' τ' ∧ sc' ≤ sc + 8 := by
  intro n
  induction n with
  | zero => intro n' k sk σ τ hk hn; omega
  | succ n ih =>
    intro n' k sk σ τ hk hn hn' ha hb hst hsk
    obtain ⟨hB, hO, hQ, hF, hH, hLL⟩ := CR_ag hC0 ha hb (fun k n i q => by unfold DSC; omega) (fun k n i q => by unfold DSX; omega)
    have hL := hLL f hf
    have hlc := hL.1.1
    have h40 := hH.1
    have hf4 := hF.1
    obtain ⟨-, -, ⟨p1, p2⟩, p3, p4, -⟩ := hF.2.2.2 f hf
    have hWM := rWM_ag hWM0 hb (fun k n i q => by unfold DSX; omega)
    have htk : ∀ h, tkP τ c w (pn f) h = tkP τ0 c w (pn f) h := fun h => tkP_ag hb (fun k n i q => by unfold DSX; omega) c w (pn f) h
    cases n' with
    | zero => omega
    | succ n' =>
      rw [X9_isBarred_l21.eq_2, X10_isBarred_l8.eq_2, hL.1.2.1]
      by_cases he : k = lc f
      · rw [if_pos (by rw [he]; exact nI_le (Nat.le_refl _) (by omega)), if_pos (by rw [he]; exact nI_le (Nat.le_refl _) (by omega))]
        exact ⟨false, σ, τ, sk, rfl, rfl, ha, hb, hst, by omega⟩
      · have hlt : k < lc f := by omega
        have ho := (hL.2.2.2.2.2.1 k hlt).1
        have hlo := (hL.1.2.2 _ ho).2
        have hown : own (la f (od f k)) = f := ld_own ((hL.2.2.1 _ hlo).mpr ⟨_, ho, rfl⟩)
        obtain ⟨-, bo, -⟩ := hH.2.2.2 _ hlo
        obtain ⟨q1, -, -, q4, q5, -⟩ := bo
        obtain ⟨G, eG⟩ := inOrdM hB hQ hF hH hf hL hlt
        rw [if_neg (nI_ge hlt (by omega)), if_neg (nI_ge hlt (by omega)), ib_nI (by omega), gd_d (by omega), ix_nI (by omega), hL.2.2.2.2.2.2 k hlt, (numAt hH hL.1 ho).1, eG]
        simp only [Option.bind_some, oc_s' hlo, bp_s, ib_nI (show la f (od f k) < 2 ^ 31 by omega), gd_d (show la f (od f k) < 40 by omega), ix_nI (show la f (od f k) < 2 ^ 31 by omega), gd_d (show k < 8 by omega), q5, nI_s]
        have bG : ag DSX τ0 (sM τ 535 G) := ag_t hb (ag_sM (fun _ => by unfold DSX; omega))
        have aG : ag DSX τ (sM τ 535 G) := ag_sM (fun _ => by unfold DSX; omega)
        have stG : rSt sk σ (sM τ 535 G) := rSt_ag hst (ag_r (D := fun _ _ _ => False) σ) (ag_sM (D := fun k _ _ => k = 535) (fun _ => rfl)) (fun k n i q => id) (fun k n i q => by omega)
        rw [gI_sM_n (show ¬ 519 = 535 by decide)]
        by_cases k1 : gI τ 519 0 (la f (od f k)) = 0
        · rw [if_pos k1, if_pos k1]
          exact ih n' (k + 1) sk σ _ (by omega) (by omega) (by omega) ha bG stG (by omega)
        · rw [if_neg k1, if_neg k1]
          obtain ⟨BG, OG, QG, FG, HG, LG⟩ := CR_ag hC0 ha bG (fun k n i q => by unfold DSC; omega) (fun k n i q => by unfold DSX; omega)
          have WG := rWM_ag hWM0 bG (fun k n i q => by unfold DSX; omega)
          rw [tkM BG QG FG HG hlo (by rw [hown]; exact WG), hown, tkP_ag bG (fun k n i q => by unfold DSX; omega)]
          simp only [Option.bind_some]
          have hbt : bt (mkS (lc f) (fun a => tkP τ0 c w (pn f) (la f a))) (od f k) = tkP τ0 c w (pn f) (la f (od f k)) := by rw [bt_mkS _ (lc f) (by omega) _ (by omega)]; simp [ho]
          rcases hq : tkP τ0 c w (pn f) (la f (od f k)) with _ | _
          · rw [if_pos ((b_test (by omega)).mpr (hbt.trans hq)), if_pos (by rfl)]
            exact ih n' (k + 1) sk σ _ (by omega) (by omega) (by omega) ha bG stG (by omega)
          · rw [if_neg (fun q => by rw [b_test (by omega), hbt, hq] at q; cases q), if_neg (by decide)]
            obtain ⟨σ1, τ1, s1, s2, s3, s4, s5⟩ := stB z (show sk < 2 ^ 30 by omega) stG (nI (la f (od f k)))
            have a1 : ag DSC σ0 σ1 := ag_t ha s3
            have b1 : ag DSX τ0 τ1 := ag_t bG (ag_m s4 (fun k n i q => by unfold DSM at q; unfold DSX; omega))
            have W1 := rWM_ag hWM0 b1 (fun k n i q => by unfold DSX; omega)
            obtain ⟨B1, O1, Q1, F1, H1, L1⟩ := CR_ag hC0 a1 b1 (fun k n i q => by unfold DSC; omega) (fun k n i q => by unfold DSX; omega)
            obtain ⟨-, -, -, -, p4', -⟩ := F1.2.2.2 f hf
            obtain ⟨-, bo', -⟩ := H1.2.2.2 _ hlo
            rw [q1, s1, s2]
            simp only [Option.bind_some]
            rw [wtM ⟨p1, p2⟩ (by omega) p4' W1]
            simp only [Option.bind_some, gd_d (show la f (od f k) < 40 by omega), bo'.2.2.2.1, ← hwt]
            by_cases k2 : 0 ≤ lg_cmp wt (gI τ1 518 0 (la f (od f k))).toInt64
            · rw [if_pos k2, if_pos k2]
              exact ih n' (k + 1) (sk + 1) σ1 τ1 (by omega) (by omega) (by omega) a1 b1 s5 (by omega)
            · rw [if_neg k2, if_neg k2]
              exact ⟨true, σ1, τ1, sk + 1, rfl, rfl, a1, b1, s5, by omega⟩
theorem barB {z : Nat × Nat} {σ τ : PS} {own pn : Nat → Nat} {lc : Nat → Nat} {la od : Nat → Nat → Nat} (hC : CR z own pn lc la od σ τ) {f sc : Nat} (hf : f < z.1) {c : Nat → Nat} {w : Nat → Int32} (hWC : rWC (pn f) c w σ) (hWM : rWM (pn f) c w τ) (h3 : gI σ 300 0 2 = nI (pn f)) (hsc : sc + 8 < 2 ^ 30) (hst : rSt sc σ τ) : ∃ b σ' τ' sc', X9_isBarred z f σ = some (bI b, σ') ∧ X10_isBarred (nI f) τ = some (bI b, τ') ∧ ag DSC σ σ' ∧ ag DSX τ τ' ∧ rSt sc' σ' τ' ∧ sc' ≤ sc + 8 := by
  have hfu := fuel_ge
  obtain ⟨hB, hO, hQ, hF, hH, hL⟩ := id hC
  obtain ⟨-, -, hp, -⟩ := hF.2.2.2 f hf
  have hlc := (hL f hf).1.1
  unfold X9_isBarred X10_isBarred
  rw [wtC z hp h3 hWC, tkO z hB hF hH hf (hL f hf) hWC, laidM hF hH hf (hL f hf)]
  simp only [Option.bind_some]
  exact barB_l hC hf hWM hsc _ rfl fuel fuel 0 sc σ τ (by omega) (by omega) (by omega) (ag_r _) (ag_r _) hst (by omega)

/-! ===== handlers are run, one behind another, on both sides ===== -/
theorem RC_ag {D E : Nat → Nat → Nat → Prop} {z : Nat × Nat} {own pn : Nat → Nat} {lc : Nat → Nat} {la od : Nat → Nat → Nat} {ns t sc : Nat} {σ τ σ' τ' : PS} (h : RC z own pn lc la od ns t sc σ τ) (a : ag D σ σ') (b : ag E τ τ') (hD : ∀ k n i, D k n i → (k = 150 ∧ (i = 2 ∨ i = 3 ∨ i = 4) ∨ k = 300 ∨ k = 301 ∨ k = 302)) (hE : ∀ k n i, E k n i → (k = 500 ∧ (i = 25 ∨ i = 27 ∨ i = 30) ∨ k = 532 ∨ k = 533 ∨ k = 535)) : RC z own pn lc la od ns t sc σ' τ' := by
  obtain ⟨h1, h2, h3, h4, h5, h6⟩ := h
  have hD' : ∀ k n i, ¬ (k = 150 ∧ (i = 2 ∨ i = 3 ∨ i = 4) ∨ k = 300 ∨ k = 301 ∨ k = 302) → ¬ D k n i := fun k n i q r => q (hD k n i r)
  have hE' : ∀ k n i, ¬ (k = 500 ∧ (i = 25 ∨ i = 27 ∨ i = 30) ∨ k = 532 ∨ k = 533 ∨ k = 535) → ¬ E k n i := fun k n i q r => q (hE k n i r)
  exact ⟨CR_ag h1 a b (fun k n i q => hD' k n i (by omega)) (fun k n i q => hE' k n i (by omega)), rS_ag h2 a b (fun k n i q => hD' k n i (by omega)) (fun k n i q => hE' k n i (by omega)), rK_ag h3 a b (fun k n i q => hD' k n i (by omega)) (fun k n i q => hE' k n i (by omega)), fun g hg => rM1_ag (h4 g hg) a b (fun k n i q => hD' k n i (by omega)) (fun k n i q => hE' k n i (by omega)), rSt_ag h5 a b (fun k n i q => hD' k n i (by omega)) (fun k n i q => hE' k n i (by omega)), by rw [agL a (hD' _ _ _ (by omega)), agL b (hE' _ _ _ (by omega))]; exact h6⟩
theorem RC_st {z : Nat × Nat} {own pn : Nat → Nat} {lc : Nat → Nat} {la od : Nat → Nat → Nat} {ns t sc sc' : Nat} {σ τ σ' τ' : PS} (h : RC z own pn lc la od ns t sc σ τ) (a : ag DSC σ σ') (b : ag DSX τ τ') (hs : rSt sc' σ' τ') : RC z own pn lc la od ns t sc' σ' τ' := by
  obtain ⟨h1, h2, h3, h4, h5, h6⟩ := h
  exact ⟨CR_ag h1 a b (fun k n i q => by unfold DSC; omega) (fun k n i q => by unfold DSX; omega), rS_ag h2 a b (fun k n i q => by unfold DSC; omega) (fun k n i q => by unfold DSX; omega), rK_ag h3 a b (fun k n i q => by unfold DSC; omega) (fun k n i q => by unfold DSX; omega), fun g hg => rM1_ag (h4 g hg) a b (fun k n i q => by unfold DSC; omega) (fun k n i q => by unfold DSX; omega), hs, by rw [agL a (by unfold DSC; omega), agL b (by unfold DSX; omega)]; exact h6⟩
def DBC : Nat → Nat → Nat → Prop := fun k _ i => k = 150 ∧ ¬ i = 2 ∨ k = 151 ∨ k = 456 ∨ k = 350 ∨ k = 351 ∨ k = 352 ∨ k = 301 ∨ k = 302
def DBM : Nat → Nat → Nat → Prop := fun k _ i => k = 500 ∧ (i = 5 ∨ i = 25 ∨ i = 26 ∨ i = 27 ∨ i = 29) ∨ k = 507 ∨ k = 508 ∨ k = 524 ∨ k = 529 ∨ k = 532 ∨ k = 533 ∨ k = 535
noncomputable def L48 (n : Nat) (v : Int32) (τ : PS) : Option (Int32 × PS) := X10_call_l48 (fun v2 σ => X10_call_c67 v2 σ) n v τ
theorem L48_neg {n : Nat} {v : Int32} {τ : PS} (hv : v < 0) : L48 (n + 1) v τ = some (-2 - v, sI τ 500 0 25 (-2 - v)) := by
  unfold L48
  rw [X10_call_l48.eq_2, if_pos hv]
  unfold X10_call_c67
  rw [nm_b, gI_sI, if_pos ⟨rfl, rfl, rfl⟩]
theorem L48_pos {n h f : Nat} {τ : PS} (hh : h < 40) (ho : gI τ 516 0 h = nI f) : L48 (n + 1) (nI h) τ = bp (X10_run (nI f) (nI h) τ) (fun r τ => L48 n r τ) := by
  unfold L48
  rw [X10_call_l48.eq_2, if_neg (nI_pos (by omega)), ib_nI (by omega), gd_d hh, ix_nI (by omega), ho]
def sbP (S : Nat → Bool) (B : Nat → Nat → Bool) (b : Option Nat) (a : Nat) : Bool := S a && (match b with | none => true | some g => B g a)
theorem sbP_s (S : Nat → Bool) (B : Nat → Nat → Bool) (g a : Nat) : sbP S B (some g) a = (S a && B g a) := rfl
theorem runB {z : Nat × Nat} {own pn : Nat → Nat} {lc : Nat → Nat} {la od : Nat → Nat → Nat} {ns t f : Nat} {c : Nat → Nat} {w : Nat → Int32} (hf : f < z.1) (S : Nat → Bool) (B : Nat → Nat → Bool) : ∀ (n run sc n' : Nat) (b : Option Nat) (rM : Int32) (σ τ : PS), 8 - run < n → 8 - run + 1 ≤ n' → sc + (8 - run) + 1 < 2 ^ 30 → RC z own pn lc la od ns t sc σ τ → rWC (pn f) c w σ → rWM (pn f) c w τ → gI σ 300 0 2 = nI (pn f) → (∀ a, a < lc f → S a = (tkP τ c w (pn f) (la f a) && plP τ (la f a))) → (∀ i j, moP τ (pn f) (la f i) (la f j) = B i j) → (∀ g, b = some g → g < lc f) → (∃ a, a < lc f ∧ sbP S B b a = true) → cnt (sbP S B b) (lc f) + run ≤ 8 → X10_chosen (nI f) (ofI (b.map (la f))) τ = some rM →
    (∃ ns' sc' σ' τ' o, X9_runChosen_l5 z (fun σ => X9_runChosen_c110 z σ) n f (mkS (lc f) S) (mkS (lc f) (sbP S B b)) (nI run) σ = some (none, σ') ∧ L48 n' (if 0 ≤ rM then rM else -4) τ = some (o, sI τ' 500 0 25 o) ∧ gI σ' 150 0 3 = o ∧ (o = 3 → gI σ' 150 0 4 = gI τ' 500 0 27) ∧ ns ≤ ns' ∧ RC z own pn lc la od ns' t sc' σ' τ' ∧ ag DBC σ σ' ∧ ag DBM τ τ' ∧ sc' ≤ sc + (8 - run)) ∨
    (∃ g sc' σ' τ' c' w' n'', X9_runChosen_l5 z (fun σ => X9_runChosen_c110 z σ) n f (mkS (lc f) S) (mkS (lc f) (sbP S B b)) (nI run) σ = some (some g, σ') ∧ L48 n' (if 0 ≤ rM then rM else -4) τ = bp (X10_begin (nI g) τ') (fun r τ => L48 n'' r τ) ∧ n' ≤ n'' + (8 - run) ∧ g < z.1 ∧ pn g = pn f ∧ RC z own pn lc la od ns t sc' σ' τ' ∧ rWC (pn f) c' w' σ' ∧ rWM (pn f) c' w' τ' ∧ ag DBC σ σ' ∧ ag DBM τ τ' ∧ sc' ≤ sc + (8 - run)) := by
  intro n
  induction n with
  | zero => intro run sc n' b rM σ τ hn; omega
  | succ n ih =>
    intro run sc n' b rM σ τ hn hn' hsc hR hWC hWM h3 hS hBf hb hex hcnt hch
    obtain ⟨hC, hSa, hK, hM, hSt, hSu⟩ := id hR
    obtain ⟨hB, hO, hQ, hF, hH, hLL⟩ := id hC
    have hL := hLL f hf
    have hlc := hL.1.1
    have h40 := hH.1
    obtain ⟨-, -, ⟨p1, p2⟩, p3, p4, -⟩ := hF.2.2.2 f hf
    have hN : ∀ i, i < lc f → la f i < z.2 := fun i hi => (hL.1.2.2 i hi).2
    have hown : ∀ i, i < lc f → own (la f i) = f := fun i hi => ld_own ((hL.2.2.1 _ (hN i hi)).mpr ⟨i, hi, rfl⟩)
    have hrun : run < 8 := by
      obtain ⟨a, ha, hs⟩ := hex
      have : ¬ cnt (sbP S B b) (lc f) = 0 := fun q => by rw [cnt_zero.mp q a ha] at hs; cases hs
      omega
    obtain ⟨m', rfl⟩ : ∃ m', n' = m' + 1 := ⟨n' - 1, by omega⟩
    -- the chosen one of those that are left
    have hof : ∀ h, h < z.2 → (ofP own τ c w (pn f) f (b.map (la f)) h = true ↔ ∃ i, i < lc f ∧ la f i = h ∧ sbP S B b i = true) := by
      intro h hh
      cases b with
      | none =>
        rw [show Option.map (la f) none = none from rfl, of_none hL h hh]
        constructor
        · rintro ⟨i, hi, e, s⟩; exact ⟨i, hi, e, by unfold sbP; rw [hS i hi, s]; rfl⟩
        · rintro ⟨i, hi, e, s⟩; exact ⟨i, hi, e, by unfold sbP at s; rw [hS i hi] at s; simpa using s⟩
      | some g =>
        rw [show Option.map (la f) (some g) = some (la f g) from rfl, of_some hL g h hh]
        constructor
        · rintro ⟨i, hi, e, s⟩; exact ⟨i, hi, e, by rw [sbP_s, hS i hi, ← hBf]; exact s⟩
        · rintro ⟨i, hi, e, s⟩; exact ⟨i, hi, e, by rw [sbP_s, hS i hi, ← hBf] at s; exact s⟩
    obtain ⟨rC, rM', c1, c2, c3⟩ := chBoth hB hO hQ hF hH hf hL hWM (b.map (la f)) (fun g q => by
      cases b with
      | none => cases q
      | some g' =>
        have : la f g' = g := by simpa using q
        rw [← this]
        exact ⟨hN g' (hb g' rfl), hown g' (hb g' rfl)⟩) hof
    rw [hch] at c2
    have erM : rM = rM' := by simpa using c2
    subst erM
    rw [X9_runChosen_l5.eq_2, if_neg (show ¬ (8 : Int32) ≤ nI run from nI_ge (b := 8) hrun (by omega)), c1]
    simp only [Option.bind_some]
    rcases c3 with ⟨q1, q2, -⟩ | ⟨i, hci, q1, q2⟩
    · left
      subst q1 q2
      refine ⟨ns, sc, sI σ 150 0 3 2, τ, 2, ?_, ?_, by simp [gI_sI], fun q => absurd q (by decide), Nat.le_refl _, RC_ag hR (ag_sI (D := fun k _ i => k = 150 ∧ i = 3) ⟨rfl, rfl⟩) (ag_r (D := fun _ _ _ => False) τ) (fun k n i q => by omega) (fun k n i q => q.elim), ag_sI (by unfold DBC; omega), ag_r _, by omega⟩
      · rw [(numAt_m z f σ).1]; rfl
      · rw [if_neg (by decide), L48_neg (by decide)]; rfl
    · have hi := hci.1
      have hlo := hN i hi
      subst q1 q2
      obtain ⟨⟨-, -, -, b4⟩, bo, -⟩ := hH.2.2.2 _ hlo
      rw [hown i hi] at b4
      obtain ⟨o1, o2, -, o4, -⟩ := bo
      rw [(numAt hH hL.1 hi).1, if_pos (nI_pos' (show la f i < 2 ^ 31 by omega)), L48_pos (by omega) b4, run_eq]
      simp only [Option.bind_some, oc_s' hlo, o1, ib_nI (show la f i < 2 ^ 31 by omega), gd_d (show la f i < 40 by omega), ix_nI (show la f i < 2 ^ 31 by omega), nm_b]
      obtain ⟨σ1, τ1, s1, s2, s3, s4, s5⟩ := stB z (show sc < 2 ^ 30 by omega) hSt (nI (la f i))
      have s4x : ag DSX τ τ1 := ag_m s4 (fun k n i q => by unfold DSM at q; unfold DSX; omega)
      have hR1 : RC z own pn lc la od ns t (sc + 1) σ1 τ1 := RC_st hR s3 s4x s5
      obtain ⟨hC1, hSa1, hK1, hM1, hSt1, hSu1⟩ := id hR1
      obtain ⟨hB1, hO1, hQ1, hF1, hH1, hLL1⟩ := id hC1
      have hL1 := hLL1 f hf
      have hWC1 := rWC_ag hWC s3 (fun k n i q => by unfold DSC; omega)
      have hWM1 := rWM_ag hWM s4x (fun k n i q => by unfold DSX; omega)
      have h31 : gI σ1 300 0 2 = nI (pn f) := by rw [agI s3 (by unfold DSC; omega), h3]
      have hS1 : ∀ a, a < lc f → S a = (tkP τ1 c w (pn f) (la f a) && plP τ1 (la f a)) := fun a ha => by rw [tkP_ag s4x (fun k n i q => by unfold DSX; omega), plP_ag s4x (fun k n i q => by unfold DSX; omega)]; exact hS a ha
      have hBf1 : ∀ i j, moP τ1 (pn f) (la f i) (la f j) = B i j := fun i j => by rw [moP_ag s4x (fun k n i q => by unfold DSX; omega)]; exact hBf i j
      have a1 : ag DBC σ σ1 := ag_m s3 (fun k n i q => by unfold DSC at q; unfold DBC; omega)
      have b1 : ag DBM τ τ1 := ag_m s4x (fun k n i q => by unfold DSX at q; unfold DBM; omega)
      have e18 : gI τ 518 0 (la f i) = gI τ1 518 0 (la f i) := (agI s4x (by unfold DSX; omega)).symm
      obtain ⟨-, bo1, -⟩ := hH1.2.2.2 _ hlo
      rw [s1, s2]
      simp only [Option.bind_some, bo1.2.1, e18]
      by_cases hact : gI τ1 517 0 (la f i) = 2
      · rw [if_pos hact, bo1.2.2.2.1]
        have hrt : runT (nI f) (nI (la f i)) (gI τ1 518 0 (la f i)) τ1 = (X10_offered (nI f) (nI (la f i)) τ1).bind (fun r8 => if r8 = 0 then X10_end (gI τ1 518 0 (la f i)).toInt64 τ1 else nm (sL τ1 500 0 26 ((gL τ1 500 0 26) + (gI τ1 518 0 (la f i)).toInt64)) (fun σ9 => (X10_choose (nI f) (nI (la f i)) σ9).bind (fun r10 => some (r10, σ9)))) := by
          unfold runT
          simp only [ib_nI (show la f i < 2 ^ 31 by omega), gd_d (show la f i < 40 by omega), ix_nI (show la f i < 2 ^ 31 by omega), hact, bp_id]
          rfl
        rw [hrt]
        -- behind the sum
        have aL : ag (fun k _ i => k = 150 ∧ i = 5) σ1 (sL σ1 150 0 5 (gL σ1 150 0 5 + (gI τ1 518 0 (la f i)).toInt64)) := ag_sL ⟨rfl, rfl⟩
        have bL : ag (fun k _ i => k = 500 ∧ i = 26) τ1 (sL τ1 500 0 26 (gL τ1 500 0 26 + (gI τ1 518 0 (la f i)).toInt64)) := ag_sL ⟨rfl, rfl⟩
        have hR2 : RC z own pn lc la od ns t (sc + 1) (sL σ1 150 0 5 (gL σ1 150 0 5 + (gI τ1 518 0 (la f i)).toInt64)) (sL τ1 500 0 26 (gL τ1 500 0 26 + (gI τ1 518 0 (la f i)).toInt64)) := RC_fr hR1 (ag_m aL (fun k n i q => by unfold DAC; omega)) (ag_m bL (fun k n i q => by unfold DAM; omega)) (rS_ag hSa1 aL bL (fun k n i q => by omega) (fun k n i q => by omega)) (rK_ag hK1 aL bL (fun k n i q => by omega) (fun k n i q => by omega)) (by rw [gL_sL, gL_sL, if_pos ⟨rfl, rfl, rfl⟩, if_pos ⟨rfl, rfl, rfl⟩, hSu1])
        have a2 : ag DBC σ (sL σ1 150 0 5 (gL σ1 150 0 5 + (gI τ1 518 0 (la f i)).toInt64)) := ag_t a1 (ag_m aL (fun k n i q => by unfold DBC; omega))
        have b2 : ag DBM τ (sL τ1 500 0 26 (gL τ1 500 0 26 + (gI τ1 518 0 (la f i)).toInt64)) := ag_t b1 (ag_m bL (fun k n i q => by unfold DBM; omega))
        have hWC2 := rWC_ag hWC1 aL (fun k n i q => by omega)
        have hWM2 := rWM_ag hWM1 bL (fun k n i q => by omega)
        have h32 : gI (sL σ1 150 0 5 (gL σ1 150 0 5 + (gI τ1 518 0 (la f i)).toInt64)) 300 0 2 = nI (pn f) := by rw [gI_sL, h31]
        have hS2 : ∀ a, a < lc f → S a = (tkP (sL τ1 500 0 26 (gL τ1 500 0 26 + (gI τ1 518 0 (la f i)).toInt64)) c w (pn f) (la f a) && plP (sL τ1 500 0 26 (gL τ1 500 0 26 + (gI τ1 518 0 (la f i)).toInt64)) (la f a)) := fun a ha => by rw [tkP_ag bL (fun k n i q => by omega), plP_ag bL (fun k n i q => by omega)]; exact hS1 a ha
        have hBf2 : ∀ i' j, moP (sL τ1 500 0 26 (gL τ1 500 0 26 + (gI τ1 518 0 (la f i)).toInt64)) (pn f) (la f i') (la f j) = B i' j := fun i' j => by rw [moP_ag bL (fun k n i q => by omega)]; exact hBf1 i' j
        have hend : X10_end (gI τ1 518 0 (la f i)).toInt64 τ1 = some (-2, sL τ1 500 0 26 (gL τ1 500 0 26 + (gI τ1 518 0 (la f i)).toInt64)) := rfl
        have hoff1 : X10_offered (nI f) (nI (la f i)) τ1 = some (nI (cnt (ofP own τ1 c w (pn f) f (some (la f i))) z.2)) := offM hB1 hQ1 hF1 hH1 hf hWM1 (some (la f i)) (fun g q => by cases q; exact ⟨hlo, hown i hi⟩)
        rw [hoff1, hend]
        generalize sL σ1 150 0 5 (gL σ1 150 0 5 + (gI τ1 518 0 (la f i)).toInt64) = σ2 at hR2 a2 hWC2 h32 ⊢
        generalize sL τ1 500 0 26 (gL τ1 500 0 26 + (gI τ1 518 0 (la f i)).toInt64) = τ2 at hR2 b2 bL hWM2 hS2 hBf2 ⊢
        obtain ⟨hC2, -⟩ := id hR2
        obtain ⟨hB2, hO2, hQ2, hF2, hH2, hLL2⟩ := id hC2
        have hL2 := hLL2 f hf
        have hbt : ∀ j, j < lc f → gI σ2 57 f j = mkS (lc f) (B j) := fun j hj => by
          rw [hL2.2.2.2.2.1 j hj]
          exact mkS_congr (fun x _ => hBf2 j x)
        have hof2 : ∀ h, h < z.2 → (ofP own τ2 c w (pn f) f (some (la f i)) h = true ↔ ∃ j, j < lc f ∧ la f j = h ∧ sbP S B (some i) j = true) := fun h hh => by
          rw [of_some hL2 i h hh]
          constructor
          · rintro ⟨j, hj, e, s⟩; exact ⟨j, hj, e, by rw [sbP_s, hS2 j hj, ← hBf2]; exact s⟩
          · rintro ⟨j, hj, e, s⟩; exact ⟨j, hj, e, by rw [sbP_s, hS2 j hj, ← hBf2] at s; exact s⟩
        have hof1 : ∀ h, ofP own τ2 c w (pn f) f (some (la f i)) h = ofP own τ1 c w (pn f) f (some (la f i)) h := fun h => ofP_ag bL (fun k n i q => by omega) c w (pn f) f _ h
        have hc12 : cnt (ofP own τ1 c w (pn f) f (some (la f i))) z.2 = cnt (ofP own τ2 c w (pn f) f (some (la f i))) z.2 := cnt_congr (fun h _ => (hof1 h).symm)
        rw [hc12, btnC z hlc hL2.1.2.1 hbt hi]
        simp only [Option.bind_some, mkS_and (show lc f ≤ 32 by omega)]
        have hy : (mkS (lc f) (fun j => S j && B i j)) = mkS (lc f) (sbP S B (some i)) := rfl
        rw [hy]
        have hle := cnt_le (ofP own τ2 c w (pn f) f (some (la f i))) z.2
        by_cases hz : mkS (lc f) (sbP S B (some i)) = 0
        · left
          have hz' := (mkS_0 (show lc f ≤ 32 by omega)).mp hz
          have hc0 : cnt (ofP own τ2 c w (pn f) f (some (la f i))) z.2 = 0 := cnt_zero.mpr (fun h hh => by
            rcases hq : ofP own τ2 c w (pn f) f (some (la f i)) h with _ | _
            · rfl
            · obtain ⟨j, hj, -, s⟩ := (hof2 h hh).mp hq
              rw [hz' j hj] at s; cases s)
          obtain ⟨m'', rfl⟩ : ∃ m'', m' = m'' + 1 := ⟨m' - 1, by omega⟩
          refine ⟨ns, sc + 1, sI σ2 150 0 3 0, τ2, 0, ?_, ?_, by simp [gI_sI], fun q => absurd q (by decide), Nat.le_refl _, RC_ag hR2 (ag_sI (D := fun k _ i => k = 150 ∧ i = 3) ⟨rfl, rfl⟩) (ag_r (D := fun _ _ _ => False) τ2) (fun k n i q => by omega) (fun k n i q => q.elim), ag_t a2 (ag_sI (by unfold DBC; omega)), b2, by omega⟩
          · rw [if_pos hz]; rfl
          · rw [hc0, if_pos (show nI 0 = (0 : Int32) from rfl)]
            simp only [bp_s]
            rw [L48_neg (by decide)]; rfl
        · have hex2 : ∃ a, a < lc f ∧ sbP S B (some i) a = true := Classical.byContradiction (fun q => hz ((mkS_0 (show lc f ≤ 32 by omega)).mpr (fun a ha => by
            rcases hs : sbP S B (some i) a with _ | _
            · rfl
            · exact absurd ⟨a, ha, hs⟩ q)))
          have hcp : 0 < cnt (ofP own τ2 c w (pn f) f (some (la f i))) z.2 := by
            obtain ⟨a, ha, hs⟩ := hex2
            have h1 := (hof2 _ (hN a ha)).mpr ⟨a, ha, rfl, hs⟩
            rcases Nat.eq_zero_or_pos (cnt (ofP own τ2 c w (pn f) f (some (la f i))) z.2) with q | q
            · rw [cnt_zero.mp q _ (hN a ha)] at h1; cases h1
            · exact q
          have hne : ¬ nI (cnt (ofP own τ2 c w (pn f) f (some (la f i))) z.2) = 0 := nI_ne0 hcp (by omega)
          have hbs : ∀ g, (some (la f i)) = some g → g < z.2 ∧ own g = f := fun g q => by cases q; exact ⟨hlo, hown i hi⟩
          obtain ⟨rM2, e2, -⟩ := chM hB2 hQ2 hF2 hH2 hf hWM2 (some (la f i)) hbs
          have hcho : X10_choose (nI f) (nI (la f i)) τ2 = some (if 0 ≤ rM2 then rM2 else -4) := by
            unfold X10_choose
            rw [show X10_offered (nI f) (nI (la f i)) τ2 = some (nI (cnt (ofP own τ2 c w (pn f) f (some (la f i))) z.2)) from offM hB2 hQ2 hF2 hH2 hf hWM2 (some (la f i)) hbs]
            simp only [Option.bind_some, if_neg hne]
            rw [show X10_chosen (nI f) (nI (la f i)) τ2 = some rM2 from e2]
            simp only [Option.bind_some]
            by_cases q : 0 ≤ rM2
            · rw [if_pos q, if_pos q]
            · rw [if_neg q, if_neg q]
          rw [if_neg hz, if_neg hne, nm_b, hcho, nI_s]
          simp only [Option.bind_some, bp_s]
          -- fewer are left
          have hlt : cnt (sbP S B (some i)) (lc f) < cnt (sbP S B b) (lc f) := by
            have hsub : ∀ a, a < lc f → sbP S B (some i) a = true → sbP S B b a = true ∧ ¬ a = i := fun a ha hs => by
              unfold sbP at hs
              simp only [Bool.and_eq_true] at hs
              refine ⟨?_, fun q => ?_⟩
              · cases b with
                | none => unfold sbP; rw [hs.1]; rfl
                | some g =>
                  have hg := hb g rfl
                  have h1 := hci.2.1
                  unfold sbP at h1 ⊢
                  simp only [Bool.and_eq_true] at h1 ⊢
                  refine ⟨hs.1, ?_⟩
                  have t1 : moP τ (pn f) (la f g) (la f i) = true := by rw [hBf]; exact h1.2
                  have t2 : moP τ (pn f) (la f i) (la f a) = true := by rw [hBf]; exact hs.2
                  have := mo_tr hO hQ p2 (hN g hg) hlo (hN a ha) t1 t2
                  rw [hBf] at this
                  exact this
              · subst q
                have := mo_irr τ (pn f) (la f a)
                rw [hBf] at this
                rw [this] at hs
                exact Bool.noConfusion hs.2
            have h1 := cnt_rm hci.2.1 (lc f) hi
            have h2 : ∀ m, m ≤ lc f → cnt (sbP S B (some i)) m ≤ cnt (fun a => sbP S B b a && !decide (a = i)) m := by
              intro m
              induction m with
              | zero => intro _; exact Nat.le_refl _
              | succ m ihm =>
                intro hm
                rw [cnt_s, cnt_s]
                have := ihm (by omega)
                rcases hs : sbP S B (some i) m with _ | _
                · simp; omega
                · obtain ⟨x1, x2⟩ := hsub m (by omega) hs
                  rw [if_pos rfl, if_pos (by simp [x1, x2])]; omega
            have := h2 (lc f) (Nat.le_refl _)
            omega
          rcases ih (run + 1) (sc + 1) m' (some i) rM2 σ2 τ2 (by omega) (by omega) (by omega) hR2 hWC2 hWM2 h32 hS2 hBf2 (fun g q => by cases q; exact hi) hex2 (by omega) e2 with ⟨ns', sc', σ', τ', o, r1, r2, r3, r4, r5, r6, r7, r8, r9⟩ | ⟨g, sc', σ', τ', c', w', n'', r1, r2, r3, r4, r5, r6, r7, r8, r9, r10, r11⟩
          · exact Or.inl ⟨ns', sc', σ', τ', o, r1, r2, r3, r4, r5, r6, ag_t a2 r7, ag_t b2 r8, by omega⟩
          · exact Or.inr ⟨g, sc', σ', τ', c', w', n'', r1, r2, by omega, r4, r5, r6, r7, r8, ag_t a2 r9, ag_t b2 r10, by omega⟩
      · rw [if_neg hact]
        rcases actB hR1 hf hlo (hown i hi) hWC1 hWM1 h31 hact with ⟨ns', σ', τ', q1, q2, q3, q4, q5, q6⟩ | ⟨g, σ', τ', c', w', q1, q2, q3, q4, q5, q6, q7, q8, q9⟩
        · left
          obtain ⟨m'', rfl⟩ : ∃ m'', m' = m'' + 1 := ⟨m' - 1, by omega⟩
          have a2 : ag DBC σ σ' := ag_t a1 (ag_m q3 (fun k n i q => by unfold DAC at q; unfold DBC; omega))
          have b2 : ag DBM τ τ' := ag_t b1 (ag_m q4 (fun k n i q => by unfold DAM at q; unfold DBM; omega))
          rcases q6 with ⟨u1, u2⟩ | ⟨u1, u2, u3⟩
          · refine ⟨ns', sc + 1, σ', τ', 0, by rw [q2]; rfl, ?_, u1, fun q => absurd q (by decide), q1, q5, a2, b2, by omega⟩
            rw [u2]
            simp only [bp_s]
            rw [L48_neg (by decide)]; rfl
          · refine ⟨ns', sc + 1, σ', τ', 3, by rw [q2]; rfl, ?_, u1, fun _ => u2, q1, q5, a2, b2, by omega⟩
            rw [u3]
            simp only [bp_s]
            rw [L48_neg (by decide)]; rfl
        · right
          have a2 : ag DBC σ σ' := ag_t a1 (ag_m q5 (fun k n i q => by unfold DAC at q; unfold DBC; omega))
          have b2 : ag DBM τ τ' := ag_t b1 (ag_m q6 (fun k n i q => by unfold DAM at q; unfold DBM; omega))
          exact ⟨g, sc + 1, σ', τ', c', w', m', by rw [q3]; rfl, by rw [q4], by omega, q1, q2, q7, q8, q9, a2, b2, by omega⟩

/-! ===== calls within calls; call() ===== -/
def DKC : Nat → Nat → Nat → Prop := fun k _ _ => k = 150 ∨ k = 151 ∨ k = 456 ∨ k = 350 ∨ k = 351 ∨ k = 352 ∨ k = 200 ∨ k = 201 ∨ k = 202 ∨ k = 203 ∨ k = 204 ∨ k = 300 ∨ k = 301 ∨ k = 302
def DKM (z1 : Nat) : Nat → Nat → Nat → Prop := fun k _ i => k = 500 ∧ (i = 5 ∨ i = 25 ∨ i = 26 ∨ i = 27 ∨ i = 29 ∨ i = 30) ∨ k = 507 ∨ k = 508 ∨ (k = 512 ∨ k = 514) ∧ i < z1 ∨ k = 513 ∨ k = 524 ∨ k = 529 ∨ k = 532 ∨ k = 533 ∨ k = 535
theorem callB {z : Nat × Nat} {own pn : Nat → Nat} {lc : Nat → Nat} {la od : Nat → Nat → Nat} : ∀ (k d f n n' ns t sc : Nat) (σ τ : PS) (c : Nat → Nat) (w : Nat → Int32), d + k = 13 → 1 ≤ d → k + 1 < n → 10 * k + 1 ≤ n' → t + k < 2 ^ 30 → sc ≤ 16 * (d - 1) → f < z.1 → RC z own pn lc la od ns t sc σ τ → rWC (pn f) c w σ → rWM (pn f) c w τ → gI σ 300 0 2 = nI (pn f) → gI σ 150 0 2 = nI (d - 1) → gI τ 500 0 30 = nI (d - 1) →
    ∃ o ns' t' sc' σ' τ', X9_call_l36 z (fun v3 σ => X9_call_c68 z v3 σ) n (some f) (nI d) σ = some (o, σ') ∧ bp (X10_begin (nI f) τ) (fun r τ => L48 n' r τ) = some (o, τ') ∧ gI σ' 150 0 3 = o ∧ gI τ' 500 0 25 = o ∧ (o = 3 → gI σ' 150 0 4 = gI τ' 500 0 27) ∧ ns ≤ ns' ∧ t' ≤ t + k ∧ sc' ≤ 192 ∧ RC z own pn lc la od ns' t' sc' σ' τ' ∧ gI σ' 150 0 2 = gI τ' 500 0 30 ∧ ag DKC σ σ' ∧ ag (DKM z.1) τ τ' := by
  intro k
  induction k with
  | zero =>
    intro d f n n' ns t sc σ τ c w hd h1 hn hn' ht hsc hf hR hWC hWM h3 hdC hdM
    have ed : d = 13 := by omega
    subst ed
    obtain ⟨n1, rfl⟩ : ∃ n1, n = n1 + 1 := ⟨n - 1, by omega⟩
    obtain ⟨m1, rfl⟩ : ∃ m1, n' = m1 + 1 := ⟨n' - 1, by omega⟩
    refine ⟨4, ns, t, sc, sI σ 150 0 3 4, sI τ 500 0 25 4, ?_, ?_, by simp [gI_sI], by simp [gI_sI], fun q => absurd q (by decide), Nat.le_refl _, by omega, by omega, RC_ag hR (ag_sI (D := fun k _ i => k = 150 ∧ i = 3) ⟨rfl, rfl⟩) (ag_sI (D := fun k _ i => k = 500 ∧ i = 25) ⟨rfl, rfl⟩) (fun k n i q => by omega) (fun k n i q => by omega), ?_, ag_sI (by unfold DKC; omega), ag_sI (by unfold DKM; omega)⟩
    · rw [X9_call_l36.eq_2, oc_s' hf, if_pos (by decide)]
      unfold X9_call_c68
      rw [oc_s' hf, nm_b, gI_sI, if_pos ⟨rfl, rfl, rfl⟩]
    · unfold X10_begin
      rw [hdM, if_pos (by decide)]
      simp only [bp_s]
      rw [L48_neg (by decide)]; rfl
    · rw [gI_sI, if_neg (by omega), gI_sI, if_neg (by omega), hdC, hdM]
  | succ k ih =>
    intro d f n n' ns t sc σ τ c w hd h1 hn hn' ht hsc hf hR hWC hWM h3 hdC hdM
    have hfu := fuel_ge
    obtain ⟨n1, rfl⟩ : ∃ n1, n = n1 + 1 := ⟨n - 1, by omega⟩
    have hf4 := hR.1.2.2.2.1.1
    -- one deeper
    have aD : ag (fun k _ i => k = 150 ∧ i = 2) σ (sI σ 150 0 2 (nI d)) := ag_sI ⟨rfl, rfl⟩
    have bD : ag (fun k _ i => k = 500 ∧ i = 30) τ (sI τ 500 0 30 (nI d)) := ag_sI ⟨rfl, rfl⟩
    have hR0 := RC_ag hR aD bD (fun k n i q => by omega) (fun k n i q => by omega)
    have hWC0 := rWC_ag hWC aD (fun k n i q => by omega)
    have hWM0 := rWM_ag hWM bD (fun k n i q => by omega)
    have h30 : gI (sI σ 150 0 2 (nI d)) 300 0 2 = nI (pn f) := by rw [gI_k (by decide), h3]
    have d0 : gI (sI σ 150 0 2 (nI d)) 150 0 2 = nI d := by simp [gI_sI]
    have d0' : gI (sI τ 500 0 30 (nI d)) 500 0 30 = nI d := by simp [gI_sI]
    have a0 : ag DKC σ (sI σ 150 0 2 (nI d)) := ag_sI (by unfold DKC; omega)
    have b0 : ag (DKM z.1) τ (sI τ 500 0 30 (nI d)) := ag_sI (by unfold DKM; omega)
    have eC : X9_call_l36 z (fun v3 σ => X9_call_c68 z v3 σ) (n1 + 1) (some f) (nI d) σ = bp (X9_carryOut z f (sI σ 150 0 2 (nI d))) (fun r7 σ7 => X9_call_l36 z (fun v3 σ => X9_call_c68 z v3 σ) n1 r7 (nI (d + 1)) σ7) := by
      rw [X9_call_l36.eq_2, oc_s' hf, if_neg (show ¬ (12 : Int32) < nI d from nI_nlt (a := 12) (by omega) (by omega)), nm_b, nI_s]
    have eM : X10_begin (nI f) τ = bp (X10_isBarred (nI f) (sI τ 500 0 30 (nI d))) (fun r2 σ2 => if r2 = 0 then (X10_remember (nI f) σ2).bind (fun σ3 => (X10_choose (nI f) (-1 : Int32) σ3).bind (fun r4 => some (r4, σ3))) else some ((-7 : Int32), σ2)) := by
      unfold X10_begin
      have hne : ¬ gI τ 500 0 30 = 12 := fun q => by
        rw [hdM] at q
        have := (nI_eq (a := d - 1) (b := 12) (by omega) (by omega)).mp q
        omega
      rw [if_neg hne, nm_b, hdM, nI_s, show d - 1 + 1 = d by omega]
    have eno : ∀ σ' : PS, X9_call_l36 z (fun v3 σ => X9_call_c68 z v3 σ) n1 none (nI (d + 1)) σ' = some (gI σ' 150 0 3, σ') := fun σ' => by
      obtain ⟨n2, rfl⟩ : ∃ n2, n1 = n2 + 1 := ⟨n1 - 1, by omega⟩
      rw [X9_call_l36.eq_2]
      rfl
    rw [eC, eM]
    generalize sI σ 150 0 2 (nI d) = σ0 at hR0 hWC0 h30 d0 a0 ⊢
    generalize sI τ 500 0 30 (nI d) = τ0 at hR0 hWM0 d0' b0 ⊢
    obtain ⟨b, σ1, τ1, sc1, u1, u2, u3, u4, u5, u6⟩ := barB hR0.1 hf hWC0 hWM0 h30 (show sc + 8 < 2 ^ 30 by omega) hR0.2.2.2.2.1
    have hR1 : RC z own pn lc la od ns t sc1 σ1 τ1 := RC_st hR0 u3 u4 u5
    have a1 : ag DKC σ σ1 := ag_t a0 (ag_m u3 (fun k n i q => by unfold DSC at q; unfold DKC; omega))
    have b1 : ag (DKM z.1) τ τ1 := ag_t b0 (ag_m u4 (fun k n i q => by unfold DSX at q; unfold DKM; omega))
    have d1 : gI σ1 150 0 2 = nI d := (agI u3 (by unfold DSC; omega)).trans d0
    have d1' : gI τ1 500 0 30 = nI d := (agI u4 (by unfold DSX; omega)).trans d0'
    unfold X9_carryOut
    rw [u1, u2]
    simp only [bp_s]
    obtain ⟨m1, rfl⟩ : ∃ m1, n' = m1 + 1 := ⟨n' - 1, by omega⟩
    cases b with
    | true =>
      rw [if_neg (show ¬ bI true = 0 by decide), if_neg (show ¬ bI true = 0 by decide)]
      simp only [bp_s, nm_b]
      refine ⟨5, ns, t, sc1, sI σ1 150 0 3 5, sI τ1 500 0 25 5, ?_, ?_, by simp [gI_sI], by simp [gI_sI], fun q => absurd q (by decide), Nat.le_refl _, by omega, by omega, RC_ag hR1 (ag_sI (D := fun k _ i => k = 150 ∧ i = 3) ⟨rfl, rfl⟩) (ag_sI (D := fun k _ i => k = 500 ∧ i = 25) ⟨rfl, rfl⟩) (fun k n i q => by omega) (fun k n i q => by omega), ?_, ag_t a1 (ag_sI (by unfold DKC; omega)), ag_t b1 (ag_sI (by unfold DKM; omega))⟩
      · rw [eno, gI_sI, if_pos ⟨rfl, rfl, rfl⟩]
      · rw [L48_neg (by decide)]; rfl
      · rw [gI_sI, if_neg (by omega), gI_sI, if_neg (by omega), d1, d1']
    | false =>
      rw [if_pos (show bI false = 0 from rfl), if_pos (show bI false = 0 from rfl)]
      have hWC1 := rWC_ag hWC0 u3 (fun k n i q => by unfold DSC; omega)
      have hWM1 := rWM_ag hWM0 u4 (fun k n i q => by unfold DSX; omega)
      have h31 : gI σ1 300 0 2 = nI (pn f) := (agI u3 (by unfold DSC; omega)).trans h30
      obtain ⟨hC1, hS1, hK1, hM1, hSt1, hSu1⟩ := id hR1
      obtain ⟨σ2, τ2, v1, v2, v3, v4, v5⟩ := lookB hC1 hf hWC1 hWM1 (hM1 f hf) (show t < 2 ^ 30 by omega)
      have hR2 : RC z own pn lc la od ns (t + 1) sc1 σ2 τ2 := by
        refine ⟨CR_ag hC1 v3 v4 (fun k n i q => by unfold DMC; omega) (fun k n i q => by unfold DMM; omega), rS_ag hS1 v3 v4 (fun k n i q => by unfold DMC; omega) (fun k n i q => by unfold DMM; omega), rK_ag hK1 v3 v4 (fun k n i q => by unfold DMC; omega) (fun k n i q => by unfold DMM; omega), fun g hg => ?_, rSt_ag hSt1 v3 v4 (fun k n i q => by unfold DMC; omega) (fun k n i q => by unfold DMM; omega), by rw [agL v3 (by unfold DMC; omega), agL v4 (by unfold DMM; omega)]; exact hSu1⟩
        by_cases q : g = f
        · subst q; exact v5
        · exact rM1_t (rM1_ag (hM1 g hg) v3 v4 (fun k n i r => by unfold DMC; omega) (fun k n i r => by unfold DMM; omega)) (by omega)
      have a2 : ag DKC σ σ2 := ag_t a1 (ag_m v3 (fun k n i q => by unfold DMC at q; unfold DKC; omega))
      have b2 : ag (DKM z.1) τ τ2 := ag_t b1 (ag_m v4 (fun k n i q => by unfold DMM at q; unfold DKM; omega))
      have d2 : gI σ2 150 0 2 = nI d := (agI v3 (by unfold DMC; omega)).trans d1
      have d2' : gI τ2 500 0 30 = nI d := (agI v4 (by unfold DMM; omega)).trans d1'
      have hWC2 := rWC_ag hWC1 v3 (fun k n i q => by unfold DMC; omega)
      have hWM2 := rWM_ag hWM1 v4 (fun k n i q => by unfold DMM; omega)
      have h32 : gI σ2 300 0 2 = nI (pn f) := (agI v3 (by unfold DMC; omega)).trans h31
      obtain ⟨hB, hO, hQ, hF, hH, hLL⟩ := id hR2.1
      have hL := hLL f hf
      have hlc := hL.1.1
      have h40 := hH.1
      have hN : ∀ i, i < lc f → la f i < z.2 := fun i hi => (hL.1.2.2 i hi).2
      have hof := of_none (c := c) (w := w) hL
      have hoff : X10_offered (nI f) (-1) τ2 = some (nI (cnt (ofP own τ2 c w (pn f) f none) z.2)) := offM hB hQ hF hH hf hWM2 none (fun g q => by cases q)
      obtain ⟨rM, cM, -⟩ := chM hB hQ hF hH hf hWM2 none (fun g q => by cases q)
      have hle := cnt_le (ofP own τ2 c w (pn f) f none) z.2
      rw [v1, v2]
      simp only [Option.bind_some, tkPl z hB hF hH hf hL hWC2]
      unfold X10_choose
      rw [hoff, show X10_chosen (nI f) (-1) τ2 = some rM from cM]
      simp only [Option.bind_some]
      by_cases hz : mkS (lc f) (fun a => tkP τ2 c w (pn f) (la f a) && plP τ2 (la f a)) = 0
      · have hz' := (mkS_0 (show lc f ≤ 32 by omega)).mp hz
        have hc0 : cnt (ofP own τ2 c w (pn f) f none) z.2 = 0 := cnt_zero.mpr (fun h hh => by
          rcases hq : ofP own τ2 c w (pn f) f none h with _ | _
          · rfl
          · obtain ⟨j, hj, -, s⟩ := (hof h hh).mp hq
            rw [hz' j hj] at s; cases s)
        rw [if_pos hz, hc0, if_pos (show nI 0 = (0 : Int32) from rfl)]
        simp only [bp_s, nm_b, Option.bind_some]
        refine ⟨1, ns, t + 1, sc1, sI σ2 150 0 3 1, sI τ2 500 0 25 1, ?_, ?_, by simp [gI_sI], by simp [gI_sI], fun q => absurd q (by decide), Nat.le_refl _, by omega, by omega, RC_ag hR2 (ag_sI (D := fun k _ i => k = 150 ∧ i = 3) ⟨rfl, rfl⟩) (ag_sI (D := fun k _ i => k = 500 ∧ i = 25) ⟨rfl, rfl⟩) (fun k n i q => by omega) (fun k n i q => by omega), ?_, ag_t a2 (ag_sI (by unfold DKC; omega)), ag_t b2 (ag_sI (by unfold DKM; omega))⟩
        · rw [eno, gI_sI, if_pos ⟨rfl, rfl, rfl⟩]
        · rw [L48_neg (by decide)]; rfl
        · rw [gI_sI, if_neg (by omega), gI_sI, if_neg (by omega), d2, d2']
      · have hex : ∃ a, a < lc f ∧ sbP (fun a => tkP τ2 c w (pn f) (la f a) && plP τ2 (la f a)) (fun i j => moP τ2 (pn f) (la f i) (la f j)) none a = true := Classical.byContradiction (fun q => hz ((mkS_0 (show lc f ≤ 32 by omega)).mpr (fun a ha => by
          rcases hs : (tkP τ2 c w (pn f) (la f a) && plP τ2 (la f a)) with _ | _
          · rfl
          · exact absurd ⟨a, ha, by unfold sbP; simpa using hs⟩ q)))
        have hcp : 0 < cnt (ofP own τ2 c w (pn f) f none) z.2 := by
          obtain ⟨a, ha, hs⟩ := hex
          unfold sbP at hs
          have h1 := (hof _ (hN a ha)).mpr ⟨a, ha, rfl, by simpa using hs⟩
          rcases Nat.eq_zero_or_pos (cnt (ofP own τ2 c w (pn f) f none) z.2) with q | q
          · rw [cnt_zero.mp q _ (hN a ha)] at h1; cases h1
          · exact q
        have hne : ¬ nI (cnt (ofP own τ2 c w (pn f) f none) z.2) = 0 := nI_ne0 hcp (by omega)
        rw [if_neg hz, if_neg hne]
        have hse : mkS (lc f) (sbP (fun a => tkP τ2 c w (pn f) (la f a) && plP τ2 (la f a)) (fun i j => moP τ2 (pn f) (la f i) (la f j)) none) = mkS (lc f) (fun a => tkP τ2 c w (pn f) (la f a) && plP τ2 (la f a)) := mkS_congr (fun i _ => by unfold sbP; simp)
        have hif : (if 0 ≤ rM then some rM else some (-4 : Int32)) = some (if 0 ≤ rM then rM else -4) := by
          by_cases q : 0 ≤ rM
          · rw [if_pos q, if_pos q]
          · rw [if_neg q, if_neg q]
        rw [hif]
        have hcl := cnt_le (sbP (fun a => tkP τ2 c w (pn f) (la f a) && plP τ2 (la f a)) (fun i j => moP τ2 (pn f) (la f i) (la f j)) none) (lc f)
        have hrun := runB (ns := ns) (t := t + 1) (c := c) (w := w) (own := own) (pn := pn) (lc := lc) (la := la) (od := od) hf (fun a => tkP τ2 c w (pn f) (la f a) && plP τ2 (la f a)) (fun i j => moP τ2 (pn f) (la f i) (la f j)) fuel 0 sc1 (m1 + 1) none rM σ2 τ2 (by omega) (by omega) (by omega) hR2 hWC2 hWM2 h32 (fun a _ => rfl) (fun i j => rfl) (fun g q => by cases q) hex (by omega) cM
        rw [hse, show nI 0 = (0 : Int32) from rfl] at hrun
        unfold X9_runChosen
        simp only [Option.bind_some, bp_s, bp_id]
        rcases hrun with ⟨ns', sc', σ', τ', o, r1, r2, r3, r4, r5, r6, r7, r8, r9⟩ | ⟨g, sc', σ', τ', c', w', n'', r1, r2, r3, r4, r5, r6, r7, r8, r9, r10, r11⟩
        · have a3 : ag DKC σ σ' := ag_t a2 (ag_m r7 (fun k n i q => by unfold DBC at q; unfold DKC; omega))
          have b3 : ag (DKM z.1) τ τ' := ag_t b2 (ag_m r8 (fun k n i q => by unfold DBM at q; unfold DKM; omega))
          rw [r1, r2]
          simp only [bp_s]
          refine ⟨o, ns', t + 1, sc', σ', sI τ' 500 0 25 o, by rw [eno, r3], rfl, r3, by simp [gI_sI], fun q => ?_, r5, by omega, by omega, RC_ag r6 (ag_r (D := fun _ _ _ => False) σ') (ag_sI (D := fun k _ i => k = 500 ∧ i = 25) ⟨rfl, rfl⟩) (fun k n i q => q.elim) (fun k n i q => by omega), ?_, a3, ag_t b3 (ag_sI (by unfold DKM; omega))⟩
          · rw [gI_sI, if_neg (by omega)]; exact r4 q
          · rw [gI_sI, if_neg (by omega), agI r7 (by unfold DBC; omega), agI r8 (by unfold DBM; omega), d2, d2']
        · have a3 : ag DKC σ σ' := ag_t a2 (ag_m r9 (fun k n i q => by unfold DBC at q; unfold DKC; omega))
          have b3 : ag (DKM z.1) τ τ' := ag_t b2 (ag_m r10 (fun k n i q => by unfold DBM at q; unfold DKM; omega))
          rw [r1, r2]
          simp only [bp_s]
          obtain ⟨o, ns', t', sc'', σ'', τ'', w1, w2, w3, w4, w5, w6, w7, w8, w9, w10, w11, w12⟩ := ih (d + 1) g n1 n'' ns (t + 1) sc' σ' τ' c' w' (by omega) (by omega) (by omega) (by omega) (by omega) (by omega) r4 r6 (by rw [r5]; exact r7) (by rw [r5]; exact r8) (by rw [r5, agI r9 (by unfold DBC; omega), h32]) (by rw [agI r9 (by unfold DBC; omega), d2]; rfl) (by rw [agI r10 (by unfold DBM; omega), d2']; rfl)
          exact ⟨o, ns', t', sc'', σ'', τ'', w1, w2, w3, w4, w5, w6, by omega, w8, w9, w10, ag_t a3 w11, ag_t b3 w12⟩

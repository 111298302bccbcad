theorem actB {z : Nat × Nat} {own pn : Nat → Nat} {lc : Nat → Nat} {la od : Nat → Nat → Nat} {ns t sc : Nat} {σ τ : PS} (hR : RC z own pn lc la od ns t sc σ τ) {f h : Nat} (hf : f < z.1) (hh : h < z.2) (hof : own h = f) {c : Nat → Nat} {w : Nat → Int32} (hWC : rWC (pn f) c w σ) (hWM : rWM (pn f) c w τ) (h3 : gI σ 300 0 2 = nI (pn f)) (hact : ¬ gI τ 517 0 h = 2) :
    (∃ ns' σ' τ', ns ≤ ns' ∧ X9_act z h σ = some (none, σ') ∧ ag DAC σ σ' ∧ ag DAM τ τ' ∧ RC z own pn lc la od ns' t sc σ' τ' ∧ ((gI σ' 150 0 3 = 0 ∧ runT (nI f) (nI h) (gI τ 518 0 h) τ = some (-2, τ')) ∨ (gI σ' 150 0 3 = 3 ∧ gI σ' 150 0 4 = gI τ' 500 0 27 ∧ runT (nI f) (nI h) (gI τ 518 0 h) τ = some (-5, τ')))) ∨
    (∃ g σ' τ' c' w', g < z.1 ∧ pn g = pn f ∧ X9_act z h σ = some (some g, σ') ∧ runT (nI f) (nI h) (gI τ 518 0 h) τ = X10_begin (nI g) τ' ∧ ag DAC σ σ' ∧ ag DAM τ τ' ∧ RC z own pn lc la od ns t sc σ' τ' ∧ rWC (pn f) c' w' σ' ∧ rWM (pn f) c' w' τ') := by
  obtain ⟨hC, hS, hK, hM, hSt, hSu⟩ := id hR
  obtain ⟨hB, hO, hQ, hF, hH, hL⟩ := id hC
  have h40 := hH.1
  have hf4 := hF.1
  obtain ⟨-, -, ⟨p1, p2⟩, p3, p4, -⟩ := hF.2.2.2 f hf
  obtain ⟨-, bo, -⟩ := hH.2.2.2 h hh
  obtain ⟨o1, o2, ⟨act, ha8, o3⟩, o4, -⟩ := bo
  obtain ⟨s1, s2, s3, s4⟩ := id hS
  have endB : ∀ (v : Int64) (σ1 τ1 : PS) (ns1 : Nat), ns ≤ ns1 → ag DAC σ σ1 → ag DAM τ τ1 → RC z own pn lc la od ns1 t sc σ1 τ1 → X3_endWithValue z v σ1 = some (sL (sI σ1 150 0 3 0) 150 0 5 (gL σ1 150 0 5 + v)) ∧ X10_end v τ1 = some (-2, sL τ1 500 0 26 (gL τ1 500 0 26 + v)) ∧ ag DAC σ (sL (sI σ1 150 0 3 0) 150 0 5 (gL σ1 150 0 5 + v)) ∧ ag DAM τ (sL τ1 500 0 26 (gL τ1 500 0 26 + v)) ∧ RC z own pn lc la od ns1 t sc (sL (sI σ1 150 0 3 0) 150 0 5 (gL σ1 150 0 5 + v)) (sL τ1 500 0 26 (gL τ1 500 0 26 + v)) ∧ gI (sL (sI σ1 150 0 3 0) 150 0 5 (gL σ1 150 0 5 + v)) 150 0 3 = 0 := fun v σ1 τ1 ns1 hn a b r => by
    have a1 : ag DAC σ1 (sL (sI σ1 150 0 3 0) 150 0 5 (gL σ1 150 0 5 + v)) := ag_t (ag_sI (by unfold DAC; omega)) (ag_sL (by unfold DAC; omega))
    have b1 : ag DAM τ1 (sL τ1 500 0 26 (gL τ1 500 0 26 + v)) := ag_sL (by unfold DAM; omega)
    have a2 : ag (fun k _ i => k = 150) σ1 (sL (sI σ1 150 0 3 0) 150 0 5 (gL σ1 150 0 5 + v)) := ag_t (ag_sI rfl) (ag_sL rfl)
    have b2 : ag (fun k _ i => k = 500 ∧ i = 26) τ1 (sL τ1 500 0 26 (gL τ1 500 0 26 + v)) := ag_sL ⟨rfl, rfl⟩
    refine ⟨rfl, rfl, ag_t a a1, ag_t b b1, RC_fr r a1 b1 (rS_ag r.2.1 a2 b2 (fun k n i q => by omega) (fun k n i q => by omega)) (rK_ag r.2.2.1 a2 b2 (fun k n i q => by omega) (fun k n i q => by omega)) ?_, by simp [gI_sL, gI_sI]⟩
    rw [gL_sL, gL_sL, if_pos ⟨rfl, rfl, rfl⟩, if_pos ⟨rfl, rfl, rfl⟩, r.2.2.2.2.2]
  have failB : ∀ (v : Int32) (σ1 τ1 : PS), ag DAC σ σ1 → ag DAM τ τ1 → RC z own pn lc la od ns t sc σ1 τ1 → ag DAC σ (sI (sI σ1 150 0 3 3) 150 0 4 v) ∧ ag DAM τ (sI τ1 500 0 27 v) ∧ RC z own pn lc la od ns t sc (sI (sI σ1 150 0 3 3) 150 0 4 v) (sI τ1 500 0 27 v) ∧ gI (sI (sI σ1 150 0 3 3) 150 0 4 v) 150 0 3 = 3 ∧ gI (sI (sI σ1 150 0 3 3) 150 0 4 v) 150 0 4 = gI (sI τ1 500 0 27 v) 500 0 27 := fun v σ1 τ1 a b r => by
    have a1 : ag DAC σ1 (sI (sI σ1 150 0 3 3) 150 0 4 v) := ag_t (ag_sI (by unfold DAC; omega)) (ag_sI (by unfold DAC; omega))
    have b1 : ag DAM τ1 (sI τ1 500 0 27 v) := ag_sI (by unfold DAM; omega)
    have a2 : ag (fun k _ i => k = 150) σ1 (sI (sI σ1 150 0 3 3) 150 0 4 v) := ag_t (ag_sI rfl) (ag_sI rfl)
    have b2 : ag (fun k _ i => k = 500 ∧ i = 27) τ1 (sI τ1 500 0 27 v) := ag_sI ⟨rfl, rfl⟩
    refine ⟨ag_t a a1, ag_t b b1, RC_fr r a1 b1 (rS_ag r.2.1 a2 b2 (fun k n i q => by omega) (fun k n i q => by omega)) (rK_ag r.2.2.1 a2 b2 (fun k n i q => by omega) (fun k n i q => by omega)) ?_, by simp [gI_sI], by simp [gI_sI]⟩
    rw [gL_sI, gL_sI, gL_sI, r.2.2.2.2.2]
  unfold X9_act runT
  rw [o2, o3, ib_nI (show h < 2 ^ 31 by omega), gd_d (show h < 40 by omega), ix_nI (show h < 2 ^ 31 by omega), o3, o4]
  rw [o3] at hact
  have he : ∀ b : Nat, b < 8 → ((nI act = nI b) ↔ act = b) := fun b hb => nI_eq (by omega) (by omega)
  have q0 : (nI act = (0 : Int32)) = (act = 0) := propext (he 0 (by omega))
  have q1 : (nI act = (1 : Int32)) = (act = 1) := propext (he 1 (by omega))
  have q2 : (nI act = (2 : Int32)) = (act = 2) := propext (he 2 (by omega))
  have q3 : (nI act = (3 : Int32)) = (act = 3) := propext (he 3 (by omega))
  have q4 : (nI act = (4 : Int32)) = (act = 4) := propext (he 4 (by omega))
  have q5 : (nI act = (5 : Int32)) = (act = 5) := propext (he 5 (by omega))
  have q6 : (nI act = (6 : Int32)) = (act = 6) := propext (he 6 (by omega))
  simp only [q0, q1, q2, q3, q4, q5, q6, bp_id]
  clear q0 q1 q2 q3 q4 q5 q6
  have hact' : ¬ act = 2 := fun q => hact (by rw [q]; rfl)
  by_cases k0 : act = 0
  · left
    obtain ⟨e1, e2, e3, e4, e5, e6⟩ := endB (gI τ 518 0 h).toInt64 σ τ ns (Nat.le_refl _) (ag_r _) (ag_r _) hR
    refine ⟨ns, _, _, Nat.le_refl _, ?_, e3, e4, e5, Or.inl ⟨e6, ?_⟩⟩
    · rw [if_pos k0, e1]; rfl
    · rw [if_pos k0, e2]
  · by_cases k1 : act = 1
    · left
      obtain ⟨e1, e2, e3, e4, e5, e6⟩ := endB ((w 0).toInt64 + (if pn f = 2 then (w 1).toInt64 else 0) + (gI τ 518 0 h).toInt64) σ τ ns (Nat.le_refl _) (ag_r _) (ag_r _) hR
      refine ⟨ns, _, _, Nat.le_refl _, ?_, e3, e4, e5, Or.inl ⟨e6, ?_⟩⟩
      · rw [if_neg k0, if_pos k1, wtC z ⟨p1, p2⟩ h3 hWC]
        simp only [Option.bind_some]
        rw [e1]; rfl
      · rw [if_neg k0, if_pos k1, wtM ⟨p1, p2⟩ (by omega) p4 hWM]
        simp only [Option.bind_some]
        rw [e2]
    · by_cases k3 : act = 3
      · left
        obtain ⟨e3, e4, e5, e6, e7⟩ := failB (gI τ 518 0 h) σ τ (ag_r _) (ag_r _) hR
        refine ⟨ns, _, _, Nat.le_refl _, ?_, e3, e4, e5, Or.inr ⟨e6, e7, ?_⟩⟩
        · rw [if_neg k0, if_neg k1, if_neg hact', if_pos k3]; rfl
        · rw [if_neg k0, if_neg k1, if_neg hact', if_pos k3]; rfl
      · by_cases k4 : act = 4
        · left
          obtain ⟨k, m1, m2, m3⟩ := modB z (gI τ 518 0 h) (m := 8) (Or.inr rfl) σ τ
          have a1 : ag DAC σ (sI σ 456 0 k (gI τ 524 0 k + 1)) := ag_sI (by unfold DAC; omega)
          have b1 : ag DAM τ (sI τ 524 0 k (gI τ 524 0 k + 1)) := ag_sI (by unfold DAM; omega)
          have a2 : ag (fun k _ _ => k = 456) σ (sI σ 456 0 k (gI τ 524 0 k + 1)) := ag_sI rfl
          have b2 : ag (fun k _ _ => k = 524) τ (sI τ 524 0 k (gI τ 524 0 k + 1)) := ag_sI rfl
          have r1 : RC z own pn lc la od ns t sc (sI σ 456 0 k (gI τ 524 0 k + 1)) (sI τ 524 0 k (gI τ 524 0 k + 1)) := RC_fr hR a1 b1 (rS_ag hS a2 b2 (fun k n i q => by omega) (fun k n i q => by omega)) (fun j hj => by
            rw [gI_sI, gI_sI]
            by_cases q : j = k
            · rw [if_pos ⟨rfl, rfl, q⟩, if_pos ⟨rfl, rfl, q⟩]
            · rw [if_neg (fun r => q r.2.2), if_neg (fun r => q r.2.2)]; exact hK j hj) hSu
          obtain ⟨e1, e2, e3, e4, e5, e6⟩ := endB (gI τ 524 0 k + 1).toInt64 _ _ ns (Nat.le_refl _) a1 b1 r1
          refine ⟨ns, _, _, Nat.le_refl _, ?_, e3, e4, e5, Or.inl ⟨e6, ?_⟩⟩
          · rw [if_neg k0, if_neg k1, if_neg hact', if_neg k3, if_pos k4, show (8 : Int32) = nI 8 from rfl, m2]
            simp only [Option.bind_some]
            unfold X9_countUp
            rw [ib_nI (by omega), gd_d m1, gd_d m1, nm_b, gd_d m1, ix_nI (by omega), hK k m1]
            simp only [bp_s, gI_sI, and_self, if_true]
            rw [e1]; rfl
          · rw [if_neg k0, if_neg k1, if_neg hact', if_neg k3, if_pos k4, show (8 : Int32) = nI 8 from rfl, m3]
            simp only [Option.bind_some]
            rw [ib_nI (by omega), gd_d m1, gd_d m1, nm_b, gd_d m1, ix_nI (by omega)]
            simp only [gI_sI, and_self, if_true]
            rw [e2]
        · by_cases k5 : act = 5
          · left
            obtain ⟨w1, w2, w3⟩ := hWC 0 (by omega)
            obtain ⟨-, v2, v3⟩ := hWM 0 (by omega)
            rw [if_neg k0, if_neg k1, if_neg hact', if_neg k3, if_neg k4, if_pos k5, if_neg k0, if_neg k1, if_neg hact', if_neg k3, if_neg k4, if_pos k5]
            unfold X9_bringSample X10_grow
            simp only [show ib (0 : Int32) 2 = true by decide, gd_t, show ix (0 : Int32) = 0 from rfl, w2, w3, bringC z s1 _ _ s2, s3, v2, bp_id]
            by_cases q : ns < 300
            · have e300 : ¬ nI ns = (300 : Int32) := fun r => by
                have := (nI_eq (a := ns) (b := 300) (by omega) (by omega)).mp r
                omega
              have a1 : ag DAC σ (nS σ ns (nI (c 0)) (w 0 + gI τ 518 0 h)) := ag_t (ag_t (ag_sI (by unfold DAC; omega)) (ag_sI (by unfold DAC; omega))) (ag_sI (by unfold DAC; omega))
              have b1 : ag DAM τ (nSM τ ns (nI (c 0)) (w 0 + gI τ 518 0 h)) := ag_t (ag_t (ag_sI (by unfold DAM; omega)) (ag_sI (by unfold DAM; omega))) (ag_sI (by unfold DAM; omega))
              have a2 : ag (fun k _ _ => k = 350 ∨ k = 351 ∨ k = 352) σ (nS σ ns (nI (c 0)) (w 0 + gI τ 518 0 h)) := ag_t (ag_t (ag_sI (by omega)) (ag_sI (by omega))) (ag_sI (by omega))
              have b2 : ag (fun k _ i => k = 500 ∧ i = 5 ∨ k = 507 ∨ k = 508) τ (nSM τ ns (nI (c 0)) (w 0 + gI τ 518 0 h)) := ag_t (ag_t (ag_sI (by omega)) (ag_sI (by omega))) (ag_sI (by omega))
              have r1 : RC z own pn lc la od (ns + 1) t sc (nS σ ns (nI (c 0)) (w 0 + gI τ 518 0 h)) (nSM τ ns (nI (c 0)) (w 0 + gI τ 518 0 h)) := RC_fr hR a1 b1 (rS_new hS q w1 _) (rK_ag hK a2 b2 (fun k n i q => by omega) (fun k n i q => by omega)) (by rw [agL a2 (by omega), agL b2 (by omega)]; exact hSu)
              obtain ⟨e1, e2, e3, e4, e5, e6⟩ := endB (nI ns).toInt64 _ _ (ns + 1) (by omega) a1 b1 r1
              refine ⟨ns + 1, _, _, by omega, ?_, e3, e4, e5, Or.inl ⟨e6, ?_⟩⟩
              · rw [if_pos q]
                simp only [bp_s, if_neg (nI_m1 (show ns < 2 ^ 31 by omega))]
                rw [e1]; rfl
              · rw [if_neg e300, ib_nI (by omega), gd_d q, nm_b, ix_nI (by omega)]
                simp only [gI_k (show ¬ 500 = 507 by decide), s3, ib_nI (show ns < 2 ^ 31 by omega), gd_d q, nm_b, ix_nI (show ns < 2 ^ 31 by omega), gL_sI, v3, gI_k (show ¬ 500 = 508 by decide), nI_s]
                have ew : ((w 0).toInt64 + (gI τ 518 0 h).toInt64).toInt32 = w 0 + gI τ 518 0 h := by simp
                rw [ew, gI_sI, if_pos ⟨rfl, rfl, rfl⟩, nI_pred]
                change X10_end (nI ns).toInt64 (nSM τ ns (nI (c 0)) (w 0 + gI τ 518 0 h)) = _
                rw [e2]
            · have en : ns = 300 := by omega
              subst en
              obtain ⟨e3, e4, e5, e6, e7⟩ := failB (-1) σ τ (ag_r _) (ag_r _) hR
              refine ⟨300, _, _, Nat.le_refl _, ?_, e3, e4, e5, Or.inr ⟨e6, e7, ?_⟩⟩
              · rw [if_neg q]; rfl
              · rw [if_pos (show nI 300 = (300 : Int32) from rfl)]; rfl
          · rw [if_neg k0, if_neg k1, if_neg hact', if_neg k3, if_neg k4, if_neg k5, if_neg k0, if_neg k1, if_neg hact', if_neg k3, if_neg k4, if_neg k5]
            have addB : ∀ σ1 τ1 : PS, ag DAC σ σ1 → ag DAM τ τ1 → RC z own pn lc la od ns t sc σ1 τ1 → ag DAC σ (sL σ1 150 0 5 (gL σ1 150 0 5 + 1)) ∧ ag DAM τ (sL τ1 500 0 26 (gL τ1 500 0 26 + 1)) ∧ RC z own pn lc la od ns t sc (sL σ1 150 0 5 (gL σ1 150 0 5 + 1)) (sL τ1 500 0 26 (gL τ1 500 0 26 + 1)) := fun σ1 τ1 a b r => by
              have a1 : ag DAC σ1 (sL σ1 150 0 5 (gL σ1 150 0 5 + 1)) := ag_sL (by unfold DAC; omega)
              have b1 : ag DAM τ1 (sL τ1 500 0 26 (gL τ1 500 0 26 + 1)) := ag_sL (by unfold DAM; omega)
              have a2 : ag (fun k _ i => k = 150) σ1 (sL σ1 150 0 5 (gL σ1 150 0 5 + 1)) := ag_sL rfl
              have b2 : ag (fun k _ i => k = 500 ∧ i = 26) τ1 (sL τ1 500 0 26 (gL τ1 500 0 26 + 1)) := ag_sL ⟨rfl, rfl⟩
              refine ⟨ag_t a a1, ag_t b b1, RC_fr r a1 b1 (rS_ag r.2.1 a2 b2 (fun k n i q => by omega) (fun k n i q => by omega)) (rK_ag r.2.2.1 a2 b2 (fun k n i q => by omega) (fun k n i q => by omega)) ?_⟩
              rw [gL_sL, gL_sL, if_pos ⟨rfl, rfl, rfl⟩, if_pos ⟨rfl, rfl, rfl⟩, r.2.2.2.2.2]
            by_cases k6 : act = 6
            · rw [if_pos k6]
              have n7 : ¬ gI τ 517 0 h = 7 := by rw [o3, k6]; decide
              rcases cwB hF hH hf hh h3 with ⟨q1, q2⟩ | ⟨g, g1, g2, q1, q2⟩
              · left
                obtain ⟨e3, e4, e5, e6, e7⟩ := failB (-2) σ τ (ag_r _) (ag_r _) hR
                exact ⟨ns, _, _, Nat.le_refl _, by rw [q1], e3, e4, e5, Or.inr ⟨e6, e7, by rw [q2]⟩⟩
              · right
                rw [if_neg n7] at q2
                obtain ⟨e3, e4, e5⟩ := addB σ τ (ag_r _) (ag_r _) hR
                exact ⟨g, _, _, c, w, g1, g2, by rw [q1], by rw [q2], e3, e4, e5, hWC, hWM⟩
            · rw [if_neg k6]
              have y7 : gI τ 517 0 h = 7 := by rw [o3, show act = 7 by omega]; rfl
              rcases (show pn f = 1 ∨ pn f = 2 by omega) with ep | ep
              · have et : X6_turnRound z σ = some σ := by unfold X6_turnRound; rw [h3, ep, if_neg (by decide)]
                rw [et]
                simp only [Option.bind_some]
                rcases cwB hF hH hf hh h3 with ⟨q1, q2⟩ | ⟨g, g1, g2, q1, q2⟩
                · left
                  obtain ⟨e3, e4, e5, e6, e7⟩ := failB (-2) σ τ (ag_r _) (ag_r _) hR
                  exact ⟨ns, _, _, Nat.le_refl _, by rw [q1], e3, e4, e5, Or.inr ⟨e6, e7, by rw [q2]⟩⟩
                · right
                  rw [if_pos y7, if_neg (by rw [ep]; decide)] at q2
                  obtain ⟨e3, e4, e5⟩ := addB σ τ (ag_r _) (ag_r _) hR
                  exact ⟨g, _, _, c, w, g1, g2, by rw [q1], by rw [q2], e3, e4, e5, hWC, hWM⟩
              · rw [ep] at h3 hWC hWM
                obtain ⟨σ1, τ1, t1, t2, t3, t4, t5, t6⟩ := turnB z h3 hWC hWM
                have a1 : ag DAC σ σ1 := ag_m t3 (fun k n i q => by unfold DAC; omega)
                have b1 : ag DAM τ τ1 := ag_m t4 (fun k n i q => by unfold DAM; omega)
                rw [t1]
                simp only [Option.bind_some]
                have F1 : rF z pn σ1 τ := rF_ag hF t3 (ag_r (D := fun _ _ _ => False) τ) (fun k n i q => by omega) (fun k n i q => id)
                have H1 : rH z own pn σ1 τ := rH_ag hH t3 (ag_r (D := fun _ _ _ => False) τ) (fun k n i q => by omega) (fun k n i q => id)
                have h31 : gI σ1 300 0 2 = nI (pn f) := by rw [agI t3 (by omega), h3, ep]
                rcases cwB F1 H1 hf hh h31 with ⟨q1, q2⟩ | ⟨g, g1, g2, q1, q2⟩
                · left
                  have r1 : RC z own pn lc la od ns t sc σ1 τ := RC_fr hR a1 (ag_r _) (rS_ag hS t3 (ag_r (D := fun _ _ _ => False) τ) (fun k n i q => by omega) (fun k n i q => id)) (rK_ag hK t3 (ag_r (D := fun _ _ _ => False) τ) (fun k n i q => by omega) (fun k n i q => id)) (by rw [agL t3 (by omega)]; exact hSu)
                  obtain ⟨e3, e4, e5, e6, e7⟩ := failB (-2) σ1 τ a1 (ag_r _) r1
                  exact ⟨ns, _, _, Nat.le_refl _, by rw [q1], e3, e4, e5, Or.inr ⟨e6, e7, by rw [q2]⟩⟩
                · right
                  rw [if_pos y7, if_pos (by rw [ep]; rfl), t2] at q2
                  simp only [Option.bind_some] at q2
                  have r1 : RC z own pn lc la od ns t sc σ1 τ1 := RC_fr hR a1 b1 (rS_ag hS t3 t4 (fun k n i q => by omega) (fun k n i q => by omega)) (rK_ag hK t3 t4 (fun k n i q => by omega) (fun k n i q => by omega)) (by rw [agL t3 (by omega), agL t4 (by omega)]; exact hSu)
                  obtain ⟨e3, e4, e5⟩ := addB σ1 τ1 a1 b1 r1
                  exact ⟨g, _, _, (fun i => c (1 - i)), (fun i => w (1 - i)), g1, g2, by rw [q1], by rw [q2], e3, e4, e5, by rw [ep]; exact t5, by rw [ep]; exact t6⟩

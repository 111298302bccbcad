/-! ===== about() ===== -/
theorem elemC (z : Nat × Nat) {σ : PS} {k h p i : Nat} (ha : al σ k h = p) (hp : p ≤ 2) (hi : i < 2) : X9_elementOrZero z k h (nI i) σ = some (if i < p then gI σ k h i else 0) := by
  unfold X9_elementOrZero
  rw [ha, if_neg (nI_pos (by omega))]
  by_cases c : i < p
  · rw [if_neg (nI_ge c (by omega)), ib_nI (by omega), gd_d c, ix_nI (by omega), if_pos c]
  · rw [if_pos (nI_le (by omega) (by omega)), if_neg c]
theorem elemM (τ : PS) {k h p i : Nat} (hh : h < 40) (hi : i < 2) (w : Bool) (hw : w = decide (i < p)) : (if bI w = 0 then some (0 : Int32) else gd (ib ((2 : Int32) * nI h + nI i) 80) (some (gI τ k 0 (ix ((2 : Int32) * nI h + nI i))))) = some (if i < p then gI τ k 0 (2 * h + i) else 0) := by
  rw [nI_2, ib_nI (by omega), gd_d (by omega), ix_nI (by omega)]
  by_cases c : i < p
  · subst hw; simp [c, bI]
  · subst hw; simp [c, bI]
theorem s_about {z : Nat × Nat} {own pn : Nat → Nat} {σ τ : PS} (hF : rF z pn σ τ) (hH : rH z own pn σ τ) (x1 x2 : Int32) : ∃ r, X9_about z x1 x2 σ = some r ∧ X10_about x1 x2 τ = some r := by
  unfold X9_about X10_about
  rcases hdAt hH x1 with ⟨e1, e2⟩ | ⟨h, hh, rfl, e1, e2⟩
  · exact ⟨-2, by rw [e1]; rfl, by rw [e2]; rfl⟩
  · obtain ⟨⟨-, a2, a3, a4⟩, ⟨b1, b2, -, b3, b4, b5, b6, -⟩, ⟨g1, g2, g3⟩, cc⟩ := hH.2.2.2 h hh
    obtain ⟨-, f1, ⟨q1, q2⟩, q3, q4, -⟩ := hF.2.2.2 (own h) a2
    have h40 := hH.1
    have hf4 := hF.1
    rw [e1, e2]
    simp only [Option.bind_some, if_neg (show ¬ (1 : Int32) = 0 by decide), oc_s' hh, a3, dr_s a2, f1]
    rcases cases_nI x2 (n := 11) (by omega) with k | ⟨k, k2⟩ | ⟨j, hj, rfl⟩
    · refine ⟨-2, ?_, by rw [if_pos k]⟩
      have ne : ∀ c : Int32, ¬ c < 0 → ¬ x2 = c := fun c hc q => hc (q ▸ k)
      rw [if_neg (ne 0 (by decide)), if_neg (ne 1 (by decide)), if_neg (ne 2 (by decide)), if_neg (ne 3 (by decide)), if_neg (ne 4 (by decide)), if_neg (ne 5 (by decide)), if_neg (ne 6 (by decide)), if_neg (ne 7 (by decide)), if_neg (ne 8 (by decide)), if_neg (ne 9 (by decide)), if_neg (ne 10 (by decide))]
    · have k3 : (11 : Int32) ≤ x2 := k2
      have ne : ∀ c : Int32, ¬ (11 : Int32) ≤ c → ¬ x2 = c := fun c hc q => hc (q ▸ k3)
      refine ⟨-2, ?_, by rw [if_neg k, if_neg (fun q => absurd (Int32.le_trans k3 q) (by decide))]⟩
      rw [if_neg (ne 0 (by decide)), if_neg (ne 1 (by decide)), if_neg (ne 2 (by decide)), if_neg (ne 3 (by decide)), if_neg (ne 4 (by decide)), if_neg (ne 5 (by decide)), if_neg (ne 6 (by decide)), if_neg (ne 7 (by decide)), if_neg (ne 8 (by decide)), if_neg (ne 9 (by decide)), if_neg (ne 10 (by decide))]
    · have el : ∀ (kC kM i : Nat), al σ kC h = pn (own h) → i < 2 → (∀ i, i < pn (own h) → gI σ kC h i = gI τ kM 0 (2 * h + i)) → X9_elementOrZero z kC h (nI i) σ = some (if i < pn (own h) then gI τ kM 0 (2 * h + i) else 0) := fun kC kM i ha hi he => by
        rw [elemC z ha q2 hi]
        by_cases c : i < pn (own h)
        · rw [if_pos c, if_pos c, he i c]
        · rw [if_neg c, if_neg c]
      have eC := fun i hi => el 106 521 i g1 hi (fun i hi => (cc i hi).1)
      have eL := fun i hi => el 107 522 i g2 hi (fun i hi => (cc i hi).2.2.1)
      have eH := fun i hi => el 108 523 i g3 hi (fun i hi => (cc i hi).2.2.2)
      have there : ∀ i, i < 2 → (nI (pn (own h)) ≤ nI i ↔ ¬ i < pn (own h)) := fun i hi => by
        rw [nI_leI (by omega) (by omega)]; omega
      simp only [ib_nI (show h < 2 ^ 31 by omega), gd_d (show h < 40 by omega), ix_nI (show h < 2 ^ 31 by omega), a4, ib_nI (show own h < 2 ^ 31 by omega), gd_d (show own h < 4 by omega), ix_nI (show own h < 2 ^ 31 by omega), q4, nm_b, b2, b3, b4, b6]
      have m0 := fun (k : Nat) (c : 0 < pn (own h)) => elemM τ (k := k) (p := pn (own h)) (show h < 40 by omega) (show 0 < 2 by omega) true (by simp [c])
      have m1 := fun (k : Nat) (w : Bool) (hw : w = decide (1 < pn (own h))) => elemM τ (k := k) (p := pn (own h)) (show h < 40 by omega) (show 1 < 2 by omega) w hw
      unfold X10_about_c47 X10_about_c52
      simp only [ib_nI (show h < 2 ^ 31 by omega), gd_d (show h < 40 by omega), ix_nI (show h < 2 ^ 31 by omega), a4]
      rcases (show j = 0 ∨ j = 1 ∨ j = 2 ∨ j = 3 ∨ j = 4 ∨ j = 5 ∨ j = 6 ∨ j = 7 ∨ j = 8 ∨ j = 9 ∨ j = 10 by omega) with rfl | rfl | rfl | rfl | rfl | rfl | rfl | rfl | rfl | rfl | rfl
      · exact ⟨_, rfl, rfl⟩
      · exact ⟨_, rfl, rfl⟩
      · exact ⟨_, rfl, rfl⟩
      · exact ⟨if gI τ 519 0 h = 0 then 0 else 1, by by_cases c : gI τ 519 0 h = 0 <;> simp [c] <;> rfl, by by_cases c : gI τ 519 0 h = 0 <;> simp [c] <;> rfl⟩
      · exact ⟨_, rfl, rfl⟩
      · refine ⟨if 0 < pn (own h) then gI τ 521 0 (2 * h + 0) else 0, ?_, ?_⟩
        · show (X9_elementOrZero z 106 h (nI 0) σ).bind (fun r4 => some r4) = _
          rw [eC 0 (by omega)]; rfl
        · show (if nI (pn (own h)) ≤ nI 0 then (if bI false = 0 then some (0 : Int32) else gd (ib ((2 : Int32) * nI h + nI 0) 80) (some (gI τ 521 0 (ix ((2 : Int32) * nI h + nI 0))))) else (if bI true = 0 then some (0 : Int32) else gd (ib ((2 : Int32) * nI h + nI 0) 80) (some (gI τ 521 0 (ix ((2 : Int32) * nI h + nI 0)))))) = _
          by_cases c : 0 < pn (own h)
          · rw [if_neg (fun q => (there 0 (by omega)).mp q c)]
            exact elemM τ (show h < 40 by omega) (show 0 < 2 by omega) true (by simp [c])
          · rw [if_pos ((there 0 (by omega)).mpr c)]
            exact elemM τ (show h < 40 by omega) (show 0 < 2 by omega) false (by simp [c])
      · refine ⟨if 1 < pn (own h) then gI τ 521 0 (2 * h + 1) else 0, ?_, ?_⟩
        · show (X9_elementOrZero z 106 h (nI 1) σ).bind (fun r4 => some r4) = _
          rw [eC 1 (by omega)]; rfl
        · show (if nI (pn (own h)) ≤ nI 1 then (if bI false = 0 then some (0 : Int32) else gd (ib ((2 : Int32) * nI h + nI 1) 80) (some (gI τ 521 0 (ix ((2 : Int32) * nI h + nI 1))))) else (if bI true = 0 then some (0 : Int32) else gd (ib ((2 : Int32) * nI h + nI 1) 80) (some (gI τ 521 0 (ix ((2 : Int32) * nI h + nI 1)))))) = _
          by_cases c : 1 < pn (own h)
          · rw [if_neg (fun q => (there 1 (by omega)).mp q c)]
            exact elemM τ (show h < 40 by omega) (show 1 < 2 by omega) true (by simp [c])
          · rw [if_pos ((there 1 (by omega)).mpr c)]
            exact elemM τ (show h < 40 by omega) (show 1 < 2 by omega) false (by simp [c])
      · refine ⟨if 0 < pn (own h) then gI τ 522 0 (2 * h + 0) else 0, ?_, ?_⟩
        · show (X9_elementOrZero z 107 h (nI 0) σ).bind (fun r4 => some r4) = _
          rw [eL 0 (by omega)]; rfl
        · show (if nI (pn (own h)) ≤ nI 0 then (if bI false = 0 then some (0 : Int32) else gd (ib ((2 : Int32) * nI h + nI 0) 80) (some (gI τ 522 0 (ix ((2 : Int32) * nI h + nI 0))))) else (if bI true = 0 then some (0 : Int32) else gd (ib ((2 : Int32) * nI h + nI 0) 80) (some (gI τ 522 0 (ix ((2 : Int32) * nI h + nI 0)))))) = _
          by_cases c : 0 < pn (own h)
          · rw [if_neg (fun q => (there 0 (by omega)).mp q c)]
            exact elemM τ (show h < 40 by omega) (show 0 < 2 by omega) true (by simp [c])
          · rw [if_pos ((there 0 (by omega)).mpr c)]
            exact elemM τ (show h < 40 by omega) (show 0 < 2 by omega) false (by simp [c])
      · refine ⟨if 1 < pn (own h) then gI τ 522 0 (2 * h + 1) else 0, ?_, ?_⟩
        · show (X9_elementOrZero z 107 h (nI 1) σ).bind (fun r4 => some r4) = _
          rw [eL 1 (by omega)]; rfl
        · show (if nI (pn (own h)) ≤ nI 1 then (if bI false = 0 then some (0 : Int32) else gd (ib ((2 : Int32) * nI h + nI 1) 80) (some (gI τ 522 0 (ix ((2 : Int32) * nI h + nI 1))))) else (if bI true = 0 then some (0 : Int32) else gd (ib ((2 : Int32) * nI h + nI 1) 80) (some (gI τ 522 0 (ix ((2 : Int32) * nI h + nI 1)))))) = _
          by_cases c : 1 < pn (own h)
          · rw [if_neg (fun q => (there 1 (by omega)).mp q c)]
            exact elemM τ (show h < 40 by omega) (show 1 < 2 by omega) true (by simp [c])
          · rw [if_pos ((there 1 (by omega)).mpr c)]
            exact elemM τ (show h < 40 by omega) (show 1 < 2 by omega) false (by simp [c])
      · refine ⟨if 0 < pn (own h) then gI τ 523 0 (2 * h + 0) else 0, ?_, ?_⟩
        · show (X9_elementOrZero z 108 h (nI 0) σ).bind (fun r4 => some r4) = _
          rw [eH 0 (by omega)]; rfl
        · show (if nI (pn (own h)) ≤ nI 0 then (if bI false = 0 then some (0 : Int32) else gd (ib ((2 : Int32) * nI h + nI 0) 80) (some (gI τ 523 0 (ix ((2 : Int32) * nI h + nI 0))))) else (if bI true = 0 then some (0 : Int32) else gd (ib ((2 : Int32) * nI h + nI 0) 80) (some (gI τ 523 0 (ix ((2 : Int32) * nI h + nI 0)))))) = _
          by_cases c : 0 < pn (own h)
          · rw [if_neg (fun q => (there 0 (by omega)).mp q c)]
            exact elemM τ (show h < 40 by omega) (show 0 < 2 by omega) true (by simp [c])
          · rw [if_pos ((there 0 (by omega)).mpr c)]
            exact elemM τ (show h < 40 by omega) (show 0 < 2 by omega) false (by simp [c])
      · refine ⟨if 1 < pn (own h) then gI τ 523 0 (2 * h + 1) else 0, ?_, ?_⟩
        · show (X9_elementOrZero z 108 h (nI 1) σ).bind (fun r4 => some r4) = _
          rw [eH 1 (by omega)]; rfl
        · show (if nI (pn (own h)) ≤ nI 1 then (if bI false = 0 then some (0 : Int32) else gd (ib ((2 : Int32) * nI h + nI 1) 80) (some (gI τ 523 0 (ix ((2 : Int32) * nI h + nI 1))))) else (if bI true = 0 then some (0 : Int32) else gd (ib ((2 : Int32) * nI h + nI 1) 80) (some (gI τ 523 0 (ix ((2 : Int32) * nI h + nI 1)))))) = _
          by_cases c : 1 < pn (own h)
          · rw [if_neg (fun q => (there 1 (by omega)).mp q c)]
            exact elemM τ (show h < 40 by omega) (show 1 < 2 by omega) true (by simp [c])
          · rw [if_pos ((there 1 (by omega)).mpr c)]
            exact elemM τ (show h < 40 by omega) (show 1 < 2 by omega) false (by simp [c])

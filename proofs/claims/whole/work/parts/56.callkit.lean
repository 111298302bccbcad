/-! ===== what a call is made of ===== -/
theorem neg_bt (v : Int32) : v < 0 ↔ bt v 31 = true := by
  have h := BitVec.msb_eq_toInt (x := v.toBitVec)
  rw [BitVec.msb_eq_getLsbD_last] at h
  unfold bt
  rw [show (31 : Nat) = 32 - 1 from rfl, h, decide_eq_true_eq, Int32.lt_iff_toInt_lt]
  rfl
theorem modB (z : Nat × Nat) (v : Int32) {m : Nat} (hm : m = 4 ∨ m = 8) (σ τ : PS) : ∃ k, k < m ∧ J9_floorMod_7cf53 z v (nI m) σ = some (nI k) ∧ X10_rest v (nI m) τ = some (nI k) := by
  have hmi : (nI m).toInt = m := nI_toInt (by omega)
  have hr : (v - v / nI m * nI m).toInt = v.toInt.tmod m := by rw [rem_toInt, hmi]
  have hm0 : ¬ nI m = 0 := nI_ne0 (by omega) (by omega)
  have hx : (0 ≤ (v ^^^ nI m)) ↔ ¬ v < 0 := by
    rw [← Int32.not_lt, neg_bt, neg_bt, b_xor]
    have : bt (nI m) 31 = false := by rcases hm with rfl | rfl <;> decide
    rw [this]; simp
  unfold J9_floorMod_7cf53 X10_rest
  rw [decide_eq_true hm0, gd_t, gd_t, nm_b, nm_b]
  generalize hy : v - v / nI m * nI m = y at hr
  have hb := tmod_bounds (a := v.toInt) (M := (m : Int)) (by omega)
  rw [← hr] at hb
  have h0 : ((0 : Int32)).toInt = 0 := by decide
  have hcase : ∀ w : Int32, 0 ≤ w.toInt → w.toInt < m → ∃ k, k < m ∧ w = nI k := fun w h1 h2 => by
    obtain ⟨j, j1, rfl⟩ := nI_of (x := w) (fun q => by rw [Int32.lt_iff_toInt_lt, h0] at q; omega)
    rw [nI_toInt j1] at h2
    exact ⟨j, by omega, rfl⟩
  by_cases hv : v < 0
  · have hv' : v.toInt < 0 := by rw [Int32.lt_iff_toInt_lt, h0] at hv; exact hv
    have hneg : y.toInt ≤ 0 := by
      rw [hr]
      have := Int.tmod_nonneg (a := -v.toInt) m (by omega)
      rw [Int.neg_tmod] at this
      omega
    rw [if_neg (fun q => hx.mp q hv)]
    by_cases h : y = 0
    · rw [if_pos h, h, if_pos (by decide)]
      exact ⟨0, by omega, rfl, rfl⟩
    · have hlt : y.toInt < 0 := by
        rcases Int.lt_or_le y.toInt 0 with q | q
        · exact q
        · exact absurd (Int32.toInt_inj.mp (by rw [h0]; omega)) h
      rw [if_neg h, if_neg (fun q => by rw [Int32.le_iff_toInt_le, h0] at q; omega)]
      have hs : (y + nI m).toInt = y.toInt + m := by
        rw [Int32.toInt_add, hmi, Int.bmod_eq_of_le (by omega) (by omega)]
      obtain ⟨k, k1, k2⟩ := hcase (y + nI m) (by omega) (by omega)
      exact ⟨k, k1, by rw [k2], by rw [k2]⟩
  · have hv' : 0 ≤ v.toInt := by rw [Int32.lt_iff_toInt_lt, h0] at hv; omega
    have hnn : 0 ≤ y.toInt := by rw [hr]; exact Int.tmod_nonneg m hv'
    rw [if_pos (hx.mpr hv), if_pos (by rw [Int32.le_iff_toInt_le, h0]; exact hnn)]
    obtain ⟨k, k1, k2⟩ := hcase y hnn hb.2
    exact ⟨k, k1, by rw [k2], by rw [k2]⟩
theorem wtC (z : Nat × Nat) {σ : PS} {p : Nat} {c : Nat → Nat} {w : Nat → Int32} (hp : 1 ≤ p ∧ p ≤ 2) (h3 : gI σ 300 0 2 = nI p) (hW : rWC p c w σ) : X6_weightTogether z σ = some ((w 0).toInt64 + (if p = 2 then (w 1).toInt64 else 0)) := by
  have hfu := fuel_ge
  obtain ⟨n, hn⟩ : ∃ n, fuel = n + 3 := ⟨fuel - 3, by omega⟩
  unfold X6_weightTogether
  rw [hn, X6_weightTogether_l4.eq_2, h3, show (0 : Int32) = nI 0 from rfl, if_neg (nI_ge (by omega) (by omega)), ib_nI (by omega), gd_d (by omega), nm_b, ix_nI (by omega), (hW 0 (by omega)).2.2, nI_s, X6_weightTogether_l4.eq_2, h3]
  rcases (show p = 1 ∨ p = 2 by omega) with rfl | rfl
  · rw [if_pos (by decide), if_neg (by decide)]
    show some _ = some _
    simp
  · rw [if_neg (by decide), ib_nI (by omega), gd_d (by omega), nm_b, ix_nI (by omega), (hW 1 (by omega)).2.2, nI_s, X6_weightTogether_l4.eq_2, h3, if_pos (by decide), if_pos rfl]
    show some _ = some _
    simp
theorem wtM {τ : PS} {p f : Nat} {c : Nat → Nat} {w : Nat → Int32} (hp : 1 ≤ p ∧ p ≤ 2) (hf : f < 4) (h3 : gI τ 510 0 f = nI p) (hW : rWM p c w τ) : X10_weight (nI f) τ = some ((w 0).toInt64 + (if p = 2 then (w 1).toInt64 else 0)) := by
  unfold X10_weight
  rw [show ib (0 : Int32) 2 = true by decide, gd_t, ib_nI (by omega), gd_d hf, ix_nI (by omega), h3, show ix (0 : Int32) = 0 from rfl, (hW 0 (by omega)).2.2]
  rcases (show p = 1 ∨ p = 2 by omega) with rfl | rfl
  · rw [if_neg (by decide), if_neg (by decide)]
  · rw [if_pos (by decide), if_pos rfl, show ib (1 : Int32) 2 = true by decide, gd_t, show ix (1 : Int32) = 1 from rfl, (hW 1 (by omega)).2.2]
/-- the steps that were kept -/
def rSt (sc : Nat) (σ τ : PS) : Prop := gI σ 150 0 1 = nI sc ∧ gI τ 500 0 29 = nI sc ∧ ∀ k, k < sc → k < 1000 → gI σ 151 0 k = gI τ 529 0 k
def DSC : Nat → Nat → Nat → Prop := fun k _ i => k = 150 ∧ i = 1 ∨ k = 151
def DSM : Nat → Nat → Nat → Prop := fun k _ i => k = 500 ∧ i = 29 ∨ k = 529
theorem stB (z : Nat × Nat) {sc : Nat} {σ τ : PS} (hs : sc < 2 ^ 30) (h : rSt sc σ τ) (v : Int32) : ∃ σ' τ', X3_addStep z v σ = some σ' ∧ X10_note v τ = some τ' ∧ ag DSC σ σ' ∧ ag DSM τ τ' ∧ rSt (sc + 1) σ' τ' := by
  obtain ⟨h1, h2, h3⟩ := h
  unfold X3_addStep X10_note
  rw [h1, h2]
  by_cases k : sc < 1000
  · rw [if_neg (show ¬ (1000 : Int32) ≤ nI sc from nI_ge (b := 1000) k (by omega)), if_neg (show ¬ (1000 : Int32) ≤ nI sc from nI_ge (b := 1000) k (by omega)), ib_nI (by omega), gd_d k, gd_d k, ix_nI (by omega)]
    simp only [nm_b, gI_k (show ¬ 150 = 151 by decide), gI_k (show ¬ 500 = 529 by decide), h1, h2, nI_s]
    refine ⟨_, _, rfl, rfl, ag_t (ag_sI (by unfold DSC; omega)) (ag_sI (by unfold DSC; omega)), ag_t (ag_sI (by unfold DSM; omega)) (ag_sI (by unfold DSM; omega)), by simp [gI_sI], by simp [gI_sI], fun j hj hj2 => ?_⟩
    by_cases q : j = sc
    · subst q; simp [gI_sI]
    · simpa [gI_sI, q] using h3 j (by omega) hj2
  · rw [if_pos (show (1000 : Int32) ≤ nI sc from nI_le (a := 1000) (by omega) (by omega)), if_pos (show (1000 : Int32) ≤ nI sc from nI_le (a := 1000) (by omega) (by omega))]
    simp only [nm_b, nI_s]
    refine ⟨_, _, rfl, rfl, ag_sI (by unfold DSC; omega), ag_sI (by unfold DSM; omega), by simp [gI_sI], by simp [gI_sI], fun j hj hj2 => ?_⟩
    simpa [gI_sI] using h3 j (by omega) hj2
theorem rSt_ag {D E : Nat → Nat → Nat → Prop} {sc : Nat} {σ τ σ' τ' : PS} (h : rSt sc σ τ) (a : ag D σ σ') (b : ag E τ τ') (hD : ∀ k n i, (k = 150 ∧ i = 1 ∨ k = 151) → ¬ D k n i) (hE : ∀ k n i, (k = 500 ∧ i = 29 ∨ k = 529) → ¬ E k n i) : rSt sc σ' τ' := ⟨(agI a (hD _ _ _ (by omega))).trans h.1, (agI b (hE _ _ _ (by omega))).trans h.2.1, fun k h1 h2 => by rw [agI a (hD _ _ _ (by omega)), agI b (hE _ _ _ (by omega))]; exact h.2.2 k h1 h2⟩
/-- rows are looked for alike -/
theorem lookB {z : Nat × Nat} {σ τ : PS} {own pn : Nat → Nat} {lc : Nat → Nat} {la od : Nat → Nat → Nat} (hC : CR z own pn lc la od σ τ) {f t : Nat} (hf : f < z.1) {c : Nat → Nat} {w : Nat → Int32} (hWC : rWC (pn f) c w σ) (hWM : rWM (pn f) c w τ) (hM : rM1 (pn f) f t σ τ) (ht : t < 2 ^ 30) : ∃ σ' τ', X1_lookForRow z f σ = some σ' ∧ X10_remember (nI f) τ = some τ' ∧ ag (DMC f) σ σ' ∧ ag (DMM f) τ τ' ∧ rM1 (pn f) f (t + 1) σ' τ' := by
  obtain ⟨hB, hO, hQ, hF, hH, hL⟩ := hC
  have hL := hL f hf
  have hf4 := hF.1
  obtain ⟨-, -, ⟨p1, p2⟩, p3, p4, -⟩ := hF.2.2.2 f hf
  have hown : ∀ i, i < lc f → own (la f i) = f := fun i hi => ld_own ((hL.2.2.1 _ (hL.1.2.2 i hi).2).mpr ⟨i, hi, rfl⟩)
  obtain ⟨a1, a2, a3⟩ := hWC 0 (by omega)
  obtain ⟨-, b2, b3⟩ := hWM 0 (by omega)
  have e0 : X1_pieceOf z f 0 (w 0) σ = some (pcV τ (lc f) (la f) 0 (w 0)) := pcC hF hH hf hL.1 hown (show 0 < pn f by omega) (w 0)
  have m0 : X10_piece (nI f) 0 τ = some (pcV τ (lc f) (la f) 0 (w 0)) := pcM hF hH hf hL hWM (show 0 < pn f by omega)
  unfold X1_lookForRow X10_remember X10_remember_c37
  rw [show ib (0 : Int32) 2 = true by decide, show ib (1 : Int32) 2 = true by decide]
  simp only [gd_t, nm_b, show ix (0 : Int32) = 0 from rfl, show ix (1 : Int32) = 1 from rfl, a2, a3, e0, m0, b2, Option.bind_some, p3, p4, ib_nI (show f < 2 ^ 31 by omega), gd_d (show f < 4 by omega), ix_nI (show f < 2 ^ 31 by omega)]
  rcases (show pn f = 1 ∨ pn f = 2 by omega) with e | e
  · rw [e, if_neg (by decide), if_neg (by decide), if_neg (by decide)]
    rw [e] at hM
    obtain ⟨σ', τ', r1, r2, r3, r4, r5⟩ := look2 (z := z) (a0 := c 0) (b0 := 0) (x := pcV τ (lc f) (la f) 0 (w 0)) (y := 0) hM ht (by omega) a1 (by omega)
    exact ⟨σ', τ', by rw [show kc 1 (c 0) 0 = c 0 from rfl] at r1; rw [r1]; rfl, by rw [show kd 1 0 = 0 from rfl] at r2; rw [r2], r3, r4, r5⟩
  · obtain ⟨a1', a2', a3'⟩ := hWC 1 (by omega)
    obtain ⟨-, b2', b3'⟩ := hWM 1 (by omega)
    have e1 : X1_pieceOf z f 1 (w 1) σ = some (pcV τ (lc f) (la f) 1 (w 1)) := pcC hF hH hf hL.1 hown (show 1 < pn f by omega) (w 1)
    have m1 : X10_piece (nI f) 1 τ = some (pcV τ (lc f) (la f) 1 (w 1)) := pcM hF hH hf hL hWM (show 1 < pn f by omega)
    rw [e] at hM ⊢
    obtain ⟨σ', τ', r1, r2, r3, r4, r5⟩ := look2 (z := z) (a0 := c 0) (b0 := c 1) (x := pcV τ (lc f) (la f) 0 (w 0)) (y := pcV τ (lc f) (la f) 1 (w 1)) hM ht (by omega) a1 a1'
    rw [if_pos (show (2 : Int32) ≤ nI 2 by decide), if_pos (show nI 2 = (2 : Int32) from rfl), if_pos (show nI 2 = (2 : Int32) from rfl)]
    simp only [a2', a3', e1, m1, b2', Option.bind_some]
    refine ⟨σ', τ', ?_, ?_, r3, r4, r5⟩
    · have : nI (c 0) * (12 : Int32) + nI (c 1) = nI (kc 2 (c 0) (c 1)) := by rw [show (12 : Int32) = nI 12 from rfl, pk_mul, nI_add]; rfl
      rw [this, r1]
      rfl
    · rw [show kd 2 (c 1) = (nI (c 1)).toInt64 from rfl] at r2
      exact r2

/-! ===== the core: below, functions, handlers, laid ones; applicable(), most() ===== -/
def CR (z : Nat × Nat) (own pn : Nat → Nat) (lc : Nat → Nat) (la od : Nat → Nat → Nat) (σ τ : PS) : Prop := rB σ τ ∧ rO τ ∧ rQ z.2 τ ∧ rF z pn σ τ ∧ rH z own pn σ τ ∧ rL z own pn lc la od σ τ
section FR2
variable {D E : Nat → Nat → Nat → Prop} {σ σ' τ τ' : PS}
theorem ldP_ag {own : Nat → Nat} (b : ag E τ τ') (hE : ∀ k n i, k = 520 → ¬ E k n i) (f h : Nat) : ldP own τ' f h = ldP own τ f h := by
  unfold ldP
  rw [agI b (hE _ _ _ rfl)]
theorem plP_ag (b : ag E τ τ') (hE : ∀ k n i, k = 519 → ¬ E k n i) (h : Nat) : plP τ' h = plP τ h := by
  unfold plP
  rw [agI b (hE _ _ _ rfl)]
theorem tkP_ag (b : ag E τ τ') (hE : ∀ k n i, (k = 503 ∨ k = 521 ∨ k = 522 ∨ k = 523) → ¬ E k n i) (c : Nat → Nat) (w : Nat → Int32) (p h : Nat) : tkP τ' c w p h = tkP τ c w p h := by
  have c1 := fun h i => cdP_ag b (fun k n i q => hE k n i (by omega)) h i
  have c2 := fun h i => lwP_ag b (fun k n i q => hE k n i (by omega)) h i
  have c3 := fun h i => hgP_ag b (fun k n i q => hE k n i (by omega)) h i
  have c4 : ∀ i, gI τ' 503 0 i = gI τ 503 0 i := fun i => agI b (hE _ _ _ (by omega))
  have s : ∀ k i, tkF τ' c w h k i = tkF τ c w h k i := by
    intro k
    induction k with
    | zero => intro i; rfl
    | succ k ih => intro i; unfold tkF; rw [ih]; unfold tcP twP blP; simp only [c1, c2, c3, c4]
  exact s p 0
theorem ofP_ag {own : Nat → Nat} (b : ag E τ τ') (hE : ∀ k n i, (k = 503 ∨ k = 519 ∨ k = 520 ∨ k = 521 ∨ k = 522 ∨ k = 523) → ¬ E k n i) (c : Nat → Nat) (w : Nat → Int32) (p f : Nat) (o : Option Nat) (h : Nat) : ofP own τ' c w p f o h = ofP own τ c w p f o h := by
  unfold ofP
  rw [ldP_ag b (fun k n i q => hE k n i (by omega)), plP_ag b (fun k n i q => hE k n i (by omega)), tkP_ag b (fun k n i q => hE k n i (by omega))]
  cases o with
  | none => rfl
  | some g => simp only [moP_ag b (fun k n i q => hE k n i (by omega))]
theorem rL1_ag {z : Nat × Nat} {own : Nat → Nat} {p f lc : Nat} {la od : Nat → Nat} (h : rL1 z own p f lc la od σ τ) (a : ag D σ σ') (b : ag E τ τ') (hD : ∀ k n i, (n = f ∧ (k = 50 ∧ (i = 7 ∨ i = 8) ∨ k = 55 ∨ k = 56 ∨ k = 57)) → ¬ D k n i) (hE : ∀ k n i, (k = 503 ∨ k = 519 ∨ k = 520 ∨ k = 521 ∨ k = 522 ∨ k = 523) → ¬ E k n i) : rL1 z own p f lc la od σ' τ' := by
  have e1 : gI σ' 50 f 7 = gI σ 50 f 7 := agI a (hD _ _ _ (by omega))
  have e2 : gI σ' 50 f 8 = gI σ 50 f 8 := agI a (hD _ _ _ (by omega))
  have e3 : ∀ i, gI σ' 55 f i = gI σ 55 f i := fun i => agI a (hD _ _ _ (by omega))
  have e4 : ∀ i, gR σ' 56 f i = gR σ 56 f i := fun i => agR a (hD _ _ _ (by omega))
  have e5 : ∀ i, gI σ' 57 f i = gI σ 57 f i := fun i => agI a (hD _ _ _ (by omega))
  have f1 := fun f h => ldP_ag (own := own) b (fun k n i q => hE k n i (by omega)) f h
  have f2 := fun h => plP_ag b (fun k n i q => hE k n i (by omega)) h
  have f3 := fun p h g => moP_ag b (fun k n i q => hE k n i (by omega)) p h g
  unfold rL1 rLd at h ⊢
  simp only [e1, e2, e3, e4, e5, f1, f2, f3]
  exact h
theorem CR_ag {z : Nat × Nat} {own pn : Nat → Nat} {lc : Nat → Nat} {la od : Nat → Nat → Nat} (h : CR z own pn lc la od σ τ) (a : ag D σ σ') (b : ag E τ τ') (hD : ∀ k n i, (k = 403 ∨ k = 450 ∧ (i = 9 ∨ i = 10) ∨ k = 453 ∨ k = 454 ∨ k = 50 ∨ k = 100 ∨ k = 106 ∨ k = 107 ∨ k = 108 ∨ k = 55 ∨ k = 56 ∨ k = 57) → ¬ D k n i) (hE : ∀ k n i, (k = 503 ∨ k = 500 ∧ (i = 8 ∨ i = 14) ∨ k = 510 ∨ k = 511 ∨ k = 516 ∨ k = 517 ∨ k = 518 ∨ k = 519 ∨ k = 520 ∨ k = 521 ∨ k = 522 ∨ k = 523) → ¬ E k n i) : CR z own pn lc la od σ' τ' := by
  obtain ⟨h1, h2, h3, h4, h5, h6⟩ := h
  exact ⟨rB_ag h1 a b (fun k n i q => hD k n i (by omega)) (fun k n i q => hE k n i (by omega)), rO_ag h2 b (fun k n i q => hE k n i (by omega)), rQ_ag h3 b (fun k n i q => hE k n i (by omega)), rF_ag h4 a b (fun k n i q => hD k n i (by omega)) (fun k n i q => hE k n i (by omega)), rH_ag h5 a b (fun k n i q => hD k n i (by omega)) (fun k n i q => hE k n i (by omega)), fun f hf => rL1_ag (h6 f hf) a b (fun k n i q => hD k n i (by omega)) (fun k n i q => hE k n i (by omega))⟩
theorem rWC_ag {p : Nat} {c : Nat → Nat} {w : Nat → Int32} (h : rWC p c w σ) (a : ag D σ σ') (hD : ∀ k n i, (k = 301 ∨ k = 302) → ¬ D k n i) : rWC p c w σ' := by
  intro i hi
  obtain ⟨h1, h2, h3⟩ := h i hi
  exact ⟨h1, (agI a (hD _ _ _ (by omega))).trans h2, (agI a (hD _ _ _ (by omega))).trans h3⟩
theorem rWM_ag {p : Nat} {c : Nat → Nat} {w : Nat → Int32} (h : rWM p c w τ) (a : ag D τ τ') (hD : ∀ k n i, (k = 532 ∨ k = 533) → ¬ D k n i) : rWM p c w τ' := by
  intro i hi
  obtain ⟨h1, h2, h3⟩ := h i hi
  exact ⟨h1, (agI a (hD _ _ _ (by omega))).trans h2, (agL a (hD _ _ _ (by omega))).trans h3⟩
end FR2
theorem cnt_inj {P : Nat → Bool} {i j : Nat} (hi : P i = true) (hj : P j = true) (e : cnt P i = cnt P j) : i = j := by
  have key : ∀ a b, a < b → P a = true → cnt P a < cnt P b := fun a b h ha => by
    have h1 := cnt_mono P (show a + 1 ≤ b by omega)
    rw [cnt_s, if_pos ha] at h1
    omega
  rcases Nat.lt_trichotomy i j with q | q | q
  · have := key i j q hi; omega
  · exact q
  · have := key j i q hj; omega
theorem apM_l {z : Nat × Nat} {σ τ : PS} (hB : rB σ τ) {own pn : Nat → Nat} {f : Nat} {c : Nat → Nat} {w : Nat → Int32} (hQ : rQ z.2 τ) (hF : rF z pn σ τ) (hH : rH z own pn σ τ) (hf : f < z.1) (hW : rWM (pn f) c w τ) (kx : Int32 → PS → Option (Int32 × PS)) (k : Int32) : ∀ (n i : Nat) (a : Int32), i ≤ z.2 → z.2 - i < n → ∃ r, X10_applicable_l26 kx n (nI f) k (nI (cnt (ofP own τ c w (pn f) f none) i)) a (nI i) τ = kx r τ ∧ ((r = a ∧ ∀ h, i ≤ h → h < z.2 → ofP own τ c w (pn f) f none h = true → ¬ nI (cnt (ofP own τ c w (pn f) f none) h) = k) ∨ ∃ h, h < z.2 ∧ ofP own τ c w (pn f) f none h = true ∧ nI (cnt (ofP own τ c w (pn f) f none) h) = k ∧ r = nI h) := by
  have h40 := hH.1
  intro n
  induction n with
  | zero => intro i a hi hn; omega
  | succ n ih =>
    intro i a hi hn
    rw [X10_applicable_l26.eq_2, hH.2.2.1]
    by_cases he : i = z.2
    · rw [if_pos (by rw [he]; exact nI_le (Nat.le_refl _) (by omega))]
      exact ⟨a, rfl, Or.inl ⟨rfl, fun h h1 h2 => by omega⟩⟩
    · have hlt : i < z.2 := by omega
      have := ofM hB hQ hF hH hlt hf hW none (fun g q => by cases q)
      rw [show ofI none = (-1 : Int32) from rfl] at this
      rw [if_neg (nI_ge hlt (by omega)), this]
      simp only [Option.bind_some, nI_s]
      have next : ∀ a', (a' = a ∧ (ofP own τ c w (pn f) f none i = true → ¬ nI (cnt (ofP own τ c w (pn f) f none) i) = k)) ∨ (ofP own τ c w (pn f) f none i = true ∧ nI (cnt (ofP own τ c w (pn f) f none) i) = k ∧ a' = nI i) → ∃ r, X10_applicable_l26 kx n (nI f) k (nI (cnt (ofP own τ c w (pn f) f none) (i + 1))) a' (nI (i + 1)) τ = kx r τ ∧ ((r = a ∧ ∀ h, i ≤ h → h < z.2 → ofP own τ c w (pn f) f none h = true → ¬ nI (cnt (ofP own τ c w (pn f) f none) h) = k) ∨ ∃ h, h < z.2 ∧ ofP own τ c w (pn f) f none h = true ∧ nI (cnt (ofP own τ c w (pn f) f none) h) = k ∧ r = nI h) := fun a' hc => by
        obtain ⟨r, e, hr⟩ := ih (i + 1) a' (by omega) (by omega)
        refine ⟨r, e, ?_⟩
        rcases hr with ⟨q1, q2⟩ | q
        · rcases hc with ⟨c1, c2⟩ | ⟨c1, c2, c3⟩
          · refine Or.inl ⟨q1.trans c1, fun h h1 h2 => ?_⟩
            rcases Nat.lt_or_ge i h with s | s
            · exact q2 h (by omega) h2
            · have : h = i := by omega
              subst this; exact c2
          · exact Or.inr ⟨i, hlt, c1, c2, q1.trans c3⟩
        · exact Or.inr q
      rw [cnt_s] at next
      rcases hq : ofP own τ c w (pn f) f none i with _ | _
      · rw [if_neg (by simp [hq])] at next
        rw [if_pos (by rfl)]
        exact next a (Or.inl ⟨rfl, fun q => by rw [hq] at q; cases q⟩)
      · rw [if_pos (by simp [hq])] at next
        rw [if_neg (by decide)]
        by_cases hk : nI (cnt (ofP own τ c w (pn f) f none) i) = k
        · rw [if_pos hk]; exact next (nI i) (Or.inr ⟨hq, hk, rfl⟩)
        · rw [if_neg hk]; exact next a (Or.inl ⟨rfl, fun _ => hk⟩)
theorem bt_lc {lc : Nat} (h : lc ≤ 8) {S : Nat → Bool} {j : Nat} (hj : j < 32) : bt (mkS lc S) j = true ↔ j < lc ∧ S j = true := by
  rw [bt_mkS S lc (by omega) j hj, Bool.and_eq_true, decide_eq_true_eq]
theorem s_applicable {z : Nat × Nat} {ns : Nat} {σ τ : PS} {own pn : Nat → Nat} {lc : Nat → Nat} {la od : Nat → Nat → Nat} (hC : z.1 = 0 ∨ CR z own pn lc la od σ τ) (hF : rF z pn σ τ) (hs : rS ns σ τ) (hA : rA ns σ τ) (x1 x2 : Int32) : ∃ r σ' τ', X9_applicable z x1 x2 σ = some (r, σ') ∧ X10_applicable x1 x2 τ = some (r, τ') ∧ ag DRC σ σ' ∧ ag DRM τ τ' := by
  have hfu := fuel_ge
  unfold X9_applicable X10_applicable
  rcases fnAt hF x1 with ⟨e1, e2⟩ | ⟨f, hf, rfl, e1, e2⟩
  · exact ⟨-1, σ, τ, by rw [e1]; rfl, by rw [e2]; rfl, ag_r _, ag_r _⟩
  · have hC := hC.elim (fun q => by omega) id
    rw [e1, e2]
    simp only [Option.bind_some, if_neg (show ¬ (1 : Int32) = 0 by decide), oc_s' hf]
    rcases tell hs hA hF hf with ⟨σ', τ', t1, t2, t3, t4⟩ | ⟨c, w, σ', τ', t1, t2, t3, t4, t5, t6, t7⟩
    · exact ⟨-1, σ', τ', by rw [t1]; rfl, by rw [t2]; rfl, t3, t4⟩
    · obtain ⟨hB, hO, hQ, hF', hH, hL⟩ := CR_ag hC t3 t4 (fun k n i q => by unfold DRC; omega) (fun k n i q => by unfold DRM; omega)
      have hL := hL f hf
      have h40 := hH.1
      have hlc := hL.1.1
      rw [t1, t2]
      simp only [bp_s, if_neg (show ¬ (1 : Int32) = 0 by decide), tkPl z hB hF' hH hf hL t5, Option.bind_some]
      obtain ⟨rC, c1, c2⟩ := memC z σ' (mkS (lc f) (fun a => tkP τ' c w (pn f) (la f a) && plP τ' (la f a))) x2
      obtain ⟨rM, m1, m2⟩ := apM_l hB hQ hF' hH hf t6 (fun v4 σ => X10_applicable_c69 v4 σ) x2 fuel 0 (-1) (by omega) (by omega)
      rw [show cnt (ofP own τ' c w (pn f) f none) 0 = 0 from rfl, show nI 0 = (0 : Int32) from rfl] at m1
      rw [c1, m1]
      simp only [Option.bind_some]
      have hN : ∀ i, i < lc f → la f i < z.2 := fun i hi => (hL.1.2.2 i hi).2
      have hof := of_none (c := c) (w := w) hL
      have hcnt : ∀ j, j < lc f → cnt (bt (mkS (lc f) (fun a => tkP τ' c w (pn f) (la f a) && plP τ' (la f a)))) j = cnt (ofP own τ' c w (pn f) f none) (la f j) := fun j hj => by
        rw [cnt_la hL.2.1 hN hof j hj]
        exact cnt_congr (fun i hi => by rw [bt_mkS _ (lc f) (by omega) i (by omega)]; simp [show i < lc f by omega])
      have hle : ∀ j, cnt (ofP own τ' c w (pn f) f none) j ≤ j := fun j => cnt_le _ j
      rcases c2 with ⟨a1, a2⟩ | ⟨j, a1, a2, a3, a4⟩
      · rcases m2 with ⟨b1, b2⟩ | ⟨h, b1, b2, b3, b4⟩
        · refine ⟨-1, σ', τ', ?_, ?_, t3, t4⟩
          · rw [a1, (numAt_m z f σ').2]; rfl
          · rw [b1]; rfl
        · exfalso
          obtain ⟨j, hj, rfl, hs'⟩ := (hof h b1).mp b2
          refine a2 j (by omega) ((bt_lc hlc (by omega)).mpr ⟨hj, hs'⟩) ?_
          rw [hcnt j hj]; exact b3
      · obtain ⟨hj, hs'⟩ := (bt_lc hlc (by omega)).mp a2
        have hoj := (hof _ (hN j hj)).mpr ⟨j, hj, rfl, hs'⟩
        rw [hcnt j hj] at a3
        rcases m2 with ⟨b1, b2⟩ | ⟨h, b1, b2, b3, b4⟩
        · exact absurd a3 (b2 _ (by omega) (hN j hj) hoj)
        · have hl1 := hle (la f j)
          have hl2 := hle h
          have hn := hN j hj
          have : h = la f j := cnt_inj b2 hoj ((nI_eq (by omega) (by omega)).mp (b3.trans a3.symm))
          refine ⟨nI h, σ', τ', ?_, ?_, t3, t4⟩
          · rw [a4, (numAt hH hL.1 hj).2, this]; rfl
          · rw [b4]; rfl
theorem s_most {z : Nat × Nat} {ns : Nat} {σ τ : PS} {own pn : Nat → Nat} {lc : Nat → Nat} {la od : Nat → Nat → Nat} (hC : z.1 = 0 ∨ CR z own pn lc la od σ τ) (hF : rF z pn σ τ) (hs : rS ns σ τ) (hA : rA ns σ τ) (x1 : Int32) : ∃ r σ' τ', X9_most z x1 σ = some (r, σ') ∧ X10_most x1 τ = some (r, τ') ∧ ag DRC σ σ' ∧ ag DRM τ τ' := by
  unfold X9_most X10_most
  rcases fnAt hF x1 with ⟨e1, e2⟩ | ⟨f, hf, rfl, e1, e2⟩
  · exact ⟨-1, σ, τ, by rw [e1]; rfl, by rw [e2]; rfl, ag_r _, ag_r _⟩
  · have hC := hC.elim (fun q => by omega) id
    rw [e1, e2]
    simp only [Option.bind_some, if_neg (show ¬ (1 : Int32) = 0 by decide), oc_s' hf]
    rcases tell hs hA hF hf with ⟨σ', τ', t1, t2, t3, t4⟩ | ⟨c, w, σ', τ', t1, t2, t3, t4, t5, t6, t7⟩
    · exact ⟨-1, σ', τ', by rw [t1]; rfl, by rw [t2]; rfl, t3, t4⟩
    · obtain ⟨hB, hO, hQ, hF', hH, hL⟩ := CR_ag hC t3 t4 (fun k n i q => by unfold DRC; omega) (fun k n i q => by unfold DRM; omega)
      have hL := hL f hf
      rw [t1, t2]
      simp only [bp_s, if_neg (show ¬ (1 : Int32) = 0 by decide), tkPl z hB hF' hH hf hL t5, Option.bind_some]
      obtain ⟨rC, rM, c1, c2, c3⟩ := chBoth hB hO hQ hF' hH hf hL t6 none (fun g q => by cases q) (of_none hL)
      rw [show ofI none = (-1 : Int32) from rfl] at c2
      rw [c1, c2]
      simp only [Option.bind_some]
      rcases c3 with ⟨a1, a2, -⟩ | ⟨i, a1, a2, a3⟩
      · exact ⟨-1, σ', τ', by rw [a1, (numAt_m z f σ').2]; rfl, by rw [a2], t3, t4⟩
      · exact ⟨nI (la f i), σ', τ', by rw [a2, (numAt hH hL.1 a1.1).2]; rfl, by rw [a3], t3, t4⟩
theorem s_count {z : Nat × Nat} {σ τ : PS} {own pn : Nat → Nat} {lc : Nat → Nat} {la od : Nat → Nat → Nat} (hF : rF z pn σ τ) (hH : rH z own pn σ τ) (hL : rL z own pn lc la od σ τ) (hT : rT σ τ) (hV : rV σ τ) (hM : ∀ f, f < z.1 → gI σ 200 f 6 = gI τ 512 0 f ∧ gI σ 200 f 5 = gI τ 514 0 f) (x1 x2 : Int32) : ∃ r, X9_count z x1 x2 σ = some r ∧ X10_count x1 x2 τ = some r := by
  unfold X9_count X10_count
  by_cases h1 : x1 = -1
  · rw [if_pos h1, if_pos h1]
    unfold X9_countOfAll X10_countAll
    obtain ⟨-, -, -, -, v5, sc, -, v6, v7, -⟩ := hV
    rw [hF.2.1, hF.2.2.1, hH.2.1, hH.2.2.1, hT.1.1, v5, v6, v7]
    have key : ∀ (E : Option Int32), E.isSome = true → ∃ r, (E.bind fun r => some r) = some r ∧ (E.bind fun r => some r) = some r := fun E hE => by
      cases E with
      | none => cases hE
      | some r => exact ⟨r, rfl, rfl⟩
    refine key _ ?_
    repeat' split
    all_goals rfl
  · rw [if_neg h1, if_neg h1]
    rcases fnAt hF x1 with ⟨e1, e2⟩ | ⟨f, hf, rfl, e1, e2⟩
    · exact ⟨-2, by rw [e1]; rfl, by rw [e2]; rfl⟩
    · have hf4 := hF.1
      obtain ⟨-, -, -, p3, p4, p5, -⟩ := hF.2.2.2 f hf
      obtain ⟨m1, m2⟩ := hM f hf
      rw [e1, e2, laidM hF hH hf (hL f hf)]
      simp only [Option.bind_some, if_neg (show ¬ (1 : Int32) = 0 by decide), oc_s' hf, ib_nI (show f < 2 ^ 31 by omega), gd_d (show f < 4 by omega), ix_nI (show f < 2 ^ 31 by omega), p3, p4, p5, m1, m2, (hL f hf).1.2.1]
      rcases cases_nI x2 (n := 5) (by omega) with k | ⟨k, k2⟩ | ⟨j, hj, rfl⟩
      · refine ⟨-2, ?_, by rw [if_pos k]⟩
        have hne : ∀ v : Int32, ¬ v < 0 → ¬ x2 = v := fun v hv q => hv (q ▸ k)
        rw [if_neg (hne 0 (by decide)), if_neg (hne 1 (by decide)), if_neg (hne 2 (by decide)), if_neg (hne 3 (by decide)), if_neg (hne 4 (by decide))]
      · have k3 : (5 : Int32) ≤ x2 := k2
        refine ⟨-2, ?_, by rw [if_neg k, if_neg (fun q => absurd (Int32.le_trans k3 q) (by decide))]⟩
        have hne : ∀ v : Int32, ¬ (5 : Int32) ≤ v → ¬ x2 = v := fun v hv q => hv (q ▸ k3)
        rw [if_neg (hne 0 (by decide)), if_neg (hne 1 (by decide)), if_neg (hne 2 (by decide)), if_neg (hne 3 (by decide)), if_neg (hne 4 (by decide))]
      · rcases (show j = 0 ∨ j = 1 ∨ j = 2 ∨ j = 3 ∨ j = 4 by omega) with rfl | rfl | rfl | rfl | rfl
        · exact ⟨_, rfl, rfl⟩
        · exact ⟨_, rfl, rfl⟩
        · by_cases q : gI τ 511 0 f = 0
          · exact ⟨0, by simp only [if_pos q]; rfl, by simp only [if_pos q]; rfl⟩
          · exact ⟨1, by simp only [if_neg q]; rfl, by simp only [if_neg q]; rfl⟩
        · exact ⟨_, rfl, rfl⟩
        · exact ⟨_, rfl, rfl⟩

/-! ===== doubt(): the pairs in order ===== -/
/-- index and number go together -/
def syn (la : Nat → Nat) (lc h i : Nat) : Prop := i ≤ lc ∧ (∀ j, j < i → la j < h) ∧ ∀ j, i ≤ j → j < lc → h ≤ la j
theorem syn_laid {la : Nat → Nat} {lc h i x : Nat} (hm : ∀ i j, i < j → j < lc → la i < la j) (hs : syn la lc h i) (hx : x < lc) (e : la x = h) : i = x ∧ syn la lc (h + 1) (i + 1) := by
  obtain ⟨h1, h2, h3⟩ := hs
  have hix : i = x := by
    rcases Nat.lt_trichotomy i x with q | q | q
    · have := h3 i (Nat.le_refl _) (by omega)
      have := hm i x q hx
      omega
    · exact q
    · have := h2 x q; omega
  subst hix
  refine ⟨rfl, by omega, fun j hj => ?_, fun j a b => ?_⟩
  · rcases Nat.lt_or_ge j i with q | q
    · have := h2 j q; omega
    · have : j = i := by omega
      subst this; omega
  · have := hm i j (by omega) b; omega
theorem syn_skip {la : Nat → Nat} {lc h i : Nat} (hs : syn la lc h i) (hn : ∀ x, x < lc → ¬ la x = h) : syn la lc (h + 1) i := by
  obtain ⟨h1, h2, h3⟩ := hs
  refine ⟨h1, fun j hj => by have := h2 j hj; omega, fun j a b => ?_⟩
  have := h3 j a b
  have := hn j b
  omega
section DBT
variable {z : Nat × Nat} {σ0 τ0 : PS} {own pn : Nat → Nat} {lc : Nat → Nat} {la od : Nat → Nat → Nat} {f s0 s1 : Nat} {cl0 cl1 : Nat → Nat} {wt0 wt1 mk0 mk1 : Nat → Int32}
/-- what a found pair leaves -/
def fdR (z : Nat × Nat) (la : Nat → Nat → Nat) (f : Nat) (what : Int32) (σ0 τ0 : PS) (lc : Nat → Nat) (X : Option (Int32 × PS)) (Y : Option (Int64 × PS)) : Prop := ∃ g h σ' τ', g < lc f ∧ h < lc f ∧ X = some (1, sI (sI σ' 250 0 4 (nI g)) 250 0 5 (nI h)) ∧ ag D250 σ0 σ' ∧ ag DHM τ0 τ' ∧ (∀ q, q < 4 → ∃ v, X5_partOfTuple z (nI q) σ' = some v ∧ gL τ' 539 0 q = v.toInt64) ∧ Y = (if what = 0 then some ((nI (la f g)).toInt64, τ') else if what = 1 then some ((nI (la f h)).toInt64, τ') else gd (ib (what - 2) 4) (some (gL τ' 539 0 (ix (what - 2)), τ')))
/-- the model passes over g where it isn't laid, or around -/
theorem psM {τ σ : PS} (hC : CR z own pn lc la od σ τ) (hf : f < z.1) {g : Nat} (hg : g < z.2) (hn : (ldP own τ f g && plP τ g) = false) (k what v4 : Int32) (kx : Int32 → Int32 → Int32 → Int32 → Int32 → PS → Option (Int64 × PS)) : ∀ (n h : Nat), h ≤ z.2 → z.2 - h < n → X10_doubt_l46 kx n (nI f) k what v4 (nI g) (nI h) τ = kx (nI f) k what v4 (nI g) τ := by
  obtain ⟨hB, hO, hQ, hF, hH, hLL⟩ := id hC
  have h40 := hH.1
  intro n
  induction n with
  | zero => intro h hh hn; omega
  | succ n ih =>
    intro h hh hm
    rw [X10_doubt_l46.eq_2, hH.2.2.1]
    by_cases he : h = z.2
    · rw [if_pos (by rw [he]; exact nI_le (Nat.le_refl _) (by omega))]
    · have hlt : h < z.2 := by omega
      rw [if_neg (nI_ge hlt (by omega)), ldM hF hH hg hf, ldM hF hH hlt hf]
      unfold X10_doubt_c99 X10_doubt_c100
      simp only [Option.bind_some, if_true, ib_nI (show g < 2 ^ 31 by omega), gd_d (show g < 40 by omega), ix_nI (show g < 2 ^ 31 by omega), nI_s, ih (h + 1) (by omega) (by omega)]
      rcases q1 : ldP own τ f g with _ | _
      · rw [if_pos (by rfl)]
      · rw [if_neg (by decide)]
        rcases q2 : ldP own τ f h with _ | _
        · rw [if_pos (by rfl)]
        · rw [if_neg (by decide)]
          rw [q1] at hn
          have : ¬ gI τ 519 0 g = 0 := fun q => by unfold plP at hn; simp [q] at hn
          rw [if_neg this]
theorem psC {σ : PS} (hC : CR z own pn lc la od σ τ0) (hf : f < z.1) {g : Nat} (hg : g < lc f) (hn : plP τ0 (la f g) = false) (h0 : clS 0 s0 cl0 wt0 mk0 σ) (h1 : clS 1 s1 cl1 wt1 mk1 σ) (hce : ceB τ0 (pn f) (lc f) (la f) s0 cl0 wt0 mk0 s1 cl1 wt1 mk1) (k v3 : Int32) (kx : Nat → Int32 → Int32 → Int32 → PS → Option (Int32 × PS)) : ∀ (n h : Nat), h ≤ lc f → lc f - h < n → X5_findDoubt_l25 z kx n f k v3 (nI g) (nI h) σ = kx f k v3 (nI g) σ := by
  have hL := hC.2.2.2.2.2 f hf
  have h8 := hL.1.1
  intro n
  induction n with
  | zero => intro h hh hm; omega
  | succ n ih =>
    intro h hh hm
    rw [X5_findDoubt_l25.eq_2, hL.1.2.1]
    by_cases he : h = lc f
    · rw [if_pos (by rw [he]; exact nI_le (Nat.le_refl _) (by omega))]
    · have hlt : h < lc f := by omega
      rw [if_neg (nI_ge hlt (by omega))]
      rcases pairB hC hf hg hlt h0 h1 hce with ⟨-, q⟩ | ⟨q, -⟩
      · rw [q]
        simp only [bp_s, if_true, nI_s]
        exact ih (h + 1) (by omega) (by omega)
      · rw [q.1] at hn; cases hn
/-- all pairs of one g -/
theorem dbI (hC0 : CR z own pn lc la od σ0 τ0) (hf : f < z.1) (h0 : clS 0 s0 cl0 wt0 mk0 σ0) (h1 : clS 1 s1 cl1 wt1 mk1 σ0) (hce : ceB τ0 (pn f) (lc f) (la f) s0 cl0 wt0 mk0 s1 cl1 wt1 mk1) {gi : Nat} (hgi : gi < lc f) (hpl : plP τ0 (la f gi) = true) (k what : Int32) (kxC : Nat → Int32 → Int32 → Int32 → PS → Option (Int32 × PS)) (kxM : Int32 → Int32 → Int32 → Int32 → Int32 → PS → Option (Int64 × PS)) : ∀ (m h hi nC nM : Nat) (v : Int32) (σ τ : PS), h + m = z.2 → syn (la f) (lc f) h hi → lc f - hi < nC → z.2 - h < nM → ag D250 σ0 σ → ag DHM τ0 τ → fdR z la f what σ0 τ0 lc (X5_findDoubt_l25 z kxC nC f k v (nI gi) (nI hi) σ) (X10_doubt_l46 kxM nM (nI f) k what v (nI (la f gi)) (nI h) τ) ∨ ∃ v' σ' τ', X5_findDoubt_l25 z kxC nC f k v (nI gi) (nI hi) σ = kxC f k v' (nI gi) σ' ∧ X10_doubt_l46 kxM nM (nI f) k what v (nI (la f gi)) (nI h) τ = kxM (nI f) k what v' (nI (la f gi)) τ' ∧ ag D250 σ0 σ' ∧ ag DHM τ0 τ' := by
  intro m
  induction m with
  | zero =>
    intro h hi nC nM v σ τ hm hs hC hM ha hb
    obtain ⟨hB, hO, hQ, hF, hH, hLL⟩ := CR_ag hC0 ha hb (fun k n i q => by unfold D250; omega) (fun k n i q => by unfold DHM; omega)
    have hL := hLL f hf
    have h8 := hL.1.1
    have h40 := hH.1
    have ehi : hi = lc f := by
      rcases Nat.lt_or_ge hi (lc f) with q | q
      · have := hs.2.2 hi (Nat.le_refl _) q
        have := (hL.1.2.2 hi q).2
        omega
      · have := hs.1; omega
    obtain ⟨c1, rfl⟩ : ∃ c1, nC = c1 + 1 := ⟨nC - 1, by omega⟩
    obtain ⟨m1, rfl⟩ : ∃ m1, nM = m1 + 1 := ⟨nM - 1, by omega⟩
    right
    refine ⟨v, σ, τ, ?_, ?_, ha, hb⟩
    · rw [X5_findDoubt_l25.eq_2, hL.1.2.1, if_pos (by rw [ehi]; exact nI_le (Nat.le_refl _) (by omega))]
    · rw [X10_doubt_l46.eq_2, hH.2.2.1, if_pos (by rw [show h = z.2 by omega]; exact nI_le (Nat.le_refl _) (by omega))]
  | succ m ih =>
    intro h hi nC nM v σ τ hm hs hnC hnM ha hb
    have hC := CR_ag hC0 ha hb (fun k n i q => by unfold D250; omega) (fun k n i q => by unfold DHM; omega)
    obtain ⟨hB, hO, hQ, hF, hH, hLL⟩ := id hC
    have hL := hLL f hf
    have h8 := hL.1.1
    have h40 := hH.1
    have hN : ∀ i, i < lc f → la f i < z.2 := fun i hi => (hL.1.2.2 i hi).2
    have hlt : h < z.2 := by omega
    have hg := hN gi hgi
    have eld : ∀ x, ldP own τ f x = ldP own τ0 f x := fun x => ldP_ag hb (fun k n i q => by unfold DHM; omega) f x
    have epl : ∀ x, plP τ x = plP τ0 x := fun x => plP_ag hb (fun k n i q => by unfold DHM; omega) x
    have lg : ldP own τ f (la f gi) = true := (hL.2.2.1 _ hg).mpr ⟨gi, hgi, rfl⟩
    have pg : gI τ 519 0 (la f gi) = 0 := by
      have := hpl
      rw [← epl] at this
      unfold plP at this
      simpa using this
    obtain ⟨m1, rfl⟩ : ∃ m1, nM = m1 + 1 := ⟨nM - 1, by omega⟩
    rw [X10_doubt_l46.eq_2, hH.2.2.1, if_neg (nI_ge hlt (by omega)), ldM hF hH hg hf, ldM hF hH hlt hf, lg]
    unfold X10_doubt_c99 X10_doubt_c100
    simp only [Option.bind_some, if_neg (show ¬ bI true = 0 by decide), if_true, if_neg (show ¬ (1 : Int32) = 0 by decide), ib_nI (show la f gi < 2 ^ 31 by omega), gd_d (show la f gi < 40 by omega), ix_nI (show la f gi < 2 ^ 31 by omega), if_pos pg, ib_nI (show h < 2 ^ 31 by omega), gd_d (show h < 40 by omega), ix_nI (show h < 2 ^ 31 by omega), nI_s]
    rcases q2 : ldP own τ f h with _ | _
    · rw [if_pos (by rfl)]
      refine ih (h + 1) hi nC m1 v σ τ (by omega) (syn_skip hs (fun x hx e => ?_)) hnC (by omega) ha hb
      have := (hL.2.2.1 h hlt).mpr ⟨x, hx, e⟩
      rw [q2] at this; cases this
    · rw [if_neg (by decide)]
      obtain ⟨x, hx, ex⟩ := (hL.2.2.1 h hlt).mp q2
      obtain ⟨rfl, hs'⟩ := syn_laid hL.2.1 hs hx ex
      obtain ⟨c1, rfl⟩ : ∃ c1, nC = c1 + 1 := ⟨nC - 1, by omega⟩
      have h0' := clS_ag h0 ha (fun k m i q => by unfold D250; omega)
      have h1' := clS_ag h1 ha (fun k m i q => by unfold D250; omega)
      have hce' := ceB_ag hce hb (fun k n i q => by unfold DHM; omega)
      rw [X5_findDoubt_l25.eq_2, hL.1.2.1, if_neg (nI_ge hx (by omega))]
      rcases pairB hC hf hgi hx h0' h1' hce' with ⟨p1, p2⟩ | ⟨⟨p1, p2⟩, r, σ1, τ1, r1, r2, r3, r4, r5, r6⟩
      · have : ¬ gI τ 519 0 h = 0 := fun q => by
          apply p1
          refine ⟨by rw [epl]; exact hpl, ?_⟩
          unfold plP
          rw [ex]; simp [q]
        rw [if_neg this, p2]
        simp only [bp_s, if_true, nI_s]
        exact ih (h + 1) (hi + 1) c1 m1 v σ τ (by omega) hs' (by omega) (by omega) ha hb
      · have ph : gI τ 519 0 h = 0 := by
          unfold plP at p2
          rw [ex] at p2
          simpa using p2
        rw [if_pos ph, r1]
        rw [ex] at r2
        rw [r2]
        simp only [bp_s, nI_s]
        have ha' := ag_t ha r4
        have hb' := ag_t hb r5
        rcases r3 with rfl | rfl
        · rw [if_pos rfl, if_pos rfl]
          exact ih (h + 1) (hi + 1) c1 m1 v σ1 τ1 (by omega) hs' (by omega) (by omega) ha' hb'
        · simp only [if_neg (show ¬ (1 : Int32) = 0 by decide)]
          by_cases hv : v = k
          · left
            simp only [if_pos hv]
            refine ⟨gi, hi, σ1, τ1, hgi, hx, rfl, ha', hb', r6 rfl, ?_⟩
            rw [ex]
          · simp only [if_neg hv]
            exact ih (h + 1) (hi + 1) c1 m1 (v + 1) σ1 τ1 (by omega) hs' (by omega) (by omega) ha' hb'
/-- all pairs -/
theorem dbO (hC0 : CR z own pn lc la od σ0 τ0) (hf : f < z.1) (h0 : clS 0 s0 cl0 wt0 mk0 σ0) (h1 : clS 1 s1 cl1 wt1 mk1 σ0) (hce : ceB τ0 (pn f) (lc f) (la f) s0 cl0 wt0 mk0 s1 cl1 wt1 mk1) (k what : Int32) : ∀ (m g gi nC nM : Nat) (v : Int32) (σ τ : PS), g + m = z.2 → syn (la f) (lc f) g gi → lc f - gi < nC → z.2 - g < nM → ag D250 σ0 σ → ag DHM τ0 τ → fdR z la f what σ0 τ0 lc (X5_findDoubt_l10 z (fun σ => X5_findDoubt_c80 z σ) nC f k v (nI gi) σ) (X10_doubt_l31 (fun σ => X10_doubt_c170 σ) nM (nI f) k what v (nI g) τ) ∨ ∃ σ' τ', X5_findDoubt_l10 z (fun σ => X5_findDoubt_c80 z σ) nC f k v (nI gi) σ = some (0, σ') ∧ X10_doubt_l31 (fun σ => X10_doubt_c170 σ) nM (nI f) k what v (nI g) τ = some (1099511627776, τ') ∧ ag D250 σ0 σ' ∧ ag DHM τ0 τ' := by
  have hfu := fuel_ge
  intro m
  induction m with
  | zero =>
    intro g gi nC nM v σ τ hm hs hnC hnM ha hb
    obtain ⟨hB, hO, hQ, hF, hH, hLL⟩ := CR_ag hC0 ha hb (fun k n i q => by unfold D250; omega) (fun k n i q => by unfold DHM; omega)
    have hL := hLL f hf
    have h8 := hL.1.1
    have h40 := hH.1
    have ehi : gi = lc f := by
      rcases Nat.lt_or_ge gi (lc f) with q | q
      · have := hs.2.2 gi (Nat.le_refl _) q
        have := (hL.1.2.2 gi q).2
        omega
      · have := hs.1; omega
    obtain ⟨c1, rfl⟩ : ∃ c1, nC = c1 + 1 := ⟨nC - 1, by omega⟩
    obtain ⟨m1, rfl⟩ : ∃ m1, nM = m1 + 1 := ⟨nM - 1, by omega⟩
    right
    refine ⟨σ, τ, ?_, ?_, ha, hb⟩
    · rw [X5_findDoubt_l10.eq_2, hL.1.2.1, if_pos (by rw [ehi]; exact nI_le (Nat.le_refl _) (by omega))]; rfl
    · rw [X10_doubt_l31.eq_2, hH.2.2.1, if_pos (by rw [show g = z.2 by omega]; exact nI_le (Nat.le_refl _) (by omega))]; rfl
  | succ m ih =>
    intro g gi nC nM v σ τ hm hs hnC hnM ha hb
    have hC := CR_ag hC0 ha hb (fun k n i q => by unfold D250; omega) (fun k n i q => by unfold DHM; omega)
    have hC' := CR_ag hC0 ha (ag_r (D := fun _ _ _ => False) τ0) (fun k n i q => by unfold D250; omega) (fun k n i q => id)
    obtain ⟨hB, hO, hQ, hF, hH, hLL⟩ := id hC
    have hL := hLL f hf
    have h8 := hL.1.1
    have h40 := hH.1
    have hN : ∀ i, i < lc f → la f i < z.2 := fun i hi => (hL.1.2.2 i hi).2
    have hlt : g < z.2 := by omega
    have eld : ∀ x, ldP own τ f x = ldP own τ0 f x := fun x => ldP_ag hb (fun k n i q => by unfold DHM; omega) f x
    have epl : ∀ x, plP τ x = plP τ0 x := fun x => plP_ag hb (fun k n i q => by unfold DHM; omega) x
    obtain ⟨m1, rfl⟩ : ∃ m1, nM = m1 + 1 := ⟨nM - 1, by omega⟩
    rw [X10_doubt_l31.eq_2, hH.2.2.1, if_neg (nI_ge hlt (by omega)), nm_b, nI_s]
    by_cases hld : ldP own τ f g = true
    · obtain ⟨x, hx, ex⟩ := (hL.2.2.1 g hlt).mp hld
      obtain ⟨rfl, hs'⟩ := syn_laid hL.2.1 hs hx ex
      obtain ⟨c1, rfl⟩ : ∃ c1, nC = c1 + 1 := ⟨nC - 1, by omega⟩
      rw [X5_findDoubt_l10.eq_2, hL.1.2.1, if_neg (nI_ge hx (by omega)), nm_b, nI_s]
      rcases hpl : plP τ0 (la f gi) with _ | _
      · have e1 := psM hC hf hlt (show (ldP own τ f g && plP τ g) = false by rw [epl, ← ex, hpl]; simp) k what v (fun v1 v2 v3 v4 v5 σ => X10_doubt_c164 (X10_doubt_l31 (fun σ => X10_doubt_c170 σ) m1) (fun σ => X10_doubt_c170 σ) v1 v2 v3 v4 v5 σ) fuel (g + 1) (by omega) (by omega)
        have e2 := psC hC' hf hx hpl (clS_ag h0 ha (fun k m i q => by unfold D250; omega)) (clS_ag h1 ha (fun k m i q => by unfold D250; omega)) hce k v (fun v1 v2 v3 v4 σ => X5_findDoubt_c74 z (X5_findDoubt_l10 z (fun σ => X5_findDoubt_c80 z σ) c1) (fun σ => X5_findDoubt_c80 z σ) v1 v2 v3 v4 σ) fuel (gi + 1) (by omega) (by omega)
        rw [e1, e2]
        unfold X10_doubt_c164 X5_findDoubt_c74
        rw [nI_s, nI_s]
        exact ih (g + 1) (gi + 1) c1 m1 v σ τ (by omega) hs' (by omega) (by omega) ha hb
      · rcases dbI hC0 hf h0 h1 hce hx hpl k what (fun v1 v2 v3 v4 σ => X5_findDoubt_c74 z (X5_findDoubt_l10 z (fun σ => X5_findDoubt_c80 z σ) c1) (fun σ => X5_findDoubt_c80 z σ) v1 v2 v3 v4 σ) (fun v1 v2 v3 v4 v5 σ => X10_doubt_c164 (X10_doubt_l31 (fun σ => X10_doubt_c170 σ) m1) (fun σ => X10_doubt_c170 σ) v1 v2 v3 v4 v5 σ) m (g + 1) (gi + 1) fuel fuel v σ τ (by omega) hs' (by omega) (by omega) ha hb with q | ⟨v', σ', τ', q1, q2, q3, q4⟩
        · rw [ex] at q; exact Or.inl q
        · rw [ex] at q2
          rw [q1, q2]
          unfold X10_doubt_c164 X5_findDoubt_c74
          rw [nI_s, nI_s]
          exact ih (g + 1) (gi + 1) c1 m1 v' σ' τ' (by omega) hs' (by omega) (by omega) q3 q4
    · have e1 := psM hC hf hlt (show (ldP own τ f g && plP τ g) = false by rcases q : ldP own τ f g with _ | _; rfl; exact absurd q hld) k what v (fun v1 v2 v3 v4 v5 σ => X10_doubt_c164 (X10_doubt_l31 (fun σ => X10_doubt_c170 σ) m1) (fun σ => X10_doubt_c170 σ) v1 v2 v3 v4 v5 σ) fuel (g + 1) (by omega) (by omega)
      rw [e1]
      unfold X10_doubt_c164
      rw [nI_s]
      exact ih (g + 1) gi nC m1 v σ τ (by omega) (syn_skip hs (fun x hx e => hld ((hL.2.2.1 g hlt).mpr ⟨x, hx, e⟩))) (by omega) (by omega) ha hb
end DBT
theorem s_doubt {z : Nat × Nat} {σ τ : PS} {own pn : Nat → Nat} {lc : Nat → Nat} {la od : Nat → Nat → Nat} (hC : z.1 = 0 ∨ CR z own pn lc la od σ τ) (hF : rF z pn σ τ) (hT : rT σ τ) (x1 x2 x3 : Int32) : ∃ r σ' τ', X9_doubt z x1 x2 x3 σ = some (r, σ') ∧ X10_doubt x1 x2 x3 τ = some (r, τ') ∧ ag DHC σ σ' ∧ ag DHM τ τ' := by
  have hfu := fuel_ge
  unfold X9_doubt X10_doubt
  rcases fnAt hF x1 with ⟨e1, e2⟩ | ⟨f, hf, rfl, e1, e2⟩
  · exact ⟨1099511627776, σ, τ, by rw [e1]; rfl, by rw [e2]; rfl, ag_r _, ag_r _⟩
  · have hC := hC.elim (fun q => by omega) id
    rw [e1, e2]
    simp only [Option.bind_some, if_neg (show ¬ (1 : Int32) = 0 by decide), oc_s' hf]
    by_cases k0 : x2 < 0
    · exact ⟨_, σ, τ, by rw [if_pos k0], by rw [if_pos k0], ag_r _, ag_r _⟩
    · rw [if_neg k0, if_neg k0]
      rcases cases_nI x3 (n := 6) (by omega) with k | ⟨k, k2⟩ | ⟨q, hq, rfl⟩
      · exact ⟨_, σ, τ, by rw [if_pos k], by rw [if_pos k], ag_r _, ag_r _⟩
      · have k3 : (6 : Int32) ≤ x3 := k2
        have k4 : (5 : Int32) < x3 := Int32.lt_of_lt_of_le (by decide) k3
        exact ⟨_, σ, τ, by rw [if_neg k, if_pos k4], by rw [if_neg k, if_neg (Int32.not_le.mpr k4)], ag_r _, ag_r _⟩
      · have n1 : ¬ nI q < 0 := nI_pos (by omega)
        have n2 : ¬ (5 : Int32) < nI q := nI_nlt (a := 5) (by omega) (by omega)
        rw [if_neg n1, if_neg n2, if_neg n1, if_pos (Int32.not_lt.mp n2)]
        obtain ⟨s0, cl0, wt0, mk0, s1, cl1, wt1, mk1, σ1, c1, c2, c3, c4, c5, c6⟩ := fillB hC hT hf
        have hC1 := CR_ag hC c6 (ag_r (D := fun _ _ _ => False) τ) (fun k n i q => by unfold DHC; omega) (fun k n i q => id)
        have h40 := hC1.2.2.2.2.1.1
        have hL := hC1.2.2.2.2.2 f hf
        have h8 := hL.1.1
        have eC : X5_findDoubt z f x2 σ = X5_findDoubt_l10 z (fun σ => X5_findDoubt_c80 z σ) fuel f x2 0 (nI 0) σ1 := by
          unfold X5_findDoubt
          rw [c1]; rfl
        have hdb := dbO hC1 hf c2 c3 ⟨c4, c5⟩ x2 (nI q) z.2 0 0 fuel fuel 0 σ1 τ (by omega) ⟨by omega, fun j hj => by omega, fun j _ _ => by omega⟩ (by omega) (by omega) (ag_r _) (ag_r _)
        rw [eC]
        rw [show nI 0 = (0 : Int32) from rfl] at hdb ⊢
        rcases hdb with ⟨g, h, σ', τ', hg, hh, u1, u2, u3, u4, u5⟩ | ⟨σ', τ', u1, u2, u3, u4⟩
        · rw [u1, u5]
          simp only [bp_s, if_neg (show ¬ (1 : Int32) = 0 by decide)]
          have a250 : ag D250 σ1 (sI (sI σ' 250 0 4 (nI g)) 250 0 5 (nI h)) := ag_t u2 (ag_t (ag_sI rfl) (ag_sI rfl))
          have hC2 := CR_ag hC1 a250 (ag_r (D := fun _ _ _ => False) τ) (fun k n i q => by unfold D250; omega) (fun k n i q => id)
          have hL2 := hC2.2.2.2.2.2 f hf
          have hH2 := hC2.2.2.2.2.1
          have g4 : gI (sI (sI σ' 250 0 4 (nI g)) 250 0 5 (nI h)) 250 0 4 = nI g := by simp [gI_sI]
          have g5 : gI (sI (sI σ' 250 0 4 (nI g)) 250 0 5 (nI h)) 250 0 5 = nI h := by simp [gI_sI]
          have ept : ∀ x, X5_partOfTuple z x (sI (sI σ' 250 0 4 (nI g)) 250 0 5 (nI h)) = X5_partOfTuple z x σ' := fun x => by
            unfold X5_partOfTuple
            simp [gI_sI]
          have agf : ag DHC σ (sI (sI σ' 250 0 4 (nI g)) 250 0 5 (nI h)) := ag_t c6 (ag_m a250 (fun k n i q => by unfold D250 at q; unfold DHC; omega))
          rw [g4, g5, (numAt hH2 hL2.1 hg).2, (numAt hH2 hL2.1 hh).2]
          simp only [ept]
          rcases (show q = 0 ∨ q = 1 ∨ (2 ≤ q) by omega) with rfl | rfl | hq2
          · exact ⟨_, _, τ', rfl, rfl, agf, u3⟩
          · exact ⟨_, _, τ', rfl, rfl, agf, u3⟩
          · have nq0 : ¬ nI q = (0 : Int32) := nI_ne0 (by omega) (by omega)
            have nq1 : ¬ nI q = (1 : Int32) := fun r => by have := (nI_eq (a := q) (b := 1) (by omega) (by omega)).mp r; omega
            have eq2 : nI q - 2 = nI (q - 2) := by rw [show (2 : Int32) = nI 2 from rfl, pk_sub hq2]
            obtain ⟨v, v1, v2⟩ := u4 (q - 2) (by omega)
            rw [if_neg nq0, if_neg nq1, if_neg nq0, if_neg nq1, eq2, v1, ib_nI (by omega), gd_d (by omega), ix_nI (by omega), v2]
            exact ⟨v.toInt64, _, τ', rfl, rfl, agf, u3⟩
        · rw [u1, u2]
          simp only [bp_s, if_true]
          exact ⟨_, σ', τ', rfl, rfl, ag_t c6 (ag_m u3 (fun k n i q => by unfold D250 at q; unfold DHC; omega)), u4⟩

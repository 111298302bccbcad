/-! ===== the class's cells ===== -/
def stO (n ct : Nat) (s : Nat → Int32) (σ : PS) : Prop := ct ≤ 17 ∧ gI σ 0 n 6 = nI ct ∧ (∀ j, j < ct → gI σ 5 n j = s j) ∧ ∀ i j, i < j → j < ct → s i < s j
def D5 (n : Nat) : Nat → Nat → Nat → Prop := fun k m i => m = n ∧ (k = 5 ∨ k = 0 ∧ i = 6)
theorem ast_at (z : Nat × Nat) {n ct : Nat} {s : Nat → Int32} {σ : PS} (h : stO n ct s σ) (w : Int32) (kx : Int32 → Int32 → PS → Option PS) : ∀ (m a : Nat), a ≤ ct → a < m → (∀ j, a ≤ j → j < ct → w < s j) → ∃ a', a' ≤ ct ∧ X0_addStart_l5 z n kx m w (nI a) σ = kx w (nI a') σ ∧ (∀ j, a' ≤ j → j < ct → w < s j) ∧ (0 < a' → s (a' - 1) ≤ w) := by
  obtain ⟨h1, h2, h3, h4⟩ := h
  intro m
  induction m with
  | zero => intro a ha hm; omega
  | succ m ih =>
    intro a ha hm hx
    rw [X0_addStart_l5.eq_2]
    cases a with
    | zero =>
      rw [if_pos (show nI 0 ≤ 0 by decide)]
      exact ⟨0, by omega, rfl, hx, fun q => by omega⟩
    | succ a =>
      rw [if_neg (nI_nle (by omega) (by omega)), nI_pred, ib_nI (by omega), gd_d (by omega), ix_nI (by omega), h3 a (by omega), pk_m1]
      by_cases k : s a ≤ w
      · rw [if_pos k]
        exact ⟨a + 1, ha, rfl, hx, fun _ => k⟩
      · rw [if_neg k]
        refine ih a (by omega) (by omega) (fun j a1 a2 => ?_)
        rcases Nat.lt_or_ge a j with q | q
        · exact hx j (by omega) a2
        · have : j = a := by omega
          subst this; exact Int32.not_le.mp k
theorem ast_sh (z : Nat × Nat) {n ct at' : Nat} {s : Nat → Int32} {σ0 : PS} (hct : ct < 17) (w : Int32) (kx : Int32 → Int32 → PS → Option PS) (hat : at' ≤ ct) : ∀ (m i : Nat) (σ : PS), at' ≤ i → i ≤ ct → i - at' < m → ag (D5 n) σ0 σ → gI σ 0 n 6 = gI σ0 0 n 6 → (∀ j, j < i → gI σ 5 n j = s j) → (∀ j, i < j → j ≤ ct → gI σ 5 n j = s (j - 1)) → ∃ σ', X0_addStart_l58 z n kx m w (nI at') (nI i) σ = kx w (nI at') σ' ∧ ag (D5 n) σ0 σ' ∧ gI σ' 0 n 6 = gI σ0 0 n 6 ∧ (∀ j, j < at' → gI σ' 5 n j = s j) ∧ ∀ j, at' < j → j ≤ ct → gI σ' 5 n j = s (j - 1) := by
  intro m
  induction m with
  | zero => intro i σ h1 h2 hm; omega
  | succ m ih =>
    intro i σ h1 h2 hm ha h6 h3 h4
    rw [X0_addStart_l58.eq_2]
    by_cases he : i = at'
    · subst he
      rw [if_pos (nI_le (Nat.le_refl _) (by omega))]
      exact ⟨σ, rfl, ha, h6, h3, h4⟩
    · obtain ⟨i', rfl⟩ : ∃ i', i = i' + 1 := ⟨i - 1, by omega⟩
      rw [if_neg (nI_ge (by omega) (by omega)), nI_pred, ib_nI (by omega), gd_d (by omega), ib_nI (by omega), gd_d (by omega), nm_b, ix_nI (by omega), ix_nI (by omega), pk_m1, h3 i' (by omega)]
      refine ih i' _ (by omega) (by omega) (by omega) (ag_t ha (ag_sI (by unfold D5; omega))) (by rw [gI_k (by decide)]; exact h6) (fun j hj => ?_) (fun j a1 a2 => ?_)
      · rw [gI_sI, if_neg (by omega)]; exact h3 j (by omega)
      · rw [gI_sI]
        by_cases q : j = i' + 1
        · subst q; rw [if_pos ⟨rfl, rfl, rfl⟩]; rfl
        · rw [if_neg (fun r => q r.2.2)]; exact h4 j (by omega) a2
theorem astC (z : Nat × Nat) {n ct : Nat} {s : Nat → Int32} {σ : PS} (h : stO n ct s σ) (hct : ct < 17) (w : Int32) : ∃ ct' s' σ', X0_addStart z n w σ = some σ' ∧ stO n ct' s' σ' ∧ ct' ≤ ct + 1 ∧ (∀ j, j < ct → ∃ j', j' < ct' ∧ s' j' = s j) ∧ (∃ j', j' < ct' ∧ s' j' = w) ∧ ag (D5 n) σ σ' := by
  have hfu := fuel_ge
  obtain ⟨h1, h2, h3, h4⟩ := id h
  obtain ⟨a, a1, a2, a3, a4⟩ := ast_at z h w (fun v1 v2 σ => X0_addStart_c27 z n v1 v2 σ) fuel ct (Nat.le_refl _) (by omega) (fun j p q => by omega)
  have e0 : X0_addStart z n w σ = X0_addStart_c27 z n w (nI a) σ := by
    unfold X0_addStart
    rw [nm_b, h2, a2]
  have ins : (0 < a → s (a - 1) < w) → ∃ ct' s' σ', X0_addStart_c43 z n w (nI a) σ = some σ' ∧ stO n ct' s' σ' ∧ ct' ≤ ct + 1 ∧ (∀ j, j < ct → ∃ j', j' < ct' ∧ s' j' = s j) ∧ (∃ j', j' < ct' ∧ s' j' = w) ∧ ag (D5 n) σ σ' := fun hlt => by
    unfold X0_addStart_c43
    rw [h2, if_pos (show nI ct < (17 : Int32) from nI_lt (b := 17) hct (by omega)), nm_b]
    obtain ⟨σ1, b1, b2, b6, b3, b4⟩ := ast_sh z (n := n) (s := s) hct w (fun v1 v2 σ => X0_addStart_c83 z n v1 v2 σ) a1 fuel ct σ a1 (Nat.le_refl _) (by omega) (ag_r _) rfl h3 (fun j p q => by omega)
    rw [b1]
    unfold X0_addStart_c83
    rw [ib_nI (by omega), gd_d (by omega), nm_b, ix_nI (by omega), nm_b, gI_k (by decide), b6, h2, nI_s]
    refine ⟨ct + 1, (fun j => if j < a then s j else if j = a then w else s (j - 1)), _, rfl, ⟨by omega, by simp [gI_sI], fun j hj => ?_, fun i j hij hj => ?_⟩, Nat.le_refl _, fun j hj => ?_, ⟨a, by omega, by dsimp only; rw [if_neg (by omega), if_pos rfl]⟩, ag_t (ag_t b2 (ag_sI (by unfold D5; omega))) (ag_sI (by unfold D5; omega))⟩
    · dsimp only
      rw [gI_k (by decide), gI_sI]
      by_cases q : j = a
      · rw [if_pos ⟨rfl, rfl, q⟩, if_neg (by omega), if_pos q]
      · rw [if_neg (fun r => q r.2.2)]
        by_cases q2 : j < a
        · rw [if_pos q2]; exact b3 j q2
        · rw [if_neg q2, if_neg q]; exact b4 j (by omega) (by omega)
    · dsimp only
      by_cases q1 : j < a
      · rw [if_pos q1, if_pos (by omega)]; exact h4 i j hij (by omega)
      · rw [if_neg q1]
        by_cases q2 : j = a
        · rw [if_pos q2, if_pos (by omega)]
          have hw := hlt (by omega)
          rcases Nat.lt_or_ge i (a - 1) with q | q
          · exact Int32.lt_trans (h4 i (a - 1) q (by omega)) hw
          · have : i = a - 1 := by omega
            rw [this]; exact hw
        · rw [if_neg q2]
          have hj1 := a3 (j - 1) (by omega) (by omega)
          by_cases q3 : i < a
          · rw [if_pos q3]
            rcases Nat.lt_or_ge i (j - 1) with q | q
            · exact h4 i (j - 1) q (by omega)
            · omega
          · rw [if_neg q3]
            by_cases q4 : i = a
            · rw [if_pos q4]; exact hj1
            · rw [if_neg q4]; exact h4 (i - 1) (j - 1) (by omega) (by omega)
    · by_cases q : j < a
      · exact ⟨j, by omega, by dsimp only; rw [if_pos q]⟩
      · exact ⟨j + 1, by omega, by dsimp only; rw [if_neg (by omega), if_neg (by omega), show j + 1 - 1 = j by omega]⟩
  rw [e0]
  unfold X0_addStart_c27
  by_cases hz : a = 0
  · subst hz
    rw [if_pos (show nI 0 ≤ 0 by decide)]
    exact ins (fun q => by omega)
  · obtain ⟨b, rfl⟩ : ∃ b, a = b + 1 := ⟨a - 1, by omega⟩
    rw [if_neg (nI_nle (by omega) (by omega)), nI_pred, ib_nI (by omega), gd_d (by omega), ix_nI (by omega), h3 b (by omega)]
    have hle := a4 (by omega)
    rw [show b + 1 - 1 = b by omega] at hle
    by_cases q : s b = w
    · rw [if_pos q]
      exact ⟨ct, s, σ, rfl, h, by omega, fun j hj => ⟨j, hj, rfl⟩, ⟨b, by omega, q⟩, ag_r _⟩
    · rw [if_neg q]
      refine ins (fun _ => ?_)
      rw [show b + 1 - 1 = b by omega]
      exact Int32.lt_iff_le_and_ne.mpr ⟨hle, q⟩
/-- the weights at which others may take -/
def DCn (n : Nat) : Nat → Nat → Nat → Prop := fun k m _ => m = n ∧ (k = 0 ∨ k = 1 ∨ k = 2 ∨ k = 3 ∨ k = 5 ∨ k = 6)
theorem fstC {z : Nat × Nat} {σ0 τ : PS} {own pn : Nat → Nat} {lc : Nat → Nat} {la od : Nat → Nat → Nat} (hC : CR z own pn lc la od σ0 τ) {f i n : Nat} (hf : f < z.1) (hi : i < pn f) : ∃ ct s σ', X0_findStarts z n f (nI i) σ0 = some σ' ∧ stO n ct s σ' ∧ (∃ j, j < ct ∧ s j = -2147483648) ∧ (∀ a, a < lc f → plP τ (la f a) = true → (∃ j, j < ct ∧ s j = lwP τ (la f a) i) ∧ (hgP τ (la f a) i < 2147483647 → ∃ j, j < ct ∧ s j = hgP τ (la f a) i + 1)) ∧ (∀ j, j < ct → gI σ' 6 n j = mkS (lc f) (fun a => twP τ (la f a) i (s j))) ∧ gI σ' 0 n 3 = gI σ0 0 n 3 ∧ ag (DCn n) σ0 σ' := by
  have hfu := fuel_ge
  obtain ⟨-, -, ⟨-, p2⟩, -⟩ := hC.2.2.2.1.2.2.2 f hf
  have hlc := (hC.2.2.2.2.2 f hf).1.1
  -- the takers of each start
  have tk : ∀ (m j ct : Nat) (s : Nat → Int32) (σ : PS), ct - j < m → j ≤ ct → stO n ct s σ → gI σ 0 n 3 = gI σ0 0 n 3 → ag (DCn n) σ0 σ → (∀ x, x < j → gI σ 6 n x = mkS (lc f) (fun a => twP τ (la f a) i (s x))) → ∃ σ', X0_findStarts_l85 z n (fun σ => X0_findStarts_c116 z n σ) m f (nI i) (nI j) σ = some σ' ∧ stO n ct s σ' ∧ (∀ j, j < ct → gI σ' 6 n j = mkS (lc f) (fun a => twP τ (la f a) i (s j))) ∧ gI σ' 0 n 3 = gI σ0 0 n 3 ∧ ag (DCn n) σ0 σ' := by
    intro m
    induction m with
    | zero => intro j ct s σ hm; omega
    | succ m ih =>
      intro j ct s σ hm hj hst h03 ha hx
      obtain ⟨h1, h2, h3, h4⟩ := id hst
      obtain ⟨hB, hO, hQ, hF, hH, hLL⟩ := CR_ag hC ha (ag_r (D := fun _ _ _ => False) τ) (fun k n i q => by unfold DCn; omega) (fun k n i q => id)
      have hL := hLL f hf
      have hown : ∀ a, a < lc f → own (la f a) = f := fun a ha' => ld_own ((hL.2.2.1 _ (hL.1.2.2 a ha').2).mpr ⟨a, ha', rfl⟩)
      have hh : ∀ a, a < lc f → rHp (pn f) σ τ (la f a) := fun a ha' => by
        have := (hH.2.2.2 _ (hL.1.2.2 a ha').2).2.2
        rwa [hown a ha'] at this
      rw [X0_findStarts_l85.eq_2, h2]
      by_cases he : j = ct
      · rw [if_pos (by rw [he]; exact nI_le (Nat.le_refl _) (by omega))]
        exact ⟨σ, rfl, hst, fun x hx' => hx x (by omega), h03, ha⟩
      · have hlt : j < ct := by omega
        rw [if_neg (nI_ge hlt (by omega)), ib_nI (by omega), gd_d (by omega), ix_nI (by omega), h3 j hlt, tkW z hL.1 hh hi p2]
        simp only [Option.bind_some, gd_d (show j < 17 by omega), nm_b, nI_s]
        refine ih (j + 1) ct s _ (by omega) (by omega) ⟨h1, by rw [gI_k (by decide), h2], fun x hx' => by rw [gI_k (by decide), h3 x hx'], h4⟩ (by rw [gI_k (by decide)]; exact h03) (ag_t ha (ag_sI (by unfold DCn; omega))) (fun x hx' => ?_)
        rw [gI_sI]
        by_cases q : x = j
        · subst q; rw [if_pos ⟨rfl, rfl, rfl⟩]
        · rw [if_neg (fun r => q r.2.2)]; exact hx x (by omega)
  -- the starts themselves
  have key : ∀ (m x ct : Nat) (s : Nat → Int32) (σ : PS), lc f - x < m → x ≤ lc f → ct ≤ 1 + 2 * x → stO n ct s σ → gI σ 0 n 3 = gI σ0 0 n 3 → ag (DCn n) σ0 σ → (∃ j, j < ct ∧ s j = -2147483648) → (∀ a, a < x → plP τ (la f a) = true → (∃ j, j < ct ∧ s j = lwP τ (la f a) i) ∧ (hgP τ (la f a) i < 2147483647 → ∃ j, j < ct ∧ s j = hgP τ (la f a) i + 1)) → ∃ ct s σ', X0_findStarts_l13 z n (fun v1 v2 σ => X0_findStarts_c83 z n v1 v2 σ) m f (nI i) (nI x) σ = some σ' ∧ stO n ct s σ' ∧ (∃ j, j < ct ∧ s j = -2147483648) ∧ (∀ a, a < lc f → plP τ (la f a) = true → (∃ j, j < ct ∧ s j = lwP τ (la f a) i) ∧ (hgP τ (la f a) i < 2147483647 → ∃ j, j < ct ∧ s j = hgP τ (la f a) i + 1)) ∧ (∀ j, j < ct → gI σ' 6 n j = mkS (lc f) (fun a => twP τ (la f a) i (s j))) ∧ gI σ' 0 n 3 = gI σ0 0 n 3 ∧ ag (DCn n) σ0 σ' := by
    intro m
    induction m with
    | zero => intro x ct s σ hm; omega
    | succ m ih =>
      intro x ct s σ hm hx hct hst h03 ha hmin hpl
      obtain ⟨hB, hO, hQ, hF, hH, hLL⟩ := CR_ag hC ha (ag_r (D := fun _ _ _ => False) τ) (fun k n i q => by unfold DCn; omega) (fun k n i q => id)
      have hL := hLL f hf
      rw [X0_findStarts_l13.eq_2, hL.1.2.1]
      by_cases he : x = lc f
      · rw [if_pos (by rw [he]; exact nI_le (Nat.le_refl _) (by omega))]
        unfold X0_findStarts_c83
        have h17 := hst.1
        obtain ⟨σ', r1, r2, r3, r4, r5⟩ := tk fuel 0 ct s σ (by omega) (by omega) hst h03 ha (fun y hy => by omega)
        exact ⟨ct, s, σ', r1, r2, hmin, fun a ha' => hpl a (by omega), r3, r4, r5⟩
      · have hlt : x < lc f := by omega
        have hlo := (hL.1.2.2 x hlt).2
        have hown : own (la f x) = f := ld_own ((hL.2.2.1 _ hlo).mpr ⟨x, hlt, rfl⟩)
        obtain ⟨-, bo, bp'⟩ := hH.2.2.2 _ hlo
        rw [hown] at bp'
        obtain ⟨⟨-, b2, b3⟩, b4⟩ := bp'
        obtain ⟨-, -, c2, c3⟩ := b4 i hi
        change gI σ 107 (la f x) i = lwP τ (la f x) i at c2
        change gI σ 108 (la f x) i = hgP τ (la f x) i at c3
        rw [if_neg (nI_ge hlt (by omega)), (numAt hH hL.1 hlt).1]
        simp only [Option.bind_some, oc_s' hlo, bo.2.2.2.2.1, ib_nI (show i < 2 ^ 31 by omega), b2, gd_d hi, ix_nI (show i < 2 ^ 31 by omega), c2, nI_s]
        by_cases k1 : gI τ 519 0 (la f x) = 0
        · rw [if_pos k1]
          obtain ⟨ct1, s1, σ1, q1, q2, q3, q4, q5, q6⟩ := astC z hst (show ct < 17 by omega) (lwP τ (la f x) i)
          have a1 : ag (DCn n) σ0 σ1 := ag_t ha (ag_m q6 (fun k n i q => by unfold D5 at q; unfold DCn; omega))
          have g1 : gI σ1 108 (la f x) i = hgP τ (la f x) i := by rw [agI q6 (by unfold D5; omega), c3]
          have g2 : gN σ1 108 (la f x) = pn f := by rw [q6.2, b3]
          have h031 : gI σ1 0 n 3 = gI σ0 0 n 3 := by rw [agI q6 (by unfold D5; omega), h03]
          rw [q1]
          simp only [Option.bind_some, ib_nI (show i < 2 ^ 31 by omega), g2, gd_d hi, ix_nI (show i < 2 ^ 31 by omega), g1]
          have old : ∀ v, (∃ j, j < ct ∧ s j = v) → ∃ j, j < ct1 ∧ s1 j = v := fun v ⟨j, hj, e⟩ => by
            obtain ⟨j', r1, r2⟩ := q4 j hj
            exact ⟨j', r1, r2.trans e⟩
          by_cases k2 : (2147483647 : Int32) ≤ hgP τ (la f x) i
          · rw [if_pos k2]
            refine ih (x + 1) ct1 s1 σ1 (by omega) (by omega) (by omega) q2 h031 a1 (old _ hmin) (fun a ha' hp => ?_)
            rcases Nat.lt_or_ge a x with q | q
            · obtain ⟨r1, r2⟩ := hpl a q hp
              exact ⟨old _ r1, fun r => old _ (r2 r)⟩
            · have : a = x := by omega
              subst this
              exact ⟨q5, fun r => absurd k2 (Int32.not_le.mpr r)⟩
          · rw [if_neg k2]
            obtain ⟨ct2, s2, σ2, t1, t2, t3, t4, t5, t6⟩ := astC z q2 (show ct1 < 17 by omega) (hgP τ (la f x) i + 1)
            have a2 : ag (DCn n) σ0 σ2 := ag_t a1 (ag_m t6 (fun k n i q => by unfold D5 at q; unfold DCn; omega))
            have h032 : gI σ2 0 n 3 = gI σ0 0 n 3 := by rw [agI t6 (by unfold D5; omega), h031]
            have old2 : ∀ v, (∃ j, j < ct1 ∧ s1 j = v) → ∃ j, j < ct2 ∧ s2 j = v := fun v ⟨j, hj, e⟩ => by
              obtain ⟨j', r1, r2⟩ := t4 j hj
              exact ⟨j', r1, r2.trans e⟩
            rw [t1]
            simp only [Option.bind_some]
            refine ih (x + 1) ct2 s2 σ2 (by omega) (by omega) (by omega) t2 h032 a2 (old2 _ (old _ hmin)) (fun a ha' hp => ?_)
            rcases Nat.lt_or_ge a x with q | q
            · obtain ⟨r1, r2⟩ := hpl a q hp
              exact ⟨old2 _ (old _ r1), fun r => old2 _ (old _ (r2 r))⟩
            · have : a = x := by omega
              subst this
              exact ⟨old2 _ q5, fun _ => t5⟩
        · rw [if_neg k1]
          refine ih (x + 1) ct s σ (by omega) (by omega) (by omega) hst h03 ha hmin (fun a ha' hp => ?_)
          rcases Nat.lt_or_ge a x with q | q
          · exact hpl a q hp
          · have : a = x := by omega
            subst this
            unfold plP at hp
            simp [k1] at hp
  unfold X0_findStarts
  rw [nm_b]
  have h0 : stO n 0 (fun _ => 0) (sI σ0 0 n 6 0) := ⟨by omega, by simp [gI_sI]; rfl, fun j hj => by omega, fun i j _ hj => by omega⟩
  obtain ⟨ct1, s1, σ1, q1, q2, q3, q4, q5, q6⟩ := astC z h0 (by omega) (-2147483648)
  rw [q1]
  simp only [Option.bind_some]
  exact key fuel 0 ct1 s1 σ1 (by omega) (by omega) (by omega) q2 (by rw [agI q6 (by unfold D5; omega), gI_sI, if_neg (by omega)]) (ag_t (ag_sI (by unfold DCn; omega)) (ag_m q6 (fun k n i q => by unfold D5 at q; unfold DCn; omega))) q5 (fun a ha => by omega)

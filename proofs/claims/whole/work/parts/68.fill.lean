/-! ===== the class's cells are filled ===== -/
def clS (n sz : Nat) (cl : Nat → Nat) (wt mk : Nat → Int32) (σ : PS) : Prop := sz ≤ 204 ∧ gI σ 0 n 3 = nI sz ∧ ∀ k, k < sz → gI σ 1 n k = nI (cl k) ∧ gI σ 2 n k = wt k ∧ gI σ 3 n k = mk k
def D1 (n : Nat) : Nat → Nat → Nat → Prop := fun k m i => m = n ∧ (k = 1 ∨ k = 2 ∨ k = 3 ∨ k = 0 ∧ i = 3)
theorem anC (z : Nat × Nat) {n sz c : Nat} {cl : Nat → Nat} {wt mk : Nat → Int32} {σ : PS} (h : clS n sz cl wt mk σ) (hsz : sz < 204) (w v : Int32) : (X0_addNew z n (nI c) w v σ = some σ ∧ ∃ k, k < sz ∧ mk k = v) ∨ ∃ σ', X0_addNew z n (nI c) w v σ = some σ' ∧ clS n (sz + 1) (fun k => if k = sz then c else cl k) (fun k => if k = sz then w else wt k) (fun k => if k = sz then v else mk k) σ' ∧ ag (D1 n) σ σ' := by
  have hfu := fuel_ge
  obtain ⟨h1, h2, h3⟩ := h
  have key : ∀ (m i : Nat), i ≤ sz → sz - i < m → (X0_addNew_l3 z n (fun v1 v2 v3 σ => X0_addNew_c30 z n v1 v2 v3 σ) m (nI c) w v (nI i) σ = some σ ∧ ∃ k, k < sz ∧ mk k = v) ∨ X0_addNew_l3 z n (fun v1 v2 v3 σ => X0_addNew_c30 z n v1 v2 v3 σ) m (nI c) w v (nI i) σ = X0_addNew_c30 z n (nI c) w v σ := by
    intro m
    induction m with
    | zero => intro i hi hm; omega
    | succ m ih =>
      intro i hi hm
      rw [X0_addNew_l3.eq_2, h2]
      by_cases he : i = sz
      · rw [if_pos (by rw [he]; exact nI_le (Nat.le_refl _) (by omega))]
        exact Or.inr rfl
      · have hlt : i < sz := by omega
        rw [if_neg (nI_ge hlt (by omega)), ib_nI (by omega), gd_d (by omega), ix_nI (by omega), (h3 i hlt).2.2, nI_s]
        by_cases k : mk i = v
        · rw [if_pos k]; exact Or.inl ⟨rfl, i, hlt, k⟩
        · rw [if_neg k]; exact ih (i + 1) (by omega) (by omega)
  rcases key fuel 0 (by omega) (by omega) with q | q
  · exact Or.inl q
  · right
    have e0 : X0_addNew z n (nI c) w v σ = X0_addNew_c30 z n (nI c) w v σ := q
    rw [e0]
    unfold X0_addNew_c30
    rw [h2, if_neg (show ¬ (204 : Int32) ≤ nI sz from nI_ge (b := 204) hsz (by omega)), ib_nI (by omega), gd_d hsz, nm_b, ix_nI (by omega)]
    simp only [gI_k (show ¬ 0 = 1 by decide), gI_k (show ¬ 0 = 2 by decide), gI_k (show ¬ 0 = 3 by decide), h2, ib_nI (show sz < 2 ^ 31 by omega), gd_d hsz, nm_b, ix_nI (show sz < 2 ^ 31 by omega), nI_s]
    refine ⟨_, rfl, ⟨by omega, by simp [gI_sI], fun k hk => ?_⟩, ag_t (ag_t (ag_t (ag_sI (by unfold D1; omega)) (ag_sI (by unfold D1; omega))) (ag_sI (by unfold D1; omega))) (ag_sI (by unfold D1; omega))⟩
    dsimp only
    by_cases q : k = sz
    · subst q; simp [gI_sI]
    · simpa [gI_sI, q] using h3 k (by omega)
/-- what the cells say of the pairs gone over so far -/
def ceI (V : Nat → Prop) (MK : Nat → Int32 → Int32) (ct : Nat) (s : Nat → Int32) (sz : Nat) (cl : Nat → Nat) (wt mk : Nat → Int32) (c j : Nat) : Prop :=
  (∀ k, k < sz → ∃ j', j' < ct ∧ V (cl k) ∧ wt k = s j' ∧ mk k = MK (cl k) (s j') ∧ (cl k < c ∨ cl k = c ∧ j' < j)) ∧
  (∀ k k', k < k' → k' < sz → lt2 (cl k) (wt k) (cl k') (wt k')) ∧
  (∀ c' j', V c' → j' < ct → (c' < c ∨ c' = c ∧ j' < j) → ∃ k, k < sz ∧ mk k = MK c' (s j') ∧ (cl k < c' ∨ cl k = c' ∧ wt k ≤ s j')) ∧ sz ≤ 17 * c + j
theorem ceI_next {V : Nat → Prop} {MK : Nat → Int32 → Int32} {ct : Nat} {s : Nat → Int32} {sz : Nat} {cl : Nat → Nat} {wt mk : Nat → Int32} {c : Nat} (hct : ct ≤ 17) (h : ceI V MK ct s sz cl wt mk c ct) : ceI V MK ct s sz cl wt mk (c + 1) 0 := by
  obtain ⟨h1, h2, h3, h4⟩ := h
  refine ⟨fun k hk => ?_, h2, fun c' j' hv hj q => ?_, by omega⟩
  · obtain ⟨j', a1, a2, a3, a4, a5⟩ := h1 k hk
    exact ⟨j', a1, a2, a3, a4, by omega⟩
  · exact h3 c' j' hv hj (by omega)
theorem ceI_skip {V : Nat → Prop} {MK : Nat → Int32 → Int32} {ct : Nat} {s : Nat → Int32} {sz : Nat} {cl : Nat → Nat} {wt mk : Nat → Int32} {c : Nat} (hV : ¬ V c) (h : ceI V MK ct s sz cl wt mk c 0) : ceI V MK ct s sz cl wt mk (c + 1) 0 := by
  obtain ⟨h1, h2, h3, h4⟩ := h
  refine ⟨fun k hk => ?_, h2, fun c' j' hv hj q => ?_, by omega⟩
  · obtain ⟨j', a1, a2, a3, a4, a5⟩ := h1 k hk
    exact ⟨j', a1, a2, a3, a4, by omega⟩
  · refine h3 c' j' hv hj ?_
    rcases q with q | q
    · rcases Nat.lt_or_ge c' c with r | r
      · exact Or.inl r
      · have : c' = c := by omega
        subst this; exact absurd hv hV
    · omega
theorem acC (z : Nat × Nat) {n c lc ct : Nat} {s : Nat → Int32} {V : Nat → Prop} {MK : Nat → Int32 → Int32} {σ0 : PS} (hV : V c) (hc : c < 12) (hst : stO n ct s σ0) (Cm : Int32) (tkv : Nat → Int32) (ht : ∀ j, j < ct → gI σ0 6 n j = tkv j) (hMK : ∀ j, j < ct → Cm &&& tkv j = MK c (s j)) : ∀ (m j sz : Nat) (cl : Nat → Nat) (wt mk : Nat → Int32) (σ : PS), ct - j < m → j ≤ ct → ag (D1 n) σ0 σ → clS n sz cl wt mk σ → ceI V MK ct s sz cl wt mk c j → ∃ sz' cl' wt' mk' σ', X0_addClass_l2 z n (fun σ => X0_addClass_c35 z n σ) m (nI c) Cm (nI j) σ = some σ' ∧ clS n sz' cl' wt' mk' σ' ∧ ceI V MK ct s sz' cl' wt' mk' c ct ∧ ag (D1 n) σ0 σ' := by
  have h17 := hst.1
  intro m
  induction m with
  | zero => intro j sz cl wt mk σ hm; omega
  | succ m ih =>
    intro j sz cl wt mk σ hm hj ha hcl hce
    rw [X0_addClass_l2.eq_2, agI ha (show ¬ D1 n 0 n 6 by unfold D1; omega), hst.2.1]
    by_cases he : j = ct
    · subst he
      rw [if_pos (nI_le (Nat.le_refl _) (by omega))]
      exact ⟨sz, cl, wt, mk, σ, rfl, hcl, hce, ha⟩
    · have hlt : j < ct := by omega
      have hsz := hce.2.2.2
      rw [if_neg (nI_ge hlt (by omega)), ib_nI (by omega), gd_d (by omega), gd_d (by omega), ix_nI (by omega), agI ha (show ¬ D1 n 5 n j by unfold D1; omega), hst.2.2.1 j hlt, agI ha (show ¬ D1 n 6 n j by unfold D1; omega), ht j hlt, hMK j hlt]
      obtain ⟨h1, h2, h3, h4⟩ := id hce
      rcases anC z (c := c) hcl (show sz < 204 by omega) (s j) (MK c (s j)) with ⟨q1, k, k1, k2⟩ | ⟨σ1, q1, q2, q3⟩
      · rw [q1]
        simp only [Option.bind_some, nI_s]
        refine ih (j + 1) sz cl wt mk σ (by omega) (by omega) ha hcl ⟨fun x hx => ?_, h2, fun c' j' hv hj' q => ?_, by omega⟩
        · obtain ⟨j', a1, a2, a3, a4, a5⟩ := h1 x hx
          exact ⟨j', a1, a2, a3, a4, by omega⟩
        · by_cases e : c' = c ∧ j' = j
          · obtain ⟨rfl, rfl⟩ := e
            refine ⟨k, k1, k2, ?_⟩
            obtain ⟨jk, a1, a2, a3, a4, a5⟩ := h1 k k1
            rcases a5 with a5 | ⟨a5, a6⟩
            · exact Or.inl a5
            · refine Or.inr ⟨a5, ?_⟩
              rw [a3]
              exact Int32.le_of_lt (hst.2.2.2 jk j' a6 hlt)
          · exact h3 c' j' hv hj' (by omega)
      · rw [q1]
        simp only [Option.bind_some, nI_s]
        refine ih (j + 1) (sz + 1) _ _ _ σ1 (by omega) (by omega) (ag_t ha q3) q2 ⟨fun x hx => ?_, fun x y hxy hy => ?_, fun c' j' hv hj' q => ?_, by omega⟩
        · dsimp only
          by_cases e : x = sz
          · rw [if_pos e, if_pos e, if_pos e]
            exact ⟨j, hlt, hV, rfl, rfl, Or.inr ⟨rfl, by omega⟩⟩
          · rw [if_neg e, if_neg e, if_neg e]
            obtain ⟨j', a1, a2, a3, a4, a5⟩ := h1 x (by omega)
            exact ⟨j', a1, a2, a3, a4, by omega⟩
        · dsimp only
          rw [if_neg (show ¬ x = sz by omega), if_neg (show ¬ x = sz by omega)]
          by_cases e : y = sz
          · rw [if_pos e, if_pos e]
            obtain ⟨j', a1, a2, a3, a4, a5⟩ := h1 x (by omega)
            rcases a5 with a5 | ⟨a5, a6⟩
            · exact Or.inl a5
            · refine Or.inr ⟨a5, ?_⟩
              rw [a3]
              exact hst.2.2.2 j' j a6 hlt
          · rw [if_neg e, if_neg e]
            exact h2 x y hxy (by omega)
        · dsimp only
          by_cases e : c' = c ∧ j' = j
          · obtain ⟨rfl, rfl⟩ := e
            exact ⟨sz, by omega, by rw [if_pos rfl], Or.inr ⟨by rw [if_pos rfl], by rw [if_pos rfl]; exact Int32.le_refl _⟩⟩
          · obtain ⟨k, k1, k2, k3⟩ := h3 c' j' hv hj' (by omega)
            exact ⟨k, by omega, by rw [if_neg (by omega)]; exact k2, by rw [if_neg (by omega), if_neg (by omega)]; exact k3⟩
/-- a cell for each set that takes: the first class and weight -/
def ceOK (V : Nat → Prop) (MK : Nat → Int32 → Int32) (sz : Nat) (cl : Nat → Nat) (wt mk : Nat → Int32) : Prop := (∀ k, k < sz → V (cl k) ∧ mk k = MK (cl k) (wt k)) ∧ (∀ k k', k < k' → k' < sz → lt2 (cl k) (wt k) (cl k') (wt k')) ∧ ∀ c w, V c → ∃ k, k < sz ∧ mk k = MK c w ∧ ¬ lt2 c w (cl k) (wt k)
/-- the start before a weight -/
theorem st_at {ct : Nat} {s : Nat → Int32} (hm : ∃ j, j < ct ∧ s j = -2147483648) (w : Int32) : ∃ j, j < ct ∧ s j ≤ w ∧ ∀ x, j < x → x < ct → w < s x ∨ ∃ y, j < y ∧ y ≤ x ∧ w < s y := by
  have key : ∀ n, n ≤ ct → (∃ j, j < n ∧ s j ≤ w) → ∃ j, j < n ∧ s j ≤ w ∧ ∀ x, j < x → x < n → w < s x := by
    intro n
    induction n with
    | zero => rintro _ ⟨j, h, -⟩; omega
    | succ n ih =>
      rintro hn ⟨j, h1, h2⟩
      by_cases q : s n ≤ w
      · exact ⟨n, by omega, q, fun x a b => by omega⟩
      · have hj : j < n := by
          rcases Nat.lt_or_ge j n with r | r
          · exact r
          · have : j = n := by omega
            subst this; exact absurd h2 q
        obtain ⟨j', a1, a2, a3⟩ := ih (by omega) ⟨j, hj, h2⟩
        refine ⟨j', by omega, a2, fun x a b => ?_⟩
        rcases Nat.lt_or_ge x n with r | r
        · exact a3 x a r
        · have : x = n := by omega
          subst this; exact Int32.not_le.mp q
  obtain ⟨j0, h1, h2⟩ := hm
  obtain ⟨j, a1, a2, a3⟩ := key ct (Nat.le_refl _) ⟨j0, h1, by rw [h2]; exact Int32.not_lt.mp (I_min w)⟩
  exact ⟨j, a1, a2, fun x b c => Or.inl (a3 x b c)⟩
/-- the set that takes at a place, not around -/
def mkP (τ : PS) (lc : Nat) (la : Nat → Nat) (i c : Nat) (w : Int32) : Int32 := mkS lc (fun a => psP τ la i c w a && plP τ (la a))
theorem mkP_st {τ : PS} {lc ct i c : Nat} {la : Nat → Nat} {s : Nat → Int32} (hinc : ∀ i j, i < j → j < ct → s i < s j) (hpl : ∀ a, a < lc → plP τ (la a) = true → (∃ j, j < ct ∧ s j = lwP τ (la a) i) ∧ (hgP τ (la a) i < 2147483647 → ∃ j, j < ct ∧ s j = hgP τ (la a) i + 1)) {j : Nat} {w : Int32} (hj : j < ct) (h1 : s j ≤ w) (h2 : ∀ x, j < x → x < ct → w < s x) : mkP τ lc la i c w = mkP τ lc la i c (s j) := by
  unfold mkP
  refine mkS_congr (fun a ha => ?_)
  rcases hp : plP τ (la a) with _ | _
  · simp
  · obtain ⟨⟨x, x1, x2⟩, hh⟩ := hpl a ha hp
    have above : ∀ y, y < ct → s j < s y → w < s y := fun y hy hl => by
      rcases Nat.lt_or_ge j y with q | q
      · exact h2 y q hy
      · exfalso
        rcases Nat.lt_or_ge y j with r | r
        · exact absurd (Int32.lt_trans hl (hinc y j r hj)) Int32.lt_irrefl
        · have : y = j := by omega
          subst this; exact Int32.lt_irrefl hl
    unfold psP twP
    have e1 : (lwP τ (la a) i ≤ w) ↔ (lwP τ (la a) i ≤ s j) := by
      constructor
      · intro q
        apply Classical.byContradiction
        intro r
        have := above x x1 (by rw [x2]; exact Int32.not_le.mp r)
        rw [x2] at this
        exact absurd q (Int32.not_le.mpr this)
      · exact fun q => Int32.le_trans q h1
    have e2 : (w ≤ hgP τ (la a) i) ↔ (s j ≤ hgP τ (la a) i) := by
      constructor
      · exact fun q => Int32.le_trans h1 q
      · intro q
        apply Classical.byContradiction
        intro r
        have hr : hgP τ (la a) i < w := Int32.not_le.mp r
        have hmx : hgP τ (la a) i < 2147483647 := by
          rw [I_lt] at hr ⊢
          rw [show (2147483647 : Int32).toInt = 2147483647 by decide]
          have := (I_rng w).2
          omega
        obtain ⟨y, y1, y2⟩ := hh hmx
        have hs : (hgP τ (la a) i + 1).toInt = (hgP τ (la a) i).toInt + 1 := by
          have r1 := I_rng (hgP τ (la a) i)
          rw [I_lt, show (2147483647 : Int32).toInt = 2147483647 by decide] at hmx
          rw [Int32.toInt_add, show (1 : Int32).toInt = 1 by decide, Int.bmod_eq_of_le (by omega) (by omega)]
        have := above y y1 (by rw [y2, I_lt, hs]; rw [I_le] at q; omega)
        rw [y2, I_lt, hs] at this
        rw [I_lt] at hr
        omega
    simp only [e1, e2]
theorem fillC {z : Nat × Nat} {σ0 τ : PS} {own pn : Nat → Nat} {lc : Nat → Nat} {la od : Nat → Nat → Nat} (hC : CR z own pn lc la od σ0 τ) (hT : rT σ0 τ) {f i n : Nat} (hf : f < z.1) (hi : i < pn f) : ∃ sz cl wt mk σ', X0_fill z n f (nI i) σ0 = some σ' ∧ clS n sz cl wt mk σ' ∧ ceOK (vcl τ) (mkP τ (lc f) (la f) i) sz cl wt mk ∧ ag (DCn n) σ0 σ' := by
  have hfu := fuel_ge
  obtain ⟨-, -, ⟨p1, p2⟩, p3, -⟩ := hC.2.2.2.1.2.2.2 f hf
  have g1 : ag (DCn n) σ0 (sI σ0 0 n 3 0) := ag_sI (by unfold DCn; omega)
  have hC1 := CR_ag hC g1 (ag_r (D := fun _ _ _ => False) τ) (fun k n i q => by unfold DCn; omega) (fun k n i q => id)
  obtain ⟨ct, s, σ1, e1, e2, e3, e4, e5, e6, e7⟩ := fstC (n := n) hC1 hf hi
  have g2 : ag (DCn n) σ0 σ1 := ag_t g1 e7
  obtain ⟨h17, -, h5, hinc⟩ := id e2
  have key : ∀ (m c sz : Nat) (cl : Nat → Nat) (wt mk : Nat → Int32) (σ : PS), 12 - c < m → c ≤ 12 → ag (D1 n) σ1 σ → clS n sz cl wt mk σ → ceI (vcl τ) (mkP τ (lc f) (la f) i) ct s sz cl wt mk c 0 → ∃ sz cl wt mk σ', X0_fill_l32 z n (fun σ => X0_fill_c71 z n σ) m f (nI i) (nI c) σ = some σ' ∧ clS n sz cl wt mk σ' ∧ ceI (vcl τ) (mkP τ (lc f) (la f) i) ct s sz cl wt mk 12 0 ∧ ag (D1 n) σ1 σ' := by
    intro m
    induction m with
    | zero => intro c sz cl wt mk σ hm; omega
    | succ m ih =>
      intro c sz cl wt mk σ hm hc ha hcl hce
      rw [X0_fill_l32.eq_2]
      by_cases he : c = 12
      · subst he
        rw [if_pos (by decide)]
        exact ⟨sz, cl, wt, mk, σ, rfl, hcl, hce, ha⟩
      · have hlt : c < 12 := by omega
        have ga : ag (DCn n) σ0 σ := ag_t g2 (ag_m ha (fun k n i q => by unfold D1 at q; unfold DCn; omega))
        obtain ⟨hB, hO, hQ, hF, hH, hLL⟩ := CR_ag hC ga (ag_r (D := fun _ _ _ => False) τ) (fun k n i q => by unfold DCn; omega) (fun k n i q => id)
        have hT' := rT_ag hT ga (ag_r (D := fun _ _ _ => False) τ) (fun k n i q => by unfold DCn; omega) (fun k n i q => id)
        have hL := hLL f hf
        have hlc := hL.1.1
        have hown : ∀ a, a < lc f → own (la f a) = f := fun a ha' => ld_own ((hL.2.2.1 _ (hL.1.2.2 a ha').2).mpr ⟨a, ha', rfl⟩)
        have hh : ∀ a, a < lc f → rHp (pn f) σ τ (la f a) := fun a ha' => by
          have := (hH.2.2.2 _ (hL.1.2.2 a ha').2).2.2
          rwa [hown a ha'] at this
        have ho : ∀ a, a < lc f → gR σ 100 (la f a) 0 = some f := fun a ha' => by
          have := (hH.2.2.2 _ (hL.1.2.2 a ha').2).1.2.2.1
          rwa [hown a ha'] at this
        rw [if_neg (show ¬ (12 : Int32) ≤ nI c from nI_ge (b := 12) hlt (by omega)), isAbs z (show c < 32 by omega)]
        simp only [Option.bind_some, nI_s]
        obtain ⟨t1, t2⟩ := hT'.2.2.2.2.1 c hlt
        by_cases hb : bt (gI σ 400 0 3) c = true
        · rw [if_pos hb, if_neg (by decide)]
          have hnv : ¬ vcl τ c := fun q => by have q2 := q.2; rw [t2.mp hb] at q2; exact absurd q2 (by decide)
          exact ih (c + 1) sz cl wt mk σ (by omega) (by omega) ha hcl (ceI_skip hnv hce)
        · rw [if_neg hb, if_pos rfl, tkC z hL.1 hh hi p2 hB ho hf (show c < 16 by omega), hL.2.2.2.1]
          simp only [Option.bind_some, mkS_and (show lc f ≤ 32 by omega)]
          have hv : vcl τ c := ⟨hlt, t1.elim id (fun q => absurd (t2.mpr q) hb)⟩
          obtain ⟨sz', cl', wt', mk', σ', r1, r2, r3, r4⟩ := acC z (n := n) (V := vcl τ) (MK := mkP τ (lc f) (la f) i) (lc := lc f) (σ0 := σ1) hv hlt e2 (mkS (lc f) (fun a => tcP τ (la f a) i c && plP τ (la f a))) (fun j => mkS (lc f) (fun a => twP τ (la f a) i (s j))) e5 (fun j hj => by
            rw [mkS_and (show lc f ≤ 32 by omega)]
            unfold mkP psP
            refine mkS_congr (fun a _ => ?_)
            rcases tcP τ (la f a) i c <;> rcases plP τ (la f a) <;> rcases twP τ (la f a) i (s j) <;> rfl) fuel 0 sz cl wt mk σ (by omega) (by omega) ha hcl hce
          have e0 : X0_addClass z n (nI c) (mkS (lc f) (fun a => tcP τ (la f a) i c && plP τ (la f a))) σ = some σ' := r1
          rw [e0]
          simp only [Option.bind_some]
          exact ih (c + 1) sz' cl' wt' mk' σ' (by omega) (by omega) r4 r2 (ceI_next h17 r3)
  obtain ⟨sz, cl, wt, mk, σ', r1, r2, r3, r4⟩ := key fuel 0 0 (fun _ => 0) (fun _ => 0) (fun _ => 0) σ1 (by omega) (by omega) (ag_r _) ⟨by omega, by rw [e6]; simp [gI_sI]; rfl, fun k hk => by omega⟩ ⟨fun k hk => by omega, fun k k' _ hk => by omega, fun c' j' _ _ q => by omega, by omega⟩
  refine ⟨sz, cl, wt, mk, σ', ?_, r2, ⟨fun k hk => ?_, r3.2.1, fun c w hv => ?_⟩, ag_t g2 (ag_m r4 (fun k n i q => by unfold D1 at q; unfold DCn; omega))⟩
  · unfold X0_fill X1_hasPlace
    rw [nm_b, gI_k (by decide), p3, if_neg (nI_pos (by omega)), if_neg (nI_ge hi (by omega))]
    simp only [Option.bind_some, if_neg (show ¬ (1 : Int32) = 0 by decide)]
    rw [e1]
    exact r1
  · obtain ⟨j', a1, a2, a3, a4, -⟩ := r3.1 k hk
    exact ⟨a2, by rw [a4, a3]⟩
  · obtain ⟨j, j1, j2, j3⟩ := st_at e3 w
    have j3' : ∀ x, j < x → x < ct → w < s x := fun x a b => by
      rcases j3 x a b with q | ⟨y, y1, y2, y3⟩
      · exact q
      · rcases Nat.lt_or_ge y x with r | r
        · exact Int32.lt_trans y3 (hinc y x r b)
        · have : y = x := by omega
          subst this; exact y3
    obtain ⟨k, k1, k2, k3⟩ := r3.2.2.1 c j hv j1 (Or.inl hv.1)
    refine ⟨k, k1, by rw [k2, mkP_st hinc e4 j1 j2 j3'], ?_⟩
    rintro (q | ⟨rfl, q⟩)
    · rcases k3 with k3 | ⟨k3, -⟩ <;> omega
    · rcases k3 with k3 | ⟨-, k3⟩
      · omega
      · exact absurd (Int32.lt_of_lt_of_le q (Int32.le_trans k3 j2)) Int32.lt_irrefl
/-- a place that isn't there: one cell -/
theorem fillO {z : Nat × Nat} {σ : PS} {f i n p : Nat} (hp : p ≤ 2) (p3 : gI σ 50 f 2 = nI p) (hi : i < 2) (hpi : p ≤ i) : ∃ σ', X0_fill z n f (nI i) σ = some σ' ∧ clS n 1 (fun _ => 0) (fun _ => 0) (fun _ => gI σ 50 f 8) σ' ∧ ag (DCn n) σ σ' := by
  have h0 : clS n 0 (fun _ => 0) (fun _ => 0) (fun _ => gI σ 50 f 8) (sI σ 0 n 3 0) := ⟨by omega, by simp [gI_sI]; rfl, fun k hk => by omega⟩
  rcases anC z (c := 0) h0 (by omega) 0 (gI σ 50 f 8) with ⟨-, k, k1, -⟩ | ⟨σ', q1, q2, q3⟩
  · omega
  · refine ⟨σ', ?_, ?_, ag_t (ag_sI (by unfold DCn; omega)) (ag_m q3 (fun k n i q => by unfold D1 at q; unfold DCn; omega))⟩
    · unfold X0_fill X1_hasPlace
      rw [nm_b, gI_k (by decide), p3, if_neg (nI_pos (by omega)), if_pos (nI_le hpi (by omega))]
      simp only [Option.bind_some, if_true, gI_k (show ¬ 50 = 0 by decide)]
      rw [show nI 0 = (0 : Int32) from rfl] at q1
      rw [q1]
      rfl
    · obtain ⟨a1, a2, a3⟩ := q2
      refine ⟨a1, a2, fun k hk => ?_⟩
      have := a3 k hk
      simpa using this

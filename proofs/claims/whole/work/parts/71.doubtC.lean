/-! ===== doubts: the class's side ===== -/
/-- two take, and none that takes is more specific than both -/
def DOU (τ : PS) (p lc : Nat) (la : Nat → Nat) (g h : Nat) (S : Nat → Bool) : Prop := S g = true ∧ S h = true ∧ ∀ k, k < lc → (S k && plP τ (la k)) = true → ¬ (moP τ p (la k) (la g) = true ∧ moP τ p (la k) (la h) = true)
theorem DOU_p {τ : PS} {p lc g h : Nat} {la : Nat → Nat} (hg : g < lc) (hh : h < lc) (pg : plP τ (la g) = true) (ph : plP τ (la h) = true) : exP τ lc la (DOU τ p lc la g h) := by
  intro S S' e ⟨h1, h2, h3⟩
  refine ⟨?_, ?_, fun k hk hs => h3 k hk (by rw [e k hk]; exact hs)⟩
  · have := e g hg
    rw [h1, pg] at this
    simpa using this.symm
  · have := e h hh
    rw [h2, ph] at this
    simpa using this.symm
theorem dlC (z : Nat × Nat) {s0 s1 : Nat} {cl0 cl1 : Nat → Nat} {wt0 wt1 mk0 mk1 : Nat → Int32} {σ : PS} (h0 : clS 0 s0 cl0 wt0 mk0 σ) (h1 : clS 1 s1 cl1 wt1 mk1 σ) (y4 y5 : Int32) {Pc : Nat → Nat → Prop} (hP : ∀ a b, a < s0 → b < s1 → (((mk0 a &&& mk1 b) &&& y4 = y4 ∧ (mk0 a &&& mk1 b) &&& y5 = 0) ↔ Pc a b)) : (X5_haveDoubt_l63 z (fun σ => X5_haveDoubt_c152 z σ) fuel y4 y5 0 σ = some (0, σ) ∧ ∀ a b, a < s0 → b < s1 → ¬ Pc a b) ∨ ∃ a b, X5_haveDoubt_l63 z (fun σ => X5_haveDoubt_c152 z σ) fuel y4 y5 0 σ = some (1, sI (sI σ 250 0 2 (nI a)) 250 0 3 (nI b)) ∧ fpC Pc s0 s1 a b := by
  have hfu := fuel_ge
  have m0 := h0.1
  have m1 := h1.1
  have inner : ∀ (kx : Int32 → Int32 → Int32 → PS → Option (Int32 × PS)) (a : Nat), a < s0 → ∀ (m b : Nat), b ≤ s1 → s1 - b < m → (∀ b', b' < b → ¬ Pc a b') → (X5_haveDoubt_l78 z kx m y4 y5 (nI a) (nI b) σ = kx y4 y5 (nI a) σ ∧ ∀ b', b' < s1 → ¬ Pc a b') ∨ ∃ b', b' < s1 ∧ Pc a b' ∧ (∀ b'', b'' < b' → ¬ Pc a b'') ∧ X5_haveDoubt_l78 z kx m y4 y5 (nI a) (nI b) σ = some (1, sI (sI σ 250 0 2 (nI a)) 250 0 3 (nI b')) := by
    intro kx a ha m
    induction m with
    | zero => intro b hb hm; omega
    | succ m ih =>
      intro b hb hm hx
      rw [X5_haveDoubt_l78.eq_2, h1.2.1]
      by_cases he : b = s1
      · rw [if_pos (by rw [he]; exact nI_le (Nat.le_refl _) (by omega))]
        exact Or.inl ⟨rfl, fun b' hb' => hx b' (by omega)⟩
      · have hlt : b < s1 := by omega
        have r2 := hP a b ha hlt
        rw [if_neg (nI_ge hlt (by omega)), ib_nI (by omega), gd_d (by omega), ib_nI (by omega), gd_d (by omega), nm_b, ix_nI (by omega), ix_nI (by omega), (h0.2.2 a ha).2.2, (h1.2.2 b hlt).2.2, nI_s]
        have next : ¬ Pc a b → (X5_haveDoubt_l78 z kx m y4 y5 (nI a) (nI (b + 1)) σ = kx y4 y5 (nI a) σ ∧ ∀ b', b' < s1 → ¬ Pc a b') ∨ ∃ b', b' < s1 ∧ Pc a b' ∧ (∀ b'', b'' < b' → ¬ Pc a b'') ∧ X5_haveDoubt_l78 z kx m y4 y5 (nI a) (nI (b + 1)) σ = some (1, sI (sI σ 250 0 2 (nI a)) 250 0 3 (nI b')) := fun hn => ih (b + 1) (by omega) (by omega) (fun b' hb' => by
          rcases Nat.lt_or_ge b' b with s | s
          · exact hx b' s
          · have : b' = b := by omega
            subst this; exact hn)
        by_cases q1 : (mk0 a &&& mk1 b) &&& y4 = y4
        · rw [if_pos q1]
          by_cases q2 : (mk0 a &&& mk1 b) &&& y5 = 0
          · rw [if_pos q2]
            exact Or.inr ⟨b, hlt, r2.mp ⟨q1, q2⟩, hx, rfl⟩
          · rw [if_neg q2]; exact next (fun t => q2 (r2.mpr t).2)
        · rw [if_neg q1]; exact next (fun t => q1 (r2.mpr t).1)
  have key : ∀ (m a : Nat), a ≤ s0 → s0 - a < m → (∀ a', a' < a → ∀ b', b' < s1 → ¬ Pc a' b') → (X5_haveDoubt_l63 z (fun σ => X5_haveDoubt_c152 z σ) m y4 y5 (nI a) σ = some (0, σ) ∧ ∀ a b, a < s0 → b < s1 → ¬ Pc a b) ∨ ∃ a' b, X5_haveDoubt_l63 z (fun σ => X5_haveDoubt_c152 z σ) m y4 y5 (nI a) σ = some (1, sI (sI σ 250 0 2 (nI a')) 250 0 3 (nI b)) ∧ fpC Pc s0 s1 a' b := by
    intro m
    induction m with
    | zero => intro a ha hm; omega
    | succ m ih =>
      intro a ha hm hx
      rw [X5_haveDoubt_l63.eq_2, h0.2.1]
      by_cases he : a = s0
      · rw [if_pos (by rw [he]; exact nI_le (Nat.le_refl _) (by omega))]
        exact Or.inl ⟨rfl, fun a' b ha' => hx a' (by omega) b⟩
      · have hlt : a < s0 := by omega
        rw [if_neg (nI_ge hlt (by omega)), show (0 : Int32) = nI 0 from rfl]
        rcases inner (fun v4 v5 v6 σ => X5_haveDoubt_c146 z (X5_haveDoubt_l63 z (fun σ => X5_haveDoubt_c152 z σ) m) (fun σ => X5_haveDoubt_c152 z σ) v4 v5 v6 σ) a hlt fuel 0 (by omega) (by omega) (fun b' hb' => by omega) with ⟨q1, q2⟩ | ⟨b', q1, q2, q3, q4⟩
        · rw [q1]
          unfold X5_haveDoubt_c146
          rw [nI_s]
          refine ih (a + 1) (by omega) (by omega) (fun a' ha' => ?_)
          rcases Nat.lt_or_ge a' a with s | s
          · exact hx a' s
          · have : a' = a := by omega
            subst this; exact q2
        · exact Or.inr ⟨a, b', q4, hlt, q1, q2, hx, q3⟩
  exact key fuel 0 (by omega) (by omega) (fun a' ha' => by omega)
/-- the pair's own part: not around, neither more specific -/
def prP (τ : PS) (p : Nat) (la : Nat → Nat) (g h : Nat) : Prop := plP τ (la g) = true ∧ plP τ (la h) = true ∧ moP τ p (la g) (la h) = false ∧ moP τ p (la h) (la g) = false
theorem b_pair {g h : Nat} (hg : g < 32) (hh : h < 32) (v : Int32) : v &&& (((1 : Int32) <<< (nI g &&& 31)) ||| ((1 : Int32) <<< (nI h &&& 31))) = (((1 : Int32) <<< (nI g &&& 31)) ||| ((1 : Int32) <<< (nI h &&& 31))) ↔ bt v g = true ∧ bt v h = true := by
  constructor
  · intro q
    have e1 := congrArg (fun x => bt x g) q
    have e2 := congrArg (fun x => bt x h) q
    simp only [b_and, b_or, b_one hg hg, b_one hh hg, b_one hg hh, b_one hh hh] at e1 e2
    simp at e1 e2
    exact ⟨e1, e2⟩
  · rintro ⟨q1, q2⟩
    apply b_ext
    intro i hi
    simp only [b_and, b_or, b_one hg hi, b_one hh hi]
    by_cases r1 : i = g
    · subst r1; simp [q1]
    · by_cases r2 : i = h
      · subst r2; simp [q2]
      · simp [r1, r2]
theorem hdC {z : Nat × Nat} {σ τ : PS} {own pn : Nat → Nat} {lc : Nat → Nat} {la od : Nat → Nat → Nat} (hC : CR z own pn lc la od σ τ) {f g h s0 s1 : Nat} {cl0 cl1 : Nat → Nat} {wt0 wt1 mk0 mk1 : Nat → Int32} (hf : f < z.1) (hg : g < lc f) (hh : h < lc f) (h0 : clS 0 s0 cl0 wt0 mk0 σ) (h1 : clS 1 s1 cl1 wt1 mk1 σ) {St : Nat → Nat → Nat → Bool} (hm : ∀ a b, a < s0 → b < s1 → mk0 a &&& mk1 b = mkS (lc f) (fun x => St a b x && plP τ (la f x))) :
    (X5_haveDoubt z f (nI g) (nI h) σ = some (0, σ) ∧ (prP τ (pn f) (la f) g h → ∀ a b, a < s0 → b < s1 → ¬ DOU τ (pn f) (lc f) (la f) g h (St a b))) ∨ ∃ a b, X5_haveDoubt z f (nI g) (nI h) σ = some (1, sI (sI σ 250 0 2 (nI a)) 250 0 3 (nI b)) ∧ prP τ (pn f) (la f) g h ∧ fpC (fun a b => DOU τ (pn f) (lc f) (la f) g h (St a b)) s0 s1 a b := by
  have hL := hC.2.2.2.2.2 f hf
  have hlc := hL.1.1
  unfold X5_haveDoubt
  rw [nm_b, hL.2.2.2.1, btnC z hlc hL.1.2.1 hL.2.2.2.2.1 hg, btnC z hlc hL.1.2.1 hL.2.2.2.2.1 hh, btsC z hlc hL.1.2.1 hL.2.2.2.2.1 hg, btsC z hlc hL.1.2.1 hL.2.2.2.2.1 hh]
  simp only [Option.bind_some, nm_b, mkS_and (show lc f ≤ 32 by omega)]
  have t1 : ∀ (P : Nat → Bool) x, x < lc f → (bt (mkS (lc f) P) x = P x) := fun P x hx => by rw [bt_mkS P (lc f) (by omega) x (by omega)]; simp [hx]
  by_cases k1 : plP τ (la f g) = true ∧ plP τ (la f h) = true
  · rw [if_pos ((b_pair (by omega) (by omega) _).mpr ⟨by rw [t1 _ g hg]; exact k1.1, by rw [t1 _ h hh]; exact k1.2⟩)]
    rcases k2 : moP τ (pn f) (la f g) (la f h) with _ | _
    · rw [if_pos ((b_test (show h < 32 by omega)).mpr (by rw [t1 _ h hh]; exact k2))]
      rcases k3 : moP τ (pn f) (la f h) (la f g) with _ | _
      · rw [if_pos ((b_test (show g < 32 by omega)).mpr (by rw [t1 _ g hg]; exact k3))]
        have hP : ∀ a b, a < s0 → b < s1 → (((mk0 a &&& mk1 b) &&& (((1 : Int32) <<< (nI g &&& 31)) ||| ((1 : Int32) <<< (nI h &&& 31))) = (((1 : Int32) <<< (nI g &&& 31)) ||| ((1 : Int32) <<< (nI h &&& 31))) ∧ (mk0 a &&& mk1 b) &&& mkS (lc f) (fun i => moP τ (pn f) (la f i) (la f g) && moP τ (pn f) (la f i) (la f h)) = 0) ↔ DOU τ (pn f) (lc f) (la f) g h (St a b)) := fun a b ha hb => by
          rw [hm a b ha hb, b_pair (by omega) (by omega), t1 _ g hg, t1 _ h hh, mkS_and (show lc f ≤ 32 by omega), mkS_0 (show lc f ≤ 32 by omega), k1.1, k1.2]
          unfold DOU
          constructor
          · rintro ⟨⟨q1, q2⟩, q3⟩
            refine ⟨by simpa using q1, by simpa using q2, fun k hk hs hb' => ?_⟩
            have := q3 k hk
            rw [hs, hb'.1, hb'.2] at this
            cases this
          · rintro ⟨q1, q2, q3⟩
            refine ⟨⟨by simpa using q1, by simpa using q2⟩, fun k hk => ?_⟩
            rcases e1 : (St a b k && plP τ (la f k)) with _ | _
            · rfl
            · rcases e2 : moP τ (pn f) (la f k) (la f g) with _ | _
              · rfl
              · rcases e3 : moP τ (pn f) (la f k) (la f h) with _ | _
                · rfl
                · exact absurd ⟨e2, e3⟩ (q3 k hk e1)
        rcases dlC z h0 h1 _ _ hP with ⟨q1, q2⟩ | ⟨a, b, q1, q2⟩
        · exact Or.inl ⟨q1, fun _ => q2⟩
        · exact Or.inr ⟨a, b, q1, ⟨k1.1, k1.2, k2, k3⟩, q2⟩
      · left
        refine ⟨?_, fun q => by rw [q.2.2.2] at k3; cases k3⟩
        rw [if_neg (fun q => by rw [b_test (show g < 32 by omega), t1 _ g hg, k3] at q; cases q)]
    · left
      refine ⟨?_, fun q => by rw [q.2.2.1] at k2; cases k2⟩
      rw [if_neg (fun q => by rw [b_test (show h < 32 by omega), t1 _ h hh, k2] at q; cases q)]
  · left
    refine ⟨?_, fun q => absurd ⟨q.1, q.2.1⟩ k1⟩
    rw [if_neg (fun q => by
      have := (b_pair (show g < 32 by omega) (show h < 32 by omega) _).mp q
      rw [t1 _ g hg, t1 _ h hh] at this
      exact k1 this)]

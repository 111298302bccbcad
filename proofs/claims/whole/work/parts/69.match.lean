/-! ===== the class's first pair of cells and the model's first tuple are one ===== -/
theorem lt2_tri (c : Nat) (w : Int32) (c' : Nat) (w' : Int32) : lt2 c w c' w' ∨ (c = c' ∧ w = w') ∨ lt2 c' w' c w := by
  rcases Nat.lt_trichotomy c c' with q | q | q
  · exact Or.inl (Or.inl q)
  · by_cases h : w < w'
    · exact Or.inl (Or.inr ⟨q, h⟩)
    · by_cases h2 : w = w'
      · exact Or.inr (Or.inl ⟨q, h2⟩)
      · exact Or.inr (Or.inr (Or.inr ⟨q.symm, Int32.lt_iff_le_and_ne.mpr ⟨Int32.not_lt.mp h, fun e => h2 e.symm⟩⟩))
  · exact Or.inr (Or.inr (Or.inl q))
theorem lt2_tr {c c' c'' : Nat} {w w' w'' : Int32} (h : ¬ lt2 c' w' c w) (h2 : lt2 c' w' c'' w'') : lt2 c w c'' w'' := by
  rcases lt2_tri c w c'' w'' with q | ⟨q1, q2⟩ | q
  · exact q
  · subst q1 q2; exact absurd h2 h
  · exfalso
    apply h
    rcases h2 with h2 | ⟨rfl, h2⟩
    · rcases q with q | ⟨rfl, q⟩
      · exact Or.inl (by omega)
      · exact Or.inl h2
    · rcases q with q | ⟨rfl, q⟩
      · exact Or.inl q
      · exact Or.inr ⟨rfl, Int32.lt_trans h2 q⟩
theorem lt2_ir {c : Nat} {w : Int32} : ¬ lt2 c w c w := by
  rintro (q | ⟨-, q⟩)
  · omega
  · exact Int32.lt_irrefl q
def exP (τ : PS) (lc : Nat) (la : Nat → Nat) (Pd : (Nat → Bool) → Prop) : Prop := ∀ S S' : Nat → Bool, (∀ x, x < lc → (S x && plP τ (la x)) = (S' x && plP τ (la x))) → Pd S → Pd S'
theorem exP_D {τ : PS} {lc : Nat} {la : Nat → Nat} {Pd : (Nat → Bool) → Prop} (h : exP τ lc la Pd) : exD lc Pd := fun S S' q => h S S' (fun x hx => by rw [q x hx])
theorem mkS_inj {n : Nat} (hn : n ≤ 32) {P Q : Nat → Bool} (h : mkS n P = mkS n Q) : ∀ x, x < n → P x = Q x := fun x hx => by
  have := congrArg (fun v => bt v x) h
  simp only [bt_mkS P n hn x (by omega), bt_mkS Q n hn x (by omega)] at this
  simpa [hx] using this
section MT
variable {τ : PS} {lc : Nat} {la : Nat → Nat} {Pd : (Nat → Bool) → Prop}
theorem q1_m (hl : lc ≤ 8) (hx : exP τ lc la Pd) {c c' : Nat} {w w' : Int32} (h : mkP τ lc la 0 c w = mkP τ lc la 0 c' w') (q : Q1 τ la Pd c w) : Q1 τ la Pd c' w' := hx _ _ (mkS_inj (by omega) h) q
theorem q2_m0 (hl : lc ≤ 8) (hx : exP τ lc la Pd) {c c' y : Nat} {w w' u : Int32} (h : mkP τ lc la 0 c w = mkP τ lc la 0 c' w') (q : Q2 τ la Pd c w y u) : Q2 τ la Pd c' w' y u := hx _ _ (fun x hx' => by
  have h9 : (psP τ la 0 c w x && plP τ (la x)) = (psP τ la 0 c' w' x && plP τ (la x)) := mkS_inj (by omega) h x hx'
  revert h9
  generalize psP τ la 0 c w x = A
  generalize psP τ la 0 c' w' x = B
  generalize psP τ la 1 y u x = C
  generalize plP τ (la x) = D
  cases A <;> cases B <;> cases C <;> cases D <;> simp) q
theorem q2_m1 (hl : lc ≤ 8) (hx : exP τ lc la Pd) {c y y' : Nat} {w u u' : Int32} (h : mkP τ lc la 1 y u = mkP τ lc la 1 y' u') (q : Q2 τ la Pd c w y u) : Q2 τ la Pd c w y' u' := hx _ _ (fun x hx' => by
  have h9 : (psP τ la 1 y u x && plP τ (la x)) = (psP τ la 1 y' u' x && plP τ (la x)) := mkS_inj (by omega) h x hx'
  revert h9
  generalize psP τ la 0 c w x = A
  generalize psP τ la 1 y u x = B
  generalize psP τ la 1 y' u' x = C
  generalize plP τ (la x) = D
  cases A <;> cases B <;> cases C <;> cases D <;> simp) q
/-- a first pair of indices -/
def fpC (Pc : Nat → Nat → Prop) (s0 s1 a b : Nat) : Prop := a < s0 ∧ b < s1 ∧ Pc a b ∧ (∀ a', a' < a → ∀ b', b' < s1 → ¬ Pc a' b') ∧ ∀ b', b' < b → ¬ Pc a b'
theorem lt2_ix {sz : Nat} {cl : Nat → Nat} {wt : Nat → Int32} (hs : ∀ k k', k < k' → k' < sz → lt2 (cl k) (wt k) (cl k') (wt k')) {k a : Nat} (hk : k < sz) (ha : a < sz) (h : lt2 (cl k) (wt k) (cl a) (wt a)) : k < a := by
  rcases Nat.lt_trichotomy k a with q | q | q
  · exact q
  · subst q; exact absurd h lt2_ir
  · exact absurd (lt2_tr (fun r => lt2_ir (lt2_tr (fun x => lt2_ir (lt2_tr (fun y => lt2_ir y) x)) r)) h) (fun r => by
      have := hs a k q hk
      rcases h with h | ⟨h1, h2⟩
      · rcases this with t | ⟨t1, t2⟩
        · omega
        · omega
      · rcases this with t | ⟨t1, t2⟩
        · omega
        · exact Int32.lt_irrefl (Int32.lt_trans h2 t2))
theorem mt2 (hl : lc ≤ 8) (hx : exP τ lc la Pd) {s0 s1 : Nat} {cl0 cl1 : Nat → Nat} {wt0 wt1 mk0 mk1 : Nat → Int32} (h0 : ceOK (vcl τ) (mkP τ lc la 0) s0 cl0 wt0 mk0) (h1 : ceOK (vcl τ) (mkP τ lc la 1) s1 cl1 wt1 mk1) {Pc : Nat → Nat → Prop} (hP : ∀ a b, a < s0 → b < s1 → (Pc a b ↔ Q2 τ la Pd (cl0 a) (wt0 a) (cl1 b) (wt1 b))) {a b c0 c1 : Nat} {w0 w1 : Int32} (hf : fpC Pc s0 s1 a b) (v0 : vcl τ c0) (v1 : vcl τ c1) (hq : Q2 τ la Pd c0 w0 c1 w1) (hi : iv2 τ la Pd c0 w0 c1 w1) : cl0 a = c0 ∧ wt0 a = w0 ∧ cl1 b = c1 ∧ wt1 b = w1 := by
  obtain ⟨fa, fb, f1, f2, f3⟩ := hf
  have q0 := (hP a b fa fb).mp f1
  obtain ⟨k0, k01, k02, k03⟩ := h0.2.2 c0 w0 v0
  obtain ⟨k1, k11, k12, k13⟩ := h1.2.2 c1 w1 v1
  have e0 : cl0 a = c0 ∧ wt0 a = w0 := by
    rcases lt2_tri (cl0 a) (wt0 a) c0 w0 with q | q | q
    · exact absurd q0 (hi.1 _ _ (h0.1 a fa).1 q _ _ (h1.1 b fb).1)
    · exact q
    · exfalso
      have hka := lt2_ix h0.2.1 k01 fa (lt2_tr k03 q)
      refine f2 k0 hka k1 k11 ((hP k0 k1 k01 k11).mpr ?_)
      refine q2_m0 hl hx (c := c0) (w := w0) ?_ (q2_m1 hl hx (y := c1) (u := w1) ?_ hq)
      · rw [← (h0.1 k0 k01).2, k02]
      · rw [← (h1.1 k1 k11).2, k12]
  obtain ⟨rfl, rfl⟩ := e0
  refine ⟨rfl, rfl, ?_⟩
  rcases lt2_tri (cl1 b) (wt1 b) c1 w1 with q | q | q
  · exact absurd q0 (hi.2 _ _ (h1.1 b fb).1 q)
  · exact q
  · exfalso
    have hkb := lt2_ix h1.2.1 k11 fb (lt2_tr k13 q)
    refine f3 k1 hkb ((hP a k1 fa k11).mpr ?_)
    refine q2_m1 hl hx (y := c1) (u := w1) ?_ hq
    rw [← (h1.1 k1 k11).2, k12]
theorem mt2_no (hl : lc ≤ 8) (hx : exP τ lc la Pd) {s0 s1 : Nat} {cl0 cl1 : Nat → Nat} {wt0 wt1 mk0 mk1 : Nat → Int32} (h0 : ceOK (vcl τ) (mkP τ lc la 0) s0 cl0 wt0 mk0) (h1 : ceOK (vcl τ) (mkP τ lc la 1) s1 cl1 wt1 mk1) {Pc : Nat → Nat → Prop} (hP : ∀ a b, a < s0 → b < s1 → (Pc a b ↔ Q2 τ la Pd (cl0 a) (wt0 a) (cl1 b) (wt1 b))) (hn : ∀ a b, a < s0 → b < s1 → ¬ Pc a b) {c0 c1 : Nat} {w0 w1 : Int32} (v0 : vcl τ c0) (v1 : vcl τ c1) : ¬ Q2 τ la Pd c0 w0 c1 w1 := by
  intro hq
  obtain ⟨k0, k01, k02, k03⟩ := h0.2.2 c0 w0 v0
  obtain ⟨k1, k11, k12, k13⟩ := h1.2.2 c1 w1 v1
  refine hn k0 k1 k01 k11 ((hP k0 k1 k01 k11).mpr ?_)
  refine q2_m0 hl hx (c := c0) (w := w0) ?_ (q2_m1 hl hx (y := c1) (u := w1) ?_ hq)
  · rw [← (h0.1 k0 k01).2, k02]
  · rw [← (h1.1 k1 k11).2, k12]
theorem mt1 (hl : lc ≤ 8) (hx : exP τ lc la Pd) {s0 : Nat} {cl0 : Nat → Nat} {wt0 mk0 : Nat → Int32} (h0 : ceOK (vcl τ) (mkP τ lc la 0) s0 cl0 wt0 mk0) {Pc : Nat → Nat → Prop} (hP : ∀ a, a < s0 → (Pc a 0 ↔ Q1 τ la Pd (cl0 a) (wt0 a))) {a b c0 : Nat} {w0 : Int32} (hf : fpC Pc s0 1 a b) (v0 : vcl τ c0) (hq : Q1 τ la Pd c0 w0) (hi : iv1 τ la Pd c0 w0) : cl0 a = c0 ∧ wt0 a = w0 := by
  obtain ⟨fa, fb, f1, f2, f3⟩ := hf
  have eb : b = 0 := by omega
  subst eb
  have q0 := (hP a fa).mp f1
  obtain ⟨k0, k01, k02, k03⟩ := h0.2.2 c0 w0 v0
  rcases lt2_tri (cl0 a) (wt0 a) c0 w0 with q | q | q
  · exact absurd q0 (hi _ _ (h0.1 a fa).1 q)
  · exact q
  · exfalso
    have hka := lt2_ix h0.2.1 k01 fa (lt2_tr k03 q)
    refine f2 k0 hka 0 (by omega) ((hP k0 k01).mpr (q1_m hl hx (c := c0) (w := w0) ?_ hq))
    rw [← (h0.1 k0 k01).2, k02]
theorem mt1_no (hl : lc ≤ 8) (hx : exP τ lc la Pd) {s0 : Nat} {cl0 : Nat → Nat} {wt0 mk0 : Nat → Int32} (h0 : ceOK (vcl τ) (mkP τ lc la 0) s0 cl0 wt0 mk0) {Pc : Nat → Nat → Prop} (hP : ∀ a, a < s0 → (Pc a 0 ↔ Q1 τ la Pd (cl0 a) (wt0 a))) (hn : ∀ a b, a < s0 → b < 1 → ¬ Pc a b) {c0 : Nat} {w0 : Int32} (v0 : vcl τ c0) : ¬ Q1 τ la Pd c0 w0 := by
  intro hq
  obtain ⟨k0, k01, k02, k03⟩ := h0.2.2 c0 w0 v0
  refine hn k0 0 k01 (by omega) ((hP k0 k01).mpr (q1_m hl hx (c := c0) (w := w0) ?_ hq))
  rw [← (h0.1 k0 k01).2, k02]
end MT
theorem HOL_p (τ : PS) (p lc : Nat) (la : Nat → Nat) : exP τ lc la (HOL τ p lc la) := by
  intro S S' h hS i hi
  refine hS i ⟨hi.1, ?_, fun j hj hs => ?_⟩
  · show (S i && plP τ (la i)) = true
    rw [h i hi.1]
    exact hi.2.1
  · refine hi.2.2 j hj ?_
    show (S' j && plP τ (la j)) = true
    rw [← h j hj]
    exact hs
/-- the class's double loop -/
theorem fhC (z : Nat × Nat) {f s0 s1 : Nat} {cl0 cl1 : Nat → Nat} {wt0 wt1 mk0 mk1 : Nat → Int32} {σ : PS} (h0 : clS 0 s0 cl0 wt0 mk0 σ) (h1 : clS 1 s1 cl1 wt1 mk1 σ) {Pc : Nat → Nat → Prop} (hP : ∀ a b, a < s0 → b < s1 → ∃ r, X1_chosenOf z f (mk0 a &&& mk1 b) σ = some r ∧ (r = -1 ↔ Pc a b)) : (X5_findHole_l7 z (fun σ => X5_findHole_c77 z σ) fuel f 0 σ = some (0, σ) ∧ ∀ a b, a < s0 → b < s1 → ¬ Pc a b) ∨ ∃ a b, X5_findHole_l7 z (fun σ => X5_findHole_c77 z σ) fuel f 0 σ = some (1, sI (sI σ 250 0 2 (nI a)) 250 0 3 (nI b)) ∧ fpC Pc s0 s1 a b := by
  have hfu := fuel_ge
  have m0 := h0.1
  have m1 := h1.1
  have inner : ∀ (kx : Nat → Int32 → PS → Option (Int32 × PS)) (a : Nat), a < s0 → ∀ (m b : Nat), b ≤ s1 → s1 - b < m → (∀ b', b' < b → ¬ Pc a b') → (X5_findHole_l20 z kx m f (nI a) (nI b) σ = kx f (nI a) σ ∧ ∀ b', b' < s1 → ¬ Pc a b') ∨ ∃ b', b' < s1 ∧ Pc a b' ∧ (∀ b'', b'' < b' → ¬ Pc a b'') ∧ X5_findHole_l20 z kx m f (nI a) (nI b) σ = some (1, sI (sI σ 250 0 2 (nI a)) 250 0 3 (nI b')) := by
    intro kx a ha m
    induction m with
    | zero => intro b hb hm; omega
    | succ m ih =>
      intro b hb hm hx
      rw [X5_findHole_l20.eq_2, h1.2.1]
      by_cases he : b = s1
      · rw [if_pos (by rw [he]; exact nI_le (Nat.le_refl _) (by omega))]
        exact Or.inl ⟨rfl, fun b' hb' => hx b' (by omega)⟩
      · have hlt : b < s1 := by omega
        obtain ⟨r, r1, r2⟩ := hP a b ha hlt
        rw [if_neg (nI_ge hlt (by omega)), ib_nI (by omega), gd_d (by omega), ib_nI (by omega), gd_d (by omega), ix_nI (by omega), ix_nI (by omega), (h0.2.2 a ha).2.2, (h1.2.2 b hlt).2.2, r1]
        simp only [Option.bind_some, nI_s]
        by_cases q : r = -1
        · rw [if_pos q]
          exact Or.inr ⟨b, hlt, r2.mp q, hx, rfl⟩
        · rw [if_neg q]
          refine ih (b + 1) (by omega) (by omega) (fun b' hb' => ?_)
          rcases Nat.lt_or_ge b' b with s | s
          · exact hx b' s
          · have : b' = b := by omega
            subst this; exact fun t => q (r2.mpr t)
  have key : ∀ (m a : Nat), a ≤ s0 → s0 - a < m → (∀ a', a' < a → ∀ b', b' < s1 → ¬ Pc a' b') → (X5_findHole_l7 z (fun σ => X5_findHole_c77 z σ) m f (nI a) σ = some (0, σ) ∧ ∀ a b, a < s0 → b < s1 → ¬ Pc a b) ∨ ∃ a' b, X5_findHole_l7 z (fun σ => X5_findHole_c77 z σ) m f (nI a) σ = some (1, sI (sI σ 250 0 2 (nI a')) 250 0 3 (nI b)) ∧ fpC Pc s0 s1 a' b := by
    intro m
    induction m with
    | zero => intro a ha hm; omega
    | succ m ih =>
      intro a ha hm hx
      rw [X5_findHole_l7.eq_2, h0.2.1]
      by_cases he : a = s0
      · rw [if_pos (by rw [he]; exact nI_le (Nat.le_refl _) (by omega))]
        exact Or.inl ⟨rfl, fun a' b ha' => hx a' (by omega) b⟩
      · have hlt : a < s0 := by omega
        rw [if_neg (nI_ge hlt (by omega)), show (0 : Int32) = nI 0 from rfl]
        rcases inner (fun v1 v2 σ => X5_findHole_c71 z (X5_findHole_l7 z (fun σ => X5_findHole_c77 z σ) m) (fun σ => X5_findHole_c77 z σ) v1 v2 σ) a hlt fuel 0 (by omega) (by omega) (fun b' hb' => by omega) with ⟨q1, q2⟩ | ⟨b', q1, q2, q3, q4⟩
        · rw [q1]
          unfold X5_findHole_c71
          rw [nI_s]
          refine ih (a + 1) (by omega) (by omega) (fun a' ha' => ?_)
          rcases Nat.lt_or_ge a' a with s | s
          · exact hx a' s
          · have : a' = a := by omega
            subst this; exact q2
        · exact Or.inr ⟨a, b', q4, hlt, q1, q2, hx, q3⟩
  exact key fuel 0 (by omega) (by omega) (fun a' ha' => by omega)

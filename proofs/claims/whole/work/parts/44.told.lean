/-! ===== the told row; the chosen one on both sides ===== -/
theorem gI_k {a k : Nat} (h : ¬ a = k) {σ : PS} {n i b c : Nat} {v : Int32} : gI (sI σ k n i v) a b c = gI σ a b c := by rw [gI_sI, if_neg (fun q => h q.1)]
def DRC : Nat → Nat → Nat → Prop := fun k _ i => k = 301 ∨ k = 302 ∨ (k = 300 ∧ i = 2)
def DRM : Nat → Nat → Nat → Prop := fun k _ _ => k = 532 ∨ k = 533
theorem tellC_l (z : Nat × Nat) {ns p f : Nat} {σ τ : PS} (hs : rS ns σ τ) (hA : rA ns σ τ) (hp : p ≤ 2) (hpl : gI σ 50 f 2 = nI p) (kx : Nat → PS → Option (Int32 × PS)) (c : Nat → Nat) (w : Nat → Int32) (hc : ∀ i, i < 2 → ∀ s, s < ns → gI τ 525 0 i = nI s → c i < 12 ∧ gI σ 351 0 s = nI (c i) ∧ gI σ 352 0 s = w i) : ∀ (n i : Nat) (σi : PS), i ≤ p → p - i < n → ag DRC σ σi → rWC i c w σi → (∃ σ', X9_readToldRow_l2 z kx n f (nI i) σi = some (0, σ') ∧ ag DRC σ σ' ∧ ∃ j, i ≤ j ∧ j < p ∧ gI τ 525 0 j = -1) ∨ (∃ σ', X9_readToldRow_l2 z kx n f (nI i) σi = kx f σ' ∧ ag DRC σ σ' ∧ rWC p c w σ' ∧ ∀ j, i ≤ j → j < p → ¬ gI τ 525 0 j = -1) := by
  obtain ⟨s1, s2, s3, s4⟩ := hs
  intro n
  induction n with
  | zero => intro i σi hi hn; omega
  | succ n ih =>
    intro i σi hi hn ha hw
    rw [X9_readToldRow_l2.eq_2, agI ha (show ¬ DRC 50 f 2 by unfold DRC; omega), hpl]
    by_cases he : i = p
    · subst he
      rw [if_pos (nI_le (Nat.le_refl _) (by omega))]
      exact Or.inr ⟨σi, rfl, ha, hw, fun j _ _ => by omega⟩
    · have hlt : i < p := by omega
      rw [if_neg (nI_ge hlt (by omega)), ib_nI (by omega), gd_d (by omega), nm_b, ix_nI (by omega), agI ha (show ¬ DRC 455 0 i by unfold DRC; omega), (hA i (by omega)).1]
      have hsz : gI σi 350 0 2 = nI ns := (agI ha (show ¬ DRC 350 0 2 by unfold DRC; omega)).trans s2
      rcases (hA i (by omega)).2 with e | ⟨s, hs, e⟩
      · rw [e]
        left
        refine ⟨σi, ?_, ha, i, Nat.le_refl _, hlt, e⟩
        have : X7_holds z (-1) σi = some 0 := by unfold X7_holds; rw [if_pos (by decide)]
        rw [this]
        rfl
      · obtain ⟨c1, c2, c3⟩ := hc i (by omega) s hs e
        have : X7_holds z (nI s) σi = some 1 := by unfold X7_holds; rw [hsz, if_neg (nI_pos (by omega)), if_neg (nI_ge hs (by omega))]
        rw [e, this]
        simp only [Option.bind_some, if_neg (show ¬ (1 : Int32) = 0 by decide), ib_nI (show s < 2 ^ 31 by omega), gd_d (show s < 300 by omega), ix_nI (show s < 2 ^ 31 by omega), gd_d (show i < 2 by omega), nm_b, nI_s]
        have e1 : gI σi 351 0 s = nI (c i) := (agI ha (show ¬ DRC 351 0 s by unfold DRC; omega)).trans c2
        have e2 : gI (sI σi 301 0 i (gI σi 351 0 s)) 352 0 s = w i := by
          rw [gI_sI, if_neg (by omega)]
          exact (agI ha (show ¬ DRC 352 0 s by unfold DRC; omega)).trans c3
        rw [e2, e1]
        have hag : ag DRC σ (sI (sI σi 301 0 i (nI (c i))) 302 0 i (w i)) := ag_t ha (ag_t (ag_sI (by unfold DRC; omega)) (ag_sI (by unfold DRC; omega)))
        have hw' : rWC (i + 1) c w (sI (sI σi 301 0 i (nI (c i))) 302 0 i (w i)) := by
          intro j hj
          by_cases q : j = i
          · subst q
            exact ⟨c1, by simp [gI_sI], by simp [gI_sI]⟩
          · have := hw j (by omega)
            simpa [gI_sI, q] using this
        rcases ih (i + 1) _ (by omega) (by omega) hag hw' with ⟨σ', r1, r2, j, r3, r4⟩ | ⟨σ', r1, r2, r3, r4⟩
        · exact Or.inl ⟨σ', r1, r2, j, by omega, r4⟩
        · refine Or.inr ⟨σ', r1, r2, r3, fun j h1 h2 => ?_⟩
          rcases Nat.lt_or_ge i j with q | q
          · exact r4 j (by omega) h2
          · have : j = i := by omega
            subst this
            rw [e]; exact nI_m1 (by omega)
theorem tellM_l {ns p f : Nat} {σ τ : PS} (hs : rS ns σ τ) (hA : rA ns σ τ) (hp : p ≤ 2) (hf : f < 4) (hpl : gI τ 510 0 f = nI p) (kx : Int32 → PS → Option (Int32 × PS)) (c : Nat → Nat) (w : Nat → Int32) (hc : ∀ i, i < 2 → ∀ s, s < ns → gI τ 525 0 i = nI s → c i < 12 ∧ gI τ 507 0 s = nI (c i) ∧ gI τ 508 0 s = w i) : ∀ (n i : Nat) (b : Bool) (τi : PS), i ≤ p → p - i < n → ag DRM τ τi → (b = true → rWM i c w τi) → ∃ τ', X10_tellRow_l4 kx n (nI f) (bI b) (nI i) τi = kx (bI (b && allB (fun j => !decide (gI τ 525 0 j = -1)) (p - i) i)) τ' ∧ ag DRM τ τ' ∧ ((b && allB (fun j => !decide (gI τ 525 0 j = -1)) (p - i) i) = true → rWM p c w τ') := by
  obtain ⟨s1, s2, s3, s4⟩ := hs
  intro n
  induction n with
  | zero => intro i b τi hi hn; omega
  | succ n ih =>
    intro i b τi hi hn ha hw
    rw [X10_tellRow_l4.eq_2, ib_nI (show f < 2 ^ 31 by omega), gd_d hf, ix_nI (show f < 2 ^ 31 by omega), agI ha (show ¬ DRM 510 0 f by unfold DRM; omega), hpl]
    by_cases he : i = p
    · subst he
      rw [if_pos (nI_le (Nat.le_refl _) (by omega)), Nat.sub_self]
      refine ⟨τi, ?_, ha, fun q => hw ?_⟩
      · simp [allB]
      · simpa [allB] using q
    · have hlt : i < p := by omega
      have hto : gI τi 525 0 i = gI τ 525 0 i := agI ha (show ¬ DRM 525 0 i by unfold DRM; omega)
      have e : p - i = (p - (i + 1)) + 1 := by omega
      rw [if_neg (nI_ge hlt (by omega)), e]
      unfold X10_tellRow_c31 X10_tellRow_c32 X10_tellRow_c62
      simp only [ib_nI (show i < 2 ^ 31 by omega), gd_d (show i < 2 by omega), ix_nI (show i < 2 ^ 31 by omega), nm_b, nI_s, gI_k (show ¬ 525 = 532 by decide), gI_k (show ¬ 508 = 532 by decide), hto]
      rcases (hA i (by omega)).2 with q | ⟨s, hs, q⟩
      · have hlt0 : gI τ 525 0 i < 0 := by rw [q]; decide
        simp only [if_pos hlt0]
        have hag : ag DRM τ (sL (sI τi 532 0 i 0) 533 0 i 0) := ag_t ha (ag_t (ag_sI (by unfold DRM; omega)) (ag_sL (by unfold DRM; omega)))
        obtain ⟨τ', r1, r2, r3⟩ := ih (i + 1) false _ (by omega) (by omega) hag (fun q => by cases q)
        rw [bI_f] at r1
        refine ⟨τ', ?_, r2, fun q' => ?_⟩
        · have : (if bI b = 0 then X10_tellRow_l4 kx n (nI f) 0 (nI (i + 1)) (sL (sI τi 532 0 i 0) 533 0 i 0) else X10_tellRow_l4 kx n (nI f) 0 (nI (i + 1)) (sL (sI τi 532 0 i 0) 533 0 i 0)) = X10_tellRow_l4 kx n (nI f) 0 (nI (i + 1)) (sL (sI τi 532 0 i 0) 533 0 i 0) := ite_self _
          rw [this, r1]
          simp [allB, q, bI]
        · simp [allB, q] at q'
      · obtain ⟨c1, c2, c3⟩ := hc i (by omega) s hs q
        have hge : ¬ gI τ 525 0 i < 0 := by rw [q]; exact nI_pos (by omega)
        have e1 : gI τi 507 0 s = nI (c i) := (agI ha (show ¬ DRM 507 0 s by unfold DRM; omega)).trans c2
        have e2 : gI τi 508 0 s = w i := (agI ha (show ¬ DRM 508 0 s by unfold DRM; omega)).trans c3
        simp only [if_neg hge]
        simp only [q, ib_nI (show s < 2 ^ 31 by omega), gd_d (show s < 300 by omega), ix_nI (show s < 2 ^ 31 by omega), e1, e2]
        have hag : ag DRM τ (sL (sI τi 532 0 i (nI (c i))) 533 0 i (w i).toInt64) := ag_t ha (ag_t (ag_sI (by unfold DRM; omega)) (ag_sL (by unfold DRM; omega)))
        have hw' : b = true → rWM (i + 1) c w (sL (sI τi 532 0 i (nI (c i))) 533 0 i (w i).toInt64) := by
          intro hb j hj
          by_cases q2 : j = i
          · subst q2
            exact ⟨c1, by simp [gI_sL, gI_sI], by simp [gL_sL]⟩
          · have := hw hb j (by omega)
            simpa [gI_sL, gI_sI, gL_sL, gL_sI, q2] using this
        obtain ⟨τ', r1, r2, r3⟩ := ih (i + 1) b _ (by omega) (by omega) hag hw'
        have eb : (b && allB (fun j => !decide (gI τ 525 0 j = -1)) (p - (i + 1) + 1) i) = (b && allB (fun j => !decide (gI τ 525 0 j = -1)) (p - (i + 1)) (i + 1)) := by
          simp [allB, q, nI_m1 (show s < 2 ^ 31 by omega)]
        refine ⟨τ', ?_, r2, fun q' => r3 (by rw [← eb]; exact q')⟩
        rw [eb, ← r1]
        cases b with
        | false => rw [if_pos (by rfl)]; rfl
        | true => rw [if_neg (by decide)]; rfl
/-- the told row is read alike -/
theorem tell {z : Nat × Nat} {ns f : Nat} {pn : Nat → Nat} {σ τ : PS} (hs : rS ns σ τ) (hA : rA ns σ τ) (hF : rF z pn σ τ) (hf : f < z.1) :
    (∃ σ' τ', X9_readToldRow z f σ = some (0, σ') ∧ X10_tellRow (nI f) τ = some (0, τ') ∧ ag DRC σ σ' ∧ ag DRM τ τ') ∨
    (∃ c w σ' τ', X9_readToldRow z f σ = some (1, σ') ∧ X10_tellRow (nI f) τ = some (1, τ') ∧ ag DRC σ σ' ∧ ag DRM τ τ' ∧ rWC (pn f) c w σ' ∧ rWM (pn f) c w τ' ∧ gI σ' 300 0 2 = nI (pn f)) := by
  have hfu := fuel_ge
  have hf4 := hF.1
  obtain ⟨-, -, ⟨p1, p2⟩, p3, p4, -⟩ := hF.2.2.2 f hf
  have hco : ∀ i, ∃ cw : Nat × Int32, ∀ s, s < ns → gI τ 525 0 i = nI s → cw.1 < 12 ∧ gI τ 507 0 s = nI cw.1 ∧ gI τ 508 0 s = cw.2 := by
    intro i
    by_cases q : ∃ s, s < ns ∧ gI τ 525 0 i = nI s
    · obtain ⟨s, h1, h2⟩ := q
      obtain ⟨-, -, c, hc, e⟩ := hs.2.2.2 s h1
      refine ⟨(c, gI τ 508 0 s), fun s' h3 h4 => ?_⟩
      have hn := hs.1
      have : s' = s := (nI_eq (by omega) (by omega)).mp (by rw [← h4, ← h2])
      subst this
      exact ⟨hc, e, rfl⟩
    · exact ⟨(0, 0), fun s h1 h2 => absurd ⟨s, h1, h2⟩ q⟩
  have hcw := fun i => Classical.choose_spec (hco i)
  have hM := tellM_l hs hA p2 (show f < 4 by omega) p4 (fun v2 σ => X10_tellRow_c100 v2 σ) (fun i => (Classical.choose (hco i)).1) (fun i => (Classical.choose (hco i)).2) (fun i _ s h1 h2 => hcw i s h1 h2) fuel 0 true τ (by omega) (by omega) (ag_r _) (fun _ i hi => by omega)
  have hC := tellC_l z hs hA p2 p3 (fun v1 σ => X9_readToldRow_c72 z v1 σ) (fun i => (Classical.choose (hco i)).1) (fun i => (Classical.choose (hco i)).2) (fun i _ s h1 h2 => by
    obtain ⟨a1, a2, a3⟩ := hcw i s h1 h2
    obtain ⟨b1, b2, -⟩ := hs.2.2.2 s h1
    exact ⟨a1, b1.trans a2, b2.trans a3⟩) fuel 0 σ (by omega) (by omega) (ag_r _) (fun i hi => by omega)
  obtain ⟨τ', m1, m2, m3⟩ := hM
  rw [bI_t, show nI 0 = (0 : Int32) from rfl] at m1
  rw [show nI 0 = (0 : Int32) from rfl] at hC
  have mk : ∀ b : Bool, X10_tellRow_c100 (bI b) τ' = some (bI b, τ') := fun b => by cases b <;> rfl
  rcases hC with ⟨σ', c1, c2, j, -, h2, h3⟩ | ⟨σ', c1, c2, c3, h4⟩
  · left
    have ea : allB (fun j => !decide (gI τ 525 0 j = -1)) (pn f - 0) 0 = false := by
      rcases ha : allB (fun j => !decide (gI τ 525 0 j = -1)) (pn f - 0) 0 with _ | _
      · rfl
      · have := (allB_iff _ _).mp ha j (by omega) (by omega)
        simp [h3] at this
    refine ⟨σ', τ', c1, ?_, c2, m2⟩
    unfold X10_tellRow
    rw [m1, ea, mk]
    rfl
  · right
    have ea : allB (fun j => !decide (gI τ 525 0 j = -1)) (pn f - 0) 0 = true := by
      rw [allB_iff]
      intro j _ hj
      simp [h4 j (by omega) (by omega)]
    have e1 : X9_readToldRow z f σ = some (1, sI σ' 300 0 2 (nI (pn f))) := by
      unfold X9_readToldRow
      rw [c1]
      unfold X9_readToldRow_c72
      rw [nm_b, agI c2 (show ¬ DRC 50 f 2 by unfold DRC; omega), p3]
    refine ⟨_, _, _, τ', e1, ?_, ag_t c2 (ag_sI (by unfold DRC; omega)), m2, ?_, m3 (by rw [ea]; rfl), by simp [gI_sI]⟩
    · unfold X10_tellRow
      rw [m1, ea, mk]
      rfl
    · intro i hi
      have := c3 i hi
      simpa [gI_sI] using this
/-- a set of laid ones, by index and by number -/
theorem la_inj {la : Nat → Nat} {lc : Nat} (hm : ∀ i j, i < j → j < lc → la i < la j) {i j : Nat} (hi : i < lc) (hj : j < lc) (e : la i = la j) : i = j := by
  rcases Nat.lt_trichotomy i j with q | q | q
  · have := hm i j q hj; omega
  · exact q
  · have := hm j i q hi; omega
theorem ch_la {la : Nat → Nat} {lc N : Nat} {S S' : Nat → Bool} {B : Nat → Nat → Bool} (hm : ∀ i j, i < j → j < lc → la i < la j) (hN : ∀ i, i < lc → la i < N) (hP : ∀ h, h < N → (S' h = true ↔ ∃ i, i < lc ∧ la i = h ∧ S i = true)) (h : Nat) : isCh N S' B h ↔ ∃ i, la i = h ∧ isCh lc S (fun i j => B (la i) (la j)) i := by
  constructor
  · rintro ⟨h1, h2, h3⟩
    obtain ⟨i, hi, rfl, s⟩ := (hP h h1).mp h2
    refine ⟨i, rfl, hi, s, fun j hj hs => ?_⟩
    rcases h3 (la j) (hN j hj) ((hP _ (hN j hj)).mpr ⟨j, hj, rfl, hs⟩) with e | e
    · exact Or.inl (la_inj hm hj hi e)
    · exact Or.inr e
  · rintro ⟨i, rfl, hi, s, h3⟩
    refine ⟨hN i hi, (hP _ (hN i hi)).mpr ⟨i, hi, rfl, s⟩, fun g hg hs => ?_⟩
    obtain ⟨j, hj, rfl, t⟩ := (hP g hg).mp hs
    rcases h3 j hj t with e | e
    · exact Or.inl (by rw [e])
    · exact Or.inr e
theorem numAt {z : Nat × Nat} {own pn : Nat → Nat} {σ τ : PS} (hH : rH z own pn σ τ) {f lc : Nat} {la : Nat → Nat} (hL : rLd z f lc la σ) {i : Nat} (hi : i < lc) : X1_laidAt z f (nI i) σ = some (some (la i)) ∧ X1_numberAt z f (nI i) σ = some (nI (la i)) := by
  obtain ⟨h1, h2, h3⟩ := hL
  obtain ⟨a, b⟩ := h3 i hi
  have e : X1_laidAt z f (nI i) σ = some (some (la i)) := by
    unfold X1_laidAt
    rw [if_neg (nI_pos (by omega)), h2, if_neg (nI_ge hi (by omega)), ib_nI (by omega), gd_d (by omega), nm_b, ix_nI (by omega), a]
  refine ⟨e, ?_⟩
  unfold X1_numberAt
  rw [e]
  simp only [Option.bind_some, oc_s' b]
  rw [(hH.2.2.2 (la i) b).2.1.1]
theorem numAt_m (z : Nat × Nat) (f : Nat) (σ : PS) : X1_laidAt z f (-1) σ = some none ∧ X1_numberAt z f (-1) σ = some (-1) := by
  have e : X1_laidAt z f (-1) σ = some none := by unfold X1_laidAt; rw [if_pos (by decide)]
  refine ⟨e, ?_⟩
  unfold X1_numberAt
  rw [e]
  rfl
/-- the chosen one: the same on both sides -/
theorem chBoth {z : Nat × Nat} {σ τ : PS} (hB : rB σ τ) (hO : rO τ) {own pn : Nat → Nat} {f lc : Nat} {la od : Nat → Nat} {c : Nat → Nat} {w : Nat → Int32} {S : Nat → Bool} (hQ : rQ z.2 τ) (hF : rF z pn σ τ) (hH : rH z own pn σ τ) (hf : f < z.1) (hL : rL1 z own (pn f) f lc la od σ τ) (hW : rWM (pn f) c w τ) (b : Option Nat) (hb : ∀ g, b = some g → g < z.2 ∧ own g = f) (hS : ∀ h, h < z.2 → (ofP own τ c w (pn f) f b h = true ↔ ∃ i, i < lc ∧ la i = h ∧ S i = true)) : ∃ rC rM, X1_chosenOf z f (mkS lc S) σ = some rC ∧ X10_chosen (nI f) (ofI b) τ = some rM ∧ ((rC = -1 ∧ rM = -1 ∧ ∀ i, ¬ isCh lc S (fun i j => moP τ (pn f) (la i) (la j)) i) ∨ ∃ i, isCh lc S (fun i j => moP τ (pn f) (la i) (la j)) i ∧ rC = nI i ∧ rM = nI (la i)) := by
  obtain ⟨l1, l2, l3, l4, l5, -⟩ := hL
  obtain ⟨-, -, ⟨-, p2⟩, -⟩ := hF.2.2.2 f hf
  obtain ⟨rC, e1, k1⟩ := chC z (S := S) l1.1 l1.2.1 l5
  obtain ⟨rM, e2, k2⟩ := chM hB hQ hF hH hf hW b hb
  have hN : ∀ i, i < lc → la i < z.2 := fun i hi => (l1.2.2 i hi).2
  refine ⟨rC, rM, e1, e2, ?_⟩
  rcases k1 with ⟨a1, a2⟩ | ⟨i, a1, a2⟩
  · rcases k2 with ⟨b1, b2⟩ | ⟨h, b1, b2⟩
    · exact Or.inl ⟨a1, b1, a2⟩
    · obtain ⟨i, rfl, c1⟩ := (ch_la l2 hN hS h).mp b1
      exact absurd c1 (a2 i)
  · rcases k2 with ⟨b1, b2⟩ | ⟨h, b1, b2⟩
    · exact absurd ((ch_la l2 hN hS (la i)).mpr ⟨i, rfl, a1⟩) (b2 (la i))
    · obtain ⟨j, rfl, c1⟩ := (ch_la l2 hN hS h).mp b1
      have : j = i := by
        rcases a1.2.2 j c1.1 c1.2.1 with e | e
        · exact e
        · rcases c1.2.2 i a1.1 a1.2.1 with e' | e'
          · exact e'.symm
          · exact (mo_as hO hQ p2 (hN _ a1.1) (hN _ c1.1) e e').elim
      subst this
      exact Or.inr ⟨j, a1, a2, b2⟩
/-- offered with no bound: the class's plain takers -/
theorem of_none {z : Nat × Nat} {own : Nat → Nat} {p f lc : Nat} {la od : Nat → Nat} {σ τ : PS} {c : Nat → Nat} {w : Nat → Int32} (hL : rL1 z own p f lc la od σ τ) : ∀ h, h < z.2 → (ofP own τ c w p f none h = true ↔ ∃ i, i < lc ∧ la i = h ∧ (tkP τ c w p (la i) && plP τ (la i)) = true) := by
  intro h hh
  unfold ofP
  simp only [Bool.and_true, Bool.and_eq_true]
  rw [hL.2.2.1 h hh]
  constructor
  · rintro ⟨⟨⟨i, hi, rfl⟩, b⟩, t⟩
    exact ⟨i, hi, rfl, t, b⟩
  · rintro ⟨i, hi, rfl, t, b⟩
    exact ⟨⟨⟨i, hi, rfl⟩, b⟩, t⟩
theorem of_some {z : Nat × Nat} {own : Nat → Nat} {p f lc : Nat} {la od : Nat → Nat} {σ τ : PS} {c : Nat → Nat} {w : Nat → Int32} (hL : rL1 z own p f lc la od σ τ) (g : Nat) : ∀ h, h < z.2 → (ofP own τ c w p f (some (la g)) h = true ↔ ∃ i, i < lc ∧ la i = h ∧ ((tkP τ c w p (la i) && plP τ (la i)) && moP τ p (la g) (la i)) = true) := by
  intro h hh
  unfold ofP
  simp only [Bool.and_eq_true]
  rw [hL.2.2.1 h hh]
  constructor
  · rintro ⟨⟨⟨⟨i, hi, rfl⟩, b⟩, t⟩, m⟩
    exact ⟨i, hi, rfl, ⟨t, b⟩, m⟩
  · rintro ⟨i, hi, rfl, ⟨t, b⟩, m⟩
    exact ⟨⟨⟨⟨i, hi, rfl⟩, b⟩, t⟩, m⟩

/-! ===== lay() and lift() ===== -/
theorem smP_s (τ : PS) (h g i : Nat) : smP τ h g i = smP τ g h i := by
  rw [Bool.eq_iff_iff, smP_iff, smP_iff]
  constructor <;> (rintro ⟨a, b, c⟩; exact ⟨a.symm, b.symm, c.symm⟩)
theorem sasC {z : Nat × Nat} {σ τ : PS} {own pn : Nat → Nat} (hF : rF z pn σ τ) (hH : rH z own pn σ τ) {h g : Nat} (hh : h < z.2) (hg : g < z.2) (e : own h = own g) : X2_isSameAs z h g σ = some (bI (allB (fun x => smP τ h g x) (pn (own h)) 0)) := by
  have hfu := fuel_ge
  obtain ⟨⟨-, a2, a3, -⟩, -, a5⟩ := hH.2.2.2 h hh
  obtain ⟨-, -, b5⟩ := hH.2.2.2 g hg
  rw [← e] at b5
  obtain ⟨-, -, ⟨-, p2⟩, p3, -⟩ := hF.2.2.2 (own h) a2
  have key : ∀ (n i : Nat), i ≤ pn (own h) → pn (own h) - i < n → X2_isSameAs_l2 z h σ (X2_isSameAs_c30 z h σ) n g (nI i) = some (bI (allB (fun x => smP τ h g x) (pn (own h) - i) i)) := by
    intro n
    induction n with
    | zero => intro i hi hn; omega
    | succ n ih =>
      intro i hi hn
      rw [X2_isSameAs_l2.eq_2, a3, dr_s a2, p3]
      by_cases he : i = pn (own h)
      · rw [if_pos (by rw [he]; exact nI_le (Nat.le_refl _) (by omega)), he, Nat.sub_self]
        rfl
      · have hlt : i < pn (own h) := by omega
        have e1 : pn (own h) - i = (pn (own h) - (i + 1)) + 1 := by omega
        rw [if_neg (nI_ge hlt (by omega)), sameC z a5 b5 hlt p2, e1]
        simp only [Option.bind_some, allB, nI_s]
        rcases hq : smP τ h g i with _ | _
        · rfl
        · rw [if_neg (by decide), ih (i + 1) (by omega) (by omega)]
          simp
  exact key fuel 0 (by omega) (by omega)
/-- a laid one of the function that is around just if h is, and the same at each place -/
def sameX (τ : PS) (p : Nat) (h g : Nat) : Bool := decide (gI τ 519 0 g = gI τ 519 0 h) && allB (fun x => smP τ g h x) p 0
theorem hlsC {z : Nat × Nat} {σ τ : PS} {own pn : Nat → Nat} {f lc : Nat} {la : Nat → Nat} (hF : rF z pn σ τ) (hH : rH z own pn σ τ) (hL : rLd z f lc la σ) (ho : ∀ i, i < lc → own (la i) = f) {h : Nat} (hh : h < z.2) (hof : own h = f) : ∃ r, X1_hasLaidSame z f h σ = some r ∧ ((r = 1 ∧ ∃ i, i < lc ∧ sameX τ (pn f) h (la i) = true) ∨ (r = 0 ∧ ∀ i, i < lc → sameX τ (pn f) h (la i) = false)) := by
  have hfu := fuel_ge
  obtain ⟨l1, l2, l3⟩ := hL
  have key : ∀ (n i : Nat), i ≤ lc → lc - i < n → ∃ r, X1_hasLaidSame_l2 z f σ (X1_hasLaidSame_c47 z f σ) n h (nI i) = some r ∧ ((r = 1 ∧ ∃ i, i < lc ∧ sameX τ (pn f) h (la i) = true) ∨ (r = 0 ∧ ∀ j, i ≤ j → j < lc → sameX τ (pn f) h (la j) = false)) := by
    intro n
    induction n with
    | zero => intro i hi hn; omega
    | succ n ih =>
      intro i hi hn
      rw [X1_hasLaidSame_l2.eq_2, l2]
      by_cases he : i = lc
      · rw [if_pos (by rw [he]; exact nI_le (Nat.le_refl _) (by omega))]
        exact ⟨0, rfl, Or.inr ⟨rfl, fun j h1 h2 => by omega⟩⟩
      · have hlt : i < lc := by omega
        obtain ⟨a1, a2⟩ := l3 i hlt
        obtain ⟨-, -, -, -, o5, -⟩ := (hH.2.2.2 (la i) a2).2.1
        obtain ⟨-, -, -, -, o5', -⟩ := (hH.2.2.2 h hh).2.1
        rw [if_neg (nI_ge hlt (by omega)), ib_nI (by omega), gd_d (by omega), nm_b, ix_nI (by omega), a1, dr_s a2, o5, o5']
        simp only [gd_d (show i < 8 by omega), nm_b, dr_s a2, sasC hF hH a2 hh (by rw [ho i hlt, hof]), ho i hlt, Option.bind_some, nI_s]
        have next : sameX τ (pn f) h (la i) = false → ∃ r, X1_hasLaidSame_l2 z f σ (X1_hasLaidSame_c47 z f σ) n h (nI (i + 1)) = some r ∧ ((r = 1 ∧ ∃ i, i < lc ∧ sameX τ (pn f) h (la i) = true) ∨ (r = 0 ∧ ∀ j, i ≤ j → j < lc → sameX τ (pn f) h (la j) = false)) := fun hx => by
          obtain ⟨r, r1, r2⟩ := ih (i + 1) (by omega) (by omega)
          refine ⟨r, r1, r2.imp id (fun q => ⟨q.1, fun j h1 h2 => ?_⟩)⟩
          rcases Nat.lt_or_ge i j with s | s
          · exact q.2 j (by omega) h2
          · have : j = i := by omega
            subst this; exact hx
        by_cases k : gI τ 519 0 (la i) = gI τ 519 0 h
        · rw [if_pos k]
          rcases hq : allB (fun x => smP τ (la i) h x) (pn f) 0 with _ | _
          · rw [if_pos (by rfl)]; exact next (by unfold sameX; rw [hq]; simp)
          · rw [if_neg (by decide)]
            exact ⟨1, rfl, Or.inl ⟨rfl, i, hlt, by unfold sameX; rw [hq]; simp [k]⟩⟩
        · rw [if_neg k]; exact next (by unfold sameX; simp [k])
  obtain ⟨r, r1, r2⟩ := key fuel 0 (by omega) (by omega)
  exact ⟨r, r1, r2.imp id (fun q => ⟨q.1, fun j hj => q.2 j (by omega) hj⟩)⟩
/-- the model looks for such a one -/
theorem layM_i {z : Nat × Nat} {σ τ : PS} {own pn : Nat → Nat} (hF : rF z pn σ τ) (hH : rH z own pn σ τ) {f h g : Nat} (hf : f < z.1) (hh : h < z.2) (hg : g < z.2) (kx : Int32 → Int32 → Int32 → Int32 → PS → Option (Int32 × PS)) : ∀ (n i : Nat) (d : Bool), i ≤ pn f → pn f - i < n → X10_lay_l83 kx n (nI h) (nI f) (nI g) (bI d) (nI i) τ = kx (nI h) (nI f) (nI g) (bI (d && allB (fun x => smP τ g h x) (pn f - i) i)) τ := by
  have h40 := hH.1
  have hf4 := hF.1
  obtain ⟨-, -, ⟨-, p2⟩, -, p3, -⟩ := hF.2.2.2 f hf
  intro n
  induction n with
  | zero => intro i d hi hn; omega
  | succ n ih =>
    intro i d hi hn
    rw [X10_lay_l83.eq_2, ib_nI (show f < 2 ^ 31 by omega), gd_d (show f < 4 by omega), ix_nI (show f < 2 ^ 31 by omega), p3]
    by_cases he : i = pn f
    · rw [if_pos (by rw [he]; exact nI_le (Nat.le_refl _) (by omega)), he, Nat.sub_self]
      simp [allB]
    · have hlt : i < pn f := by omega
      have e1 : pn f - i = (pn f - (i + 1)) + 1 := by omega
      rw [if_neg (nI_ge hlt (by omega)), sameM τ (show h < 40 by omega) (show g < 40 by omega) (show i < 2 by omega), e1, smP_s]
      have i1 := fun (d : Bool) => ih (i + 1) d (by omega) (by omega)
      have tt := i1 true
      have ff := i1 false
      rw [bI_t] at tt
      rw [bI_f] at ff
      simp only [Option.bind_some, nI_s, allB]
      cases d with
      | false => simp [bI, ff]
      | true =>
        rcases smP τ g h i with _ | _
        · simp [bI, ff]
        · simp [bI, tt]
theorem layM_l {z : Nat × Nat} {σ τ : PS} {own pn : Nat → Nat} (hF : rF z pn σ τ) (hH : rH z own pn σ τ) {f h : Nat} (hf : f < z.1) (hh : h < z.2) (kx : Int32 → Int32 → PS → Option (Int32 × PS)) : ∀ (n i : Nat), i ≤ z.2 → z.2 - i < n → (X10_lay_l41 kx n (nI h) (nI f) (nI i) τ = some (-5, τ) ∧ ∃ g, g < z.2 ∧ ldP own τ f g = true ∧ sameX τ (pn f) h g = true) ∨ (X10_lay_l41 kx n (nI h) (nI f) (nI i) τ = kx (nI h) (nI f) τ ∧ ∀ g, i ≤ g → g < z.2 → ldP own τ f g = true → sameX τ (pn f) h g = false) := by
  have hfu := fuel_ge
  have h40 := hH.1
  obtain ⟨-, -, ⟨-, p2⟩, -⟩ := hF.2.2.2 f hf
  intro n
  induction n with
  | zero => intro i hi hn; omega
  | succ n ih =>
    intro i hi hn
    rw [X10_lay_l41.eq_2, hH.2.2.1]
    by_cases he : i = z.2
    · rw [if_pos (by rw [he]; exact nI_le (Nat.le_refl _) (by omega))]
      exact Or.inr ⟨rfl, fun g h1 h2 => by omega⟩
    · have hlt : i < z.2 := by omega
      rw [if_neg (nI_ge hlt (by omega)), ldM hF hH hlt hf]
      simp only [Option.bind_some, ib_nI (show i < 2 ^ 31 by omega), gd_d (show i < 40 by omega), ix_nI (show i < 2 ^ 31 by omega), ib_nI (show h < 2 ^ 31 by omega), gd_d (show h < 40 by omega), ix_nI (show h < 2 ^ 31 by omega)]
      unfold X10_lay_c77 X10_lay_c78
      have hin := fun d => layM_i hF hH hf hh hlt (fun v1 v2 v3 v4 σ => X10_lay_c123 (X10_lay_l41 kx n) kx v1 v2 v3 v4 σ) fuel 0 d (by omega) (by omega)
      have ht := hin true
      have hff := hin false
      rw [bI_t, show nI 0 = (0 : Int32) from rfl] at ht
      rw [bI_f, show nI 0 = (0 : Int32) from rfl] at hff
      rw [ht, hff]
      have e : (if bI (ldP own τ f i) = 0 then X10_lay_c123 (X10_lay_l41 kx n) kx (nI h) (nI f) (nI i) (bI (false && allB (fun x => smP τ i h x) (pn f - 0) 0)) τ else if gI τ 519 0 i = gI τ 519 0 h then X10_lay_c123 (X10_lay_l41 kx n) kx (nI h) (nI f) (nI i) (bI (true && allB (fun x => smP τ i h x) (pn f - 0) 0)) τ else X10_lay_c123 (X10_lay_l41 kx n) kx (nI h) (nI f) (nI i) (bI (false && allB (fun x => smP τ i h x) (pn f - 0) 0)) τ) = X10_lay_c123 (X10_lay_l41 kx n) kx (nI h) (nI f) (nI i) (bI (ldP own τ f i && sameX τ (pn f) h i)) τ := by
        unfold sameX
        rcases ldP own τ f i with _ | _
        · simp [bI]
        · by_cases k : gI τ 519 0 i = gI τ 519 0 h
          · simp [bI, k]
          · simp [bI, k]
      rw [e]
      unfold X10_lay_c123
      rw [nI_s]
      rcases hq : (ldP own τ f i && sameX τ (pn f) h i) with _ | _
      · rw [if_pos (by rfl)]
        rcases ih (i + 1) (by omega) (by omega) with q | ⟨q1, q2⟩
        · exact Or.inl q
        · refine Or.inr ⟨q1, fun g h1 h2 h3 => ?_⟩
          rcases Nat.lt_or_ge i g with s | s
          · exact q2 g (by omega) h2 h3
          · have : g = i := by omega
            subst this
            rw [h3] at hq
            simpa using hq
      · rw [if_neg (by decide)]
        rw [Bool.and_eq_true] at hq
        exact Or.inl ⟨rfl, i, hlt, hq.1, hq.2⟩
/-- the row of laid ones with one more, at its place -/
def insL (la : Nat → Nat) (x h : Nat) : Nat → Nat := fun j => if j < x then la j else if j = x then h else la (j - 1)
def D56 (f : Nat) : Nat → Nat → Nat → Prop := fun k n _ => n = f ∧ k = 56
theorem putC_l {z : Nat × Nat} {σ0 τ : PS} {own pn : Nat → Nat} {f lc : Nat} {la : Nat → Nat} (hH0 : rH z own pn σ0 τ) (hL : rLd z f lc la σ0) (hlc : lc < 8) {h : Nat} (hh : h < z.2) (hne : ∀ i, i < lc → ¬ la i = h) (hm : ∀ i j, i < j → j < lc → la i < la j) (kx : Nat → Int32 → PS → Option (Int32 × PS)) : ∀ (n at' : Nat) (σ : PS), at' ≤ lc → at' < n → ag (D56 f) σ0 σ → (∀ j, j < at' → gR σ 56 f j = some (la j)) → (∀ j, at' < j → j ≤ lc → gR σ 56 f j = some (la (j - 1))) → (∀ j, at' ≤ j → j < lc → h < la j) → ∃ x σ', X1_putLaid_l16 z f kx n h (nI at') σ = kx h (nI x) σ' ∧ x ≤ lc ∧ ag (D56 f) σ0 σ' ∧ (∀ j, j < x → gR σ' 56 f j = some (la j)) ∧ (∀ j, x < j → j ≤ lc → gR σ' 56 f j = some (la (j - 1))) ∧ (∀ j, x ≤ j → j < lc → h < la j) ∧ ∀ j, j < x → la j < h := by
  have h40 := hH0.1
  intro n
  induction n with
  | zero => intro a σ ha hn; omega
  | succ n ih =>
    intro a σ ha hn hag h1 h2 h3
    rw [X1_putLaid_l16.eq_2]
    cases a with
    | zero =>
      rw [if_pos (show nI 0 ≤ 0 by decide)]
      exact ⟨0, σ, rfl, ha, hag, h1, h2, h3, fun j hj => by omega⟩
    | succ a =>
      have hla := (hL.2.2 a (by omega)).2
      have e1 : gI σ 100 (la a) 1 = nI (la a) := (agI hag (by unfold D56; omega)).trans (hH0.2.2.2 _ hla).2.1.1
      have e2 : gI σ 100 h 1 = nI h := (agI hag (by unfold D56; omega)).trans (hH0.2.2.2 _ hh).2.1.1
      rw [if_neg (nI_nle (by omega) (by omega)), nI_pred, ib_nI (by omega), gd_d (by omega), nm_b, ix_nI (by omega), h1 a (by omega), dr_s hla, e1, e2]
      by_cases k : la a < h
      · rw [if_pos (nI_le (by omega) (by omega))]
        refine ⟨a + 1, σ, rfl, ha, hag, h1, h2, h3, fun j hj => ?_⟩
        rcases Nat.lt_or_ge j a with q | q
        · have := hm j a q (by omega); omega
        · have : j = a := by omega
          subst this; exact k
      · have hn' := hne a (by omega)
        rw [if_neg (nI_ge (by omega) (by omega)), gd_d (show a < 8 by omega), nm_b, dr_s hla, ib_nI (by omega), gd_d (show a + 1 < 8 by omega), nm_b, ix_nI (by omega), pk_m1]
        refine ih a _ (by omega) (by omega) (ag_t hag (ag_sR ⟨rfl, rfl⟩)) (fun j hj => ?_) (fun j hj1 hj2 => ?_) (fun j hj1 hj2 => ?_)
        · rw [gR_sR, if_neg (by omega)]; exact h1 j (by omega)
        · rw [gR_sR]
          by_cases q : j = a + 1
          · subst q; rw [if_pos ⟨rfl, rfl, rfl⟩]; rfl
          · rw [if_neg (fun r => q r.2.2)]; exact h2 j (by omega) hj2
        · rcases Nat.lt_or_ge a j with q | q
          · exact h3 j (by omega) hj2
          · have : j = a := by omega
            subst this; omega
/-- a laid one less -/
def delL (la : Nat → Nat) (x : Nat) : Nat → Nat := fun j => if j < x then la j else la (j + 1)
theorem dropC_l {z : Nat × Nat} {σ0 τ : PS} {own pn : Nat → Nat} {f lc : Nat} {la : Nat → Nat} (hH0 : rH z own pn σ0 τ) (hL : rLd z f lc la σ0) {x : Nat} (hx : x < lc) (hm : ∀ i j, i < j → j < lc → la i < la j) (kx : Int32 → PS → Option PS) : ∀ (n i : Nat) (σ : PS), i ≤ lc → lc - i < n → ag (D56 f) σ0 σ → (∀ j, j < (if i ≤ x then i else i - 1) → gR σ 56 f j = some (delL la x j)) → (∀ j, i ≤ j → j < lc → gR σ 56 f j = some (la j)) → ∃ σ', X1_dropLaid_l4 z f kx n (la x) (nI (if i ≤ x then i else i - 1)) (nI i) σ = kx (nI (lc - 1)) σ' ∧ ag (D56 f) σ0 σ' ∧ ∀ j, j < lc - 1 → gR σ' 56 f j = some (delL la x j) := by
  have h40 := hH0.1
  have hlc := hL.1
  intro n
  induction n with
  | zero => intro i σ hi hn; omega
  | succ n ih =>
    intro i σ hi hn hag h1 h2
    rw [X1_dropLaid_l4.eq_2, agI hag (show ¬ D56 f 50 f 7 by unfold D56; omega), hL.2.1]
    by_cases he : i = lc
    · subst he
      rw [if_pos (nI_le (Nat.le_refl _) (by omega)), if_neg (by omega)]
      rw [if_neg (by omega)] at h1
      exact ⟨σ, rfl, hag, h1⟩
    · have hlt : i < lc := by omega
      have hla := (hL.2.2 i hlt).2
      have hlx := (hL.2.2 x hx).2
      have e1 : gI σ 100 (la i) 1 = nI (la i) := (agI hag (by unfold D56; omega)).trans (hH0.2.2.2 _ hla).2.1.1
      have e2 : gI σ 100 (la x) 1 = nI (la x) := (agI hag (by unfold D56; omega)).trans (hH0.2.2.2 _ hlx).2.1.1
      rw [if_neg (nI_ge hlt (by omega)), ib_nI (by omega), gd_d (by omega), nm_b, ix_nI (by omega), h2 i (Nat.le_refl _) hlt, dr_s hla, e1, e2]
      by_cases k : i = x
      · subst k
        rw [if_pos rfl, nI_s, if_pos (Nat.le_refl _)]
        rw [if_pos (Nat.le_refl _)] at h1
        have := ih (i + 1) σ (by omega) (by omega) hag (by rw [if_neg (by omega)]; exact h1) (fun j a b => h2 j (by omega) b)
        rw [if_neg (by omega), show i + 1 - 1 = i by omega] at this
        exact this
      · have k' : ¬ nI (la i) = nI (la x) := fun q => k (la_inj hm hlt hx ((nI_eq (by omega) (by omega)).mp q))
        rw [if_neg k', gd_d (show i < 8 by omega), nm_b, dr_s hla]
        have hk8 : (if i ≤ x then i else i - 1) < 8 := by split <;> omega
        have hki : (if i ≤ x then i else i - 1) ≤ i := by split <;> omega
        have hks : (if i + 1 ≤ x then i + 1 else i + 1 - 1) = (if i ≤ x then i else i - 1) + 1 := by
          by_cases q : i ≤ x
          · rw [if_pos q, if_pos (by omega)]
          · rw [if_neg q, if_neg (by omega)]; omega
        have hdel : delL la x (if i ≤ x then i else i - 1) = la i := by
          unfold delL
          by_cases q : i ≤ x
          · rw [if_pos q, if_pos (by omega)]
          · rw [if_neg q, if_neg (by omega), show i - 1 + 1 = i by omega]
        generalize (if i ≤ x then i else i - 1) = kp at h1 hk8 hki hks hdel ⊢
        rw [ib_nI (by omega), gd_d hk8, nm_b, ix_nI (by omega), nI_s, nI_s, ← hks]
        refine ih (i + 1) _ (by omega) (by omega) (ag_t hag (ag_sR ⟨rfl, rfl⟩)) (fun j hj => ?_) (fun j a b => ?_)
        · rw [hks] at hj
          rw [gR_sR]
          by_cases q : j = kp
          · rw [if_pos ⟨rfl, rfl, q⟩, q, hdel]
          · rw [if_neg (fun r => q r.2.2)]; exact h1 j (by omega)
        · rw [gR_sR, if_neg (by omega)]; exact h2 j (by omega) b

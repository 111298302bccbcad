/-! ===== explain() ===== -/
theorem idxC {z : Nat × Nat} {σ τ : PS} {own pn : Nat → Nat} {f lc : Nat} {la : Nat → Nat} (hH : rH z own pn σ τ) (hL : rLd z f lc la σ) (hm : ∀ i j, i < j → j < lc → la i < la j) {i : Nat} (hi : i < lc) : X1_indexOf z f (la i) σ = some (nI i) := by
  have hfu := fuel_ge
  have h40 := hH.1
  obtain ⟨h1, h2, h3⟩ := hL
  have hN : ∀ i, i < lc → la i < z.2 := fun i hi => (h3 i hi).2
  have key : ∀ (n j : Nat), j ≤ i → i - j < n → X1_indexOf_l2 z f σ (X1_indexOf_c34 z f σ) n (la i) (nI j) = some (nI i) := by
    intro n
    induction n with
    | zero => intro j hj hn; omega
    | succ n ih =>
      intro j hj hn
      obtain ⟨a, b⟩ := h3 j (by omega)
      have b' := hN i hi
      rw [X1_indexOf_l2.eq_2, h2, if_neg (nI_ge (show j < lc by omega) (by omega)), ib_nI (by omega), gd_d (by omega), nm_b, ix_nI (by omega), a, dr_s b, (hH.2.2.2 _ b).2.1.1, (hH.2.2.2 _ b').2.1.1]
      by_cases e : j = i
      · subst e; rw [if_pos rfl]
      · have : ¬ nI (la j) = nI (la i) := fun q => e (la_inj hm (by omega) hi ((nI_eq (by omega) (by omega)).mp q))
        rw [if_neg this, nI_s]
        exact ih (j + 1) (by omega) (by omega)
  exact key fuel 0 (by omega) (by omega)
theorem btsC_l (z : Nat × Nat) {σ : PS} {f lc : Nat} {B : Nat → Nat → Bool} (h1 : lc ≤ 8) (h2 : gI σ 50 f 7 = nI lc) (hb : ∀ i, i < lc → gI σ 57 f i = mkS lc (B i)) {x : Nat} (hx : x < lc) (kx : Int32 → Option Int32) : ∀ (n i : Nat), i ≤ lc → lc - i < n → X1_beatersOf_l4 z f σ kx n (nI x) (mkS i (fun j => B j x)) (nI i) = kx (mkS lc (fun j => B j x)) := by
  intro n
  induction n with
  | zero => intro i hi hn; omega
  | succ n ih =>
    intro i hi hn
    rw [X1_beatersOf_l4.eq_2, h2]
    by_cases he : i = lc
    · subst he; rw [if_pos (nI_le (Nat.le_refl _) (by omega))]
    · have hlt : i < lc := by omega
      rw [if_neg (nI_ge hlt (by omega)), ib_nI (by omega), gd_d (by omega), ix_nI (by omega), hb i hlt]
      have := ih (i + 1) (by omega) (by omega)
      rw [mkS_s] at this
      simp only [nI_s, nm_b]
      have hbt : bt (mkS lc (B i)) x = B i x := by rw [bt_mkS _ lc (by omega) x (by omega)]; simp [hx]
      rcases hq : B i x with _ | _
      · rw [if_neg (by simp [hq])] at this
        rw [if_pos ((b_test (by omega)).mpr (hbt.trans hq))]
        exact this
      · rw [if_pos (by simp [hq])] at this
        rw [if_neg (fun q => by rw [b_test (by omega), hbt, hq] at q; cases q)]
        exact this
theorem btsC (z : Nat × Nat) {σ : PS} {f lc : Nat} {B : Nat → Nat → Bool} (h1 : lc ≤ 8) (h2 : gI σ 50 f 7 = nI lc) (hb : ∀ i, i < lc → gI σ 57 f i = mkS lc (B i)) {x : Nat} (hx : x < lc) : X1_beatersOf z f (nI x) σ = some (mkS lc (fun j => B j x)) := by
  have hfu := fuel_ge
  exact btsC_l z h1 h2 hb hx (fun v2 => X1_beatersOf_c37 z f σ v2) fuel 0 (by omega) (by omega)
theorem btnC (z : Nat × Nat) {σ : PS} {f lc : Nat} {B : Nat → Nat → Bool} (h1 : lc ≤ 8) (h2 : gI σ 50 f 7 = nI lc) (hb : ∀ i, i < lc → gI σ 57 f i = mkS lc (B i)) {x : Nat} (hx : x < lc) : X1_beatenBy z f (nI x) σ = some (mkS lc (B x)) := by
  unfold X1_beatenBy
  rw [if_neg (nI_pos (by omega)), h2, if_neg (nI_ge hx (by omega)), ib_nI (by omega), gd_d (by omega), ix_nI (by omega), hb x hx]
/-- a row is taken at a place -/
def taP (τ : PS) (c : Nat → Nat) (w : Nat → Int32) (h i : Nat) : Bool := tcP τ h i (c i) && twP τ h i (w i)
theorem tkF_iff {τ : PS} {c : Nat → Nat} {w : Nat → Int32} {h : Nat} : ∀ k i, tkF τ c w h k i = true ↔ ∀ j, i ≤ j → j < i + k → taP τ c w h j = true := by
  intro k
  induction k with
  | zero => intro i; simp only [tkF, true_iff]; intro j a b; omega
  | succ k ih =>
    intro i
    unfold tkF
    rw [Bool.and_eq_true, ih]
    constructor
    · intro ⟨a, b⟩ j h1 h2
      rcases Nat.lt_or_ge i j with q | q
      · exact b j (by omega) (by omega)
      · have : j = i := by omega
        subst this; exact a
    · intro a
      exact ⟨a i (by omega) (by omega), fun j h1 h2 => a j (by omega) (by omega)⟩
theorem tkP_iff {τ : PS} {c : Nat → Nat} {w : Nat → Int32} {p h : Nat} : tkP τ c w p h = true ↔ ∀ j, j < p → taP τ c w h j = true := by
  unfold tkP
  rw [tkF_iff]
  constructor
  · intro a j hj; exact a j (by omega) (by omega)
  · intro a j _ hj; exact a j (by omega)
theorem frpC {z : Nat × Nat} {σ τ : PS} {own pn : Nat → Nat} {h : Nat} {c : Nat → Nat} {w : Nat → Int32} (hB : rB σ τ) (hF : rF z pn σ τ) (hH : rH z own pn σ τ) (hh : h < z.2) (hW : rWC (pn (own h)) c w σ) : ∃ r, X2_firstRefusingPlace z h σ = some r ∧ ((r = -1 ∧ tkP τ c w (pn (own h)) h = true) ∨ ∃ i, i < pn (own h) ∧ r = nI i ∧ taP τ c w h i = false ∧ ∀ j, j < i → taP τ c w h j = true) := by
  have hfu := fuel_ge
  obtain ⟨⟨-, a2, a3, -⟩, -, a5⟩ := hH.2.2.2 h hh
  obtain ⟨-, -, ⟨-, p2⟩, p3, -⟩ := hF.2.2.2 (own h) a2
  have key : ∀ (n i : Nat), i ≤ pn (own h) → pn (own h) - i < n → (∀ j, j < i → taP τ c w h j = true) → ∃ r, X2_firstRefusingPlace_l2 z h σ (X2_firstRefusingPlace_c49 z h σ) n (nI i) = some r ∧ ((r = -1 ∧ tkP τ c w (pn (own h)) h = true) ∨ ∃ i, i < pn (own h) ∧ r = nI i ∧ taP τ c w h i = false ∧ ∀ j, j < i → taP τ c w h j = true) := by
    intro n
    induction n with
    | zero => intro i hi hn; omega
    | succ n ih =>
      intro i hi hn hj
      rw [X2_firstRefusingPlace_l2.eq_2, a3, dr_s a2, p3]
      by_cases he : i = pn (own h)
      · rw [if_pos (by rw [he]; exact nI_le (Nat.le_refl _) (by omega))]
        exact ⟨-1, rfl, Or.inl ⟨rfl, tkP_iff.mpr (fun j q => hj j (by omega))⟩⟩
      · have hlt : i < pn (own h) := by omega
        obtain ⟨w1, w2, w3⟩ := hW i hlt
        rw [if_neg (nI_ge hlt (by omega)), ib_nI (by omega), gd_d (by omega), ix_nI (by omega), w2, w3, takesC z hB a5 hlt p2 a3 a2 (show c i < 16 by omega), takesW z (w i) a5 hlt p2]
        simp only [Option.bind_some, gd_d (show i < 2 by omega), nI_s]
        rcases h1 : tcP τ h i (c i) with _ | _
        · rw [if_pos (by rfl)]
          exact ⟨nI i, rfl, Or.inr ⟨i, hlt, rfl, by unfold taP; rw [h1]; rfl, hj⟩⟩
        · rw [if_neg (by decide)]
          rcases h2 : twP τ h i (w i) with _ | _
          · rw [if_pos (by rfl)]
            exact ⟨nI i, rfl, Or.inr ⟨i, hlt, rfl, by unfold taP; rw [h1, h2]; rfl, hj⟩⟩
          · rw [if_neg (by decide)]
            refine ih (i + 1) (by omega) (by omega) (fun j q => ?_)
            rcases Nat.lt_or_ge j i with s | s
            · exact hj j s
            · have : j = i := by omega
              subst this; unfold taP; rw [h1, h2]; rfl
  exact key fuel 0 (by omega) (by omega) (fun j hj => by omega)
theorem mtM {z : Nat × Nat} {σ τ : PS} (hB : rB σ τ) {own pn : Nat → Nat} {f h : Nat} {c : Nat → Nat} {w : Nat → Int32} (hQ : rQ z.2 τ) (hF : rF z pn σ τ) (hH : rH z own pn σ τ) (hf : f < z.1) (hh : h < z.2) (hW : rWM (pn f) c w τ) : ∃ r, X10_moreThan (nI f) (nI h) τ = some r ∧ ((r = -1 ∧ ∀ g, g < z.2 → (ofP own τ c w (pn f) f none g && mB own pn τ g h) = false) ∨ ∃ g, g < z.2 ∧ (ofP own τ c w (pn f) f none g && mB own pn τ g h) = true ∧ (∀ k, k < g → (ofP own τ c w (pn f) f none k && mB own pn τ k h) = false) ∧ r = nI g) := by
  have hfu := fuel_ge
  have h40 := hH.1
  have key : ∀ (n j : Nat) (a : Int32), j ≤ z.2 → j < n → ∃ r, X10_moreThan_l10 τ (fun v3 => X10_moreThan_c49 τ v3) n (nI f) (nI h) a (nI j + (-1)) = some r ∧ ((r = a ∧ ∀ g, g < j → (ofP own τ c w (pn f) f none g && mB own pn τ g h) = false) ∨ ∃ g, g < j ∧ (ofP own τ c w (pn f) f none g && mB own pn τ g h) = true ∧ (∀ k, k < g → (ofP own τ c w (pn f) f none k && mB own pn τ k h) = false) ∧ r = nI g) := by
    intro n
    induction n with
    | zero => intro j a hj hn; omega
    | succ n ih =>
      intro j a hj hn
      rw [X10_moreThan_l10.eq_2]
      cases j with
      | zero =>
        rw [if_pos (show nI 0 + (-1) < 0 by decide)]
        exact ⟨a, rfl, Or.inl ⟨rfl, fun g hg => by omega⟩⟩
      | succ j =>
        have ho := ofM hB hQ hF hH (show j < z.2 by omega) hf hW none (fun g q => by cases q)
        rw [show ofI none = (-1 : Int32) from rfl] at ho
        rw [pk_m1, if_neg (nI_pos (by omega)), ho, moreM hB hQ hF hH (show j < z.2 by omega) hh]
        simp only [Option.bind_some]
        change ∃ r, (if bI (ofP own τ c w (pn f) f none j) = 0 then _ else if bI (mB own pn τ j h) = 0 then _ else _) = some r ∧ _
        have next : ∀ a', ((ofP own τ c w (pn f) f none j && mB own pn τ j h) = false ∧ a' = a) ∨ ((ofP own τ c w (pn f) f none j && mB own pn τ j h) = true ∧ a' = nI j) → ∃ r, X10_moreThan_l10 τ (fun v3 => X10_moreThan_c49 τ v3) n (nI f) (nI h) a' (nI j + (-1)) = some r ∧ ((r = a ∧ ∀ g, g < j + 1 → (ofP own τ c w (pn f) f none g && mB own pn τ g h) = false) ∨ ∃ g, g < j + 1 ∧ (ofP own τ c w (pn f) f none g && mB own pn τ g h) = true ∧ (∀ k, k < g → (ofP own τ c w (pn f) f none k && mB own pn τ k h) = false) ∧ r = nI g) := fun a' hc => by
          obtain ⟨r, r1, r2⟩ := ih j a' (by omega) (by omega)
          refine ⟨r, r1, ?_⟩
          rcases r2 with ⟨s1, s2⟩ | ⟨g, s1, s2⟩
          · rcases hc with ⟨c1, c2⟩ | ⟨c1, c2⟩
            · refine Or.inl ⟨s1.trans c2, fun g hg => ?_⟩
              rcases Nat.lt_or_ge g j with q | q
              · exact s2 g q
              · have : g = j := by omega
                subst this; exact c1
            · exact Or.inr ⟨j, by omega, c1, s2, s1.trans c2⟩
          · exact Or.inr ⟨g, by omega, s2⟩
        rcases q1 : ofP own τ c w (pn f) f none j with _ | _
        · rw [if_pos (by rfl)]; exact next a (Or.inl ⟨by rw [q1]; rfl, rfl⟩)
        · rw [if_neg (by decide)]
          rcases q2 : mB own pn τ j h with _ | _
          · rw [if_pos (by rfl)]; exact next a (Or.inl ⟨by rw [q1, q2]; rfl, rfl⟩)
          · rw [if_neg (by decide)]; exact next (nI j) (Or.inr ⟨by rw [q1, q2]; rfl, rfl⟩)
  unfold X10_moreThan
  rw [hH.2.2.1, nm_b, show nI z.2 - 1 = nI z.2 + (-1) by rw [Int32.sub_eq_add_neg]]
  exact key fuel z.2 (-1) (Nat.le_refl _) (by omega)
theorem sI_sI {σ : PS} {k n i : Nat} {a b : Int32} : sI (sI σ k n i a) k n i b = sI σ k n i b := by
  unfold sI
  refine Prod.ext ?_ rfl
  funext x y
  by_cases h : x = k ∧ y = n
  · simp only [h, and_self, if_true]
    funext j
    simp only [upd_a]
    by_cases e : j = i <;> simp [e]
  · simp only [h, if_false]
def DX : Nat → Nat → Nat → Prop := fun k _ i => k = 500 ∧ i = 33
theorem exM {z : Nat × Nat} {σ τ : PS} {own pn : Nat → Nat} {lc : Nat → Nat} {la od : Nat → Nat → Nat} (hC : CR z own pn lc la od σ τ) {f h : Nat} {c : Nat → Nat} {w : Nat → Int32} (hf : f < z.1) (hh : h < z.2) (hW : rWM (pn f) c w τ) (kx : PS → Option (Int32 × PS)) : ∀ (n j : Nat) (a : Int32), j ≤ z.2 → j < n → ∃ r, X10_explain_l145 kx n (nI h) (nI f) (nI j + (-1)) (sI τ 500 0 33 a) = kx (sI τ 500 0 33 r) ∧ ((r = a ∧ ∀ g, g < j → (!decide (g = h) && ofP own τ c w (pn f) f none g && !mB own pn τ h g) = false) ∨ ∃ g, g < j ∧ (!decide (g = h) && ofP own τ c w (pn f) f none g && !mB own pn τ h g) = true ∧ (∀ k, k < g → (!decide (k = h) && ofP own τ c w (pn f) f none k && !mB own pn τ h k) = false) ∧ r = nI g) := by
  have h40 := hC.2.2.2.2.1.1
  intro n
  induction n with
  | zero => intro j a hj hn; omega
  | succ n ih =>
    intro j a hj hn
    have hag : ag DX τ (sI τ 500 0 33 a) := ag_sI ⟨rfl, rfl⟩
    obtain ⟨hB, hO, hQ, hF, hH, hL⟩ := CR_ag hC (ag_r (D := DX) σ) hag (fun k n i q => by unfold DX; omega) (fun k n i q => by unfold DX; omega)
    rw [X10_explain_l145.eq_2]
    cases j with
    | zero =>
      rw [if_pos (show nI 0 + (-1) < 0 by decide)]
      exact ⟨a, rfl, Or.inl ⟨rfl, fun g hg => by omega⟩⟩
    | succ j =>
      have ho := ofM hB hQ hF hH (show j < z.2 by omega) hf (rWM_ag hW hag (fun k n i q => by unfold DX; omega)) none (fun g q => by cases q)
      rw [show ofI none = (-1 : Int32) from rfl, ofP_ag hag (fun k n i q => by unfold DX; omega)] at ho
      rw [pk_m1, if_neg (nI_pos (by omega)), ho, moreM hB hQ hF hH hh (show j < z.2 by omega), moP_ag hag (fun k n i q => by unfold DX; omega)]
      simp only [Option.bind_some, nm_b, sI_sI, gI_sI, true_and, and_self, if_true, nI_eq (show j < 2 ^ 31 by omega) (show h < 2 ^ 31 by omega)]
      change ∃ r, (if j = h then _ else if bI (ofP own τ c w (pn f) f none j) = 0 then _ else if bI (mB own pn τ h j) = 0 then _ else _) = _ ∧ _
      have next : ∀ a', ((!decide (j = h) && ofP own τ c w (pn f) f none j && !mB own pn τ h j) = false ∧ a' = a) ∨ ((!decide (j = h) && ofP own τ c w (pn f) f none j && !mB own pn τ h j) = true ∧ a' = nI j) → ∃ r, X10_explain_l145 kx n (nI h) (nI f) (nI j + (-1)) (sI τ 500 0 33 a') = kx (sI τ 500 0 33 r) ∧ ((r = a ∧ ∀ g, g < j + 1 → (!decide (g = h) && ofP own τ c w (pn f) f none g && !mB own pn τ h g) = false) ∨ ∃ g, g < j + 1 ∧ (!decide (g = h) && ofP own τ c w (pn f) f none g && !mB own pn τ h g) = true ∧ (∀ k, k < g → (!decide (k = h) && ofP own τ c w (pn f) f none k && !mB own pn τ h k) = false) ∧ r = nI g) := fun a' hc => by
        obtain ⟨r, r1, r2⟩ := ih j a' (by omega) (by omega)
        refine ⟨r, r1, ?_⟩
        rcases r2 with ⟨s1, s2⟩ | ⟨g, s1, s2⟩
        · rcases hc with ⟨c1, c2⟩ | ⟨c1, c2⟩
          · refine Or.inl ⟨s1.trans c2, fun g hg => ?_⟩
            rcases Nat.lt_or_ge g j with q | q
            · exact s2 g q
            · have : g = j := by omega
              subst this; exact c1
          · exact Or.inr ⟨j, by omega, c1, s2, s1.trans c2⟩
        · exact Or.inr ⟨g, by omega, s2⟩
      by_cases q0 : j = h
      · rw [if_pos q0]; exact next a (Or.inl ⟨by simp [q0], rfl⟩)
      · rw [if_neg q0]
        rcases q1 : ofP own τ c w (pn f) f none j with _ | _
        · rw [if_pos (by rfl)]; exact next a (Or.inl ⟨by simp [q1], rfl⟩)
        · rw [if_neg (by decide)]
          rcases q2 : mB own pn τ h j with _ | _
          · rw [if_pos (by rfl)]; exact next (nI j) (Or.inr ⟨by simp [q0, q1, q2], rfl⟩)
          · rw [if_neg (by decide)]; exact next a (Or.inl ⟨by simp [q2], rfl⟩)

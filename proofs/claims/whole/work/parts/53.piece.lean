/-! ===== the pieces ===== -/
/-- a fold over those of a set, from i on -/
def fld {α : Type} (P : Nat → Bool) (F : Nat → α → α) : Nat → Nat → α → α
  | 0, _, a => a
  | k + 1, i, a => fld P F k (i + 1) (if P i = true then F i a else a)
theorem fld_s {α : Type} (P : Nat → Bool) (F : Nat → α → α) (k i : Nat) (a : α) : fld P F (k + 1) i a = fld P F k (i + 1) (if P i = true then F i a else a) := rfl
theorem fld_la {α : Type} {P : Nat → Bool} {F : Nat → α → α} {la : Nat → Nat} {lc N : Nat} (hm : ∀ i j, i < j → j < lc → la i < la j) (hN : ∀ i, i < lc → la i < N) (hP : ∀ h, h < N → (P h = true ↔ ∃ i, i < lc ∧ la i = h)) : ∀ (k h i : Nat) (a : α), h + k = N → i ≤ lc → (∀ j, j < i → la j < h) → (∀ j, i ≤ j → j < lc → h ≤ la j) → fld P F k h a = fld (fun _ => true) (fun i a => F (la i) a) (lc - i) i a := by
  intro k
  induction k with
  | zero =>
    intro h i a hk hi h1 h2
    have : lc - i = 0 := by
      rcases Nat.lt_or_ge i lc with q | q
      · have := h2 i (Nat.le_refl _) q
        have := hN i q
        omega
      · omega
    rw [this]
    rfl
  | succ k ih =>
    intro h i a hk hi h1 h2
    rw [fld_s]
    by_cases hp : P h = true
    · obtain ⟨j, hj, e⟩ := (hP h (by omega)).mp hp
      have hij : i = j := by
        rcases Nat.lt_trichotomy i j with q | q | q
        · have := h2 i (Nat.le_refl _) (by omega)
          have := hm i j q hj
          omega
        · exact q
        · have := h1 j q; omega
      subst hij
      rw [if_pos hp, show lc - i = (lc - (i + 1)) + 1 by omega, fld_s, if_pos rfl, e]
      refine ih (h + 1) (i + 1) _ (by omega) (by omega) (fun j' hj' => ?_) (fun j' a' b' => ?_)
      · rcases Nat.lt_or_ge j' i with q | q
        · have := h1 j' q; omega
        · have : j' = i := by omega
          subst this; omega
      · have := hm i j' (by omega) b'; omega
    · rw [if_neg hp]
      refine ih (h + 1) i a (by omega) hi (fun j hj => by have := h1 j hj; omega) (fun j a' b' => ?_)
      have := h2 j a' b'
      rcases Nat.lt_or_ge h (la j) with q | q
      · omega
      · exact absurd ((hP h (by omega)).mpr ⟨j, b', by omega⟩) hp
/-- one handler's low and the weight behind its high -/
def pcS (lo hi wt a : Int64) : Int64 := if hi ≤ wt then (if lo ≤ wt then a else if lo < a then lo else a) else if hi < (if lo ≤ wt then a else if lo < a then lo else a) then hi else (if lo ≤ wt then a else if lo < a then lo else a)
theorem pcS_M {β : Type} (lo hi wt a : Int64) (G : Int64 → β) : (if lo ≤ wt then (if hi ≤ wt then G a else if a ≤ hi then G a else G hi) else if a ≤ lo then (if hi ≤ wt then G a else if a ≤ hi then G a else G hi) else (if hi ≤ wt then G lo else if lo ≤ hi then G lo else G hi)) = G (pcS lo hi wt a) := by
  unfold pcS
  have hle : ∀ x y : Int64, (x < y) ↔ ¬ y ≤ x := fun x y => Int64.not_le.symm
  have e1 : (if lo ≤ wt then a else if lo < a then lo else a) = (if lo ≤ wt then a else if a ≤ lo then a else lo) := by
    by_cases k1 : lo ≤ wt
    · rw [if_pos k1, if_pos k1]
    · rw [if_neg k1, if_neg k1]
      by_cases k4 : a ≤ lo
      · rw [if_pos k4, if_neg (fun q => (hle _ _).mp q k4)]
      · rw [if_neg k4, if_pos ((hle _ _).mpr k4)]
  have e2 : ∀ b : Int64, (if hi ≤ wt then G b else if b ≤ hi then G b else G hi) = G (if hi ≤ wt then b else if hi < b then hi else b) := fun b => by
    by_cases k2 : hi ≤ wt
    · rw [if_pos k2, if_pos k2]
    · rw [if_neg k2, if_neg k2]
      by_cases k3 : b ≤ hi
      · rw [if_pos k3, if_neg (fun q => (hle _ _).mp q k3)]
      · rw [if_neg k3, if_pos ((hle _ _).mpr k3)]
  rw [e1, e2, e2]
  by_cases k1 : lo ≤ wt
  · simp only [if_pos k1]
  · simp only [if_neg k1]
    by_cases k4 : a ≤ lo
    · simp only [if_pos k4]
    · simp only [if_neg k4]
def loP (τ : PS) (h i : Nat) : Int64 := (lwP τ h i).toInt64
def hiP (τ : PS) (h i : Nat) : Int64 := (hgP τ h i).toInt64 + 1
def pcV (τ : PS) (lc : Nat) (la : Nat → Nat) (i : Nat) (w : Int32) : Int64 := fld (fun _ => true) (fun j a => pcS (loP τ (la j) i) (hiP τ (la j) i) w.toInt64 a) lc 0 2147483648
theorem pcC {z : Nat × Nat} {σ τ : PS} {own pn : Nat → Nat} {f lc : Nat} {la : Nat → Nat} (hF : rF z pn σ τ) (hH : rH z own pn σ τ) (hf : f < z.1) (hL : rLd z f lc la σ) (ho : ∀ i, i < lc → own (la i) = f) {i : Nat} (hi : i < pn f) (w : Int32) : X1_pieceOf z f (nI i) w σ = some (pcV τ lc la i w) := by
  have hfu := fuel_ge
  obtain ⟨l1, l2, l3⟩ := hL
  obtain ⟨-, -, ⟨-, p2⟩, -⟩ := hF.2.2.2 f hf
  have key : ∀ (n j : Nat) (a : Int64), j ≤ lc → lc - j < n → X1_pieceOf_l7 z f σ (fun v3 => X1_pieceOf_c84 z f σ v3) n (nI i) w a (nI j) = some (fld (fun _ => true) (fun j a => pcS (loP τ (la j) i) (hiP τ (la j) i) w.toInt64 a) (lc - j) j a) := by
    intro n
    induction n with
    | zero => intro j a hj hn; omega
    | succ n ih =>
      intro j a hj hn
      rw [X1_pieceOf_l7.eq_2, l2]
      by_cases he : j = lc
      · subst he
        rw [if_pos (nI_le (Nat.le_refl _) (by omega)), Nat.sub_self]
        rfl
      · have hlt : j < lc := by omega
        obtain ⟨a1, a2⟩ := l3 j hlt
        obtain ⟨⟨b1, b2, b3⟩, b4⟩ := (hH.2.2.2 (la j) a2).2.2
        rw [ho j hlt] at b2 b3 b4
        obtain ⟨-, -, c2, c3⟩ := b4 i hi
        rw [if_neg (nI_ge hlt (by omega)), show lc - j = (lc - (j + 1)) + 1 by omega, fld_s, if_pos rfl]
        unfold X1_pieceOf_c63
        simp only [ib_nI (show j < 2 ^ 31 by omega), gd_d (show j < 8 by omega), nm_b, ix_nI (show j < 2 ^ 31 by omega), a1, dr_s a2, ib_nI (show i < 2 ^ 31 by omega), b2, b3, gd_d hi, ix_nI (show i < 2 ^ 31 by omega), c2, c3, lg_cmp_le, nI_s, ih (j + 1) _ (by omega) (by omega)]
        change (if loP τ (la j) i ≤ w.toInt64 then (if hiP τ (la j) i ≤ w.toInt64 then some (fld _ _ (lc - (j + 1)) (j + 1) a) else some (fld _ _ (lc - (j + 1)) (j + 1) (if hiP τ (la j) i < a then hiP τ (la j) i else a))) else (if hiP τ (la j) i ≤ w.toInt64 then some (fld _ _ (lc - (j + 1)) (j + 1) (if loP τ (la j) i < a then loP τ (la j) i else a)) else some (fld _ _ (lc - (j + 1)) (j + 1) (if hiP τ (la j) i < (if loP τ (la j) i < a then loP τ (la j) i else a) then hiP τ (la j) i else (if loP τ (la j) i < a then loP τ (la j) i else a))))) = _
        unfold pcS
        by_cases k1 : loP τ (la j) i ≤ w.toInt64
        · by_cases k2 : hiP τ (la j) i ≤ w.toInt64
          · simp only [if_pos k1, if_pos k2]
          · simp only [if_pos k1, if_neg k2]
        · by_cases k2 : hiP τ (la j) i ≤ w.toInt64
          · simp only [if_neg k1, if_pos k2]
          · simp only [if_neg k1, if_neg k2]
  exact key fuel 0 _ (by omega) (by omega)
theorem pcM {z : Nat × Nat} {σ τ : PS} {own pn : Nat → Nat} {f lc : Nat} {la od : Nat → Nat} (hF : rF z pn σ τ) (hH : rH z own pn σ τ) (hf : f < z.1) (hL : rL1 z own (pn f) f lc la od σ τ) {c : Nat → Nat} {w : Nat → Int32} (hW : rWM (pn f) c w τ) {i : Nat} (hi : i < pn f) : X10_piece (nI f) (nI i) τ = some (pcV τ lc la i (w i)) := by
  have hfu := fuel_ge
  have h40 := hH.1
  obtain ⟨-, -, ⟨-, p2⟩, -⟩ := hF.2.2.2 f hf
  obtain ⟨w1, w2, w3⟩ := hW i hi
  have key : ∀ (n h : Nat) (a : Int64), h ≤ z.2 → z.2 - h < n → X10_piece_l7 τ (fun v3 => X10_piece_c114 τ v3) n (nI f) (nI i) a (nI h) = some (fld (ldP own τ f) (fun j a => pcS (loP τ j i) (hiP τ j i) (w i).toInt64 a) (z.2 - h) h a) := by
    intro n
    induction n with
    | zero => intro h a hh hn; omega
    | succ n ih =>
      intro h a hh hn
      rw [X10_piece_l7.eq_2, hH.2.2.1]
      by_cases he : h = z.2
      · rw [if_pos (by rw [he]; exact nI_le (Nat.le_refl _) (by omega)), he, Nat.sub_self]
        rfl
      · have hlt : h < z.2 := by omega
        rw [if_neg (nI_ge hlt (by omega)), show z.2 - h = (z.2 - (h + 1)) + 1 by omega, fld_s, ldM hF hH hlt hf]
        unfold X10_piece_c80 X10_piece_c81
        simp only [Option.bind_some, nI_2, ib_nI (show 2 * h + i < 2 ^ 31 by omega), gd_d (show 2 * h + i < 80 by omega), ix_nI (show 2 * h + i < 2 ^ 31 by omega), nm_b, ib_nI (show i < 2 ^ 31 by omega), gd_d (show i < 2 by omega), ix_nI (show i < 2 ^ 31 by omega), w3, lg_cmp_le, lg_cmp_ge, nI_s, ih (h + 1) _ (by omega) (by omega)]
        rcases hl : ldP own τ f h with _ | _
        · rw [if_pos (by rfl), if_neg (by decide)]
        · rw [if_neg (by decide), if_pos rfl]
          change (if loP τ h i ≤ (w i).toInt64 then (if hiP τ h i ≤ (w i).toInt64 then some (fld _ _ (z.2 - (h + 1)) (h + 1) a) else if a ≤ hiP τ h i then some (fld _ _ (z.2 - (h + 1)) (h + 1) a) else some (fld _ _ (z.2 - (h + 1)) (h + 1) (hiP τ h i))) else if a ≤ loP τ h i then (if hiP τ h i ≤ (w i).toInt64 then some (fld _ _ (z.2 - (h + 1)) (h + 1) a) else if a ≤ hiP τ h i then some (fld _ _ (z.2 - (h + 1)) (h + 1) a) else some (fld _ _ (z.2 - (h + 1)) (h + 1) (hiP τ h i))) else (if hiP τ h i ≤ (w i).toInt64 then some (fld _ _ (z.2 - (h + 1)) (h + 1) (loP τ h i)) else if loP τ h i ≤ hiP τ h i then some (fld _ _ (z.2 - (h + 1)) (h + 1) (loP τ h i)) else some (fld _ _ (z.2 - (h + 1)) (h + 1) (hiP τ h i)))) = _
          exact pcS_M _ _ _ _ (fun a => some (fld (ldP own τ f) (fun j a => pcS (loP τ j i) (hiP τ j i) (w i).toInt64 a) (z.2 - (h + 1)) (h + 1) a))
  have h1 := key fuel 0 2147483648 (by omega) (by omega)
  have h2 := fld_la (F := fun j a => pcS (loP τ j i) (hiP τ j i) (w i).toInt64 a) hL.2.1 (fun i hi => (hL.1.2.2 i hi).2) hL.2.2.1 z.2 0 0 2147483648 (by omega) (by omega) (fun j hj => by omega) (fun j _ _ => by omega)
  rw [Nat.sub_zero, h2] at h1
  exact h1

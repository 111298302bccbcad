/-! ===== the closure, the class's side ===== -/
def bsr (σ : PS) (x : Nat) : Int32 := if x < 12 ∧ ¬ gI σ 401 0 x = -1 then gI σ 402 0 x ||| ((1 : Int32) <<< (gI σ 401 0 x &&& 31)) else gI σ 402 0 x
theorem fr_base (z : Nat × Nat) (kx : PS → Option PS) (σ : PS) : ∀ (n i : Nat) (g : Nat → Int32), i ≤ 16 → 16 - i < n → X8_findReach_l2 z kx n (nI i) (sM σ 403 g) = kx (sM σ 403 (fun x => if i ≤ x ∧ x < 16 then bsr σ x else g x)) := by
  intro n
  induction n with
  | zero => intro i g hi hn; omega
  | succ n ih =>
    intro i g hi hn
    rw [X8_findReach_l2.eq_2]
    by_cases he : i = 16
    · subst he
      rw [if_pos (by decide)]
      exact congrArg kx (sM_ext (fun j => by rw [if_neg (by omega)]))
    · have hlt : i < 16 := by omega
      rw [if_neg (by exact nI_ge (b := 16) hlt (by omega))]
      have fin : ∀ v, v = bsr σ i → X8_findReach_l2 z kx n (nI (i + 1)) (sM σ 403 (upd g i v)) = kx (sM σ 403 (fun x => if i ≤ x ∧ x < 16 then bsr σ x else g x)) := by
        intro v hv
        rw [ih (i + 1) _ (by omega) (by omega)]
        refine congrArg kx (sM_ext (fun j => ?_))
        by_cases hj : j = i
        · subst hj; rw [if_neg (by omega), upd_a, if_pos rfl, if_pos ⟨Nat.le_refl _, hlt⟩, hv]
        · by_cases h2 : i + 1 ≤ j ∧ j < 16
          · rw [if_pos h2, if_pos ⟨by omega, h2.2⟩]
          · rw [if_neg h2, upd_a, if_neg hj, if_neg (by omega)]
      simp only [ib_nI (show i < 2 ^ 31 by omega), gd_d hlt, ix_nI (show i < 2 ^ 31 by omega), gI_sM_n (show ¬ 402 = 403 by decide), gI_sM_n (show ¬ 401 = 403 by decide), gI_sM_s, nm_b, sI_sM, nI_s]
      by_cases h12 : i < 12
      · rw [if_neg (by exact nI_ge (b := 12) h12 (by omega)), gd_d h12]
        by_cases hp : gI σ 401 0 i = -1
        · rw [if_pos hp]
          exact fin _ (by unfold bsr; rw [if_neg (fun q => q.2 hp)])
        · rw [if_neg hp, gd_d h12]
          have e : upd (upd g i (gI σ 402 0 i)) i (upd g i (gI σ 402 0 i) i ||| ((1 : Int32) <<< (gI σ 401 0 i &&& 31))) = upd g i (bsr σ i) := by
            funext j
            unfold bsr
            rw [if_pos ⟨h12, hp⟩]
            by_cases hj : j = i <;> simp [upd_a, hj]
          rw [e]
          exact fin _ rfl
      · rw [if_pos (by exact nI_le (a := 12) (b := i) (by omega) (by omega))]
        exact fin _ (by unfold bsr; rw [if_neg (fun q => h12 q.1)])
/-- what row y becomes by way of m -/
def stc (m : Nat) (g : Nat → Int32) (y : Nat) : Int32 := if bt (g y) m = false then g y else g y ||| g m
theorem fr_x (z : Nat × Nat) (kx : Int32 → PS → Option PS) (σ : PS) {m : Nat} (hm : m < 16) : ∀ (n x : Nat) (g : Nat → Int32), x ≤ 16 → 16 - x < n → X8_findReach_l69 z kx n (nI m) (nI x) (sM σ 403 g) = kx (nI m) (sM σ 403 (fun y => if x ≤ y ∧ y < 16 then stc m g y else g y)) := by
  intro n
  induction n with
  | zero => intro x g hx hn; omega
  | succ n ih =>
    intro x g hx hn
    rw [X8_findReach_l69.eq_2]
    by_cases he : x = 16
    · subst he
      rw [if_pos (by decide)]
      exact congrArg (kx (nI m)) (sM_ext (fun j => by rw [if_neg (by omega)]))
    · have hlt : x < 16 := by omega
      rw [if_neg (by exact nI_ge (b := 16) hlt (by omega))]
      simp only [ib_nI (show x < 2 ^ 31 by omega), ib_nI (show m < 2 ^ 31 by omega), gd_d hlt, gd_d hm, ix_nI (show x < 2 ^ 31 by omega), ix_nI (show m < 2 ^ 31 by omega), gI_sM_s, nm_b, sI_sM, nI_s, b_test (show m < 32 by omega)]
      by_cases hb : bt (g x) m = false
      · rw [if_pos hb, ih (x + 1) _ (by omega) (by omega)]
        refine congrArg (kx (nI m)) (sM_ext (fun j => ?_))
        by_cases h2 : x + 1 ≤ j ∧ j < 16
        · rw [if_pos h2, if_pos ⟨by omega, h2.2⟩]
        · rw [if_neg h2]
          by_cases hj : j = x
          · subst hj; rw [if_pos ⟨Nat.le_refl _, hlt⟩]; unfold stc; rw [if_pos hb]
          · rw [if_neg (by omega)]
      · rw [if_neg hb, ih (x + 1) _ (by omega) (by omega)]
        refine congrArg (kx (nI m)) (sM_ext (fun j => ?_))
        by_cases h2 : x + 1 ≤ j ∧ j < 16
        · rw [if_pos h2, if_pos ⟨by omega, h2.2⟩]
          unfold stc
          have hgm : upd g x (g x ||| g m) m = g m := by
            rw [upd_a]
            by_cases h3 : m = x
            · subst h3
              rw [if_pos rfl]
              exact b_ext (fun i hi => by rw [b_or]; simp)
            · rw [if_neg h3]
          have hgj : upd g x (g x ||| g m) j = g j := by rw [upd_a, if_neg (by omega)]
          rw [hgm, hgj]
        · rw [if_neg h2, upd_a]
          by_cases hj : j = x
          · subst hj; rw [if_pos rfl, if_pos ⟨Nat.le_refl _, hlt⟩]; unfold stc; rw [if_neg hb]
          · rw [if_neg hj, if_neg (by omega)]
def wrc : Nat → Nat → (Nat → Int32) → (Nat → Int32)
  | 0, _, g => g
  | k + 1, m, g => wrc k (m + 1) (fun y => if y < 16 then stc m g y else g y)
theorem fr_m (z : Nat × Nat) (kx : PS → Option PS) (σ : PS) : ∀ (n m : Nat) (g : Nat → Int32), m ≤ 16 → 16 - m < n → X8_findReach_l61 z kx n (nI m) (sM σ 403 g) = kx (sM σ 403 (wrc (16 - m) m g)) := by
  intro n
  induction n with
  | zero => intro m g hm hn; omega
  | succ n ih =>
    intro m g hm hn
    rw [X8_findReach_l61.eq_2]
    by_cases he : m = 16
    · subst he
      rw [if_pos (by decide)]
      rfl
    · have hlt : m < 16 := by omega
      rw [if_neg (by exact nI_ge (b := 16) hlt (by omega))]
      rw [show (0 : Int32) = nI 0 from rfl, fr_x z _ σ hlt fuel 0 g (by omega) (by have := fuel_ge; omega)]
      show X8_findReach_l61 z kx n (nI m + 1) _ = _
      rw [nI_s, ih (m + 1) _ (by omega) (by omega)]
      have e : 16 - m = (16 - (m + 1)) + 1 := by omega
      rw [e]
      show kx (sM σ 403 (wrc (16 - (m + 1)) (m + 1) (fun y => if 0 ≤ y ∧ y < 16 then stc m g y else g y))) = kx (sM σ 403 (wrc (16 - (m + 1)) (m + 1) (fun y => if y < 16 then stc m g y else g y)))
      simp only [Nat.zero_le, true_and]
/-- findReach: the rows of the closure -/
theorem fr_all (z : Nat × Nat) (σ : PS) : X8_findReach z σ = some (sM σ 403 (wrc 16 0 (fun x => if x < 16 then bsr σ x else gI σ 403 0 x))) := by
  unfold X8_findReach
  have e : X8_findReach_l2 z (fun σ => X8_findReach_c59 z σ) fuel 0 σ = X8_findReach_l2 z (fun σ => X8_findReach_c59 z σ) fuel (nI 0) (sM σ 403 (gI σ 403 0)) := by rw [sM_self]; rfl
  rw [e, fr_base z _ σ fuel 0 _ (by omega) (by have := fuel_ge; omega)]
  show X8_findReach_l61 z (fun σ => X8_findReach_c115 z σ) fuel (nI 0) _ = _
  rw [fr_m z _ σ fuel 0 _ (by omega) (by have := fuel_ge; omega)]
  show some _ = some _
  simp only [Nat.zero_le, true_and, Nat.sub_zero]

/-! ===== a whole row of the memory in a new place ===== -/
def sM (σ : PS) (k : Nat) (f : Nat → Int32) : PS := (fun a b => if a = k ∧ b = 0 then f else σ.1 a b, σ.2)
theorem gI_sM {σ : PS} {k : Nat} {f : Nat → Int32} {a b : Nat} : gI (sM σ k f) a b = if a = k ∧ b = 0 then f else gI σ a b := rfl
theorem gI_sM_s {σ : PS} {k : Nat} {f : Nat → Int32} : gI (sM σ k f) k 0 = f := by rw [gI_sM, if_pos ⟨rfl, rfl⟩]
theorem gI_sM_n {σ : PS} {k : Nat} {f : Nat → Int32} {a b : Nat} (h : ¬ a = k) : gI (sM σ k f) a b = gI σ a b := by rw [gI_sM, if_neg (fun q => h q.1)]
theorem sI_sM {σ : PS} {k i : Nat} {f : Nat → Int32} {v : Int32} : sI (sM σ k f) k 0 i v = sM σ k (upd f i v) := by
  unfold sI sM
  congr 1
  funext a b
  by_cases h : a = k ∧ b = 0 <;> simp [h]
theorem sM_self {σ : PS} {k : Nat} : sM σ k (gI σ k 0) = σ := by
  unfold sM
  refine Prod.ext ?_ rfl
  funext a b
  by_cases h : a = k ∧ b = 0
  · obtain ⟨rfl, rfl⟩ := h; simp [gI]
  · simp [h]
theorem sM_ext {σ : PS} {k : Nat} {f g : Nat → Int32} (h : ∀ j, f j = g j) : sM σ k f = sM σ k g := by rw [funext h]
theorem nI_s (i : Nat) : nI i + (1 : Int32) = nI (i + 1) := nI_1 i
theorem upd_a {f : Nat → Int32} {k : Nat} {x : Int32} (j : Nat) : upd f k x j = if j = k then x else f j := rfl
/-- the model copies its direct marks -/
theorem cl_copy (kx : PS → Option (Int32 × PS)) (σ : PS) (hd : ∀ j, j < 256 → gI σ 502 0 j = 0 ∨ gI σ 502 0 j = 1) : ∀ (n i : Nat) (f : Nat → Int32), i ≤ 256 → 256 - i < n → X10_close_l12 kx n (nI i) (sM σ 503 f) = kx (sM σ 503 (fun j => if i ≤ j ∧ j < 256 then gI σ 502 0 j else f j)) := by
  intro n
  induction n with
  | zero => intro i f hi hn; omega
  | succ n ih =>
    intro i f hi hn
    rw [X10_close_l12.eq_2]
    by_cases he : i = 256
    · subst he
      rw [if_pos (by decide)]
      exact congrArg kx (sM_ext (fun j => by rw [if_neg (by omega)]))
    · have hlt : i < 256 := by omega
      rw [if_neg (by exact nI_ge (b := 256) hlt (by omega))]
      have hB : isB (gI σ 502 0 i) = true := by rcases hd i hlt with h | h <;> simp [isB, h]
      simp only [ib_nI (show i < 2 ^ 31 by omega), gd_d hlt, ix_nI (show i < 2 ^ 31 by omega), gI_sM_n (show ¬ 502 = 503 by decide), hB, gd_t, nm_b, sI_sM, nI_s]
      rw [ih (i + 1) _ (by omega) (by omega)]
      refine congrArg kx (sM_ext (fun j => ?_))
      rw [upd_a]
      by_cases hj : j = i
      · subst hj; rw [if_neg (by omega), if_pos rfl, if_pos ⟨Nat.le_refl _, hlt⟩]
      · rw [if_neg hj]
        by_cases h2 : i + 1 ≤ j ∧ j < 256
        · rw [if_pos h2, if_pos ⟨by omega, h2.2⟩]
        · rw [if_neg h2, if_neg (by omega)]
/-- the model marks the parents -/
theorem cl_par (kx : PS → Option (Int32 × PS)) (σ : PS) (hp : ∀ c, c < 12 → gI σ 501 0 c = -1 ∨ ∃ q, q < 12 ∧ gI σ 501 0 c = nI q) : ∀ (n i : Nat) (f : Nat → Int32), i ≤ 12 → 12 - i < n → X10_close_l39 kx n (nI i) (sM σ 503 f) = kx (sM σ 503 (fun j => if i ≤ j / 16 ∧ j / 16 < 12 ∧ gI σ 501 0 (j / 16) = nI (j % 16) then 1 else f j)) := by
  intro n
  induction n with
  | zero => intro i f hi hn; omega
  | succ n ih =>
    intro i f hi hn
    rw [X10_close_l39.eq_2]
    by_cases he : i = 12
    · subst he
      rw [if_pos (by decide)]
      exact congrArg kx (sM_ext (fun j => by rw [if_neg (by omega)]))
    · have hlt : i < 12 := by omega
      rw [if_neg (by exact nI_ge (b := 12) hlt (by omega))]
      simp only [ib_nI (show i < 2 ^ 31 by omega), gd_d hlt, ix_nI (show i < 2 ^ 31 by omega), gI_sM_n (show ¬ 501 = 503 by decide), nI_s]
      rcases hp i hlt with h | ⟨q, hq, h⟩
      · rw [h, if_pos (by decide), ih (i + 1) _ (by omega) (by omega)]
        refine congrArg kx (sM_ext (fun j => ?_))
        by_cases h2 : i + 1 ≤ j / 16 ∧ j / 16 < 12 ∧ gI σ 501 0 (j / 16) = nI (j % 16)
        · rw [if_pos h2, if_pos ⟨by omega, h2.2⟩]
        · rw [if_neg h2, if_neg]
          intro h3
          by_cases hji : j / 16 = i
          · rw [hji, h] at h3
            have h4 := congrArg Int32.toInt h3.2.2
            rw [nI_toInt (by omega)] at h4
            have : ((-1 : Int32)).toInt = -1 := by decide
            omega
          · exact h2 ⟨by omega, h3.2⟩
      · simp only [h, if_neg (nI_pos (show q < 2 ^ 31 by omega)), nI_16, ib_nI (show 16 * i + q < 2 ^ 31 by omega), gd_d (show 16 * i + q < 256 by omega), ix_nI (show 16 * i + q < 2 ^ 31 by omega), nm_b, sI_sM]
        rw [ih (i + 1) _ (by omega) (by omega)]
        refine congrArg kx (sM_ext (fun j => ?_))
        rw [upd_a]
        by_cases hj : j = 16 * i + q
        · subst hj
          have h1 : (16 * i + q) / 16 = i := by omega
          have h2 : (16 * i + q) % 16 = q := by omega
          rw [h1, h2, if_neg (by omega), if_pos rfl, if_pos ⟨Nat.le_refl _, hlt, h⟩]
        · rw [if_neg hj]
          by_cases h2 : i + 1 ≤ j / 16 ∧ j / 16 < 12 ∧ gI σ 501 0 (j / 16) = nI (j % 16)
          · rw [if_pos h2, if_pos ⟨by omega, h2.2⟩]
          · rw [if_neg h2, if_neg]
            intro h3
            by_cases hji : j / 16 = i
            · rw [hji, h] at h3
              have h4 := (nI_eq (show q < 2 ^ 31 by omega) (show j % 16 < 2 ^ 31 by omega)).mp h3.2.2
              omega
            · exact h2 ⟨by omega, h3.2⟩

/-! ===== the closure, the model's side ===== -/
/-- what the mark j becomes by way of m -/
def stp (m : Nat) (f : Nat → Int32) (j : Nat) : Int32 := if f j = 0 then (if f (16 * (j / 16) + m) = 0 then 0 else if f (16 * m + j % 16) = 0 then 0 else 1) else 1
theorem stp_congr {m : Nat} {f g : Nat → Int32} {j : Nat} (h1 : f j = 0 ↔ g j = 0) (h2 : f (16 * (j / 16) + m) = 0 ↔ g (16 * (j / 16) + m) = 0) (h3 : f (16 * m + j % 16) = 0 ↔ g (16 * m + j % 16) = 0) : stp m f j = stp m g j := by
  unfold stp
  simp only [h1, h2, h3]
/-- in m's own column and row nothing becomes a mark that was none -/
theorem stp_col {m : Nat} {f : Nat → Int32} {x : Nat} (hm : m < 16) : stp m f (16 * x + m) = 0 ↔ f (16 * x + m) = 0 := by
  unfold stp
  have h1 : (16 * x + m) / 16 = x := by omega
  rw [h1]
  by_cases h : f (16 * x + m) = 0 <;> simp [h]
theorem stp_row {m : Nat} {f : Nat → Int32} {y : Nat} (hy : y < 16) : stp m f (16 * m + y) = 0 ↔ f (16 * m + y) = 0 := by
  unfold stp
  have h1 : (16 * m + y) / 16 = m := by omega
  have h2 : (16 * m + y) % 16 = y := by omega
  rw [h1, h2]
  by_cases h : f (16 * m + y) = 0
  · by_cases h3 : f (16 * m + m) = 0 <;> simp [h, h3]
  · simp [h]
theorem cl_y (kx : Int32 → Int32 → PS → Option (Int32 × PS)) (σ : PS) {m x : Nat} (hm : m < 16) (hx : x < 16) : ∀ (n y : Nat) (f : Nat → Int32), y ≤ 16 → 16 - y < n → X10_close_l95 kx n (nI m) (nI x) (nI y) (sM σ 503 f) = kx (nI m) (nI x) (sM σ 503 (fun j => if j / 16 = x ∧ y ≤ j % 16 then stp m f j else f j)) := by
  intro n
  induction n with
  | zero => intro y f hy hn; omega
  | succ n ih =>
    intro y f hy hn
    rw [X10_close_l95.eq_2]
    by_cases he : y = 16
    · subst he
      rw [if_pos (by decide)]
      exact congrArg (kx (nI m) (nI x)) (sM_ext (fun j => by rw [if_neg (by omega)]))
    · have hlt : y < 16 := by omega
      rw [if_neg (by exact nI_ge (b := 16) hlt (by omega))]
      simp only [nI_16, ib_nI (show 16 * x + y < 2 ^ 31 by omega), ib_nI (show 16 * x + m < 2 ^ 31 by omega), ib_nI (show 16 * m + y < 2 ^ 31 by omega), gd_d (show 16 * x + y < 256 by omega), gd_d (show 16 * x + m < 256 by omega), gd_d (show 16 * m + y < 256 by omega), ix_nI (show 16 * x + y < 2 ^ 31 by omega), ix_nI (show 16 * x + m < 2 ^ 31 by omega), ix_nI (show 16 * m + y < 2 ^ 31 by omega), gI_sM_s, nm_b, sI_sM, nI_s]
      have d1 : (16 * x + y) / 16 = x := by omega
      have d2 : (16 * x + y) % 16 = y := by omega
      have key : ∀ v, v = stp m f (16 * x + y) → X10_close_l95 kx n (nI m) (nI x) (nI (y + 1)) (sM σ 503 (upd f (16 * x + y) v)) = kx (nI m) (nI x) (sM σ 503 (fun j => if j / 16 = x ∧ y ≤ j % 16 then stp m f j else f j)) := by
        intro v hv
        rw [ih (y + 1) _ (by omega) (by omega)]
        refine congrArg (kx (nI m) (nI x)) (sM_ext (fun j => ?_))
        by_cases hj : j = 16 * x + y
        · subst hj
          rw [if_neg (by omega), upd_a, if_pos rfl, if_pos ⟨d1, by omega⟩, hv]
        · by_cases h2 : j / 16 = x ∧ y + 1 ≤ j % 16
          · rw [if_pos h2, if_pos ⟨h2.1, by omega⟩]
            refine stp_congr ?_ ?_ ?_
            · rw [upd_a, if_neg hj]
            · rw [h2.1]
              by_cases hmy : m = y
              · subst hmy
                rw [upd_a, if_pos rfl, hv]
                exact stp_col hm
              · rw [upd_a, if_neg (by omega)]
            · rw [upd_a, if_neg (by omega)]
          · rw [if_neg h2, upd_a, if_neg hj, if_neg (by omega)]
      by_cases c1 : f (16 * x + y) = 0
      · rw [if_pos c1]
        by_cases c2 : f (16 * x + m) = 0
        · rw [if_pos c2]
          exact key 0 (by unfold stp; rw [d1, d2]; simp [c1, c2])
        · rw [if_neg c2]
          by_cases c3 : f (16 * m + y) = 0
          · rw [if_pos c3]
            exact key 0 (by unfold stp; rw [d1, d2]; simp [c1, c2, c3])
          · rw [if_neg c3]
            exact key 1 (by unfold stp; rw [d1, d2]; simp [c1, c2, c3])
      · rw [if_neg c1]
        exact key 1 (by unfold stp; simp [c1])
theorem cl_x (kx : Int32 → PS → Option (Int32 × PS)) (σ : PS) {m : Nat} (hm : m < 16) : ∀ (n x : Nat) (f : Nat → Int32), x ≤ 16 → 16 - x < n → X10_close_l87 kx n (nI m) (nI x) (sM σ 503 f) = kx (nI m) (sM σ 503 (fun j => if x ≤ j / 16 ∧ j / 16 < 16 then stp m f j else f j)) := by
  intro n
  induction n with
  | zero => intro x f hx hn; omega
  | succ n ih =>
    intro x f hx hn
    rw [X10_close_l87.eq_2]
    by_cases he : x = 16
    · subst he
      rw [if_pos (by decide)]
      exact congrArg (kx (nI m)) (sM_ext (fun j => by rw [if_neg (by omega)]))
    · have hlt : x < 16 := by omega
      rw [if_neg (by exact nI_ge (b := 16) hlt (by omega))]
      rw [show (0 : Int32) = nI 0 from rfl, cl_y _ σ hm hlt fuel 0 f (by omega) (by have := fuel_ge; omega)]
      show X10_close_l87 kx n (nI m) (nI x + 1) _ = _
      rw [nI_s, ih (x + 1) _ (by omega) (by omega)]
      refine congrArg (kx (nI m)) (sM_ext (fun j => ?_))
      by_cases h2 : x + 1 ≤ j / 16 ∧ j / 16 < 16
      · rw [if_pos h2, if_pos ⟨by omega, h2.2⟩]
        refine stp_congr ?_ ?_ ?_
        · rw [if_neg (by omega)]
        · have : (16 * (j / 16) + m) / 16 = j / 16 := by omega
          rw [this, if_neg (by omega)]
        · have e1 : (16 * m + j % 16) / 16 = m := by omega
          rw [e1]
          by_cases hmx : m = x
          · rw [if_pos ⟨hmx, by omega⟩]
            exact stp_row (by omega)
          · rw [if_neg (by omega)]
      · rw [if_neg h2]
        by_cases h3 : j / 16 = x
        · rw [if_pos ⟨h3, by omega⟩, if_pos ⟨by omega, by omega⟩]
        · rw [if_neg (fun q => h3 q.1), if_neg (by omega)]
/-- the whole closure: by way of m, m + 1 .. (k of them) -/
def wrs : Nat → Nat → (Nat → Int32) → (Nat → Int32)
  | 0, _, f => f
  | k + 1, m, f => wrs k (m + 1) (fun j => if j / 16 < 16 then stp m f j else f j)
theorem cl_m (kx : PS → Option (Int32 × PS)) (σ : PS) : ∀ (n m : Nat) (f : Nat → Int32), m ≤ 16 → 16 - m < n → X10_close_l79 kx n (nI m) (sM σ 503 f) = kx (sM σ 503 (wrs (16 - m) m f)) := by
  intro n
  induction n with
  | zero => intro m f hm hn; omega
  | succ n ih =>
    intro m f hm hn
    rw [X10_close_l79.eq_2]
    by_cases he : m = 16
    · subst he
      rw [if_pos (by decide)]
      rfl
    · have hlt : m < 16 := by omega
      rw [if_neg (by exact nI_ge (b := 16) hlt (by omega))]
      rw [show (0 : Int32) = nI 0 from rfl, cl_x _ σ hlt fuel 0 f (by omega) (by have := fuel_ge; omega)]
      show X10_close_l79 kx n (nI m + 1) _ = _
      rw [nI_s, ih (m + 1) _ (by omega) (by omega)]
      have e : 16 - m = (16 - (m + 1)) + 1 := by omega
      rw [e]
      show kx (sM σ 503 (wrs (16 - (m + 1)) (m + 1) (fun j => if 0 ≤ j / 16 ∧ j / 16 < 16 then stp m f j else f j))) = kx (sM σ 503 (wrs (16 - (m + 1)) (m + 1) (fun j => if j / 16 < 16 then stp m f j else f j)))
      simp only [Nat.zero_le, true_and]

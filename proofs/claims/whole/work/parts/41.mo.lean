/-! ===== more specific is a strict order ===== -/
def leP (τ : PS) (h g i : Nat) : Bool := nrP τ h g i || smP τ h g i
theorem smP_iff {τ : PS} {h g i : Nat} : smP τ h g i = true ↔ cdP τ h i = cdP τ g i ∧ lwP τ h i = lwP τ g i ∧ hgP τ h i = hgP τ g i := by
  unfold smP
  simp only [Bool.and_eq_true, decide_eq_true_eq, and_assoc]
theorem leP_iff {τ : PS} {h g i : Nat} : leP τ h g i = true ↔ (cdP τ h i = cdP τ g i ∧ lwP τ g i ≤ lwP τ h i ∧ hgP τ h i ≤ hgP τ g i) ∨ (¬ cdP τ h i = cdP τ g i ∧ ¬ cdP τ h i = -1 ∧ (cdP τ g i = -1 ∨ blP τ (cdP τ h i) (cdP τ g i) = true)) := by
  unfold leP nrP
  by_cases k1 : cdP τ h i = cdP τ g i
  · rw [if_pos k1]
    rcases hs : smP τ h g i with _ | _
    · simp [k1, Int32.not_lt]
    · obtain ⟨a1, a2, a3⟩ := smP_iff.mp hs
      simp only [Bool.not_true, Bool.and_false, Bool.or_true, true_iff]
      exact Or.inl ⟨k1, by rw [a2]; exact Int32.le_refl _, by rw [a3]; exact Int32.le_refl _⟩
  · rw [if_neg k1]
    have hs : smP τ h g i = false := by
      rcases hs : smP τ h g i with _ | _
      · rfl
      · exact absurd (smP_iff.mp hs).1 k1
    rw [hs]
    by_cases k2 : cdP τ h i = -1
    · simp [k2] at k1 ⊢
      intro q
      exact absurd q k1
    · by_cases k3 : cdP τ g i = -1
      · simp [k2, k3]
      · simp [k1, k2, k3]
theorem nrP_iff {τ : PS} {h g i : Nat} : nrP τ h g i = true ↔ leP τ h g i = true ∧ smP τ h g i = false := by
  unfold leP
  rcases hs : smP τ h g i with _ | _
  · simp
  · simp only [Bool.or_true, true_and]
    obtain ⟨a1, a2, a3⟩ := smP_iff.mp hs
    unfold nrP
    rw [if_pos a1, hs]
    simp
theorem allP_iff {τ : PS} {h g : Nat} : ∀ k i, allP τ h g k i = true ↔ ∀ j, j < k → leP τ h g (i + j) = true := by
  intro k
  induction k with
  | zero => intro i; simp [allP]
  | succ k ih =>
    intro i
    unfold allP
    rw [Bool.and_eq_true, ih]
    constructor
    · intro ⟨a, b⟩ j hj
      rcases Nat.eq_zero_or_pos j with rfl | hp
      · exact a
      · have := b (j - 1) (by omega)
        rwa [show i + 1 + (j - 1) = i + j by omega] at this
    · intro a
      refine ⟨a 0 (by omega), fun j hj => ?_⟩
      have := a (j + 1) (by omega)
      rwa [show i + (j + 1) = i + 1 + j by omega] at this
theorem anyP_iff {τ : PS} {h g : Nat} : ∀ k i, anyP τ h g k i = true ↔ ∃ j, j < k ∧ nrP τ h g (i + j) = true := by
  intro k
  induction k with
  | zero => intro i; simp [anyP]
  | succ k ih =>
    intro i
    unfold anyP
    rw [Bool.or_eq_true, ih]
    constructor
    · rintro (a | ⟨j, hj, a⟩)
      · exact ⟨0, by omega, a⟩
      · exact ⟨j + 1, by omega, by rwa [show i + (j + 1) = i + 1 + j by omega]⟩
    · rintro ⟨j, hj, a⟩
      rcases Nat.eq_zero_or_pos j with rfl | hp
      · exact Or.inl a
      · exact Or.inr ⟨j - 1, by omega, by rwa [show i + 1 + (j - 1) = i + j by omega]⟩
theorem moP_iff {τ : PS} {p h g : Nat} : moP τ p h g = true ↔ (∀ i, i < p → leP τ h g i = true) ∧ ∃ i, i < p ∧ smP τ h g i = false := by
  unfold moP
  rw [Bool.and_eq_true, allP_iff, anyP_iff]
  simp only [Nat.zero_add]
  constructor
  · rintro ⟨a, j, hj, b⟩
    exact ⟨a, j, hj, (nrP_iff.mp b).2⟩
  · rintro ⟨a, j, hj, b⟩
    exact ⟨a, j, hj, nrP_iff.mpr ⟨a j hj, b⟩⟩
theorem mo_irr (τ : PS) (p h : Nat) : moP τ p h h = false := by
  rcases hm : moP τ p h h with _ | _
  · rfl
  · obtain ⟨-, i, hi, b⟩ := moP_iff.mp hm
    rw [smP_iff.mpr ⟨rfl, rfl, rfl⟩] at b
    cases b
theorem blP_nI {τ : PS} {x y : Nat} (hx : x < 16) (hy : y < 16) : blP τ (nI x) (nI y) = true ↔ gI τ 503 0 (16 * x + y) = 1 := by
  unfold blP
  rw [ix_nI (by omega), ix_nI (by omega), decide_eq_true_eq]
theorem nI_m1 {a : Nat} (h : a < 2 ^ 31) : ¬ nI a = (-1 : Int32) := fun q => by
  have := congrArg Int32.toInt q
  rw [nI_toInt h] at this
  have h9 : ((-1 : Int32)).toInt = -1 := by decide
  omega
theorem le_tr {n : Nat} {τ : PS} (hO : rO τ) (hQ : rQ n τ) {h g k i : Nat} (hh : h < n) (hg : g < n) (hk : k < n) (hi : i < 2) (a : leP τ h g i = true) (b : leP τ g k i = true) : leP τ h k i = true := by
  rw [leP_iff] at a b ⊢
  rcases a with ⟨a1, a2, a3⟩ | ⟨a1, a2, a3⟩
  · rcases b with ⟨b1, b2, b3⟩ | ⟨b1, b2, b3⟩
    · exact Or.inl ⟨a1.trans b1, Int32.le_trans b2 a2, Int32.le_trans a3 b3⟩
    · rw [a1]; exact Or.inr ⟨b1, b2, b3⟩
  · rcases b with ⟨b1, b2, b3⟩ | ⟨b1, b2, b3⟩
    · rw [← b1]; exact Or.inr ⟨a1, a2, a3⟩
    · rcases a3 with a3 | a3
      · exact absurd a3 b2
      · rcases hQ h i hh hi with q | ⟨x, hx, q⟩
        · exact absurd q a2
        · rcases hQ g i hg hi with r | ⟨y, hy, r⟩
          · exact absurd r b2
          · rcases b3 with b3 | b3
            · refine Or.inr ⟨fun e => a2 (e.trans b3), a2, Or.inl b3⟩
            · rcases hQ k i hk hi with s | ⟨w, hw, s⟩
              · refine Or.inr ⟨fun e => a2 (e.trans s), a2, Or.inl s⟩
              · rw [q, r, blP_nI hx hy] at a3
                rw [r, s, blP_nI hy hw] at b3
                have c := hO.1 x y w hx hy hw a3 b3
                refine Or.inr ⟨fun e => ?_, a2, Or.inr (by rw [q, s, blP_nI hx hw]; exact c)⟩
                have exw : x = w := (nI_eq (by omega) (by omega)).mp (by rw [← q, ← s]; exact e)
                subst exw
                have := hO.2 x y hx hy a3 b3
                subst this
                exact a1 (q.trans r.symm)
theorem le_as {n : Nat} {τ : PS} (hO : rO τ) (hQ : rQ n τ) {h g i : Nat} (hh : h < n) (hg : g < n) (hi : i < 2) (a : leP τ h g i = true) (b : leP τ g h i = true) : smP τ h g i = true := by
  rw [leP_iff] at a b
  rw [smP_iff]
  rcases a with ⟨a1, a2, a3⟩ | ⟨a1, a2, a3⟩
  · rcases b with ⟨b1, b2, b3⟩ | ⟨b1, b2, b3⟩
    · exact ⟨a1, Int32.le_antisymm b2 a2, Int32.le_antisymm a3 b3⟩
    · exact absurd a1.symm b1
  · rcases b with ⟨b1, b2, b3⟩ | ⟨b1, b2, b3⟩
    · exact absurd b1.symm a1
    · have a3 := a3.elim (fun q => absurd q b2) id
      have b3 := b3.elim (fun q => absurd q a2) id
      rcases hQ h i hh hi with q | ⟨x, hx, q⟩
      · exact absurd q a2
      · rcases hQ g i hg hi with r | ⟨y, hy, r⟩
        · exact absurd r b2
        · rw [q, r, blP_nI hx hy] at a3
          rw [q, r, blP_nI hy hx] at b3
          have := hO.2 x y hx hy a3 b3
          subst this
          exact absurd (q.trans r.symm) a1
theorem mo_tr {n p : Nat} {τ : PS} (hO : rO τ) (hQ : rQ n τ) (hp : p ≤ 2) {h g k : Nat} (hh : h < n) (hg : g < n) (hk : k < n) (a : moP τ p h g = true) (b : moP τ p g k = true) : moP τ p h k = true := by
  rw [moP_iff] at a b ⊢
  refine ⟨fun i hi => le_tr hO hQ hh hg hk (by omega) (a.1 i hi) (b.1 i hi), ?_⟩
  obtain ⟨i, hi, s⟩ := a.2
  refine ⟨i, hi, ?_⟩
  rcases hs : smP τ h k i with _ | _
  · rfl
  · exfalso
    obtain ⟨c1, c2, c3⟩ := smP_iff.mp hs
    have hgh : leP τ g h i = true := by
      have := b.1 i hi
      rw [leP_iff] at this ⊢
      rw [c1, c2, c3]
      exact this
    rw [le_as hO hQ hh hg (by omega) (a.1 i hi) hgh] at s
    cases s
theorem mo_as {n p : Nat} {τ : PS} (hO : rO τ) (hQ : rQ n τ) (hp : p ≤ 2) {h g : Nat} (hh : h < n) (hg : g < n) (a : moP τ p h g = true) (b : moP τ p g h = true) : False := by
  have := mo_tr hO hQ hp hh hg hh a b
  rw [mo_irr] at this
  cases this

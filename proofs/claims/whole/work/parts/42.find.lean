/-! ===== counting, members by rank, all from a place on ===== -/
def cnt (P : Nat → Bool) : Nat → Nat
  | 0 => 0
  | n + 1 => cnt P n + (if P n = true then 1 else 0)
theorem cnt_s (P : Nat → Bool) (n : Nat) : cnt P (n + 1) = cnt P n + (if P n = true then 1 else 0) := rfl
theorem cnt_le (P : Nat → Bool) (n : Nat) : cnt P n ≤ n := by
  induction n with
  | zero => exact Nat.le_refl _
  | succ n ih => rw [cnt_s]; split <;> omega
theorem cnt_zero {P : Nat → Bool} {n : Nat} : cnt P n = 0 ↔ ∀ i, i < n → P i = false := by
  induction n with
  | zero => simp [cnt]
  | succ n ih =>
    rw [cnt_s]
    constructor
    · intro h i hi
      have h0 : cnt P n = 0 := by omega
      rcases Nat.lt_or_ge i n with q | q
      · exact ih.mp h0 i q
      · have e : i = n := by omega
        subst e
        rcases hp : P i with _ | _
        · rfl
        · rw [if_pos hp] at h; omega
    · intro h
      rw [ih.mpr (fun i hi => h i (by omega)), if_neg (by rw [h n (by omega)]; decide)]
theorem cnt_congr {P Q : Nat → Bool} {n : Nat} (h : ∀ i, i < n → P i = Q i) : cnt P n = cnt Q n := by
  induction n with
  | zero => rfl
  | succ n ih => rw [cnt_s, cnt_s, ih (fun i hi => h i (by omega)), h n (by omega)]
theorem cnt_mono (P : Nat → Bool) {m n : Nat} (h : m ≤ n) : cnt P m ≤ cnt P n := by
  induction n with
  | zero => have : m = 0 := by omega
            subst this; exact Nat.le_refl _
  | succ n ih =>
    rcases Nat.lt_or_ge m (n + 1) with q | q
    · have := ih (by omega)
      rw [cnt_s]; omega
    · have : m = n + 1 := by omega
      subst this; exact Nat.le_refl _
theorem cnt_gap {P : Nat → Bool} {m n : Nat} (h : m ≤ n) (hn : ∀ i, m ≤ i → i < n → P i = false) : cnt P n = cnt P m := by
  induction n with
  | zero => have : m = 0 := by omega
            subst this; rfl
  | succ n ih =>
    rcases Nat.lt_or_ge m (n + 1) with q | q
    · rw [cnt_s, ih (by omega) (fun i h1 h2 => hn i h1 (by omega)), if_neg (by rw [hn n (by omega) (by omega)]; decide)]; omega
    · have : m = n + 1 := by omega
      subst this; rfl
/-- a set told by a rising row: as many below a member as stand before it -/
theorem cnt_la {P : Nat → Bool} {la : Nat → Nat} {S : Nat → Bool} {lc N : Nat} (hm : ∀ i j, i < j → j < lc → la i < la j) (hN : ∀ i, i < lc → la i < N) (hP : ∀ h, h < N → (P h = true ↔ ∃ i, i < lc ∧ la i = h ∧ S i = true)) : ∀ i, i < lc → cnt P (la i) = cnt S i := by
  intro i
  induction i with
  | zero =>
    intro hi
    rw [show cnt S 0 = 0 from rfl, cnt_zero]
    intro h hh
    rcases hp : P h with _ | _
    · rfl
    · obtain ⟨j, hj, e, -⟩ := (hP h (by have := hN 0 hi; omega)).mp hp
      rcases Nat.eq_zero_or_pos j with rfl | q
      · omega
      · have := hm 0 j q hj; omega
  | succ i ih =>
    intro hi
    have h1 := hm i (i + 1) (by omega) hi
    have hNi := hN (i + 1) hi
    rw [cnt_s, ← ih (by omega)]
    have e1 : cnt P (la (i + 1)) = cnt P (la i + 1) := cnt_gap (by omega) (fun h a b => by
      rcases hp : P h with _ | _
      · rfl
      · obtain ⟨j, hj, e, -⟩ := (hP h (by omega)).mp hp
        rcases Nat.lt_trichotomy j i with q | q | q
        · have := hm j i q (by omega); omega
        · subst q; omega
        · rcases Nat.lt_or_ge j (i + 2) with r | r
          · have : j = i + 1 := by omega
            subst this; omega
          · have := hm (i + 1) j (by omega) hj; omega)
    rw [e1, cnt_s]
    have e2 : P (la i) = true ↔ S i = true := by
      rw [hP (la i) (by omega)]
      constructor
      · rintro ⟨j, hj, e, s⟩
        have : j = i := by
          rcases Nat.lt_trichotomy j i with q | q | q
          · have := hm j i q (by omega); omega
          · exact q
          · have := hm i j q hj; omega
        subst this; exact s
      · intro s; exact ⟨i, by omega, rfl, s⟩
    rcases hs : S i with _ | _
    · rw [if_neg (fun q => by rw [e2.mp q] at hs; cases hs), if_neg (by decide)]
    · rw [if_pos (e2.mpr hs), if_pos rfl]
/-- the member of a rank -/
theorem mem_l (z : Nat × Nat) (σ : PS) (v k : Int32) : ∀ (n i : Nat), i ≤ 8 → 8 - i < n → ∃ r, X9_memberAt_l4 z σ (some (-1)) n v k (nI (cnt (bt v) i)) (nI i) = some r ∧ ((r = -1 ∧ ∀ j, i ≤ j → j < 8 → bt v j = true → ¬ nI (cnt (bt v) j) = k) ∨ ∃ j, i ≤ j ∧ j < 8 ∧ bt v j = true ∧ nI (cnt (bt v) j) = k ∧ r = nI j) := by
  intro n
  induction n with
  | zero => intro i hi hn; omega
  | succ n ih =>
    intro i hi hn
    rw [X9_memberAt_l4.eq_2]
    by_cases he : i = 8
    · subst he
      rw [if_pos (by decide)]
      exact ⟨-1, rfl, Or.inl ⟨rfl, fun j h1 h2 => by omega⟩⟩
    · have hlt : i < 8 := by omega
      rw [if_neg (show ¬ (8 : Int32) ≤ nI i from nI_ge (b := 8) hlt (by omega))]
      obtain ⟨r, e, hr⟩ := ih (i + 1) (by omega) (by omega)
      rw [cnt_s] at e
      by_cases hb : bt v i = false
      · rw [if_pos ((b_test (by omega)).mpr hb), nI_s]
        rw [if_neg (by rw [hb]; decide)] at e
        refine ⟨r, e, ?_⟩
        rcases hr with ⟨h1, h2⟩ | ⟨j, h1, h2⟩
        · refine Or.inl ⟨h1, fun j a b c => ?_⟩
          rcases Nat.lt_or_ge i j with q | q
          · exact h2 j (by omega) b c
          · have : j = i := by omega
            subst this; rw [hb] at c; cases c
        · exact Or.inr ⟨j, by omega, h2⟩
      · have hb' : bt v i = true := by simpa using hb
        rw [if_neg (fun q => hb ((b_test (by omega)).mp q)), nI_s, nI_s]
        by_cases hk : nI (cnt (bt v) i) = k
        · rw [if_pos hk]
          exact ⟨nI i, rfl, Or.inr ⟨i, Nat.le_refl _, hlt, hb', hk, rfl⟩⟩
        · rw [if_neg hk]
          rw [if_pos hb'] at e
          refine ⟨r, e, ?_⟩
          rcases hr with ⟨h1, h2⟩ | ⟨j, h1, h2⟩
          · refine Or.inl ⟨h1, fun j a b c => ?_⟩
            rcases Nat.lt_or_ge i j with q | q
            · exact h2 j (by omega) b c
            · have : j = i := by omega
              subst this; exact hk
          · exact Or.inr ⟨j, by omega, h2⟩
theorem memC (z : Nat × Nat) (σ : PS) (v k : Int32) : ∃ r, X9_memberAt z v k σ = some r ∧ ((r = -1 ∧ ∀ j, j < 8 → bt v j = true → ¬ nI (cnt (bt v) j) = k) ∨ ∃ j, j < 8 ∧ bt v j = true ∧ nI (cnt (bt v) j) = k ∧ r = nI j) := by
  have hfu := fuel_ge
  obtain ⟨r, e, hr⟩ := mem_l z σ v k fuel 0 (by omega) (by omega)
  refine ⟨r, e, ?_⟩
  rcases hr with ⟨h1, h2⟩ | ⟨j, h1, h2⟩
  · exact Or.inl ⟨h1, fun j a => h2 j (by omega) a⟩
  · exact Or.inr ⟨j, h2⟩
theorem mem0 (z : Nat × Nat) (σ : PS) (v : Int32) : ∃ r, X9_memberAt z v 0 σ = some r ∧ ((r = -1 ∧ ∀ j, j < 8 → bt v j = false) ∨ ∃ j, j < 8 ∧ bt v j = true ∧ (∀ i, i < j → bt v i = false) ∧ r = nI j) := by
  obtain ⟨r, e, hr⟩ := memC z σ v 0
  refine ⟨r, e, ?_⟩
  have key : ∀ j, j < 8 → (nI (cnt (bt v) j) = 0 ↔ ∀ i, i < j → bt v i = false) := fun j hj => by
    have hc := cnt_le (bt v) j
    rw [← cnt_zero, show (0 : Int32) = nI 0 from rfl, nI_eq (by omega) (by omega)]
  rcases hr with ⟨h1, h2⟩ | ⟨j, h1, h2, h3, h4⟩
  · refine Or.inl ⟨h1, ?_⟩
    have : ∀ n, n ≤ 8 → ∀ i, i < n → bt v i = false := by
      intro n
      induction n with
      | zero => intro _ i hi; omega
      | succ n ih =>
        intro hn i hi
        rcases Nat.lt_or_ge i n with q | q
        · exact ih (by omega) i q
        · have : i = n := by omega
          subst this
          rcases hb : bt v i with _ | _
          · rfl
          · exact absurd ((key i (by omega)).mpr (ih (by omega))) (h2 i (by omega) hb)
    exact this 8 (Nat.le_refl _)
  · exact Or.inr ⟨j, h1, h2, (key j h1).mp h3, h4⟩
/-- all k from i on -/
def allB (P : Nat → Bool) : Nat → Nat → Bool
  | 0, _ => true
  | k + 1, i => P i && allB P k (i + 1)
theorem allB_iff {P : Nat → Bool} : ∀ k i, allB P k i = true ↔ ∀ j, i ≤ j → j < i + k → P j = true := by
  intro k
  induction k with
  | zero => intro i; simp only [allB, true_iff]; intro j a b; omega
  | succ k ih =>
    intro i
    unfold allB
    rw [Bool.and_eq_true, ih]
    constructor
    · intro ⟨a, b⟩ j h1 h2
      rcases Nat.lt_or_ge i j with q | q
      · exact b j (by omega) (by omega)
      · have : j = i := by omega
        subst this; exact a
    · intro a
      exact ⟨a i (by omega) (by omega), fun j h1 h2 => a j (by omega) (by omega)⟩
/-! sets -/
theorem mkS_congr {n : Nat} {P Q : Nat → Bool} (h : ∀ i, i < n → P i = Q i) : mkS n P = mkS n Q := by
  induction n with
  | zero => rfl
  | succ n ih => rw [mkS_s, mkS_s, ih (fun i hi => h i (by omega)), h n (by omega)]
theorem mkS_and {n : Nat} (hn : n ≤ 32) (P Q : Nat → Bool) : mkS n P &&& mkS n Q = mkS n (fun i => P i && Q i) := by
  apply b_ext
  intro i hi
  rw [b_and, bt_mkS _ n hn i hi, bt_mkS _ n hn i hi, bt_mkS _ n hn i hi]
  rcases decide (i < n) <;> simp
theorem mkS_all : ∀ n, n < 9 → ((1 : Int32) <<< (nI n &&& 31)) - (1 : Int32) = mkS n (fun _ => true) := by decide +kernel
theorem mkS_0 {n : Nat} (hn : n ≤ 32) {P : Nat → Bool} : mkS n P = 0 ↔ ∀ i, i < n → P i = false := by
  constructor
  · intro h i hi
    have := congrArg (fun x => bt x i) h
    simp only [bt_mkS P n hn i (by omega), b_0] at this
    simpa [hi] using this
  · intro h
    apply b_ext
    intro i hi
    rw [bt_mkS P n hn i hi, b_0]
    by_cases q : i < n
    · simp [h i q]
    · simp [q]
theorem b_not (x : Int32) {i : Nat} (hi : i < 32) : bt (x ^^^ (-1)) i = !bt x i := by
  rw [b_xor, b_m1 i hi]; simp
/-- the chosen one of a set -/
def isCh (n : Nat) (S : Nat → Bool) (B : Nat → Nat → Bool) (i : Nat) : Prop := i < n ∧ S i = true ∧ ∀ j, j < n → S j = true → j = i ∨ B i j = true
theorem ch_l (z : Nat × Nat) {σ : PS} {f lc : Nat} {S : Nat → Bool} {B : Nat → Nat → Bool} (h1 : lc ≤ 8) (h2 : gI σ 50 f 7 = nI lc) (hb : ∀ i, i < lc → gI σ 57 f i = mkS lc (B i)) : ∀ (n i : Nat), i ≤ lc → lc - i < n → ∃ r, X1_chosenOf_l2 z f σ (some (-1)) n (mkS lc S) (nI i) = some r ∧ ((r = -1 ∧ ∀ j, i ≤ j → ¬ isCh lc S B j) ∨ ∃ j, isCh lc S B j ∧ r = nI j) := by
  intro n
  induction n with
  | zero => intro i hi hn; omega
  | succ n ih =>
    intro i hi hn
    rw [X1_chosenOf_l2.eq_2, h2]
    by_cases he : i = lc
    · subst he
      rw [if_pos (nI_le (Nat.le_refl _) (by omega))]
      exact ⟨-1, rfl, Or.inl ⟨rfl, fun j hj q => by have := q.1; omega⟩⟩
    · have hlt : i < lc := by omega
      rw [if_neg (nI_ge hlt (by omega)), nm_b, nI_s]
      obtain ⟨r, e, hr⟩ := ih (i + 1) (by omega) (by omega)
      have next : (¬ isCh lc S B i) → ((r = -1 ∧ ∀ j, i ≤ j → ¬ isCh lc S B j) ∨ ∃ j, isCh lc S B j ∧ r = nI j) := fun hno => by
        rcases hr with ⟨a, b⟩ | q
        · refine Or.inl ⟨a, fun j hj => ?_⟩
          rcases Nat.lt_or_ge i j with q | q
          · exact b j (by omega)
          · have : j = i := by omega
            subst this; exact hno
        · exact Or.inr q
      by_cases hS : S i = true
      · have hbS : ¬ bt (mkS lc S) i = false := by rw [bt_mkS S lc (by omega) i (by omega)]; simp [hlt, hS]
        rw [if_neg (fun q => hbS ((b_test (by omega)).mp q)), ib_nI (by omega), gd_d (by omega), ix_nI (by omega), hb i hlt]
        have key : (((mkS lc S &&& (((1 : Int32) <<< (nI i &&& 31)) ^^^ (-1))) &&& (mkS lc (B i) ^^^ (-1))) = 0) ↔ isCh lc S B i := by
          constructor
          · intro q
            refine ⟨hlt, hS, fun j hj hs => ?_⟩
            have := congrArg (fun x => bt x j) q
            simp only [b_and, b_not _ (show j < 32 by omega), b_one (show i < 32 by omega) (show j < 32 by omega), bt_mkS _ lc (show lc ≤ 32 by omega) j (show j < 32 by omega), b_0] at this
            by_cases e : j = i
            · exact Or.inl e
            · right; simpa [hj, hs, e] using this
          · intro q
            apply b_ext
            intro j hj
            simp only [b_and, b_not _ hj, b_one (show i < 32 by omega) hj, bt_mkS _ lc (show lc ≤ 32 by omega) j hj, b_0]
            by_cases hjl : j < lc
            · rcases hs : S j with _ | _
              · simp
              · rcases q.2.2 j hjl hs with e | e
                · simp [e]
                · simp [e, hjl]
            · simp [hjl]
        by_cases hc : isCh lc S B i
        · rw [if_pos (key.mpr hc)]
          exact ⟨nI i, rfl, Or.inr ⟨i, hc, rfl⟩⟩
        · rw [if_neg (fun q => hc (key.mp q))]
          exact ⟨r, e, next hc⟩
      · have hbS : bt (mkS lc S) i = false := by rw [bt_mkS S lc (by omega) i (by omega)]; simp [hS]
        rw [if_pos ((b_test (by omega)).mpr hbS)]
        exact ⟨r, e, next (fun q => hS q.2.1)⟩
theorem chC (z : Nat × Nat) {σ : PS} {f lc : Nat} {S : Nat → Bool} {B : Nat → Nat → Bool} (h1 : lc ≤ 8) (h2 : gI σ 50 f 7 = nI lc) (hb : ∀ i, i < lc → gI σ 57 f i = mkS lc (B i)) : ∃ r, X1_chosenOf z f (mkS lc S) σ = some r ∧ ((r = -1 ∧ ∀ j, ¬ isCh lc S B j) ∨ ∃ j, isCh lc S B j ∧ r = nI j) := by
  have hfu := fuel_ge
  obtain ⟨r, e, hr⟩ := ch_l z (S := S) h1 h2 hb fuel 0 (by omega) (by omega)
  refine ⟨r, e, ?_⟩
  rcases hr with ⟨a, b⟩ | q
  · exact Or.inl ⟨a, fun j => b j (by omega)⟩
  · exact Or.inr q

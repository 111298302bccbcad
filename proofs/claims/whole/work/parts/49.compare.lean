/-! ===== the laid ones are compared and put in order anew ===== -/
theorem minEx {B : Nat → Nat → Bool} {L : Nat → Bool} {N : Nat} (hi : ∀ i, i < N → B i i = false) (ht : ∀ i j k, i < N → j < N → k < N → B i j = true → B j k = true → B i k = true) : ∀ n, n ≤ N → (∃ i, i < n ∧ L i = true) → ∃ m, m < n ∧ L m = true ∧ ∀ j, j < n → L j = true → B j m = false := by
  intro n
  induction n with
  | zero => rintro _ ⟨i, h, -⟩; omega
  | succ n ih =>
    rintro hn ⟨i, h1, h2⟩
    by_cases hx : ∃ i, i < n ∧ L i = true
    · obtain ⟨m, m1, m2, m3⟩ := ih (by omega) hx
      by_cases hb : L n = true ∧ B n m = true
      · refine ⟨n, by omega, hb.1, fun j hj hl => ?_⟩
        rcases Nat.lt_or_ge j n with q | q
        · rcases hc : B j n with _ | _
          · rfl
          · have := ht j n m (by omega) (by omega) (by omega) hc hb.2
            rw [m3 j q hl] at this
            cases this
        · have : j = n := by omega
          subst this; exact hi j (by omega)
      · refine ⟨m, by omega, m2, fun j hj hl => ?_⟩
        rcases Nat.lt_or_ge j n with q | q
        · exact m3 j q hl
        · have : j = n := by omega
          subst this
          rcases hc : B j m with _ | _
          · rfl
          · exact absurd ⟨hl, hc⟩ hb
    · have hin : i = n := by
        rcases Nat.lt_or_ge i n with q | q
        · exact absurd ⟨i, q, h2⟩ hx
        · omega
      subst hin
      refine ⟨i, by omega, h2, fun j hj hl => ?_⟩
      rcases Nat.lt_or_ge j i with q | q
      · exact absurd ⟨j, q, hl⟩ hx
      · have : j = i := by omega
        subst this; exact hi j (by omega)
theorem cnt_rm {P : Nat → Bool} {x : Nat} (hp : P x = true) : ∀ n, x < n → cnt (fun i => P i && !decide (i = x)) n + 1 = cnt P n := by
  intro n
  induction n with
  | zero => intro h; omega
  | succ n ih =>
    intro h
    rw [cnt_s, cnt_s]
    by_cases e : x = n
    · subst e
      have : cnt (fun i => P i && !decide (i = x)) x = cnt P x := cnt_congr (fun i hi => by simp [show ¬ i = x by omega])
      rw [this, if_pos hp, if_neg (by simp)]
    · have := ih (by omega)
      have e2 : (P n && !decide (n = x)) = P n := by simp [show ¬ n = x by omega]
      rw [e2]
      omega
theorem cnt_pos {P : Nat → Bool} {n : Nat} (h : 0 < cnt P n) : ∃ i, i < n ∧ P i = true := by
  apply Classical.byContradiction
  intro hx
  have : cnt P n = 0 := cnt_zero.mpr (fun i hi => by
    rcases hp : P i with _ | _
    · rfl
    · exact absurd ⟨i, hi, hp⟩ hx)
  omega
def isOk (n : Nat) (B : Nat → Nat → Bool) (o : Nat → Nat) (k : Nat) : Prop := o k < n ∧ (∀ j, j < k → ¬ o j = o k) ∧ (∀ i, i < n → (∀ j, j < k → ¬ o j = i) → B i (o k) = false) ∧ ∀ i, i < o k → (∀ j, j < k → ¬ o j = i) → ∃ g, g < n ∧ (∀ j, j < k → ¬ o j = g) ∧ B g i = true
theorem isOk_c {n : Nat} {B : Nat → Nat → Bool} {o o' : Nat → Nat} {k : Nat} (h : isOk n B o k) (e : ∀ j, j ≤ k → o' j = o j) : isOk n B o' k := by
  have hl : ∀ i, (∀ j, j < k → ¬ o' j = i) ↔ (∀ j, j < k → ¬ o j = i) := fun i => ⟨fun q j hj => by rw [← e j (by omega)]; exact q j hj, fun q j hj => by rw [e j (by omega)]; exact q j hj⟩
  obtain ⟨h1, h2, h3, h4⟩ := h
  unfold isOk
  rw [e k (Nat.le_refl _)]
  simp only [hl]
  exact ⟨h1, h2, h3, h4⟩
/-- what is left after k -/
def lft (o : Nat → Nat) (k i : Nat) : Bool := allB (fun j => !decide (o j = i)) k 0
theorem lft_iff {o : Nat → Nat} {k i : Nat} : lft o k i = true ↔ ∀ j, j < k → ¬ o j = i := by
  unfold lft
  rw [allB_iff]
  constructor
  · intro a j hj; simpa using a j (by omega) (by omega)
  · intro a j _ hj; simpa using a j (by omega)
theorem cnt_tt (n : Nat) : cnt (fun _ => true) n = n := by
  induction n with
  | zero => rfl
  | succ n ih => rw [cnt_s, ih]; simp
theorem lft_cnt {o : Nat → Nat} {n : Nat} : ∀ k, (∀ j, j < k → o j < n ∧ ∀ i, i < j → ¬ o i = o j) → cnt (lft o k) n + k = n := by
  intro k
  induction k with
  | zero =>
    intro _
    have : cnt (lft o 0) n = cnt (fun _ => true) n := cnt_congr (fun i _ => rfl)
    rw [this, cnt_tt]; rfl
  | succ k ih =>
    intro h
    have h1 := ih (fun j hj => h j (by omega))
    obtain ⟨h2, h3⟩ := h k (by omega)
    have h4 : lft o k (o k) = true := lft_iff.mpr (fun j hj => h3 j hj)
    have h5 := cnt_rm h4 n h2
    have h6 : cnt (lft o (k + 1)) n = cnt (fun i => lft o k i && !decide (i = o k)) n := cnt_congr (fun i _ => by
      rw [Bool.eq_iff_iff, lft_iff, Bool.and_eq_true, lft_iff]
      simp only [Bool.not_eq_true', decide_eq_false_iff_not]
      constructor
      · intro a; exact ⟨fun j hj => a j (by omega), fun q => a k (by omega) q.symm⟩
      · rintro ⟨a, b⟩ j hj
        rcases Nat.lt_or_ge j k with q | q
        · exact a j q
        · have : j = k := by omega
          subst this; exact fun q => b q.symm)
    omega
/-- beaten by one of a set -/
def bbA (n : Nat) (B : Nat → Nat → Bool) (L : Nat → Bool) (i : Nat) : Bool := !allB (fun j => !(L j && B j i)) n 0
theorem bbA_iff {n : Nat} {B : Nat → Nat → Bool} {L : Nat → Bool} {i : Nat} : bbA n B L i = false ↔ ∀ j, j < n → L j = true → B j i = false := by
  unfold bbA
  rw [Bool.not_eq_false', allB_iff]
  constructor
  · intro a j hj hl
    have := a j (by omega) (by omega)
    simpa [hl] using this
  · intro a j _ hj
    rcases hl : L j with _ | _
    · rfl
    · rw [a j (by omega) hl]; rfl
theorem bbC (z : Nat × Nat) {σ : PS} {f lc : Nat} {B : Nat → Nat → Bool} {L : Nat → Bool} (h1 : lc ≤ 8) (h2 : gI σ 50 f 7 = nI lc) (hb : ∀ i, i < lc → gI σ 57 f i = mkS lc (B i)) : X1_beatenByAny z f (mkS lc L) σ = some (mkS lc (bbA lc B L)) := by
  have hfu := fuel_ge
  have key : ∀ (n i : Nat) (v : Int32), i ≤ lc → lc - i < n → (∀ j, j < 32 → (bt v j = true ↔ j < lc ∧ ∃ g, g < i ∧ L g = true ∧ B g j = true)) → X1_beatenByAny_l4 z f σ (fun v2 => X1_beatenByAny_c35 z f σ v2) n (mkS lc L) v (nI i) = some (mkS lc (bbA lc B L)) := by
    intro n
    induction n with
    | zero => intro i v hi hn; omega
    | succ n ih =>
      intro i v hi hn hv
      rw [X1_beatenByAny_l4.eq_2, h2]
      by_cases he : i = lc
      · subst he
        rw [if_pos (nI_le (Nat.le_refl _) (by omega))]
        show some v = _
        congr 1
        apply b_ext
        intro j hj
        rw [Bool.eq_iff_iff, hv j hj, bt_mkS _ i (by omega) j hj, Bool.and_eq_true, decide_eq_true_eq]
        constructor
        · rintro ⟨a, g, g1, g2, g3⟩
          refine ⟨a, ?_⟩
          rcases hq : bbA i B L j with _ | _
          · rw [bbA_iff.mp hq g g1 g2] at g3; cases g3
          · rfl
        · rintro ⟨a, b⟩
          refine ⟨a, Classical.byContradiction (fun hx => ?_)⟩
          have : bbA i B L j = false := bbA_iff.mpr (fun g hg hl => by
            rcases hc : B g j with _ | _
            · rfl
            · exact absurd ⟨g, hg, hl, hc⟩ hx)
          rw [this] at b; cases b
      · have hlt : i < lc := by omega
        rw [if_neg (nI_ge hlt (by omega)), nI_s]
        rcases hl : L i with _ | _
        · rw [if_pos ((b_test (by omega)).mpr (by rw [bt_mkS _ lc (by omega) i (by omega), hl]; simp))]
          refine ih (i + 1) v (by omega) (by omega) (fun j hj => ?_)
          rw [hv j hj]
          constructor
          · rintro ⟨a, g, g1, g2⟩; exact ⟨a, g, by omega, g2⟩
          · rintro ⟨a, g, g1, g2, g3⟩
            refine ⟨a, g, ?_, g2, g3⟩
            rcases Nat.lt_or_ge g i with q | q
            · exact q
            · have : g = i := by omega
              subst this; rw [hl] at g2; cases g2
        · rw [if_neg (fun q => by rw [b_test (by omega), bt_mkS _ lc (by omega) i (by omega), hl] at q; simp [hlt] at q), ib_nI (by omega), gd_d (by omega), nm_b, ix_nI (by omega), hb i hlt]
          refine ih (i + 1) _ (by omega) (by omega) (fun j hj => ?_)
          rw [b_or, Bool.or_eq_true, hv j hj, bt_mkS _ lc (by omega) j hj, Bool.and_eq_true, decide_eq_true_eq]
          constructor
          · rintro (⟨a, g, g1, g2⟩ | ⟨a, b⟩)
            · exact ⟨a, g, by omega, g2⟩
            · exact ⟨a, i, by omega, hl, b⟩
          · rintro ⟨a, g, g1, g2, g3⟩
            rcases Nat.lt_or_ge g i with q | q
            · exact Or.inl ⟨a, g, q, g2, g3⟩
            · have : g = i := by omega
              subst this; exact Or.inr ⟨a, g3⟩
  exact key fuel 0 0 (by omega) (by omega) (fun j hj => by rw [b_0]; constructor; (intro q; cases q); (rintro ⟨-, g, q, -⟩; omega))
def DCL (f : Nat) : Nat → Nat → Nat → Prop := fun k n i => n = f ∧ (k = 50 ∧ i = 8 ∨ k = 57 ∨ k = 55 ∨ k = 200 ∧ i = 5)
def D55 (f : Nat) : Nat → Nat → Nat → Prop := fun k n _ => n = f ∧ k = 55
theorem pioC (z : Nat × Nat) {σ0 : PS} {f lc : Nat} {B : Nat → Nat → Bool} (h1 : lc ≤ 8) (h2 : gI σ0 50 f 7 = nI lc) (hb : ∀ i, i < lc → gI σ0 57 f i = mkS lc (B i)) (hi : ∀ i, i < lc → B i i = false) (ht : ∀ i j k, i < lc → j < lc → k < lc → B i j = true → B j k = true → B i k = true) : ∃ σ' o, X1_putInOrder z f σ0 = some σ' ∧ ag (D55 f) σ0 σ' ∧ isO lc B o ∧ ∀ k, k < lc → gI σ' 55 f k = nI (o k) := by
  have hfu := fuel_ge
  have key : ∀ (n k : Nat) (o : Nat → Nat) (σ : PS), k ≤ lc → lc - k < n → ag (D55 f) σ0 σ → (∀ j, j < k → isOk lc B o j ∧ gI σ 55 f j = nI (o j)) → ∃ σ' o', X1_putInOrder_l11 z f (fun σ => X1_putInOrder_c54 z f σ) n (mkS lc (lft o k)) (nI k) σ = some σ' ∧ ag (D55 f) σ0 σ' ∧ ∀ j, j < lc → isOk lc B o' j ∧ gI σ' 55 f j = nI (o' j) := by
    intro n
    induction n with
    | zero => intro k o σ hk hn; omega
    | succ n ih =>
      intro k o σ hk hn ha ho
      have e2 : gI σ 50 f 7 = nI lc := (agI ha (by unfold D55; omega)).trans h2
      have eb : ∀ i, i < lc → gI σ 57 f i = mkS lc (B i) := fun i hi => (agI ha (by unfold D55; omega)).trans (hb i hi)
      rw [X1_putInOrder_l11.eq_2, e2]
      by_cases he : k = lc
      · subst he
        rw [if_pos (nI_le (Nat.le_refl _) (by omega))]
        exact ⟨σ, o, rfl, ha, ho⟩
      · have hlt : k < lc := by omega
        rw [if_neg (nI_ge hlt (by omega)), bbC z h1 e2 eb]
        simp only [Option.bind_some]
        have em : mkS lc (lft o k) &&& (mkS lc (bbA lc B (lft o k)) ^^^ (-1)) = mkS lc (fun i => lft o k i && !bbA lc B (lft o k) i) := by
          apply b_ext
          intro j hj
          simp only [b_and, b_not _ hj, bt_mkS _ lc (show lc ≤ 32 by omega) j hj]
          by_cases q : j < lc
          · simp [q]
          · simp [q]
        rw [em]
        have hc := lft_cnt (o := o) (n := lc) k (fun j hj => ⟨(ho j hj).1.1, (ho j hj).1.2.1⟩)
        obtain ⟨m, m1, m2, m3⟩ := minEx hi ht lc (Nat.le_refl _) (cnt_pos (P := lft o k) (n := lc) (by omega))
        have hne : ¬ mkS lc (fun i => lft o k i && !bbA lc B (lft o k) i) = 0 := fun q => by
          have := (mkS_0 (by omega)).mp q m m1
          rw [m2, bbA_iff.mpr m3] at this
          cases this
        obtain ⟨x, x1, x2, x3, x4⟩ := memL z σ h1 hne
        rw [Bool.and_eq_true, Bool.not_eq_true'] at x2
        rw [x4]
        simp only [Option.bind_some, ib_nI (show k < 2 ^ 31 by omega), gd_d (show k < 8 by omega), ix_nI (show k < 2 ^ 31 by omega), nm_b, nI_s]
        have el : mkS lc (lft o k) &&& (((1 : Int32) <<< (nI x &&& 31)) ^^^ (-1)) = mkS lc (lft (fun j => if j = k then x else o j) (k + 1)) := by
          apply b_ext
          intro j hj
          simp only [b_and, b_not _ hj, b_one (show x < 32 by omega) hj, bt_mkS _ lc (show lc ≤ 32 by omega) j hj]
          rw [Bool.eq_iff_iff]
          simp only [Bool.and_eq_true, decide_eq_true_eq, lft_iff, Bool.not_eq_true', decide_eq_false_iff_not]
          constructor
          · rintro ⟨⟨a, b⟩, c⟩
            refine ⟨a, fun i hi => ?_⟩
            by_cases q : i = k
            · rw [if_pos q]; exact fun r => c r.symm
            · rw [if_neg q]; exact b i (by omega)
          · rintro ⟨a, b⟩
            refine ⟨⟨a, fun i hi => ?_⟩, fun q => ?_⟩
            · have := b i (by omega)
              rwa [if_neg (show ¬ i = k by omega)] at this
            · have := b k (by omega)
              rw [if_pos rfl] at this
              exact this q.symm
        rw [el]
        refine ih (k + 1) _ _ (by omega) (by omega) (ag_t ha (ag_sI ⟨rfl, rfl⟩)) (fun j hj => ?_)
        have hlft : ∀ i, (∀ j, j < k → ¬ (if j = k then x else o j) = i) ↔ lft o k i = true := fun i => by
          rw [lft_iff]
          constructor
          · intro a j hj
            have := a j hj
            rwa [if_neg (show ¬ j = k by omega)] at this
          · intro a j hj
            rw [if_neg (show ¬ j = k by omega)]
            exact a j hj
        rcases Nat.lt_or_ge j k with q | q
        · refine ⟨isOk_c (ho j q).1 (fun i hi => by rw [if_neg (show ¬ i = k by omega)]), ?_⟩
          rw [gI_sI, if_neg (by omega), if_neg (show ¬ j = k by omega)]
          exact (ho j q).2
        · have : j = k := by omega
          subst this
          refine ⟨?_, by simp [gI_sI]⟩
          unfold isOk
          simp only [if_true, hlft]
          refine ⟨x1, x2.1, fun i hi hl => bbA_iff.mp x2.2 i hi hl, fun i hi hl => ?_⟩
          · have := x3 i hi
            rw [hl] at this
            simp only [Bool.true_and, Bool.not_eq_false'] at this
            apply Classical.byContradiction
            intro hx
            have hf : bbA lc B (lft o j) i = false := bbA_iff.mpr (fun g hg hgl => by
              rcases hc : B g i with _ | _
              · rfl
              · exact absurd ⟨g, hg, hgl, hc⟩ hx)
            rw [hf] at this; cases this
  unfold X1_putInOrder
  rw [h2, nm_b, mkS_all lc (by omega)]
  obtain ⟨σ', o, r1, r2, r3⟩ := key fuel 0 (fun _ => 0) σ0 (by omega) (by omega) (ag_r _) (fun j hj => by omega)
  exact ⟨σ', o, r1, r2, fun k hk => (r3 k hk).1, fun k hk => (r3 k hk).2⟩

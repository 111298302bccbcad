/-! ===== how many are laid; order() ===== -/
theorem cnt_all {P : Nat → Bool} {la : Nat → Nat} {lc N : Nat} (hm : ∀ i j, i < j → j < lc → la i < la j) (hN : ∀ i, i < lc → la i < N) (hP : ∀ h, h < N → (P h = true ↔ ∃ i, i < lc ∧ la i = h)) : cnt P N = lc := by
  have hP' : ∀ h, h < N → (P h = true ↔ ∃ i, i < lc ∧ la i = h ∧ (fun _ => true) i = true) := fun h hh => by
    rw [hP h hh]
    constructor
    · rintro ⟨i, a, b⟩; exact ⟨i, a, b, rfl⟩
    · rintro ⟨i, a, b, -⟩; exact ⟨i, a, b⟩
  have ct : ∀ n, cnt (fun _ => true) n = n := by
    intro n
    induction n with
    | zero => rfl
    | succ n ih => rw [cnt_s, ih]; simp
  rcases Nat.eq_zero_or_pos lc with e | e
  · subst e
    rw [cnt_zero]
    intro i hi
    rcases hp : P i with _ | _
    · rfl
    · obtain ⟨j, hj, -⟩ := (hP i hi).mp hp; omega
  · have h1 := cnt_la hm hN hP' (lc - 1) (by omega)
    rw [ct] at h1
    have hl := hN (lc - 1) (by omega)
    have h2 : cnt P N = cnt P (la (lc - 1) + 1) := cnt_gap (by omega) (fun h a b => by
      rcases hp : P h with _ | _
      · rfl
      · obtain ⟨j, hj, e'⟩ := (hP h b).mp hp
        rcases Nat.lt_or_ge j (lc - 1) with q | q
        · have := hm j (lc - 1) q (by omega); omega
        · have : j = lc - 1 := by omega
          subst this; omega)
    rw [h2, cnt_s, if_pos ((hP _ hl).mpr ⟨lc - 1, by omega, rfl⟩), h1]
    omega
theorem laidM_l {z : Nat × Nat} {σ τ : PS} {own pn : Nat → Nat} {f : Nat} (hF : rF z pn σ τ) (hH : rH z own pn σ τ) (hf : f < z.1) (kx : Int32 → Option Int32) : ∀ (n i : Nat), i ≤ z.2 → z.2 - i < n → X10_laid_l4 τ kx n (nI f) (nI (cnt (ldP own τ f) i)) (nI i) = kx (nI (cnt (ldP own τ f) z.2)) := by
  have h40 := hH.1
  intro n
  induction n with
  | zero => intro i hi hn; omega
  | succ n ih =>
    intro i hi hn
    rw [X10_laid_l4.eq_2, hH.2.2.1]
    by_cases he : i = z.2
    · rw [if_pos (by rw [he]; exact nI_le (Nat.le_refl _) (by omega)), he]
    · have hlt : i < z.2 := by omega
      rw [if_neg (nI_ge hlt (by omega)), ldM hF hH hlt hf]
      have := ih (i + 1) (by omega) (by omega)
      rw [cnt_s] at this
      simp only [Option.bind_some, nm_b, nI_s]
      rcases hq : ldP own τ f i with _ | _
      · rw [if_neg (by simp [hq])] at this
        rw [if_pos (by rfl)]
        simpa using this
      · rw [if_pos (by simp [hq])] at this
        rw [if_neg (by decide)]
        exact this
theorem laidM {z : Nat × Nat} {σ τ : PS} {own pn : Nat → Nat} {p f lc : Nat} {la od : Nat → Nat} (hF : rF z pn σ τ) (hH : rH z own pn σ τ) (hf : f < z.1) (hL : rL1 z own p f lc la od σ τ) : X10_laid (nI f) τ = some (nI lc) := by
  have h40 := hH.1
  have hfu := fuel_ge
  have := laidM_l hF hH hf (fun v2 => X10_laid_c35 τ v2) fuel 0 (by omega) (by omega)
  rw [show cnt (ldP own τ f) 0 = 0 from rfl, cnt_all hL.2.1 (fun i hi => (hL.1.2.2 i hi).2) hL.2.2.1] at this
  exact this
/-- one row of the model's memory is scratch -/
def DG : Nat → Nat → Nat → Prop := fun k _ _ => k = 535
def mB (own pn : Nat → Nat) (τ : PS) (g h : Nat) : Bool := decide (own g = own h) && moP τ (pn (own g)) g h
section INO
variable {z : Nat × Nat} {σ τ : PS} {own pn : Nat → Nat} {f : Nat}
theorem sM_fr (hB : rB σ τ) (hQ : rQ z.2 τ) (hF : rF z pn σ τ) (hH : rH z own pn σ τ) (G : Nat → Int32) : rB σ (sM τ 535 G) ∧ rQ z.2 (sM τ 535 G) ∧ rF z pn σ (sM τ 535 G) ∧ rH z own pn σ (sM τ 535 G) ∧ (∀ p h g, moP (sM τ 535 G) p h g = moP τ p h g) ∧ ∀ f h, ldP own (sM τ 535 G) f h = ldP own τ f h := by
  have a : ag DG τ (sM τ 535 G) := ag_sM (fun _ => rfl)
  have b : ag DG σ σ := ag_r _
  refine ⟨rB_ag hB b a (fun k n i q => by unfold DG; omega) (fun k n i q => by unfold DG; omega), rQ_ag hQ a (fun k n i q => by unfold DG; omega), rF_ag hF b a (fun k n i q => by unfold DG; omega) (fun k n i q => by unfold DG; omega), rH_ag hH b a (fun k n i q => by unfold DG; omega) (fun k n i q => by unfold DG; omega), fun p h g => moP_ag a (fun k n i q => by unfold DG; omega) p h g, fun f h => ?_⟩
  unfold ldP
  rw [gI_sM_n (show ¬ 520 = 535 by decide)]
theorem io_l2 (hB : rB σ τ) (hQ : rQ z.2 τ) (hF : rF z pn σ τ) (hH : rH z own pn σ τ) (hf : f < z.1) (kx : Int32 → PS → Option (Int32 × PS)) (v2 : Int32) : ∀ (n i : Nat) (G : Nat → Int32), i ≤ z.2 → z.2 - i < n → X10_inOrder_l2 kx n (nI f) v2 (nI i) (sM τ 535 G) = kx v2 (sM τ 535 (fun h => if i ≤ h ∧ h < z.2 then bI (!ldP own τ f h) else G h)) := by
  have h40 := hH.1
  intro n
  induction n with
  | zero => intro i G hi hn; omega
  | succ n ih =>
    intro i G hi hn
    obtain ⟨-, -, F', H', -, l'⟩ := sM_fr hB hQ hF hH G
    rw [X10_inOrder_l2.eq_2, H'.2.2.1]
    by_cases he : i = z.2
    · rw [if_pos (by rw [he]; exact nI_le (Nat.le_refl _) (by omega))]
      exact congrArg (kx v2) (sM_ext (fun j => by rw [if_neg (by omega)]))
    · have hlt : i < z.2 := by omega
      rw [if_neg (nI_ge hlt (by omega)), ldM F' H' hlt hf, l']
      simp only [Option.bind_some, ib_nI (show i < 2 ^ 31 by omega), gd_d (show i < 40 by omega), ix_nI (show i < 2 ^ 31 by omega), nm_b, sI_sM, nI_s]
      have key : ∀ v, v = bI (!ldP own τ f i) → X10_inOrder_l2 kx n (nI f) v2 (nI (i + 1)) (sM τ 535 (upd G i v)) = kx v2 (sM τ 535 (fun h => if i ≤ h ∧ h < z.2 then bI (!ldP own τ f h) else G h)) := by
        intro v hv
        rw [ih (i + 1) _ (by omega) (by omega)]
        refine congrArg (kx v2) (sM_ext (fun j => ?_))
        rw [upd_a]
        by_cases hj : j = i
        · subst hj; rw [if_neg (by omega), if_pos rfl, if_pos ⟨Nat.le_refl _, hlt⟩, hv]
        · rw [if_neg hj]
          by_cases h2 : i + 1 ≤ j ∧ j < z.2
          · rw [if_pos h2, if_pos ⟨by omega, h2.2⟩]
          · rw [if_neg h2, if_neg (by omega)]
      rcases hq : ldP own τ f i with _ | _
      · rw [if_pos (by rfl)]; exact key 1 (by rw [hq]; rfl)
      · rw [if_neg (by decide)]; exact key 0 (by rw [hq]; rfl)
theorem io_l82 (hB : rB σ τ) (hQ : rQ z.2 τ) (hF : rF z pn σ τ) (hH : rH z own pn σ τ) {h : Nat} (hh : h < z.2) (kx : Int32 → Int32 → Int32 → Int32 → Int32 → PS → Option (Int32 × PS)) (v2 v3 v4 : Int32) (G : Nat → Int32) : ∀ (n i : Nat) (d : Bool), i ≤ z.2 → z.2 - i < n → X10_inOrder_l82 kx n v2 v3 v4 (nI h) (bI d) (nI i) (sM τ 535 G) = kx v2 v3 v4 (nI h) (bI (d && allB (fun g => !decide (G g = 0) || !mB own pn τ g h) (z.2 - i) i)) (sM τ 535 G) := by
  have h40 := hH.1
  obtain ⟨B', Q', F', H', m', l'⟩ := sM_fr hB hQ hF hH G
  intro n
  induction n with
  | zero => intro i d hi hn; omega
  | succ n ih =>
    intro i d hi hn
    rw [X10_inOrder_l82.eq_2, H'.2.2.1]
    by_cases he : i = z.2
    · rw [if_pos (by rw [he]; exact nI_le (Nat.le_refl _) (by omega)), he, Nat.sub_self]
      simp [allB]
    · have hlt : i < z.2 := by omega
      rw [if_neg (nI_ge hlt (by omega)), moreM B' Q' F' H' hlt hh, m']
      have e : z.2 - i = (z.2 - (i + 1)) + 1 := by omega
      rw [e]
      have i1 := fun (d : Bool) => ih (i + 1) d (by omega) (by omega)
      have tt := i1 true
      have ff := i1 false
      rw [bI_t] at tt
      rw [bI_f] at ff
      simp only [Option.bind_some, nI_s, allB, ib_nI (show i < 2 ^ 31 by omega), gd_d (show i < 40 by omega), ix_nI (show i < 2 ^ 31 by omega), gI_sM_s]
      change _ = kx v2 v3 v4 (nI h) (bI (d && ((!decide (G i = 0) || !mB own pn τ i h) && _))) _
      change (if bI d = 0 then _ else if G i = 0 then (if bI (mB own pn τ i h) = 0 then _ else _) else _) = _
      cases d with
      | false => simp [bI, ff]
      | true =>
        by_cases k : G i = 0
        · rcases mB own pn τ i h with _ | _
          · simp [bI, k, tt]
          · simp [bI, k, ff]
        · simp [bI, k, tt]
/-- unbeaten among those not gone -/
def fsP (z : Nat × Nat) (own pn : Nat → Nat) (τ : PS) (G : Nat → Int32) (h : Nat) : Bool := decide (G h = 0) && allB (fun g => !decide (G g = 0) || !mB own pn τ g h) z.2 0
theorem io_l57 (hB : rB σ τ) (hQ : rQ z.2 τ) (hF : rF z pn σ τ) (hH : rH z own pn σ τ) (kx : Int32 → Int32 → Int32 → PS → Option (Int32 × PS)) (v2 v4 : Int32) (G : Nat → Int32) : ∀ (n j : Nat) (a : Int32), j ≤ z.2 → j < n → ∃ r, X10_inOrder_l57 kx n v2 a v4 (nI j + (-1)) (sM τ 535 G) = kx v2 r v4 (sM τ 535 G) ∧ ((r = a ∧ ∀ h, h < j → fsP z own pn τ G h = false) ∨ ∃ h, h < j ∧ fsP z own pn τ G h = true ∧ (∀ g, g < h → fsP z own pn τ G g = false) ∧ r = nI h) := by
  have h40 := hH.1
  have hfu := fuel_ge
  intro n
  induction n with
  | zero => intro j a hj hn; omega
  | succ n ih =>
    intro j a hj hn
    rw [X10_inOrder_l57.eq_2]
    cases j with
    | zero =>
      rw [if_pos (show nI 0 + (-1) < 0 by decide)]
      exact ⟨a, rfl, Or.inl ⟨rfl, fun h hh => by omega⟩⟩
    | succ j =>
      rw [pk_m1, if_neg (nI_pos (by omega)), ib_nI (by omega), gd_d (by omega), ix_nI (by omega), gI_sM_s]
      unfold X10_inOrder_c77
      have key := fun d => io_l82 hB hQ hF hH (show j < z.2 by omega) (fun v2 v3 v4 v5 v6 σ => X10_inOrder_c130 (X10_inOrder_l57 kx n) kx v2 v3 v4 v5 v6 σ) v2 a v4 G fuel 0 d (by omega) (by omega)
      have kt := key true
      have kf := key false
      rw [bI_t, show nI 0 = (0 : Int32) from rfl] at kt
      rw [bI_f, show nI 0 = (0 : Int32) from rfl] at kf
      have e : (if G j = 0 then X10_inOrder_l82 (fun v2 v3 v4 v5 v6 σ => X10_inOrder_c130 (X10_inOrder_l57 kx n) kx v2 v3 v4 v5 v6 σ) fuel v2 a v4 (nI j) 1 0 (sM τ 535 G) else X10_inOrder_l82 (fun v2 v3 v4 v5 v6 σ => X10_inOrder_c130 (X10_inOrder_l57 kx n) kx v2 v3 v4 v5 v6 σ) fuel v2 a v4 (nI j) 0 0 (sM τ 535 G)) = X10_inOrder_c130 (X10_inOrder_l57 kx n) kx v2 a v4 (nI j) (bI (fsP z own pn τ G j)) (sM τ 535 G) := by
        unfold fsP
        by_cases k : G j = 0
        · rw [if_pos k, kt]
          simp only [k, decide_true, Nat.sub_zero]
        · rw [if_neg k, kf]
          simp only [k, decide_false, Bool.false_and]
      rw [e]
      unfold X10_inOrder_c130
      rcases hq : fsP z own pn τ G j with _ | _
      · rw [if_pos (by rfl)]
        obtain ⟨r, r1, r2⟩ := ih j a (by omega) (by omega)
        refine ⟨r, r1, ?_⟩
        rcases r2 with ⟨s1, s2⟩ | ⟨h, s1, s2⟩
        · refine Or.inl ⟨s1, fun h hh => ?_⟩
          rcases Nat.lt_or_ge h j with q | q
          · exact s2 h q
          · have : h = j := by omega
            subst this; exact hq
        · exact Or.inr ⟨h, by omega, s2⟩
      · rw [if_neg (by decide)]
        obtain ⟨r, r1, r2⟩ := ih j (nI j) (by omega) (by omega)
        refine ⟨r, r1, ?_⟩
        rcases r2 with ⟨s1, s2⟩ | ⟨h, s1, s2⟩
        · exact Or.inr ⟨j, by omega, hq, fun g hg => s2 g hg, s1⟩
        · exact Or.inr ⟨h, by omega, s2⟩
/-- what is gone after j rounds -/
def goI (z : Nat × Nat) (own : Nat → Nat) (τ : PS) (f lc : Nat) (la od : Nat → Nat) (G : Nat → Int32) (j : Nat) : Prop := ∀ h, h < z.2 → (G h = 0 ↔ ∃ i, i < lc ∧ la i = h ∧ ∀ k, k < j → ¬ od k = i)
theorem io_pick {lc : Nat} {la od : Nat → Nat} (hL : rL1 z own (pn f) f lc la od σ τ) {G : Nat → Int32} {j : Nat} (hj : j < lc) (hG : goI z own τ f lc la od G j) : la (od j) < z.2 ∧ fsP z own pn τ G (la (od j)) = true ∧ ∀ h, h < la (od j) → fsP z own pn τ G h = false := by
  obtain ⟨l1, l2, l3, -, -, l6, -⟩ := hL
  obtain ⟨o1, o2, o3, o4⟩ := l6 j hj
  have hN : ∀ i, i < lc → la i < z.2 := fun i hi => (l1.2.2 i hi).2
  have hown : ∀ i, i < lc → own (la i) = f := fun i hi => ld_own ((l3 _ (hN i hi)).mpr ⟨i, hi, rfl⟩)
  refine ⟨hN _ o1, ?_, fun h hh => ?_⟩
  · unfold fsP
    rw [Bool.and_eq_true, decide_eq_true_eq, allB_iff]
    refine ⟨(hG _ (hN _ o1)).mpr ⟨od j, o1, rfl, fun k hk q => o2 k hk q⟩, fun g _ hg => ?_⟩
    by_cases k : G g = 0
    · obtain ⟨i, hi, rfl, hl⟩ := (hG g (by omega)).mp k
      have : moP τ (pn f) (la i) (la (od j)) = false := o3 i hi hl
      unfold mB
      rw [hown i hi, this]
      simp
    · simp [k]
  · rcases hq : fsP z own pn τ G h with _ | _
    · rfl
    · exfalso
      unfold fsP at hq
      rw [Bool.and_eq_true, decide_eq_true_eq, allB_iff] at hq
      obtain ⟨q1, q2⟩ := hq
      have hz : h < z.2 := by have := hN _ o1; omega
      obtain ⟨i, hi, rfl, hl⟩ := (hG h hz).mp q1
      have hio : i < od j := by
        rcases Nat.lt_trichotomy i (od j) with r | r | r
        · exact r
        · subst r; omega
        · have := l2 _ _ r hi; omega
      obtain ⟨g, hg, hgl, hb⟩ := o4 i hio hl
      change moP τ (pn f) (la g) (la i) = true at hb
      have g0 : G (la g) = 0 := (hG _ (hN g hg)).mpr ⟨g, hg, rfl, hgl⟩
      have := q2 (la g) (by omega) (by have := hN g hg; omega)
      unfold mB at this
      rw [hown g hg, hown i hi, hb] at this
      simp [g0] at this
theorem io_l41 (hB : rB σ τ) (hQ : rQ z.2 τ) (hF : rF z pn σ τ) (hH : rH z own pn σ τ) {lc : Nat} {la od : Nat → Nat} (hL : rL1 z own (pn f) f lc la od σ τ) (kx : Int32 → PS → Option (Int32 × PS)) {k : Nat} (hk : k < lc) : ∀ (n j : Nat) (a : Int32) (G : Nat → Int32), j ≤ k + 1 → k + 1 - j < n → goI z own τ f lc la od G j → (0 < j → a = nI (la (od (j - 1)))) → ∃ G', X10_inOrder_l41 kx n (nI k) a (nI j) (sM τ 535 G) = kx (nI (la (od k))) (sM τ 535 G') := by
  have h40 := hH.1
  have hfu := fuel_ge
  have hlc := hL.1.1
  intro n
  induction n with
  | zero => intro j a G hj hn; omega
  | succ n ih =>
    intro j a G hj hn hG ha
    obtain ⟨B', Q', F', H', m', l'⟩ := sM_fr hB hQ hF hH G
    rw [X10_inOrder_l41.eq_2]
    by_cases he : j = k + 1
    · subst he
      rw [if_pos (nI_lt (by omega) (by omega)), ha (by omega)]
      exact ⟨G, by rw [show k + 1 - 1 = k by omega]⟩
    · have hjk : j ≤ k := by omega
      rw [if_neg (nI_nlt hjk (by omega)), nm_b, H'.2.2.1]
      have e1 : nI z.2 - 1 = nI z.2 + (-1) := by rw [Int32.sub_eq_add_neg]
      rw [e1]
      obtain ⟨r, r1, r2⟩ := io_l57 hB hQ hF hH (fun v2 v3 v4 σ => X10_inOrder_c148 (X10_inOrder_l41 kx n) kx v2 v3 v4 σ) (nI k) (nI j) G fuel z.2 (-1) (Nat.le_refl _) (by omega)
      obtain ⟨p1, p2, p3⟩ := io_pick hL (show j < lc by omega) hG
      have hr : r = nI (la (od j)) := by
        rcases r2 with ⟨s1, s2⟩ | ⟨h, s1, s2, s3, s4⟩
        · rw [s2 _ p1] at p2; cases p2
        · have : h = la (od j) := by
            rcases Nat.lt_trichotomy h (la (od j)) with q | q | q
            · rw [p3 h q] at s2; cases s2
            · exact q
            · rw [s3 _ q] at p2; cases p2
          rw [s4, this]
      rw [r1, hr]
      unfold X10_inOrder_c148
      rw [if_pos (nI_pos' (by omega)), ib_nI (by omega), gd_d (by omega), nm_b, ix_nI (by omega), sI_sM, nI_s]
      refine ih (j + 1) _ _ (by omega) (by omega) ?_ (fun _ => by rw [show j + 1 - 1 = j by omega])
      intro h hh
      rw [upd_a]
      by_cases q : h = la (od j)
      · rw [if_pos q]
        constructor
        · intro q2; exact absurd q2 (by decide)
        · rintro ⟨i, hi, e, hl⟩
          have : i = od j := la_inj hL.2.1 hi (hL.2.2.2.2.2.1 j (by omega)).1 (e.trans q)
          exact absurd this.symm (hl j (by omega))
      · rw [if_neg q, hG h hh]
        constructor
        · rintro ⟨i, hi, e, hl⟩
          refine ⟨i, hi, e, fun k' hk' => ?_⟩
          rcases Nat.lt_or_ge k' j with s | s
          · exact hl k' s
          · have : k' = j := by omega
            subst this
            intro e2
            exact q (by rw [← e, e2])
        · rintro ⟨i, hi, e, hl⟩
          exact ⟨i, hi, e, fun k' hk' => hl k' (by omega)⟩
/-- the k-th in order, as the model finds it -/
theorem inOrdM (hB : rB σ τ) (hQ : rQ z.2 τ) (hF : rF z pn σ τ) (hH : rH z own pn σ τ) (hf : f < z.1) {lc : Nat} {la od : Nat → Nat} (hL : rL1 z own (pn f) f lc la od σ τ) {k : Nat} (hk : k < lc) : ∃ G, X10_inOrder (nI f) (nI k) τ = some (nI (la (od k)), sM τ 535 G) := by
  have h40 := hH.1
  have hfu := fuel_ge
  have hlc := hL.1.1
  have e0 : X10_inOrder (nI f) (nI k) τ = X10_inOrder_l2 (fun v2 σ => X10_inOrder_c36 v2 σ) fuel (nI f) (nI k) (nI 0) (sM τ 535 (gI τ 535 0)) := by rw [sM_self]; rfl
  rw [e0, io_l2 hB hQ hF hH hf _ _ fuel 0 _ (by omega) (by omega)]
  unfold X10_inOrder_c36
  exact io_l41 hB hQ hF hH hL (fun v3 σ => X10_inOrder_c167 v3 σ) hk fuel 0 (-1) _ (by omega) (by omega) (by
    intro h hh
    simp only [Nat.zero_le, true_and, if_pos hh, bI_0]
    rw [Bool.not_eq_false', hL.2.2.1 h hh]
    constructor
    · rintro ⟨i, hi, e⟩; exact ⟨i, hi, e, fun k hk => by omega⟩
    · rintro ⟨i, hi, e, -⟩; exact ⟨i, hi, e⟩) (fun h => by omega)
end INO
/-- order() -/
theorem s_order {z : Nat × Nat} {σ τ : PS} {own pn : Nat → Nat} {lc : Nat → Nat} {la od : Nat → Nat → Nat} (hB : z.1 = 0 ∨ rB σ τ) (hQ : rQ z.2 τ) (hF : rF z pn σ τ) (hH : rH z own pn σ τ) (hL : rL z own pn lc la od σ τ) (x1 x2 : Int32) : ∃ r τ', X9_order z x1 x2 σ = some r ∧ X10_order x1 x2 τ = some (r, τ') ∧ ag DG τ τ' := by
  unfold X9_order X10_order
  rcases fnAt hF x1 with ⟨e1, e2⟩ | ⟨f, hf, rfl, e1, e2⟩
  · exact ⟨-1, τ, by rw [e1]; rfl, by rw [e2]; rfl, ag_r _⟩
  · have hB : rB σ τ := hB.elim (fun q => by omega) id
    have hL := hL f hf
    have hlc := hL.1.1
    rw [e1, e2, laidM hF hH hf hL]
    simp only [Option.bind_some, if_neg (show ¬ (1 : Int32) = 0 by decide), oc_s' hf, hL.1.2.1]
    rcases cases_nI x2 (n := lc f) (by omega) with k | ⟨k, k2⟩ | ⟨i, hi, rfl⟩
    · exact ⟨-1, τ, by rw [if_pos k], by rw [if_pos k], ag_r _⟩
    · exact ⟨-1, τ, by rw [if_neg k, if_neg (Int32.not_lt.mpr k2)], by rw [if_neg k, if_pos k2], ag_r _⟩
    · have n1 : ¬ nI i < 0 := nI_pos (by omega)
      obtain ⟨G, eG⟩ := inOrdM hB hQ hF hH hf hL hi
      refine ⟨nI (la f (od f i)), sM τ 535 G, ?_, ?_, ag_sM (fun _ => rfl)⟩
      · rw [if_neg n1, if_pos (nI_lt hi (by omega)), ib_nI (by omega), gd_d (by omega), ix_nI (by omega), hL.2.2.2.2.2.2 i hi, (numAt hH hL.1 (hL.2.2.2.2.2.1 i hi).1).2]
        rfl
      · rw [if_neg n1, if_neg (nI_ge hi (by omega)), eG]
        rfl

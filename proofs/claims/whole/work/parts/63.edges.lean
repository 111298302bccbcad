/-! ===== the model's edges ===== -/
theorem L_le {x y : Int64} : x ≤ y ↔ x.toInt ≤ y.toInt := Int64.le_iff_toInt_le
theorem L_lt {x y : Int64} : x < y ↔ x.toInt < y.toInt := Int64.lt_iff_toInt_lt
theorem I_le {x y : Int32} : x ≤ y ↔ x.toInt ≤ y.toInt := Int32.le_iff_toInt_le
theorem I_lt {x y : Int32} : x < y ↔ x.toInt < y.toInt := Int32.lt_iff_toInt_lt
theorem I_rng (x : Int32) : -2147483648 ≤ x.toInt ∧ x.toInt < 2147483648 := by
  have h1 := x.minValue_le_toInt
  have h2 := x.toInt_le
  exact ⟨h1, by have : Int32.maxValue.toInt = 2147483647 := by decide
                omega⟩
theorem hi_toInt (τ : PS) (h i : Nat) : (hiP τ h i).toInt = (hgP τ h i).toInt + 1 := by
  have hr := I_rng (hgP τ h i)
  unfold hiP
  rw [Int64.toInt_add, Int32.toInt_toInt64, show (1 : Int64).toInt = 1 by decide, Int.bmod_eq_of_le (by omega) (by omega)]
theorem lo_toInt (τ : PS) (h i : Nat) : (loP τ h i).toInt = (lwP τ h i).toInt := Int32.toInt_toInt64 _
theorem B_toInt : (2147483648 : Int64).toInt = 2147483648 := by decide
theorem i64_of {r : Int64} (h1 : -2147483648 ≤ r.toInt) (h2 : r.toInt < 2147483648) : r.toInt32.toInt64 = r := by
  apply Int64.toInt_inj.mp
  rw [Int32.toInt_toInt64, Int64.toInt_toInt32, Int.bmod_eq_of_le (by omega) (by omega)]
theorem pcS_sp (lo hi wt a : Int64) : pcS lo hi wt a ≤ a ∧ (wt < lo → pcS lo hi wt a ≤ lo) ∧ (wt < hi → pcS lo hi wt a ≤ hi) ∧ (pcS lo hi wt a = a ∨ (pcS lo hi wt a = lo ∧ wt < lo) ∨ (pcS lo hi wt a = hi ∧ wt < hi)) := by
  unfold pcS
  simp only [L_le, L_lt]
  split <;> split <;> (try split) <;> (try split) <;> (try split) <;> refine ⟨by omega, fun _ => by omega, fun _ => by omega, ?_⟩ <;> first | exact Or.inl rfl | exact Or.inr (Or.inl ⟨rfl, by omega⟩) | exact Or.inr (Or.inr ⟨rfl, by omega⟩)
theorem fld_sp {lo hi : Nat → Int64} (wt : Int64) : ∀ (k i : Nat) (a : Int64), fld (fun _ => true) (fun j a => pcS (lo j) (hi j) wt a) k i a ≤ a ∧ (∀ j, i ≤ j → j < i + k → (wt < lo j → fld (fun _ => true) (fun j a => pcS (lo j) (hi j) wt a) k i a ≤ lo j) ∧ (wt < hi j → fld (fun _ => true) (fun j a => pcS (lo j) (hi j) wt a) k i a ≤ hi j)) ∧ (fld (fun _ => true) (fun j a => pcS (lo j) (hi j) wt a) k i a = a ∨ ∃ j, i ≤ j ∧ j < i + k ∧ ((fld (fun _ => true) (fun j a => pcS (lo j) (hi j) wt a) k i a = lo j ∧ wt < lo j) ∨ (fld (fun _ => true) (fun j a => pcS (lo j) (hi j) wt a) k i a = hi j ∧ wt < hi j))) := by
  intro k
  induction k with
  | zero => intro i a; exact ⟨Int64.le_refl _, fun j h1 h2 => by omega, Or.inl rfl⟩
  | succ k ih =>
    intro i a
    rw [fld_s, if_pos rfl]
    obtain ⟨s1, s2, s3, s4⟩ := pcS_sp (lo i) (hi i) wt a
    obtain ⟨h1, h2, h3⟩ := ih (i + 1) (pcS (lo i) (hi i) wt a)
    refine ⟨Int64.le_trans h1 s1, fun j a1 a2 => ?_, ?_⟩
    · rcases Nat.lt_or_ge i j with q | q
      · exact h2 j (by omega) (by omega)
      · have : j = i := by omega
        subst this
        exact ⟨fun q => Int64.le_trans h1 (s2 q), fun q => Int64.le_trans h1 (s3 q)⟩
    · rcases h3 with q | ⟨j, q1, q2, q3⟩
      · rw [q]
        rcases s4 with r | r | r
        · exact Or.inl r
        · exact Or.inr ⟨i, by omega, by omega, Or.inl r⟩
        · exact Or.inr ⟨i, by omega, by omega, Or.inr r⟩
      · exact Or.inr ⟨j, by omega, by omega, q3⟩
theorem cnt_lt {P Q : Nat → Bool} {n : Nat} (h : ∀ i, i < n → P i = true → Q i = true) {x : Nat} (hx : x < n) (h1 : Q x = true) (h2 : P x = false) : cnt P n < cnt Q n := by
  have h3 := cnt_rm h1 n hx
  have h4 : ∀ m, m ≤ n → cnt P m ≤ cnt (fun i => Q i && !decide (i = x)) m := by
    intro m
    induction m with
    | zero => intro _; exact Nat.le_refl _
    | succ m ih =>
      intro hm
      rw [cnt_s, cnt_s]
      have := ih (by omega)
      rcases hp : P m with _ | _
      · simp; omega
      · have hq := h m (by omega) hp
        have hne : ¬ m = x := fun e => by rw [e, h2] at hp; cases hp
        rw [if_pos rfl, if_pos (by simp [hq, hne])]
        omega
  have := h4 n (Nat.le_refl _)
  omega
/-- between an edge and the next one the same handlers take -/
def samT (τ : PS) (lc : Nat) (la : Nat → Nat) (i : Nat) (e : Int32) (nx : Option Int32) : Prop := ∀ a, a < lc → ∀ w, e ≤ w → (∀ x, nx = some x → w < x) → twP τ (la a) i w = twP τ (la a) i e
theorem samT_of {τ : PS} {lc : Nat} {la : Nat → Nat} {i : Nat} {e : Int32} {r : Int64} (hr : ∀ a, a < lc → (e.toInt64 < loP τ (la a) i → r ≤ loP τ (la a) i) ∧ (e.toInt64 < hiP τ (la a) i → r ≤ hiP τ (la a) i)) {nx : Option Int32} (hn : ∀ w : Int32, (∀ x, nx = some x → w < x) → w.toInt64 < r) : samT τ lc la i e nx := by
  intro a ha w h1 h2
  obtain ⟨h3, h4⟩ := hr a ha
  have h5 := hn w h2
  rw [L_lt, L_le] at h3 h4
  rw [L_lt] at h5
  rw [lo_toInt] at h3
  rw [hi_toInt] at h4
  simp only [Int32.toInt_toInt64] at h3 h4 h5
  rw [I_le] at h1
  unfold twP
  have e1 : (lwP τ (la a) i ≤ w) ↔ (lwP τ (la a) i ≤ e) := by rw [I_le, I_le]; omega
  have e2 : (w ≤ hgP τ (la a) i) ↔ (e ≤ hgP τ (la a) i) := by rw [I_le, I_le]; omega
  simp only [e1, e2]
def cvP (τ : PS) (la : Nat → Nat) (i q : Nat) : Int64 := if q % 2 = 0 then loP τ (la (q / 2)) i else hiP τ (la (q / 2)) i
/-- the edges: how many, which -/
def edg (τ : PS) (lc : Nat) (la : Nat → Nat) (i em : Nat) (e : Nat → Int32) : Prop := 1 ≤ em ∧ em ≤ 17 ∧ e 0 = -2147483648 ∧ ∀ j, j < em → (j + 1 < em → e j < e (j + 1)) ∧ samT τ lc la i (e j) (if j + 1 < em then some (e (j + 1)) else none)
def DED (i : Nat) : Nat → Nat → Nat → Prop := fun k _ x => k = 536 ∧ 34 * i ≤ x ∧ x < 34 * i + 34 ∨ k = 537 ∧ x = i
theorem edgI {z : Nat × Nat} {σ τ : PS} {own pn : Nat → Nat} {f lc : Nat} {la od : Nat → Nat} (hF : rF z pn σ τ) (hH : rH z own pn σ τ) (hf : f < z.1) (hL : rL1 z own (pn f) f lc la od σ τ) {i : Nat} (hi : i < 2) (kx : Int32 → Int32 → Int32 → Int64 → Int64 → PS → Option PS) (v3 : Int32) (had : Int64) : X10_findEdges_l35 kx fuel (nI f) (nI i) v3 had 2147483648 0 τ = kx (nI f) (nI i) v3 had (fld (fun _ => true) (fun j a => pcS (loP τ (la j) i) (hiP τ (la j) i) had a) lc 0 2147483648) τ := by
  have hfu := fuel_ge
  have h40 := hH.1
  have key : ∀ (n h : Nat) (a : Int64), h ≤ z.2 → z.2 - h < n → X10_findEdges_l35 kx n (nI f) (nI i) v3 had a (nI h) τ = kx (nI f) (nI i) v3 had (fld (ldP own τ f) (fun j a => pcS (loP τ j i) (hiP τ j i) had a) (z.2 - h) h a) τ := by
    intro n
    induction n with
    | zero => intro h a hh hn; omega
    | succ n ih =>
      intro h a hh hn
      rw [X10_findEdges_l35.eq_2, hH.2.2.1]
      by_cases he : h = z.2
      · rw [if_pos (by rw [he]; exact nI_le (Nat.le_refl _) (by omega)), he, Nat.sub_self]
        rfl
      · have hlt : h < z.2 := by omega
        rw [if_neg (nI_ge hlt (by omega)), show z.2 - h = (z.2 - (h + 1)) + 1 by omega, fld_s, ldM hF hH hlt hf]
        unfold X10_findEdges_c105 X10_findEdges_c107
        simp only [Option.bind_some, nI_2, ib_nI (show 2 * h + i < 2 ^ 31 by omega), gd_d (show 2 * h + i < 80 by omega), ix_nI (show 2 * h + i < 2 ^ 31 by omega), nm_b, lg_cmp_le, lg_cmp_ge, nI_s, ih (h + 1) _ (by omega) (by omega)]
        rcases hl : ldP own τ f h with _ | _
        · rw [if_pos (by rfl), if_neg (by decide)]
        · rw [if_neg (by decide), if_pos rfl]
          exact pcS_M (loP τ h i) (hiP τ h i) had a (fun a => kx (nI f) (nI i) v3 had (fld (ldP own τ f) (fun j a => pcS (loP τ j i) (hiP τ j i) had a) (z.2 - (h + 1)) (h + 1) a) τ)
  have h1 := key fuel 0 2147483648 (by omega) (by omega)
  have h2 := fld_la (F := fun j a => pcS (loP τ j i) (hiP τ j i) had a) hL.2.1 (fun i hi => (hL.1.2.2 i hi).2) hL.2.2.1 z.2 0 0 2147483648 (by omega) (by omega) (fun j hj => by omega) (fun j _ _ => by omega)
  rw [Nat.sub_zero, h2] at h1
  exact h1
theorem edgM {z : Nat × Nat} {σ τ : PS} {own pn : Nat → Nat} {f lc : Nat} {la od : Nat → Nat} (hF : rF z pn σ τ) (hH : rH z own pn σ τ) (hf : f < z.1) (hL : rL1 z own (pn f) f lc la od σ τ) {i : Nat} (hi : i < 2) : ∃ em e τ', X10_findEdges (nI f) (nI i) τ = some τ' ∧ edg τ lc la i em e ∧ gI τ' 537 0 i = nI em ∧ (∀ j, j < em → gL τ' 536 0 (34 * i + j) = (e j).toInt64) ∧ ag (DED i) τ τ' := by
  have hfu := fuel_ge
  have hlc := hL.1.1
  have key : ∀ (n j : Nat) (e : Nat → Int32) (τj : PS), 17 - j < n → ag (DED i) τ τj → j + 1 + cnt (fun q => decide ((e j).toInt64 < cvP τ la i q)) (2 * lc) ≤ 17 → e 0 = -2147483648 → (∀ x, x ≤ j → gL τj 536 0 (34 * i + x) = (e x).toInt64) → (∀ x, x < j → e x < e (x + 1) ∧ samT τ lc la i (e x) (some (e (x + 1)))) → ∃ em e' τ', X10_findEdges_l22 (fun v2 v3 σ => X10_findEdges_c184 v2 v3 σ) n (nI f) (nI i) (nI (j + 1)) (e j).toInt64 1 τj = some τ' ∧ edg τ lc la i em e' ∧ gI τ' 537 0 i = nI em ∧ (∀ j, j < em → gL τ' 536 0 (34 * i + j) = (e' j).toInt64) ∧ ag (DED i) τ τ' := by
    intro n
    induction n with
    | zero => intro j e τj hn; omega
    | succ n ih =>
      intro j e τj hn ha hm h0 hg hx
      have F' := rF_ag hF (ag_r (D := fun _ _ _ => False) σ) ha (fun k n i q => id) (fun k n i q => by unfold DED; omega)
      have H' := rH_ag hH (ag_r (D := fun _ _ _ => False) σ) ha (fun k n i q => id) (fun k n i q => by unfold DED; omega)
      have L' := rL1_ag hL (ag_r (D := fun _ _ _ => False) σ) ha (fun k n i q => id) (fun k n i q => by unfold DED; omega)
      have elo : ∀ h, loP τj h i = loP τ h i := fun h => by unfold loP; rw [lwP_ag ha (fun k n i q => by unfold DED; omega)]
      have ehi : ∀ h, hiP τj h i = hiP τ h i := fun h => by unfold hiP; rw [hgP_ag ha (fun k n i q => by unfold DED; omega)]
      rw [X10_findEdges_l22.eq_2, if_neg (by decide), edgI F' H' hf L' hi]
      simp only [elo, ehi]
      obtain ⟨s1, s2, s3⟩ := fld_sp (lo := fun a => loP τ (la a) i) (hi := fun a => hiP τ (la a) i) (e j).toInt64 lc 0 2147483648
      generalize fld (fun _ => true) (fun a b => pcS (loP τ (la a) i) (hiP τ (la a) i) (e j).toInt64 b) lc 0 2147483648 = r at s1 s2 s3 ⊢
      have s2' : ∀ a, a < lc → ((e j).toInt64 < loP τ (la a) i → r ≤ loP τ (la a) i) ∧ ((e j).toInt64 < hiP τ (la a) i → r ≤ hiP τ (la a) i) := fun a ha' => s2 a (by omega) (by omega)
      unfold X10_findEdges_c140 X10_findEdges_c154
      simp only [lg_cmp_ge]
      by_cases k : (2147483648 : Int64) ≤ r
      · rw [if_pos k, if_pos trivial]
        have hr : r = 2147483648 := Int64.le_antisymm s1 k
        obtain ⟨n2, rfl⟩ : ∃ n2, n = n2 + 1 := ⟨n - 1, by omega⟩
        rw [X10_findEdges_l22.eq_2, if_pos rfl]
        refine ⟨j + 1, e, sI τj 537 0 i (nI (j + 1)), ?_, ⟨by omega, by omega, h0, fun x hx' => ?_⟩, by simp [gI_sI], fun x hx' => ?_, ag_t ha (ag_sI (by unfold DED; omega))⟩
        · unfold X10_findEdges_c184
          rw [ib_nI (by omega), gd_d hi, nm_b, ix_nI (by omega)]
        · rcases Nat.lt_or_ge x j with q | q
          · rw [if_pos (by omega)]; exact ⟨fun _ => (hx x q).1, (hx x q).2⟩
          · have : x = j := by omega
            subst this
            rw [if_neg (by omega)]
            refine ⟨fun q => by omega, samT_of s2' (fun w _ => ?_)⟩
            rw [hr, L_lt, Int32.toInt_toInt64, B_toInt]
            exact (I_rng w).2
        · rw [gL_sI]; exact hg x (by omega)
      · rw [if_neg k, if_neg (by decide)]
        have hlt : r.toInt < 2147483648 := by
          rw [L_le, B_toInt] at k; omega
        obtain ⟨x, hx1, hx2, hx3⟩ : ∃ x, 0 ≤ x ∧ x < 0 + lc ∧ ((r = loP τ (la x) i ∧ (e j).toInt64 < loP τ (la x) i) ∨ (r = hiP τ (la x) i ∧ (e j).toInt64 < hiP τ (la x) i)) := by
          rcases s3 with q | q
          · exfalso; apply k; rw [q]; exact Int64.le_refl _
          · exact q
        have hgt : (e j).toInt64 < r := by
          rcases hx3 with ⟨q1, q2⟩ | ⟨q1, q2⟩
          · rw [q1]; exact q2
          · rw [q1]; exact q2
        have hgt' : (e j).toInt < r.toInt := by rw [L_lt, Int32.toInt_toInt64] at hgt; exact hgt
        have hr32 := i64_of (r := r) (by have := (I_rng (e j)).1; omega) hlt
        have e34 : (34 : Int32) * nI i + nI (j + 1) = nI (34 * i + (j + 1)) := by rw [show (34 : Int32) = nI 34 from rfl, pk_mul, nI_add]
        rw [e34, ib_nI (by omega), gd_d (by omega), nm_b, ix_nI (by omega), nI_s]
        -- fewer are left above
        have hcl : cnt (fun q => decide (r < cvP τ la i q)) (2 * lc) < cnt (fun q => decide ((e j).toInt64 < cvP τ la i q)) (2 * lc) := by
          have hmono : ∀ q, q < 2 * lc → decide (r < cvP τ la i q) = true → decide ((e j).toInt64 < cvP τ la i q) = true := fun q _ hq => by
            rw [decide_eq_true_eq] at hq ⊢
            exact Int64.lt_trans hgt hq
          rcases hx3 with ⟨q1, q2⟩ | ⟨q1, q2⟩
          · have hcv : cvP τ la i (2 * x) = loP τ (la x) i := by unfold cvP; rw [if_pos (by omega), show 2 * x / 2 = x by omega]
            exact cnt_lt hmono (show 2 * x < 2 * lc by omega) (by rw [hcv]; simp [q2]) (by rw [hcv, q1]; simp [Int64.lt_irrefl])
          · have hcv : cvP τ la i (2 * x + 1) = hiP τ (la x) i := by unfold cvP; rw [if_neg (by omega), show (2 * x + 1) / 2 = x by omega]
            exact cnt_lt hmono (show 2 * x + 1 < 2 * lc by omega) (by rw [hcv]; simp [q2]) (by rw [hcv, q1]; simp [Int64.lt_irrefl])
        have hih := ih (j + 1) (fun x => if x = j + 1 then r.toInt32 else e x) (sL τj 536 0 (34 * i + (j + 1)) r) (by omega) (ag_t ha (ag_sL (by unfold DED; omega))) (by
          simp only [if_true, hr32]; omega) (by rw [if_neg (by omega)]; exact h0) (fun y hy => by
          rw [gL_sL]
          by_cases q : y = j + 1
          · rw [if_pos ⟨rfl, rfl, by omega⟩, if_pos q, hr32]
          · rw [if_neg (by omega), if_neg q]; exact hg y (by omega)) (fun y hy => by
          rcases Nat.lt_or_ge y j with q | q
          · rw [if_neg (by omega), if_neg (by omega)]; exact hx y q
          · have : y = j := by omega
            subst this
            rw [if_neg (by omega), if_pos rfl]
            refine ⟨?_, samT_of s2' (fun w hw => ?_)⟩
            · rw [← i64_lt, hr32]; exact hgt
            · have := hw _ rfl
              rw [← i64_lt, hr32] at this
              exact this)
        simp only [if_true, hr32] at hih
        exact hih
  unfold X10_findEdges
  have e34 : (34 : Int32) * nI i = nI (34 * i) := by rw [show (34 : Int32) = nI 34 from rfl, pk_mul]
  rw [e34, ib_nI (by omega), gd_d (by omega), nm_b, ix_nI (by omega)]
  have hc := cnt_le (fun q => decide ((-2147483648 : Int32).toInt64 < cvP τ la i q)) (2 * lc)
  exact key fuel 0 (fun _ => -2147483648) (sL τ 536 0 (34 * i) (-2147483648)) (by omega) (ag_sL (by unfold DED; omega)) (by omega) rfl (fun x hx => by
    have : x = 0 := by omega
    subst this
    rw [gL_sL, if_pos ⟨rfl, rfl, rfl⟩]; decide) (fun x hx => by omega)

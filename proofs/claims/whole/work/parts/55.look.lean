/-! ===== a look into what is remembered, on both sides ===== -/
def oj (gap j : Nat) : Nat := if j < gap then j else j + 1
theorem rowN_old {g : Nat → Int64} {f gap m : Nat} {a b c d : Int64} {j q : Nat} (hj : j < m - 1) (hq : q < 4) (hg : gap < m) : rowN g f gap m a b c d (64 * f + 4 * j + q) = g (64 * f + 4 * oj gap j + q) := by
  unfold rowN oj
  rw [if_neg (by omega), if_neg (by omega), if_neg (by omega), if_neg (by omega)]
  by_cases k : j < gap
  · rw [if_neg (by omega), if_pos k]
  · rw [if_pos ⟨by omega, by omega⟩, if_neg k, show 64 * f + 4 * j + q + 4 = 64 * f + 4 * (j + 1) + q by omega]
theorem rowN_last {g : Nat → Int64} {f gap m : Nat} {a b c d : Int64} (hm : 1 ≤ m) : rowN g f gap m a b c d (64 * f + 4 * (m - 1)) = a ∧ rowN g f gap m a b c d (64 * f + 4 * (m - 1) + 1) = b ∧ rowN g f gap m a b c d (64 * f + 4 * (m - 1) + 2) = c ∧ rowN g f gap m a b c d (64 * f + 4 * (m - 1) + 3) = d := by
  unfold rowN
  refine ⟨?_, ?_, ?_, ?_⟩
  · rw [if_pos (by omega)]
  · rw [if_neg (by omega), if_pos (by omega)]
  · rw [if_neg (by omega), if_neg (by omega), if_pos (by omega)]
  · rw [if_neg (by omega), if_neg (by omega), if_neg (by omega), if_pos (by omega)]
theorem rM1_new {p f t m k gap m' pos a0 b0 : Nat} {π ρ u : Nat → Nat} {σ τ σ' τ' : PS} {x y : Int64} (hk : k ≤ t) (ha : a0 < 12) (hb : b0 < 12)
    (h1 : ∀ j, j < m → π j < m ∧ ρ (π j) = j ∧ u j ≤ k ∧ gI σ 204 f (π j) = nI (u j) ∧ rwE p σ τ f (π j) j) (h2 : ∀ i, i < m → ρ i < m ∧ π (ρ i) = i) (h3 : ∀ i j, i < j → j < m → u i < u j) (h4 : ∀ i j, i < m → j < m → ¬ i = j → ¬ mM τ f (gL τ 513 0 (64 * f + 4 * j)) (gL τ 513 0 (64 * f + 4 * j + 1)) (gL τ 513 0 (64 * f + 4 * j + 2)) (gL τ 513 0 (64 * f + 4 * j + 3)) i)
    (hm' : m' ≤ 16) (hc : (m' = m ∧ gap < m ∧ pos = π gap) ∨ (m' = m + 1 ∧ gap = m ∧ pos = m))
    (c5 : gI σ' 200 f 5 = nI m') (c4 : gI σ' 200 f 4 = nI (k + 1)) (c1 : ∀ i, gI σ' 201 f i = if i = pos then nI (kc p a0 b0) else gI σ 201 f i) (c2 : ∀ i, gL σ' 202 f i = if i = pos then x else gL σ 202 f i) (c3 : ∀ i, gL σ' 203 f i = if i = pos then y else gL σ 203 f i) (c6 : ∀ i, gI σ' 204 f i = if i = pos then nI (k + 1) else gI σ 204 f i)
    (d5 : gI τ' 514 0 f = nI m') (d1 : gL τ' 513 0 = rowN (gL τ 513 0) f gap m' (nI a0).toInt64 x (kd p b0) y) (hh : gI σ' 200 f 6 = gI τ' 512 0 f)
    (hno : ∀ i, i < m → ¬ i = gap → ¬ mM τ f (nI a0).toInt64 x (kd p b0) y i) : rM1 p f (t + 1) σ' τ' := by
  have hgm : gap < m' := by omega
  have hoj : ∀ j, j < m' - 1 → oj gap j < m ∧ ¬ oj gap j = gap := fun j hj => by
    unfold oj
    by_cases q : j < gap
    · rw [if_pos q]; omega
    · rw [if_neg q]; omega
  have hne : ∀ j, j < m → ¬ j = gap → ¬ π j = pos := fun j hj hg e => by
    rcases hc with ⟨q1, q2, q3⟩ | ⟨q1, q2, q3⟩
    · have e1 := (h1 j hj).2.1
      have e2 := (h1 gap q2).2.1
      rw [e, q3, e2] at e1
      exact hg e1.symm
    · have := (h1 j hj).1; omega
  have hpos : pos < m' := by
    rcases hc with ⟨q1, q2, q3⟩ | ⟨q1, q2, q3⟩
    · have := (h1 gap q2).1; omega
    · omega
  have rold : ∀ j q, j < m' - 1 → q < 4 → gL τ' 513 0 (64 * f + 4 * j + q) = gL τ 513 0 (64 * f + 4 * oj gap j + q) := fun j q hj hq => by rw [d1, rowN_old hj hq hgm]
  have r0 : ∀ j, j < m' - 1 → gL τ' 513 0 (64 * f + 4 * j) = gL τ 513 0 (64 * f + 4 * oj gap j) := fun j hj => rold j 0 hj (by omega)
  have hl := rowN_last (g := gL τ 513 0) (f := f) (gap := gap) (m := m') (a := (nI a0).toInt64) (b := x) (c := kd p b0) (d := y) (by omega)
  rw [← d1] at hl
  obtain ⟨l1, l2, l3, l4⟩ := hl
  refine ⟨hh, m', k + 1, (fun j => if j < m' - 1 then π (oj gap j) else pos), (fun i => if i = pos then m' - 1 else if ρ i < gap then ρ i else ρ i - 1), (fun j => if j < m' - 1 then u (oj gap j) else k + 1), hm', by omega, c5, d5, c4, fun j hj => ?_, fun i hi => ?_, fun i j hij hj => ?_, fun i j hi hj hij => ?_⟩
  · dsimp only
    by_cases q : j < m' - 1
    · obtain ⟨o1, o2⟩ := hoj j q
      obtain ⟨a1, a2, a3, a4, a, b, b1, b2, b3, b4, b5, b6, b7⟩ := h1 _ o1
      have hn := hne _ o1 o2
      rw [if_pos q, if_pos q, if_neg hn, a2]
      refine ⟨by omega, ?_, by omega, by rw [c6, if_neg hn, a4], a, b, b1, b2, by rw [c1, if_neg hn, b3], by rw [r0 j q, b4], by rw [rold j 2 q (by omega), b5], by rw [c2, if_neg hn, rold j 1 q (by omega), b6], by rw [c3, if_neg hn, rold j 3 q (by omega), b7]⟩
      unfold oj
      by_cases q2 : j < gap
      · rw [if_pos q2, if_pos q2]
      · rw [if_neg q2, if_neg (by omega)]; omega
    · have ej : j = m' - 1 := by omega
      rw [if_neg q, if_neg q, if_pos rfl]
      refine ⟨hpos, ej.symm, Nat.le_refl _, by rw [c6, if_pos rfl], a0, b0, ha, hb, by rw [c1, if_pos rfl], by rw [ej, l1], by rw [ej, l3], by rw [c2, if_pos rfl, ej, l2], by rw [c3, if_pos rfl, ej, l4]⟩
  · dsimp only
    by_cases q : i = pos
    · rw [if_pos q, if_neg (by omega)]
      exact ⟨by omega, q.symm⟩
    · have him : i < m := by omega
      obtain ⟨r1, r2⟩ := h2 i him
      have hrg : ¬ ρ i = gap := fun e => by
        rcases hc with ⟨q1, q2, q3⟩ | ⟨q1, q2, q3⟩
        · rw [e] at r2; exact q (by rw [q3, r2])
        · omega
      rw [if_neg q]
      by_cases q2 : ρ i < gap
      · rw [if_pos q2, if_pos (by omega)]
        refine ⟨by omega, ?_⟩
        unfold oj
        rw [if_pos q2, r2]
      · rw [if_neg q2, if_pos (by omega)]
        refine ⟨by omega, ?_⟩
        unfold oj
        rw [if_neg (by omega), show ρ i - 1 + 1 = ρ i by omega, r2]
  · dsimp only
    rw [if_pos (by omega)]
    obtain ⟨o1, o2⟩ := hoj i (by omega)
    by_cases q : j < m' - 1
    · rw [if_pos q]
      obtain ⟨p1, p2⟩ := hoj j q
      refine h3 _ _ ?_ p1
      unfold oj
      by_cases q1 : i < gap
      · rw [if_pos q1]; split <;> omega
      · rw [if_neg q1, if_neg (by omega)]; omega
    · rw [if_neg q]
      have := (h1 _ o1).2.2.1
      omega
  · intro hmm
    unfold mM at hmm
    obtain ⟨e1, e2, e3, e4⟩ := hmm
    have hji : ∀ a b, a < m' - 1 → b < m' - 1 → ¬ a = b → ¬ oj gap a = oj gap b := fun a b ha hb hab => by
      unfold oj
      by_cases q1 : a < gap
      · rw [if_pos q1]; split <;> omega
      · rw [if_neg q1]; split <;> omega
    by_cases q1 : i < m' - 1
    · obtain ⟨o1, o2⟩ := hoj i q1
      rw [r0 i q1] at e1
      rw [rold i 1 q1 (by omega)] at e2
      rw [rold i 2 q1 (by omega)] at e3
      rw [rold i 3 q1 (by omega)] at e4
      by_cases q2 : j < m' - 1
      · obtain ⟨p1, p2⟩ := hoj j q2
        rw [r0 j q2] at e1
        rw [rold j 1 q2 (by omega)] at e2
        rw [rold j 2 q2 (by omega)] at e3
        rw [rold j 3 q2 (by omega)] at e4
        exact h4 _ _ o1 p1 (hji i j q1 q2 hij) ⟨e1, e2, e3, e4⟩
      · have ej : j = m' - 1 := by omega
        rw [ej, l1] at e1
        rw [ej, l2] at e2
        rw [ej, l3] at e3
        rw [ej, l4] at e4
        exact hno _ o1 o2 ⟨e1, e2, e3, e4⟩
    · have ei : i = m' - 1 := by omega
      have q2 : j < m' - 1 := by omega
      obtain ⟨p1, p2⟩ := hoj j q2
      rw [ei, l1, r0 j q2] at e1
      rw [ei, l2, rold j 1 q2 (by omega)] at e2
      rw [ei, l3, rold j 2 q2 (by omega)] at e3
      rw [ei, l4, rold j 3 q2 (by omega)] at e4
      exact hno _ p1 p2 ⟨e1.symm, e2.symm, e3.symm, e4.symm⟩
def DMC (f : Nat) : Nat → Nat → Nat → Prop := fun k n _ => n = f ∧ (k = 200 ∨ k = 201 ∨ k = 202 ∨ k = 203 ∨ k = 204)
def DMM (f : Nat) : Nat → Nat → Nat → Prop := fun k _ i => (k = 512 ∨ k = 514) ∧ i = f ∨ k = 513 ∧ 64 * f ≤ i ∧ i < 64 * f + 64
theorem rowN_out {g : Nat → Int64} {f gap m : Nat} {a b c d : Int64} (h1 : 1 ≤ m) (hm : m ≤ 16) (y : Nat) : (64 * f ≤ y ∧ y < 64 * f + 64) ∨ rowN g f gap m a b c d y = g y := by
  by_cases q : 64 * f ≤ y ∧ y < 64 * f + 64
  · exact Or.inl q
  · right
    unfold rowN
    rw [if_neg (by omega), if_neg (by omega), if_neg (by omega), if_neg (by omega), if_neg (by omega)]
theorem look2 {z : Nat × Nat} {p f t a0 b0 : Nat} {σ τ : PS} {x y : Int64} (h : rM1 p f t σ τ) (ht : t < 2 ^ 30) (hf : f < 4) (ha : a0 < 12) (hb : b0 < 12) : ∃ σ' τ', X4_look z f (nI (kc p a0 b0)) x y σ = some σ' ∧ X10_remember_c59 (nI f) (nI a0).toInt64 x (kd p b0) y τ = some τ' ∧ ag (DMC f) σ σ' ∧ ag (DMM f) τ τ' ∧ rM1 p f (t + 1) σ' τ' := by
  have hfu := fuel_ge
  obtain ⟨h0, m, k, π, ρ, u, hm, hk, s5, t5, s4, h1, h2, h3, h4⟩ := h
  obtain ⟨j, j1, j2, j3, j4⟩ := remM hf hm t5 (nI a0).toInt64 x (kd p b0) y
  obtain ⟨r, r1, r2⟩ := fndC z hm s5 (nI (kc p a0 b0)) x y
  have agM : ∀ v w (gap m' : Nat), 1 ≤ m' → m' ≤ 16 → ag (DMM f) τ (sN (sI (sI τ 512 0 f v) 514 0 f w) 513 (rowN (gL τ 513 0) f gap m' (nI a0).toInt64 x (kd p b0) y)) := fun v w gap m' q1 q2 => ag_t (ag_t (ag_sI (by unfold DMM; omega)) (ag_sI (by unfold DMM; omega))) (ag_sN (fun i => (rowN_out q1 q2 i).imp (fun q => by unfold DMM; omega) id))
  by_cases hj : j < m
  · rw [if_pos hj] at j4
    have hmj := j2 hj
    have hr : r = nI (π j) := by
      rcases r2 with ⟨-, q⟩ | ⟨i, q1, q2, q3⟩
      · exact absurd ((mm_iff ha hb (h1 j hj).2.2.2.2).mpr hmj) (q _ (h1 j hj).1)
      · obtain ⟨e1, e2⟩ := h2 i q1
        have hw := (h1 _ e1).2.2.2.2
        rw [e2] at hw
        have := (mm_iff ha hb hw).mp q2
        have : ρ i = j := by
          apply Classical.byContradiction
          intro hne
          refine h4 (ρ i) j e1 hj hne ?_
          obtain ⟨a1, a2, a3, a4⟩ := this
          obtain ⟨b1, b2, b3, b4⟩ := hmj
          exact ⟨a1.trans b1.symm, a2.trans b2.symm, a3.trans b3.symm, a4.trans b4.symm⟩
        rw [q3, ← e2, this]
    have hpj := (h1 j hj).1
    have eC : X4_look z f (nI (kc p a0 b0)) x y σ = some (sI (sI (sI σ 200 f 6 (gI σ 200 f 6 + 1)) 200 f 4 (nI (k + 1))) 204 f (π j) (nI (k + 1))) := by
      unfold X4_look
      rw [r1, hr]
      simp only [Option.bind_some, if_neg (nI_m1 (show π j < 2 ^ 31 by omega)), nm_b, ib_nI (show π j < 2 ^ 31 by omega), gd_d (show π j < 16 by omega), ix_nI (show π j < 2 ^ 31 by omega)]
      have e4 : gI (sI σ 200 f 6 (gI σ 200 f 6 + 1)) 200 f 4 = nI k := by rw [gI_sI, if_neg (by omega), s4]
      rw [e4, nI_s, gI_sI, if_pos ⟨rfl, rfl, rfl⟩]
    refine ⟨_, _, eC, j4, ag_t (ag_t (ag_sI (by unfold DMC; omega)) (ag_sI (by unfold DMC; omega))) (ag_sI (by unfold DMC; omega)), agM _ _ _ _ (by omega) hm, ?_⟩
    have hcm := (mm_iff ha hb (h1 j hj).2.2.2.2).mpr hmj
    refine rM1_new (gap := j) (pos := π j) hk ha hb h1 h2 h3 h4 hm (Or.inl ⟨rfl, hj, rfl⟩) (by simp [gI_sI, s5]) (by simp [gI_sI]) (fun i => ?_) (fun i => ?_) (fun i => ?_) (fun i => ?_) (by simp [gI_sN, gI_sI]) (by rw [gL_sN_s]) (by simp [gI_sN, gI_sI, h0]) (fun i hi hne => ?_)
    · by_cases q : i = π j
      · subst q; simp [gI_sI, hcm.1]
      · simp [gI_sI, q]
    · by_cases q : i = π j
      · subst q; rw [if_pos rfl]; exact hcm.2.1
      · rw [if_neg q]; rfl
    · by_cases q : i = π j
      · subst q; rw [if_pos rfl]; exact hcm.2.2
      · rw [if_neg q]; rfl
    · by_cases q : i = π j
      · subst q; simp [gI_sI]
      · simp [gI_sI, q]
    · intro hmi
      refine h4 i j hi hj hne ?_
      obtain ⟨a1, a2, a3, a4⟩ := hmi
      obtain ⟨b1, b2, b3, b4⟩ := hmj
      exact ⟨a1.trans b1.symm, a2.trans b2.symm, a3.trans b3.symm, a4.trans b4.symm⟩
  · have ej : j = m := by omega
    rw [if_neg hj] at j4
    have hr : r = -1 := by
      rcases r2 with ⟨q, -⟩ | ⟨i, q1, q2, q3⟩
      · exact q
      · obtain ⟨e1, e2⟩ := h2 i q1
        have hw := (h1 _ e1).2.2.2.2
        rw [e2] at hw
        exact absurd ((mm_iff ha hb hw).mp q2) (j3 _ (by omega))
    have eC : ∀ (σ2 : PS) (pos : Nat), pos < 16 → gI σ2 200 f 4 = nI k → X4_makeRoom z f σ = some (nI pos, σ2) → X4_look z f (nI (kc p a0 b0)) x y σ = some (sI (sI (sL (sL (sI σ2 201 f pos (nI (kc p a0 b0))) 202 f pos x) 203 f pos y) 200 f 4 (nI (k + 1))) 204 f pos (nI (k + 1))) := fun σ2 pos hp he hmr => by
      unfold X4_look
      rw [r1, hr]
      simp only [Option.bind_some, if_true, hmr, bp_s, nm_b, ib_nI (show pos < 2 ^ 31 by omega), gd_d hp, ix_nI (show pos < 2 ^ 31 by omega), gI_sL]
      rw [gI_k (show ¬ 200 = 201 by decide), he, nI_s, gI_sI, if_pos ⟨rfl, rfl, rfl⟩]
    have agC : ∀ (σ2 : PS) (pos : Nat), ag (DMC f) σ σ2 → ag (DMC f) σ (sI (sI (sL (sL (sI σ2 201 f pos (nI (kc p a0 b0))) 202 f pos x) 203 f pos y) 200 f 4 (nI (k + 1))) 204 f pos (nI (k + 1))) := fun σ2 pos q => ag_t q (ag_t (ag_t (ag_t (ag_t (ag_sI (by unfold DMC; omega)) (ag_sL (by unfold DMC; omega))) (ag_sL (by unfold DMC; omega))) (ag_sI (by unfold DMC; omega))) (ag_sI (by unfold DMC; omega)))
    by_cases h16 : m = 16
    · subst h16
      rw [if_pos rfl] at j4
      have hu : ∀ i, i < 16 → u (ρ i) < 2 ^ 31 ∧ gI σ 204 f i = nI (u (ρ i)) := fun i hi => by
        obtain ⟨e1, e2⟩ := h2 i hi
        obtain ⟨-, -, a3, a4, -⟩ := h1 _ e1
        rw [e2] at a4
        exact ⟨by omega, a4⟩
      obtain ⟨o, o1, o2, o3⟩ := oldC z (fun i => u (ρ i)) hu (fun v1 σ => X4_makeRoom_c59 z f v1 σ) fuel 0 1 (by omega) (by omega) (by omega) (fun x hx => by rw [show x = 0 by omega]; exact Nat.le_refl _)
      have ho : o = π 0 := by
        obtain ⟨e1, e2⟩ := h2 o o1
        have := o2 (π 0) (h1 0 (by omega)).1
        rw [(h1 0 (by omega)).2.1] at this
        rcases Nat.eq_zero_or_pos (ρ o) with q | q
        · rw [← e2, q]
        · have := h3 0 (ρ o) q e1; omega
      have hmr : X4_makeRoom z f σ = some (nI (π 0), σ) := by
        unfold X4_makeRoom
        rw [s5, if_pos (by decide), show (0 : Int32) = nI 0 from rfl, show (1 : Int32) = nI 1 from rfl, o3, ho]
        rfl
      have hp0 := (h1 0 (by omega)).1
      refine ⟨_, _, eC σ (π 0) hp0 s4 hmr, j4, agC σ _ (ag_r _), agM _ _ _ _ (by omega) (by omega), ?_⟩
      refine rM1_new (gap := 0) (pos := π 0) hk ha hb h1 h2 h3 h4 (Nat.le_refl _) (Or.inl ⟨rfl, by omega, rfl⟩) (by simp [gI_sI, gI_sL, s5]) (by simp [gI_sI]) (fun i => ?_) (fun i => ?_) (fun i => ?_) (fun i => ?_) (by simp [gI_sN, gI_sI]) (by rw [gL_sN_s]) (by simp [gI_sN, gI_sI, gI_sL, h0]) (fun i hi hne => j3 i (by omega))
      · by_cases q : i = π 0
        · subst q; simp [gI_sI, gI_sL]
        · simp [gI_sI, gI_sL, q]
      · by_cases q : i = π 0
        · subst q; simp [gL_sL, gL_sI]
        · simp [gL_sL, gL_sI, q]
      · by_cases q : i = π 0
        · subst q; simp [gL_sL, gL_sI]
        · simp [gL_sL, gL_sI, q]
      · by_cases q : i = π 0
        · subst q; simp [gI_sI]
        · simp [gI_sI, gI_sL, q]
    · rw [if_neg h16] at j4
      have hmr : X4_makeRoom z f σ = some (nI m, sI σ 200 f 5 (nI (m + 1))) := by
        unfold X4_makeRoom
        rw [s5, if_neg (show ¬ (16 : Int32) ≤ nI m from nI_ge (b := 16) (by omega) (by omega)), nm_b, nI_s, gI_sI, if_pos ⟨rfl, rfl, rfl⟩, nI_pred]
      refine ⟨_, _, eC _ m (by omega) (by rw [gI_sI, if_neg (by omega), s4]) hmr, j4, agC _ _ (ag_sI (by unfold DMC; omega)), agM _ _ _ _ (by omega) (by omega), ?_⟩
      refine rM1_new (gap := m) (pos := m) hk ha hb h1 h2 h3 h4 (show m + 1 ≤ 16 by omega) (Or.inr ⟨rfl, rfl, rfl⟩) (by simp [gI_sI, gI_sL]) (by simp [gI_sI]) (fun i => ?_) (fun i => ?_) (fun i => ?_) (fun i => ?_) (by simp [gI_sN, gI_sI]) (by rw [gL_sN_s]) (by simp [gI_sN, gI_sI, gI_sL, h0]) (fun i hi hne => j3 i (by omega))
      · by_cases q : i = m
        · subst q; simp [gI_sI, gI_sL]
        · simp [gI_sI, gI_sL, q]
      · by_cases q : i = m
        · subst q; simp [gL_sL, gL_sI]
        · simp [gL_sL, gL_sI, q]
      · by_cases q : i = m
        · subst q; simp [gL_sL, gL_sI]
        · simp [gL_sL, gL_sI, q]
      · by_cases q : i = m
        · subst q; simp [gI_sI]
        · simp [gI_sI, gI_sL, q]

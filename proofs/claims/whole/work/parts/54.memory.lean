/-! ===== what is remembered ===== -/
def sN (τ : PS) (k : Nat) (g : Nat → Int64) : PS := (τ.1, fun a b => if a = k ∧ b = 0 then g else τ.2.1 a b, τ.2.2)
theorem gL_sN {τ : PS} {k : Nat} {g : Nat → Int64} {a b : Nat} : gL (sN τ k g) a b = if a = k ∧ b = 0 then g else gL τ a b := rfl
theorem gL_sN_s {τ : PS} {k : Nat} {g : Nat → Int64} : gL (sN τ k g) k 0 = g := by rw [gL_sN, if_pos ⟨rfl, rfl⟩]
theorem gI_sN {τ : PS} {k : Nat} {g : Nat → Int64} : gI (sN τ k g) = gI τ := rfl
theorem sL_sN {τ : PS} {k i : Nat} {g : Nat → Int64} {v : Int64} : sL (sN τ k g) k 0 i v = sN τ k (vp_updL g i v) := by
  unfold sL sN
  refine Prod.ext rfl (Prod.ext ?_ rfl)
  funext a b
  by_cases h : a = k ∧ b = 0 <;> simp [h]
theorem sN_self {τ : PS} {k : Nat} : sN τ k (gL τ k 0) = τ := by
  unfold sN
  refine Prod.ext rfl (Prod.ext ?_ rfl)
  funext a b
  by_cases h : a = k ∧ b = 0
  · obtain ⟨rfl, rfl⟩ := h; simp [gL]
  · simp [h]
theorem sN_ext {τ : PS} {k : Nat} {f g : Nat → Int64} (h : ∀ j, f j = g j) : sN τ k f = sN τ k g := by rw [funext h]
theorem updL_a {f : Nat → Int64} {k : Nat} {x : Int64} (j : Nat) : vp_updL f k x j = if j = k then x else f j := rfl
theorem ag_sN {D : Nat → Nat → Nat → Prop} {τ : PS} {k : Nat} {g : Nat → Int64} (h : ∀ i, D k 0 i ∨ g i = gL τ k 0 i) : ag D τ (sN τ k g) := ⟨fun a b c hd => ⟨rfl, by
  rw [gL_sN]
  by_cases q : a = k ∧ b = 0
  · rw [if_pos q]
    obtain ⟨rfl, rfl⟩ := q
    exact (h c).elim (fun q => absurd q hd) id
  · rw [if_neg q], rfl⟩, fun _ _ => rfl⟩
def kc (p a b : Nat) : Nat := if p = 2 then a * 12 + b else a
def kd (p b : Nat) : Int64 := if p = 2 then (nI b).toInt64 else 0
/-- an entry of the class is a row of the model -/
def rwE (p : Nat) (σ τ : PS) (f i j : Nat) : Prop := ∃ a b, a < 12 ∧ b < 12 ∧ gI σ 201 f i = nI (kc p a b) ∧ gL τ 513 0 (64 * f + 4 * j) = (nI a).toInt64 ∧ gL τ 513 0 (64 * f + 4 * j + 2) = kd p b ∧ gL σ 202 f i = gL τ 513 0 (64 * f + 4 * j + 1) ∧ gL σ 203 f i = gL τ 513 0 (64 * f + 4 * j + 3)
/-- a row of the model is a key -/
def mM (τ : PS) (f : Nat) (a b c d : Int64) (j : Nat) : Prop := gL τ 513 0 (64 * f + 4 * j) = a ∧ gL τ 513 0 (64 * f + 4 * j + 1) = b ∧ gL τ 513 0 (64 * f + 4 * j + 2) = c ∧ gL τ 513 0 (64 * f + 4 * j + 3) = d
def mC (σ : PS) (f : Nat) (v : Int32) (x y : Int64) (i : Nat) : Prop := gI σ 201 f i = v ∧ gL σ 202 f i = x ∧ gL σ 203 f i = y
def rM1 (p f t : Nat) (σ τ : PS) : Prop := gI σ 200 f 6 = gI τ 512 0 f ∧ ∃ (m k : Nat) (π ρ u : Nat → Nat), m ≤ 16 ∧ k ≤ t ∧ gI σ 200 f 5 = nI m ∧ gI τ 514 0 f = nI m ∧ gI σ 200 f 4 = nI k ∧ (∀ j, j < m → π j < m ∧ ρ (π j) = j ∧ u j ≤ k ∧ gI σ 204 f (π j) = nI (u j) ∧ rwE p σ τ f (π j) j) ∧ (∀ i, i < m → ρ i < m ∧ π (ρ i) = i) ∧ (∀ i j, i < j → j < m → u i < u j) ∧ ∀ i j, i < m → j < m → ¬ i = j → ¬ mM τ f (gL τ 513 0 (64 * f + 4 * j)) (gL τ 513 0 (64 * f + 4 * j + 1)) (gL τ 513 0 (64 * f + 4 * j + 2)) (gL τ 513 0 (64 * f + 4 * j + 3)) i
theorem kc_inj {p a b a' b' : Nat} (ha : a < 12) (hb : b < 12) (ha' : a' < 12) (hb' : b' < 12) : nI (kc p a b) = nI (kc p a' b') ↔ (nI a).toInt64 = (nI a').toInt64 ∧ kd p b = kd p b' := by
  rw [i64_eq, nI_eq (by unfold kc; split <;> omega) (by unfold kc; split <;> omega), nI_eq (by omega) (by omega)]
  unfold kc kd
  by_cases q : p = 2
  · simp only [if_pos q]
    rw [i64_eq, nI_eq (by omega) (by omega)]
    omega
  · simp only [if_neg q, and_true]
theorem mm_iff {p : Nat} {σ τ : PS} {f i j a0 b0 : Nat} {x y : Int64} (ha : a0 < 12) (hb : b0 < 12) (h : rwE p σ τ f i j) : mC σ f (nI (kc p a0 b0)) x y i ↔ mM τ f (nI a0).toInt64 x (kd p b0) y j := by
  obtain ⟨a, b, h1, h2, h3, h4, h5, h6, h7⟩ := h
  unfold mC mM
  rw [h3, h4, h5, h6, h7, kc_inj h1 h2 ha hb]
  constructor
  · rintro ⟨⟨q1, q2⟩, q3, q4⟩; exact ⟨q1, q3, q2, q4⟩
  · rintro ⟨q1, q3, q2, q4⟩; exact ⟨⟨q1, q2⟩, q3, q4⟩
theorem fndC (z : Nat × Nat) {σ : PS} {f m : Nat} (hm : m ≤ 16) (h5 : gI σ 200 f 5 = nI m) (v : Int32) (x y : Int64) : ∃ r, X4_find z f v x y σ = some r ∧ ((r = -1 ∧ ∀ i, i < m → ¬ mC σ f v x y i) ∨ ∃ i, i < m ∧ mC σ f v x y i ∧ r = nI i) := by
  have hfu := fuel_ge
  have key : ∀ (n i : Nat), i ≤ m → m - i < n → ∃ r, X4_find_l3 z f σ (X4_find_c57 z f σ) n v x y (nI i) = some r ∧ ((r = -1 ∧ ∀ j, i ≤ j → j < m → ¬ mC σ f v x y j) ∨ ∃ i, i < m ∧ mC σ f v x y i ∧ r = nI i) := by
    intro n
    induction n with
    | zero => intro i hi hn; omega
    | succ n ih =>
      intro i hi hn
      rw [X4_find_l3.eq_2, h5]
      by_cases he : i = m
      · rw [if_pos (by rw [he]; exact nI_le (Nat.le_refl _) (by omega))]
        exact ⟨-1, rfl, Or.inl ⟨rfl, fun j a b => by omega⟩⟩
      · have hlt : i < m := by omega
        rw [if_neg (nI_ge hlt (by omega))]
        simp only [ib_nI (show i < 2 ^ 31 by omega), gd_d (show i < 16 by omega), ix_nI (show i < 2 ^ 31 by omega), lg_cmp_eq, nI_s]
        have next : ¬ mC σ f v x y i → ∃ r, X4_find_l3 z f σ (X4_find_c57 z f σ) n v x y (nI (i + 1)) = some r ∧ ((r = -1 ∧ ∀ j, i ≤ j → j < m → ¬ mC σ f v x y j) ∨ ∃ i, i < m ∧ mC σ f v x y i ∧ r = nI i) := fun hx => by
          obtain ⟨r, r1, r2⟩ := ih (i + 1) (by omega) (by omega)
          refine ⟨r, r1, r2.imp (fun q => ⟨q.1, fun j a b => ?_⟩) id⟩
          rcases Nat.lt_or_ge i j with s | s
          · exact q.2 j (by omega) b
          · have : j = i := by omega
            subst this; exact hx
        by_cases k1 : gI σ 201 f i = v
        · rw [if_pos k1]
          by_cases k2 : gL σ 202 f i = x
          · rw [if_pos k2]
            by_cases k3 : gL σ 203 f i = y
            · rw [if_pos k3]
              exact ⟨nI i, rfl, Or.inr ⟨i, hlt, ⟨k1, k2, k3⟩, rfl⟩⟩
            · rw [if_neg k3]; exact next (fun q => k3 q.2.2)
          · rw [if_neg k2]; exact next (fun q => k2 q.2.1)
        · rw [if_neg k1]; exact next (fun q => k1 q.1)
  obtain ⟨r, r1, r2⟩ := key fuel 0 (by omega) (by omega)
  exact ⟨r, r1, r2.imp (fun q => ⟨q.1, fun j hj => q.2 j (by omega) hj⟩) id⟩
theorem oldC (z : Nat × Nat) {σ : PS} {f : Nat} (u : Nat → Nat) (hu : ∀ i, i < 16 → u i < 2 ^ 31 ∧ gI σ 204 f i = nI (u i)) (kx : Int32 → PS → Option (Int32 × PS)) : ∀ (n o i : Nat), i ≤ 16 → 16 - i < n → o < 16 → (∀ x, x < i → u o ≤ u x) → ∃ o', o' < 16 ∧ (∀ x, x < 16 → u o' ≤ u x) ∧ X4_makeRoom_l30 z f kx n (nI o) (nI i) σ = kx (nI o') σ := by
  intro n
  induction n with
  | zero => intro o i hi hn; omega
  | succ n ih =>
    intro o i hi hn ho hx
    rw [X4_makeRoom_l30.eq_2]
    by_cases he : i = 16
    · subst he
      rw [if_pos (by decide)]
      exact ⟨o, ho, hx, rfl⟩
    · have hlt : i < 16 := by omega
      obtain ⟨a1, a2⟩ := hu i hlt
      obtain ⟨b1, b2⟩ := hu o ho
      rw [if_neg (show ¬ (16 : Int32) ≤ nI i from nI_ge (b := 16) hlt (by omega)), ib_nI (by omega), gd_d hlt, ib_nI (by omega), gd_d ho, ix_nI (by omega), ix_nI (by omega), a2, b2, nI_s]
      by_cases k : u o ≤ u i
      · rw [if_pos (nI_le k a1)]
        refine ih o (i + 1) (by omega) (by omega) ho (fun x hx' => ?_)
        rcases Nat.lt_or_ge x i with q | q
        · exact hx x q
        · have : x = i := by omega
          subst this; exact k
      · rw [if_neg (nI_ge (by omega) b1)]
        refine ih i (i + 1) (by omega) (by omega) hlt (fun x hx' => ?_)
        rcases Nat.lt_or_ge x i with q | q
        · have := hx x q; omega
        · have : x = i := by omega
          subst this; exact Nat.le_refl _
/-! the model's side -/
theorem nI_64 {f j : Nat} : nI (64 * f) + (4 : Int32) * nI j = nI (64 * f + 4 * j) := by
  rw [show (4 : Int32) = nI 4 from rfl, pk_mul, nI_add]
theorem fndM {τ : PS} {f m : Nat} (hf : f < 4) (hm : m ≤ 16) (h5 : gI τ 514 0 f = nI m) (a b c d : Int64) (kx : Int32 → Int64 → Int64 → Int64 → Int64 → Int32 → Int32 → PS → Option PS) : ∀ (n i : Nat), i ≤ m → m - i < n → (∀ j, j < i → ¬ mM τ f a b c d j) → ∃ j, j ≤ m ∧ (j < m → mM τ f a b c d j) ∧ (∀ i, i < j → ¬ mM τ f a b c d i) ∧ X10_remember_l70 kx n (nI f) a b c d (nI (64 * f)) (nI i) τ = kx (nI f) a b c d (nI (64 * f)) (nI j) τ := by
  intro n
  induction n with
  | zero => intro i hi hn; omega
  | succ n ih =>
    intro i hi hn hno
    rw [X10_remember_l70.eq_2, ib_nI (show f < 2 ^ 31 by omega), gd_d hf, ix_nI (show f < 2 ^ 31 by omega), h5]
    by_cases he : i = m
    · rw [if_pos (by rw [he]; exact nI_le (Nat.le_refl _) (by omega))]
      exact ⟨i, hi, fun q => by omega, hno, rfl⟩
    · have hlt : i < m := by omega
      rw [if_neg (nI_ge hlt (by omega))]
      simp only [nI_64, show (1 : Int32) = nI 1 from rfl, show (2 : Int32) = nI 2 from rfl, show (3 : Int32) = nI 3 from rfl, nI_add, ib_nI (show 64 * f + 4 * i < 2 ^ 31 by omega), ib_nI (show 64 * f + 4 * i + 1 < 2 ^ 31 by omega), ib_nI (show 64 * f + 4 * i + 2 < 2 ^ 31 by omega), ib_nI (show 64 * f + 4 * i + 3 < 2 ^ 31 by omega), gd_d (show 64 * f + 4 * i < 256 by omega), gd_d (show 64 * f + 4 * i + 1 < 256 by omega), gd_d (show 64 * f + 4 * i + 2 < 256 by omega), gd_d (show 64 * f + 4 * i + 3 < 256 by omega), ix_nI (show 64 * f + 4 * i < 2 ^ 31 by omega), ix_nI (show 64 * f + 4 * i + 1 < 2 ^ 31 by omega), ix_nI (show 64 * f + 4 * i + 2 < 2 ^ 31 by omega), ix_nI (show 64 * f + 4 * i + 3 < 2 ^ 31 by omega), lg_cmp_eq]
      have next : ¬ mM τ f a b c d i → ∃ j, j ≤ m ∧ (j < m → mM τ f a b c d j) ∧ (∀ i, i < j → ¬ mM τ f a b c d i) ∧ X10_remember_l70 kx n (nI f) a b c d (nI (64 * f)) (nI (i + 1)) τ = kx (nI f) a b c d (nI (64 * f)) (nI j) τ := fun hx => ih (i + 1) (by omega) (by omega) (fun j hj => by
        rcases Nat.lt_or_ge j i with q | q
        · exact hno j q
        · have : j = i := by omega
          subst this; exact hx)
      by_cases k1 : gL τ 513 0 (64 * f + 4 * i) = a
      · rw [if_pos k1]
        by_cases k2 : gL τ 513 0 (64 * f + 4 * i + 1) = b
        · rw [if_pos k2]
          by_cases k3 : gL τ 513 0 (64 * f + 4 * i + 2) = c
          · rw [if_pos k3]
            by_cases k4 : gL τ 513 0 (64 * f + 4 * i + 3) = d
            · rw [if_pos k4]
              exact ⟨i, hi, fun _ => ⟨k1, k2, k3, k4⟩, hno, rfl⟩
            · rw [if_neg k4]; exact next (fun q => k4 q.2.2.2)
          · rw [if_neg k3]; exact next (fun q => k3 q.2.2.1)
        · rw [if_neg k2]; exact next (fun q => k2 q.2.1)
      · rw [if_neg k1]; exact next (fun q => k1 q.1)
theorem shfM {τ : PS} {f m : Nat} (hf : f < 4) (h1 : 1 ≤ m) (hm : m ≤ 16) (h5 : gI τ 514 0 f = nI m) (a b c d : Int64) (kx : Int32 → Int64 → Int64 → Int64 → Int64 → Int32 → PS → Option PS) : ∀ (n x : Nat) (g : Nat → Int64), 64 * f ≤ x → x ≤ 64 * f + 4 * m - 4 → 64 * f + 4 * m - 4 - x < n → X10_remember_l262 kx n (nI f) a b c d (nI (64 * f)) (nI x) (sN τ 513 g) = kx (nI f) a b c d (nI (64 * f)) (sN τ 513 (fun y => if x ≤ y ∧ y < 64 * f + 4 * m - 4 then g (y + 4) else g y)) := by
  intro n
  induction n with
  | zero => intro x g hx1 hx2 hn; omega
  | succ n ih =>
    intro x g hx1 hx2 hn
    have e1 : nI (64 * f) + (4 : Int32) * nI m - 4 = nI (64 * f + 4 * m - 4) := by
      rw [nI_64, show (4 : Int32) = nI 4 from rfl, pk_sub (by omega)]
    rw [X10_remember_l262.eq_2, ib_nI (show f < 2 ^ 31 by omega), gd_d hf, ix_nI (show f < 2 ^ 31 by omega), gI_sN, h5, e1]
    by_cases he : x = 64 * f + 4 * m - 4
    · rw [if_pos (by rw [he]; exact nI_le (Nat.le_refl _) (by omega))]
      exact congrArg (kx (nI f) a b c d (nI (64 * f))) (sN_ext (fun y => by rw [if_neg (by omega)]))
    · rw [if_neg (nI_ge (by omega) (by omega))]
      have e2 : nI x + (4 : Int32) = nI (x + 4) := by rw [show (4 : Int32) = nI 4 from rfl, nI_add]
      simp only [e2, ib_nI (show x < 2 ^ 31 by omega), ib_nI (show x + 4 < 2 ^ 31 by omega), gd_d (show x < 256 by omega), gd_d (show x + 4 < 256 by omega), ix_nI (show x < 2 ^ 31 by omega), ix_nI (show x + 4 < 2 ^ 31 by omega), nm_b, gL_sN_s, sL_sN, nI_s]
      rw [ih (x + 1) _ (by omega) (by omega) (by omega)]
      refine congrArg (kx (nI f) a b c d (nI (64 * f))) (sN_ext (fun y => ?_))
      simp only [updL_a]
      by_cases q : y = x
      · subst q
        rw [if_neg (by omega), if_pos rfl, if_pos ⟨Nat.le_refl _, by omega⟩]
      · by_cases q2 : x + 1 ≤ y ∧ y < 64 * f + 4 * m - 4
        · rw [if_pos q2, if_neg (by omega), if_pos ⟨by omega, q2.2⟩]
        · rw [if_neg q2, if_neg q, if_neg (by omega)]
/-- the model's rows behind a look: gap, how many -/
def rowN (g : Nat → Int64) (f gap m : Nat) (a b c d : Int64) : Nat → Int64 := fun y => if y = 64 * f + 4 * m - 4 then a else if y = 64 * f + 4 * m - 3 then b else if y = 64 * f + 4 * m - 2 then c else if y = 64 * f + 4 * m - 1 then d else if 64 * f + 4 * gap ≤ y ∧ y < 64 * f + 4 * m - 4 then g (y + 4) else g y
theorem endM {τ : PS} {f gap m : Nat} (hf : f < 4) (h1 : 1 ≤ m) (hm : m ≤ 16) (hg : gap < m) (h5 : gI τ 514 0 f = nI m) (a b c d : Int64) : X10_remember_l262 (fun v1 v2 v4 v6 v8 v10 σ => X10_remember_c302 v1 v2 v4 v6 v8 v10 σ) fuel (nI f) a b c d (nI (64 * f)) (nI (64 * f) + (4 : Int32) * nI gap) τ = some (sN τ 513 (rowN (gL τ 513 0) f gap m a b c d)) := by
  have hfu := fuel_ge
  rw [nI_64]
  have e0 : X10_remember_l262 (fun v1 v2 v4 v6 v8 v10 σ => X10_remember_c302 v1 v2 v4 v6 v8 v10 σ) fuel (nI f) a b c d (nI (64 * f)) (nI (64 * f + 4 * gap)) τ = X10_remember_l262 (fun v1 v2 v4 v6 v8 v10 σ => X10_remember_c302 v1 v2 v4 v6 v8 v10 σ) fuel (nI f) a b c d (nI (64 * f)) (nI (64 * f + 4 * gap)) (sN τ 513 (gL τ 513 0)) := by rw [sN_self]
  rw [e0, shfM hf h1 hm h5 a b c d _ fuel _ _ (by omega) (by omega) (by omega)]
  unfold X10_remember_c302
  have e1 : nI (64 * f) + (4 : Int32) * nI m - 4 = nI (64 * f + 4 * m - 4) := by
    rw [nI_64, show (4 : Int32) = nI 4 from rfl, pk_sub (by omega)]
  rw [ib_nI (show f < 2 ^ 31 by omega), gd_d hf, ix_nI (show f < 2 ^ 31 by omega), gI_sN, h5, e1]
  simp only [nm_b, show (1 : Int32) = nI 1 from rfl, show (2 : Int32) = nI 2 from rfl, show (3 : Int32) = nI 3 from rfl, nI_add, ib_nI (show 64 * f + 4 * m - 4 < 2 ^ 31 by omega), ib_nI (show 64 * f + 4 * m - 4 + 1 < 2 ^ 31 by omega), ib_nI (show 64 * f + 4 * m - 4 + 2 < 2 ^ 31 by omega), ib_nI (show 64 * f + 4 * m - 4 + 3 < 2 ^ 31 by omega), gd_d (show 64 * f + 4 * m - 4 < 256 by omega), gd_d (show 64 * f + 4 * m - 4 + 1 < 256 by omega), gd_d (show 64 * f + 4 * m - 4 + 2 < 256 by omega), gd_d (show 64 * f + 4 * m - 4 + 3 < 256 by omega), ix_nI (show 64 * f + 4 * m - 4 < 2 ^ 31 by omega), ix_nI (show 64 * f + 4 * m - 4 + 1 < 2 ^ 31 by omega), ix_nI (show 64 * f + 4 * m - 4 + 2 < 2 ^ 31 by omega), ix_nI (show 64 * f + 4 * m - 4 + 3 < 2 ^ 31 by omega), sL_sN]
  refine congrArg some (sN_ext (fun y => ?_))
  unfold rowN
  simp only [updL_a]
  by_cases q1 : y = 64 * f + 4 * m - 4 + 3
  · rw [if_pos q1, if_neg (by omega), if_neg (by omega), if_neg (by omega), if_pos (by omega)]
  · rw [if_neg q1]
    by_cases q2 : y = 64 * f + 4 * m - 4 + 2
    · rw [if_pos q2, if_neg (by omega), if_neg (by omega), if_pos (by omega)]
    · rw [if_neg q2]
      by_cases q3 : y = 64 * f + 4 * m - 4 + 1
      · rw [if_pos q3, if_neg (by omega), if_pos (by omega)]
      · rw [if_neg q3]
        by_cases q4 : y = 64 * f + 4 * m - 4
        · rw [if_pos q4, if_pos q4]
        · rw [if_neg q4, if_neg q4, if_neg (show ¬ y = 64 * f + 4 * m - 3 by omega), if_neg (show ¬ y = 64 * f + 4 * m - 2 by omega), if_neg (show ¬ y = 64 * f + 4 * m - 1 by omega)]
theorem remM {τ : PS} {f m : Nat} (hf : f < 4) (hm : m ≤ 16) (h5 : gI τ 514 0 f = nI m) (a b c d : Int64) : ∃ j, j ≤ m ∧ (j < m → mM τ f a b c d j) ∧ (∀ i, i < j → ¬ mM τ f a b c d i) ∧ X10_remember_c59 (nI f) a b c d τ = some (if j < m then sN (sI (sI τ 512 0 f (gI τ 512 0 f + 1)) 514 0 f (nI m)) 513 (rowN (gL τ 513 0) f j m a b c d) else if m = 16 then sN (sI (sI τ 512 0 f (gI τ 512 0 f)) 514 0 f (nI 16)) 513 (rowN (gL τ 513 0) f 0 16 a b c d) else sN (sI (sI τ 512 0 f (gI τ 512 0 f)) 514 0 f (nI (m + 1))) 513 (rowN (gL τ 513 0) f m (m + 1) a b c d)) := by
  have hfu := fuel_ge
  obtain ⟨j, j1, j2, j3, j4⟩ := fndM hf hm h5 a b c d (fun v1 v2 v4 v6 v8 v10 v11 σ => X10_remember_c164 v1 v2 v4 v6 v8 v10 v11 σ) fuel 0 (by omega) (by omega) (fun j hj => by omega)
  refine ⟨j, j1, j2, j3, ?_⟩
  unfold X10_remember_c59
  rw [show (64 : Int32) * nI f = nI (64 * f) by rw [show (64 : Int32) = nI 64 from rfl, pk_mul], nm_b, show (0 : Int32) = nI 0 from rfl, j4]
  unfold X10_remember_c164 X10_remember_c187 X10_remember_c226 X10_remember_c251
  simp only [ib_nI (show f < 2 ^ 31 by omega), gd_d hf, ix_nI (show f < 2 ^ 31 by omega), nm_b, gI_k (show ¬ 514 = 512 by decide), h5]
  have z0 : ∀ v : Int32, v + 0 = v := fun v => by simp
  by_cases k : j < m
  · rw [if_pos k]
    simp only [if_neg (show ¬ nI m ≤ nI j from nI_ge k (by omega)), if_neg (show ¬ nI j = nI m from fun q => by have := (nI_eq (a := j) (b := m) (by omega) (by omega)).mp q; omega), z0]
    rw [endM (τ := sI (sI τ 512 0 f (gI τ 512 0 f + 1)) 514 0 f (nI m)) hf (by omega) hm k (by simp [gI_sI])]
    rfl
  · have ej : j = m := by omega
    subst ej
    rw [if_neg k]
    simp only [if_pos (show nI j ≤ nI j from nI_le (Nat.le_refl _) (by omega)), z0]
    by_cases k2 : j = 16
    · subst k2
      simp only [if_pos (show nI 16 = (16 : Int32) from rfl), if_neg (show ¬ (0 : Int32) = nI 16 by decide), if_true, z0]
      have := endM (τ := sI (sI τ 512 0 f (gI τ 512 0 f)) 514 0 f (nI 16)) (gap := 0) hf (by omega) hm (by omega) (by simp [gI_sI]) a b c d
      rw [show nI 0 = (0 : Int32) from rfl] at this
      rw [this]
      rfl
    · have k3 : ¬ nI j = (16 : Int32) := fun q => by
        have := (nI_eq (a := j) (b := 16) (by omega) (by omega)).mp q
        omega
      simp only [if_neg k3, if_neg k2, if_true, nI_s]
      rw [endM (τ := sI (sI τ 512 0 f (gI τ 512 0 f)) 514 0 f (nI (j + 1))) hf (by omega) (by omega) (show j < j + 1 by omega) (by simp [gI_sI])]
      rfl

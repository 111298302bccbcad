/-! ===== close() and below() answer alike ===== -/
def rel (f g : Nat → Int32) : Prop := ∀ x y, x < 16 → y < 16 → (f (16 * x + y) = 0 ∨ f (16 * x + y) = 1) ∧ (bt (g x) y = true ↔ ¬ f (16 * x + y) = 0)
theorem rel_step {f g : Nat → Int32} {m : Nat} (hm : m < 16) (h : rel f g) : rel (fun j => if j / 16 < 16 then stp m f j else f j) (fun y => if y < 16 then stc m g y else g y) := by
  intro x y hx hy
  have d1 : (16 * x + y) / 16 = x := by omega
  have d2 : (16 * x + y) % 16 = y := by omega
  obtain ⟨-, a2⟩ := h x y hx hy
  obtain ⟨-, b2⟩ := h x m hx hm
  obtain ⟨-, c2⟩ := h m y hm hy
  simp only [d1, if_pos hx]
  unfold stp stc
  rw [d1, d2]
  by_cases k1 : f (16 * x + y) = 0
  · have e1 : bt (g x) y = false := by rcases hb : bt (g x) y with _ | _; rfl; exact absurd k1 (a2.mp hb)
    by_cases k2 : f (16 * x + m) = 0
    · have e2 : bt (g x) m = false := by rcases hb : bt (g x) m with _ | _; rfl; exact absurd k2 (b2.mp hb)
      simp [k1, k2, e1, e2]
    · have e2 : bt (g x) m = true := b2.mpr k2
      by_cases k3 : f (16 * m + y) = 0
      · have e3 : bt (g m) y = false := by rcases hb : bt (g m) y with _ | _; rfl; exact absurd k3 (c2.mp hb)
        simp [k1, k2, k3, e1, e2, e3, b_or]
      · have e3 : bt (g m) y = true := c2.mpr k3
        simp [k1, k2, k3, e1, e2, e3, b_or]
  · have e1 : bt (g x) y = true := a2.mpr k1
    by_cases k2 : bt (g x) m = false
    · simp [k1, k2, e1]
    · simp [k1, k2, e1, b_or]
theorem rel_wr : ∀ (k m : Nat) (f g : Nat → Int32), m + k ≤ 16 → rel f g → rel (wrs k m f) (wrc k m g) := by
  intro k
  induction k with
  | zero => intro m f g _ h; exact h
  | succ k ih => intro m f g hm h; exact ih (m + 1) _ _ (by omega) (rel_step (by omega) h)
/-- the starts are alike -/
theorem rel_base {σ τ : PS} (h : rT σ τ) (f0 : Nat → Int32) : rel (fun j => if 0 ≤ j / 16 ∧ j / 16 < 12 ∧ gI τ 501 0 (j / 16) = nI (j % 16) then 1 else (if 0 ≤ j ∧ j < 256 then gI τ 502 0 j else f0 j)) (fun x => if x < 16 then bsr σ x else gI σ 403 0 x) := by
  obtain ⟨h1, h2, h3, h4, h5, h6⟩ := h
  intro x y hx hy
  have d1 : (16 * x + y) / 16 = x := by omega
  have d2 : (16 * x + y) % 16 = y := by omega
  obtain ⟨a1, a2⟩ := h3 x y hx hy
  simp only [d1, d2, if_pos hx, Nat.zero_le, true_and, if_pos (show 16 * x + y < 256 by omega)]
  unfold bsr
  have a3 : bt (gI σ 402 0 x) y = true ↔ ¬ gI τ 502 0 (16 * x + y) = 0 := by
    rw [a2]
    rcases a1 with q | q <;> simp [q]
  by_cases k : x < 12
  · obtain ⟨p1, p2⟩ := h2 x k
    rw [p1]
    rcases p2 with p2 | ⟨q, hq, p2⟩
    · have ne : ¬ (-1 : Int32) = nI y := fun e => by
        have := congrArg Int32.toInt e
        rw [nI_toInt (by omega)] at this
        have h9 : ((-1 : Int32)).toInt = -1 := by decide
        omega
      rw [p2, if_neg (fun e => ne e.2), if_neg (fun e => e.2 rfl)]
      exact ⟨a1, a3⟩
    · have ne : ¬ nI q = (-1 : Int32) := fun e => by
        have := congrArg Int32.toInt e
        rw [nI_toInt (by omega)] at this
        have h9 : ((-1 : Int32)).toInt = -1 := by decide
        omega
      have eb : (if x < 12 ∧ ¬ nI q = -1 then gI σ 402 0 x ||| ((1 : Int32) <<< (nI q &&& 31)) else gI σ 402 0 x) = gI σ 402 0 x ||| ((1 : Int32) <<< (nI q &&& 31)) := if_pos ⟨k, ne⟩
      rw [p2, eb, b_put (show q < 32 by omega) (show y < 32 by omega)]
      by_cases e : q = y
      · subst e
        rw [if_pos ⟨k, rfl⟩]
        simp
      · have e' : ¬ nI q = nI y := fun z => e ((nI_eq (by omega) (by omega)).mp z)
        rw [if_neg (fun z => e' z.2)]
        refine ⟨a1, ?_⟩
        have e2 : ¬ y = q := fun z => e z.symm
        simpa [e2] using a3
  · rw [if_neg (fun e => k e.1), if_neg (fun e => k e.1)]
    exact ⟨a1, a3⟩
theorem nI_17 {x : Nat} : (17 : Int32) * nI x = nI (17 * x) := by
  show nI 17 * nI x = _
  rw [pk_mul]
theorem cl_dg (kx : PS → Option (Int32 × PS)) (σ : PS) : ∀ (n i : Nat), i ≤ 16 → 16 - i < n → (∀ x, i ≤ x → x < 16 → gI σ 503 0 (17 * x) = 0) → X10_close_l179 kx n (nI i) σ = kx σ := by
  intro n
  induction n with
  | zero => intro i hi hn; omega
  | succ n ih =>
    intro i hi hn h
    rw [X10_close_l179.eq_2]
    by_cases he : i = 16
    · subst he; rw [if_pos (by decide)]
    · have hlt : i < 16 := by omega
      rw [if_neg (by exact nI_ge (b := 16) hlt (by omega)), nI_17, ib_nI (by omega), gd_d (by omega), ix_nI (by omega), if_pos (h i (Nat.le_refl _) hlt), nI_s]
      exact ih (i + 1) (by omega) (by omega) (fun x h1 h2 => h x (by omega) h2)
theorem cl_dg' (kx : PS → Option (Int32 × PS)) (σ : PS) : ∀ (n i : Nat), i ≤ 16 → 16 - i < n → (∃ x, i ≤ x ∧ x < 16 ∧ ¬ gI σ 503 0 (17 * x) = 0) → X10_close_l179 kx n (nI i) σ = some (-5, σ) := by
  intro n
  induction n with
  | zero => intro i hi hn; omega
  | succ n ih =>
    intro i hi hn h
    obtain ⟨x, h1, h2, h3⟩ := h
    rw [X10_close_l179.eq_2]
    have hlt : i < 16 := by omega
    rw [if_neg (by exact nI_ge (b := 16) hlt (by omega)), nI_17, ib_nI (by omega), gd_d (by omega), ix_nI (by omega)]
    by_cases k : gI σ 503 0 (17 * i) = 0
    · rw [if_pos k, nI_s]
      refine ih (i + 1) (by omega) (by omega) ⟨x, ?_, h2, h3⟩
      rcases Nat.lt_or_ge i x with q | q
      · exact q
      · have : x = i := by omega
        subst this; exact absurd k h3
    · rw [if_neg k]
theorem gr_no (z : Nat × Nat) (kx : Option Int32) (σ : PS) : ∀ (n i : Nat), i ≤ 16 → 16 - i < n → (∀ x, i ≤ x → x < 16 → bt (gI σ 403 0 x) x = false) → X8_goesRound_l2 z σ kx n (nI i) = kx := by
  intro n
  induction n with
  | zero => intro i hi hn; omega
  | succ n ih =>
    intro i hi hn h
    rw [X8_goesRound_l2.eq_2]
    by_cases he : i = 16
    · subst he; rw [if_pos (by decide)]
    · have hlt : i < 16 := by omega
      rw [if_neg (by exact nI_ge (b := 16) hlt (by omega)), ib_nI (by omega), gd_d hlt, ix_nI (by omega), if_pos ((b_test (by omega)).mpr (h i (Nat.le_refl _) hlt)), nI_s]
      exact ih (i + 1) (by omega) (by omega) (fun x h1 h2 => h x (by omega) h2)
theorem gr_yes (z : Nat × Nat) (kx : Option Int32) (σ : PS) : ∀ (n i : Nat), i ≤ 16 → 16 - i < n → (∃ x, i ≤ x ∧ x < 16 ∧ bt (gI σ 403 0 x) x = true) → X8_goesRound_l2 z σ kx n (nI i) = some 1 := by
  intro n
  induction n with
  | zero => intro i hi hn; omega
  | succ n ih =>
    intro i hi hn h
    obtain ⟨x, h1, h2, h3⟩ := h
    rw [X8_goesRound_l2.eq_2]
    have hlt : i < 16 := by omega
    rw [if_neg (by exact nI_ge (b := 16) hlt (by omega)), ib_nI (by omega), gd_d hlt, ix_nI (by omega)]
    by_cases k : bt (gI σ 403 0 i) i = false
    · rw [if_pos ((b_test (by omega)).mpr k), nI_s]
      refine ih (i + 1) (by omega) (by omega) ⟨x, ?_, h2, h3⟩
      rcases Nat.lt_or_ge i x with q | q
      · exact q
      · have : x = i := by omega
        subst this; rw [k] at h3; cases h3
    · rw [if_neg (fun q => k ((b_test (by omega)).mp q))]
theorem cl_one (kx : PS → Option (Int32 × PS)) (σ : PS) : ∀ (n i : Nat) (f : Nat → Int32), i ≤ 16 → 16 - i < n → X10_close_l208 kx n (nI i) (sM σ 503 f) = kx (sM σ 503 (fun j => if j % 17 = 0 ∧ i ≤ j / 17 ∧ j / 17 < 16 then 1 else f j)) := by
  intro n
  induction n with
  | zero => intro i f hi hn; omega
  | succ n ih =>
    intro i f hi hn
    rw [X10_close_l208.eq_2]
    by_cases he : i = 16
    · subst he
      rw [if_pos (by decide)]
      exact congrArg kx (sM_ext (fun j => by rw [if_neg (by omega)]))
    · have hlt : i < 16 := by omega
      rw [if_neg (by exact nI_ge (b := 16) hlt (by omega)), nI_17, ib_nI (by omega), gd_d (by omega), ix_nI (by omega), nm_b, sI_sM, nI_s, ih (i + 1) _ (by omega) (by omega)]
      refine congrArg kx (sM_ext (fun j => ?_))
      rw [upd_a]
      by_cases hj : j = 17 * i
      · subst hj
        rw [if_neg (by omega), if_pos rfl, if_pos ⟨by omega, by omega, by omega⟩]
      · rw [if_neg hj]
        by_cases h2 : j % 17 = 0 ∧ i + 1 ≤ j / 17 ∧ j / 17 < 16
        · rw [if_pos h2, if_pos ⟨h2.1, by omega, h2.2.2⟩]
        · rw [if_neg h2, if_neg (by omega)]
/-- what is below what, once the table is closed -/
def rB (σ τ : PS) : Prop := ∀ x y, x < 16 → y < 16 → (gI τ 503 0 (16 * x + y) = 0 ∨ gI τ 503 0 (16 * x + y) = 1) ∧ (gI τ 503 0 (16 * x + y) = 1 ↔ x = y ∨ bt (gI σ 403 0 x) y = true)
/-- by way of all below m, what is reached by two is reached -/
def trn (m : Nat) (f : Nat → Int32) : Prop := ∀ v x y, v < m → x < 16 → y < 16 → ¬ f (16 * x + v) = 0 → ¬ f (16 * v + y) = 0 → ¬ f (16 * x + y) = 0
theorem stp_iff {m : Nat} {f : Nat → Int32} {x y : Nat} (hy : y < 16) : ¬ stp m f (16 * x + y) = 0 ↔ (¬ f (16 * x + y) = 0 ∨ (¬ f (16 * x + m) = 0 ∧ ¬ f (16 * m + y) = 0)) := by
  unfold stp
  have d1 : (16 * x + y) / 16 = x := by omega
  have d2 : (16 * x + y) % 16 = y := by omega
  rw [d1, d2]
  by_cases k1 : f (16 * x + y) = 0
  · by_cases k2 : f (16 * x + m) = 0
    · simp [k1, k2]
    · by_cases k3 : f (16 * m + y) = 0
      · simp [k1, k2, k3]
      · simp [k1, k2, k3]
  · simp [k1]
theorem trn_step {m : Nat} {f : Nat → Int32} (hm : m < 16) (h : trn m f) : trn (m + 1) (fun j => if j / 16 < 16 then stp m f j else f j) := by
  intro v x y hv hx hy h1 h2
  have e1 : (16 * x + v) / 16 < 16 := by omega
  have e2 : (16 * v + y) / 16 < 16 := by omega
  have e3 : (16 * x + y) / 16 < 16 := by omega
  simp only [if_pos e1] at h1
  simp only [if_pos e2] at h2
  simp only [if_pos e3]
  rw [stp_iff (by omega)] at h1 h2 ⊢
  by_cases e : v = m
  · subst e
    have a : ¬ f (16 * x + v) = 0 := h1.elim id (fun q => q.1)
    have b : ¬ f (16 * v + y) = 0 := h2.elim id (fun q => q.2)
    exact Or.inr ⟨a, b⟩
  · have hvm : v < m := by omega
    rcases h1 with a | ⟨a1, a2⟩ <;> rcases h2 with b | ⟨b1, b2⟩
    · exact Or.inl (h v x y hvm hx hy a b)
    · exact Or.inr ⟨h v x m hvm hx hm a b1, b2⟩
    · exact Or.inr ⟨a1, h v m y hvm hm hy a2 b⟩
    · exact Or.inr ⟨a1, b2⟩
theorem trn_wr : ∀ (k m : Nat) (f : Nat → Int32), m + k ≤ 16 → trn m f → trn (m + k) (wrs k m f) := by
  intro k
  induction k with
  | zero => intro m f _ h; exact h
  | succ k ih =>
    intro m f hm h
    have := ih (m + 1) _ (by omega) (trn_step (by omega) h)
    rwa [show m + 1 + k = m + (k + 1) by omega] at this
/-- below is an order -/
def rO (τ : PS) : Prop := (∀ x y w, x < 16 → y < 16 → w < 16 → gI τ 503 0 (16 * x + y) = 1 → gI τ 503 0 (16 * y + w) = 1 → gI τ 503 0 (16 * x + w) = 1) ∧ ∀ x y, x < 16 → y < 16 → gI τ 503 0 (16 * x + y) = 1 → gI τ 503 0 (16 * y + x) = 1 → x = y
theorem rO_of {F : Nat → Int32} {τ : PS} (hF : trn 16 F) (h01 : ∀ x y, x < 16 → y < 16 → F (16 * x + y) = 0 ∨ F (16 * x + y) = 1) (hz : ∀ x, x < 16 → F (17 * x) = 0) : rO (sM τ 503 (fun j => if j % 17 = 0 ∧ 0 ≤ j / 17 ∧ j / 17 < 16 then 1 else F j)) := by
  have key : ∀ x y, x < 16 → y < 16 → ((if (16 * x + y) % 17 = 0 ∧ 0 ≤ (16 * x + y) / 17 ∧ (16 * x + y) / 17 < 16 then (1 : Int32) else F (16 * x + y)) = 1 ↔ (x = y ∨ ¬ F (16 * x + y) = 0)) := by
    intro x y hx hy
    by_cases e : x = y
    · subst e
      have e1 : (16 * x + x) % 17 = 0 := by omega
      have e2 : (16 * x + x) / 17 = x := by omega
      simp [e1, e2, hx]
    · have e1 : ¬ ((16 * x + y) % 17 = 0 ∧ 0 ≤ (16 * x + y) / 17 ∧ (16 * x + y) / 17 < 16) := by omega
      rw [if_neg e1]
      rcases h01 x y hx hy with q | q
      · simp [q, e]
      · simp [q]
  unfold rO
  simp only [gI_sM_s]
  refine ⟨fun x y w hx hy hw h1 h2 => ?_, fun x y hx hy h1 h2 => ?_⟩
  · rw [key x y hx hy] at h1
    rw [key y w hy hw] at h2
    rw [key x w hx hw]
    rcases h1 with rfl | h1
    · exact h2
    · rcases h2 with rfl | h2
      · exact Or.inr h1
      · exact Or.inr (hF y x w hy hx hw h1 h2)
  · rw [key x y hx hy] at h1
    rw [key y x hy hx] at h2
    rcases h1 with e | h1
    · exact e
    · rcases h2 with e | h2
      · exact e.symm
      · have := hF y x x hy hx hx h1 h2
        rw [show 16 * x + x = 17 * x by omega] at this
        exact absurd (hz x hx) this
theorem s_close (z : Nat × Nat) {σ τ : PS} (h : rT σ τ) :
    (gI τ 500 0 4 = 1 ∧ X9_close z σ = some (-3, σ) ∧ X10_close τ = some (-3, τ)) ∨
    (gI τ 500 0 4 = 0 ∧ ∃ f g, X9_close z σ = some (-5, sM σ 403 g) ∧ X10_close τ = some (-5, sM τ 503 f)) ∨
    (gI τ 500 0 4 = 0 ∧ ∃ f g, rB (sM σ 403 g) (sM τ 503 f) ∧ rO (sM τ 503 f) ∧ X9_close z σ = some (1, sI (sM σ 403 g) 400 0 4 1) ∧ X10_close τ = some (1, sI (sM τ 503 f) 500 0 4 1)) := by
  have hfu := fuel_ge
  rcases h.1.2 with h0 | h0
  · right
    have hr := rel_wr 16 0 _ _ (by omega) (rel_base h (gI τ 503 0))
    have htr := trn_wr 16 0 (fun j => if 0 ≤ j / 16 ∧ j / 16 < 12 ∧ gI τ 501 0 (j / 16) = nI (j % 16) then 1 else (if 0 ≤ j ∧ j < 256 then gI τ 502 0 j else gI τ 503 0 j)) (by omega) (fun v x y hv => by omega)
    generalize hF : wrs 16 0 (fun j => if 0 ≤ j / 16 ∧ j / 16 < 12 ∧ gI τ 501 0 (j / 16) = nI (j % 16) then 1 else (if 0 ≤ j ∧ j < 256 then gI τ 502 0 j else gI τ 503 0 j)) = F at hr htr
    generalize hGr : wrc 16 0 (fun x => if x < 16 then bsr σ x else gI σ 403 0 x) = Gr at hr
    have eM : X10_close τ = X10_close_l179 (fun σ => X10_close_c206 σ) fuel (nI 0) (sM τ 503 F) := by
      unfold X10_close
      rw [if_pos h0]
      have e : X10_close_l12 (fun σ => X10_close_c37 σ) fuel 0 τ = X10_close_l12 (fun σ => X10_close_c37 σ) fuel (nI 0) (sM τ 503 (gI τ 503 0)) := by rw [sM_self]; rfl
      rw [e, cl_copy _ τ (fun j hj => by have := (h.2.2.1 (j / 16) (j % 16) (by omega) (by omega)).1; rwa [show 16 * (j / 16) + j % 16 = j by omega] at this) fuel 0 _ (by omega) (by omega)]
      show X10_close_l39 (fun σ => X10_close_c77 σ) fuel (nI 0) _ = _
      rw [cl_par _ τ (fun c hc => (h.2.1 c hc).2) fuel 0 _ (by omega) (by omega)]
      show X10_close_l79 (fun σ => X10_close_c177 σ) fuel (nI 0) _ = _
      rw [cl_m _ τ fuel 0 _ (by omega) (by omega)]
      show X10_close_l179 _ fuel (nI 0) (sM τ 503 (wrs 16 0 _)) = _
      rw [hF]
    have eC : X9_close z σ = (X8_goesRound_l2 z (sM σ 403 Gr) (some 0) fuel (nI 0)).bind (fun r2 => if r2 = 0 then nm (sI (sM σ 403 Gr) 400 0 4 (1 : Int32)) (fun σ3 => some ((1 : Int32), σ3)) else some ((-5 : Int32), sM σ 403 Gr)) := by
      unfold X9_close
      rw [h.1.1, if_pos h0, fr_all, hGr]
      rfl
    have dg : ∀ x, x < 16 → (bt (Gr x) x = true ↔ ¬ F (17 * x) = 0) := fun x hx => by
      have := (hr x x hx hx).2
      rwa [show 16 * x + x = 17 * x by omega] at this
    by_cases hex : ∃ x, x < 16 ∧ ¬ F (17 * x) = 0
    · left
      obtain ⟨x, hx, hF0⟩ := hex
      refine ⟨h0, F, Gr, ?_, ?_⟩
      · rw [eC, gr_yes z _ _ fuel 0 (by omega) (by omega) ⟨x, by omega, hx, by rw [gI_sM_s]; exact (dg x hx).mpr hF0⟩]
        rfl
      · rw [eM, cl_dg' _ _ fuel 0 (by omega) (by omega) ⟨x, by omega, hx, by rw [gI_sM_s]; exact hF0⟩]
    · right
      have hz : ∀ x, x < 16 → F (17 * x) = 0 := fun x hx => Classical.byContradiction (fun q => hex ⟨x, hx, q⟩)
      refine ⟨h0, (fun j => if j % 17 = 0 ∧ 0 ≤ j / 17 ∧ j / 17 < 16 then 1 else F j), Gr, ?_, rO_of htr (fun x y hx hy => (hr x y hx hy).1) hz, ?_, ?_⟩
      · intro x y hx hy
        rw [gI_sM_s, gI_sM_s]
        obtain ⟨a1, a2⟩ := hr x y hx hy
        by_cases e : x = y
        · subst e
          have e1 : (16 * x + x) % 17 = 0 := by omega
          have e2 : (16 * x + x) / 17 = x := by omega
          simp [e1, e2, hx]
        · have e1 : ¬ ((16 * x + y) % 17 = 0 ∧ 0 ≤ (16 * x + y) / 17 ∧ (16 * x + y) / 17 < 16) := by omega
          rw [if_neg e1]
          refine ⟨a1, ?_⟩
          rcases a1 with q | q
          · simp [q, e] at a2 ⊢
            exact a2
          · simp [q, e] at a2 ⊢
            exact a2
      · rw [eC, gr_no z _ _ fuel 0 (by omega) (by omega) (fun x _ hx => by
          rw [gI_sM_s]
          rcases hb : bt (Gr x) x with _ | _
          · rfl
          · exact absurd (hz x hx) ((dg x hx).mp hb))]
        rfl
      · rw [eM, cl_dg _ _ fuel 0 (by omega) (by omega) (fun x _ hx => by rw [gI_sM_s]; exact hz x hx)]
        show X10_close_l208 (fun σ => X10_close_c230 σ) fuel (nI 0) _ = _
        rw [cl_one _ τ fuel 0 _ (by omega) (by omega)]
        rfl
  · left
    have hne : ¬ gI τ 500 0 4 = 0 := by rw [h0]; decide
    refine ⟨h0, ?_, ?_⟩
    · unfold X9_close; rw [h.1.1, if_neg hne]
    · unfold X10_close; rw [if_neg hne]

def bt (x : Int32) (i : Nat) : Bool := x.toBitVec.getLsbD i
theorem b_ext {x y : Int32} (h : ∀ i, i < 32 → bt x i = bt y i) : x = y := Int32.toBitVec_inj.mp (BitVec.eq_of_getLsbD_eq (fun i hi => h i hi))
theorem b_or (x y : Int32) (i : Nat) : bt (x ||| y) i = (bt x i || bt y i) := by unfold bt; rw [Int32.toBitVec_or, BitVec.getLsbD_or]
theorem b_and (x y : Int32) (i : Nat) : bt (x &&& y) i = (bt x i && bt y i) := by unfold bt; rw [Int32.toBitVec_and, BitVec.getLsbD_and]
theorem b_xor (x y : Int32) (i : Nat) : bt (x ^^^ y) i = (bt x i ^^ bt y i) := by unfold bt; rw [Int32.toBitVec_xor, BitVec.getLsbD_xor]
theorem b_big {x : Int32} {i : Nat} (h : 32 ≤ i) : bt x i = false := BitVec.getLsbD_of_ge _ _ h
theorem b_255 (i : Nat) : bt 255 i = decide (i < 8) := by
  rcases Nat.lt_or_ge i 32 with h | h
  · exact (by decide +kernel : ∀ i, i < 32 → bt 255 i = decide (i < 8)) i h
  · rw [b_big h, decide_eq_false (by omega)]
theorem b_65535 (i : Nat) : bt 65535 i = decide (i < 16) := by
  rcases Nat.lt_or_ge i 32 with h | h
  · exact (by decide +kernel : ∀ i, i < 32 → bt 65535 i = decide (i < 16)) i h
  · rw [b_big h, decide_eq_false (by omega)]
theorem b_m1 : ∀ i, i < 32 → bt (-1) i = true := by decide +kernel
theorem b_0 (i : Nat) : bt 0 i = false := BitVec.getLsbD_zero
theorem s_l : ∀ n, n < 32 → ((nI n &&& 31).toBitVec.smod 32).toNat = n := by decide +kernel
theorem s_u : ∀ n, n < 32 → (((nI n).toUInt32 &&& Int32.toUInt32 31).toBitVec % 32).toNat = n := by decide +kernel
theorem b_shl (n : Nat) (hn : n < 32) (x : Int32) {i : Nat} (hi : i < 32) : bt (x <<< (nI n &&& 31)) i = (decide (n ≤ i) && bt x (i - n)) := by
  unfold bt
  rw [Int32.toBitVec_shiftLeft]
  show (x.toBitVec <<< ((nI n &&& 31).toBitVec.smod 32).toNat).getLsbD i = _
  rw [s_l n hn, BitVec.getLsbD_shiftLeft]
  rcases Nat.lt_or_ge i n with h | h
  · simp [h, Nat.not_le.mpr h]
  · simp [hi, h, Nat.not_lt.mpr h]
/-! ===== the pure layer: small rows ===== -/
theorem ix_nI {n : Nat} (h : n < 2 ^ 31) : ix (nI n) = n := nI_clamp h
theorem ib_nI {n N : Nat} (h : n < 2 ^ 31) : ib (nI n) N = decide (n < N) := by
  unfold ib
  rw [nI_clamp h]
  have h0 : ¬ nI n < 0 := nI_pos h
  simp [h0]
theorem gd_t {α : Type} {k : Option α} : gd true k = k := rfl
theorem gd_d {α : Type} {p : Prop} [Decidable p] (h : p) {k : Option α} : gd (decide p) k = k := by rw [decide_eq_true h]; rfl
theorem nm_b {α β : Type} {e : α} {k : α → Option β} : nm e k = k e := rfl
theorem bp_s {α β γ : Type} {a : α} {b : β} {k : α → β → Option γ} : bp (some (a, b)) k = k a b := rfl
theorem dr_s {α : Type} {x b : Nat} {k : Nat → Option α} (h : x < b) : dr (some x) b k = k x := by show gd (decide (x < b)) (k x) = k x; rw [decide_eq_true h]; rfl
theorem oc_s' {α : Type} {x b : Nat} {A : Option α} {B : Nat → Option α} (h : x < b) : oc (some x) b A B = B x := by show gd (decide (x < b)) (B x) = B x; rw [decide_eq_true h]; rfl
theorem gI_sI {σ : PS} {k n i a b c : Nat} {v : Int32} : gI (sI σ k n i v) a b c = if a = k ∧ b = n ∧ c = i then v else gI σ a b c := by
  by_cases h : a = k ∧ b = n
  · obtain ⟨rfl, rfl⟩ := h
    rw [gI_sI_same]
    unfold upd
    by_cases hc : c = i <;> simp [hc]
  · rw [gI_sI_ne h, if_neg (fun q => h ⟨q.1, q.2.1⟩)]
theorem gL_sL {σ : PS} {k n i a b c : Nat} {v : Int64} : gL (sL σ k n i v) a b c = if a = k ∧ b = n ∧ c = i then v else gL σ a b c := by
  by_cases h : a = k ∧ b = n
  · obtain ⟨rfl, rfl⟩ := h
    rw [gL_sL_same]
    unfold vp_updL
    by_cases hc : c = i <;> simp [hc]
  · rw [gL_sL_ne h, if_neg (fun q => h ⟨q.1, q.2.1⟩)]
theorem gR_sR {σ : PS} {k n i a b c : Nat} {v : Option Nat} : gR (sR σ k n i v) a b c = if a = k ∧ b = n ∧ c = i then v else gR σ a b c := by
  by_cases h : a = k ∧ b = n
  · obtain ⟨rfl, rfl⟩ := h
    rw [gR_sR_same]
    unfold va_up
    by_cases hc : c = i <;> simp [hc]
  · rw [gR_sR_ne h, if_neg (fun q => h ⟨q.1, q.2.1⟩)]
/-- one bit -/
theorem b_one {t : Nat} (ht : t < 32) {i : Nat} (hi : i < 32) : bt ((1 : Int32) <<< (nI t &&& 31)) i = decide (i = t) := by
  rw [b_shl t ht _ hi]
  have h1 : ∀ j, j < 32 → bt 1 j = decide (j = 0) := by decide +kernel
  by_cases h : t ≤ i
  · rw [h1 (i - t) (by omega)]
    by_cases h2 : i = t <;> simp [h, h2]; omega
  · have : i ≠ t := by omega
    simp [h, this]
theorem b_test {v : Int32} {t : Nat} (ht : t < 32) : (v &&& ((1 : Int32) <<< (nI t &&& 31))) = 0 ↔ bt v t = false := by
  constructor
  · intro h
    have h1 := congrArg (fun x => bt x t) h
    simp only [b_and, b_one ht ht, b_0] at h1
    simpa using h1
  · intro h
    apply b_ext
    intro i hi
    rw [b_and, b_one ht hi, b_0]
    by_cases h2 : i = t
    · subst h2; simp [h]
    · simp [h2]
theorem b_put {v : Int32} {t : Nat} (ht : t < 32) {i : Nat} (hi : i < 32) : bt (v ||| ((1 : Int32) <<< (nI t &&& 31))) i = (bt v i || decide (i = t)) := by rw [b_or, b_one ht hi]
/-- an int is below 0, at least n, or a number below n -/
theorem cases_nI (x : Int32) {n : Nat} (hn : n < 2 ^ 31) : x < 0 ∨ (¬ x < 0 ∧ nI n ≤ x) ∨ ∃ j : Nat, j < n ∧ x = nI j := by
  rcases pk_ix x hn with h | h | h
  · exact Or.inl h
  · by_cases h0 : x < 0
    · exact Or.inl h0
    · exact Or.inr (Or.inl ⟨h0, h⟩)
  · exact Or.inr (Or.inr h)

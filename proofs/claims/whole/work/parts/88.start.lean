/-! ===== the two memories at the start ===== -/
theorem perm_P {G : va_G} {ca : Nat → ClassId} {w1 : va_W} {L : List (Nat × Nat)} {ad : Nat → Nat → Nat} {σ : PS} {H : Heap} {A : Nat → Prop} (pos : Nat × Nat → Nat) (hN : ∀ x ∈ L, w1[pos x]? = some (ad x.1 x.2, ent ad ca σ x.1 x.2)) (hpos : ∀ x ∈ L, ∀ y ∈ L, pos x = pos y → x = y) (hnd : L.Nodup) (hP : va_P G vwCl w1 H) (hD : va_D A w1) : va_P G vwCl (wld ad ca σ L) H ∧ DW ad L A := by
  constructor
  · refine va_P_all (fun q hq => ?_)
    obtain ⟨x, hx, rfl⟩ := List.mem_map.mp hq
    exact va_P_mem hP (List.mem_of_getElem? (hN x hx))
  · refine DW_mk hnd (fun x hx y hy e => ?_) (fun x hx => hD.2 _ _ (hN x hx))
    exact hpos x hx y hy (hD.1 _ _ _ _ (hN x hx) (hN y hy) e)
theorem init_l {kx : PS → Option PS} : ∀ (n i m : Nat) (σ : PS), i + m = 12 → m < n → (∀ j, j < i → gI σ 501 0 j = -1) → ∃ σ', X10_init_l244 kx n (nI i) σ = kx σ' ∧ (∀ j, j < 12 → gI σ' 501 0 j = -1) ∧ ag (fun k _ _ => k = 501) σ σ' := by
  intro n
  induction n with
  | zero => intro i m σ _ h; omega
  | succ n ih =>
    intro i m σ h1 h2 h3
    unfold X10_init_l244
    by_cases q : m = 0
    · rw [if_pos (by rw [show i = 12 by omega]; decide)]
      exact ⟨σ, rfl, fun j hj => h3 j (by omega), ag_r σ⟩
    · rw [if_neg (show ¬ (12 : Int32) ≤ nI i from nI_ge (a := i) (b := 12) (by omega) (by omega))]
      rw [ib_nI (by omega), show decide (i < 12) = true from decide_eq_true (by omega)]
      show ∃ σ', nm _ _ = kx σ' ∧ _
      unfold nm
      rw [ix_nI (by omega), ← nI_succ]
      obtain ⟨σ', a1, a2, a3⟩ := ih (i + 1) (m - 1) (sI σ 501 0 i (-1)) (by omega) (by omega) (fun j hj => by
        rw [gI_sI]
        by_cases r : j = i
        · rw [if_pos ⟨rfl, rfl, r⟩]
        · rw [if_neg (fun w => r w.2.2)]; exact h3 j (by omega))
      exact ⟨σ', a1, a2, ag_t (ag_sI rfl) a3⟩
theorem tail0 : ∃ τ0, X10_tail sM00 = some τ0 ∧ (∀ j, j < 12 → gI τ0 501 0 j = -1) ∧ (∀ j, j < 2 → gI τ0 525 0 j = -1) ∧ ag (fun k _ _ => k = 501 ∨ k = 525) sM00 τ0 := by
  obtain ⟨σ', a1, a2, a3⟩ := init_l (kx := fun σ => X10_init_c263 σ) fuel 0 12 sM00 (by omega) (by have := fuel_ge; omega) (fun j hj => by omega)
  refine ⟨sI (sI σ' 525 0 0 (-1)) 525 0 1 (-1), a1.trans rfl, fun j hj => ?_, fun j hj => ?_, ?_⟩
  · rw [gI_sI, if_neg (by omega), gI_sI, if_neg (by omega)]; exact a2 j hj
  · rw [gI_sI, gI_sI]
    rcases (show j = 0 ∨ j = 1 by omega) with rfl | rfl <;> rfl
  · refine ag_t ⟨fun k n i hd => a3.1 k n i (fun q => hd (Or.inl q)), a3.2⟩ (ag_t (ag_sI (Or.inr rfl)) (ag_sI (Or.inr rfl)))
def sC0 : PS := (fun k _ => if k = 401 then (fun _ => -1) else if k = 455 then (upd (upd (fun _ => 0) (Int32.toNatClampNeg (0 : Int32)) (-1 : Int32)) (Int32.toNatClampNeg (1 : Int32)) (-1 : Int32)) else if k = 450 then (fun i => if i = 11 then -1 else 0) else if k = 300 then (fun i => if i = 2 then 1 else 0) else (fun _ => 0), fun _ _ _ => 0, fun _ _ _ => none, fun _ _ => 0)
theorem bt_0 (t : Nat) : bt 0 t = false := by
  unfold bt
  simp
theorem RR0 {τ0 : PS} (h1 : ∀ j, j < 12 → gI τ0 501 0 j = -1) (h2 : ∀ j, j < 2 → gI τ0 525 0 j = -1) (h3 : ag (fun k _ _ => k = 501 ∨ k = 525) sM00 τ0) : RR (0, 0) 0 sC0 τ0 := by
  have e : ∀ k i, k ≠ 501 → k ≠ 525 → gI τ0 k 0 i = gI sM00 k 0 i := fun k i a b => agI h3 (fun q => q.elim a b)
  have eL : gL τ0 500 0 26 = gL sM00 500 0 26 := agL h3 (by decide)
  have m0 : ∀ k i, k ≠ 501 → k ≠ 525 → k ≠ 500 → gI τ0 k 0 i = 0 := fun k i a b d => by
    rw [e k i a b]
    simp [sM00, gI, sI, d]
  have m5 : ∀ i, i ≠ 25 → i ≠ 33 → gI τ0 500 0 i = 0 := fun i a b => by
    rw [e 500 i (by decide) (by decide)]
    simp [sM00, gI, sI, upd, a, b]
  have m25 : gI τ0 500 0 25 = -1 := by rw [e 500 25 (by decide) (by decide)]; simp [sM00, gI, sI, upd]
  have m33 : gI τ0 500 0 33 = -1 := by rw [e 500 33 (by decide) (by decide)]; simp [sM00, gI, sI, upd]
  have c0 : ∀ k i, k ≠ 401 → k ≠ 455 → k ≠ 450 → k ≠ 300 → gI sC0 k 0 i = 0 := fun k i a b d f => by simp [sC0, gI, a, b, d, f]
  have c4 : ∀ i, i ≠ 11 → gI sC0 450 0 i = 0 := fun i a => by simp [sC0, gI, a]
  refine ⟨fun _ => 0, fun _ => 0, fun _ => 0, fun _ _ => 0, fun _ _ => 0, 0, ?_, fun q => ?_, fun _ => rfl, ?_, ?_, ?_, ?_, ?_, ?_, ?_, ?_, ?_, ?_⟩
  · refine ⟨⟨by rw [m5 4 (by decide) (by decide)]; rfl, Or.inl (m5 4 (by decide) (by decide))⟩, fun c hc => ⟨by rw [h1 c hc]; rfl, Or.inl (h1 c hc)⟩, fun x t _ _ => ⟨Or.inl (m0 502 _ (by decide) (by decide) (by decide)), ?_⟩, fun x t _ _ _ => ?_, fun c hc => ⟨Or.inl (m0 504 _ (by decide) (by decide) (by decide)), ?_⟩, fun t _ _ => ?_⟩
    · rw [c0 402 x (by decide) (by decide) (by decide) (by decide), bt_0, m0 502 _ (by decide) (by decide) (by decide)]
      constructor <;> intro w <;> exact absurd w (by decide)
    · rw [c0 402 x (by decide) (by decide) (by decide) (by decide), bt_0]
    · rw [c0 400 3 (by decide) (by decide) (by decide) (by decide), bt_0, m0 504 _ (by decide) (by decide) (by decide)]
      constructor <;> intro w <;> exact absurd w (by decide)
    · rw [c0 400 3 (by decide) (by decide) (by decide) (by decide), bt_0]
  · rw [m5 4 (by decide) (by decide)] at q; exact absurd q (by decide)
  · exact ⟨by omega, by rw [c0 350 2 (by decide) (by decide) (by decide) (by decide)]; rfl, by rw [m5 5 (by decide) (by decide)]; rfl, fun i hi => by omega⟩
  · intro i hi
    refine ⟨?_, Or.inl (h2 i hi)⟩
    rw [h2 i hi]
    rcases (show i = 0 ∨ i = 1 by omega) with rfl | rfl <;> rfl
  · exact ⟨by decide, by rw [c4 9 (by decide)]; rfl, by rw [m5 8 (by decide) (by decide)]; rfl, fun f hf => absurd hf (Nat.not_lt_zero f)⟩
  · exact ⟨by decide, by rw [c4 10 (by decide)]; rfl, by rw [m5 14 (by decide) (by decide)]; rfl, fun f hf => absurd hf (Nat.not_lt_zero f)⟩
  · exact fun h i hh => absurd hh (Nat.not_lt_zero h)
  · exact fun f hf => absurd hf (Nat.not_lt_zero f)
  · refine ⟨Or.inr ⟨m25, c0 150 3 (by decide) (by decide) (by decide) (by decide), rfl⟩, fun q => by rw [m25] at q; exact absurd q (by decide), fun q => by rw [m25] at q; exact absurd q (by decide), by rw [m33]; rfl, by rw [m5 30 (by decide) (by decide)]; rfl, 0, by decide, by rw [c0 150 1 (by decide) (by decide) (by decide) (by decide)]; rfl, by rw [m5 29 (by decide) (by decide)]; rfl, fun k hk => by omega⟩
  · exact fun k hk => by rw [m0 524 k (by decide) (by decide) (by decide)]; rfl
  · exact fun g hg => absurd hg (Nat.not_lt_zero g)
  · exact ⟨fun f _ _ => ⟨m0 511 f (by decide) (by decide) (by decide), m0 512 f (by decide) (by decide) (by decide), m0 514 f (by decide) (by decide) (by decide)⟩, fun h _ _ => m0 520 h (by decide) (by decide) (by decide)⟩

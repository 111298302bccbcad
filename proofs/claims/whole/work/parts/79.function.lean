/-! ===== function(): a new function is made ===== -/
section XG
variable {p : Program} {l : Launch} {e : Env} {R : Room} {s : State} {m : MethodId} {args : Array Value} {below : List Frame} {meth : Method} {c : Code} {H : Heap} {locs : List Loc} {cells slots : Nat} {Q : State → Prop}
variable {cc : ByteArray} {pc : Nat} {ls : Array Slot} {rest : List Value} {G : va_G} {A : Nat → Prop} {ad : Nat → Nat → Nat} {ca : Nat → ClassId} {σ : PS} {L : List (Nat × Nat)} {H0 : Heap} {k n : Nat}
theorem x_aast4 (hx : p.tables.exec = Jvm.exec) (hb : c.code = cc) (hK : va_K G vwCl (tyL ca) s) (hD : DW ad L A) (hP : va_P G vwCl (wld ad ca σ L) H) (hS : va_S A H0 H locs) (hq : (k, n) ∈ L) (hk : ak k = 4) {t x : Nat} (ht : rk k = t) (hr : vwCl[ck t]? = some (RX1, TX1, 10)) (hkt : ak t = 0) (hqx : (t, x) ∈ L) {i : Int32} (hi : ib i (al σ k n) = true) (hdg : decode cc pc = .ok (.aastore, 1))
    (kk : ∀ (H1 : Heap) (locs1 : List Loc), va_P G vwCl (wld ad ca (sR σ k n (ix i) (some x)) L) H1 → va_S A H0 H1 locs1 → W p l e R s m args below meth c H1 locs1 cells slots Q (F0 m (pc + 1) ls rest)) : W p l e R s m args below meth c H locs cells slots Q (F0 m pc ls (.ref (ad t x) :: .int i :: .ref (ad k n) :: rest)) := by
  obtain ⟨q0, h0, he⟩ := wl_get (ad := ad) ca σ hq
  obtain ⟨q1, -, he1⟩ := wl_get (ad := ad) ca σ hqx
  rw [ent_4 hk] at he
  rw [ent_0 hkt] at he1
  refine va_astq hx hb hK hP (hD.d ca σ) hS q0 3 q1 (ck t) (r := (RX1, TX1, 10)) he rfl he1 hr (ib_in hi) hdg (fun H1 locs1 hP1 _ hS1 => kk H1 locs1 ?_ hS1)
  rw [wl_set (τ := sR σ k n (ix i) (some x)) hD h0 (by rw [ent_4 hk, gR_sR_same, ht, x_upm]; rfl) wl_sR] at hP1
  exact hP1
end XG
/-- a world that may have grown: addresses, counts, memory -/
abbrev SG : Type := (Nat → Nat → Nat) × (Nat × Nat) × PS
abbrev ctG (G : va_G) (ca : Nat → ClassId) (A : Nat → Prop) (a0 : Nat) : SG → State → Prop := fun u t => va_P G vwCl (wld u.1 ca u.2.2 (LC u.2.1)) t.heap ∧ va_K G vwCl (tyL ca) t ∧ DW u.1 (LC u.2.1) A ∧ u.1 450 0 = a0
abbrev ctN (G : va_G) (ad : Nat → Nat → Nat) (ca : Nat → ClassId) (L : List (Nat × Nat)) (σ : PS) (Z : State → Prop) (sz : Nat) (av : List Value) : Array Value → State → Prop := va_Pc av (fun U => U.heap.size = sz ∧ va_P G vwCl (wld ad ca σ L) U.heap ∧ va_K G vwCl (tyL ca) U ∧ Z U)
def nF0 (σ : PS) (f p : Nat) : PS :=
  (fun k n => if n = f ∧ k = 50 then (fun i => if i = 1 then nI f else if i = 2 then nI p else 0) else if n = f ∧ (k = 55 ∨ k = 57 ∨ k = 200 ∨ k = 201 ∨ k = 204) then (fun _ => 0) else σ.1 k n,
   fun k n => if n = f ∧ (k = 202 ∨ k = 203) then (fun _ => 0) else σ.2.1 k n,
   fun k n => if n = f ∧ k = 56 then (fun _ => none) else σ.2.2.1 k n,
   σ.2.2.2)
theorem nF_eq (σ : PS) (f p : Nat) : sI (sR (nF0 σ f p) 453 0 f (some f)) 450 0 9 (nI (f + 1)) = nF σ f p := by
  unfold sI sR nF nF0
  refine Prod.ext ?_ (Prod.ext rfl (Prod.ext ?_ rfl))
  · funext k n
    by_cases q : k = 450 ∧ n = 0
    · obtain ⟨rfl, rfl⟩ := q
      simp
    · simp [q]
  · funext k n
    by_cases q : k = 453 ∧ n = 0
    · obtain ⟨rfl, rfl⟩ := q
      simp
    · simp [q]
def naF (q : Nat) (u : Nat → Nat) (k : Nat) : Nat := match k with
  | 50 => q
  | 200 => u 0
  | 201 => u 1
  | 202 => u 2
  | 203 => u 3
  | 204 => u 4
  | 55 => u 5
  | 56 => u 6
  | _ => u 7
def posF (k : Nat) : Nat := match k with
  | 50 => 0
  | 200 => 1
  | 201 => 2
  | 202 => 3
  | 203 => 4
  | 204 => 5
  | 55 => 6
  | 56 => 7
  | _ => 8
theorem posF_i : ∀ k ∈ qLF, ∀ k' ∈ qLF, posF k = posF k' → k = k' := by decide +kernel
theorem LC_F {z : Nat × Nat} (k n : Nat) : (k, n) ∈ LC (z.1 + 1, z.2) ↔ (k, n) ∈ LC z ∨ k ∈ qLF ∧ n = z.1 := by
  rw [LC_mem, LC_mem]
  show (_ ∨ _ ∨ (k ∈ qLF ∧ n < z.1 + 1) ∨ _) ↔ _
  rw [show (n < z.1 + 1) = (n < z.1 ∨ n = z.1) from propext (by omega)]
  constructor
  · rintro (h | h | ⟨h, h' | h'⟩ | h)
    · exact Or.inl (Or.inl h)
    · exact Or.inl (Or.inr (Or.inl h))
    · exact Or.inl (Or.inr (Or.inr (Or.inl ⟨h, h'⟩)))
    · exact Or.inr ⟨h, h'⟩
    · exact Or.inl (Or.inr (Or.inr (Or.inr h)))
  · rintro ((h | h | h | h) | h)
    · exact Or.inl h
    · exact Or.inr (Or.inl h)
    · exact Or.inr (Or.inr (Or.inl ⟨h.1, Or.inl h.2⟩))
    · exact Or.inr (Or.inr (Or.inr h))
    · exact Or.inr (Or.inr (Or.inl ⟨h.1, Or.inr h.2⟩))
theorem LC_H {z : Nat × Nat} (k n : Nat) : (k, n) ∈ LC (z.1, z.2 + 1) ↔ (k, n) ∈ LC z ∨ k ∈ qLH ∧ n = z.2 := by
  rw [LC_mem, LC_mem]
  show (_ ∨ _ ∨ _ ∨ (k ∈ qLH ∧ n < z.2 + 1)) ↔ _
  rw [show (n < z.2 + 1) = (n < z.2 ∨ n = z.2) from propext (by omega)]
  constructor
  · rintro (h | h | h | ⟨h, h' | h'⟩)
    · exact Or.inl (Or.inl h)
    · exact Or.inl (Or.inr (Or.inl h))
    · exact Or.inl (Or.inr (Or.inr (Or.inl h)))
    · exact Or.inl (Or.inr (Or.inr (Or.inr ⟨h, h'⟩)))
    · exact Or.inr ⟨h, h'⟩
  · rintro ((h | h | h | h) | h)
    · exact Or.inl h
    · exact Or.inr (Or.inl h)
    · exact Or.inr (Or.inr (Or.inl h))
    · exact Or.inr (Or.inr (Or.inr ⟨h.1, Or.inl h.2⟩))
    · exact Or.inr (Or.inr (Or.inr ⟨h.1, Or.inr h.2⟩))
theorem disF : ∀ k ∈ qLF, k ∉ qLS ∧ k ∉ qLC0 ∧ k ∉ qLH := by decide +kernel
theorem disH : ∀ k ∈ qLH, k ∉ qLS ∧ k ∉ qLC0 ∧ k ∉ qLF := by decide +kernel
theorem LC_Fn {z : Nat × Nat} (k n : Nat) (h : (k, n) ∈ LC z) (hk : k ∈ qLF) : n < z.1 := by
  obtain ⟨d1, d2, d3⟩ := disF k hk
  rcases LC_mem.mp h with h | h | h | h
  · exact absurd h.1 d1
  · exact absurd h.1 d2
  · exact h.2
  · exact absurd h.1 d3
theorem LC_Hn {z : Nat × Nat} (k n : Nat) (h : (k, n) ∈ LC z) (hk : k ∈ qLH) : n < z.2 := by
  obtain ⟨d1, d2, d3⟩ := disH k hk
  rcases LC_mem.mp h with h | h | h | h
  · exact absurd h.1 d1
  · exact absurd h.1 d2
  · exact absurd h.1 d3
  · exact h.2

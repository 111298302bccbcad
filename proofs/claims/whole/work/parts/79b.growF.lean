set_option maxHeartbeats 400000 in
/-- the grown pool of a new function -/
theorem growF {G : va_G} {ad : Nat → Nat → Nat} {ca : Nat → ClassId} {z : Nat × Nat} {σ : PS} {H : Heap} {A : Nat → Prop} {q p : Nat} {u : Nat → Nat} (hz1 : z.1 < 4) (hz2 : z.2 ≤ 40)
    (hP : va_P G vwCl (wld ad ca σ (LC z) ++ w1_X1_init ca q (ad 400 0) (nI z.1) (nI p) u) H) (hD : va_D A (wld ad ca σ (LC z) ++ w1_X1_init ca q (ad 400 0) (nI z.1) (nI p) u)) (hDW : DW ad (LC z) A) :
    va_P G vwCl (wld (adN ad qLF 50 z.1 (naF q u)) ca (nF0 (shR 50 z.1 σ) z.1 p) (LC (z.1 + 1, z.2))) H ∧ DW (adN ad qLF 50 z.1 (naF q u)) (LC (z.1 + 1, z.2)) A := by
  refine grow posF (by decide) LC_F LC_Fn (fun k n h => ok_F k (LC_k h)) (LC_nd (by show z.1 + 1 ≤ 4; omega) hz2) hP hD hDW ?_ posF_i ?_
  · have n400 : adN ad qLF 50 z.1 (naF q u) 400 0 = ad 400 0 := adN_o (fun h => absurd h (by decide))
    have nn : ∀ k, k ∈ qLF → adN ad qLF 50 z.1 (naF q u) k z.1 = naF q u k := fun k h => adN_n h
    have i50 : ∀ i, gI (nF0 (shR 50 z.1 σ) z.1 p) 50 z.1 i = if i = 1 then nI z.1 else if i = 2 then nI p else 0 := fun i => by simp [gI, nF0]
    have i0 : ∀ k, (k = 55 ∨ k = 57 ∨ k = 200 ∨ k = 201 ∨ k = 204) → gI (nF0 (shR 50 z.1 σ) z.1 p) k z.1 = fun _ => 0 := fun k hk => by
      have : ¬ k = 50 := by omega
      simp [gI, nF0, this, hk]
    have l0 : ∀ k, (k = 202 ∨ k = 203) → gL (nF0 (shR 50 z.1 σ) z.1 p) k z.1 = fun _ => 0 := fun k hk => by simp [gL, nF0, hk]
    have r0 : gR (nF0 (shR 50 z.1 σ) z.1 p) 56 z.1 = fun _ => none := by simp [gR, nF0]
    intro k hk
    rcases (show k = 50 ∨ k = 55 ∨ k = 56 ∨ k = 57 ∨ k = 200 ∨ k = 201 ∨ k = 202 ∨ k = 203 ∨ k = 204 by simpa [qLF] using hk) with rfl | rfl | rfl | rfl | rfl | rfl | rfl | rfl | rfl
    · rw [ent_0 (k := 50) rfl]
      show some (q, Sum.inr (1, _)) = some (q, (Sum.inr (1, ([.ref (adN ad qLF 50 z.1 (naF q u) 400 0), .int (gI (nF0 (shR 50 z.1 σ) z.1 p) 50 z.1 1), .int (gI (nF0 (shR 50 z.1 σ) z.1 p) 50 z.1 2), .ref (adN ad qLF 50 z.1 (naF q u) 200 z.1), .ref (adN ad qLF 50 z.1 (naF q u) 55 z.1), .ref (adN ad qLF 50 z.1 (naF q u) 56 z.1), .ref (adN ad qLF 50 z.1 (naF q u) 57 z.1), .int (gI (nF0 (shR 50 z.1 σ) z.1 p) 50 z.1 7), .int (gI (nF0 (shR 50 z.1 σ) z.1 p) 50 z.1 8), .int (gI (nF0 (shR 50 z.1 σ) z.1 p) 50 z.1 9)] : List Value)) : va_E))
      rw [n400, nn 200 (by decide), nn 55 (by decide), nn 56 (by decide), nn 57 (by decide), i50, i50, i50, i50, i50]
      rfl
    · rw [ent_1 (k := 55) rfl, i0 55 (by omega)]; rfl
    · rw [ent_5 (k := 56) rfl, r0]; rfl
    · rw [ent_1 (k := 57) rfl, i0 57 (by omega)]; rfl
    · rw [ent_0 (k := 200) rfl]
      show some (u 0, Sum.inr (4, _)) = some (u 0, (Sum.inr (4, ([.ref (adN ad qLF 50 z.1 (naF q u) 201 z.1), .ref (adN ad qLF 50 z.1 (naF q u) 202 z.1), .ref (adN ad qLF 50 z.1 (naF q u) 203 z.1), .ref (adN ad qLF 50 z.1 (naF q u) 204 z.1), .int (gI (nF0 (shR 50 z.1 σ) z.1 p) 200 z.1 4), .int (gI (nF0 (shR 50 z.1 σ) z.1 p) 200 z.1 5), .int (gI (nF0 (shR 50 z.1 σ) z.1 p) 200 z.1 6)] : List Value)) : va_E))
      rw [nn 201 (by decide), nn 202 (by decide), nn 203 (by decide), nn 204 (by decide), i0 200 (by omega)]
      rfl
    · rw [ent_1 (k := 201) rfl, i0 201 (by omega)]; rfl
    · rw [ent_3 (k := 202) rfl, l0 202 (by omega)]; rfl
    · rw [ent_3 (k := 203) rfl, l0 203 (by omega)]; rfl
    · rw [ent_1 (k := 204) rfl, i0 204 (by omega)]; rfl
  · intro k n h
    have hn : k ∈ qLF → ¬ n = z.1 := fun r => by have := LC_Fn k n h r; omega
    have hk : ∀ k0, k0 ∈ qLF → ¬ (n = z.1 ∧ k = k0) := fun k0 r q => hn (by rw [q.2]; exact r) q.1
    have c1 : ¬ (n = z.1 ∧ k = 50) := hk 50 (by decide)
    have c2 : ¬ (n = z.1 ∧ (k = 55 ∨ k = 57 ∨ k = 200 ∨ k = 201 ∨ k = 204)) := by
      rintro ⟨a, b | b | b | b | b⟩
      · exact hk 55 (by decide) ⟨a, b⟩
      · exact hk 57 (by decide) ⟨a, b⟩
      · exact hk 200 (by decide) ⟨a, b⟩
      · exact hk 201 (by decide) ⟨a, b⟩
      · exact hk 204 (by decide) ⟨a, b⟩
    have c3 : ¬ (n = z.1 ∧ (k = 202 ∨ k = 203)) := by
      rintro ⟨a, b | b⟩
      · exact hk 202 (by decide) ⟨a, b⟩
      · exact hk 203 (by decide) ⟨a, b⟩
    have c4 : ¬ (n = z.1 ∧ k = 56) := hk 56 (by decide)
    refine ⟨?_, ?_, ?_, rfl⟩
    · show (if n = z.1 ∧ k = 50 then _ else if n = z.1 ∧ (k = 55 ∨ k = 57 ∨ k = 200 ∨ k = 201 ∨ k = 204) then _ else σ.1 k n) = σ.1 k n
      rw [if_neg c1, if_neg c2]
    · show (if n = z.1 ∧ (k = 202 ∨ k = 203) then _ else σ.2.1 k n) = σ.2.1 k n
      rw [if_neg c3]
    · show (if n = z.1 ∧ k = 56 then _ else gR (shR 50 z.1 σ) k n) = gR (shR 50 z.1 σ) k n
      rw [if_neg c4]

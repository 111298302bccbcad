/-! ===== a new handler's pool ===== -/
theorem va_D_skip {A : Nat → Prop} {a b : Nat × va_E} {w : va_W} (h : va_D A (a :: b :: w)) : va_D A (a :: w) := by
  have e : ∀ (k : Nat) (q : Nat × va_E), (a :: w)[k]? = some q → (a :: b :: w)[if k = 0 then 0 else k + 1]? = some q := by
    intro k q hk
    cases k with
    | zero => exact hk
    | succ k => rw [if_neg (by omega)]; exact hk
  refine ⟨fun i j p q hi hj e1 => ?_, fun k q hk => h.2 _ q (e k q hk)⟩
  have := h.1 _ _ p q (e i p hi) (e j q hj) e1
  by_cases q1 : i = 0 <;> by_cases q2 : j = 0
  · omega
  · rw [if_pos q1, if_neg q2] at this; omega
  · rw [if_neg q1, if_pos q2] at this; omega
  · rw [if_neg q1, if_neg q2] at this; omega
/-- behind a call whose world is a new cell and one of ours that stays -/
theorem va_join3 {A0 : Nat → Prop} {D : va_G} {cl : List vw_C} {wr w2 : va_W} {cq cq' o : Nat × va_E} {H H1 : Heap} (hP : va_P D cl (wr ++ [cq]) H) (hD : va_D A0 (wr ++ [cq])) (ho : o ∈ wr) (hk : ∀ q : Nat, q < H.size → ¬ va_A [cq, o] H.size q → H1[q]? = H[q]?) (hF : ∀ q, va_A [cq, o] H.size q → A0 q) (hP1 : va_P D cl (cq' :: o :: w2) H1) (hD1 : va_D (va_A [cq, o] H.size) (cq' :: o :: w2)) : va_P D cl (wr ++ (cq' :: w2)) H1 ∧ va_D A0 (wr ++ (cq' :: w2)) := by
  have inA : ∀ a, va_A [cq, o] H.size a → a = cq.1 ∨ a = o.1 ∨ H.size ≤ a := by
    rintro a (⟨k, e, h⟩ | h)
    · rcases List.mem_cons.mp (List.mem_of_getElem? h) with r | r
      · exact Or.inl (congrArg Prod.fst r)
      · exact Or.inr (Or.inl (congrArg Prod.fst (List.mem_singleton.mp r)))
    · exact Or.inr (Or.inr h)
  have apart : ∀ q ∈ wr, q.1 < H.size ∧ q.1 ≠ cq.1 := fun q hq => ⟨(va_P_mem hP (List.mem_append_left _ hq)).lt, va_D_apart hD hq (List.mem_singleton.mpr rfl)⟩
  refine ⟨va_P.app (va_P_all (fun q hq => ?_)) (va_P_all (fun q hq => ?_)), va_D.app (va_D_left hD) ((va_D_skip hD1).weaken (fun k q _ h => hF q.1 h)) (fun i j x y hx hy hxy => ?_)⟩
  · obtain ⟨g1, g2⟩ := apart q hq
    by_cases r : q.1 = o.1
    · obtain ⟨i, hi⟩ := List.getElem?_of_mem hq
      obtain ⟨j, hj⟩ := List.getElem?_of_mem ho
      have := (va_D_left hD).1 i j q o hi hj r
      subst this
      obtain rfl := Option.some.inj (hi.symm.trans hj)
      exact va_P_mem hP1 (by simp)
    · exact (va_P_mem hP (List.mem_append_left _ hq)).kept (hk q.1 g1 (fun h => (inA _ h).elim g2 (fun s => s.elim r (fun s => by omega))))
  · refine va_P_mem hP1 ?_
    rcases List.mem_cons.mp hq with r | r
    · rw [r]; simp
    · exact List.mem_cons_of_mem _ (List.mem_cons_of_mem _ r)
  · obtain ⟨g1, g2⟩ := apart x (List.mem_of_getElem? hx)
    have hy1 := (va_D_skip hD1).2 j y hy
    rcases inA _ hy1 with s | s | s
    · exact g2 (hxy.trans s)
    · cases j with
      | zero =>
        have := hD1.1 0 1 y o hy rfl s
        omega
      | succ j =>
        have := hD1.1 (j + 2) 1 y o hy rfl s
        omega
    · omega
def nH1 (σ : PS) (h f p : Nat) (act val ar : Int32) : PS :=
  (fun k n => if n = h ∧ k = 100 then (fun i => if i = 1 then nI h else if i = 2 then act else if i = 3 then val else if i = 4 then ar else 0) else if n = h ∧ k = 106 then (fun _ => -1) else if n = h ∧ k = 107 then (fun _ => -2147483648) else if n = h ∧ k = 108 then (fun _ => 2147483647) else σ.1 k n,
   σ.2.1,
   fun k n => if n = h ∧ k = 100 then (fun _ => some f) else σ.2.2.1 k n,
   fun k n => if n = h ∧ (k = 106 ∨ k = 107 ∨ k = 108) then p else σ.2.2.2 k n)
theorem nH_eq (σ : PS) (h f p : Nat) (act val ar : Int32) : sI (sR (nH1 σ h f p act val ar) 454 0 h (some h)) 450 0 10 (nI (h + 1)) = nH σ h f p act val ar := by
  unfold sI sR nH nH1
  refine Prod.ext ?_ (Prod.ext rfl (Prod.ext ?_ rfl))
  · funext k n
    by_cases q : k = 450 ∧ n = 0
    · obtain ⟨rfl, rfl⟩ := q
      simp
    · simp [q]
  · funext k n
    by_cases q : k = 454 ∧ n = 0
    · obtain ⟨rfl, rfl⟩ := q
      simp
    · simp [q]
def naH (q : Nat) (u : Nat → Nat) (k : Nat) : Nat := match k with
  | 100 => q
  | 106 => u 0
  | 107 => u 1
  | _ => u 2
def posH (k : Nat) : Nat := match k with
  | 100 => 0
  | 106 => 1
  | 107 => 2
  | _ => 3
theorem posH_i : ∀ k ∈ qLH, ∀ k' ∈ qLH, posH k = posH k' → k = k' := by decide +kernel
abbrev wH (ca : Nat → ClassId) (q x1 pn : Nat) (x2 x3 x4 x5 : Int32) (u : Nat → Nat) : va_W := [(q, .inr (2, [.ref x1, .int x2, .int x3, .int x4, .int x5, .ref (u 0), .ref (u 1), .ref (u 2), .int (0 : Int32)])), ((u 0), .inl (ca 0, pn, .inl (fun _ => (-1 : Int32)))), ((u 1), .inl (ca 0, pn, .inl (fun _ => (-2147483648 : Int32)))), ((u 2), .inl (ca 0, pn, .inl (fun _ => (2147483647 : Int32))))]
set_option maxHeartbeats 400000 in
theorem growH {G : va_G} {ad : Nat → Nat → Nat} {ca : Nat → ClassId} {z : Nat × Nat} {σ : PS} {H : Heap} {A : Nat → Prop} {q f p : Nat} {act val ar : Int32} {u : Nat → Nat} (hz1 : z.1 ≤ 4) (hz2 : z.2 < 40)
    (hP : va_P G vwCl (wld ad ca σ (LC z) ++ wH ca q (ad 50 f) p (nI z.2) act val ar u) H) (hD : va_D A (wld ad ca σ (LC z) ++ wH ca q (ad 50 f) p (nI z.2) act val ar u)) (hDW : DW ad (LC z) A) :
    va_P G vwCl (wld (adN ad qLH 100 z.2 (naH q u)) ca (nH1 (shR 100 z.2 σ) z.2 f p act val ar) (LC (z.1, z.2 + 1))) H ∧ DW (adN ad qLH 100 z.2 (naH q u)) (LC (z.1, z.2 + 1)) A := by
  refine grow posH (by decide) LC_H LC_Hn (fun k n h => ok_H k (LC_k h)) (LC_nd hz1 (by show z.2 + 1 ≤ 40; omega)) hP hD hDW ?_ posH_i ?_
  · have n50 : adN ad qLH 100 z.2 (naH q u) 50 f = ad 50 f := adN_o (fun h => absurd h (by decide))
    have nn : ∀ k, k ∈ qLH → adN ad qLH 100 z.2 (naH q u) k z.2 = naH q u k := fun k h => adN_n h
    have i100 : ∀ i, gI (nH1 (shR 100 z.2 σ) z.2 f p act val ar) 100 z.2 i = if i = 1 then nI z.2 else if i = 2 then act else if i = 3 then val else if i = 4 then ar else 0 := fun i => by simp [gI, nH1]
    have i6 : gI (nH1 (shR 100 z.2 σ) z.2 f p act val ar) 106 z.2 = fun _ => -1 := by simp [gI, nH1]
    have i7 : gI (nH1 (shR 100 z.2 σ) z.2 f p act val ar) 107 z.2 = fun _ => -2147483648 := by simp [gI, nH1]
    have i8 : gI (nH1 (shR 100 z.2 σ) z.2 f p act val ar) 108 z.2 = fun _ => 2147483647 := by simp [gI, nH1]
    have r0 : gR (nH1 (shR 100 z.2 σ) z.2 f p act val ar) 100 z.2 0 = some f := by simp [gR, nH1]
    have a6 : ∀ k, (k = 106 ∨ k = 107 ∨ k = 108) → gN (nH1 (shR 100 z.2 σ) z.2 f p act val ar) k z.2 = p := fun k hk => by simp [gN, nH1, hk]
    have l6 : al (nH1 (shR 100 z.2 σ) z.2 f p act val ar) 106 z.2 = p := a6 106 (by omega)
    have l7 : al (nH1 (shR 100 z.2 σ) z.2 f p act val ar) 107 z.2 = p := a6 107 (by omega)
    have l8 : al (nH1 (shR 100 z.2 σ) z.2 f p act val ar) 108 z.2 = p := a6 108 (by omega)
    intro k hk
    rcases (show k = 100 ∨ k = 106 ∨ k = 107 ∨ k = 108 by simpa [qLH] using hk) with rfl | rfl | rfl | rfl
    · rw [ent_0 (k := 100) rfl]
      show some (q, Sum.inr (2, _)) = some (q, (Sum.inr (2, ([va_rf ((gR (nH1 (shR 100 z.2 σ) z.2 f p act val ar) 100 z.2 0).map (adN ad qLH 100 z.2 (naH q u) 50)), .int (gI (nH1 (shR 100 z.2 σ) z.2 f p act val ar) 100 z.2 1), .int (gI (nH1 (shR 100 z.2 σ) z.2 f p act val ar) 100 z.2 2), .int (gI (nH1 (shR 100 z.2 σ) z.2 f p act val ar) 100 z.2 3), .int (gI (nH1 (shR 100 z.2 σ) z.2 f p act val ar) 100 z.2 4), .ref (adN ad qLH 100 z.2 (naH q u) 106 z.2), .ref (adN ad qLH 100 z.2 (naH q u) 107 z.2), .ref (adN ad qLH 100 z.2 (naH q u) 108 z.2), .int (gI (nH1 (shR 100 z.2 σ) z.2 f p act val ar) 100 z.2 8)] : List Value)) : va_E))
      rw [r0, nn 106 (by decide), nn 107 (by decide), nn 108 (by decide), i100, i100, i100, i100, i100]
      show _ = some (q, (Sum.inr (2, ([Value.ref (adN ad qLH 100 z.2 (naH q u) 50 f), _, _, _, _, _, _, _, _] : List Value)) : va_E))
      rw [n50]
      rfl
    · rw [ent_1 (k := 106) rfl, i6, l6]; rfl
    · rw [ent_1 (k := 107) rfl, i7, l7]; rfl
    · rw [ent_1 (k := 108) rfl, i8, l8]; rfl
  · intro k n h
    have hn : k ∈ qLH → ¬ n = z.2 := fun r => by have := LC_Hn k n h r; omega
    have hk : ∀ k0, k0 ∈ qLH → ¬ (n = z.2 ∧ k = k0) := fun k0 r q => hn (by rw [q.2]; exact r) q.1
    have c1 := hk 100 (by decide)
    have c2 := hk 106 (by decide)
    have c3 := hk 107 (by decide)
    have c4 := hk 108 (by decide)
    refine ⟨?_, rfl, ?_, ?_⟩
    · show (if n = z.2 ∧ k = 100 then _ else if n = z.2 ∧ k = 106 then _ else if n = z.2 ∧ k = 107 then _ else if n = z.2 ∧ k = 108 then _ else σ.1 k n) = σ.1 k n
      rw [if_neg c1, if_neg c2, if_neg c3, if_neg c4]
    · show (if n = z.2 ∧ k = 100 then _ else gR (shR 100 z.2 σ) k n) = gR (shR 100 z.2 σ) k n
      rw [if_neg c1]
    · show (if n = z.2 ∧ (k = 106 ∨ k = 107 ∨ k = 108) then p else σ.2.2.2 k n) = σ.2.2.2 k n
      rw [if_neg (fun w => w.2.elim (fun b => c2 ⟨w.1, b⟩) (fun b => b.elim (fun b => c3 ⟨w.1, b⟩) (fun b => c4 ⟨w.1, b⟩)))]

/-! ===== a pool grows by the cells of a function or a handler ===== -/
def adN (ad : Nat → Nat → Nat) (ks : List Nat) (m0 b : Nat) (na : Nat → Nat) : Nat → Nat → Nat := fun k n => if k ∈ ks then (if n = b then na k else if k = m0 ∧ b < n then ad k (n - 1) else ad k n) else ad k n
def rto (k : Nat) : Nat := if k = 100 then 50 else rk k
def shN (b x : Nat) : Nat := if b ≤ x then x + 1 else x
/-- references to cells that aren't there yet step aside -/
def shR (m0 b : Nat) (σ : PS) : PS := (σ.1, σ.2.1, fun k n i => if rto k = m0 then (σ.2.2.1 k n i).map (shN b) else σ.2.2.1 k n i, σ.2.2.2)
theorem adN_o {ad : Nat → Nat → Nat} {ks : List Nat} {m0 b : Nat} {na : Nat → Nat} {k n : Nat} (h : k ∈ ks → n < b) : adN ad ks m0 b na k n = ad k n := by
  unfold adN
  by_cases q : k ∈ ks
  · rw [if_pos q, if_neg (by have := h q; omega), if_neg (by have := h q; omega)]
  · rw [if_neg q]
theorem adN_n {ad : Nat → Nat → Nat} {ks : List Nat} {m0 b : Nat} {na : Nat → Nat} {k : Nat} (h : k ∈ ks) : adN ad ks m0 b na k b = na k := by
  unfold adN
  rw [if_pos h, if_pos rfl]
theorem adN_r {ad : Nat → Nat → Nat} {ks : List Nat} {m0 b : Nat} {na : Nat → Nat} {t k n i : Nat} {σ : PS} (hm : m0 ∈ ks) (ht : rto k = t) (h : t = m0 ∨ t ∉ ks) : (gR (shR m0 b σ) k n i).map (adN ad ks m0 b na t) = (gR σ k n i).map (ad t) := by
  show ((if rto k = m0 then (σ.2.2.1 k n i).map (shN b) else σ.2.2.1 k n i)).map (adN ad ks m0 b na t) = (σ.2.2.1 k n i).map (ad t)
  by_cases q : t = m0
  · subst q
    rw [if_pos ht]
    cases σ.2.2.1 k n i with
    | none => rfl
    | some x =>
      show some (adN ad ks t b na t (shN b x)) = some (ad t x)
      unfold shN
      by_cases r : b ≤ x
      · rw [if_pos r]
        unfold adN
        rw [if_pos hm, if_neg (by omega), if_pos ⟨rfl, by omega⟩, Nat.add_sub_cancel]
      · rw [if_neg r, adN_o (fun _ => by omega)]
  · have hk := h.resolve_left q
    rw [if_neg (by rw [ht]; exact q)]
    cases σ.2.2.1 k n i with
    | none => rfl
    | some x =>
      show some (adN ad ks m0 b na t x) = some (ad t x)
      rw [adN_o (fun r => absurd r hk)]
def okf (ks : List Nat) (m0 k j : Nat) : Bool := match fk k j with
  | (0, _) => true
  | (1, _) => true
  | (2, t) => (!(ks.contains t)) || ks.contains k
  | (3, t) => !(ks.contains t)
  | (4, t) => !(ks.contains t)
  | (_, t) => (rto k == t) && ((t == m0) || !(ks.contains t))
def okk (ks : List Nat) (m0 k : Nat) : Bool := (List.range (nf k)).all (okf ks m0 k) && (!((ak k == 4) || (ak k == 5)) || ((rto k == rk k) && ((rk k == m0) || !(ks.contains (rk k))))) && decide (ak k ≤ 5)
theorem nin {ks : List Nat} {t : Nat} (h : (!(ks.contains t)) = true) : t ∉ ks := by
  intro q
  rw [List.contains_iff_mem.mpr q] at h
  cases h
theorem fv_grow {ad : Nat → Nat → Nat} {ks : List Nat} {m0 b k n j : Nat} {na : Nat → Nat} {σ σ1 : PS} (hm : m0 ∈ ks) (ho : okf ks m0 k j = true) (hn : k ∈ ks → n < b) (h1 : gI σ1 k n = gI σ k n) (h2 : gL σ1 k n = gL σ k n) (h3 : gR σ1 k n = gR (shR m0 b σ) k n) : fv (adN ad ks m0 b na) σ1 k n j = fv ad σ k n j := by
  unfold okf at ho
  unfold fv
  rw [h1, h2, h3]
  generalize hfk : fk k j = w at ho
  obtain ⟨a, t⟩ := w
  match a with
  | 0 => rfl
  | 1 => rfl
  | 2 =>
    show Value.ref _ = Value.ref _
    congr 1
    refine adN_o (fun q => ?_)
    have ho : ((!(ks.contains t)) || ks.contains k) = true := ho
    rcases (Bool.or_eq_true _ _).mp ho with r | r
    · exact absurd q (nin r)
    · exact hn (List.contains_iff_mem.mp r)
  | 3 =>
    show Value.ref _ = Value.ref _
    congr 1
    exact adN_o (fun q => absurd q (nin ho))
  | 4 =>
    show Value.ref _ = Value.ref _
    congr 1
    exact adN_o (fun q => absurd q (nin ho))
  | a + 5 =>
    have ho : ((rto k == t) && ((t == m0) || !(ks.contains t))) = true := ho
    obtain ⟨o1, o2⟩ := (Bool.and_eq_true _ _).mp ho
    show va_rf _ = va_rf _
    congr 1
    refine adN_r hm (beq_iff_eq.mp o1) ?_
    rcases (Bool.or_eq_true _ _).mp o2 with r | r
    · exact Or.inl (beq_iff_eq.mp r)
    · exact Or.inr (nin r)
theorem ent_grow {ad : Nat → Nat → Nat} {ca : Nat → ClassId} {ks : List Nat} {m0 b k n : Nat} {na : Nat → Nat} {σ σ1 : PS} (hm : m0 ∈ ks) (ho : okk ks m0 k = true) (hn : k ∈ ks → n < b) (h1 : gI σ1 k n = gI σ k n) (h2 : gL σ1 k n = gL σ k n) (h3 : gR σ1 k n = gR (shR m0 b σ) k n) (h4 : gN σ1 k n = gN σ k n) : ent (adN ad ks m0 b na) ca σ1 k n = ent ad ca σ k n := by
  unfold okk at ho
  obtain ⟨ho, o3⟩ := (Bool.and_eq_true _ _).mp ho
  obtain ⟨o1, o2⟩ := (Bool.and_eq_true _ _).mp ho
  have ha : al σ1 k n = al σ k n := by simp only [al, h4]
  have hf : fl (adN ad ks m0 b na) σ1 k n = fl ad σ k n := by
    unfold fl
    exact List.map_congr_left (fun j hj => fv_grow hm (List.all_eq_true.mp o1 j hj) hn h1 h2 h3)
  have o3 := of_decide_eq_true o3
  have hr : (ak k = 4 ∨ ak k = 5) → (fun i => (gR σ1 k n i).map (adN ad ks m0 b na (rk k))) = (fun i => (gR σ k n i).map (ad (rk k))) := by
    intro q
    funext i
    rw [h3]
    rcases (Bool.or_eq_true _ _).mp o2 with r | r
    · rcases q with q | q <;> (rw [q] at r; exact absurd r (by decide))
    · obtain ⟨r1, r2⟩ := (Bool.and_eq_true _ _).mp r
      refine adN_r hm (beq_iff_eq.mp r1) ?_
      rcases (Bool.or_eq_true _ _).mp r2 with r | r
      · exact Or.inl (beq_iff_eq.mp r)
      · exact Or.inr (nin r)
  rcases (show ak k = 0 ∨ ak k = 1 ∨ ak k = 2 ∨ ak k = 3 ∨ ak k = 4 ∨ ak k = 5 by omega) with q | q | q | q | q | q
  · rw [ent_0 q, ent_0 q, hf]
  · rw [ent_1 q, ent_1 q, ha, h1]
  · rw [ent_2 q, ent_2 q, ha, h1]
  · rw [ent_3 q, ent_3 q, ha, h2]
  · rw [ent_4 q, ent_4 q, ha, hr (Or.inl q)]
  · rw [ent_5 q, ent_5 q, ha, hr (Or.inr q)]
theorem pl_mem {m : Nat} {ks : List Nat} {k n : Nat} : (k, n) ∈ pl m ks ↔ k ∈ ks ∧ n < m := by
  unfold pl
  rw [List.mem_flatMap]
  constructor
  · rintro ⟨a, ha, hb⟩
    obtain ⟨c, hc, he⟩ := List.mem_map.mp hb
    cases he
    exact ⟨hc, List.mem_range.mp ha⟩
  · rintro ⟨h1, h2⟩
    exact ⟨n, List.mem_range.mpr h2, List.mem_map.mpr ⟨k, h1, rfl⟩⟩
theorem LC_mem {z : Nat × Nat} {k n : Nat} : (k, n) ∈ LC z ↔ (k ∈ qLS ∧ n < 1) ∨ (k ∈ qLC0 ∧ n < 2) ∨ (k ∈ qLF ∧ n < z.1) ∨ (k ∈ qLH ∧ n < z.2) := by
  unfold LC
  rw [List.mem_append, List.mem_append, List.mem_append, pl_mem, pl_mem, pl_mem, pl_mem]
theorem pl_sub {m m' : Nat} (h : m ≤ m') (ks : List Nat) : (pl m ks).Sublist (pl m' ks) := by
  obtain ⟨d, rfl⟩ := Nat.exists_eq_add_of_le h
  unfold pl
  rw [List.range_add, List.flatMap_append]
  exact List.sublist_append_left _ _
set_option maxRecDepth 100000 in
theorem LC_nd0 : (LC (4, 40)).Nodup := by decide +kernel
theorem LC_nd {z : Nat × Nat} (h1 : z.1 ≤ 4) (h2 : z.2 ≤ 40) : (LC z).Nodup := by
  refine List.Nodup.sublist ?_ LC_nd0
  unfold LC
  exact List.Sublist.append (List.Sublist.refl _) (List.Sublist.append (List.Sublist.refl _) (List.Sublist.append (pl_sub h1 _) (pl_sub h2 _)))
theorem ok_F : ∀ k ∈ qLS ++ (qLC0 ++ (qLF ++ qLH)), okk qLF 50 k = true := by decide +kernel
theorem ok_H : ∀ k ∈ qLS ++ (qLC0 ++ (qLF ++ qLH)), okk qLH 100 k = true := by decide +kernel
theorem LC_k {z : Nat × Nat} {k n : Nat} (h : (k, n) ∈ LC z) : k ∈ qLS ++ (qLC0 ++ (qLF ++ qLH)) := by
  rw [List.mem_append, List.mem_append, List.mem_append]
  rcases LC_mem.mp h with h | h | h | h
  · exact Or.inl h.1
  · exact Or.inr (Or.inl h.1)
  · exact Or.inr (Or.inr (Or.inl h.1))
  · exact Or.inr (Or.inr (Or.inr h.1))
theorem DW_inj {ad : Nat → Nat → Nat} {L : List (Nat × Nat)} {A : Nat → Prop} (h : DW ad L A) {p q : Nat × Nat} (hp : p ∈ L) (hq : q ∈ L) (e : ad p.1 p.2 = ad q.1 q.2) : p = q := by
  obtain ⟨i, hi⟩ := List.getElem?_of_mem hp
  obtain ⟨j, hj⟩ := List.getElem?_of_mem hq
  have := h.1 i j p q hi hj e
  subst this
  exact Option.some.inj (hi.symm.trans hj)
theorem DW_mk {ad : Nat → Nat → Nat} {L : List (Nat × Nat)} {A : Nat → Prop} (hn : L.Nodup) (h : ∀ p ∈ L, ∀ q ∈ L, ad p.1 p.2 = ad q.1 q.2 → p = q) (hA : ∀ q ∈ L, A (ad q.1 q.2)) : DW ad L A := by
  refine ⟨fun i j p q hi hj e => ?_, hA⟩
  have := h p (List.mem_of_getElem? hi) q (List.mem_of_getElem? hj) e
  subst this
  have h1 := (List.getElem?_eq_some_iff.mp hi)
  have h2 := (List.getElem?_eq_some_iff.mp hj)
  exact (List.getElem_inj hn).mp (h1.2.trans h2.2.symm)
theorem va_P_mem {G : va_G} {cl : List vw_C} {ws : va_W} {H : Heap} (h : va_P G cl ws H) {q : Nat × va_E} (hq : q ∈ ws) : va_at G cl q H := by
  obtain ⟨i, hi⟩ := List.getElem?_of_mem hq
  exact h i q hi
theorem va_P_all {G : va_G} {cl : List vw_C} {ws : va_W} {H : Heap} (h : ∀ q ∈ ws, va_at G cl q H) : va_P G cl ws H := fun _ q hk => h q (List.mem_of_getElem? hk)
theorem va_P_left {G : va_G} {cl : List vw_C} {w1 w2 : va_W} {H : Heap} (h : va_P G cl (w1 ++ w2) H) : va_P G cl w1 H := va_P_all (fun q hq => va_P_mem h (List.mem_append_left _ hq))
theorem va_P_right {G : va_G} {cl : List vw_C} {w1 w2 : va_W} {H : Heap} (h : va_P G cl (w1 ++ w2) H) : va_P G cl w2 H := va_P_all (fun q hq => va_P_mem h (List.mem_append_right _ hq))
theorem va_D_left {A : Nat → Prop} {w1 w2 : va_W} (h : va_D A (w1 ++ w2)) : va_D A w1 := by
  have e : ∀ (k : Nat) (q : Nat × va_E), w1[k]? = some q → (w1 ++ w2)[k]? = some q := fun k q hk => by rw [List.getElem?_append_left (List.getElem?_eq_some_iff.mp hk).1]; exact hk
  exact ⟨fun i j p q hi hj => h.1 i j p q (e i p hi) (e j q hj), fun k q hk => h.2 k q (e k q hk)⟩
theorem va_D_right {A : Nat → Prop} {w1 w2 : va_W} (h : va_D A (w1 ++ w2)) : va_D A w2 := by
  have e : ∀ (k : Nat) (q : Nat × va_E), w2[k]? = some q → (w1 ++ w2)[w1.length + k]? = some q := fun k q hk => by rw [List.getElem?_append_right (Nat.le_add_right _ _), Nat.add_sub_cancel_left]; exact hk
  exact ⟨fun i j p q hi hj e1 => by have := h.1 _ _ p q (e i p hi) (e j q hj) e1; omega, fun k q hk => h.2 _ q (e k q hk)⟩
theorem va_D_apart {A : Nat → Prop} {w1 w2 : va_W} (h : va_D A (w1 ++ w2)) {p q : Nat × va_E} (hp : p ∈ w1) (hq : q ∈ w2) : p.1 ≠ q.1 := by
  intro e
  obtain ⟨i, hi⟩ := List.getElem?_of_mem hp
  obtain ⟨j, hj⟩ := List.getElem?_of_mem hq
  have hil := (List.getElem?_eq_some_iff.mp hi).1
  have := h.1 i (w1.length + j) p q (by rw [List.getElem?_append_left hil]; exact hi) (by rw [List.getElem?_append_right (Nat.le_add_right _ _), Nat.add_sub_cancel_left]; exact hj) e
  omega
/-- behind a call whose world is the end of ours -/
theorem va_join2 {A0 : Nat → Prop} {D : va_G} {cl : List vw_C} {wr wc w1 : va_W} {H H1 : Heap} (hP : va_P D cl (wr ++ wc) H) (hD : va_D A0 (wr ++ wc)) (hk : ∀ q : Nat, q < H.size → ¬ va_A wc H.size q → H1[q]? = H[q]?) (hF : ∀ q, va_A wc H.size q → A0 q) (hP1 : va_P D cl w1 H1) (hD1 : va_D (va_A wc H.size) w1) : va_P D cl (wr ++ w1) H1 ∧ va_D A0 (wr ++ w1) := by
  have apart : ∀ q ∈ wr, q.1 < H.size ∧ ¬ va_A wc H.size q.1 := by
    intro q hq
    have hl := (va_P_mem hP (List.mem_append_left _ hq)).lt
    refine ⟨hl, fun h => ?_⟩
    rcases h with ⟨k2, e, h⟩ | h
    · exact va_D_apart hD hq (List.mem_of_getElem? h) rfl
    · omega
  refine ⟨va_P.app (va_P_all (fun q hq => ?_)) hP1, va_D.app (va_D_left hD) (hD1.weaken (fun k q _ h => hF q.1 h)) (fun i j x y hx hy hxy => ?_)⟩
  · obtain ⟨g1, g2⟩ := apart q hq
    exact (va_P_mem hP (List.mem_append_left _ hq)).kept (hk q.1 g1 g2)
  · exact (apart x (List.mem_of_getElem? hx)).2 (by rw [hxy]; exact hD1.2 j y hy)
/-- the pool, grown -/
theorem grow {G : va_G} {ad : Nat → Nat → Nat} {ca : Nat → ClassId} {ks : List Nat} {m0 b : Nat} {na : Nat → Nat} {z z' : Nat × Nat} {σ σ1 : PS} {w1 : va_W} {H : Heap} {A : Nat → Prop} (pos : Nat → Nat)
    (hm : m0 ∈ ks) (hL : ∀ k n, (k, n) ∈ LC z' ↔ (k, n) ∈ LC z ∨ k ∈ ks ∧ n = b) (hfr : ∀ k n, (k, n) ∈ LC z → k ∈ ks → n < b) (hok : ∀ k n, (k, n) ∈ LC z → okk ks m0 k = true) (hnd : (LC z').Nodup)
    (hP : va_P G vwCl (wld ad ca σ (LC z) ++ w1) H) (hD : va_D A (wld ad ca σ (LC z) ++ w1)) (hDW : DW ad (LC z) A)
    (hN : ∀ k ∈ ks, w1[pos k]? = some (na k, ent (adN ad ks m0 b na) ca σ1 k b)) (hpos : ∀ k ∈ ks, ∀ k' ∈ ks, pos k = pos k' → k = k')
    (hs : ∀ k n, (k, n) ∈ LC z → gI σ1 k n = gI σ k n ∧ gL σ1 k n = gL σ k n ∧ gR σ1 k n = gR (shR m0 b σ) k n ∧ gN σ1 k n = gN σ k n) :
    va_P G vwCl (wld (adN ad ks m0 b na) ca σ1 (LC z')) H ∧ DW (adN ad ks m0 b na) (LC z') A := by
  have ho : ∀ k n, (k, n) ∈ LC z → adN ad ks m0 b na k n = ad k n := fun k n h => adN_o (hfr k n h)
  have hmem : ∀ k n, (k, n) ∈ LC z → (ad k n, ent ad ca σ k n) ∈ wld ad ca σ (LC z) := fun k n h => List.mem_map.mpr ⟨(k, n), h, rfl⟩
  have hmN : ∀ k ∈ ks, (na k, ent (adN ad ks m0 b na) ca σ1 k b) ∈ w1 := fun k h => List.mem_of_getElem? (hN k h)
  constructor
  · refine va_P_all (fun q hq => ?_)
    obtain ⟨⟨k, n⟩, hx, rfl⟩ := List.mem_map.mp hq
    show va_at G vwCl (adN ad ks m0 b na k n, ent (adN ad ks m0 b na) ca σ1 k n) H
    rcases (hL k n).mp hx with h | ⟨h, rfl⟩
    · obtain ⟨s1, s2, s3, s4⟩ := hs k n h
      rw [ho k n h, ent_grow hm (hok k n h) (hfr k n h) s1 s2 s3 s4]
      exact va_P_mem hP (List.mem_append_left _ (hmem k n h))
    · rw [adN_n h]
      exact va_P_mem hP (List.mem_append_right _ (hmN k h))
  · refine DW_mk hnd ?_ ?_
    · rintro ⟨k, n⟩ hp ⟨k', n'⟩ hq e
      have e : adN ad ks m0 b na k n = adN ad ks m0 b na k' n' := e
      rcases (hL k n).mp hp with h | ⟨h, rfl⟩ <;> rcases (hL k' n').mp hq with h' | ⟨h', h2⟩
      · rw [ho k n h, ho k' n' h'] at e
        exact DW_inj hDW h h' e
      · rw [h2, ho k n h, adN_n h'] at e
        exact absurd e (va_D_apart hD (hmem k n h) (hmN k' h'))
      · rw [ho k' n' h', adN_n h] at e
        exact absurd e.symm (va_D_apart hD (hmem k' n' h') (hmN k h))
      · subst h2
        rw [adN_n h, adN_n h'] at e
        have := (va_D_right hD).1 _ _ _ _ (hN k h) (hN k' h') e
        rw [hpos k h k' h' this]
    · rintro ⟨k, n⟩ hp
      show A (adN ad ks m0 b na k n)
      rcases (hL k n).mp hp with h | ⟨h, rfl⟩
      · rw [ho k n h]; exact hDW.2 _ h
      · rw [adN_n h]; exact (va_D_right hD).2 _ _ (hN k h)
/-- the relations don't see what steps aside -/
theorem RR_sF {z : Nat × Nat} {t : Nat} {σ τ : PS} (h : RR z t σ τ) : RR z t (shR 50 z.1 σ) τ := by
  obtain ⟨own, pn, lc, la, od, ns, h1, h2, h3, h4, h5, h6, h7, h8, h9, h10, h11, h12, h13⟩ := h
  have e : ∀ k n i x, gR σ k n i = some x → (rto k = 50 → x < z.1) → gR (shR 50 z.1 σ) k n i = some x := by
    intro k n i x q r
    show (if rto k = 50 then (gR σ k n i).map (shN z.1) else gR σ k n i) = some x
    rw [q]
    by_cases w : rto k = 50
    · rw [if_pos w]
      show some (shN z.1 x) = some x
      unfold shN
      rw [if_neg (by have := r w; omega)]
    · rw [if_neg w]
  refine ⟨own, pn, lc, la, od, ns, h1, h2, h3, h4, h5, ⟨h6.1, h6.2.1, h6.2.2.1, fun f hf => ⟨e _ _ _ _ (h6.2.2.2 f hf).1 (fun _ => hf), (h6.2.2.2 f hf).2⟩⟩, ⟨h7.1, h7.2.1, h7.2.2.1, fun x hx => ?_⟩, h8, fun f hf => ?_, h10, h11, h12, h13⟩
  · obtain ⟨⟨a1, a2, a3, a4⟩, a5⟩ := h7.2.2.2 x hx
    exact ⟨⟨e _ _ _ _ a1 (fun q => absurd q (by decide)), a2, e _ _ _ _ a3 (fun _ => a2), a4⟩, a5⟩
  · obtain ⟨⟨l1, l2, l3⟩, l4⟩ := h9 f hf
    exact ⟨⟨l1, l2, fun i hi => ⟨e _ _ _ _ (l3 i hi).1 (fun q => absurd q (by decide)), (l3 i hi).2⟩⟩, l4⟩
theorem RR_sH {z : Nat × Nat} {t : Nat} {σ τ : PS} (h : RR z t σ τ) : RR z t (shR 100 z.2 σ) τ := by
  obtain ⟨own, pn, lc, la, od, ns, h1, h2, h3, h4, h5, h6, h7, h8, h9, h10, h11, h12, h13⟩ := h
  have e : ∀ k n i x, gR σ k n i = some x → (rto k = 100 → x < z.2) → gR (shR 100 z.2 σ) k n i = some x := by
    intro k n i x q r
    show (if rto k = 100 then (gR σ k n i).map (shN z.2) else gR σ k n i) = some x
    rw [q]
    by_cases w : rto k = 100
    · rw [if_pos w]
      show some (shN z.2 x) = some x
      unfold shN
      rw [if_neg (by have := r w; omega)]
    · rw [if_neg w]
  refine ⟨own, pn, lc, la, od, ns, h1, h2, h3, h4, h5, ⟨h6.1, h6.2.1, h6.2.2.1, fun f hf => ⟨e _ _ _ _ (h6.2.2.2 f hf).1 (fun q => absurd q (by decide)), (h6.2.2.2 f hf).2⟩⟩, ⟨h7.1, h7.2.1, h7.2.2.1, fun x hx => ?_⟩, h8, fun f hf => ?_, h10, h11, h12, h13⟩
  · obtain ⟨⟨a1, a2, a3, a4⟩, a5⟩ := h7.2.2.2 x hx
    exact ⟨⟨e _ _ _ _ a1 (fun _ => hx), a2, e _ _ _ _ a3 (fun q => absurd q (by decide)), a4⟩, a5⟩
  · obtain ⟨⟨l1, l2, l3⟩, l4⟩ := h9 f hf
    exact ⟨⟨l1, l2, fun i hi => ⟨e _ _ _ _ (l3 i hi).1 (fun _ => (l3 i hi).2), (l3 i hi).2⟩⟩, l4⟩

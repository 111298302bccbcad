/-! ===== doubts: the model's side ===== -/
theorem aidM {z : Nat × Nat} {σ τ τ' : PS} {own pn : Nat → Nat} {lc : Nat → Nat} {la od : Nat → Nat → Nat} (hC : CR z own pn lc la od σ τ) {f g h : Nat} (hf : f < z.1) (hg : g < lc f) (hh : h < lc f) (a : ag DFT τ τ') {c : Nat → Nat} {w : Nat → Int32} (hW : rWM (pn f) c w τ') : ∃ b : Bool, X10_areInDoubt (nI f) (nI (la f g)) (nI (la f h)) τ' = some (bI b) ∧ (b = true ↔ DOU τ (pn f) (lc f) (la f) g h (fun x => tkP τ c w (pn f) (la f x))) := by
  have hfu := fuel_ge
  obtain ⟨hB, hO, hQ, hF, hH, hLL⟩ := CR_ag hC (ag_r (D := fun _ _ _ => False) σ) a (fun k n i q => id) (fun k n i q => by unfold DFT; omega)
  have hL := hLL f hf
  have h40 := hH.1
  have hN : ∀ i, i < lc f → la f i < z.2 := fun i hi => (hL.1.2.2 i hi).2
  have hown : ∀ i, i < lc f → own (la f i) = f := fun i hi => ld_own ((hL.2.2.1 _ (hN i hi)).mpr ⟨i, hi, rfl⟩)
  have e1 : ∀ x, tkP τ' c w (pn f) x = tkP τ c w (pn f) x := fun x => tkP_ag a (fun k n i q => by unfold DFT; omega) c w (pn f) x
  have e2 : ∀ x, plP τ' x = plP τ x := fun x => plP_ag a (fun k n i q => by unfold DFT; omega) x
  have e3 : ∀ p x y, moP τ' p x y = moP τ p x y := fun p x y => moP_ag a (fun k n i q => by unfold DFT; omega) p x y
  have tg := tkM hB hQ hF hH (hN g hg) (by rw [hown g hg]; exact hW)
  have th := tkM hB hQ hF hH (hN h hh) (by rw [hown h hh]; exact hW)
  rw [hown g hg, e1] at tg
  rw [hown h hh, e1] at th
  unfold X10_areInDoubt
  rw [tg, th]
  simp only [Option.bind_some]
  rcases qg : tkP τ c w (pn f) (la f g) with _ | _
  · exact ⟨false, rfl, by simp [DOU, qg]⟩
  · rw [if_neg (by decide)]
    rcases qh : tkP τ c w (pn f) (la f h) with _ | _
    · exact ⟨false, rfl, by simp [DOU, qh]⟩
    · rw [if_neg (by decide)]
      have key : ∀ (n i : Nat) (d : Bool), i ≤ z.2 → z.2 - i < n → X10_areInDoubt_l24 τ' (fun v4 => X10_areInDoubt_c82 τ' v4) n (nI f) (nI (la f g)) (nI (la f h)) (bI d) (nI i) = some (bI (d && allB (fun k => !(ofP own τ' c w (pn f) f none k && mB own pn τ' k (la f g) && mB own pn τ' k (la f h))) (z.2 - i) i)) := by
        intro n
        induction n with
        | zero => intro i d hi hn; omega
        | succ n ih =>
          intro i d hi hn
          rw [X10_areInDoubt_l24.eq_2, hH.2.2.1]
          by_cases he : i = z.2
          · rw [if_pos (by rw [he]; exact nI_le (Nat.le_refl _) (by omega)), he, Nat.sub_self]
            unfold X10_areInDoubt_c82
            cases d <;> rfl
          · have hlt : i < z.2 := by omega
            have ho := ofM hB hQ hF hH hlt hf hW none (fun g q => by cases q)
            rw [show ofI none = (-1 : Int32) from rfl] at ho
            rw [if_neg (nI_ge hlt (by omega)), ho, moreM hB hQ hF hH hlt (hN g hg), moreM hB hQ hF hH hlt (hN h hh)]
            have e : z.2 - i = (z.2 - (i + 1)) + 1 := by omega
            rw [e]
            have i1 := fun (d : Bool) => ih (i + 1) d (by omega) (by omega)
            have tt := i1 true
            have ff := i1 false
            rw [bI_t] at tt
            rw [bI_f] at ff
            simp only [Option.bind_some, nI_s, allB]
            change (if bI d = 0 then _ else if bI (ofP own τ' c w (pn f) f none i) = 0 then _ else if bI (mB own pn τ' i (la f g)) = 0 then _ else if bI (mB own pn τ' i (la f h)) = 0 then _ else _) = some (bI (d && (!(ofP own τ' c w (pn f) f none i && mB own pn τ' i (la f g) && mB own pn τ' i (la f h)) && _)))
            cases d with
            | false => simp [bI, ff]
            | true =>
              rcases ofP own τ' c w (pn f) f none i with _ | _
              · simp [bI, tt]
              · rcases mB own pn τ' i (la f g) with _ | _
                · simp [bI, tt]
                · rcases mB own pn τ' i (la f h) with _ | _
                  · simp [bI, tt]
                  · simp [bI, ff]
      have k0 := key fuel 0 true (by omega) (by omega)
      rw [bI_t, show nI 0 = (0 : Int32) from rfl] at k0
      refine ⟨_, k0, ?_⟩
      rw [Bool.true_and, allB_iff]
      unfold DOU
      constructor
      · intro q
        refine ⟨qg, qh, fun k hk hs hb => ?_⟩
        have hof := (of_none (c := c) (w := w) hL _ (hN k hk)).mpr ⟨k, hk, rfl, by rw [e1, e2]; exact hs⟩
        have := q (la f k) (by omega) (by have := hN k hk; omega)
        unfold mB at this
        rw [hof, hown k hk, hown g hg, hown h hh, e3, e3, hb.1, hb.2] at this
        simp at this
      · rintro ⟨-, -, q⟩ k _ hk
        rcases ho : ofP own τ' c w (pn f) f none k with _ | _
        · simp
        · obtain ⟨x, hx, rfl, hs⟩ := (of_none (c := c) (w := w) hL k (by omega)).mp ho
          rw [e1, e2] at hs
          have := q x hx hs
          unfold mB
          rw [hown x hx, hown g hg, hown h hh, e3, e3]
          rcases m1 : moP τ (pn f) (la f x) (la f g) with _ | _
          · simp
          · rcases m2 : moP τ (pn f) (la f x) (la f h) with _ | _
            · simp
            · exact absurd ⟨m1, m2⟩ this
theorem psP_ag {τ τ' : PS} (a : ag DFT τ τ') (la : Nat → Nat) (i c : Nat) (w : Int32) (x : Nat) : psP τ' la i c w x = psP τ la i c w x := by
  have c1 := fun h i => cdP_ag a (fun k n i q => by unfold DFT; omega) h i
  have c2 := fun h i => lwP_ag a (fun k n i q => by unfold DFT; omega) h i
  have c3 := fun h i => hgP_ag a (fun k n i q => by unfold DFT; omega) h i
  have c4 : ∀ i, gI τ' 503 0 i = gI τ 503 0 i := fun i => agI a (by unfold DFT; omega)
  unfold psP tcP twP blP
  simp only [c1, c2, c3, c4]
/-- do both take at place 0 -/
theorem smM {z : Nat × Nat} {σ τ τ' : PS} {own pn : Nat → Nat} {lc : Nat → Nat} {la od : Nat → Nat → Nat} (hC : CR z own pn lc la od σ τ) {f g h : Nat} (hf : f < z.1) (hg : g < lc f) (hh : h < lc f) (a : ag DFT τ τ') {c : Nat → Nat} {w : Nat → Int32} (hW : rWM (pn f) c w τ') : X10_takesAt (nI (la f g)) 0 τ' = some (bI (psP τ (la f) 0 (c 0) (w 0) g)) ∧ X10_takesAt (nI (la f h)) 0 τ' = some (bI (psP τ (la f) 0 (c 0) (w 0) h)) := by
  obtain ⟨hB, hO, hQ, hF, hH, hLL⟩ := CR_ag hC (ag_r (D := fun _ _ _ => False) σ) a (fun k n i q => id) (fun k n i q => by unfold DFT; omega)
  have hL := hLL f hf
  obtain ⟨-, -, ⟨p1, p2⟩, -⟩ := hF.2.2.2 f hf
  have e1 := tkAtM hB hQ (hL.1.2.2 g hg).2 hH.1 hW (show 0 < pn f by omega) p2
  have e2 := tkAtM hB hQ (hL.1.2.2 h hh).2 hH.1 hW (show 0 < pn f by omega) p2
  rw [show nI 0 = (0 : Int32) from rfl] at e1 e2
  refine ⟨?_, ?_⟩
  · rw [e1, ← psP_ag a]; rfl
  · rw [e2, ← psP_ag a]; rfl
theorem dw1 {z : Nat × Nat} {σ τ : PS} {own pn : Nat → Nat} {lc : Nat → Nat} {la od : Nat → Nat → Nat} (hC : CR z own pn lc la od σ τ) {f g h em : Nat} {e : Nat → Int32} (hf : f < z.1) (hp : pn f = 1) (hg : g < lc f) (hh : h < lc f) (hx : exD (lc f) (DOU τ (pn f) (lc f) (la f) g h)) (he : edg τ (lc f) (la f) 0 em e) (kx : Int32 → Int32 → PS → Option (Int32 × PS)) : ∀ (n c j : Nat) (τ' : PS), 204 - (17 * c + j) + 2 < n → ag DFT τ τ' → wk1 0 em e c j τ' → iv1 τ (la f) (DOU τ (pn f) (lc f) (la f) g h) c (e j) → ∃ r τ'', X10_findDoubt_l30 kx n (nI f) (nI (la f g)) (nI (la f h)) 1 0 τ' = kx (nI f) r τ'' ∧ ag DFT τ τ'' ∧ ((r = 0 ∧ ∀ x v, vcl τ x → ¬ Q1 τ (la f) (DOU τ (pn f) (lc f) (la f) g h) x v) ∨ (r = 1 ∧ ∃ c j, wk1 0 em e c j τ'' ∧ Q1 τ (la f) (DOU τ (pn f) (lc f) (la f) g h) c (e j) ∧ iv1 τ (la f) (DOU τ (pn f) (lc f) (la f) g h) c (e j))) := by
  have hf4 := hC.2.2.2.1.1
  intro n
  induction n with
  | zero => intro c j τ' hn; omega
  | succ n ih =>
    intro c j τ' hn ha hw hi
    obtain ⟨-, -, -, -, p4, -⟩ := hC.2.2.2.1.2.2.2 f hf
    have hW : rWM (pn f) (fun _ => c) (fun _ => e j) τ' := by
      intro i hi'
      have : i = 0 := by omega
      subst this
      exact ⟨hw.1.1, hw.2.2.2.2.1, hw.2.2.2.2.2.1⟩
    obtain ⟨r, r1, r2⟩ := aidM hC hf hg hh ha hW
    obtain ⟨t1, t2⟩ := smM hC hf hg hh ha hW
    have hS : (fun x => tkP τ (fun _ => c) (fun _ => e j) (pn f) (la f x)) = psP τ (la f) 0 c (e j) := by
      funext x; rw [hp, tkP_1]
    rw [hS] at r2
    have hp4 : gI τ' 510 0 f = nI 1 := by rw [agI ha (by unfold DFT; omega), p4, hp]
    have hnt : ∀ (b : Int32) (τ1 : PS), (b = 0 ∨ b = 1) → X10_nextAt (nI f) 0 τ' = some (b, τ1) → X10_nextTuple (nI f) τ' = some (b, τ1) := fun b τ1 hb q => by
      unfold X10_nextTuple
      rw [ib_nI (by omega), gd_d (by omega), ix_nI (by omega), hp4, show nI 1 - 1 = 0 by decide, q]
      rcases hb with rfl | rfl <;> rfl
    have dw : ∀ τ1, ag DWK τ' τ1 → ag DFT τ τ1 := fun τ1 q => ag_t ha (ag_m q (fun k n i q => by unfold DWK at q; unfold DFT; omega))
    -- where there is no doubt here, the walk goes on
    have go : ¬ Q1 τ (la f) (DOU τ (pn f) (lc f) (la f) g h) c (e j) → ∀ X : Option (Int32 × PS), X = X10_nextAt (nI f) 0 τ' → ∃ r τ'', bp X (fun r5 σ5 => X10_findDoubt_l30 kx n (nI f) (nI (la f g)) (nI (la f h)) r5 0 σ5) = kx (nI f) r τ'' ∧ ag DFT τ τ'' ∧ ((r = 0 ∧ ∀ x v, vcl τ x → ¬ Q1 τ (la f) (DOU τ (pn f) (lc f) (la f) g h) x v) ∨ (r = 1 ∧ ∃ c j, wk1 0 em e c j τ'' ∧ Q1 τ (la f) (DOU τ (pn f) (lc f) (la f) g h) c (e j) ∧ iv1 τ (la f) (DOU τ (pn f) (lc f) (la f) g h) c (e j))) := fun hq X hX => by
      subst hX
      rcases nxA (by omega) hp4 hw with ⟨c', j', τ1, s1, s2, s3, s4⟩ | ⟨τ1, s1, s2, s3⟩
      · rw [s2]
        simp only [bp_s]
        have hs := sc2_ag ha (fun k n x q => by unfold DFT; omega) s1
        refine ih c' j' τ1 ?_ (dw τ1 s4) s3 (adv1 hx he hw.2.1 hs hi hq)
        have := s3.1.1
        have := s3.2.1
        have := he.2.1
        have := hw.2.1
        rcases hs with ⟨u1, rfl, rfl⟩ | ⟨u1, rfl, u3, -⟩
        · omega
        · omega
      · rw [s2]
        simp only [bp_s]
        obtain ⟨n2, rfl⟩ : ∃ n2, n = n2 + 1 := ⟨n - 1, by omega⟩
        rw [X10_findDoubt_l30.eq_2, if_pos rfl]
        exact ⟨0, τ1, rfl, dw τ1 s3, Or.inl ⟨rfl, end1 hx he hw.2.1 (noS_ag ha (fun k n x q => by unfold DFT; omega) s1) hi hq⟩⟩
    have hnx : X10_nextTuple (nI f) τ' = X10_nextAt (nI f) 0 τ' := by
      rcases nxA (by omega) hp4 hw with ⟨c', j', τ1, s1, s2, s3, s4⟩ | ⟨τ1, s1, s2, s3⟩
      · rw [hnt 1 τ1 (Or.inr rfl) s2, s2]
      · rw [hnt 0 τ1 (Or.inl rfl) s2, s2]
    rw [X10_findDoubt_l30.eq_2, if_neg (by decide), if_pos rfl, t1, t2, ]
    unfold X10_findDoubt_c62 X10_findDoubt_c63 X10_findDoubt_c84 X10_findDoubt_c85
    rw [r1]
    simp only [Option.bind_some, if_true, if_neg (show ¬ (1 : Int32) = 0 by decide)]
    rcases qg : psP τ (la f) 0 c (e j) g with _ | _
    · rw [if_pos (by rfl)]
      exact go (fun q => by have := q.1; rw [qg] at this; cases this) _ rfl
    · rw [if_neg (by decide)]
      rcases qh : psP τ (la f) 0 c (e j) h with _ | _
      · rw [if_pos (by rfl)]
        exact go (fun q => by have := q.2.1; rw [qh] at this; cases this) _ rfl
      · rw [if_neg (by decide)]
        cases r with
        | false =>
          rw [if_pos (by rfl)]
          exact go (fun q => by have := r2.mpr q; cases this) _ hnx
        | true =>
          rw [if_neg (by decide)]
          obtain ⟨n2, rfl⟩ : ∃ n2, n = n2 + 1 := ⟨n - 1, by omega⟩
          rw [X10_findDoubt_l30.eq_2, if_neg (by decide), if_neg (by decide)]
          exact ⟨1, τ', rfl, ha, Or.inr ⟨rfl, c, j, hw, r2.mp rfl, hi⟩⟩
theorem dw2 {z : Nat × Nat} {σ τ : PS} {own pn : Nat → Nat} {lc : Nat → Nat} {la od : Nat → Nat → Nat} (hC : CR z own pn lc la od σ τ) {f g h em0 em1 : Nat} {e0 e1 : Nat → Int32} (hf : f < z.1) (hp : pn f = 2) (hg : g < lc f) (hh : h < lc f) (hx : exD (lc f) (DOU τ (pn f) (lc f) (la f) g h)) (he0 : edg τ (lc f) (la f) 0 em0 e0) (he1 : edg τ (lc f) (la f) 1 em1 e1) (kx : Int32 → Int32 → PS → Option (Int32 × PS)) : ∀ (n c0 j0 c1 j1 : Nat) (τ' : PS), 41616 - (204 * (17 * c0 + j0) + 17 * c1 + j1) + 2 < n → ag DFT τ τ' → wk1 0 em0 e0 c0 j0 τ' → wk1 1 em1 e1 c1 j1 τ' → iv2 τ (la f) (DOU τ (pn f) (lc f) (la f) g h) c0 (e0 j0) c1 (e1 j1) → ∃ r τ'', X10_findDoubt_l30 kx n (nI f) (nI (la f g)) (nI (la f h)) 1 0 τ' = kx (nI f) r τ'' ∧ ag DFT τ τ'' ∧ ((r = 0 ∧ ∀ x v, vcl τ x → ∀ y u, vcl τ y → ¬ Q2 τ (la f) (DOU τ (pn f) (lc f) (la f) g h) x v y u) ∨ (r = 1 ∧ ∃ c0 j0 c1 j1, wk1 0 em0 e0 c0 j0 τ'' ∧ wk1 1 em1 e1 c1 j1 τ'' ∧ Q2 τ (la f) (DOU τ (pn f) (lc f) (la f) g h) c0 (e0 j0) c1 (e1 j1) ∧ iv2 τ (la f) (DOU τ (pn f) (lc f) (la f) g h) c0 (e0 j0) c1 (e1 j1))) := by
  have hf4 := hC.2.2.2.1.1
  intro n
  induction n with
  | zero => intro c0 j0 c1 j1 τ' hn; omega
  | succ n ih =>
    intro c0 j0 c1 j1 τ' hn ha hw0 hw1 hi
    obtain ⟨-, -, -, -, p4, -⟩ := hC.2.2.2.1.2.2.2 f hf
    have hW : rWM (pn f) (fun i => if i = 0 then c0 else c1) (fun i => if i = 0 then e0 j0 else e1 j1) τ' := by
      intro i hi'
      rcases (show i = 0 ∨ i = 1 by omega) with rfl | rfl
      · exact ⟨hw0.1.1, hw0.2.2.2.2.1, hw0.2.2.2.2.2.1⟩
      · exact ⟨hw1.1.1, hw1.2.2.2.2.1, hw1.2.2.2.2.2.1⟩
    obtain ⟨r, r1, r2⟩ := aidM hC hf hg hh ha hW
    obtain ⟨t1, t2⟩ := smM hC hf hg hh ha hW
    simp only [if_true] at t1 t2
    have hS : (fun x => tkP τ (fun i => if i = 0 then c0 else c1) (fun i => if i = 0 then e0 j0 else e1 j1) (pn f) (la f x)) = fun x => psP τ (la f) 0 c0 (e0 j0) x && psP τ (la f) 1 c1 (e1 j1) x := by
      funext x; rw [hp, tkP_2]; rfl
    rw [hS] at r2
    have hp4 : gI τ' 510 0 f = nI 2 := by rw [agI ha (by unfold DFT; omega), p4, hp]
    have hnt : ∀ (b : Int32) (τ1 : PS), (b = 0 ∨ b = 1) → X10_nextAt (nI f) 1 τ' = some (b, τ1) → X10_nextTuple (nI f) τ' = some (b, τ1) := fun b τ1 hb q => by
      unfold X10_nextTuple
      rw [ib_nI (by omega), gd_d (by omega), ix_nI (by omega), hp4, show nI 2 - 1 = 1 by decide, q]
      rcases hb with rfl | rfl <;> rfl
    have dw : ∀ τ1, ag DWK τ' τ1 → ag DFT τ τ1 := fun τ1 q => ag_t ha (ag_m q (fun k n i q => by unfold DWK at q; unfold DFT; omega))
    have m0 := he0.2.1
    have m1 := he1.2.1
    have k0 := hw0.2.1
    have k1 := hw1.2.1
    have v0 := hw0.1.1
    have v1 := hw1.1.1
    -- no doubt in this whole row
    have goR : (∀ y u, vcl τ y → ¬ Q2 τ (la f) (DOU τ (pn f) (lc f) (la f) g h) c0 (e0 j0) y u) → ∃ r τ'', bp (X10_nextAt (nI f) 0 τ') (fun r5 σ5 => X10_findDoubt_l30 kx n (nI f) (nI (la f g)) (nI (la f h)) r5 0 σ5) = kx (nI f) r τ'' ∧ ag DFT τ τ'' ∧ ((r = 0 ∧ ∀ x v, vcl τ x → ∀ y u, vcl τ y → ¬ Q2 τ (la f) (DOU τ (pn f) (lc f) (la f) g h) x v y u) ∨ (r = 1 ∧ ∃ c0 j0 c1 j1, wk1 0 em0 e0 c0 j0 τ'' ∧ wk1 1 em1 e1 c1 j1 τ'' ∧ Q2 τ (la f) (DOU τ (pn f) (lc f) (la f) g h) c0 (e0 j0) c1 (e1 j1) ∧ iv2 τ (la f) (DOU τ (pn f) (lc f) (la f) g h) c0 (e0 j0) c1 (e1 j1))) := fun hrow => by
      rcases nxC (by omega) hp4 hw0 hw1 with ⟨c', j', c1', τ1, s1, sf, s2, s3, s4, s5⟩ | ⟨τ1, s1, s2, s3⟩
      · rw [s2]
        simp only [bp_s]
        have hs := sc2_ag ha (fun k n x q => by unfold DFT; omega) s1
        refine ih c' j' c1' 0 τ1 ?_ (dw τ1 s5) s3 s4 (nrow2 hx he0 hw0.2.1 hs hi.1 hrow he1.2.2.1 (fsc_ag ha (fun k n x q => by unfold DFT; omega) sf))
        have := s3.1.1
        have := s3.2.1
        rcases hs with ⟨u1, rfl, rfl⟩ | ⟨u1, rfl, u3, -⟩
        · omega
        · omega
      · rw [s2]
        simp only [bp_s]
        obtain ⟨n2, rfl⟩ : ∃ n2, n = n2 + 1 := ⟨n - 1, by omega⟩
        rw [X10_findDoubt_l30.eq_2, if_pos rfl]
        exact ⟨0, τ1, rfl, dw τ1 s3, Or.inl ⟨rfl, end2 hx he0 hw0.2.1 (noS_ag ha (fun k n x q => by unfold DFT; omega) s1) hi.1 hrow⟩⟩
    rw [X10_findDoubt_l30.eq_2, if_neg (by decide), if_pos rfl, t1, t2]
    unfold X10_findDoubt_c62 X10_findDoubt_c63 X10_findDoubt_c84 X10_findDoubt_c85
    rw [r1]
    simp only [Option.bind_some, if_true, if_neg (show ¬ (1 : Int32) = 0 by decide)]
    rcases qg : psP τ (la f) 0 c0 (e0 j0) g with _ | _
    · rw [if_pos (by rfl)]
      exact goR (fun y u _ q => by have := q.1; simp only [qg] at this; cases this)
    · rw [if_neg (by decide)]
      rcases qh : psP τ (la f) 0 c0 (e0 j0) h with _ | _
      · rw [if_pos (by rfl)]
        exact goR (fun y u _ q => by have := q.2.1; simp only [qh] at this; cases this)
      · rw [if_neg (by decide)]
        cases r with
        | false =>
          rw [if_pos (by rfl)]
          have q2 : ¬ Q2 τ (la f) (DOU τ (pn f) (lc f) (la f) g h) c0 (e0 j0) c1 (e1 j1) := fun q => by have := r2.mpr q; cases this
          rcases nxB (by omega) hp4 hw0 hw1 with ⟨c', j', τ1, s1, s2, s3, s4, s5⟩ | ⟨c', j', c1', τ1, s0, s1, sf, s2, s3, s4, s5⟩ | ⟨τ1, s0, s1, s2, s3⟩
          · rw [hnt 1 τ1 (Or.inr rfl) s2]
            simp only [bp_s]
            have hs := sc2_ag ha (fun k n x q => by unfold DFT; omega) s1
            refine ih c0 j0 c' j' τ1 ?_ (dw τ1 s5) s3 s4 (adv2 hx he1 hw1.2.1 hs hi q2)
            have := s4.1.1
            have := s4.2.1
            rcases hs with ⟨u1, rfl, rfl⟩ | ⟨u1, rfl, u3, -⟩
            · omega
            · omega
          · rw [hnt 1 τ1 (Or.inr rfl) s2]
            simp only [bp_s]
            have hs := sc2_ag ha (fun k n x q => by unfold DFT; omega) s1
            have hn0 := noS_ag ha (fun k n x q => by unfold DFT; omega) s0
            have hrow := row2 hx he1 hw1.2.1 hn0 hi q2
            refine ih c' j' c1' 0 τ1 ?_ (dw τ1 s5) s3 s4 (nrow2 hx he0 hw0.2.1 hs hi.1 hrow he1.2.2.1 (fsc_ag ha (fun k n x q => by unfold DFT; omega) sf))
            have := s3.1.1
            have := s3.2.1
            rcases hs with ⟨u1, rfl, rfl⟩ | ⟨u1, rfl, u3, -⟩
            · omega
            · omega
          · rw [hnt 0 τ1 (Or.inl rfl) s2]
            simp only [bp_s]
            obtain ⟨n2, rfl⟩ : ∃ n2, n = n2 + 1 := ⟨n - 1, by omega⟩
            rw [X10_findDoubt_l30.eq_2, if_pos rfl]
            have hrow := row2 hx he1 hw1.2.1 (noS_ag ha (fun k n x q => by unfold DFT; omega) s0) hi q2
            exact ⟨0, τ1, rfl, dw τ1 s3, Or.inl ⟨rfl, end2 hx he0 hw0.2.1 (noS_ag ha (fun k n x q => by unfold DFT; omega) s1) hi.1 hrow⟩⟩
        | true =>
          rw [if_neg (by decide)]
          obtain ⟨n2, rfl⟩ : ∃ n2, n = n2 + 1 := ⟨n - 1, by omega⟩
          rw [X10_findDoubt_l30.eq_2, if_neg (by decide), if_neg (by decide)]
          exact ⟨1, τ', rfl, ha, Or.inr ⟨rfl, c0, j0, c1, j1, hw0, hw1, r2.mp rfl, hi⟩⟩

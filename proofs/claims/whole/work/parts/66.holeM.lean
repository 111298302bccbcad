/-! ===== what the walk has passed; the model's first hole ===== -/
section WALK
variable {τ : PS} {lc : Nat} {la : Nat → Nat} {Pd : (Nat → Bool) → Prop}
def exD (lc : Nat) (Pd : (Nat → Bool) → Prop) : Prop := ∀ S S' : Nat → Bool, (∀ x, x < lc → S x = S' x) → Pd S → Pd S'
def Q1 (τ : PS) (la : Nat → Nat) (Pd : (Nat → Bool) → Prop) (c : Nat) (w : Int32) : Prop := Pd (psP τ la 0 c w)
def Q2 (τ : PS) (la : Nat → Nat) (Pd : (Nat → Bool) → Prop) (c : Nat) (w : Int32) (c' : Nat) (w' : Int32) : Prop := Pd (fun x => psP τ la 0 c w x && psP τ la 1 c' w' x)
def iv1 (τ : PS) (la : Nat → Nat) (Pd : (Nat → Bool) → Prop) (c : Nat) (w : Int32) : Prop := ∀ x v, vcl τ x → lt2 x v c w → ¬ Q1 τ la Pd x v
def iv2 (τ : PS) (la : Nat → Nat) (Pd : (Nat → Bool) → Prop) (c : Nat) (w : Int32) (c' : Nat) (w' : Int32) : Prop := (∀ x v, vcl τ x → lt2 x v c w → ∀ y u, vcl τ y → ¬ Q2 τ la Pd x v y u) ∧ ∀ y u, vcl τ y → lt2 y u c' w' → ¬ Q2 τ la Pd c w y u
theorem q1_c (hx : exD lc Pd) {c c' : Nat} {w w' : Int32} (h : ∀ a, a < lc → psP τ la 0 c w a = psP τ la 0 c' w' a) (q : Q1 τ la Pd c w) : Q1 τ la Pd c' w' := hx _ _ h q
theorem q2_c0 (hx : exD lc Pd) {c c' y : Nat} {w w' u : Int32} (h : ∀ a, a < lc → psP τ la 0 c w a = psP τ la 0 c' w' a) (q : Q2 τ la Pd c w y u) : Q2 τ la Pd c' w' y u := hx _ _ (fun a ha => by rw [h a ha]) q
theorem q2_c1 (hx : exD lc Pd) {c y y' : Nat} {w u u' : Int32} (h : ∀ a, a < lc → psP τ la 1 y u a = psP τ la 1 y' u' a) (q : Q2 τ la Pd c w y u) : Q2 τ la Pd c w y' u' := hx _ _ (fun a ha => by rw [h a ha]) q
theorem adv1 (hx : exD lc Pd) {em c j c' j' : Nat} {e : Nat → Int32} (he : edg τ lc la 0 em e) (hj : j < em) (hs : sc2 τ em c j c' j') (hi : iv1 τ la Pd c (e j)) (hn : ¬ Q1 τ la Pd c (e j)) : iv1 τ la Pd c' (e j') := by
  intro x v hv hl
  rcases suc_p he hj hs hv hl with q | q
  · exact hi x v hv q
  · exact fun r => hn (q1_c hx q r)
theorem end1 (hx : exD lc Pd) {em c j : Nat} {e : Nat → Int32} (he : edg τ lc la 0 em e) (hj : j < em) (hs : noS τ em c j) (hi : iv1 τ la Pd c (e j)) (hn : ¬ Q1 τ la Pd c (e j)) : ∀ x v, vcl τ x → ¬ Q1 τ la Pd x v := by
  intro x v hv
  rcases nos_p he hj hs hv (w := v) with q | q
  · exact hi x v hv q
  · exact fun r => hn (q1_c hx q r)
theorem adv2 (hx : exD lc Pd) {em c j c' j' c0 : Nat} {w0 : Int32} {e : Nat → Int32} (he : edg τ lc la 1 em e) (hj : j < em) (hs : sc2 τ em c j c' j') (hi : iv2 τ la Pd c0 w0 c (e j)) (hn : ¬ Q2 τ la Pd c0 w0 c (e j)) : iv2 τ la Pd c0 w0 c' (e j') := by
  refine ⟨hi.1, fun x v hv hl => ?_⟩
  rcases suc_p he hj hs hv hl with q | q
  · exact hi.2 x v hv q
  · exact fun r => hn (q2_c1 hx q r)
theorem row2 (hx : exD lc Pd) {em c j c0 : Nat} {w0 : Int32} {e : Nat → Int32} (he : edg τ lc la 1 em e) (hj : j < em) (hs : noS τ em c j) (hi : iv2 τ la Pd c0 w0 c (e j)) (hn : ¬ Q2 τ la Pd c0 w0 c (e j)) : ∀ y u, vcl τ y → ¬ Q2 τ la Pd c0 w0 y u := by
  intro x v hv
  rcases nos_p he hj hs hv (w := v) with q | q
  · exact hi.2 x v hv q
  · exact fun r => hn (q2_c1 hx q r)
theorem nrow2 (hx : exD lc Pd) {em c j c' j' c1 : Nat} {e e1 : Nat → Int32} (he : edg τ lc la 0 em e) (hj : j < em) (hs : sc2 τ em c j c' j') (hi : ∀ x v, vcl τ x → lt2 x v c (e j) → ∀ y u, vcl τ y → ¬ Q2 τ la Pd x v y u) (hr : ∀ y u, vcl τ y → ¬ Q2 τ la Pd c (e j) y u) (h0 : e1 0 = -2147483648) (hf : fsc τ c1) : iv2 τ la Pd c' (e j') c1 (e1 0) := by
  refine ⟨fun x v hv hl y u hy => ?_, fun y u hy hl => absurd hl (fsc_p h0 hf hy)⟩
  rcases suc_p he hj hs hv hl with q | q
  · exact hi x v hv q y u hy
  · exact fun r => hr y u hy (q2_c0 hx q r)
theorem end2 (hx : exD lc Pd) {em c j : Nat} {e : Nat → Int32} (he : edg τ lc la 0 em e) (hj : j < em) (hs : noS τ em c j) (hi : ∀ x v, vcl τ x → lt2 x v c (e j) → ∀ y u, vcl τ y → ¬ Q2 τ la Pd x v y u) (hr : ∀ y u, vcl τ y → ¬ Q2 τ la Pd c (e j) y u) : ∀ x v, vcl τ x → ∀ y u, vcl τ y → ¬ Q2 τ la Pd x v y u := by
  intro x v hv y u hy
  rcases nos_p he hj hs hv (w := v) with q | q
  · exact hi x v hv q y u hy
  · exact fun r => hr y u hy (q2_c0 hx q r)
end WALK
/-- no chosen one -/
def HOL (τ : PS) (p lc : Nat) (la : Nat → Nat) (S : Nat → Bool) : Prop := ∀ i, ¬ isCh lc (fun x => S x && plP τ (la x)) (fun i j => moP τ p (la i) (la j)) i
theorem HOL_x (τ : PS) (p lc : Nat) (la : Nat → Nat) : exD lc (HOL τ p lc la) := by
  intro S S' h hS i hi
  refine hS i ⟨hi.1, ?_, fun j hj hs => ?_⟩
  · show (S i && plP τ (la i)) = true
    rw [h i hi.1]
    exact hi.2.1
  · refine hi.2.2 j hj ?_
    show (S' j && plP τ (la j)) = true
    rw [← h j hj]
    exact hs
theorem tkP_1 {τ : PS} {c : Nat → Nat} {w : Nat → Int32} {la : Nat → Nat} {x : Nat} : tkP τ c w 1 (la x) = psP τ la 0 (c 0) (w 0) x := by
  unfold tkP tkF psP
  simp [tkF]
theorem tkP_2 {τ : PS} {c : Nat → Nat} {w : Nat → Int32} {la : Nat → Nat} {x : Nat} : tkP τ c w 2 (la x) = (psP τ la 0 (c 0) (w 0) x && psP τ la 1 (c 1) (w 1) x) := by
  unfold tkP tkF psP
  simp [tkF]
/-- is one chosen, where the walk stands -/
theorem chW {z : Nat × Nat} {σ τ τ' : PS} {own pn : Nat → Nat} {lc : Nat → Nat} {la od : Nat → Nat → Nat} (hC : CR z own pn lc la od σ τ) {f : Nat} (hf : f < z.1) (a : ag DFT τ τ') {c : Nat → Nat} {w : Nat → Int32} (hW : rWM (pn f) c w τ') : ∃ r, X10_chosen (nI f) (-1) τ' = some r ∧ ((r < 0 ∧ HOL τ (pn f) (lc f) (la f) (fun x => tkP τ c w (pn f) (la f x))) ∨ (¬ r < 0 ∧ ¬ HOL τ (pn f) (lc f) (la f) (fun x => tkP τ c w (pn f) (la f x)))) := by
  obtain ⟨hB, hO, hQ, hF, hH, hL⟩ := CR_ag hC (ag_r (D := fun _ _ _ => False) σ) a (fun k n i q => id) (fun k n i q => by unfold DFT; omega)
  have hL := hL f hf
  have h40 := hH.1
  obtain ⟨r, r1, r2⟩ := chM hB hQ hF hH hf hW none (fun g q => by cases q)
  refine ⟨r, r1, ?_⟩
  have e1 : ∀ x, tkP τ' c w (pn f) x = tkP τ c w (pn f) x := fun x => tkP_ag a (fun k n i q => by unfold DFT; omega) c w (pn f) x
  have e2 : ∀ x, plP τ' x = plP τ x := fun x => plP_ag a (fun k n i q => by unfold DFT; omega) x
  have e3 : ∀ p x y, moP τ' p x y = moP τ p x y := fun p x y => moP_ag a (fun k n i q => by unfold DFT; omega) p x y
  have hla := fun h => ch_la (S := fun x => tkP τ' c w (pn f) (la f x) && plP τ' (la f x)) (B := moP τ' (pn f)) hL.2.1 (fun i hi => (hL.1.2.2 i hi).2) (of_none (c := c) (w := w) hL) h
  simp only [e1, e2, e3] at hla
  rcases r2 with ⟨q1, q2⟩ | ⟨h, q1, q2⟩
  · left
    exact ⟨by rw [q1]; decide, fun i hi => q2 (la f i) ((hla (la f i)).mpr ⟨i, rfl, hi⟩)⟩
  · right
    have hh := q1.1
    refine ⟨by rw [q2]; exact nI_pos (by omega), fun hH' => ?_⟩
    obtain ⟨i, -, hi⟩ := (hla h).mp q1
    exact hH' i hi
theorem hw1 {z : Nat × Nat} {σ τ : PS} {own pn : Nat → Nat} {lc : Nat → Nat} {la od : Nat → Nat → Nat} (hC : CR z own pn lc la od σ τ) {f em : Nat} {e : Nat → Int32} (hf : f < z.1) (hp : pn f = 1) (he : edg τ (lc f) (la f) 0 em e) (kx : Int32 → Int32 → PS → Option (Int32 × PS)) : ∀ (n c j : Nat) (τ' : PS), 204 - (17 * c + j) + 1 < n → ag DFT τ τ' → wk1 0 em e c j τ' → iv1 τ (la f) (HOL τ (pn f) (lc f) (la f)) c (e j) → ∃ r τ'', X10_findHole_l6 kx n (nI f) 1 τ' = kx (nI f) r τ'' ∧ ag DFT τ τ'' ∧ ((r = 0 ∧ ∀ x v, vcl τ x → ¬ Q1 τ (la f) (HOL τ (pn f) (lc f) (la f)) x v) ∨ (r = 1 ∧ ∃ c j, wk1 0 em e c j τ'' ∧ Q1 τ (la f) (HOL τ (pn f) (lc f) (la f)) c (e j) ∧ iv1 τ (la f) (HOL τ (pn f) (lc f) (la f)) c (e j))) := by
  have hf4 := hC.2.2.2.1.1
  intro n
  induction n with
  | zero => intro c j τ' hn; omega
  | succ n ih =>
    intro c j τ' hn ha hw hi
    obtain ⟨-, -, -, -, p4, -⟩ := hC.2.2.2.1.2.2.2 f hf
    have hW : rWM (pn f) (fun _ => c) (fun _ => e j) τ' := by
      intro i hi'
      have : i = 0 := by omega
      subst this
      exact ⟨hw.1.1, hw.2.2.2.2.1, hw.2.2.2.2.2.1⟩
    obtain ⟨r, r1, r2⟩ := chW hC hf ha hW
    have hS : (fun x => tkP τ (fun _ => c) (fun _ => e j) (pn f) (la f x)) = psP τ (la f) 0 c (e j) := by
      funext x; rw [hp, tkP_1]
    rw [hS] at r2
    rw [X10_findHole_l6.eq_2, if_neg (by decide), r1]
    simp only [Option.bind_some]
    rcases r2 with ⟨q1, q2⟩ | ⟨q1, q2⟩
    · rw [if_pos q1]
      exact ⟨1, τ', rfl, ha, Or.inr ⟨rfl, c, j, hw, q2, hi⟩⟩
    · rw [if_neg q1]
      have hp4 : gI τ' 510 0 f = nI 1 := by rw [agI ha (by unfold DFT; omega), p4, hp]
      have hnt : ∀ (b : Int32) (τ1 : PS), (b = 0 ∨ b = 1) → X10_nextAt (nI f) 0 τ' = some (b, τ1) → X10_nextTuple (nI f) τ' = some (b, τ1) := fun b τ1 hb q => by
        unfold X10_nextTuple
        rw [ib_nI (by omega), gd_d (by omega), ix_nI (by omega), hp4, show nI 1 - 1 = 0 by decide, q]
        rcases hb with rfl | rfl <;> rfl
      have dw : ∀ τ1, ag DWK τ' τ1 → ag DFT τ τ1 := fun τ1 q => ag_t ha (ag_m q (fun k n i q => by unfold DWK at q; unfold DFT; omega))
      rcases nxA (by omega) hp4 hw with ⟨c', j', τ1, s1, s2, s3, s4⟩ | ⟨τ1, s1, s2, s3⟩
      · rw [hnt 1 τ1 (Or.inr rfl) s2]
        simp only [bp_s]
        have hs := sc2_ag ha (fun k n x q => by unfold DFT; omega) s1
        refine ih c' j' τ1 ?_ (dw τ1 s4) s3 (adv1 (HOL_x _ _ _ _) he hw.2.1 hs hi q2)
        have := s3.1.1
        have := s3.2.1
        have := he.2.1
        rcases hs with ⟨u1, rfl, rfl⟩ | ⟨u1, rfl, u3, -⟩
        · omega
        · have := hw.2.1; omega
      · rw [hnt 0 τ1 (Or.inl rfl) s2]
        simp only [bp_s]
        obtain ⟨n2, rfl⟩ : ∃ n2, n = n2 + 1 := ⟨n - 1, by omega⟩
        rw [X10_findHole_l6.eq_2, if_pos rfl]
        exact ⟨0, τ1, rfl, dw τ1 s3, Or.inl ⟨rfl, end1 (HOL_x _ _ _ _) he hw.2.1 (noS_ag ha (fun k n x q => by unfold DFT; omega) s1) hi q2⟩⟩
theorem hw2 {z : Nat × Nat} {σ τ : PS} {own pn : Nat → Nat} {lc : Nat → Nat} {la od : Nat → Nat → Nat} (hC : CR z own pn lc la od σ τ) {f em0 em1 : Nat} {e0 e1 : Nat → Int32} (hf : f < z.1) (hp : pn f = 2) (he0 : edg τ (lc f) (la f) 0 em0 e0) (he1 : edg τ (lc f) (la f) 1 em1 e1) (kx : Int32 → Int32 → PS → Option (Int32 × PS)) : ∀ (n c0 j0 c1 j1 : Nat) (τ' : PS), 41616 - (204 * (17 * c0 + j0) + 17 * c1 + j1) + 1 < n → ag DFT τ τ' → wk1 0 em0 e0 c0 j0 τ' → wk1 1 em1 e1 c1 j1 τ' → iv2 τ (la f) (HOL τ (pn f) (lc f) (la f)) c0 (e0 j0) c1 (e1 j1) → ∃ r τ'', X10_findHole_l6 kx n (nI f) 1 τ' = kx (nI f) r τ'' ∧ ag DFT τ τ'' ∧ ((r = 0 ∧ ∀ x v, vcl τ x → ∀ y u, vcl τ y → ¬ Q2 τ (la f) (HOL τ (pn f) (lc f) (la f)) x v y u) ∨ (r = 1 ∧ ∃ c0 j0 c1 j1, wk1 0 em0 e0 c0 j0 τ'' ∧ wk1 1 em1 e1 c1 j1 τ'' ∧ Q2 τ (la f) (HOL τ (pn f) (lc f) (la f)) c0 (e0 j0) c1 (e1 j1) ∧ iv2 τ (la f) (HOL τ (pn f) (lc f) (la f)) c0 (e0 j0) c1 (e1 j1))) := by
  have hf4 := hC.2.2.2.1.1
  intro n
  induction n with
  | zero => intro c0 j0 c1 j1 τ' hn; omega
  | succ n ih =>
    intro c0 j0 c1 j1 τ' hn ha hw0 hw1 hi
    obtain ⟨-, -, -, -, p4, -⟩ := hC.2.2.2.1.2.2.2 f hf
    have hW : rWM (pn f) (fun i => if i = 0 then c0 else c1) (fun i => if i = 0 then e0 j0 else e1 j1) τ' := by
      intro i hi'
      rcases (show i = 0 ∨ i = 1 by omega) with rfl | rfl
      · exact ⟨hw0.1.1, hw0.2.2.2.2.1, hw0.2.2.2.2.2.1⟩
      · exact ⟨hw1.1.1, hw1.2.2.2.2.1, hw1.2.2.2.2.2.1⟩
    obtain ⟨r, r1, r2⟩ := chW hC hf ha hW
    have hS : (fun x => tkP τ (fun i => if i = 0 then c0 else c1) (fun i => if i = 0 then e0 j0 else e1 j1) (pn f) (la f x)) = fun x => psP τ (la f) 0 c0 (e0 j0) x && psP τ (la f) 1 c1 (e1 j1) x := by
      funext x; rw [hp, tkP_2]; rfl
    rw [hS] at r2
    rw [X10_findHole_l6.eq_2, if_neg (by decide), r1]
    simp only [Option.bind_some]
    rcases r2 with ⟨q1, q2⟩ | ⟨q1, q2⟩
    · rw [if_pos q1]
      exact ⟨1, τ', rfl, ha, Or.inr ⟨rfl, c0, j0, c1, j1, hw0, hw1, q2, hi⟩⟩
    · rw [if_neg q1]
      have hp4 : gI τ' 510 0 f = nI 2 := by rw [agI ha (by unfold DFT; omega), p4, hp]
      have hnt : ∀ (b : Int32) (τ1 : PS), (b = 0 ∨ b = 1) → X10_nextAt (nI f) 1 τ' = some (b, τ1) → X10_nextTuple (nI f) τ' = some (b, τ1) := fun b τ1 hb q => by
        unfold X10_nextTuple
        rw [ib_nI (by omega), gd_d (by omega), ix_nI (by omega), hp4, show nI 2 - 1 = 1 by decide, q]
        rcases hb with rfl | rfl <;> rfl
      have dw : ∀ τ1, ag DWK τ' τ1 → ag DFT τ τ1 := fun τ1 q => ag_t ha (ag_m q (fun k n i q => by unfold DWK at q; unfold DFT; omega))
      have m0 := he0.2.1
      have m1 := he1.2.1
      have k0 := hw0.2.1
      have k1 := hw1.2.1
      have v0 := hw0.1.1
      have v1 := hw1.1.1
      rcases nxB (by omega) hp4 hw0 hw1 with ⟨c', j', τ1, s1, s2, s3, s4, s5⟩ | ⟨c', j', c1', τ1, s0, s1, sf, s2, s3, s4, s5⟩ | ⟨τ1, s0, s1, s2, s3⟩
      · rw [hnt 1 τ1 (Or.inr rfl) s2]
        simp only [bp_s]
        have hs := sc2_ag ha (fun k n x q => by unfold DFT; omega) s1
        refine ih c0 j0 c' j' τ1 ?_ (dw τ1 s5) s3 s4 (adv2 (HOL_x _ _ _ _) he1 hw1.2.1 hs hi q2)
        have := s4.1.1
        have := s4.2.1
        rcases hs with ⟨u1, rfl, rfl⟩ | ⟨u1, rfl, u3, -⟩
        · omega
        · omega
      · rw [hnt 1 τ1 (Or.inr rfl) s2]
        simp only [bp_s]
        have hs := sc2_ag ha (fun k n x q => by unfold DFT; omega) s1
        have hn0 := noS_ag ha (fun k n x q => by unfold DFT; omega) s0
        have hrow := row2 (HOL_x _ _ _ _) he1 hw1.2.1 hn0 hi q2
        refine ih c' j' c1' 0 τ1 ?_ (dw τ1 s5) s3 s4 (nrow2 (HOL_x _ _ _ _) he0 hw0.2.1 hs hi.1 hrow he1.2.2.1 (fsc_ag ha (fun k n x q => by unfold DFT; omega) sf))
        have := s3.1.1
        have := s3.2.1
        rcases hs with ⟨u1, rfl, rfl⟩ | ⟨u1, rfl, u3, -⟩
        · omega
        · omega
      · rw [hnt 0 τ1 (Or.inl rfl) s2]
        simp only [bp_s]
        obtain ⟨n2, rfl⟩ : ∃ n2, n = n2 + 1 := ⟨n - 1, by omega⟩
        rw [X10_findHole_l6.eq_2, if_pos rfl]
        have hrow := row2 (HOL_x _ _ _ _) he1 hw1.2.1 (noS_ag ha (fun k n x q => by unfold DFT; omega) s0) hi q2
        exact ⟨0, τ1, rfl, dw τ1 s3, Or.inl ⟨rfl, end2 (HOL_x _ _ _ _) he0 hw0.2.1 (noS_ag ha (fun k n x q => by unfold DFT; omega) s1) hi.1 hrow⟩⟩
/-- the tuple is kept -/
theorem keepM {p f : Nat} {τ : PS} (hf : f < 4) (hp : 1 ≤ p ∧ p ≤ 2) (p4 : gI τ 510 0 f = nI p) : ∃ τ', X10_keepTuple (nI f) τ = some τ' ∧ ag (fun k _ _ => k = 539) τ τ' ∧ gL τ' 539 0 0 = (gI τ 532 0 0).toInt64 ∧ gL τ' 539 0 1 = (if p = 2 then (gI τ 532 0 1).toInt64 else 0) ∧ gL τ' 539 0 2 = gL τ 533 0 0 ∧ gL τ' 539 0 3 = (if p = 2 then gL τ 533 0 1 else 0) := by
  have hfu := fuel_ge
  obtain ⟨n, hn⟩ : ∃ n, fuel = n + 3 := ⟨fuel - 3, by omega⟩
  unfold X10_keepTuple
  rw [hn, X10_keepTuple_l2.eq_2, if_neg (by decide), ib_nI (by omega), gd_d hf, ix_nI (by omega), p4, if_neg (show ¬ nI p ≤ 0 from nI_nle (by omega) (by omega))]
  unfold X10_keepTuple_c33
  simp only [show ib (0 : Int32) 2 = true by decide, show ib (0 : Int32) 4 = true by decide, show ib ((2 : Int32) + 0) 4 = true by decide, gd_t, nm_b, show ix (0 : Int32) = 0 from rfl, show ix ((2 : Int32) + 0) = 2 from rfl, ib_nI (show f < 2 ^ 31 by omega), gd_d hf, ix_nI (show f < 2 ^ 31 by omega), gI_sL, p4, if_neg (show ¬ nI p ≤ 0 from nI_nle (by omega) (by omega)), show (0 : Int32) + 1 = 1 by decide]
  rw [X10_keepTuple_l2.eq_2, if_neg (by decide)]
  simp only [ib_nI (show f < 2 ^ 31 by omega), gd_d hf, ix_nI (show f < 2 ^ 31 by omega), gI_sL, p4]
  unfold X10_keepTuple_c33
  simp only [show ib (1 : Int32) 2 = true by decide, show ib (1 : Int32) 4 = true by decide, show ib ((2 : Int32) + 1) 4 = true by decide, gd_t, nm_b, show ix (1 : Int32) = 1 from rfl, show ix ((2 : Int32) + 1) = 3 from rfl, ib_nI (show f < 2 ^ 31 by omega), gd_d hf, ix_nI (show f < 2 ^ 31 by omega), gI_sL, p4, show (1 : Int32) + 1 = 2 by decide]
  rcases (show p = 1 ∨ p = 2 by omega) with rfl | rfl
  · rw [if_pos (show nI 1 ≤ (1 : Int32) by decide), if_pos (show nI 1 ≤ (1 : Int32) by decide), X10_keepTuple_l2.eq_2, if_pos (by decide)]
    refine ⟨_, rfl, ag_t (ag_t (ag_t (ag_sL rfl) (ag_sL rfl)) (ag_sL rfl)) (ag_sL rfl), by simp [gL_sL], by simp [gL_sL], by simp [gL_sL], by simp [gL_sL]⟩
  · rw [if_neg (show ¬ nI 2 ≤ (1 : Int32) by decide), if_neg (show ¬ nI 2 ≤ (1 : Int32) by decide), X10_keepTuple_l2.eq_2, if_pos (by decide)]
    refine ⟨_, rfl, ag_t (ag_t (ag_t (ag_sL rfl) (ag_sL rfl)) (ag_sL rfl)) (ag_sL rfl), by simp [gL_sL], by simp [gL_sL], by simp [gL_sL], by simp [gL_sL]⟩

/-! ===== the walk's beginning; what lies between two of its steps ===== -/
def lt2 (c : Nat) (w : Int32) (c' : Nat) (w' : Int32) : Prop := c < c' ∨ (c = c' ∧ w < w')
def psP (τ : PS) (la : Nat → Nat) (i c : Nat) (w : Int32) (x : Nat) : Bool := tcP τ (la x) i c && twP τ (la x) i w
def DFT : Nat → Nat → Nat → Prop := fun k _ _ => k = 532 ∨ k = 533 ∨ k = 536 ∨ k = 537 ∨ k = 538
def DFi (i : Nat) : Nat → Nat → Nat → Prop := fun k _ x => (k = 532 ∨ k = 533 ∨ k = 538 ∨ k = 537) ∧ x = i ∨ k = 536 ∧ 34 * i ≤ x ∧ x < 34 * i + 34
theorem I_min (w : Int32) : ¬ w < -2147483648 := by
  rw [I_lt, show (-2147483648 : Int32).toInt = -2147483648 by decide]
  have := (I_rng w).1
  omega
theorem I_nlt {a b : Int32} : ¬ a < b ↔ b ≤ a := Int32.not_lt
/-- between where the walk stands and the next, the same ones take -/
theorem suc_p {τ : PS} {lc : Nat} {la : Nat → Nat} {i em c j c' j' : Nat} {e : Nat → Int32} (he : edg τ lc la i em e) (hj : j < em) (hs : sc2 τ em c j c' j') {x : Nat} {w : Int32} (hx : vcl τ x) (h : lt2 x w c' (e j')) : lt2 x w c (e j) ∨ ∀ a, a < lc → psP τ la i x w a = psP τ la i c (e j) a := by
  obtain ⟨-, -, h0, h3⟩ := he
  obtain ⟨h4, h5⟩ := h3 j hj
  rcases hs with ⟨s1, rfl, rfl⟩ | ⟨s1, rfl, s3, s4, s5⟩
  · rw [if_pos s1] at h5
    rcases h with h | ⟨rfl, h⟩
    · exact Or.inl (Or.inl h)
    · by_cases q : w < e j
      · exact Or.inl (Or.inr ⟨rfl, q⟩)
      · right
        intro a ha
        unfold psP
        rw [h5 a ha w (I_nlt.mp q) (fun y hy => by cases hy; exact h)]
  · rw [if_neg s1] at h5
    have hxc : x < c' := by
      rcases h with h | ⟨-, h⟩
      · exact h
      · rw [h0] at h; exact absurd h (I_min w)
    have hle : x ≤ c := by
      rcases Nat.lt_or_ge c x with q | q
      · exact absurd hx.2 (s5 x q hxc)
      · exact q
    rcases Nat.lt_or_ge x c with q | q
    · exact Or.inl (Or.inl q)
    · have : x = c := by omega
      subst this
      by_cases q : w < e j
      · exact Or.inl (Or.inr ⟨rfl, q⟩)
      · right
        intro a ha
        unfold psP
        rw [h5 a ha w (I_nlt.mp q) (fun y hy => by cases hy)]
theorem nos_p {τ : PS} {lc : Nat} {la : Nat → Nat} {i em c j : Nat} {e : Nat → Int32} (he : edg τ lc la i em e) (hj : j < em) (hs : noS τ em c j) {x : Nat} {w : Int32} (hx : vcl τ x) : lt2 x w c (e j) ∨ ∀ a, a < lc → psP τ la i x w a = psP τ la i c (e j) a := by
  obtain ⟨-, -, h0, h3⟩ := he
  obtain ⟨h4, h5⟩ := h3 j hj
  obtain ⟨s1, s5⟩ := hs
  rw [if_neg s1] at h5
  have hle : x ≤ c := by
    rcases Nat.lt_or_ge c x with q | q
    · exact absurd hx.2 (s5 x q hx.1)
    · exact q
  rcases Nat.lt_or_ge x c with q | q
  · exact Or.inl (Or.inl q)
  · have : x = c := by omega
    subst this
    by_cases q : w < e j
    · exact Or.inl (Or.inr ⟨rfl, q⟩)
    · right
      intro a ha
      unfold psP
      rw [h5 a ha w (I_nlt.mp q) (fun y hy => by cases hy)]
theorem fsc_p {τ : PS} {c : Nat} {e : Nat → Int32} (h0 : e 0 = -2147483648) (hs : fsc τ c) {x : Nat} {w : Int32} (hx : vcl τ x) : ¬ lt2 x w c (e 0) := by
  rintro (h | ⟨-, h⟩)
  · exact hs.2 x h hx.2
  · rw [h0] at h; exact I_min w h
/-- the first tuple -/
theorem ftI {z : Nat × Nat} {σ τ : PS} {own pn : Nat → Nat} {f lc c0 : Nat} {la od : Nat → Nat} (hF : rF z pn σ τ) (hH : rH z own pn σ τ) (hf : f < z.1) (hL : rL1 z own (pn f) f lc la od σ τ) {i : Nat} (hi : i < pn f) (hc : X10_nextClass 0 τ = some (nI c0)) (kx : PS → Option (Int32 × PS)) (n : Nat) : ∃ em e τ', X10_firstTuple_l2 kx (n + 1) (nI f) (nI i) τ = X10_firstTuple_l2 kx n (nI f) (nI (i + 1)) τ' ∧ edg τ lc la i em e ∧ gI τ' 532 0 i = nI c0 ∧ gL τ' 533 0 i = (e 0).toInt64 ∧ gI τ' 538 0 i = nI 0 ∧ gI τ' 537 0 i = nI em ∧ (∀ j, j < em → gL τ' 536 0 (34 * i + j) = (e j).toInt64) ∧ ag (DFi i) τ τ' := by
  have hf4 := hF.1
  obtain ⟨-, -, ⟨p1, p2⟩, -, p4, -⟩ := hF.2.2.2 f hf
  have g1 : ag (DFi i) τ (sI (sL (sI τ 532 0 i (nI c0)) 533 0 i (-2147483648)) 538 0 i 0) := ag_t (ag_t (ag_sI (by unfold DFi; omega)) (ag_sL (by unfold DFi; omega))) (ag_sI (by unfold DFi; omega))
  have F' := rF_ag hF (ag_r (D := fun _ _ _ => False) σ) g1 (fun k n i q => id) (fun k n i q => by unfold DFi; omega)
  have H' := rH_ag hH (ag_r (D := fun _ _ _ => False) σ) g1 (fun k n i q => id) (fun k n i q => by unfold DFi; omega)
  have L' := rL1_ag hL (ag_r (D := fun _ _ _ => False) σ) g1 (fun k n i q => id) (fun k n i q => by unfold DFi; omega)
  obtain ⟨em, e, τ2, e1, e2, e3, e4, e5⟩ := edgM F' H' hf L' (show i < 2 by omega)
  have hge : ¬ nI (pn f) ≤ nI i := nI_ge hi (by omega)
  have ee : edg τ lc la i em e := by
    have q1 : ∀ a b w, twP (sI (sL (sI τ 532 0 i (nI c0)) 533 0 i (-2147483648)) 538 0 i 0) a b w = twP τ a b w := fun a b w => by
      unfold twP
      rw [lwP_ag g1 (fun k n i q => by unfold DFi; omega), hgP_ag g1 (fun k n i q => by unfold DFi; omega)]
    unfold edg samT at e2 ⊢
    simp only [q1] at e2
    exact e2
  refine ⟨em, e, τ2, ?_, ee, ?_, ?_, ?_, e3, e4, ag_t g1 (ag_m e5 (fun k n x q => by unfold DED at q; unfold DFi; omega))⟩
  · rw [X10_firstTuple_l2.eq_2, if_neg (show ¬ (2 : Int32) ≤ nI i from nI_ge (b := 2) (by omega) (by omega)), ib_nI (by omega), gd_d (by omega), ix_nI (by omega), p4, if_neg hge, hc]
    unfold X10_firstTuple_c31 X10_firstTuple_c54
    simp only [Option.bind_some, ib_nI (show i < 2 ^ 31 by omega), gd_d (show i < 2 by omega), ix_nI (show i < 2 ^ 31 by omega), nm_b, ib_nI (show f < 2 ^ 31 by omega), gd_d (show f < 4 by omega), ix_nI (show f < 2 ^ 31 by omega), gI_k (show ¬ 510 = 532 by decide), gI_k (show ¬ 510 = 538 by decide), gI_sL, p4, if_neg hge, e1, nI_s]
  · rw [agI e5 (by unfold DED; omega)]; simp [gI_sI, gI_sL]
  · rw [agL e5 (by unfold DED; omega), gL_sI, gL_sL, if_pos ⟨rfl, rfl, rfl⟩, e2.2.2.1]; decide
  · rw [agI e5 (by unfold DED; omega)]; simp [gI_sI]; rfl
theorem ftO {p f i : Nat} {τ : PS} (hf : f < 4) (hp : p ≤ 2) (p4 : gI τ 510 0 f = nI p) (hi : i < 2) (hpi : p ≤ i) (kx : PS → Option (Int32 × PS)) (n : Nat) : ∃ τ', X10_firstTuple_l2 kx (n + 1) (nI f) (nI i) τ = X10_firstTuple_l2 kx n (nI f) (nI (i + 1)) τ' ∧ ag (DFi i) τ τ' := by
  have hle : nI p ≤ nI i := nI_le hpi (by omega)
  refine ⟨sI (sL (sI τ 532 0 i 0) 533 0 i 0) 538 0 i 0, ?_, ag_t (ag_t (ag_sI (by unfold DFi; omega)) (ag_sL (by unfold DFi; omega))) (ag_sI (by unfold DFi; omega))⟩
  rw [X10_firstTuple_l2.eq_2, if_neg (show ¬ (2 : Int32) ≤ nI i from nI_ge (b := 2) (by omega) (by omega)), ib_nI (by omega), gd_d (by omega), ix_nI (by omega), p4, if_pos hle]
  unfold X10_firstTuple_c31 X10_firstTuple_c54
  simp only [ib_nI (show i < 2 ^ 31 by omega), gd_d (show i < 2 by omega), ix_nI (show i < 2 ^ 31 by omega), nm_b, ib_nI (show f < 2 ^ 31 by omega), gd_d hf, ix_nI (show f < 2 ^ 31 by omega), gI_k (show ¬ 510 = 532 by decide), gI_k (show ¬ 510 = 538 by decide), gI_sL, p4, if_pos hle, nI_s]
theorem ftM {z : Nat × Nat} {σ τ : PS} {own pn : Nat → Nat} {f lc : Nat} {la od : Nat → Nat} (hF : rF z pn σ τ) (hH : rH z own pn σ τ) (hf : f < z.1) (hL : rL1 z own (pn f) f lc la od σ τ) :
    (∃ (c : Nat) (em : Nat → Nat) (e : Nat → Nat → Int32) (τ' : PS), fsc τ c ∧ X10_firstTuple (nI f) τ = some (1, τ') ∧ (∀ i, i < pn f → wk1 i (em i) (e i) c 0 τ' ∧ edg τ lc la i (em i) (e i)) ∧ ag DFT τ τ') ∨
    (∃ τ', (∀ x, ¬ vcl τ x) ∧ X10_firstTuple (nI f) τ = some (0, τ') ∧ ag DFT τ τ') := by
  have hfu := fuel_ge
  have hf4 := hF.1
  obtain ⟨-, -, ⟨p1, p2⟩, -, p4, -⟩ := hF.2.2.2 f hf
  obtain ⟨n, hn⟩ : ∃ n, fuel = n + 2 + 1 := ⟨fuel - 3, by omega⟩
  obtain ⟨c0, c1, c2, c3, c4, c5⟩ := ncM τ (c := 0) (by omega)
  have nc : ∀ τ' : PS, ag DFT τ τ' → X10_nextClass 0 τ' = some (nI c0) := fun τ' a => by
    have e504 : ∀ x, gI τ' 504 0 x = gI τ 504 0 x := fun x => agI a (by unfold DFT; omega)
    obtain ⟨d, d1, d2, d3, d4, d5⟩ := ncM τ' (c := 0) (by omega)
    simp only [e504] at d3 d4
    have : d = c0 := by
      rcases Nat.lt_trichotomy d c0 with q | q | q
      · exact absurd (d3 (by omega)) (c4 d (by omega) q)
      · exact q
      · exact absurd (c3 (by omega)) (d4 c0 (by omega) q)
    rw [← this]; exact d5
  have fin : ∀ τ' : PS, ag DFT τ τ' → X10_firstTuple_c84 τ' = some (if c0 < 12 then 1 else 0, τ') := fun τ' a => by
    unfold X10_firstTuple_c84
    rw [nc τ' a]
    simp only [Option.bind_some]
    by_cases q : c0 < 12
    · rw [if_neg (show ¬ (12 : Int32) ≤ nI c0 from nI_ge (b := 12) q (by omega)), if_pos q]
    · rw [if_pos (show (12 : Int32) ≤ nI c0 from nI_le (a := 12) (by omega) (by omega)), if_neg q]
  have hl2 : ∀ τ' : PS, X10_firstTuple_l2 (fun σ => X10_firstTuple_c84 σ) (n + 1) (nI f) (nI 2) τ' = X10_firstTuple_c84 τ' := fun τ' => by
    rw [X10_firstTuple_l2.eq_2, if_pos (by decide)]
  obtain ⟨em0, e0, τ1, s1, s2, s3, s4, s5, s6, s7, s8⟩ := ftI hF hH hf hL (show 0 < pn f by omega) c5 (fun σ => X10_firstTuple_c84 σ) (n + 2)
  have a1 : ag DFT τ τ1 := ag_m s8 (fun k n x q => by unfold DFi at q; unfold DFT; omega)
  have hst : X10_firstTuple (nI f) τ = X10_firstTuple_l2 (fun σ => X10_firstTuple_c84 σ) (n + 2) (nI f) (nI 1) τ1 := by
    unfold X10_firstTuple
    rw [hn]
    exact s1
  have wk : ∀ (i em : Nat) (e : Nat → Int32) (τ' : PS), c0 < 12 → ag DFT τ τ' → edg τ lc la i em e → gI τ' 532 0 i = nI c0 → gL τ' 533 0 i = (e 0).toInt64 → gI τ' 538 0 i = nI 0 → gI τ' 537 0 i = nI em → (∀ j, j < em → gL τ' 536 0 (34 * i + j) = (e j).toInt64) → wk1 i em e c0 0 τ' := fun i em e τ' q a b r1 r2 r3 r4 r5 => ⟨⟨q, (agI a (by unfold DFT; omega)).trans (c3 q)⟩, b.1, b.2.1, b.2.2.1, r1, r2, r3, r4, r5⟩
  rcases (show pn f = 1 ∨ pn f = 2 by omega) with ep | ep
  · obtain ⟨τ2, t1, t2⟩ := ftO (τ := τ1) (f := f) (p := 1) (i := 1) (by omega) (by omega) (by rw [agI a1 (by unfold DFT; omega), p4, ep]) (by omega) (by omega) (fun σ => X10_firstTuple_c84 σ) (n + 1)
    have a2 : ag DFT τ τ2 := ag_t a1 (ag_m t2 (fun k n x q => by unfold DFi at q; unfold DFT; omega))
    rw [hst, t1, hl2, fin τ2 a2]
    by_cases q : c0 < 12
    · left
      rw [if_pos q]
      refine ⟨c0, (fun _ => em0), (fun _ => e0), τ2, ⟨⟨q, c3 q⟩, fun x hx => c4 x (by omega) hx⟩, rfl, fun i hi => ?_, a2⟩
      have : i = 0 := by omega
      subst this
      exact ⟨wk 0 em0 e0 τ2 q a2 s2 (by rw [agI t2 (by unfold DFi; omega), s3]) (by rw [agL t2 (by unfold DFi; omega), s4]) (by rw [agI t2 (by unfold DFi; omega), s5]) (by rw [agI t2 (by unfold DFi; omega), s6]) (fun j hj => by have := s2.2.1; rw [agL t2 (by unfold DFi; omega), s7 j hj]), s2⟩
    · right
      rw [if_neg q]
      exact ⟨τ2, fun x hx => c4 x (by omega) (by have := hx.1; omega) hx.2, rfl, a2⟩
  · have F1 := rF_ag hF (ag_r (D := fun _ _ _ => False) σ) a1 (fun k n i q => id) (fun k n i q => by unfold DFT; omega)
    have H1 := rH_ag hH (ag_r (D := fun _ _ _ => False) σ) a1 (fun k n i q => id) (fun k n i q => by unfold DFT; omega)
    have L1 := rL1_ag hL (ag_r (D := fun _ _ _ => False) σ) a1 (fun k n i q => id) (fun k n i q => by unfold DFT; omega)
    obtain ⟨em1, e1, τ2, t1, t2, t3, t4, t5, t6, t7, t8⟩ := ftI F1 H1 hf L1 (show 1 < pn f by omega) (nc τ1 a1) (fun σ => X10_firstTuple_c84 σ) (n + 1)
    have a2 : ag DFT τ τ2 := ag_t a1 (ag_m t8 (fun k n x q => by unfold DFi at q; unfold DFT; omega))
    have t2' : edg τ lc la 1 em1 e1 := by
      have q1 : ∀ a b w, twP τ1 a b w = twP τ a b w := fun a b w => by
        unfold twP
        rw [lwP_ag a1 (fun k n i q => by unfold DFT; omega), hgP_ag a1 (fun k n i q => by unfold DFT; omega)]
      unfold edg samT at t2 ⊢
      simp only [q1] at t2
      exact t2
    rw [hst, t1, hl2, fin τ2 a2]
    by_cases q : c0 < 12
    · left
      rw [if_pos q]
      refine ⟨c0, (fun i => if i = 0 then em0 else em1), (fun i => if i = 0 then e0 else e1), τ2, ⟨⟨q, c3 q⟩, fun x hx => c4 x (by omega) hx⟩, rfl, fun i hi => ?_, a2⟩
      rcases (show i = 0 ∨ i = 1 by omega) with rfl | rfl
      · exact ⟨wk 0 em0 e0 τ2 q a2 s2 (by rw [agI t8 (by unfold DFi; omega), s3]) (by rw [agL t8 (by unfold DFi; omega), s4]) (by rw [agI t8 (by unfold DFi; omega), s5]) (by rw [agI t8 (by unfold DFi; omega), s6]) (fun j hj => by have := s2.2.1; rw [agL t8 (by unfold DFi; omega), s7 j hj]), s2⟩
      · exact ⟨wk 1 em1 e1 τ2 q a2 t2' t3 t4 t5 t6 t7, t2'⟩
    · right
      rw [if_neg q]
      exact ⟨τ2, fun x hx => c4 x (by omega) (by have := hx.1; omega) hx.2, rfl, a2⟩

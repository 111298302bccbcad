/-! ===== more specific, the model's side; dominates() ===== -/
theorem moreM_l {σ τ : PS} (hB : rB σ τ) {n0 p h g f : Nat} (hq : rQ n0 τ) (hn0 : n0 ≤ 40) (hh : h < n0) (hg : g < n0) (hp : p ≤ 2) (hf4 : f < 4) (ho : gI τ 516 0 h = nI f) (hpl : gI τ 510 0 f = nI p) : ∀ (n i : Nat) (a b : Bool), i ≤ p → p - i < n → X10_isMore_l27 τ (fun v3 v4 => X10_isMore_c102 τ v3 v4) n (nI h) (nI g) (bI a) (bI b) (nI i) = some (bI ((a && allP τ h g (p - i) i) && (b || anyP τ h g (p - i) i))) := by
  intro n
  induction n with
  | zero => intro i a b hi hn; omega
  | succ n ih =>
    intro i a b hi hn
    rw [X10_isMore_l27.eq_2]
    simp only [ib_nI (show h < 2 ^ 31 by omega), gd_d (show h < 40 by omega), ix_nI (show h < 2 ^ 31 by omega), ho, ib_nI (show f < 2 ^ 31 by omega), gd_d hf4, ix_nI (show f < 2 ^ 31 by omega), hpl]
    by_cases he : i = p
    · subst he
      rw [if_pos (nI_le (Nat.le_refl _) (by omega)), Nat.sub_self]
      unfold X10_isMore_c102 allP anyP
      cases a <;> cases b <;> rfl
    · have hlt : i < p := by omega
      rw [if_neg (nI_ge hlt (by omega)), narM hB (show h < 40 by omega) (show g < 40 by omega) (show i < 2 by omega) (hq h i hh (by omega)) (hq g i hg (by omega))]
      have e : p - i = (p - (i + 1)) + 1 := by omega
      rw [e]
      unfold X10_isMore_c63 X10_isMore_c68 allP anyP
      rw [sameM τ (show h < 40 by omega) (show g < 40 by omega) (show i < 2 by omega)]
      simp only [Option.bind_some, nI_s]
      have i1 := fun (a b : Bool) => ih (i + 1) a b (by omega) (by omega)
      have tt := i1 true true
      have tf := i1 true false
      have ft := i1 false true
      have ff := i1 false false
      rw [bI_t] at tt
      rw [bI_t, bI_f] at tf
      rw [bI_f, bI_t] at ft
      rw [bI_f] at ff
      rcases hn1 : nrP τ h g i with _ | _ <;> rcases hs1 : smP τ h g i with _ | _ <;> cases a <;> cases b <;> simp [bI, tt, tf, ft, ff]
/-- of one function: class and model say the same, moP -/
theorem moreC (z : Nat × Nat) {σ τ : PS} (hB : rB σ τ) {own pn : Nat → Nat} (hF : rF z pn σ τ) (hH : rH z own pn σ τ) {h g : Nat} (hh : h < z.2) (hg : g < z.2) (e : own h = own g) : X2_isMoreSpecific z h g σ = some (bI (moP τ (pn (own h)) h g)) := by
  obtain ⟨⟨-, a2, a3, -⟩, -, a5⟩ := hH.2.2.2 h hh
  obtain ⟨-, -, b5⟩ := hH.2.2.2 g hg
  rw [← e] at b5
  obtain ⟨-, -, ⟨-, p2⟩, p3, -⟩ := hF.2.2.2 (own h) a2
  have hfu := fuel_ge
  unfold X2_isMoreSpecific
  have := moreC_l z hB a5 b5 p2 a3 a2 p3 fuel 0 false (by omega) (by omega)
  rw [bI_f] at this
  rw [show (0 : Int32) = nI 0 from rfl] at this ⊢
  rw [this]
  unfold moP
  simp
theorem moreM {z : Nat × Nat} {σ τ : PS} (hB : rB σ τ) (hq : rQ z.2 τ) {own pn : Nat → Nat} (hF : rF z pn σ τ) (hH : rH z own pn σ τ) {h g : Nat} (hh : h < z.2) (hg : g < z.2) : X10_isMore (nI h) (nI g) τ = some (bI (decide (own h = own g) && moP τ (pn (own h)) h g)) := by
  obtain ⟨⟨-, a2, -, a4⟩, -, -⟩ := hH.2.2.2 h hh
  obtain ⟨⟨-, b2, -, b4⟩, -, -⟩ := hH.2.2.2 g hg
  obtain ⟨-, -, ⟨-, p2⟩, -, p3, -⟩ := hF.2.2.2 (own h) a2
  have h40 := hH.1
  have hf4 := hF.1
  have hfu := fuel_ge
  unfold X10_isMore X10_isMore_c20
  simp only [ib_nI (show h < 2 ^ 31 by omega), ib_nI (show g < 2 ^ 31 by omega), gd_d (show h < 40 by omega), gd_d (show g < 40 by omega), ix_nI (show h < 2 ^ 31 by omega), ix_nI (show g < 2 ^ 31 by omega), a4, b4]
  have i1 := fun (a : Bool) => moreM_l hB hq h40 hh hg p2 (show own h < 4 by omega) a4 p3 fuel 0 a false (by omega) (by omega)
  have tt := i1 true
  have ff := i1 false
  rw [bI_t, bI_f] at tt
  rw [bI_f] at ff
  rw [show nI 0 = (0 : Int32) from rfl] at tt ff
  by_cases e : own h = own g
  · rw [if_pos (by rw [e]), tt]
    unfold moP
    simp [e]
  · rw [if_neg (fun q => e ((nI_eq (show own h < 2 ^ 31 by omega) (show own g < 2 ^ 31 by omega)).mp q)), ff]
    simp [e]

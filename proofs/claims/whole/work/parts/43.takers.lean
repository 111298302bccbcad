/-! ===== who takes a row: the class's set, the model's marks ===== -/
def tkF (τ : PS) (c : Nat → Nat) (w : Nat → Int32) (h : Nat) : Nat → Nat → Bool
  | 0, _ => true
  | k + 1, i => (tcP τ h i (c i) && twP τ h i (w i)) && tkF τ c w h k (i + 1)
def tkP (τ : PS) (c : Nat → Nat) (w : Nat → Int32) (p h : Nat) : Bool := tkF τ c w h p 0
def plP (τ : PS) (h : Nat) : Bool := decide (gI τ 519 0 h = 0)
def ldP (own : Nat → Nat) (τ : PS) (f h : Nat) : Bool := decide (own h = f) && decide (gI τ 520 0 h = 1)
/-- the row: the class's and the model's -/
def rWC (p : Nat) (c : Nat → Nat) (w : Nat → Int32) (σ : PS) : Prop := ∀ i, i < p → c i < 12 ∧ gI σ 301 0 i = nI (c i) ∧ gI σ 302 0 i = w i
def rWM (p : Nat) (c : Nat → Nat) (w : Nat → Int32) (τ : PS) : Prop := ∀ i, i < p → c i < 12 ∧ gI τ 532 0 i = nI (c i) ∧ gL τ 533 0 i = (w i).toInt64
/-- the laid handlers of a function: how many, which, rising, and their order -/
def isO (n : Nat) (B : Nat → Nat → Bool) (o : Nat → Nat) : Prop := ∀ k, k < n → o k < n ∧ (∀ j, j < k → ¬ o j = o k) ∧ (∀ i, i < n → (∀ j, j < k → ¬ o j = i) → B i (o k) = false) ∧ ∀ i, i < o k → (∀ j, j < k → ¬ o j = i) → ∃ g, g < n ∧ (∀ j, j < k → ¬ o j = g) ∧ B g i = true
def rL1 (z : Nat × Nat) (own : Nat → Nat) (p f lc : Nat) (la od : Nat → Nat) (σ τ : PS) : Prop := rLd z f lc la σ ∧ (∀ i j, i < j → j < lc → la i < la j) ∧ (∀ h, h < z.2 → (ldP own τ f h = true ↔ ∃ i, i < lc ∧ la i = h)) ∧ gI σ 50 f 8 = mkS lc (fun i => plP τ (la i)) ∧ (∀ i, i < lc → gI σ 57 f i = mkS lc (fun j => moP τ p (la i) (la j))) ∧ isO lc (fun i j => moP τ p (la i) (la j)) od ∧ ∀ k, k < lc → gI σ 55 f k = nI (od k)
def rL (z : Nat × Nat) (own pn : Nat → Nat) (lc : Nat → Nat) (la od : Nat → Nat → Nat) (σ τ : PS) : Prop := ∀ f, f < z.1 → rL1 z own (pn f) f (lc f) (la f) (od f) σ τ
theorem ld_own {own : Nat → Nat} {τ : PS} {f h : Nat} (a : ldP own τ f h = true) : own h = f := by
  unfold ldP at a
  rw [Bool.and_eq_true, decide_eq_true_eq] at a
  exact a.1
theorem tkO_l (z : Nat × Nat) {σ τ : PS} {own pn : Nat → Nat} {f lc : Nat} {la od : Nat → Nat} {c : Nat → Nat} {w : Nat → Int32} (hB : rB σ τ) (hF : rF z pn σ τ) (hH : rH z own pn σ τ) (hf : f < z.1) (hL : rL1 z own (pn f) f lc la od σ τ) (hW : rWC (pn f) c w σ) (kx : Int32 → Option Int32) : ∀ (n i : Nat) (Q : Nat → Bool), i ≤ pn f → pn f - i < n → X1_takersOf_l11 z f σ kx n (mkS lc Q) (nI i) = kx (mkS lc (fun a => Q a && tkF τ c w (la a) (pn f - i) i)) := by
  obtain ⟨h1, h2, h3, -⟩ := hL
  obtain ⟨-, -, ⟨-, p2⟩, p3, -⟩ := hF.2.2.2 f hf
  have hlc := h1.1
  have hoo : ∀ i, i < lc → own (la i) = f := fun i hi => ld_own ((h3 (la i) (h1.2.2 i hi).2).mpr ⟨i, hi, rfl⟩)
  have hh : ∀ i, i < lc → rHp (pn f) σ τ (la i) := fun i hi => by
    have := (hH.2.2.2 (la i) (h1.2.2 i hi).2).2.2
    rwa [hoo i hi] at this
  have ho : ∀ i, i < lc → gR σ 100 (la i) 0 = some f := fun i hi => by
    have := (hH.2.2.2 (la i) (h1.2.2 i hi).2).1.2.2.1
    rwa [hoo i hi] at this
  intro n
  induction n with
  | zero => intro i Q hi hn; omega
  | succ n ih =>
    intro i Q hi hn
    rw [X1_takersOf_l11.eq_2, p3]
    by_cases he : i = pn f
    · subst he
      rw [if_pos (nI_le (Nat.le_refl _) (by omega)), Nat.sub_self]
      simp only [tkF, Bool.and_true]
    · have hlt : i < pn f := by omega
      obtain ⟨w1, w2, w3⟩ := hW i hlt
      rw [if_neg (nI_ge hlt (by omega)), ib_nI (by omega), gd_d (by omega), ix_nI (by omega), w2, w3, tkC z h1 hh hlt p2 hB ho hf (by omega), tkW z h1 hh hlt p2]
      simp only [Option.bind_some, gd_d (show i < 2 by omega), nm_b, mkS_and (show lc ≤ 32 by omega), nI_s]
      rw [ih (i + 1) _ (by omega) (by omega)]
      have e : pn f - i = (pn f - (i + 1)) + 1 := by omega
      rw [e]
      refine congrArg kx (mkS_congr (fun a ha => ?_))
      simp only [tkF, Bool.and_assoc]
theorem tkO (z : Nat × Nat) {σ τ : PS} {own pn : Nat → Nat} {f lc : Nat} {la od : Nat → Nat} {c : Nat → Nat} {w : Nat → Int32} (hB : rB σ τ) (hF : rF z pn σ τ) (hH : rH z own pn σ τ) (hf : f < z.1) (hL : rL1 z own (pn f) f lc la od σ τ) (hW : rWC (pn f) c w σ) : X1_takersOf z f σ = some (mkS lc (fun a => tkP τ c w (pn f) (la a))) := by
  have hfu := fuel_ge
  have hlc := hL.1.1
  obtain ⟨-, -, ⟨-, p2⟩, p3, -⟩ := hF.2.2.2 f hf
  unfold X1_takersOf
  rw [hL.1.2.1, nm_b, mkS_all lc (by omega)]
  rw [show (0 : Int32) = nI 0 from rfl, tkO_l z hB hF hH hf hL hW _ fuel 0 _ (by omega) (by omega)]
  simp only [Bool.true_and, Nat.sub_zero]
  rfl
/-- those that aren't around -/
theorem tkPl (z : Nat × Nat) {σ τ : PS} {own pn : Nat → Nat} {f lc : Nat} {la od : Nat → Nat} {c : Nat → Nat} {w : Nat → Int32} (hB : rB σ τ) (hF : rF z pn σ τ) (hH : rH z own pn σ τ) (hf : f < z.1) (hL : rL1 z own (pn f) f lc la od σ τ) (hW : rWC (pn f) c w σ) : X1_plainTakersOf z f σ = some (mkS lc (fun a => tkP τ c w (pn f) (la a) && plP τ (la a))) := by
  have hlc := hL.1.1
  unfold X1_plainTakersOf
  rw [tkO z hB hF hH hf hL hW, hL.2.2.2.1]
  simp only [Option.bind_some, mkS_and (show lc ≤ 32 by omega)]
/-! the model's side -/
theorem i64_lt {x y : Int32} : x.toInt64 < y.toInt64 ↔ x < y := by
  rw [Int64.lt_iff_toInt_lt, Int32.lt_iff_toInt_lt, Int32.toInt_toInt64, Int32.toInt_toInt64]
theorem i64_eq {x y : Int32} : x.toInt64 = y.toInt64 ↔ x = y := by
  constructor
  · intro h
    have := congrArg Int64.toInt h
    rw [Int32.toInt_toInt64, Int32.toInt_toInt64] at this
    exact Int32.toInt_inj.mp this
  · intro h; rw [h]
theorem tkAtM {σ τ : PS} (hB : rB σ τ) {n h i p : Nat} {c : Nat → Nat} {w : Nat → Int32} (hQ : rQ n τ) (hh : h < n) (hn : n ≤ 40) (hW : rWM p c w τ) (hi : i < p) (hp : p ≤ 2) : X10_takesAt (nI h) (nI i) τ = some (bI (tcP τ h i (c i) && twP τ h i (w i))) := by
  obtain ⟨w1, w2, w3⟩ := hW i hi
  unfold X10_takesAt X10_takesAt_c30 X10_takesAt_c35
  simp only [nI_2, ib_nI (show 2 * h + i < 2 ^ 31 by omega), gd_d (show 2 * h + i < 80 by omega), ix_nI (show 2 * h + i < 2 ^ 31 by omega), ib_nI (show i < 2 ^ 31 by omega), gd_d (show i < 2 by omega), ix_nI (show i < 2 ^ 31 by omega), nm_b, w2, w3, lg_cmp_lt, lg_cmp_gt, i64_lt]
  change (if cdP τ h i = -1 then (if (1 : Int32) = 0 then some (0 : Int32) else if w i < lwP τ h i then some (0 : Int32) else if hgP τ h i < w i then some (0 : Int32) else some (1 : Int32)) else (X10_isBelow (nI (c i)) (cdP τ h i) τ).bind (fun r8 => if r8 = 0 then (if (0 : Int32) = 0 then some (0 : Int32) else if w i < lwP τ h i then some (0 : Int32) else if hgP τ h i < w i then some (0 : Int32) else some (1 : Int32)) else (if (1 : Int32) = 0 then some (0 : Int32) else if w i < lwP τ h i then some (0 : Int32) else if hgP τ h i < w i then some (0 : Int32) else some (1 : Int32)))) = _
  have ew : (if w i < lwP τ h i then some (0 : Int32) else if hgP τ h i < w i then some (0 : Int32) else some (1 : Int32)) = some (bI (twP τ h i (w i))) := by
    unfold twP
    by_cases k1 : w i < lwP τ h i
    · simp [k1, Int32.not_le.mpr k1, bI]
    · by_cases k2 : hgP τ h i < w i
      · simp [k1, k2, Int32.not_le.mpr k2, bI]
      · simp [k1, k2, Int32.not_lt.mp k1, Int32.not_lt.mp k2, bI]
  simp only [if_neg (show ¬ (1 : Int32) = 0 by decide), if_pos (show (0 : Int32) = 0 from rfl), ew]
  unfold tcP
  rcases hQ h i hh (by omega) with e | ⟨d, hd, e⟩
  · simp [e]
  · rw [e, if_neg (nI_m1 (by omega)), blM hB (show c i < 16 by omega) hd]
    simp only [Option.bind_some, nI_m1 (show d < 2 ^ 31 by omega), decide_false, Bool.false_or]
    rcases blP τ (nI (c i)) (nI d) with _ | _
    · simp [bI]
    · simp [bI]
theorem tkM_l {z : Nat × Nat} {σ τ : PS} (hB : rB σ τ) {own pn : Nat → Nat} {h : Nat} {c : Nat → Nat} {w : Nat → Int32} (hQ : rQ z.2 τ) (hF : rF z pn σ τ) (hH : rH z own pn σ τ) (hh : h < z.2) (hW : rWM (pn (own h)) c w τ) : ∀ (n i : Nat) (b : Bool), i ≤ pn (own h) → pn (own h) - i < n → X10_takes_l4 τ (fun v2 => X10_takes_c44 τ v2) n (nI h) (bI b) (nI i) = some (bI (b && tkF τ c w h (pn (own h) - i) i)) := by
  obtain ⟨⟨-, a2, -, a4⟩, -, -⟩ := hH.2.2.2 h hh
  obtain ⟨-, -, ⟨-, p2⟩, -, p3, -⟩ := hF.2.2.2 (own h) a2
  have h40 := hH.1
  have hf4 := hF.1
  intro n
  induction n with
  | zero => intro i b hi hn; omega
  | succ n ih =>
    intro i b hi hn
    rw [X10_takes_l4.eq_2]
    simp only [ib_nI (show h < 2 ^ 31 by omega), gd_d (show h < 40 by omega), ix_nI (show h < 2 ^ 31 by omega), a4, ib_nI (show own h < 2 ^ 31 by omega), gd_d (show own h < 4 by omega), ix_nI (show own h < 2 ^ 31 by omega), p3]
    by_cases he : i = pn (own h)
    · rw [if_pos (by rw [he]; exact nI_le (Nat.le_refl _) (by omega)), ← he, Nat.sub_self]
      unfold X10_takes_c44
      cases b <;> rfl
    · have hlt : i < pn (own h) := by omega
      rw [if_neg (nI_ge hlt (by omega)), tkAtM hB hQ hh h40 hW hlt p2]
      have e : pn (own h) - i = (pn (own h) - (i + 1)) + 1 := by omega
      rw [e]
      have i1 := fun (b : Bool) => ih (i + 1) b (by omega) (by omega)
      have tt := i1 true
      have ff := i1 false
      rw [bI_t] at tt
      rw [bI_f] at ff
      simp only [Option.bind_some, nI_s, tkF]
      cases b with
      | false => simp [bI, ff]
      | true =>
        rcases hq : (tcP τ h i (c i) && twP τ h i (w i)) with _ | _
        · simp [bI, ff]
        · simp [bI, tt]
theorem tkM {z : Nat × Nat} {σ τ : PS} (hB : rB σ τ) {own pn : Nat → Nat} {h : Nat} {c : Nat → Nat} {w : Nat → Int32} (hQ : rQ z.2 τ) (hF : rF z pn σ τ) (hH : rH z own pn σ τ) (hh : h < z.2) (hW : rWM (pn (own h)) c w τ) : X10_takes (nI h) τ = some (bI (tkP τ c w (pn (own h)) h)) := by
  obtain ⟨⟨-, a2, -, a4⟩, -, -⟩ := hH.2.2.2 h hh
  obtain ⟨-, -, ⟨-, p2⟩, -, p3, -⟩ := hF.2.2.2 (own h) a2
  have hfu := fuel_ge
  unfold X10_takes
  have := tkM_l hB hQ hF hH hh hW fuel 0 true (by omega) (by omega)
  rw [bI_t, show nI 0 = (0 : Int32) from rfl] at this
  rw [this]
  simp [tkP]
theorem ldM {z : Nat × Nat} {σ τ : PS} {own pn : Nat → Nat} {f h : Nat} (hF : rF z pn σ τ) (hH : rH z own pn σ τ) (hh : h < z.2) (hf : f < z.1) : X10_isLaid (nI h) (nI f) τ = some (bI (ldP own τ f h)) := by
  obtain ⟨⟨-, a2, -, a4⟩, -, -⟩ := hH.2.2.2 h hh
  have h40 := hH.1
  have hf4 := hF.1
  unfold X10_isLaid ldP
  simp only [ib_nI (show h < 2 ^ 31 by omega), gd_d (show h < 40 by omega), ix_nI (show h < 2 ^ 31 by omega), a4, nI_eq (show own h < 2 ^ 31 by omega) (show f < 2 ^ 31 by omega)]
  by_cases k1 : own h = f
  · by_cases k2 : gI τ 520 0 h = 1
    · simp [k1, k2, bI]
    · simp [k1, k2, bI]
  · simp [k1, bI]
/-- offered: laid, not around, takes the row, and less specific than another one (or any) -/
def ofP (own : Nat → Nat) (τ : PS) (c : Nat → Nat) (w : Nat → Int32) (p f : Nat) (b : Option Nat) (h : Nat) : Bool := ldP own τ f h && plP τ h && tkP τ c w p h && (match b with | none => true | some g => moP τ p g h)
def ofI : Option Nat → Int32
  | none => -1
  | some g => nI g
theorem ofM {z : Nat × Nat} {σ τ : PS} (hB : rB σ τ) {own pn : Nat → Nat} {f h : Nat} {c : Nat → Nat} {w : Nat → Int32} (hQ : rQ z.2 τ) (hF : rF z pn σ τ) (hH : rH z own pn σ τ) (hh : h < z.2) (hf : f < z.1) (hW : rWM (pn f) c w τ) (b : Option Nat) (hb : ∀ g, b = some g → g < z.2 ∧ own g = f) : X10_isOffered (nI h) (nI f) (ofI b) τ = some (bI (ofP own τ c w (pn f) f b h)) := by
  have h40 := hH.1
  unfold X10_isOffered ofP plP
  rw [ldM hF hH hh hf]
  simp only [Option.bind_some]
  rcases hl : ldP own τ f h with _ | _
  · simp [bI]
  · have ho := ld_own hl
    rw [if_neg (by decide), ib_nI (by omega), gd_d (by omega), ix_nI (by omega)]
    by_cases k : gI τ 519 0 h = 0
    · rw [if_pos k, tkM hB hQ hF hH hh (by rw [ho]; exact hW), ho]
      simp only [Option.bind_some, k, decide_true, Bool.true_and]
      rcases tkP τ c w (pn f) h with _ | _
      · simp [bI]
      · rw [if_neg (by decide)]
        cases b with
        | none => rw [if_pos (show ofI none < 0 by decide)]; rfl
        | some g =>
          obtain ⟨hg, hgo⟩ := hb g rfl
          rw [if_neg (show ¬ ofI (some g) < 0 from nI_pos (by omega))]
          show (X10_isMore (nI g) (nI h) τ).bind _ = _
          rw [moreM hB hQ hF hH hg hh]
          simp only [Option.bind_some, hgo, ho, decide_true, Bool.true_and]
          rcases moP τ (pn f) g h with _ | _ <;> rfl
    · rw [if_neg k]
      simp [k, bI]
theorem offM_l {z : Nat × Nat} {σ τ : PS} (hB : rB σ τ) {own pn : Nat → Nat} {f : Nat} {c : Nat → Nat} {w : Nat → Int32} (hQ : rQ z.2 τ) (hF : rF z pn σ τ) (hH : rH z own pn σ τ) (hf : f < z.1) (hW : rWM (pn f) c w τ) (b : Option Nat) (hb : ∀ g, b = some g → g < z.2 ∧ own g = f) (kx : Int32 → Option Int32) : ∀ (n i : Nat), i ≤ z.2 → z.2 - i < n → X10_offered_l5 τ kx n (nI f) (ofI b) (nI (cnt (ofP own τ c w (pn f) f b) i)) (nI i) = kx (nI (cnt (ofP own τ c w (pn f) f b) z.2)) := by
  have h40 := hH.1
  intro n
  induction n with
  | zero => intro i hi hn; omega
  | succ n ih =>
    intro i hi hn
    rw [X10_offered_l5.eq_2, hH.2.2.1]
    by_cases he : i = z.2
    · rw [if_pos (by rw [he]; exact nI_le (Nat.le_refl _) (by omega)), he]
    · have hlt : i < z.2 := by omega
      rw [if_neg (nI_ge hlt (by omega)), ofM hB hQ hF hH hlt hf hW b hb]
      have := ih (i + 1) (by omega) (by omega)
      rw [cnt_s] at this
      simp only [Option.bind_some, nm_b, nI_s]
      rcases hq : ofP own τ c w (pn f) f b i with _ | _
      · rw [if_neg (by simp [hq])] at this
        rw [if_pos (by rfl)]
        simpa using this
      · rw [if_pos (by simp [hq])] at this
        rw [if_neg (by decide)]
        exact this
theorem offM {z : Nat × Nat} {σ τ : PS} (hB : rB σ τ) {own pn : Nat → Nat} {f : Nat} {c : Nat → Nat} {w : Nat → Int32} (hQ : rQ z.2 τ) (hF : rF z pn σ τ) (hH : rH z own pn σ τ) (hf : f < z.1) (hW : rWM (pn f) c w τ) (b : Option Nat) (hb : ∀ g, b = some g → g < z.2 ∧ own g = f) : X10_offered (nI f) (ofI b) τ = some (nI (cnt (ofP own τ c w (pn f) f b) z.2)) := by
  have h40 := hH.1
  have hfu := fuel_ge
  exact offM_l hB hQ hF hH hf hW b hb _ fuel 0 (by omega) (by omega)
theorem chM_i {z : Nat × Nat} {σ τ : PS} (hB : rB σ τ) {own pn : Nat → Nat} {f h : Nat} {c : Nat → Nat} {w : Nat → Int32} (hQ : rQ z.2 τ) (hF : rF z pn σ τ) (hH : rH z own pn σ τ) (hf : f < z.1) (hW : rWM (pn f) c w τ) (b : Option Nat) (hb : ∀ g, b = some g → g < z.2 ∧ own g = f) (hh : h < z.2) (ho : own h = f) (kx : Int32 → Int32 → Int32 → Int32 → Int32 → Option Int32) (v3 : Int32) : ∀ (n i : Nat) (d : Bool), i ≤ z.2 → z.2 - i < n → X10_chosen_l31 τ kx n (nI f) (ofI b) v3 (nI h) (bI d) (nI i) = kx (nI f) (ofI b) v3 (nI h) (bI (d && allB (fun g => decide (g = h) || !ofP own τ c w (pn f) f b g || moP τ (pn f) h g) (z.2 - i) i)) := by
  have h40 := hH.1
  intro n
  induction n with
  | zero => intro i d hi hn; omega
  | succ n ih =>
    intro i d hi hn
    rw [X10_chosen_l31.eq_2, hH.2.2.1]
    by_cases he : i = z.2
    · rw [if_pos (by rw [he]; exact nI_le (Nat.le_refl _) (by omega)), he, Nat.sub_self]
      simp [allB]
    · have hlt : i < z.2 := by omega
      rw [if_neg (nI_ge hlt (by omega)), ofM hB hQ hF hH hlt hf hW b hb, moreM hB hQ hF hH hh hlt]
      have e : z.2 - i = (z.2 - (i + 1)) + 1 := by omega
      rw [e]
      have i1 := fun (d : Bool) => ih (i + 1) d (by omega) (by omega)
      have tt := i1 true
      have ff := i1 false
      rw [bI_t] at tt
      rw [bI_f] at ff
      simp only [Option.bind_some, nI_s, allB, nI_eq (show i < 2 ^ 31 by omega) (show h < 2 ^ 31 by omega)]
      cases d with
      | false => simp [bI, ff]
      | true =>
        by_cases k : i = h
        · simp [bI, k] at tt ⊢
          exact tt
        · rcases hq : ofP own τ c w (pn f) f b i with _ | _
          · simp [bI, k, tt]
          · have hoi : own i = f := by
              unfold ofP at hq
              simp only [Bool.and_eq_true] at hq
              exact ld_own hq.1.1.1
            rw [ho, hoi]
            rcases moP τ (pn f) h i with _ | _
            · simp [bI, k, ff]
            · simp [bI, k, tt]
/-- the model's chosen one -/
theorem chM_l {z : Nat × Nat} {σ τ : PS} (hB : rB σ τ) {own pn : Nat → Nat} {f : Nat} {c : Nat → Nat} {w : Nat → Int32} (hQ : rQ z.2 τ) (hF : rF z pn σ τ) (hH : rH z own pn σ τ) (hf : f < z.1) (hW : rWM (pn f) c w τ) (b : Option Nat) (hb : ∀ g, b = some g → g < z.2 ∧ own g = f) : ∀ (n i : Nat) (a : Int32), i ≤ z.2 → z.2 - i < n → ∃ r, X10_chosen_l5 τ (fun v3 => X10_chosen_c105 τ v3) n (nI f) (ofI b) a (nI i) = some r ∧ ((r = a ∧ ∀ h, i ≤ h → ¬ isCh z.2 (ofP own τ c w (pn f) f b) (moP τ (pn f)) h) ∨ ∃ h, isCh z.2 (ofP own τ c w (pn f) f b) (moP τ (pn f)) h ∧ r = nI h) := by
  have h40 := hH.1
  have hfu := fuel_ge
  intro n
  induction n with
  | zero => intro i a hi hn; omega
  | succ n ih =>
    intro i a hi hn
    rw [X10_chosen_l5.eq_2, hH.2.2.1]
    by_cases he : i = z.2
    · rw [if_pos (by rw [he]; exact nI_le (Nat.le_refl _) (by omega))]
      exact ⟨a, rfl, Or.inl ⟨rfl, fun h hh q => by have := q.1; omega⟩⟩
    · have hlt : i < z.2 := by omega
      rw [if_neg (nI_ge hlt (by omega)), ofM hB hQ hF hH hlt hf hW b hb]
      simp only [Option.bind_some, nI_s]
      have next : ∀ a', (¬ isCh z.2 (ofP own τ c w (pn f) f b) (moP τ (pn f)) i ∧ a' = a) ∨ (isCh z.2 (ofP own τ c w (pn f) f b) (moP τ (pn f)) i ∧ a' = nI i) → ∃ r, X10_chosen_l5 τ (fun v3 => X10_chosen_c105 τ v3) n (nI f) (ofI b) a' (nI (i + 1)) = some r ∧ ((r = a ∧ ∀ h, i ≤ h → ¬ isCh z.2 (ofP own τ c w (pn f) f b) (moP τ (pn f)) h) ∨ ∃ h, isCh z.2 (ofP own τ c w (pn f) f b) (moP τ (pn f)) h ∧ r = nI h) := fun a' hc => by
        obtain ⟨r, e, hr⟩ := ih (i + 1) a' (by omega) (by omega)
        refine ⟨r, e, ?_⟩
        rcases hr with ⟨q1, q2⟩ | q
        · rcases hc with ⟨c1, c2⟩ | ⟨c1, c2⟩
          · refine Or.inl ⟨q1.trans c2, fun h hh => ?_⟩
            rcases Nat.lt_or_ge i h with s | s
            · exact q2 h (by omega)
            · have : h = i := by omega
              subst this; exact c1
          · exact Or.inr ⟨i, c1, q1.trans c2⟩
        · exact Or.inr q
      rcases hq : ofP own τ c w (pn f) f b i with _ | _
      · rw [if_pos (by rfl)]
        exact next a (Or.inl ⟨fun q => (by rw [q.2.1] at hq; exact Bool.noConfusion hq), rfl⟩)
      · rw [if_neg (by decide)]
        have hoi : own i = f := by
          unfold ofP at hq
          simp only [Bool.and_eq_true] at hq
          exact ld_own hq.1.1.1
        have hin := chM_i hB hQ hF hH hf hW b hb hlt hoi (fun v1 v2 v3 v4 v5 => X10_chosen_c87 τ (X10_chosen_l5 τ (fun v3 => X10_chosen_c105 τ v3) n) (fun v3 => X10_chosen_c105 τ v3) v1 v2 v3 v4 v5) a fuel 0 true (by omega) (by omega)
        rw [bI_t, show nI 0 = (0 : Int32) from rfl] at hin
        rw [hin]
        unfold X10_chosen_c87
        have key : allB (fun g => decide (g = i) || !ofP own τ c w (pn f) f b g || moP τ (pn f) i g) (z.2 - 0) 0 = true ↔ isCh z.2 (ofP own τ c w (pn f) f b) (moP τ (pn f)) i := by
          rw [allB_iff]
          constructor
          · intro q
            refine ⟨hlt, hq, fun j hj hs => ?_⟩
            have := q j (by omega) (by omega)
            simpa [hs] using this
          · intro q j _ hj
            rcases hs : ofP own τ c w (pn f) f b j with _ | _
            · simp [hs]
            · have := q.2.2 j (by omega) hs
              simpa [hs] using this
        rcases ha : allB (fun g => decide (g = i) || !ofP own τ c w (pn f) f b g || moP τ (pn f) i g) (z.2 - 0) 0 with _ | _
        · simp only [Bool.true_and, nI_s]
          rw [if_pos (by rfl)]
          exact next a (Or.inl ⟨fun q => (by rw [key.mpr q] at ha; exact Bool.noConfusion ha), rfl⟩)
        · simp only [Bool.true_and, nI_s]
          rw [if_neg (by decide)]
          exact next (nI i) (Or.inr ⟨key.mp ha, rfl⟩)
theorem chM {z : Nat × Nat} {σ τ : PS} (hB : rB σ τ) {own pn : Nat → Nat} {f : Nat} {c : Nat → Nat} {w : Nat → Int32} (hQ : rQ z.2 τ) (hF : rF z pn σ τ) (hH : rH z own pn σ τ) (hf : f < z.1) (hW : rWM (pn f) c w τ) (b : Option Nat) (hb : ∀ g, b = some g → g < z.2 ∧ own g = f) : ∃ r, X10_chosen (nI f) (ofI b) τ = some r ∧ ((r = -1 ∧ ∀ h, ¬ isCh z.2 (ofP own τ c w (pn f) f b) (moP τ (pn f)) h) ∨ ∃ h, isCh z.2 (ofP own τ c w (pn f) f b) (moP τ (pn f)) h ∧ r = nI h) := by
  have h40 := hH.1
  have hfu := fuel_ge
  obtain ⟨r, e, hr⟩ := chM_l hB hQ hF hH hf hW b hb fuel 0 (-1) (by omega) (by omega)
  refine ⟨r, e, ?_⟩
  rcases hr with ⟨q1, q2⟩ | q
  · exact Or.inl ⟨q1, fun h => q2 h (by omega)⟩
  · exact Or.inr q

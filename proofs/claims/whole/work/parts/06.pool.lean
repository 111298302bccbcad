/-! ===== the pool: a pure memory by kinds and numbers, and the machine's rows over it ===== -/
abbrev PS : Type := (Nat → Nat → Nat → Int32) × (Nat → Nat → Nat → Int64) × (Nat → Nat → Nat → Option Nat) × (Nat → Nat → Nat)
def gI (σ : PS) (k n : Nat) : Nat → Int32 := σ.1 k n
def gL (σ : PS) (k n : Nat) : Nat → Int64 := σ.2.1 k n
def gR (σ : PS) (k n : Nat) : Nat → Option Nat := σ.2.2.1 k n
def gN (σ : PS) (k n : Nat) : Nat := σ.2.2.2 k n
def sI (σ : PS) (k n i : Nat) (v : Int32) : PS := (fun a b => if a = k ∧ b = n then upd (σ.1 a b) i v else σ.1 a b, σ.2)
def sL (σ : PS) (k n i : Nat) (v : Int64) : PS := (σ.1, fun a b => if a = k ∧ b = n then vp_updL (σ.2.1 a b) i v else σ.2.1 a b, σ.2.2)
def sR (σ : PS) (k n i : Nat) (v : Option Nat) : PS := (σ.1, σ.2.1, fun a b => if a = k ∧ b = n then va_up (σ.2.2.1 a b) i v else σ.2.2.1 a b, σ.2.2.2)
theorem gI_sI_same {σ : PS} {k n i : Nat} {v : Int32} : gI (sI σ k n i v) k n = upd (gI σ k n) i v := by simp [gI, sI]
theorem gI_sI_ne {σ : PS} {k n i a b : Nat} {v : Int32} (h : ¬ (a = k ∧ b = n)) : gI (sI σ k n i v) a b = gI σ a b := by simp [gI, sI, h]
theorem gL_sL_same {σ : PS} {k n i : Nat} {v : Int64} : gL (sL σ k n i v) k n = vp_updL (gL σ k n) i v := by simp [gL, sL]
theorem gL_sL_ne {σ : PS} {k n i a b : Nat} {v : Int64} (h : ¬ (a = k ∧ b = n)) : gL (sL σ k n i v) a b = gL σ a b := by simp [gL, sL, h]
theorem gR_sR_same {σ : PS} {k n i : Nat} {v : Option Nat} : gR (sR σ k n i v) k n = va_up (gR σ k n) i v := by simp [gR, sR]
theorem gR_sR_ne {σ : PS} {k n i a b : Nat} {v : Option Nat} (h : ¬ (a = k ∧ b = n)) : gR (sR σ k n i v) a b = gR σ a b := by simp [gR, sR, h]
theorem gL_sI {σ : PS} {k n i : Nat} {v : Int32} : gL (sI σ k n i v) = gL σ := rfl
theorem gR_sI {σ : PS} {k n i : Nat} {v : Int32} : gR (sI σ k n i v) = gR σ := rfl
theorem gN_sI {σ : PS} {k n i : Nat} {v : Int32} : gN (sI σ k n i v) = gN σ := rfl
theorem gI_sL {σ : PS} {k n i : Nat} {v : Int64} : gI (sL σ k n i v) = gI σ := rfl
theorem gR_sL {σ : PS} {k n i : Nat} {v : Int64} : gR (sL σ k n i v) = gR σ := rfl
theorem gN_sL {σ : PS} {k n i : Nat} {v : Int64} : gN (sL σ k n i v) = gN σ := rfl
theorem gI_sR {σ : PS} {k n i : Nat} {v : Option Nat} : gI (sR σ k n i v) = gI σ := rfl
theorem gL_sR {σ : PS} {k n i : Nat} {v : Option Nat} : gL (sR σ k n i v) = gL σ := rfl
theorem gN_sR {σ : PS} {k n i : Nat} {v : Option Nat} : gN (sR σ k n i v) = gN σ := rfl
/-- an index as a number -/
def ix (i : Int32) : Nat := i.toNatClampNeg
def ib (i : Int32) (n : Nat) : Bool := !(decide (i < 0)) && decide (i.toNatClampNeg < n)
theorem ib_in {i : Int32} {n : Nat} (h : ib i n = true) : vp_in i n := by
  simp only [ib, Bool.and_eq_true, Bool.not_eq_true', decide_eq_false_iff_not, decide_eq_true_eq] at h
  exact fun q => q.elim h.1 (fun q => Nat.not_le.mpr h.2 q)
/-- a guard, a name, a reference that must be there -/
def gd {α : Type} (b : Bool) (k : Option α) : Option α := match b with
  | true => k
  | false => none
def nm {α β : Type} (e : α) (k : α → Option β) : Option β := k e
def dr {α : Type} (o : Option Nat) (b : Nat) (k : Nat → Option α) : Option α := match o with
  | none => none
  | some x => gd (decide (x < b)) (k x)
theorem gd_e {α : Type} {b : Bool} {k : Option α} {r : α} (h : gd b k = some r) : b = true ∧ k = some r := by
  cases b with
  | true => exact ⟨rfl, h⟩
  | false => exact absurd h (by simp [gd])
theorem nm_i {α β : Type} {e : α} {k : α → Option β} {r : β} (h : nm e k = some r) : ∃ y : α, y = e ∧ k y = some r := ⟨e, rfl, h⟩
theorem dr_e {α : Type} {o : Option Nat} {b : Nat} {k : Nat → Option α} {r : α} (h : dr o b k = some r) : ∃ x : Nat, o = some x ∧ x < b ∧ k x = some r := by
  cases o with
  | none => exact absurd h (by simp [dr])
  | some x =>
    obtain ⟨h1, h2⟩ := gd_e (show gd (decide (x < b)) (k x) = some r from h)
    exact ⟨x, rfl, of_decide_eq_true h1, h2⟩
theorem bd_e {α β : Type} {o : Option α} {k : α → Option β} {r : β} (h : o.bind k = some r) : ∃ y : α, o = some y ∧ k y = some r := by
  cases o with
  | none => exact absurd h (by simp)
  | some y => exact ⟨y, rfl, h⟩
theorem b_p {α : Type} {c : Prop} [Decidable c] {A B r : Option α} (hf : (if c then A else B) = r) (h : c) : A = r := by rw [if_pos h] at hf; exact hf
theorem b_n {α : Type} {c : Prop} [Decidable c] {A B r : Option α} (hf : (if c then A else B) = r) (h : ¬ c) : B = r := by rw [if_neg h] at hf; exact hf
/-- a number that is a truth -/
def isB (v : Int32) : Bool := decide (v = 0) || decide (v = 1)
theorem isB_or {v : Int32} (h : isB v = true) : v = 0 ∨ v = 1 := by simpa [isB] using h
theorem isB_nar {v : Int32} (h : isB v = true) : narrow .boolean (.int v) = .int v := by rcases isB_or h with rfl | rfl <;> rfl
theorem isB_fit {v : Int32} (h : isB v = true) : fits .boolean (.int v) = true := by rcases isB_or h with rfl | rfl <;> rfl
theorem isB_vp {v : Int32} (h : isB v = true) : vp_nar .boolean v = v := by rcases isB_or h with rfl | rfl <;> rfl
/-- the kinds: of array (0: an object; 1 int, 2 boolean, 3 long, 4 functions, 5 handlers), length, class, fields, what an array of references holds -/
def ak : Nat → Nat := fun k => match k with
  | 1 => 1
  | 2 => 1
  | 3 => 1
  | 5 => 1
  | 6 => 1
  | 55 => 1
  | 56 => 5
  | 57 => 1
  | 106 => 1
  | 107 => 1
  | 108 => 1
  | 151 => 1
  | 201 => 1
  | 202 => 3
  | 203 => 3
  | 204 => 1
  | 301 => 1
  | 302 => 1
  | 351 => 1
  | 352 => 1
  | 401 => 1
  | 402 => 1
  | 403 => 1
  | 453 => 4
  | 454 => 5
  | 455 => 1
  | 456 => 1
  | 501 => 1
  | 502 => 2
  | 503 => 2
  | 504 => 2
  | 507 => 1
  | 508 => 1
  | 510 => 1
  | 511 => 2
  | 512 => 1
  | 513 => 3
  | 514 => 1
  | 516 => 1
  | 517 => 1
  | 518 => 1
  | 519 => 2
  | 520 => 1
  | 521 => 1
  | 522 => 1
  | 523 => 1
  | 524 => 1
  | 525 => 1
  | 529 => 1
  | 532 => 1
  | 533 => 3
  | 535 => 2
  | 536 => 3
  | 537 => 1
  | 538 => 1
  | 539 => 3
  | _ => 0

def ln : Nat → Nat := fun k => match k with
  | 1 => 204
  | 2 => 204
  | 3 => 204
  | 5 => 17
  | 6 => 17
  | 55 => 8
  | 56 => 8
  | 57 => 8
  | 151 => 1000
  | 201 => 16
  | 202 => 16
  | 203 => 16
  | 204 => 16
  | 301 => 2
  | 302 => 2
  | 351 => 300
  | 352 => 300
  | 401 => 12
  | 402 => 16
  | 403 => 16
  | 453 => 4
  | 454 => 40
  | 455 => 2
  | 456 => 8
  | 501 => 12
  | 502 => 256
  | 503 => 256
  | 504 => 12
  | 507 => 300
  | 508 => 300
  | 510 => 4
  | 511 => 4
  | 512 => 4
  | 513 => 256
  | 514 => 4
  | 516 => 40
  | 517 => 40
  | 518 => 40
  | 519 => 40
  | 520 => 40
  | 521 => 80
  | 522 => 80
  | 523 => 80
  | 524 => 8
  | 525 => 2
  | 529 => 1000
  | 532 => 2
  | 533 => 2
  | 535 => 40
  | 536 => 68
  | 537 => 2
  | 538 => 2
  | 539 => 4
  | _ => 0

def ck : Nat → Nat := fun k => match k with
  | 0 => 0
  | 50 => 1
  | 100 => 2
  | 150 => 3
  | 200 => 4
  | 250 => 5
  | 300 => 6
  | 350 => 7
  | 400 => 8
  | 450 => 9
  | 500 => 10
  | _ => 0

def nf : Nat → Nat := fun k => match k with
  | 0 => 7
  | 50 => 10
  | 100 => 9
  | 150 => 6
  | 200 => 7
  | 250 => 6
  | 300 => 3
  | 350 => 3
  | 400 => 5
  | 450 => 12
  | 500 => 39
  | _ => 0

def rk : Nat → Nat := fun k => match k with
  | 56 => 100
  | 453 => 50
  | 454 => 100
  | _ => 0

def fk : Nat → Nat → Nat × Nat := fun k j => match k with
  | 0 => (match j with | 0 => (2, 1) | 1 => (2, 2) | 2 => (2, 3) | 3 => (0, 0) | 4 => (2, 5) | 5 => (2, 6) | 6 => (0, 0) | _ => (0, 0))
  | 50 => (match j with | 0 => (3, 400) | 1 => (0, 0) | 2 => (0, 0) | 3 => (2, 200) | 4 => (2, 55) | 5 => (2, 56) | 6 => (2, 57) | 7 => (0, 0) | 8 => (0, 0) | 9 => (0, 0) | _ => (0, 0))
  | 100 => (match j with | 0 => (5, 50) | 1 => (0, 0) | 2 => (0, 0) | 3 => (0, 0) | 4 => (0, 0) | 5 => (2, 106) | 6 => (2, 107) | 7 => (2, 108) | 8 => (0, 0) | _ => (0, 0))
  | 150 => (match j with | 0 => (2, 151) | 1 => (0, 0) | 2 => (0, 0) | 3 => (0, 0) | 4 => (0, 0) | 5 => (1, 0) | _ => (0, 0))
  | 200 => (match j with | 0 => (2, 201) | 1 => (2, 202) | 2 => (2, 203) | 3 => (2, 204) | 4 => (0, 0) | 5 => (0, 0) | 6 => (0, 0) | _ => (0, 0))
  | 250 => (match j with | 0 => (3, 0) | 1 => (4, 0) | 2 => (0, 0) | 3 => (0, 0) | 4 => (0, 0) | 5 => (0, 0) | _ => (0, 0))
  | 300 => (match j with | 0 => (2, 301) | 1 => (2, 302) | 2 => (0, 0) | _ => (0, 0))
  | 350 => (match j with | 0 => (2, 351) | 1 => (2, 352) | 2 => (0, 0) | _ => (0, 0))
  | 400 => (match j with | 0 => (2, 401) | 1 => (2, 402) | 2 => (2, 403) | 3 => (0, 0) | 4 => (0, 0) | _ => (0, 0))
  | 450 => (match j with | 0 => (3, 400) | 1 => (3, 350) | 2 => (2, 453) | 3 => (2, 454) | 4 => (2, 455) | 5 => (2, 456) | 6 => (3, 300) | 7 => (3, 150) | 8 => (3, 250) | 9 => (0, 0) | 10 => (0, 0) | 11 => (0, 0) | _ => (0, 0))
  | 500 => (match j with | 0 => (2, 501) | 1 => (2, 502) | 2 => (2, 503) | 3 => (2, 504) | 4 => (0, 0) | 5 => (0, 0) | 6 => (2, 507) | 7 => (2, 508) | 8 => (0, 0) | 9 => (2, 510) | 10 => (2, 511) | 11 => (2, 512) | 12 => (2, 513) | 13 => (2, 514) | 14 => (0, 0) | 15 => (2, 516) | 16 => (2, 517) | 17 => (2, 518) | 18 => (2, 519) | 19 => (2, 520) | 20 => (2, 521) | 21 => (2, 522) | 22 => (2, 523) | 23 => (2, 524) | 24 => (2, 525) | 25 => (0, 0) | 26 => (1, 0) | 27 => (0, 0) | 28 => (2, 529) | 29 => (0, 0) | 30 => (0, 0) | 31 => (2, 532) | 32 => (2, 533) | 33 => (0, 0) | 34 => (2, 535) | 35 => (2, 536) | 36 => (2, 537) | 37 => (2, 538) | 38 => (2, 539) | _ => (0, 0))
  | _ => (0, 0)

/-- an array's length: told by its kind, or (0) the memory's -/
def al (σ : PS) (k n : Nat) : Nat := match ln k with
  | 0 => gN σ k n
  | m + 1 => m + 1
/-- an object's field -/
def fv (ad : Nat → Nat → Nat) (σ : PS) (k n j : Nat) : Value := match fk k j with
  | (0, _) => .int (gI σ k n j)
  | (1, _) => .long (gL σ k n j)
  | (2, t) => .ref (ad t n)
  | (3, t) => .ref (ad t 0)
  | (4, t) => .ref (ad t 1)
  | (_, t) => va_rf ((gR σ k n j).map (ad t))
def fl (ad : Nat → Nat → Nat) (σ : PS) (k n : Nat) : List Value := (List.range (nf k)).map (fv ad σ k n)
/-- a cell's contents -/
def ent (ad : Nat → Nat → Nat) (ca : Nat → ClassId) (σ : PS) (k n : Nat) : va_E := match ak k with
  | 0 => .inr (ck k, fl ad σ k n)
  | 1 => .inl (ca 0, al σ k n, .inl (gI σ k n))
  | 2 => .inl (ca 1, al σ k n, .inl (gI σ k n))
  | 3 => .inl (ca 2, al σ k n, .inr (.inl (gL σ k n)))
  | 4 => .inl (ca 3, al σ k n, .inr (.inr (.inr (.inr (fun i => (gR σ k n i).map (ad (rk k)))))))
  | _ => .inl (ca 4, al σ k n, .inr (.inr (.inr (.inr (fun i => (gR σ k n i).map (ad (rk k)))))))
theorem ent_0 {ad : Nat → Nat → Nat} {ca : Nat → ClassId} {σ : PS} {k n : Nat} (h : ak k = 0) : ent ad ca σ k n = .inr (ck k, fl ad σ k n) := by simp [ent, h]
theorem ent_1 {ad : Nat → Nat → Nat} {ca : Nat → ClassId} {σ : PS} {k n : Nat} (h : ak k = 1) : ent ad ca σ k n = .inl (ca 0, al σ k n, .inl (gI σ k n)) := by simp [ent, h]
theorem ent_2 {ad : Nat → Nat → Nat} {ca : Nat → ClassId} {σ : PS} {k n : Nat} (h : ak k = 2) : ent ad ca σ k n = .inl (ca 1, al σ k n, .inl (gI σ k n)) := by simp [ent, h]
theorem ent_3 {ad : Nat → Nat → Nat} {ca : Nat → ClassId} {σ : PS} {k n : Nat} (h : ak k = 3) : ent ad ca σ k n = .inl (ca 2, al σ k n, .inr (.inl (gL σ k n))) := by simp [ent, h]
theorem ent_4 {ad : Nat → Nat → Nat} {ca : Nat → ClassId} {σ : PS} {k n : Nat} (h : ak k = 4) : ent ad ca σ k n = .inl (ca 3, al σ k n, .inr (.inr (.inr (.inr (fun i => (gR σ k n i).map (ad (rk k))))))) := by simp [ent, h]
theorem ent_5 {ad : Nat → Nat → Nat} {ca : Nat → ClassId} {σ : PS} {k n : Nat} (h : ak k = 5) : ent ad ca σ k n = .inl (ca 4, al σ k n, .inr (.inr (.inr (.inr (fun i => (gR σ k n i).map (ad (rk k))))))) := by simp [ent, h]
/-- a cell reads the memory at its own kind and number alone -/
theorem ent_congr {ad : Nat → Nat → Nat} {ca : Nat → ClassId} {σ τ : PS} {k n : Nat} (h1 : gI τ k n = gI σ k n) (h2 : gL τ k n = gL σ k n) (h3 : gR τ k n = gR σ k n) (h4 : gN τ k n = gN σ k n) : ent ad ca τ k n = ent ad ca σ k n := by
  have ha : al τ k n = al σ k n := by simp only [al, h4]
  have hf : fl ad τ k n = fl ad σ k n := by
    unfold fl
    refine List.map_congr_left (fun j _ => ?_)
    simp only [fv, h1, h2, h3]
  simp only [ent, ha, hf, h1, h2, h3]
def wld (ad : Nat → Nat → Nat) (ca : Nat → ClassId) (σ : PS) (L : List (Nat × Nat)) : va_W := L.map (fun q => (ad q.1 q.2, ent ad ca σ q.1 q.2))
/-- the addresses are apart, and of a kind -/
def DW (ad : Nat → Nat → Nat) (L : List (Nat × Nat)) (A : Nat → Prop) : Prop := (∀ (i j : Nat) (p q : Nat × Nat), L[i]? = some p → L[j]? = some q → ad p.1 p.2 = ad q.1 q.2 → i = j) ∧ ∀ q ∈ L, A (ad q.1 q.2)
theorem DW.d {ad : Nat → Nat → Nat} {L : List (Nat × Nat)} {A : Nat → Prop} (h : DW ad L A) (ca : Nat → ClassId) (σ : PS) : va_D A (wld ad ca σ L) := by
  have key : ∀ (k : Nat) (q : Nat × va_E), (wld ad ca σ L)[k]? = some q → ∃ x, L[k]? = some x ∧ q.1 = ad x.1 x.2 := by
    intro k q hk
    rw [wld, List.getElem?_map] at hk
    cases hx : L[k]? with
    | none => rw [hx] at hk; cases hk
    | some x => rw [hx] at hk; cases hk; exact ⟨x, rfl, rfl⟩
  refine ⟨fun i j p q hi hj hpq => ?_, fun k q hk => ?_⟩
  · obtain ⟨x, h1, h2⟩ := key i p hi
    obtain ⟨y, h3, h4⟩ := key j q hj
    exact h.1 i j x y h1 h3 (h2.symm.trans (hpq.trans h4))
  · obtain ⟨x, h1, h2⟩ := key k q hk
    rw [h2]
    exact h.2 x (List.mem_of_getElem? h1)
theorem wl_get {ad : Nat → Nat → Nat} (ca : Nat → ClassId) (σ : PS) {L : List (Nat × Nat)} {k n : Nat} (h : (k, n) ∈ L) : ∃ q0 : Nat, L[q0]? = some (k, n) ∧ (wld ad ca σ L)[q0]? = some (ad k n, ent ad ca σ k n) := by
  obtain ⟨q0, h0⟩ := List.getElem?_of_mem h
  exact ⟨q0, h0, by rw [wld, List.getElem?_map, h0]; rfl⟩
theorem wl_set {ad : Nat → Nat → Nat} {ca : Nat → ClassId} {σ τ : PS} {L : List (Nat × Nat)} {A : Nat → Prop} (hD : DW ad L A) {q0 k n : Nat} (h0 : L[q0]? = some (k, n)) {e : va_E} (he : ent ad ca τ k n = e) (ho : ∀ a b : Nat, ¬ (a = k ∧ b = n) → ent ad ca τ a b = ent ad ca σ a b) : (wld ad ca σ L).set q0 (ad k n, e) = wld ad ca τ L := by
  have hl := (List.getElem?_eq_some_iff.mp h0).1
  apply List.ext_getElem?
  intro i
  by_cases hi : i = q0
  · subst hi
    rw [List.getElem?_set_self (by rw [wld, List.length_map]; exact hl), wld, List.getElem?_map, h0, ← he]
    rfl
  · rw [List.getElem?_set_ne (Ne.symm hi), wld, wld, List.getElem?_map, List.getElem?_map]
    cases hx : L[i]? with
    | none => rfl
    | some x =>
      obtain ⟨a, b⟩ := x
      show some (ad a b, ent ad ca σ a b) = some (ad a b, ent ad ca τ a b)
      rw [ho a b (fun q => hi (hD.1 i q0 _ _ hx h0 (by show ad a b = ad k n; rw [q.1, q.2])))]
theorem wl_sI {ad : Nat → Nat → Nat} {ca : Nat → ClassId} {σ : PS} {k n i : Nat} {v : Int32} (a b : Nat) (h : ¬ (a = k ∧ b = n)) : ent ad ca (sI σ k n i v) a b = ent ad ca σ a b := ent_congr (gI_sI_ne h) rfl rfl rfl
theorem wl_sL {ad : Nat → Nat → Nat} {ca : Nat → ClassId} {σ : PS} {k n i : Nat} {v : Int64} (a b : Nat) (h : ¬ (a = k ∧ b = n)) : ent ad ca (sL σ k n i v) a b = ent ad ca σ a b := ent_congr rfl (gL_sL_ne h) rfl rfl
theorem wl_sR {ad : Nat → Nat → Nat} {ca : Nat → ClassId} {σ : PS} {k n i : Nat} {v : Option Nat} (a b : Nat) (h : ¬ (a = k ∧ b = n)) : ent ad ca (sR σ k n i v) a b = ent ad ca σ a b := ent_congr rfl rfl (gR_sR_ne h) rfl
theorem fl_set {ad : Nat → Nat → Nat} {σ τ : PS} {k n j : Nat} {v : Value} (hj : fv ad τ k n j = v) (ho : ∀ i, i ≠ j → fv ad τ k n i = fv ad σ k n i) : fl ad τ k n = (fl ad σ k n).set j v := by
  apply List.ext_getElem?
  intro i
  unfold fl
  by_cases hi : i = j
  · subst hi
    by_cases hl : i < nf k
    · rw [List.getElem?_set_self (by simpa using hl), List.getElem?_map, List.getElem?_range hl]
      exact congrArg some hj
    · rw [List.getElem?_eq_none (by simpa using hl), List.getElem?_eq_none (by simpa using hl)]
  · rw [List.getElem?_set_ne (Ne.symm hi), List.getElem?_map, List.getElem?_map]
    cases hx : (List.range (nf k))[i]? with
    | none => rfl
    | some x =>
      have hxi : x = i := by
        have h1 := (List.getElem?_eq_some_iff.mp hx)
        obtain ⟨h2, h3⟩ := h1
        simp at h3
        exact h3.symm
      subst hxi
      exact congrArg some (ho x hi)
theorem fv_sI {ad : Nat → Nat → Nat} {σ : PS} {k n j : Nat} {v : Int32} (i : Nat) (h : i ≠ j) : fv ad (sI σ k n j v) k n i = fv ad σ k n i := by
  simp only [fv, gI_sI_same, gL_sI, gR_sI, upd, if_neg h]
theorem fv_sL {ad : Nat → Nat → Nat} {σ : PS} {k n j : Nat} {v : Int64} (i : Nat) (h : i ≠ j) : fv ad (sL σ k n j v) k n i = fv ad σ k n i := by
  simp only [fv, gL_sL_same, gI_sL, gR_sL, vp_updL, if_neg h]
theorem fl_at {ad : Nat → Nat → Nat} {σ : PS} {k n j : Nat} (h : j < nf k) : (fl ad σ k n)[j]? = some (fv ad σ k n j) := by
  rw [fl, List.getElem?_map, List.getElem?_range h]; rfl
abbrev tyL (ca : Nat → ClassId) : List (ClassId × FieldType) := [(ca 0, .int), (ca 1, .boolean), (ca 2, .long), (ca 3, .object RX1), (ca 4, .object RX2)]
/-- a contract's start and its world behind -/
abbrev ctP (G : va_G) (ad : Nat → Nat → Nat) (ca : Nat → ClassId) (L : List (Nat × Nat)) (σ : PS) (Z : State → Prop) (av : List Value) : Array Value → State → Prop := va_Pc av (fun U => va_P G vwCl (wld ad ca σ L) U.heap ∧ va_K G vwCl (tyL ca) U ∧ Z U)
abbrev ctB (G : va_G) (ad : Nat → Nat → Nat) (ca : Nat → ClassId) (L : List (Nat × Nat)) : PS → State → Prop := fun u t => va_P G vwCl (wld ad ca u L) t.heap ∧ va_K G vwCl (tyL ca) t
/-- what of the start stays, whatever is called: it speaks of the tables alone -/
def zk (Z : State → Prop) : Prop := (∀ s U : State, s.WarmedH U.vm → Z s → Z U) ∧ ∀ (a : Array Value) (U : State) (g : JFrame) (mk : MethodId), Z U → Z (U.calling g mk a)
section XR
variable {p : Program} {l : Launch} {e : Env} {R : Room} {s : State} {m : MethodId} {args : Array Value} {below : List Frame} {meth : Method} {c : Code} {H : Heap} {locs : List Loc} {cells slots : Nat} {Q : State → Prop}
variable {cc : ByteArray} {pc : Nat} {ls : Array Slot} {rest : List Value} {G : va_G} {A : Nat → Prop} {ad : Nat → Nat → Nat} {ca : Nat → ClassId} {σ : PS} {L : List (Nat × Nat)} {H0 : Heap} {k n : Nat}
theorem x_get (hx : p.tables.exec = Jvm.exec) (hb : c.code = cc) {own C : String} {T : u_T} {N index : Nat} {Ts : List Cond} (hts : ∀ w ∈ Ts, w.before args s = true) (hin : ∀ w ∈ u_ws C T N, w ∈ Ts) (hown : s.vm.findClass own = some m.cls) (hK : va_K G vwCl (tyL ca) s) (hP : va_P G vwCl (wld ad ca σ L) H) (hq : (k, n) ∈ L) (hk : ak k = 0) (hc : vwCl[ck k]? = some (C, T, N)) (j : Nat) (hj : j < N) (hN : nf k = N) (hlink : (Cond.fieldLink own index (T j).1 (T j).2.1 (T j).2.2.1).before args s = true) {v : Value} (hv : fv ad σ k n j = v) (hdg : decode cc pc = .ok (.getfield index, 3))
    (kk : W p l e R s m args below meth c H locs cells slots Q (F0 m (pc + 3) ls (v :: rest))) : W p l e R s m args below meth c H locs cells slots Q (F0 m pc ls (.ref (ad k n) :: rest)) := by
  obtain ⟨q0, -, he⟩ := wl_get (ad := ad) ca σ hq
  rw [ent_0 hk] at he
  exact va_get hx hb hts hin hown hK hP q0 he hc j hj hlink (fun _ h => h) (by rw [fl_at (by rw [hN]; exact hj), hv]) hdg kk
theorem x_putI (hx : p.tables.exec = Jvm.exec) (hb : c.code = cc) {own C : String} {T : u_T} {N index : Nat} {Ts : List Cond} (hts : ∀ w ∈ Ts, w.before args s = true) (hin : ∀ w ∈ u_ws C T N, w ∈ Ts) (ty0 : Nat → FieldType) (hty : ∀ k, k < N → parseFieldDescriptor (T k).2.2.1 = some (ty0 k)) (hnm : ∀ a, a < N → ∀ b, b < N → a ≠ b → (T a).2.1 ≠ (T b).2.1) (hown : s.vm.findClass own = some m.cls) (hK : va_K G vwCl (tyL ca) s) (hD : DW ad L A) (hP : va_P G vwCl (wld ad ca σ L) H) (hS : va_S A H0 H locs) (hq : (k, n) ∈ L) (hk : ak k = 0) (hc : vwCl[ck k]? = some (C, T, N)) (j : Nat) (hj : j < N) (hN : nf k = N) (hlink : (Cond.fieldLink own index (T j).1 (T j).2.1 (T j).2.2.1).before args s = true) (hfin : (T j).2.2.2 = false) (hf0 : (fk k j).1 = 0) {v : Int32} (hn : narrow (ty0 j) (.int v) = .int v) (hfit : fits (ty0 j) (.int v) = true) (hdg : decode cc pc = .ok (.putfield index, 3))
    (kk : ∀ (H1 : Heap) (locs1 : List Loc), va_P G vwCl (wld ad ca (sI σ k n j v) L) H1 → va_S A H0 H1 locs1 → W p l e R s m args below meth c H1 locs1 cells slots Q (F0 m (pc + 3) ls rest)) : W p l e R s m args below meth c H locs cells slots Q (F0 m pc ls (.int v :: .ref (ad k n) :: rest)) := by
  obtain ⟨q0, h0, he⟩ := wl_get (ad := ad) ca σ hq
  rw [ent_0 hk] at he
  refine va_put hx hb hts hin ty0 hty hnm hown hK hP (hD.d ca σ) hS q0 he hc j hj hlink (fun _ h => h) hfin (hty j hj) hn hfit (by rw [fl, List.length_map, List.length_range, hN]; exact hj) hdg (fun H1 locs1 hP1 _ hS1 => kk H1 locs1 ?_ hS1)
  have hfj : fv ad (sI σ k n j v) k n j = .int v := by
    have h : fk k j = (0, (fk k j).2) := Prod.ext hf0 rfl
    unfold fv
    rw [h]
    show Value.int (gI (sI σ k n j v) k n j) = _
    rw [gI_sI_same]
    simp [upd]
  rw [wl_set (τ := sI σ k n j v) hD h0 (by rw [ent_0 hk, fl_set hfj fv_sI]) wl_sI] at hP1
  exact hP1
theorem x_putL (hx : p.tables.exec = Jvm.exec) (hb : c.code = cc) {own C : String} {T : u_T} {N index : Nat} {Ts : List Cond} (hts : ∀ w ∈ Ts, w.before args s = true) (hin : ∀ w ∈ u_ws C T N, w ∈ Ts) (ty0 : Nat → FieldType) (hty : ∀ k, k < N → parseFieldDescriptor (T k).2.2.1 = some (ty0 k)) (hnm : ∀ a, a < N → ∀ b, b < N → a ≠ b → (T a).2.1 ≠ (T b).2.1) (hown : s.vm.findClass own = some m.cls) (hK : va_K G vwCl (tyL ca) s) (hD : DW ad L A) (hP : va_P G vwCl (wld ad ca σ L) H) (hS : va_S A H0 H locs) (hq : (k, n) ∈ L) (hk : ak k = 0) (hc : vwCl[ck k]? = some (C, T, N)) (j : Nat) (hj : j < N) (hN : nf k = N) (hlink : (Cond.fieldLink own index (T j).1 (T j).2.1 (T j).2.2.1).before args s = true) (hfin : (T j).2.2.2 = false) (hf0 : (fk k j).1 = 1) {v : Int64} (hn : narrow (ty0 j) (.long v) = .long v) (hfit : fits (ty0 j) (.long v) = true) (hdg : decode cc pc = .ok (.putfield index, 3))
    (kk : ∀ (H1 : Heap) (locs1 : List Loc), va_P G vwCl (wld ad ca (sL σ k n j v) L) H1 → va_S A H0 H1 locs1 → W p l e R s m args below meth c H1 locs1 cells slots Q (F0 m (pc + 3) ls rest)) : W p l e R s m args below meth c H locs cells slots Q (F0 m pc ls (.long v :: .ref (ad k n) :: rest)) := by
  obtain ⟨q0, h0, he⟩ := wl_get (ad := ad) ca σ hq
  rw [ent_0 hk] at he
  refine va_put hx hb hts hin ty0 hty hnm hown hK hP (hD.d ca σ) hS q0 he hc j hj hlink (fun _ h => h) hfin (hty j hj) hn hfit (by rw [fl, List.length_map, List.length_range, hN]; exact hj) hdg (fun H1 locs1 hP1 _ hS1 => kk H1 locs1 ?_ hS1)
  have hfj : fv ad (sL σ k n j v) k n j = .long v := by
    have h : fk k j = (1, (fk k j).2) := Prod.ext hf0 rfl
    unfold fv
    rw [h]
    show Value.long (gL (sL σ k n j v) k n j) = _
    rw [gL_sL_same]
    simp [vp_updL]
  rw [wl_set (τ := sL σ k n j v) hD h0 (by rw [ent_0 hk, fl_set hfj fv_sL]) wl_sL] at hP1
  exact hP1
theorem x_iald (hx : p.tables.exec = Jvm.exec) (hb : c.code = cc) (hK : va_K G vwCl (tyL ca) s) (hP : va_P G vwCl (wld ad ca σ L) H) (hq : (k, n) ∈ L) (hk : ak k = 1) {i : Int32} (hi : ib i (al σ k n) = true) (hdg : decode cc pc = .ok (.iaload, 1))
    (kk : W p l e R s m args below meth c H locs cells slots Q (F0 m (pc + 1) ls (.int (gI σ k n (ix i)) :: rest))) : W p l e R s m args below meth c H locs cells slots Q (F0 m pc ls (.int i :: .ref (ad k n) :: rest)) := by
  obtain ⟨q0, -, he⟩ := wl_get (ad := ad) ca σ hq
  rw [ent_1 hk] at he
  exact va_iald hx hb hK hP q0 0 he rfl (ib_in hi) hdg kk
theorem x_zald (hx : p.tables.exec = Jvm.exec) (hb : c.code = cc) (hK : va_K G vwCl (tyL ca) s) (hP : va_P G vwCl (wld ad ca σ L) H) (hq : (k, n) ∈ L) (hk : ak k = 2) {i : Int32} (hi : ib i (al σ k n) = true) (hdg : decode cc pc = .ok (.baload, 1))
    (kk : W p l e R s m args below meth c H locs cells slots Q (F0 m (pc + 1) ls (.int (gI σ k n (ix i)) :: rest))) : W p l e R s m args below meth c H locs cells slots Q (F0 m pc ls (.int i :: .ref (ad k n) :: rest)) := by
  obtain ⟨q0, -, he⟩ := wl_get (ad := ad) ca σ hq
  rw [ent_2 hk] at he
  exact va_zald hx hb hK hP q0 1 he rfl (ib_in hi) hdg kk
theorem x_lald (hx : p.tables.exec = Jvm.exec) (hb : c.code = cc) (hK : va_K G vwCl (tyL ca) s) (hP : va_P G vwCl (wld ad ca σ L) H) (hq : (k, n) ∈ L) (hk : ak k = 3) {i : Int32} (hi : ib i (al σ k n) = true) (hdg : decode cc pc = .ok (.laload, 1))
    (kk : W p l e R s m args below meth c H locs cells slots Q (F0 m (pc + 1) ls (.long (gL σ k n (ix i)) :: rest))) : W p l e R s m args below meth c H locs cells slots Q (F0 m pc ls (.int i :: .ref (ad k n) :: rest)) := by
  obtain ⟨q0, -, he⟩ := wl_get (ad := ad) ca σ hq
  rw [ent_3 hk] at he
  exact va_lald hx hb hK hP q0 2 he rfl (ib_in hi) hdg kk
theorem x_aald (hx : p.tables.exec = Jvm.exec) (hb : c.code = cc) (hK : va_K G vwCl (tyL ca) s) (hP : va_P G vwCl (wld ad ca σ L) H) (hq : (k, n) ∈ L) {t : Nat} (hk : ak k = 4 ∧ rk k = t ∨ ak k = 5 ∧ rk k = t) {i : Int32} (hi : ib i (al σ k n) = true) (hdg : decode cc pc = .ok (.aaload, 1)) {o : Option Nat} (ho : o = gR σ k n (ix i))
    (kk : W p l e R s m args below meth c H locs cells slots Q (F0 m (pc + 1) ls (va_rf (o.map (ad t)) :: rest))) : W p l e R s m args below meth c H locs cells slots Q (F0 m pc ls (.int i :: .ref (ad k n) :: rest)) := by
  obtain ⟨q0, -, he⟩ := wl_get (ad := ad) ca σ hq
  subst ho
  rcases hk with ⟨hk, rfl⟩ | ⟨hk, rfl⟩
  · rw [ent_4 hk] at he
    exact va_aldq hx hb hK hP q0 3 he rfl (ib_in hi) hdg kk
  · rw [ent_5 hk] at he
    exact va_aldq hx hb hK hP q0 4 he rfl (ib_in hi) hdg kk
theorem x_iast (hx : p.tables.exec = Jvm.exec) (hb : c.code = cc) (hK : va_K G vwCl (tyL ca) s) (hD : DW ad L A) (hP : va_P G vwCl (wld ad ca σ L) H) (hS : va_S A H0 H locs) (hq : (k, n) ∈ L) (hk : ak k = 1) {i x : Int32} (hi : ib i (al σ k n) = true) (hdg : decode cc pc = .ok (.iastore, 1))
    (kk : ∀ (H1 : Heap) (locs1 : List Loc), va_P G vwCl (wld ad ca (sI σ k n (ix i) x) L) H1 → va_S A H0 H1 locs1 → W p l e R s m args below meth c H1 locs1 cells slots Q (F0 m (pc + 1) ls rest)) : W p l e R s m args below meth c H locs cells slots Q (F0 m pc ls (.int x :: .int i :: .ref (ad k n) :: rest)) := by
  obtain ⟨q0, h0, he⟩ := wl_get (ad := ad) ca σ hq
  rw [ent_1 hk] at he
  refine va_iast hx hb hK hP (hD.d ca σ) hS q0 0 he rfl (ib_in hi) hdg (fun H1 locs1 hP1 _ hS1 => kk H1 locs1 ?_ hS1)
  rw [wl_set (τ := sI σ k n (ix i) x) hD h0 (by rw [ent_1 hk, gI_sI_same]; rfl) wl_sI] at hP1
  exact hP1
theorem x_zast (hx : p.tables.exec = Jvm.exec) (hb : c.code = cc) (hK : va_K G vwCl (tyL ca) s) (hD : DW ad L A) (hP : va_P G vwCl (wld ad ca σ L) H) (hS : va_S A H0 H locs) (hq : (k, n) ∈ L) (hk : ak k = 2) {i x : Int32} (hB : isB x = true) (hi : ib i (al σ k n) = true) (hdg : decode cc pc = .ok (.bastore, 1))
    (kk : ∀ (H1 : Heap) (locs1 : List Loc), va_P G vwCl (wld ad ca (sI σ k n (ix i) x) L) H1 → va_S A H0 H1 locs1 → W p l e R s m args below meth c H1 locs1 cells slots Q (F0 m (pc + 1) ls rest)) : W p l e R s m args below meth c H locs cells slots Q (F0 m pc ls (.int x :: .int i :: .ref (ad k n) :: rest)) := by
  obtain ⟨q0, h0, he⟩ := wl_get (ad := ad) ca σ hq
  rw [ent_2 hk] at he
  refine va_zast hx hb hK hP (hD.d ca σ) hS q0 1 he rfl (ib_in hi) hdg (fun H1 locs1 hP1 _ hS1 => kk H1 locs1 ?_ hS1)
  rw [isB_vp hB, wl_set (τ := sI σ k n (ix i) x) hD h0 (by rw [ent_2 hk, gI_sI_same]; rfl) wl_sI] at hP1
  exact hP1
theorem x_last (hx : p.tables.exec = Jvm.exec) (hb : c.code = cc) (hK : va_K G vwCl (tyL ca) s) (hD : DW ad L A) (hP : va_P G vwCl (wld ad ca σ L) H) (hS : va_S A H0 H locs) (hq : (k, n) ∈ L) (hk : ak k = 3) {i : Int32} {x : Int64} (hi : ib i (al σ k n) = true) (hdg : decode cc pc = .ok (.lastore, 1))
    (kk : ∀ (H1 : Heap) (locs1 : List Loc), va_P G vwCl (wld ad ca (sL σ k n (ix i) x) L) H1 → va_S A H0 H1 locs1 → W p l e R s m args below meth c H1 locs1 cells slots Q (F0 m (pc + 1) ls rest)) : W p l e R s m args below meth c H locs cells slots Q (F0 m pc ls (.long x :: .int i :: .ref (ad k n) :: rest)) := by
  obtain ⟨q0, h0, he⟩ := wl_get (ad := ad) ca σ hq
  rw [ent_3 hk] at he
  refine va_last hx hb hK hP (hD.d ca σ) hS q0 2 he rfl (ib_in hi) hdg (fun H1 locs1 hP1 _ hS1 => kk H1 locs1 ?_ hS1)
  rw [wl_set (τ := sL σ k n (ix i) x) hD h0 (by rw [ent_3 hk, gL_sL_same]; rfl) wl_sL] at hP1
  exact hP1
theorem x_upm {f : Nat → Option Nat} {g : Nat → Nat} {i x : Nat} : (fun j => (va_up f i (some x) j).map g) = va_up (fun j => (f j).map g) i (some (g x)) := by
  funext j
  unfold va_up
  by_cases h : j = i <;> simp [h]
/-- a handler is laid into an array of handlers -/
theorem x_aast5 (hx : p.tables.exec = Jvm.exec) (hb : c.code = cc) (hK : va_K G vwCl (tyL ca) s) (hD : DW ad L A) (hP : va_P G vwCl (wld ad ca σ L) H) (hS : va_S A H0 H locs) (hq : (k, n) ∈ L) (hk : ak k = 5) {t x : Nat} (ht : rk k = t) (hr : vwCl[ck t]? = some (RX2, TX2, 9)) (hkt : ak t = 0) (hqx : (t, x) ∈ L) {i : Int32} (hi : ib i (al σ k n) = true) (hdg : decode cc pc = .ok (.aastore, 1))
    (kk : ∀ (H1 : Heap) (locs1 : List Loc), va_P G vwCl (wld ad ca (sR σ k n (ix i) (some x)) L) H1 → va_S A H0 H1 locs1 → W p l e R s m args below meth c H1 locs1 cells slots Q (F0 m (pc + 1) ls rest)) : W p l e R s m args below meth c H locs cells slots Q (F0 m pc ls (.ref (ad t x) :: .int i :: .ref (ad k n) :: rest)) := by
  obtain ⟨q0, h0, he⟩ := wl_get (ad := ad) ca σ hq
  obtain ⟨q1, -, he1⟩ := wl_get (ad := ad) ca σ hqx
  rw [ent_5 hk] at he
  rw [ent_0 hkt] at he1
  refine va_astq hx hb hK hP (hD.d ca σ) hS q0 4 q1 (ck t) (r := (RX2, TX2, 9)) he rfl he1 hr (ib_in hi) hdg (fun H1 locs1 hP1 _ hS1 => kk H1 locs1 ?_ hS1)
  rw [wl_set (τ := sR σ k n (ix i) (some x)) hD h0 (by rw [ent_5 hk, gR_sR_same, ht, x_upm]; rfl) wl_sR] at hP1
  exact hP1
theorem x_alen (hx : p.tables.exec = Jvm.exec) (hb : c.code = cc) (hK : va_K G vwCl (tyL ca) s) (hP : va_P G vwCl (wld ad ca σ L) H) (hq : (k, n) ∈ L) (hk : ak k = 1) {v : Int32} (hv : nI (al σ k n) = v) (hdg : decode cc pc = .ok (.arraylength, 1))
    (kk : W p l e R s m args below meth c H locs cells slots Q (F0 m (pc + 1) ls (.int v :: rest))) : W p l e R s m args below meth c H locs cells slots Q (F0 m pc ls (.ref (ad k n) :: rest)) := by
  obtain ⟨q0, -, he⟩ := wl_get (ad := ad) ca σ hq
  rw [ent_1 hk] at he
  exact va_alen hx hb hK hP q0 0 he (ty := .int) rfl hv hdg kk
/-- a value gets its name -/
theorem x_nmI {x y : Int32} (h : y = x) (kk : W p l e R s m args below meth c H locs cells slots Q (F0 m pc ls (.int y :: rest))) : W p l e R s m args below meth c H locs cells slots Q (F0 m pc ls (.int x :: rest)) := h ▸ kk
theorem x_nmL {x y : Int64} (h : y = x) (kk : W p l e R s m args below meth c H locs cells slots Q (F0 m pc ls (.long y :: rest))) : W p l e R s m args below meth c H locs cells slots Q (F0 m pc ls (.long x :: rest)) := h ▸ kk
/-- references that may be null -/
theorem x_aload_nQ (hx : p.tables.exec = Jvm.exec) (hb : c.code = cc) {k : Fin 4} {i : Nat} {o : Option Nat} (hdg : decode cc pc = .ok (.aload_n k, 1)) (hi : (k : Nat) = i) (hl : ls[i]? = some (.val (va_rf o)))
    (kk : W p l e R s m args below meth c H locs cells slots Q (F0 m (pc + 1) ls (va_rf o :: rest))) : W p l e R s m args below meth c H locs cells slots Q (F0 m pc ls rest) := by
  cases o with
  | none => exact lv_aload_nN hx hb hdg hi hl kk
  | some a => exact lv_aload_n hx hb hdg hi hl kk
theorem x_aloadQ (hx : p.tables.exec = Jvm.exec) (hb : c.code = cc) {i : Nat} {o : Option Nat} (hdg : decode cc pc = .ok (.aload i, 2)) (hl : ls[i]? = some (.val (va_rf o)))
    (kk : W p l e R s m args below meth c H locs cells slots Q (F0 m (pc + 2) ls (va_rf o :: rest))) : W p l e R s m args below meth c H locs cells slots Q (F0 m pc ls rest) := by
  cases o with
  | none => exact lv_aloadN hx hb hdg hl kk
  | some a => exact lv_aload hx hb hdg hl kk
theorem x_astore_nQ (hx : p.tables.exec = Jvm.exec) (hb : c.code = cc) {k : Fin 4} {i nL : Nat} {o : Option Nat} {lv lv' : List (Nat × Value)} (hdg : decode cc pc = .ok (.astore_n k, 1)) (hi : (k : Nat) = i) (h : lv_has ls nL lv) (hn : i < nL) (hl : (i, va_rf o) :: lv.filter (fun q => !(q.1 == i) && !(q.1 + 1 == i && q.2.category == 2)) = lv')
    (kk : ∀ ls' : Array Slot, lv_has ls' nL lv' → W p l e R s m args below meth c H locs cells slots Q (F0 m (pc + 1) ls' rest)) : W p l e R s m args below meth c H locs cells slots Q (F0 m pc ls (va_rf o :: rest)) := by
  cases o with
  | none => exact lv_astore_nN hx hb hdg hi h hn hl kk
  | some a => exact lv_astore_n hx hb hdg hi h hn hl kk
theorem x_astoreQ (hx : p.tables.exec = Jvm.exec) (hb : c.code = cc) {i nL : Nat} {o : Option Nat} {lv lv' : List (Nat × Value)} (hdg : decode cc pc = .ok (.astore i, 2)) (h : lv_has ls nL lv) (hn : i < nL) (hl : (i, va_rf o) :: lv.filter (fun q => !(q.1 == i) && !(q.1 + 1 == i && q.2.category == 2)) = lv')
    (kk : ∀ ls' : Array Slot, lv_has ls' nL lv' → W p l e R s m args below meth c H locs cells slots Q (F0 m (pc + 2) ls' rest)) : W p l e R s m args below meth c H locs cells slots Q (F0 m pc ls (va_rf o :: rest)) := by
  cases o with
  | none => exact lv_astoreN hx hb hdg h hn hl kk
  | some a => exact lv_astore hx hb hdg h hn hl kk
/-- the ends -/
theorem x_iret {σ' : PS} {v r : Int32} (hx : p.tables.exec = Jvm.exec) (hb : c.code = cc) (hr : meth.sig.returnType = some .int) (hlocks : meth.locks = false) (hK : va_K G vwCl (tyL ca) s) (hP : va_P G vwCl (wld ad ca σ L) H) (hS : va_S A s.heap H locs) (h1 : v = r) (h2 : σ = σ') (hdg : decode cc pc = .ok (.ireturn, 1)) : W p l e R s m args below meth c H locs cells slots (MQ below (va_Qi (fun r' u => r' = r ∧ u = σ') (ctB G ad ca L) A) args s cells slots A) (F0 m pc ls [.int v]) :=
  W.iret hx hb hr (fun t ht hW => ⟨⟨v, σ, rfl, ⟨h1, h2⟩, by rw [ht]; exact hP, va_K.moved hW.alike hK⟩, hS.F ht⟩) hS.2.2 hdg
theorem x_zret {σ' : PS} {v r : Int32} (hx : p.tables.exec = Jvm.exec) (hb : c.code = cc) (hr : meth.sig.returnType = some .boolean) (hlocks : meth.locks = false) (hK : va_K G vwCl (tyL ca) s) (hP : va_P G vwCl (wld ad ca σ L) H) (hS : va_S A s.heap H locs) (hB : isB v = true) (h1 : v = r) (h2 : σ = σ') (hdg : decode cc pc = .ok (.ireturn, 1)) : W p l e R s m args below meth c H locs cells slots (MQ below (va_Qi (fun r' u => r' = r ∧ u = σ') (ctB G ad ca L) A) args s cells slots A) (F0 m pc ls [.int v]) :=
  W.zret hx hb hr (isB_nar hB) (fun t ht hW => ⟨⟨v, σ, rfl, ⟨h1, h2⟩, by rw [ht]; exact hP, va_K.moved hW.alike hK⟩, hS.F ht⟩) hS.2.2 hdg
theorem x_lret {σ' : PS} {v r : Int64} (hx : p.tables.exec = Jvm.exec) (hb : c.code = cc) (hr : meth.sig.returnType = some .long) (hlocks : meth.locks = false) (hK : va_K G vwCl (tyL ca) s) (hP : va_P G vwCl (wld ad ca σ L) H) (hS : va_S A s.heap H locs) (h1 : v = r) (h2 : σ = σ') (hdg : decode cc pc = .ok (.lreturn, 1)) : W p l e R s m args below meth c H locs cells slots (MQ below (va_Ql (fun r' u => r' = r ∧ u = σ') (ctB G ad ca L) A) args s cells slots A) (F0 m pc ls [.long v]) :=
  W.lret hx hb hr (fun t ht hW => ⟨⟨v, σ, rfl, ⟨h1, h2⟩, by rw [ht]; exact hP, va_K.moved hW.alike hK⟩, hS.F ht⟩) hS.2.2 hdg
theorem x_vret {σ' : PS} (hx : p.tables.exec = Jvm.exec) (hb : c.code = cc) (hr : meth.sig.returnType = none) (hlocks : meth.locks = false) (hK : va_K G vwCl (tyL ca) s) (hP : va_P G vwCl (wld ad ca σ L) H) (hS : va_S A s.heap H locs) (h2 : σ = σ') (hdg : decode cc pc = .ok (.return_, 1)) : W p l e R s m args below meth c H locs cells slots (MQ below (va_Qv (fun u => u = σ') (ctB G ad ca L) A) args s cells slots A) (F0 m pc ls []) :=
  W.vret hx hb hr (fun t ht hW => ⟨⟨σ, rfl, h2, by rw [ht]; exact hP, va_K.moved hW.alike hK⟩, hS.F ht⟩) hS.2.2 hdg
theorem x_aret {σ' : PS} {o r : Option Nat} {t0 : Nat} {C : String} (hx : p.tables.exec = Jvm.exec) (hb : c.code = cc) (hr : meth.sig.returnType = some (.object C)) (hlocks : meth.locks = false) (hK : va_K G vwCl (tyL ca) s) (hP : va_P G vwCl (wld ad ca σ L) H) (hS : va_S A s.heap H locs) (h1 : o = r) (h2 : σ = σ') (hdg : decode cc pc = .ok (.areturn, 1)) : W p l e R s m args below meth c H locs cells slots (MQ below (va_Qq (fun r' u => r' = r.map (ad t0) ∧ u = σ') (ctB G ad ca L) A) args s cells slots A) (F0 m pc ls [va_rf (o.map (ad t0))]) :=
  W.aret hx hb hr (Or.inl ⟨_, rfl⟩) (va_rf_or _) (fun t ht hW => ⟨⟨o.map (ad t0), σ, rfl, ⟨by rw [h1], h2⟩, by rw [ht]; exact hP, va_K.moved hW.alike hK⟩, hS.F ht⟩) hS.2.2 hdg
/-- calls: the same world before and behind -/
theorem x_blind {av : List Value} {Z : State → Prop} (hZ : zk Z) : FrameBlind (ctP G ad ca L σ Z av) := fun a U g mk q => ⟨q.1, q.2.1, va_K.moved (u := U) (U := U.calling g mk a) (Vm.Alike.refl U.vm) q.2.2.1, hZ.2 _ _ _ _ q.2.2.2⟩
theorem x_pc {av : List Value} {Z : State → Prop} (hZ : zk Z) (hz : Z s) (hK : va_K G vwCl (tyL ca) s) (hP : va_P G vwCl (wld ad ca σ L) H) : ∀ U : State, U.heap = H → s.WarmedH U.vm → ctP G ad ca L σ Z av av.toArray U := fun U hU hW => ⟨rfl, by rw [hU]; exact hP, va_K.moved hW.alike hK, hZ.1 _ _ hW hz⟩
theorem x_prV {Z : State → Prop} {As : List Value} {C : String} {T : u_T} {N : Nat} (hZ : zk Z) (hz : Z s) (hK : va_K G vwCl (tyL ca) s) (hP : va_P G vwCl (wld ad ca σ L) H) (hq : (k, n) ∈ L) (hk : ak k = 0) (hc : vwCl[ck k]? = some (C, T, N)) : PreV s H C (ad k n) (ctP G ad ca L σ Z (.ref (ad k n) :: As)) As := by
  obtain ⟨q0, -, he⟩ := wl_get (ad := ad) ca σ hq
  rw [ent_0 hk] at he
  exact ⟨x_blind hZ, va_recv hK hP hc he, x_pc hZ hz hK hP⟩
theorem x_prS {Z : State → Prop} {As : List Value} (hZ : zk Z) (hz : Z s) (hK : va_K G vwCl (tyL ca) s) (hP : va_P G vwCl (wld ad ca σ L) H) : PreS s H (ctP G ad ca L σ Z As) As := ⟨x_blind hZ, x_pc hZ hz hK hP⟩
variable {st0 : List Value} {a : Array Value} {σ' : PS}
theorem x_ci {r : Int32} (hr : va_Run p l e R s m args below meth c H locs cells slots 0 0 (F0 m pc ls st0) rest (va_Qi (fun r' u => r' = r ∧ u = σ') (ctB G ad ca L) A a) A) (hS : va_S A H0 H locs) (kk : ∀ (H1 : Heap) (locs1 : List Loc), va_P G vwCl (wld ad ca σ' L) H1 → va_S A H0 H1 locs1 → W p l e R s m args below meth c H1 locs1 cells slots Q (F0 m (pc + 3) ls (.int r :: rest))) : W p l e R s m args below meth c H locs cells slots Q (F0 m pc ls st0) :=
  va_calli hr hS (fun _ _ h => h) (fun _ h => h) (fun r1 u t H1 locs1 ht _ hw hB _ _ hS1 => by obtain ⟨rfl, rfl⟩ := hw; exact kk H1 locs1 (by rw [← ht]; exact hB.1) hS1)
theorem x_cl {r : Int64} (hr : va_Run p l e R s m args below meth c H locs cells slots 0 0 (F0 m pc ls st0) rest (va_Ql (fun r' u => r' = r ∧ u = σ') (ctB G ad ca L) A a) A) (hS : va_S A H0 H locs) (kk : ∀ (H1 : Heap) (locs1 : List Loc), va_P G vwCl (wld ad ca σ' L) H1 → va_S A H0 H1 locs1 → W p l e R s m args below meth c H1 locs1 cells slots Q (F0 m (pc + 3) ls (.long r :: rest))) : W p l e R s m args below meth c H locs cells slots Q (F0 m pc ls st0) :=
  va_calll hr hS (fun _ _ h => h) (fun _ h => h) (fun r1 u t H1 locs1 ht _ hw hB _ _ hS1 => by obtain ⟨rfl, rfl⟩ := hw; exact kk H1 locs1 (by rw [← ht]; exact hB.1) hS1)
theorem x_cv (hr : va_Run p l e R s m args below meth c H locs cells slots 0 0 (F0 m pc ls st0) rest (va_Qv (fun u => u = σ') (ctB G ad ca L) A a) A) (hS : va_S A H0 H locs) (kk : ∀ (H1 : Heap) (locs1 : List Loc), va_P G vwCl (wld ad ca σ' L) H1 → va_S A H0 H1 locs1 → W p l e R s m args below meth c H1 locs1 cells slots Q (F0 m (pc + 3) ls rest)) : W p l e R s m args below meth c H locs cells slots Q (F0 m pc ls st0) :=
  va_callv hr hS (fun _ _ h => h) (fun _ h => h) (fun u t H1 locs1 ht _ hw hB _ _ hS1 => by obtain rfl := hw; exact kk H1 locs1 (by rw [← ht]; exact hB.1) hS1)
theorem x_cq {r : Option Nat} (hr : va_Run p l e R s m args below meth c H locs cells slots 0 0 (F0 m pc ls st0) rest (va_Qq (fun r' u => r' = r ∧ u = σ') (ctB G ad ca L) A a) A) (hS : va_S A H0 H locs) (kk : ∀ (H1 : Heap) (locs1 : List Loc), va_P G vwCl (wld ad ca σ' L) H1 → va_S A H0 H1 locs1 → W p l e R s m args below meth c H1 locs1 cells slots Q (F0 m (pc + 3) ls (va_rf r :: rest))) : W p l e R s m args below meth c H locs cells slots Q (F0 m pc ls st0) :=
  va_callq hr hS (fun _ _ h => h) (fun _ h => h) (fun r1 u t H1 locs1 ht _ hw hB _ _ hS1 => by obtain ⟨rfl, rfl⟩ := hw; exact kk H1 locs1 (by rw [← ht]; exact hB.1) hS1)
end XR
def pl (m : Nat) (ks : List Nat) : List (Nat × Nat) := (List.range m).flatMap (fun n => ks.map (fun k => (k, n)))
theorem pl_in {m : Nat} {ks : List Nat} {k n : Nat} (hk : k ∈ ks) (hn : n < m) : (k, n) ∈ pl m ks := List.mem_flatMap.mpr ⟨n, List.mem_range.mpr hn, List.mem_map.mpr ⟨k, hk, rfl⟩⟩
def qLS : List Nat := [150, 151, 250, 300, 301, 302, 350, 351, 352, 400, 401, 402, 403, 450, 453, 454, 455, 456]
def qLC0 : List Nat := [0, 1, 2, 3, 5, 6]
def qLF : List Nat := [50, 55, 56, 57, 200, 201, 202, 203, 204]
def qLH : List Nat := [100, 106, 107, 108]
/-- the cells of the class with its z.1 functions and z.2 handlers; of the model -/
def LC (z : Nat × Nat) : List (Nat × Nat) := pl 1 qLS ++ (pl 2 qLC0 ++ (pl z.1 qLF ++ pl z.2 qLH))
def LM : List (Nat × Nat) := pl 1 [500, 501, 502, 503, 504, 507, 508, 510, 511, 512, 513, 514, 516, 517, 518, 519, 520, 521, 522, 523, 524, 525, 529, 532, 533, 535, 536, 537, 538, 539]
theorem mk_0 {z : Nat × Nat} {n : Nat} (hn : n < 2) : (0, n) ∈ LC z := List.mem_append_right _ (List.mem_append_left _ (pl_in (by decide) hn))
theorem mk_1 {z : Nat × Nat} {n : Nat} (hn : n < 2) : (1, n) ∈ LC z := List.mem_append_right _ (List.mem_append_left _ (pl_in (by decide) hn))
theorem mk_2 {z : Nat × Nat} {n : Nat} (hn : n < 2) : (2, n) ∈ LC z := List.mem_append_right _ (List.mem_append_left _ (pl_in (by decide) hn))
theorem mk_3 {z : Nat × Nat} {n : Nat} (hn : n < 2) : (3, n) ∈ LC z := List.mem_append_right _ (List.mem_append_left _ (pl_in (by decide) hn))
theorem mk_5 {z : Nat × Nat} {n : Nat} (hn : n < 2) : (5, n) ∈ LC z := List.mem_append_right _ (List.mem_append_left _ (pl_in (by decide) hn))
theorem mk_6 {z : Nat × Nat} {n : Nat} (hn : n < 2) : (6, n) ∈ LC z := List.mem_append_right _ (List.mem_append_left _ (pl_in (by decide) hn))
theorem mk_50 {z : Nat × Nat} {n : Nat} (hn : n < z.1) : (50, n) ∈ LC z := List.mem_append_right _ (List.mem_append_right _ (List.mem_append_left _ (pl_in (by decide) hn)))
theorem mk_55 {z : Nat × Nat} {n : Nat} (hn : n < z.1) : (55, n) ∈ LC z := List.mem_append_right _ (List.mem_append_right _ (List.mem_append_left _ (pl_in (by decide) hn)))
theorem mk_56 {z : Nat × Nat} {n : Nat} (hn : n < z.1) : (56, n) ∈ LC z := List.mem_append_right _ (List.mem_append_right _ (List.mem_append_left _ (pl_in (by decide) hn)))
theorem mk_57 {z : Nat × Nat} {n : Nat} (hn : n < z.1) : (57, n) ∈ LC z := List.mem_append_right _ (List.mem_append_right _ (List.mem_append_left _ (pl_in (by decide) hn)))
theorem mk_100 {z : Nat × Nat} {n : Nat} (hn : n < z.2) : (100, n) ∈ LC z := List.mem_append_right _ (List.mem_append_right _ (List.mem_append_right _ (pl_in (by decide) hn)))
theorem mk_106 {z : Nat × Nat} {n : Nat} (hn : n < z.2) : (106, n) ∈ LC z := List.mem_append_right _ (List.mem_append_right _ (List.mem_append_right _ (pl_in (by decide) hn)))
theorem mk_107 {z : Nat × Nat} {n : Nat} (hn : n < z.2) : (107, n) ∈ LC z := List.mem_append_right _ (List.mem_append_right _ (List.mem_append_right _ (pl_in (by decide) hn)))
theorem mk_108 {z : Nat × Nat} {n : Nat} (hn : n < z.2) : (108, n) ∈ LC z := List.mem_append_right _ (List.mem_append_right _ (List.mem_append_right _ (pl_in (by decide) hn)))
theorem mk_150 {z : Nat × Nat} {n : Nat} (hn : n < 1) : (150, n) ∈ LC z := List.mem_append_left _ (pl_in (by decide) hn)
theorem mk_151 {z : Nat × Nat} {n : Nat} (hn : n < 1) : (151, n) ∈ LC z := List.mem_append_left _ (pl_in (by decide) hn)
theorem mk_200 {z : Nat × Nat} {n : Nat} (hn : n < z.1) : (200, n) ∈ LC z := List.mem_append_right _ (List.mem_append_right _ (List.mem_append_left _ (pl_in (by decide) hn)))
theorem mk_201 {z : Nat × Nat} {n : Nat} (hn : n < z.1) : (201, n) ∈ LC z := List.mem_append_right _ (List.mem_append_right _ (List.mem_append_left _ (pl_in (by decide) hn)))
theorem mk_202 {z : Nat × Nat} {n : Nat} (hn : n < z.1) : (202, n) ∈ LC z := List.mem_append_right _ (List.mem_append_right _ (List.mem_append_left _ (pl_in (by decide) hn)))
theorem mk_203 {z : Nat × Nat} {n : Nat} (hn : n < z.1) : (203, n) ∈ LC z := List.mem_append_right _ (List.mem_append_right _ (List.mem_append_left _ (pl_in (by decide) hn)))
theorem mk_204 {z : Nat × Nat} {n : Nat} (hn : n < z.1) : (204, n) ∈ LC z := List.mem_append_right _ (List.mem_append_right _ (List.mem_append_left _ (pl_in (by decide) hn)))
theorem mk_250 {z : Nat × Nat} {n : Nat} (hn : n < 1) : (250, n) ∈ LC z := List.mem_append_left _ (pl_in (by decide) hn)
theorem mk_300 {z : Nat × Nat} {n : Nat} (hn : n < 1) : (300, n) ∈ LC z := List.mem_append_left _ (pl_in (by decide) hn)
theorem mk_301 {z : Nat × Nat} {n : Nat} (hn : n < 1) : (301, n) ∈ LC z := List.mem_append_left _ (pl_in (by decide) hn)
theorem mk_302 {z : Nat × Nat} {n : Nat} (hn : n < 1) : (302, n) ∈ LC z := List.mem_append_left _ (pl_in (by decide) hn)
theorem mk_350 {z : Nat × Nat} {n : Nat} (hn : n < 1) : (350, n) ∈ LC z := List.mem_append_left _ (pl_in (by decide) hn)
theorem mk_351 {z : Nat × Nat} {n : Nat} (hn : n < 1) : (351, n) ∈ LC z := List.mem_append_left _ (pl_in (by decide) hn)
theorem mk_352 {z : Nat × Nat} {n : Nat} (hn : n < 1) : (352, n) ∈ LC z := List.mem_append_left _ (pl_in (by decide) hn)
theorem mk_400 {z : Nat × Nat} {n : Nat} (hn : n < 1) : (400, n) ∈ LC z := List.mem_append_left _ (pl_in (by decide) hn)
theorem mk_401 {z : Nat × Nat} {n : Nat} (hn : n < 1) : (401, n) ∈ LC z := List.mem_append_left _ (pl_in (by decide) hn)
theorem mk_402 {z : Nat × Nat} {n : Nat} (hn : n < 1) : (402, n) ∈ LC z := List.mem_append_left _ (pl_in (by decide) hn)
theorem mk_403 {z : Nat × Nat} {n : Nat} (hn : n < 1) : (403, n) ∈ LC z := List.mem_append_left _ (pl_in (by decide) hn)
theorem mk_450 {z : Nat × Nat} {n : Nat} (hn : n < 1) : (450, n) ∈ LC z := List.mem_append_left _ (pl_in (by decide) hn)
theorem mk_453 {z : Nat × Nat} {n : Nat} (hn : n < 1) : (453, n) ∈ LC z := List.mem_append_left _ (pl_in (by decide) hn)
theorem mk_454 {z : Nat × Nat} {n : Nat} (hn : n < 1) : (454, n) ∈ LC z := List.mem_append_left _ (pl_in (by decide) hn)
theorem mk_455 {z : Nat × Nat} {n : Nat} (hn : n < 1) : (455, n) ∈ LC z := List.mem_append_left _ (pl_in (by decide) hn)
theorem mk_456 {z : Nat × Nat} {n : Nat} (hn : n < 1) : (456, n) ∈ LC z := List.mem_append_left _ (pl_in (by decide) hn)
theorem mk_500 {n : Nat} (hn : n < 1) : (500, n) ∈ LM := pl_in (by decide) hn
theorem mk_501 {n : Nat} (hn : n < 1) : (501, n) ∈ LM := pl_in (by decide) hn
theorem mk_502 {n : Nat} (hn : n < 1) : (502, n) ∈ LM := pl_in (by decide) hn
theorem mk_503 {n : Nat} (hn : n < 1) : (503, n) ∈ LM := pl_in (by decide) hn
theorem mk_504 {n : Nat} (hn : n < 1) : (504, n) ∈ LM := pl_in (by decide) hn
theorem mk_507 {n : Nat} (hn : n < 1) : (507, n) ∈ LM := pl_in (by decide) hn
theorem mk_508 {n : Nat} (hn : n < 1) : (508, n) ∈ LM := pl_in (by decide) hn
theorem mk_510 {n : Nat} (hn : n < 1) : (510, n) ∈ LM := pl_in (by decide) hn
theorem mk_511 {n : Nat} (hn : n < 1) : (511, n) ∈ LM := pl_in (by decide) hn
theorem mk_512 {n : Nat} (hn : n < 1) : (512, n) ∈ LM := pl_in (by decide) hn
theorem mk_513 {n : Nat} (hn : n < 1) : (513, n) ∈ LM := pl_in (by decide) hn
theorem mk_514 {n : Nat} (hn : n < 1) : (514, n) ∈ LM := pl_in (by decide) hn
theorem mk_516 {n : Nat} (hn : n < 1) : (516, n) ∈ LM := pl_in (by decide) hn
theorem mk_517 {n : Nat} (hn : n < 1) : (517, n) ∈ LM := pl_in (by decide) hn
theorem mk_518 {n : Nat} (hn : n < 1) : (518, n) ∈ LM := pl_in (by decide) hn
theorem mk_519 {n : Nat} (hn : n < 1) : (519, n) ∈ LM := pl_in (by decide) hn
theorem mk_520 {n : Nat} (hn : n < 1) : (520, n) ∈ LM := pl_in (by decide) hn
theorem mk_521 {n : Nat} (hn : n < 1) : (521, n) ∈ LM := pl_in (by decide) hn
theorem mk_522 {n : Nat} (hn : n < 1) : (522, n) ∈ LM := pl_in (by decide) hn
theorem mk_523 {n : Nat} (hn : n < 1) : (523, n) ∈ LM := pl_in (by decide) hn
theorem mk_524 {n : Nat} (hn : n < 1) : (524, n) ∈ LM := pl_in (by decide) hn
theorem mk_525 {n : Nat} (hn : n < 1) : (525, n) ∈ LM := pl_in (by decide) hn
theorem mk_529 {n : Nat} (hn : n < 1) : (529, n) ∈ LM := pl_in (by decide) hn
theorem mk_532 {n : Nat} (hn : n < 1) : (532, n) ∈ LM := pl_in (by decide) hn
theorem mk_533 {n : Nat} (hn : n < 1) : (533, n) ∈ LM := pl_in (by decide) hn
theorem mk_535 {n : Nat} (hn : n < 1) : (535, n) ∈ LM := pl_in (by decide) hn
theorem mk_536 {n : Nat} (hn : n < 1) : (536, n) ∈ LM := pl_in (by decide) hn
theorem mk_537 {n : Nat} (hn : n < 1) : (537, n) ∈ LM := pl_in (by decide) hn
theorem mk_538 {n : Nat} (hn : n < 1) : (538, n) ∈ LM := pl_in (by decide) hn
theorem mk_539 {n : Nat} (hn : n < 1) : (539, n) ∈ LM := pl_in (by decide) hn
theorem h01 : 0 < 1 := by decide
theorem h02 : 0 < 2 := by decide
theorem h12 : 1 < 2 := by decide
noncomputable def fuel : Nat := Classical.choose (⟨100000, Nat.le_refl _⟩ : ∃ n : Nat, 100000 ≤ n)
theorem fuel_ge : 100000 ≤ fuel := Classical.choose_spec (⟨100000, Nat.le_refl _⟩ : ∃ n : Nat, 100000 ≤ n)
def bp {α β γ : Type} (o : Option (α × β)) (k : α → β → Option γ) : Option γ := o.bind (fun t => k t.1 t.2)
theorem bp_e {α β γ : Type} {o : Option (α × β)} {k : α → β → Option γ} {r : γ} (h : bp o k = some r) : ∃ (a : α) (b : β), o = some (a, b) ∧ k a b = some r := by
  cases o with
  | none => exact absurd h (by simp [bp])
  | some t => exact ⟨t.1, t.2, rfl, h⟩
def oc {α : Type} (o : Option Nat) (b : Nat) (A : Option α) (B : Nat → Option α) : Option α := match o with
  | none => A
  | some x => gd (decide (x < b)) (B x)
theorem oc_n {α : Type} {b : Nat} {A : Option α} {B : Nat → Option α} {r : Option α} (h : oc none b A B = r) : A = r := h
theorem oc_s {α : Type} {b x : Nat} {A : Option α} {B : Nat → Option α} {r : α} (h : oc (some x) b A B = some r) : x < b ∧ B x = some r := by
  obtain ⟨h1, h2⟩ := gd_e (show gd (decide (x < b)) (B x) = some r from h)
  exact ⟨of_decide_eq_true h1, h2⟩
theorem x_out {x : Int32} {N : Nat} (h : ∀ j : Nat, j ≤ N → ¬ x = Int32.ofNat j) : x.toInt < (0 : Int) ∨ (N : Int) < x.toInt := by
  by_cases h0 : x.toInt < 0
  · exact Or.inl h0
  · by_cases h1 : (N : Int) < x.toInt
    · exact Or.inr h1
    · exfalso
      have hn : ¬ x < 0 := fun q => h0 (by have := Int32.lt_iff_toInt_lt.mp q; simpa using this)
      obtain ⟨j, hj, rfl⟩ := nI_of hn
      have : (nI j).toInt = (j : Int) := nI_toInt hj
      exact h j (by omega) rfl
def ZM (_ : State) : Prop := True
theorem zkM : zk ZM := ⟨fun _ _ _ _ => trivial, fun _ _ _ _ _ => trivial⟩
/-- what the tables say of private rows that nest mates call, and of arrays of objects: it stays -/
def ZC (U : State) : Prop := va_Nw (.methodLinkNest RX1 80 yX9_memberAt "CallBoard") U ∧ va_Nw (.methodLinkNest RX1 11 yX4_init "CallBoard") U ∧ va_Nw (.methodLinkNest RX5 11 yX0_init "CallBoard") U ∧ va_Nw (.methodLinkNest RX9 18 yX7_init "CallBoard") U ∧ va_Nw (.methodLinkNest RX9 44 yX6_init "CallBoard") U ∧ va_Nw (.methodLinkNest RX9 51 yX3_init "CallBoard") U ∧ va_Nw (.methodLinkNest RX9 58 yX5_init "CallBoard") U ∧ va_AO RX1 U ∧ va_AO RX2 U
theorem zkC : zk ZC := ⟨fun _ _ hW h => ⟨va_Nw.warmM hW h.1, va_Nw.warmM hW h.2.1, va_Nw.warmM hW h.2.2.1, va_Nw.warmM hW h.2.2.2.1, va_Nw.warmM hW h.2.2.2.2.1, va_Nw.warmM hW h.2.2.2.2.2.1, va_Nw.warmM hW h.2.2.2.2.2.2.1, va_AO.moved hW.alike h.2.2.2.2.2.2.2.1, va_AO.moved hW.alike h.2.2.2.2.2.2.2.2⟩, fun a U g mk h => ⟨va_Nw.same rfl rfl h.1, va_Nw.same rfl rfl h.2.1, va_Nw.same rfl rfl h.2.2.1, va_Nw.same rfl rfl h.2.2.2.1, va_Nw.same rfl rfl h.2.2.2.2.1, va_Nw.same rfl rfl h.2.2.2.2.2.1, va_Nw.same rfl rfl h.2.2.2.2.2.2.1, va_AO.moved (u := U) (U := U.calling g mk a) (Vm.Alike.refl U.vm) h.2.2.2.2.2.2.2.1, va_AO.moved (u := U) (U := U.calling g mk a) (Vm.Alike.refl U.vm) h.2.2.2.2.2.2.2.2⟩⟩
theorem nw_80 {s : State} (h : ZC s) : va_Nw (.methodLinkNest RX1 80 yX9_memberAt "CallBoard") s := h.1
theorem nw_X1_11 {s : State} (h : ZC s) : va_Nw (.methodLinkNest RX1 11 yX4_init "CallBoard") s := h.2.1
theorem nw_X5_11 {s : State} (h : ZC s) : va_Nw (.methodLinkNest RX5 11 yX0_init "CallBoard") s := h.2.2.1
theorem nw_X9_18 {s : State} (h : ZC s) : va_Nw (.methodLinkNest RX9 18 yX7_init "CallBoard") s := h.2.2.2.1
theorem nw_X9_44 {s : State} (h : ZC s) : va_Nw (.methodLinkNest RX9 44 yX6_init "CallBoard") s := h.2.2.2.2.1
theorem nw_X9_51 {s : State} (h : ZC s) : va_Nw (.methodLinkNest RX9 51 yX3_init "CallBoard") s := h.2.2.2.2.2.1
theorem nw_X9_58 {s : State} (h : ZC s) : va_Nw (.methodLinkNest RX9 58 yX5_init "CallBoard") s := h.2.2.2.2.2.2.1
theorem ao_X1 {s : State} (h : ZC s) : va_AO RX1 s := h.2.2.2.2.2.2.2.1
theorem ao_X2 {s : State} (h : ZC s) : va_AO RX2 s := h.2.2.2.2.2.2.2.2
theorem x_cat (o : Option Nat) : (va_rf o).category = 1 := by cases o <;> rfl

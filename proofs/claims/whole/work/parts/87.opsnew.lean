/-- function(): the class's case by the model's -/
theorem n_function {z : Nat × Nat} {t : Nat} {σ τ : PS} (h : RR z t σ τ) (x1 : Int32) : z.1 ≤ 4 ∧ z.2 ≤ 40 ∧ gI σ 450 0 9 = nI z.1 ∧ ∃ (res : Int32 × (Nat × Nat) × PS) (τ' : PS), ((∃ r, res = (r, z, σ) ∧ (r = -2 ∧ (x1 < 1 ∨ ¬ x1 ≤ 2) ∨ r = -3 ∧ gI σ 400 0 4 = 0 ∧ (¬ x1 < 1 ∧ x1 ≤ 2) ∨ r = -4 ∧ gI σ 400 0 4 = 1 ∧ z.1 = 4 ∧ (¬ x1 < 1 ∧ x1 ≤ 2))) ∨ ∃ p, (p = 1 ∨ p = 2) ∧ x1 = nI p ∧ gI σ 400 0 4 = 1 ∧ z.1 < 4 ∧ res = (nI z.1, (z.1 + 1, z.2), nF (shR 50 z.1 σ) z.1 p)) ∧ X10_function x1 τ = some (res.1, τ') ∧ RR res.2.1 t res.2.2 τ' := by
  have e4 : gI σ 400 0 4 = gI τ 500 0 4 := by
    obtain ⟨own, pn, lc, la, od, ns, h1, -⟩ := h
    exact h1.1.1
  have hb : z.1 ≤ 4 ∧ z.2 ≤ 40 ∧ gI σ 450 0 9 = nI z.1 := by
    obtain ⟨own, pn, lc, la, od, ns, h1, h2, h3, h4, h5, h6, h7, -⟩ := h
    exact ⟨h6.1, h7.1, h6.2.1⟩
  refine ⟨hb.1, hb.2.1, hb.2.2, ?_⟩
  rcases mM_function h x1 with ⟨r, hr, e2⟩ | ⟨p, hp, hx, hc, hz, e2⟩
  · exact ⟨(r, z, σ), τ, Or.inl ⟨r, rfl, by rw [e4]; exact hr⟩, e2, h⟩
  · exact ⟨(nI z.1, (z.1 + 1, z.2), nF (shR 50 z.1 σ) z.1 p), tF τ z.1 p, Or.inr ⟨p, hp, hx, by rw [e4]; exact hc, hz, rfl⟩, e2, RR_F (RR_sF h) hc hz hp⟩
theorem fAt_sh {z : Nat × Nat} {σ : PS} {x1 : Int32} {b : Nat} : gI (shR 100 b σ) = gI σ := rfl
theorem n_handler {z : Nat × Nat} {t : Nat} {σ τ : PS} (h : RR z t σ τ) (x1 x2 x3 x4 : Int32) (hx4 : x4 = 0 ∨ x4 = 1) : z.1 ≤ 4 ∧ z.2 ≤ 40 ∧ gI σ 450 0 10 = nI z.2 ∧ ∃ (res : Int32 × (Nat × Nat) × PS) (τ' : PS), ((∃ r, res = (r, z, σ) ∧ (r = -2 ∧ (X9_functionAt z x1 σ = some none ∨ ∃ f, f < z.1 ∧ X9_functionAt z x1 σ = some (some f) ∧ (x2 < 0 ∨ ¬ x2 ≤ 7)) ∨ r = -4 ∧ z.2 = 40 ∧ ∃ f, f < z.1 ∧ X9_functionAt z x1 σ = some (some f) ∧ ¬ x2 < 0 ∧ x2 ≤ 7)) ∨ ∃ f p, f < z.1 ∧ X9_functionAt z x1 σ = some (some f) ∧ ¬ x2 < 0 ∧ x2 ≤ 7 ∧ z.2 < 40 ∧ gI σ 50 f 2 = nI p ∧ (p = 1 ∨ p = 2) ∧ res = (nI z.2, (z.1, z.2 + 1), nH (shR 100 z.2 σ) z.2 f p x2 x3 x4)) ∧ X10_handler x1 x2 x3 x4 τ = some (res.1, τ') ∧ RR res.2.1 t res.2.2 τ' := by
  have hb : z.1 ≤ 4 ∧ z.2 ≤ 40 ∧ gI σ 450 0 10 = nI z.2 := by
    obtain ⟨own, pn, lc, la, od, ns, h1, h2, h3, h4, h5, h6, h7, -⟩ := h
    exact ⟨h6.1, h7.1, h7.2.1⟩
  refine ⟨hb.1, hb.2.1, hb.2.2, ?_⟩
  rcases mM_handler h x1 x2 x3 x4 hx4 with ⟨r, hr, e2⟩ | ⟨f, a0, hf, hx, hfa, ha, hxa, c1, c2, hz, e2⟩
  · refine ⟨(r, z, σ), τ, Or.inl ⟨r, rfl, ?_⟩, e2, h⟩
    rcases hr with ⟨q1, q2 | ⟨f, w1, w2, w3, w4⟩⟩ | ⟨q1, q2, f, w1, w2, w3, w4⟩
    · exact Or.inl ⟨q1, Or.inl q2⟩
    · exact Or.inl ⟨q1, Or.inr ⟨f, w1, w3, w4⟩⟩
    · exact Or.inr ⟨q1, q2, f, w1, w3, w4⟩
  · obtain ⟨p, hp1, hp2, hR⟩ := RR_H (val := x3) (RR_sH h) hf hz ha hxa hx4
    exact ⟨(nI z.2, (z.1, z.2 + 1), nH (shR 100 z.2 σ) z.2 f p x2 x3 x4), tH τ z.2 f x2 x3 x4, Or.inr ⟨f, p, hf, hfa, c1, c2, hz, hp1, hp2, rfl⟩, e2, hR⟩
theorem op_function {p : Program} {l : Launch} {e : Env} {s : State} {m : MethodId} {below : List Frame} {meth : Method} {c : Code} {b L k : Nat} {xs : Nat → Int32} {G : va_G} {ca : Nat → ClassId} {M : Nat → Prop} {ad bd : Nat → Nat → Nat} {z : Nat × Nat} {σ τ : PS} {H : Heap} {locs : List Loc} {ls : Array Slot} (hL : L ≤ 2560) (C0 : lw_At p s m meth c b L xs) (hK : va_K G vwCl (tyL ca) s) (hz : ZC s) (hk : 5 * k + 5 ≤ L) (hI : LI s G ca M b k ad bd z σ τ H locs ls) (next : NX p l e s m below meth c b k G ca M ad bd ls) : W p l e room_1 s m #[Value.ref b] below meth c H locs (60 + 9 * k) (6060 + 105 * k) (lw_Z below #[Value.ref b] s) (F0 m 427 ls []) := by
  obtain ⟨hx, hb, hr, hml, hown, hts0, hX, hbl, hlocks, hgv⟩ := C0
  have hts : ∀ w ∈ WW, w.before #[Value.ref b] s = true := fun w h => hts0 w (List.mem_filter.mp h).1
  have hown : s.vm.findClass RL = some m.cls := hown
  obtain ⟨hR, hP, hQ, hD, hE, hM, hS, hl⟩ := hI
  obtain ⟨hz1, hz2, hcnt, res, τ', hf, e2, hR'⟩ := n_function hR (xs (5 * k + 1))
  have hAl : ∀ q, H.size ≤ q → (fun q => s.heap.size ≤ q ∧ ¬ M q) q := fun q h => ⟨Nat.le_trans hS.1 h, fun h' => by have := hM q h'; omega⟩
  refine lv_aload_n hx hb dL_law_427 rfl (lv_at hl 1 rfl) ?_
  refine lw_arg hx hb hX hbl hS (lv_at hl 0 rfl) (lv_at hl 3 rfl) 1 (by decide) hk hL (v := (1 : Int32)) rfl dL_law_428 dL_law_429 (fun rest kk => lv_iconst (v := (1 : Int32)) hx hb dL_law_430 rfl kk) dL_law_431 dL_law_432 ?_
  refine y_cG (va_runV (As := [.int (xs (5 * k + 1))]) (rest := []) ⟨hx, hb, hml, hown, hts⟩ (t_X9_function l G ad ca _ z H.size (xs (5 * k + 1)) hD hAl σ hz1 hz2 hcnt res hf) (cwV 1 hts gr_L_53 rfl rfl rfl h9_X9_function ⟨Nat.le_of_ble_eq_true rfl, Nat.le_of_ble_eq_true rfl⟩) (x_prN hz hK hP (mk_450 h01) rfl rfl) rfl rfl hl.1 rfl (lv_room (Nat.le_of_ble_eq_true rfl)) dL_law_433 ⟨by show 60 + 9 * k + 9 ≤ 600000; omega, by show 6060 + 105 * k + 105 ≤ 7302250; omega⟩) hS (fun q h => h.1) hQ hE (fun q h h' => h'.2 h.2) (fun ad' H1 locs1 hP hD e0 hQ hz1 hS => ?_)
  refine lv_aload_n hx hb dL_law_436 rfl (lv_at hl 2 rfl) ?_
  refine lw_arg hx hb hX hbl hS (lv_at hl 0 rfl) (lv_at hl 3 rfl) 1 (by decide) hk hL (v := (1 : Int32)) rfl dL_law_437 dL_law_438 (fun rest kk => lv_iconst (v := (1 : Int32)) hx hb dL_law_439 rfl kk) dL_law_440 dL_law_441 ?_
  refine y_ci (va_runV (As := [.int (xs (5 * k + 1))]) (rest := [.int res.1]) ⟨hx, hb, hml, hown, hts⟩ (t_X10_function l G bd ca _ (xs (5 * k + 1)) hE τ res.1 τ' e2) (cwV 1 hts gr_L_56 rfl rfl rfl h9_X10_function ⟨Nat.le_of_ble_eq_true rfl, Nat.le_of_ble_eq_true rfl⟩) (x_prV zkM trivial hK hQ (mk_500 h01) rfl rfl) rfl rfl hl.1 rfl (lv_room (Nat.le_of_ble_eq_true rfl)) dL_law_442 ⟨by show 60 + 9 * k + 9 + 0 ≤ 600000; omega, by show 6060 + 105 * k + 105 + 0 ≤ 7302250; omega⟩) hS (fun q h => h.1) hP hD (fun q h h' => h.2 h'.2) (fun H2 locs2 hQ hP hz2 hS => ?_)
  refine lv_icmp_eq (tgt := 1164) hx hb dL_law_445 rfl (fun _ => ?_) (fun hc => absurd rfl hc)
  refine W.widen (k := 60 + 9 * k + 9) (n := 6060 + 105 * k + 105) (by omega) (by omega) ?_
  exact next ad' res.2.1 res.2.2 τ' _ _ e0 (RR_t hR' (by omega)) hP hQ hD (fun q h => Nat.lt_of_lt_of_le (hM q h) (Nat.le_trans hz1 hz2)) hS
theorem op_handler {p : Program} {l : Launch} {e : Env} {s : State} {m : MethodId} {below : List Frame} {meth : Method} {c : Code} {b L k : Nat} {xs : Nat → Int32} {G : va_G} {ca : Nat → ClassId} {M : Nat → Prop} {ad bd : Nat → Nat → Nat} {z : Nat × Nat} {σ τ : PS} {H : Heap} {locs : List Loc} {ls : Array Slot} (hL : L ≤ 2560) (C0 : lw_At p s m meth c b L xs) (hK : va_K G vwCl (tyL ca) s) (hz : ZC s) (hk : 5 * k + 5 ≤ L) (hI : LI s G ca M b k ad bd z σ τ H locs ls) (next : NX p l e s m below meth c b k G ca M ad bd ls) : W p l e room_1 s m #[Value.ref b] below meth c H locs (60 + 9 * k) (6060 + 105 * k) (lw_Z below #[Value.ref b] s) (F0 m 450 ls []) := by
  obtain ⟨hx, hb, hr, hml, hown, hts0, hX, hbl, hlocks, hgv⟩ := C0
  have hts : ∀ w ∈ WW, w.before #[Value.ref b] s = true := fun w h => hts0 w (List.mem_filter.mp h).1
  have hown : s.vm.findClass RL = some m.cls := hown
  obtain ⟨hR, hP, hQ, hD, hE, hM, hS, hl⟩ := hI
  obtain ⟨bb, hbb, hbv⟩ : ∃ bb : Int32, (bb = 0 ∨ bb = 1) ∧ bb = if xs (5 * k + 4) = 0 then 0 else 1 := ⟨if xs (5 * k + 4) = 0 then 0 else 1, by by_cases q : xs (5 * k + 4) = 0 <;> simp [q], rfl⟩
  obtain ⟨hz1, hz2, hcnt, res, τ', hf, e2, hR'⟩ := n_handler hR (xs (5 * k + 1)) (xs (5 * k + 2)) (xs (5 * k + 3)) bb hbb
  have hAl : ∀ q, H.size ≤ q → (fun q => s.heap.size ≤ q ∧ ¬ M q) q := fun q h => ⟨Nat.le_trans hS.1 h, fun h' => by have := hM q h'; omega⟩
  refine lv_aload_n hx hb dL_law_450 rfl (lv_at hl 1 rfl) ?_
  refine lw_arg hx hb hX hbl hS (lv_at hl 0 rfl) (lv_at hl 3 rfl) 1 (by decide) hk hL (v := (1 : Int32)) rfl dL_law_451 dL_law_452 (fun rest kk => lv_iconst (v := (1 : Int32)) hx hb dL_law_453 rfl kk) dL_law_454 dL_law_455 ?_
  refine lw_arg hx hb hX hbl hS (lv_at hl 0 rfl) (lv_at hl 3 rfl) 2 (by decide) hk hL (v := (2 : Int32)) rfl dL_law_456 dL_law_457 (fun rest kk => lv_iconst (v := (2 : Int32)) hx hb dL_law_458 rfl kk) dL_law_459 dL_law_460 ?_
  refine lw_arg hx hb hX hbl hS (lv_at hl 0 rfl) (lv_at hl 3 rfl) 3 (by decide) hk hL (v := (3 : Int32)) rfl dL_law_461 dL_law_462 (fun rest kk => lv_iconst (v := (3 : Int32)) hx hb dL_law_463 rfl kk) dL_law_464 dL_law_465 ?_
  refine lw_arg hx hb hX hbl hS (lv_at hl 0 rfl) (lv_at hl 3 rfl) 4 (by decide) hk hL (v := (4 : Int32)) rfl dL_law_466 dL_law_467 (fun rest kk => lv_iconst (v := (4 : Int32)) hx hb dL_law_468 rfl kk) dL_law_469 dL_law_470 ?_
  refine lw_bool (tgt := 478) hx hb dL_law_471 rfl hbv (fun kk => lv_iconst (v := (1 : Int32)) hx hb dL_law_474 rfl (lv_goto (tgt := 479) hx hb dL_law_475 rfl kk)) (fun kk => lv_iconst (v := (0 : Int32)) hx hb dL_law_478 rfl kk) ?_
  refine y_cG (va_runV (As := [.int (xs (5 * k + 1)), .int (xs (5 * k + 2)), .int (xs (5 * k + 3)), .int bb]) (rest := []) ⟨hx, hb, hml, hown, hts⟩ (t_X9_handler l G ad ca _ z H.size (xs (5 * k + 1)) (xs (5 * k + 2)) (xs (5 * k + 3)) bb hD hAl σ hz1 hz2 hcnt (by rcases hbb with rfl | rfl <;> rfl) res hf) (cwV 4 hts gr_L_57 rfl rfl rfl h9_X9_handler ⟨Nat.le_of_ble_eq_true rfl, Nat.le_of_ble_eq_true rfl⟩) (x_prN hz hK hP (mk_450 h01) rfl rfl) rfl rfl hl.1 rfl (lv_room (Nat.le_of_ble_eq_true rfl)) dL_law_479 ⟨by show 60 + 9 * k + 4 ≤ 600000; omega, by show 6060 + 105 * k + 15 ≤ 7302250; omega⟩) hS (fun q h => h.1) hQ hE (fun q h h' => h'.2 h.2) (fun ad' H1 locs1 hP hD e0 hQ hz1 hS => ?_)
  refine lv_aload_n hx hb dL_law_482 rfl (lv_at hl 2 rfl) ?_
  refine lw_arg hx hb hX hbl hS (lv_at hl 0 rfl) (lv_at hl 3 rfl) 1 (by decide) hk hL (v := (1 : Int32)) rfl dL_law_483 dL_law_484 (fun rest kk => lv_iconst (v := (1 : Int32)) hx hb dL_law_485 rfl kk) dL_law_486 dL_law_487 ?_
  refine lw_arg hx hb hX hbl hS (lv_at hl 0 rfl) (lv_at hl 3 rfl) 2 (by decide) hk hL (v := (2 : Int32)) rfl dL_law_488 dL_law_489 (fun rest kk => lv_iconst (v := (2 : Int32)) hx hb dL_law_490 rfl kk) dL_law_491 dL_law_492 ?_
  refine lw_arg hx hb hX hbl hS (lv_at hl 0 rfl) (lv_at hl 3 rfl) 3 (by decide) hk hL (v := (3 : Int32)) rfl dL_law_493 dL_law_494 (fun rest kk => lv_iconst (v := (3 : Int32)) hx hb dL_law_495 rfl kk) dL_law_496 dL_law_497 ?_
  refine lw_arg hx hb hX hbl hS (lv_at hl 0 rfl) (lv_at hl 3 rfl) 4 (by decide) hk hL (v := (4 : Int32)) rfl dL_law_498 dL_law_499 (fun rest kk => lv_iconst (v := (4 : Int32)) hx hb dL_law_500 rfl kk) dL_law_501 dL_law_502 ?_
  refine lw_bool (tgt := 510) hx hb dL_law_503 rfl hbv (fun kk => lv_iconst (v := (1 : Int32)) hx hb dL_law_506 rfl (lv_goto (tgt := 511) hx hb dL_law_507 rfl kk)) (fun kk => lv_iconst (v := (0 : Int32)) hx hb dL_law_510 rfl kk) ?_
  refine y_ci (va_runV (As := [.int (xs (5 * k + 1)), .int (xs (5 * k + 2)), .int (xs (5 * k + 3)), .int bb]) (rest := [.int res.1]) ⟨hx, hb, hml, hown, hts⟩ (t_X10_handler l G bd ca _ (xs (5 * k + 1)) (xs (5 * k + 2)) (xs (5 * k + 3)) bb hE τ res.1 τ' e2) (cwV 4 hts gr_L_61 rfl rfl rfl h9_X10_handler ⟨Nat.le_of_ble_eq_true rfl, Nat.le_of_ble_eq_true rfl⟩) (x_prV zkM trivial hK hQ (mk_500 h01) rfl rfl) rfl rfl hl.1 rfl (lv_room (Nat.le_of_ble_eq_true rfl)) dL_law_511 ⟨by show 60 + 9 * k + 4 + 0 ≤ 600000; omega, by show 6060 + 105 * k + 15 + 0 ≤ 7302250; omega⟩) hS (fun q h => h.1) hP hD (fun q h h' => h.2 h'.2) (fun H2 locs2 hQ hP hz2 hS => ?_)
  refine lv_icmp_eq (tgt := 1164) hx hb dL_law_514 rfl (fun _ => ?_) (fun hc => absurd rfl hc)
  refine W.widen (k := 60 + 9 * k + 9) (n := 6060 + 105 * k + 105) (by omega) (by omega) ?_
  exact next ad' res.2.1 res.2.2 τ' _ _ e0 (RR_t hR' (by omega)) hP hQ hD (fun q h => Nat.lt_of_lt_of_le (hM q h) (Nat.le_trans hz1 hz2)) hS

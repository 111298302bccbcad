theorem h9_X9_function : yX9_function.cls = RX9 ∧ yX9_function.cls ≠ "java/lang/invoke/MethodHandle" ∧ yX9_function.cls ≠ "java/lang/invoke/VarHandle" ∧ (parseMethodDescriptor yX9_function.desc).map (fun d => d.parameters.length) = some 1 := by decide +kernel
set_option maxRecDepth 100000 in
set_option maxHeartbeats 1000000 in
theorem t_X9_function (l : Launch) (G : va_G) (ad : Nat → Nat → Nat) (ca : Nat → ClassId) (A : Nat → Prop) (z : Nat × Nat) (sz : Nat) (x1 : Int32) (hDW : DW ad (LC z) A) (hA : ∀ q, sz ≤ q → A q) (σ : PS) (hz1 : z.1 ≤ 4) (hz2 : z.2 ≤ 40) (hcnt : gI σ 450 0 9 = nI z.1) (res : Int32 × (Nat × Nat) × PS)
    (hf : (∃ r, res = (r, z, σ) ∧ (r = -2 ∧ (x1 < 1 ∨ ¬ x1 ≤ 2) ∨ r = -3 ∧ gI σ 400 0 4 = 0 ∧ (¬ x1 < 1 ∧ x1 ≤ 2) ∨ r = -4 ∧ gI σ 400 0 4 = 1 ∧ z.1 = 4 ∧ (¬ x1 < 1 ∧ x1 ≤ 2))) ∨ ∃ p, (p = 1 ∨ p = 2) ∧ x1 = nI p ∧ gI σ 400 0 4 = 1 ∧ z.1 < 4 ∧ res = (nI z.1, (z.1 + 1, z.2), nF (shR 50 z.1 σ) z.1 p)) :
    Met l yX9_function wsX9_function ({ frames := 3, cells := 9, slots := 105, locals := 71 }) (ctN G ad ca (LC z) σ ZC sz [.ref (ad 450 0), .int x1]) (va_Qi (fun r' u => (r', u.2) = res) (ctG G ca A (ad 450 0)) A) 9 105 A := by
  refine Met.ofW (cc := cX9_function) (maxL := 2) (ret := (some .int)) (by decide) rfl ?_
  intro p e s m args below meth c s₁ B hml hv
  obtain ⟨rfl, hsz, hP, hK, hz⟩ := hv
  have hx := B.exec
  have hb := B.bytes
  have hr := B.returns
  have hts : ∀ w ∈ WW, w.before _ s = true := fun w h => atoms_spec (ws := wsX9_function) B.pre w (List.mem_cons_of_mem _ h)
  have hown : s.vm.findClass RX9 = some m.cls := findClass_of_methodNamed B.named
  have hlocks := B.notSynchronized
  have hS : va_S A s.heap s.heap [] := va_S.rf
  subst hsz
  have k_12 := hts _ kf_X9_12
  have k_25 := hts _ kf_X9_25
  have k_63 := hts _ kf_X9_63
  have k_77 := hts _ kf_X9_77
  have hl := lv_entry ([.ref (ad 450 0), .int x1]) (n := 2) (Nat.le_of_ble_eq_true rfl)
  rw [lg_entry_eq]
  generalize (lg_sl ([.ref (ad 450 0), .int x1]) ++ List.replicate (2 - (lg_sl ([.ref (ad 450 0), .int x1])).length) Slot.unset).toArray = ls at hl ⊢
  have hl : lv_has ls 2 [(0, .ref (ad 450 0)), (1, .int x1)] := hl
  have ref : ∀ (pc : Nat) (v : Int32) (H : Heap) (locs : List Loc), res = (v, z, σ) → va_P G vwCl (wld ad ca σ (LC z)) H → va_S A s.heap H locs → decode cX9_function pc = .ok (.ireturn, 1) → W p l e (headSpec wsX9_function ({ frames := 3, cells := 9, slots := 105, locals := 71 })).room s m (([.ref (ad 450 0), .int x1] : List Value).toArray) below meth c H locs 0 0 (MQ below (va_Qi (fun r' u => (r', u.2) = res) (ctG G ca A (ad 450 0)) A) (([.ref (ad 450 0), .int x1] : List Value).toArray) s 9 105 A) (F0 m pc ls [.int v]) := by
    intro pc v H locs hv hP hS hd
    refine W.widen (k := 9) (n := 105) (by omega) (by omega) ?_
    exact W.iret hx hb hr (fun t ht hW => ⟨⟨v, (ad, z, σ), rfl, hv.symm, by rw [ht]; exact hP, va_K.moved hW.alike hK, hDW, rfl⟩, hS.F ht⟩) hS.2.2 hd
  refine lv_iload_n hx hb dX9_function_0 rfl (lv_at hl 1 rfl) ?_
  refine lv_iconst (v := (1 : Int32)) hx hb dX9_function_1 rfl ?_
  refine lv_icmp_lt (tgt := 10) hx hb dX9_function_2 rfl (fun hc => ?_) (fun hc => ?_)
  · refine lv_bipush (v := (-2 : Int32)) hx hb dX9_function_10 rfl ?_
    refine ref 12 (-2) _ _ ?_ hP hS dX9_function_12
    rcases hf with ⟨r, e1, h | h | h⟩ | ⟨p, hp, e1, -⟩
    · rw [e1, h.1]
    · exact absurd hc h.2.2.1
    · exact absurd hc h.2.2.2.1
    · subst e1; rcases hp with rfl | rfl <;> exact absurd hc (by decide)
  refine lv_iload_n hx hb dX9_function_5 rfl (lv_at hl 1 rfl) ?_
  refine lv_iconst (v := (2 : Int32)) hx hb dX9_function_6 rfl ?_
  refine lv_icmp_le (tgt := 13) hx hb dX9_function_7 rfl (fun hc2 => ?_) (fun hc2 => ?_)
  case refine_2 =>
    refine lv_bipush (v := (-2 : Int32)) hx hb dX9_function_10 rfl ?_
    refine ref 12 (-2) _ _ ?_ hP hS dX9_function_12
    rcases hf with ⟨r, e1, h | h | h⟩ | ⟨p, hp, e1, -⟩
    · rw [e1, h.1]
    · exact absurd h.2.2.2 hc2
    · exact absurd h.2.2.2.2 hc2
    · subst e1; rcases hp with rfl | rfl <;> exact absurd (by decide) hc2
  refine lv_aload_n hx hb dX9_function_13 rfl (lv_at hl 0 rfl) ?_
  refine x_get (k := 450) (n := 0) hx hb hts i_X9 hown hK hP (mk_450 h01) rfl rfl 0 (by decide) rfl k_12 (v := .ref (ad 400 0)) rfl dX9_function_14 ?_
  refine x_get (k := 400) (n := 0) hx hb hts i_X8 hown hK hP (mk_400 h01) rfl rfl 4 (by decide) rfl k_77 (v := .int (gI σ 400 0 4)) rfl dX9_function_17 ?_
  refine lv_if_ne (tgt := 26) hx hb dX9_function_20 rfl (fun hc3 => ?_) (fun hc3 => ?_)
  case refine_2 =>
    refine lv_bipush (v := (-3 : Int32)) hx hb dX9_function_23 rfl ?_
    refine ref 25 (-3) _ _ ?_ hP hS dX9_function_25
    have hc3 : gI σ 400 0 4 = 0 := hc3
    rcases hf with ⟨r, e1, h | h | h⟩ | ⟨p, hp, -, e1, -⟩
    · exact absurd h.2 (fun q => q.elim hc (fun q => q hc2))
    · rw [e1, h.1]
    · rw [hc3] at h; exact absurd h.2.1 (by decide)
    · rw [hc3] at e1; exact absurd e1 (by decide)
  refine lv_aload_n hx hb dX9_function_26 rfl (lv_at hl 0 rfl) ?_
  refine x_get (k := 450) (n := 0) hx hb hts i_X9 hown hK hP (mk_450 h01) rfl rfl 9 (by decide) rfl k_63 (v := .int (nI z.1)) (by rw [← hcnt]; rfl) dX9_function_27 ?_
  refine lv_iconst (v := (4 : Int32)) hx hb dX9_function_30 rfl ?_
  refine lv_icmp_lt (tgt := 37) hx hb dX9_function_31 rfl (fun hc4 => ?_) (fun hc4 => ?_)
  case refine_2 =>
    refine lv_bipush (v := (-4 : Int32)) hx hb dX9_function_34 rfl ?_
    refine ref 36 (-4) _ _ ?_ hP hS dX9_function_36
    rcases hf with ⟨r, e1, h | h | h⟩ | ⟨p, hp, -, -, e1, -⟩
    · exact absurd h.2 (fun q => q.elim hc (fun q => q hc2))
    · exact absurd h.2.1 hc3
    · rw [e1, h.1]
    · exact absurd (nI_lt (b := 4) e1 (by decide)) hc4
  have hz4 : z.1 < 4 := by
    rcases Nat.lt_or_ge z.1 4 with q | q
    · exact q
    · have : z.1 = 4 := by omega
      rw [this] at hc4
      exact absurd hc4 (by decide)
  obtain ⟨p1, hp1, hx1, -, -, hres⟩ : ∃ p, (p = 1 ∨ p = 2) ∧ x1 = nI p ∧ gI σ 400 0 4 = 1 ∧ z.1 < 4 ∧ res = (nI z.1, (z.1 + 1, z.2), nF (shR 50 z.1 σ) z.1 p) := by
    rcases hf with ⟨r, e1, h | h | h⟩ | h
    · exact absurd h.2 (fun q => q.elim hc (fun q => q hc2))
    · exact absurd h.2.1 hc3
    · omega
    · exact h
  refine lv_aload_n hx hb dX9_function_37 rfl (lv_at hl 0 rfl) ?_
  refine x_get (k := 450) (n := 0) hx hb hts i_X9 hown hK hP (mk_450 h01) rfl rfl 2 (by decide) rfl k_25 (v := .ref (ad 453 0)) rfl dX9_function_38 ?_
  refine lv_aload_n hx hb dX9_function_41 rfl (lv_at hl 0 rfl) ?_
  refine x_get (k := 450) (n := 0) hx hb hts i_X9 hown hK hP (mk_450 h01) rfl rfl 9 (by decide) rfl k_63 (v := .int (nI z.1)) (by rw [← hcnt]; rfl) dX9_function_42 ?_
  refine va_new (ci := 1) (fs := [.null, .int 0, .int 0, .null, .null, .null, .null, .int 0, .int 0, .int 0]) (C := RX1) (T := TX1) (N := 10) hx hb hts i_X1 tyX1 tyX1_ok hown (hts _ kl_X9_23) (hts _ kn_X1) (hts _ kz_X1) hK hP (hDW.d ca σ) hS hA rfl (fun j hj => by rcases (show j = 0 ∨ j = 1 ∨ j = 2 ∨ j = 3 ∨ j = 4 ∨ j = 5 ∨ j = 6 ∨ j = 7 ∨ j = 8 ∨ j = 9 by omega) with rfl | rfl | rfl | rfl | rfl | rfl | rfl | rfl | rfl | rfl <;> rfl) (Nat.le_of_ble_eq_true rfl) (Nat.le_of_ble_eq_true rfl) dX9_function_45 (fun q H hP2 hD2 hS => ?_)
  have hP := va_P_left hP2
  have hPc := va_P_right hP2
  have hDc := va_D_right hD2
  refine lv_dup hx hb dX9_function_48 rfl ?_
  refine lv_aload_n hx hb dX9_function_49 rfl (lv_at hl 0 rfl) ?_
  refine x_get (k := 450) (n := 0) hx hb hts i_X9 hown hK hP (mk_450 h01) rfl rfl 0 (by decide) rfl k_12 (v := .ref (ad 400 0)) rfl dX9_function_50 ?_
  refine lv_aload_n hx hb dX9_function_53 rfl (lv_at hl 0 rfl) ?_
  refine x_get (k := 450) (n := 0) hx hb hts i_X9 hown hK hP (mk_450 h01) rfl rfl 9 (by decide) rfl k_63 (v := .int (nI z.1)) (by rw [← hcnt]; rfl) dX9_function_54 ?_
  refine lv_iload_n hx hb dX9_function_57 rfl (lv_at hl 1 rfl) ?_
  have hFc : ∀ a, va_A [(q, (.inr (1, [.null, .int 0, .int 0, .null, .null, .null, .null, .int 0, .int 0, .int 0]) : va_E))] H.size a → A a := by
    rintro a (⟨k, e, h⟩ | h)
    · exact hDc.2 k (a, e) h
    · exact hA a (Nat.le_trans hS.1 h)
  refine va_callv (va_runI (As := [.ref (ad 400 0), .int (nI z.1), .int x1]) (rest := [.ref q, .int (nI z.1), .ref (ad 453 0)]) ⟨hx, hb, hml, hown, hts⟩ (t_X1_init l G ca q H.size (ad 400 0) (nI z.1) x1) (cwI 3 hts (gw_0 kc_X1_init) rfl rfl rfl (hts _ kz_X1) (hts _ km_X9_126) (hts _ ki_X1_init) rfl h9_X1_init ⟨Nat.le_of_ble_eq_true rfl, Nat.le_of_ble_eq_true rfl⟩) (x_inPre hz hK hPc hDc) rfl rfl hl.1 rfl (lv_room (Nat.le_of_ble_eq_true rfl)) dX9_function_58 ⟨Nat.le_of_ble_eq_true rfl, Nat.le_of_ble_eq_true rfl⟩) hS (fun q _ h => hFc q h) hFc (fun u t H1 locs ht hvm hw hB hz1 hk1 hS => ?_)
  obtain ⟨hP1, hK1, hD1⟩ := hB
  rw [ht] at hP1
  obtain ⟨hP, hD⟩ := va_join2 hP2 hD2 hk1 hFc hP1 hD1
  subst hx1
  obtain ⟨hP, hDW⟩ := growF hz4 hz2 hP hD hDW
  have e1 : adN ad qLF 50 z.1 (naF q u) 50 z.1 = q := adN_n (by decide)
  have e2 : adN ad qLF 50 z.1 (naF q u) 453 0 = ad 453 0 := adN_o (fun h => absurd h (by decide))
  have e3 : adN ad qLF 50 z.1 (naF q u) 450 0 = ad 450 0 := adN_o (fun h => absurd h (by decide))
  generalize hadd : adN ad qLF 50 z.1 (naF q u) = ad' at hP hDW e1 e2 e3
  have c9 : ∀ τ : PS, gI (nF0 (shR 50 z.1 σ) z.1 p1) 450 0 9 = nI z.1 := fun _ => by
    rw [← hcnt]
    simp [gI, nF0, shR]
  refine W.eq (g2 := F0 m 61 ls [.ref (ad' 50 z.1), .int (nI z.1), .ref (ad' 453 0)]) (by rw [e1, e2]) ?_
  refine x_aast4 (k := 453) (n := 0) (t := 50) (x := z.1) hx hb hK hDW hP hS (mk_453 h01) rfl rfl rfl rfl (mk_50 (by show z.1 < z.1 + 1; omega)) (by show ib (nI z.1) 4 = true; rw [ib_nI (by omega)]; exact decide_eq_true hz4) dX9_function_61 (fun H locs hP hS => ?_)
  rw [ix_nI (by omega)] at hP
  have hl : lv_has ls 2 [(0, .ref (ad' 450 0)), (1, .int (nI p1))] := by rw [e3]; exact hl
  refine lv_aload_n hx hb dX9_function_62 rfl (lv_at hl 0 rfl) ?_
  refine lv_dup hx hb dX9_function_63 rfl ?_
  refine x_get (k := 450) (n := 0) hx hb hts i_X9 hown hK hP (mk_450 h01) rfl rfl 9 (by decide) rfl k_63 (v := .int (nI z.1)) (by rw [← c9 σ]; rfl) dX9_function_64 ?_
  refine lv_iconst (v := (1 : Int32)) hx hb dX9_function_67 rfl ?_
  refine lv_iadd hx hb dX9_function_68 ?_
  refine x_nmI (y := nI (z.1 + 1)) (nI_succ z.1) ?_
  refine x_putI (k := 450) (n := 0) hx hb hts i_X9 tyX9 tyX9_ok nmX9 hown hK hDW hP hS (mk_450 h01) rfl rfl 9 (by decide) rfl k_63 rfl rfl rfl rfl dX9_function_69 (fun H locs hP hS => ?_)
  rw [nF_eq] at hP
  refine lv_aload_n hx hb dX9_function_72 rfl (lv_at hl 0 rfl) ?_
  refine x_get (k := 450) (n := 0) hx hb hts i_X9 hown hK hP (mk_450 h01) rfl rfl 9 (by decide) rfl k_63 (v := .int (nI (z.1 + 1))) (by rw [← nF_eq]; show Value.int (gI (sI _ 450 0 9 _) 450 0 9) = _; rw [gI_sI_same]; simp [upd]) dX9_function_73 ?_
  refine lv_iconst (v := (1 : Int32)) hx hb dX9_function_76 rfl ?_
  refine lv_isub hx hb dX9_function_77 ?_
  refine x_nmI (y := nI z.1) (nI_pred z.1).symm ?_
  exact W.iret hx hb hr (fun t ht hW => ⟨⟨nI z.1, (ad', (z.1 + 1, z.2), nF (shR 50 z.1 σ) z.1 p1), rfl, hres.symm, by rw [ht]; exact hP, va_K.moved hW.alike hK, hDW, e3⟩, hS.F ht⟩) hS.2.2 dX9_function_78

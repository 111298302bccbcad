theorem h9_X9_handler : yX9_handler.cls = RX9 ∧ yX9_handler.cls ≠ "java/lang/invoke/MethodHandle" ∧ yX9_handler.cls ≠ "java/lang/invoke/VarHandle" ∧ (parseMethodDescriptor yX9_handler.desc).map (fun d => d.parameters.length) = some 4 := by decide +kernel
set_option maxRecDepth 100000 in
set_option maxHeartbeats 1000000 in
theorem t_X9_handler (l : Launch) (G : va_G) (ad : Nat → Nat → Nat) (ca : Nat → ClassId) (A : Nat → Prop) (z : Nat × Nat) (sz : Nat) (x1 x2 x3 x4 : Int32) (hDW : DW ad (LC z) A) (hA : ∀ q, sz ≤ q → A q) (σ : PS) (hz1 : z.1 ≤ 4) (hz2 : z.2 ≤ 40) (hcnt : gI σ 450 0 10 = nI z.2) (hB4 : isB x4 = true) (res : Int32 × (Nat × Nat) × PS)
    (hf : (∃ r, res = (r, z, σ) ∧ (r = -2 ∧ (X9_functionAt z x1 σ = some none ∨ ∃ f, f < z.1 ∧ X9_functionAt z x1 σ = some (some f) ∧ (x2 < 0 ∨ ¬ x2 ≤ 7)) ∨ r = -4 ∧ z.2 = 40 ∧ ∃ f, f < z.1 ∧ X9_functionAt z x1 σ = some (some f) ∧ ¬ x2 < 0 ∧ x2 ≤ 7)) ∨ ∃ f p, f < z.1 ∧ X9_functionAt z x1 σ = some (some f) ∧ ¬ x2 < 0 ∧ x2 ≤ 7 ∧ z.2 < 40 ∧ gI σ 50 f 2 = nI p ∧ (p = 1 ∨ p = 2) ∧ res = (nI z.2, (z.1, z.2 + 1), nH (shR 100 z.2 σ) z.2 f p x2 x3 x4)) :
    Met l yX9_handler wsX9_handler ({ frames := 2, cells := 4, slots := 15, locals := 53 }) (ctN G ad ca (LC z) σ ZC sz [.ref (ad 450 0), .int x1, .int x2, .int x3, .int x4]) (va_Qi (fun r' u => (r', u.2) = res) (ctG G ca A (ad 450 0)) A) 4 15 A := by
  refine Met.ofW (cc := cX9_handler) (maxL := 6) (ret := (some .int)) (by decide) rfl ?_
  intro p e s m args below meth c s₁ B hml hv
  obtain ⟨rfl, hsz, hP, hK, hz⟩ := hv
  have hx := B.exec
  have hb := B.bytes
  have hr := B.returns
  have hts : ∀ w ∈ WW, w.before _ s = true := fun w h => atoms_spec (ws := wsX9_handler) B.pre w (List.mem_cons_of_mem _ h)
  have hown : s.vm.findClass RX9 = some m.cls := findClass_of_methodNamed B.named
  have hlocks := B.notSynchronized
  have hS : va_S A s.heap s.heap [] := va_S.rf
  subst hsz
  have k_31 := hts _ kf_X9_31
  have k_67 := hts _ kf_X9_67
  have hl := lv_entry ([.ref (ad 450 0), .int x1, .int x2, .int x3, .int x4]) (n := 6) (Nat.le_of_ble_eq_true rfl)
  rw [lg_entry_eq]
  generalize (lg_sl ([.ref (ad 450 0), .int x1, .int x2, .int x3, .int x4]) ++ List.replicate (6 - (lg_sl ([.ref (ad 450 0), .int x1, .int x2, .int x3, .int x4])).length) Slot.unset).toArray = ls at hl ⊢
  have hl : lv_has ls 6 [(0, .ref (ad 450 0)), (1, .int x1), (2, .int x2), (3, .int x3), (4, .int x4)] := hl
  have ref : ∀ (pc : Nat) (v : Int32) (H : Heap) (locs : List Loc) (ls : Array Slot), res = (v, z, σ) → va_P G vwCl (wld ad ca σ (LC z)) H → va_S A s.heap H locs → decode cX9_handler pc = .ok (.ireturn, 1) → W p l e (headSpec wsX9_handler ({ frames := 2, cells := 4, slots := 15, locals := 53 })).room s m (([.ref (ad 450 0), .int x1, .int x2, .int x3, .int x4] : List Value).toArray) below meth c H locs 0 0 (MQ below (va_Qi (fun r' u => (r', u.2) = res) (ctG G ca A (ad 450 0)) A) (([.ref (ad 450 0), .int x1, .int x2, .int x3, .int x4] : List Value).toArray) s 4 15 A) (F0 m pc ls [.int v]) := by
    intro pc v H locs ls hv hP hS hd
    refine W.widen (k := 4) (n := 15) (by omega) (by omega) ?_
    exact W.iret hx hb hr (fun t ht hW => ⟨⟨v, (ad, z, σ), rfl, hv.symm, by rw [ht]; exact hP, va_K.moved hW.alike hK, hDW, rfl⟩, hS.F ht⟩) hS.2.2 hd
  obtain ⟨r1, hc1⟩ : ∃ r1, X9_functionAt z x1 σ = some r1 := by
    rcases hf with ⟨r, e1, ⟨-, h | ⟨f, -, h, -⟩⟩ | ⟨-, -, f, -, h, -⟩⟩ | ⟨f, p, -, h, -⟩
    · exact ⟨_, h⟩
    · exact ⟨_, h⟩
    · exact ⟨_, h⟩
    · exact ⟨_, h⟩
  refine lv_aload_n hx hb dX9_handler_0 rfl (lv_at hl 0 rfl) ?_
  refine lv_iload_n hx hb dX9_handler_1 rfl (lv_at hl 1 rfl) ?_
  refine x_cq (va_runV (As := [.int x1]) (rest := []) ⟨hx, hb, hml, hown, hts⟩ (t_X9_functionAt l G ad ca A z x1 hDW σ r1 hc1) (cwV 1 hts gr_X9_129 rfl rfl rfl h9_X9_functionAt ⟨Nat.le_of_ble_eq_true rfl, Nat.le_of_ble_eq_true rfl⟩) (x_prV zkC hz hK hP (mk_450 h01) rfl rfl) rfl rfl hl.1 rfl (lv_room (Nat.le_of_ble_eq_true rfl)) dX9_handler_2 ⟨Nat.le_of_ble_eq_true rfl, Nat.le_of_ble_eq_true rfl⟩) hS (fun H locs hP hS => ?_)
  refine x_astoreQ (lv' := [(5, va_rf (Option.map (ad 50) r1)), (0, .ref (ad 450 0)), (1, .int x1), (2, .int x2), (3, .int x3), (4, .int x4)]) hx hb dX9_handler_5 hl (by decide) rfl (fun ls hl => ?_)
  refine x_aloadQ hx hb dX9_handler_7 (lv_at hl 0 rfl) ?_
  have hno : r1 = none ∨ (∃ f, r1 = some f ∧ f < z.1) := by
    rcases hf with ⟨r, e1, ⟨-, h | ⟨f, hf1, h, -⟩⟩ | ⟨-, -, f, hf1, h, -⟩⟩ | ⟨f, p, hf1, h, -⟩ <;> have hh := Option.some.inj (hc1.symm.trans h)
    · exact Or.inl hh
    · exact Or.inr ⟨f, hh, hf1⟩
    · exact Or.inr ⟨f, hh, hf1⟩
    · exact Or.inr ⟨f, hh, hf1⟩
  rcases hno with rfl | ⟨f, rfl, hf1⟩
  · refine lv_ifnullN (tgt := 22) hx hb dX9_handler_9 rfl ?_
    refine lv_bipush (v := (-2 : Int32)) hx hb dX9_handler_22 rfl ?_
    refine ref 24 (-2) _ _ _ ?_ hP hS dX9_handler_24
    rcases hf with ⟨r, e1, h | ⟨-, -, f, -, h, -⟩⟩ | ⟨f, p, -, h, -⟩
    · rw [e1, h.1]
    · rw [hc1] at h; cases h
    · rw [hc1] at h; cases h
  have same : ∀ {g : Nat}, X9_functionAt z x1 σ = some (some g) → g = f := fun h => Option.some.inj (Option.some.inj (h.symm.trans hc1))
  have nonone : ¬ X9_functionAt z x1 σ = some none := fun h => by rw [hc1] at h; cases h
  refine lv_ifnull hx hb dX9_handler_9 ?_
  refine lv_iload_n hx hb dX9_handler_12 rfl (lv_at hl 3 rfl) ?_
  refine lv_if_lt (tgt := 22) hx hb dX9_handler_13 rfl (fun hc => ?_) (fun hc => ?_)
  · refine lv_bipush (v := (-2 : Int32)) hx hb dX9_handler_22 rfl ?_
    refine ref 24 (-2) _ _ _ ?_ hP hS dX9_handler_24
    rcases hf with ⟨r, e1, h | ⟨-, -, f, -, -, h, -⟩⟩ | ⟨f, p, -, -, h, -⟩
    · rw [e1, h.1]
    · exact absurd hc h
    · exact absurd hc h
  refine lv_iload_n hx hb dX9_handler_16 rfl (lv_at hl 3 rfl) ?_
  refine lv_bipush (v := (7 : Int32)) hx hb dX9_handler_17 rfl ?_
  refine lv_icmp_le (tgt := 25) hx hb dX9_handler_19 rfl (fun hc2 => ?_) (fun hc2 => ?_)
  case refine_2 =>
    refine lv_bipush (v := (-2 : Int32)) hx hb dX9_handler_22 rfl ?_
    refine ref 24 (-2) _ _ _ ?_ hP hS dX9_handler_24
    rcases hf with ⟨r, e1, h | ⟨-, -, f, -, -, -, h⟩⟩ | ⟨f, p, -, -, -, h, -⟩
    · rw [e1, h.1]
    · exact absurd h hc2
    · exact absurd h hc2
  refine lv_aload_n hx hb dX9_handler_25 rfl (lv_at hl 1 rfl) ?_
  refine x_get (k := 450) (n := 0) hx hb hts i_X9 hown hK hP (mk_450 h01) rfl rfl 10 (by decide) rfl k_67 (v := .int (nI z.2)) (by rw [← hcnt]; rfl) dX9_handler_26 ?_
  refine lv_bipush (v := (40 : Int32)) hx hb dX9_handler_29 rfl ?_
  refine lv_icmp_lt (tgt := 37) hx hb dX9_handler_31 rfl (fun hc4 => ?_) (fun hc4 => ?_)
  case refine_2 =>
    refine lv_bipush (v := (-4 : Int32)) hx hb dX9_handler_34 rfl ?_
    refine ref 36 (-4) _ _ _ ?_ hP hS dX9_handler_36
    rcases hf with ⟨r, e1, ⟨-, h | ⟨f, -, -, h⟩⟩ | h⟩ | ⟨f, p, -, -, -, -, h, -⟩
    · exact absurd h nonone
    · exact absurd h (fun q => q.elim hc (fun q => q hc2))
    · rw [e1, h.1]
    · exact absurd (nI_lt (b := 40) h (by decide)) hc4
  have hz4 : z.2 < 40 := by
    rcases Nat.lt_or_ge z.2 40 with q | q
    · exact q
    · have : z.2 = 40 := by omega
      rw [this] at hc4
      exact absurd hc4 (by decide)
  obtain ⟨p1, hpv, hp1, hres⟩ : ∃ p, gI σ 50 f 2 = nI p ∧ (p = 1 ∨ p = 2) ∧ res = (nI z.2, (z.1, z.2 + 1), nH (shR 100 z.2 σ) z.2 f p x2 x3 x4) := by
    rcases hf with ⟨r, e1, ⟨-, h | ⟨f, -, -, h⟩⟩ | h⟩ | ⟨g, p, -, hg, -, -, -, h1, h2, h3⟩
    · exact absurd h nonone
    · exact absurd h (fun q => q.elim hc (fun q => q hc2))
    · omega
    · obtain rfl := same hg
      exact ⟨p, h1, h2, h3⟩
  refine lv_aload_n hx hb dX9_handler_37 rfl (lv_at hl 1 rfl) ?_
  refine x_get (k := 450) (n := 0) hx hb hts i_X9 hown hK hP (mk_450 h01) rfl rfl 3 (by decide) rfl k_31 (v := .ref (ad 454 0)) rfl dX9_handler_38 ?_
  refine lv_aload_n hx hb dX9_handler_41 rfl (lv_at hl 1 rfl) ?_
  refine x_get (k := 450) (n := 0) hx hb hts i_X9 hown hK hP (mk_450 h01) rfl rfl 10 (by decide) rfl k_67 (v := .int (nI z.2)) (by rw [← hcnt]; rfl) dX9_handler_42 ?_
  refine va_new (ci := 2) (fs := [.null, .int 0, .int 0, .int 0, .int 0, .null, .null, .null, .int 0]) (C := RX2) (T := TX2) (N := 9) hx hb hts i_X2 tyX2 tyX2_ok hown (hts _ kl_X9_29) (hts _ kn_X2) (hts _ kz_X2) hK hP (hDW.d ca σ) hS hA rfl (fun j hj => by rcases (show j = 0 ∨ j = 1 ∨ j = 2 ∨ j = 3 ∨ j = 4 ∨ j = 5 ∨ j = 6 ∨ j = 7 ∨ j = 8 by omega) with rfl | rfl | rfl | rfl | rfl | rfl | rfl | rfl | rfl <;> rfl) (Nat.le_of_ble_eq_true rfl) (Nat.le_of_ble_eq_true rfl) dX9_handler_45 (fun q H hP2 hD2 hS => ?_)
  have hP := va_P_left hP2
  have hom : (ad 50 f, (.inr (1, fl ad σ 50 f) : va_E)) ∈ wld ad ca σ (LC z) := List.mem_map.mpr ⟨(50, f), mk_50 hf1, by show (ad 50 f, ent ad ca σ 50 f) = _; rw [ent_0 (k := 50) rfl]; rfl⟩
  have hqm : (q, (.inr (2, [.null, .int 0, .int 0, .int 0, .int 0, .null, .null, .null, .int 0]) : va_E)) ∈ wld ad ca σ (LC z) ++ [(q, (.inr (2, [.null, .int 0, .int 0, .int 0, .int 0, .null, .null, .null, .int 0]) : va_E))] := List.mem_append_right _ (List.mem_singleton.mpr rfl)
  have hne : (ad 50 f) ≠ q := va_D_apart hD2 hom (List.mem_singleton.mpr rfl)
  have hPc : va_P G vwCl [(q, (.inr (2, [.null, .int 0, .int 0, .int 0, .int 0, .null, .null, .null, .int 0]) : va_E)), (ad 50 f, (.inr (1, fl ad σ 50 f) : va_E))] H := va_P_all (fun x hx => by
    rcases List.mem_cons.mp hx with r | r
    · rw [r]; exact va_P_mem hP2 hqm
    · rw [List.mem_singleton.mp r]; exact va_P_mem hP2 (List.mem_append_left _ hom))
  have hAq : A q := (va_D_right hD2).2 0 _ rfl
  have hAf : A (ad 50 f) := hDW.2 _ (mk_50 hf1)
  have hDc : va_D A [(q, (.inr (2, [.null, .int 0, .int 0, .int 0, .int 0, .null, .null, .null, .int 0]) : va_E)), (ad 50 f, (.inr (1, fl ad σ 50 f) : va_E))] := by
    refine ⟨fun i j a b hi hj e => ?_, fun k x hk => ?_⟩
    · have hi2 : i < 2 := (List.getElem?_eq_some_iff.mp hi).1
      have hj2 : j < 2 := (List.getElem?_eq_some_iff.mp hj).1
      rcases (show i = 0 ∨ i = 1 by omega) with rfl | rfl <;> rcases (show j = 0 ∨ j = 1 by omega) with rfl | rfl
      · rfl
      · cases hi; cases hj; exact absurd e.symm hne
      · cases hi; cases hj; exact absurd e hne
      · rfl
    · rcases List.mem_cons.mp (List.mem_of_getElem? hk) with r | r
      · rw [r]; exact hAq
      · rw [List.mem_singleton.mp r]; exact hAf
  have hFc : ∀ a, va_A [(q, (.inr (2, [.null, .int 0, .int 0, .int 0, .int 0, .null, .null, .null, .int 0]) : va_E)), (ad 50 f, (.inr (1, fl ad σ 50 f) : va_E))] H.size a → A a := by
    rintro a (⟨k, e, h⟩ | h)
    · exact hDc.2 k (a, e) h
    · exact hA a (Nat.le_trans hS.1 h)
  refine lv_dup hx hb dX9_handler_48 rfl ?_
  refine lv_aload hx hb dX9_handler_49 (lv_at hl 0 rfl) ?_
  refine lv_aload_n hx hb dX9_handler_51 rfl (lv_at hl 1 rfl) ?_
  refine x_get (k := 450) (n := 0) hx hb hts i_X9 hown hK hP (mk_450 h01) rfl rfl 10 (by decide) rfl k_67 (v := .int (nI z.2)) (by rw [← hcnt]; rfl) dX9_handler_52 ?_
  refine lv_iload_n hx hb dX9_handler_55 rfl (lv_at hl 3 rfl) ?_
  refine lv_iload_n hx hb dX9_handler_56 rfl (lv_at hl 4 rfl) ?_
  refine lv_iload hx hb dX9_handler_57 (lv_at hl 5 rfl) ?_
  refine va_callv (va_runI (As := [.ref (ad 50 f), .int (nI z.2), .int x2, .int x3, .int x4]) (rest := [.ref q, .int (nI z.2), .ref (ad 454 0)]) ⟨hx, hb, hml, hown, hts⟩ (t_X2_init l G ca q H.size (ad 50 f) (fl ad σ 50 f) (gI σ 50 f 2) p1 (nI z.2) x2 x3 x4 (fl_at (k := 50) (by decide)) (by rw [hpv]; rcases hp1 with rfl | rfl <;> decide) (by rw [hpv]; exact nI_clamp (by omega)) (by omega) hB4) (cwI 5 hts (gw_0 kc_X2_init) rfl rfl rfl (hts _ kz_X2) (hts _ km_X9_133) (hts _ ki_X2_init) rfl h9_X2_init ⟨Nat.le_of_ble_eq_true rfl, Nat.le_of_ble_eq_true rfl⟩) (x_inPre hz hK hPc hDc) rfl rfl hl.1 rfl (lv_room (Nat.le_of_ble_eq_true rfl)) dX9_handler_59 ⟨Nat.le_of_ble_eq_true rfl, Nat.le_of_ble_eq_true rfl⟩) hS (fun q _ h => hFc q h) hFc (fun u t H1 locs ht hvm hw hB hz1' hk1 hS => ?_)
  obtain ⟨hP1, hK1, hD1⟩ := hB
  rw [ht] at hP1
  obtain ⟨hP, hD⟩ := va_join3 hP2 hD2 hom hk1 hFc hP1 hD1
  obtain ⟨hP, hDW⟩ := growH hz1 hz4 hP hD hDW
  have e1 : adN ad qLH 100 z.2 (naH q u) 100 z.2 = q := adN_n (by decide)
  have e2 : adN ad qLH 100 z.2 (naH q u) 454 0 = ad 454 0 := adN_o (fun h => absurd h (by decide))
  have e3 : adN ad qLH 100 z.2 (naH q u) 450 0 = ad 450 0 := adN_o (fun h => absurd h (by decide))
  generalize hadd : adN ad qLH 100 z.2 (naH q u) = ad' at hP hDW e1 e2 e3
  have c9 : gI (nH1 (shR 100 z.2 σ) z.2 f p1 x2 x3 x4) 450 0 10 = nI z.2 := by
    rw [← hcnt]
    simp [gI, nH1, shR]
  refine W.eq (g2 := F0 m 62 ls [.ref (ad' 100 z.2), .int (nI z.2), .ref (ad' 454 0)]) (by rw [e1, e2]) ?_
  refine x_aast5 (k := 454) (n := 0) (t := 100) (x := z.2) hx hb hK hDW hP hS (mk_454 h01) rfl rfl rfl rfl (mk_100 (by show z.2 < z.2 + 1; omega)) (by show ib (nI z.2) 40 = true; rw [ib_nI (by omega)]; exact decide_eq_true hz4) dX9_handler_62 (fun H locs hP hS => ?_)
  rw [ix_nI (by omega)] at hP
  have hl : lv_has ls 6 [(0, .ref (ad' 450 0))] := by rw [e3]; exact lv_sub hl [1] rfl
  refine lv_aload_n hx hb dX9_handler_63 rfl (lv_at hl 0 rfl) ?_
  refine lv_dup hx hb dX9_handler_64 rfl ?_
  refine x_get (k := 450) (n := 0) hx hb hts i_X9 hown hK hP (mk_450 h01) rfl rfl 10 (by decide) rfl k_67 (v := .int (nI z.2)) (by rw [← c9]; rfl) dX9_handler_65 ?_
  refine lv_iconst (v := (1 : Int32)) hx hb dX9_handler_68 rfl ?_
  refine lv_iadd hx hb dX9_handler_69 ?_
  refine x_nmI (y := nI (z.2 + 1)) (nI_succ z.2) ?_
  refine x_putI (k := 450) (n := 0) hx hb hts i_X9 tyX9 tyX9_ok nmX9 hown hK hDW hP hS (mk_450 h01) rfl rfl 10 (by decide) rfl k_67 rfl rfl rfl rfl dX9_handler_70 (fun H locs hP hS => ?_)
  rw [nH_eq] at hP
  refine lv_aload_n hx hb dX9_handler_73 rfl (lv_at hl 0 rfl) ?_
  refine x_get (k := 450) (n := 0) hx hb hts i_X9 hown hK hP (mk_450 h01) rfl rfl 10 (by decide) rfl k_67 (v := .int (nI (z.2 + 1))) (by rw [← nH_eq]; show Value.int (gI (sI _ 450 0 10 _) 450 0 10) = _; rw [gI_sI_same]; simp [upd]) dX9_handler_74 ?_
  refine lv_iconst (v := (1 : Int32)) hx hb dX9_handler_77 rfl ?_
  refine lv_isub hx hb dX9_handler_78 ?_
  refine x_nmI (y := nI z.2) (nI_pred z.2).symm ?_
  exact W.iret hx hb hr (fun t ht hW => ⟨⟨nI z.2, (ad', (z.1, z.2 + 1), nH (shR 100 z.2 σ) z.2 f p1 x2 x3 x4), rfl, hres.symm, by rw [ht]; exact hP, va_K.moved hW.alike hK, hDW, e3⟩, hS.F ht⟩) hS.2.2 dX9_handler_79

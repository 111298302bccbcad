theorem h9_X9_covered : yX9_covered.cls = RX9 ∧ yX9_covered.cls ≠ "java/lang/invoke/MethodHandle" ∧ yX9_covered.cls ≠ "java/lang/invoke/VarHandle" ∧ (parseMethodDescriptor yX9_covered.desc).map (fun d => d.parameters.length) = some 1 := by decide +kernel
set_option maxRecDepth 100000 in
set_option maxHeartbeats 4000000 in
theorem t_X9_covered (l : Launch) (G : va_G) (ad : Nat → Nat → Nat) (ca : Nat → ClassId) (A : Nat → Prop) (z : Nat × Nat)  (x1 : Int32) (hD : DW ad (LC z) A)  (σ : PS) (res : Int32) (σz : PS) (hf : X9_covered z  x1 σ = some (res, σz)) : Met l yX9_covered wsX9_covered ({ frames := 6, cells := 0, slots := 0, locals := 137 }) (ctP G ad ca (LC z) σ ZC [.ref (ad 450 0), .int x1]) (va_Qi (fun r' u => r' = res ∧ u = σz) (ctB G ad ca (LC z)) A) 0 0 A := by
  refine Met.ofW (cc := cX9_covered) (maxL := 3) (ret := (some .int)) (by decide) rfl ?_
  intro p e s m args below meth c s₁ B hml hv
  obtain ⟨rfl, hP, hK, hz⟩ := hv
  have hx := B.exec
  have hb := B.bytes
  have hr := B.returns
  have hts : ∀ w ∈ WW, w.before _ s = true := fun w h => atoms_spec (ws := wsX9_covered) B.pre w (List.mem_cons_of_mem _ h)
  have hown : s.vm.findClass RX9 = some m.cls := findClass_of_methodNamed B.named
  have hlocks := B.notSynchronized
  have hS : va_S A s.heap s.heap [] := va_S.rf
  have k_59 := hts _ kf_X9_59
  have hl := lv_entry ([.ref (ad 450 0), .int x1]) (n := 3) (Nat.le_of_ble_eq_true rfl)
  rw [lg_entry_eq]
  generalize (lg_sl ([.ref (ad 450 0), .int x1]) ++ List.replicate (3 - (lg_sl ([.ref (ad 450 0), .int x1])).length) Slot.unset).toArray = ls at hl ⊢
  have hl : lv_has ls 3 [(0, .ref (ad 450 0)), (1, .int x1)] := hl
  unfold X9_covered at hf
  refine lv_aload_n hx hb dX9_covered_0 rfl (lv_at hl 0 rfl) ?_
  refine lv_iload_n hx hb dX9_covered_1 rfl (lv_at hl 1 rfl) ?_
  obtain ⟨r1, hc1, hf⟩ := bd_e hf
  refine x_cq (va_runV (As := [.int x1]) (rest := []) ⟨hx, hb, hml, hown, hts⟩ (t_X9_functionAt l G ad ca A z x1 hD  σ r1 hc1) (cwV 1 hts gr_X9_129 rfl rfl rfl h9_X9_functionAt ⟨Nat.le_of_ble_eq_true rfl, Nat.le_of_ble_eq_true rfl⟩) (x_prV zkC hz hK hP (mk_450 h01) rfl rfl) rfl rfl hl.1 rfl (lv_room (Nat.le_of_ble_eq_true rfl)) dX9_covered_2 ⟨Nat.le_of_ble_eq_true rfl, Nat.le_of_ble_eq_true rfl⟩) hS (fun H locs hP hS => ?_)
  refine x_astore_nQ (lv' := [(2, va_rf (Option.map (ad 50) r1)), (0, .ref (ad 450 0)), (1, .int x1)]) hx hb dX9_covered_5 rfl hl (by decide) rfl (fun ls hl => ?_)
  refine x_aload_nQ hx hb dX9_covered_6 rfl (lv_at hl 0 rfl) ?_
  cases r1 with
  | none =>
    have hf := oc_n hf
    refine lv_ifnonnullN hx hb dX9_covered_7 ?_
    refine lv_bipush (v := (-2 : Int32)) hx hb dX9_covered_10 rfl ?_
    have hf := Option.some.inj hf
    exact x_iret hx hb hr hlocks hK hP hS (congrArg Prod.fst hf) (congrArg Prod.snd hf) dX9_covered_12
  | some q2 =>
    obtain ⟨h_q2, hf⟩ := oc_s hf
    refine lv_ifnonnull (tgt := 13) hx hb dX9_covered_7 rfl ?_
    refine lv_aload_n hx hb dX9_covered_13 rfl (lv_at hl 1 rfl) ?_
    refine x_get (k := 450) (n := 0) hx hb hts i_X9 hown hK hP (mk_450 h01) rfl rfl 8 (by decide) rfl k_59 (v := .ref (ad 250 0)) rfl dX9_covered_14 ?_
    refine lv_aload_n hx hb dX9_covered_17 rfl (lv_at hl 0 rfl) ?_
    obtain ⟨r3, σ3, hc3, hf⟩ := bp_e hf
    refine x_ci (va_runV (As := [.ref (ad 50 q2)]) (rest := []) ⟨hx, hb, hml, hown, hts⟩ (t_X5_findHole l G ad ca A z q2 hD h_q2 σ r3 σ3 hc3) (cwV 1 hts gr_X9_265 rfl rfl rfl h9_X5_findHole ⟨Nat.le_of_ble_eq_true rfl, Nat.le_of_ble_eq_true rfl⟩) (x_prV zkC hz hK hP (mk_250 h01) rfl rfl) rfl rfl hl.1 rfl (lv_room (Nat.le_of_ble_eq_true rfl)) dX9_covered_18 ⟨Nat.le_of_ble_eq_true rfl, Nat.le_of_ble_eq_true rfl⟩) hS (fun H locs hP hS => ?_)
    refine lv_if_eq (tgt := 28) hx hb dX9_covered_21 rfl (fun hc => ?_) (fun hc => ?_)
    · have hf := b_p hf hc
      refine lv_iconst (v := (1 : Int32)) hx hb dX9_covered_28 rfl ?_
      have hf := Option.some.inj hf
      exact x_iret hx hb hr hlocks hK hP hS (congrArg Prod.fst hf) (congrArg Prod.snd hf) dX9_covered_29
    · have hf := b_n hf hc
      refine lv_iconst (v := (0 : Int32)) hx hb dX9_covered_24 rfl ?_
      refine lv_goto (tgt := 29) hx hb dX9_covered_25 rfl ?_
      have hf := Option.some.inj hf
      exact x_iret hx hb hr hlocks hK hP hS (congrArg Prod.fst hf) (congrArg Prod.snd hf) dX9_covered_29
theorem h9_X9_hole : yX9_hole.cls = RX9 ∧ yX9_hole.cls ≠ "java/lang/invoke/MethodHandle" ∧ yX9_hole.cls ≠ "java/lang/invoke/VarHandle" ∧ (parseMethodDescriptor yX9_hole.desc).map (fun d => d.parameters.length) = some 2 := by decide +kernel
set_option maxRecDepth 100000 in
set_option maxHeartbeats 4000000 in
theorem t_X9_hole (l : Launch) (G : va_G) (ad : Nat → Nat → Nat) (ca : Nat → ClassId) (A : Nat → Prop) (z : Nat × Nat)  (x1 : Int32) (x2 : Int32) (hD : DW ad (LC z) A)  (σ : PS) (res : Int64) (σz : PS) (hf : X9_hole z  x1 x2 σ = some (res, σz)) : Met l yX9_hole wsX9_hole ({ frames := 6, cells := 0, slots := 0, locals := 137 }) (ctP G ad ca (LC z) σ ZC [.ref (ad 450 0), .int x1, .int x2]) (va_Ql (fun r' u => r' = res ∧ u = σz) (ctB G ad ca (LC z)) A) 0 0 A := by
  refine Met.ofW (cc := cX9_hole) (maxL := 4) (ret := (some .long)) (by decide) rfl ?_
  intro p e s m args below meth c s₁ B hml hv
  obtain ⟨rfl, hP, hK, hz⟩ := hv
  have hx := B.exec
  have hb := B.bytes
  have hr := B.returns
  have hts : ∀ w ∈ WW, w.before _ s = true := fun w h => atoms_spec (ws := wsX9_hole) B.pre w (List.mem_cons_of_mem _ h)
  have hown : s.vm.findClass RX9 = some m.cls := findClass_of_methodNamed B.named
  have hlocks := B.notSynchronized
  have hS : va_S A s.heap s.heap [] := va_S.rf
  have k_268 := hts _ kk_X9_268
  have k_59 := hts _ kf_X9_59
  have hl := lv_entry ([.ref (ad 450 0), .int x1, .int x2]) (n := 4) (Nat.le_of_ble_eq_true rfl)
  rw [lg_entry_eq]
  generalize (lg_sl ([.ref (ad 450 0), .int x1, .int x2]) ++ List.replicate (4 - (lg_sl ([.ref (ad 450 0), .int x1, .int x2])).length) Slot.unset).toArray = ls at hl ⊢
  have hl : lv_has ls 4 [(0, .ref (ad 450 0)), (1, .int x1), (2, .int x2)] := hl
  unfold X9_hole at hf
  refine lv_aload_n hx hb dX9_hole_0 rfl (lv_at hl 0 rfl) ?_
  refine lv_iload_n hx hb dX9_hole_1 rfl (lv_at hl 1 rfl) ?_
  obtain ⟨r1, hc1, hf⟩ := bd_e hf
  refine x_cq (va_runV (As := [.int x1]) (rest := []) ⟨hx, hb, hml, hown, hts⟩ (t_X9_functionAt l G ad ca A z x1 hD  σ r1 hc1) (cwV 1 hts gr_X9_129 rfl rfl rfl h9_X9_functionAt ⟨Nat.le_of_ble_eq_true rfl, Nat.le_of_ble_eq_true rfl⟩) (x_prV zkC hz hK hP (mk_450 h01) rfl rfl) rfl rfl hl.1 rfl (lv_room (Nat.le_of_ble_eq_true rfl)) dX9_hole_2 ⟨Nat.le_of_ble_eq_true rfl, Nat.le_of_ble_eq_true rfl⟩) hS (fun H locs hP hS => ?_)
  refine x_astore_nQ (lv' := [(3, va_rf (Option.map (ad 50) r1)), (0, .ref (ad 450 0)), (1, .int x1), (2, .int x2)]) hx hb dX9_hole_5 rfl hl (by decide) rfl (fun ls hl => ?_)
  refine x_aload_nQ hx hb dX9_hole_6 rfl (lv_at hl 0 rfl) ?_
  cases r1 with
  | none =>
    have hf := oc_n hf
    refine lv_ifnullN (tgt := 30) hx hb dX9_hole_7 rfl ?_
    refine lv_ldc2 hx hb hown k_268 dX9_hole_30 ?_
    have hf := Option.some.inj hf
    exact x_lret hx hb hr hlocks hK hP hS (congrArg Prod.fst hf) (congrArg Prod.snd hf) dX9_hole_33
  | some q2 =>
    obtain ⟨h_q2, hf⟩ := oc_s hf
    refine lv_ifnull hx hb dX9_hole_7 ?_
    refine lv_iload_n hx hb dX9_hole_10 rfl (lv_at hl 3 rfl) ?_
    refine lv_if_lt (tgt := 30) hx hb dX9_hole_11 rfl (fun hc => ?_) (fun hc => ?_)
    · have hf := b_p hf hc
      refine lv_ldc2 hx hb hown k_268 dX9_hole_30 ?_
      have hf := Option.some.inj hf
      exact x_lret hx hb hr hlocks hK hP hS (congrArg Prod.fst hf) (congrArg Prod.snd hf) dX9_hole_33
    · have hf := b_n hf hc
      refine lv_iload_n hx hb dX9_hole_14 rfl (lv_at hl 3 rfl) ?_
      refine lv_iconst (v := (3 : Int32)) hx hb dX9_hole_15 rfl ?_
      refine lv_icmp_gt (tgt := 30) hx hb dX9_hole_16 rfl (fun hc => ?_) (fun hc => ?_)
      · have hf := b_p hf hc
        refine lv_ldc2 hx hb hown k_268 dX9_hole_30 ?_
        have hf := Option.some.inj hf
        exact x_lret hx hb hr hlocks hK hP hS (congrArg Prod.fst hf) (congrArg Prod.snd hf) dX9_hole_33
      · have hf := b_n hf hc
        refine lv_aload_n hx hb dX9_hole_19 rfl (lv_at hl 1 rfl) ?_
        refine x_get (k := 450) (n := 0) hx hb hts i_X9 hown hK hP (mk_450 h01) rfl rfl 8 (by decide) rfl k_59 (v := .ref (ad 250 0)) rfl dX9_hole_20 ?_
        refine lv_aload_n hx hb dX9_hole_23 rfl (lv_at hl 0 rfl) ?_
        obtain ⟨r3, σ3, hc3, hf⟩ := bp_e hf
        refine x_ci (va_runV (As := [.ref (ad 50 q2)]) (rest := []) ⟨hx, hb, hml, hown, hts⟩ (t_X5_findHole l G ad ca A z q2 hD h_q2 σ r3 σ3 hc3) (cwV 1 hts gr_X9_265 rfl rfl rfl h9_X5_findHole ⟨Nat.le_of_ble_eq_true rfl, Nat.le_of_ble_eq_true rfl⟩) (x_prV zkC hz hK hP (mk_250 h01) rfl rfl) rfl rfl hl.1 rfl (lv_room (Nat.le_of_ble_eq_true rfl)) dX9_hole_24 ⟨Nat.le_of_ble_eq_true rfl, Nat.le_of_ble_eq_true rfl⟩) hS (fun H locs hP hS => ?_)
        refine lv_if_ne (tgt := 34) hx hb dX9_hole_27 rfl (fun hc => ?_) (fun hc => ?_)
        · have hf := b_n hf hc
          refine lv_aload_n hx hb dX9_hole_34 rfl (lv_at hl 1 rfl) ?_
          refine x_get (k := 450) (n := 0) hx hb hts i_X9 hown hK hP (mk_450 h01) rfl rfl 8 (by decide) rfl k_59 (v := .ref (ad 250 0)) rfl dX9_hole_35 ?_
          refine lv_iload_n hx hb dX9_hole_38 rfl (lv_at hl 3 rfl) ?_
          obtain ⟨r4, hc4, hf⟩ := bd_e hf
          refine x_ci (va_runV (As := [.int x2]) (rest := []) ⟨hx, hb, hml, hown, hts⟩ (t_X5_partOfTuple l G ad ca A z x2 hD  σ3 r4 hc4) (cwV 1 hts gr_X9_270 rfl rfl rfl h9_X5_partOfTuple ⟨Nat.le_of_ble_eq_true rfl, Nat.le_of_ble_eq_true rfl⟩) (x_prV zkC hz hK hP (mk_250 h01) rfl rfl) rfl rfl hl.1 rfl (lv_room (Nat.le_of_ble_eq_true rfl)) dX9_hole_39 ⟨Nat.le_of_ble_eq_true rfl, Nat.le_of_ble_eq_true rfl⟩) hS (fun H locs hP hS => ?_)
          refine lv_i2l hx hb dX9_hole_42 rfl ?_
          have hf := Option.some.inj hf
          exact x_lret hx hb hr hlocks hK hP hS (congrArg Prod.fst hf) (congrArg Prod.snd hf) dX9_hole_43
        · have hf := b_p hf hc
          refine lv_ldc2 hx hb hown k_268 dX9_hole_30 ?_
          have hf := Option.some.inj hf
          exact x_lret hx hb hr hlocks hK hP hS (congrArg Prod.fst hf) (congrArg Prod.snd hf) dX9_hole_33
theorem h9_X9_doubt : yX9_doubt.cls = RX9 ∧ yX9_doubt.cls ≠ "java/lang/invoke/MethodHandle" ∧ yX9_doubt.cls ≠ "java/lang/invoke/VarHandle" ∧ (parseMethodDescriptor yX9_doubt.desc).map (fun d => d.parameters.length) = some 3 := by decide +kernel
set_option maxRecDepth 100000 in
set_option maxHeartbeats 4000000 in
theorem t_X9_doubt (l : Launch) (G : va_G) (ad : Nat → Nat → Nat) (ca : Nat → ClassId) (A : Nat → Prop) (z : Nat × Nat)  (x1 : Int32) (x2 : Int32) (x3 : Int32) (hD : DW ad (LC z) A)  (σ : PS) (res : Int64) (σz : PS) (hf : X9_doubt z  x1 x2 x3 σ = some (res, σz)) : Met l yX9_doubt wsX9_doubt ({ frames := 6, cells := 0, slots := 0, locals := 139 }) (ctP G ad ca (LC z) σ ZC [.ref (ad 450 0), .int x1, .int x2, .int x3]) (va_Ql (fun r' u => r' = res ∧ u = σz) (ctB G ad ca (LC z)) A) 0 0 A := by
  refine Met.ofW (cc := cX9_doubt) (maxL := 5) (ret := (some .long)) (by decide) rfl ?_
  intro p e s m args below meth c s₁ B hml hv
  obtain ⟨rfl, hP, hK, hz⟩ := hv
  have hx := B.exec
  have hb := B.bytes
  have hr := B.returns
  have hts : ∀ w ∈ WW, w.before _ s = true := fun w h => atoms_spec (ws := wsX9_doubt) B.pre w (List.mem_cons_of_mem _ h)
  have hown : s.vm.findClass RX9 = some m.cls := findClass_of_methodNamed B.named
  have hlocks := B.notSynchronized
  have hS : va_S A s.heap s.heap [] := va_S.rf
  have k_268 := hts _ kk_X9_268
  have k_59 := hts _ kf_X9_59
  have k_277 := hts _ kf_X9_277
  have k_280 := hts _ kf_X9_280
  have hl := lv_entry ([.ref (ad 450 0), .int x1, .int x2, .int x3]) (n := 5) (Nat.le_of_ble_eq_true rfl)
  rw [lg_entry_eq]
  generalize (lg_sl ([.ref (ad 450 0), .int x1, .int x2, .int x3]) ++ List.replicate (5 - (lg_sl ([.ref (ad 450 0), .int x1, .int x2, .int x3])).length) Slot.unset).toArray = ls at hl ⊢
  have hl : lv_has ls 5 [(0, .ref (ad 450 0)), (1, .int x1), (2, .int x2), (3, .int x3)] := hl
  unfold X9_doubt at hf
  refine lv_aload_n hx hb dX9_doubt_0 rfl (lv_at hl 0 rfl) ?_
  refine lv_iload_n hx hb dX9_doubt_1 rfl (lv_at hl 1 rfl) ?_
  obtain ⟨r1, hc1, hf⟩ := bd_e hf
  refine x_cq (va_runV (As := [.int x1]) (rest := []) ⟨hx, hb, hml, hown, hts⟩ (t_X9_functionAt l G ad ca A z x1 hD  σ r1 hc1) (cwV 1 hts gr_X9_129 rfl rfl rfl h9_X9_functionAt ⟨Nat.le_of_ble_eq_true rfl, Nat.le_of_ble_eq_true rfl⟩) (x_prV zkC hz hK hP (mk_450 h01) rfl rfl) rfl rfl hl.1 rfl (lv_room (Nat.le_of_ble_eq_true rfl)) dX9_doubt_2 ⟨Nat.le_of_ble_eq_true rfl, Nat.le_of_ble_eq_true rfl⟩) hS (fun H locs hP hS => ?_)
  refine x_astoreQ (lv' := [(4, va_rf (Option.map (ad 50) r1)), (0, .ref (ad 450 0)), (1, .int x1), (2, .int x2), (3, .int x3)]) hx hb dX9_doubt_5 hl (by decide) rfl (fun ls hl => ?_)
  refine x_aloadQ hx hb dX9_doubt_7 (lv_at hl 0 rfl) ?_
  cases r1 with
  | none =>
    have hf := oc_n hf
    refine lv_ifnullN (tgt := 38) hx hb dX9_doubt_9 rfl ?_
    refine lv_ldc2 hx hb hown k_268 dX9_doubt_38 ?_
    have hf := Option.some.inj hf
    exact x_lret hx hb hr hlocks hK hP hS (congrArg Prod.fst hf) (congrArg Prod.snd hf) dX9_doubt_41
  | some q2 =>
    obtain ⟨h_q2, hf⟩ := oc_s hf
    refine lv_ifnull hx hb dX9_doubt_9 ?_
    refine lv_iload_n hx hb dX9_doubt_12 rfl (lv_at hl 3 rfl) ?_
    refine lv_if_lt (tgt := 38) hx hb dX9_doubt_13 rfl (fun hc => ?_) (fun hc => ?_)
    · have hf := b_p hf hc
      refine lv_ldc2 hx hb hown k_268 dX9_doubt_38 ?_
      have hf := Option.some.inj hf
      exact x_lret hx hb hr hlocks hK hP hS (congrArg Prod.fst hf) (congrArg Prod.snd hf) dX9_doubt_41
    · have hf := b_n hf hc
      refine lv_iload_n hx hb dX9_doubt_16 rfl (lv_at hl 4 rfl) ?_
      refine lv_if_lt (tgt := 38) hx hb dX9_doubt_17 rfl (fun hc => ?_) (fun hc => ?_)
      · have hf := b_p hf hc
        refine lv_ldc2 hx hb hown k_268 dX9_doubt_38 ?_
        have hf := Option.some.inj hf
        exact x_lret hx hb hr hlocks hK hP hS (congrArg Prod.fst hf) (congrArg Prod.snd hf) dX9_doubt_41
      · have hf := b_n hf hc
        refine lv_iload_n hx hb dX9_doubt_20 rfl (lv_at hl 4 rfl) ?_
        refine lv_iconst (v := (5 : Int32)) hx hb dX9_doubt_21 rfl ?_
        refine lv_icmp_gt (tgt := 38) hx hb dX9_doubt_22 rfl (fun hc => ?_) (fun hc => ?_)
        · have hf := b_p hf hc
          refine lv_ldc2 hx hb hown k_268 dX9_doubt_38 ?_
          have hf := Option.some.inj hf
          exact x_lret hx hb hr hlocks hK hP hS (congrArg Prod.fst hf) (congrArg Prod.snd hf) dX9_doubt_41
        · have hf := b_n hf hc
          refine lv_aload_n hx hb dX9_doubt_25 rfl (lv_at hl 1 rfl) ?_
          refine x_get (k := 450) (n := 0) hx hb hts i_X9 hown hK hP (mk_450 h01) rfl rfl 8 (by decide) rfl k_59 (v := .ref (ad 250 0)) rfl dX9_doubt_26 ?_
          refine lv_aload hx hb dX9_doubt_29 (lv_at hl 0 rfl) ?_
          refine lv_iload_n hx hb dX9_doubt_31 rfl (lv_at hl 3 rfl) ?_
          obtain ⟨r3, σ3, hc3, hf⟩ := bp_e hf
          refine x_ci (va_runV (As := [.ref (ad 50 q2), .int x2]) (rest := []) ⟨hx, hb, hml, hown, hts⟩ (t_X5_findDoubt l G ad ca A z q2 x2 hD h_q2 σ r3 σ3 hc3) (cwV 2 hts gr_X9_273 rfl rfl rfl h9_X5_findDoubt ⟨Nat.le_of_ble_eq_true rfl, Nat.le_of_ble_eq_true rfl⟩) (x_prV zkC hz hK hP (mk_250 h01) rfl rfl) rfl rfl hl.1 rfl (lv_room (Nat.le_of_ble_eq_true rfl)) dX9_doubt_32 ⟨Nat.le_of_ble_eq_true rfl, Nat.le_of_ble_eq_true rfl⟩) hS (fun H locs hP hS => ?_)
          refine lv_if_ne (tgt := 42) hx hb dX9_doubt_35 rfl (fun hc => ?_) (fun hc => ?_)
          · have hf := b_n hf hc
            refine lv_iload_n hx hb dX9_doubt_42 rfl (lv_at hl 4 rfl) ?_
            by_cases hc0 : x3 = (0 : Int32)
            · have hf := b_p hf hc0
              refine lv_lookup (off := 25) (tgt := 68) hx hb dX9_doubt_43 rfl (by rw [hc0]; rfl) rfl ?_
              refine lv_aload hx hb dX9_doubt_68 (lv_at hl 0 rfl) ?_
              refine lv_aload_n hx hb dX9_doubt_70 rfl (lv_at hl 1 rfl) ?_
              refine x_get (k := 450) (n := 0) hx hb hts i_X9 hown hK hP (mk_450 h01) rfl rfl 8 (by decide) rfl k_59 (v := .ref (ad 250 0)) rfl dX9_doubt_71 ?_
              refine x_get (k := 250) (n := 0) hx hb hts i_X5 hown hK hP (mk_250 h01) rfl rfl 4 (by decide) rfl k_277 (v := .int (gI σ3 250 0 4)) rfl dX9_doubt_74 ?_
              obtain ⟨r4, hc4, hf⟩ := bd_e hf
              refine x_ci (va_runV (As := [.int (gI σ3 250 0 4)]) (rest := []) ⟨hx, hb, hml, hown, hts⟩ (t_X1_numberAt l G ad ca A z q2 (gI σ3 250 0 4) hD h_q2 σ3 r4 hc4) (cwV 1 hts gr_X9_198 rfl rfl rfl h9_X1_numberAt ⟨Nat.le_of_ble_eq_true rfl, Nat.le_of_ble_eq_true rfl⟩) (x_prV zkC hz hK hP (mk_50 h_q2) rfl rfl) rfl rfl hl.1 rfl (lv_room (Nat.le_of_ble_eq_true rfl)) dX9_doubt_77 ⟨Nat.le_of_ble_eq_true rfl, Nat.le_of_ble_eq_true rfl⟩) hS (fun H locs hP hS => ?_)
              refine lv_i2l hx hb dX9_doubt_80 rfl ?_
              have hf := Option.some.inj hf
              exact x_lret hx hb hr hlocks hK hP hS (congrArg Prod.fst hf) (congrArg Prod.snd hf) dX9_doubt_81
            have hf := b_n hf hc0
            by_cases hc1 : x3 = (1 : Int32)
            · have hf := b_p hf hc1
              refine lv_lookup (off := 39) (tgt := 82) hx hb dX9_doubt_43 rfl (by rw [hc1]; rfl) rfl ?_
              refine lv_aload hx hb dX9_doubt_82 (lv_at hl 0 rfl) ?_
              refine lv_aload_n hx hb dX9_doubt_84 rfl (lv_at hl 1 rfl) ?_
              refine x_get (k := 450) (n := 0) hx hb hts i_X9 hown hK hP (mk_450 h01) rfl rfl 8 (by decide) rfl k_59 (v := .ref (ad 250 0)) rfl dX9_doubt_85 ?_
              refine x_get (k := 250) (n := 0) hx hb hts i_X5 hown hK hP (mk_250 h01) rfl rfl 5 (by decide) rfl k_280 (v := .int (gI σ3 250 0 5)) rfl dX9_doubt_88 ?_
              obtain ⟨r5, hc5, hf⟩ := bd_e hf
              refine x_ci (va_runV (As := [.int (gI σ3 250 0 5)]) (rest := []) ⟨hx, hb, hml, hown, hts⟩ (t_X1_numberAt l G ad ca A z q2 (gI σ3 250 0 5) hD h_q2 σ3 r5 hc5) (cwV 1 hts gr_X9_198 rfl rfl rfl h9_X1_numberAt ⟨Nat.le_of_ble_eq_true rfl, Nat.le_of_ble_eq_true rfl⟩) (x_prV zkC hz hK hP (mk_50 h_q2) rfl rfl) rfl rfl hl.1 rfl (lv_room (Nat.le_of_ble_eq_true rfl)) dX9_doubt_91 ⟨Nat.le_of_ble_eq_true rfl, Nat.le_of_ble_eq_true rfl⟩) hS (fun H locs hP hS => ?_)
              refine lv_i2l hx hb dX9_doubt_94 rfl ?_
              have hf := Option.some.inj hf
              exact x_lret hx hb hr hlocks hK hP hS (congrArg Prod.fst hf) (congrArg Prod.snd hf) dX9_doubt_95
            have hf := b_n hf hc1
            refine lv_lookup (off := 53) (tgt := 96) hx hb dX9_doubt_43 rfl (by show Op.lookupswitch.offset [(0, 25), (1, 39)] 53 _ = _; rw [lv_osw (a := 0) hc0 rfl, lv_osw (a := 1) hc1 rfl]; rfl) rfl ?_
            refine lv_aload_n hx hb dX9_doubt_96 rfl (lv_at hl 1 rfl) ?_
            refine x_get (k := 450) (n := 0) hx hb hts i_X9 hown hK hP (mk_450 h01) rfl rfl 8 (by decide) rfl k_59 (v := .ref (ad 250 0)) rfl dX9_doubt_97 ?_
            refine lv_iload_n hx hb dX9_doubt_100 rfl (lv_at hl 4 rfl) ?_
            refine lv_iconst (v := (2 : Int32)) hx hb dX9_doubt_101 rfl ?_
            refine lv_isub hx hb dX9_doubt_102 ?_
            obtain ⟨r6, hc6, hf⟩ := bd_e hf
            refine x_ci (va_runV (As := [.int (x3 - (2 : Int32))]) (rest := []) ⟨hx, hb, hml, hown, hts⟩ (t_X5_partOfTuple l G ad ca A z (x3 - (2 : Int32)) hD  σ3 r6 hc6) (cwV 1 hts gr_X9_270 rfl rfl rfl h9_X5_partOfTuple ⟨Nat.le_of_ble_eq_true rfl, Nat.le_of_ble_eq_true rfl⟩) (x_prV zkC hz hK hP (mk_250 h01) rfl rfl) rfl rfl hl.1 rfl (lv_room (Nat.le_of_ble_eq_true rfl)) dX9_doubt_103 ⟨Nat.le_of_ble_eq_true rfl, Nat.le_of_ble_eq_true rfl⟩) hS (fun H locs hP hS => ?_)
            refine lv_i2l hx hb dX9_doubt_106 rfl ?_
            have hf := Option.some.inj hf
            exact x_lret hx hb hr hlocks hK hP hS (congrArg Prod.fst hf) (congrArg Prod.snd hf) dX9_doubt_107
          · have hf := b_p hf hc
            refine lv_ldc2 hx hb hown k_268 dX9_doubt_38 ?_
            have hf := Option.some.inj hf
            exact x_lret hx hb hr hlocks hK hP hS (congrArg Prod.fst hf) (congrArg Prod.snd hf) dX9_doubt_41

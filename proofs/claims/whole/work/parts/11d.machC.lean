theorem h9_X9_has : yX9_has.cls = RX9 ∧ yX9_has.cls ≠ "java/lang/invoke/MethodHandle" ∧ yX9_has.cls ≠ "java/lang/invoke/VarHandle" ∧ (parseMethodDescriptor yX9_has.desc).map (fun d => d.parameters.length) = some 2 := by decide +kernel
set_option maxRecDepth 100000 in
set_option maxHeartbeats 4000000 in
theorem t_X9_has (l : Launch) (G : va_G) (ad : Nat → Nat → Nat) (ca : Nat → ClassId) (A : Nat → Prop) (z : Nat × Nat)  (x1 : Int32) (x2 : Int32) (hD : DW ad (LC z) A)  (σ : PS) (res : Int32) (σz : PS) (hf : X9_has z  x1 x2 σ = some (res, σz)) : Met l yX9_has wsX9_has ({ frames := 1, cells := 0, slots := 0, locals := 23 }) (ctP G ad ca (LC z) σ ZC [.ref (ad 450 0), .int x1, .int x2]) (va_Qi (fun r' u => r' = res ∧ u = σz) (ctB G ad ca (LC z)) A) 0 0 A := by
  refine Met.ofW (cc := cX9_has) (maxL := 3) (ret := (some .int)) (by decide) rfl ?_
  intro p e s m args below meth c s₁ B hml hv
  obtain ⟨rfl, hP, hK, hz⟩ := hv
  have hx := B.exec
  have hb := B.bytes
  have hr := B.returns
  have hts : ∀ w ∈ WW, w.before _ s = true := fun w h => atoms_spec (ws := wsX9_has) B.pre w (List.mem_cons_of_mem _ h)
  have hown : s.vm.findClass RX9 = some m.cls := findClass_of_methodNamed B.named
  have hlocks := B.notSynchronized
  have hS : va_S A s.heap s.heap [] := va_S.rf
  have k_12 := hts _ kf_X9_12
  have k_77 := hts _ kf_X9_77
  have hl := lv_entry ([.ref (ad 450 0), .int x1, .int x2]) (n := 3) (Nat.le_of_ble_eq_true rfl)
  rw [lg_entry_eq]
  generalize (lg_sl ([.ref (ad 450 0), .int x1, .int x2]) ++ List.replicate (3 - (lg_sl ([.ref (ad 450 0), .int x1, .int x2])).length) Slot.unset).toArray = ls at hl ⊢
  have hl : lv_has ls 3 [(0, .ref (ad 450 0)), (1, .int x1), (2, .int x2)] := hl
  unfold X9_has at hf
  refine lv_iload_n hx hb dX9_has_0 rfl (lv_at hl 1 rfl) ?_
  obtain ⟨r1, hc1, hf⟩ := bd_e hf
  refine x_ci (va_runS (As := [.int x1]) (rest := []) ⟨hx, hb, hml, hown, hts⟩ (t_X9_isClass l G ad ca A z x1 hD  σ r1 hc1) (va_cwS 1 hts gr_X9_73 rfl rfl rfl h9_X9_isClass ⟨Nat.le_of_ble_eq_true rfl, Nat.le_of_ble_eq_true rfl⟩) (x_prS zkC hz hK hP) rfl rfl hl.1 rfl (lv_room (Nat.le_of_ble_eq_true rfl)) dX9_has_1 ⟨Nat.le_of_ble_eq_true rfl, Nat.le_of_ble_eq_true rfl⟩) hS (fun H locs hP hS => ?_)
  refine lv_if_eq (tgt := 14) hx hb dX9_has_4 rfl (fun hc => ?_) (fun hc => ?_)
  · have hf := b_p hf hc
    refine lv_bipush (v := (-2 : Int32)) hx hb dX9_has_14 rfl ?_
    have hf := Option.some.inj hf
    exact x_iret hx hb hr hlocks hK hP hS (congrArg Prod.fst hf) (congrArg Prod.snd hf) dX9_has_16
  · have hf := b_n hf hc
    refine lv_iload_n hx hb dX9_has_7 rfl (lv_at hl 2 rfl) ?_
    obtain ⟨r2, hc2, hf⟩ := bd_e hf
    refine x_ci (va_runS (As := [.int x2]) (rest := []) ⟨hx, hb, hml, hown, hts⟩ (t_X9_isTrait l G ad ca A z x2 hD  σ r2 hc2) (va_cwS 1 hts gr_X9_84 rfl rfl rfl h9_X9_isTrait ⟨Nat.le_of_ble_eq_true rfl, Nat.le_of_ble_eq_true rfl⟩) (x_prS zkC hz hK hP) rfl rfl hl.1 rfl (lv_room (Nat.le_of_ble_eq_true rfl)) dX9_has_8 ⟨Nat.le_of_ble_eq_true rfl, Nat.le_of_ble_eq_true rfl⟩) hS (fun H locs hP hS => ?_)
    refine lv_if_ne (tgt := 17) hx hb dX9_has_11 rfl (fun hc => ?_) (fun hc => ?_)
    · have hf := b_n hf hc
      refine lv_aload_n hx hb dX9_has_17 rfl (lv_at hl 0 rfl) ?_
      refine x_get (k := 450) (n := 0) hx hb hts i_X9 hown hK hP (mk_450 h01) rfl rfl 0 (by decide) rfl k_12 (v := .ref (ad 400 0)) rfl dX9_has_18 ?_
      refine x_get (k := 400) (n := 0) hx hb hts i_X8 hown hK hP (mk_400 h01) rfl rfl 4 (by decide) rfl k_77 (v := .int (gI σ 400 0 4)) rfl dX9_has_21 ?_
      refine lv_if_eq (tgt := 32) hx hb dX9_has_24 rfl (fun hc => ?_) (fun hc => ?_)
      · have hf := b_p hf hc
        refine lv_aload_n hx hb dX9_has_32 rfl (lv_at hl 0 rfl) ?_
        refine x_get (k := 450) (n := 0) hx hb hts i_X9 hown hK hP (mk_450 h01) rfl rfl 0 (by decide) rfl k_12 (v := .ref (ad 400 0)) rfl dX9_has_33 ?_
        refine lv_iload_n hx hb dX9_has_36 rfl (lv_at hl 1 rfl) ?_
        refine lv_iload_n hx hb dX9_has_37 rfl (lv_at hl 2 rfl) ?_
        obtain ⟨r3, σ3, hc3, hf⟩ := bp_e hf
        refine x_ci (va_runV (As := [.int x1, .int x2]) (rest := []) ⟨hx, hb, hml, hown, hts⟩ (t_X8_addTrait l G ad ca A z x1 x2 hD  σ r3 σ3 hc3) (cwV 2 hts gr_X9_87 rfl rfl rfl h9_X8_addTrait ⟨Nat.le_of_ble_eq_true rfl, Nat.le_of_ble_eq_true rfl⟩) (x_prV zkC hz hK hP (mk_400 h01) rfl rfl) rfl rfl hl.1 rfl (lv_room (Nat.le_of_ble_eq_true rfl)) dX9_has_38 ⟨Nat.le_of_ble_eq_true rfl, Nat.le_of_ble_eq_true rfl⟩) hS (fun H locs hP hS => ?_)
        have hf := Option.some.inj hf
        exact x_iret hx hb hr hlocks hK hP hS (congrArg Prod.fst hf) (congrArg Prod.snd hf) dX9_has_41
      · have hf := b_n hf hc
        refine lv_bipush (v := (-3 : Int32)) hx hb dX9_has_27 rfl ?_
        refine lv_goto (tgt := 41) hx hb dX9_has_29 rfl ?_
        have hf := Option.some.inj hf
        exact x_iret hx hb hr hlocks hK hP hS (congrArg Prod.fst hf) (congrArg Prod.snd hf) dX9_has_41
    · have hf := b_p hf hc
      refine lv_bipush (v := (-2 : Int32)) hx hb dX9_has_14 rfl ?_
      have hf := Option.some.inj hf
      exact x_iret hx hb hr hlocks hK hP hS (congrArg Prod.fst hf) (congrArg Prod.snd hf) dX9_has_16
theorem h9_X9_flag : yX9_flag.cls = RX9 ∧ yX9_flag.cls ≠ "java/lang/invoke/MethodHandle" ∧ yX9_flag.cls ≠ "java/lang/invoke/VarHandle" ∧ (parseMethodDescriptor yX9_flag.desc).map (fun d => d.parameters.length) = some 1 := by decide +kernel
set_option maxRecDepth 100000 in
set_option maxHeartbeats 4000000 in
theorem t_X9_flag (l : Launch) (G : va_G) (ad : Nat → Nat → Nat) (ca : Nat → ClassId) (A : Nat → Prop) (z : Nat × Nat)  (x1 : Int32) (hD : DW ad (LC z) A)  (σ : PS) (res : Int32) (σz : PS) (hf : X9_flag z  x1 σ = some (res, σz)) : Met l yX9_flag wsX9_flag ({ frames := 1, cells := 0, slots := 0, locals := 21 }) (ctP G ad ca (LC z) σ ZC [.ref (ad 450 0), .int x1]) (va_Qi (fun r' u => r' = res ∧ u = σz) (ctB G ad ca (LC z)) A) 0 0 A := by
  refine Met.ofW (cc := cX9_flag) (maxL := 2) (ret := (some .int)) (by decide) rfl ?_
  intro p e s m args below meth c s₁ B hml hv
  obtain ⟨rfl, hP, hK, hz⟩ := hv
  have hx := B.exec
  have hb := B.bytes
  have hr := B.returns
  have hts : ∀ w ∈ WW, w.before _ s = true := fun w h => atoms_spec (ws := wsX9_flag) B.pre w (List.mem_cons_of_mem _ h)
  have hown : s.vm.findClass RX9 = some m.cls := findClass_of_methodNamed B.named
  have hlocks := B.notSynchronized
  have hS : va_S A s.heap s.heap [] := va_S.rf
  have k_12 := hts _ kf_X9_12
  have k_77 := hts _ kf_X9_77
  have k_94 := hts _ kf_X9_94
  have hl := lv_entry ([.ref (ad 450 0), .int x1]) (n := 2) (Nat.le_of_ble_eq_true rfl)
  rw [lg_entry_eq]
  generalize (lg_sl ([.ref (ad 450 0), .int x1]) ++ List.replicate (2 - (lg_sl ([.ref (ad 450 0), .int x1])).length) Slot.unset).toArray = ls at hl ⊢
  have hl : lv_has ls 2 [(0, .ref (ad 450 0)), (1, .int x1)] := hl
  unfold X9_flag at hf
  refine lv_iload_n hx hb dX9_flag_0 rfl (lv_at hl 1 rfl) ?_
  obtain ⟨r1, hc1, hf⟩ := bd_e hf
  refine x_ci (va_runS (As := [.int x1]) (rest := []) ⟨hx, hb, hml, hown, hts⟩ (t_X9_isClass l G ad ca A z x1 hD  σ r1 hc1) (va_cwS 1 hts gr_X9_73 rfl rfl rfl h9_X9_isClass ⟨Nat.le_of_ble_eq_true rfl, Nat.le_of_ble_eq_true rfl⟩) (x_prS zkC hz hK hP) rfl rfl hl.1 rfl (lv_room (Nat.le_of_ble_eq_true rfl)) dX9_flag_1 ⟨Nat.le_of_ble_eq_true rfl, Nat.le_of_ble_eq_true rfl⟩) hS (fun H locs hP hS => ?_)
  refine lv_if_ne (tgt := 10) hx hb dX9_flag_4 rfl (fun hc => ?_) (fun hc => ?_)
  · have hf := b_n hf hc
    refine lv_aload_n hx hb dX9_flag_10 rfl (lv_at hl 0 rfl) ?_
    refine x_get (k := 450) (n := 0) hx hb hts i_X9 hown hK hP (mk_450 h01) rfl rfl 0 (by decide) rfl k_12 (v := .ref (ad 400 0)) rfl dX9_flag_11 ?_
    refine x_get (k := 400) (n := 0) hx hb hts i_X8 hown hK hP (mk_400 h01) rfl rfl 4 (by decide) rfl k_77 (v := .int (gI σ 400 0 4)) rfl dX9_flag_14 ?_
    refine lv_if_eq (tgt := 23) hx hb dX9_flag_17 rfl (fun hc => ?_) (fun hc => ?_)
    · have hf := b_p hf hc
      refine lv_aload_n hx hb dX9_flag_23 rfl (lv_at hl 0 rfl) ?_
      refine x_get (k := 450) (n := 0) hx hb hts i_X9 hown hK hP (mk_450 h01) rfl rfl 0 (by decide) rfl k_12 (v := .ref (ad 400 0)) rfl dX9_flag_24 ?_
      refine lv_iload_n hx hb dX9_flag_27 rfl (lv_at hl 1 rfl) ?_
      obtain ⟨r2, hc2, hf⟩ := bd_e hf
      refine x_ci (va_runV (As := [.int x1]) (rest := []) ⟨hx, hb, hml, hown, hts⟩ (t_X8_isAbstract l G ad ca A z x1 hD  σ r2 hc2) (cwV 1 hts gr_X9_91 rfl rfl rfl h9_X8_isAbstract ⟨Nat.le_of_ble_eq_true rfl, Nat.le_of_ble_eq_true rfl⟩) (x_prV zkC hz hK hP (mk_400 h01) rfl rfl) rfl rfl hl.1 rfl (lv_room (Nat.le_of_ble_eq_true rfl)) dX9_flag_28 ⟨Nat.le_of_ble_eq_true rfl, Nat.le_of_ble_eq_true rfl⟩) hS (fun H locs hP hS => ?_)
      refine lv_if_eq (tgt := 36) hx hb dX9_flag_31 rfl (fun hc => ?_) (fun hc => ?_)
      · have hf := b_p hf hc
        refine lv_aload_n hx hb dX9_flag_36 rfl (lv_at hl 0 rfl) ?_
        refine x_get (k := 450) (n := 0) hx hb hts i_X9 hown hK hP (mk_450 h01) rfl rfl 0 (by decide) rfl k_12 (v := .ref (ad 400 0)) rfl dX9_flag_37 ?_
        refine lv_dup hx hb dX9_flag_40 rfl ?_
        refine x_get (k := 400) (n := 0) hx hb hts i_X8 hown hK hP (mk_400 h01) rfl rfl 3 (by decide) rfl k_94 (v := .int (gI σ 400 0 3)) rfl dX9_flag_41 ?_
        refine lv_iconst (v := (1 : Int32)) hx hb dX9_flag_44 rfl ?_
        refine lv_iload_n hx hb dX9_flag_45 rfl (lv_at hl 1 rfl) ?_
        refine lv_ishl hx hb dX9_flag_46 ?_
        refine lv_ior hx hb dX9_flag_47 ?_
        refine x_putI (k := 400) (n := 0) hx hb hts i_X8 tyX8 tyX8_ok nmX8 hown hK hD hP hS (mk_400 h01) rfl rfl 3 (by decide) rfl k_94 rfl rfl rfl rfl dX9_flag_48 (fun H locs hP hS => ?_)
        obtain ⟨σ3, e_σ3, hf⟩ := nm_i hf
        have hP : va_P G vwCl (wld ad ca σ3 (LC z)) H := by rw [e_σ3]; exact hP
        refine lv_iconst (v := (1 : Int32)) hx hb dX9_flag_51 rfl ?_
        have hf := Option.some.inj hf
        exact x_iret hx hb hr hlocks hK hP hS (congrArg Prod.fst hf) (congrArg Prod.snd hf) dX9_flag_52
      · have hf := b_n hf hc
        refine lv_iconst (v := (0 : Int32)) hx hb dX9_flag_34 rfl ?_
        have hf := Option.some.inj hf
        exact x_iret hx hb hr hlocks hK hP hS (congrArg Prod.fst hf) (congrArg Prod.snd hf) dX9_flag_35
    · have hf := b_n hf hc
      refine lv_bipush (v := (-3 : Int32)) hx hb dX9_flag_20 rfl ?_
      have hf := Option.some.inj hf
      exact x_iret hx hb hr hlocks hK hP hS (congrArg Prod.fst hf) (congrArg Prod.snd hf) dX9_flag_22
  · have hf := b_p hf hc
    refine lv_bipush (v := (-2 : Int32)) hx hb dX9_flag_7 rfl ?_
    have hf := Option.some.inj hf
    exact x_iret hx hb hr hlocks hK hP hS (congrArg Prod.fst hf) (congrArg Prod.snd hf) dX9_flag_9
theorem h9_X9_close : yX9_close.cls = RX9 ∧ yX9_close.cls ≠ "java/lang/invoke/MethodHandle" ∧ yX9_close.cls ≠ "java/lang/invoke/VarHandle" ∧ (parseMethodDescriptor yX9_close.desc).map (fun d => d.parameters.length) = some 0 := by decide +kernel
set_option maxRecDepth 100000 in
set_option maxHeartbeats 4000000 in
theorem t_X9_close (l : Launch) (G : va_G) (ad : Nat → Nat → Nat) (ca : Nat → ClassId) (A : Nat → Prop) (z : Nat × Nat)  (hD : DW ad (LC z) A)  (σ : PS) (res : Int32) (σz : PS) (hf : X9_close z   σ = some (res, σz)) : Met l yX9_close wsX9_close ({ frames := 1, cells := 0, slots := 0, locals := 22 }) (ctP G ad ca (LC z) σ ZC [.ref (ad 450 0)]) (va_Qi (fun r' u => r' = res ∧ u = σz) (ctB G ad ca (LC z)) A) 0 0 A := by
  refine Met.ofW (cc := cX9_close) (maxL := 1) (ret := (some .int)) (by decide) rfl ?_
  intro p e s m args below meth c s₁ B hml hv
  obtain ⟨rfl, hP, hK, hz⟩ := hv
  have hx := B.exec
  have hb := B.bytes
  have hr := B.returns
  have hts : ∀ w ∈ WW, w.before _ s = true := fun w h => atoms_spec (ws := wsX9_close) B.pre w (List.mem_cons_of_mem _ h)
  have hown : s.vm.findClass RX9 = some m.cls := findClass_of_methodNamed B.named
  have hlocks := B.notSynchronized
  have hS : va_S A s.heap s.heap [] := va_S.rf
  have k_12 := hts _ kf_X9_12
  have k_77 := hts _ kf_X9_77
  have hl := lv_entry ([.ref (ad 450 0)]) (n := 1) (Nat.le_of_ble_eq_true rfl)
  rw [lg_entry_eq]
  generalize (lg_sl ([.ref (ad 450 0)]) ++ List.replicate (1 - (lg_sl ([.ref (ad 450 0)])).length) Slot.unset).toArray = ls at hl ⊢
  have hl : lv_has ls 1 [(0, .ref (ad 450 0))] := hl
  unfold X9_close at hf
  refine lv_aload_n hx hb dX9_close_0 rfl (lv_at hl 0 rfl) ?_
  refine x_get (k := 450) (n := 0) hx hb hts i_X9 hown hK hP (mk_450 h01) rfl rfl 0 (by decide) rfl k_12 (v := .ref (ad 400 0)) rfl dX9_close_1 ?_
  refine x_get (k := 400) (n := 0) hx hb hts i_X8 hown hK hP (mk_400 h01) rfl rfl 4 (by decide) rfl k_77 (v := .int (gI σ 400 0 4)) rfl dX9_close_4 ?_
  refine lv_if_eq (tgt := 13) hx hb dX9_close_7 rfl (fun hc => ?_) (fun hc => ?_)
  · have hf := b_p hf hc
    refine lv_aload_n hx hb dX9_close_13 rfl (lv_at hl 0 rfl) ?_
    refine x_get (k := 450) (n := 0) hx hb hts i_X9 hown hK hP (mk_450 h01) rfl rfl 0 (by decide) rfl k_12 (v := .ref (ad 400 0)) rfl dX9_close_14 ?_
    obtain ⟨σ1, hc1, hf⟩ := bd_e hf
    refine x_cv (va_runV (As := []) (rest := []) ⟨hx, hb, hml, hown, hts⟩ (t_X8_findReach l G ad ca A z hD  σ σ1 hc1) (cwV 0 hts gr_X9_97 rfl rfl rfl h9_X8_findReach ⟨Nat.le_of_ble_eq_true rfl, Nat.le_of_ble_eq_true rfl⟩) (x_prV zkC hz hK hP (mk_400 h01) rfl rfl) rfl rfl hl.1 rfl (lv_room (Nat.le_of_ble_eq_true rfl)) dX9_close_17 ⟨Nat.le_of_ble_eq_true rfl, Nat.le_of_ble_eq_true rfl⟩) hS (fun H locs hP hS => ?_)
    refine lv_aload_n hx hb dX9_close_20 rfl (lv_at hl 0 rfl) ?_
    refine x_get (k := 450) (n := 0) hx hb hts i_X9 hown hK hP (mk_450 h01) rfl rfl 0 (by decide) rfl k_12 (v := .ref (ad 400 0)) rfl dX9_close_21 ?_
    obtain ⟨r2, hc2, hf⟩ := bd_e hf
    refine x_ci (va_runV (As := []) (rest := []) ⟨hx, hb, hml, hown, hts⟩ (t_X8_goesRound l G ad ca A z hD  σ1 r2 hc2) (cwV 0 hts gr_X9_100 rfl rfl rfl h9_X8_goesRound ⟨Nat.le_of_ble_eq_true rfl, Nat.le_of_ble_eq_true rfl⟩) (x_prV zkC hz hK hP (mk_400 h01) rfl rfl) rfl rfl hl.1 rfl (lv_room (Nat.le_of_ble_eq_true rfl)) dX9_close_24 ⟨Nat.le_of_ble_eq_true rfl, Nat.le_of_ble_eq_true rfl⟩) hS (fun H locs hP hS => ?_)
    refine lv_if_eq (tgt := 33) hx hb dX9_close_27 rfl (fun hc => ?_) (fun hc => ?_)
    · have hf := b_p hf hc
      refine lv_aload_n hx hb dX9_close_33 rfl (lv_at hl 0 rfl) ?_
      refine x_get (k := 450) (n := 0) hx hb hts i_X9 hown hK hP (mk_450 h01) rfl rfl 0 (by decide) rfl k_12 (v := .ref (ad 400 0)) rfl dX9_close_34 ?_
      refine lv_iconst (v := (1 : Int32)) hx hb dX9_close_37 rfl ?_
      refine x_putI (k := 400) (n := 0) hx hb hts i_X8 tyX8 tyX8_ok nmX8 hown hK hD hP hS (mk_400 h01) rfl rfl 4 (by decide) rfl k_77 rfl rfl rfl rfl dX9_close_38 (fun H locs hP hS => ?_)
      obtain ⟨σ3, e_σ3, hf⟩ := nm_i hf
      have hP : va_P G vwCl (wld ad ca σ3 (LC z)) H := by rw [e_σ3]; exact hP
      refine lv_iconst (v := (1 : Int32)) hx hb dX9_close_41 rfl ?_
      have hf := Option.some.inj hf
      exact x_iret hx hb hr hlocks hK hP hS (congrArg Prod.fst hf) (congrArg Prod.snd hf) dX9_close_42
    · have hf := b_n hf hc
      refine lv_bipush (v := (-5 : Int32)) hx hb dX9_close_30 rfl ?_
      have hf := Option.some.inj hf
      exact x_iret hx hb hr hlocks hK hP hS (congrArg Prod.fst hf) (congrArg Prod.snd hf) dX9_close_32
  · have hf := b_n hf hc
    refine lv_bipush (v := (-3 : Int32)) hx hb dX9_close_10 rfl ?_
    have hf := Option.some.inj hf
    exact x_iret hx hb hr hlocks hK hP hS (congrArg Prod.fst hf) (congrArg Prod.snd hf) dX9_close_12
theorem h9_X9_isCode : yX9_isCode.cls ≠ "java/lang/invoke/MethodHandle" ∧ yX9_isCode.cls ≠ "java/lang/invoke/VarHandle" ∧ (parseMethodDescriptor yX9_isCode.desc).map (fun d => d.parameters.length) = some 1 := by decide +kernel
set_option maxRecDepth 100000 in
set_option maxHeartbeats 4000000 in
theorem t_X9_isCode (l : Launch) (G : va_G) (ad : Nat → Nat → Nat) (ca : Nat → ClassId) (A : Nat → Prop) (z : Nat × Nat)  (x0 : Int32) (hD : DW ad (LC z) A)  (σ : PS) (res : Int32) (hf : X9_isCode z  x0 σ = some res) : Met l yX9_isCode wsX9_isCode ({ frames := 0, cells := 0, slots := 0, locals := 0 }) (ctP G ad ca (LC z) σ ZC [.int x0]) (va_Qi (fun r' u => r' = res ∧ u = σ) (ctB G ad ca (LC z)) A) 0 0 A := by
  refine Met.ofW (cc := cX9_isCode) (maxL := 1) (ret := (some .boolean)) (by decide) rfl ?_
  intro p e s m args below meth c s₁ B hml hv
  obtain ⟨rfl, hP, hK, hz⟩ := hv
  have hx := B.exec
  have hb := B.bytes
  have hr := B.returns
  have hts : ∀ w ∈ WW, w.before _ s = true := fun w h => atoms_spec (ws := wsX9_isCode) B.pre w (List.mem_cons_of_mem _ h)
  have hown : s.vm.findClass RX9 = some m.cls := findClass_of_methodNamed B.named
  have hlocks := B.notSynchronized
  have hS : va_S A s.heap s.heap [] := va_S.rf
  have hl := lv_entry ([.int x0]) (n := 1) (Nat.le_of_ble_eq_true rfl)
  rw [lg_entry_eq]
  generalize (lg_sl ([.int x0]) ++ List.replicate (1 - (lg_sl ([.int x0])).length) Slot.unset).toArray = ls at hl ⊢
  have hl : lv_has ls 1 [(0, .int x0)] := hl
  unfold X9_isCode at hf
  refine lv_iload_n hx hb dX9_isCode_0 rfl (lv_at hl 0 rfl) ?_
  refine lv_if_lt (tgt := 14) hx hb dX9_isCode_1 rfl (fun hc => ?_) (fun hc => ?_)
  · have hf := b_p hf hc
    refine lv_iconst (v := (0 : Int32)) hx hb dX9_isCode_14 rfl ?_
    exact x_zret hx hb hr hlocks hK hP hS (by decide) (Option.some.inj hf) rfl dX9_isCode_15
  · have hf := b_n hf hc
    refine lv_iload_n hx hb dX9_isCode_4 rfl (lv_at hl 0 rfl) ?_
    refine lv_bipush (v := (16 : Int32)) hx hb dX9_isCode_5 rfl ?_
    refine lv_icmp_ge (tgt := 14) hx hb dX9_isCode_7 rfl (fun hc => ?_) (fun hc => ?_)
    · have hf := b_p hf hc
      refine lv_iconst (v := (0 : Int32)) hx hb dX9_isCode_14 rfl ?_
      exact x_zret hx hb hr hlocks hK hP hS (by decide) (Option.some.inj hf) rfl dX9_isCode_15
    · have hf := b_n hf hc
      refine lv_iconst (v := (1 : Int32)) hx hb dX9_isCode_10 rfl ?_
      refine lv_goto (tgt := 15) hx hb dX9_isCode_11 rfl ?_
      exact x_zret hx hb hr hlocks hK hP hS (by decide) (Option.some.inj hf) rfl dX9_isCode_15
theorem h9_X9_below : yX9_below.cls = RX9 ∧ yX9_below.cls ≠ "java/lang/invoke/MethodHandle" ∧ yX9_below.cls ≠ "java/lang/invoke/VarHandle" ∧ (parseMethodDescriptor yX9_below.desc).map (fun d => d.parameters.length) = some 2 := by decide +kernel
set_option maxRecDepth 100000 in
set_option maxHeartbeats 4000000 in
theorem t_X9_below (l : Launch) (G : va_G) (ad : Nat → Nat → Nat) (ca : Nat → ClassId) (A : Nat → Prop) (z : Nat × Nat)  (x1 : Int32) (x2 : Int32) (hD : DW ad (LC z) A)  (σ : PS) (res : Int32) (hf : X9_below z  x1 x2 σ = some res) : Met l yX9_below wsX9_below ({ frames := 1, cells := 0, slots := 0, locals := 22 }) (ctP G ad ca (LC z) σ ZC [.ref (ad 450 0), .int x1, .int x2]) (va_Qi (fun r' u => r' = res ∧ u = σ) (ctB G ad ca (LC z)) A) 0 0 A := by
  refine Met.ofW (cc := cX9_below) (maxL := 3) (ret := (some .boolean)) (by decide) rfl ?_
  intro p e s m args below meth c s₁ B hml hv
  obtain ⟨rfl, hP, hK, hz⟩ := hv
  have hx := B.exec
  have hb := B.bytes
  have hr := B.returns
  have hts : ∀ w ∈ WW, w.before _ s = true := fun w h => atoms_spec (ws := wsX9_below) B.pre w (List.mem_cons_of_mem _ h)
  have hown : s.vm.findClass RX9 = some m.cls := findClass_of_methodNamed B.named
  have hlocks := B.notSynchronized
  have hS : va_S A s.heap s.heap [] := va_S.rf
  have k_12 := hts _ kf_X9_12
  have k_77 := hts _ kf_X9_77
  have hl := lv_entry ([.ref (ad 450 0), .int x1, .int x2]) (n := 3) (Nat.le_of_ble_eq_true rfl)
  rw [lg_entry_eq]
  generalize (lg_sl ([.ref (ad 450 0), .int x1, .int x2]) ++ List.replicate (3 - (lg_sl ([.ref (ad 450 0), .int x1, .int x2])).length) Slot.unset).toArray = ls at hl ⊢
  have hl : lv_has ls 3 [(0, .ref (ad 450 0)), (1, .int x1), (2, .int x2)] := hl
  unfold X9_below at hf
  refine lv_aload_n hx hb dX9_below_0 rfl (lv_at hl 0 rfl) ?_
  refine x_get (k := 450) (n := 0) hx hb hts i_X9 hown hK hP (mk_450 h01) rfl rfl 0 (by decide) rfl k_12 (v := .ref (ad 400 0)) rfl dX9_below_1 ?_
  refine x_get (k := 400) (n := 0) hx hb hts i_X8 hown hK hP (mk_400 h01) rfl rfl 4 (by decide) rfl k_77 (v := .int (gI σ 400 0 4)) rfl dX9_below_4 ?_
  refine lv_if_eq (tgt := 40) hx hb dX9_below_7 rfl (fun hc => ?_) (fun hc => ?_)
  · have hf := b_p hf hc
    refine lv_iconst (v := (0 : Int32)) hx hb dX9_below_40 rfl ?_
    exact x_zret hx hb hr hlocks hK hP hS (by decide) (Option.some.inj hf) rfl dX9_below_41
  · have hf := b_n hf hc
    refine lv_iload_n hx hb dX9_below_10 rfl (lv_at hl 1 rfl) ?_
    obtain ⟨r1, hc1, hf⟩ := bd_e hf
    refine x_ci (va_runS (As := [.int x1]) (rest := []) ⟨hx, hb, hml, hown, hts⟩ (t_X9_isCode l G ad ca A z x1 hD  σ r1 hc1) (va_cwS 1 hts gr_X9_104 rfl rfl rfl h9_X9_isCode ⟨Nat.le_of_ble_eq_true rfl, Nat.le_of_ble_eq_true rfl⟩) (x_prS zkC hz hK hP) rfl rfl hl.1 rfl (lv_room (Nat.le_of_ble_eq_true rfl)) dX9_below_11 ⟨Nat.le_of_ble_eq_true rfl, Nat.le_of_ble_eq_true rfl⟩) hS (fun H locs hP hS => ?_)
    refine lv_if_eq (tgt := 40) hx hb dX9_below_14 rfl (fun hc => ?_) (fun hc => ?_)
    · have hf := b_p hf hc
      refine lv_iconst (v := (0 : Int32)) hx hb dX9_below_40 rfl ?_
      exact x_zret hx hb hr hlocks hK hP hS (by decide) (Option.some.inj hf) rfl dX9_below_41
    · have hf := b_n hf hc
      refine lv_iload_n hx hb dX9_below_17 rfl (lv_at hl 2 rfl) ?_
      obtain ⟨r2, hc2, hf⟩ := bd_e hf
      refine x_ci (va_runS (As := [.int x2]) (rest := []) ⟨hx, hb, hml, hown, hts⟩ (t_X9_isCode l G ad ca A z x2 hD  σ r2 hc2) (va_cwS 1 hts gr_X9_104 rfl rfl rfl h9_X9_isCode ⟨Nat.le_of_ble_eq_true rfl, Nat.le_of_ble_eq_true rfl⟩) (x_prS zkC hz hK hP) rfl rfl hl.1 rfl (lv_room (Nat.le_of_ble_eq_true rfl)) dX9_below_18 ⟨Nat.le_of_ble_eq_true rfl, Nat.le_of_ble_eq_true rfl⟩) hS (fun H locs hP hS => ?_)
      refine lv_if_eq (tgt := 40) hx hb dX9_below_21 rfl (fun hc => ?_) (fun hc => ?_)
      · have hf := b_p hf hc
        refine lv_iconst (v := (0 : Int32)) hx hb dX9_below_40 rfl ?_
        exact x_zret hx hb hr hlocks hK hP hS (by decide) (Option.some.inj hf) rfl dX9_below_41
      · have hf := b_n hf hc
        refine lv_aload_n hx hb dX9_below_24 rfl (lv_at hl 0 rfl) ?_
        refine x_get (k := 450) (n := 0) hx hb hts i_X9 hown hK hP (mk_450 h01) rfl rfl 0 (by decide) rfl k_12 (v := .ref (ad 400 0)) rfl dX9_below_25 ?_
        refine lv_iload_n hx hb dX9_below_28 rfl (lv_at hl 1 rfl) ?_
        refine lv_iload_n hx hb dX9_below_29 rfl (lv_at hl 2 rfl) ?_
        obtain ⟨r3, hc3, hf⟩ := bd_e hf
        refine x_ci (va_runV (As := [.int x1, .int x2]) (rest := []) ⟨hx, hb, hml, hown, hts⟩ (t_X8_isBelow l G ad ca A z x1 x2 hD  σ r3 hc3) (cwV 2 hts gr_X9_107 rfl rfl rfl h9_X8_isBelow ⟨Nat.le_of_ble_eq_true rfl, Nat.le_of_ble_eq_true rfl⟩) (x_prV zkC hz hK hP (mk_400 h01) rfl rfl) rfl rfl hl.1 rfl (lv_room (Nat.le_of_ble_eq_true rfl)) dX9_below_30 ⟨Nat.le_of_ble_eq_true rfl, Nat.le_of_ble_eq_true rfl⟩) hS (fun H locs hP hS => ?_)
        refine lv_if_eq (tgt := 40) hx hb dX9_below_33 rfl (fun hc => ?_) (fun hc => ?_)
        · have hf := b_p hf hc
          refine lv_iconst (v := (0 : Int32)) hx hb dX9_below_40 rfl ?_
          exact x_zret hx hb hr hlocks hK hP hS (by decide) (Option.some.inj hf) rfl dX9_below_41
        · have hf := b_n hf hc
          refine lv_iconst (v := (1 : Int32)) hx hb dX9_below_36 rfl ?_
          refine lv_goto (tgt := 41) hx hb dX9_below_37 rfl ?_
          exact x_zret hx hb hr hlocks hK hP hS (by decide) (Option.some.inj hf) rfl dX9_below_41
theorem h9_X9_sample : yX9_sample.cls = RX9 ∧ yX9_sample.cls ≠ "java/lang/invoke/MethodHandle" ∧ yX9_sample.cls ≠ "java/lang/invoke/VarHandle" ∧ (parseMethodDescriptor yX9_sample.desc).map (fun d => d.parameters.length) = some 2 := by decide +kernel
set_option maxRecDepth 100000 in
set_option maxHeartbeats 4000000 in
theorem t_X9_sample (l : Launch) (G : va_G) (ad : Nat → Nat → Nat) (ca : Nat → ClassId) (A : Nat → Prop) (z : Nat × Nat)  (x1 : Int32) (x2 : Int32) (hD : DW ad (LC z) A)  (σ : PS) (res : Int32) (σz : PS) (hf : X9_sample z  x1 x2 σ = some (res, σz)) : Met l yX9_sample wsX9_sample ({ frames := 1, cells := 0, slots := 0, locals := 22 }) (ctP G ad ca (LC z) σ ZC [.ref (ad 450 0), .int x1, .int x2]) (va_Qi (fun r' u => r' = res ∧ u = σz) (ctB G ad ca (LC z)) A) 0 0 A := by
  refine Met.ofW (cc := cX9_sample) (maxL := 4) (ret := (some .int)) (by decide) rfl ?_
  intro p e s m args below meth c s₁ B hml hv
  obtain ⟨rfl, hP, hK, hz⟩ := hv
  have hx := B.exec
  have hb := B.bytes
  have hr := B.returns
  have hts : ∀ w ∈ WW, w.before _ s = true := fun w h => atoms_spec (ws := wsX9_sample) B.pre w (List.mem_cons_of_mem _ h)
  have hown : s.vm.findClass RX9 = some m.cls := findClass_of_methodNamed B.named
  have hlocks := B.notSynchronized
  have hS : va_S A s.heap s.heap [] := va_S.rf
  have k_12 := hts _ kf_X9_12
  have k_19 := hts _ kf_X9_19
  have k_77 := hts _ kf_X9_77
  have hl := lv_entry ([.ref (ad 450 0), .int x1, .int x2]) (n := 4) (Nat.le_of_ble_eq_true rfl)
  rw [lg_entry_eq]
  generalize (lg_sl ([.ref (ad 450 0), .int x1, .int x2]) ++ List.replicate (4 - (lg_sl ([.ref (ad 450 0), .int x1, .int x2])).length) Slot.unset).toArray = ls at hl ⊢
  have hl : lv_has ls 4 [(0, .ref (ad 450 0)), (1, .int x1), (2, .int x2)] := hl
  unfold X9_sample at hf
  refine lv_iload_n hx hb dX9_sample_0 rfl (lv_at hl 1 rfl) ?_
  obtain ⟨r1, hc1, hf⟩ := bd_e hf
  refine x_ci (va_runS (As := [.int x1]) (rest := []) ⟨hx, hb, hml, hown, hts⟩ (t_X9_isClass l G ad ca A z x1 hD  σ r1 hc1) (va_cwS 1 hts gr_X9_73 rfl rfl rfl h9_X9_isClass ⟨Nat.le_of_ble_eq_true rfl, Nat.le_of_ble_eq_true rfl⟩) (x_prS zkC hz hK hP) rfl rfl hl.1 rfl (lv_room (Nat.le_of_ble_eq_true rfl)) dX9_sample_1 ⟨Nat.le_of_ble_eq_true rfl, Nat.le_of_ble_eq_true rfl⟩) hS (fun H locs hP hS => ?_)
  refine lv_if_ne (tgt := 10) hx hb dX9_sample_4 rfl (fun hc => ?_) (fun hc => ?_)
  · have hf := b_n hf hc
    refine lv_aload_n hx hb dX9_sample_10 rfl (lv_at hl 0 rfl) ?_
    refine x_get (k := 450) (n := 0) hx hb hts i_X9 hown hK hP (mk_450 h01) rfl rfl 0 (by decide) rfl k_12 (v := .ref (ad 400 0)) rfl dX9_sample_11 ?_
    refine x_get (k := 400) (n := 0) hx hb hts i_X8 hown hK hP (mk_400 h01) rfl rfl 4 (by decide) rfl k_77 (v := .int (gI σ 400 0 4)) rfl dX9_sample_14 ?_
    refine lv_if_ne (tgt := 23) hx hb dX9_sample_17 rfl (fun hc => ?_) (fun hc => ?_)
    · have hf := b_n hf hc
      refine lv_aload_n hx hb dX9_sample_23 rfl (lv_at hl 0 rfl) ?_
      refine x_get (k := 450) (n := 0) hx hb hts i_X9 hown hK hP (mk_450 h01) rfl rfl 0 (by decide) rfl k_12 (v := .ref (ad 400 0)) rfl dX9_sample_24 ?_
      refine lv_iload_n hx hb dX9_sample_27 rfl (lv_at hl 1 rfl) ?_
      obtain ⟨r2, hc2, hf⟩ := bd_e hf
      refine x_ci (va_runV (As := [.int x1]) (rest := []) ⟨hx, hb, hml, hown, hts⟩ (t_X8_isAbstract l G ad ca A z x1 hD  σ r2 hc2) (cwV 1 hts gr_X9_91 rfl rfl rfl h9_X8_isAbstract ⟨Nat.le_of_ble_eq_true rfl, Nat.le_of_ble_eq_true rfl⟩) (x_prV zkC hz hK hP (mk_400 h01) rfl rfl) rfl rfl hl.1 rfl (lv_room (Nat.le_of_ble_eq_true rfl)) dX9_sample_28 ⟨Nat.le_of_ble_eq_true rfl, Nat.le_of_ble_eq_true rfl⟩) hS (fun H locs hP hS => ?_)
      refine lv_if_eq (tgt := 37) hx hb dX9_sample_31 rfl (fun hc => ?_) (fun hc => ?_)
      · have hf := b_p hf hc
        refine lv_aload_n hx hb dX9_sample_37 rfl (lv_at hl 0 rfl) ?_
        refine x_get (k := 450) (n := 0) hx hb hts i_X9 hown hK hP (mk_450 h01) rfl rfl 1 (by decide) rfl k_19 (v := .ref (ad 350 0)) rfl dX9_sample_38 ?_
        refine lv_iload_n hx hb dX9_sample_41 rfl (lv_at hl 1 rfl) ?_
        refine lv_iload_n hx hb dX9_sample_42 rfl (lv_at hl 2 rfl) ?_
        obtain ⟨r3, σ3, hc3, hf⟩ := bp_e hf
        refine x_ci (va_runV (As := [.int x1, .int x2]) (rest := []) ⟨hx, hb, hml, hown, hts⟩ (t_X7_bring l G ad ca A z x1 x2 hD  σ r3 σ3 hc3) (cwV 2 hts gr_X9_111 rfl rfl rfl h9_X7_bring ⟨Nat.le_of_ble_eq_true rfl, Nat.le_of_ble_eq_true rfl⟩) (x_prV zkC hz hK hP (mk_350 h01) rfl rfl) rfl rfl hl.1 rfl (lv_room (Nat.le_of_ble_eq_true rfl)) dX9_sample_43 ⟨Nat.le_of_ble_eq_true rfl, Nat.le_of_ble_eq_true rfl⟩) hS (fun H locs hP hS => ?_)
        refine lv_istore_n (lv' := [(3, .int r3), (0, .ref (ad 450 0)), (1, .int x1), (2, .int x2)]) hx hb dX9_sample_46 rfl hl (by decide) rfl (fun ls hl => ?_)
        refine lv_iload_n hx hb dX9_sample_47 rfl (lv_at hl 0 rfl) ?_
        refine lv_iconst (v := (-1 : Int32)) hx hb dX9_sample_48 rfl ?_
        refine lv_icmp_ne (tgt := 57) hx hb dX9_sample_49 rfl (fun hc => ?_) (fun hc => ?_)
        · have hf := b_n hf hc
          refine lv_iload_n hx hb dX9_sample_57 rfl (lv_at hl 0 rfl) ?_
          have hf := Option.some.inj hf
          exact x_iret hx hb hr hlocks hK hP hS (congrArg Prod.fst hf) (congrArg Prod.snd hf) dX9_sample_58
        · have hf := b_p hf hc
          refine lv_bipush (v := (-4 : Int32)) hx hb dX9_sample_52 rfl ?_
          refine lv_goto (tgt := 58) hx hb dX9_sample_54 rfl ?_
          have hf := Option.some.inj hf
          exact x_iret hx hb hr hlocks hK hP hS (congrArg Prod.fst hf) (congrArg Prod.snd hf) dX9_sample_58
      · have hf := b_n hf hc
        refine lv_bipush (v := (-6 : Int32)) hx hb dX9_sample_34 rfl ?_
        have hf := Option.some.inj hf
        exact x_iret hx hb hr hlocks hK hP hS (congrArg Prod.fst hf) (congrArg Prod.snd hf) dX9_sample_36
    · have hf := b_p hf hc
      refine lv_bipush (v := (-3 : Int32)) hx hb dX9_sample_20 rfl ?_
      have hf := Option.some.inj hf
      exact x_iret hx hb hr hlocks hK hP hS (congrArg Prod.fst hf) (congrArg Prod.snd hf) dX9_sample_22
  · have hf := b_p hf hc
    refine lv_bipush (v := (-2 : Int32)) hx hb dX9_sample_7 rfl ?_
    have hf := Option.some.inj hf
    exact x_iret hx hb hr hlocks hK hP hS (congrArg Prod.fst hf) (congrArg Prod.snd hf) dX9_sample_9
theorem h9_X9_of : yX9_of.cls = RX9 ∧ yX9_of.cls ≠ "java/lang/invoke/MethodHandle" ∧ yX9_of.cls ≠ "java/lang/invoke/VarHandle" ∧ (parseMethodDescriptor yX9_of.desc).map (fun d => d.parameters.length) = some 2 := by decide +kernel
set_option maxRecDepth 100000 in
set_option maxHeartbeats 4000000 in
theorem t_X9_of (l : Launch) (G : va_G) (ad : Nat → Nat → Nat) (ca : Nat → ClassId) (A : Nat → Prop) (z : Nat × Nat)  (x1 : Int32) (x2 : Int32) (hD : DW ad (LC z) A)  (σ : PS) (res : Int32) (hf : X9_of z  x1 x2 σ = some res) : Met l yX9_of wsX9_of ({ frames := 1, cells := 0, slots := 0, locals := 21 }) (ctP G ad ca (LC z) σ ZC [.ref (ad 450 0), .int x1, .int x2]) (va_Qi (fun r' u => r' = res ∧ u = σ) (ctB G ad ca (LC z)) A) 0 0 A := by
  refine Met.ofW (cc := cX9_of) (maxL := 3) (ret := (some .int)) (by decide) rfl ?_
  intro p e s m args below meth c s₁ B hml hv
  obtain ⟨rfl, hP, hK, hz⟩ := hv
  have hx := B.exec
  have hb := B.bytes
  have hr := B.returns
  have hts : ∀ w ∈ WW, w.before _ s = true := fun w h => atoms_spec (ws := wsX9_of) B.pre w (List.mem_cons_of_mem _ h)
  have hown : s.vm.findClass RX9 = some m.cls := findClass_of_methodNamed B.named
  have hlocks := B.notSynchronized
  have hS : va_S A s.heap s.heap [] := va_S.rf
  have k_19 := hts _ kf_X9_19
  have k_117 := hts _ kf_X9_117
  have k_120 := hts _ kf_X9_120
  have hl := lv_entry ([.ref (ad 450 0), .int x1, .int x2]) (n := 3) (Nat.le_of_ble_eq_true rfl)
  rw [lg_entry_eq]
  generalize (lg_sl ([.ref (ad 450 0), .int x1, .int x2]) ++ List.replicate (3 - (lg_sl ([.ref (ad 450 0), .int x1, .int x2])).length) Slot.unset).toArray = ls at hl ⊢
  have hl : lv_has ls 3 [(0, .ref (ad 450 0)), (1, .int x1), (2, .int x2)] := hl
  unfold X9_of at hf
  refine lv_aload_n hx hb dX9_of_0 rfl (lv_at hl 0 rfl) ?_
  refine x_get (k := 450) (n := 0) hx hb hts i_X9 hown hK hP (mk_450 h01) rfl rfl 1 (by decide) rfl k_19 (v := .ref (ad 350 0)) rfl dX9_of_1 ?_
  refine lv_iload_n hx hb dX9_of_4 rfl (lv_at hl 1 rfl) ?_
  obtain ⟨r1, hc1, hf⟩ := bd_e hf
  refine x_ci (va_runV (As := [.int x1]) (rest := []) ⟨hx, hb, hml, hown, hts⟩ (t_X7_holds l G ad ca A z x1 hD  σ r1 hc1) (cwV 1 hts gr_X9_114 rfl rfl rfl h9_X7_holds ⟨Nat.le_of_ble_eq_true rfl, Nat.le_of_ble_eq_true rfl⟩) (x_prV zkC hz hK hP (mk_350 h01) rfl rfl) rfl rfl hl.1 rfl (lv_room (Nat.le_of_ble_eq_true rfl)) dX9_of_5 ⟨Nat.le_of_ble_eq_true rfl, Nat.le_of_ble_eq_true rfl⟩) hS (fun H locs hP hS => ?_)
  refine lv_if_ne (tgt := 13) hx hb dX9_of_8 rfl (fun hc => ?_) (fun hc => ?_)
  · have hf := b_n hf hc
    refine lv_iload_n hx hb dX9_of_13 rfl (lv_at hl 2 rfl) ?_
    by_cases hc0 : x2 = (0 : Int32)
    · have hf := b_p hf hc0
      refine lv_lookup (off := 26) (tgt := 40) hx hb dX9_of_14 rfl (by rw [hc0]; rfl) rfl ?_
      refine lv_aload_n hx hb dX9_of_40 rfl (lv_at hl 0 rfl) ?_
      refine x_get (k := 450) (n := 0) hx hb hts i_X9 hown hK hP (mk_450 h01) rfl rfl 1 (by decide) rfl k_19 (v := .ref (ad 350 0)) rfl dX9_of_41 ?_
      refine x_get (k := 350) (n := 0) hx hb hts i_X7 hown hK hP (mk_350 h01) rfl rfl 0 (by decide) rfl k_117 (v := .ref (ad 351 0)) rfl dX9_of_44 ?_
      refine lv_iload_n hx hb dX9_of_47 rfl (lv_at hl 1 rfl) ?_
      obtain ⟨g2, hf⟩ := gd_e hf
      refine x_iald (k := 351) (n := 0) hx hb hK hP (mk_351 h01) rfl g2 dX9_of_48 ?_
      exact x_iret hx hb hr hlocks hK hP hS (Option.some.inj hf) rfl dX9_of_49
    have hf := b_n hf hc0
    by_cases hc1 : x2 = (1 : Int32)
    · have hf := b_p hf hc1
      refine lv_lookup (off := 36) (tgt := 50) hx hb dX9_of_14 rfl (by rw [hc1]; rfl) rfl ?_
      refine lv_aload_n hx hb dX9_of_50 rfl (lv_at hl 0 rfl) ?_
      refine x_get (k := 450) (n := 0) hx hb hts i_X9 hown hK hP (mk_450 h01) rfl rfl 1 (by decide) rfl k_19 (v := .ref (ad 350 0)) rfl dX9_of_51 ?_
      refine x_get (k := 350) (n := 0) hx hb hts i_X7 hown hK hP (mk_350 h01) rfl rfl 1 (by decide) rfl k_120 (v := .ref (ad 352 0)) rfl dX9_of_54 ?_
      refine lv_iload_n hx hb dX9_of_57 rfl (lv_at hl 1 rfl) ?_
      obtain ⟨g3, hf⟩ := gd_e hf
      refine x_iald (k := 352) (n := 0) hx hb hK hP (mk_352 h01) rfl g3 dX9_of_58 ?_
      exact x_iret hx hb hr hlocks hK hP hS (Option.some.inj hf) rfl dX9_of_59
    have hf := b_n hf hc1
    refine lv_lookup (off := 46) (tgt := 60) hx hb dX9_of_14 rfl (by show Op.lookupswitch.offset [(0, 26), (1, 36)] 46 _ = _; rw [lv_osw (a := 0) hc0 rfl, lv_osw (a := 1) hc1 rfl]; rfl) rfl ?_
    refine lv_iconst (v := (-1 : Int32)) hx hb dX9_of_60 rfl ?_
    exact x_iret hx hb hr hlocks hK hP hS (Option.some.inj hf) rfl dX9_of_61
  · have hf := b_p hf hc
    refine lv_iconst (v := (-1 : Int32)) hx hb dX9_of_11 rfl ?_
    exact x_iret hx hb hr hlocks hK hP hS (Option.some.inj hf) rfl dX9_of_12
theorem h9_X9_samples : yX9_samples.cls = RX9 ∧ yX9_samples.cls ≠ "java/lang/invoke/MethodHandle" ∧ yX9_samples.cls ≠ "java/lang/invoke/VarHandle" ∧ (parseMethodDescriptor yX9_samples.desc).map (fun d => d.parameters.length) = some 0 := by decide +kernel
set_option maxRecDepth 100000 in
set_option maxHeartbeats 4000000 in
theorem t_X9_samples (l : Launch) (G : va_G) (ad : Nat → Nat → Nat) (ca : Nat → ClassId) (A : Nat → Prop) (z : Nat × Nat)  (hD : DW ad (LC z) A)  (σ : PS) (res : Int32) (hf : X9_samples z   σ = some res) : Met l yX9_samples wsX9_samples ({ frames := 0, cells := 0, slots := 0, locals := 0 }) (ctP G ad ca (LC z) σ ZC [.ref (ad 450 0)]) (va_Qi (fun r' u => r' = res ∧ u = σ) (ctB G ad ca (LC z)) A) 0 0 A := by
  refine Met.ofW (cc := cX9_samples) (maxL := 1) (ret := (some .int)) (by decide) rfl ?_
  intro p e s m args below meth c s₁ B hml hv
  obtain ⟨rfl, hP, hK, hz⟩ := hv
  have hx := B.exec
  have hb := B.bytes
  have hr := B.returns
  have hts : ∀ w ∈ WW, w.before _ s = true := fun w h => atoms_spec (ws := wsX9_samples) B.pre w (List.mem_cons_of_mem _ h)
  have hown : s.vm.findClass RX9 = some m.cls := findClass_of_methodNamed B.named
  have hlocks := B.notSynchronized
  have hS : va_S A s.heap s.heap [] := va_S.rf
  have k_19 := hts _ kf_X9_19
  have k_123 := hts _ kf_X9_123
  have hl := lv_entry ([.ref (ad 450 0)]) (n := 1) (Nat.le_of_ble_eq_true rfl)
  rw [lg_entry_eq]
  generalize (lg_sl ([.ref (ad 450 0)]) ++ List.replicate (1 - (lg_sl ([.ref (ad 450 0)])).length) Slot.unset).toArray = ls at hl ⊢
  have hl : lv_has ls 1 [(0, .ref (ad 450 0))] := hl
  unfold X9_samples at hf
  refine lv_aload_n hx hb dX9_samples_0 rfl (lv_at hl 0 rfl) ?_
  refine x_get (k := 450) (n := 0) hx hb hts i_X9 hown hK hP (mk_450 h01) rfl rfl 1 (by decide) rfl k_19 (v := .ref (ad 350 0)) rfl dX9_samples_1 ?_
  refine x_get (k := 350) (n := 0) hx hb hts i_X7 hown hK hP (mk_350 h01) rfl rfl 2 (by decide) rfl k_123 (v := .int (gI σ 350 0 2)) rfl dX9_samples_4 ?_
  exact x_iret hx hb hr hlocks hK hP hS (Option.some.inj hf) rfl dX9_samples_7
theorem h9_X9_handlerAt : yX9_handlerAt.cls = RX9 ∧ yX9_handlerAt.cls ≠ "java/lang/invoke/MethodHandle" ∧ yX9_handlerAt.cls ≠ "java/lang/invoke/VarHandle" ∧ (parseMethodDescriptor yX9_handlerAt.desc).map (fun d => d.parameters.length) = some 1 := by decide +kernel
set_option maxRecDepth 100000 in
set_option maxHeartbeats 4000000 in
theorem t_X9_handlerAt (l : Launch) (G : va_G) (ad : Nat → Nat → Nat) (ca : Nat → ClassId) (A : Nat → Prop) (z : Nat × Nat)  (x1 : Int32) (hD : DW ad (LC z) A)  (σ : PS) (res : Option Nat) (hf : X9_handlerAt z  x1 σ = some res) : Met l yX9_handlerAt wsX9_handlerAt ({ frames := 0, cells := 0, slots := 0, locals := 0 }) (ctP G ad ca (LC z) σ ZC [.ref (ad 450 0), .int x1]) (va_Qq (fun r' u => r' = Option.map (ad 100) res ∧ u = σ) (ctB G ad ca (LC z)) A) 0 0 A := by
  refine Met.ofW (cc := cX9_handlerAt) (maxL := 2) (ret := (some (.object "CallBoard$Handler"))) (by decide) rfl ?_
  intro p e s m args below meth c s₁ B hml hv
  obtain ⟨rfl, hP, hK, hz⟩ := hv
  have hx := B.exec
  have hb := B.bytes
  have hr := B.returns
  have hts : ∀ w ∈ WW, w.before _ s = true := fun w h => atoms_spec (ws := wsX9_handlerAt) B.pre w (List.mem_cons_of_mem _ h)
  have hown : s.vm.findClass RX9 = some m.cls := findClass_of_methodNamed B.named
  have hlocks := B.notSynchronized
  have hS : va_S A s.heap s.heap [] := va_S.rf
  have k_31 := hts _ kf_X9_31
  have k_67 := hts _ kf_X9_67
  have hl := lv_entry ([.ref (ad 450 0), .int x1]) (n := 2) (Nat.le_of_ble_eq_true rfl)
  rw [lg_entry_eq]
  generalize (lg_sl ([.ref (ad 450 0), .int x1]) ++ List.replicate (2 - (lg_sl ([.ref (ad 450 0), .int x1])).length) Slot.unset).toArray = ls at hl ⊢
  have hl : lv_has ls 2 [(0, .ref (ad 450 0)), (1, .int x1)] := hl
  unfold X9_handlerAt at hf
  refine lv_iload_n hx hb dX9_handlerAt_0 rfl (lv_at hl 1 rfl) ?_
  refine lv_if_lt (tgt := 21) hx hb dX9_handlerAt_1 rfl (fun hc => ?_) (fun hc => ?_)
  · have hf := b_p hf hc
    refine lv_null hx hb dX9_handlerAt_21 ?_
    exact x_aret (o := none) (t0 := 100) hx hb hr hlocks hK hP hS (Option.some.inj hf) rfl dX9_handlerAt_22
  · have hf := b_n hf hc
    refine lv_iload_n hx hb dX9_handlerAt_4 rfl (lv_at hl 1 rfl) ?_
    refine lv_aload_n hx hb dX9_handlerAt_5 rfl (lv_at hl 0 rfl) ?_
    refine x_get (k := 450) (n := 0) hx hb hts i_X9 hown hK hP (mk_450 h01) rfl rfl 10 (by decide) rfl k_67 (v := .int (gI σ 450 0 10)) rfl dX9_handlerAt_6 ?_
    refine lv_icmp_ge (tgt := 21) hx hb dX9_handlerAt_9 rfl (fun hc => ?_) (fun hc => ?_)
    · have hf := b_p hf hc
      refine lv_null hx hb dX9_handlerAt_21 ?_
      exact x_aret (o := none) (t0 := 100) hx hb hr hlocks hK hP hS (Option.some.inj hf) rfl dX9_handlerAt_22
    · have hf := b_n hf hc
      refine lv_aload_n hx hb dX9_handlerAt_12 rfl (lv_at hl 0 rfl) ?_
      refine x_get (k := 450) (n := 0) hx hb hts i_X9 hown hK hP (mk_450 h01) rfl rfl 3 (by decide) rfl k_31 (v := .ref (ad 454 0)) rfl dX9_handlerAt_13 ?_
      refine lv_iload_n hx hb dX9_handlerAt_16 rfl (lv_at hl 1 rfl) ?_
      obtain ⟨g1, hf⟩ := gd_e hf
      obtain ⟨o2, e_o2, hf⟩ := nm_i hf
      refine x_aald (k := 454) (n := 0) (t := 100) hx hb hK hP (mk_454 h01) (by decide) g1 dX9_handlerAt_17 e_o2 ?_
      refine lv_goto (tgt := 22) hx hb dX9_handlerAt_18 rfl ?_
      exact x_aret (o := o2) (t0 := 100) hx hb hr hlocks hK hP hS (Option.some.inj hf) rfl dX9_handlerAt_22
theorem h9_X9_place : yX9_place.cls = RX9 ∧ yX9_place.cls ≠ "java/lang/invoke/MethodHandle" ∧ yX9_place.cls ≠ "java/lang/invoke/VarHandle" ∧ (parseMethodDescriptor yX9_place.desc).map (fun d => d.parameters.length) = some 3 := by decide +kernel
set_option maxRecDepth 100000 in
set_option maxHeartbeats 4000000 in
theorem t_X9_place (l : Launch) (G : va_G) (ad : Nat → Nat → Nat) (ca : Nat → ClassId) (A : Nat → Prop) (z : Nat × Nat)  (x1 : Int32) (x2 : Int32) (x3 : Int32) (hD : DW ad (LC z) A)  (σ : PS) (res : Int32) (σz : PS) (hf : X9_place z  x1 x2 x3 σ = some (res, σz)) : Met l yX9_place wsX9_place ({ frames := 1, cells := 0, slots := 0, locals := 21 }) (ctP G ad ca (LC z) σ ZC [.ref (ad 450 0), .int x1, .int x2, .int x3]) (va_Qi (fun r' u => r' = res ∧ u = σz) (ctB G ad ca (LC z)) A) 0 0 A := by
  refine Met.ofW (cc := cX9_place) (maxL := 5) (ret := (some .int)) (by decide) rfl ?_
  intro p e s m args below meth c s₁ B hml hv
  obtain ⟨rfl, hP, hK, hz⟩ := hv
  have hx := B.exec
  have hb := B.bytes
  have hr := B.returns
  have hts : ∀ w ∈ WW, w.before _ s = true := fun w h => atoms_spec (ws := wsX9_place) B.pre w (List.mem_cons_of_mem _ h)
  have hown : s.vm.findClass RX9 = some m.cls := findClass_of_methodNamed B.named
  have hlocks := B.notSynchronized
  have hS : va_S A s.heap s.heap [] := va_S.rf
  have k_140 := hts _ kf_X9_140
  have k_147 := hts _ kf_X9_147
  have k_150 := hts _ kf_X9_150
  have hl := lv_entry ([.ref (ad 450 0), .int x1, .int x2, .int x3]) (n := 5) (Nat.le_of_ble_eq_true rfl)
  rw [lg_entry_eq]
  generalize (lg_sl ([.ref (ad 450 0), .int x1, .int x2, .int x3]) ++ List.replicate (5 - (lg_sl ([.ref (ad 450 0), .int x1, .int x2, .int x3])).length) Slot.unset).toArray = ls at hl ⊢
  have hl : lv_has ls 5 [(0, .ref (ad 450 0)), (1, .int x1), (2, .int x2), (3, .int x3)] := hl
  unfold X9_place at hf
  refine lv_aload_n hx hb dX9_place_0 rfl (lv_at hl 0 rfl) ?_
  refine lv_iload_n hx hb dX9_place_1 rfl (lv_at hl 1 rfl) ?_
  obtain ⟨r1, hc1, hf⟩ := bd_e hf
  refine x_cq (va_runV (As := [.int x1]) (rest := []) ⟨hx, hb, hml, hown, hts⟩ (t_X9_handlerAt l G ad ca A z x1 hD  σ r1 hc1) (cwV 1 hts gr_X9_136 rfl rfl rfl h9_X9_handlerAt ⟨Nat.le_of_ble_eq_true rfl, Nat.le_of_ble_eq_true rfl⟩) (x_prV zkC hz hK hP (mk_450 h01) rfl rfl) rfl rfl hl.1 rfl (lv_room (Nat.le_of_ble_eq_true rfl)) dX9_place_2 ⟨Nat.le_of_ble_eq_true rfl, Nat.le_of_ble_eq_true rfl⟩) hS (fun H locs hP hS => ?_)
  refine x_astoreQ (lv' := [(4, va_rf (Option.map (ad 100) r1)), (0, .ref (ad 450 0)), (1, .int x1), (2, .int x2), (3, .int x3)]) hx hb dX9_place_5 hl (by decide) rfl (fun ls hl => ?_)
  refine x_aloadQ hx hb dX9_place_7 (lv_at hl 0 rfl) ?_
  cases r1 with
  | none =>
    have hf := oc_n hf
    refine lv_ifnullN (tgt := 36) hx hb dX9_place_9 rfl ?_
    refine lv_bipush (v := (-2 : Int32)) hx hb dX9_place_36 rfl ?_
    have hf := Option.some.inj hf
    exact x_iret hx hb hr hlocks hK hP hS (congrArg Prod.fst hf) (congrArg Prod.snd hf) dX9_place_38
  | some q2 =>
    obtain ⟨h_q2, hf⟩ := oc_s hf
    refine lv_ifnull hx hb dX9_place_9 ?_
    refine lv_aload hx hb dX9_place_12 (lv_at hl 0 rfl) ?_
    obtain ⟨q3, e_q3, h_q3, hf⟩ := dr_e hf
    refine x_get (k := 100) (n := q2) hx hb hts i_X2 hown hK hP (mk_100 h_q2) rfl rfl 0 (by decide) rfl k_140 (v := .ref (ad 50 q3)) (show va_rf (Option.map (ad 50) (gR σ 100 q2 0)) = _ by rw [e_q3]; rfl) dX9_place_14 ?_
    refine lv_iload_n hx hb dX9_place_17 rfl (lv_at hl 3 rfl) ?_
    obtain ⟨r4, hc4, hf⟩ := bd_e hf
    refine x_ci (va_runV (As := [.int x2]) (rest := []) ⟨hx, hb, hml, hown, hts⟩ (t_X1_hasPlace l G ad ca A z q3 x2 hD h_q3 σ r4 hc4) (cwV 1 hts gr_X9_144 rfl rfl rfl h9_X1_hasPlace ⟨Nat.le_of_ble_eq_true rfl, Nat.le_of_ble_eq_true rfl⟩) (x_prV zkC hz hK hP (mk_50 h_q3) rfl rfl) rfl rfl hl.1 rfl (lv_room (Nat.le_of_ble_eq_true rfl)) dX9_place_18 ⟨Nat.le_of_ble_eq_true rfl, Nat.le_of_ble_eq_true rfl⟩) hS (fun H locs hP hS => ?_)
    refine lv_if_eq (tgt := 36) hx hb dX9_place_21 rfl (fun hc => ?_) (fun hc => ?_)
    · have hf := b_p hf hc
      refine lv_bipush (v := (-2 : Int32)) hx hb dX9_place_36 rfl ?_
      have hf := Option.some.inj hf
      exact x_iret hx hb hr hlocks hK hP hS (congrArg Prod.fst hf) (congrArg Prod.snd hf) dX9_place_38
    · have hf := b_n hf hc
      refine lv_iload_n hx hb dX9_place_24 rfl (lv_at hl 4 rfl) ?_
      refine lv_iconst (v := (-1 : Int32)) hx hb dX9_place_25 rfl ?_
      refine lv_icmp_eq (tgt := 39) hx hb dX9_place_26 rfl (fun hc => ?_) (fun hc => ?_)
      · have hf := b_p hf hc
        refine lv_aload hx hb dX9_place_39 (lv_at hl 0 rfl) ?_
        refine x_get (k := 100) (n := q2) hx hb hts i_X2 hown hK hP (mk_100 h_q2) rfl rfl 8 (by decide) rfl k_147 (v := .int (gI σ 100 q2 8)) rfl dX9_place_41 ?_
        refine lv_if_eq (tgt := 50) hx hb dX9_place_44 rfl (fun hc => ?_) (fun hc => ?_)
        · have hf := b_p hf hc
          refine lv_aload hx hb dX9_place_50 (lv_at hl 0 rfl) ?_
          refine x_get (k := 100) (n := q2) hx hb hts i_X2 hown hK hP (mk_100 h_q2) rfl rfl 5 (by decide) rfl k_150 (v := .ref (ad 106 q2)) rfl dX9_place_52 ?_
          refine lv_iload_n hx hb dX9_place_55 rfl (lv_at hl 3 rfl) ?_
          refine lv_iload_n hx hb dX9_place_56 rfl (lv_at hl 4 rfl) ?_
          obtain ⟨g5, hf⟩ := gd_e hf
          refine x_iast (k := 106) (n := q2) hx hb hK hD hP hS (mk_106 h_q2) rfl g5 dX9_place_57 (fun H locs hP hS => ?_)
          obtain ⟨σ6, e_σ6, hf⟩ := nm_i hf
          have hP : va_P G vwCl (wld ad ca σ6 (LC z)) H := by rw [e_σ6]; exact hP
          refine lv_iconst (v := (1 : Int32)) hx hb dX9_place_58 rfl ?_
          have hf := Option.some.inj hf
          exact x_iret hx hb hr hlocks hK hP hS (congrArg Prod.fst hf) (congrArg Prod.snd hf) dX9_place_59
        · have hf := b_n hf hc
          refine lv_bipush (v := (-3 : Int32)) hx hb dX9_place_47 rfl ?_
          have hf := Option.some.inj hf
          exact x_iret hx hb hr hlocks hK hP hS (congrArg Prod.fst hf) (congrArg Prod.snd hf) dX9_place_49
      · have hf := b_n hf hc
        refine lv_iload_n hx hb dX9_place_29 rfl (lv_at hl 4 rfl) ?_
        obtain ⟨r7, hc7, hf⟩ := bd_e hf
        refine x_ci (va_runS (As := [.int x3]) (rest := []) ⟨hx, hb, hml, hown, hts⟩ (t_X9_isCode l G ad ca A z x3 hD  σ r7 hc7) (va_cwS 1 hts gr_X9_104 rfl rfl rfl h9_X9_isCode ⟨Nat.le_of_ble_eq_true rfl, Nat.le_of_ble_eq_true rfl⟩) (x_prS zkC hz hK hP) rfl rfl hl.1 rfl (lv_room (Nat.le_of_ble_eq_true rfl)) dX9_place_30 ⟨Nat.le_of_ble_eq_true rfl, Nat.le_of_ble_eq_true rfl⟩) hS (fun H locs hP hS => ?_)
        refine lv_if_ne (tgt := 39) hx hb dX9_place_33 rfl (fun hc => ?_) (fun hc => ?_)
        · have hf := b_n hf hc
          refine lv_aload hx hb dX9_place_39 (lv_at hl 0 rfl) ?_
          refine x_get (k := 100) (n := q2) hx hb hts i_X2 hown hK hP (mk_100 h_q2) rfl rfl 8 (by decide) rfl k_147 (v := .int (gI σ 100 q2 8)) rfl dX9_place_41 ?_
          refine lv_if_eq (tgt := 50) hx hb dX9_place_44 rfl (fun hc => ?_) (fun hc => ?_)
          · have hf := b_p hf hc
            refine lv_aload hx hb dX9_place_50 (lv_at hl 0 rfl) ?_
            refine x_get (k := 100) (n := q2) hx hb hts i_X2 hown hK hP (mk_100 h_q2) rfl rfl 5 (by decide) rfl k_150 (v := .ref (ad 106 q2)) rfl dX9_place_52 ?_
            refine lv_iload_n hx hb dX9_place_55 rfl (lv_at hl 3 rfl) ?_
            refine lv_iload_n hx hb dX9_place_56 rfl (lv_at hl 4 rfl) ?_
            obtain ⟨g8, hf⟩ := gd_e hf
            refine x_iast (k := 106) (n := q2) hx hb hK hD hP hS (mk_106 h_q2) rfl g8 dX9_place_57 (fun H locs hP hS => ?_)
            obtain ⟨σ9, e_σ9, hf⟩ := nm_i hf
            have hP : va_P G vwCl (wld ad ca σ9 (LC z)) H := by rw [e_σ9]; exact hP
            refine lv_iconst (v := (1 : Int32)) hx hb dX9_place_58 rfl ?_
            have hf := Option.some.inj hf
            exact x_iret hx hb hr hlocks hK hP hS (congrArg Prod.fst hf) (congrArg Prod.snd hf) dX9_place_59
          · have hf := b_n hf hc
            refine lv_bipush (v := (-3 : Int32)) hx hb dX9_place_47 rfl ?_
            have hf := Option.some.inj hf
            exact x_iret hx hb hr hlocks hK hP hS (congrArg Prod.fst hf) (congrArg Prod.snd hf) dX9_place_49
        · have hf := b_p hf hc
          refine lv_bipush (v := (-2 : Int32)) hx hb dX9_place_36 rfl ?_
          have hf := Option.some.inj hf
          exact x_iret hx hb hr hlocks hK hP hS (congrArg Prod.fst hf) (congrArg Prod.snd hf) dX9_place_38
theorem h9_X9_test : yX9_test.cls = RX9 ∧ yX9_test.cls ≠ "java/lang/invoke/MethodHandle" ∧ yX9_test.cls ≠ "java/lang/invoke/VarHandle" ∧ (parseMethodDescriptor yX9_test.desc).map (fun d => d.parameters.length) = some 4 := by decide +kernel
set_option maxRecDepth 100000 in
set_option maxHeartbeats 4000000 in
theorem t_X9_test (l : Launch) (G : va_G) (ad : Nat → Nat → Nat) (ca : Nat → ClassId) (A : Nat → Prop) (z : Nat × Nat)  (x1 : Int32) (x2 : Int32) (x3 : Int32) (x4 : Int32) (hD : DW ad (LC z) A)  (σ : PS) (res : Int32) (σz : PS) (hf : X9_test z  x1 x2 x3 x4 σ = some (res, σz)) : Met l yX9_test wsX9_test ({ frames := 1, cells := 0, slots := 0, locals := 21 }) (ctP G ad ca (LC z) σ ZC [.ref (ad 450 0), .int x1, .int x2, .int x3, .int x4]) (va_Qi (fun r' u => r' = res ∧ u = σz) (ctB G ad ca (LC z)) A) 0 0 A := by
  refine Met.ofW (cc := cX9_test) (maxL := 6) (ret := (some .int)) (by decide) rfl ?_
  intro p e s m args below meth c s₁ B hml hv
  obtain ⟨rfl, hP, hK, hz⟩ := hv
  have hx := B.exec
  have hb := B.bytes
  have hr := B.returns
  have hts : ∀ w ∈ WW, w.before _ s = true := fun w h => atoms_spec (ws := wsX9_test) B.pre w (List.mem_cons_of_mem _ h)
  have hown : s.vm.findClass RX9 = some m.cls := findClass_of_methodNamed B.named
  have hlocks := B.notSynchronized
  have hS : va_S A s.heap s.heap [] := va_S.rf
  have k_140 := hts _ kf_X9_140
  have k_147 := hts _ kf_X9_147
  have k_153 := hts _ kf_X9_153
  have k_156 := hts _ kf_X9_156
  have hl := lv_entry ([.ref (ad 450 0), .int x1, .int x2, .int x3, .int x4]) (n := 6) (Nat.le_of_ble_eq_true rfl)
  rw [lg_entry_eq]
  generalize (lg_sl ([.ref (ad 450 0), .int x1, .int x2, .int x3, .int x4]) ++ List.replicate (6 - (lg_sl ([.ref (ad 450 0), .int x1, .int x2, .int x3, .int x4])).length) Slot.unset).toArray = ls at hl ⊢
  have hl : lv_has ls 6 [(0, .ref (ad 450 0)), (1, .int x1), (2, .int x2), (3, .int x3), (4, .int x4)] := hl
  unfold X9_test at hf
  refine lv_aload_n hx hb dX9_test_0 rfl (lv_at hl 0 rfl) ?_
  refine lv_iload_n hx hb dX9_test_1 rfl (lv_at hl 1 rfl) ?_
  obtain ⟨r1, hc1, hf⟩ := bd_e hf
  refine x_cq (va_runV (As := [.int x1]) (rest := []) ⟨hx, hb, hml, hown, hts⟩ (t_X9_handlerAt l G ad ca A z x1 hD  σ r1 hc1) (cwV 1 hts gr_X9_136 rfl rfl rfl h9_X9_handlerAt ⟨Nat.le_of_ble_eq_true rfl, Nat.le_of_ble_eq_true rfl⟩) (x_prV zkC hz hK hP (mk_450 h01) rfl rfl) rfl rfl hl.1 rfl (lv_room (Nat.le_of_ble_eq_true rfl)) dX9_test_2 ⟨Nat.le_of_ble_eq_true rfl, Nat.le_of_ble_eq_true rfl⟩) hS (fun H locs hP hS => ?_)
  refine x_astoreQ (lv' := [(5, va_rf (Option.map (ad 100) r1)), (0, .ref (ad 450 0)), (1, .int x1), (2, .int x2), (3, .int x3), (4, .int x4)]) hx hb dX9_test_5 hl (by decide) rfl (fun ls hl => ?_)
  refine x_aloadQ hx hb dX9_test_7 (lv_at hl 0 rfl) ?_
  cases r1 with
  | none =>
    have hf := oc_n hf
    refine lv_ifnullN (tgt := 30) hx hb dX9_test_9 rfl ?_
    refine lv_bipush (v := (-2 : Int32)) hx hb dX9_test_30 rfl ?_
    have hf := Option.some.inj hf
    exact x_iret hx hb hr hlocks hK hP hS (congrArg Prod.fst hf) (congrArg Prod.snd hf) dX9_test_32
  | some q2 =>
    obtain ⟨h_q2, hf⟩ := oc_s hf
    refine lv_ifnull hx hb dX9_test_9 ?_
    refine lv_aload hx hb dX9_test_12 (lv_at hl 0 rfl) ?_
    obtain ⟨q3, e_q3, h_q3, hf⟩ := dr_e hf
    refine x_get (k := 100) (n := q2) hx hb hts i_X2 hown hK hP (mk_100 h_q2) rfl rfl 0 (by decide) rfl k_140 (v := .ref (ad 50 q3)) (show va_rf (Option.map (ad 50) (gR σ 100 q2 0)) = _ by rw [e_q3]; rfl) dX9_test_14 ?_
    refine lv_iload_n hx hb dX9_test_17 rfl (lv_at hl 3 rfl) ?_
    obtain ⟨r4, hc4, hf⟩ := bd_e hf
    refine x_ci (va_runV (As := [.int x2]) (rest := []) ⟨hx, hb, hml, hown, hts⟩ (t_X1_hasPlace l G ad ca A z q3 x2 hD h_q3 σ r4 hc4) (cwV 1 hts gr_X9_144 rfl rfl rfl h9_X1_hasPlace ⟨Nat.le_of_ble_eq_true rfl, Nat.le_of_ble_eq_true rfl⟩) (x_prV zkC hz hK hP (mk_50 h_q3) rfl rfl) rfl rfl hl.1 rfl (lv_room (Nat.le_of_ble_eq_true rfl)) dX9_test_18 ⟨Nat.le_of_ble_eq_true rfl, Nat.le_of_ble_eq_true rfl⟩) hS (fun H locs hP hS => ?_)
    refine lv_if_eq (tgt := 30) hx hb dX9_test_21 rfl (fun hc => ?_) (fun hc => ?_)
    · have hf := b_p hf hc
      refine lv_bipush (v := (-2 : Int32)) hx hb dX9_test_30 rfl ?_
      have hf := Option.some.inj hf
      exact x_iret hx hb hr hlocks hK hP hS (congrArg Prod.fst hf) (congrArg Prod.snd hf) dX9_test_32
    · have hf := b_n hf hc
      refine lv_iload_n hx hb dX9_test_24 rfl (lv_at hl 4 rfl) ?_
      refine lv_iload hx hb dX9_test_25 (lv_at hl 5 rfl) ?_
      refine lv_icmp_le (tgt := 33) hx hb dX9_test_27 rfl (fun hc => ?_) (fun hc => ?_)
      · have hf := b_p hf hc
        refine lv_aload hx hb dX9_test_33 (lv_at hl 0 rfl) ?_
        refine x_get (k := 100) (n := q2) hx hb hts i_X2 hown hK hP (mk_100 h_q2) rfl rfl 8 (by decide) rfl k_147 (v := .int (gI σ 100 q2 8)) rfl dX9_test_35 ?_
        refine lv_if_eq (tgt := 44) hx hb dX9_test_38 rfl (fun hc => ?_) (fun hc => ?_)
        · have hf := b_p hf hc
          refine lv_aload hx hb dX9_test_44 (lv_at hl 0 rfl) ?_
          refine x_get (k := 100) (n := q2) hx hb hts i_X2 hown hK hP (mk_100 h_q2) rfl rfl 6 (by decide) rfl k_153 (v := .ref (ad 107 q2)) rfl dX9_test_46 ?_
          refine lv_iload_n hx hb dX9_test_49 rfl (lv_at hl 3 rfl) ?_
          refine lv_iload_n hx hb dX9_test_50 rfl (lv_at hl 4 rfl) ?_
          obtain ⟨g5, hf⟩ := gd_e hf
          refine x_iast (k := 107) (n := q2) hx hb hK hD hP hS (mk_107 h_q2) rfl g5 dX9_test_51 (fun H locs hP hS => ?_)
          obtain ⟨σ6, e_σ6, hf⟩ := nm_i hf
          have hP : va_P G vwCl (wld ad ca σ6 (LC z)) H := by rw [e_σ6]; exact hP
          refine lv_aload hx hb dX9_test_52 (lv_at hl 0 rfl) ?_
          refine x_get (k := 100) (n := q2) hx hb hts i_X2 hown hK hP (mk_100 h_q2) rfl rfl 7 (by decide) rfl k_156 (v := .ref (ad 108 q2)) rfl dX9_test_54 ?_
          refine lv_iload_n hx hb dX9_test_57 rfl (lv_at hl 3 rfl) ?_
          refine lv_iload hx hb dX9_test_58 (lv_at hl 5 rfl) ?_
          obtain ⟨g7, hf⟩ := gd_e hf
          refine x_iast (k := 108) (n := q2) hx hb hK hD hP hS (mk_108 h_q2) rfl g7 dX9_test_60 (fun H locs hP hS => ?_)
          obtain ⟨σ8, e_σ8, hf⟩ := nm_i hf
          have hP : va_P G vwCl (wld ad ca σ8 (LC z)) H := by rw [e_σ8]; exact hP
          refine lv_iconst (v := (1 : Int32)) hx hb dX9_test_61 rfl ?_
          have hf := Option.some.inj hf
          exact x_iret hx hb hr hlocks hK hP hS (congrArg Prod.fst hf) (congrArg Prod.snd hf) dX9_test_62
        · have hf := b_n hf hc
          refine lv_bipush (v := (-3 : Int32)) hx hb dX9_test_41 rfl ?_
          have hf := Option.some.inj hf
          exact x_iret hx hb hr hlocks hK hP hS (congrArg Prod.fst hf) (congrArg Prod.snd hf) dX9_test_43
      · have hf := b_n hf hc
        refine lv_bipush (v := (-2 : Int32)) hx hb dX9_test_30 rfl ?_
        have hf := Option.some.inj hf
        exact x_iret hx hb hr hlocks hK hP hS (congrArg Prod.fst hf) (congrArg Prod.snd hf) dX9_test_32
theorem h9_X9_lay : yX9_lay.cls = RX9 ∧ yX9_lay.cls ≠ "java/lang/invoke/MethodHandle" ∧ yX9_lay.cls ≠ "java/lang/invoke/VarHandle" ∧ (parseMethodDescriptor yX9_lay.desc).map (fun d => d.parameters.length) = some 1 := by decide +kernel
set_option maxRecDepth 100000 in
set_option maxHeartbeats 4000000 in
theorem t_X9_lay (l : Launch) (G : va_G) (ad : Nat → Nat → Nat) (ca : Nat → ClassId) (A : Nat → Prop) (z : Nat × Nat)  (x1 : Int32) (hD : DW ad (LC z) A)  (σ : PS) (res : Int32) (σz : PS) (hf : X9_lay z  x1 σ = some (res, σz)) : Met l yX9_lay wsX9_lay ({ frames := 5, cells := 0, slots := 0, locals := 111 }) (ctP G ad ca (LC z) σ ZC [.ref (ad 450 0), .int x1]) (va_Qi (fun r' u => r' = res ∧ u = σz) (ctB G ad ca (LC z)) A) 0 0 A := by
  refine Met.ofW (cc := cX9_lay) (maxL := 4) (ret := (some .int)) (by decide) rfl ?_
  intro p e s m args below meth c s₁ B hml hv
  obtain ⟨rfl, hP, hK, hz⟩ := hv
  have hx := B.exec
  have hb := B.bytes
  have hr := B.returns
  have hts : ∀ w ∈ WW, w.before _ s = true := fun w h => atoms_spec (ws := wsX9_lay) B.pre w (List.mem_cons_of_mem _ h)
  have hown : s.vm.findClass RX9 = some m.cls := findClass_of_methodNamed B.named
  have hlocks := B.notSynchronized
  have hS : va_S A s.heap s.heap [] := va_S.rf
  have k_140 := hts _ kf_X9_140
  have k_147 := hts _ kf_X9_147
  have k_159 := hts _ kf_X9_159
  have hl := lv_entry ([.ref (ad 450 0), .int x1]) (n := 4) (Nat.le_of_ble_eq_true rfl)
  rw [lg_entry_eq]
  generalize (lg_sl ([.ref (ad 450 0), .int x1]) ++ List.replicate (4 - (lg_sl ([.ref (ad 450 0), .int x1])).length) Slot.unset).toArray = ls at hl ⊢
  have hl : lv_has ls 4 [(0, .ref (ad 450 0)), (1, .int x1)] := hl
  unfold X9_lay at hf
  refine lv_aload_n hx hb dX9_lay_0 rfl (lv_at hl 0 rfl) ?_
  refine lv_iload_n hx hb dX9_lay_1 rfl (lv_at hl 1 rfl) ?_
  obtain ⟨r1, hc1, hf⟩ := bd_e hf
  refine x_cq (va_runV (As := [.int x1]) (rest := []) ⟨hx, hb, hml, hown, hts⟩ (t_X9_handlerAt l G ad ca A z x1 hD  σ r1 hc1) (cwV 1 hts gr_X9_136 rfl rfl rfl h9_X9_handlerAt ⟨Nat.le_of_ble_eq_true rfl, Nat.le_of_ble_eq_true rfl⟩) (x_prV zkC hz hK hP (mk_450 h01) rfl rfl) rfl rfl hl.1 rfl (lv_room (Nat.le_of_ble_eq_true rfl)) dX9_lay_2 ⟨Nat.le_of_ble_eq_true rfl, Nat.le_of_ble_eq_true rfl⟩) hS (fun H locs hP hS => ?_)
  refine x_astore_nQ (lv' := [(2, va_rf (Option.map (ad 100) r1)), (0, .ref (ad 450 0)), (1, .int x1)]) hx hb dX9_lay_5 rfl hl (by decide) rfl (fun ls hl => ?_)
  refine x_aload_nQ hx hb dX9_lay_6 rfl (lv_at hl 0 rfl) ?_
  cases r1 with
  | none =>
    have hf := oc_n hf
    refine lv_ifnonnullN hx hb dX9_lay_7 ?_
    refine lv_bipush (v := (-2 : Int32)) hx hb dX9_lay_10 rfl ?_
    have hf := Option.some.inj hf
    exact x_iret hx hb hr hlocks hK hP hS (congrArg Prod.fst hf) (congrArg Prod.snd hf) dX9_lay_12
  | some q2 =>
    obtain ⟨h_q2, hf⟩ := oc_s hf
    refine lv_ifnonnull (tgt := 13) hx hb dX9_lay_7 rfl ?_
    refine lv_aload_n hx hb dX9_lay_13 rfl (lv_at hl 0 rfl) ?_
    obtain ⟨q3, e_q3, h_q3, hf⟩ := dr_e hf
    refine x_get (k := 100) (n := q2) hx hb hts i_X2 hown hK hP (mk_100 h_q2) rfl rfl 0 (by decide) rfl k_140 (v := .ref (ad 50 q3)) (show va_rf (Option.map (ad 50) (gR σ 100 q2 0)) = _ by rw [e_q3]; rfl) dX9_lay_14 ?_
    refine lv_astore_n (lv' := [(3, .ref (ad 50 q3)), (2, .ref (ad 100 q2)), (0, .ref (ad 450 0)), (1, .int x1)]) hx hb dX9_lay_17 rfl hl (by decide) rfl (fun ls hl => ?_)
    refine lv_aload_n hx hb dX9_lay_18 rfl (lv_at hl 1 rfl) ?_
    refine x_get (k := 100) (n := q2) hx hb hts i_X2 hown hK hP (mk_100 h_q2) rfl rfl 8 (by decide) rfl k_147 (v := .int (gI σ 100 q2 8)) rfl dX9_lay_19 ?_
    refine lv_if_ne (tgt := 32) hx hb dX9_lay_22 rfl (fun hc => ?_) (fun hc => ?_)
    · have hf := b_n hf hc
      refine lv_bipush (v := (-3 : Int32)) hx hb dX9_lay_32 rfl ?_
      have hf := Option.some.inj hf
      exact x_iret hx hb hr hlocks hK hP hS (congrArg Prod.fst hf) (congrArg Prod.snd hf) dX9_lay_34
    · have hf := b_p hf hc
      refine lv_aload_n hx hb dX9_lay_25 rfl (lv_at hl 0 rfl) ?_
      refine x_get (k := 50) (n := q3) hx hb hts i_X1 hown hK hP (mk_50 h_q3) rfl rfl 9 (by decide) rfl k_159 (v := .int (gI σ 50 q3 9)) rfl dX9_lay_26 ?_
      refine lv_if_eq (tgt := 35) hx hb dX9_lay_29 rfl (fun hc => ?_) (fun hc => ?_)
      · have hf := b_p hf hc
        refine lv_aload_n hx hb dX9_lay_35 rfl (lv_at hl 0 rfl) ?_
        refine lv_aload_n hx hb dX9_lay_36 rfl (lv_at hl 1 rfl) ?_
        obtain ⟨r4, hc4, hf⟩ := bd_e hf
        refine x_ci (va_runV (As := [.ref (ad 100 q2)]) (rest := []) ⟨hx, hb, hml, hown, hts⟩ (t_X1_hasLaidSame l G ad ca A z q3 q2 hD h_q3 h_q2 σ r4 hc4) (cwV 1 hts gr_X9_162 rfl rfl rfl h9_X1_hasLaidSame ⟨Nat.le_of_ble_eq_true rfl, Nat.le_of_ble_eq_true rfl⟩) (x_prV zkC hz hK hP (mk_50 h_q3) rfl rfl) rfl rfl hl.1 rfl (lv_room (Nat.le_of_ble_eq_true rfl)) dX9_lay_37 ⟨Nat.le_of_ble_eq_true rfl, Nat.le_of_ble_eq_true rfl⟩) hS (fun H locs hP hS => ?_)
        refine lv_if_eq (tgt := 46) hx hb dX9_lay_40 rfl (fun hc => ?_) (fun hc => ?_)
        · have hf := b_p hf hc
          refine lv_aload_n hx hb dX9_lay_46 rfl (lv_at hl 0 rfl) ?_
          refine lv_aload_n hx hb dX9_lay_47 rfl (lv_at hl 1 rfl) ?_
          obtain ⟨r5, σ5, hc5, hf⟩ := bp_e hf
          refine x_ci (va_runV (As := [.ref (ad 100 q2)]) (rest := []) ⟨hx, hb, hml, hown, hts⟩ (t_X1_putLaid l G ad ca A z q3 q2 hD h_q3 h_q2 σ r5 σ5 hc5) (cwV 1 hts gr_X9_166 rfl rfl rfl h9_X1_putLaid ⟨Nat.le_of_ble_eq_true rfl, Nat.le_of_ble_eq_true rfl⟩) (x_prV zkC hz hK hP (mk_50 h_q3) rfl rfl) rfl rfl hl.1 rfl (lv_room (Nat.le_of_ble_eq_true rfl)) dX9_lay_48 ⟨Nat.le_of_ble_eq_true rfl, Nat.le_of_ble_eq_true rfl⟩) hS (fun H locs hP hS => ?_)
          refine lv_if_ne (tgt := 57) hx hb dX9_lay_51 rfl (fun hc => ?_) (fun hc => ?_)
          · have hf := b_n hf hc
            refine lv_aload_n hx hb dX9_lay_57 rfl (lv_at hl 1 rfl) ?_
            refine lv_iconst (v := (1 : Int32)) hx hb dX9_lay_58 rfl ?_
            refine x_putI (k := 100) (n := q2) hx hb hts i_X2 tyX2 tyX2_ok nmX2 hown hK hD hP hS (mk_100 h_q2) rfl rfl 8 (by decide) rfl k_147 rfl rfl rfl rfl dX9_lay_59 (fun H locs hP hS => ?_)
            obtain ⟨σ6, e_σ6, hf⟩ := nm_i hf
            have hP : va_P G vwCl (wld ad ca σ6 (LC z)) H := by rw [e_σ6]; exact hP
            refine lv_iconst (v := (1 : Int32)) hx hb dX9_lay_62 rfl ?_
            have hf := Option.some.inj hf
            exact x_iret hx hb hr hlocks hK hP hS (congrArg Prod.fst hf) (congrArg Prod.snd hf) dX9_lay_63
          · have hf := b_p hf hc
            refine lv_bipush (v := (-4 : Int32)) hx hb dX9_lay_54 rfl ?_
            have hf := Option.some.inj hf
            exact x_iret hx hb hr hlocks hK hP hS (congrArg Prod.fst hf) (congrArg Prod.snd hf) dX9_lay_56
        · have hf := b_n hf hc
          refine lv_bipush (v := (-5 : Int32)) hx hb dX9_lay_43 rfl ?_
          have hf := Option.some.inj hf
          exact x_iret hx hb hr hlocks hK hP hS (congrArg Prod.fst hf) (congrArg Prod.snd hf) dX9_lay_45
      · have hf := b_n hf hc
        refine lv_bipush (v := (-3 : Int32)) hx hb dX9_lay_32 rfl ?_
        have hf := Option.some.inj hf
        exact x_iret hx hb hr hlocks hK hP hS (congrArg Prod.fst hf) (congrArg Prod.snd hf) dX9_lay_34
theorem h9_X9_lift : yX9_lift.cls = RX9 ∧ yX9_lift.cls ≠ "java/lang/invoke/MethodHandle" ∧ yX9_lift.cls ≠ "java/lang/invoke/VarHandle" ∧ (parseMethodDescriptor yX9_lift.desc).map (fun d => d.parameters.length) = some 1 := by decide +kernel
set_option maxRecDepth 100000 in
set_option maxHeartbeats 4000000 in
theorem t_X9_lift (l : Launch) (G : va_G) (ad : Nat → Nat → Nat) (ca : Nat → ClassId) (A : Nat → Prop) (z : Nat × Nat)  (x1 : Int32) (hD : DW ad (LC z) A)  (σ : PS) (res : Int32) (σz : PS) (hf : X9_lift z  x1 σ = some (res, σz)) : Met l yX9_lift wsX9_lift ({ frames := 5, cells := 0, slots := 0, locals := 112 }) (ctP G ad ca (LC z) σ ZC [.ref (ad 450 0), .int x1]) (va_Qi (fun r' u => r' = res ∧ u = σz) (ctB G ad ca (LC z)) A) 0 0 A := by
  refine Met.ofW (cc := cX9_lift) (maxL := 3) (ret := (some .int)) (by decide) rfl ?_
  intro p e s m args below meth c s₁ B hml hv
  obtain ⟨rfl, hP, hK, hz⟩ := hv
  have hx := B.exec
  have hb := B.bytes
  have hr := B.returns
  have hts : ∀ w ∈ WW, w.before _ s = true := fun w h => atoms_spec (ws := wsX9_lift) B.pre w (List.mem_cons_of_mem _ h)
  have hown : s.vm.findClass RX9 = some m.cls := findClass_of_methodNamed B.named
  have hlocks := B.notSynchronized
  have hS : va_S A s.heap s.heap [] := va_S.rf
  have k_140 := hts _ kf_X9_140
  have k_147 := hts _ kf_X9_147
  have k_159 := hts _ kf_X9_159
  have hl := lv_entry ([.ref (ad 450 0), .int x1]) (n := 3) (Nat.le_of_ble_eq_true rfl)
  rw [lg_entry_eq]
  generalize (lg_sl ([.ref (ad 450 0), .int x1]) ++ List.replicate (3 - (lg_sl ([.ref (ad 450 0), .int x1])).length) Slot.unset).toArray = ls at hl ⊢
  have hl : lv_has ls 3 [(0, .ref (ad 450 0)), (1, .int x1)] := hl
  unfold X9_lift at hf
  refine lv_aload_n hx hb dX9_lift_0 rfl (lv_at hl 0 rfl) ?_
  refine lv_iload_n hx hb dX9_lift_1 rfl (lv_at hl 1 rfl) ?_
  obtain ⟨r1, hc1, hf⟩ := bd_e hf
  refine x_cq (va_runV (As := [.int x1]) (rest := []) ⟨hx, hb, hml, hown, hts⟩ (t_X9_handlerAt l G ad ca A z x1 hD  σ r1 hc1) (cwV 1 hts gr_X9_136 rfl rfl rfl h9_X9_handlerAt ⟨Nat.le_of_ble_eq_true rfl, Nat.le_of_ble_eq_true rfl⟩) (x_prV zkC hz hK hP (mk_450 h01) rfl rfl) rfl rfl hl.1 rfl (lv_room (Nat.le_of_ble_eq_true rfl)) dX9_lift_2 ⟨Nat.le_of_ble_eq_true rfl, Nat.le_of_ble_eq_true rfl⟩) hS (fun H locs hP hS => ?_)
  refine x_astore_nQ (lv' := [(2, va_rf (Option.map (ad 100) r1)), (0, .ref (ad 450 0)), (1, .int x1)]) hx hb dX9_lift_5 rfl hl (by decide) rfl (fun ls hl => ?_)
  refine x_aload_nQ hx hb dX9_lift_6 rfl (lv_at hl 0 rfl) ?_
  cases r1 with
  | none =>
    have hf := oc_n hf
    refine lv_ifnonnullN hx hb dX9_lift_7 ?_
    refine lv_bipush (v := (-2 : Int32)) hx hb dX9_lift_10 rfl ?_
    have hf := Option.some.inj hf
    exact x_iret hx hb hr hlocks hK hP hS (congrArg Prod.fst hf) (congrArg Prod.snd hf) dX9_lift_12
  | some q2 =>
    obtain ⟨h_q2, hf⟩ := oc_s hf
    refine lv_ifnonnull (tgt := 13) hx hb dX9_lift_7 rfl ?_
    refine lv_aload_n hx hb dX9_lift_13 rfl (lv_at hl 0 rfl) ?_
    refine x_get (k := 100) (n := q2) hx hb hts i_X2 hown hK hP (mk_100 h_q2) rfl rfl 8 (by decide) rfl k_147 (v := .int (gI σ 100 q2 8)) rfl dX9_lift_14 ?_
    refine lv_iconst (v := (1 : Int32)) hx hb dX9_lift_17 rfl ?_
    refine lv_icmp_ne (tgt := 31) hx hb dX9_lift_18 rfl (fun hc => ?_) (fun hc => ?_)
    · have hf := b_n hf hc
      refine lv_bipush (v := (-3 : Int32)) hx hb dX9_lift_31 rfl ?_
      have hf := Option.some.inj hf
      exact x_iret hx hb hr hlocks hK hP hS (congrArg Prod.fst hf) (congrArg Prod.snd hf) dX9_lift_33
    · have hf := b_p hf hc
      refine lv_aload_n hx hb dX9_lift_21 rfl (lv_at hl 0 rfl) ?_
      obtain ⟨q3, e_q3, h_q3, hf⟩ := dr_e hf
      refine x_get (k := 100) (n := q2) hx hb hts i_X2 hown hK hP (mk_100 h_q2) rfl rfl 0 (by decide) rfl k_140 (v := .ref (ad 50 q3)) (show va_rf (Option.map (ad 50) (gR σ 100 q2 0)) = _ by rw [e_q3]; rfl) dX9_lift_22 ?_
      refine x_get (k := 50) (n := q3) hx hb hts i_X1 hown hK hP (mk_50 h_q3) rfl rfl 9 (by decide) rfl k_159 (v := .int (gI σ 50 q3 9)) rfl dX9_lift_25 ?_
      refine lv_if_eq (tgt := 34) hx hb dX9_lift_28 rfl (fun hc => ?_) (fun hc => ?_)
      · have hf := b_p hf hc
        refine lv_aload_n hx hb dX9_lift_34 rfl (lv_at hl 0 rfl) ?_
        refine lv_iconst (v := (2 : Int32)) hx hb dX9_lift_35 rfl ?_
        refine x_putI (k := 100) (n := q2) hx hb hts i_X2 tyX2 tyX2_ok nmX2 hown hK hD hP hS (mk_100 h_q2) rfl rfl 8 (by decide) rfl k_147 rfl rfl rfl rfl dX9_lift_36 (fun H locs hP hS => ?_)
        obtain ⟨σ4, e_σ4, hf⟩ := nm_i hf
        have hP : va_P G vwCl (wld ad ca σ4 (LC z)) H := by rw [e_σ4]; exact hP
        refine lv_aload_n hx hb dX9_lift_39 rfl (lv_at hl 0 rfl) ?_
        obtain ⟨q5, e_q5, h_q5, hf⟩ := dr_e hf
        refine x_get (k := 100) (n := q2) hx hb hts i_X2 hown hK hP (mk_100 h_q2) rfl rfl 0 (by decide) rfl k_140 (v := .ref (ad 50 q5)) (show va_rf (Option.map (ad 50) (gR σ4 100 q2 0)) = _ by rw [e_q5]; rfl) dX9_lift_40 ?_
        refine lv_aload_n hx hb dX9_lift_43 rfl (lv_at hl 0 rfl) ?_
        obtain ⟨σ6, hc6, hf⟩ := bd_e hf
        refine x_cv (va_runV (As := [.ref (ad 100 q2)]) (rest := []) ⟨hx, hb, hml, hown, hts⟩ (t_X1_dropLaid l G ad ca A z q5 q2 hD h_q5 h_q2 σ4 σ6 hc6) (cwV 1 hts gr_X9_169 rfl rfl rfl h9_X1_dropLaid ⟨Nat.le_of_ble_eq_true rfl, Nat.le_of_ble_eq_true rfl⟩) (x_prV zkC hz hK hP (mk_50 h_q5) rfl rfl) rfl rfl hl.1 rfl (lv_room (Nat.le_of_ble_eq_true rfl)) dX9_lift_44 ⟨Nat.le_of_ble_eq_true rfl, Nat.le_of_ble_eq_true rfl⟩) hS (fun H locs hP hS => ?_)
        refine lv_iconst (v := (1 : Int32)) hx hb dX9_lift_47 rfl ?_
        have hf := Option.some.inj hf
        exact x_iret hx hb hr hlocks hK hP hS (congrArg Prod.fst hf) (congrArg Prod.snd hf) dX9_lift_48
      · have hf := b_n hf hc
        refine lv_bipush (v := (-3 : Int32)) hx hb dX9_lift_31 rfl ?_
        have hf := Option.some.inj hf
        exact x_iret hx hb hr hlocks hK hP hS (congrArg Prod.fst hf) (congrArg Prod.snd hf) dX9_lift_33
theorem h9_X9_functionAt : yX9_functionAt.cls = RX9 ∧ yX9_functionAt.cls ≠ "java/lang/invoke/MethodHandle" ∧ yX9_functionAt.cls ≠ "java/lang/invoke/VarHandle" ∧ (parseMethodDescriptor yX9_functionAt.desc).map (fun d => d.parameters.length) = some 1 := by decide +kernel
set_option maxRecDepth 100000 in
set_option maxHeartbeats 4000000 in
theorem t_X9_functionAt (l : Launch) (G : va_G) (ad : Nat → Nat → Nat) (ca : Nat → ClassId) (A : Nat → Prop) (z : Nat × Nat)  (x1 : Int32) (hD : DW ad (LC z) A)  (σ : PS) (res : Option Nat) (hf : X9_functionAt z  x1 σ = some res) : Met l yX9_functionAt wsX9_functionAt ({ frames := 0, cells := 0, slots := 0, locals := 0 }) (ctP G ad ca (LC z) σ ZC [.ref (ad 450 0), .int x1]) (va_Qq (fun r' u => r' = Option.map (ad 50) res ∧ u = σ) (ctB G ad ca (LC z)) A) 0 0 A := by
  refine Met.ofW (cc := cX9_functionAt) (maxL := 2) (ret := (some (.object "CallBoard$Function"))) (by decide) rfl ?_
  intro p e s m args below meth c s₁ B hml hv
  obtain ⟨rfl, hP, hK, hz⟩ := hv
  have hx := B.exec
  have hb := B.bytes
  have hr := B.returns
  have hts : ∀ w ∈ WW, w.before _ s = true := fun w h => atoms_spec (ws := wsX9_functionAt) B.pre w (List.mem_cons_of_mem _ h)
  have hown : s.vm.findClass RX9 = some m.cls := findClass_of_methodNamed B.named
  have hlocks := B.notSynchronized
  have hS : va_S A s.heap s.heap [] := va_S.rf
  have k_25 := hts _ kf_X9_25
  have k_63 := hts _ kf_X9_63
  have hl := lv_entry ([.ref (ad 450 0), .int x1]) (n := 2) (Nat.le_of_ble_eq_true rfl)
  rw [lg_entry_eq]
  generalize (lg_sl ([.ref (ad 450 0), .int x1]) ++ List.replicate (2 - (lg_sl ([.ref (ad 450 0), .int x1])).length) Slot.unset).toArray = ls at hl ⊢
  have hl : lv_has ls 2 [(0, .ref (ad 450 0)), (1, .int x1)] := hl
  unfold X9_functionAt at hf
  refine lv_iload_n hx hb dX9_functionAt_0 rfl (lv_at hl 1 rfl) ?_
  refine lv_if_lt (tgt := 21) hx hb dX9_functionAt_1 rfl (fun hc => ?_) (fun hc => ?_)
  · have hf := b_p hf hc
    refine lv_null hx hb dX9_functionAt_21 ?_
    exact x_aret (o := none) (t0 := 50) hx hb hr hlocks hK hP hS (Option.some.inj hf) rfl dX9_functionAt_22
  · have hf := b_n hf hc
    refine lv_iload_n hx hb dX9_functionAt_4 rfl (lv_at hl 1 rfl) ?_
    refine lv_aload_n hx hb dX9_functionAt_5 rfl (lv_at hl 0 rfl) ?_
    refine x_get (k := 450) (n := 0) hx hb hts i_X9 hown hK hP (mk_450 h01) rfl rfl 9 (by decide) rfl k_63 (v := .int (gI σ 450 0 9)) rfl dX9_functionAt_6 ?_
    refine lv_icmp_ge (tgt := 21) hx hb dX9_functionAt_9 rfl (fun hc => ?_) (fun hc => ?_)
    · have hf := b_p hf hc
      refine lv_null hx hb dX9_functionAt_21 ?_
      exact x_aret (o := none) (t0 := 50) hx hb hr hlocks hK hP hS (Option.some.inj hf) rfl dX9_functionAt_22
    · have hf := b_n hf hc
      refine lv_aload_n hx hb dX9_functionAt_12 rfl (lv_at hl 0 rfl) ?_
      refine x_get (k := 450) (n := 0) hx hb hts i_X9 hown hK hP (mk_450 h01) rfl rfl 2 (by decide) rfl k_25 (v := .ref (ad 453 0)) rfl dX9_functionAt_13 ?_
      refine lv_iload_n hx hb dX9_functionAt_16 rfl (lv_at hl 1 rfl) ?_
      obtain ⟨g1, hf⟩ := gd_e hf
      obtain ⟨o2, e_o2, hf⟩ := nm_i hf
      refine x_aald (k := 453) (n := 0) (t := 50) hx hb hK hP (mk_453 h01) (by decide) g1 dX9_functionAt_17 e_o2 ?_
      refine lv_goto (tgt := 22) hx hb dX9_functionAt_18 rfl ?_
      exact x_aret (o := o2) (t0 := 50) hx hb hr hlocks hK hP hS (Option.some.inj hf) rfl dX9_functionAt_22
theorem h9_X9_freeze : yX9_freeze.cls = RX9 ∧ yX9_freeze.cls ≠ "java/lang/invoke/MethodHandle" ∧ yX9_freeze.cls ≠ "java/lang/invoke/VarHandle" ∧ (parseMethodDescriptor yX9_freeze.desc).map (fun d => d.parameters.length) = some 2 := by decide +kernel
set_option maxRecDepth 100000 in
set_option maxHeartbeats 4000000 in
theorem t_X9_freeze (l : Launch) (G : va_G) (ad : Nat → Nat → Nat) (ca : Nat → ClassId) (A : Nat → Prop) (z : Nat × Nat)  (x1 : Int32) (x2 : Int32) (hD : DW ad (LC z) A)  (σ : PS) (res : Int32) (σz : PS) (hf : X9_freeze z  x1 x2 σ = some (res, σz)) : Met l yX9_freeze wsX9_freeze ({ frames := 1, cells := 0, slots := 0, locals := 21 }) (ctP G ad ca (LC z) σ ZC [.ref (ad 450 0), .int x1, .int x2]) (va_Qi (fun r' u => r' = res ∧ u = σz) (ctB G ad ca (LC z)) A) 0 0 A := by
  refine Met.ofW (cc := cX9_freeze) (maxL := 4) (ret := (some .int)) (by decide) rfl ?_
  intro p e s m args below meth c s₁ B hml hv
  obtain ⟨rfl, hP, hK, hz⟩ := hv
  have hx := B.exec
  have hb := B.bytes
  have hr := B.returns
  have hts : ∀ w ∈ WW, w.before _ s = true := fun w h => atoms_spec (ws := wsX9_freeze) B.pre w (List.mem_cons_of_mem _ h)
  have hown : s.vm.findClass RX9 = some m.cls := findClass_of_methodNamed B.named
  have hlocks := B.notSynchronized
  have hS : va_S A s.heap s.heap [] := va_S.rf
  have k_159 := hts _ kf_X9_159
  have hl := lv_entry ([.ref (ad 450 0), .int x1, .int x2]) (n := 4) (Nat.le_of_ble_eq_true rfl)
  rw [lg_entry_eq]
  generalize (lg_sl ([.ref (ad 450 0), .int x1, .int x2]) ++ List.replicate (4 - (lg_sl ([.ref (ad 450 0), .int x1, .int x2])).length) Slot.unset).toArray = ls at hl ⊢
  have hl : lv_has ls 4 [(0, .ref (ad 450 0)), (1, .int x1), (2, .int x2)] := hl
  unfold X9_freeze at hf
  refine lv_aload_n hx hb dX9_freeze_0 rfl (lv_at hl 0 rfl) ?_
  refine lv_iload_n hx hb dX9_freeze_1 rfl (lv_at hl 1 rfl) ?_
  obtain ⟨r1, hc1, hf⟩ := bd_e hf
  refine x_cq (va_runV (As := [.int x1]) (rest := []) ⟨hx, hb, hml, hown, hts⟩ (t_X9_functionAt l G ad ca A z x1 hD  σ r1 hc1) (cwV 1 hts gr_X9_129 rfl rfl rfl h9_X9_functionAt ⟨Nat.le_of_ble_eq_true rfl, Nat.le_of_ble_eq_true rfl⟩) (x_prV zkC hz hK hP (mk_450 h01) rfl rfl) rfl rfl hl.1 rfl (lv_room (Nat.le_of_ble_eq_true rfl)) dX9_freeze_2 ⟨Nat.le_of_ble_eq_true rfl, Nat.le_of_ble_eq_true rfl⟩) hS (fun H locs hP hS => ?_)
  refine x_astore_nQ (lv' := [(3, va_rf (Option.map (ad 50) r1)), (0, .ref (ad 450 0)), (1, .int x1), (2, .int x2)]) hx hb dX9_freeze_5 rfl hl (by decide) rfl (fun ls hl => ?_)
  refine x_aload_nQ hx hb dX9_freeze_6 rfl (lv_at hl 0 rfl) ?_
  cases r1 with
  | none =>
    have hf := oc_n hf
    refine lv_ifnonnullN hx hb dX9_freeze_7 ?_
    refine lv_bipush (v := (-2 : Int32)) hx hb dX9_freeze_10 rfl ?_
    have hf := Option.some.inj hf
    exact x_iret hx hb hr hlocks hK hP hS (congrArg Prod.fst hf) (congrArg Prod.snd hf) dX9_freeze_12
  | some q2 =>
    obtain ⟨h_q2, hf⟩ := oc_s hf
    refine lv_ifnonnull (tgt := 13) hx hb dX9_freeze_7 rfl ?_
    refine lv_aload_n hx hb dX9_freeze_13 rfl (lv_at hl 0 rfl) ?_
    refine x_get (k := 50) (n := q2) hx hb hts i_X1 hown hK hP (mk_50 h_q2) rfl rfl 9 (by decide) rfl k_159 (v := .int (gI σ 50 q2 9)) rfl dX9_freeze_14 ?_
    refine lv_iload_n hx hb dX9_freeze_17 rfl (lv_at hl 3 rfl) ?_
    refine lv_icmp_ne (tgt := 23) hx hb dX9_freeze_18 rfl (fun hc => ?_) (fun hc => ?_)
    · have hf := b_n hf hc
      refine lv_aload_n hx hb dX9_freeze_23 rfl (lv_at hl 0 rfl) ?_
      refine lv_iload_n hx hb dX9_freeze_24 rfl (lv_at hl 3 rfl) ?_
      obtain ⟨g3, hf⟩ := gd_e hf
      refine x_putI (k := 50) (n := q2) hx hb hts i_X1 tyX1 tyX1_ok nmX1 hown hK hD hP hS (mk_50 h_q2) rfl rfl 9 (by decide) rfl k_159 rfl rfl (isB_nar g3) (isB_fit g3) dX9_freeze_25 (fun H locs hP hS => ?_)
      obtain ⟨σ4, e_σ4, hf⟩ := nm_i hf
      have hP : va_P G vwCl (wld ad ca σ4 (LC z)) H := by rw [e_σ4]; exact hP
      refine lv_iconst (v := (1 : Int32)) hx hb dX9_freeze_28 rfl ?_
      have hf := Option.some.inj hf
      exact x_iret hx hb hr hlocks hK hP hS (congrArg Prod.fst hf) (congrArg Prod.snd hf) dX9_freeze_29
    · have hf := b_p hf hc
      refine lv_iconst (v := (0 : Int32)) hx hb dX9_freeze_21 rfl ?_
      have hf := Option.some.inj hf
      exact x_iret hx hb hr hlocks hK hP hS (congrArg Prod.fst hf) (congrArg Prod.snd hf) dX9_freeze_22
theorem h9_X9_elementOrZero : yX9_elementOrZero.cls ≠ "java/lang/invoke/MethodHandle" ∧ yX9_elementOrZero.cls ≠ "java/lang/invoke/VarHandle" ∧ (parseMethodDescriptor yX9_elementOrZero.desc).map (fun d => d.parameters.length) = some 2 := by decide +kernel
set_option maxRecDepth 100000 in
set_option maxHeartbeats 4000000 in
theorem t_X9_elementOrZero (l : Launch) (G : va_G) (ad : Nat → Nat → Nat) (ca : Nat → ClassId) (A : Nat → Prop) (z : Nat × Nat)  (ka0 na0 : Nat) (x1 : Int32) (hD : DW ad (LC z) A) (hma0 : (ka0, na0) ∈ (LC z)) (hka0 : ak ka0 = 1) (σ : PS) (res : Int32) (hf : X9_elementOrZero z  ka0 na0 x1 σ = some res) : Met l yX9_elementOrZero wsX9_elementOrZero ({ frames := 0, cells := 0, slots := 0, locals := 0 }) (ctP G ad ca (LC z) σ ZC [.ref (ad ka0 na0), .int x1]) (va_Qi (fun r' u => r' = res ∧ u = σ) (ctB G ad ca (LC z)) A) 0 0 A := by
  refine Met.ofW (cc := cX9_elementOrZero) (maxL := 2) (ret := (some .int)) (by decide) rfl ?_
  intro p e s m args below meth c s₁ B hml hv
  obtain ⟨rfl, hP, hK, hz⟩ := hv
  have hx := B.exec
  have hb := B.bytes
  have hr := B.returns
  have hts : ∀ w ∈ WW, w.before _ s = true := fun w h => atoms_spec (ws := wsX9_elementOrZero) B.pre w (List.mem_cons_of_mem _ h)
  have hown : s.vm.findClass RX9 = some m.cls := findClass_of_methodNamed B.named
  have hlocks := B.notSynchronized
  have hS : va_S A s.heap s.heap [] := va_S.rf
  have hl := lv_entry ([.ref (ad ka0 na0), .int x1]) (n := 2) (Nat.le_of_ble_eq_true rfl)
  rw [lg_entry_eq]
  generalize (lg_sl ([.ref (ad ka0 na0), .int x1]) ++ List.replicate (2 - (lg_sl ([.ref (ad ka0 na0), .int x1])).length) Slot.unset).toArray = ls at hl ⊢
  have hl : lv_has ls 2 [(0, .ref (ad ka0 na0)), (1, .int x1)] := hl
  unfold X9_elementOrZero at hf
  refine lv_iload_n hx hb dX9_elementOrZero_0 rfl (lv_at hl 1 rfl) ?_
  refine lv_if_lt (tgt := 16) hx hb dX9_elementOrZero_1 rfl (fun hc => ?_) (fun hc => ?_)
  · have hf := b_p hf hc
    refine lv_iconst (v := (0 : Int32)) hx hb dX9_elementOrZero_16 rfl ?_
    exact x_iret hx hb hr hlocks hK hP hS (Option.some.inj hf) rfl dX9_elementOrZero_17
  · have hf := b_n hf hc
    refine lv_iload_n hx hb dX9_elementOrZero_4 rfl (lv_at hl 1 rfl) ?_
    refine lv_aload_n hx hb dX9_elementOrZero_5 rfl (lv_at hl 0 rfl) ?_
    refine x_alen (k := ka0) (n := na0) hx hb hK hP hma0 hka0 (v := (nI (al σ ka0 na0))) rfl dX9_elementOrZero_6 ?_
    refine lv_icmp_ge (tgt := 16) hx hb dX9_elementOrZero_7 rfl (fun hc => ?_) (fun hc => ?_)
    · have hf := b_p hf hc
      refine lv_iconst (v := (0 : Int32)) hx hb dX9_elementOrZero_16 rfl ?_
      exact x_iret hx hb hr hlocks hK hP hS (Option.some.inj hf) rfl dX9_elementOrZero_17
    · have hf := b_n hf hc
      refine lv_aload_n hx hb dX9_elementOrZero_10 rfl (lv_at hl 0 rfl) ?_
      refine lv_iload_n hx hb dX9_elementOrZero_11 rfl (lv_at hl 1 rfl) ?_
      obtain ⟨g1, hf⟩ := gd_e hf
      refine x_iald (k := ka0) (n := na0) hx hb hK hP hma0 hka0 g1 dX9_elementOrZero_12 ?_
      refine lv_goto (tgt := 17) hx hb dX9_elementOrZero_13 rfl ?_
      exact x_iret hx hb hr hlocks hK hP hS (Option.some.inj hf) rfl dX9_elementOrZero_17
theorem h9_X9_about : yX9_about.cls = RX9 ∧ yX9_about.cls ≠ "java/lang/invoke/MethodHandle" ∧ yX9_about.cls ≠ "java/lang/invoke/VarHandle" ∧ (parseMethodDescriptor yX9_about.desc).map (fun d => d.parameters.length) = some 2 := by decide +kernel
set_option maxRecDepth 100000 in
set_option maxHeartbeats 4000000 in
theorem t_X9_about (l : Launch) (G : va_G) (ad : Nat → Nat → Nat) (ca : Nat → ClassId) (A : Nat → Prop) (z : Nat × Nat)  (x1 : Int32) (x2 : Int32) (hD : DW ad (LC z) A)  (σ : PS) (res : Int32) (hf : X9_about z  x1 x2 σ = some res) : Met l yX9_about wsX9_about ({ frames := 1, cells := 0, slots := 0, locals := 21 }) (ctP G ad ca (LC z) σ ZC [.ref (ad 450 0), .int x1, .int x2]) (va_Qi (fun r' u => r' = res ∧ u = σ) (ctB G ad ca (LC z)) A) 0 0 A := by
  refine Met.ofW (cc := cX9_about) (maxL := 4) (ret := (some .int)) (by decide) rfl ?_
  intro p e s m args below meth c s₁ B hml hv
  obtain ⟨rfl, hP, hK, hz⟩ := hv
  have hx := B.exec
  have hb := B.bytes
  have hr := B.returns
  have hts : ∀ w ∈ WW, w.before _ s = true := fun w h => atoms_spec (ws := wsX9_about) B.pre w (List.mem_cons_of_mem _ h)
  have hown : s.vm.findClass RX9 = some m.cls := findClass_of_methodNamed B.named
  have hlocks := B.notSynchronized
  have hS : va_S A s.heap s.heap [] := va_S.rf
  have k_140 := hts _ kf_X9_140
  have k_147 := hts _ kf_X9_147
  have k_150 := hts _ kf_X9_150
  have k_153 := hts _ kf_X9_153
  have k_156 := hts _ kf_X9_156
  have k_173 := hts _ kf_X9_173
  have k_176 := hts _ kf_X9_176
  have k_179 := hts _ kf_X9_179
  have k_182 := hts _ kf_X9_182
  have hl := lv_entry ([.ref (ad 450 0), .int x1, .int x2]) (n := 4) (Nat.le_of_ble_eq_true rfl)
  rw [lg_entry_eq]
  generalize (lg_sl ([.ref (ad 450 0), .int x1, .int x2]) ++ List.replicate (4 - (lg_sl ([.ref (ad 450 0), .int x1, .int x2])).length) Slot.unset).toArray = ls at hl ⊢
  have hl : lv_has ls 4 [(0, .ref (ad 450 0)), (1, .int x1), (2, .int x2)] := hl
  unfold X9_about at hf
  refine lv_aload_n hx hb dX9_about_0 rfl (lv_at hl 0 rfl) ?_
  refine lv_iload_n hx hb dX9_about_1 rfl (lv_at hl 1 rfl) ?_
  obtain ⟨r1, hc1, hf⟩ := bd_e hf
  refine x_cq (va_runV (As := [.int x1]) (rest := []) ⟨hx, hb, hml, hown, hts⟩ (t_X9_handlerAt l G ad ca A z x1 hD  σ r1 hc1) (cwV 1 hts gr_X9_136 rfl rfl rfl h9_X9_handlerAt ⟨Nat.le_of_ble_eq_true rfl, Nat.le_of_ble_eq_true rfl⟩) (x_prV zkC hz hK hP (mk_450 h01) rfl rfl) rfl rfl hl.1 rfl (lv_room (Nat.le_of_ble_eq_true rfl)) dX9_about_2 ⟨Nat.le_of_ble_eq_true rfl, Nat.le_of_ble_eq_true rfl⟩) hS (fun H locs hP hS => ?_)
  refine x_astore_nQ (lv' := [(3, va_rf (Option.map (ad 100) r1)), (0, .ref (ad 450 0)), (1, .int x1), (2, .int x2)]) hx hb dX9_about_5 rfl hl (by decide) rfl (fun ls hl => ?_)
  refine x_aload_nQ hx hb dX9_about_6 rfl (lv_at hl 0 rfl) ?_
  cases r1 with
  | none =>
    have hf := oc_n hf
    refine lv_ifnonnullN hx hb dX9_about_7 ?_
    refine lv_bipush (v := (-2 : Int32)) hx hb dX9_about_10 rfl ?_
    exact x_iret hx hb hr hlocks hK hP hS (Option.some.inj hf) rfl dX9_about_12
  | some q2 =>
    obtain ⟨h_q2, hf⟩ := oc_s hf
    refine lv_ifnonnull (tgt := 13) hx hb dX9_about_7 rfl ?_
    refine lv_iload_n hx hb dX9_about_13 rfl (lv_at hl 3 rfl) ?_
    by_cases hc0 : x2 = (0 : Int32)
    · have hf := b_p hf hc0
      refine lv_tableIn (off := 58) (tgt := 72) hx hb dX9_about_14 (by rw [hc0]; decide) (by rw [hc0]; decide) (by rw [hc0]; rfl) rfl ?_
      refine lv_aload_n hx hb dX9_about_72 rfl (lv_at hl 0 rfl) ?_
      obtain ⟨q3, e_q3, h_q3, hf⟩ := dr_e hf
      refine x_get (k := 100) (n := q2) hx hb hts i_X2 hown hK hP (mk_100 h_q2) rfl rfl 0 (by decide) rfl k_140 (v := .ref (ad 50 q3)) (show va_rf (Option.map (ad 50) (gR σ 100 q2 0)) = _ by rw [e_q3]; rfl) dX9_about_73 ?_
      refine x_get (k := 50) (n := q3) hx hb hts i_X1 hown hK hP (mk_50 h_q3) rfl rfl 1 (by decide) rfl k_173 (v := .int (gI σ 50 q3 1)) rfl dX9_about_76 ?_
      exact x_iret hx hb hr hlocks hK hP hS (Option.some.inj hf) rfl dX9_about_79
    have hf := b_n hf hc0
    by_cases hc1 : x2 = (1 : Int32)
    · have hf := b_p hf hc1
      refine lv_tableIn (off := 66) (tgt := 80) hx hb dX9_about_14 (by rw [hc1]; decide) (by rw [hc1]; decide) (by rw [hc1]; rfl) rfl ?_
      refine lv_aload_n hx hb dX9_about_80 rfl (lv_at hl 0 rfl) ?_
      refine x_get (k := 100) (n := q2) hx hb hts i_X2 hown hK hP (mk_100 h_q2) rfl rfl 2 (by decide) rfl k_176 (v := .int (gI σ 100 q2 2)) rfl dX9_about_81 ?_
      exact x_iret hx hb hr hlocks hK hP hS (Option.some.inj hf) rfl dX9_about_84
    have hf := b_n hf hc1
    by_cases hc2 : x2 = (2 : Int32)
    · have hf := b_p hf hc2
      refine lv_tableIn (off := 71) (tgt := 85) hx hb dX9_about_14 (by rw [hc2]; decide) (by rw [hc2]; decide) (by rw [hc2]; rfl) rfl ?_
      refine lv_aload_n hx hb dX9_about_85 rfl (lv_at hl 0 rfl) ?_
      refine x_get (k := 100) (n := q2) hx hb hts i_X2 hown hK hP (mk_100 h_q2) rfl rfl 3 (by decide) rfl k_179 (v := .int (gI σ 100 q2 3)) rfl dX9_about_86 ?_
      exact x_iret hx hb hr hlocks hK hP hS (Option.some.inj hf) rfl dX9_about_89
    have hf := b_n hf hc2
    by_cases hc3 : x2 = (3 : Int32)
    · have hf := b_p hf hc3
      refine lv_tableIn (off := 76) (tgt := 90) hx hb dX9_about_14 (by rw [hc3]; decide) (by rw [hc3]; decide) (by rw [hc3]; rfl) rfl ?_
      refine lv_aload_n hx hb dX9_about_90 rfl (lv_at hl 0 rfl) ?_
      refine x_get (k := 100) (n := q2) hx hb hts i_X2 hown hK hP (mk_100 h_q2) rfl rfl 4 (by decide) rfl k_182 (v := .int (gI σ 100 q2 4)) rfl dX9_about_91 ?_
      refine lv_if_eq (tgt := 101) hx hb dX9_about_94 rfl (fun hc => ?_) (fun hc => ?_)
      · have hf := b_p hf hc
        refine lv_iconst (v := (0 : Int32)) hx hb dX9_about_101 rfl ?_
        exact x_iret hx hb hr hlocks hK hP hS (Option.some.inj hf) rfl dX9_about_102
      · have hf := b_n hf hc
        refine lv_iconst (v := (1 : Int32)) hx hb dX9_about_97 rfl ?_
        refine lv_goto (tgt := 102) hx hb dX9_about_98 rfl ?_
        exact x_iret hx hb hr hlocks hK hP hS (Option.some.inj hf) rfl dX9_about_102
    have hf := b_n hf hc3
    by_cases hc4 : x2 = (4 : Int32)
    · have hf := b_p hf hc4
      refine lv_tableIn (off := 89) (tgt := 103) hx hb dX9_about_14 (by rw [hc4]; decide) (by rw [hc4]; decide) (by rw [hc4]; rfl) rfl ?_
      refine lv_aload_n hx hb dX9_about_103 rfl (lv_at hl 0 rfl) ?_
      refine x_get (k := 100) (n := q2) hx hb hts i_X2 hown hK hP (mk_100 h_q2) rfl rfl 8 (by decide) rfl k_147 (v := .int (gI σ 100 q2 8)) rfl dX9_about_104 ?_
      exact x_iret hx hb hr hlocks hK hP hS (Option.some.inj hf) rfl dX9_about_107
    have hf := b_n hf hc4
    by_cases hc5 : x2 = (5 : Int32)
    · have hf := b_p hf hc5
      refine lv_tableIn (off := 94) (tgt := 108) hx hb dX9_about_14 (by rw [hc5]; decide) (by rw [hc5]; decide) (by rw [hc5]; rfl) rfl ?_
      refine lv_aload_n hx hb dX9_about_108 rfl (lv_at hl 0 rfl) ?_
      refine x_get (k := 100) (n := q2) hx hb hts i_X2 hown hK hP (mk_100 h_q2) rfl rfl 5 (by decide) rfl k_150 (v := .ref (ad 106 q2)) rfl dX9_about_109 ?_
      refine lv_iload_n hx hb dX9_about_112 rfl (lv_at hl 3 rfl) ?_
      refine lv_iconst (v := (5 : Int32)) hx hb dX9_about_113 rfl ?_
      refine lv_isub hx hb dX9_about_114 ?_
      obtain ⟨r4, hc4, hf⟩ := bd_e hf
      refine x_ci (va_runS (As := [.ref (ad 106 q2), .int (x2 - (5 : Int32))]) (rest := []) ⟨hx, hb, hml, hown, hts⟩ (t_X9_elementOrZero l G ad ca A z 106 q2 (x2 - (5 : Int32)) hD (mk_106 h_q2) rfl σ r4 hc4) (va_cwS 2 hts gr_X9_185 rfl rfl rfl h9_X9_elementOrZero ⟨Nat.le_of_ble_eq_true rfl, Nat.le_of_ble_eq_true rfl⟩) (x_prS zkC hz hK hP) rfl rfl hl.1 rfl (lv_room (Nat.le_of_ble_eq_true rfl)) dX9_about_115 ⟨Nat.le_of_ble_eq_true rfl, Nat.le_of_ble_eq_true rfl⟩) hS (fun H locs hP hS => ?_)
      exact x_iret hx hb hr hlocks hK hP hS (Option.some.inj hf) rfl dX9_about_118
    have hf := b_n hf hc5
    by_cases hc6 : x2 = (6 : Int32)
    · have hf := b_p hf hc6
      refine lv_tableIn (off := 94) (tgt := 108) hx hb dX9_about_14 (by rw [hc6]; decide) (by rw [hc6]; decide) (by rw [hc6]; rfl) rfl ?_
      refine lv_aload_n hx hb dX9_about_108 rfl (lv_at hl 0 rfl) ?_
      refine x_get (k := 100) (n := q2) hx hb hts i_X2 hown hK hP (mk_100 h_q2) rfl rfl 5 (by decide) rfl k_150 (v := .ref (ad 106 q2)) rfl dX9_about_109 ?_
      refine lv_iload_n hx hb dX9_about_112 rfl (lv_at hl 3 rfl) ?_
      refine lv_iconst (v := (5 : Int32)) hx hb dX9_about_113 rfl ?_
      refine lv_isub hx hb dX9_about_114 ?_
      obtain ⟨r5, hc5, hf⟩ := bd_e hf
      refine x_ci (va_runS (As := [.ref (ad 106 q2), .int (x2 - (5 : Int32))]) (rest := []) ⟨hx, hb, hml, hown, hts⟩ (t_X9_elementOrZero l G ad ca A z 106 q2 (x2 - (5 : Int32)) hD (mk_106 h_q2) rfl σ r5 hc5) (va_cwS 2 hts gr_X9_185 rfl rfl rfl h9_X9_elementOrZero ⟨Nat.le_of_ble_eq_true rfl, Nat.le_of_ble_eq_true rfl⟩) (x_prS zkC hz hK hP) rfl rfl hl.1 rfl (lv_room (Nat.le_of_ble_eq_true rfl)) dX9_about_115 ⟨Nat.le_of_ble_eq_true rfl, Nat.le_of_ble_eq_true rfl⟩) hS (fun H locs hP hS => ?_)
      exact x_iret hx hb hr hlocks hK hP hS (Option.some.inj hf) rfl dX9_about_118
    have hf := b_n hf hc6
    by_cases hc7 : x2 = (7 : Int32)
    · have hf := b_p hf hc7
      refine lv_tableIn (off := 105) (tgt := 119) hx hb dX9_about_14 (by rw [hc7]; decide) (by rw [hc7]; decide) (by rw [hc7]; rfl) rfl ?_
      refine lv_aload_n hx hb dX9_about_119 rfl (lv_at hl 0 rfl) ?_
      refine x_get (k := 100) (n := q2) hx hb hts i_X2 hown hK hP (mk_100 h_q2) rfl rfl 6 (by decide) rfl k_153 (v := .ref (ad 107 q2)) rfl dX9_about_120 ?_
      refine lv_iload_n hx hb dX9_about_123 rfl (lv_at hl 3 rfl) ?_
      refine lv_bipush (v := (7 : Int32)) hx hb dX9_about_124 rfl ?_
      refine lv_isub hx hb dX9_about_126 ?_
      obtain ⟨r6, hc6, hf⟩ := bd_e hf
      refine x_ci (va_runS (As := [.ref (ad 107 q2), .int (x2 - (7 : Int32))]) (rest := []) ⟨hx, hb, hml, hown, hts⟩ (t_X9_elementOrZero l G ad ca A z 107 q2 (x2 - (7 : Int32)) hD (mk_107 h_q2) rfl σ r6 hc6) (va_cwS 2 hts gr_X9_185 rfl rfl rfl h9_X9_elementOrZero ⟨Nat.le_of_ble_eq_true rfl, Nat.le_of_ble_eq_true rfl⟩) (x_prS zkC hz hK hP) rfl rfl hl.1 rfl (lv_room (Nat.le_of_ble_eq_true rfl)) dX9_about_127 ⟨Nat.le_of_ble_eq_true rfl, Nat.le_of_ble_eq_true rfl⟩) hS (fun H locs hP hS => ?_)
      exact x_iret hx hb hr hlocks hK hP hS (Option.some.inj hf) rfl dX9_about_130
    have hf := b_n hf hc7
    by_cases hc8 : x2 = (8 : Int32)
    · have hf := b_p hf hc8
      refine lv_tableIn (off := 105) (tgt := 119) hx hb dX9_about_14 (by rw [hc8]; decide) (by rw [hc8]; decide) (by rw [hc8]; rfl) rfl ?_
      refine lv_aload_n hx hb dX9_about_119 rfl (lv_at hl 0 rfl) ?_
      refine x_get (k := 100) (n := q2) hx hb hts i_X2 hown hK hP (mk_100 h_q2) rfl rfl 6 (by decide) rfl k_153 (v := .ref (ad 107 q2)) rfl dX9_about_120 ?_
      refine lv_iload_n hx hb dX9_about_123 rfl (lv_at hl 3 rfl) ?_
      refine lv_bipush (v := (7 : Int32)) hx hb dX9_about_124 rfl ?_
      refine lv_isub hx hb dX9_about_126 ?_
      obtain ⟨r7, hc7, hf⟩ := bd_e hf
      refine x_ci (va_runS (As := [.ref (ad 107 q2), .int (x2 - (7 : Int32))]) (rest := []) ⟨hx, hb, hml, hown, hts⟩ (t_X9_elementOrZero l G ad ca A z 107 q2 (x2 - (7 : Int32)) hD (mk_107 h_q2) rfl σ r7 hc7) (va_cwS 2 hts gr_X9_185 rfl rfl rfl h9_X9_elementOrZero ⟨Nat.le_of_ble_eq_true rfl, Nat.le_of_ble_eq_true rfl⟩) (x_prS zkC hz hK hP) rfl rfl hl.1 rfl (lv_room (Nat.le_of_ble_eq_true rfl)) dX9_about_127 ⟨Nat.le_of_ble_eq_true rfl, Nat.le_of_ble_eq_true rfl⟩) hS (fun H locs hP hS => ?_)
      exact x_iret hx hb hr hlocks hK hP hS (Option.some.inj hf) rfl dX9_about_130
    have hf := b_n hf hc8
    by_cases hc9 : x2 = (9 : Int32)
    · have hf := b_p hf hc9
      refine lv_tableIn (off := 117) (tgt := 131) hx hb dX9_about_14 (by rw [hc9]; decide) (by rw [hc9]; decide) (by rw [hc9]; rfl) rfl ?_
      refine lv_aload_n hx hb dX9_about_131 rfl (lv_at hl 0 rfl) ?_
      refine x_get (k := 100) (n := q2) hx hb hts i_X2 hown hK hP (mk_100 h_q2) rfl rfl 7 (by decide) rfl k_156 (v := .ref (ad 108 q2)) rfl dX9_about_132 ?_
      refine lv_iload_n hx hb dX9_about_135 rfl (lv_at hl 3 rfl) ?_
      refine lv_bipush (v := (9 : Int32)) hx hb dX9_about_136 rfl ?_
      refine lv_isub hx hb dX9_about_138 ?_
      obtain ⟨r8, hc8, hf⟩ := bd_e hf
      refine x_ci (va_runS (As := [.ref (ad 108 q2), .int (x2 - (9 : Int32))]) (rest := []) ⟨hx, hb, hml, hown, hts⟩ (t_X9_elementOrZero l G ad ca A z 108 q2 (x2 - (9 : Int32)) hD (mk_108 h_q2) rfl σ r8 hc8) (va_cwS 2 hts gr_X9_185 rfl rfl rfl h9_X9_elementOrZero ⟨Nat.le_of_ble_eq_true rfl, Nat.le_of_ble_eq_true rfl⟩) (x_prS zkC hz hK hP) rfl rfl hl.1 rfl (lv_room (Nat.le_of_ble_eq_true rfl)) dX9_about_139 ⟨Nat.le_of_ble_eq_true rfl, Nat.le_of_ble_eq_true rfl⟩) hS (fun H locs hP hS => ?_)
      exact x_iret hx hb hr hlocks hK hP hS (Option.some.inj hf) rfl dX9_about_142
    have hf := b_n hf hc9
    by_cases hc10 : x2 = (10 : Int32)
    · have hf := b_p hf hc10
      refine lv_tableIn (off := 117) (tgt := 131) hx hb dX9_about_14 (by rw [hc10]; decide) (by rw [hc10]; decide) (by rw [hc10]; rfl) rfl ?_
      refine lv_aload_n hx hb dX9_about_131 rfl (lv_at hl 0 rfl) ?_
      refine x_get (k := 100) (n := q2) hx hb hts i_X2 hown hK hP (mk_100 h_q2) rfl rfl 7 (by decide) rfl k_156 (v := .ref (ad 108 q2)) rfl dX9_about_132 ?_
      refine lv_iload_n hx hb dX9_about_135 rfl (lv_at hl 3 rfl) ?_
      refine lv_bipush (v := (9 : Int32)) hx hb dX9_about_136 rfl ?_
      refine lv_isub hx hb dX9_about_138 ?_
      obtain ⟨r9, hc9, hf⟩ := bd_e hf
      refine x_ci (va_runS (As := [.ref (ad 108 q2), .int (x2 - (9 : Int32))]) (rest := []) ⟨hx, hb, hml, hown, hts⟩ (t_X9_elementOrZero l G ad ca A z 108 q2 (x2 - (9 : Int32)) hD (mk_108 h_q2) rfl σ r9 hc9) (va_cwS 2 hts gr_X9_185 rfl rfl rfl h9_X9_elementOrZero ⟨Nat.le_of_ble_eq_true rfl, Nat.le_of_ble_eq_true rfl⟩) (x_prS zkC hz hK hP) rfl rfl hl.1 rfl (lv_room (Nat.le_of_ble_eq_true rfl)) dX9_about_139 ⟨Nat.le_of_ble_eq_true rfl, Nat.le_of_ble_eq_true rfl⟩) hS (fun H locs hP hS => ?_)
      exact x_iret hx hb hr hlocks hK hP hS (Option.some.inj hf) rfl dX9_about_142
    have hf := b_n hf hc10
    refine lv_tableOut (tgt := 143) hx hb dX9_about_14 (x_out (N := 10) (fun j hj => by rcases (show j = 0 ∨ j = 1 ∨ j = 2 ∨ j = 3 ∨ j = 4 ∨ j = 5 ∨ j = 6 ∨ j = 7 ∨ j = 8 ∨ j = 9 ∨ j = 10 by omega) with rfl | rfl | rfl | rfl | rfl | rfl | rfl | rfl | rfl | rfl | rfl <;> assumption)) rfl ?_
    refine lv_bipush (v := (-2 : Int32)) hx hb dX9_about_143 rfl ?_
    exact x_iret hx hb hr hlocks hK hP hS (Option.some.inj hf) rfl dX9_about_145
theorem h9_X9_dominates : yX9_dominates.cls = RX9 ∧ yX9_dominates.cls ≠ "java/lang/invoke/MethodHandle" ∧ yX9_dominates.cls ≠ "java/lang/invoke/VarHandle" ∧ (parseMethodDescriptor yX9_dominates.desc).map (fun d => d.parameters.length) = some 2 := by decide +kernel
set_option maxRecDepth 100000 in
set_option maxHeartbeats 4000000 in
theorem t_X9_dominates (l : Launch) (G : va_G) (ad : Nat → Nat → Nat) (ca : Nat → ClassId) (A : Nat → Prop) (z : Nat × Nat)  (x1 : Int32) (x2 : Int32) (hD : DW ad (LC z) A)  (σ : PS) (res : Int32) (hf : X9_dominates z  x1 x2 σ = some res) : Met l yX9_dominates wsX9_dominates ({ frames := 3, cells := 0, slots := 0, locals := 67 }) (ctP G ad ca (LC z) σ ZC [.ref (ad 450 0), .int x1, .int x2]) (va_Qi (fun r' u => r' = res ∧ u = σ) (ctB G ad ca (LC z)) A) 0 0 A := by
  refine Met.ofW (cc := cX9_dominates) (maxL := 5) (ret := (some .boolean)) (by decide) rfl ?_
  intro p e s m args below meth c s₁ B hml hv
  obtain ⟨rfl, hP, hK, hz⟩ := hv
  have hx := B.exec
  have hb := B.bytes
  have hr := B.returns
  have hts : ∀ w ∈ WW, w.before _ s = true := fun w h => atoms_spec (ws := wsX9_dominates) B.pre w (List.mem_cons_of_mem _ h)
  have hown : s.vm.findClass RX9 = some m.cls := findClass_of_methodNamed B.named
  have hlocks := B.notSynchronized
  have hS : va_S A s.heap s.heap [] := va_S.rf
  have k_140 := hts _ kf_X9_140
  have k_173 := hts _ kf_X9_173
  have hl := lv_entry ([.ref (ad 450 0), .int x1, .int x2]) (n := 5) (Nat.le_of_ble_eq_true rfl)
  rw [lg_entry_eq]
  generalize (lg_sl ([.ref (ad 450 0), .int x1, .int x2]) ++ List.replicate (5 - (lg_sl ([.ref (ad 450 0), .int x1, .int x2])).length) Slot.unset).toArray = ls at hl ⊢
  have hl : lv_has ls 5 [(0, .ref (ad 450 0)), (1, .int x1), (2, .int x2)] := hl
  unfold X9_dominates at hf
  refine lv_aload_n hx hb dX9_dominates_0 rfl (lv_at hl 0 rfl) ?_
  refine lv_iload_n hx hb dX9_dominates_1 rfl (lv_at hl 1 rfl) ?_
  obtain ⟨r1, hc1, hf⟩ := bd_e hf
  refine x_cq (va_runV (As := [.int x1]) (rest := []) ⟨hx, hb, hml, hown, hts⟩ (t_X9_handlerAt l G ad ca A z x1 hD  σ r1 hc1) (cwV 1 hts gr_X9_136 rfl rfl rfl h9_X9_handlerAt ⟨Nat.le_of_ble_eq_true rfl, Nat.le_of_ble_eq_true rfl⟩) (x_prV zkC hz hK hP (mk_450 h01) rfl rfl) rfl rfl hl.1 rfl (lv_room (Nat.le_of_ble_eq_true rfl)) dX9_dominates_2 ⟨Nat.le_of_ble_eq_true rfl, Nat.le_of_ble_eq_true rfl⟩) hS (fun H locs hP hS => ?_)
  refine x_astore_nQ (lv' := [(3, va_rf (Option.map (ad 100) r1)), (0, .ref (ad 450 0)), (1, .int x1), (2, .int x2)]) hx hb dX9_dominates_5 rfl hl (by decide) rfl (fun ls hl => ?_)
  refine lv_aload_n hx hb dX9_dominates_6 rfl (lv_at hl 1 rfl) ?_
  refine lv_iload_n hx hb dX9_dominates_7 rfl (lv_at hl 3 rfl) ?_
  obtain ⟨r2, hc2, hf⟩ := bd_e hf
  refine x_cq (va_runV (As := [.int x2]) (rest := []) ⟨hx, hb, hml, hown, hts⟩ (t_X9_handlerAt l G ad ca A z x2 hD  σ r2 hc2) (cwV 1 hts gr_X9_136 rfl rfl rfl h9_X9_handlerAt ⟨Nat.le_of_ble_eq_true rfl, Nat.le_of_ble_eq_true rfl⟩) (x_prV zkC hz hK hP (mk_450 h01) rfl rfl) rfl rfl hl.1 rfl (lv_room (Nat.le_of_ble_eq_true rfl)) dX9_dominates_8 ⟨Nat.le_of_ble_eq_true rfl, Nat.le_of_ble_eq_true rfl⟩) hS (fun H locs hP hS => ?_)
  refine x_astoreQ (lv' := [(4, va_rf (Option.map (ad 100) r2)), (3, va_rf (Option.map (ad 100) r1)), (0, .ref (ad 450 0)), (1, .int x1), (2, .int x2)]) hx hb dX9_dominates_11 hl (by decide) (by simp [List.filter, x_cat]) (fun ls hl => ?_)
  refine x_aload_nQ hx hb dX9_dominates_13 rfl (lv_at hl 1 rfl) ?_
  cases r1 with
  | none =>
    have hf := oc_n hf
    refine lv_ifnullN (tgt := 53) hx hb dX9_dominates_14 rfl ?_
    refine lv_iconst (v := (0 : Int32)) hx hb dX9_dominates_53 rfl ?_
    exact x_zret hx hb hr hlocks hK hP hS (by decide) (Option.some.inj hf) rfl dX9_dominates_54
  | some q3 =>
    obtain ⟨h_q3, hf⟩ := oc_s hf
    refine lv_ifnull hx hb dX9_dominates_14 ?_
    refine x_aloadQ hx hb dX9_dominates_17 (lv_at hl 0 rfl) ?_
    cases r2 with
    | none =>
      have hf := oc_n hf
      refine lv_ifnullN (tgt := 53) hx hb dX9_dominates_19 rfl ?_
      refine lv_iconst (v := (0 : Int32)) hx hb dX9_dominates_53 rfl ?_
      exact x_zret hx hb hr hlocks hK hP hS (by decide) (Option.some.inj hf) rfl dX9_dominates_54
    | some q4 =>
      obtain ⟨h_q4, hf⟩ := oc_s hf
      refine lv_ifnull hx hb dX9_dominates_19 ?_
      refine lv_aload_n hx hb dX9_dominates_22 rfl (lv_at hl 1 rfl) ?_
      obtain ⟨q5, e_q5, h_q5, hf⟩ := dr_e hf
      refine x_get (k := 100) (n := q3) hx hb hts i_X2 hown hK hP (mk_100 h_q3) rfl rfl 0 (by decide) rfl k_140 (v := .ref (ad 50 q5)) (show va_rf (Option.map (ad 50) (gR σ 100 q3 0)) = _ by rw [e_q5]; rfl) dX9_dominates_23 ?_
      refine x_get (k := 50) (n := q5) hx hb hts i_X1 hown hK hP (mk_50 h_q5) rfl rfl 1 (by decide) rfl k_173 (v := .int (gI σ 50 q5 1)) rfl dX9_dominates_26 ?_
      refine lv_aload hx hb dX9_dominates_29 (lv_at hl 0 rfl) ?_
      obtain ⟨q6, e_q6, h_q6, hf⟩ := dr_e hf
      refine x_get (k := 100) (n := q4) hx hb hts i_X2 hown hK hP (mk_100 h_q4) rfl rfl 0 (by decide) rfl k_140 (v := .ref (ad 50 q6)) (show va_rf (Option.map (ad 50) (gR σ 100 q4 0)) = _ by rw [e_q6]; rfl) dX9_dominates_31 ?_
      refine x_get (k := 50) (n := q6) hx hb hts i_X1 hown hK hP (mk_50 h_q6) rfl rfl 1 (by decide) rfl k_173 (v := .int (gI σ 50 q6 1)) rfl dX9_dominates_34 ?_
      refine lv_icmp_ne (tgt := 53) hx hb dX9_dominates_37 rfl (fun hc => ?_) (fun hc => ?_)
      · have hf := b_n hf hc
        refine lv_iconst (v := (0 : Int32)) hx hb dX9_dominates_53 rfl ?_
        exact x_zret hx hb hr hlocks hK hP hS (by decide) (Option.some.inj hf) rfl dX9_dominates_54
      · have hf := b_p hf hc
        refine lv_aload_n hx hb dX9_dominates_40 rfl (lv_at hl 1 rfl) ?_
        refine lv_aload hx hb dX9_dominates_41 (lv_at hl 0 rfl) ?_
        obtain ⟨r7, hc7, hf⟩ := bd_e hf
        refine x_ci (va_runV (As := [.ref (ad 100 q4)]) (rest := []) ⟨hx, hb, hml, hown, hts⟩ (t_X2_isMoreSpecific l G ad ca A z q3 q4 hD h_q3 h_q4 σ r7 hc7) (cwV 1 hts gr_X9_189 rfl rfl rfl h9_X2_isMoreSpecific ⟨Nat.le_of_ble_eq_true rfl, Nat.le_of_ble_eq_true rfl⟩) (x_prV zkC hz hK hP (mk_100 h_q3) rfl rfl) rfl rfl hl.1 rfl (lv_room (Nat.le_of_ble_eq_true rfl)) dX9_dominates_43 ⟨Nat.le_of_ble_eq_true rfl, Nat.le_of_ble_eq_true rfl⟩) hS (fun H locs hP hS => ?_)
        refine lv_if_eq (tgt := 53) hx hb dX9_dominates_46 rfl (fun hc => ?_) (fun hc => ?_)
        · have hf := b_p hf hc
          refine lv_iconst (v := (0 : Int32)) hx hb dX9_dominates_53 rfl ?_
          exact x_zret hx hb hr hlocks hK hP hS (by decide) (Option.some.inj hf) rfl dX9_dominates_54
        · have hf := b_n hf hc
          refine lv_iconst (v := (1 : Int32)) hx hb dX9_dominates_49 rfl ?_
          refine lv_goto (tgt := 54) hx hb dX9_dominates_50 rfl ?_
          exact x_zret hx hb hr hlocks hK hP hS (by decide) (Option.some.inj hf) rfl dX9_dominates_54
theorem h9_X9_order : yX9_order.cls = RX9 ∧ yX9_order.cls ≠ "java/lang/invoke/MethodHandle" ∧ yX9_order.cls ≠ "java/lang/invoke/VarHandle" ∧ (parseMethodDescriptor yX9_order.desc).map (fun d => d.parameters.length) = some 2 := by decide +kernel
set_option maxRecDepth 100000 in
set_option maxHeartbeats 4000000 in
theorem t_X9_order (l : Launch) (G : va_G) (ad : Nat → Nat → Nat) (ca : Nat → ClassId) (A : Nat → Prop) (z : Nat × Nat)  (x1 : Int32) (x2 : Int32) (hD : DW ad (LC z) A)  (σ : PS) (res : Int32) (hf : X9_order z  x1 x2 σ = some res) : Met l yX9_order wsX9_order ({ frames := 2, cells := 0, slots := 0, locals := 43 }) (ctP G ad ca (LC z) σ ZC [.ref (ad 450 0), .int x1, .int x2]) (va_Qi (fun r' u => r' = res ∧ u = σ) (ctB G ad ca (LC z)) A) 0 0 A := by
  refine Met.ofW (cc := cX9_order) (maxL := 4) (ret := (some .int)) (by decide) rfl ?_
  intro p e s m args below meth c s₁ B hml hv
  obtain ⟨rfl, hP, hK, hz⟩ := hv
  have hx := B.exec
  have hb := B.bytes
  have hr := B.returns
  have hts : ∀ w ∈ WW, w.before _ s = true := fun w h => atoms_spec (ws := wsX9_order) B.pre w (List.mem_cons_of_mem _ h)
  have hown : s.vm.findClass RX9 = some m.cls := findClass_of_methodNamed B.named
  have hlocks := B.notSynchronized
  have hS : va_S A s.heap s.heap [] := va_S.rf
  have k_192 := hts _ kf_X9_192
  have k_195 := hts _ kf_X9_195
  have hl := lv_entry ([.ref (ad 450 0), .int x1, .int x2]) (n := 4) (Nat.le_of_ble_eq_true rfl)
  rw [lg_entry_eq]
  generalize (lg_sl ([.ref (ad 450 0), .int x1, .int x2]) ++ List.replicate (4 - (lg_sl ([.ref (ad 450 0), .int x1, .int x2])).length) Slot.unset).toArray = ls at hl ⊢
  have hl : lv_has ls 4 [(0, .ref (ad 450 0)), (1, .int x1), (2, .int x2)] := hl
  unfold X9_order at hf
  refine lv_aload_n hx hb dX9_order_0 rfl (lv_at hl 0 rfl) ?_
  refine lv_iload_n hx hb dX9_order_1 rfl (lv_at hl 1 rfl) ?_
  obtain ⟨r1, hc1, hf⟩ := bd_e hf
  refine x_cq (va_runV (As := [.int x1]) (rest := []) ⟨hx, hb, hml, hown, hts⟩ (t_X9_functionAt l G ad ca A z x1 hD  σ r1 hc1) (cwV 1 hts gr_X9_129 rfl rfl rfl h9_X9_functionAt ⟨Nat.le_of_ble_eq_true rfl, Nat.le_of_ble_eq_true rfl⟩) (x_prV zkC hz hK hP (mk_450 h01) rfl rfl) rfl rfl hl.1 rfl (lv_room (Nat.le_of_ble_eq_true rfl)) dX9_order_2 ⟨Nat.le_of_ble_eq_true rfl, Nat.le_of_ble_eq_true rfl⟩) hS (fun H locs hP hS => ?_)
  refine x_astore_nQ (lv' := [(3, va_rf (Option.map (ad 50) r1)), (0, .ref (ad 450 0)), (1, .int x1), (2, .int x2)]) hx hb dX9_order_5 rfl hl (by decide) rfl (fun ls hl => ?_)
  refine x_aload_nQ hx hb dX9_order_6 rfl (lv_at hl 0 rfl) ?_
  cases r1 with
  | none =>
    have hf := oc_n hf
    refine lv_ifnullN (tgt := 22) hx hb dX9_order_7 rfl ?_
    refine lv_iconst (v := (-1 : Int32)) hx hb dX9_order_22 rfl ?_
    exact x_iret hx hb hr hlocks hK hP hS (Option.some.inj hf) rfl dX9_order_23
  | some q2 =>
    obtain ⟨h_q2, hf⟩ := oc_s hf
    refine lv_ifnull hx hb dX9_order_7 ?_
    refine lv_iload_n hx hb dX9_order_10 rfl (lv_at hl 3 rfl) ?_
    refine lv_if_lt (tgt := 22) hx hb dX9_order_11 rfl (fun hc => ?_) (fun hc => ?_)
    · have hf := b_p hf hc
      refine lv_iconst (v := (-1 : Int32)) hx hb dX9_order_22 rfl ?_
      exact x_iret hx hb hr hlocks hK hP hS (Option.some.inj hf) rfl dX9_order_23
    · have hf := b_n hf hc
      refine lv_iload_n hx hb dX9_order_14 rfl (lv_at hl 3 rfl) ?_
      refine lv_aload_n hx hb dX9_order_15 rfl (lv_at hl 0 rfl) ?_
      refine x_get (k := 50) (n := q2) hx hb hts i_X1 hown hK hP (mk_50 h_q2) rfl rfl 7 (by decide) rfl k_192 (v := .int (gI σ 50 q2 7)) rfl dX9_order_16 ?_
      refine lv_icmp_lt (tgt := 24) hx hb dX9_order_19 rfl (fun hc => ?_) (fun hc => ?_)
      · have hf := b_p hf hc
        refine lv_aload_n hx hb dX9_order_24 rfl (lv_at hl 0 rfl) ?_
        refine lv_aload_n hx hb dX9_order_25 rfl (lv_at hl 0 rfl) ?_
        refine x_get (k := 50) (n := q2) hx hb hts i_X1 hown hK hP (mk_50 h_q2) rfl rfl 4 (by decide) rfl k_195 (v := .ref (ad 55 q2)) rfl dX9_order_26 ?_
        refine lv_iload_n hx hb dX9_order_29 rfl (lv_at hl 3 rfl) ?_
        obtain ⟨g3, hf⟩ := gd_e hf
        refine x_iald (k := 55) (n := q2) hx hb hK hP (mk_55 h_q2) rfl g3 dX9_order_30 ?_
        obtain ⟨r4, hc4, hf⟩ := bd_e hf
        refine x_ci (va_runV (As := [.int (gI σ 55 q2 (ix x2))]) (rest := []) ⟨hx, hb, hml, hown, hts⟩ (t_X1_numberAt l G ad ca A z q2 (gI σ 55 q2 (ix x2)) hD h_q2 σ r4 hc4) (cwV 1 hts gr_X9_198 rfl rfl rfl h9_X1_numberAt ⟨Nat.le_of_ble_eq_true rfl, Nat.le_of_ble_eq_true rfl⟩) (x_prV zkC hz hK hP (mk_50 h_q2) rfl rfl) rfl rfl hl.1 rfl (lv_room (Nat.le_of_ble_eq_true rfl)) dX9_order_31 ⟨Nat.le_of_ble_eq_true rfl, Nat.le_of_ble_eq_true rfl⟩) hS (fun H locs hP hS => ?_)
        exact x_iret hx hb hr hlocks hK hP hS (Option.some.inj hf) rfl dX9_order_34
      · have hf := b_n hf hc
        refine lv_iconst (v := (-1 : Int32)) hx hb dX9_order_22 rfl ?_
        exact x_iret hx hb hr hlocks hK hP hS (Option.some.inj hf) rfl dX9_order_23
theorem h9_X9_arg : yX9_arg.cls = RX9 ∧ yX9_arg.cls ≠ "java/lang/invoke/MethodHandle" ∧ yX9_arg.cls ≠ "java/lang/invoke/VarHandle" ∧ (parseMethodDescriptor yX9_arg.desc).map (fun d => d.parameters.length) = some 2 := by decide +kernel
set_option maxRecDepth 100000 in
set_option maxHeartbeats 4000000 in
theorem t_X9_arg (l : Launch) (G : va_G) (ad : Nat → Nat → Nat) (ca : Nat → ClassId) (A : Nat → Prop) (z : Nat × Nat)  (x1 : Int32) (x2 : Int32) (hD : DW ad (LC z) A)  (σ : PS) (res : Int32) (σz : PS) (hf : X9_arg z  x1 x2 σ = some (res, σz)) : Met l yX9_arg wsX9_arg ({ frames := 1, cells := 0, slots := 0, locals := 21 }) (ctP G ad ca (LC z) σ ZC [.ref (ad 450 0), .int x1, .int x2]) (va_Qi (fun r' u => r' = res ∧ u = σz) (ctB G ad ca (LC z)) A) 0 0 A := by
  refine Met.ofW (cc := cX9_arg) (maxL := 3) (ret := (some .int)) (by decide) rfl ?_
  intro p e s m args below meth c s₁ B hml hv
  obtain ⟨rfl, hP, hK, hz⟩ := hv
  have hx := B.exec
  have hb := B.bytes
  have hr := B.returns
  have hts : ∀ w ∈ WW, w.before _ s = true := fun w h => atoms_spec (ws := wsX9_arg) B.pre w (List.mem_cons_of_mem _ h)
  have hown : s.vm.findClass RX9 = some m.cls := findClass_of_methodNamed B.named
  have hlocks := B.notSynchronized
  have hS : va_S A s.heap s.heap [] := va_S.rf
  have k_19 := hts _ kf_X9_19
  have k_35 := hts _ kf_X9_35
  have hl := lv_entry ([.ref (ad 450 0), .int x1, .int x2]) (n := 3) (Nat.le_of_ble_eq_true rfl)
  rw [lg_entry_eq]
  generalize (lg_sl ([.ref (ad 450 0), .int x1, .int x2]) ++ List.replicate (3 - (lg_sl ([.ref (ad 450 0), .int x1, .int x2])).length) Slot.unset).toArray = ls at hl ⊢
  have hl : lv_has ls 3 [(0, .ref (ad 450 0)), (1, .int x1), (2, .int x2)] := hl
  unfold X9_arg at hf
  refine lv_iload_n hx hb dX9_arg_0 rfl (lv_at hl 1 rfl) ?_
  refine lv_if_lt (tgt := 20) hx hb dX9_arg_1 rfl (fun hc => ?_) (fun hc => ?_)
  · have hf := b_p hf hc
    refine lv_bipush (v := (-2 : Int32)) hx hb dX9_arg_20 rfl ?_
    have hf := Option.some.inj hf
    exact x_iret hx hb hr hlocks hK hP hS (congrArg Prod.fst hf) (congrArg Prod.snd hf) dX9_arg_22
  · have hf := b_n hf hc
    refine lv_iload_n hx hb dX9_arg_4 rfl (lv_at hl 1 rfl) ?_
    refine lv_iconst (v := (2 : Int32)) hx hb dX9_arg_5 rfl ?_
    refine lv_icmp_ge (tgt := 20) hx hb dX9_arg_6 rfl (fun hc => ?_) (fun hc => ?_)
    · have hf := b_p hf hc
      refine lv_bipush (v := (-2 : Int32)) hx hb dX9_arg_20 rfl ?_
      have hf := Option.some.inj hf
      exact x_iret hx hb hr hlocks hK hP hS (congrArg Prod.fst hf) (congrArg Prod.snd hf) dX9_arg_22
    · have hf := b_n hf hc
      refine lv_aload_n hx hb dX9_arg_9 rfl (lv_at hl 0 rfl) ?_
      refine x_get (k := 450) (n := 0) hx hb hts i_X9 hown hK hP (mk_450 h01) rfl rfl 1 (by decide) rfl k_19 (v := .ref (ad 350 0)) rfl dX9_arg_10 ?_
      refine lv_iload_n hx hb dX9_arg_13 rfl (lv_at hl 2 rfl) ?_
      obtain ⟨r1, hc1, hf⟩ := bd_e hf
      refine x_ci (va_runV (As := [.int x2]) (rest := []) ⟨hx, hb, hml, hown, hts⟩ (t_X7_holds l G ad ca A z x2 hD  σ r1 hc1) (cwV 1 hts gr_X9_114 rfl rfl rfl h9_X7_holds ⟨Nat.le_of_ble_eq_true rfl, Nat.le_of_ble_eq_true rfl⟩) (x_prV zkC hz hK hP (mk_350 h01) rfl rfl) rfl rfl hl.1 rfl (lv_room (Nat.le_of_ble_eq_true rfl)) dX9_arg_14 ⟨Nat.le_of_ble_eq_true rfl, Nat.le_of_ble_eq_true rfl⟩) hS (fun H locs hP hS => ?_)
      refine lv_if_ne (tgt := 23) hx hb dX9_arg_17 rfl (fun hc => ?_) (fun hc => ?_)
      · have hf := b_n hf hc
        refine lv_aload_n hx hb dX9_arg_23 rfl (lv_at hl 0 rfl) ?_
        refine x_get (k := 450) (n := 0) hx hb hts i_X9 hown hK hP (mk_450 h01) rfl rfl 4 (by decide) rfl k_35 (v := .ref (ad 455 0)) rfl dX9_arg_24 ?_
        refine lv_iload_n hx hb dX9_arg_27 rfl (lv_at hl 1 rfl) ?_
        refine lv_iload_n hx hb dX9_arg_28 rfl (lv_at hl 2 rfl) ?_
        obtain ⟨g2, hf⟩ := gd_e hf
        refine x_iast (k := 455) (n := 0) hx hb hK hD hP hS (mk_455 h01) rfl g2 dX9_arg_29 (fun H locs hP hS => ?_)
        obtain ⟨σ3, e_σ3, hf⟩ := nm_i hf
        have hP : va_P G vwCl (wld ad ca σ3 (LC z)) H := by rw [e_σ3]; exact hP
        refine lv_iconst (v := (1 : Int32)) hx hb dX9_arg_30 rfl ?_
        have hf := Option.some.inj hf
        exact x_iret hx hb hr hlocks hK hP hS (congrArg Prod.fst hf) (congrArg Prod.snd hf) dX9_arg_31
      · have hf := b_p hf hc
        refine lv_bipush (v := (-2 : Int32)) hx hb dX9_arg_20 rfl ?_
        have hf := Option.some.inj hf
        exact x_iret hx hb hr hlocks hK hP hS (congrArg Prod.fst hf) (congrArg Prod.snd hf) dX9_arg_22
theorem h9_X9_readToldRow : yX9_readToldRow.cls = RX9 ∧ yX9_readToldRow.cls ≠ "java/lang/invoke/MethodHandle" ∧ yX9_readToldRow.cls ≠ "java/lang/invoke/VarHandle" ∧ (parseMethodDescriptor yX9_readToldRow.desc).map (fun d => d.parameters.length) = some 1 := by decide +kernel
set_option maxRecDepth 100000 in
set_option maxHeartbeats 4000000 in
theorem t_X9_readToldRow (l : Launch) (G : va_G) (ad : Nat → Nat → Nat) (ca : Nat → ClassId) (A : Nat → Prop) (z : Nat × Nat)  (n1 : Nat) (hD : DW ad (LC z) A) (hn1 : n1 < z.1) (σ : PS) (res : Int32) (σz : PS) (hf : X9_readToldRow z  n1 σ = some (res, σz)) : Met l yX9_readToldRow wsX9_readToldRow ({ frames := 1, cells := 0, slots := 0, locals := 21 }) (ctP G ad ca (LC z) σ ZC [.ref (ad 450 0), .ref (ad 50 n1)]) (va_Qi (fun r' u => r' = res ∧ u = σz) (ctB G ad ca (LC z)) A) 0 0 A := by
  refine Met.ofW (cc := cX9_readToldRow) (maxL := 4) (ret := (some .boolean)) (by decide) rfl ?_
  intro p e s m args below meth c s₁ B hml hv
  obtain ⟨rfl, hP, hK, hz⟩ := hv
  have hx := B.exec
  have hb := B.bytes
  have hr := B.returns
  have hts : ∀ w ∈ WW, w.before _ s = true := fun w h => atoms_spec (ws := wsX9_readToldRow) B.pre w (List.mem_cons_of_mem _ h)
  have hown : s.vm.findClass RX9 = some m.cls := findClass_of_methodNamed B.named
  have hlocks := B.notSynchronized
  have hS : va_S A s.heap s.heap [] := va_S.rf
  have k_19 := hts _ kf_X9_19
  have k_35 := hts _ kf_X9_35
  have k_45 := hts _ kf_X9_45
  have k_117 := hts _ kf_X9_117
  have k_120 := hts _ kf_X9_120
  have k_252 := hts _ kf_X9_252
  have k_283 := hts _ kf_X9_283
  have k_284 := hts _ kf_X9_284
  have k_285 := hts _ kf_X9_285
  have hl := lv_entry ([.ref (ad 450 0), .ref (ad 50 n1)]) (n := 4) (Nat.le_of_ble_eq_true rfl)
  rw [lg_entry_eq]
  generalize (lg_sl ([.ref (ad 450 0), .ref (ad 50 n1)]) ++ List.replicate (4 - (lg_sl ([.ref (ad 450 0), .ref (ad 50 n1)])).length) Slot.unset).toArray = ls at hl ⊢
  have hl : lv_has ls 4 [(0, .ref (ad 450 0)), (1, .ref (ad 50 n1))] := hl
  unfold X9_readToldRow at hf
  have l2 : ∀ (kx2 : Nat → PS → Option (Int32 × PS)), (∀ (v1 : Nat) (σ : PS) (H : Heap) (locs : List Loc) (ls : Array Slot), v1 < z.1 → kx2 v1 σ = some (res, σz) → lv_has ls 4 [(0, .ref (ad 450 0)), (1, .ref (ad 50 v1))] → va_P G vwCl (wld ad ca σ (LC z)) H → va_S A s.heap H locs → W p l e (headSpec wsX9_readToldRow ({ frames := 1, cells := 0, slots := 0, locals := 21 })).room s m (([.ref (ad 450 0), .ref (ad 50 n1)] : List Value).toArray) below meth c H locs 0 0 (MQ below (va_Qi (fun r' u => r' = res ∧ u = σz) (ctB G ad ca (LC z)) A) (([.ref (ad 450 0), .ref (ad 50 n1)] : List Value).toArray) s 0 0 A) (F0 m 72 ls [])) → ∀ (n2 : Nat) (v1 : Nat) (v2 : Int32) (σ : PS) (H : Heap) (locs : List Loc) (ls : Array Slot), v1 < z.1 → X9_readToldRow_l2 z kx2 n2 v1 v2 σ = some (res, σz) → lv_has ls 4 [(0, .ref (ad 450 0)), (1, .ref (ad 50 v1)), (2, .int v2)] → va_P G vwCl (wld ad ca σ (LC z)) H → va_S A s.heap H locs → W p l e (headSpec wsX9_readToldRow ({ frames := 1, cells := 0, slots := 0, locals := 21 })).room s m (([.ref (ad 450 0), .ref (ad 50 n1)] : List Value).toArray) below meth c H locs 0 0 (MQ below (va_Qi (fun r' u => r' = res ∧ u = σz) (ctB G ad ca (LC z)) A) (([.ref (ad 450 0), .ref (ad 50 n1)] : List Value).toArray) s 0 0 A) (F0 m 2 ls []) := by
    intro kx2 hx2 n2
    induction n2 with
    | zero =>
      intro v1 v2 σ H locs ls h_v1 hf
      exact absurd hf (by simp [X9_readToldRow_l2])
    | succ n2 ih2 =>
      intro v1 v2 σ H locs ls h_v1 hf hl hP hS
      rw [X9_readToldRow_l2.eq_2] at hf
      refine lv_iload_n hx hb dX9_readToldRow_2 rfl (lv_at hl 2 rfl) ?_
      refine lv_aload_n hx hb dX9_readToldRow_3 rfl (lv_at hl 1 rfl) ?_
      refine x_get (k := 50) (n := v1) hx hb hts i_X1 hown hK hP (mk_50 h_v1) rfl rfl 2 (by decide) rfl k_252 (v := .int (gI σ 50 v1 2)) rfl dX9_readToldRow_4 ?_
      refine lv_icmp_ge (tgt := 72) hx hb dX9_readToldRow_7 rfl (fun hc => ?_) (fun hc => ?_)
      · have hf := b_p hf hc
        exact hx2 v1 σ _ _ _ h_v1 hf (lv_sub hl [0, 1] rfl) hP hS
      · have hf := b_n hf hc
        refine lv_aload_n hx hb dX9_readToldRow_10 rfl (lv_at hl 0 rfl) ?_
        refine x_get (k := 450) (n := 0) hx hb hts i_X9 hown hK hP (mk_450 h01) rfl rfl 4 (by decide) rfl k_35 (v := .ref (ad 455 0)) rfl dX9_readToldRow_11 ?_
        refine lv_iload_n hx hb dX9_readToldRow_14 rfl (lv_at hl 2 rfl) ?_
        obtain ⟨g1, hf⟩ := gd_e hf
        refine x_iald (k := 455) (n := 0) hx hb hK hP (mk_455 h01) rfl g1 dX9_readToldRow_15 ?_
        obtain ⟨y2, e_y2, hf⟩ := nm_i hf
        refine x_nmI e_y2 ?_
        refine lv_istore_n (lv' := [(3, .int y2), (0, .ref (ad 450 0)), (1, .ref (ad 50 v1)), (2, .int v2)]) hx hb dX9_readToldRow_16 rfl hl (by decide) rfl (fun ls hl => ?_)
        refine lv_aload_n hx hb dX9_readToldRow_17 rfl (lv_at hl 1 rfl) ?_
        refine x_get (k := 450) (n := 0) hx hb hts i_X9 hown hK hP (mk_450 h01) rfl rfl 1 (by decide) rfl k_19 (v := .ref (ad 350 0)) rfl dX9_readToldRow_18 ?_
        refine lv_iload_n hx hb dX9_readToldRow_21 rfl (lv_at hl 0 rfl) ?_
        obtain ⟨r3, hc3, hf⟩ := bd_e hf
        refine x_ci (va_runV (As := [.int y2]) (rest := []) ⟨hx, hb, hml, hown, hts⟩ (t_X7_holds l G ad ca A z y2 hD  σ r3 hc3) (cwV 1 hts gr_X9_114 rfl rfl rfl h9_X7_holds ⟨Nat.le_of_ble_eq_true rfl, Nat.le_of_ble_eq_true rfl⟩) (x_prV zkC hz hK hP (mk_350 h01) rfl rfl) rfl rfl hl.1 rfl (lv_room (Nat.le_of_ble_eq_true rfl)) dX9_readToldRow_22 ⟨Nat.le_of_ble_eq_true rfl, Nat.le_of_ble_eq_true rfl⟩) hS (fun H locs hP hS => ?_)
        refine lv_if_ne (tgt := 30) hx hb dX9_readToldRow_25 rfl (fun hc => ?_) (fun hc => ?_)
        · have hf := b_n hf hc
          refine lv_aload_n hx hb dX9_readToldRow_30 rfl (lv_at hl 1 rfl) ?_
          refine x_get (k := 450) (n := 0) hx hb hts i_X9 hown hK hP (mk_450 h01) rfl rfl 6 (by decide) rfl k_45 (v := .ref (ad 300 0)) rfl dX9_readToldRow_31 ?_
          refine x_get (k := 300) (n := 0) hx hb hts i_X6 hown hK hP (mk_300 h01) rfl rfl 0 (by decide) rfl k_283 (v := .ref (ad 301 0)) rfl dX9_readToldRow_34 ?_
          refine lv_iload_n hx hb dX9_readToldRow_37 rfl (lv_at hl 3 rfl) ?_
          refine lv_aload_n hx hb dX9_readToldRow_38 rfl (lv_at hl 1 rfl) ?_
          refine x_get (k := 450) (n := 0) hx hb hts i_X9 hown hK hP (mk_450 h01) rfl rfl 1 (by decide) rfl k_19 (v := .ref (ad 350 0)) rfl dX9_readToldRow_39 ?_
          refine x_get (k := 350) (n := 0) hx hb hts i_X7 hown hK hP (mk_350 h01) rfl rfl 0 (by decide) rfl k_117 (v := .ref (ad 351 0)) rfl dX9_readToldRow_42 ?_
          refine lv_iload_n hx hb dX9_readToldRow_45 rfl (lv_at hl 0 rfl) ?_
          obtain ⟨g4, hf⟩ := gd_e hf
          refine x_iald (k := 351) (n := 0) hx hb hK hP (mk_351 h01) rfl g4 dX9_readToldRow_46 ?_
          obtain ⟨g5, hf⟩ := gd_e hf
          refine x_iast (k := 301) (n := 0) hx hb hK hD hP hS (mk_301 h01) rfl g5 dX9_readToldRow_47 (fun H locs hP hS => ?_)
          obtain ⟨σ6, e_σ6, hf⟩ := nm_i hf
          have hP : va_P G vwCl (wld ad ca σ6 (LC z)) H := by rw [e_σ6]; exact hP
          refine lv_aload_n hx hb dX9_readToldRow_48 rfl (lv_at hl 1 rfl) ?_
          refine x_get (k := 450) (n := 0) hx hb hts i_X9 hown hK hP (mk_450 h01) rfl rfl 6 (by decide) rfl k_45 (v := .ref (ad 300 0)) rfl dX9_readToldRow_49 ?_
          refine x_get (k := 300) (n := 0) hx hb hts i_X6 hown hK hP (mk_300 h01) rfl rfl 1 (by decide) rfl k_284 (v := .ref (ad 302 0)) rfl dX9_readToldRow_52 ?_
          refine lv_iload_n hx hb dX9_readToldRow_55 rfl (lv_at hl 3 rfl) ?_
          refine lv_aload_n hx hb dX9_readToldRow_56 rfl (lv_at hl 1 rfl) ?_
          refine x_get (k := 450) (n := 0) hx hb hts i_X9 hown hK hP (mk_450 h01) rfl rfl 1 (by decide) rfl k_19 (v := .ref (ad 350 0)) rfl dX9_readToldRow_57 ?_
          refine x_get (k := 350) (n := 0) hx hb hts i_X7 hown hK hP (mk_350 h01) rfl rfl 1 (by decide) rfl k_120 (v := .ref (ad 352 0)) rfl dX9_readToldRow_60 ?_
          refine lv_iload_n hx hb dX9_readToldRow_63 rfl (lv_at hl 0 rfl) ?_
          obtain ⟨g7, hf⟩ := gd_e hf
          refine x_iald (k := 352) (n := 0) hx hb hK hP (mk_352 h01) rfl g7 dX9_readToldRow_64 ?_
          obtain ⟨g8, hf⟩ := gd_e hf
          refine x_iast (k := 302) (n := 0) hx hb hK hD hP hS (mk_302 h01) rfl g8 dX9_readToldRow_65 (fun H locs hP hS => ?_)
          obtain ⟨σ9, e_σ9, hf⟩ := nm_i hf
          have hP : va_P G vwCl (wld ad ca σ9 (LC z)) H := by rw [e_σ9]; exact hP
          refine lv_iinc (v := (v2 + (1 : Int32))) (lv' := [(2, .int (v2 + (1 : Int32))), (3, .int y2), (0, .ref (ad 450 0)), (1, .ref (ad 50 v1))]) hx hb dX9_readToldRow_66 hl (k := 3) rfl rfl (by decide) rfl (fun ls hl => ?_)
          refine lv_goto (tgt := 2) hx hb dX9_readToldRow_69 rfl ?_
          exact ih2 v1 (v2 + (1 : Int32)) σ9 _ _ _ h_v1 hf (lv_sub hl [2, 3, 0] rfl) hP hS
        · have hf := b_p hf hc
          refine lv_iconst (v := (0 : Int32)) hx hb dX9_readToldRow_28 rfl ?_
          have hf := Option.some.inj hf
          exact x_zret hx hb hr hlocks hK hP hS (by decide) (congrArg Prod.fst hf) (congrArg Prod.snd hf) dX9_readToldRow_29
  have c72 : ∀ (v1 : Nat) (σ : PS) (H : Heap) (locs : List Loc) (ls : Array Slot), v1 < z.1 → X9_readToldRow_c72 z v1 σ = some (res, σz) → lv_has ls 4 [(0, .ref (ad 450 0)), (1, .ref (ad 50 v1))] → va_P G vwCl (wld ad ca σ (LC z)) H → va_S A s.heap H locs → W p l e (headSpec wsX9_readToldRow ({ frames := 1, cells := 0, slots := 0, locals := 21 })).room s m (([.ref (ad 450 0), .ref (ad 50 n1)] : List Value).toArray) below meth c H locs 0 0 (MQ below (va_Qi (fun r' u => r' = res ∧ u = σz) (ctB G ad ca (LC z)) A) (([.ref (ad 450 0), .ref (ad 50 n1)] : List Value).toArray) s 0 0 A) (F0 m 72 ls []) := by
    intro v1 σ H locs ls h_v1 hf hl hP hS
    unfold X9_readToldRow_c72 at hf
    refine lv_aload_n hx hb dX9_readToldRow_72 rfl (lv_at hl 0 rfl) ?_
    refine x_get (k := 450) (n := 0) hx hb hts i_X9 hown hK hP (mk_450 h01) rfl rfl 6 (by decide) rfl k_45 (v := .ref (ad 300 0)) rfl dX9_readToldRow_73 ?_
    refine lv_aload_n hx hb dX9_readToldRow_76 rfl (lv_at hl 1 rfl) ?_
    refine x_get (k := 50) (n := v1) hx hb hts i_X1 hown hK hP (mk_50 h_v1) rfl rfl 2 (by decide) rfl k_252 (v := .int (gI σ 50 v1 2)) rfl dX9_readToldRow_77 ?_
    refine x_putI (k := 300) (n := 0) hx hb hts i_X6 tyX6 tyX6_ok nmX6 hown hK hD hP hS (mk_300 h01) rfl rfl 2 (by decide) rfl k_285 rfl rfl rfl rfl dX9_readToldRow_80 (fun H locs hP hS => ?_)
    obtain ⟨σ10, e_σ10, hf⟩ := nm_i hf
    have hP : va_P G vwCl (wld ad ca σ10 (LC z)) H := by rw [e_σ10]; exact hP
    refine lv_iconst (v := (1 : Int32)) hx hb dX9_readToldRow_83 rfl ?_
    have hf := Option.some.inj hf
    exact x_zret hx hb hr hlocks hK hP hS (by decide) (congrArg Prod.fst hf) (congrArg Prod.snd hf) dX9_readToldRow_84
  refine lv_iconst (v := (0 : Int32)) hx hb dX9_readToldRow_0 rfl ?_
  refine lv_istore_n (lv' := [(2, .int (0 : Int32)), (0, .ref (ad 450 0)), (1, .ref (ad 50 n1))]) hx hb dX9_readToldRow_1 rfl hl (by decide) rfl (fun ls hl => ?_)
  exact l2 _ c72 _ n1 (0 : Int32) σ _ _ _ hn1 hf (lv_sub hl [1, 2, 0] rfl) hP hS

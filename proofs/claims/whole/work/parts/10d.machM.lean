theorem h9_X10_choose : yX10_choose.cls = RX10 ∧ yX10_choose.cls ≠ "java/lang/invoke/MethodHandle" ∧ yX10_choose.cls ≠ "java/lang/invoke/VarHandle" ∧ (parseMethodDescriptor yX10_choose.desc).map (fun d => d.parameters.length) = some 2 := by decide +kernel
set_option maxRecDepth 100000 in
set_option maxHeartbeats 4000000 in
theorem t_X10_choose (l : Launch) (G : va_G) (ad : Nat → Nat → Nat) (ca : Nat → ClassId) (A : Nat → Prop)   (x1 : Int32) (x2 : Int32) (hD : DW ad LM A)  (σ : PS) (res : Int32) (hf : X10_choose  x1 x2 σ = some res) : Met l yX10_choose wsX10_choose ({ frames := 5, cells := 0, slots := 0, locals := 123 }) (ctP G ad ca LM σ ZM [.ref (ad 500 0), .int x1, .int x2]) (va_Qi (fun r' u => r' = res ∧ u = σ) (ctB G ad ca LM) A) 0 0 A := by
  refine Met.ofW (cc := cX10_choose) (maxL := 4) (ret := (some .int)) (by decide) rfl ?_
  intro p e s m args below meth c s₁ B hml hv
  obtain ⟨rfl, hP, hK, hz⟩ := hv
  have hx := B.exec
  have hb := B.bytes
  have hr := B.returns
  have hts : ∀ w ∈ WW, w.before _ s = true := fun w h => atoms_spec (ws := wsX10_choose) B.pre w (List.mem_cons_of_mem _ h)
  have hown : s.vm.findClass RX10 = some m.cls := findClass_of_methodNamed B.named
  have hlocks := B.notSynchronized
  have hS : va_S A s.heap s.heap [] := va_S.rf
  have hl := lv_entry ([.ref (ad 500 0), .int x1, .int x2]) (n := 4) (Nat.le_of_ble_eq_true rfl)
  rw [lg_entry_eq]
  generalize (lg_sl ([.ref (ad 500 0), .int x1, .int x2]) ++ List.replicate (4 - (lg_sl ([.ref (ad 500 0), .int x1, .int x2])).length) Slot.unset).toArray = ls at hl ⊢
  have hl : lv_has ls 4 [(0, .ref (ad 500 0)), (1, .int x1), (2, .int x2)] := hl
  unfold X10_choose at hf
  refine lv_aload_n hx hb dX10_choose_0 rfl (lv_at hl 0 rfl) ?_
  refine lv_iload_n hx hb dX10_choose_1 rfl (lv_at hl 1 rfl) ?_
  refine lv_iload_n hx hb dX10_choose_2 rfl (lv_at hl 2 rfl) ?_
  obtain ⟨r1, hc1, hf⟩ := bd_e hf
  refine x_ci (va_runV (As := [.int x1, .int x2]) (rest := []) ⟨hx, hb, hml, hown, hts⟩ (t_X10_offered l G ad ca A x1 x2 hD  σ r1 hc1) (cwV 2 hts gr_X10_203 rfl rfl rfl h9_X10_offered ⟨Nat.le_of_ble_eq_true rfl, Nat.le_of_ble_eq_true rfl⟩) (x_prV zkM hz hK hP (mk_500 h01) rfl rfl) rfl rfl hl.1 rfl (lv_room (Nat.le_of_ble_eq_true rfl)) dX10_choose_3 ⟨Nat.le_of_ble_eq_true rfl, Nat.le_of_ble_eq_true rfl⟩) hS (fun H locs hP hS => ?_)
  refine lv_if_ne (tgt := 12) hx hb dX10_choose_6 rfl (fun hc => ?_) (fun hc => ?_)
  · have hf := b_n hf hc
    refine lv_aload_n hx hb dX10_choose_12 rfl (lv_at hl 0 rfl) ?_
    refine lv_iload_n hx hb dX10_choose_13 rfl (lv_at hl 1 rfl) ?_
    refine lv_iload_n hx hb dX10_choose_14 rfl (lv_at hl 2 rfl) ?_
    obtain ⟨r2, hc2, hf⟩ := bd_e hf
    refine x_ci (va_runV (As := [.int x1, .int x2]) (rest := []) ⟨hx, hb, hml, hown, hts⟩ (t_X10_chosen l G ad ca A x1 x2 hD  σ r2 hc2) (cwV 2 hts gr_X10_206 rfl rfl rfl h9_X10_chosen ⟨Nat.le_of_ble_eq_true rfl, Nat.le_of_ble_eq_true rfl⟩) (x_prV zkM hz hK hP (mk_500 h01) rfl rfl) rfl rfl hl.1 rfl (lv_room (Nat.le_of_ble_eq_true rfl)) dX10_choose_15 ⟨Nat.le_of_ble_eq_true rfl, Nat.le_of_ble_eq_true rfl⟩) hS (fun H locs hP hS => ?_)
    refine lv_istore_n (lv' := [(3, .int r2), (0, .ref (ad 500 0)), (1, .int x1), (2, .int x2)]) hx hb dX10_choose_18 rfl hl (by decide) rfl (fun ls hl => ?_)
    refine lv_iload_n hx hb dX10_choose_19 rfl (lv_at hl 0 rfl) ?_
    refine lv_if_ge (tgt := 28) hx hb dX10_choose_20 rfl (fun hc => ?_) (fun hc => ?_)
    · have hf := b_p hf hc
      refine lv_iload_n hx hb dX10_choose_28 rfl (lv_at hl 0 rfl) ?_
      exact x_iret hx hb hr hlocks hK hP hS (Option.some.inj hf) rfl dX10_choose_29
    · have hf := b_n hf hc
      refine lv_bipush (v := (-4 : Int32)) hx hb dX10_choose_23 rfl ?_
      refine lv_goto (tgt := 29) hx hb dX10_choose_25 rfl ?_
      exact x_iret hx hb hr hlocks hK hP hS (Option.some.inj hf) rfl dX10_choose_29
  · have hf := b_p hf hc
    refine lv_bipush (v := (-3 : Int32)) hx hb dX10_choose_9 rfl ?_
    exact x_iret hx hb hr hlocks hK hP hS (Option.some.inj hf) rfl dX10_choose_11
theorem h9_X10_begin : yX10_begin.cls = RX10 ∧ yX10_begin.cls ≠ "java/lang/invoke/MethodHandle" ∧ yX10_begin.cls ≠ "java/lang/invoke/VarHandle" ∧ (parseMethodDescriptor yX10_begin.desc).map (fun d => d.parameters.length) = some 1 := by decide +kernel
set_option maxRecDepth 100000 in
set_option maxHeartbeats 4000000 in
theorem t_X10_begin (l : Launch) (G : va_G) (ad : Nat → Nat → Nat) (ca : Nat → ClassId) (A : Nat → Prop)   (x1 : Int32) (hD : DW ad LM A)  (σ : PS) (res : Int32) (σz : PS) (hf : X10_begin  x1 σ = some (res, σz)) : Met l yX10_begin wsX10_begin ({ frames := 6, cells := 0, slots := 0, locals := 146 }) (ctP G ad ca LM σ ZM [.ref (ad 500 0), .int x1]) (va_Qi (fun r' u => r' = res ∧ u = σz) (ctB G ad ca LM) A) 0 0 A := by
  refine Met.ofW (cc := cX10_begin) (maxL := 2) (ret := (some .int)) (by decide) rfl ?_
  intro p e s m args below meth c s₁ B hml hv
  obtain ⟨rfl, hP, hK, hz⟩ := hv
  have hx := B.exec
  have hb := B.bytes
  have hr := B.returns
  have hts : ∀ w ∈ WW, w.before _ s = true := fun w h => atoms_spec (ws := wsX10_begin) B.pre w (List.mem_cons_of_mem _ h)
  have hown : s.vm.findClass RX10 = some m.cls := findClass_of_methodNamed B.named
  have hlocks := B.notSynchronized
  have hS : va_S A s.heap s.heap [] := va_S.rf
  have k_191 := hts _ kf_X10_191
  have hl := lv_entry ([.ref (ad 500 0), .int x1]) (n := 2) (Nat.le_of_ble_eq_true rfl)
  rw [lg_entry_eq]
  generalize (lg_sl ([.ref (ad 500 0), .int x1]) ++ List.replicate (2 - (lg_sl ([.ref (ad 500 0), .int x1])).length) Slot.unset).toArray = ls at hl ⊢
  have hl : lv_has ls 2 [(0, .ref (ad 500 0)), (1, .int x1)] := hl
  unfold X10_begin at hf
  refine lv_aload_n hx hb dX10_begin_0 rfl (lv_at hl 0 rfl) ?_
  refine x_get (k := 500) (n := 0) hx hb hts i_X10 hown hK hP (mk_500 h01) rfl rfl 30 (by decide) rfl k_191 (v := .int (gI σ 500 0 30)) rfl dX10_begin_1 ?_
  refine lv_bipush (v := (12 : Int32)) hx hb dX10_begin_4 rfl ?_
  refine lv_icmp_ne (tgt := 12) hx hb dX10_begin_6 rfl (fun hc => ?_) (fun hc => ?_)
  · have hf := b_n hf hc
    refine lv_aload_n hx hb dX10_begin_12 rfl (lv_at hl 0 rfl) ?_
    refine lv_dup hx hb dX10_begin_13 rfl ?_
    refine x_get (k := 500) (n := 0) hx hb hts i_X10 hown hK hP (mk_500 h01) rfl rfl 30 (by decide) rfl k_191 (v := .int (gI σ 500 0 30)) rfl dX10_begin_14 ?_
    refine lv_iconst (v := (1 : Int32)) hx hb dX10_begin_17 rfl ?_
    refine lv_iadd hx hb dX10_begin_18 ?_
    refine x_putI (k := 500) (n := 0) hx hb hts i_X10 tyX10 tyX10_ok nmX10 hown hK hD hP hS (mk_500 h01) rfl rfl 30 (by decide) rfl k_191 rfl rfl rfl rfl dX10_begin_19 (fun H locs hP hS => ?_)
    obtain ⟨σ1, e_σ1, hf⟩ := nm_i hf
    have hP : va_P G vwCl (wld ad ca σ1 LM) H := by rw [e_σ1]; exact hP
    refine lv_aload_n hx hb dX10_begin_22 rfl (lv_at hl 0 rfl) ?_
    refine lv_iload_n hx hb dX10_begin_23 rfl (lv_at hl 1 rfl) ?_
    obtain ⟨r2, σ2, hc2, hf⟩ := bp_e hf
    refine x_ci (va_runV (As := [.int x1]) (rest := []) ⟨hx, hb, hml, hown, hts⟩ (t_X10_isBarred l G ad ca A x1 hD  σ1 r2 σ2 hc2) (cwV 1 hts gr_X10_194 rfl rfl rfl h9_X10_isBarred ⟨Nat.le_of_ble_eq_true rfl, Nat.le_of_ble_eq_true rfl⟩) (x_prV zkM hz hK hP (mk_500 h01) rfl rfl) rfl rfl hl.1 rfl (lv_room (Nat.le_of_ble_eq_true rfl)) dX10_begin_24 ⟨Nat.le_of_ble_eq_true rfl, Nat.le_of_ble_eq_true rfl⟩) hS (fun H locs hP hS => ?_)
    refine lv_if_eq (tgt := 33) hx hb dX10_begin_27 rfl (fun hc => ?_) (fun hc => ?_)
    · have hf := b_p hf hc
      refine lv_aload_n hx hb dX10_begin_33 rfl (lv_at hl 0 rfl) ?_
      refine lv_iload_n hx hb dX10_begin_34 rfl (lv_at hl 1 rfl) ?_
      obtain ⟨σ3, hc3, hf⟩ := bd_e hf
      refine x_cv (va_runV (As := [.int x1]) (rest := []) ⟨hx, hb, hml, hown, hts⟩ (t_X10_remember l G ad ca A x1 hD  σ2 σ3 hc3) (cwV 1 hts gr_X10_197 rfl rfl rfl h9_X10_remember ⟨Nat.le_of_ble_eq_true rfl, Nat.le_of_ble_eq_true rfl⟩) (x_prV zkM hz hK hP (mk_500 h01) rfl rfl) rfl rfl hl.1 rfl (lv_room (Nat.le_of_ble_eq_true rfl)) dX10_begin_35 ⟨Nat.le_of_ble_eq_true rfl, Nat.le_of_ble_eq_true rfl⟩) hS (fun H locs hP hS => ?_)
      refine lv_aload_n hx hb dX10_begin_38 rfl (lv_at hl 0 rfl) ?_
      refine lv_iload_n hx hb dX10_begin_39 rfl (lv_at hl 1 rfl) ?_
      refine lv_iconst (v := (-1 : Int32)) hx hb dX10_begin_40 rfl ?_
      obtain ⟨r4, hc4, hf⟩ := bd_e hf
      refine x_ci (va_runV (As := [.int x1, .int (-1 : Int32)]) (rest := []) ⟨hx, hb, hml, hown, hts⟩ (t_X10_choose l G ad ca A x1 (-1 : Int32) hD  σ3 r4 hc4) (cwV 2 hts gr_X10_200 rfl rfl rfl h9_X10_choose ⟨Nat.le_of_ble_eq_true rfl, Nat.le_of_ble_eq_true rfl⟩) (x_prV zkM hz hK hP (mk_500 h01) rfl rfl) rfl rfl hl.1 rfl (lv_room (Nat.le_of_ble_eq_true rfl)) dX10_begin_41 ⟨Nat.le_of_ble_eq_true rfl, Nat.le_of_ble_eq_true rfl⟩) hS (fun H locs hP hS => ?_)
      have hf := Option.some.inj hf
      exact x_iret hx hb hr hlocks hK hP hS (congrArg Prod.fst hf) (congrArg Prod.snd hf) dX10_begin_44
    · have hf := b_n hf hc
      refine lv_bipush (v := (-7 : Int32)) hx hb dX10_begin_30 rfl ?_
      have hf := Option.some.inj hf
      exact x_iret hx hb hr hlocks hK hP hS (congrArg Prod.fst hf) (congrArg Prod.snd hf) dX10_begin_32
  · have hf := b_p hf hc
    refine lv_bipush (v := (-6 : Int32)) hx hb dX10_begin_9 rfl ?_
    have hf := Option.some.inj hf
    exact x_iret hx hb hr hlocks hK hP hS (congrArg Prod.fst hf) (congrArg Prod.snd hf) dX10_begin_11
theorem h9_X10_fail : yX10_fail.cls = RX10 ∧ yX10_fail.cls ≠ "java/lang/invoke/MethodHandle" ∧ yX10_fail.cls ≠ "java/lang/invoke/VarHandle" ∧ (parseMethodDescriptor yX10_fail.desc).map (fun d => d.parameters.length) = some 1 := by decide +kernel
set_option maxRecDepth 100000 in
set_option maxHeartbeats 4000000 in
theorem t_X10_fail (l : Launch) (G : va_G) (ad : Nat → Nat → Nat) (ca : Nat → ClassId) (A : Nat → Prop)   (x1 : Int32) (hD : DW ad LM A)  (σ : PS) (res : Int32) (σz : PS) (hf : X10_fail  x1 σ = some (res, σz)) : Met l yX10_fail wsX10_fail ({ frames := 0, cells := 0, slots := 0, locals := 0 }) (ctP G ad ca LM σ ZM [.ref (ad 500 0), .int x1]) (va_Qi (fun r' u => r' = res ∧ u = σz) (ctB G ad ca LM) A) 0 0 A := by
  refine Met.ofW (cc := cX10_fail) (maxL := 2) (ret := (some .int)) (by decide) rfl ?_
  intro p e s m args below meth c s₁ B hml hv
  obtain ⟨rfl, hP, hK, hz⟩ := hv
  have hx := B.exec
  have hb := B.bytes
  have hr := B.returns
  have hts : ∀ w ∈ WW, w.before _ s = true := fun w h => atoms_spec (ws := wsX10_fail) B.pre w (List.mem_cons_of_mem _ h)
  have hown : s.vm.findClass RX10 = some m.cls := findClass_of_methodNamed B.named
  have hlocks := B.notSynchronized
  have hS : va_S A s.heap s.heap [] := va_S.rf
  have k_209 := hts _ kf_X10_209
  have hl := lv_entry ([.ref (ad 500 0), .int x1]) (n := 2) (Nat.le_of_ble_eq_true rfl)
  rw [lg_entry_eq]
  generalize (lg_sl ([.ref (ad 500 0), .int x1]) ++ List.replicate (2 - (lg_sl ([.ref (ad 500 0), .int x1])).length) Slot.unset).toArray = ls at hl ⊢
  have hl : lv_has ls 2 [(0, .ref (ad 500 0)), (1, .int x1)] := hl
  unfold X10_fail at hf
  refine lv_aload_n hx hb dX10_fail_0 rfl (lv_at hl 0 rfl) ?_
  refine lv_iload_n hx hb dX10_fail_1 rfl (lv_at hl 1 rfl) ?_
  refine x_putI (k := 500) (n := 0) hx hb hts i_X10 tyX10 tyX10_ok nmX10 hown hK hD hP hS (mk_500 h01) rfl rfl 27 (by decide) rfl k_209 rfl rfl rfl rfl dX10_fail_2 (fun H locs hP hS => ?_)
  obtain ⟨σ1, e_σ1, hf⟩ := nm_i hf
  have hP : va_P G vwCl (wld ad ca σ1 LM) H := by rw [e_σ1]; exact hP
  refine lv_bipush (v := (-5 : Int32)) hx hb dX10_fail_5 rfl ?_
  have hf := Option.some.inj hf
  exact x_iret hx hb hr hlocks hK hP hS (congrArg Prod.fst hf) (congrArg Prod.snd hf) dX10_fail_7
theorem h9_X10_end : yX10_end.cls = RX10 ∧ yX10_end.cls ≠ "java/lang/invoke/MethodHandle" ∧ yX10_end.cls ≠ "java/lang/invoke/VarHandle" ∧ (parseMethodDescriptor yX10_end.desc).map (fun d => d.parameters.length) = some 1 := by decide +kernel
set_option maxRecDepth 100000 in
set_option maxHeartbeats 4000000 in
theorem t_X10_end (l : Launch) (G : va_G) (ad : Nat → Nat → Nat) (ca : Nat → ClassId) (A : Nat → Prop)   (x1 : Int64) (hD : DW ad LM A)  (σ : PS) (res : Int32) (σz : PS) (hf : X10_end  x1 σ = some (res, σz)) : Met l yX10_end wsX10_end ({ frames := 0, cells := 0, slots := 0, locals := 0 }) (ctP G ad ca LM σ ZM [.ref (ad 500 0), .long x1]) (va_Qi (fun r' u => r' = res ∧ u = σz) (ctB G ad ca LM) A) 0 0 A := by
  refine Met.ofW (cc := cX10_end) (maxL := 3) (ret := (some .int)) (by decide) rfl ?_
  intro p e s m args below meth c s₁ B hml hv
  obtain ⟨rfl, hP, hK, hz⟩ := hv
  have hx := B.exec
  have hb := B.bytes
  have hr := B.returns
  have hts : ∀ w ∈ WW, w.before _ s = true := fun w h => atoms_spec (ws := wsX10_end) B.pre w (List.mem_cons_of_mem _ h)
  have hown : s.vm.findClass RX10 = some m.cls := findClass_of_methodNamed B.named
  have hlocks := B.notSynchronized
  have hS : va_S A s.heap s.heap [] := va_S.rf
  have k_212 := hts _ kf_X10_212
  have hl := lv_entry ([.ref (ad 500 0), .long x1]) (n := 3) (Nat.le_of_ble_eq_true rfl)
  rw [lg_entry_eq]
  generalize (lg_sl ([.ref (ad 500 0), .long x1]) ++ List.replicate (3 - (lg_sl ([.ref (ad 500 0), .long x1])).length) Slot.unset).toArray = ls at hl ⊢
  have hl : lv_has ls 3 [(0, .ref (ad 500 0)), (1, .long x1)] := hl
  unfold X10_end at hf
  refine lv_aload_n hx hb dX10_end_0 rfl (lv_at hl 0 rfl) ?_
  refine lv_dup hx hb dX10_end_1 rfl ?_
  refine x_get (k := 500) (n := 0) hx hb hts i_X10 hown hK hP (mk_500 h01) rfl rfl 26 (by decide) rfl k_212 (v := .long (gL σ 500 0 26)) rfl dX10_end_2 ?_
  refine lv_lload_n hx hb dX10_end_5 rfl (lv_at hl 1 rfl) ?_
  refine lv_ladd hx hb dX10_end_6 ?_
  refine x_putL (k := 500) (n := 0) hx hb hts i_X10 tyX10 tyX10_ok nmX10 hown hK hD hP hS (mk_500 h01) rfl rfl 26 (by decide) rfl k_212 rfl rfl rfl rfl dX10_end_7 (fun H locs hP hS => ?_)
  obtain ⟨σ1, e_σ1, hf⟩ := nm_i hf
  have hP : va_P G vwCl (wld ad ca σ1 LM) H := by rw [e_σ1]; exact hP
  refine lv_bipush (v := (-2 : Int32)) hx hb dX10_end_10 rfl ?_
  have hf := Option.some.inj hf
  exact x_iret hx hb hr hlocks hK hP hS (congrArg Prod.fst hf) (congrArg Prod.snd hf) dX10_end_12
theorem h9_X10_turn : yX10_turn.cls = RX10 ∧ yX10_turn.cls ≠ "java/lang/invoke/MethodHandle" ∧ yX10_turn.cls ≠ "java/lang/invoke/VarHandle" ∧ (parseMethodDescriptor yX10_turn.desc).map (fun d => d.parameters.length) = some 0 := by decide +kernel
set_option maxRecDepth 100000 in
set_option maxHeartbeats 4000000 in
theorem t_X10_turn (l : Launch) (G : va_G) (ad : Nat → Nat → Nat) (ca : Nat → ClassId) (A : Nat → Prop)   (hD : DW ad LM A)  (σ : PS) (res : PS) (hf : X10_turn   σ = some res) : Met l yX10_turn wsX10_turn ({ frames := 0, cells := 0, slots := 0, locals := 0 }) (ctP G ad ca LM σ ZM [.ref (ad 500 0)]) (va_Qv (fun u => u = res) (ctB G ad ca LM) A) 0 0 A := by
  refine Met.ofW (cc := cX10_turn) (maxL := 4) (ret := none) (by decide) rfl ?_
  intro p e s m args below meth c s₁ B hml hv
  obtain ⟨rfl, hP, hK, hz⟩ := hv
  have hx := B.exec
  have hb := B.bytes
  have hr := B.returns
  have hts : ∀ w ∈ WW, w.before _ s = true := fun w h => atoms_spec (ws := wsX10_turn) B.pre w (List.mem_cons_of_mem _ h)
  have hown : s.vm.findClass RX10 = some m.cls := findClass_of_methodNamed B.named
  have hlocks := B.notSynchronized
  have hS : va_S A s.heap s.heap [] := va_S.rf
  have k_82 := hts _ kf_X10_82
  have k_85 := hts _ kf_X10_85
  have hl := lv_entry ([.ref (ad 500 0)]) (n := 4) (Nat.le_of_ble_eq_true rfl)
  rw [lg_entry_eq]
  generalize (lg_sl ([.ref (ad 500 0)]) ++ List.replicate (4 - (lg_sl ([.ref (ad 500 0)])).length) Slot.unset).toArray = ls at hl ⊢
  have hl : lv_has ls 4 [(0, .ref (ad 500 0))] := hl
  unfold X10_turn at hf
  refine lv_aload_n hx hb dX10_turn_0 rfl (lv_at hl 0 rfl) ?_
  refine x_get (k := 500) (n := 0) hx hb hts i_X10 hown hK hP (mk_500 h01) rfl rfl 31 (by decide) rfl k_82 (v := .ref (ad 532 0)) rfl dX10_turn_1 ?_
  refine lv_iconst (v := (0 : Int32)) hx hb dX10_turn_4 rfl ?_
  obtain ⟨g1, hf⟩ := gd_e hf
  refine x_iald (k := 532) (n := 0) hx hb hK hP (mk_532 h01) rfl g1 dX10_turn_5 ?_
  obtain ⟨y2, e_y2, hf⟩ := nm_i hf
  refine x_nmI e_y2 ?_
  refine lv_istore_n (lv' := [(1, .int y2), (0, .ref (ad 500 0))]) hx hb dX10_turn_6 rfl hl (by decide) rfl (fun ls hl => ?_)
  refine lv_aload_n hx hb dX10_turn_7 rfl (lv_at hl 1 rfl) ?_
  refine x_get (k := 500) (n := 0) hx hb hts i_X10 hown hK hP (mk_500 h01) rfl rfl 32 (by decide) rfl k_85 (v := .ref (ad 533 0)) rfl dX10_turn_8 ?_
  refine lv_iconst (v := (0 : Int32)) hx hb dX10_turn_11 rfl ?_
  obtain ⟨g3, hf⟩ := gd_e hf
  refine x_lald (k := 533) (n := 0) hx hb hK hP (mk_533 h01) rfl g3 dX10_turn_12 ?_
  obtain ⟨y4, e_y4, hf⟩ := nm_i hf
  refine x_nmL e_y4 ?_
  refine lv_lstore_n (lv' := [(2, .long y4), (1, .int y2), (0, .ref (ad 500 0))]) hx hb dX10_turn_13 rfl hl (by decide) rfl (fun ls hl => ?_)
  refine lv_aload_n hx hb dX10_turn_14 rfl (lv_at hl 2 rfl) ?_
  refine x_get (k := 500) (n := 0) hx hb hts i_X10 hown hK hP (mk_500 h01) rfl rfl 31 (by decide) rfl k_82 (v := .ref (ad 532 0)) rfl dX10_turn_15 ?_
  refine lv_iconst (v := (0 : Int32)) hx hb dX10_turn_18 rfl ?_
  refine lv_aload_n hx hb dX10_turn_19 rfl (lv_at hl 2 rfl) ?_
  refine x_get (k := 500) (n := 0) hx hb hts i_X10 hown hK hP (mk_500 h01) rfl rfl 31 (by decide) rfl k_82 (v := .ref (ad 532 0)) rfl dX10_turn_20 ?_
  refine lv_iconst (v := (1 : Int32)) hx hb dX10_turn_23 rfl ?_
  obtain ⟨g5, hf⟩ := gd_e hf
  refine x_iald (k := 532) (n := 0) hx hb hK hP (mk_532 h01) rfl g5 dX10_turn_24 ?_
  obtain ⟨g6, hf⟩ := gd_e hf
  refine x_iast (k := 532) (n := 0) hx hb hK hD hP hS (mk_532 h01) rfl g6 dX10_turn_25 (fun H locs hP hS => ?_)
  obtain ⟨σ7, e_σ7, hf⟩ := nm_i hf
  have hP : va_P G vwCl (wld ad ca σ7 LM) H := by rw [e_σ7]; exact hP
  refine lv_aload_n hx hb dX10_turn_26 rfl (lv_at hl 2 rfl) ?_
  refine x_get (k := 500) (n := 0) hx hb hts i_X10 hown hK hP (mk_500 h01) rfl rfl 32 (by decide) rfl k_85 (v := .ref (ad 533 0)) rfl dX10_turn_27 ?_
  refine lv_iconst (v := (0 : Int32)) hx hb dX10_turn_30 rfl ?_
  refine lv_aload_n hx hb dX10_turn_31 rfl (lv_at hl 2 rfl) ?_
  refine x_get (k := 500) (n := 0) hx hb hts i_X10 hown hK hP (mk_500 h01) rfl rfl 32 (by decide) rfl k_85 (v := .ref (ad 533 0)) rfl dX10_turn_32 ?_
  refine lv_iconst (v := (1 : Int32)) hx hb dX10_turn_35 rfl ?_
  obtain ⟨g8, hf⟩ := gd_e hf
  refine x_lald (k := 533) (n := 0) hx hb hK hP (mk_533 h01) rfl g8 dX10_turn_36 ?_
  obtain ⟨g9, hf⟩ := gd_e hf
  refine x_last (k := 533) (n := 0) hx hb hK hD hP hS (mk_533 h01) rfl g9 dX10_turn_37 (fun H locs hP hS => ?_)
  obtain ⟨σ10, e_σ10, hf⟩ := nm_i hf
  have hP : va_P G vwCl (wld ad ca σ10 LM) H := by rw [e_σ10]; exact hP
  refine lv_aload_n hx hb dX10_turn_38 rfl (lv_at hl 2 rfl) ?_
  refine x_get (k := 500) (n := 0) hx hb hts i_X10 hown hK hP (mk_500 h01) rfl rfl 31 (by decide) rfl k_82 (v := .ref (ad 532 0)) rfl dX10_turn_39 ?_
  refine lv_iconst (v := (1 : Int32)) hx hb dX10_turn_42 rfl ?_
  refine lv_iload_n hx hb dX10_turn_43 rfl (lv_at hl 1 rfl) ?_
  obtain ⟨g11, hf⟩ := gd_e hf
  refine x_iast (k := 532) (n := 0) hx hb hK hD hP hS (mk_532 h01) rfl g11 dX10_turn_44 (fun H locs hP hS => ?_)
  obtain ⟨σ12, e_σ12, hf⟩ := nm_i hf
  have hP : va_P G vwCl (wld ad ca σ12 LM) H := by rw [e_σ12]; exact hP
  refine lv_aload_n hx hb dX10_turn_45 rfl (lv_at hl 2 rfl) ?_
  refine x_get (k := 500) (n := 0) hx hb hts i_X10 hown hK hP (mk_500 h01) rfl rfl 32 (by decide) rfl k_85 (v := .ref (ad 533 0)) rfl dX10_turn_46 ?_
  refine lv_iconst (v := (1 : Int32)) hx hb dX10_turn_49 rfl ?_
  refine lv_lload_n hx hb dX10_turn_50 rfl (lv_at hl 0 rfl) ?_
  obtain ⟨g13, hf⟩ := gd_e hf
  refine x_last (k := 533) (n := 0) hx hb hK hD hP hS (mk_533 h01) rfl g13 dX10_turn_51 (fun H locs hP hS => ?_)
  obtain ⟨σ14, e_σ14, hf⟩ := nm_i hf
  have hP : va_P G vwCl (wld ad ca σ14 LM) H := by rw [e_σ14]; exact hP
  exact x_vret hx hb hr hlocks hK hP hS (Option.some.inj hf) dX10_turn_52
theorem h9_X10_rest : yX10_rest.cls ≠ "java/lang/invoke/MethodHandle" ∧ yX10_rest.cls ≠ "java/lang/invoke/VarHandle" ∧ (parseMethodDescriptor yX10_rest.desc).map (fun d => d.parameters.length) = some 2 := by decide +kernel
set_option maxRecDepth 100000 in
set_option maxHeartbeats 4000000 in
theorem t_X10_rest (l : Launch) (G : va_G) (ad : Nat → Nat → Nat) (ca : Nat → ClassId) (A : Nat → Prop)   (x0 : Int32) (x1 : Int32) (hD : DW ad LM A)  (σ : PS) (res : Int32) (hf : X10_rest  x0 x1 σ = some res) : Met l yX10_rest wsX10_rest ({ frames := 0, cells := 0, slots := 0, locals := 0 }) (ctP G ad ca LM σ ZM [.int x0, .int x1]) (va_Qi (fun r' u => r' = res ∧ u = σ) (ctB G ad ca LM) A) 0 0 A := by
  refine Met.ofW (cc := cX10_rest) (maxL := 3) (ret := (some .int)) (by decide) rfl ?_
  intro p e s m args below meth c s₁ B hml hv
  obtain ⟨rfl, hP, hK, hz⟩ := hv
  have hx := B.exec
  have hb := B.bytes
  have hr := B.returns
  have hts : ∀ w ∈ WW, w.before _ s = true := fun w h => atoms_spec (ws := wsX10_rest) B.pre w (List.mem_cons_of_mem _ h)
  have hown : s.vm.findClass RX10 = some m.cls := findClass_of_methodNamed B.named
  have hlocks := B.notSynchronized
  have hS : va_S A s.heap s.heap [] := va_S.rf
  have hl := lv_entry ([.int x0, .int x1]) (n := 3) (Nat.le_of_ble_eq_true rfl)
  rw [lg_entry_eq]
  generalize (lg_sl ([.int x0, .int x1]) ++ List.replicate (3 - (lg_sl ([.int x0, .int x1])).length) Slot.unset).toArray = ls at hl ⊢
  have hl : lv_has ls 3 [(0, .int x0), (1, .int x1)] := hl
  unfold X10_rest at hf
  refine lv_iload_n hx hb dX10_rest_0 rfl (lv_at hl 0 rfl) ?_
  refine lv_iload_n hx hb dX10_rest_1 rfl (lv_at hl 1 rfl) ?_
  obtain ⟨g1, hf⟩ := gd_e hf
  refine lv_irem hx hb dX10_rest_2 (of_decide_eq_true g1) ?_
  obtain ⟨y2, e_y2, hf⟩ := nm_i hf
  refine x_nmI e_y2 ?_
  refine lv_istore_n (lv' := [(2, .int y2), (0, .int x0), (1, .int x1)]) hx hb dX10_rest_3 rfl hl (by decide) rfl (fun ls hl => ?_)
  refine lv_iload_n hx hb dX10_rest_4 rfl (lv_at hl 0 rfl) ?_
  refine lv_if_ge (tgt := 14) hx hb dX10_rest_5 rfl (fun hc => ?_) (fun hc => ?_)
  · have hf := b_p hf hc
    refine lv_iload_n hx hb dX10_rest_14 rfl (lv_at hl 0 rfl) ?_
    exact x_iret hx hb hr hlocks hK hP hS (Option.some.inj hf) rfl dX10_rest_15
  · have hf := b_n hf hc
    refine lv_iload_n hx hb dX10_rest_8 rfl (lv_at hl 0 rfl) ?_
    refine lv_iload_n hx hb dX10_rest_9 rfl (lv_at hl 2 rfl) ?_
    refine lv_iadd hx hb dX10_rest_10 ?_
    refine lv_goto (tgt := 15) hx hb dX10_rest_11 rfl ?_
    exact x_iret hx hb hr hlocks hK hP hS (Option.some.inj hf) rfl dX10_rest_15
theorem h9_X10_callOn : yX10_callOn.cls = RX10 ∧ yX10_callOn.cls ≠ "java/lang/invoke/MethodHandle" ∧ yX10_callOn.cls ≠ "java/lang/invoke/VarHandle" ∧ (parseMethodDescriptor yX10_callOn.desc).map (fun d => d.parameters.length) = some 2 := by decide +kernel
set_option maxRecDepth 100000 in
set_option maxHeartbeats 4000000 in
theorem t_X10_callOn (l : Launch) (G : va_G) (ad : Nat → Nat → Nat) (ca : Nat → ClassId) (A : Nat → Prop)   (x1 : Int32) (x2 : Int32) (hD : DW ad LM A)  (σ : PS) (res : Int32) (σz : PS) (hf : X10_callOn  x1 x2 σ = some (res, σz)) : Met l yX10_callOn wsX10_callOn ({ frames := 7, cells := 0, slots := 0, locals := 167 }) (ctP G ad ca LM σ ZM [.ref (ad 500 0), .int x1, .int x2]) (va_Qi (fun r' u => r' = res ∧ u = σz) (ctB G ad ca LM) A) 0 0 A := by
  refine Met.ofW (cc := cX10_callOn) (maxL := 4) (ret := (some .int)) (by decide) rfl ?_
  intro p e s m args below meth c s₁ B hml hv
  obtain ⟨rfl, hP, hK, hz⟩ := hv
  have hx := B.exec
  have hb := B.bytes
  have hr := B.returns
  have hts : ∀ w ∈ WW, w.before _ s = true := fun w h => atoms_spec (ws := wsX10_callOn) B.pre w (List.mem_cons_of_mem _ h)
  have hown : s.vm.findClass RX10 = some m.cls := findClass_of_methodNamed B.named
  have hlocks := B.notSynchronized
  have hS : va_S A s.heap s.heap [] := va_S.rf
  have k_29 := hts _ kf_X10_29
  have k_48 := hts _ kf_X10_48
  have k_51 := hts _ kf_X10_51
  have k_212 := hts _ kf_X10_212
  have hl := lv_entry ([.ref (ad 500 0), .int x1, .int x2]) (n := 4) (Nat.le_of_ble_eq_true rfl)
  rw [lg_entry_eq]
  generalize (lg_sl ([.ref (ad 500 0), .int x1, .int x2]) ++ List.replicate (4 - (lg_sl ([.ref (ad 500 0), .int x1, .int x2])).length) Slot.unset).toArray = ls at hl ⊢
  have hl : lv_has ls 4 [(0, .ref (ad 500 0)), (1, .int x1), (2, .int x2)] := hl
  unfold X10_callOn at hf
  refine lv_aload_n hx hb dX10_callOn_0 rfl (lv_at hl 0 rfl) ?_
  refine x_get (k := 500) (n := 0) hx hb hts i_X10 hown hK hP (mk_500 h01) rfl rfl 17 (by decide) rfl k_51 (v := .ref (ad 518 0)) rfl dX10_callOn_1 ?_
  refine lv_iload_n hx hb dX10_callOn_4 rfl (lv_at hl 2 rfl) ?_
  obtain ⟨g1, hf⟩ := gd_e hf
  refine x_iald (k := 518) (n := 0) hx hb hK hP (mk_518 h01) rfl g1 dX10_callOn_5 ?_
  refine lv_iconst (v := (4 : Int32)) hx hb dX10_callOn_6 rfl ?_
  obtain ⟨r2, hc2, hf⟩ := bd_e hf
  refine x_ci (va_runS (As := [.int (gI σ 518 0 (ix x2)), .int (4 : Int32)]) (rest := []) ⟨hx, hb, hml, hown, hts⟩ (t_X10_rest l G ad ca A (gI σ 518 0 (ix x2)) (4 : Int32) hD  σ r2 hc2) (va_cwS 2 hts gr_X10_216 rfl rfl rfl h9_X10_rest ⟨Nat.le_of_ble_eq_true rfl, Nat.le_of_ble_eq_true rfl⟩) (x_prS zkM hz hK hP) rfl rfl hl.1 rfl (lv_room (Nat.le_of_ble_eq_true rfl)) dX10_callOn_7 ⟨Nat.le_of_ble_eq_true rfl, Nat.le_of_ble_eq_true rfl⟩) hS (fun H locs hP hS => ?_)
  refine lv_istore_n (lv' := [(3, .int r2), (0, .ref (ad 500 0)), (1, .int x1), (2, .int x2)]) hx hb dX10_callOn_10 rfl hl (by decide) rfl (fun ls hl => ?_)
  refine lv_aload_n hx hb dX10_callOn_11 rfl (lv_at hl 1 rfl) ?_
  refine lv_iload_n hx hb dX10_callOn_12 rfl (lv_at hl 0 rfl) ?_
  obtain ⟨r3, hc3, hf⟩ := bd_e hf
  refine x_ci (va_runV (As := [.int r2]) (rest := []) ⟨hx, hb, hml, hown, hts⟩ (t_X10_isFunction l G ad ca A r2 hD  σ r3 hc3) (cwV 1 hts gr_X10_134 rfl rfl rfl h9_X10_isFunction ⟨Nat.le_of_ble_eq_true rfl, Nat.le_of_ble_eq_true rfl⟩) (x_prV zkM hz hK hP (mk_500 h01) rfl rfl) rfl rfl hl.1 rfl (lv_room (Nat.le_of_ble_eq_true rfl)) dX10_callOn_13 ⟨Nat.le_of_ble_eq_true rfl, Nat.le_of_ble_eq_true rfl⟩) hS (fun H locs hP hS => ?_)
  refine lv_if_eq (tgt := 34) hx hb dX10_callOn_16 rfl (fun hc => ?_) (fun hc => ?_)
  · have hf := b_p hf hc
    refine lv_aload_n hx hb dX10_callOn_34 rfl (lv_at hl 1 rfl) ?_
    refine lv_bipush (v := (-2 : Int32)) hx hb dX10_callOn_35 rfl ?_
    obtain ⟨r4, σ4, hc4, hf⟩ := bp_e hf
    refine x_ci (va_runV (As := [.int (-2 : Int32)]) (rest := []) ⟨hx, hb, hml, hown, hts⟩ (t_X10_fail l G ad ca A (-2 : Int32) hD  σ r4 σ4 hc4) (cwV 1 hts gr_X10_219 rfl rfl rfl h9_X10_fail ⟨Nat.le_of_ble_eq_true rfl, Nat.le_of_ble_eq_true rfl⟩) (x_prV zkM hz hK hP (mk_500 h01) rfl rfl) rfl rfl hl.1 rfl (lv_room (Nat.le_of_ble_eq_true rfl)) dX10_callOn_37 ⟨Nat.le_of_ble_eq_true rfl, Nat.le_of_ble_eq_true rfl⟩) hS (fun H locs hP hS => ?_)
    have hf := Option.some.inj hf
    exact x_iret hx hb hr hlocks hK hP hS (congrArg Prod.fst hf) (congrArg Prod.snd hf) dX10_callOn_40
  · have hf := b_n hf hc
    refine lv_aload_n hx hb dX10_callOn_19 rfl (lv_at hl 1 rfl) ?_
    refine x_get (k := 500) (n := 0) hx hb hts i_X10 hown hK hP (mk_500 h01) rfl rfl 9 (by decide) rfl k_29 (v := .ref (ad 510 0)) rfl dX10_callOn_20 ?_
    refine lv_iload_n hx hb dX10_callOn_23 rfl (lv_at hl 0 rfl) ?_
    obtain ⟨g5, hf⟩ := gd_e hf
    refine x_iald (k := 510) (n := 0) hx hb hK hP (mk_510 h01) rfl g5 dX10_callOn_24 ?_
    refine lv_aload_n hx hb dX10_callOn_25 rfl (lv_at hl 1 rfl) ?_
    refine x_get (k := 500) (n := 0) hx hb hts i_X10 hown hK hP (mk_500 h01) rfl rfl 9 (by decide) rfl k_29 (v := .ref (ad 510 0)) rfl dX10_callOn_26 ?_
    refine lv_iload_n hx hb dX10_callOn_29 rfl (lv_at hl 2 rfl) ?_
    obtain ⟨g6, hf⟩ := gd_e hf
    refine x_iald (k := 510) (n := 0) hx hb hK hP (mk_510 h01) rfl g6 dX10_callOn_30 ?_
    refine lv_icmp_eq (tgt := 41) hx hb dX10_callOn_31 rfl (fun hc => ?_) (fun hc => ?_)
    · have hf := b_p hf hc
      refine lv_aload_n hx hb dX10_callOn_41 rfl (lv_at hl 1 rfl) ?_
      refine x_get (k := 500) (n := 0) hx hb hts i_X10 hown hK hP (mk_500 h01) rfl rfl 16 (by decide) rfl k_48 (v := .ref (ad 517 0)) rfl dX10_callOn_42 ?_
      refine lv_iload_n hx hb dX10_callOn_45 rfl (lv_at hl 3 rfl) ?_
      obtain ⟨g7, hf⟩ := gd_e hf
      refine x_iald (k := 517) (n := 0) hx hb hK hP (mk_517 h01) rfl g7 dX10_callOn_46 ?_
      refine lv_bipush (v := (7 : Int32)) hx hb dX10_callOn_47 rfl ?_
      refine lv_icmp_ne (tgt := 66) hx hb dX10_callOn_49 rfl (fun hc => ?_) (fun hc => ?_)
      · have hf := b_n hf hc
        refine lv_aload_n hx hb dX10_callOn_66 rfl (lv_at hl 1 rfl) ?_
        refine lv_dup hx hb dX10_callOn_67 rfl ?_
        refine x_get (k := 500) (n := 0) hx hb hts i_X10 hown hK hP (mk_500 h01) rfl rfl 26 (by decide) rfl k_212 (v := .long (gL σ 500 0 26)) rfl dX10_callOn_68 ?_
        refine lv_lconst (v := (1 : Int64)) hx hb dX10_callOn_71 rfl ?_
        refine lv_ladd hx hb dX10_callOn_72 ?_
        refine x_putL (k := 500) (n := 0) hx hb hts i_X10 tyX10 tyX10_ok nmX10 hown hK hD hP hS (mk_500 h01) rfl rfl 26 (by decide) rfl k_212 rfl rfl rfl rfl dX10_callOn_73 (fun H locs hP hS => ?_)
        obtain ⟨σ8, e_σ8, hf⟩ := nm_i hf
        have hP : va_P G vwCl (wld ad ca σ8 LM) H := by rw [e_σ8]; exact hP
        refine lv_aload_n hx hb dX10_callOn_76 rfl (lv_at hl 1 rfl) ?_
        refine lv_iload_n hx hb dX10_callOn_77 rfl (lv_at hl 0 rfl) ?_
        obtain ⟨r9, σ9, hc9, hf⟩ := bp_e hf
        refine x_ci (va_runV (As := [.int r2]) (rest := []) ⟨hx, hb, hml, hown, hts⟩ (t_X10_begin l G ad ca A r2 hD  σ8 r9 σ9 hc9) (cwV 1 hts gr_X10_225 rfl rfl rfl h9_X10_begin ⟨Nat.le_of_ble_eq_true rfl, Nat.le_of_ble_eq_true rfl⟩) (x_prV zkM hz hK hP (mk_500 h01) rfl rfl) rfl rfl hl.1 rfl (lv_room (Nat.le_of_ble_eq_true rfl)) dX10_callOn_78 ⟨Nat.le_of_ble_eq_true rfl, Nat.le_of_ble_eq_true rfl⟩) hS (fun H locs hP hS => ?_)
        have hf := Option.some.inj hf
        exact x_iret hx hb hr hlocks hK hP hS (congrArg Prod.fst hf) (congrArg Prod.snd hf) dX10_callOn_81
      · have hf := b_p hf hc
        refine lv_aload_n hx hb dX10_callOn_52 rfl (lv_at hl 1 rfl) ?_
        refine x_get (k := 500) (n := 0) hx hb hts i_X10 hown hK hP (mk_500 h01) rfl rfl 9 (by decide) rfl k_29 (v := .ref (ad 510 0)) rfl dX10_callOn_53 ?_
        refine lv_iload_n hx hb dX10_callOn_56 rfl (lv_at hl 2 rfl) ?_
        obtain ⟨g10, hf⟩ := gd_e hf
        refine x_iald (k := 510) (n := 0) hx hb hK hP (mk_510 h01) rfl g10 dX10_callOn_57 ?_
        refine lv_iconst (v := (2 : Int32)) hx hb dX10_callOn_58 rfl ?_
        refine lv_icmp_ne (tgt := 66) hx hb dX10_callOn_59 rfl (fun hc => ?_) (fun hc => ?_)
        · have hf := b_n hf hc
          refine lv_aload_n hx hb dX10_callOn_66 rfl (lv_at hl 1 rfl) ?_
          refine lv_dup hx hb dX10_callOn_67 rfl ?_
          refine x_get (k := 500) (n := 0) hx hb hts i_X10 hown hK hP (mk_500 h01) rfl rfl 26 (by decide) rfl k_212 (v := .long (gL σ 500 0 26)) rfl dX10_callOn_68 ?_
          refine lv_lconst (v := (1 : Int64)) hx hb dX10_callOn_71 rfl ?_
          refine lv_ladd hx hb dX10_callOn_72 ?_
          refine x_putL (k := 500) (n := 0) hx hb hts i_X10 tyX10 tyX10_ok nmX10 hown hK hD hP hS (mk_500 h01) rfl rfl 26 (by decide) rfl k_212 rfl rfl rfl rfl dX10_callOn_73 (fun H locs hP hS => ?_)
          obtain ⟨σ11, e_σ11, hf⟩ := nm_i hf
          have hP : va_P G vwCl (wld ad ca σ11 LM) H := by rw [e_σ11]; exact hP
          refine lv_aload_n hx hb dX10_callOn_76 rfl (lv_at hl 1 rfl) ?_
          refine lv_iload_n hx hb dX10_callOn_77 rfl (lv_at hl 0 rfl) ?_
          obtain ⟨r12, σ12, hc12, hf⟩ := bp_e hf
          refine x_ci (va_runV (As := [.int r2]) (rest := []) ⟨hx, hb, hml, hown, hts⟩ (t_X10_begin l G ad ca A r2 hD  σ11 r12 σ12 hc12) (cwV 1 hts gr_X10_225 rfl rfl rfl h9_X10_begin ⟨Nat.le_of_ble_eq_true rfl, Nat.le_of_ble_eq_true rfl⟩) (x_prV zkM hz hK hP (mk_500 h01) rfl rfl) rfl rfl hl.1 rfl (lv_room (Nat.le_of_ble_eq_true rfl)) dX10_callOn_78 ⟨Nat.le_of_ble_eq_true rfl, Nat.le_of_ble_eq_true rfl⟩) hS (fun H locs hP hS => ?_)
          have hf := Option.some.inj hf
          exact x_iret hx hb hr hlocks hK hP hS (congrArg Prod.fst hf) (congrArg Prod.snd hf) dX10_callOn_81
        · have hf := b_p hf hc
          refine lv_aload_n hx hb dX10_callOn_62 rfl (lv_at hl 1 rfl) ?_
          obtain ⟨σ13, hc13, hf⟩ := bd_e hf
          refine x_cv (va_runV (As := []) (rest := []) ⟨hx, hb, hml, hown, hts⟩ (t_X10_turn l G ad ca A  hD  σ σ13 hc13) (cwV 0 hts gr_X10_222 rfl rfl rfl h9_X10_turn ⟨Nat.le_of_ble_eq_true rfl, Nat.le_of_ble_eq_true rfl⟩) (x_prV zkM hz hK hP (mk_500 h01) rfl rfl) rfl rfl hl.1 rfl (lv_room (Nat.le_of_ble_eq_true rfl)) dX10_callOn_63 ⟨Nat.le_of_ble_eq_true rfl, Nat.le_of_ble_eq_true rfl⟩) hS (fun H locs hP hS => ?_)
          refine lv_aload_n hx hb dX10_callOn_66 rfl (lv_at hl 1 rfl) ?_
          refine lv_dup hx hb dX10_callOn_67 rfl ?_
          refine x_get (k := 500) (n := 0) hx hb hts i_X10 hown hK hP (mk_500 h01) rfl rfl 26 (by decide) rfl k_212 (v := .long (gL σ13 500 0 26)) rfl dX10_callOn_68 ?_
          refine lv_lconst (v := (1 : Int64)) hx hb dX10_callOn_71 rfl ?_
          refine lv_ladd hx hb dX10_callOn_72 ?_
          refine x_putL (k := 500) (n := 0) hx hb hts i_X10 tyX10 tyX10_ok nmX10 hown hK hD hP hS (mk_500 h01) rfl rfl 26 (by decide) rfl k_212 rfl rfl rfl rfl dX10_callOn_73 (fun H locs hP hS => ?_)
          obtain ⟨σ14, e_σ14, hf⟩ := nm_i hf
          have hP : va_P G vwCl (wld ad ca σ14 LM) H := by rw [e_σ14]; exact hP
          refine lv_aload_n hx hb dX10_callOn_76 rfl (lv_at hl 1 rfl) ?_
          refine lv_iload_n hx hb dX10_callOn_77 rfl (lv_at hl 0 rfl) ?_
          obtain ⟨r15, σ15, hc15, hf⟩ := bp_e hf
          refine x_ci (va_runV (As := [.int r2]) (rest := []) ⟨hx, hb, hml, hown, hts⟩ (t_X10_begin l G ad ca A r2 hD  σ14 r15 σ15 hc15) (cwV 1 hts gr_X10_225 rfl rfl rfl h9_X10_begin ⟨Nat.le_of_ble_eq_true rfl, Nat.le_of_ble_eq_true rfl⟩) (x_prV zkM hz hK hP (mk_500 h01) rfl rfl) rfl rfl hl.1 rfl (lv_room (Nat.le_of_ble_eq_true rfl)) dX10_callOn_78 ⟨Nat.le_of_ble_eq_true rfl, Nat.le_of_ble_eq_true rfl⟩) hS (fun H locs hP hS => ?_)
          have hf := Option.some.inj hf
          exact x_iret hx hb hr hlocks hK hP hS (congrArg Prod.fst hf) (congrArg Prod.snd hf) dX10_callOn_81
    · have hf := b_n hf hc
      refine lv_aload_n hx hb dX10_callOn_34 rfl (lv_at hl 1 rfl) ?_
      refine lv_bipush (v := (-2 : Int32)) hx hb dX10_callOn_35 rfl ?_
      obtain ⟨r16, σ16, hc16, hf⟩ := bp_e hf
      refine x_ci (va_runV (As := [.int (-2 : Int32)]) (rest := []) ⟨hx, hb, hml, hown, hts⟩ (t_X10_fail l G ad ca A (-2 : Int32) hD  σ r16 σ16 hc16) (cwV 1 hts gr_X10_219 rfl rfl rfl h9_X10_fail ⟨Nat.le_of_ble_eq_true rfl, Nat.le_of_ble_eq_true rfl⟩) (x_prV zkM hz hK hP (mk_500 h01) rfl rfl) rfl rfl hl.1 rfl (lv_room (Nat.le_of_ble_eq_true rfl)) dX10_callOn_37 ⟨Nat.le_of_ble_eq_true rfl, Nat.le_of_ble_eq_true rfl⟩) hS (fun H locs hP hS => ?_)
      have hf := Option.some.inj hf
      exact x_iret hx hb hr hlocks hK hP hS (congrArg Prod.fst hf) (congrArg Prod.snd hf) dX10_callOn_40
theorem h9_X10_grow : yX10_grow.cls = RX10 ∧ yX10_grow.cls ≠ "java/lang/invoke/MethodHandle" ∧ yX10_grow.cls ≠ "java/lang/invoke/VarHandle" ∧ (parseMethodDescriptor yX10_grow.desc).map (fun d => d.parameters.length) = some 1 := by decide +kernel
set_option maxRecDepth 100000 in
set_option maxHeartbeats 4000000 in
theorem t_X10_grow (l : Launch) (G : va_G) (ad : Nat → Nat → Nat) (ca : Nat → ClassId) (A : Nat → Prop)   (x1 : Int32) (hD : DW ad LM A)  (σ : PS) (res : Int32) (σz : PS) (hf : X10_grow  x1 σ = some (res, σz)) : Met l yX10_grow wsX10_grow ({ frames := 1, cells := 0, slots := 0, locals := 22 }) (ctP G ad ca LM σ ZM [.ref (ad 500 0), .int x1]) (va_Qi (fun r' u => r' = res ∧ u = σz) (ctB G ad ca LM) A) 0 0 A := by
  refine Met.ofW (cc := cX10_grow) (maxL := 2) (ret := (some .int)) (by decide) rfl ?_
  intro p e s m args below meth c s₁ B hml hv
  obtain ⟨rfl, hP, hK, hz⟩ := hv
  have hx := B.exec
  have hb := B.bytes
  have hr := B.returns
  have hts : ∀ w ∈ WW, w.before _ s = true := fun w h => atoms_spec (ws := wsX10_grow) B.pre w (List.mem_cons_of_mem _ h)
  have hown : s.vm.findClass RX10 = some m.cls := findClass_of_methodNamed B.named
  have hlocks := B.notSynchronized
  have hS : va_S A s.heap s.heap [] := va_S.rf
  have k_23 := hts _ kf_X10_23
  have k_26 := hts _ kf_X10_26
  have k_82 := hts _ kf_X10_82
  have k_85 := hts _ kf_X10_85
  have k_125 := hts _ kf_X10_125
  have hl := lv_entry ([.ref (ad 500 0), .int x1]) (n := 2) (Nat.le_of_ble_eq_true rfl)
  rw [lg_entry_eq]
  generalize (lg_sl ([.ref (ad 500 0), .int x1]) ++ List.replicate (2 - (lg_sl ([.ref (ad 500 0), .int x1])).length) Slot.unset).toArray = ls at hl ⊢
  have hl : lv_has ls 2 [(0, .ref (ad 500 0)), (1, .int x1)] := hl
  unfold X10_grow at hf
  refine lv_aload_n hx hb dX10_grow_0 rfl (lv_at hl 0 rfl) ?_
  refine x_get (k := 500) (n := 0) hx hb hts i_X10 hown hK hP (mk_500 h01) rfl rfl 5 (by decide) rfl k_125 (v := .int (gI σ 500 0 5)) rfl dX10_grow_1 ?_
  refine lv_sipush (v := (300 : Int32)) hx hb dX10_grow_4 rfl ?_
  refine lv_icmp_ne (tgt := 16) hx hb dX10_grow_7 rfl (fun hc => ?_) (fun hc => ?_)
  · have hf := b_n hf hc
    refine lv_aload_n hx hb dX10_grow_16 rfl (lv_at hl 0 rfl) ?_
    refine x_get (k := 500) (n := 0) hx hb hts i_X10 hown hK hP (mk_500 h01) rfl rfl 6 (by decide) rfl k_23 (v := .ref (ad 507 0)) rfl dX10_grow_17 ?_
    refine lv_aload_n hx hb dX10_grow_20 rfl (lv_at hl 0 rfl) ?_
    refine x_get (k := 500) (n := 0) hx hb hts i_X10 hown hK hP (mk_500 h01) rfl rfl 5 (by decide) rfl k_125 (v := .int (gI σ 500 0 5)) rfl dX10_grow_21 ?_
    refine lv_aload_n hx hb dX10_grow_24 rfl (lv_at hl 0 rfl) ?_
    refine x_get (k := 500) (n := 0) hx hb hts i_X10 hown hK hP (mk_500 h01) rfl rfl 31 (by decide) rfl k_82 (v := .ref (ad 532 0)) rfl dX10_grow_25 ?_
    refine lv_iconst (v := (0 : Int32)) hx hb dX10_grow_28 rfl ?_
    obtain ⟨g1, hf⟩ := gd_e hf
    refine x_iald (k := 532) (n := 0) hx hb hK hP (mk_532 h01) rfl g1 dX10_grow_29 ?_
    obtain ⟨g2, hf⟩ := gd_e hf
    refine x_iast (k := 507) (n := 0) hx hb hK hD hP hS (mk_507 h01) rfl g2 dX10_grow_30 (fun H locs hP hS => ?_)
    obtain ⟨σ3, e_σ3, hf⟩ := nm_i hf
    have hP : va_P G vwCl (wld ad ca σ3 LM) H := by rw [e_σ3]; exact hP
    refine lv_aload_n hx hb dX10_grow_31 rfl (lv_at hl 0 rfl) ?_
    refine x_get (k := 500) (n := 0) hx hb hts i_X10 hown hK hP (mk_500 h01) rfl rfl 7 (by decide) rfl k_26 (v := .ref (ad 508 0)) rfl dX10_grow_32 ?_
    refine lv_aload_n hx hb dX10_grow_35 rfl (lv_at hl 0 rfl) ?_
    refine x_get (k := 500) (n := 0) hx hb hts i_X10 hown hK hP (mk_500 h01) rfl rfl 5 (by decide) rfl k_125 (v := .int (gI σ3 500 0 5)) rfl dX10_grow_36 ?_
    refine lv_aload_n hx hb dX10_grow_39 rfl (lv_at hl 0 rfl) ?_
    refine x_get (k := 500) (n := 0) hx hb hts i_X10 hown hK hP (mk_500 h01) rfl rfl 32 (by decide) rfl k_85 (v := .ref (ad 533 0)) rfl dX10_grow_40 ?_
    refine lv_iconst (v := (0 : Int32)) hx hb dX10_grow_43 rfl ?_
    obtain ⟨g4, hf⟩ := gd_e hf
    refine x_lald (k := 533) (n := 0) hx hb hK hP (mk_533 h01) rfl g4 dX10_grow_44 ?_
    refine lv_iload_n hx hb dX10_grow_45 rfl (lv_at hl 1 rfl) ?_
    refine lv_i2l hx hb dX10_grow_46 rfl ?_
    refine lv_ladd hx hb dX10_grow_47 ?_
    refine lv_l2i hx hb dX10_grow_48 rfl ?_
    obtain ⟨g5, hf⟩ := gd_e hf
    refine x_iast (k := 508) (n := 0) hx hb hK hD hP hS (mk_508 h01) rfl g5 dX10_grow_49 (fun H locs hP hS => ?_)
    obtain ⟨σ6, e_σ6, hf⟩ := nm_i hf
    have hP : va_P G vwCl (wld ad ca σ6 LM) H := by rw [e_σ6]; exact hP
    refine lv_aload_n hx hb dX10_grow_50 rfl (lv_at hl 0 rfl) ?_
    refine lv_dup hx hb dX10_grow_51 rfl ?_
    refine x_get (k := 500) (n := 0) hx hb hts i_X10 hown hK hP (mk_500 h01) rfl rfl 5 (by decide) rfl k_125 (v := .int (gI σ6 500 0 5)) rfl dX10_grow_52 ?_
    refine lv_iconst (v := (1 : Int32)) hx hb dX10_grow_55 rfl ?_
    refine lv_iadd hx hb dX10_grow_56 ?_
    refine x_putI (k := 500) (n := 0) hx hb hts i_X10 tyX10 tyX10_ok nmX10 hown hK hD hP hS (mk_500 h01) rfl rfl 5 (by decide) rfl k_125 rfl rfl rfl rfl dX10_grow_57 (fun H locs hP hS => ?_)
    obtain ⟨σ7, e_σ7, hf⟩ := nm_i hf
    have hP : va_P G vwCl (wld ad ca σ7 LM) H := by rw [e_σ7]; exact hP
    refine lv_aload_n hx hb dX10_grow_60 rfl (lv_at hl 0 rfl) ?_
    refine lv_aload_n hx hb dX10_grow_61 rfl (lv_at hl 0 rfl) ?_
    refine x_get (k := 500) (n := 0) hx hb hts i_X10 hown hK hP (mk_500 h01) rfl rfl 5 (by decide) rfl k_125 (v := .int (gI σ7 500 0 5)) rfl dX10_grow_62 ?_
    refine lv_iconst (v := (1 : Int32)) hx hb dX10_grow_65 rfl ?_
    refine lv_isub hx hb dX10_grow_66 ?_
    refine lv_i2l hx hb dX10_grow_67 rfl ?_
    obtain ⟨r8, σ8, hc8, hf⟩ := bp_e hf
    refine x_ci (va_runV (As := [.long ((gI σ7 500 0 5) - (1 : Int32)).toInt64]) (rest := []) ⟨hx, hb, hml, hown, hts⟩ (t_X10_end l G ad ca A ((gI σ7 500 0 5) - (1 : Int32)).toInt64 hD  σ7 r8 σ8 hc8) (cwV 1 hts gr_X10_228 rfl rfl rfl h9_X10_end ⟨Nat.le_of_ble_eq_true rfl, Nat.le_of_ble_eq_true rfl⟩) (x_prV zkM hz hK hP (mk_500 h01) rfl rfl) rfl rfl hl.1 rfl (lv_room (Nat.le_of_ble_eq_true rfl)) dX10_grow_68 ⟨Nat.le_of_ble_eq_true rfl, Nat.le_of_ble_eq_true rfl⟩) hS (fun H locs hP hS => ?_)
    have hf := Option.some.inj hf
    exact x_iret hx hb hr hlocks hK hP hS (congrArg Prod.fst hf) (congrArg Prod.snd hf) dX10_grow_71
  · have hf := b_p hf hc
    refine lv_aload_n hx hb dX10_grow_10 rfl (lv_at hl 0 rfl) ?_
    refine lv_iconst (v := (-1 : Int32)) hx hb dX10_grow_11 rfl ?_
    obtain ⟨r9, σ9, hc9, hf⟩ := bp_e hf
    refine x_ci (va_runV (As := [.int (-1 : Int32)]) (rest := []) ⟨hx, hb, hml, hown, hts⟩ (t_X10_fail l G ad ca A (-1 : Int32) hD  σ r9 σ9 hc9) (cwV 1 hts gr_X10_219 rfl rfl rfl h9_X10_fail ⟨Nat.le_of_ble_eq_true rfl, Nat.le_of_ble_eq_true rfl⟩) (x_prV zkM hz hK hP (mk_500 h01) rfl rfl) rfl rfl hl.1 rfl (lv_room (Nat.le_of_ble_eq_true rfl)) dX10_grow_12 ⟨Nat.le_of_ble_eq_true rfl, Nat.le_of_ble_eq_true rfl⟩) hS (fun H locs hP hS => ?_)
    have hf := Option.some.inj hf
    exact x_iret hx hb hr hlocks hK hP hS (congrArg Prod.fst hf) (congrArg Prod.snd hf) dX10_grow_15
theorem h9_X10_run : yX10_run.cls = RX10 ∧ yX10_run.cls ≠ "java/lang/invoke/MethodHandle" ∧ yX10_run.cls ≠ "java/lang/invoke/VarHandle" ∧ (parseMethodDescriptor yX10_run.desc).map (fun d => d.parameters.length) = some 2 := by decide +kernel
set_option maxRecDepth 100000 in
set_option maxHeartbeats 4000000 in
theorem t_X10_run (l : Launch) (G : va_G) (ad : Nat → Nat → Nat) (ca : Nat → ClassId) (A : Nat → Prop)   (x1 : Int32) (x2 : Int32) (hD : DW ad LM A)  (σ : PS) (res : Int32) (σz : PS) (hf : X10_run  x1 x2 σ = some (res, σz)) : Met l yX10_run wsX10_run ({ frames := 8, cells := 0, slots := 0, locals := 190 }) (ctP G ad ca LM σ ZM [.ref (ad 500 0), .int x1, .int x2]) (va_Qi (fun r' u => r' = res ∧ u = σz) (ctB G ad ca LM) A) 0 0 A := by
  refine Met.ofW (cc := cX10_run) (maxL := 5) (ret := (some .int)) (by decide) rfl ?_
  intro p e s m args below meth c s₁ B hml hv
  obtain ⟨rfl, hP, hK, hz⟩ := hv
  have hx := B.exec
  have hb := B.bytes
  have hr := B.returns
  have hts : ∀ w ∈ WW, w.before _ s = true := fun w h => atoms_spec (ws := wsX10_run) B.pre w (List.mem_cons_of_mem _ h)
  have hown : s.vm.findClass RX10 = some m.cls := findClass_of_methodNamed B.named
  have hlocks := B.notSynchronized
  have hS : va_S A s.heap s.heap [] := va_S.rf
  have k_48 := hts _ kf_X10_48
  have k_51 := hts _ kf_X10_51
  have k_69 := hts _ kf_X10_69
  have k_212 := hts _ kf_X10_212
  have hl := lv_entry ([.ref (ad 500 0), .int x1, .int x2]) (n := 5) (Nat.le_of_ble_eq_true rfl)
  rw [lg_entry_eq]
  generalize (lg_sl ([.ref (ad 500 0), .int x1, .int x2]) ++ List.replicate (5 - (lg_sl ([.ref (ad 500 0), .int x1, .int x2])).length) Slot.unset).toArray = ls at hl ⊢
  have hl : lv_has ls 5 [(0, .ref (ad 500 0)), (1, .int x1), (2, .int x2)] := hl
  unfold X10_run at hf
  refine lv_aload_n hx hb dX10_run_0 rfl (lv_at hl 0 rfl) ?_
  refine x_get (k := 500) (n := 0) hx hb hts i_X10 hown hK hP (mk_500 h01) rfl rfl 17 (by decide) rfl k_51 (v := .ref (ad 518 0)) rfl dX10_run_1 ?_
  refine lv_iload_n hx hb dX10_run_4 rfl (lv_at hl 2 rfl) ?_
  obtain ⟨g1, hf⟩ := gd_e hf
  refine x_iald (k := 518) (n := 0) hx hb hK hP (mk_518 h01) rfl g1 dX10_run_5 ?_
  obtain ⟨y2, e_y2, hf⟩ := nm_i hf
  refine x_nmI e_y2 ?_
  refine lv_istore_n (lv' := [(3, .int y2), (0, .ref (ad 500 0)), (1, .int x1), (2, .int x2)]) hx hb dX10_run_6 rfl hl (by decide) rfl (fun ls hl => ?_)
  refine lv_aload_n hx hb dX10_run_7 rfl (lv_at hl 1 rfl) ?_
  refine lv_iload_n hx hb dX10_run_8 rfl (lv_at hl 3 rfl) ?_
  obtain ⟨σ3, hc3, hf⟩ := bd_e hf
  refine x_cv (va_runV (As := [.int x2]) (rest := []) ⟨hx, hb, hml, hown, hts⟩ (t_X10_note l G ad ca A x2 hD  σ σ3 hc3) (cwV 1 hts gr_X10_183 rfl rfl rfl h9_X10_note ⟨Nat.le_of_ble_eq_true rfl, Nat.le_of_ble_eq_true rfl⟩) (x_prV zkM hz hK hP (mk_500 h01) rfl rfl) rfl rfl hl.1 rfl (lv_room (Nat.le_of_ble_eq_true rfl)) dX10_run_9 ⟨Nat.le_of_ble_eq_true rfl, Nat.le_of_ble_eq_true rfl⟩) hS (fun H locs hP hS => ?_)
  refine lv_aload_n hx hb dX10_run_12 rfl (lv_at hl 1 rfl) ?_
  refine x_get (k := 500) (n := 0) hx hb hts i_X10 hown hK hP (mk_500 h01) rfl rfl 16 (by decide) rfl k_48 (v := .ref (ad 517 0)) rfl dX10_run_13 ?_
  refine lv_iload_n hx hb dX10_run_16 rfl (lv_at hl 3 rfl) ?_
  obtain ⟨g4, hf⟩ := gd_e hf
  refine x_iald (k := 517) (n := 0) hx hb hK hP (mk_517 h01) rfl g4 dX10_run_17 ?_
  by_cases hc0 : (gI σ3 517 0 (ix x2)) = (0 : Int32)
  · have hf := b_p hf hc0
    refine lv_tableIn (off := 38) (tgt := 56) hx hb dX10_run_18 (by rw [hc0]; decide) (by rw [hc0]; decide) (by rw [hc0]; rfl) rfl ?_
    refine lv_aload_n hx hb dX10_run_56 rfl (lv_at hl 1 rfl) ?_
    refine lv_iload_n hx hb dX10_run_57 rfl (lv_at hl 0 rfl) ?_
    refine lv_i2l hx hb dX10_run_58 rfl ?_
    obtain ⟨r5, σ5, hc5, hf⟩ := bp_e hf
    refine x_ci (va_runV (As := [.long y2.toInt64]) (rest := []) ⟨hx, hb, hml, hown, hts⟩ (t_X10_end l G ad ca A y2.toInt64 hD  σ3 r5 σ5 hc5) (cwV 1 hts gr_X10_228 rfl rfl rfl h9_X10_end ⟨Nat.le_of_ble_eq_true rfl, Nat.le_of_ble_eq_true rfl⟩) (x_prV zkM hz hK hP (mk_500 h01) rfl rfl) rfl rfl hl.1 rfl (lv_room (Nat.le_of_ble_eq_true rfl)) dX10_run_59 ⟨Nat.le_of_ble_eq_true rfl, Nat.le_of_ble_eq_true rfl⟩) hS (fun H locs hP hS => ?_)
    have hf := Option.some.inj hf
    exact x_iret hx hb hr hlocks hK hP hS (congrArg Prod.fst hf) (congrArg Prod.snd hf) dX10_run_62
  have hf := b_n hf hc0
  by_cases hc1 : (gI σ3 517 0 (ix x2)) = (1 : Int32)
  · have hf := b_p hf hc1
    refine lv_tableIn (off := 45) (tgt := 63) hx hb dX10_run_18 (by rw [hc1]; decide) (by rw [hc1]; decide) (by rw [hc1]; rfl) rfl ?_
    refine lv_aload_n hx hb dX10_run_63 rfl (lv_at hl 1 rfl) ?_
    refine lv_aload_n hx hb dX10_run_64 rfl (lv_at hl 1 rfl) ?_
    refine lv_iload_n hx hb dX10_run_65 rfl (lv_at hl 2 rfl) ?_
    obtain ⟨r6, hc6, hf⟩ := bd_e hf
    refine x_cl (va_runV (As := [.int x1]) (rest := [.ref (ad 500 0)]) ⟨hx, hb, hml, hown, hts⟩ (t_X10_weight l G ad ca A x1 hD  σ3 r6 hc6) (cwV 1 hts gr_X10_187 rfl rfl rfl h9_X10_weight ⟨Nat.le_of_ble_eq_true rfl, Nat.le_of_ble_eq_true rfl⟩) (x_prV zkM hz hK hP (mk_500 h01) rfl rfl) rfl rfl hl.1 rfl (lv_room (Nat.le_of_ble_eq_true rfl)) dX10_run_66 ⟨Nat.le_of_ble_eq_true rfl, Nat.le_of_ble_eq_true rfl⟩) hS (fun H locs hP hS => ?_)
    refine lv_iload_n hx hb dX10_run_69 rfl (lv_at hl 0 rfl) ?_
    refine lv_i2l hx hb dX10_run_70 rfl ?_
    refine lv_ladd hx hb dX10_run_71 ?_
    obtain ⟨r7, σ7, hc7, hf⟩ := bp_e hf
    refine x_ci (va_runV (As := [.long (r6 + y2.toInt64)]) (rest := []) ⟨hx, hb, hml, hown, hts⟩ (t_X10_end l G ad ca A (r6 + y2.toInt64) hD  σ3 r7 σ7 hc7) (cwV 1 hts gr_X10_228 rfl rfl rfl h9_X10_end ⟨Nat.le_of_ble_eq_true rfl, Nat.le_of_ble_eq_true rfl⟩) (x_prV zkM hz hK hP (mk_500 h01) rfl rfl) rfl rfl hl.1 rfl (lv_room (Nat.le_of_ble_eq_true rfl)) dX10_run_72 ⟨Nat.le_of_ble_eq_true rfl, Nat.le_of_ble_eq_true rfl⟩) hS (fun H locs hP hS => ?_)
    have hf := Option.some.inj hf
    exact x_iret hx hb hr hlocks hK hP hS (congrArg Prod.fst hf) (congrArg Prod.snd hf) dX10_run_75
  have hf := b_n hf hc1
  by_cases hc2 : (gI σ3 517 0 (ix x2)) = (2 : Int32)
  · have hf := b_p hf hc2
    refine lv_tableIn (off := 58) (tgt := 76) hx hb dX10_run_18 (by rw [hc2]; decide) (by rw [hc2]; decide) (by rw [hc2]; rfl) rfl ?_
    refine lv_aload_n hx hb dX10_run_76 rfl (lv_at hl 1 rfl) ?_
    refine lv_iload_n hx hb dX10_run_77 rfl (lv_at hl 2 rfl) ?_
    refine lv_iload_n hx hb dX10_run_78 rfl (lv_at hl 3 rfl) ?_
    obtain ⟨r8, hc8, hf⟩ := bd_e hf
    refine x_ci (va_runV (As := [.int x1, .int x2]) (rest := []) ⟨hx, hb, hml, hown, hts⟩ (t_X10_offered l G ad ca A x1 x2 hD  σ3 r8 hc8) (cwV 2 hts gr_X10_203 rfl rfl rfl h9_X10_offered ⟨Nat.le_of_ble_eq_true rfl, Nat.le_of_ble_eq_true rfl⟩) (x_prV zkM hz hK hP (mk_500 h01) rfl rfl) rfl rfl hl.1 rfl (lv_room (Nat.le_of_ble_eq_true rfl)) dX10_run_79 ⟨Nat.le_of_ble_eq_true rfl, Nat.le_of_ble_eq_true rfl⟩) hS (fun H locs hP hS => ?_)
    refine lv_if_ne (tgt := 92) hx hb dX10_run_82 rfl (fun hc => ?_) (fun hc => ?_)
    · have hf := b_n hf hc
      refine lv_aload_n hx hb dX10_run_92 rfl (lv_at hl 1 rfl) ?_
      refine lv_dup hx hb dX10_run_93 rfl ?_
      refine x_get (k := 500) (n := 0) hx hb hts i_X10 hown hK hP (mk_500 h01) rfl rfl 26 (by decide) rfl k_212 (v := .long (gL σ3 500 0 26)) rfl dX10_run_94 ?_
      refine lv_iload_n hx hb dX10_run_97 rfl (lv_at hl 0 rfl) ?_
      refine lv_i2l hx hb dX10_run_98 rfl ?_
      refine lv_ladd hx hb dX10_run_99 ?_
      refine x_putL (k := 500) (n := 0) hx hb hts i_X10 tyX10 tyX10_ok nmX10 hown hK hD hP hS (mk_500 h01) rfl rfl 26 (by decide) rfl k_212 rfl rfl rfl rfl dX10_run_100 (fun H locs hP hS => ?_)
      obtain ⟨σ9, e_σ9, hf⟩ := nm_i hf
      have hP : va_P G vwCl (wld ad ca σ9 LM) H := by rw [e_σ9]; exact hP
      refine lv_aload_n hx hb dX10_run_103 rfl (lv_at hl 1 rfl) ?_
      refine lv_iload_n hx hb dX10_run_104 rfl (lv_at hl 2 rfl) ?_
      refine lv_iload_n hx hb dX10_run_105 rfl (lv_at hl 3 rfl) ?_
      obtain ⟨r10, hc10, hf⟩ := bd_e hf
      refine x_ci (va_runV (As := [.int x1, .int x2]) (rest := []) ⟨hx, hb, hml, hown, hts⟩ (t_X10_choose l G ad ca A x1 x2 hD  σ9 r10 hc10) (cwV 2 hts gr_X10_200 rfl rfl rfl h9_X10_choose ⟨Nat.le_of_ble_eq_true rfl, Nat.le_of_ble_eq_true rfl⟩) (x_prV zkM hz hK hP (mk_500 h01) rfl rfl) rfl rfl hl.1 rfl (lv_room (Nat.le_of_ble_eq_true rfl)) dX10_run_106 ⟨Nat.le_of_ble_eq_true rfl, Nat.le_of_ble_eq_true rfl⟩) hS (fun H locs hP hS => ?_)
      have hf := Option.some.inj hf
      exact x_iret hx hb hr hlocks hK hP hS (congrArg Prod.fst hf) (congrArg Prod.snd hf) dX10_run_109
    · have hf := b_p hf hc
      refine lv_aload_n hx hb dX10_run_85 rfl (lv_at hl 1 rfl) ?_
      refine lv_iload_n hx hb dX10_run_86 rfl (lv_at hl 0 rfl) ?_
      refine lv_i2l hx hb dX10_run_87 rfl ?_
      obtain ⟨r11, σ11, hc11, hf⟩ := bp_e hf
      refine x_ci (va_runV (As := [.long y2.toInt64]) (rest := []) ⟨hx, hb, hml, hown, hts⟩ (t_X10_end l G ad ca A y2.toInt64 hD  σ3 r11 σ11 hc11) (cwV 1 hts gr_X10_228 rfl rfl rfl h9_X10_end ⟨Nat.le_of_ble_eq_true rfl, Nat.le_of_ble_eq_true rfl⟩) (x_prV zkM hz hK hP (mk_500 h01) rfl rfl) rfl rfl hl.1 rfl (lv_room (Nat.le_of_ble_eq_true rfl)) dX10_run_88 ⟨Nat.le_of_ble_eq_true rfl, Nat.le_of_ble_eq_true rfl⟩) hS (fun H locs hP hS => ?_)
      have hf := Option.some.inj hf
      exact x_iret hx hb hr hlocks hK hP hS (congrArg Prod.fst hf) (congrArg Prod.snd hf) dX10_run_91
  have hf := b_n hf hc2
  by_cases hc3 : (gI σ3 517 0 (ix x2)) = (3 : Int32)
  · have hf := b_p hf hc3
    refine lv_tableIn (off := 92) (tgt := 110) hx hb dX10_run_18 (by rw [hc3]; decide) (by rw [hc3]; decide) (by rw [hc3]; rfl) rfl ?_
    refine lv_aload_n hx hb dX10_run_110 rfl (lv_at hl 1 rfl) ?_
    refine lv_iload_n hx hb dX10_run_111 rfl (lv_at hl 0 rfl) ?_
    obtain ⟨r12, σ12, hc12, hf⟩ := bp_e hf
    refine x_ci (va_runV (As := [.int y2]) (rest := []) ⟨hx, hb, hml, hown, hts⟩ (t_X10_fail l G ad ca A y2 hD  σ3 r12 σ12 hc12) (cwV 1 hts gr_X10_219 rfl rfl rfl h9_X10_fail ⟨Nat.le_of_ble_eq_true rfl, Nat.le_of_ble_eq_true rfl⟩) (x_prV zkM hz hK hP (mk_500 h01) rfl rfl) rfl rfl hl.1 rfl (lv_room (Nat.le_of_ble_eq_true rfl)) dX10_run_112 ⟨Nat.le_of_ble_eq_true rfl, Nat.le_of_ble_eq_true rfl⟩) hS (fun H locs hP hS => ?_)
    have hf := Option.some.inj hf
    exact x_iret hx hb hr hlocks hK hP hS (congrArg Prod.fst hf) (congrArg Prod.snd hf) dX10_run_115
  have hf := b_n hf hc3
  by_cases hc4 : (gI σ3 517 0 (ix x2)) = (4 : Int32)
  · have hf := b_p hf hc4
    refine lv_tableIn (off := 98) (tgt := 116) hx hb dX10_run_18 (by rw [hc4]; decide) (by rw [hc4]; decide) (by rw [hc4]; rfl) rfl ?_
    refine lv_iload_n hx hb dX10_run_116 rfl (lv_at hl 0 rfl) ?_
    refine lv_bipush (v := (8 : Int32)) hx hb dX10_run_117 rfl ?_
    obtain ⟨r13, hc13, hf⟩ := bd_e hf
    refine x_ci (va_runS (As := [.int y2, .int (8 : Int32)]) (rest := []) ⟨hx, hb, hml, hown, hts⟩ (t_X10_rest l G ad ca A y2 (8 : Int32) hD  σ3 r13 hc13) (va_cwS 2 hts gr_X10_216 rfl rfl rfl h9_X10_rest ⟨Nat.le_of_ble_eq_true rfl, Nat.le_of_ble_eq_true rfl⟩) (x_prS zkM hz hK hP) rfl rfl hl.1 rfl (lv_room (Nat.le_of_ble_eq_true rfl)) dX10_run_119 ⟨Nat.le_of_ble_eq_true rfl, Nat.le_of_ble_eq_true rfl⟩) hS (fun H locs hP hS => ?_)
    refine lv_istore (lv' := [(4, .int r13), (3, .int y2), (0, .ref (ad 500 0)), (1, .int x1), (2, .int x2)]) hx hb dX10_run_122 hl (by decide) rfl (fun ls hl => ?_)
    refine lv_aload_n hx hb dX10_run_124 rfl (lv_at hl 2 rfl) ?_
    refine x_get (k := 500) (n := 0) hx hb hts i_X10 hown hK hP (mk_500 h01) rfl rfl 23 (by decide) rfl k_69 (v := .ref (ad 524 0)) rfl dX10_run_125 ?_
    refine lv_iload hx hb dX10_run_128 (lv_at hl 0 rfl) ?_
    refine lv_dup2_11 hx hb dX10_run_130 rfl rfl ?_
    obtain ⟨g14, hf⟩ := gd_e hf
    refine x_iald (k := 524) (n := 0) hx hb hK hP (mk_524 h01) rfl g14 dX10_run_131 ?_
    refine lv_iconst (v := (1 : Int32)) hx hb dX10_run_132 rfl ?_
    refine lv_iadd hx hb dX10_run_133 ?_
    obtain ⟨g15, hf⟩ := gd_e hf
    refine x_iast (k := 524) (n := 0) hx hb hK hD hP hS (mk_524 h01) rfl g15 dX10_run_134 (fun H locs hP hS => ?_)
    obtain ⟨σ16, e_σ16, hf⟩ := nm_i hf
    have hP : va_P G vwCl (wld ad ca σ16 LM) H := by rw [e_σ16]; exact hP
    refine lv_aload_n hx hb dX10_run_135 rfl (lv_at hl 2 rfl) ?_
    refine lv_aload_n hx hb dX10_run_136 rfl (lv_at hl 2 rfl) ?_
    refine x_get (k := 500) (n := 0) hx hb hts i_X10 hown hK hP (mk_500 h01) rfl rfl 23 (by decide) rfl k_69 (v := .ref (ad 524 0)) rfl dX10_run_137 ?_
    refine lv_iload hx hb dX10_run_140 (lv_at hl 0 rfl) ?_
    obtain ⟨g17, hf⟩ := gd_e hf
    refine x_iald (k := 524) (n := 0) hx hb hK hP (mk_524 h01) rfl g17 dX10_run_142 ?_
    refine lv_i2l hx hb dX10_run_143 rfl ?_
    obtain ⟨r18, σ18, hc18, hf⟩ := bp_e hf
    refine x_ci (va_runV (As := [.long (gI σ16 524 0 (ix r13)).toInt64]) (rest := []) ⟨hx, hb, hml, hown, hts⟩ (t_X10_end l G ad ca A (gI σ16 524 0 (ix r13)).toInt64 hD  σ16 r18 σ18 hc18) (cwV 1 hts gr_X10_228 rfl rfl rfl h9_X10_end ⟨Nat.le_of_ble_eq_true rfl, Nat.le_of_ble_eq_true rfl⟩) (x_prV zkM hz hK hP (mk_500 h01) rfl rfl) rfl rfl hl.1 rfl (lv_room (Nat.le_of_ble_eq_true rfl)) dX10_run_144 ⟨Nat.le_of_ble_eq_true rfl, Nat.le_of_ble_eq_true rfl⟩) hS (fun H locs hP hS => ?_)
    have hf := Option.some.inj hf
    exact x_iret hx hb hr hlocks hK hP hS (congrArg Prod.fst hf) (congrArg Prod.snd hf) dX10_run_147
  have hf := b_n hf hc4
  by_cases hc5 : (gI σ3 517 0 (ix x2)) = (5 : Int32)
  · have hf := b_p hf hc5
    refine lv_tableIn (off := 130) (tgt := 148) hx hb dX10_run_18 (by rw [hc5]; decide) (by rw [hc5]; decide) (by rw [hc5]; rfl) rfl ?_
    refine lv_aload_n hx hb dX10_run_148 rfl (lv_at hl 1 rfl) ?_
    refine lv_iload_n hx hb dX10_run_149 rfl (lv_at hl 0 rfl) ?_
    obtain ⟨r19, σ19, hc19, hf⟩ := bp_e hf
    refine x_ci (va_runV (As := [.int y2]) (rest := []) ⟨hx, hb, hml, hown, hts⟩ (t_X10_grow l G ad ca A y2 hD  σ3 r19 σ19 hc19) (cwV 1 hts gr_X10_232 rfl rfl rfl h9_X10_grow ⟨Nat.le_of_ble_eq_true rfl, Nat.le_of_ble_eq_true rfl⟩) (x_prV zkM hz hK hP (mk_500 h01) rfl rfl) rfl rfl hl.1 rfl (lv_room (Nat.le_of_ble_eq_true rfl)) dX10_run_150 ⟨Nat.le_of_ble_eq_true rfl, Nat.le_of_ble_eq_true rfl⟩) hS (fun H locs hP hS => ?_)
    have hf := Option.some.inj hf
    exact x_iret hx hb hr hlocks hK hP hS (congrArg Prod.fst hf) (congrArg Prod.snd hf) dX10_run_153
  have hf := b_n hf hc5
  refine lv_tableOut (tgt := 154) hx hb dX10_run_18 (x_out (N := 5) (fun j hj => by rcases (show j = 0 ∨ j = 1 ∨ j = 2 ∨ j = 3 ∨ j = 4 ∨ j = 5 by omega) with rfl | rfl | rfl | rfl | rfl | rfl <;> assumption)) rfl ?_
  refine lv_aload_n hx hb dX10_run_154 rfl (lv_at hl 1 rfl) ?_
  refine lv_iload_n hx hb dX10_run_155 rfl (lv_at hl 2 rfl) ?_
  refine lv_iload_n hx hb dX10_run_156 rfl (lv_at hl 3 rfl) ?_
  obtain ⟨r20, σ20, hc20, hf⟩ := bp_e hf
  refine x_ci (va_runV (As := [.int x1, .int x2]) (rest := []) ⟨hx, hb, hml, hown, hts⟩ (t_X10_callOn l G ad ca A x1 x2 hD  σ3 r20 σ20 hc20) (cwV 2 hts gr_X10_235 rfl rfl rfl h9_X10_callOn ⟨Nat.le_of_ble_eq_true rfl, Nat.le_of_ble_eq_true rfl⟩) (x_prV zkM hz hK hP (mk_500 h01) rfl rfl) rfl rfl hl.1 rfl (lv_room (Nat.le_of_ble_eq_true rfl)) dX10_run_157 ⟨Nat.le_of_ble_eq_true rfl, Nat.le_of_ble_eq_true rfl⟩) hS (fun H locs hP hS => ?_)
  have hf := Option.some.inj hf
  exact x_iret hx hb hr hlocks hK hP hS (congrArg Prod.fst hf) (congrArg Prod.snd hf) dX10_run_160
theorem h9_X10_call : yX10_call.cls = RX10 ∧ yX10_call.cls ≠ "java/lang/invoke/MethodHandle" ∧ yX10_call.cls ≠ "java/lang/invoke/VarHandle" ∧ (parseMethodDescriptor yX10_call.desc).map (fun d => d.parameters.length) = some 1 := by decide +kernel
set_option maxRecDepth 100000 in
set_option maxHeartbeats 4000000 in
theorem t_X10_call (l : Launch) (G : va_G) (ad : Nat → Nat → Nat) (ca : Nat → ClassId) (A : Nat → Prop)   (x1 : Int32) (hD : DW ad LM A)  (σ : PS) (res : Int32) (σz : PS) (hf : X10_call  x1 σ = some (res, σz)) : Met l yX10_call wsX10_call ({ frames := 9, cells := 0, slots := 0, locals := 214 }) (ctP G ad ca LM σ ZM [.ref (ad 500 0), .int x1]) (va_Qi (fun r' u => r' = res ∧ u = σz) (ctB G ad ca LM) A) 0 0 A := by
  refine Met.ofW (cc := cX10_call) (maxL := 3) (ret := (some .int)) (by decide) rfl ?_
  intro p e s m args below meth c s₁ B hml hv
  obtain ⟨rfl, hP, hK, hz⟩ := hv
  have hx := B.exec
  have hb := B.bytes
  have hr := B.returns
  have hts : ∀ w ∈ WW, w.before _ s = true := fun w h => atoms_spec (ws := wsX10_call) B.pre w (List.mem_cons_of_mem _ h)
  have hown : s.vm.findClass RX10 = some m.cls := findClass_of_methodNamed B.named
  have hlocks := B.notSynchronized
  have hS : va_S A s.heap s.heap [] := va_S.rf
  have k_45 := hts _ kf_X10_45
  have k_75 := hts _ kf_X10_75
  have k_180 := hts _ kf_X10_180
  have k_191 := hts _ kf_X10_191
  have k_209 := hts _ kf_X10_209
  have k_212 := hts _ kf_X10_212
  have hl := lv_entry ([.ref (ad 500 0), .int x1]) (n := 3) (Nat.le_of_ble_eq_true rfl)
  rw [lg_entry_eq]
  generalize (lg_sl ([.ref (ad 500 0), .int x1]) ++ List.replicate (3 - (lg_sl ([.ref (ad 500 0), .int x1])).length) Slot.unset).toArray = ls at hl ⊢
  have hl : lv_has ls 3 [(0, .ref (ad 500 0)), (1, .int x1)] := hl
  unfold X10_call at hf
  have l48 : ∀ (kx48 : Int32 → PS → Option (Int32 × PS)), (∀ (v2 : Int32) (σ : PS) (H : Heap) (locs : List Loc) (ls : Array Slot), kx48 v2 σ = some (res, σz) → lv_has ls 3 [(0, .ref (ad 500 0)), (2, .int v2)] → va_P G vwCl (wld ad ca σ LM) H → va_S A s.heap H locs → W p l e (headSpec wsX10_call ({ frames := 9, cells := 0, slots := 0, locals := 214 })).room s m (([.ref (ad 500 0), .int x1] : List Value).toArray) below meth c H locs 0 0 (MQ below (va_Qi (fun r' u => r' = res ∧ u = σz) (ctB G ad ca LM) A) (([.ref (ad 500 0), .int x1] : List Value).toArray) s 0 0 A) (F0 m 67 ls [])) → ∀ (n48 : Nat) (v2 : Int32) (σ : PS) (H : Heap) (locs : List Loc) (ls : Array Slot), X10_call_l48  kx48 n48 v2 σ = some (res, σz) → lv_has ls 3 [(0, .ref (ad 500 0)), (2, .int v2)] → va_P G vwCl (wld ad ca σ LM) H → va_S A s.heap H locs → W p l e (headSpec wsX10_call ({ frames := 9, cells := 0, slots := 0, locals := 214 })).room s m (([.ref (ad 500 0), .int x1] : List Value).toArray) below meth c H locs 0 0 (MQ below (va_Qi (fun r' u => r' = res ∧ u = σz) (ctB G ad ca LM) A) (([.ref (ad 500 0), .int x1] : List Value).toArray) s 0 0 A) (F0 m 48 ls []) := by
    intro kx48 hx48 n48
    induction n48 with
    | zero =>
      intro v2 σ H locs ls hf
      exact absurd hf (by simp [X10_call_l48])
    | succ n48 ih48 =>
      intro v2 σ H locs ls hf hl hP hS
      rw [X10_call_l48.eq_2] at hf
      refine lv_iload_n hx hb dX10_call_48 rfl (lv_at hl 1 rfl) ?_
      refine lv_if_lt (tgt := 67) hx hb dX10_call_49 rfl (fun hc => ?_) (fun hc => ?_)
      · have hf := b_p hf hc
        exact hx48 v2 σ _ _ _  hf (lv_sub hl [0, 1] rfl) hP hS
      · have hf := b_n hf hc
        refine lv_aload_n hx hb dX10_call_52 rfl (lv_at hl 0 rfl) ?_
        refine lv_aload_n hx hb dX10_call_53 rfl (lv_at hl 0 rfl) ?_
        refine x_get (k := 500) (n := 0) hx hb hts i_X10 hown hK hP (mk_500 h01) rfl rfl 15 (by decide) rfl k_45 (v := .ref (ad 516 0)) rfl dX10_call_54 ?_
        refine lv_iload_n hx hb dX10_call_57 rfl (lv_at hl 1 rfl) ?_
        obtain ⟨g8, hf⟩ := gd_e hf
        refine x_iald (k := 516) (n := 0) hx hb hK hP (mk_516 h01) rfl g8 dX10_call_58 ?_
        refine lv_iload_n hx hb dX10_call_59 rfl (lv_at hl 1 rfl) ?_
        obtain ⟨r9, σ9, hc9, hf⟩ := bp_e hf
        refine x_ci (va_runV (As := [.int (gI σ 516 0 (ix v2)), .int v2]) (rest := []) ⟨hx, hb, hml, hown, hts⟩ (t_X10_run l G ad ca A (gI σ 516 0 (ix v2)) v2 hD  σ r9 σ9 hc9) (cwV 2 hts gr_X10_241 rfl rfl rfl h9_X10_run ⟨Nat.le_of_ble_eq_true rfl, Nat.le_of_ble_eq_true rfl⟩) (x_prV zkM hz hK hP (mk_500 h01) rfl rfl) rfl rfl hl.1 rfl (lv_room (Nat.le_of_ble_eq_true rfl)) dX10_call_60 ⟨Nat.le_of_ble_eq_true rfl, Nat.le_of_ble_eq_true rfl⟩) hS (fun H locs hP hS => ?_)
        refine lv_istore_n (lv' := [(2, .int r9), (0, .ref (ad 500 0))]) hx hb dX10_call_63 rfl hl (by decide) rfl (fun ls hl => ?_)
        refine lv_goto (tgt := 48) hx hb dX10_call_64 rfl ?_
        exact ih48 r9 σ9 _ _ _  hf (lv_sub hl [1, 0] rfl) hP hS
  have c67 : ∀ (v2 : Int32) (σ : PS) (H : Heap) (locs : List Loc) (ls : Array Slot), X10_call_c67  v2 σ = some (res, σz) → lv_has ls 3 [(0, .ref (ad 500 0)), (2, .int v2)] → va_P G vwCl (wld ad ca σ LM) H → va_S A s.heap H locs → W p l e (headSpec wsX10_call ({ frames := 9, cells := 0, slots := 0, locals := 214 })).room s m (([.ref (ad 500 0), .int x1] : List Value).toArray) below meth c H locs 0 0 (MQ below (va_Qi (fun r' u => r' = res ∧ u = σz) (ctB G ad ca LM) A) (([.ref (ad 500 0), .int x1] : List Value).toArray) s 0 0 A) (F0 m 67 ls []) := by
    intro v2 σ H locs ls hf hl hP hS
    unfold X10_call_c67 at hf
    refine lv_aload_n hx hb dX10_call_67 rfl (lv_at hl 0 rfl) ?_
    refine lv_bipush (v := (-2 : Int32)) hx hb dX10_call_68 rfl ?_
    refine lv_iload_n hx hb dX10_call_70 rfl (lv_at hl 1 rfl) ?_
    refine lv_isub hx hb dX10_call_71 ?_
    refine x_putI (k := 500) (n := 0) hx hb hts i_X10 tyX10 tyX10_ok nmX10 hown hK hD hP hS (mk_500 h01) rfl rfl 25 (by decide) rfl k_75 rfl rfl rfl rfl dX10_call_72 (fun H locs hP hS => ?_)
    obtain ⟨σ10, e_σ10, hf⟩ := nm_i hf
    have hP : va_P G vwCl (wld ad ca σ10 LM) H := by rw [e_σ10]; exact hP
    refine lv_aload_n hx hb dX10_call_75 rfl (lv_at hl 0 rfl) ?_
    refine x_get (k := 500) (n := 0) hx hb hts i_X10 hown hK hP (mk_500 h01) rfl rfl 25 (by decide) rfl k_75 (v := .int (gI σ10 500 0 25)) rfl dX10_call_76 ?_
    have hf := Option.some.inj hf
    exact x_iret hx hb hr hlocks hK hP hS (congrArg Prod.fst hf) (congrArg Prod.snd hf) dX10_call_79
  refine lv_aload_n hx hb dX10_call_0 rfl (lv_at hl 0 rfl) ?_
  refine lv_iload_n hx hb dX10_call_1 rfl (lv_at hl 1 rfl) ?_
  obtain ⟨r1, hc1, hf⟩ := bd_e hf
  refine x_ci (va_runV (As := [.int x1]) (rest := []) ⟨hx, hb, hml, hown, hts⟩ (t_X10_isFunction l G ad ca A x1 hD  σ r1 hc1) (cwV 1 hts gr_X10_134 rfl rfl rfl h9_X10_isFunction ⟨Nat.le_of_ble_eq_true rfl, Nat.le_of_ble_eq_true rfl⟩) (x_prV zkM hz hK hP (mk_500 h01) rfl rfl) rfl rfl hl.1 rfl (lv_room (Nat.le_of_ble_eq_true rfl)) dX10_call_2 ⟨Nat.le_of_ble_eq_true rfl, Nat.le_of_ble_eq_true rfl⟩) hS (fun H locs hP hS => ?_)
  refine lv_if_ne (tgt := 11) hx hb dX10_call_5 rfl (fun hc => ?_) (fun hc => ?_)
  · have hf := b_n hf hc
    refine lv_aload_n hx hb dX10_call_11 rfl (lv_at hl 0 rfl) ?_
    refine lv_iload_n hx hb dX10_call_12 rfl (lv_at hl 1 rfl) ?_
    obtain ⟨r2, σ2, hc2, hf⟩ := bp_e hf
    refine x_ci (va_runV (As := [.int x1]) (rest := []) ⟨hx, hb, hml, hown, hts⟩ (t_X10_tellRow l G ad ca A x1 hD  σ r2 σ2 hc2) (cwV 1 hts gr_X10_238 rfl rfl rfl h9_X10_tellRow ⟨Nat.le_of_ble_eq_true rfl, Nat.le_of_ble_eq_true rfl⟩) (x_prV zkM hz hK hP (mk_500 h01) rfl rfl) rfl rfl hl.1 rfl (lv_room (Nat.le_of_ble_eq_true rfl)) dX10_call_13 ⟨Nat.le_of_ble_eq_true rfl, Nat.le_of_ble_eq_true rfl⟩) hS (fun H locs hP hS => ?_)
    refine lv_if_ne (tgt := 22) hx hb dX10_call_16 rfl (fun hc => ?_) (fun hc => ?_)
    · have hf := b_n hf hc
      refine lv_aload_n hx hb dX10_call_22 rfl (lv_at hl 0 rfl) ?_
      refine lv_iconst (v := (0 : Int32)) hx hb dX10_call_23 rfl ?_
      refine x_putI (k := 500) (n := 0) hx hb hts i_X10 tyX10 tyX10_ok nmX10 hown hK hD hP hS (mk_500 h01) rfl rfl 29 (by decide) rfl k_180 rfl rfl rfl rfl dX10_call_24 (fun H locs hP hS => ?_)
      obtain ⟨σ3, e_σ3, hf⟩ := nm_i hf
      have hP : va_P G vwCl (wld ad ca σ3 LM) H := by rw [e_σ3]; exact hP
      refine lv_aload_n hx hb dX10_call_27 rfl (lv_at hl 0 rfl) ?_
      refine lv_iconst (v := (0 : Int32)) hx hb dX10_call_28 rfl ?_
      refine x_putI (k := 500) (n := 0) hx hb hts i_X10 tyX10 tyX10_ok nmX10 hown hK hD hP hS (mk_500 h01) rfl rfl 30 (by decide) rfl k_191 rfl rfl rfl rfl dX10_call_29 (fun H locs hP hS => ?_)
      obtain ⟨σ4, e_σ4, hf⟩ := nm_i hf
      have hP : va_P G vwCl (wld ad ca σ4 LM) H := by rw [e_σ4]; exact hP
      refine lv_aload_n hx hb dX10_call_32 rfl (lv_at hl 0 rfl) ?_
      refine lv_lconst (v := (0 : Int64)) hx hb dX10_call_33 rfl ?_
      refine x_putL (k := 500) (n := 0) hx hb hts i_X10 tyX10 tyX10_ok nmX10 hown hK hD hP hS (mk_500 h01) rfl rfl 26 (by decide) rfl k_212 rfl rfl rfl rfl dX10_call_34 (fun H locs hP hS => ?_)
      obtain ⟨σ5, e_σ5, hf⟩ := nm_i hf
      have hP : va_P G vwCl (wld ad ca σ5 LM) H := by rw [e_σ5]; exact hP
      refine lv_aload_n hx hb dX10_call_37 rfl (lv_at hl 0 rfl) ?_
      refine lv_iconst (v := (0 : Int32)) hx hb dX10_call_38 rfl ?_
      refine x_putI (k := 500) (n := 0) hx hb hts i_X10 tyX10 tyX10_ok nmX10 hown hK hD hP hS (mk_500 h01) rfl rfl 27 (by decide) rfl k_209 rfl rfl rfl rfl dX10_call_39 (fun H locs hP hS => ?_)
      obtain ⟨σ6, e_σ6, hf⟩ := nm_i hf
      have hP : va_P G vwCl (wld ad ca σ6 LM) H := by rw [e_σ6]; exact hP
      refine lv_aload_n hx hb dX10_call_42 rfl (lv_at hl 0 rfl) ?_
      refine lv_iload_n hx hb dX10_call_43 rfl (lv_at hl 1 rfl) ?_
      obtain ⟨r7, σ7, hc7, hf⟩ := bp_e hf
      refine x_ci (va_runV (As := [.int x1]) (rest := []) ⟨hx, hb, hml, hown, hts⟩ (t_X10_begin l G ad ca A x1 hD  σ6 r7 σ7 hc7) (cwV 1 hts gr_X10_225 rfl rfl rfl h9_X10_begin ⟨Nat.le_of_ble_eq_true rfl, Nat.le_of_ble_eq_true rfl⟩) (x_prV zkM hz hK hP (mk_500 h01) rfl rfl) rfl rfl hl.1 rfl (lv_room (Nat.le_of_ble_eq_true rfl)) dX10_call_44 ⟨Nat.le_of_ble_eq_true rfl, Nat.le_of_ble_eq_true rfl⟩) hS (fun H locs hP hS => ?_)
      refine lv_istore_n (lv' := [(2, .int r7), (0, .ref (ad 500 0)), (1, .int x1)]) hx hb dX10_call_47 rfl hl (by decide) rfl (fun ls hl => ?_)
      exact l48 _ c67 _ r7 σ7 _ _ _  hf (lv_sub hl [1, 0] rfl) hP hS
    · have hf := b_p hf hc
      refine lv_bipush (v := (-3 : Int32)) hx hb dX10_call_19 rfl ?_
      have hf := Option.some.inj hf
      exact x_iret hx hb hr hlocks hK hP hS (congrArg Prod.fst hf) (congrArg Prod.snd hf) dX10_call_21
  · have hf := b_p hf hc
    refine lv_bipush (v := (-2 : Int32)) hx hb dX10_call_8 rfl ?_
    have hf := Option.some.inj hf
    exact x_iret hx hb hr hlocks hK hP hS (congrArg Prod.fst hf) (congrArg Prod.snd hf) dX10_call_10
theorem h9_X10_value : yX10_value.cls = RX10 ∧ yX10_value.cls ≠ "java/lang/invoke/MethodHandle" ∧ yX10_value.cls ≠ "java/lang/invoke/VarHandle" ∧ (parseMethodDescriptor yX10_value.desc).map (fun d => d.parameters.length) = some 0 := by decide +kernel
set_option maxRecDepth 100000 in
set_option maxHeartbeats 4000000 in
theorem t_X10_value (l : Launch) (G : va_G) (ad : Nat → Nat → Nat) (ca : Nat → ClassId) (A : Nat → Prop)   (hD : DW ad LM A)  (σ : PS) (res : Int64) (hf : X10_value   σ = some res) : Met l yX10_value wsX10_value ({ frames := 0, cells := 0, slots := 0, locals := 0 }) (ctP G ad ca LM σ ZM [.ref (ad 500 0)]) (va_Ql (fun r' u => r' = res ∧ u = σ) (ctB G ad ca LM) A) 0 0 A := by
  refine Met.ofW (cc := cX10_value) (maxL := 1) (ret := (some .long)) (by decide) rfl ?_
  intro p e s m args below meth c s₁ B hml hv
  obtain ⟨rfl, hP, hK, hz⟩ := hv
  have hx := B.exec
  have hb := B.bytes
  have hr := B.returns
  have hts : ∀ w ∈ WW, w.before _ s = true := fun w h => atoms_spec (ws := wsX10_value) B.pre w (List.mem_cons_of_mem _ h)
  have hown : s.vm.findClass RX10 = some m.cls := findClass_of_methodNamed B.named
  have hlocks := B.notSynchronized
  have hS : va_S A s.heap s.heap [] := va_S.rf
  have k_75 := hts _ kf_X10_75
  have k_212 := hts _ kf_X10_212
  have hl := lv_entry ([.ref (ad 500 0)]) (n := 1) (Nat.le_of_ble_eq_true rfl)
  rw [lg_entry_eq]
  generalize (lg_sl ([.ref (ad 500 0)]) ++ List.replicate (1 - (lg_sl ([.ref (ad 500 0)])).length) Slot.unset).toArray = ls at hl ⊢
  have hl : lv_has ls 1 [(0, .ref (ad 500 0))] := hl
  unfold X10_value at hf
  refine lv_aload_n hx hb dX10_value_0 rfl (lv_at hl 0 rfl) ?_
  refine x_get (k := 500) (n := 0) hx hb hts i_X10 hown hK hP (mk_500 h01) rfl rfl 25 (by decide) rfl k_75 (v := .int (gI σ 500 0 25)) rfl dX10_value_1 ?_
  refine lv_if_ne (tgt := 14) hx hb dX10_value_4 rfl (fun hc => ?_) (fun hc => ?_)
  · have hf := b_n hf hc
    refine lv_lconst (v := (0 : Int64)) hx hb dX10_value_14 rfl ?_
    exact x_lret hx hb hr hlocks hK hP hS (Option.some.inj hf) rfl dX10_value_15
  · have hf := b_p hf hc
    refine lv_aload_n hx hb dX10_value_7 rfl (lv_at hl 0 rfl) ?_
    refine x_get (k := 500) (n := 0) hx hb hts i_X10 hown hK hP (mk_500 h01) rfl rfl 26 (by decide) rfl k_212 (v := .long (gL σ 500 0 26)) rfl dX10_value_8 ?_
    refine lv_goto (tgt := 15) hx hb dX10_value_11 rfl ?_
    exact x_lret hx hb hr hlocks hK hP hS (Option.some.inj hf) rfl dX10_value_15
theorem h9_X10_failure : yX10_failure.cls = RX10 ∧ yX10_failure.cls ≠ "java/lang/invoke/MethodHandle" ∧ yX10_failure.cls ≠ "java/lang/invoke/VarHandle" ∧ (parseMethodDescriptor yX10_failure.desc).map (fun d => d.parameters.length) = some 0 := by decide +kernel
set_option maxRecDepth 100000 in
set_option maxHeartbeats 4000000 in
theorem t_X10_failure (l : Launch) (G : va_G) (ad : Nat → Nat → Nat) (ca : Nat → ClassId) (A : Nat → Prop)   (hD : DW ad LM A)  (σ : PS) (res : Int32) (hf : X10_failure   σ = some res) : Met l yX10_failure wsX10_failure ({ frames := 0, cells := 0, slots := 0, locals := 0 }) (ctP G ad ca LM σ ZM [.ref (ad 500 0)]) (va_Qi (fun r' u => r' = res ∧ u = σ) (ctB G ad ca LM) A) 0 0 A := by
  refine Met.ofW (cc := cX10_failure) (maxL := 1) (ret := (some .int)) (by decide) rfl ?_
  intro p e s m args below meth c s₁ B hml hv
  obtain ⟨rfl, hP, hK, hz⟩ := hv
  have hx := B.exec
  have hb := B.bytes
  have hr := B.returns
  have hts : ∀ w ∈ WW, w.before _ s = true := fun w h => atoms_spec (ws := wsX10_failure) B.pre w (List.mem_cons_of_mem _ h)
  have hown : s.vm.findClass RX10 = some m.cls := findClass_of_methodNamed B.named
  have hlocks := B.notSynchronized
  have hS : va_S A s.heap s.heap [] := va_S.rf
  have k_75 := hts _ kf_X10_75
  have k_209 := hts _ kf_X10_209
  have hl := lv_entry ([.ref (ad 500 0)]) (n := 1) (Nat.le_of_ble_eq_true rfl)
  rw [lg_entry_eq]
  generalize (lg_sl ([.ref (ad 500 0)]) ++ List.replicate (1 - (lg_sl ([.ref (ad 500 0)])).length) Slot.unset).toArray = ls at hl ⊢
  have hl : lv_has ls 1 [(0, .ref (ad 500 0))] := hl
  unfold X10_failure at hf
  refine lv_aload_n hx hb dX10_failure_0 rfl (lv_at hl 0 rfl) ?_
  refine x_get (k := 500) (n := 0) hx hb hts i_X10 hown hK hP (mk_500 h01) rfl rfl 25 (by decide) rfl k_75 (v := .int (gI σ 500 0 25)) rfl dX10_failure_1 ?_
  refine lv_iconst (v := (3 : Int32)) hx hb dX10_failure_4 rfl ?_
  refine lv_icmp_ne (tgt := 15) hx hb dX10_failure_5 rfl (fun hc => ?_) (fun hc => ?_)
  · have hf := b_n hf hc
    refine lv_iconst (v := (0 : Int32)) hx hb dX10_failure_15 rfl ?_
    exact x_iret hx hb hr hlocks hK hP hS (Option.some.inj hf) rfl dX10_failure_16
  · have hf := b_p hf hc
    refine lv_aload_n hx hb dX10_failure_8 rfl (lv_at hl 0 rfl) ?_
    refine x_get (k := 500) (n := 0) hx hb hts i_X10 hown hK hP (mk_500 h01) rfl rfl 27 (by decide) rfl k_209 (v := .int (gI σ 500 0 27)) rfl dX10_failure_9 ?_
    refine lv_goto (tgt := 16) hx hb dX10_failure_12 rfl ?_
    exact x_iret hx hb hr hlocks hK hP hS (Option.some.inj hf) rfl dX10_failure_16
theorem h9_X10_step : yX10_step.cls = RX10 ∧ yX10_step.cls ≠ "java/lang/invoke/MethodHandle" ∧ yX10_step.cls ≠ "java/lang/invoke/VarHandle" ∧ (parseMethodDescriptor yX10_step.desc).map (fun d => d.parameters.length) = some 1 := by decide +kernel
set_option maxRecDepth 100000 in
set_option maxHeartbeats 4000000 in
theorem t_X10_step (l : Launch) (G : va_G) (ad : Nat → Nat → Nat) (ca : Nat → ClassId) (A : Nat → Prop)   (x1 : Int32) (hD : DW ad LM A)  (σ : PS) (res : Int32) (hf : X10_step  x1 σ = some res) : Met l yX10_step wsX10_step ({ frames := 0, cells := 0, slots := 0, locals := 0 }) (ctP G ad ca LM σ ZM [.ref (ad 500 0), .int x1]) (va_Qi (fun r' u => r' = res ∧ u = σ) (ctB G ad ca LM) A) 0 0 A := by
  refine Met.ofW (cc := cX10_step) (maxL := 2) (ret := (some .int)) (by decide) rfl ?_
  intro p e s m args below meth c s₁ B hml hv
  obtain ⟨rfl, hP, hK, hz⟩ := hv
  have hx := B.exec
  have hb := B.bytes
  have hr := B.returns
  have hts : ∀ w ∈ WW, w.before _ s = true := fun w h => atoms_spec (ws := wsX10_step) B.pre w (List.mem_cons_of_mem _ h)
  have hown : s.vm.findClass RX10 = some m.cls := findClass_of_methodNamed B.named
  have hlocks := B.notSynchronized
  have hS : va_S A s.heap s.heap [] := va_S.rf
  have k_79 := hts _ kf_X10_79
  have k_180 := hts _ kf_X10_180
  have hl := lv_entry ([.ref (ad 500 0), .int x1]) (n := 2) (Nat.le_of_ble_eq_true rfl)
  rw [lg_entry_eq]
  generalize (lg_sl ([.ref (ad 500 0), .int x1]) ++ List.replicate (2 - (lg_sl ([.ref (ad 500 0), .int x1])).length) Slot.unset).toArray = ls at hl ⊢
  have hl : lv_has ls 2 [(0, .ref (ad 500 0)), (1, .int x1)] := hl
  unfold X10_step at hf
  refine lv_iload_n hx hb dX10_step_0 rfl (lv_at hl 1 rfl) ?_
  refine lv_if_lt (tgt := 19) hx hb dX10_step_1 rfl (fun hc => ?_) (fun hc => ?_)
  · have hf := b_p hf hc
    refine lv_iconst (v := (-1 : Int32)) hx hb dX10_step_19 rfl ?_
    refine lv_goto (tgt := 29) hx hb dX10_step_20 rfl ?_
    exact x_iret hx hb hr hlocks hK hP hS (Option.some.inj hf) rfl dX10_step_29
  · have hf := b_n hf hc
    refine lv_iload_n hx hb dX10_step_4 rfl (lv_at hl 1 rfl) ?_
    refine lv_aload_n hx hb dX10_step_5 rfl (lv_at hl 0 rfl) ?_
    refine x_get (k := 500) (n := 0) hx hb hts i_X10 hown hK hP (mk_500 h01) rfl rfl 29 (by decide) rfl k_180 (v := .int (gI σ 500 0 29)) rfl dX10_step_6 ?_
    refine lv_icmp_ge (tgt := 19) hx hb dX10_step_9 rfl (fun hc => ?_) (fun hc => ?_)
    · have hf := b_p hf hc
      refine lv_iconst (v := (-1 : Int32)) hx hb dX10_step_19 rfl ?_
      refine lv_goto (tgt := 29) hx hb dX10_step_20 rfl ?_
      exact x_iret hx hb hr hlocks hK hP hS (Option.some.inj hf) rfl dX10_step_29
    · have hf := b_n hf hc
      refine lv_iload_n hx hb dX10_step_12 rfl (lv_at hl 1 rfl) ?_
      refine lv_sipush (v := (1000 : Int32)) hx hb dX10_step_13 rfl ?_
      refine lv_icmp_lt (tgt := 23) hx hb dX10_step_16 rfl (fun hc => ?_) (fun hc => ?_)
      · have hf := b_p hf hc
        refine lv_aload_n hx hb dX10_step_23 rfl (lv_at hl 0 rfl) ?_
        refine x_get (k := 500) (n := 0) hx hb hts i_X10 hown hK hP (mk_500 h01) rfl rfl 28 (by decide) rfl k_79 (v := .ref (ad 529 0)) rfl dX10_step_24 ?_
        refine lv_iload_n hx hb dX10_step_27 rfl (lv_at hl 1 rfl) ?_
        obtain ⟨g1, hf⟩ := gd_e hf
        refine x_iald (k := 529) (n := 0) hx hb hK hP (mk_529 h01) rfl g1 dX10_step_28 ?_
        exact x_iret hx hb hr hlocks hK hP hS (Option.some.inj hf) rfl dX10_step_29
      · have hf := b_n hf hc
        refine lv_iconst (v := (-1 : Int32)) hx hb dX10_step_19 rfl ?_
        refine lv_goto (tgt := 29) hx hb dX10_step_20 rfl ?_
        exact x_iret hx hb hr hlocks hK hP hS (Option.some.inj hf) rfl dX10_step_29
theorem h9_X10_counter : yX10_counter.cls = RX10 ∧ yX10_counter.cls ≠ "java/lang/invoke/MethodHandle" ∧ yX10_counter.cls ≠ "java/lang/invoke/VarHandle" ∧ (parseMethodDescriptor yX10_counter.desc).map (fun d => d.parameters.length) = some 1 := by decide +kernel
set_option maxRecDepth 100000 in
set_option maxHeartbeats 4000000 in
theorem t_X10_counter (l : Launch) (G : va_G) (ad : Nat → Nat → Nat) (ca : Nat → ClassId) (A : Nat → Prop)   (x1 : Int32) (hD : DW ad LM A)  (σ : PS) (res : Int32) (hf : X10_counter  x1 σ = some res) : Met l yX10_counter wsX10_counter ({ frames := 0, cells := 0, slots := 0, locals := 0 }) (ctP G ad ca LM σ ZM [.ref (ad 500 0), .int x1]) (va_Qi (fun r' u => r' = res ∧ u = σ) (ctB G ad ca LM) A) 0 0 A := by
  refine Met.ofW (cc := cX10_counter) (maxL := 2) (ret := (some .int)) (by decide) rfl ?_
  intro p e s m args below meth c s₁ B hml hv
  obtain ⟨rfl, hP, hK, hz⟩ := hv
  have hx := B.exec
  have hb := B.bytes
  have hr := B.returns
  have hts : ∀ w ∈ WW, w.before _ s = true := fun w h => atoms_spec (ws := wsX10_counter) B.pre w (List.mem_cons_of_mem _ h)
  have hown : s.vm.findClass RX10 = some m.cls := findClass_of_methodNamed B.named
  have hlocks := B.notSynchronized
  have hS : va_S A s.heap s.heap [] := va_S.rf
  have k_69 := hts _ kf_X10_69
  have hl := lv_entry ([.ref (ad 500 0), .int x1]) (n := 2) (Nat.le_of_ble_eq_true rfl)
  rw [lg_entry_eq]
  generalize (lg_sl ([.ref (ad 500 0), .int x1]) ++ List.replicate (2 - (lg_sl ([.ref (ad 500 0), .int x1])).length) Slot.unset).toArray = ls at hl ⊢
  have hl : lv_has ls 2 [(0, .ref (ad 500 0)), (1, .int x1)] := hl
  unfold X10_counter at hf
  refine lv_iload_n hx hb dX10_counter_0 rfl (lv_at hl 1 rfl) ?_
  refine lv_if_lt (tgt := 10) hx hb dX10_counter_1 rfl (fun hc => ?_) (fun hc => ?_)
  · have hf := b_p hf hc
    refine lv_iconst (v := (-1 : Int32)) hx hb dX10_counter_10 rfl ?_
    refine lv_goto (tgt := 20) hx hb dX10_counter_11 rfl ?_
    exact x_iret hx hb hr hlocks hK hP hS (Option.some.inj hf) rfl dX10_counter_20
  · have hf := b_n hf hc
    refine lv_iload_n hx hb dX10_counter_4 rfl (lv_at hl 1 rfl) ?_
    refine lv_bipush (v := (7 : Int32)) hx hb dX10_counter_5 rfl ?_
    refine lv_icmp_le (tgt := 14) hx hb dX10_counter_7 rfl (fun hc => ?_) (fun hc => ?_)
    · have hf := b_p hf hc
      refine lv_aload_n hx hb dX10_counter_14 rfl (lv_at hl 0 rfl) ?_
      refine x_get (k := 500) (n := 0) hx hb hts i_X10 hown hK hP (mk_500 h01) rfl rfl 23 (by decide) rfl k_69 (v := .ref (ad 524 0)) rfl dX10_counter_15 ?_
      refine lv_iload_n hx hb dX10_counter_18 rfl (lv_at hl 1 rfl) ?_
      obtain ⟨g1, hf⟩ := gd_e hf
      refine x_iald (k := 524) (n := 0) hx hb hK hP (mk_524 h01) rfl g1 dX10_counter_19 ?_
      exact x_iret hx hb hr hlocks hK hP hS (Option.some.inj hf) rfl dX10_counter_20
    · have hf := b_n hf hc
      refine lv_iconst (v := (-1 : Int32)) hx hb dX10_counter_10 rfl ?_
      refine lv_goto (tgt := 20) hx hb dX10_counter_11 rfl ?_
      exact x_iret hx hb hr hlocks hK hP hS (Option.some.inj hf) rfl dX10_counter_20
theorem h9_X10_applicable : yX10_applicable.cls = RX10 ∧ yX10_applicable.cls ≠ "java/lang/invoke/MethodHandle" ∧ yX10_applicable.cls ≠ "java/lang/invoke/VarHandle" ∧ (parseMethodDescriptor yX10_applicable.desc).map (fun d => d.parameters.length) = some 2 := by decide +kernel
set_option maxRecDepth 100000 in
set_option maxHeartbeats 4000000 in
theorem t_X10_applicable (l : Launch) (G : va_G) (ad : Nat → Nat → Nat) (ca : Nat → ClassId) (A : Nat → Prop)   (x1 : Int32) (x2 : Int32) (hD : DW ad LM A)  (σ : PS) (res : Int32) (σz : PS) (hf : X10_applicable  x1 x2 σ = some (res, σz)) : Met l yX10_applicable wsX10_applicable ({ frames := 4, cells := 0, slots := 0, locals := 97 }) (ctP G ad ca LM σ ZM [.ref (ad 500 0), .int x1, .int x2]) (va_Qi (fun r' u => r' = res ∧ u = σz) (ctB G ad ca LM) A) 0 0 A := by
  refine Met.ofW (cc := cX10_applicable) (maxL := 6) (ret := (some .int)) (by decide) rfl ?_
  intro p e s m args below meth c s₁ B hml hv
  obtain ⟨rfl, hP, hK, hz⟩ := hv
  have hx := B.exec
  have hb := B.bytes
  have hr := B.returns
  have hts : ∀ w ∈ WW, w.before _ s = true := fun w h => atoms_spec (ws := wsX10_applicable) B.pre w (List.mem_cons_of_mem _ h)
  have hown : s.vm.findClass RX10 = some m.cls := findClass_of_methodNamed B.named
  have hlocks := B.notSynchronized
  have hS : va_S A s.heap s.heap [] := va_S.rf
  have k_131 := hts _ kf_X10_131
  have hl := lv_entry ([.ref (ad 500 0), .int x1, .int x2]) (n := 6) (Nat.le_of_ble_eq_true rfl)
  rw [lg_entry_eq]
  generalize (lg_sl ([.ref (ad 500 0), .int x1, .int x2]) ++ List.replicate (6 - (lg_sl ([.ref (ad 500 0), .int x1, .int x2])).length) Slot.unset).toArray = ls at hl ⊢
  have hl : lv_has ls 6 [(0, .ref (ad 500 0)), (1, .int x1), (2, .int x2)] := hl
  unfold X10_applicable at hf
  have l26 : ∀ (kx26 : Int32 → PS → Option (Int32 × PS)), (∀ (v4 : Int32) (σ : PS) (H : Heap) (locs : List Loc) (ls : Array Slot), kx26 v4 σ = some (res, σz) → lv_has ls 6 [(4, .int v4)] → va_P G vwCl (wld ad ca σ LM) H → va_S A s.heap H locs → W p l e (headSpec wsX10_applicable ({ frames := 4, cells := 0, slots := 0, locals := 97 })).room s m (([.ref (ad 500 0), .int x1, .int x2] : List Value).toArray) below meth c H locs 0 0 (MQ below (va_Qi (fun r' u => r' = res ∧ u = σz) (ctB G ad ca LM) A) (([.ref (ad 500 0), .int x1, .int x2] : List Value).toArray) s 0 0 A) (F0 m 69 ls [])) → ∀ (n26 : Nat) (v1 : Int32) (v2 : Int32) (v3 : Int32) (v4 : Int32) (v5 : Int32) (σ : PS) (H : Heap) (locs : List Loc) (ls : Array Slot), X10_applicable_l26  kx26 n26 v1 v2 v3 v4 v5 σ = some (res, σz) → lv_has ls 6 [(0, .ref (ad 500 0)), (1, .int v1), (2, .int v2), (3, .int v3), (4, .int v4), (5, .int v5)] → va_P G vwCl (wld ad ca σ LM) H → va_S A s.heap H locs → W p l e (headSpec wsX10_applicable ({ frames := 4, cells := 0, slots := 0, locals := 97 })).room s m (([.ref (ad 500 0), .int x1, .int x2] : List Value).toArray) below meth c H locs 0 0 (MQ below (va_Qi (fun r' u => r' = res ∧ u = σz) (ctB G ad ca LM) A) (([.ref (ad 500 0), .int x1, .int x2] : List Value).toArray) s 0 0 A) (F0 m 26 ls []) := by
    intro kx26 hx26 n26
    induction n26 with
    | zero =>
      intro v1 v2 v3 v4 v5 σ H locs ls hf
      exact absurd hf (by simp [X10_applicable_l26])
    | succ n26 ih26 =>
      intro v1 v2 v3 v4 v5 σ H locs ls hf hl hP hS
      rw [X10_applicable_l26.eq_2] at hf
      refine lv_iload hx hb dX10_applicable_26 (lv_at hl 5 rfl) ?_
      refine lv_aload_n hx hb dX10_applicable_28 rfl (lv_at hl 0 rfl) ?_
      refine x_get (k := 500) (n := 0) hx hb hts i_X10 hown hK hP (mk_500 h01) rfl rfl 14 (by decide) rfl k_131 (v := .int (gI σ 500 0 14)) rfl dX10_applicable_29 ?_
      refine lv_icmp_ge (tgt := 69) hx hb dX10_applicable_32 rfl (fun hc => ?_) (fun hc => ?_)
      · have hf := b_p hf hc
        exact hx26 v4 σ _ _ _  hf (lv_sub hl [4] rfl) hP hS
      · have hf := b_n hf hc
        refine lv_aload_n hx hb dX10_applicable_35 rfl (lv_at hl 0 rfl) ?_
        refine lv_iload hx hb dX10_applicable_36 (lv_at hl 5 rfl) ?_
        refine lv_iload_n hx hb dX10_applicable_38 rfl (lv_at hl 1 rfl) ?_
        refine lv_iconst (v := (-1 : Int32)) hx hb dX10_applicable_39 rfl ?_
        obtain ⟨r3, hc3, hf⟩ := bd_e hf
        refine x_ci (va_runV (As := [.int v5, .int v1, .int (-1 : Int32)]) (rest := []) ⟨hx, hb, hml, hown, hts⟩ (t_X10_isOffered l G ad ca A v5 v1 (-1 : Int32) hD  σ r3 hc3) (cwV 3 hts gr_X10_171 rfl rfl rfl h9_X10_isOffered ⟨Nat.le_of_ble_eq_true rfl, Nat.le_of_ble_eq_true rfl⟩) (x_prV zkM hz hK hP (mk_500 h01) rfl rfl) rfl rfl hl.1 rfl (lv_room (Nat.le_of_ble_eq_true rfl)) dX10_applicable_40 ⟨Nat.le_of_ble_eq_true rfl, Nat.le_of_ble_eq_true rfl⟩) hS (fun H locs hP hS => ?_)
        refine lv_if_eq (tgt := 63) hx hb dX10_applicable_43 rfl (fun hc => ?_) (fun hc => ?_)
        · have hf := b_p hf hc
          refine lv_iinc (v := (v5 + (1 : Int32))) (lv' := [(5, .int (v5 + (1 : Int32))), (0, .ref (ad 500 0)), (1, .int v1), (2, .int v2), (3, .int v3), (4, .int v4)]) hx hb dX10_applicable_63 hl (k := 5) rfl rfl (by decide) rfl (fun ls hl => ?_)
          refine lv_goto (tgt := 26) hx hb dX10_applicable_66 rfl ?_
          exact ih26 v1 v2 v3 v4 (v5 + (1 : Int32)) σ _ _ _  hf (lv_sub hl [1, 2, 3, 4, 5, 0] rfl) hP hS
        · have hf := b_n hf hc
          refine lv_iload_n hx hb dX10_applicable_46 rfl (lv_at hl 3 rfl) ?_
          refine lv_iload_n hx hb dX10_applicable_47 rfl (lv_at hl 2 rfl) ?_
          refine lv_icmp_ne (tgt := 56) hx hb dX10_applicable_48 rfl (fun hc => ?_) (fun hc => ?_)
          · have hf := b_n hf hc
            refine lv_iload hx hb dX10_applicable_56 (lv_at hl 4 rfl) ?_
            refine lv_istore (lv' := [(4, .int v4), (0, .ref (ad 500 0)), (1, .int v1), (2, .int v2), (3, .int v3), (5, .int v5)]) hx hb dX10_applicable_58 hl (by decide) rfl (fun ls hl => ?_)
            refine lv_iinc (v := (v3 + (1 : Int32))) (lv' := [(3, .int (v3 + (1 : Int32))), (4, .int v4), (0, .ref (ad 500 0)), (1, .int v1), (2, .int v2), (5, .int v5)]) hx hb dX10_applicable_60 hl (k := 4) rfl rfl (by decide) rfl (fun ls hl => ?_)
            refine lv_iinc (v := (v5 + (1 : Int32))) (lv' := [(5, .int (v5 + (1 : Int32))), (3, .int (v3 + (1 : Int32))), (4, .int v4), (0, .ref (ad 500 0)), (1, .int v1), (2, .int v2)]) hx hb dX10_applicable_63 hl (k := 5) rfl rfl (by decide) rfl (fun ls hl => ?_)
            refine lv_goto (tgt := 26) hx hb dX10_applicable_66 rfl ?_
            exact ih26 v1 v2 (v3 + (1 : Int32)) v4 (v5 + (1 : Int32)) σ _ _ _  hf (lv_sub hl [3, 4, 5, 1, 2, 0] rfl) hP hS
          · have hf := b_p hf hc
            refine lv_iload hx hb dX10_applicable_51 (lv_at hl 5 rfl) ?_
            refine lv_goto (tgt := 58) hx hb dX10_applicable_53 rfl ?_
            refine lv_istore (lv' := [(4, .int v5), (0, .ref (ad 500 0)), (1, .int v1), (2, .int v2), (3, .int v3), (5, .int v5)]) hx hb dX10_applicable_58 hl (by decide) rfl (fun ls hl => ?_)
            refine lv_iinc (v := (v3 + (1 : Int32))) (lv' := [(3, .int (v3 + (1 : Int32))), (4, .int v5), (0, .ref (ad 500 0)), (1, .int v1), (2, .int v2), (5, .int v5)]) hx hb dX10_applicable_60 hl (k := 4) rfl rfl (by decide) rfl (fun ls hl => ?_)
            refine lv_iinc (v := (v5 + (1 : Int32))) (lv' := [(5, .int (v5 + (1 : Int32))), (3, .int (v3 + (1 : Int32))), (4, .int v5), (0, .ref (ad 500 0)), (1, .int v1), (2, .int v2)]) hx hb dX10_applicable_63 hl (k := 5) rfl rfl (by decide) rfl (fun ls hl => ?_)
            refine lv_goto (tgt := 26) hx hb dX10_applicable_66 rfl ?_
            exact ih26 v1 v2 (v3 + (1 : Int32)) v5 (v5 + (1 : Int32)) σ _ _ _  hf (lv_sub hl [3, 4, 5, 1, 2, 0] rfl) hP hS
  have c69 : ∀ (v4 : Int32) (σ : PS) (H : Heap) (locs : List Loc) (ls : Array Slot), X10_applicable_c69  v4 σ = some (res, σz) → lv_has ls 6 [(4, .int v4)] → va_P G vwCl (wld ad ca σ LM) H → va_S A s.heap H locs → W p l e (headSpec wsX10_applicable ({ frames := 4, cells := 0, slots := 0, locals := 97 })).room s m (([.ref (ad 500 0), .int x1, .int x2] : List Value).toArray) below meth c H locs 0 0 (MQ below (va_Qi (fun r' u => r' = res ∧ u = σz) (ctB G ad ca LM) A) (([.ref (ad 500 0), .int x1, .int x2] : List Value).toArray) s 0 0 A) (F0 m 69 ls []) := by
    intro v4 σ H locs ls hf hl hP hS
    unfold X10_applicable_c69 at hf
    refine lv_iload hx hb dX10_applicable_69 (lv_at hl 0 rfl) ?_
    have hf := Option.some.inj hf
    exact x_iret hx hb hr hlocks hK hP hS (congrArg Prod.fst hf) (congrArg Prod.snd hf) dX10_applicable_71
  refine lv_aload_n hx hb dX10_applicable_0 rfl (lv_at hl 0 rfl) ?_
  refine lv_iload_n hx hb dX10_applicable_1 rfl (lv_at hl 1 rfl) ?_
  obtain ⟨r1, hc1, hf⟩ := bd_e hf
  refine x_ci (va_runV (As := [.int x1]) (rest := []) ⟨hx, hb, hml, hown, hts⟩ (t_X10_isFunction l G ad ca A x1 hD  σ r1 hc1) (cwV 1 hts gr_X10_134 rfl rfl rfl h9_X10_isFunction ⟨Nat.le_of_ble_eq_true rfl, Nat.le_of_ble_eq_true rfl⟩) (x_prV zkM hz hK hP (mk_500 h01) rfl rfl) rfl rfl hl.1 rfl (lv_room (Nat.le_of_ble_eq_true rfl)) dX10_applicable_2 ⟨Nat.le_of_ble_eq_true rfl, Nat.le_of_ble_eq_true rfl⟩) hS (fun H locs hP hS => ?_)
  refine lv_if_eq (tgt := 16) hx hb dX10_applicable_5 rfl (fun hc => ?_) (fun hc => ?_)
  · have hf := b_p hf hc
    refine lv_iconst (v := (-1 : Int32)) hx hb dX10_applicable_16 rfl ?_
    have hf := Option.some.inj hf
    exact x_iret hx hb hr hlocks hK hP hS (congrArg Prod.fst hf) (congrArg Prod.snd hf) dX10_applicable_17
  · have hf := b_n hf hc
    refine lv_aload_n hx hb dX10_applicable_8 rfl (lv_at hl 0 rfl) ?_
    refine lv_iload_n hx hb dX10_applicable_9 rfl (lv_at hl 1 rfl) ?_
    obtain ⟨r2, σ2, hc2, hf⟩ := bp_e hf
    refine x_ci (va_runV (As := [.int x1]) (rest := []) ⟨hx, hb, hml, hown, hts⟩ (t_X10_tellRow l G ad ca A x1 hD  σ r2 σ2 hc2) (cwV 1 hts gr_X10_238 rfl rfl rfl h9_X10_tellRow ⟨Nat.le_of_ble_eq_true rfl, Nat.le_of_ble_eq_true rfl⟩) (x_prV zkM hz hK hP (mk_500 h01) rfl rfl) rfl rfl hl.1 rfl (lv_room (Nat.le_of_ble_eq_true rfl)) dX10_applicable_10 ⟨Nat.le_of_ble_eq_true rfl, Nat.le_of_ble_eq_true rfl⟩) hS (fun H locs hP hS => ?_)
    refine lv_if_ne (tgt := 18) hx hb dX10_applicable_13 rfl (fun hc => ?_) (fun hc => ?_)
    · have hf := b_n hf hc
      refine lv_iconst (v := (0 : Int32)) hx hb dX10_applicable_18 rfl ?_
      refine lv_istore_n (lv' := [(3, .int (0 : Int32)), (0, .ref (ad 500 0)), (1, .int x1), (2, .int x2)]) hx hb dX10_applicable_19 rfl hl (by decide) rfl (fun ls hl => ?_)
      refine lv_iconst (v := (-1 : Int32)) hx hb dX10_applicable_20 rfl ?_
      refine lv_istore (lv' := [(4, .int (-1 : Int32)), (3, .int (0 : Int32)), (0, .ref (ad 500 0)), (1, .int x1), (2, .int x2)]) hx hb dX10_applicable_21 hl (by decide) rfl (fun ls hl => ?_)
      refine lv_iconst (v := (0 : Int32)) hx hb dX10_applicable_23 rfl ?_
      refine lv_istore (lv' := [(5, .int (0 : Int32)), (4, .int (-1 : Int32)), (3, .int (0 : Int32)), (0, .ref (ad 500 0)), (1, .int x1), (2, .int x2)]) hx hb dX10_applicable_24 hl (by decide) rfl (fun ls hl => ?_)
      exact l26 _ c69 _ x1 x2 (0 : Int32) (-1 : Int32) (0 : Int32) σ2 _ _ _  hf (lv_sub hl [3, 4, 5, 2, 1, 0] rfl) hP hS
    · have hf := b_p hf hc
      refine lv_iconst (v := (-1 : Int32)) hx hb dX10_applicable_16 rfl ?_
      have hf := Option.some.inj hf
      exact x_iret hx hb hr hlocks hK hP hS (congrArg Prod.fst hf) (congrArg Prod.snd hf) dX10_applicable_17
theorem h9_X10_most : yX10_most.cls = RX10 ∧ yX10_most.cls ≠ "java/lang/invoke/MethodHandle" ∧ yX10_most.cls ≠ "java/lang/invoke/VarHandle" ∧ (parseMethodDescriptor yX10_most.desc).map (fun d => d.parameters.length) = some 1 := by decide +kernel
set_option maxRecDepth 100000 in
set_option maxHeartbeats 4000000 in
theorem t_X10_most (l : Launch) (G : va_G) (ad : Nat → Nat → Nat) (ca : Nat → ClassId) (A : Nat → Prop)   (x1 : Int32) (hD : DW ad LM A)  (σ : PS) (res : Int32) (σz : PS) (hf : X10_most  x1 σ = some (res, σz)) : Met l yX10_most wsX10_most ({ frames := 5, cells := 0, slots := 0, locals := 123 }) (ctP G ad ca LM σ ZM [.ref (ad 500 0), .int x1]) (va_Qi (fun r' u => r' = res ∧ u = σz) (ctB G ad ca LM) A) 0 0 A := by
  refine Met.ofW (cc := cX10_most) (maxL := 2) (ret := (some .int)) (by decide) rfl ?_
  intro p e s m args below meth c s₁ B hml hv
  obtain ⟨rfl, hP, hK, hz⟩ := hv
  have hx := B.exec
  have hb := B.bytes
  have hr := B.returns
  have hts : ∀ w ∈ WW, w.before _ s = true := fun w h => atoms_spec (ws := wsX10_most) B.pre w (List.mem_cons_of_mem _ h)
  have hown : s.vm.findClass RX10 = some m.cls := findClass_of_methodNamed B.named
  have hlocks := B.notSynchronized
  have hS : va_S A s.heap s.heap [] := va_S.rf
  have hl := lv_entry ([.ref (ad 500 0), .int x1]) (n := 2) (Nat.le_of_ble_eq_true rfl)
  rw [lg_entry_eq]
  generalize (lg_sl ([.ref (ad 500 0), .int x1]) ++ List.replicate (2 - (lg_sl ([.ref (ad 500 0), .int x1])).length) Slot.unset).toArray = ls at hl ⊢
  have hl : lv_has ls 2 [(0, .ref (ad 500 0)), (1, .int x1)] := hl
  unfold X10_most at hf
  refine lv_aload_n hx hb dX10_most_0 rfl (lv_at hl 0 rfl) ?_
  refine lv_iload_n hx hb dX10_most_1 rfl (lv_at hl 1 rfl) ?_
  obtain ⟨r1, hc1, hf⟩ := bd_e hf
  refine x_ci (va_runV (As := [.int x1]) (rest := []) ⟨hx, hb, hml, hown, hts⟩ (t_X10_isFunction l G ad ca A x1 hD  σ r1 hc1) (cwV 1 hts gr_X10_134 rfl rfl rfl h9_X10_isFunction ⟨Nat.le_of_ble_eq_true rfl, Nat.le_of_ble_eq_true rfl⟩) (x_prV zkM hz hK hP (mk_500 h01) rfl rfl) rfl rfl hl.1 rfl (lv_room (Nat.le_of_ble_eq_true rfl)) dX10_most_2 ⟨Nat.le_of_ble_eq_true rfl, Nat.le_of_ble_eq_true rfl⟩) hS (fun H locs hP hS => ?_)
  refine lv_if_eq (tgt := 25) hx hb dX10_most_5 rfl (fun hc => ?_) (fun hc => ?_)
  · have hf := b_p hf hc
    refine lv_iconst (v := (-1 : Int32)) hx hb dX10_most_25 rfl ?_
    have hf := Option.some.inj hf
    exact x_iret hx hb hr hlocks hK hP hS (congrArg Prod.fst hf) (congrArg Prod.snd hf) dX10_most_26
  · have hf := b_n hf hc
    refine lv_aload_n hx hb dX10_most_8 rfl (lv_at hl 0 rfl) ?_
    refine lv_iload_n hx hb dX10_most_9 rfl (lv_at hl 1 rfl) ?_
    obtain ⟨r2, σ2, hc2, hf⟩ := bp_e hf
    refine x_ci (va_runV (As := [.int x1]) (rest := []) ⟨hx, hb, hml, hown, hts⟩ (t_X10_tellRow l G ad ca A x1 hD  σ r2 σ2 hc2) (cwV 1 hts gr_X10_238 rfl rfl rfl h9_X10_tellRow ⟨Nat.le_of_ble_eq_true rfl, Nat.le_of_ble_eq_true rfl⟩) (x_prV zkM hz hK hP (mk_500 h01) rfl rfl) rfl rfl hl.1 rfl (lv_room (Nat.le_of_ble_eq_true rfl)) dX10_most_10 ⟨Nat.le_of_ble_eq_true rfl, Nat.le_of_ble_eq_true rfl⟩) hS (fun H locs hP hS => ?_)
    refine lv_if_eq (tgt := 25) hx hb dX10_most_13 rfl (fun hc => ?_) (fun hc => ?_)
    · have hf := b_p hf hc
      refine lv_iconst (v := (-1 : Int32)) hx hb dX10_most_25 rfl ?_
      have hf := Option.some.inj hf
      exact x_iret hx hb hr hlocks hK hP hS (congrArg Prod.fst hf) (congrArg Prod.snd hf) dX10_most_26
    · have hf := b_n hf hc
      refine lv_aload_n hx hb dX10_most_16 rfl (lv_at hl 0 rfl) ?_
      refine lv_iload_n hx hb dX10_most_17 rfl (lv_at hl 1 rfl) ?_
      refine lv_iconst (v := (-1 : Int32)) hx hb dX10_most_18 rfl ?_
      obtain ⟨r3, hc3, hf⟩ := bd_e hf
      refine x_ci (va_runV (As := [.int x1, .int (-1 : Int32)]) (rest := []) ⟨hx, hb, hml, hown, hts⟩ (t_X10_chosen l G ad ca A x1 (-1 : Int32) hD  σ2 r3 hc3) (cwV 2 hts gr_X10_206 rfl rfl rfl h9_X10_chosen ⟨Nat.le_of_ble_eq_true rfl, Nat.le_of_ble_eq_true rfl⟩) (x_prV zkM hz hK hP (mk_500 h01) rfl rfl) rfl rfl hl.1 rfl (lv_room (Nat.le_of_ble_eq_true rfl)) dX10_most_19 ⟨Nat.le_of_ble_eq_true rfl, Nat.le_of_ble_eq_true rfl⟩) hS (fun H locs hP hS => ?_)
      refine lv_goto (tgt := 26) hx hb dX10_most_22 rfl ?_
      have hf := Option.some.inj hf
      exact x_iret hx hb hr hlocks hK hP hS (congrArg Prod.fst hf) (congrArg Prod.snd hf) dX10_most_26
theorem h9_X10_moreThan : yX10_moreThan.cls = RX10 ∧ yX10_moreThan.cls ≠ "java/lang/invoke/MethodHandle" ∧ yX10_moreThan.cls ≠ "java/lang/invoke/VarHandle" ∧ (parseMethodDescriptor yX10_moreThan.desc).map (fun d => d.parameters.length) = some 2 := by decide +kernel
set_option maxRecDepth 100000 in
set_option maxHeartbeats 4000000 in
theorem t_X10_moreThan (l : Launch) (G : va_G) (ad : Nat → Nat → Nat) (ca : Nat → ClassId) (A : Nat → Prop)   (x1 : Int32) (x2 : Int32) (hD : DW ad LM A)  (σ : PS) (res : Int32) (hf : X10_moreThan  x1 x2 σ = some res) : Met l yX10_moreThan wsX10_moreThan ({ frames := 4, cells := 0, slots := 0, locals := 97 }) (ctP G ad ca LM σ ZM [.ref (ad 500 0), .int x1, .int x2]) (va_Qi (fun r' u => r' = res ∧ u = σ) (ctB G ad ca LM) A) 0 0 A := by
  refine Met.ofW (cc := cX10_moreThan) (maxL := 5) (ret := (some .int)) (by decide) rfl ?_
  intro p e s m args below meth c s₁ B hml hv
  obtain ⟨rfl, hP, hK, hz⟩ := hv
  have hx := B.exec
  have hb := B.bytes
  have hr := B.returns
  have hts : ∀ w ∈ WW, w.before _ s = true := fun w h => atoms_spec (ws := wsX10_moreThan) B.pre w (List.mem_cons_of_mem _ h)
  have hown : s.vm.findClass RX10 = some m.cls := findClass_of_methodNamed B.named
  have hlocks := B.notSynchronized
  have hS : va_S A s.heap s.heap [] := va_S.rf
  have k_131 := hts _ kf_X10_131
  have hl := lv_entry ([.ref (ad 500 0), .int x1, .int x2]) (n := 5) (Nat.le_of_ble_eq_true rfl)
  rw [lg_entry_eq]
  generalize (lg_sl ([.ref (ad 500 0), .int x1, .int x2]) ++ List.replicate (5 - (lg_sl ([.ref (ad 500 0), .int x1, .int x2])).length) Slot.unset).toArray = ls at hl ⊢
  have hl : lv_has ls 5 [(0, .ref (ad 500 0)), (1, .int x1), (2, .int x2)] := hl
  unfold X10_moreThan at hf
  have l10 : ∀ (kx10 : Int32 → Option (Int32)), (∀ (v3 : Int32) (H : Heap) (locs : List Loc) (ls : Array Slot), kx10 v3 = some res → lv_has ls 5 [(3, .int v3)] → va_P G vwCl (wld ad ca σ LM) H → va_S A s.heap H locs → W p l e (headSpec wsX10_moreThan ({ frames := 4, cells := 0, slots := 0, locals := 97 })).room s m (([.ref (ad 500 0), .int x1, .int x2] : List Value).toArray) below meth c H locs 0 0 (MQ below (va_Qi (fun r' u => r' = res ∧ u = σ) (ctB G ad ca LM) A) (([.ref (ad 500 0), .int x1, .int x2] : List Value).toArray) s 0 0 A) (F0 m 49 ls [])) → ∀ (n10 : Nat) (v1 : Int32) (v2 : Int32) (v3 : Int32) (v4 : Int32) (H : Heap) (locs : List Loc) (ls : Array Slot), X10_moreThan_l10 σ kx10 n10 v1 v2 v3 v4 = some res → lv_has ls 5 [(0, .ref (ad 500 0)), (1, .int v1), (2, .int v2), (3, .int v3), (4, .int v4)] → va_P G vwCl (wld ad ca σ LM) H → va_S A s.heap H locs → W p l e (headSpec wsX10_moreThan ({ frames := 4, cells := 0, slots := 0, locals := 97 })).room s m (([.ref (ad 500 0), .int x1, .int x2] : List Value).toArray) below meth c H locs 0 0 (MQ below (va_Qi (fun r' u => r' = res ∧ u = σ) (ctB G ad ca LM) A) (([.ref (ad 500 0), .int x1, .int x2] : List Value).toArray) s 0 0 A) (F0 m 10 ls []) := by
    intro kx10 hx10 n10
    induction n10 with
    | zero =>
      intro v1 v2 v3 v4 H locs ls hf
      exact absurd hf (by simp [X10_moreThan_l10])
    | succ n10 ih10 =>
      intro v1 v2 v3 v4 H locs ls hf hl hP hS
      rw [X10_moreThan_l10.eq_2] at hf
      refine lv_iload hx hb dX10_moreThan_10 (lv_at hl 4 rfl) ?_
      refine lv_if_lt (tgt := 49) hx hb dX10_moreThan_12 rfl (fun hc => ?_) (fun hc => ?_)
      · have hf := b_p hf hc
        exact hx10 v3 _ _ _  hf (lv_sub hl [3] rfl) hP hS
      · have hf := b_n hf hc
        refine lv_aload_n hx hb dX10_moreThan_15 rfl (lv_at hl 0 rfl) ?_
        refine lv_iload hx hb dX10_moreThan_16 (lv_at hl 4 rfl) ?_
        refine lv_iload_n hx hb dX10_moreThan_18 rfl (lv_at hl 1 rfl) ?_
        refine lv_iconst (v := (-1 : Int32)) hx hb dX10_moreThan_19 rfl ?_
        obtain ⟨r2, hc2, hf⟩ := bd_e hf
        refine x_ci (va_runV (As := [.int v4, .int v1, .int (-1 : Int32)]) (rest := []) ⟨hx, hb, hml, hown, hts⟩ (t_X10_isOffered l G ad ca A v4 v1 (-1 : Int32) hD  σ r2 hc2) (cwV 3 hts gr_X10_171 rfl rfl rfl h9_X10_isOffered ⟨Nat.le_of_ble_eq_true rfl, Nat.le_of_ble_eq_true rfl⟩) (x_prV zkM hz hK hP (mk_500 h01) rfl rfl) rfl rfl hl.1 rfl (lv_room (Nat.le_of_ble_eq_true rfl)) dX10_moreThan_20 ⟨Nat.le_of_ble_eq_true rfl, Nat.le_of_ble_eq_true rfl⟩) hS (fun H locs hP hS => ?_)
        refine lv_if_eq (tgt := 41) hx hb dX10_moreThan_23 rfl (fun hc => ?_) (fun hc => ?_)
        · have hf := b_p hf hc
          refine lv_iload_n hx hb dX10_moreThan_41 rfl (lv_at hl 3 rfl) ?_
          refine lv_istore_n (lv' := [(3, .int v3), (0, .ref (ad 500 0)), (1, .int v1), (2, .int v2), (4, .int v4)]) hx hb dX10_moreThan_42 rfl hl (by decide) rfl (fun ls hl => ?_)
          refine lv_iinc (v := (v4 + (-1 : Int32))) (lv' := [(4, .int (v4 + (-1 : Int32))), (3, .int v3), (0, .ref (ad 500 0)), (1, .int v1), (2, .int v2)]) hx hb dX10_moreThan_43 hl (k := 4) rfl rfl (by decide) rfl (fun ls hl => ?_)
          refine lv_goto (tgt := 10) hx hb dX10_moreThan_46 rfl ?_
          exact ih10 v1 v2 v3 (v4 + (-1 : Int32)) _ _ _  hf (lv_sub hl [2, 3, 4, 1, 0] rfl) hP hS
        · have hf := b_n hf hc
          refine lv_aload_n hx hb dX10_moreThan_26 rfl (lv_at hl 0 rfl) ?_
          refine lv_iload hx hb dX10_moreThan_27 (lv_at hl 4 rfl) ?_
          refine lv_iload_n hx hb dX10_moreThan_29 rfl (lv_at hl 2 rfl) ?_
          obtain ⟨r3, hc3, hf⟩ := bd_e hf
          refine x_ci (va_runV (As := [.int v4, .int v2]) (rest := []) ⟨hx, hb, hml, hown, hts⟩ (t_X10_isMore l G ad ca A v4 v2 hD  σ r3 hc3) (cwV 2 hts gr_X10_159 rfl rfl rfl h9_X10_isMore ⟨Nat.le_of_ble_eq_true rfl, Nat.le_of_ble_eq_true rfl⟩) (x_prV zkM hz hK hP (mk_500 h01) rfl rfl) rfl rfl hl.1 rfl (lv_room (Nat.le_of_ble_eq_true rfl)) dX10_moreThan_30 ⟨Nat.le_of_ble_eq_true rfl, Nat.le_of_ble_eq_true rfl⟩) hS (fun H locs hP hS => ?_)
          refine lv_if_eq (tgt := 41) hx hb dX10_moreThan_33 rfl (fun hc => ?_) (fun hc => ?_)
          · have hf := b_p hf hc
            refine lv_iload_n hx hb dX10_moreThan_41 rfl (lv_at hl 3 rfl) ?_
            refine lv_istore_n (lv' := [(3, .int v3), (0, .ref (ad 500 0)), (1, .int v1), (2, .int v2), (4, .int v4)]) hx hb dX10_moreThan_42 rfl hl (by decide) rfl (fun ls hl => ?_)
            refine lv_iinc (v := (v4 + (-1 : Int32))) (lv' := [(4, .int (v4 + (-1 : Int32))), (3, .int v3), (0, .ref (ad 500 0)), (1, .int v1), (2, .int v2)]) hx hb dX10_moreThan_43 hl (k := 4) rfl rfl (by decide) rfl (fun ls hl => ?_)
            refine lv_goto (tgt := 10) hx hb dX10_moreThan_46 rfl ?_
            exact ih10 v1 v2 v3 (v4 + (-1 : Int32)) _ _ _  hf (lv_sub hl [2, 3, 4, 1, 0] rfl) hP hS
          · have hf := b_n hf hc
            refine lv_iload hx hb dX10_moreThan_36 (lv_at hl 4 rfl) ?_
            refine lv_goto (tgt := 42) hx hb dX10_moreThan_38 rfl ?_
            refine lv_istore_n (lv' := [(3, .int v4), (0, .ref (ad 500 0)), (1, .int v1), (2, .int v2), (4, .int v4)]) hx hb dX10_moreThan_42 rfl hl (by decide) rfl (fun ls hl => ?_)
            refine lv_iinc (v := (v4 + (-1 : Int32))) (lv' := [(4, .int (v4 + (-1 : Int32))), (3, .int v4), (0, .ref (ad 500 0)), (1, .int v1), (2, .int v2)]) hx hb dX10_moreThan_43 hl (k := 4) rfl rfl (by decide) rfl (fun ls hl => ?_)
            refine lv_goto (tgt := 10) hx hb dX10_moreThan_46 rfl ?_
            exact ih10 v1 v2 v4 (v4 + (-1 : Int32)) _ _ _  hf (lv_sub hl [2, 3, 4, 1, 0] rfl) hP hS
  have c49 : ∀ (v3 : Int32) (H : Heap) (locs : List Loc) (ls : Array Slot), X10_moreThan_c49 σ v3 = some res → lv_has ls 5 [(3, .int v3)] → va_P G vwCl (wld ad ca σ LM) H → va_S A s.heap H locs → W p l e (headSpec wsX10_moreThan ({ frames := 4, cells := 0, slots := 0, locals := 97 })).room s m (([.ref (ad 500 0), .int x1, .int x2] : List Value).toArray) below meth c H locs 0 0 (MQ below (va_Qi (fun r' u => r' = res ∧ u = σ) (ctB G ad ca LM) A) (([.ref (ad 500 0), .int x1, .int x2] : List Value).toArray) s 0 0 A) (F0 m 49 ls []) := by
    intro v3 H locs ls hf hl hP hS
    unfold X10_moreThan_c49 at hf
    refine lv_iload_n hx hb dX10_moreThan_49 rfl (lv_at hl 0 rfl) ?_
    exact x_iret hx hb hr hlocks hK hP hS (Option.some.inj hf) rfl dX10_moreThan_50
  refine lv_iconst (v := (-1 : Int32)) hx hb dX10_moreThan_0 rfl ?_
  refine lv_istore_n (lv' := [(3, .int (-1 : Int32)), (0, .ref (ad 500 0)), (1, .int x1), (2, .int x2)]) hx hb dX10_moreThan_1 rfl hl (by decide) rfl (fun ls hl => ?_)
  refine lv_aload_n hx hb dX10_moreThan_2 rfl (lv_at hl 1 rfl) ?_
  refine x_get (k := 500) (n := 0) hx hb hts i_X10 hown hK hP (mk_500 h01) rfl rfl 14 (by decide) rfl k_131 (v := .int (gI σ 500 0 14)) rfl dX10_moreThan_3 ?_
  refine lv_iconst (v := (1 : Int32)) hx hb dX10_moreThan_6 rfl ?_
  refine lv_isub hx hb dX10_moreThan_7 ?_
  obtain ⟨y1, e_y1, hf⟩ := nm_i hf
  refine x_nmI e_y1 ?_
  refine lv_istore (lv' := [(4, .int y1), (3, .int (-1 : Int32)), (0, .ref (ad 500 0)), (1, .int x1), (2, .int x2)]) hx hb dX10_moreThan_8 hl (by decide) rfl (fun ls hl => ?_)
  exact l10 _ c49 _ x1 x2 (-1 : Int32) y1 _ _ _  hf (lv_sub hl [2, 3, 4, 1, 0] rfl) hP hS
theorem h9_X10_explain : yX10_explain.cls = RX10 ∧ yX10_explain.cls ≠ "java/lang/invoke/MethodHandle" ∧ yX10_explain.cls ≠ "java/lang/invoke/VarHandle" ∧ (parseMethodDescriptor yX10_explain.desc).map (fun d => d.parameters.length) = some 1 := by decide +kernel
set_option maxRecDepth 100000 in
set_option maxHeartbeats 4000000 in
theorem t_X10_explain (l : Launch) (G : va_G) (ad : Nat → Nat → Nat) (ca : Nat → ClassId) (A : Nat → Prop)   (x1 : Int32) (hD : DW ad LM A)  (σ : PS) (res : Int32) (σz : PS) (hf : X10_explain  x1 σ = some (res, σz)) : Met l yX10_explain wsX10_explain ({ frames := 5, cells := 0, slots := 0, locals := 123 }) (ctP G ad ca LM σ ZM [.ref (ad 500 0), .int x1]) (va_Qi (fun r' u => r' = res ∧ u = σz) (ctB G ad ca LM) A) 0 0 A := by
  refine Met.ofW (cc := cX10_explain) (maxL := 4) (ret := (some .int)) (by decide) rfl ?_
  intro p e s m args below meth c s₁ B hml hv
  obtain ⟨rfl, hP, hK, hz⟩ := hv
  have hx := B.exec
  have hb := B.bytes
  have hr := B.returns
  have hts : ∀ w ∈ WW, w.before _ s = true := fun w h => atoms_spec (ws := wsX10_explain) B.pre w (List.mem_cons_of_mem _ h)
  have hown : s.vm.findClass RX10 = some m.cls := findClass_of_methodNamed B.named
  have hlocks := B.notSynchronized
  have hS : va_S A s.heap s.heap [] := va_S.rf
  have k_45 := hts _ kf_X10_45
  have k_54 := hts _ kf_X10_54
  have k_57 := hts _ kf_X10_57
  have k_88 := hts _ kf_X10_88
  have k_131 := hts _ kf_X10_131
  have hl := lv_entry ([.ref (ad 500 0), .int x1]) (n := 4) (Nat.le_of_ble_eq_true rfl)
  rw [lg_entry_eq]
  generalize (lg_sl ([.ref (ad 500 0), .int x1]) ++ List.replicate (4 - (lg_sl ([.ref (ad 500 0), .int x1])).length) Slot.unset).toArray = ls at hl ⊢
  have hl : lv_has ls 4 [(0, .ref (ad 500 0)), (1, .int x1)] := hl
  unfold X10_explain at hf
  have l145 : ∀ (kx145 : PS → Option (Int32 × PS)), (∀ (σ : PS) (H : Heap) (locs : List Loc) (ls : Array Slot), kx145 σ = some (res, σz) → lv_has ls 4 [] → va_P G vwCl (wld ad ca σ LM) H → va_S A s.heap H locs → W p l e (headSpec wsX10_explain ({ frames := 5, cells := 0, slots := 0, locals := 123 })).room s m (([.ref (ad 500 0), .int x1] : List Value).toArray) below meth c H locs 0 0 (MQ below (va_Qi (fun r' u => r' = res ∧ u = σz) (ctB G ad ca LM) A) (([.ref (ad 500 0), .int x1] : List Value).toArray) s 0 0 A) (F0 m 191 ls [])) → ∀ (n145 : Nat) (v1 : Int32) (v2 : Int32) (v3 : Int32) (σ : PS) (H : Heap) (locs : List Loc) (ls : Array Slot), X10_explain_l145  kx145 n145 v1 v2 v3 σ = some (res, σz) → lv_has ls 4 [(0, .ref (ad 500 0)), (1, .int v1), (2, .int v2), (3, .int v3)] → va_P G vwCl (wld ad ca σ LM) H → va_S A s.heap H locs → W p l e (headSpec wsX10_explain ({ frames := 5, cells := 0, slots := 0, locals := 123 })).room s m (([.ref (ad 500 0), .int x1] : List Value).toArray) below meth c H locs 0 0 (MQ below (va_Qi (fun r' u => r' = res ∧ u = σz) (ctB G ad ca LM) A) (([.ref (ad 500 0), .int x1] : List Value).toArray) s 0 0 A) (F0 m 145 ls []) := by
    intro kx145 hx145 n145
    induction n145 with
    | zero =>
      intro v1 v2 v3 σ H locs ls hf
      exact absurd hf (by simp [X10_explain_l145])
    | succ n145 ih145 =>
      intro v1 v2 v3 σ H locs ls hf hl hP hS
      rw [X10_explain_l145.eq_2] at hf
      refine lv_iload_n hx hb dX10_explain_145 rfl (lv_at hl 3 rfl) ?_
      refine lv_if_lt (tgt := 191) hx hb dX10_explain_146 rfl (fun hc => ?_) (fun hc => ?_)
      · have hf := b_p hf hc
        exact hx145  σ _ _ _  hf (lv_sub hl [] rfl) hP hS
      · have hf := b_n hf hc
        refine lv_aload_n hx hb dX10_explain_149 rfl (lv_at hl 0 rfl) ?_
        refine lv_iload_n hx hb dX10_explain_150 rfl (lv_at hl 3 rfl) ?_
        refine lv_iload_n hx hb dX10_explain_151 rfl (lv_at hl 1 rfl) ?_
        refine lv_icmp_eq (tgt := 178) hx hb dX10_explain_152 rfl (fun hc => ?_) (fun hc => ?_)
        · have hf := b_p hf hc
          refine lv_aload_n hx hb dX10_explain_178 rfl (lv_at hl 0 rfl) ?_
          refine x_get (k := 500) (n := 0) hx hb hts i_X10 hown hK hP (mk_500 h01) rfl rfl 33 (by decide) rfl k_88 (v := .int (gI σ 500 0 33)) rfl dX10_explain_179 ?_
          refine x_putI (k := 500) (n := 0) hx hb hts i_X10 tyX10 tyX10_ok nmX10 hown hK hD hP hS (mk_500 h01) rfl rfl 33 (by decide) rfl k_88 rfl rfl rfl rfl dX10_explain_182 (fun H locs hP hS => ?_)
          obtain ⟨σ14, e_σ14, hf⟩ := nm_i hf
          have hP : va_P G vwCl (wld ad ca σ14 LM) H := by rw [e_σ14]; exact hP
          refine lv_iinc (v := (v3 + (-1 : Int32))) (lv' := [(3, .int (v3 + (-1 : Int32))), (0, .ref (ad 500 0)), (1, .int v1), (2, .int v2)]) hx hb dX10_explain_185 hl (k := 3) rfl rfl (by decide) rfl (fun ls hl => ?_)
          refine lv_goto (tgt := 145) hx hb dX10_explain_188 rfl ?_
          exact ih145 v1 v2 (v3 + (-1 : Int32)) σ14 _ _ _  hf (lv_sub hl [1, 2, 3, 0] rfl) hP hS
        · have hf := b_n hf hc
          refine lv_aload_n hx hb dX10_explain_155 rfl (lv_at hl 0 rfl) ?_
          refine lv_iload_n hx hb dX10_explain_156 rfl (lv_at hl 3 rfl) ?_
          refine lv_iload_n hx hb dX10_explain_157 rfl (lv_at hl 2 rfl) ?_
          refine lv_iconst (v := (-1 : Int32)) hx hb dX10_explain_158 rfl ?_
          obtain ⟨r15, hc15, hf⟩ := bd_e hf
          refine x_ci (va_runV (As := [.int v3, .int v2, .int (-1 : Int32)]) (rest := [.ref (ad 500 0)]) ⟨hx, hb, hml, hown, hts⟩ (t_X10_isOffered l G ad ca A v3 v2 (-1 : Int32) hD  σ r15 hc15) (cwV 3 hts gr_X10_171 rfl rfl rfl h9_X10_isOffered ⟨Nat.le_of_ble_eq_true rfl, Nat.le_of_ble_eq_true rfl⟩) (x_prV zkM hz hK hP (mk_500 h01) rfl rfl) rfl rfl hl.1 rfl (lv_room (Nat.le_of_ble_eq_true rfl)) dX10_explain_159 ⟨Nat.le_of_ble_eq_true rfl, Nat.le_of_ble_eq_true rfl⟩) hS (fun H locs hP hS => ?_)
          refine lv_if_eq (tgt := 178) hx hb dX10_explain_162 rfl (fun hc => ?_) (fun hc => ?_)
          · have hf := b_p hf hc
            refine lv_aload_n hx hb dX10_explain_178 rfl (lv_at hl 0 rfl) ?_
            refine x_get (k := 500) (n := 0) hx hb hts i_X10 hown hK hP (mk_500 h01) rfl rfl 33 (by decide) rfl k_88 (v := .int (gI σ 500 0 33)) rfl dX10_explain_179 ?_
            refine x_putI (k := 500) (n := 0) hx hb hts i_X10 tyX10 tyX10_ok nmX10 hown hK hD hP hS (mk_500 h01) rfl rfl 33 (by decide) rfl k_88 rfl rfl rfl rfl dX10_explain_182 (fun H locs hP hS => ?_)
            obtain ⟨σ16, e_σ16, hf⟩ := nm_i hf
            have hP : va_P G vwCl (wld ad ca σ16 LM) H := by rw [e_σ16]; exact hP
            refine lv_iinc (v := (v3 + (-1 : Int32))) (lv' := [(3, .int (v3 + (-1 : Int32))), (0, .ref (ad 500 0)), (1, .int v1), (2, .int v2)]) hx hb dX10_explain_185 hl (k := 3) rfl rfl (by decide) rfl (fun ls hl => ?_)
            refine lv_goto (tgt := 145) hx hb dX10_explain_188 rfl ?_
            exact ih145 v1 v2 (v3 + (-1 : Int32)) σ16 _ _ _  hf (lv_sub hl [1, 2, 3, 0] rfl) hP hS
          · have hf := b_n hf hc
            refine lv_aload_n hx hb dX10_explain_165 rfl (lv_at hl 0 rfl) ?_
            refine lv_iload_n hx hb dX10_explain_166 rfl (lv_at hl 1 rfl) ?_
            refine lv_iload_n hx hb dX10_explain_167 rfl (lv_at hl 3 rfl) ?_
            obtain ⟨r17, hc17, hf⟩ := bd_e hf
            refine x_ci (va_runV (As := [.int v1, .int v3]) (rest := [.ref (ad 500 0)]) ⟨hx, hb, hml, hown, hts⟩ (t_X10_isMore l G ad ca A v1 v3 hD  σ r17 hc17) (cwV 2 hts gr_X10_159 rfl rfl rfl h9_X10_isMore ⟨Nat.le_of_ble_eq_true rfl, Nat.le_of_ble_eq_true rfl⟩) (x_prV zkM hz hK hP (mk_500 h01) rfl rfl) rfl rfl hl.1 rfl (lv_room (Nat.le_of_ble_eq_true rfl)) dX10_explain_168 ⟨Nat.le_of_ble_eq_true rfl, Nat.le_of_ble_eq_true rfl⟩) hS (fun H locs hP hS => ?_)
            refine lv_if_ne (tgt := 178) hx hb dX10_explain_171 rfl (fun hc => ?_) (fun hc => ?_)
            · have hf := b_n hf hc
              refine lv_aload_n hx hb dX10_explain_178 rfl (lv_at hl 0 rfl) ?_
              refine x_get (k := 500) (n := 0) hx hb hts i_X10 hown hK hP (mk_500 h01) rfl rfl 33 (by decide) rfl k_88 (v := .int (gI σ 500 0 33)) rfl dX10_explain_179 ?_
              refine x_putI (k := 500) (n := 0) hx hb hts i_X10 tyX10 tyX10_ok nmX10 hown hK hD hP hS (mk_500 h01) rfl rfl 33 (by decide) rfl k_88 rfl rfl rfl rfl dX10_explain_182 (fun H locs hP hS => ?_)
              obtain ⟨σ18, e_σ18, hf⟩ := nm_i hf
              have hP : va_P G vwCl (wld ad ca σ18 LM) H := by rw [e_σ18]; exact hP
              refine lv_iinc (v := (v3 + (-1 : Int32))) (lv' := [(3, .int (v3 + (-1 : Int32))), (0, .ref (ad 500 0)), (1, .int v1), (2, .int v2)]) hx hb dX10_explain_185 hl (k := 3) rfl rfl (by decide) rfl (fun ls hl => ?_)
              refine lv_goto (tgt := 145) hx hb dX10_explain_188 rfl ?_
              exact ih145 v1 v2 (v3 + (-1 : Int32)) σ18 _ _ _  hf (lv_sub hl [1, 2, 3, 0] rfl) hP hS
            · have hf := b_p hf hc
              refine lv_iload_n hx hb dX10_explain_174 rfl (lv_at hl 3 rfl) ?_
              refine lv_goto (tgt := 182) hx hb dX10_explain_175 rfl ?_
              refine x_putI (k := 500) (n := 0) hx hb hts i_X10 tyX10 tyX10_ok nmX10 hown hK hD hP hS (mk_500 h01) rfl rfl 33 (by decide) rfl k_88 rfl rfl rfl rfl dX10_explain_182 (fun H locs hP hS => ?_)
              obtain ⟨σ19, e_σ19, hf⟩ := nm_i hf
              have hP : va_P G vwCl (wld ad ca σ19 LM) H := by rw [e_σ19]; exact hP
              refine lv_iinc (v := (v3 + (-1 : Int32))) (lv' := [(3, .int (v3 + (-1 : Int32))), (0, .ref (ad 500 0)), (1, .int v1), (2, .int v2)]) hx hb dX10_explain_185 hl (k := 3) rfl rfl (by decide) rfl (fun ls hl => ?_)
              refine lv_goto (tgt := 145) hx hb dX10_explain_188 rfl ?_
              exact ih145 v1 v2 (v3 + (-1 : Int32)) σ19 _ _ _  hf (lv_sub hl [1, 2, 3, 0] rfl) hP hS
  have c191 : ∀ (σ : PS) (H : Heap) (locs : List Loc) (ls : Array Slot), X10_explain_c191   σ = some (res, σz) → lv_has ls 4 [] → va_P G vwCl (wld ad ca σ LM) H → va_S A s.heap H locs → W p l e (headSpec wsX10_explain ({ frames := 5, cells := 0, slots := 0, locals := 123 })).room s m (([.ref (ad 500 0), .int x1] : List Value).toArray) below meth c H locs 0 0 (MQ below (va_Qi (fun r' u => r' = res ∧ u = σz) (ctB G ad ca LM) A) (([.ref (ad 500 0), .int x1] : List Value).toArray) s 0 0 A) (F0 m 191 ls []) := by
    intro σ H locs ls hf hl hP hS
    unfold X10_explain_c191 at hf
    refine lv_iconst (v := (5 : Int32)) hx hb dX10_explain_191 rfl ?_
    have hf := Option.some.inj hf
    exact x_iret hx hb hr hlocks hK hP hS (congrArg Prod.fst hf) (congrArg Prod.snd hf) dX10_explain_192
  have c56 : ∀ (v1 : Int32) (v2 : Int32) (σ : PS) (H : Heap) (locs : List Loc) (ls : Array Slot), X10_explain_c56  v1 v2 σ = some (res, σz) → lv_has ls 4 [(0, .ref (ad 500 0)), (1, .int v1), (2, .int v2)] → va_P G vwCl (wld ad ca σ LM) H → va_S A s.heap H locs → W p l e (headSpec wsX10_explain ({ frames := 5, cells := 0, slots := 0, locals := 123 })).room s m (([.ref (ad 500 0), .int x1] : List Value).toArray) below meth c H locs 0 0 (MQ below (va_Qi (fun r' u => r' = res ∧ u = σz) (ctB G ad ca LM) A) (([.ref (ad 500 0), .int x1] : List Value).toArray) s 0 0 A) (F0 m 56 ls []) := by
    intro v1 v2 σ H locs ls hf hl hP hS
    unfold X10_explain_c56 at hf
    refine lv_aload_n hx hb dX10_explain_56 rfl (lv_at hl 0 rfl) ?_
    refine x_get (k := 500) (n := 0) hx hb hts i_X10 hown hK hP (mk_500 h01) rfl rfl 19 (by decide) rfl k_57 (v := .ref (ad 520 0)) rfl dX10_explain_57 ?_
    refine lv_iload_n hx hb dX10_explain_60 rfl (lv_at hl 1 rfl) ?_
    obtain ⟨g7, hf⟩ := gd_e hf
    refine x_iald (k := 520) (n := 0) hx hb hK hP (mk_520 h01) rfl g7 dX10_explain_61 ?_
    refine lv_iconst (v := (1 : Int32)) hx hb dX10_explain_62 rfl ?_
    refine lv_icmp_ne (tgt := 75) hx hb dX10_explain_63 rfl (fun hc => ?_) (fun hc => ?_)
    · have hf := b_n hf hc
      refine lv_aload_n hx hb dX10_explain_75 rfl (lv_at hl 0 rfl) ?_
      refine x_get (k := 500) (n := 0) hx hb hts i_X10 hown hK hP (mk_500 h01) rfl rfl 19 (by decide) rfl k_57 (v := .ref (ad 520 0)) rfl dX10_explain_76 ?_
      refine lv_iload_n hx hb dX10_explain_79 rfl (lv_at hl 1 rfl) ?_
      obtain ⟨g8, hf⟩ := gd_e hf
      refine x_iald (k := 520) (n := 0) hx hb hK hP (mk_520 h01) rfl g8 dX10_explain_80 ?_
      refine lv_iconst (v := (1 : Int32)) hx hb dX10_explain_81 rfl ?_
      refine lv_icmp_eq (tgt := 89) hx hb dX10_explain_82 rfl (fun hc => ?_) (fun hc => ?_)
      · have hf := b_p hf hc
        refine lv_iconst (v := (2 : Int32)) hx hb dX10_explain_89 rfl ?_
        have hf := Option.some.inj hf
        exact x_iret hx hb hr hlocks hK hP hS (congrArg Prod.fst hf) (congrArg Prod.snd hf) dX10_explain_90
      · have hf := b_n hf hc
        refine lv_iconst (v := (1 : Int32)) hx hb dX10_explain_85 rfl ?_
        refine lv_goto (tgt := 90) hx hb dX10_explain_86 rfl ?_
        have hf := Option.some.inj hf
        exact x_iret hx hb hr hlocks hK hP hS (congrArg Prod.fst hf) (congrArg Prod.snd hf) dX10_explain_90
    · have hf := b_p hf hc
      refine lv_aload_n hx hb dX10_explain_66 rfl (lv_at hl 0 rfl) ?_
      refine x_get (k := 500) (n := 0) hx hb hts i_X10 hown hK hP (mk_500 h01) rfl rfl 18 (by decide) rfl k_54 (v := .ref (ad 519 0)) rfl dX10_explain_67 ?_
      refine lv_iload_n hx hb dX10_explain_70 rfl (lv_at hl 1 rfl) ?_
      obtain ⟨g9, hf⟩ := gd_e hf
      refine x_zald (k := 519) (n := 0) hx hb hK hP (mk_519 h01) rfl g9 dX10_explain_71 ?_
      refine lv_if_eq (tgt := 91) hx hb dX10_explain_72 rfl (fun hc => ?_) (fun hc => ?_)
      · have hf := b_p hf hc
        refine lv_aload_n hx hb dX10_explain_91 rfl (lv_at hl 0 rfl) ?_
        refine lv_iload_n hx hb dX10_explain_92 rfl (lv_at hl 1 rfl) ?_
        obtain ⟨r10, hc10, hf⟩ := bd_e hf
        refine x_ci (va_runV (As := [.int v1]) (rest := []) ⟨hx, hb, hml, hown, hts⟩ (t_X10_takes l G ad ca A v1 hD  σ r10 hc10) (cwV 1 hts gr_X10_168 rfl rfl rfl h9_X10_takes ⟨Nat.le_of_ble_eq_true rfl, Nat.le_of_ble_eq_true rfl⟩) (x_prV zkM hz hK hP (mk_500 h01) rfl rfl) rfl rfl hl.1 rfl (lv_room (Nat.le_of_ble_eq_true rfl)) dX10_explain_93 ⟨Nat.le_of_ble_eq_true rfl, Nat.le_of_ble_eq_true rfl⟩) hS (fun H locs hP hS => ?_)
        refine lv_if_ne (tgt := 119) hx hb dX10_explain_96 rfl (fun hc => ?_) (fun hc => ?_)
        · have hf := b_n hf hc
          refine lv_aload_n hx hb dX10_explain_119 rfl (lv_at hl 0 rfl) ?_
          refine lv_aload_n hx hb dX10_explain_120 rfl (lv_at hl 0 rfl) ?_
          refine lv_iload_n hx hb dX10_explain_121 rfl (lv_at hl 2 rfl) ?_
          refine lv_iload_n hx hb dX10_explain_122 rfl (lv_at hl 1 rfl) ?_
          obtain ⟨r11, hc11, hf⟩ := bd_e hf
          refine x_ci (va_runV (As := [.int v2, .int v1]) (rest := [.ref (ad 500 0)]) ⟨hx, hb, hml, hown, hts⟩ (t_X10_moreThan l G ad ca A v2 v1 hD  σ r11 hc11) (cwV 2 hts gr_X10_244 rfl rfl rfl h9_X10_moreThan ⟨Nat.le_of_ble_eq_true rfl, Nat.le_of_ble_eq_true rfl⟩) (x_prV zkM hz hK hP (mk_500 h01) rfl rfl) rfl rfl hl.1 rfl (lv_room (Nat.le_of_ble_eq_true rfl)) dX10_explain_123 ⟨Nat.le_of_ble_eq_true rfl, Nat.le_of_ble_eq_true rfl⟩) hS (fun H locs hP hS => ?_)
          refine x_putI (k := 500) (n := 0) hx hb hts i_X10 tyX10 tyX10_ok nmX10 hown hK hD hP hS (mk_500 h01) rfl rfl 33 (by decide) rfl k_88 rfl rfl rfl rfl dX10_explain_126 (fun H locs hP hS => ?_)
          obtain ⟨σ12, e_σ12, hf⟩ := nm_i hf
          have hP : va_P G vwCl (wld ad ca σ12 LM) H := by rw [e_σ12]; exact hP
          refine lv_aload_n hx hb dX10_explain_129 rfl (lv_at hl 0 rfl) ?_
          refine x_get (k := 500) (n := 0) hx hb hts i_X10 hown hK hP (mk_500 h01) rfl rfl 33 (by decide) rfl k_88 (v := .int (gI σ12 500 0 33)) rfl dX10_explain_130 ?_
          refine lv_if_lt (tgt := 138) hx hb dX10_explain_133 rfl (fun hc => ?_) (fun hc => ?_)
          · have hf := b_p hf hc
            refine lv_aload_n hx hb dX10_explain_138 rfl (lv_at hl 0 rfl) ?_
            refine x_get (k := 500) (n := 0) hx hb hts i_X10 hown hK hP (mk_500 h01) rfl rfl 14 (by decide) rfl k_131 (v := .int (gI σ12 500 0 14)) rfl dX10_explain_139 ?_
            refine lv_iconst (v := (1 : Int32)) hx hb dX10_explain_142 rfl ?_
            refine lv_isub hx hb dX10_explain_143 ?_
            obtain ⟨y13, e_y13, hf⟩ := nm_i hf
            refine x_nmI e_y13 ?_
            refine lv_istore_n (lv' := [(3, .int y13), (0, .ref (ad 500 0)), (1, .int v1), (2, .int v2)]) hx hb dX10_explain_144 rfl hl (by decide) rfl (fun ls hl => ?_)
            exact l145 _ c191 _ v1 v2 y13 σ12 _ _ _  hf (lv_sub hl [1, 2, 3, 0] rfl) hP hS
          · have hf := b_n hf hc
            refine lv_iconst (v := (4 : Int32)) hx hb dX10_explain_136 rfl ?_
            have hf := Option.some.inj hf
            exact x_iret hx hb hr hlocks hK hP hS (congrArg Prod.fst hf) (congrArg Prod.snd hf) dX10_explain_137
        · have hf := b_p hf hc
          refine lv_aload_n hx hb dX10_explain_99 rfl (lv_at hl 0 rfl) ?_
          refine lv_aload_n hx hb dX10_explain_100 rfl (lv_at hl 0 rfl) ?_
          refine lv_iload_n hx hb dX10_explain_101 rfl (lv_at hl 1 rfl) ?_
          refine lv_iconst (v := (0 : Int32)) hx hb dX10_explain_102 rfl ?_
          obtain ⟨r20, hc20, hf⟩ := bd_e hf
          refine x_ci (va_runV (As := [.int v1, .int (0 : Int32)]) (rest := [.ref (ad 500 0)]) ⟨hx, hb, hml, hown, hts⟩ (t_X10_takesAt l G ad ca A v1 (0 : Int32) hD  σ r20 hc20) (cwV 2 hts gr_X10_165 rfl rfl rfl h9_X10_takesAt ⟨Nat.le_of_ble_eq_true rfl, Nat.le_of_ble_eq_true rfl⟩) (x_prV zkM hz hK hP (mk_500 h01) rfl rfl) rfl rfl hl.1 rfl (lv_room (Nat.le_of_ble_eq_true rfl)) dX10_explain_103 ⟨Nat.le_of_ble_eq_true rfl, Nat.le_of_ble_eq_true rfl⟩) hS (fun H locs hP hS => ?_)
          refine lv_if_eq (tgt := 113) hx hb dX10_explain_106 rfl (fun hc => ?_) (fun hc => ?_)
          · have hf := b_p hf hc
            refine lv_iconst (v := (0 : Int32)) hx hb dX10_explain_113 rfl ?_
            refine x_putI (k := 500) (n := 0) hx hb hts i_X10 tyX10 tyX10_ok nmX10 hown hK hD hP hS (mk_500 h01) rfl rfl 33 (by decide) rfl k_88 rfl rfl rfl rfl dX10_explain_114 (fun H locs hP hS => ?_)
            obtain ⟨σ21, e_σ21, hf⟩ := nm_i hf
            have hP : va_P G vwCl (wld ad ca σ21 LM) H := by rw [e_σ21]; exact hP
            refine lv_iconst (v := (3 : Int32)) hx hb dX10_explain_117 rfl ?_
            have hf := Option.some.inj hf
            exact x_iret hx hb hr hlocks hK hP hS (congrArg Prod.fst hf) (congrArg Prod.snd hf) dX10_explain_118
          · have hf := b_n hf hc
            refine lv_iconst (v := (1 : Int32)) hx hb dX10_explain_109 rfl ?_
            refine lv_goto (tgt := 114) hx hb dX10_explain_110 rfl ?_
            refine x_putI (k := 500) (n := 0) hx hb hts i_X10 tyX10 tyX10_ok nmX10 hown hK hD hP hS (mk_500 h01) rfl rfl 33 (by decide) rfl k_88 rfl rfl rfl rfl dX10_explain_114 (fun H locs hP hS => ?_)
            obtain ⟨σ22, e_σ22, hf⟩ := nm_i hf
            have hP : va_P G vwCl (wld ad ca σ22 LM) H := by rw [e_σ22]; exact hP
            refine lv_iconst (v := (3 : Int32)) hx hb dX10_explain_117 rfl ?_
            have hf := Option.some.inj hf
            exact x_iret hx hb hr hlocks hK hP hS (congrArg Prod.fst hf) (congrArg Prod.snd hf) dX10_explain_118
      · have hf := b_n hf hc
        refine lv_aload_n hx hb dX10_explain_75 rfl (lv_at hl 0 rfl) ?_
        refine x_get (k := 500) (n := 0) hx hb hts i_X10 hown hK hP (mk_500 h01) rfl rfl 19 (by decide) rfl k_57 (v := .ref (ad 520 0)) rfl dX10_explain_76 ?_
        refine lv_iload_n hx hb dX10_explain_79 rfl (lv_at hl 1 rfl) ?_
        obtain ⟨g23, hf⟩ := gd_e hf
        refine x_iald (k := 520) (n := 0) hx hb hK hP (mk_520 h01) rfl g23 dX10_explain_80 ?_
        refine lv_iconst (v := (1 : Int32)) hx hb dX10_explain_81 rfl ?_
        refine lv_icmp_eq (tgt := 89) hx hb dX10_explain_82 rfl (fun hc => ?_) (fun hc => ?_)
        · have hf := b_p hf hc
          refine lv_iconst (v := (2 : Int32)) hx hb dX10_explain_89 rfl ?_
          have hf := Option.some.inj hf
          exact x_iret hx hb hr hlocks hK hP hS (congrArg Prod.fst hf) (congrArg Prod.snd hf) dX10_explain_90
        · have hf := b_n hf hc
          refine lv_iconst (v := (1 : Int32)) hx hb dX10_explain_85 rfl ?_
          refine lv_goto (tgt := 90) hx hb dX10_explain_86 rfl ?_
          have hf := Option.some.inj hf
          exact x_iret hx hb hr hlocks hK hP hS (congrArg Prod.fst hf) (congrArg Prod.snd hf) dX10_explain_90
  refine lv_aload_n hx hb dX10_explain_0 rfl (lv_at hl 0 rfl) ?_
  refine lv_iload_n hx hb dX10_explain_1 rfl (lv_at hl 1 rfl) ?_
  obtain ⟨r1, hc1, hf⟩ := bd_e hf
  refine x_ci (va_runV (As := [.int x1]) (rest := []) ⟨hx, hb, hml, hown, hts⟩ (t_X10_isHandler l G ad ca A x1 hD  σ r1 hc1) (cwV 1 hts gr_X10_139 rfl rfl rfl h9_X10_isHandler ⟨Nat.le_of_ble_eq_true rfl, Nat.le_of_ble_eq_true rfl⟩) (x_prV zkM hz hK hP (mk_500 h01) rfl rfl) rfl rfl hl.1 rfl (lv_room (Nat.le_of_ble_eq_true rfl)) dX10_explain_2 ⟨Nat.le_of_ble_eq_true rfl, Nat.le_of_ble_eq_true rfl⟩) hS (fun H locs hP hS => ?_)
  refine lv_if_ne (tgt := 11) hx hb dX10_explain_5 rfl (fun hc => ?_) (fun hc => ?_)
  · have hf := b_n hf hc
    refine lv_aload_n hx hb dX10_explain_11 rfl (lv_at hl 0 rfl) ?_
    refine x_get (k := 500) (n := 0) hx hb hts i_X10 hown hK hP (mk_500 h01) rfl rfl 15 (by decide) rfl k_45 (v := .ref (ad 516 0)) rfl dX10_explain_12 ?_
    refine lv_iload_n hx hb dX10_explain_15 rfl (lv_at hl 1 rfl) ?_
    obtain ⟨g2, hf⟩ := gd_e hf
    refine x_iald (k := 516) (n := 0) hx hb hK hP (mk_516 h01) rfl g2 dX10_explain_16 ?_
    obtain ⟨y3, e_y3, hf⟩ := nm_i hf
    refine x_nmI e_y3 ?_
    refine lv_istore_n (lv' := [(2, .int y3), (0, .ref (ad 500 0)), (1, .int x1)]) hx hb dX10_explain_17 rfl hl (by decide) rfl (fun ls hl => ?_)
    refine lv_aload_n hx hb dX10_explain_18 rfl (lv_at hl 1 rfl) ?_
    refine lv_iload_n hx hb dX10_explain_19 rfl (lv_at hl 0 rfl) ?_
    obtain ⟨r4, σ4, hc4, hf⟩ := bp_e hf
    refine x_ci (va_runV (As := [.int y3]) (rest := []) ⟨hx, hb, hml, hown, hts⟩ (t_X10_tellRow l G ad ca A y3 hD  σ r4 σ4 hc4) (cwV 1 hts gr_X10_238 rfl rfl rfl h9_X10_tellRow ⟨Nat.le_of_ble_eq_true rfl, Nat.le_of_ble_eq_true rfl⟩) (x_prV zkM hz hK hP (mk_500 h01) rfl rfl) rfl rfl hl.1 rfl (lv_room (Nat.le_of_ble_eq_true rfl)) dX10_explain_20 ⟨Nat.le_of_ble_eq_true rfl, Nat.le_of_ble_eq_true rfl⟩) hS (fun H locs hP hS => ?_)
    refine lv_if_ne (tgt := 29) hx hb dX10_explain_23 rfl (fun hc => ?_) (fun hc => ?_)
    · have hf := b_n hf hc
      refine lv_aload_n hx hb dX10_explain_29 rfl (lv_at hl 1 rfl) ?_
      refine lv_iconst (v := (-1 : Int32)) hx hb dX10_explain_30 rfl ?_
      refine x_putI (k := 500) (n := 0) hx hb hts i_X10 tyX10 tyX10_ok nmX10 hown hK hD hP hS (mk_500 h01) rfl rfl 33 (by decide) rfl k_88 rfl rfl rfl rfl dX10_explain_31 (fun H locs hP hS => ?_)
      obtain ⟨σ5, e_σ5, hf⟩ := nm_i hf
      have hP : va_P G vwCl (wld ad ca σ5 LM) H := by rw [e_σ5]; exact hP
      refine lv_aload_n hx hb dX10_explain_34 rfl (lv_at hl 1 rfl) ?_
      refine lv_iload_n hx hb dX10_explain_35 rfl (lv_at hl 2 rfl) ?_
      refine lv_iload_n hx hb dX10_explain_36 rfl (lv_at hl 0 rfl) ?_
      refine lv_iconst (v := (-1 : Int32)) hx hb dX10_explain_37 rfl ?_
      obtain ⟨r6, hc6, hf⟩ := bd_e hf
      refine x_ci (va_runV (As := [.int x1, .int y3, .int (-1 : Int32)]) (rest := []) ⟨hx, hb, hml, hown, hts⟩ (t_X10_isOffered l G ad ca A x1 y3 (-1 : Int32) hD  σ5 r6 hc6) (cwV 3 hts gr_X10_171 rfl rfl rfl h9_X10_isOffered ⟨Nat.le_of_ble_eq_true rfl, Nat.le_of_ble_eq_true rfl⟩) (x_prV zkM hz hK hP (mk_500 h01) rfl rfl) rfl rfl hl.1 rfl (lv_room (Nat.le_of_ble_eq_true rfl)) dX10_explain_38 ⟨Nat.le_of_ble_eq_true rfl, Nat.le_of_ble_eq_true rfl⟩) hS (fun H locs hP hS => ?_)
      refine lv_if_eq (tgt := 56) hx hb dX10_explain_41 rfl (fun hc => ?_) (fun hc => ?_)
      · have hf := b_p hf hc
        exact c56 x1 y3 σ5 _ _ _  hf (lv_sub hl [1, 2, 0] rfl) hP hS
      · have hf := b_n hf hc
        refine lv_aload_n hx hb dX10_explain_44 rfl (lv_at hl 1 rfl) ?_
        refine lv_iload_n hx hb dX10_explain_45 rfl (lv_at hl 0 rfl) ?_
        refine lv_iconst (v := (-1 : Int32)) hx hb dX10_explain_46 rfl ?_
        obtain ⟨r24, hc24, hf⟩ := bd_e hf
        refine x_ci (va_runV (As := [.int y3, .int (-1 : Int32)]) (rest := []) ⟨hx, hb, hml, hown, hts⟩ (t_X10_chosen l G ad ca A y3 (-1 : Int32) hD  σ5 r24 hc24) (cwV 2 hts gr_X10_206 rfl rfl rfl h9_X10_chosen ⟨Nat.le_of_ble_eq_true rfl, Nat.le_of_ble_eq_true rfl⟩) (x_prV zkM hz hK hP (mk_500 h01) rfl rfl) rfl rfl hl.1 rfl (lv_room (Nat.le_of_ble_eq_true rfl)) dX10_explain_47 ⟨Nat.le_of_ble_eq_true rfl, Nat.le_of_ble_eq_true rfl⟩) hS (fun H locs hP hS => ?_)
        refine lv_iload_n hx hb dX10_explain_50 rfl (lv_at hl 2 rfl) ?_
        refine lv_icmp_ne (tgt := 56) hx hb dX10_explain_51 rfl (fun hc => ?_) (fun hc => ?_)
        · have hf := b_n hf hc
          exact c56 x1 y3 σ5 _ _ _  hf (lv_sub hl [1, 2, 0] rfl) hP hS
        · have hf := b_p hf hc
          refine lv_iconst (v := (0 : Int32)) hx hb dX10_explain_54 rfl ?_
          have hf := Option.some.inj hf
          exact x_iret hx hb hr hlocks hK hP hS (congrArg Prod.fst hf) (congrArg Prod.snd hf) dX10_explain_55
    · have hf := b_p hf hc
      refine lv_bipush (v := (-3 : Int32)) hx hb dX10_explain_26 rfl ?_
      have hf := Option.some.inj hf
      exact x_iret hx hb hr hlocks hK hP hS (congrArg Prod.fst hf) (congrArg Prod.snd hf) dX10_explain_28
  · have hf := b_p hf hc
    refine lv_bipush (v := (-2 : Int32)) hx hb dX10_explain_8 rfl ?_
    have hf := Option.some.inj hf
    exact x_iret hx hb hr hlocks hK hP hS (congrArg Prod.fst hf) (congrArg Prod.snd hf) dX10_explain_10
theorem h9_X10_where : yX10_where.cls = RX10 ∧ yX10_where.cls ≠ "java/lang/invoke/MethodHandle" ∧ yX10_where.cls ≠ "java/lang/invoke/VarHandle" ∧ (parseMethodDescriptor yX10_where.desc).map (fun d => d.parameters.length) = some 0 := by decide +kernel
set_option maxRecDepth 100000 in
set_option maxHeartbeats 4000000 in
theorem t_X10_where (l : Launch) (G : va_G) (ad : Nat → Nat → Nat) (ca : Nat → ClassId) (A : Nat → Prop)   (hD : DW ad LM A)  (σ : PS) (res : Int32) (hf : X10_where   σ = some res) : Met l yX10_where wsX10_where ({ frames := 0, cells := 0, slots := 0, locals := 0 }) (ctP G ad ca LM σ ZM [.ref (ad 500 0)]) (va_Qi (fun r' u => r' = res ∧ u = σ) (ctB G ad ca LM) A) 0 0 A := by
  refine Met.ofW (cc := cX10_where) (maxL := 1) (ret := (some .int)) (by decide) rfl ?_
  intro p e s m args below meth c s₁ B hml hv
  obtain ⟨rfl, hP, hK, hz⟩ := hv
  have hx := B.exec
  have hb := B.bytes
  have hr := B.returns
  have hts : ∀ w ∈ WW, w.before _ s = true := fun w h => atoms_spec (ws := wsX10_where) B.pre w (List.mem_cons_of_mem _ h)
  have hown : s.vm.findClass RX10 = some m.cls := findClass_of_methodNamed B.named
  have hlocks := B.notSynchronized
  have hS : va_S A s.heap s.heap [] := va_S.rf
  have k_88 := hts _ kf_X10_88
  have hl := lv_entry ([.ref (ad 500 0)]) (n := 1) (Nat.le_of_ble_eq_true rfl)
  rw [lg_entry_eq]
  generalize (lg_sl ([.ref (ad 500 0)]) ++ List.replicate (1 - (lg_sl ([.ref (ad 500 0)])).length) Slot.unset).toArray = ls at hl ⊢
  have hl : lv_has ls 1 [(0, .ref (ad 500 0))] := hl
  unfold X10_where at hf
  refine lv_aload_n hx hb dX10_where_0 rfl (lv_at hl 0 rfl) ?_
  refine x_get (k := 500) (n := 0) hx hb hts i_X10 hown hK hP (mk_500 h01) rfl rfl 33 (by decide) rfl k_88 (v := .int (gI σ 500 0 33)) rfl dX10_where_1 ?_
  exact x_iret hx hb hr hlocks hK hP hS (Option.some.inj hf) rfl dX10_where_4
theorem h9_X10_countAll : yX10_countAll.cls = RX10 ∧ yX10_countAll.cls ≠ "java/lang/invoke/MethodHandle" ∧ yX10_countAll.cls ≠ "java/lang/invoke/VarHandle" ∧ (parseMethodDescriptor yX10_countAll.desc).map (fun d => d.parameters.length) = some 1 := by decide +kernel
set_option maxRecDepth 100000 in
set_option maxHeartbeats 4000000 in
theorem t_X10_countAll (l : Launch) (G : va_G) (ad : Nat → Nat → Nat) (ca : Nat → ClassId) (A : Nat → Prop)   (x1 : Int32) (hD : DW ad LM A)  (σ : PS) (res : Int32) (hf : X10_countAll  x1 σ = some res) : Met l yX10_countAll wsX10_countAll ({ frames := 0, cells := 0, slots := 0, locals := 0 }) (ctP G ad ca LM σ ZM [.ref (ad 500 0), .int x1]) (va_Qi (fun r' u => r' = res ∧ u = σ) (ctB G ad ca LM) A) 0 0 A := by
  refine Met.ofW (cc := cX10_countAll) (maxL := 2) (ret := (some .int)) (by decide) rfl ?_
  intro p e s m args below meth c s₁ B hml hv
  obtain ⟨rfl, hP, hK, hz⟩ := hv
  have hx := B.exec
  have hb := B.bytes
  have hr := B.returns
  have hts : ∀ w ∈ WW, w.before _ s = true := fun w h => atoms_spec (ws := wsX10_countAll) B.pre w (List.mem_cons_of_mem _ h)
  have hown : s.vm.findClass RX10 = some m.cls := findClass_of_methodNamed B.named
  have hlocks := B.notSynchronized
  have hS : va_S A s.heap s.heap [] := va_S.rf
  have k_110 := hts _ kf_X10_110
  have k_128 := hts _ kf_X10_128
  have k_131 := hts _ kf_X10_131
  have k_180 := hts _ kf_X10_180
  have k_191 := hts _ kf_X10_191
  have hl := lv_entry ([.ref (ad 500 0), .int x1]) (n := 2) (Nat.le_of_ble_eq_true rfl)
  rw [lg_entry_eq]
  generalize (lg_sl ([.ref (ad 500 0), .int x1]) ++ List.replicate (2 - (lg_sl ([.ref (ad 500 0), .int x1])).length) Slot.unset).toArray = ls at hl ⊢
  have hl : lv_has ls 2 [(0, .ref (ad 500 0)), (1, .int x1)] := hl
  unfold X10_countAll at hf
  refine lv_iload_n hx hb dX10_countAll_0 rfl (lv_at hl 1 rfl) ?_
  by_cases hc0 : x1 = (0 : Int32)
  · have hf := b_p hf hc0
    refine lv_tableIn (off := 35) (tgt := 36) hx hb dX10_countAll_1 (by rw [hc0]; decide) (by rw [hc0]; decide) (by rw [hc0]; rfl) rfl ?_
    refine lv_aload_n hx hb dX10_countAll_36 rfl (lv_at hl 0 rfl) ?_
    refine x_get (k := 500) (n := 0) hx hb hts i_X10 hown hK hP (mk_500 h01) rfl rfl 8 (by decide) rfl k_128 (v := .int (gI σ 500 0 8)) rfl dX10_countAll_37 ?_
    exact x_iret hx hb hr hlocks hK hP hS (Option.some.inj hf) rfl dX10_countAll_40
  have hf := b_n hf hc0
  by_cases hc1 : x1 = (1 : Int32)
  · have hf := b_p hf hc1
    refine lv_tableIn (off := 40) (tgt := 41) hx hb dX10_countAll_1 (by rw [hc1]; decide) (by rw [hc1]; decide) (by rw [hc1]; rfl) rfl ?_
    refine lv_aload_n hx hb dX10_countAll_41 rfl (lv_at hl 0 rfl) ?_
    refine x_get (k := 500) (n := 0) hx hb hts i_X10 hown hK hP (mk_500 h01) rfl rfl 14 (by decide) rfl k_131 (v := .int (gI σ 500 0 14)) rfl dX10_countAll_42 ?_
    exact x_iret hx hb hr hlocks hK hP hS (Option.some.inj hf) rfl dX10_countAll_45
  have hf := b_n hf hc1
  by_cases hc2 : x1 = (2 : Int32)
  · have hf := b_p hf hc2
    refine lv_tableIn (off := 45) (tgt := 46) hx hb dX10_countAll_1 (by rw [hc2]; decide) (by rw [hc2]; decide) (by rw [hc2]; rfl) rfl ?_
    refine lv_aload_n hx hb dX10_countAll_46 rfl (lv_at hl 0 rfl) ?_
    refine x_get (k := 500) (n := 0) hx hb hts i_X10 hown hK hP (mk_500 h01) rfl rfl 4 (by decide) rfl k_110 (v := .int (gI σ 500 0 4)) rfl dX10_countAll_47 ?_
    refine lv_if_eq (tgt := 57) hx hb dX10_countAll_50 rfl (fun hc => ?_) (fun hc => ?_)
    · have hf := b_p hf hc
      refine lv_iconst (v := (0 : Int32)) hx hb dX10_countAll_57 rfl ?_
      exact x_iret hx hb hr hlocks hK hP hS (Option.some.inj hf) rfl dX10_countAll_58
    · have hf := b_n hf hc
      refine lv_iconst (v := (1 : Int32)) hx hb dX10_countAll_53 rfl ?_
      refine lv_goto (tgt := 58) hx hb dX10_countAll_54 rfl ?_
      exact x_iret hx hb hr hlocks hK hP hS (Option.some.inj hf) rfl dX10_countAll_58
  have hf := b_n hf hc2
  by_cases hc3 : x1 = (3 : Int32)
  · have hf := b_p hf hc3
    refine lv_tableIn (off := 58) (tgt := 59) hx hb dX10_countAll_1 (by rw [hc3]; decide) (by rw [hc3]; decide) (by rw [hc3]; rfl) rfl ?_
    refine lv_aload_n hx hb dX10_countAll_59 rfl (lv_at hl 0 rfl) ?_
    refine x_get (k := 500) (n := 0) hx hb hts i_X10 hown hK hP (mk_500 h01) rfl rfl 29 (by decide) rfl k_180 (v := .int (gI σ 500 0 29)) rfl dX10_countAll_60 ?_
    exact x_iret hx hb hr hlocks hK hP hS (Option.some.inj hf) rfl dX10_countAll_63
  have hf := b_n hf hc3
  by_cases hc4 : x1 = (4 : Int32)
  · have hf := b_p hf hc4
    refine lv_tableIn (off := 63) (tgt := 64) hx hb dX10_countAll_1 (by rw [hc4]; decide) (by rw [hc4]; decide) (by rw [hc4]; rfl) rfl ?_
    refine lv_aload_n hx hb dX10_countAll_64 rfl (lv_at hl 0 rfl) ?_
    refine x_get (k := 500) (n := 0) hx hb hts i_X10 hown hK hP (mk_500 h01) rfl rfl 30 (by decide) rfl k_191 (v := .int (gI σ 500 0 30)) rfl dX10_countAll_65 ?_
    exact x_iret hx hb hr hlocks hK hP hS (Option.some.inj hf) rfl dX10_countAll_68
  have hf := b_n hf hc4
  refine lv_tableOut (tgt := 69) hx hb dX10_countAll_1 (x_out (N := 4) (fun j hj => by rcases (show j = 0 ∨ j = 1 ∨ j = 2 ∨ j = 3 ∨ j = 4 by omega) with rfl | rfl | rfl | rfl | rfl <;> assumption)) rfl ?_
  refine lv_bipush (v := (-2 : Int32)) hx hb dX10_countAll_69 rfl ?_
  exact x_iret hx hb hr hlocks hK hP hS (Option.some.inj hf) rfl dX10_countAll_71

theorem h9_X3_begin : yX3_begin.cls = RX3 ∧ yX3_begin.cls ≠ "java/lang/invoke/MethodHandle" ∧ yX3_begin.cls ≠ "java/lang/invoke/VarHandle" ∧ (parseMethodDescriptor yX3_begin.desc).map (fun d => d.parameters.length) = some 0 := by decide +kernel
set_option maxRecDepth 100000 in
set_option maxHeartbeats 4000000 in
theorem t_X3_begin (l : Launch) (G : va_G) (ad : Nat → Nat → Nat) (ca : Nat → ClassId) (A : Nat → Prop) (z : Nat × Nat)  (hD : DW ad (LC z) A)  (σ : PS) (res : PS) (hf : X3_begin z   σ = some res) : Met l yX3_begin wsX3_begin ({ frames := 0, cells := 0, slots := 0, locals := 0 }) (ctP G ad ca (LC z) σ ZC [.ref (ad 150 0)]) (va_Qv (fun u => u = res) (ctB G ad ca (LC z)) A) 0 0 A := by
  refine Met.ofW (cc := cX3_begin) (maxL := 1) (ret := none) (by decide) rfl ?_
  intro p e s m args below meth c s₁ B hml hv
  obtain ⟨rfl, hP, hK, hz⟩ := hv
  have hx := B.exec
  have hb := B.bytes
  have hr := B.returns
  have hts : ∀ w ∈ WW, w.before _ s = true := fun w h => atoms_spec (ws := wsX3_begin) B.pre w (List.mem_cons_of_mem _ h)
  have hown : s.vm.findClass RX3 = some m.cls := findClass_of_methodNamed B.named
  have hlocks := B.notSynchronized
  have hS : va_S A s.heap s.heap [] := va_S.rf
  have k_15 := hts _ kf_X3_15
  have k_19 := hts _ kf_X3_19
  have k_22 := hts _ kf_X3_22
  have k_25 := hts _ kf_X3_25
  have k_28 := hts _ kf_X3_28
  have hl := lv_entry ([.ref (ad 150 0)]) (n := 1) (Nat.le_of_ble_eq_true rfl)
  rw [lg_entry_eq]
  generalize (lg_sl ([.ref (ad 150 0)]) ++ List.replicate (1 - (lg_sl ([.ref (ad 150 0)])).length) Slot.unset).toArray = ls at hl ⊢
  have hl : lv_has ls 1 [(0, .ref (ad 150 0))] := hl
  unfold X3_begin at hf
  refine lv_aload_n hx hb dX3_begin_0 rfl (lv_at hl 0 rfl) ?_
  refine lv_iconst (v := (0 : Int32)) hx hb dX3_begin_1 rfl ?_
  refine x_putI (k := 150) (n := 0) hx hb hts i_X3 tyX3 tyX3_ok nmX3 hown hK hD hP hS (mk_150 h01) rfl rfl 1 (by decide) rfl k_15 rfl rfl rfl rfl dX3_begin_2 (fun H locs hP hS => ?_)
  obtain ⟨σ1, e_σ1, hf⟩ := nm_i hf
  have hP : va_P G vwCl (wld ad ca σ1 (LC z)) H := by rw [e_σ1]; exact hP
  refine lv_aload_n hx hb dX3_begin_5 rfl (lv_at hl 0 rfl) ?_
  refine lv_iconst (v := (0 : Int32)) hx hb dX3_begin_6 rfl ?_
  refine x_putI (k := 150) (n := 0) hx hb hts i_X3 tyX3 tyX3_ok nmX3 hown hK hD hP hS (mk_150 h01) rfl rfl 2 (by decide) rfl k_19 rfl rfl rfl rfl dX3_begin_7 (fun H locs hP hS => ?_)
  obtain ⟨σ2, e_σ2, hf⟩ := nm_i hf
  have hP : va_P G vwCl (wld ad ca σ2 (LC z)) H := by rw [e_σ2]; exact hP
  refine lv_aload_n hx hb dX3_begin_10 rfl (lv_at hl 0 rfl) ?_
  refine lv_iconst (v := (0 : Int32)) hx hb dX3_begin_11 rfl ?_
  refine x_putI (k := 150) (n := 0) hx hb hts i_X3 tyX3 tyX3_ok nmX3 hown hK hD hP hS (mk_150 h01) rfl rfl 3 (by decide) rfl k_22 rfl rfl rfl rfl dX3_begin_12 (fun H locs hP hS => ?_)
  obtain ⟨σ3, e_σ3, hf⟩ := nm_i hf
  have hP : va_P G vwCl (wld ad ca σ3 (LC z)) H := by rw [e_σ3]; exact hP
  refine lv_aload_n hx hb dX3_begin_15 rfl (lv_at hl 0 rfl) ?_
  refine lv_iconst (v := (0 : Int32)) hx hb dX3_begin_16 rfl ?_
  refine x_putI (k := 150) (n := 0) hx hb hts i_X3 tyX3 tyX3_ok nmX3 hown hK hD hP hS (mk_150 h01) rfl rfl 4 (by decide) rfl k_25 rfl rfl rfl rfl dX3_begin_17 (fun H locs hP hS => ?_)
  obtain ⟨σ4, e_σ4, hf⟩ := nm_i hf
  have hP : va_P G vwCl (wld ad ca σ4 (LC z)) H := by rw [e_σ4]; exact hP
  refine lv_aload_n hx hb dX3_begin_20 rfl (lv_at hl 0 rfl) ?_
  refine lv_lconst (v := (0 : Int64)) hx hb dX3_begin_21 rfl ?_
  refine x_putL (k := 150) (n := 0) hx hb hts i_X3 tyX3 tyX3_ok nmX3 hown hK hD hP hS (mk_150 h01) rfl rfl 5 (by decide) rfl k_28 rfl rfl rfl rfl dX3_begin_22 (fun H locs hP hS => ?_)
  obtain ⟨σ5, e_σ5, hf⟩ := nm_i hf
  have hP : va_P G vwCl (wld ad ca σ5 (LC z)) H := by rw [e_σ5]; exact hP
  exact x_vret hx hb hr hlocks hK hP hS (Option.some.inj hf) dX3_begin_25
theorem h9_X3_addStep : yX3_addStep.cls = RX3 ∧ yX3_addStep.cls ≠ "java/lang/invoke/MethodHandle" ∧ yX3_addStep.cls ≠ "java/lang/invoke/VarHandle" ∧ (parseMethodDescriptor yX3_addStep.desc).map (fun d => d.parameters.length) = some 1 := by decide +kernel
set_option maxRecDepth 100000 in
set_option maxHeartbeats 4000000 in
theorem t_X3_addStep (l : Launch) (G : va_G) (ad : Nat → Nat → Nat) (ca : Nat → ClassId) (A : Nat → Prop) (z : Nat × Nat)  (x1 : Int32) (hD : DW ad (LC z) A)  (σ : PS) (res : PS) (hf : X3_addStep z  x1 σ = some res) : Met l yX3_addStep wsX3_addStep ({ frames := 0, cells := 0, slots := 0, locals := 0 }) (ctP G ad ca (LC z) σ ZC [.ref (ad 150 0), .int x1]) (va_Qv (fun u => u = res) (ctB G ad ca (LC z)) A) 0 0 A := by
  refine Met.ofW (cc := cX3_addStep) (maxL := 2) (ret := none) (by decide) rfl ?_
  intro p e s m args below meth c s₁ B hml hv
  obtain ⟨rfl, hP, hK, hz⟩ := hv
  have hx := B.exec
  have hb := B.bytes
  have hr := B.returns
  have hts : ∀ w ∈ WW, w.before _ s = true := fun w h => atoms_spec (ws := wsX3_addStep) B.pre w (List.mem_cons_of_mem _ h)
  have hown : s.vm.findClass RX3 = some m.cls := findClass_of_methodNamed B.named
  have hlocks := B.notSynchronized
  have hS : va_S A s.heap s.heap [] := va_S.rf
  have k_9 := hts _ kf_X3_9
  have k_15 := hts _ kf_X3_15
  have hl := lv_entry ([.ref (ad 150 0), .int x1]) (n := 2) (Nat.le_of_ble_eq_true rfl)
  rw [lg_entry_eq]
  generalize (lg_sl ([.ref (ad 150 0), .int x1]) ++ List.replicate (2 - (lg_sl ([.ref (ad 150 0), .int x1])).length) Slot.unset).toArray = ls at hl ⊢
  have hl : lv_has ls 2 [(0, .ref (ad 150 0)), (1, .int x1)] := hl
  unfold X3_addStep at hf
  refine lv_aload_n hx hb dX3_addStep_0 rfl (lv_at hl 0 rfl) ?_
  refine x_get (k := 150) (n := 0) hx hb hts i_X3 hown hK hP (mk_150 h01) rfl rfl 1 (by decide) rfl k_15 (v := .int (gI σ 150 0 1)) rfl dX3_addStep_1 ?_
  refine lv_sipush (v := (1000 : Int32)) hx hb dX3_addStep_4 rfl ?_
  refine lv_icmp_ge (tgt := 20) hx hb dX3_addStep_7 rfl (fun hc => ?_) (fun hc => ?_)
  · have hf := b_p hf hc
    refine lv_aload_n hx hb dX3_addStep_20 rfl (lv_at hl 0 rfl) ?_
    refine lv_dup hx hb dX3_addStep_21 rfl ?_
    refine x_get (k := 150) (n := 0) hx hb hts i_X3 hown hK hP (mk_150 h01) rfl rfl 1 (by decide) rfl k_15 (v := .int (gI σ 150 0 1)) rfl dX3_addStep_22 ?_
    refine lv_iconst (v := (1 : Int32)) hx hb dX3_addStep_25 rfl ?_
    refine lv_iadd hx hb dX3_addStep_26 ?_
    refine x_putI (k := 150) (n := 0) hx hb hts i_X3 tyX3 tyX3_ok nmX3 hown hK hD hP hS (mk_150 h01) rfl rfl 1 (by decide) rfl k_15 rfl rfl rfl rfl dX3_addStep_27 (fun H locs hP hS => ?_)
    obtain ⟨σ1, e_σ1, hf⟩ := nm_i hf
    have hP : va_P G vwCl (wld ad ca σ1 (LC z)) H := by rw [e_σ1]; exact hP
    exact x_vret hx hb hr hlocks hK hP hS (Option.some.inj hf) dX3_addStep_30
  · have hf := b_n hf hc
    refine lv_aload_n hx hb dX3_addStep_10 rfl (lv_at hl 0 rfl) ?_
    refine x_get (k := 150) (n := 0) hx hb hts i_X3 hown hK hP (mk_150 h01) rfl rfl 0 (by decide) rfl k_9 (v := .ref (ad 151 0)) rfl dX3_addStep_11 ?_
    refine lv_aload_n hx hb dX3_addStep_14 rfl (lv_at hl 0 rfl) ?_
    refine x_get (k := 150) (n := 0) hx hb hts i_X3 hown hK hP (mk_150 h01) rfl rfl 1 (by decide) rfl k_15 (v := .int (gI σ 150 0 1)) rfl dX3_addStep_15 ?_
    refine lv_iload_n hx hb dX3_addStep_18 rfl (lv_at hl 1 rfl) ?_
    obtain ⟨g2, hf⟩ := gd_e hf
    refine x_iast (k := 151) (n := 0) hx hb hK hD hP hS (mk_151 h01) rfl g2 dX3_addStep_19 (fun H locs hP hS => ?_)
    obtain ⟨σ3, e_σ3, hf⟩ := nm_i hf
    have hP : va_P G vwCl (wld ad ca σ3 (LC z)) H := by rw [e_σ3]; exact hP
    refine lv_aload_n hx hb dX3_addStep_20 rfl (lv_at hl 0 rfl) ?_
    refine lv_dup hx hb dX3_addStep_21 rfl ?_
    refine x_get (k := 150) (n := 0) hx hb hts i_X3 hown hK hP (mk_150 h01) rfl rfl 1 (by decide) rfl k_15 (v := .int (gI σ3 150 0 1)) rfl dX3_addStep_22 ?_
    refine lv_iconst (v := (1 : Int32)) hx hb dX3_addStep_25 rfl ?_
    refine lv_iadd hx hb dX3_addStep_26 ?_
    refine x_putI (k := 150) (n := 0) hx hb hts i_X3 tyX3 tyX3_ok nmX3 hown hK hD hP hS (mk_150 h01) rfl rfl 1 (by decide) rfl k_15 rfl rfl rfl rfl dX3_addStep_27 (fun H locs hP hS => ?_)
    obtain ⟨σ4, e_σ4, hf⟩ := nm_i hf
    have hP : va_P G vwCl (wld ad ca σ4 (LC z)) H := by rw [e_σ4]; exact hP
    exact x_vret hx hb hr hlocks hK hP hS (Option.some.inj hf) dX3_addStep_30
theorem h9_X3_endWithValue : yX3_endWithValue.cls = RX3 ∧ yX3_endWithValue.cls ≠ "java/lang/invoke/MethodHandle" ∧ yX3_endWithValue.cls ≠ "java/lang/invoke/VarHandle" ∧ (parseMethodDescriptor yX3_endWithValue.desc).map (fun d => d.parameters.length) = some 1 := by decide +kernel
set_option maxRecDepth 100000 in
set_option maxHeartbeats 4000000 in
theorem t_X3_endWithValue (l : Launch) (G : va_G) (ad : Nat → Nat → Nat) (ca : Nat → ClassId) (A : Nat → Prop) (z : Nat × Nat)  (x1 : Int64) (hD : DW ad (LC z) A)  (σ : PS) (res : PS) (hf : X3_endWithValue z  x1 σ = some res) : Met l yX3_endWithValue wsX3_endWithValue ({ frames := 0, cells := 0, slots := 0, locals := 0 }) (ctP G ad ca (LC z) σ ZC [.ref (ad 150 0), .long x1]) (va_Qv (fun u => u = res) (ctB G ad ca (LC z)) A) 0 0 A := by
  refine Met.ofW (cc := cX3_endWithValue) (maxL := 3) (ret := none) (by decide) rfl ?_
  intro p e s m args below meth c s₁ B hml hv
  obtain ⟨rfl, hP, hK, hz⟩ := hv
  have hx := B.exec
  have hb := B.bytes
  have hr := B.returns
  have hts : ∀ w ∈ WW, w.before _ s = true := fun w h => atoms_spec (ws := wsX3_endWithValue) B.pre w (List.mem_cons_of_mem _ h)
  have hown : s.vm.findClass RX3 = some m.cls := findClass_of_methodNamed B.named
  have hlocks := B.notSynchronized
  have hS : va_S A s.heap s.heap [] := va_S.rf
  have k_22 := hts _ kf_X3_22
  have k_28 := hts _ kf_X3_28
  have hl := lv_entry ([.ref (ad 150 0), .long x1]) (n := 3) (Nat.le_of_ble_eq_true rfl)
  rw [lg_entry_eq]
  generalize (lg_sl ([.ref (ad 150 0), .long x1]) ++ List.replicate (3 - (lg_sl ([.ref (ad 150 0), .long x1])).length) Slot.unset).toArray = ls at hl ⊢
  have hl : lv_has ls 3 [(0, .ref (ad 150 0)), (1, .long x1)] := hl
  unfold X3_endWithValue at hf
  refine lv_aload_n hx hb dX3_endWithValue_0 rfl (lv_at hl 0 rfl) ?_
  refine lv_iconst (v := (0 : Int32)) hx hb dX3_endWithValue_1 rfl ?_
  refine x_putI (k := 150) (n := 0) hx hb hts i_X3 tyX3 tyX3_ok nmX3 hown hK hD hP hS (mk_150 h01) rfl rfl 3 (by decide) rfl k_22 rfl rfl rfl rfl dX3_endWithValue_2 (fun H locs hP hS => ?_)
  obtain ⟨σ1, e_σ1, hf⟩ := nm_i hf
  have hP : va_P G vwCl (wld ad ca σ1 (LC z)) H := by rw [e_σ1]; exact hP
  refine lv_aload_n hx hb dX3_endWithValue_5 rfl (lv_at hl 0 rfl) ?_
  refine lv_dup hx hb dX3_endWithValue_6 rfl ?_
  refine x_get (k := 150) (n := 0) hx hb hts i_X3 hown hK hP (mk_150 h01) rfl rfl 5 (by decide) rfl k_28 (v := .long (gL σ1 150 0 5)) rfl dX3_endWithValue_7 ?_
  refine lv_lload_n hx hb dX3_endWithValue_10 rfl (lv_at hl 1 rfl) ?_
  refine lv_ladd hx hb dX3_endWithValue_11 ?_
  refine x_putL (k := 150) (n := 0) hx hb hts i_X3 tyX3 tyX3_ok nmX3 hown hK hD hP hS (mk_150 h01) rfl rfl 5 (by decide) rfl k_28 rfl rfl rfl rfl dX3_endWithValue_12 (fun H locs hP hS => ?_)
  obtain ⟨σ2, e_σ2, hf⟩ := nm_i hf
  have hP : va_P G vwCl (wld ad ca σ2 (LC z)) H := by rw [e_σ2]; exact hP
  exact x_vret hx hb hr hlocks hK hP hS (Option.some.inj hf) dX3_endWithValue_15
theorem h9_X3_endWithFailure : yX3_endWithFailure.cls = RX3 ∧ yX3_endWithFailure.cls ≠ "java/lang/invoke/MethodHandle" ∧ yX3_endWithFailure.cls ≠ "java/lang/invoke/VarHandle" ∧ (parseMethodDescriptor yX3_endWithFailure.desc).map (fun d => d.parameters.length) = some 1 := by decide +kernel
set_option maxRecDepth 100000 in
set_option maxHeartbeats 4000000 in
theorem t_X3_endWithFailure (l : Launch) (G : va_G) (ad : Nat → Nat → Nat) (ca : Nat → ClassId) (A : Nat → Prop) (z : Nat × Nat)  (x1 : Int32) (hD : DW ad (LC z) A)  (σ : PS) (res : PS) (hf : X3_endWithFailure z  x1 σ = some res) : Met l yX3_endWithFailure wsX3_endWithFailure ({ frames := 0, cells := 0, slots := 0, locals := 0 }) (ctP G ad ca (LC z) σ ZC [.ref (ad 150 0), .int x1]) (va_Qv (fun u => u = res) (ctB G ad ca (LC z)) A) 0 0 A := by
  refine Met.ofW (cc := cX3_endWithFailure) (maxL := 2) (ret := none) (by decide) rfl ?_
  intro p e s m args below meth c s₁ B hml hv
  obtain ⟨rfl, hP, hK, hz⟩ := hv
  have hx := B.exec
  have hb := B.bytes
  have hr := B.returns
  have hts : ∀ w ∈ WW, w.before _ s = true := fun w h => atoms_spec (ws := wsX3_endWithFailure) B.pre w (List.mem_cons_of_mem _ h)
  have hown : s.vm.findClass RX3 = some m.cls := findClass_of_methodNamed B.named
  have hlocks := B.notSynchronized
  have hS : va_S A s.heap s.heap [] := va_S.rf
  have k_22 := hts _ kf_X3_22
  have k_25 := hts _ kf_X3_25
  have hl := lv_entry ([.ref (ad 150 0), .int x1]) (n := 2) (Nat.le_of_ble_eq_true rfl)
  rw [lg_entry_eq]
  generalize (lg_sl ([.ref (ad 150 0), .int x1]) ++ List.replicate (2 - (lg_sl ([.ref (ad 150 0), .int x1])).length) Slot.unset).toArray = ls at hl ⊢
  have hl : lv_has ls 2 [(0, .ref (ad 150 0)), (1, .int x1)] := hl
  unfold X3_endWithFailure at hf
  refine lv_aload_n hx hb dX3_endWithFailure_0 rfl (lv_at hl 0 rfl) ?_
  refine lv_iconst (v := (3 : Int32)) hx hb dX3_endWithFailure_1 rfl ?_
  refine x_putI (k := 150) (n := 0) hx hb hts i_X3 tyX3 tyX3_ok nmX3 hown hK hD hP hS (mk_150 h01) rfl rfl 3 (by decide) rfl k_22 rfl rfl rfl rfl dX3_endWithFailure_2 (fun H locs hP hS => ?_)
  obtain ⟨σ1, e_σ1, hf⟩ := nm_i hf
  have hP : va_P G vwCl (wld ad ca σ1 (LC z)) H := by rw [e_σ1]; exact hP
  refine lv_aload_n hx hb dX3_endWithFailure_5 rfl (lv_at hl 0 rfl) ?_
  refine lv_iload_n hx hb dX3_endWithFailure_6 rfl (lv_at hl 1 rfl) ?_
  refine x_putI (k := 150) (n := 0) hx hb hts i_X3 tyX3 tyX3_ok nmX3 hown hK hD hP hS (mk_150 h01) rfl rfl 4 (by decide) rfl k_25 rfl rfl rfl rfl dX3_endWithFailure_7 (fun H locs hP hS => ?_)
  obtain ⟨σ2, e_σ2, hf⟩ := nm_i hf
  have hP : va_P G vwCl (wld ad ca σ2 (LC z)) H := by rw [e_σ2]; exact hP
  exact x_vret hx hb hr hlocks hK hP hS (Option.some.inj hf) dX3_endWithFailure_10
theorem h9_X5_fillCells : yX5_fillCells.cls = RX5 ∧ yX5_fillCells.cls ≠ "java/lang/invoke/MethodHandle" ∧ yX5_fillCells.cls ≠ "java/lang/invoke/VarHandle" ∧ (parseMethodDescriptor yX5_fillCells.desc).map (fun d => d.parameters.length) = some 1 := by decide +kernel
set_option maxRecDepth 100000 in
set_option maxHeartbeats 4000000 in
theorem t_X5_fillCells (l : Launch) (G : va_G) (ad : Nat → Nat → Nat) (ca : Nat → ClassId) (A : Nat → Prop) (z : Nat × Nat)  (n1 : Nat) (hD : DW ad (LC z) A) (hn1 : n1 < z.1) (σ : PS) (res : PS) (hf : X5_fillCells z  n1 σ = some res) : Met l yX5_fillCells wsX5_fillCells ({ frames := 4, cells := 0, slots := 0, locals := 93 }) (ctP G ad ca (LC z) σ ZC [.ref (ad 250 0), .ref (ad 50 n1)]) (va_Qv (fun u => u = res) (ctB G ad ca (LC z)) A) 0 0 A := by
  refine Met.ofW (cc := cX5_fillCells) (maxL := 2) (ret := none) (by decide) rfl ?_
  intro p e s m args below meth c s₁ B hml hv
  obtain ⟨rfl, hP, hK, hz⟩ := hv
  have hx := B.exec
  have hb := B.bytes
  have hr := B.returns
  have hts : ∀ w ∈ WW, w.before _ s = true := fun w h => atoms_spec (ws := wsX5_fillCells) B.pre w (List.mem_cons_of_mem _ h)
  have hown : s.vm.findClass RX5 = some m.cls := findClass_of_methodNamed B.named
  have hlocks := B.notSynchronized
  have hS : va_S A s.heap s.heap [] := va_S.rf
  have k_12 := hts _ kf_X5_12
  have k_18 := hts _ kf_X5_18
  have hl := lv_entry ([.ref (ad 250 0), .ref (ad 50 n1)]) (n := 2) (Nat.le_of_ble_eq_true rfl)
  rw [lg_entry_eq]
  generalize (lg_sl ([.ref (ad 250 0), .ref (ad 50 n1)]) ++ List.replicate (2 - (lg_sl ([.ref (ad 250 0), .ref (ad 50 n1)])).length) Slot.unset).toArray = ls at hl ⊢
  have hl : lv_has ls 2 [(0, .ref (ad 250 0)), (1, .ref (ad 50 n1))] := hl
  unfold X5_fillCells at hf
  refine lv_aload_n hx hb dX5_fillCells_0 rfl (lv_at hl 0 rfl) ?_
  refine x_get (k := 250) (n := 0) hx hb hts i_X5 hown hK hP (mk_250 h01) rfl rfl 0 (by decide) rfl k_12 (v := .ref (ad 0 0)) rfl dX5_fillCells_1 ?_
  refine lv_aload_n hx hb dX5_fillCells_4 rfl (lv_at hl 1 rfl) ?_
  refine lv_iconst (v := (0 : Int32)) hx hb dX5_fillCells_5 rfl ?_
  obtain ⟨σ1, hc1, hf⟩ := bd_e hf
  refine x_cv (va_runV (As := [.ref (ad 50 n1), .int (0 : Int32)]) (rest := []) ⟨hx, hb, hml, hown, hts⟩ (t_X0_fill l G ad ca A z 0 n1 (0 : Int32) hD h02 hn1 σ σ1 hc1) (cwV 2 hts gr_X5_34 rfl rfl rfl h9_X0_fill ⟨Nat.le_of_ble_eq_true rfl, Nat.le_of_ble_eq_true rfl⟩) (x_prV zkC hz hK hP (mk_0 h02) rfl rfl) rfl rfl hl.1 rfl (lv_room (Nat.le_of_ble_eq_true rfl)) dX5_fillCells_6 ⟨Nat.le_of_ble_eq_true rfl, Nat.le_of_ble_eq_true rfl⟩) hS (fun H locs hP hS => ?_)
  refine lv_aload_n hx hb dX5_fillCells_9 rfl (lv_at hl 0 rfl) ?_
  refine x_get (k := 250) (n := 0) hx hb hts i_X5 hown hK hP (mk_250 h01) rfl rfl 1 (by decide) rfl k_18 (v := .ref (ad 0 1)) rfl dX5_fillCells_10 ?_
  refine lv_aload_n hx hb dX5_fillCells_13 rfl (lv_at hl 1 rfl) ?_
  refine lv_iconst (v := (1 : Int32)) hx hb dX5_fillCells_14 rfl ?_
  obtain ⟨σ2, hc2, hf⟩ := bd_e hf
  refine x_cv (va_runV (As := [.ref (ad 50 n1), .int (1 : Int32)]) (rest := []) ⟨hx, hb, hml, hown, hts⟩ (t_X0_fill l G ad ca A z 1 n1 (1 : Int32) hD h12 hn1 σ1 σ2 hc2) (cwV 2 hts gr_X5_34 rfl rfl rfl h9_X0_fill ⟨Nat.le_of_ble_eq_true rfl, Nat.le_of_ble_eq_true rfl⟩) (x_prV zkC hz hK hP (mk_0 h12) rfl rfl) rfl rfl hl.1 rfl (lv_room (Nat.le_of_ble_eq_true rfl)) dX5_fillCells_15 ⟨Nat.le_of_ble_eq_true rfl, Nat.le_of_ble_eq_true rfl⟩) hS (fun H locs hP hS => ?_)
  exact x_vret hx hb hr hlocks hK hP hS (Option.some.inj hf) dX5_fillCells_18
theorem h9_X5_foundAt : yX5_foundAt.cls = RX5 ∧ yX5_foundAt.cls ≠ "java/lang/invoke/MethodHandle" ∧ yX5_foundAt.cls ≠ "java/lang/invoke/VarHandle" ∧ (parseMethodDescriptor yX5_foundAt.desc).map (fun d => d.parameters.length) = some 2 := by decide +kernel
set_option maxRecDepth 100000 in
set_option maxHeartbeats 4000000 in
theorem t_X5_foundAt (l : Launch) (G : va_G) (ad : Nat → Nat → Nat) (ca : Nat → ClassId) (A : Nat → Prop) (z : Nat × Nat)  (x1 : Int32) (x2 : Int32) (hD : DW ad (LC z) A)  (σ : PS) (res : Int32) (σz : PS) (hf : X5_foundAt z  x1 x2 σ = some (res, σz)) : Met l yX5_foundAt wsX5_foundAt ({ frames := 0, cells := 0, slots := 0, locals := 0 }) (ctP G ad ca (LC z) σ ZC [.ref (ad 250 0), .int x1, .int x2]) (va_Qi (fun r' u => r' = res ∧ u = σz) (ctB G ad ca (LC z)) A) 0 0 A := by
  refine Met.ofW (cc := cX5_foundAt) (maxL := 3) (ret := (some .boolean)) (by decide) rfl ?_
  intro p e s m args below meth c s₁ B hml hv
  obtain ⟨rfl, hP, hK, hz⟩ := hv
  have hx := B.exec
  have hb := B.bytes
  have hr := B.returns
  have hts : ∀ w ∈ WW, w.before _ s = true := fun w h => atoms_spec (ws := wsX5_foundAt) B.pre w (List.mem_cons_of_mem _ h)
  have hown : s.vm.findClass RX5 = some m.cls := findClass_of_methodNamed B.named
  have hlocks := B.notSynchronized
  have hS : va_S A s.heap s.heap [] := va_S.rf
  have k_21 := hts _ kf_X5_21
  have k_25 := hts _ kf_X5_25
  have hl := lv_entry ([.ref (ad 250 0), .int x1, .int x2]) (n := 3) (Nat.le_of_ble_eq_true rfl)
  rw [lg_entry_eq]
  generalize (lg_sl ([.ref (ad 250 0), .int x1, .int x2]) ++ List.replicate (3 - (lg_sl ([.ref (ad 250 0), .int x1, .int x2])).length) Slot.unset).toArray = ls at hl ⊢
  have hl : lv_has ls 3 [(0, .ref (ad 250 0)), (1, .int x1), (2, .int x2)] := hl
  unfold X5_foundAt at hf
  refine lv_aload_n hx hb dX5_foundAt_0 rfl (lv_at hl 0 rfl) ?_
  refine lv_iload_n hx hb dX5_foundAt_1 rfl (lv_at hl 1 rfl) ?_
  refine x_putI (k := 250) (n := 0) hx hb hts i_X5 tyX5 tyX5_ok nmX5 hown hK hD hP hS (mk_250 h01) rfl rfl 2 (by decide) rfl k_21 rfl rfl rfl rfl dX5_foundAt_2 (fun H locs hP hS => ?_)
  obtain ⟨σ1, e_σ1, hf⟩ := nm_i hf
  have hP : va_P G vwCl (wld ad ca σ1 (LC z)) H := by rw [e_σ1]; exact hP
  refine lv_aload_n hx hb dX5_foundAt_5 rfl (lv_at hl 0 rfl) ?_
  refine lv_iload_n hx hb dX5_foundAt_6 rfl (lv_at hl 2 rfl) ?_
  refine x_putI (k := 250) (n := 0) hx hb hts i_X5 tyX5 tyX5_ok nmX5 hown hK hD hP hS (mk_250 h01) rfl rfl 3 (by decide) rfl k_25 rfl rfl rfl rfl dX5_foundAt_7 (fun H locs hP hS => ?_)
  obtain ⟨σ2, e_σ2, hf⟩ := nm_i hf
  have hP : va_P G vwCl (wld ad ca σ2 (LC z)) H := by rw [e_σ2]; exact hP
  refine lv_iconst (v := (1 : Int32)) hx hb dX5_foundAt_10 rfl ?_
  have hf := Option.some.inj hf
  exact x_zret hx hb hr hlocks hK hP hS (by decide) (congrArg Prod.fst hf) (congrArg Prod.snd hf) dX5_foundAt_11
theorem h9_X5_findHole : yX5_findHole.cls = RX5 ∧ yX5_findHole.cls ≠ "java/lang/invoke/MethodHandle" ∧ yX5_findHole.cls ≠ "java/lang/invoke/VarHandle" ∧ (parseMethodDescriptor yX5_findHole.desc).map (fun d => d.parameters.length) = some 1 := by decide +kernel
set_option maxRecDepth 100000 in
set_option maxHeartbeats 4000000 in
theorem t_X5_findHole (l : Launch) (G : va_G) (ad : Nat → Nat → Nat) (ca : Nat → ClassId) (A : Nat → Prop) (z : Nat × Nat)  (n1 : Nat) (hD : DW ad (LC z) A) (hn1 : n1 < z.1) (σ : PS) (res : Int32) (σz : PS) (hf : X5_findHole z  n1 σ = some (res, σz)) : Met l yX5_findHole wsX5_findHole ({ frames := 5, cells := 0, slots := 0, locals := 114 }) (ctP G ad ca (LC z) σ ZC [.ref (ad 250 0), .ref (ad 50 n1)]) (va_Qi (fun r' u => r' = res ∧ u = σz) (ctB G ad ca (LC z)) A) 0 0 A := by
  refine Met.ofW (cc := cX5_findHole) (maxL := 4) (ret := (some .boolean)) (by decide) rfl ?_
  intro p e s m args below meth c s₁ B hml hv
  obtain ⟨rfl, hP, hK, hz⟩ := hv
  have hx := B.exec
  have hb := B.bytes
  have hr := B.returns
  have hts : ∀ w ∈ WW, w.before _ s = true := fun w h => atoms_spec (ws := wsX5_findHole) B.pre w (List.mem_cons_of_mem _ h)
  have hown : s.vm.findClass RX5 = some m.cls := findClass_of_methodNamed B.named
  have hlocks := B.notSynchronized
  have hS : va_S A s.heap s.heap [] := va_S.rf
  have k_12 := hts _ kf_X5_12
  have k_18 := hts _ kf_X5_18
  have k_42 := hts _ kf_X5_42
  have k_45 := hts _ kf_X5_45
  have hl := lv_entry ([.ref (ad 250 0), .ref (ad 50 n1)]) (n := 4) (Nat.le_of_ble_eq_true rfl)
  rw [lg_entry_eq]
  generalize (lg_sl ([.ref (ad 250 0), .ref (ad 50 n1)]) ++ List.replicate (4 - (lg_sl ([.ref (ad 250 0), .ref (ad 50 n1)])).length) Slot.unset).toArray = ls at hl ⊢
  have hl : lv_has ls 4 [(0, .ref (ad 250 0)), (1, .ref (ad 50 n1))] := hl
  unfold X5_findHole at hf
  have l7 : ∀ (kx7 : PS → Option (Int32 × PS)), (∀ (σ : PS) (H : Heap) (locs : List Loc) (ls : Array Slot), kx7 σ = some (res, σz) → lv_has ls 4 [] → va_P G vwCl (wld ad ca σ (LC z)) H → va_S A s.heap H locs → W p l e (headSpec wsX5_findHole ({ frames := 5, cells := 0, slots := 0, locals := 114 })).room s m (([.ref (ad 250 0), .ref (ad 50 n1)] : List Value).toArray) below meth c H locs 0 0 (MQ below (va_Qi (fun r' u => r' = res ∧ u = σz) (ctB G ad ca (LC z)) A) (([.ref (ad 250 0), .ref (ad 50 n1)] : List Value).toArray) s 0 0 A) (F0 m 77 ls [])) → ∀ (n7 : Nat) (v1 : Nat) (v2 : Int32) (σ : PS) (H : Heap) (locs : List Loc) (ls : Array Slot), v1 < z.1 → X5_findHole_l7 z kx7 n7 v1 v2 σ = some (res, σz) → lv_has ls 4 [(0, .ref (ad 250 0)), (1, .ref (ad 50 v1)), (2, .int v2)] → va_P G vwCl (wld ad ca σ (LC z)) H → va_S A s.heap H locs → W p l e (headSpec wsX5_findHole ({ frames := 5, cells := 0, slots := 0, locals := 114 })).room s m (([.ref (ad 250 0), .ref (ad 50 n1)] : List Value).toArray) below meth c H locs 0 0 (MQ below (va_Qi (fun r' u => r' = res ∧ u = σz) (ctB G ad ca (LC z)) A) (([.ref (ad 250 0), .ref (ad 50 n1)] : List Value).toArray) s 0 0 A) (F0 m 7 ls []) := by
    intro kx7 hx7 n7
    induction n7 with
    | zero =>
      intro v1 v2 σ H locs ls h_v1 hf
      exact absurd hf (by simp [X5_findHole_l7])
    | succ n7 ih7 =>
      intro v1 v2 σ H locs ls h_v1 hf hl hP hS
      rw [X5_findHole_l7.eq_2] at hf
      have l20 : ∀ (kx20 : Nat → Int32 → PS → Option (Int32 × PS)), (∀ (v1 : Nat) (v2 : Int32) (σ : PS) (H : Heap) (locs : List Loc) (ls : Array Slot), v1 < z.1 → kx20 v1 v2 σ = some (res, σz) → lv_has ls 4 [(0, .ref (ad 250 0)), (1, .ref (ad 50 v1)), (2, .int v2)] → va_P G vwCl (wld ad ca σ (LC z)) H → va_S A s.heap H locs → W p l e (headSpec wsX5_findHole ({ frames := 5, cells := 0, slots := 0, locals := 114 })).room s m (([.ref (ad 250 0), .ref (ad 50 n1)] : List Value).toArray) below meth c H locs 0 0 (MQ below (va_Qi (fun r' u => r' = res ∧ u = σz) (ctB G ad ca (LC z)) A) (([.ref (ad 250 0), .ref (ad 50 n1)] : List Value).toArray) s 0 0 A) (F0 m 71 ls [])) → ∀ (n20 : Nat) (v1 : Nat) (v2 : Int32) (v3 : Int32) (σ : PS) (H : Heap) (locs : List Loc) (ls : Array Slot), v1 < z.1 → X5_findHole_l20 z kx20 n20 v1 v2 v3 σ = some (res, σz) → lv_has ls 4 [(0, .ref (ad 250 0)), (1, .ref (ad 50 v1)), (2, .int v2), (3, .int v3)] → va_P G vwCl (wld ad ca σ (LC z)) H → va_S A s.heap H locs → W p l e (headSpec wsX5_findHole ({ frames := 5, cells := 0, slots := 0, locals := 114 })).room s m (([.ref (ad 250 0), .ref (ad 50 n1)] : List Value).toArray) below meth c H locs 0 0 (MQ below (va_Qi (fun r' u => r' = res ∧ u = σz) (ctB G ad ca (LC z)) A) (([.ref (ad 250 0), .ref (ad 50 n1)] : List Value).toArray) s 0 0 A) (F0 m 20 ls []) := by
        intro kx20 hx20 n20
        induction n20 with
        | zero =>
          intro v1 v2 v3 σ H locs ls h_v1 hf
          exact absurd hf (by simp [X5_findHole_l20])
        | succ n20 ih20 =>
          intro v1 v2 v3 σ H locs ls h_v1 hf hl hP hS
          rw [X5_findHole_l20.eq_2] at hf
          refine lv_iload_n hx hb dX5_findHole_20 rfl (lv_at hl 3 rfl) ?_
          refine lv_aload_n hx hb dX5_findHole_21 rfl (lv_at hl 0 rfl) ?_
          refine x_get (k := 250) (n := 0) hx hb hts i_X5 hown hK hP (mk_250 h01) rfl rfl 1 (by decide) rfl k_18 (v := .ref (ad 0 1)) rfl dX5_findHole_22 ?_
          refine x_get (k := 0) (n := 1) hx hb hts i_X0 hown hK hP (mk_0 h12) rfl rfl 3 (by decide) rfl k_42 (v := .int (gI σ 0 1 3)) rfl dX5_findHole_25 ?_
          refine lv_icmp_ge (tgt := 71) hx hb dX5_findHole_28 rfl (fun hc => ?_) (fun hc => ?_)
          · have hf := b_p hf hc
            exact hx20 v1 v2 σ _ _ _ h_v1 hf (lv_sub hl [0, 1, 2] rfl) hP hS
          · have hf := b_n hf hc
            refine lv_aload_n hx hb dX5_findHole_31 rfl (lv_at hl 1 rfl) ?_
            refine lv_aload_n hx hb dX5_findHole_32 rfl (lv_at hl 0 rfl) ?_
            refine x_get (k := 250) (n := 0) hx hb hts i_X5 hown hK hP (mk_250 h01) rfl rfl 0 (by decide) rfl k_12 (v := .ref (ad 0 0)) rfl dX5_findHole_33 ?_
            refine x_get (k := 0) (n := 0) hx hb hts i_X0 hown hK hP (mk_0 h02) rfl rfl 2 (by decide) rfl k_45 (v := .ref (ad 3 0)) rfl dX5_findHole_36 ?_
            refine lv_iload_n hx hb dX5_findHole_39 rfl (lv_at hl 2 rfl) ?_
            obtain ⟨g2, hf⟩ := gd_e hf
            refine x_iald (k := 3) (n := 0) hx hb hK hP (mk_3 h02) rfl g2 dX5_findHole_40 ?_
            refine lv_aload_n hx hb dX5_findHole_41 rfl (lv_at hl 0 rfl) ?_
            refine x_get (k := 250) (n := 0) hx hb hts i_X5 hown hK hP (mk_250 h01) rfl rfl 1 (by decide) rfl k_18 (v := .ref (ad 0 1)) rfl dX5_findHole_42 ?_
            refine x_get (k := 0) (n := 1) hx hb hts i_X0 hown hK hP (mk_0 h12) rfl rfl 2 (by decide) rfl k_45 (v := .ref (ad 3 1)) rfl dX5_findHole_45 ?_
            refine lv_iload_n hx hb dX5_findHole_48 rfl (lv_at hl 3 rfl) ?_
            obtain ⟨g3, hf⟩ := gd_e hf
            refine x_iald (k := 3) (n := 1) hx hb hK hP (mk_3 h12) rfl g3 dX5_findHole_49 ?_
            refine lv_iand hx hb dX5_findHole_50 ?_
            obtain ⟨r4, hc4, hf⟩ := bd_e hf
            refine x_ci (va_runV (As := [.int ((gI σ 3 0 (ix v2)) &&& (gI σ 3 1 (ix v3)))]) (rest := []) ⟨hx, hb, hml, hown, hts⟩ (t_X1_chosenOf l G ad ca A z v1 ((gI σ 3 0 (ix v2)) &&& (gI σ 3 1 (ix v3))) hD h_v1 σ r4 hc4) (cwV 1 hts gr_X5_49 rfl rfl rfl h9_X1_chosenOf ⟨Nat.le_of_ble_eq_true rfl, Nat.le_of_ble_eq_true rfl⟩) (x_prV zkC hz hK hP (mk_50 h_v1) rfl rfl) rfl rfl hl.1 rfl (lv_room (Nat.le_of_ble_eq_true rfl)) dX5_findHole_51 ⟨Nat.le_of_ble_eq_true rfl, Nat.le_of_ble_eq_true rfl⟩) hS (fun H locs hP hS => ?_)
            refine lv_iconst (v := (-1 : Int32)) hx hb dX5_findHole_54 rfl ?_
            refine lv_icmp_ne (tgt := 65) hx hb dX5_findHole_55 rfl (fun hc => ?_) (fun hc => ?_)
            · have hf := b_n hf hc
              refine lv_iinc (v := (v3 + (1 : Int32))) (lv' := [(3, .int (v3 + (1 : Int32))), (0, .ref (ad 250 0)), (1, .ref (ad 50 v1)), (2, .int v2)]) hx hb dX5_findHole_65 hl (k := 3) rfl rfl (by decide) rfl (fun ls hl => ?_)
              refine lv_goto (tgt := 20) hx hb dX5_findHole_68 rfl ?_
              exact ih20 v1 v2 (v3 + (1 : Int32)) σ _ _ _ h_v1 hf (lv_sub hl [1, 2, 3, 0] rfl) hP hS
            · have hf := b_p hf hc
              refine lv_aload_n hx hb dX5_findHole_58 rfl (lv_at hl 0 rfl) ?_
              refine lv_iload_n hx hb dX5_findHole_59 rfl (lv_at hl 2 rfl) ?_
              refine lv_iload_n hx hb dX5_findHole_60 rfl (lv_at hl 3 rfl) ?_
              obtain ⟨r5, σ5, hc5, hf⟩ := bp_e hf
              refine x_ci (va_runV (As := [.int v2, .int v3]) (rest := []) ⟨hx, hb, hml, hown, hts⟩ (t_X5_foundAt l G ad ca A z v2 v3 hD  σ r5 σ5 hc5) (cwV 2 hts gr_X5_55 rfl rfl rfl h9_X5_foundAt ⟨Nat.le_of_ble_eq_true rfl, Nat.le_of_ble_eq_true rfl⟩) (x_prV zkC hz hK hP (mk_250 h01) rfl rfl) rfl rfl hl.1 rfl (lv_room (Nat.le_of_ble_eq_true rfl)) dX5_findHole_61 ⟨Nat.le_of_ble_eq_true rfl, Nat.le_of_ble_eq_true rfl⟩) hS (fun H locs hP hS => ?_)
              obtain ⟨g6, hf⟩ := gd_e hf
              have hf := Option.some.inj hf
              exact x_zret hx hb hr hlocks hK hP hS g6 (congrArg Prod.fst hf) (congrArg Prod.snd hf) dX5_findHole_64
      have c71 : ∀ (v1 : Nat) (v2 : Int32) (σ : PS) (H : Heap) (locs : List Loc) (ls : Array Slot), v1 < z.1 → X5_findHole_c71 z (X5_findHole_l7 z kx7 n7) kx7 v1 v2 σ = some (res, σz) → lv_has ls 4 [(0, .ref (ad 250 0)), (1, .ref (ad 50 v1)), (2, .int v2)] → va_P G vwCl (wld ad ca σ (LC z)) H → va_S A s.heap H locs → W p l e (headSpec wsX5_findHole ({ frames := 5, cells := 0, slots := 0, locals := 114 })).room s m (([.ref (ad 250 0), .ref (ad 50 n1)] : List Value).toArray) below meth c H locs 0 0 (MQ below (va_Qi (fun r' u => r' = res ∧ u = σz) (ctB G ad ca (LC z)) A) (([.ref (ad 250 0), .ref (ad 50 n1)] : List Value).toArray) s 0 0 A) (F0 m 71 ls []) := by
        intro v1 v2 σ H locs ls h_v1 hf hl hP hS
        unfold X5_findHole_c71 at hf
        refine lv_iinc (v := (v2 + (1 : Int32))) (lv' := [(2, .int (v2 + (1 : Int32))), (0, .ref (ad 250 0)), (1, .ref (ad 50 v1))]) hx hb dX5_findHole_71 hl (k := 2) rfl rfl (by decide) rfl (fun ls hl => ?_)
        refine lv_goto (tgt := 7) hx hb dX5_findHole_74 rfl ?_
        exact ih7 v1 (v2 + (1 : Int32)) σ _ _ _ h_v1 hf (lv_sub hl [1, 2, 0] rfl) hP hS
      refine lv_iload_n hx hb dX5_findHole_7 rfl (lv_at hl 2 rfl) ?_
      refine lv_aload_n hx hb dX5_findHole_8 rfl (lv_at hl 0 rfl) ?_
      refine x_get (k := 250) (n := 0) hx hb hts i_X5 hown hK hP (mk_250 h01) rfl rfl 0 (by decide) rfl k_12 (v := .ref (ad 0 0)) rfl dX5_findHole_9 ?_
      refine x_get (k := 0) (n := 0) hx hb hts i_X0 hown hK hP (mk_0 h02) rfl rfl 3 (by decide) rfl k_42 (v := .int (gI σ 0 0 3)) rfl dX5_findHole_12 ?_
      refine lv_icmp_ge (tgt := 77) hx hb dX5_findHole_15 rfl (fun hc => ?_) (fun hc => ?_)
      · have hf := b_p hf hc
        exact hx7  σ _ _ _  hf (lv_sub hl [] rfl) hP hS
      · have hf := b_n hf hc
        refine lv_iconst (v := (0 : Int32)) hx hb dX5_findHole_18 rfl ?_
        refine lv_istore_n (lv' := [(3, .int (0 : Int32)), (0, .ref (ad 250 0)), (1, .ref (ad 50 v1)), (2, .int v2)]) hx hb dX5_findHole_19 rfl hl (by decide) rfl (fun ls hl => ?_)
        exact l20 _ c71 _ v1 v2 (0 : Int32) σ _ _ _ h_v1 hf (lv_sub hl [1, 2, 3, 0] rfl) hP hS
  have c77 : ∀ (σ : PS) (H : Heap) (locs : List Loc) (ls : Array Slot), X5_findHole_c77 z  σ = some (res, σz) → lv_has ls 4 [] → va_P G vwCl (wld ad ca σ (LC z)) H → va_S A s.heap H locs → W p l e (headSpec wsX5_findHole ({ frames := 5, cells := 0, slots := 0, locals := 114 })).room s m (([.ref (ad 250 0), .ref (ad 50 n1)] : List Value).toArray) below meth c H locs 0 0 (MQ below (va_Qi (fun r' u => r' = res ∧ u = σz) (ctB G ad ca (LC z)) A) (([.ref (ad 250 0), .ref (ad 50 n1)] : List Value).toArray) s 0 0 A) (F0 m 77 ls []) := by
    intro σ H locs ls hf hl hP hS
    unfold X5_findHole_c77 at hf
    refine lv_iconst (v := (0 : Int32)) hx hb dX5_findHole_77 rfl ?_
    have hf := Option.some.inj hf
    exact x_zret hx hb hr hlocks hK hP hS (by decide) (congrArg Prod.fst hf) (congrArg Prod.snd hf) dX5_findHole_78
  refine lv_aload_n hx hb dX5_findHole_0 rfl (lv_at hl 0 rfl) ?_
  refine lv_aload_n hx hb dX5_findHole_1 rfl (lv_at hl 1 rfl) ?_
  obtain ⟨σ1, hc1, hf⟩ := bd_e hf
  refine x_cv (va_runV (As := [.ref (ad 50 n1)]) (rest := []) ⟨hx, hb, hml, hown, hts⟩ (t_X5_fillCells l G ad ca A z n1 hD hn1 σ σ1 hc1) (cwV 1 hts gr_X5_38 rfl rfl rfl h9_X5_fillCells ⟨Nat.le_of_ble_eq_true rfl, Nat.le_of_ble_eq_true rfl⟩) (x_prV zkC hz hK hP (mk_250 h01) rfl rfl) rfl rfl hl.1 rfl (lv_room (Nat.le_of_ble_eq_true rfl)) dX5_findHole_2 ⟨Nat.le_of_ble_eq_true rfl, Nat.le_of_ble_eq_true rfl⟩) hS (fun H locs hP hS => ?_)
  refine lv_iconst (v := (0 : Int32)) hx hb dX5_findHole_5 rfl ?_
  refine lv_istore_n (lv' := [(2, .int (0 : Int32)), (0, .ref (ad 250 0)), (1, .ref (ad 50 n1))]) hx hb dX5_findHole_6 rfl hl (by decide) rfl (fun ls hl => ?_)
  exact l7 _ c77 _ n1 (0 : Int32) σ1 _ _ _ hn1 hf (lv_sub hl [1, 2, 0] rfl) hP hS
theorem h9_X5_haveDoubt : yX5_haveDoubt.cls = RX5 ∧ yX5_haveDoubt.cls ≠ "java/lang/invoke/MethodHandle" ∧ yX5_haveDoubt.cls ≠ "java/lang/invoke/VarHandle" ∧ (parseMethodDescriptor yX5_haveDoubt.desc).map (fun d => d.parameters.length) = some 3 := by decide +kernel
set_option maxRecDepth 100000 in
set_option maxHeartbeats 4000000 in
theorem t_X5_haveDoubt (l : Launch) (G : va_G) (ad : Nat → Nat → Nat) (ca : Nat → ClassId) (A : Nat → Prop) (z : Nat × Nat)  (n1 : Nat) (x2 : Int32) (x3 : Int32) (hD : DW ad (LC z) A) (hn1 : n1 < z.1) (σ : PS) (res : Int32) (σz : PS) (hf : X5_haveDoubt z  n1 x2 x3 σ = some (res, σz)) : Met l yX5_haveDoubt wsX5_haveDoubt ({ frames := 1, cells := 0, slots := 0, locals := 23 }) (ctP G ad ca (LC z) σ ZC [.ref (ad 250 0), .ref (ad 50 n1), .int x2, .int x3]) (va_Qi (fun r' u => r' = res ∧ u = σz) (ctB G ad ca (LC z)) A) 0 0 A := by
  refine Met.ofW (cc := cX5_haveDoubt) (maxL := 9) (ret := (some .boolean)) (by decide) rfl ?_
  intro p e s m args below meth c s₁ B hml hv
  obtain ⟨rfl, hP, hK, hz⟩ := hv
  have hx := B.exec
  have hb := B.bytes
  have hr := B.returns
  have hts : ∀ w ∈ WW, w.before _ s = true := fun w h => atoms_spec (ws := wsX5_haveDoubt) B.pre w (List.mem_cons_of_mem _ h)
  have hown : s.vm.findClass RX5 = some m.cls := findClass_of_methodNamed B.named
  have hlocks := B.notSynchronized
  have hS : va_S A s.heap s.heap [] := va_S.rf
  have k_12 := hts _ kf_X5_12
  have k_18 := hts _ kf_X5_18
  have k_42 := hts _ kf_X5_42
  have k_45 := hts _ kf_X5_45
  have k_66 := hts _ kf_X5_66
  have hl := lv_entry ([.ref (ad 250 0), .ref (ad 50 n1), .int x2, .int x3]) (n := 9) (Nat.le_of_ble_eq_true rfl)
  rw [lg_entry_eq]
  generalize (lg_sl ([.ref (ad 250 0), .ref (ad 50 n1), .int x2, .int x3]) ++ List.replicate (9 - (lg_sl ([.ref (ad 250 0), .ref (ad 50 n1), .int x2, .int x3])).length) Slot.unset).toArray = ls at hl ⊢
  have hl : lv_has ls 9 [(0, .ref (ad 250 0)), (1, .ref (ad 50 n1)), (2, .int x2), (3, .int x3)] := hl
  unfold X5_haveDoubt at hf
  have l63 : ∀ (kx63 : PS → Option (Int32 × PS)), (∀ (σ : PS) (H : Heap) (locs : List Loc) (ls : Array Slot), kx63 σ = some (res, σz) → lv_has ls 9 [] → va_P G vwCl (wld ad ca σ (LC z)) H → va_S A s.heap H locs → W p l e (headSpec wsX5_haveDoubt ({ frames := 1, cells := 0, slots := 0, locals := 23 })).room s m (([.ref (ad 250 0), .ref (ad 50 n1), .int x2, .int x3] : List Value).toArray) below meth c H locs 0 0 (MQ below (va_Qi (fun r' u => r' = res ∧ u = σz) (ctB G ad ca (LC z)) A) (([.ref (ad 250 0), .ref (ad 50 n1), .int x2, .int x3] : List Value).toArray) s 0 0 A) (F0 m 152 ls [])) → ∀ (n63 : Nat) (v4 : Int32) (v5 : Int32) (v6 : Int32) (σ : PS) (H : Heap) (locs : List Loc) (ls : Array Slot), X5_haveDoubt_l63 z kx63 n63 v4 v5 v6 σ = some (res, σz) → lv_has ls 9 [(0, .ref (ad 250 0)), (4, .int v4), (5, .int v5), (6, .int v6)] → va_P G vwCl (wld ad ca σ (LC z)) H → va_S A s.heap H locs → W p l e (headSpec wsX5_haveDoubt ({ frames := 1, cells := 0, slots := 0, locals := 23 })).room s m (([.ref (ad 250 0), .ref (ad 50 n1), .int x2, .int x3] : List Value).toArray) below meth c H locs 0 0 (MQ below (va_Qi (fun r' u => r' = res ∧ u = σz) (ctB G ad ca (LC z)) A) (([.ref (ad 250 0), .ref (ad 50 n1), .int x2, .int x3] : List Value).toArray) s 0 0 A) (F0 m 63 ls []) := by
    intro kx63 hx63 n63
    induction n63 with
    | zero =>
      intro v4 v5 v6 σ H locs ls hf
      exact absurd hf (by simp [X5_haveDoubt_l63])
    | succ n63 ih63 =>
      intro v4 v5 v6 σ H locs ls hf hl hP hS
      rw [X5_haveDoubt_l63.eq_2] at hf
      have l78 : ∀ (kx78 : Int32 → Int32 → Int32 → PS → Option (Int32 × PS)), (∀ (v4 : Int32) (v5 : Int32) (v6 : Int32) (σ : PS) (H : Heap) (locs : List Loc) (ls : Array Slot), kx78 v4 v5 v6 σ = some (res, σz) → lv_has ls 9 [(0, .ref (ad 250 0)), (4, .int v4), (5, .int v5), (6, .int v6)] → va_P G vwCl (wld ad ca σ (LC z)) H → va_S A s.heap H locs → W p l e (headSpec wsX5_haveDoubt ({ frames := 1, cells := 0, slots := 0, locals := 23 })).room s m (([.ref (ad 250 0), .ref (ad 50 n1), .int x2, .int x3] : List Value).toArray) below meth c H locs 0 0 (MQ below (va_Qi (fun r' u => r' = res ∧ u = σz) (ctB G ad ca (LC z)) A) (([.ref (ad 250 0), .ref (ad 50 n1), .int x2, .int x3] : List Value).toArray) s 0 0 A) (F0 m 146 ls [])) → ∀ (n78 : Nat) (v4 : Int32) (v5 : Int32) (v6 : Int32) (v7 : Int32) (σ : PS) (H : Heap) (locs : List Loc) (ls : Array Slot), X5_haveDoubt_l78 z kx78 n78 v4 v5 v6 v7 σ = some (res, σz) → lv_has ls 9 [(0, .ref (ad 250 0)), (4, .int v4), (5, .int v5), (6, .int v6), (7, .int v7)] → va_P G vwCl (wld ad ca σ (LC z)) H → va_S A s.heap H locs → W p l e (headSpec wsX5_haveDoubt ({ frames := 1, cells := 0, slots := 0, locals := 23 })).room s m (([.ref (ad 250 0), .ref (ad 50 n1), .int x2, .int x3] : List Value).toArray) below meth c H locs 0 0 (MQ below (va_Qi (fun r' u => r' = res ∧ u = σz) (ctB G ad ca (LC z)) A) (([.ref (ad 250 0), .ref (ad 50 n1), .int x2, .int x3] : List Value).toArray) s 0 0 A) (F0 m 78 ls []) := by
        intro kx78 hx78 n78
        induction n78 with
        | zero =>
          intro v4 v5 v6 v7 σ H locs ls hf
          exact absurd hf (by simp [X5_haveDoubt_l78])
        | succ n78 ih78 =>
          intro v4 v5 v6 v7 σ H locs ls hf hl hP hS
          rw [X5_haveDoubt_l78.eq_2] at hf
          refine lv_iload hx hb dX5_haveDoubt_78 (lv_at hl 4 rfl) ?_
          refine lv_aload_n hx hb dX5_haveDoubt_80 rfl (lv_at hl 0 rfl) ?_
          refine x_get (k := 250) (n := 0) hx hb hts i_X5 hown hK hP (mk_250 h01) rfl rfl 1 (by decide) rfl k_18 (v := .ref (ad 0 1)) rfl dX5_haveDoubt_81 ?_
          refine x_get (k := 0) (n := 1) hx hb hts i_X0 hown hK hP (mk_0 h12) rfl rfl 3 (by decide) rfl k_42 (v := .int (gI σ 0 1 3)) rfl dX5_haveDoubt_84 ?_
          refine lv_icmp_ge (tgt := 146) hx hb dX5_haveDoubt_87 rfl (fun hc => ?_) (fun hc => ?_)
          · have hf := b_p hf hc
            exact hx78 v4 v5 v6 σ _ _ _  hf (lv_sub hl [0, 1, 2, 3] rfl) hP hS
          · have hf := b_n hf hc
            refine lv_aload_n hx hb dX5_haveDoubt_90 rfl (lv_at hl 0 rfl) ?_
            refine x_get (k := 250) (n := 0) hx hb hts i_X5 hown hK hP (mk_250 h01) rfl rfl 0 (by decide) rfl k_12 (v := .ref (ad 0 0)) rfl dX5_haveDoubt_91 ?_
            refine x_get (k := 0) (n := 0) hx hb hts i_X0 hown hK hP (mk_0 h02) rfl rfl 2 (by decide) rfl k_45 (v := .ref (ad 3 0)) rfl dX5_haveDoubt_94 ?_
            refine lv_iload hx hb dX5_haveDoubt_97 (lv_at hl 3 rfl) ?_
            obtain ⟨g7, hf⟩ := gd_e hf
            refine x_iald (k := 3) (n := 0) hx hb hK hP (mk_3 h02) rfl g7 dX5_haveDoubt_99 ?_
            refine lv_aload_n hx hb dX5_haveDoubt_100 rfl (lv_at hl 0 rfl) ?_
            refine x_get (k := 250) (n := 0) hx hb hts i_X5 hown hK hP (mk_250 h01) rfl rfl 1 (by decide) rfl k_18 (v := .ref (ad 0 1)) rfl dX5_haveDoubt_101 ?_
            refine x_get (k := 0) (n := 1) hx hb hts i_X0 hown hK hP (mk_0 h12) rfl rfl 2 (by decide) rfl k_45 (v := .ref (ad 3 1)) rfl dX5_haveDoubt_104 ?_
            refine lv_iload hx hb dX5_haveDoubt_107 (lv_at hl 4 rfl) ?_
            obtain ⟨g8, hf⟩ := gd_e hf
            refine x_iald (k := 3) (n := 1) hx hb hK hP (mk_3 h12) rfl g8 dX5_haveDoubt_109 ?_
            refine lv_iand hx hb dX5_haveDoubt_110 ?_
            obtain ⟨y9, e_y9, hf⟩ := nm_i hf
            refine x_nmI e_y9 ?_
            refine lv_istore (lv' := [(8, .int y9), (0, .ref (ad 250 0)), (4, .int v4), (5, .int v5), (6, .int v6), (7, .int v7)]) hx hb dX5_haveDoubt_111 hl (by decide) rfl (fun ls hl => ?_)
            refine lv_iload hx hb dX5_haveDoubt_113 (lv_at hl 0 rfl) ?_
            refine lv_iload hx hb dX5_haveDoubt_115 (lv_at hl 2 rfl) ?_
            refine lv_iand hx hb dX5_haveDoubt_117 ?_
            refine lv_iload hx hb dX5_haveDoubt_118 (lv_at hl 2 rfl) ?_
            refine lv_icmp_ne (tgt := 140) hx hb dX5_haveDoubt_120 rfl (fun hc => ?_) (fun hc => ?_)
            · have hf := b_n hf hc
              refine lv_iinc (v := (v7 + (1 : Int32))) (lv' := [(7, .int (v7 + (1 : Int32))), (8, .int y9), (0, .ref (ad 250 0)), (4, .int v4), (5, .int v5), (6, .int v6)]) hx hb dX5_haveDoubt_140 hl (k := 5) rfl rfl (by decide) rfl (fun ls hl => ?_)
              refine lv_goto (tgt := 78) hx hb dX5_haveDoubt_143 rfl ?_
              exact ih78 v4 v5 v6 (v7 + (1 : Int32)) σ _ _ _  hf (lv_sub hl [2, 3, 4, 5, 0] rfl) hP hS
            · have hf := b_p hf hc
              refine lv_iload hx hb dX5_haveDoubt_123 (lv_at hl 0 rfl) ?_
              refine lv_iload hx hb dX5_haveDoubt_125 (lv_at hl 3 rfl) ?_
              refine lv_iand hx hb dX5_haveDoubt_127 ?_
              refine lv_if_ne (tgt := 140) hx hb dX5_haveDoubt_128 rfl (fun hc => ?_) (fun hc => ?_)
              · have hf := b_n hf hc
                refine lv_iinc (v := (v7 + (1 : Int32))) (lv' := [(7, .int (v7 + (1 : Int32))), (8, .int y9), (0, .ref (ad 250 0)), (4, .int v4), (5, .int v5), (6, .int v6)]) hx hb dX5_haveDoubt_140 hl (k := 5) rfl rfl (by decide) rfl (fun ls hl => ?_)
                refine lv_goto (tgt := 78) hx hb dX5_haveDoubt_143 rfl ?_
                exact ih78 v4 v5 v6 (v7 + (1 : Int32)) σ _ _ _  hf (lv_sub hl [2, 3, 4, 5, 0] rfl) hP hS
              · have hf := b_p hf hc
                refine lv_aload_n hx hb dX5_haveDoubt_131 rfl (lv_at hl 1 rfl) ?_
                refine lv_iload hx hb dX5_haveDoubt_132 (lv_at hl 4 rfl) ?_
                refine lv_iload hx hb dX5_haveDoubt_134 (lv_at hl 5 rfl) ?_
                obtain ⟨r10, σ10, hc10, hf⟩ := bp_e hf
                refine x_ci (va_runV (As := [.int v6, .int v7]) (rest := []) ⟨hx, hb, hml, hown, hts⟩ (t_X5_foundAt l G ad ca A z v6 v7 hD  σ r10 σ10 hc10) (cwV 2 hts gr_X5_55 rfl rfl rfl h9_X5_foundAt ⟨Nat.le_of_ble_eq_true rfl, Nat.le_of_ble_eq_true rfl⟩) (x_prV zkC hz hK hP (mk_250 h01) rfl rfl) rfl rfl hl.1 rfl (lv_room (Nat.le_of_ble_eq_true rfl)) dX5_haveDoubt_136 ⟨Nat.le_of_ble_eq_true rfl, Nat.le_of_ble_eq_true rfl⟩) hS (fun H locs hP hS => ?_)
                obtain ⟨g11, hf⟩ := gd_e hf
                have hf := Option.some.inj hf
                exact x_zret hx hb hr hlocks hK hP hS g11 (congrArg Prod.fst hf) (congrArg Prod.snd hf) dX5_haveDoubt_139
      have c146 : ∀ (v4 : Int32) (v5 : Int32) (v6 : Int32) (σ : PS) (H : Heap) (locs : List Loc) (ls : Array Slot), X5_haveDoubt_c146 z (X5_haveDoubt_l63 z kx63 n63) kx63 v4 v5 v6 σ = some (res, σz) → lv_has ls 9 [(0, .ref (ad 250 0)), (4, .int v4), (5, .int v5), (6, .int v6)] → va_P G vwCl (wld ad ca σ (LC z)) H → va_S A s.heap H locs → W p l e (headSpec wsX5_haveDoubt ({ frames := 1, cells := 0, slots := 0, locals := 23 })).room s m (([.ref (ad 250 0), .ref (ad 50 n1), .int x2, .int x3] : List Value).toArray) below meth c H locs 0 0 (MQ below (va_Qi (fun r' u => r' = res ∧ u = σz) (ctB G ad ca (LC z)) A) (([.ref (ad 250 0), .ref (ad 50 n1), .int x2, .int x3] : List Value).toArray) s 0 0 A) (F0 m 146 ls []) := by
        intro v4 v5 v6 σ H locs ls hf hl hP hS
        unfold X5_haveDoubt_c146 at hf
        refine lv_iinc (v := (v6 + (1 : Int32))) (lv' := [(6, .int (v6 + (1 : Int32))), (0, .ref (ad 250 0)), (4, .int v4), (5, .int v5)]) hx hb dX5_haveDoubt_146 hl (k := 3) rfl rfl (by decide) rfl (fun ls hl => ?_)
        refine lv_goto (tgt := 63) hx hb dX5_haveDoubt_149 rfl ?_
        exact ih63 v4 v5 (v6 + (1 : Int32)) σ _ _ _  hf (lv_sub hl [1, 2, 3, 0] rfl) hP hS
      refine lv_iload hx hb dX5_haveDoubt_63 (lv_at hl 3 rfl) ?_
      refine lv_aload_n hx hb dX5_haveDoubt_65 rfl (lv_at hl 0 rfl) ?_
      refine x_get (k := 250) (n := 0) hx hb hts i_X5 hown hK hP (mk_250 h01) rfl rfl 0 (by decide) rfl k_12 (v := .ref (ad 0 0)) rfl dX5_haveDoubt_66 ?_
      refine x_get (k := 0) (n := 0) hx hb hts i_X0 hown hK hP (mk_0 h02) rfl rfl 3 (by decide) rfl k_42 (v := .int (gI σ 0 0 3)) rfl dX5_haveDoubt_69 ?_
      refine lv_icmp_ge (tgt := 152) hx hb dX5_haveDoubt_72 rfl (fun hc => ?_) (fun hc => ?_)
      · have hf := b_p hf hc
        exact hx63  σ _ _ _  hf (lv_sub hl [] rfl) hP hS
      · have hf := b_n hf hc
        refine lv_iconst (v := (0 : Int32)) hx hb dX5_haveDoubt_75 rfl ?_
        refine lv_istore (lv' := [(7, .int (0 : Int32)), (0, .ref (ad 250 0)), (4, .int v4), (5, .int v5), (6, .int v6)]) hx hb dX5_haveDoubt_76 hl (by decide) rfl (fun ls hl => ?_)
        exact l78 _ c146 _ v4 v5 v6 (0 : Int32) σ _ _ _  hf (lv_sub hl [1, 2, 3, 4, 0] rfl) hP hS
  have c152 : ∀ (σ : PS) (H : Heap) (locs : List Loc) (ls : Array Slot), X5_haveDoubt_c152 z  σ = some (res, σz) → lv_has ls 9 [] → va_P G vwCl (wld ad ca σ (LC z)) H → va_S A s.heap H locs → W p l e (headSpec wsX5_haveDoubt ({ frames := 1, cells := 0, slots := 0, locals := 23 })).room s m (([.ref (ad 250 0), .ref (ad 50 n1), .int x2, .int x3] : List Value).toArray) below meth c H locs 0 0 (MQ below (va_Qi (fun r' u => r' = res ∧ u = σz) (ctB G ad ca (LC z)) A) (([.ref (ad 250 0), .ref (ad 50 n1), .int x2, .int x3] : List Value).toArray) s 0 0 A) (F0 m 152 ls []) := by
    intro σ H locs ls hf hl hP hS
    unfold X5_haveDoubt_c152 at hf
    refine lv_iconst (v := (0 : Int32)) hx hb dX5_haveDoubt_152 rfl ?_
    have hf := Option.some.inj hf
    exact x_zret hx hb hr hlocks hK hP hS (by decide) (congrArg Prod.fst hf) (congrArg Prod.snd hf) dX5_haveDoubt_153
  refine lv_iconst (v := (1 : Int32)) hx hb dX5_haveDoubt_0 rfl ?_
  refine lv_iload_n hx hb dX5_haveDoubt_1 rfl (lv_at hl 2 rfl) ?_
  refine lv_ishl hx hb dX5_haveDoubt_2 ?_
  refine lv_iconst (v := (1 : Int32)) hx hb dX5_haveDoubt_3 rfl ?_
  refine lv_iload_n hx hb dX5_haveDoubt_4 rfl (lv_at hl 3 rfl) ?_
  refine lv_ishl hx hb dX5_haveDoubt_5 ?_
  refine lv_ior hx hb dX5_haveDoubt_6 ?_
  obtain ⟨y1, e_y1, hf⟩ := nm_i hf
  refine x_nmI e_y1 ?_
  refine lv_istore (lv' := [(4, .int y1), (0, .ref (ad 250 0)), (1, .ref (ad 50 n1)), (2, .int x2), (3, .int x3)]) hx hb dX5_haveDoubt_7 hl (by decide) rfl (fun ls hl => ?_)
  refine lv_aload_n hx hb dX5_haveDoubt_9 rfl (lv_at hl 2 rfl) ?_
  refine x_get (k := 50) (n := n1) hx hb hts i_X1 hown hK hP (mk_50 hn1) rfl rfl 8 (by decide) rfl k_66 (v := .int (gI σ 50 n1 8)) rfl dX5_haveDoubt_10 ?_
  refine lv_iload hx hb dX5_haveDoubt_13 (lv_at hl 0 rfl) ?_
  refine lv_iand hx hb dX5_haveDoubt_15 ?_
  refine lv_iload hx hb dX5_haveDoubt_16 (lv_at hl 0 rfl) ?_
  refine lv_icmp_ne (tgt := 45) hx hb dX5_haveDoubt_18 rfl (fun hc => ?_) (fun hc => ?_)
  · have hf := b_n hf hc
    refine lv_iconst (v := (0 : Int32)) hx hb dX5_haveDoubt_45 rfl ?_
    have hf := Option.some.inj hf
    exact x_zret hx hb hr hlocks hK hP hS (by decide) (congrArg Prod.fst hf) (congrArg Prod.snd hf) dX5_haveDoubt_46
  · have hf := b_p hf hc
    refine lv_aload_n hx hb dX5_haveDoubt_21 rfl (lv_at hl 2 rfl) ?_
    refine lv_iload_n hx hb dX5_haveDoubt_22 rfl (lv_at hl 3 rfl) ?_
    obtain ⟨r2, hc2, hf⟩ := bd_e hf
    refine x_ci (va_runV (As := [.int x2]) (rest := []) ⟨hx, hb, hml, hown, hts⟩ (t_X1_beatenBy l G ad ca A z n1 x2 hD hn1 σ r2 hc2) (cwV 1 hts gr_X5_69 rfl rfl rfl h9_X1_beatenBy ⟨Nat.le_of_ble_eq_true rfl, Nat.le_of_ble_eq_true rfl⟩) (x_prV zkC hz hK hP (mk_50 hn1) rfl rfl) rfl rfl hl.1 rfl (lv_room (Nat.le_of_ble_eq_true rfl)) dX5_haveDoubt_23 ⟨Nat.le_of_ble_eq_true rfl, Nat.le_of_ble_eq_true rfl⟩) hS (fun H locs hP hS => ?_)
    refine lv_iconst (v := (1 : Int32)) hx hb dX5_haveDoubt_26 rfl ?_
    refine lv_iload_n hx hb dX5_haveDoubt_27 rfl (lv_at hl 4 rfl) ?_
    refine lv_ishl hx hb dX5_haveDoubt_28 ?_
    refine lv_iand hx hb dX5_haveDoubt_29 ?_
    refine lv_if_ne (tgt := 45) hx hb dX5_haveDoubt_30 rfl (fun hc => ?_) (fun hc => ?_)
    · have hf := b_n hf hc
      refine lv_iconst (v := (0 : Int32)) hx hb dX5_haveDoubt_45 rfl ?_
      have hf := Option.some.inj hf
      exact x_zret hx hb hr hlocks hK hP hS (by decide) (congrArg Prod.fst hf) (congrArg Prod.snd hf) dX5_haveDoubt_46
    · have hf := b_p hf hc
      refine lv_aload_n hx hb dX5_haveDoubt_33 rfl (lv_at hl 2 rfl) ?_
      refine lv_iload_n hx hb dX5_haveDoubt_34 rfl (lv_at hl 4 rfl) ?_
      obtain ⟨r3, hc3, hf⟩ := bd_e hf
      refine x_ci (va_runV (As := [.int x3]) (rest := []) ⟨hx, hb, hml, hown, hts⟩ (t_X1_beatenBy l G ad ca A z n1 x3 hD hn1 σ r3 hc3) (cwV 1 hts gr_X5_69 rfl rfl rfl h9_X1_beatenBy ⟨Nat.le_of_ble_eq_true rfl, Nat.le_of_ble_eq_true rfl⟩) (x_prV zkC hz hK hP (mk_50 hn1) rfl rfl) rfl rfl hl.1 rfl (lv_room (Nat.le_of_ble_eq_true rfl)) dX5_haveDoubt_35 ⟨Nat.le_of_ble_eq_true rfl, Nat.le_of_ble_eq_true rfl⟩) hS (fun H locs hP hS => ?_)
      refine lv_iconst (v := (1 : Int32)) hx hb dX5_haveDoubt_38 rfl ?_
      refine lv_iload_n hx hb dX5_haveDoubt_39 rfl (lv_at hl 3 rfl) ?_
      refine lv_ishl hx hb dX5_haveDoubt_40 ?_
      refine lv_iand hx hb dX5_haveDoubt_41 ?_
      refine lv_if_eq (tgt := 47) hx hb dX5_haveDoubt_42 rfl (fun hc => ?_) (fun hc => ?_)
      · have hf := b_p hf hc
        refine lv_aload_n hx hb dX5_haveDoubt_47 rfl (lv_at hl 2 rfl) ?_
        refine lv_iload_n hx hb dX5_haveDoubt_48 rfl (lv_at hl 3 rfl) ?_
        obtain ⟨r4, hc4, hf⟩ := bd_e hf
        refine x_ci (va_runV (As := [.int x2]) (rest := []) ⟨hx, hb, hml, hown, hts⟩ (t_X1_beatersOf l G ad ca A z n1 x2 hD hn1 σ r4 hc4) (cwV 1 hts gr_X5_72 rfl rfl rfl h9_X1_beatersOf ⟨Nat.le_of_ble_eq_true rfl, Nat.le_of_ble_eq_true rfl⟩) (x_prV zkC hz hK hP (mk_50 hn1) rfl rfl) rfl rfl hl.1 rfl (lv_room (Nat.le_of_ble_eq_true rfl)) dX5_haveDoubt_49 ⟨Nat.le_of_ble_eq_true rfl, Nat.le_of_ble_eq_true rfl⟩) hS (fun H locs hP hS => ?_)
        refine lv_aload_n hx hb dX5_haveDoubt_52 rfl (lv_at hl 2 rfl) ?_
        refine lv_iload_n hx hb dX5_haveDoubt_53 rfl (lv_at hl 4 rfl) ?_
        obtain ⟨r5, hc5, hf⟩ := bd_e hf
        refine x_ci (va_runV (As := [.int x3]) (rest := [.int r4]) ⟨hx, hb, hml, hown, hts⟩ (t_X1_beatersOf l G ad ca A z n1 x3 hD hn1 σ r5 hc5) (cwV 1 hts gr_X5_72 rfl rfl rfl h9_X1_beatersOf ⟨Nat.le_of_ble_eq_true rfl, Nat.le_of_ble_eq_true rfl⟩) (x_prV zkC hz hK hP (mk_50 hn1) rfl rfl) rfl rfl hl.1 rfl (lv_room (Nat.le_of_ble_eq_true rfl)) dX5_haveDoubt_54 ⟨Nat.le_of_ble_eq_true rfl, Nat.le_of_ble_eq_true rfl⟩) hS (fun H locs hP hS => ?_)
        refine lv_iand hx hb dX5_haveDoubt_57 ?_
        obtain ⟨y6, e_y6, hf⟩ := nm_i hf
        refine x_nmI e_y6 ?_
        refine lv_istore (lv' := [(5, .int y6), (4, .int y1), (0, .ref (ad 250 0)), (1, .ref (ad 50 n1)), (2, .int x2), (3, .int x3)]) hx hb dX5_haveDoubt_58 hl (by decide) rfl (fun ls hl => ?_)
        refine lv_iconst (v := (0 : Int32)) hx hb dX5_haveDoubt_60 rfl ?_
        refine lv_istore (lv' := [(6, .int (0 : Int32)), (5, .int y6), (4, .int y1), (0, .ref (ad 250 0)), (1, .ref (ad 50 n1)), (2, .int x2), (3, .int x3)]) hx hb dX5_haveDoubt_61 hl (by decide) rfl (fun ls hl => ?_)
        exact l63 _ c152 _ y1 y6 (0 : Int32) σ _ _ _  hf (lv_sub hl [3, 2, 1, 0] rfl) hP hS
      · have hf := b_n hf hc
        refine lv_iconst (v := (0 : Int32)) hx hb dX5_haveDoubt_45 rfl ?_
        have hf := Option.some.inj hf
        exact x_zret hx hb hr hlocks hK hP hS (by decide) (congrArg Prod.fst hf) (congrArg Prod.snd hf) dX5_haveDoubt_46
theorem h9_X5_findDoubt : yX5_findDoubt.cls = RX5 ∧ yX5_findDoubt.cls ≠ "java/lang/invoke/MethodHandle" ∧ yX5_findDoubt.cls ≠ "java/lang/invoke/VarHandle" ∧ (parseMethodDescriptor yX5_findDoubt.desc).map (fun d => d.parameters.length) = some 2 := by decide +kernel
set_option maxRecDepth 100000 in
set_option maxHeartbeats 4000000 in
theorem t_X5_findDoubt (l : Launch) (G : va_G) (ad : Nat → Nat → Nat) (ca : Nat → ClassId) (A : Nat → Prop) (z : Nat × Nat)  (n1 : Nat) (x2 : Int32) (hD : DW ad (LC z) A) (hn1 : n1 < z.1) (σ : PS) (res : Int32) (σz : PS) (hf : X5_findDoubt z  n1 x2 σ = some (res, σz)) : Met l yX5_findDoubt wsX5_findDoubt ({ frames := 5, cells := 0, slots := 0, locals := 114 }) (ctP G ad ca (LC z) σ ZC [.ref (ad 250 0), .ref (ad 50 n1), .int x2]) (va_Qi (fun r' u => r' = res ∧ u = σz) (ctB G ad ca (LC z)) A) 0 0 A := by
  refine Met.ofW (cc := cX5_findDoubt) (maxL := 6) (ret := (some .boolean)) (by decide) rfl ?_
  intro p e s m args below meth c s₁ B hml hv
  obtain ⟨rfl, hP, hK, hz⟩ := hv
  have hx := B.exec
  have hb := B.bytes
  have hr := B.returns
  have hts : ∀ w ∈ WW, w.before _ s = true := fun w h => atoms_spec (ws := wsX5_findDoubt) B.pre w (List.mem_cons_of_mem _ h)
  have hown : s.vm.findClass RX5 = some m.cls := findClass_of_methodNamed B.named
  have hlocks := B.notSynchronized
  have hS : va_S A s.heap s.heap [] := va_S.rf
  have k_28 := hts _ kf_X5_28
  have k_31 := hts _ kf_X5_31
  have k_59 := hts _ kf_X5_59
  have hl := lv_entry ([.ref (ad 250 0), .ref (ad 50 n1), .int x2]) (n := 6) (Nat.le_of_ble_eq_true rfl)
  rw [lg_entry_eq]
  generalize (lg_sl ([.ref (ad 250 0), .ref (ad 50 n1), .int x2]) ++ List.replicate (6 - (lg_sl ([.ref (ad 250 0), .ref (ad 50 n1), .int x2])).length) Slot.unset).toArray = ls at hl ⊢
  have hl : lv_has ls 6 [(0, .ref (ad 250 0)), (1, .ref (ad 50 n1)), (2, .int x2)] := hl
  unfold X5_findDoubt at hf
  have l10 : ∀ (kx10 : PS → Option (Int32 × PS)), (∀ (σ : PS) (H : Heap) (locs : List Loc) (ls : Array Slot), kx10 σ = some (res, σz) → lv_has ls 6 [] → va_P G vwCl (wld ad ca σ (LC z)) H → va_S A s.heap H locs → W p l e (headSpec wsX5_findDoubt ({ frames := 5, cells := 0, slots := 0, locals := 114 })).room s m (([.ref (ad 250 0), .ref (ad 50 n1), .int x2] : List Value).toArray) below meth c H locs 0 0 (MQ below (va_Qi (fun r' u => r' = res ∧ u = σz) (ctB G ad ca (LC z)) A) (([.ref (ad 250 0), .ref (ad 50 n1), .int x2] : List Value).toArray) s 0 0 A) (F0 m 80 ls [])) → ∀ (n10 : Nat) (v1 : Nat) (v2 : Int32) (v3 : Int32) (v4 : Int32) (σ : PS) (H : Heap) (locs : List Loc) (ls : Array Slot), v1 < z.1 → X5_findDoubt_l10 z kx10 n10 v1 v2 v3 v4 σ = some (res, σz) → lv_has ls 6 [(0, .ref (ad 250 0)), (1, .ref (ad 50 v1)), (2, .int v2), (3, .int v3), (4, .int v4)] → va_P G vwCl (wld ad ca σ (LC z)) H → va_S A s.heap H locs → W p l e (headSpec wsX5_findDoubt ({ frames := 5, cells := 0, slots := 0, locals := 114 })).room s m (([.ref (ad 250 0), .ref (ad 50 n1), .int x2] : List Value).toArray) below meth c H locs 0 0 (MQ below (va_Qi (fun r' u => r' = res ∧ u = σz) (ctB G ad ca (LC z)) A) (([.ref (ad 250 0), .ref (ad 50 n1), .int x2] : List Value).toArray) s 0 0 A) (F0 m 10 ls []) := by
    intro kx10 hx10 n10
    induction n10 with
    | zero =>
      intro v1 v2 v3 v4 σ H locs ls h_v1 hf
      exact absurd hf (by simp [X5_findDoubt_l10])
    | succ n10 ih10 =>
      intro v1 v2 v3 v4 σ H locs ls h_v1 hf hl hP hS
      rw [X5_findDoubt_l10.eq_2] at hf
      have l25 : ∀ (kx25 : Nat → Int32 → Int32 → Int32 → PS → Option (Int32 × PS)), (∀ (v1 : Nat) (v2 : Int32) (v3 : Int32) (v4 : Int32) (σ : PS) (H : Heap) (locs : List Loc) (ls : Array Slot), v1 < z.1 → kx25 v1 v2 v3 v4 σ = some (res, σz) → lv_has ls 6 [(0, .ref (ad 250 0)), (1, .ref (ad 50 v1)), (2, .int v2), (3, .int v3), (4, .int v4)] → va_P G vwCl (wld ad ca σ (LC z)) H → va_S A s.heap H locs → W p l e (headSpec wsX5_findDoubt ({ frames := 5, cells := 0, slots := 0, locals := 114 })).room s m (([.ref (ad 250 0), .ref (ad 50 n1), .int x2] : List Value).toArray) below meth c H locs 0 0 (MQ below (va_Qi (fun r' u => r' = res ∧ u = σz) (ctB G ad ca (LC z)) A) (([.ref (ad 250 0), .ref (ad 50 n1), .int x2] : List Value).toArray) s 0 0 A) (F0 m 74 ls [])) → ∀ (n25 : Nat) (v1 : Nat) (v2 : Int32) (v3 : Int32) (v4 : Int32) (v5 : Int32) (σ : PS) (H : Heap) (locs : List Loc) (ls : Array Slot), v1 < z.1 → X5_findDoubt_l25 z kx25 n25 v1 v2 v3 v4 v5 σ = some (res, σz) → lv_has ls 6 [(0, .ref (ad 250 0)), (1, .ref (ad 50 v1)), (2, .int v2), (3, .int v3), (4, .int v4), (5, .int v5)] → va_P G vwCl (wld ad ca σ (LC z)) H → va_S A s.heap H locs → W p l e (headSpec wsX5_findDoubt ({ frames := 5, cells := 0, slots := 0, locals := 114 })).room s m (([.ref (ad 250 0), .ref (ad 50 n1), .int x2] : List Value).toArray) below meth c H locs 0 0 (MQ below (va_Qi (fun r' u => r' = res ∧ u = σz) (ctB G ad ca (LC z)) A) (([.ref (ad 250 0), .ref (ad 50 n1), .int x2] : List Value).toArray) s 0 0 A) (F0 m 25 ls []) := by
        intro kx25 hx25 n25
        induction n25 with
        | zero =>
          intro v1 v2 v3 v4 v5 σ H locs ls h_v1 hf
          exact absurd hf (by simp [X5_findDoubt_l25])
        | succ n25 ih25 =>
          intro v1 v2 v3 v4 v5 σ H locs ls h_v1 hf hl hP hS
          rw [X5_findDoubt_l25.eq_2] at hf
          refine lv_iload hx hb dX5_findDoubt_25 (lv_at hl 5 rfl) ?_
          refine lv_aload_n hx hb dX5_findDoubt_27 rfl (lv_at hl 1 rfl) ?_
          refine x_get (k := 50) (n := v1) hx hb hts i_X1 hown hK hP (mk_50 h_v1) rfl rfl 7 (by decide) rfl k_59 (v := .int (gI σ 50 v1 7)) rfl dX5_findDoubt_28 ?_
          refine lv_icmp_ge (tgt := 74) hx hb dX5_findDoubt_31 rfl (fun hc => ?_) (fun hc => ?_)
          · have hf := b_p hf hc
            exact hx25 v1 v2 v3 v4 σ _ _ _ h_v1 hf (lv_sub hl [0, 1, 2, 3, 4] rfl) hP hS
          · have hf := b_n hf hc
            refine lv_aload_n hx hb dX5_findDoubt_34 rfl (lv_at hl 0 rfl) ?_
            refine lv_aload_n hx hb dX5_findDoubt_35 rfl (lv_at hl 1 rfl) ?_
            refine lv_iload hx hb dX5_findDoubt_36 (lv_at hl 4 rfl) ?_
            refine lv_iload hx hb dX5_findDoubt_38 (lv_at hl 5 rfl) ?_
            obtain ⟨r3, σ3, hc3, hf⟩ := bp_e hf
            refine x_ci (va_runV (As := [.ref (ad 50 v1), .int v4, .int v5]) (rest := []) ⟨hx, hb, hml, hown, hts⟩ (t_X5_haveDoubt l G ad ca A z v1 v4 v5 hD h_v1 σ r3 σ3 hc3) (cwV 3 hts gr_X5_62 rfl rfl rfl h9_X5_haveDoubt ⟨Nat.le_of_ble_eq_true rfl, Nat.le_of_ble_eq_true rfl⟩) (x_prV zkC hz hK hP (mk_250 h01) rfl rfl) rfl rfl hl.1 rfl (lv_room (Nat.le_of_ble_eq_true rfl)) dX5_findDoubt_40 ⟨Nat.le_of_ble_eq_true rfl, Nat.le_of_ble_eq_true rfl⟩) hS (fun H locs hP hS => ?_)
            refine lv_if_eq (tgt := 68) hx hb dX5_findDoubt_43 rfl (fun hc => ?_) (fun hc => ?_)
            · have hf := b_p hf hc
              refine lv_iinc (v := (v5 + (1 : Int32))) (lv' := [(5, .int (v5 + (1 : Int32))), (0, .ref (ad 250 0)), (1, .ref (ad 50 v1)), (2, .int v2), (3, .int v3), (4, .int v4)]) hx hb dX5_findDoubt_68 hl (k := 5) rfl rfl (by decide) rfl (fun ls hl => ?_)
              refine lv_goto (tgt := 25) hx hb dX5_findDoubt_71 rfl ?_
              exact ih25 v1 v2 v3 v4 (v5 + (1 : Int32)) σ3 _ _ _ h_v1 hf (lv_sub hl [1, 2, 3, 4, 5, 0] rfl) hP hS
            · have hf := b_n hf hc
              refine lv_iload_n hx hb dX5_findDoubt_46 rfl (lv_at hl 3 rfl) ?_
              refine lv_iload_n hx hb dX5_findDoubt_47 rfl (lv_at hl 2 rfl) ?_
              refine lv_icmp_ne (tgt := 65) hx hb dX5_findDoubt_48 rfl (fun hc => ?_) (fun hc => ?_)
              · have hf := b_n hf hc
                refine lv_iinc (v := (v3 + (1 : Int32))) (lv' := [(3, .int (v3 + (1 : Int32))), (0, .ref (ad 250 0)), (1, .ref (ad 50 v1)), (2, .int v2), (4, .int v4), (5, .int v5)]) hx hb dX5_findDoubt_65 hl (k := 3) rfl rfl (by decide) rfl (fun ls hl => ?_)
                refine lv_iinc (v := (v5 + (1 : Int32))) (lv' := [(5, .int (v5 + (1 : Int32))), (3, .int (v3 + (1 : Int32))), (0, .ref (ad 250 0)), (1, .ref (ad 50 v1)), (2, .int v2), (4, .int v4)]) hx hb dX5_findDoubt_68 hl (k := 5) rfl rfl (by decide) rfl (fun ls hl => ?_)
                refine lv_goto (tgt := 25) hx hb dX5_findDoubt_71 rfl ?_
                exact ih25 v1 v2 (v3 + (1 : Int32)) v4 (v5 + (1 : Int32)) σ3 _ _ _ h_v1 hf (lv_sub hl [2, 3, 4, 1, 5, 0] rfl) hP hS
              · have hf := b_p hf hc
                refine lv_aload_n hx hb dX5_findDoubt_51 rfl (lv_at hl 0 rfl) ?_
                refine lv_iload hx hb dX5_findDoubt_52 (lv_at hl 4 rfl) ?_
                refine x_putI (k := 250) (n := 0) hx hb hts i_X5 tyX5 tyX5_ok nmX5 hown hK hD hP hS (mk_250 h01) rfl rfl 4 (by decide) rfl k_28 rfl rfl rfl rfl dX5_findDoubt_54 (fun H locs hP hS => ?_)
                obtain ⟨σ4, e_σ4, hf⟩ := nm_i hf
                have hP : va_P G vwCl (wld ad ca σ4 (LC z)) H := by rw [e_σ4]; exact hP
                refine lv_aload_n hx hb dX5_findDoubt_57 rfl (lv_at hl 0 rfl) ?_
                refine lv_iload hx hb dX5_findDoubt_58 (lv_at hl 5 rfl) ?_
                refine x_putI (k := 250) (n := 0) hx hb hts i_X5 tyX5 tyX5_ok nmX5 hown hK hD hP hS (mk_250 h01) rfl rfl 5 (by decide) rfl k_31 rfl rfl rfl rfl dX5_findDoubt_60 (fun H locs hP hS => ?_)
                obtain ⟨σ5, e_σ5, hf⟩ := nm_i hf
                have hP : va_P G vwCl (wld ad ca σ5 (LC z)) H := by rw [e_σ5]; exact hP
                refine lv_iconst (v := (1 : Int32)) hx hb dX5_findDoubt_63 rfl ?_
                have hf := Option.some.inj hf
                exact x_zret hx hb hr hlocks hK hP hS (by decide) (congrArg Prod.fst hf) (congrArg Prod.snd hf) dX5_findDoubt_64
      have c74 : ∀ (v1 : Nat) (v2 : Int32) (v3 : Int32) (v4 : Int32) (σ : PS) (H : Heap) (locs : List Loc) (ls : Array Slot), v1 < z.1 → X5_findDoubt_c74 z (X5_findDoubt_l10 z kx10 n10) kx10 v1 v2 v3 v4 σ = some (res, σz) → lv_has ls 6 [(0, .ref (ad 250 0)), (1, .ref (ad 50 v1)), (2, .int v2), (3, .int v3), (4, .int v4)] → va_P G vwCl (wld ad ca σ (LC z)) H → va_S A s.heap H locs → W p l e (headSpec wsX5_findDoubt ({ frames := 5, cells := 0, slots := 0, locals := 114 })).room s m (([.ref (ad 250 0), .ref (ad 50 n1), .int x2] : List Value).toArray) below meth c H locs 0 0 (MQ below (va_Qi (fun r' u => r' = res ∧ u = σz) (ctB G ad ca (LC z)) A) (([.ref (ad 250 0), .ref (ad 50 n1), .int x2] : List Value).toArray) s 0 0 A) (F0 m 74 ls []) := by
        intro v1 v2 v3 v4 σ H locs ls h_v1 hf hl hP hS
        unfold X5_findDoubt_c74 at hf
        refine lv_iinc (v := (v4 + (1 : Int32))) (lv' := [(4, .int (v4 + (1 : Int32))), (0, .ref (ad 250 0)), (1, .ref (ad 50 v1)), (2, .int v2), (3, .int v3)]) hx hb dX5_findDoubt_74 hl (k := 4) rfl rfl (by decide) rfl (fun ls hl => ?_)
        refine lv_goto (tgt := 10) hx hb dX5_findDoubt_77 rfl ?_
        exact ih10 v1 v2 v3 (v4 + (1 : Int32)) σ _ _ _ h_v1 hf (lv_sub hl [1, 2, 3, 4, 0] rfl) hP hS
      refine lv_iload hx hb dX5_findDoubt_10 (lv_at hl 4 rfl) ?_
      refine lv_aload_n hx hb dX5_findDoubt_12 rfl (lv_at hl 1 rfl) ?_
      refine x_get (k := 50) (n := v1) hx hb hts i_X1 hown hK hP (mk_50 h_v1) rfl rfl 7 (by decide) rfl k_59 (v := .int (gI σ 50 v1 7)) rfl dX5_findDoubt_13 ?_
      refine lv_icmp_ge (tgt := 80) hx hb dX5_findDoubt_16 rfl (fun hc => ?_) (fun hc => ?_)
      · have hf := b_p hf hc
        exact hx10  σ _ _ _  hf (lv_sub hl [] rfl) hP hS
      · have hf := b_n hf hc
        refine lv_iload hx hb dX5_findDoubt_19 (lv_at hl 4 rfl) ?_
        refine lv_iconst (v := (1 : Int32)) hx hb dX5_findDoubt_21 rfl ?_
        refine lv_iadd hx hb dX5_findDoubt_22 ?_
        obtain ⟨y2, e_y2, hf⟩ := nm_i hf
        refine x_nmI e_y2 ?_
        refine lv_istore (lv' := [(5, .int y2), (0, .ref (ad 250 0)), (1, .ref (ad 50 v1)), (2, .int v2), (3, .int v3), (4, .int v4)]) hx hb dX5_findDoubt_23 hl (by decide) rfl (fun ls hl => ?_)
        exact l25 _ c74 _ v1 v2 v3 v4 y2 σ _ _ _ h_v1 hf (lv_sub hl [1, 2, 3, 4, 5, 0] rfl) hP hS
  have c80 : ∀ (σ : PS) (H : Heap) (locs : List Loc) (ls : Array Slot), X5_findDoubt_c80 z  σ = some (res, σz) → lv_has ls 6 [] → va_P G vwCl (wld ad ca σ (LC z)) H → va_S A s.heap H locs → W p l e (headSpec wsX5_findDoubt ({ frames := 5, cells := 0, slots := 0, locals := 114 })).room s m (([.ref (ad 250 0), .ref (ad 50 n1), .int x2] : List Value).toArray) below meth c H locs 0 0 (MQ below (va_Qi (fun r' u => r' = res ∧ u = σz) (ctB G ad ca (LC z)) A) (([.ref (ad 250 0), .ref (ad 50 n1), .int x2] : List Value).toArray) s 0 0 A) (F0 m 80 ls []) := by
    intro σ H locs ls hf hl hP hS
    unfold X5_findDoubt_c80 at hf
    refine lv_iconst (v := (0 : Int32)) hx hb dX5_findDoubt_80 rfl ?_
    have hf := Option.some.inj hf
    exact x_zret hx hb hr hlocks hK hP hS (by decide) (congrArg Prod.fst hf) (congrArg Prod.snd hf) dX5_findDoubt_81
  refine lv_aload_n hx hb dX5_findDoubt_0 rfl (lv_at hl 0 rfl) ?_
  refine lv_aload_n hx hb dX5_findDoubt_1 rfl (lv_at hl 1 rfl) ?_
  obtain ⟨σ1, hc1, hf⟩ := bd_e hf
  refine x_cv (va_runV (As := [.ref (ad 50 n1)]) (rest := []) ⟨hx, hb, hml, hown, hts⟩ (t_X5_fillCells l G ad ca A z n1 hD hn1 σ σ1 hc1) (cwV 1 hts gr_X5_38 rfl rfl rfl h9_X5_fillCells ⟨Nat.le_of_ble_eq_true rfl, Nat.le_of_ble_eq_true rfl⟩) (x_prV zkC hz hK hP (mk_250 h01) rfl rfl) rfl rfl hl.1 rfl (lv_room (Nat.le_of_ble_eq_true rfl)) dX5_findDoubt_2 ⟨Nat.le_of_ble_eq_true rfl, Nat.le_of_ble_eq_true rfl⟩) hS (fun H locs hP hS => ?_)
  refine lv_iconst (v := (0 : Int32)) hx hb dX5_findDoubt_5 rfl ?_
  refine lv_istore_n (lv' := [(3, .int (0 : Int32)), (0, .ref (ad 250 0)), (1, .ref (ad 50 n1)), (2, .int x2)]) hx hb dX5_findDoubt_6 rfl hl (by decide) rfl (fun ls hl => ?_)
  refine lv_iconst (v := (0 : Int32)) hx hb dX5_findDoubt_7 rfl ?_
  refine lv_istore (lv' := [(4, .int (0 : Int32)), (3, .int (0 : Int32)), (0, .ref (ad 250 0)), (1, .ref (ad 50 n1)), (2, .int x2)]) hx hb dX5_findDoubt_8 hl (by decide) rfl (fun ls hl => ?_)
  exact l10 _ c80 _ n1 x2 (0 : Int32) (0 : Int32) σ1 _ _ _ hn1 hf (lv_sub hl [2, 3, 4, 1, 0] rfl) hP hS
theorem h9_X5_partOfTuple : yX5_partOfTuple.cls = RX5 ∧ yX5_partOfTuple.cls ≠ "java/lang/invoke/MethodHandle" ∧ yX5_partOfTuple.cls ≠ "java/lang/invoke/VarHandle" ∧ (parseMethodDescriptor yX5_partOfTuple.desc).map (fun d => d.parameters.length) = some 1 := by decide +kernel
set_option maxRecDepth 100000 in
set_option maxHeartbeats 4000000 in
theorem t_X5_partOfTuple (l : Launch) (G : va_G) (ad : Nat → Nat → Nat) (ca : Nat → ClassId) (A : Nat → Prop) (z : Nat × Nat)  (x1 : Int32) (hD : DW ad (LC z) A)  (σ : PS) (res : Int32) (hf : X5_partOfTuple z  x1 σ = some res) : Met l yX5_partOfTuple wsX5_partOfTuple ({ frames := 0, cells := 0, slots := 0, locals := 0 }) (ctP G ad ca (LC z) σ ZC [.ref (ad 250 0), .int x1]) (va_Qi (fun r' u => r' = res ∧ u = σ) (ctB G ad ca (LC z)) A) 0 0 A := by
  refine Met.ofW (cc := cX5_partOfTuple) (maxL := 2) (ret := (some .int)) (by decide) rfl ?_
  intro p e s m args below meth c s₁ B hml hv
  obtain ⟨rfl, hP, hK, hz⟩ := hv
  have hx := B.exec
  have hb := B.bytes
  have hr := B.returns
  have hts : ∀ w ∈ WW, w.before _ s = true := fun w h => atoms_spec (ws := wsX5_partOfTuple) B.pre w (List.mem_cons_of_mem _ h)
  have hown : s.vm.findClass RX5 = some m.cls := findClass_of_methodNamed B.named
  have hlocks := B.notSynchronized
  have hS : va_S A s.heap s.heap [] := va_S.rf
  have k_12 := hts _ kf_X5_12
  have k_18 := hts _ kf_X5_18
  have k_21 := hts _ kf_X5_21
  have k_25 := hts _ kf_X5_25
  have k_75 := hts _ kf_X5_75
  have k_78 := hts _ kf_X5_78
  have hl := lv_entry ([.ref (ad 250 0), .int x1]) (n := 2) (Nat.le_of_ble_eq_true rfl)
  rw [lg_entry_eq]
  generalize (lg_sl ([.ref (ad 250 0), .int x1]) ++ List.replicate (2 - (lg_sl ([.ref (ad 250 0), .int x1])).length) Slot.unset).toArray = ls at hl ⊢
  have hl : lv_has ls 2 [(0, .ref (ad 250 0)), (1, .int x1)] := hl
  unfold X5_partOfTuple at hf
  refine lv_iload_n hx hb dX5_partOfTuple_0 rfl (lv_at hl 1 rfl) ?_
  by_cases hc0 : x1 = (0 : Int32)
  · have hf := b_p hf hc0
    refine lv_tableIn (off := 27) (tgt := 28) hx hb dX5_partOfTuple_1 (by rw [hc0]; decide) (by rw [hc0]; decide) (by rw [hc0]; rfl) rfl ?_
    refine lv_aload_n hx hb dX5_partOfTuple_28 rfl (lv_at hl 0 rfl) ?_
    refine x_get (k := 250) (n := 0) hx hb hts i_X5 hown hK hP (mk_250 h01) rfl rfl 0 (by decide) rfl k_12 (v := .ref (ad 0 0)) rfl dX5_partOfTuple_29 ?_
    refine x_get (k := 0) (n := 0) hx hb hts i_X0 hown hK hP (mk_0 h02) rfl rfl 0 (by decide) rfl k_75 (v := .ref (ad 1 0)) rfl dX5_partOfTuple_32 ?_
    refine lv_aload_n hx hb dX5_partOfTuple_35 rfl (lv_at hl 0 rfl) ?_
    refine x_get (k := 250) (n := 0) hx hb hts i_X5 hown hK hP (mk_250 h01) rfl rfl 2 (by decide) rfl k_21 (v := .int (gI σ 250 0 2)) rfl dX5_partOfTuple_36 ?_
    obtain ⟨g1, hf⟩ := gd_e hf
    refine x_iald (k := 1) (n := 0) hx hb hK hP (mk_1 h02) rfl g1 dX5_partOfTuple_39 ?_
    exact x_iret hx hb hr hlocks hK hP hS (Option.some.inj hf) rfl dX5_partOfTuple_40
  have hf := b_n hf hc0
  by_cases hc1 : x1 = (1 : Int32)
  · have hf := b_p hf hc1
    refine lv_tableIn (off := 40) (tgt := 41) hx hb dX5_partOfTuple_1 (by rw [hc1]; decide) (by rw [hc1]; decide) (by rw [hc1]; rfl) rfl ?_
    refine lv_aload_n hx hb dX5_partOfTuple_41 rfl (lv_at hl 0 rfl) ?_
    refine x_get (k := 250) (n := 0) hx hb hts i_X5 hown hK hP (mk_250 h01) rfl rfl 1 (by decide) rfl k_18 (v := .ref (ad 0 1)) rfl dX5_partOfTuple_42 ?_
    refine x_get (k := 0) (n := 1) hx hb hts i_X0 hown hK hP (mk_0 h12) rfl rfl 0 (by decide) rfl k_75 (v := .ref (ad 1 1)) rfl dX5_partOfTuple_45 ?_
    refine lv_aload_n hx hb dX5_partOfTuple_48 rfl (lv_at hl 0 rfl) ?_
    refine x_get (k := 250) (n := 0) hx hb hts i_X5 hown hK hP (mk_250 h01) rfl rfl 3 (by decide) rfl k_25 (v := .int (gI σ 250 0 3)) rfl dX5_partOfTuple_49 ?_
    obtain ⟨g2, hf⟩ := gd_e hf
    refine x_iald (k := 1) (n := 1) hx hb hK hP (mk_1 h12) rfl g2 dX5_partOfTuple_52 ?_
    exact x_iret hx hb hr hlocks hK hP hS (Option.some.inj hf) rfl dX5_partOfTuple_53
  have hf := b_n hf hc1
  by_cases hc2 : x1 = (2 : Int32)
  · have hf := b_p hf hc2
    refine lv_tableIn (off := 53) (tgt := 54) hx hb dX5_partOfTuple_1 (by rw [hc2]; decide) (by rw [hc2]; decide) (by rw [hc2]; rfl) rfl ?_
    refine lv_aload_n hx hb dX5_partOfTuple_54 rfl (lv_at hl 0 rfl) ?_
    refine x_get (k := 250) (n := 0) hx hb hts i_X5 hown hK hP (mk_250 h01) rfl rfl 0 (by decide) rfl k_12 (v := .ref (ad 0 0)) rfl dX5_partOfTuple_55 ?_
    refine x_get (k := 0) (n := 0) hx hb hts i_X0 hown hK hP (mk_0 h02) rfl rfl 1 (by decide) rfl k_78 (v := .ref (ad 2 0)) rfl dX5_partOfTuple_58 ?_
    refine lv_aload_n hx hb dX5_partOfTuple_61 rfl (lv_at hl 0 rfl) ?_
    refine x_get (k := 250) (n := 0) hx hb hts i_X5 hown hK hP (mk_250 h01) rfl rfl 2 (by decide) rfl k_21 (v := .int (gI σ 250 0 2)) rfl dX5_partOfTuple_62 ?_
    obtain ⟨g3, hf⟩ := gd_e hf
    refine x_iald (k := 2) (n := 0) hx hb hK hP (mk_2 h02) rfl g3 dX5_partOfTuple_65 ?_
    exact x_iret hx hb hr hlocks hK hP hS (Option.some.inj hf) rfl dX5_partOfTuple_66
  have hf := b_n hf hc2
  refine lv_tableOut (tgt := 67) hx hb dX5_partOfTuple_1 (x_out (N := 2) (fun j hj => by rcases (show j = 0 ∨ j = 1 ∨ j = 2 by omega) with rfl | rfl | rfl <;> assumption)) rfl ?_
  refine lv_aload_n hx hb dX5_partOfTuple_67 rfl (lv_at hl 0 rfl) ?_
  refine x_get (k := 250) (n := 0) hx hb hts i_X5 hown hK hP (mk_250 h01) rfl rfl 1 (by decide) rfl k_18 (v := .ref (ad 0 1)) rfl dX5_partOfTuple_68 ?_
  refine x_get (k := 0) (n := 1) hx hb hts i_X0 hown hK hP (mk_0 h12) rfl rfl 1 (by decide) rfl k_78 (v := .ref (ad 2 1)) rfl dX5_partOfTuple_71 ?_
  refine lv_aload_n hx hb dX5_partOfTuple_74 rfl (lv_at hl 0 rfl) ?_
  refine x_get (k := 250) (n := 0) hx hb hts i_X5 hown hK hP (mk_250 h01) rfl rfl 3 (by decide) rfl k_25 (v := .int (gI σ 250 0 3)) rfl dX5_partOfTuple_75 ?_
  obtain ⟨g4, hf⟩ := gd_e hf
  refine x_iald (k := 2) (n := 1) hx hb hK hP (mk_2 h12) rfl g4 dX5_partOfTuple_78 ?_
  exact x_iret hx hb hr hlocks hK hP hS (Option.some.inj hf) rfl dX5_partOfTuple_79
theorem h9_X6_weightTogether : yX6_weightTogether.cls = RX6 ∧ yX6_weightTogether.cls ≠ "java/lang/invoke/MethodHandle" ∧ yX6_weightTogether.cls ≠ "java/lang/invoke/VarHandle" ∧ (parseMethodDescriptor yX6_weightTogether.desc).map (fun d => d.parameters.length) = some 0 := by decide +kernel
set_option maxRecDepth 100000 in
set_option maxHeartbeats 4000000 in
theorem t_X6_weightTogether (l : Launch) (G : va_G) (ad : Nat → Nat → Nat) (ca : Nat → ClassId) (A : Nat → Prop) (z : Nat × Nat)  (hD : DW ad (LC z) A)  (σ : PS) (res : Int64) (hf : X6_weightTogether z   σ = some res) : Met l yX6_weightTogether wsX6_weightTogether ({ frames := 0, cells := 0, slots := 0, locals := 0 }) (ctP G ad ca (LC z) σ ZC [.ref (ad 300 0)]) (va_Ql (fun r' u => r' = res ∧ u = σ) (ctB G ad ca (LC z)) A) 0 0 A := by
  refine Met.ofW (cc := cX6_weightTogether) (maxL := 4) (ret := (some .long)) (by decide) rfl ?_
  intro p e s m args below meth c s₁ B hml hv
  obtain ⟨rfl, hP, hK, hz⟩ := hv
  have hx := B.exec
  have hb := B.bytes
  have hr := B.returns
  have hts : ∀ w ∈ WW, w.before _ s = true := fun w h => atoms_spec (ws := wsX6_weightTogether) B.pre w (List.mem_cons_of_mem _ h)
  have hown : s.vm.findClass RX6 = some m.cls := findClass_of_methodNamed B.named
  have hlocks := B.notSynchronized
  have hS : va_S A s.heap s.heap [] := va_S.rf
  have k_15 := hts _ kf_X6_15
  have k_18 := hts _ kf_X6_18
  have hl := lv_entry ([.ref (ad 300 0)]) (n := 4) (Nat.le_of_ble_eq_true rfl)
  rw [lg_entry_eq]
  generalize (lg_sl ([.ref (ad 300 0)]) ++ List.replicate (4 - (lg_sl ([.ref (ad 300 0)])).length) Slot.unset).toArray = ls at hl ⊢
  have hl : lv_has ls 4 [(0, .ref (ad 300 0))] := hl
  unfold X6_weightTogether at hf
  have l4 : ∀ (kx4 : Int64 → Option (Int64)), (∀ (v1 : Int64) (H : Heap) (locs : List Loc) (ls : Array Slot), kx4 v1 = some res → lv_has ls 4 [(1, .long v1)] → va_P G vwCl (wld ad ca σ (LC z)) H → va_S A s.heap H locs → W p l e (headSpec wsX6_weightTogether ({ frames := 0, cells := 0, slots := 0, locals := 0 })).room s m (([.ref (ad 300 0)] : List Value).toArray) below meth c H locs 0 0 (MQ below (va_Ql (fun r' u => r' = res ∧ u = σ) (ctB G ad ca (LC z)) A) (([.ref (ad 300 0)] : List Value).toArray) s 0 0 A) (F0 m 28 ls [])) → ∀ (n4 : Nat) (v1 : Int64) (v3 : Int32) (H : Heap) (locs : List Loc) (ls : Array Slot), X6_weightTogether_l4 z  σ kx4 n4 v1 v3 = some res → lv_has ls 4 [(0, .ref (ad 300 0)), (1, .long v1), (3, .int v3)] → va_P G vwCl (wld ad ca σ (LC z)) H → va_S A s.heap H locs → W p l e (headSpec wsX6_weightTogether ({ frames := 0, cells := 0, slots := 0, locals := 0 })).room s m (([.ref (ad 300 0)] : List Value).toArray) below meth c H locs 0 0 (MQ below (va_Ql (fun r' u => r' = res ∧ u = σ) (ctB G ad ca (LC z)) A) (([.ref (ad 300 0)] : List Value).toArray) s 0 0 A) (F0 m 4 ls []) := by
    intro kx4 hx4 n4
    induction n4 with
    | zero =>
      intro v1 v3 H locs ls hf
      exact absurd hf (by simp [X6_weightTogether_l4])
    | succ n4 ih4 =>
      intro v1 v3 H locs ls hf hl hP hS
      rw [X6_weightTogether_l4.eq_2] at hf
      refine lv_iload_n hx hb dX6_weightTogether_4 rfl (lv_at hl 2 rfl) ?_
      refine lv_aload_n hx hb dX6_weightTogether_5 rfl (lv_at hl 0 rfl) ?_
      refine x_get (k := 300) (n := 0) hx hb hts i_X6 hown hK hP (mk_300 h01) rfl rfl 2 (by decide) rfl k_18 (v := .int (gI σ 300 0 2)) rfl dX6_weightTogether_6 ?_
      refine lv_icmp_ge (tgt := 28) hx hb dX6_weightTogether_9 rfl (fun hc => ?_) (fun hc => ?_)
      · have hf := b_p hf hc
        exact hx4 v1 _ _ _  hf (lv_sub hl [1] rfl) hP hS
      · have hf := b_n hf hc
        refine lv_lload_n hx hb dX6_weightTogether_12 rfl (lv_at hl 1 rfl) ?_
        refine lv_aload_n hx hb dX6_weightTogether_13 rfl (lv_at hl 0 rfl) ?_
        refine x_get (k := 300) (n := 0) hx hb hts i_X6 hown hK hP (mk_300 h01) rfl rfl 1 (by decide) rfl k_15 (v := .ref (ad 302 0)) rfl dX6_weightTogether_14 ?_
        refine lv_iload_n hx hb dX6_weightTogether_17 rfl (lv_at hl 2 rfl) ?_
        obtain ⟨g1, hf⟩ := gd_e hf
        refine x_iald (k := 302) (n := 0) hx hb hK hP (mk_302 h01) rfl g1 dX6_weightTogether_18 ?_
        refine lv_i2l hx hb dX6_weightTogether_19 rfl ?_
        refine lv_ladd hx hb dX6_weightTogether_20 ?_
        obtain ⟨y2, e_y2, hf⟩ := nm_i hf
        refine x_nmL e_y2 ?_
        refine lv_lstore_n (lv' := [(1, .long y2), (0, .ref (ad 300 0)), (3, .int v3)]) hx hb dX6_weightTogether_21 rfl hl (by decide) rfl (fun ls hl => ?_)
        refine lv_iinc (v := (v3 + (1 : Int32))) (lv' := [(3, .int (v3 + (1 : Int32))), (1, .long y2), (0, .ref (ad 300 0))]) hx hb dX6_weightTogether_22 hl (k := 2) rfl rfl (by decide) rfl (fun ls hl => ?_)
        refine lv_goto (tgt := 4) hx hb dX6_weightTogether_25 rfl ?_
        exact ih4 y2 (v3 + (1 : Int32)) _ _ _  hf (lv_sub hl [2, 1, 0] rfl) hP hS
  have c28 : ∀ (v1 : Int64) (H : Heap) (locs : List Loc) (ls : Array Slot), X6_weightTogether_c28 z  σ v1 = some res → lv_has ls 4 [(1, .long v1)] → va_P G vwCl (wld ad ca σ (LC z)) H → va_S A s.heap H locs → W p l e (headSpec wsX6_weightTogether ({ frames := 0, cells := 0, slots := 0, locals := 0 })).room s m (([.ref (ad 300 0)] : List Value).toArray) below meth c H locs 0 0 (MQ below (va_Ql (fun r' u => r' = res ∧ u = σ) (ctB G ad ca (LC z)) A) (([.ref (ad 300 0)] : List Value).toArray) s 0 0 A) (F0 m 28 ls []) := by
    intro v1 H locs ls hf hl hP hS
    unfold X6_weightTogether_c28 at hf
    refine lv_lload_n hx hb dX6_weightTogether_28 rfl (lv_at hl 0 rfl) ?_
    exact x_lret hx hb hr hlocks hK hP hS (Option.some.inj hf) rfl dX6_weightTogether_29
  refine lv_lconst (v := (0 : Int64)) hx hb dX6_weightTogether_0 rfl ?_
  refine lv_lstore_n (lv' := [(1, .long (0 : Int64)), (0, .ref (ad 300 0))]) hx hb dX6_weightTogether_1 rfl hl (by decide) rfl (fun ls hl => ?_)
  refine lv_iconst (v := (0 : Int32)) hx hb dX6_weightTogether_2 rfl ?_
  refine lv_istore_n (lv' := [(3, .int (0 : Int32)), (1, .long (0 : Int64)), (0, .ref (ad 300 0))]) hx hb dX6_weightTogether_3 rfl hl (by decide) rfl (fun ls hl => ?_)
  exact l4 _ c28 _ (0 : Int64) (0 : Int32) _ _ _  hf (lv_sub hl [2, 1, 0] rfl) hP hS
theorem h9_X6_turnRound : yX6_turnRound.cls = RX6 ∧ yX6_turnRound.cls ≠ "java/lang/invoke/MethodHandle" ∧ yX6_turnRound.cls ≠ "java/lang/invoke/VarHandle" ∧ (parseMethodDescriptor yX6_turnRound.desc).map (fun d => d.parameters.length) = some 0 := by decide +kernel
set_option maxRecDepth 100000 in
set_option maxHeartbeats 4000000 in
theorem t_X6_turnRound (l : Launch) (G : va_G) (ad : Nat → Nat → Nat) (ca : Nat → ClassId) (A : Nat → Prop) (z : Nat × Nat)  (hD : DW ad (LC z) A)  (σ : PS) (res : PS) (hf : X6_turnRound z   σ = some res) : Met l yX6_turnRound wsX6_turnRound ({ frames := 0, cells := 0, slots := 0, locals := 0 }) (ctP G ad ca (LC z) σ ZC [.ref (ad 300 0)]) (va_Qv (fun u => u = res) (ctB G ad ca (LC z)) A) 0 0 A := by
  refine Met.ofW (cc := cX6_turnRound) (maxL := 3) (ret := none) (by decide) rfl ?_
  intro p e s m args below meth c s₁ B hml hv
  obtain ⟨rfl, hP, hK, hz⟩ := hv
  have hx := B.exec
  have hb := B.bytes
  have hr := B.returns
  have hts : ∀ w ∈ WW, w.before _ s = true := fun w h => atoms_spec (ws := wsX6_turnRound) B.pre w (List.mem_cons_of_mem _ h)
  have hown : s.vm.findClass RX6 = some m.cls := findClass_of_methodNamed B.named
  have hlocks := B.notSynchronized
  have hS : va_S A s.heap s.heap [] := va_S.rf
  have k_9 := hts _ kf_X6_9
  have k_15 := hts _ kf_X6_15
  have k_18 := hts _ kf_X6_18
  have hl := lv_entry ([.ref (ad 300 0)]) (n := 3) (Nat.le_of_ble_eq_true rfl)
  rw [lg_entry_eq]
  generalize (lg_sl ([.ref (ad 300 0)]) ++ List.replicate (3 - (lg_sl ([.ref (ad 300 0)])).length) Slot.unset).toArray = ls at hl ⊢
  have hl : lv_has ls 3 [(0, .ref (ad 300 0))] := hl
  unfold X6_turnRound at hf
  refine lv_aload_n hx hb dX6_turnRound_0 rfl (lv_at hl 0 rfl) ?_
  refine x_get (k := 300) (n := 0) hx hb hts i_X6 hown hK hP (mk_300 h01) rfl rfl 2 (by decide) rfl k_18 (v := .int (gI σ 300 0 2)) rfl dX6_turnRound_1 ?_
  refine lv_iconst (v := (2 : Int32)) hx hb dX6_turnRound_4 rfl ?_
  refine lv_icmp_ge (tgt := 9) hx hb dX6_turnRound_5 rfl (fun hc => ?_) (fun hc => ?_)
  · have hf := b_p hf hc
    refine lv_aload_n hx hb dX6_turnRound_9 rfl (lv_at hl 0 rfl) ?_
    refine x_get (k := 300) (n := 0) hx hb hts i_X6 hown hK hP (mk_300 h01) rfl rfl 0 (by decide) rfl k_9 (v := .ref (ad 301 0)) rfl dX6_turnRound_10 ?_
    refine lv_iconst (v := (0 : Int32)) hx hb dX6_turnRound_13 rfl ?_
    obtain ⟨g1, hf⟩ := gd_e hf
    refine x_iald (k := 301) (n := 0) hx hb hK hP (mk_301 h01) rfl g1 dX6_turnRound_14 ?_
    obtain ⟨y2, e_y2, hf⟩ := nm_i hf
    refine x_nmI e_y2 ?_
    refine lv_istore_n (lv' := [(1, .int y2), (0, .ref (ad 300 0))]) hx hb dX6_turnRound_15 rfl hl (by decide) rfl (fun ls hl => ?_)
    refine lv_aload_n hx hb dX6_turnRound_16 rfl (lv_at hl 1 rfl) ?_
    refine x_get (k := 300) (n := 0) hx hb hts i_X6 hown hK hP (mk_300 h01) rfl rfl 0 (by decide) rfl k_9 (v := .ref (ad 301 0)) rfl dX6_turnRound_17 ?_
    refine lv_iconst (v := (0 : Int32)) hx hb dX6_turnRound_20 rfl ?_
    refine lv_aload_n hx hb dX6_turnRound_21 rfl (lv_at hl 1 rfl) ?_
    refine x_get (k := 300) (n := 0) hx hb hts i_X6 hown hK hP (mk_300 h01) rfl rfl 0 (by decide) rfl k_9 (v := .ref (ad 301 0)) rfl dX6_turnRound_22 ?_
    refine lv_iconst (v := (1 : Int32)) hx hb dX6_turnRound_25 rfl ?_
    obtain ⟨g3, hf⟩ := gd_e hf
    refine x_iald (k := 301) (n := 0) hx hb hK hP (mk_301 h01) rfl g3 dX6_turnRound_26 ?_
    obtain ⟨g4, hf⟩ := gd_e hf
    refine x_iast (k := 301) (n := 0) hx hb hK hD hP hS (mk_301 h01) rfl g4 dX6_turnRound_27 (fun H locs hP hS => ?_)
    obtain ⟨σ5, e_σ5, hf⟩ := nm_i hf
    have hP : va_P G vwCl (wld ad ca σ5 (LC z)) H := by rw [e_σ5]; exact hP
    refine lv_aload_n hx hb dX6_turnRound_28 rfl (lv_at hl 1 rfl) ?_
    refine x_get (k := 300) (n := 0) hx hb hts i_X6 hown hK hP (mk_300 h01) rfl rfl 0 (by decide) rfl k_9 (v := .ref (ad 301 0)) rfl dX6_turnRound_29 ?_
    refine lv_iconst (v := (1 : Int32)) hx hb dX6_turnRound_32 rfl ?_
    refine lv_iload_n hx hb dX6_turnRound_33 rfl (lv_at hl 0 rfl) ?_
    obtain ⟨g6, hf⟩ := gd_e hf
    refine x_iast (k := 301) (n := 0) hx hb hK hD hP hS (mk_301 h01) rfl g6 dX6_turnRound_34 (fun H locs hP hS => ?_)
    obtain ⟨σ7, e_σ7, hf⟩ := nm_i hf
    have hP : va_P G vwCl (wld ad ca σ7 (LC z)) H := by rw [e_σ7]; exact hP
    refine lv_aload_n hx hb dX6_turnRound_35 rfl (lv_at hl 1 rfl) ?_
    refine x_get (k := 300) (n := 0) hx hb hts i_X6 hown hK hP (mk_300 h01) rfl rfl 1 (by decide) rfl k_15 (v := .ref (ad 302 0)) rfl dX6_turnRound_36 ?_
    refine lv_iconst (v := (0 : Int32)) hx hb dX6_turnRound_39 rfl ?_
    obtain ⟨g8, hf⟩ := gd_e hf
    refine x_iald (k := 302) (n := 0) hx hb hK hP (mk_302 h01) rfl g8 dX6_turnRound_40 ?_
    obtain ⟨y9, e_y9, hf⟩ := nm_i hf
    refine x_nmI e_y9 ?_
    refine lv_istore_n (lv' := [(2, .int y9), (1, .int y2), (0, .ref (ad 300 0))]) hx hb dX6_turnRound_41 rfl hl (by decide) rfl (fun ls hl => ?_)
    refine lv_aload_n hx hb dX6_turnRound_42 rfl (lv_at hl 2 rfl) ?_
    refine x_get (k := 300) (n := 0) hx hb hts i_X6 hown hK hP (mk_300 h01) rfl rfl 1 (by decide) rfl k_15 (v := .ref (ad 302 0)) rfl dX6_turnRound_43 ?_
    refine lv_iconst (v := (0 : Int32)) hx hb dX6_turnRound_46 rfl ?_
    refine lv_aload_n hx hb dX6_turnRound_47 rfl (lv_at hl 2 rfl) ?_
    refine x_get (k := 300) (n := 0) hx hb hts i_X6 hown hK hP (mk_300 h01) rfl rfl 1 (by decide) rfl k_15 (v := .ref (ad 302 0)) rfl dX6_turnRound_48 ?_
    refine lv_iconst (v := (1 : Int32)) hx hb dX6_turnRound_51 rfl ?_
    obtain ⟨g10, hf⟩ := gd_e hf
    refine x_iald (k := 302) (n := 0) hx hb hK hP (mk_302 h01) rfl g10 dX6_turnRound_52 ?_
    obtain ⟨g11, hf⟩ := gd_e hf
    refine x_iast (k := 302) (n := 0) hx hb hK hD hP hS (mk_302 h01) rfl g11 dX6_turnRound_53 (fun H locs hP hS => ?_)
    obtain ⟨σ12, e_σ12, hf⟩ := nm_i hf
    have hP : va_P G vwCl (wld ad ca σ12 (LC z)) H := by rw [e_σ12]; exact hP
    refine lv_aload_n hx hb dX6_turnRound_54 rfl (lv_at hl 2 rfl) ?_
    refine x_get (k := 300) (n := 0) hx hb hts i_X6 hown hK hP (mk_300 h01) rfl rfl 1 (by decide) rfl k_15 (v := .ref (ad 302 0)) rfl dX6_turnRound_55 ?_
    refine lv_iconst (v := (1 : Int32)) hx hb dX6_turnRound_58 rfl ?_
    refine lv_iload_n hx hb dX6_turnRound_59 rfl (lv_at hl 0 rfl) ?_
    obtain ⟨g13, hf⟩ := gd_e hf
    refine x_iast (k := 302) (n := 0) hx hb hK hD hP hS (mk_302 h01) rfl g13 dX6_turnRound_60 (fun H locs hP hS => ?_)
    obtain ⟨σ14, e_σ14, hf⟩ := nm_i hf
    have hP : va_P G vwCl (wld ad ca σ14 (LC z)) H := by rw [e_σ14]; exact hP
    exact x_vret hx hb hr hlocks hK hP hS (Option.some.inj hf) dX6_turnRound_61
  · have hf := b_n hf hc
    exact x_vret hx hb hr hlocks hK hP hS (Option.some.inj hf) dX6_turnRound_8
theorem h9_X7_holds : yX7_holds.cls = RX7 ∧ yX7_holds.cls ≠ "java/lang/invoke/MethodHandle" ∧ yX7_holds.cls ≠ "java/lang/invoke/VarHandle" ∧ (parseMethodDescriptor yX7_holds.desc).map (fun d => d.parameters.length) = some 1 := by decide +kernel
set_option maxRecDepth 100000 in
set_option maxHeartbeats 4000000 in
theorem t_X7_holds (l : Launch) (G : va_G) (ad : Nat → Nat → Nat) (ca : Nat → ClassId) (A : Nat → Prop) (z : Nat × Nat)  (x1 : Int32) (hD : DW ad (LC z) A)  (σ : PS) (res : Int32) (hf : X7_holds z  x1 σ = some res) : Met l yX7_holds wsX7_holds ({ frames := 0, cells := 0, slots := 0, locals := 0 }) (ctP G ad ca (LC z) σ ZC [.ref (ad 350 0), .int x1]) (va_Qi (fun r' u => r' = res ∧ u = σ) (ctB G ad ca (LC z)) A) 0 0 A := by
  refine Met.ofW (cc := cX7_holds) (maxL := 2) (ret := (some .boolean)) (by decide) rfl ?_
  intro p e s m args below meth c s₁ B hml hv
  obtain ⟨rfl, hP, hK, hz⟩ := hv
  have hx := B.exec
  have hb := B.bytes
  have hr := B.returns
  have hts : ∀ w ∈ WW, w.before _ s = true := fun w h => atoms_spec (ws := wsX7_holds) B.pre w (List.mem_cons_of_mem _ h)
  have hown : s.vm.findClass RX7 = some m.cls := findClass_of_methodNamed B.named
  have hlocks := B.notSynchronized
  have hS : va_S A s.heap s.heap [] := va_S.rf
  have k_18 := hts _ kf_X7_18
  have hl := lv_entry ([.ref (ad 350 0), .int x1]) (n := 2) (Nat.le_of_ble_eq_true rfl)
  rw [lg_entry_eq]
  generalize (lg_sl ([.ref (ad 350 0), .int x1]) ++ List.replicate (2 - (lg_sl ([.ref (ad 350 0), .int x1])).length) Slot.unset).toArray = ls at hl ⊢
  have hl : lv_has ls 2 [(0, .ref (ad 350 0)), (1, .int x1)] := hl
  unfold X7_holds at hf
  refine lv_iload_n hx hb dX7_holds_0 rfl (lv_at hl 1 rfl) ?_
  refine lv_if_lt (tgt := 16) hx hb dX7_holds_1 rfl (fun hc => ?_) (fun hc => ?_)
  · have hf := b_p hf hc
    refine lv_iconst (v := (0 : Int32)) hx hb dX7_holds_16 rfl ?_
    exact x_zret hx hb hr hlocks hK hP hS (by decide) (Option.some.inj hf) rfl dX7_holds_17
  · have hf := b_n hf hc
    refine lv_iload_n hx hb dX7_holds_4 rfl (lv_at hl 1 rfl) ?_
    refine lv_aload_n hx hb dX7_holds_5 rfl (lv_at hl 0 rfl) ?_
    refine x_get (k := 350) (n := 0) hx hb hts i_X7 hown hK hP (mk_350 h01) rfl rfl 2 (by decide) rfl k_18 (v := .int (gI σ 350 0 2)) rfl dX7_holds_6 ?_
    refine lv_icmp_ge (tgt := 16) hx hb dX7_holds_9 rfl (fun hc => ?_) (fun hc => ?_)
    · have hf := b_p hf hc
      refine lv_iconst (v := (0 : Int32)) hx hb dX7_holds_16 rfl ?_
      exact x_zret hx hb hr hlocks hK hP hS (by decide) (Option.some.inj hf) rfl dX7_holds_17
    · have hf := b_n hf hc
      refine lv_iconst (v := (1 : Int32)) hx hb dX7_holds_12 rfl ?_
      refine lv_goto (tgt := 17) hx hb dX7_holds_13 rfl ?_
      exact x_zret hx hb hr hlocks hK hP hS (by decide) (Option.some.inj hf) rfl dX7_holds_17
theorem h9_X7_bring : yX7_bring.cls = RX7 ∧ yX7_bring.cls ≠ "java/lang/invoke/MethodHandle" ∧ yX7_bring.cls ≠ "java/lang/invoke/VarHandle" ∧ (parseMethodDescriptor yX7_bring.desc).map (fun d => d.parameters.length) = some 2 := by decide +kernel
set_option maxRecDepth 100000 in
set_option maxHeartbeats 4000000 in
theorem t_X7_bring (l : Launch) (G : va_G) (ad : Nat → Nat → Nat) (ca : Nat → ClassId) (A : Nat → Prop) (z : Nat × Nat)  (x1 : Int32) (x2 : Int32) (hD : DW ad (LC z) A)  (σ : PS) (res : Int32) (σz : PS) (hf : X7_bring z  x1 x2 σ = some (res, σz)) : Met l yX7_bring wsX7_bring ({ frames := 0, cells := 0, slots := 0, locals := 0 }) (ctP G ad ca (LC z) σ ZC [.ref (ad 350 0), .int x1, .int x2]) (va_Qi (fun r' u => r' = res ∧ u = σz) (ctB G ad ca (LC z)) A) 0 0 A := by
  refine Met.ofW (cc := cX7_bring) (maxL := 3) (ret := (some .int)) (by decide) rfl ?_
  intro p e s m args below meth c s₁ B hml hv
  obtain ⟨rfl, hP, hK, hz⟩ := hv
  have hx := B.exec
  have hb := B.bytes
  have hr := B.returns
  have hts : ∀ w ∈ WW, w.before _ s = true := fun w h => atoms_spec (ws := wsX7_bring) B.pre w (List.mem_cons_of_mem _ h)
  have hown : s.vm.findClass RX7 = some m.cls := findClass_of_methodNamed B.named
  have hlocks := B.notSynchronized
  have hS : va_S A s.heap s.heap [] := va_S.rf
  have k_9 := hts _ kf_X7_9
  have k_15 := hts _ kf_X7_15
  have k_18 := hts _ kf_X7_18
  have hl := lv_entry ([.ref (ad 350 0), .int x1, .int x2]) (n := 3) (Nat.le_of_ble_eq_true rfl)
  rw [lg_entry_eq]
  generalize (lg_sl ([.ref (ad 350 0), .int x1, .int x2]) ++ List.replicate (3 - (lg_sl ([.ref (ad 350 0), .int x1, .int x2])).length) Slot.unset).toArray = ls at hl ⊢
  have hl : lv_has ls 3 [(0, .ref (ad 350 0)), (1, .int x1), (2, .int x2)] := hl
  unfold X7_bring at hf
  refine lv_aload_n hx hb dX7_bring_0 rfl (lv_at hl 0 rfl) ?_
  refine x_get (k := 350) (n := 0) hx hb hts i_X7 hown hK hP (mk_350 h01) rfl rfl 2 (by decide) rfl k_18 (v := .int (gI σ 350 0 2)) rfl dX7_bring_1 ?_
  refine lv_sipush (v := (300 : Int32)) hx hb dX7_bring_4 rfl ?_
  refine lv_icmp_lt (tgt := 12) hx hb dX7_bring_7 rfl (fun hc => ?_) (fun hc => ?_)
  · have hf := b_p hf hc
    refine lv_aload_n hx hb dX7_bring_12 rfl (lv_at hl 0 rfl) ?_
    refine x_get (k := 350) (n := 0) hx hb hts i_X7 hown hK hP (mk_350 h01) rfl rfl 0 (by decide) rfl k_9 (v := .ref (ad 351 0)) rfl dX7_bring_13 ?_
    refine lv_aload_n hx hb dX7_bring_16 rfl (lv_at hl 0 rfl) ?_
    refine x_get (k := 350) (n := 0) hx hb hts i_X7 hown hK hP (mk_350 h01) rfl rfl 2 (by decide) rfl k_18 (v := .int (gI σ 350 0 2)) rfl dX7_bring_17 ?_
    refine lv_iload_n hx hb dX7_bring_20 rfl (lv_at hl 1 rfl) ?_
    obtain ⟨g1, hf⟩ := gd_e hf
    refine x_iast (k := 351) (n := 0) hx hb hK hD hP hS (mk_351 h01) rfl g1 dX7_bring_21 (fun H locs hP hS => ?_)
    obtain ⟨σ2, e_σ2, hf⟩ := nm_i hf
    have hP : va_P G vwCl (wld ad ca σ2 (LC z)) H := by rw [e_σ2]; exact hP
    refine lv_aload_n hx hb dX7_bring_22 rfl (lv_at hl 0 rfl) ?_
    refine x_get (k := 350) (n := 0) hx hb hts i_X7 hown hK hP (mk_350 h01) rfl rfl 1 (by decide) rfl k_15 (v := .ref (ad 352 0)) rfl dX7_bring_23 ?_
    refine lv_aload_n hx hb dX7_bring_26 rfl (lv_at hl 0 rfl) ?_
    refine x_get (k := 350) (n := 0) hx hb hts i_X7 hown hK hP (mk_350 h01) rfl rfl 2 (by decide) rfl k_18 (v := .int (gI σ2 350 0 2)) rfl dX7_bring_27 ?_
    refine lv_iload_n hx hb dX7_bring_30 rfl (lv_at hl 2 rfl) ?_
    obtain ⟨g3, hf⟩ := gd_e hf
    refine x_iast (k := 352) (n := 0) hx hb hK hD hP hS (mk_352 h01) rfl g3 dX7_bring_31 (fun H locs hP hS => ?_)
    obtain ⟨σ4, e_σ4, hf⟩ := nm_i hf
    have hP : va_P G vwCl (wld ad ca σ4 (LC z)) H := by rw [e_σ4]; exact hP
    refine lv_aload_n hx hb dX7_bring_32 rfl (lv_at hl 0 rfl) ?_
    refine lv_dup hx hb dX7_bring_33 rfl ?_
    refine x_get (k := 350) (n := 0) hx hb hts i_X7 hown hK hP (mk_350 h01) rfl rfl 2 (by decide) rfl k_18 (v := .int (gI σ4 350 0 2)) rfl dX7_bring_34 ?_
    refine lv_iconst (v := (1 : Int32)) hx hb dX7_bring_37 rfl ?_
    refine lv_iadd hx hb dX7_bring_38 ?_
    refine x_putI (k := 350) (n := 0) hx hb hts i_X7 tyX7 tyX7_ok nmX7 hown hK hD hP hS (mk_350 h01) rfl rfl 2 (by decide) rfl k_18 rfl rfl rfl rfl dX7_bring_39 (fun H locs hP hS => ?_)
    obtain ⟨σ5, e_σ5, hf⟩ := nm_i hf
    have hP : va_P G vwCl (wld ad ca σ5 (LC z)) H := by rw [e_σ5]; exact hP
    refine lv_aload_n hx hb dX7_bring_42 rfl (lv_at hl 0 rfl) ?_
    refine x_get (k := 350) (n := 0) hx hb hts i_X7 hown hK hP (mk_350 h01) rfl rfl 2 (by decide) rfl k_18 (v := .int (gI σ5 350 0 2)) rfl dX7_bring_43 ?_
    refine lv_iconst (v := (1 : Int32)) hx hb dX7_bring_46 rfl ?_
    refine lv_isub hx hb dX7_bring_47 ?_
    have hf := Option.some.inj hf
    exact x_iret hx hb hr hlocks hK hP hS (congrArg Prod.fst hf) (congrArg Prod.snd hf) dX7_bring_48
  · have hf := b_n hf hc
    refine lv_iconst (v := (-1 : Int32)) hx hb dX7_bring_10 rfl ?_
    have hf := Option.some.inj hf
    exact x_iret hx hb hr hlocks hK hP hS (congrArg Prod.fst hf) (congrArg Prod.snd hf) dX7_bring_11
theorem h9_X8_addTrait : yX8_addTrait.cls = RX8 ∧ yX8_addTrait.cls ≠ "java/lang/invoke/MethodHandle" ∧ yX8_addTrait.cls ≠ "java/lang/invoke/VarHandle" ∧ (parseMethodDescriptor yX8_addTrait.desc).map (fun d => d.parameters.length) = some 2 := by decide +kernel
set_option maxRecDepth 100000 in
set_option maxHeartbeats 4000000 in
theorem t_X8_addTrait (l : Launch) (G : va_G) (ad : Nat → Nat → Nat) (ca : Nat → ClassId) (A : Nat → Prop) (z : Nat × Nat)  (x1 : Int32) (x2 : Int32) (hD : DW ad (LC z) A)  (σ : PS) (res : Int32) (σz : PS) (hf : X8_addTrait z  x1 x2 σ = some (res, σz)) : Met l yX8_addTrait wsX8_addTrait ({ frames := 0, cells := 0, slots := 0, locals := 0 }) (ctP G ad ca (LC z) σ ZC [.ref (ad 400 0), .int x1, .int x2]) (va_Qi (fun r' u => r' = res ∧ u = σz) (ctB G ad ca (LC z)) A) 0 0 A := by
  refine Met.ofW (cc := cX8_addTrait) (maxL := 4) (ret := (some .int)) (by decide) rfl ?_
  intro p e s m args below meth c s₁ B hml hv
  obtain ⟨rfl, hP, hK, hz⟩ := hv
  have hx := B.exec
  have hb := B.bytes
  have hr := B.returns
  have hts : ∀ w ∈ WW, w.before _ s = true := fun w h => atoms_spec (ws := wsX8_addTrait) B.pre w (List.mem_cons_of_mem _ h)
  have hown : s.vm.findClass RX8 = some m.cls := findClass_of_methodNamed B.named
  have hlocks := B.notSynchronized
  have hS : va_S A s.heap s.heap [] := va_S.rf
  have k_15 := hts _ kf_X8_15
  have hl := lv_entry ([.ref (ad 400 0), .int x1, .int x2]) (n := 4) (Nat.le_of_ble_eq_true rfl)
  rw [lg_entry_eq]
  generalize (lg_sl ([.ref (ad 400 0), .int x1, .int x2]) ++ List.replicate (4 - (lg_sl ([.ref (ad 400 0), .int x1, .int x2])).length) Slot.unset).toArray = ls at hl ⊢
  have hl : lv_has ls 4 [(0, .ref (ad 400 0)), (1, .int x1), (2, .int x2)] := hl
  unfold X8_addTrait at hf
  refine lv_iconst (v := (1 : Int32)) hx hb dX8_addTrait_0 rfl ?_
  refine lv_iload_n hx hb dX8_addTrait_1 rfl (lv_at hl 2 rfl) ?_
  refine lv_ishl hx hb dX8_addTrait_2 ?_
  obtain ⟨y1, e_y1, hf⟩ := nm_i hf
  refine x_nmI e_y1 ?_
  refine lv_istore_n (lv' := [(3, .int y1), (0, .ref (ad 400 0)), (1, .int x1), (2, .int x2)]) hx hb dX8_addTrait_3 rfl hl (by decide) rfl (fun ls hl => ?_)
  refine lv_aload_n hx hb dX8_addTrait_4 rfl (lv_at hl 1 rfl) ?_
  refine x_get (k := 400) (n := 0) hx hb hts i_X8 hown hK hP (mk_400 h01) rfl rfl 1 (by decide) rfl k_15 (v := .ref (ad 402 0)) rfl dX8_addTrait_5 ?_
  refine lv_iload_n hx hb dX8_addTrait_8 rfl (lv_at hl 2 rfl) ?_
  obtain ⟨g2, hf⟩ := gd_e hf
  refine x_iald (k := 402) (n := 0) hx hb hK hP (mk_402 h01) rfl g2 dX8_addTrait_9 ?_
  refine lv_iload_n hx hb dX8_addTrait_10 rfl (lv_at hl 0 rfl) ?_
  refine lv_iand hx hb dX8_addTrait_11 ?_
  refine lv_if_eq (tgt := 17) hx hb dX8_addTrait_12 rfl (fun hc => ?_) (fun hc => ?_)
  · have hf := b_p hf hc
    refine lv_aload_n hx hb dX8_addTrait_17 rfl (lv_at hl 1 rfl) ?_
    refine x_get (k := 400) (n := 0) hx hb hts i_X8 hown hK hP (mk_400 h01) rfl rfl 1 (by decide) rfl k_15 (v := .ref (ad 402 0)) rfl dX8_addTrait_18 ?_
    refine lv_iload_n hx hb dX8_addTrait_21 rfl (lv_at hl 2 rfl) ?_
    refine lv_dup2_11 hx hb dX8_addTrait_22 rfl rfl ?_
    obtain ⟨g3, hf⟩ := gd_e hf
    refine x_iald (k := 402) (n := 0) hx hb hK hP (mk_402 h01) rfl g3 dX8_addTrait_23 ?_
    refine lv_iload_n hx hb dX8_addTrait_24 rfl (lv_at hl 0 rfl) ?_
    refine lv_ior hx hb dX8_addTrait_25 ?_
    obtain ⟨g4, hf⟩ := gd_e hf
    refine x_iast (k := 402) (n := 0) hx hb hK hD hP hS (mk_402 h01) rfl g4 dX8_addTrait_26 (fun H locs hP hS => ?_)
    obtain ⟨σ5, e_σ5, hf⟩ := nm_i hf
    have hP : va_P G vwCl (wld ad ca σ5 (LC z)) H := by rw [e_σ5]; exact hP
    refine lv_iconst (v := (1 : Int32)) hx hb dX8_addTrait_27 rfl ?_
    have hf := Option.some.inj hf
    exact x_iret hx hb hr hlocks hK hP hS (congrArg Prod.fst hf) (congrArg Prod.snd hf) dX8_addTrait_28
  · have hf := b_n hf hc
    refine lv_iconst (v := (0 : Int32)) hx hb dX8_addTrait_15 rfl ?_
    have hf := Option.some.inj hf
    exact x_iret hx hb hr hlocks hK hP hS (congrArg Prod.fst hf) (congrArg Prod.snd hf) dX8_addTrait_16
theorem h9_X8_findReach : yX8_findReach.cls = RX8 ∧ yX8_findReach.cls ≠ "java/lang/invoke/MethodHandle" ∧ yX8_findReach.cls ≠ "java/lang/invoke/VarHandle" ∧ (parseMethodDescriptor yX8_findReach.desc).map (fun d => d.parameters.length) = some 0 := by decide +kernel
set_option maxRecDepth 100000 in
set_option maxHeartbeats 4000000 in
theorem t_X8_findReach (l : Launch) (G : va_G) (ad : Nat → Nat → Nat) (ca : Nat → ClassId) (A : Nat → Prop) (z : Nat × Nat)  (hD : DW ad (LC z) A)  (σ : PS) (res : PS) (hf : X8_findReach z   σ = some res) : Met l yX8_findReach wsX8_findReach ({ frames := 0, cells := 0, slots := 0, locals := 0 }) (ctP G ad ca (LC z) σ ZC [.ref (ad 400 0)]) (va_Qv (fun u => u = res) (ctB G ad ca (LC z)) A) 0 0 A := by
  refine Met.ofW (cc := cX8_findReach) (maxL := 3) (ret := none) (by decide) rfl ?_
  intro p e s m args below meth c s₁ B hml hv
  obtain ⟨rfl, hP, hK, hz⟩ := hv
  have hx := B.exec
  have hb := B.bytes
  have hr := B.returns
  have hts : ∀ w ∈ WW, w.before _ s = true := fun w h => atoms_spec (ws := wsX8_findReach) B.pre w (List.mem_cons_of_mem _ h)
  have hown : s.vm.findClass RX8 = some m.cls := findClass_of_methodNamed B.named
  have hlocks := B.notSynchronized
  have hS : va_S A s.heap s.heap [] := va_S.rf
  have k_9 := hts _ kf_X8_9
  have k_15 := hts _ kf_X8_15
  have k_18 := hts _ kf_X8_18
  have hl := lv_entry ([.ref (ad 400 0)]) (n := 3) (Nat.le_of_ble_eq_true rfl)
  rw [lg_entry_eq]
  generalize (lg_sl ([.ref (ad 400 0)]) ++ List.replicate (3 - (lg_sl ([.ref (ad 400 0)])).length) Slot.unset).toArray = ls at hl ⊢
  have hl : lv_has ls 3 [(0, .ref (ad 400 0))] := hl
  unfold X8_findReach at hf
  have l2 : ∀ (kx2 : PS → Option (PS)), (∀ (σ : PS) (H : Heap) (locs : List Loc) (ls : Array Slot), kx2 σ = some res → lv_has ls 3 [(0, .ref (ad 400 0))] → va_P G vwCl (wld ad ca σ (LC z)) H → va_S A s.heap H locs → W p l e (headSpec wsX8_findReach ({ frames := 0, cells := 0, slots := 0, locals := 0 })).room s m (([.ref (ad 400 0)] : List Value).toArray) below meth c H locs 0 0 (MQ below (va_Qv (fun u => u = res) (ctB G ad ca (LC z)) A) (([.ref (ad 400 0)] : List Value).toArray) s 0 0 A) (F0 m 59 ls [])) → ∀ (n2 : Nat) (v1 : Int32) (σ : PS) (H : Heap) (locs : List Loc) (ls : Array Slot), X8_findReach_l2 z kx2 n2 v1 σ = some res → lv_has ls 3 [(0, .ref (ad 400 0)), (1, .int v1)] → va_P G vwCl (wld ad ca σ (LC z)) H → va_S A s.heap H locs → W p l e (headSpec wsX8_findReach ({ frames := 0, cells := 0, slots := 0, locals := 0 })).room s m (([.ref (ad 400 0)] : List Value).toArray) below meth c H locs 0 0 (MQ below (va_Qv (fun u => u = res) (ctB G ad ca (LC z)) A) (([.ref (ad 400 0)] : List Value).toArray) s 0 0 A) (F0 m 2 ls []) := by
    intro kx2 hx2 n2
    induction n2 with
    | zero =>
      intro v1 σ H locs ls hf
      exact absurd hf (by simp [X8_findReach_l2])
    | succ n2 ih2 =>
      intro v1 σ H locs ls hf hl hP hS
      rw [X8_findReach_l2.eq_2] at hf
      refine lv_iload_n hx hb dX8_findReach_2 rfl (lv_at hl 1 rfl) ?_
      refine lv_bipush (v := (16 : Int32)) hx hb dX8_findReach_3 rfl ?_
      refine lv_icmp_ge (tgt := 59) hx hb dX8_findReach_5 rfl (fun hc => ?_) (fun hc => ?_)
      · have hf := b_p hf hc
        exact hx2  σ _ _ _  hf (lv_sub hl [0] rfl) hP hS
      · have hf := b_n hf hc
        refine lv_aload_n hx hb dX8_findReach_8 rfl (lv_at hl 0 rfl) ?_
        refine x_get (k := 400) (n := 0) hx hb hts i_X8 hown hK hP (mk_400 h01) rfl rfl 2 (by decide) rfl k_18 (v := .ref (ad 403 0)) rfl dX8_findReach_9 ?_
        refine lv_iload_n hx hb dX8_findReach_12 rfl (lv_at hl 1 rfl) ?_
        refine lv_aload_n hx hb dX8_findReach_13 rfl (lv_at hl 0 rfl) ?_
        refine x_get (k := 400) (n := 0) hx hb hts i_X8 hown hK hP (mk_400 h01) rfl rfl 1 (by decide) rfl k_15 (v := .ref (ad 402 0)) rfl dX8_findReach_14 ?_
        refine lv_iload_n hx hb dX8_findReach_17 rfl (lv_at hl 1 rfl) ?_
        obtain ⟨g1, hf⟩ := gd_e hf
        refine x_iald (k := 402) (n := 0) hx hb hK hP (mk_402 h01) rfl g1 dX8_findReach_18 ?_
        obtain ⟨g2, hf⟩ := gd_e hf
        refine x_iast (k := 403) (n := 0) hx hb hK hD hP hS (mk_403 h01) rfl g2 dX8_findReach_19 (fun H locs hP hS => ?_)
        obtain ⟨σ3, e_σ3, hf⟩ := nm_i hf
        have hP : va_P G vwCl (wld ad ca σ3 (LC z)) H := by rw [e_σ3]; exact hP
        refine lv_iload_n hx hb dX8_findReach_20 rfl (lv_at hl 1 rfl) ?_
        refine lv_bipush (v := (12 : Int32)) hx hb dX8_findReach_21 rfl ?_
        refine lv_icmp_ge (tgt := 53) hx hb dX8_findReach_23 rfl (fun hc => ?_) (fun hc => ?_)
        · have hf := b_p hf hc
          refine lv_iinc (v := (v1 + (1 : Int32))) (lv' := [(1, .int (v1 + (1 : Int32))), (0, .ref (ad 400 0))]) hx hb dX8_findReach_53 hl (k := 1) rfl rfl (by decide) rfl (fun ls hl => ?_)
          refine lv_goto (tgt := 2) hx hb dX8_findReach_56 rfl ?_
          exact ih2 (v1 + (1 : Int32)) σ3 _ _ _  hf (lv_sub hl [1, 0] rfl) hP hS
        · have hf := b_n hf hc
          refine lv_aload_n hx hb dX8_findReach_26 rfl (lv_at hl 0 rfl) ?_
          refine x_get (k := 400) (n := 0) hx hb hts i_X8 hown hK hP (mk_400 h01) rfl rfl 0 (by decide) rfl k_9 (v := .ref (ad 401 0)) rfl dX8_findReach_27 ?_
          refine lv_iload_n hx hb dX8_findReach_30 rfl (lv_at hl 1 rfl) ?_
          obtain ⟨g4, hf⟩ := gd_e hf
          refine x_iald (k := 401) (n := 0) hx hb hK hP (mk_401 h01) rfl g4 dX8_findReach_31 ?_
          refine lv_iconst (v := (-1 : Int32)) hx hb dX8_findReach_32 rfl ?_
          refine lv_icmp_eq (tgt := 53) hx hb dX8_findReach_33 rfl (fun hc => ?_) (fun hc => ?_)
          · have hf := b_p hf hc
            refine lv_iinc (v := (v1 + (1 : Int32))) (lv' := [(1, .int (v1 + (1 : Int32))), (0, .ref (ad 400 0))]) hx hb dX8_findReach_53 hl (k := 1) rfl rfl (by decide) rfl (fun ls hl => ?_)
            refine lv_goto (tgt := 2) hx hb dX8_findReach_56 rfl ?_
            exact ih2 (v1 + (1 : Int32)) σ3 _ _ _  hf (lv_sub hl [1, 0] rfl) hP hS
          · have hf := b_n hf hc
            refine lv_aload_n hx hb dX8_findReach_36 rfl (lv_at hl 0 rfl) ?_
            refine x_get (k := 400) (n := 0) hx hb hts i_X8 hown hK hP (mk_400 h01) rfl rfl 2 (by decide) rfl k_18 (v := .ref (ad 403 0)) rfl dX8_findReach_37 ?_
            refine lv_iload_n hx hb dX8_findReach_40 rfl (lv_at hl 1 rfl) ?_
            refine lv_dup2_11 hx hb dX8_findReach_41 rfl rfl ?_
            obtain ⟨g5, hf⟩ := gd_e hf
            refine x_iald (k := 403) (n := 0) hx hb hK hP (mk_403 h01) rfl g5 dX8_findReach_42 ?_
            refine lv_iconst (v := (1 : Int32)) hx hb dX8_findReach_43 rfl ?_
            refine lv_aload_n hx hb dX8_findReach_44 rfl (lv_at hl 0 rfl) ?_
            refine x_get (k := 400) (n := 0) hx hb hts i_X8 hown hK hP (mk_400 h01) rfl rfl 0 (by decide) rfl k_9 (v := .ref (ad 401 0)) rfl dX8_findReach_45 ?_
            refine lv_iload_n hx hb dX8_findReach_48 rfl (lv_at hl 1 rfl) ?_
            obtain ⟨g6, hf⟩ := gd_e hf
            refine x_iald (k := 401) (n := 0) hx hb hK hP (mk_401 h01) rfl g6 dX8_findReach_49 ?_
            refine lv_ishl hx hb dX8_findReach_50 ?_
            refine lv_ior hx hb dX8_findReach_51 ?_
            obtain ⟨g7, hf⟩ := gd_e hf
            refine x_iast (k := 403) (n := 0) hx hb hK hD hP hS (mk_403 h01) rfl g7 dX8_findReach_52 (fun H locs hP hS => ?_)
            obtain ⟨σ8, e_σ8, hf⟩ := nm_i hf
            have hP : va_P G vwCl (wld ad ca σ8 (LC z)) H := by rw [e_σ8]; exact hP
            refine lv_iinc (v := (v1 + (1 : Int32))) (lv' := [(1, .int (v1 + (1 : Int32))), (0, .ref (ad 400 0))]) hx hb dX8_findReach_53 hl (k := 1) rfl rfl (by decide) rfl (fun ls hl => ?_)
            refine lv_goto (tgt := 2) hx hb dX8_findReach_56 rfl ?_
            exact ih2 (v1 + (1 : Int32)) σ8 _ _ _  hf (lv_sub hl [1, 0] rfl) hP hS
  have l61 : ∀ (kx61 : PS → Option (PS)), (∀ (σ : PS) (H : Heap) (locs : List Loc) (ls : Array Slot), kx61 σ = some res → lv_has ls 3 [] → va_P G vwCl (wld ad ca σ (LC z)) H → va_S A s.heap H locs → W p l e (headSpec wsX8_findReach ({ frames := 0, cells := 0, slots := 0, locals := 0 })).room s m (([.ref (ad 400 0)] : List Value).toArray) below meth c H locs 0 0 (MQ below (va_Qv (fun u => u = res) (ctB G ad ca (LC z)) A) (([.ref (ad 400 0)] : List Value).toArray) s 0 0 A) (F0 m 115 ls [])) → ∀ (n61 : Nat) (v1 : Int32) (σ : PS) (H : Heap) (locs : List Loc) (ls : Array Slot), X8_findReach_l61 z kx61 n61 v1 σ = some res → lv_has ls 3 [(0, .ref (ad 400 0)), (1, .int v1)] → va_P G vwCl (wld ad ca σ (LC z)) H → va_S A s.heap H locs → W p l e (headSpec wsX8_findReach ({ frames := 0, cells := 0, slots := 0, locals := 0 })).room s m (([.ref (ad 400 0)] : List Value).toArray) below meth c H locs 0 0 (MQ below (va_Qv (fun u => u = res) (ctB G ad ca (LC z)) A) (([.ref (ad 400 0)] : List Value).toArray) s 0 0 A) (F0 m 61 ls []) := by
    intro kx61 hx61 n61
    induction n61 with
    | zero =>
      intro v1 σ H locs ls hf
      exact absurd hf (by simp [X8_findReach_l61])
    | succ n61 ih61 =>
      intro v1 σ H locs ls hf hl hP hS
      rw [X8_findReach_l61.eq_2] at hf
      have l69 : ∀ (kx69 : Int32 → PS → Option (PS)), (∀ (v1 : Int32) (σ : PS) (H : Heap) (locs : List Loc) (ls : Array Slot), kx69 v1 σ = some res → lv_has ls 3 [(0, .ref (ad 400 0)), (1, .int v1)] → va_P G vwCl (wld ad ca σ (LC z)) H → va_S A s.heap H locs → W p l e (headSpec wsX8_findReach ({ frames := 0, cells := 0, slots := 0, locals := 0 })).room s m (([.ref (ad 400 0)] : List Value).toArray) below meth c H locs 0 0 (MQ below (va_Qv (fun u => u = res) (ctB G ad ca (LC z)) A) (([.ref (ad 400 0)] : List Value).toArray) s 0 0 A) (F0 m 109 ls [])) → ∀ (n69 : Nat) (v1 : Int32) (v2 : Int32) (σ : PS) (H : Heap) (locs : List Loc) (ls : Array Slot), X8_findReach_l69 z kx69 n69 v1 v2 σ = some res → lv_has ls 3 [(0, .ref (ad 400 0)), (1, .int v1), (2, .int v2)] → va_P G vwCl (wld ad ca σ (LC z)) H → va_S A s.heap H locs → W p l e (headSpec wsX8_findReach ({ frames := 0, cells := 0, slots := 0, locals := 0 })).room s m (([.ref (ad 400 0)] : List Value).toArray) below meth c H locs 0 0 (MQ below (va_Qv (fun u => u = res) (ctB G ad ca (LC z)) A) (([.ref (ad 400 0)] : List Value).toArray) s 0 0 A) (F0 m 69 ls []) := by
        intro kx69 hx69 n69
        induction n69 with
        | zero =>
          intro v1 v2 σ H locs ls hf
          exact absurd hf (by simp [X8_findReach_l69])
        | succ n69 ih69 =>
          intro v1 v2 σ H locs ls hf hl hP hS
          rw [X8_findReach_l69.eq_2] at hf
          refine lv_iload_n hx hb dX8_findReach_69 rfl (lv_at hl 2 rfl) ?_
          refine lv_bipush (v := (16 : Int32)) hx hb dX8_findReach_70 rfl ?_
          refine lv_icmp_ge (tgt := 109) hx hb dX8_findReach_72 rfl (fun hc => ?_) (fun hc => ?_)
          · have hf := b_p hf hc
            exact hx69 v1 σ _ _ _  hf (lv_sub hl [0, 1] rfl) hP hS
          · have hf := b_n hf hc
            refine lv_aload_n hx hb dX8_findReach_75 rfl (lv_at hl 0 rfl) ?_
            refine x_get (k := 400) (n := 0) hx hb hts i_X8 hown hK hP (mk_400 h01) rfl rfl 2 (by decide) rfl k_18 (v := .ref (ad 403 0)) rfl dX8_findReach_76 ?_
            refine lv_iload_n hx hb dX8_findReach_79 rfl (lv_at hl 2 rfl) ?_
            obtain ⟨g9, hf⟩ := gd_e hf
            refine x_iald (k := 403) (n := 0) hx hb hK hP (mk_403 h01) rfl g9 dX8_findReach_80 ?_
            refine lv_iconst (v := (1 : Int32)) hx hb dX8_findReach_81 rfl ?_
            refine lv_iload_n hx hb dX8_findReach_82 rfl (lv_at hl 1 rfl) ?_
            refine lv_ishl hx hb dX8_findReach_83 ?_
            refine lv_iand hx hb dX8_findReach_84 ?_
            refine lv_if_eq (tgt := 103) hx hb dX8_findReach_85 rfl (fun hc => ?_) (fun hc => ?_)
            · have hf := b_p hf hc
              refine lv_iinc (v := (v2 + (1 : Int32))) (lv' := [(2, .int (v2 + (1 : Int32))), (0, .ref (ad 400 0)), (1, .int v1)]) hx hb dX8_findReach_103 hl (k := 2) rfl rfl (by decide) rfl (fun ls hl => ?_)
              refine lv_goto (tgt := 69) hx hb dX8_findReach_106 rfl ?_
              exact ih69 v1 (v2 + (1 : Int32)) σ _ _ _  hf (lv_sub hl [1, 2, 0] rfl) hP hS
            · have hf := b_n hf hc
              refine lv_aload_n hx hb dX8_findReach_88 rfl (lv_at hl 0 rfl) ?_
              refine x_get (k := 400) (n := 0) hx hb hts i_X8 hown hK hP (mk_400 h01) rfl rfl 2 (by decide) rfl k_18 (v := .ref (ad 403 0)) rfl dX8_findReach_89 ?_
              refine lv_iload_n hx hb dX8_findReach_92 rfl (lv_at hl 2 rfl) ?_
              refine lv_dup2_11 hx hb dX8_findReach_93 rfl rfl ?_
              obtain ⟨g10, hf⟩ := gd_e hf
              refine x_iald (k := 403) (n := 0) hx hb hK hP (mk_403 h01) rfl g10 dX8_findReach_94 ?_
              refine lv_aload_n hx hb dX8_findReach_95 rfl (lv_at hl 0 rfl) ?_
              refine x_get (k := 400) (n := 0) hx hb hts i_X8 hown hK hP (mk_400 h01) rfl rfl 2 (by decide) rfl k_18 (v := .ref (ad 403 0)) rfl dX8_findReach_96 ?_
              refine lv_iload_n hx hb dX8_findReach_99 rfl (lv_at hl 1 rfl) ?_
              obtain ⟨g11, hf⟩ := gd_e hf
              refine x_iald (k := 403) (n := 0) hx hb hK hP (mk_403 h01) rfl g11 dX8_findReach_100 ?_
              refine lv_ior hx hb dX8_findReach_101 ?_
              obtain ⟨g12, hf⟩ := gd_e hf
              refine x_iast (k := 403) (n := 0) hx hb hK hD hP hS (mk_403 h01) rfl g12 dX8_findReach_102 (fun H locs hP hS => ?_)
              obtain ⟨σ13, e_σ13, hf⟩ := nm_i hf
              have hP : va_P G vwCl (wld ad ca σ13 (LC z)) H := by rw [e_σ13]; exact hP
              refine lv_iinc (v := (v2 + (1 : Int32))) (lv' := [(2, .int (v2 + (1 : Int32))), (0, .ref (ad 400 0)), (1, .int v1)]) hx hb dX8_findReach_103 hl (k := 2) rfl rfl (by decide) rfl (fun ls hl => ?_)
              refine lv_goto (tgt := 69) hx hb dX8_findReach_106 rfl ?_
              exact ih69 v1 (v2 + (1 : Int32)) σ13 _ _ _  hf (lv_sub hl [1, 2, 0] rfl) hP hS
      have c109 : ∀ (v1 : Int32) (σ : PS) (H : Heap) (locs : List Loc) (ls : Array Slot), X8_findReach_c109 z (X8_findReach_l61 z kx61 n61) kx61 v1 σ = some res → lv_has ls 3 [(0, .ref (ad 400 0)), (1, .int v1)] → va_P G vwCl (wld ad ca σ (LC z)) H → va_S A s.heap H locs → W p l e (headSpec wsX8_findReach ({ frames := 0, cells := 0, slots := 0, locals := 0 })).room s m (([.ref (ad 400 0)] : List Value).toArray) below meth c H locs 0 0 (MQ below (va_Qv (fun u => u = res) (ctB G ad ca (LC z)) A) (([.ref (ad 400 0)] : List Value).toArray) s 0 0 A) (F0 m 109 ls []) := by
        intro v1 σ H locs ls hf hl hP hS
        unfold X8_findReach_c109 at hf
        refine lv_iinc (v := (v1 + (1 : Int32))) (lv' := [(1, .int (v1 + (1 : Int32))), (0, .ref (ad 400 0))]) hx hb dX8_findReach_109 hl (k := 1) rfl rfl (by decide) rfl (fun ls hl => ?_)
        refine lv_goto (tgt := 61) hx hb dX8_findReach_112 rfl ?_
        exact ih61 (v1 + (1 : Int32)) σ _ _ _  hf (lv_sub hl [1, 0] rfl) hP hS
      refine lv_iload_n hx hb dX8_findReach_61 rfl (lv_at hl 1 rfl) ?_
      refine lv_bipush (v := (16 : Int32)) hx hb dX8_findReach_62 rfl ?_
      refine lv_icmp_ge (tgt := 115) hx hb dX8_findReach_64 rfl (fun hc => ?_) (fun hc => ?_)
      · have hf := b_p hf hc
        exact hx61  σ _ _ _  hf (lv_sub hl [] rfl) hP hS
      · have hf := b_n hf hc
        refine lv_iconst (v := (0 : Int32)) hx hb dX8_findReach_67 rfl ?_
        refine lv_istore_n (lv' := [(2, .int (0 : Int32)), (0, .ref (ad 400 0)), (1, .int v1)]) hx hb dX8_findReach_68 rfl hl (by decide) rfl (fun ls hl => ?_)
        exact l69 _ c109 _ v1 (0 : Int32) σ _ _ _  hf (lv_sub hl [1, 2, 0] rfl) hP hS
  have c115 : ∀ (σ : PS) (H : Heap) (locs : List Loc) (ls : Array Slot), X8_findReach_c115 z  σ = some res → lv_has ls 3 [] → va_P G vwCl (wld ad ca σ (LC z)) H → va_S A s.heap H locs → W p l e (headSpec wsX8_findReach ({ frames := 0, cells := 0, slots := 0, locals := 0 })).room s m (([.ref (ad 400 0)] : List Value).toArray) below meth c H locs 0 0 (MQ below (va_Qv (fun u => u = res) (ctB G ad ca (LC z)) A) (([.ref (ad 400 0)] : List Value).toArray) s 0 0 A) (F0 m 115 ls []) := by
    intro σ H locs ls hf hl hP hS
    unfold X8_findReach_c115 at hf
    exact x_vret hx hb hr hlocks hK hP hS (Option.some.inj hf) dX8_findReach_115
  have c59 : ∀ (σ : PS) (H : Heap) (locs : List Loc) (ls : Array Slot), X8_findReach_c59 z  σ = some res → lv_has ls 3 [(0, .ref (ad 400 0))] → va_P G vwCl (wld ad ca σ (LC z)) H → va_S A s.heap H locs → W p l e (headSpec wsX8_findReach ({ frames := 0, cells := 0, slots := 0, locals := 0 })).room s m (([.ref (ad 400 0)] : List Value).toArray) below meth c H locs 0 0 (MQ below (va_Qv (fun u => u = res) (ctB G ad ca (LC z)) A) (([.ref (ad 400 0)] : List Value).toArray) s 0 0 A) (F0 m 59 ls []) := by
    intro σ H locs ls hf hl hP hS
    unfold X8_findReach_c59 at hf
    refine lv_iconst (v := (0 : Int32)) hx hb dX8_findReach_59 rfl ?_
    refine lv_istore_n (lv' := [(1, .int (0 : Int32)), (0, .ref (ad 400 0))]) hx hb dX8_findReach_60 rfl hl (by decide) rfl (fun ls hl => ?_)
    exact l61 _ c115 _ (0 : Int32) σ _ _ _  hf (lv_sub hl [1, 0] rfl) hP hS
  refine lv_iconst (v := (0 : Int32)) hx hb dX8_findReach_0 rfl ?_
  refine lv_istore_n (lv' := [(1, .int (0 : Int32)), (0, .ref (ad 400 0))]) hx hb dX8_findReach_1 rfl hl (by decide) rfl (fun ls hl => ?_)
  exact l2 _ c59 _ (0 : Int32) σ _ _ _  hf (lv_sub hl [1, 0] rfl) hP hS
theorem h9_X8_goesRound : yX8_goesRound.cls = RX8 ∧ yX8_goesRound.cls ≠ "java/lang/invoke/MethodHandle" ∧ yX8_goesRound.cls ≠ "java/lang/invoke/VarHandle" ∧ (parseMethodDescriptor yX8_goesRound.desc).map (fun d => d.parameters.length) = some 0 := by decide +kernel
set_option maxRecDepth 100000 in
set_option maxHeartbeats 4000000 in
theorem t_X8_goesRound (l : Launch) (G : va_G) (ad : Nat → Nat → Nat) (ca : Nat → ClassId) (A : Nat → Prop) (z : Nat × Nat)  (hD : DW ad (LC z) A)  (σ : PS) (res : Int32) (hf : X8_goesRound z   σ = some res) : Met l yX8_goesRound wsX8_goesRound ({ frames := 0, cells := 0, slots := 0, locals := 0 }) (ctP G ad ca (LC z) σ ZC [.ref (ad 400 0)]) (va_Qi (fun r' u => r' = res ∧ u = σ) (ctB G ad ca (LC z)) A) 0 0 A := by
  refine Met.ofW (cc := cX8_goesRound) (maxL := 2) (ret := (some .boolean)) (by decide) rfl ?_
  intro p e s m args below meth c s₁ B hml hv
  obtain ⟨rfl, hP, hK, hz⟩ := hv
  have hx := B.exec
  have hb := B.bytes
  have hr := B.returns
  have hts : ∀ w ∈ WW, w.before _ s = true := fun w h => atoms_spec (ws := wsX8_goesRound) B.pre w (List.mem_cons_of_mem _ h)
  have hown : s.vm.findClass RX8 = some m.cls := findClass_of_methodNamed B.named
  have hlocks := B.notSynchronized
  have hS : va_S A s.heap s.heap [] := va_S.rf
  have k_18 := hts _ kf_X8_18
  have hl := lv_entry ([.ref (ad 400 0)]) (n := 2) (Nat.le_of_ble_eq_true rfl)
  rw [lg_entry_eq]
  generalize (lg_sl ([.ref (ad 400 0)]) ++ List.replicate (2 - (lg_sl ([.ref (ad 400 0)])).length) Slot.unset).toArray = ls at hl ⊢
  have hl : lv_has ls 2 [(0, .ref (ad 400 0))] := hl
  unfold X8_goesRound at hf
  have l2 : ∀ (kx2 : Option (Int32)), (∀ (H : Heap) (locs : List Loc) (ls : Array Slot), kx2 = some res → lv_has ls 2 [] → va_P G vwCl (wld ad ca σ (LC z)) H → va_S A s.heap H locs → W p l e (headSpec wsX8_goesRound ({ frames := 0, cells := 0, slots := 0, locals := 0 })).room s m (([.ref (ad 400 0)] : List Value).toArray) below meth c H locs 0 0 (MQ below (va_Qi (fun r' u => r' = res ∧ u = σ) (ctB G ad ca (LC z)) A) (([.ref (ad 400 0)] : List Value).toArray) s 0 0 A) (F0 m 29 ls [])) → ∀ (n2 : Nat) (v1 : Int32) (H : Heap) (locs : List Loc) (ls : Array Slot), X8_goesRound_l2 z  σ kx2 n2 v1 = some res → lv_has ls 2 [(0, .ref (ad 400 0)), (1, .int v1)] → va_P G vwCl (wld ad ca σ (LC z)) H → va_S A s.heap H locs → W p l e (headSpec wsX8_goesRound ({ frames := 0, cells := 0, slots := 0, locals := 0 })).room s m (([.ref (ad 400 0)] : List Value).toArray) below meth c H locs 0 0 (MQ below (va_Qi (fun r' u => r' = res ∧ u = σ) (ctB G ad ca (LC z)) A) (([.ref (ad 400 0)] : List Value).toArray) s 0 0 A) (F0 m 2 ls []) := by
    intro kx2 hx2 n2
    induction n2 with
    | zero =>
      intro v1 H locs ls hf
      exact absurd hf (by simp [X8_goesRound_l2])
    | succ n2 ih2 =>
      intro v1 H locs ls hf hl hP hS
      rw [X8_goesRound_l2.eq_2] at hf
      refine lv_iload_n hx hb dX8_goesRound_2 rfl (lv_at hl 1 rfl) ?_
      refine lv_bipush (v := (16 : Int32)) hx hb dX8_goesRound_3 rfl ?_
      refine lv_icmp_ge (tgt := 29) hx hb dX8_goesRound_5 rfl (fun hc => ?_) (fun hc => ?_)
      · have hf := b_p hf hc
        exact hx2  _ _ _  hf (lv_sub hl [] rfl) hP hS
      · have hf := b_n hf hc
        refine lv_aload_n hx hb dX8_goesRound_8 rfl (lv_at hl 0 rfl) ?_
        refine x_get (k := 400) (n := 0) hx hb hts i_X8 hown hK hP (mk_400 h01) rfl rfl 2 (by decide) rfl k_18 (v := .ref (ad 403 0)) rfl dX8_goesRound_9 ?_
        refine lv_iload_n hx hb dX8_goesRound_12 rfl (lv_at hl 1 rfl) ?_
        obtain ⟨g1, hf⟩ := gd_e hf
        refine x_iald (k := 403) (n := 0) hx hb hK hP (mk_403 h01) rfl g1 dX8_goesRound_13 ?_
        refine lv_iconst (v := (1 : Int32)) hx hb dX8_goesRound_14 rfl ?_
        refine lv_iload_n hx hb dX8_goesRound_15 rfl (lv_at hl 1 rfl) ?_
        refine lv_ishl hx hb dX8_goesRound_16 ?_
        refine lv_iand hx hb dX8_goesRound_17 ?_
        refine lv_if_eq (tgt := 23) hx hb dX8_goesRound_18 rfl (fun hc => ?_) (fun hc => ?_)
        · have hf := b_p hf hc
          refine lv_iinc (v := (v1 + (1 : Int32))) (lv' := [(1, .int (v1 + (1 : Int32))), (0, .ref (ad 400 0))]) hx hb dX8_goesRound_23 hl (k := 1) rfl rfl (by decide) rfl (fun ls hl => ?_)
          refine lv_goto (tgt := 2) hx hb dX8_goesRound_26 rfl ?_
          exact ih2 (v1 + (1 : Int32)) _ _ _  hf (lv_sub hl [1, 0] rfl) hP hS
        · have hf := b_n hf hc
          refine lv_iconst (v := (1 : Int32)) hx hb dX8_goesRound_21 rfl ?_
          exact x_zret hx hb hr hlocks hK hP hS (by decide) (Option.some.inj hf) rfl dX8_goesRound_22
  have c29 : ∀ (H : Heap) (locs : List Loc) (ls : Array Slot), X8_goesRound_c29 z  σ  = some res → lv_has ls 2 [] → va_P G vwCl (wld ad ca σ (LC z)) H → va_S A s.heap H locs → W p l e (headSpec wsX8_goesRound ({ frames := 0, cells := 0, slots := 0, locals := 0 })).room s m (([.ref (ad 400 0)] : List Value).toArray) below meth c H locs 0 0 (MQ below (va_Qi (fun r' u => r' = res ∧ u = σ) (ctB G ad ca (LC z)) A) (([.ref (ad 400 0)] : List Value).toArray) s 0 0 A) (F0 m 29 ls []) := by
    intro H locs ls hf hl hP hS
    unfold X8_goesRound_c29 at hf
    refine lv_iconst (v := (0 : Int32)) hx hb dX8_goesRound_29 rfl ?_
    exact x_zret hx hb hr hlocks hK hP hS (by decide) (Option.some.inj hf) rfl dX8_goesRound_30
  refine lv_iconst (v := (0 : Int32)) hx hb dX8_goesRound_0 rfl ?_
  refine lv_istore_n (lv' := [(1, .int (0 : Int32)), (0, .ref (ad 400 0))]) hx hb dX8_goesRound_1 rfl hl (by decide) rfl (fun ls hl => ?_)
  exact l2 _ c29 _ (0 : Int32) _ _ _  hf (lv_sub hl [1, 0] rfl) hP hS
theorem h9_X9_isClass : yX9_isClass.cls ≠ "java/lang/invoke/MethodHandle" ∧ yX9_isClass.cls ≠ "java/lang/invoke/VarHandle" ∧ (parseMethodDescriptor yX9_isClass.desc).map (fun d => d.parameters.length) = some 1 := by decide +kernel
set_option maxRecDepth 100000 in
set_option maxHeartbeats 4000000 in
theorem t_X9_isClass (l : Launch) (G : va_G) (ad : Nat → Nat → Nat) (ca : Nat → ClassId) (A : Nat → Prop) (z : Nat × Nat)  (x0 : Int32) (hD : DW ad (LC z) A)  (σ : PS) (res : Int32) (hf : X9_isClass z  x0 σ = some res) : Met l yX9_isClass wsX9_isClass ({ frames := 0, cells := 0, slots := 0, locals := 0 }) (ctP G ad ca (LC z) σ ZC [.int x0]) (va_Qi (fun r' u => r' = res ∧ u = σ) (ctB G ad ca (LC z)) A) 0 0 A := by
  refine Met.ofW (cc := cX9_isClass) (maxL := 1) (ret := (some .boolean)) (by decide) rfl ?_
  intro p e s m args below meth c s₁ B hml hv
  obtain ⟨rfl, hP, hK, hz⟩ := hv
  have hx := B.exec
  have hb := B.bytes
  have hr := B.returns
  have hts : ∀ w ∈ WW, w.before _ s = true := fun w h => atoms_spec (ws := wsX9_isClass) B.pre w (List.mem_cons_of_mem _ h)
  have hown : s.vm.findClass RX9 = some m.cls := findClass_of_methodNamed B.named
  have hlocks := B.notSynchronized
  have hS : va_S A s.heap s.heap [] := va_S.rf
  have hl := lv_entry ([.int x0]) (n := 1) (Nat.le_of_ble_eq_true rfl)
  rw [lg_entry_eq]
  generalize (lg_sl ([.int x0]) ++ List.replicate (1 - (lg_sl ([.int x0])).length) Slot.unset).toArray = ls at hl ⊢
  have hl : lv_has ls 1 [(0, .int x0)] := hl
  unfold X9_isClass at hf
  refine lv_iload_n hx hb dX9_isClass_0 rfl (lv_at hl 0 rfl) ?_
  refine lv_if_lt (tgt := 14) hx hb dX9_isClass_1 rfl (fun hc => ?_) (fun hc => ?_)
  · have hf := b_p hf hc
    refine lv_iconst (v := (0 : Int32)) hx hb dX9_isClass_14 rfl ?_
    exact x_zret hx hb hr hlocks hK hP hS (by decide) (Option.some.inj hf) rfl dX9_isClass_15
  · have hf := b_n hf hc
    refine lv_iload_n hx hb dX9_isClass_4 rfl (lv_at hl 0 rfl) ?_
    refine lv_bipush (v := (12 : Int32)) hx hb dX9_isClass_5 rfl ?_
    refine lv_icmp_ge (tgt := 14) hx hb dX9_isClass_7 rfl (fun hc => ?_) (fun hc => ?_)
    · have hf := b_p hf hc
      refine lv_iconst (v := (0 : Int32)) hx hb dX9_isClass_14 rfl ?_
      exact x_zret hx hb hr hlocks hK hP hS (by decide) (Option.some.inj hf) rfl dX9_isClass_15
    · have hf := b_n hf hc
      refine lv_iconst (v := (1 : Int32)) hx hb dX9_isClass_10 rfl ?_
      refine lv_goto (tgt := 15) hx hb dX9_isClass_11 rfl ?_
      exact x_zret hx hb hr hlocks hK hP hS (by decide) (Option.some.inj hf) rfl dX9_isClass_15
theorem h9_X9_parent : yX9_parent.cls = RX9 ∧ yX9_parent.cls ≠ "java/lang/invoke/MethodHandle" ∧ yX9_parent.cls ≠ "java/lang/invoke/VarHandle" ∧ (parseMethodDescriptor yX9_parent.desc).map (fun d => d.parameters.length) = some 2 := by decide +kernel
set_option maxRecDepth 100000 in
set_option maxHeartbeats 4000000 in
theorem t_X9_parent (l : Launch) (G : va_G) (ad : Nat → Nat → Nat) (ca : Nat → ClassId) (A : Nat → Prop) (z : Nat × Nat)  (x1 : Int32) (x2 : Int32) (hD : DW ad (LC z) A)  (σ : PS) (res : Int32) (σz : PS) (hf : X9_parent z  x1 x2 σ = some (res, σz)) : Met l yX9_parent wsX9_parent ({ frames := 1, cells := 0, slots := 0, locals := 20 }) (ctP G ad ca (LC z) σ ZC [.ref (ad 450 0), .int x1, .int x2]) (va_Qi (fun r' u => r' = res ∧ u = σz) (ctB G ad ca (LC z)) A) 0 0 A := by
  refine Met.ofW (cc := cX9_parent) (maxL := 3) (ret := (some .int)) (by decide) rfl ?_
  intro p e s m args below meth c s₁ B hml hv
  obtain ⟨rfl, hP, hK, hz⟩ := hv
  have hx := B.exec
  have hb := B.bytes
  have hr := B.returns
  have hts : ∀ w ∈ WW, w.before _ s = true := fun w h => atoms_spec (ws := wsX9_parent) B.pre w (List.mem_cons_of_mem _ h)
  have hown : s.vm.findClass RX9 = some m.cls := findClass_of_methodNamed B.named
  have hlocks := B.notSynchronized
  have hS : va_S A s.heap s.heap [] := va_S.rf
  have k_12 := hts _ kf_X9_12
  have k_77 := hts _ kf_X9_77
  have k_81 := hts _ kf_X9_81
  have hl := lv_entry ([.ref (ad 450 0), .int x1, .int x2]) (n := 3) (Nat.le_of_ble_eq_true rfl)
  rw [lg_entry_eq]
  generalize (lg_sl ([.ref (ad 450 0), .int x1, .int x2]) ++ List.replicate (3 - (lg_sl ([.ref (ad 450 0), .int x1, .int x2])).length) Slot.unset).toArray = ls at hl ⊢
  have hl : lv_has ls 3 [(0, .ref (ad 450 0)), (1, .int x1), (2, .int x2)] := hl
  unfold X9_parent at hf
  refine lv_iload_n hx hb dX9_parent_0 rfl (lv_at hl 1 rfl) ?_
  obtain ⟨r1, hc1, hf⟩ := bd_e hf
  refine x_ci (va_runS (As := [.int x1]) (rest := []) ⟨hx, hb, hml, hown, hts⟩ (t_X9_isClass l G ad ca A z x1 hD  σ r1 hc1) (va_cwS 1 hts gr_X9_73 rfl rfl rfl h9_X9_isClass ⟨Nat.le_of_ble_eq_true rfl, Nat.le_of_ble_eq_true rfl⟩) (x_prS zkC hz hK hP) rfl rfl hl.1 rfl (lv_room (Nat.le_of_ble_eq_true rfl)) dX9_parent_1 ⟨Nat.le_of_ble_eq_true rfl, Nat.le_of_ble_eq_true rfl⟩) hS (fun H locs hP hS => ?_)
  refine lv_if_eq (tgt := 19) hx hb dX9_parent_4 rfl (fun hc => ?_) (fun hc => ?_)
  · have hf := b_p hf hc
    refine lv_bipush (v := (-2 : Int32)) hx hb dX9_parent_19 rfl ?_
    have hf := Option.some.inj hf
    exact x_iret hx hb hr hlocks hK hP hS (congrArg Prod.fst hf) (congrArg Prod.snd hf) dX9_parent_21
  · have hf := b_n hf hc
    refine lv_iload_n hx hb dX9_parent_7 rfl (lv_at hl 2 rfl) ?_
    refine lv_iconst (v := (-1 : Int32)) hx hb dX9_parent_8 rfl ?_
    refine lv_icmp_eq (tgt := 22) hx hb dX9_parent_9 rfl (fun hc => ?_) (fun hc => ?_)
    · have hf := b_p hf hc
      refine lv_aload_n hx hb dX9_parent_22 rfl (lv_at hl 0 rfl) ?_
      refine x_get (k := 450) (n := 0) hx hb hts i_X9 hown hK hP (mk_450 h01) rfl rfl 0 (by decide) rfl k_12 (v := .ref (ad 400 0)) rfl dX9_parent_23 ?_
      refine x_get (k := 400) (n := 0) hx hb hts i_X8 hown hK hP (mk_400 h01) rfl rfl 4 (by decide) rfl k_77 (v := .int (gI σ 400 0 4)) rfl dX9_parent_26 ?_
      refine lv_if_eq (tgt := 35) hx hb dX9_parent_29 rfl (fun hc => ?_) (fun hc => ?_)
      · have hf := b_p hf hc
        refine lv_aload_n hx hb dX9_parent_35 rfl (lv_at hl 0 rfl) ?_
        refine x_get (k := 450) (n := 0) hx hb hts i_X9 hown hK hP (mk_450 h01) rfl rfl 0 (by decide) rfl k_12 (v := .ref (ad 400 0)) rfl dX9_parent_36 ?_
        refine x_get (k := 400) (n := 0) hx hb hts i_X8 hown hK hP (mk_400 h01) rfl rfl 0 (by decide) rfl k_81 (v := .ref (ad 401 0)) rfl dX9_parent_39 ?_
        refine lv_iload_n hx hb dX9_parent_42 rfl (lv_at hl 1 rfl) ?_
        refine lv_iload_n hx hb dX9_parent_43 rfl (lv_at hl 2 rfl) ?_
        obtain ⟨g2, hf⟩ := gd_e hf
        refine x_iast (k := 401) (n := 0) hx hb hK hD hP hS (mk_401 h01) rfl g2 dX9_parent_44 (fun H locs hP hS => ?_)
        obtain ⟨σ3, e_σ3, hf⟩ := nm_i hf
        have hP : va_P G vwCl (wld ad ca σ3 (LC z)) H := by rw [e_σ3]; exact hP
        refine lv_iconst (v := (1 : Int32)) hx hb dX9_parent_45 rfl ?_
        have hf := Option.some.inj hf
        exact x_iret hx hb hr hlocks hK hP hS (congrArg Prod.fst hf) (congrArg Prod.snd hf) dX9_parent_46
      · have hf := b_n hf hc
        refine lv_bipush (v := (-3 : Int32)) hx hb dX9_parent_32 rfl ?_
        have hf := Option.some.inj hf
        exact x_iret hx hb hr hlocks hK hP hS (congrArg Prod.fst hf) (congrArg Prod.snd hf) dX9_parent_34
    · have hf := b_n hf hc
      refine lv_iload_n hx hb dX9_parent_12 rfl (lv_at hl 2 rfl) ?_
      obtain ⟨r4, hc4, hf⟩ := bd_e hf
      refine x_ci (va_runS (As := [.int x2]) (rest := []) ⟨hx, hb, hml, hown, hts⟩ (t_X9_isClass l G ad ca A z x2 hD  σ r4 hc4) (va_cwS 1 hts gr_X9_73 rfl rfl rfl h9_X9_isClass ⟨Nat.le_of_ble_eq_true rfl, Nat.le_of_ble_eq_true rfl⟩) (x_prS zkC hz hK hP) rfl rfl hl.1 rfl (lv_room (Nat.le_of_ble_eq_true rfl)) dX9_parent_13 ⟨Nat.le_of_ble_eq_true rfl, Nat.le_of_ble_eq_true rfl⟩) hS (fun H locs hP hS => ?_)
      refine lv_if_ne (tgt := 22) hx hb dX9_parent_16 rfl (fun hc => ?_) (fun hc => ?_)
      · have hf := b_n hf hc
        refine lv_aload_n hx hb dX9_parent_22 rfl (lv_at hl 0 rfl) ?_
        refine x_get (k := 450) (n := 0) hx hb hts i_X9 hown hK hP (mk_450 h01) rfl rfl 0 (by decide) rfl k_12 (v := .ref (ad 400 0)) rfl dX9_parent_23 ?_
        refine x_get (k := 400) (n := 0) hx hb hts i_X8 hown hK hP (mk_400 h01) rfl rfl 4 (by decide) rfl k_77 (v := .int (gI σ 400 0 4)) rfl dX9_parent_26 ?_
        refine lv_if_eq (tgt := 35) hx hb dX9_parent_29 rfl (fun hc => ?_) (fun hc => ?_)
        · have hf := b_p hf hc
          refine lv_aload_n hx hb dX9_parent_35 rfl (lv_at hl 0 rfl) ?_
          refine x_get (k := 450) (n := 0) hx hb hts i_X9 hown hK hP (mk_450 h01) rfl rfl 0 (by decide) rfl k_12 (v := .ref (ad 400 0)) rfl dX9_parent_36 ?_
          refine x_get (k := 400) (n := 0) hx hb hts i_X8 hown hK hP (mk_400 h01) rfl rfl 0 (by decide) rfl k_81 (v := .ref (ad 401 0)) rfl dX9_parent_39 ?_
          refine lv_iload_n hx hb dX9_parent_42 rfl (lv_at hl 1 rfl) ?_
          refine lv_iload_n hx hb dX9_parent_43 rfl (lv_at hl 2 rfl) ?_
          obtain ⟨g5, hf⟩ := gd_e hf
          refine x_iast (k := 401) (n := 0) hx hb hK hD hP hS (mk_401 h01) rfl g5 dX9_parent_44 (fun H locs hP hS => ?_)
          obtain ⟨σ6, e_σ6, hf⟩ := nm_i hf
          have hP : va_P G vwCl (wld ad ca σ6 (LC z)) H := by rw [e_σ6]; exact hP
          refine lv_iconst (v := (1 : Int32)) hx hb dX9_parent_45 rfl ?_
          have hf := Option.some.inj hf
          exact x_iret hx hb hr hlocks hK hP hS (congrArg Prod.fst hf) (congrArg Prod.snd hf) dX9_parent_46
        · have hf := b_n hf hc
          refine lv_bipush (v := (-3 : Int32)) hx hb dX9_parent_32 rfl ?_
          have hf := Option.some.inj hf
          exact x_iret hx hb hr hlocks hK hP hS (congrArg Prod.fst hf) (congrArg Prod.snd hf) dX9_parent_34
      · have hf := b_p hf hc
        refine lv_bipush (v := (-2 : Int32)) hx hb dX9_parent_19 rfl ?_
        have hf := Option.some.inj hf
        exact x_iret hx hb hr hlocks hK hP hS (congrArg Prod.fst hf) (congrArg Prod.snd hf) dX9_parent_21
theorem h9_X9_isTrait : yX9_isTrait.cls ≠ "java/lang/invoke/MethodHandle" ∧ yX9_isTrait.cls ≠ "java/lang/invoke/VarHandle" ∧ (parseMethodDescriptor yX9_isTrait.desc).map (fun d => d.parameters.length) = some 1 := by decide +kernel
set_option maxRecDepth 100000 in
set_option maxHeartbeats 4000000 in
theorem t_X9_isTrait (l : Launch) (G : va_G) (ad : Nat → Nat → Nat) (ca : Nat → ClassId) (A : Nat → Prop) (z : Nat × Nat)  (x0 : Int32) (hD : DW ad (LC z) A)  (σ : PS) (res : Int32) (hf : X9_isTrait z  x0 σ = some res) : Met l yX9_isTrait wsX9_isTrait ({ frames := 0, cells := 0, slots := 0, locals := 0 }) (ctP G ad ca (LC z) σ ZC [.int x0]) (va_Qi (fun r' u => r' = res ∧ u = σ) (ctB G ad ca (LC z)) A) 0 0 A := by
  refine Met.ofW (cc := cX9_isTrait) (maxL := 1) (ret := (some .boolean)) (by decide) rfl ?_
  intro p e s m args below meth c s₁ B hml hv
  obtain ⟨rfl, hP, hK, hz⟩ := hv
  have hx := B.exec
  have hb := B.bytes
  have hr := B.returns
  have hts : ∀ w ∈ WW, w.before _ s = true := fun w h => atoms_spec (ws := wsX9_isTrait) B.pre w (List.mem_cons_of_mem _ h)
  have hown : s.vm.findClass RX9 = some m.cls := findClass_of_methodNamed B.named
  have hlocks := B.notSynchronized
  have hS : va_S A s.heap s.heap [] := va_S.rf
  have hl := lv_entry ([.int x0]) (n := 1) (Nat.le_of_ble_eq_true rfl)
  rw [lg_entry_eq]
  generalize (lg_sl ([.int x0]) ++ List.replicate (1 - (lg_sl ([.int x0])).length) Slot.unset).toArray = ls at hl ⊢
  have hl : lv_has ls 1 [(0, .int x0)] := hl
  unfold X9_isTrait at hf
  refine lv_iload_n hx hb dX9_isTrait_0 rfl (lv_at hl 0 rfl) ?_
  refine lv_bipush (v := (12 : Int32)) hx hb dX9_isTrait_1 rfl ?_
  refine lv_icmp_lt (tgt := 16) hx hb dX9_isTrait_3 rfl (fun hc => ?_) (fun hc => ?_)
  · have hf := b_p hf hc
    refine lv_iconst (v := (0 : Int32)) hx hb dX9_isTrait_16 rfl ?_
    exact x_zret hx hb hr hlocks hK hP hS (by decide) (Option.some.inj hf) rfl dX9_isTrait_17
  · have hf := b_n hf hc
    refine lv_iload_n hx hb dX9_isTrait_6 rfl (lv_at hl 0 rfl) ?_
    refine lv_bipush (v := (16 : Int32)) hx hb dX9_isTrait_7 rfl ?_
    refine lv_icmp_ge (tgt := 16) hx hb dX9_isTrait_9 rfl (fun hc => ?_) (fun hc => ?_)
    · have hf := b_p hf hc
      refine lv_iconst (v := (0 : Int32)) hx hb dX9_isTrait_16 rfl ?_
      exact x_zret hx hb hr hlocks hK hP hS (by decide) (Option.some.inj hf) rfl dX9_isTrait_17
    · have hf := b_n hf hc
      refine lv_iconst (v := (1 : Int32)) hx hb dX9_isTrait_12 rfl ?_
      refine lv_goto (tgt := 17) hx hb dX9_isTrait_13 rfl ?_
      exact x_zret hx hb hr hlocks hK hP hS (by decide) (Option.some.inj hf) rfl dX9_isTrait_17
theorem h9_X9_trait : yX9_trait.cls = RX9 ∧ yX9_trait.cls ≠ "java/lang/invoke/MethodHandle" ∧ yX9_trait.cls ≠ "java/lang/invoke/VarHandle" ∧ (parseMethodDescriptor yX9_trait.desc).map (fun d => d.parameters.length) = some 2 := by decide +kernel
set_option maxRecDepth 100000 in
set_option maxHeartbeats 4000000 in
theorem t_X9_trait (l : Launch) (G : va_G) (ad : Nat → Nat → Nat) (ca : Nat → ClassId) (A : Nat → Prop) (z : Nat × Nat)  (x1 : Int32) (x2 : Int32) (hD : DW ad (LC z) A)  (σ : PS) (res : Int32) (σz : PS) (hf : X9_trait z  x1 x2 σ = some (res, σz)) : Met l yX9_trait wsX9_trait ({ frames := 1, cells := 0, slots := 0, locals := 23 }) (ctP G ad ca (LC z) σ ZC [.ref (ad 450 0), .int x1, .int x2]) (va_Qi (fun r' u => r' = res ∧ u = σz) (ctB G ad ca (LC z)) A) 0 0 A := by
  refine Met.ofW (cc := cX9_trait) (maxL := 3) (ret := (some .int)) (by decide) rfl ?_
  intro p e s m args below meth c s₁ B hml hv
  obtain ⟨rfl, hP, hK, hz⟩ := hv
  have hx := B.exec
  have hb := B.bytes
  have hr := B.returns
  have hts : ∀ w ∈ WW, w.before _ s = true := fun w h => atoms_spec (ws := wsX9_trait) B.pre w (List.mem_cons_of_mem _ h)
  have hown : s.vm.findClass RX9 = some m.cls := findClass_of_methodNamed B.named
  have hlocks := B.notSynchronized
  have hS : va_S A s.heap s.heap [] := va_S.rf
  have k_12 := hts _ kf_X9_12
  have k_77 := hts _ kf_X9_77
  have hl := lv_entry ([.ref (ad 450 0), .int x1, .int x2]) (n := 3) (Nat.le_of_ble_eq_true rfl)
  rw [lg_entry_eq]
  generalize (lg_sl ([.ref (ad 450 0), .int x1, .int x2]) ++ List.replicate (3 - (lg_sl ([.ref (ad 450 0), .int x1, .int x2])).length) Slot.unset).toArray = ls at hl ⊢
  have hl : lv_has ls 3 [(0, .ref (ad 450 0)), (1, .int x1), (2, .int x2)] := hl
  unfold X9_trait at hf
  refine lv_iload_n hx hb dX9_trait_0 rfl (lv_at hl 1 rfl) ?_
  obtain ⟨r1, hc1, hf⟩ := bd_e hf
  refine x_ci (va_runS (As := [.int x1]) (rest := []) ⟨hx, hb, hml, hown, hts⟩ (t_X9_isTrait l G ad ca A z x1 hD  σ r1 hc1) (va_cwS 1 hts gr_X9_84 rfl rfl rfl h9_X9_isTrait ⟨Nat.le_of_ble_eq_true rfl, Nat.le_of_ble_eq_true rfl⟩) (x_prS zkC hz hK hP) rfl rfl hl.1 rfl (lv_room (Nat.le_of_ble_eq_true rfl)) dX9_trait_1 ⟨Nat.le_of_ble_eq_true rfl, Nat.le_of_ble_eq_true rfl⟩) hS (fun H locs hP hS => ?_)
  refine lv_if_eq (tgt := 14) hx hb dX9_trait_4 rfl (fun hc => ?_) (fun hc => ?_)
  · have hf := b_p hf hc
    refine lv_bipush (v := (-2 : Int32)) hx hb dX9_trait_14 rfl ?_
    have hf := Option.some.inj hf
    exact x_iret hx hb hr hlocks hK hP hS (congrArg Prod.fst hf) (congrArg Prod.snd hf) dX9_trait_16
  · have hf := b_n hf hc
    refine lv_iload_n hx hb dX9_trait_7 rfl (lv_at hl 2 rfl) ?_
    obtain ⟨r2, hc2, hf⟩ := bd_e hf
    refine x_ci (va_runS (As := [.int x2]) (rest := []) ⟨hx, hb, hml, hown, hts⟩ (t_X9_isTrait l G ad ca A z x2 hD  σ r2 hc2) (va_cwS 1 hts gr_X9_84 rfl rfl rfl h9_X9_isTrait ⟨Nat.le_of_ble_eq_true rfl, Nat.le_of_ble_eq_true rfl⟩) (x_prS zkC hz hK hP) rfl rfl hl.1 rfl (lv_room (Nat.le_of_ble_eq_true rfl)) dX9_trait_8 ⟨Nat.le_of_ble_eq_true rfl, Nat.le_of_ble_eq_true rfl⟩) hS (fun H locs hP hS => ?_)
    refine lv_if_ne (tgt := 17) hx hb dX9_trait_11 rfl (fun hc => ?_) (fun hc => ?_)
    · have hf := b_n hf hc
      refine lv_aload_n hx hb dX9_trait_17 rfl (lv_at hl 0 rfl) ?_
      refine x_get (k := 450) (n := 0) hx hb hts i_X9 hown hK hP (mk_450 h01) rfl rfl 0 (by decide) rfl k_12 (v := .ref (ad 400 0)) rfl dX9_trait_18 ?_
      refine x_get (k := 400) (n := 0) hx hb hts i_X8 hown hK hP (mk_400 h01) rfl rfl 4 (by decide) rfl k_77 (v := .int (gI σ 400 0 4)) rfl dX9_trait_21 ?_
      refine lv_if_eq (tgt := 32) hx hb dX9_trait_24 rfl (fun hc => ?_) (fun hc => ?_)
      · have hf := b_p hf hc
        refine lv_aload_n hx hb dX9_trait_32 rfl (lv_at hl 0 rfl) ?_
        refine x_get (k := 450) (n := 0) hx hb hts i_X9 hown hK hP (mk_450 h01) rfl rfl 0 (by decide) rfl k_12 (v := .ref (ad 400 0)) rfl dX9_trait_33 ?_
        refine lv_iload_n hx hb dX9_trait_36 rfl (lv_at hl 1 rfl) ?_
        refine lv_iload_n hx hb dX9_trait_37 rfl (lv_at hl 2 rfl) ?_
        obtain ⟨r3, σ3, hc3, hf⟩ := bp_e hf
        refine x_ci (va_runV (As := [.int x1, .int x2]) (rest := []) ⟨hx, hb, hml, hown, hts⟩ (t_X8_addTrait l G ad ca A z x1 x2 hD  σ r3 σ3 hc3) (cwV 2 hts gr_X9_87 rfl rfl rfl h9_X8_addTrait ⟨Nat.le_of_ble_eq_true rfl, Nat.le_of_ble_eq_true rfl⟩) (x_prV zkC hz hK hP (mk_400 h01) rfl rfl) rfl rfl hl.1 rfl (lv_room (Nat.le_of_ble_eq_true rfl)) dX9_trait_38 ⟨Nat.le_of_ble_eq_true rfl, Nat.le_of_ble_eq_true rfl⟩) hS (fun H locs hP hS => ?_)
        have hf := Option.some.inj hf
        exact x_iret hx hb hr hlocks hK hP hS (congrArg Prod.fst hf) (congrArg Prod.snd hf) dX9_trait_41
      · have hf := b_n hf hc
        refine lv_bipush (v := (-3 : Int32)) hx hb dX9_trait_27 rfl ?_
        refine lv_goto (tgt := 41) hx hb dX9_trait_29 rfl ?_
        have hf := Option.some.inj hf
        exact x_iret hx hb hr hlocks hK hP hS (congrArg Prod.fst hf) (congrArg Prod.snd hf) dX9_trait_41
    · have hf := b_p hf hc
      refine lv_bipush (v := (-2 : Int32)) hx hb dX9_trait_14 rfl ?_
      have hf := Option.some.inj hf
      exact x_iret hx hb hr hlocks hK hP hS (congrArg Prod.fst hf) (congrArg Prod.snd hf) dX9_trait_16

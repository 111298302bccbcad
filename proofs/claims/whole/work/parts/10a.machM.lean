theorem h9_X10_isClass : yX10_isClass.cls ≠ "java/lang/invoke/MethodHandle" ∧ yX10_isClass.cls ≠ "java/lang/invoke/VarHandle" ∧ (parseMethodDescriptor yX10_isClass.desc).map (fun d => d.parameters.length) = some 1 := by decide +kernel
set_option maxRecDepth 100000 in
set_option maxHeartbeats 4000000 in
theorem t_X10_isClass (l : Launch) (G : va_G) (ad : Nat → Nat → Nat) (ca : Nat → ClassId) (A : Nat → Prop)   (x0 : Int32) (hD : DW ad LM A)  (σ : PS) (res : Int32) (hf : X10_isClass  x0 σ = some res) : Met l yX10_isClass wsX10_isClass ({ frames := 0, cells := 0, slots := 0, locals := 0 }) (ctP G ad ca LM σ ZM [.int x0]) (va_Qi (fun r' u => r' = res ∧ u = σ) (ctB G ad ca LM) A) 0 0 A := by
  refine Met.ofW (cc := cX10_isClass) (maxL := 1) (ret := (some .boolean)) (by decide) rfl ?_
  intro p e s m args below meth c s₁ B hml hv
  obtain ⟨rfl, hP, hK, hz⟩ := hv
  have hx := B.exec
  have hb := B.bytes
  have hr := B.returns
  have hts : ∀ w ∈ WW, w.before _ s = true := fun w h => atoms_spec (ws := wsX10_isClass) B.pre w (List.mem_cons_of_mem _ h)
  have hown : s.vm.findClass RX10 = some m.cls := findClass_of_methodNamed B.named
  have hlocks := B.notSynchronized
  have hS : va_S A s.heap s.heap [] := va_S.rf
  have hl := lv_entry ([.int x0]) (n := 1) (Nat.le_of_ble_eq_true rfl)
  rw [lg_entry_eq]
  generalize (lg_sl ([.int x0]) ++ List.replicate (1 - (lg_sl ([.int x0])).length) Slot.unset).toArray = ls at hl ⊢
  have hl : lv_has ls 1 [(0, .int x0)] := hl
  unfold X10_isClass at hf
  refine lv_iload_n hx hb dX10_isClass_0 rfl (lv_at hl 0 rfl) ?_
  refine lv_if_lt (tgt := 14) hx hb dX10_isClass_1 rfl (fun hc => ?_) (fun hc => ?_)
  · have hf := b_p hf hc
    refine lv_iconst (v := (0 : Int32)) hx hb dX10_isClass_14 rfl ?_
    exact x_zret hx hb hr hlocks hK hP hS (by decide) (Option.some.inj hf) rfl dX10_isClass_15
  · have hf := b_n hf hc
    refine lv_iload_n hx hb dX10_isClass_4 rfl (lv_at hl 0 rfl) ?_
    refine lv_bipush (v := (12 : Int32)) hx hb dX10_isClass_5 rfl ?_
    refine lv_icmp_ge (tgt := 14) hx hb dX10_isClass_7 rfl (fun hc => ?_) (fun hc => ?_)
    · have hf := b_p hf hc
      refine lv_iconst (v := (0 : Int32)) hx hb dX10_isClass_14 rfl ?_
      exact x_zret hx hb hr hlocks hK hP hS (by decide) (Option.some.inj hf) rfl dX10_isClass_15
    · have hf := b_n hf hc
      refine lv_iconst (v := (1 : Int32)) hx hb dX10_isClass_10 rfl ?_
      refine lv_goto (tgt := 15) hx hb dX10_isClass_11 rfl ?_
      exact x_zret hx hb hr hlocks hK hP hS (by decide) (Option.some.inj hf) rfl dX10_isClass_15
theorem h9_X10_isTrait : yX10_isTrait.cls ≠ "java/lang/invoke/MethodHandle" ∧ yX10_isTrait.cls ≠ "java/lang/invoke/VarHandle" ∧ (parseMethodDescriptor yX10_isTrait.desc).map (fun d => d.parameters.length) = some 1 := by decide +kernel
set_option maxRecDepth 100000 in
set_option maxHeartbeats 4000000 in
theorem t_X10_isTrait (l : Launch) (G : va_G) (ad : Nat → Nat → Nat) (ca : Nat → ClassId) (A : Nat → Prop)   (x0 : Int32) (hD : DW ad LM A)  (σ : PS) (res : Int32) (hf : X10_isTrait  x0 σ = some res) : Met l yX10_isTrait wsX10_isTrait ({ frames := 0, cells := 0, slots := 0, locals := 0 }) (ctP G ad ca LM σ ZM [.int x0]) (va_Qi (fun r' u => r' = res ∧ u = σ) (ctB G ad ca LM) A) 0 0 A := by
  refine Met.ofW (cc := cX10_isTrait) (maxL := 1) (ret := (some .boolean)) (by decide) rfl ?_
  intro p e s m args below meth c s₁ B hml hv
  obtain ⟨rfl, hP, hK, hz⟩ := hv
  have hx := B.exec
  have hb := B.bytes
  have hr := B.returns
  have hts : ∀ w ∈ WW, w.before _ s = true := fun w h => atoms_spec (ws := wsX10_isTrait) B.pre w (List.mem_cons_of_mem _ h)
  have hown : s.vm.findClass RX10 = some m.cls := findClass_of_methodNamed B.named
  have hlocks := B.notSynchronized
  have hS : va_S A s.heap s.heap [] := va_S.rf
  have hl := lv_entry ([.int x0]) (n := 1) (Nat.le_of_ble_eq_true rfl)
  rw [lg_entry_eq]
  generalize (lg_sl ([.int x0]) ++ List.replicate (1 - (lg_sl ([.int x0])).length) Slot.unset).toArray = ls at hl ⊢
  have hl : lv_has ls 1 [(0, .int x0)] := hl
  unfold X10_isTrait at hf
  refine lv_iload_n hx hb dX10_isTrait_0 rfl (lv_at hl 0 rfl) ?_
  refine lv_bipush (v := (12 : Int32)) hx hb dX10_isTrait_1 rfl ?_
  refine lv_icmp_lt (tgt := 16) hx hb dX10_isTrait_3 rfl (fun hc => ?_) (fun hc => ?_)
  · have hf := b_p hf hc
    refine lv_iconst (v := (0 : Int32)) hx hb dX10_isTrait_16 rfl ?_
    exact x_zret hx hb hr hlocks hK hP hS (by decide) (Option.some.inj hf) rfl dX10_isTrait_17
  · have hf := b_n hf hc
    refine lv_iload_n hx hb dX10_isTrait_6 rfl (lv_at hl 0 rfl) ?_
    refine lv_bipush (v := (16 : Int32)) hx hb dX10_isTrait_7 rfl ?_
    refine lv_icmp_ge (tgt := 16) hx hb dX10_isTrait_9 rfl (fun hc => ?_) (fun hc => ?_)
    · have hf := b_p hf hc
      refine lv_iconst (v := (0 : Int32)) hx hb dX10_isTrait_16 rfl ?_
      exact x_zret hx hb hr hlocks hK hP hS (by decide) (Option.some.inj hf) rfl dX10_isTrait_17
    · have hf := b_n hf hc
      refine lv_iconst (v := (1 : Int32)) hx hb dX10_isTrait_12 rfl ?_
      refine lv_goto (tgt := 17) hx hb dX10_isTrait_13 rfl ?_
      exact x_zret hx hb hr hlocks hK hP hS (by decide) (Option.some.inj hf) rfl dX10_isTrait_17
theorem h9_X10_parent : yX10_parent.cls = RX10 ∧ yX10_parent.cls ≠ "java/lang/invoke/MethodHandle" ∧ yX10_parent.cls ≠ "java/lang/invoke/VarHandle" ∧ (parseMethodDescriptor yX10_parent.desc).map (fun d => d.parameters.length) = some 2 := by decide +kernel
set_option maxRecDepth 100000 in
set_option maxHeartbeats 4000000 in
theorem t_X10_parent (l : Launch) (G : va_G) (ad : Nat → Nat → Nat) (ca : Nat → ClassId) (A : Nat → Prop)   (x1 : Int32) (x2 : Int32) (hD : DW ad LM A)  (σ : PS) (res : Int32) (σz : PS) (hf : X10_parent  x1 x2 σ = some (res, σz)) : Met l yX10_parent wsX10_parent ({ frames := 1, cells := 0, slots := 0, locals := 20 }) (ctP G ad ca LM σ ZM [.ref (ad 500 0), .int x1, .int x2]) (va_Qi (fun r' u => r' = res ∧ u = σz) (ctB G ad ca LM) A) 0 0 A := by
  refine Met.ofW (cc := cX10_parent) (maxL := 3) (ret := (some .int)) (by decide) rfl ?_
  intro p e s m args below meth c s₁ B hml hv
  obtain ⟨rfl, hP, hK, hz⟩ := hv
  have hx := B.exec
  have hb := B.bytes
  have hr := B.returns
  have hts : ∀ w ∈ WW, w.before _ s = true := fun w h => atoms_spec (ws := wsX10_parent) B.pre w (List.mem_cons_of_mem _ h)
  have hown : s.vm.findClass RX10 = some m.cls := findClass_of_methodNamed B.named
  have hlocks := B.notSynchronized
  have hS : va_S A s.heap s.heap [] := va_S.rf
  have k_7 := hts _ kf_X10_7
  have k_110 := hts _ kf_X10_110
  have hl := lv_entry ([.ref (ad 500 0), .int x1, .int x2]) (n := 3) (Nat.le_of_ble_eq_true rfl)
  rw [lg_entry_eq]
  generalize (lg_sl ([.ref (ad 500 0), .int x1, .int x2]) ++ List.replicate (3 - (lg_sl ([.ref (ad 500 0), .int x1, .int x2])).length) Slot.unset).toArray = ls at hl ⊢
  have hl : lv_has ls 3 [(0, .ref (ad 500 0)), (1, .int x1), (2, .int x2)] := hl
  unfold X10_parent at hf
  refine lv_iload_n hx hb dX10_parent_0 rfl (lv_at hl 1 rfl) ?_
  obtain ⟨r1, hc1, hf⟩ := bd_e hf
  refine x_ci (va_runS (As := [.int x1]) (rest := []) ⟨hx, hb, hml, hown, hts⟩ (t_X10_isClass l G ad ca A x1 hD  σ r1 hc1) (va_cwS 1 hts gr_X10_106 rfl rfl rfl h9_X10_isClass ⟨Nat.le_of_ble_eq_true rfl, Nat.le_of_ble_eq_true rfl⟩) (x_prS zkM hz hK hP) rfl rfl hl.1 rfl (lv_room (Nat.le_of_ble_eq_true rfl)) dX10_parent_1 ⟨Nat.le_of_ble_eq_true rfl, Nat.le_of_ble_eq_true rfl⟩) hS (fun H locs hP hS => ?_)
  refine lv_if_eq (tgt := 19) hx hb dX10_parent_4 rfl (fun hc => ?_) (fun hc => ?_)
  · have hf := b_p hf hc
    refine lv_bipush (v := (-2 : Int32)) hx hb dX10_parent_19 rfl ?_
    have hf := Option.some.inj hf
    exact x_iret hx hb hr hlocks hK hP hS (congrArg Prod.fst hf) (congrArg Prod.snd hf) dX10_parent_21
  · have hf := b_n hf hc
    refine lv_iload_n hx hb dX10_parent_7 rfl (lv_at hl 2 rfl) ?_
    refine lv_iconst (v := (-1 : Int32)) hx hb dX10_parent_8 rfl ?_
    refine lv_icmp_eq (tgt := 22) hx hb dX10_parent_9 rfl (fun hc => ?_) (fun hc => ?_)
    · have hf := b_p hf hc
      refine lv_aload_n hx hb dX10_parent_22 rfl (lv_at hl 0 rfl) ?_
      refine x_get (k := 500) (n := 0) hx hb hts i_X10 hown hK hP (mk_500 h01) rfl rfl 4 (by decide) rfl k_110 (v := .int (gI σ 500 0 4)) rfl dX10_parent_23 ?_
      refine lv_if_eq (tgt := 32) hx hb dX10_parent_26 rfl (fun hc => ?_) (fun hc => ?_)
      · have hf := b_p hf hc
        refine lv_aload_n hx hb dX10_parent_32 rfl (lv_at hl 0 rfl) ?_
        refine x_get (k := 500) (n := 0) hx hb hts i_X10 hown hK hP (mk_500 h01) rfl rfl 0 (by decide) rfl k_7 (v := .ref (ad 501 0)) rfl dX10_parent_33 ?_
        refine lv_iload_n hx hb dX10_parent_36 rfl (lv_at hl 1 rfl) ?_
        refine lv_iload_n hx hb dX10_parent_37 rfl (lv_at hl 2 rfl) ?_
        obtain ⟨g2, hf⟩ := gd_e hf
        refine x_iast (k := 501) (n := 0) hx hb hK hD hP hS (mk_501 h01) rfl g2 dX10_parent_38 (fun H locs hP hS => ?_)
        obtain ⟨σ3, e_σ3, hf⟩ := nm_i hf
        have hP : va_P G vwCl (wld ad ca σ3 LM) H := by rw [e_σ3]; exact hP
        refine lv_iconst (v := (1 : Int32)) hx hb dX10_parent_39 rfl ?_
        have hf := Option.some.inj hf
        exact x_iret hx hb hr hlocks hK hP hS (congrArg Prod.fst hf) (congrArg Prod.snd hf) dX10_parent_40
      · have hf := b_n hf hc
        refine lv_bipush (v := (-3 : Int32)) hx hb dX10_parent_29 rfl ?_
        have hf := Option.some.inj hf
        exact x_iret hx hb hr hlocks hK hP hS (congrArg Prod.fst hf) (congrArg Prod.snd hf) dX10_parent_31
    · have hf := b_n hf hc
      refine lv_iload_n hx hb dX10_parent_12 rfl (lv_at hl 2 rfl) ?_
      obtain ⟨r4, hc4, hf⟩ := bd_e hf
      refine x_ci (va_runS (As := [.int x2]) (rest := []) ⟨hx, hb, hml, hown, hts⟩ (t_X10_isClass l G ad ca A x2 hD  σ r4 hc4) (va_cwS 1 hts gr_X10_106 rfl rfl rfl h9_X10_isClass ⟨Nat.le_of_ble_eq_true rfl, Nat.le_of_ble_eq_true rfl⟩) (x_prS zkM hz hK hP) rfl rfl hl.1 rfl (lv_room (Nat.le_of_ble_eq_true rfl)) dX10_parent_13 ⟨Nat.le_of_ble_eq_true rfl, Nat.le_of_ble_eq_true rfl⟩) hS (fun H locs hP hS => ?_)
      refine lv_if_ne (tgt := 22) hx hb dX10_parent_16 rfl (fun hc => ?_) (fun hc => ?_)
      · have hf := b_n hf hc
        refine lv_aload_n hx hb dX10_parent_22 rfl (lv_at hl 0 rfl) ?_
        refine x_get (k := 500) (n := 0) hx hb hts i_X10 hown hK hP (mk_500 h01) rfl rfl 4 (by decide) rfl k_110 (v := .int (gI σ 500 0 4)) rfl dX10_parent_23 ?_
        refine lv_if_eq (tgt := 32) hx hb dX10_parent_26 rfl (fun hc => ?_) (fun hc => ?_)
        · have hf := b_p hf hc
          refine lv_aload_n hx hb dX10_parent_32 rfl (lv_at hl 0 rfl) ?_
          refine x_get (k := 500) (n := 0) hx hb hts i_X10 hown hK hP (mk_500 h01) rfl rfl 0 (by decide) rfl k_7 (v := .ref (ad 501 0)) rfl dX10_parent_33 ?_
          refine lv_iload_n hx hb dX10_parent_36 rfl (lv_at hl 1 rfl) ?_
          refine lv_iload_n hx hb dX10_parent_37 rfl (lv_at hl 2 rfl) ?_
          obtain ⟨g5, hf⟩ := gd_e hf
          refine x_iast (k := 501) (n := 0) hx hb hK hD hP hS (mk_501 h01) rfl g5 dX10_parent_38 (fun H locs hP hS => ?_)
          obtain ⟨σ6, e_σ6, hf⟩ := nm_i hf
          have hP : va_P G vwCl (wld ad ca σ6 LM) H := by rw [e_σ6]; exact hP
          refine lv_iconst (v := (1 : Int32)) hx hb dX10_parent_39 rfl ?_
          have hf := Option.some.inj hf
          exact x_iret hx hb hr hlocks hK hP hS (congrArg Prod.fst hf) (congrArg Prod.snd hf) dX10_parent_40
        · have hf := b_n hf hc
          refine lv_bipush (v := (-3 : Int32)) hx hb dX10_parent_29 rfl ?_
          have hf := Option.some.inj hf
          exact x_iret hx hb hr hlocks hK hP hS (congrArg Prod.fst hf) (congrArg Prod.snd hf) dX10_parent_31
      · have hf := b_p hf hc
        refine lv_bipush (v := (-2 : Int32)) hx hb dX10_parent_19 rfl ?_
        have hf := Option.some.inj hf
        exact x_iret hx hb hr hlocks hK hP hS (congrArg Prod.fst hf) (congrArg Prod.snd hf) dX10_parent_21
theorem h9_X10_add : yX10_add.cls = RX10 ∧ yX10_add.cls ≠ "java/lang/invoke/MethodHandle" ∧ yX10_add.cls ≠ "java/lang/invoke/VarHandle" ∧ (parseMethodDescriptor yX10_add.desc).map (fun d => d.parameters.length) = some 2 := by decide +kernel
set_option maxRecDepth 100000 in
set_option maxHeartbeats 4000000 in
theorem t_X10_add (l : Launch) (G : va_G) (ad : Nat → Nat → Nat) (ca : Nat → ClassId) (A : Nat → Prop)   (x1 : Int32) (x2 : Int32) (hD : DW ad LM A)  (σ : PS) (res : Int32) (σz : PS) (hf : X10_add  x1 x2 σ = some (res, σz)) : Met l yX10_add wsX10_add ({ frames := 0, cells := 0, slots := 0, locals := 0 }) (ctP G ad ca LM σ ZM [.ref (ad 500 0), .int x1, .int x2]) (va_Qi (fun r' u => r' = res ∧ u = σz) (ctB G ad ca LM) A) 0 0 A := by
  refine Met.ofW (cc := cX10_add) (maxL := 4) (ret := (some .int)) (by decide) rfl ?_
  intro p e s m args below meth c s₁ B hml hv
  obtain ⟨rfl, hP, hK, hz⟩ := hv
  have hx := B.exec
  have hb := B.bytes
  have hr := B.returns
  have hts : ∀ w ∈ WW, w.before _ s = true := fun w h => atoms_spec (ws := wsX10_add) B.pre w (List.mem_cons_of_mem _ h)
  have hown : s.vm.findClass RX10 = some m.cls := findClass_of_methodNamed B.named
  have hlocks := B.notSynchronized
  have hS : va_S A s.heap s.heap [] := va_S.rf
  have k_13 := hts _ kf_X10_13
  have k_110 := hts _ kf_X10_110
  have hl := lv_entry ([.ref (ad 500 0), .int x1, .int x2]) (n := 4) (Nat.le_of_ble_eq_true rfl)
  rw [lg_entry_eq]
  generalize (lg_sl ([.ref (ad 500 0), .int x1, .int x2]) ++ List.replicate (4 - (lg_sl ([.ref (ad 500 0), .int x1, .int x2])).length) Slot.unset).toArray = ls at hl ⊢
  have hl : lv_has ls 4 [(0, .ref (ad 500 0)), (1, .int x1), (2, .int x2)] := hl
  unfold X10_add at hf
  refine lv_aload_n hx hb dX10_add_0 rfl (lv_at hl 0 rfl) ?_
  refine x_get (k := 500) (n := 0) hx hb hts i_X10 hown hK hP (mk_500 h01) rfl rfl 4 (by decide) rfl k_110 (v := .int (gI σ 500 0 4)) rfl dX10_add_1 ?_
  refine lv_if_eq (tgt := 10) hx hb dX10_add_4 rfl (fun hc => ?_) (fun hc => ?_)
  · have hf := b_p hf hc
    refine lv_aload_n hx hb dX10_add_10 rfl (lv_at hl 0 rfl) ?_
    refine x_get (k := 500) (n := 0) hx hb hts i_X10 hown hK hP (mk_500 h01) rfl rfl 1 (by decide) rfl k_13 (v := .ref (ad 502 0)) rfl dX10_add_11 ?_
    refine lv_bipush (v := (16 : Int32)) hx hb dX10_add_14 rfl ?_
    refine lv_iload_n hx hb dX10_add_16 rfl (lv_at hl 1 rfl) ?_
    refine lv_imul hx hb dX10_add_17 ?_
    refine lv_iload_n hx hb dX10_add_18 rfl (lv_at hl 2 rfl) ?_
    refine lv_iadd hx hb dX10_add_19 ?_
    obtain ⟨g1, hf⟩ := gd_e hf
    refine x_zald (k := 502) (n := 0) hx hb hK hP (mk_502 h01) rfl g1 dX10_add_20 ?_
    refine lv_if_eq (tgt := 28) hx hb dX10_add_21 rfl (fun hc => ?_) (fun hc => ?_)
    · have hf := b_p hf hc
      refine lv_iconst (v := (1 : Int32)) hx hb dX10_add_28 rfl ?_
      refine lv_istore_n (lv' := [(3, .int (1 : Int32)), (0, .ref (ad 500 0)), (1, .int x1), (2, .int x2)]) hx hb dX10_add_29 rfl hl (by decide) rfl (fun ls hl => ?_)
      refine lv_aload_n hx hb dX10_add_30 rfl (lv_at hl 1 rfl) ?_
      refine x_get (k := 500) (n := 0) hx hb hts i_X10 hown hK hP (mk_500 h01) rfl rfl 1 (by decide) rfl k_13 (v := .ref (ad 502 0)) rfl dX10_add_31 ?_
      refine lv_bipush (v := (16 : Int32)) hx hb dX10_add_34 rfl ?_
      refine lv_iload_n hx hb dX10_add_36 rfl (lv_at hl 2 rfl) ?_
      refine lv_imul hx hb dX10_add_37 ?_
      refine lv_iload_n hx hb dX10_add_38 rfl (lv_at hl 3 rfl) ?_
      refine lv_iadd hx hb dX10_add_39 ?_
      refine lv_iconst (v := (1 : Int32)) hx hb dX10_add_40 rfl ?_
      obtain ⟨g2, hf⟩ := gd_e hf
      refine x_zast (k := 502) (n := 0) hx hb hK hD hP hS (mk_502 h01) rfl (by decide) g2 dX10_add_41 (fun H locs hP hS => ?_)
      obtain ⟨σ3, e_σ3, hf⟩ := nm_i hf
      have hP : va_P G vwCl (wld ad ca σ3 LM) H := by rw [e_σ3]; exact hP
      refine lv_iload_n hx hb dX10_add_42 rfl (lv_at hl 0 rfl) ?_
      have hf := Option.some.inj hf
      exact x_iret hx hb hr hlocks hK hP hS (congrArg Prod.fst hf) (congrArg Prod.snd hf) dX10_add_43
    · have hf := b_n hf hc
      refine lv_iconst (v := (0 : Int32)) hx hb dX10_add_24 rfl ?_
      refine lv_goto (tgt := 29) hx hb dX10_add_25 rfl ?_
      refine lv_istore_n (lv' := [(3, .int (0 : Int32)), (0, .ref (ad 500 0)), (1, .int x1), (2, .int x2)]) hx hb dX10_add_29 rfl hl (by decide) rfl (fun ls hl => ?_)
      refine lv_aload_n hx hb dX10_add_30 rfl (lv_at hl 1 rfl) ?_
      refine x_get (k := 500) (n := 0) hx hb hts i_X10 hown hK hP (mk_500 h01) rfl rfl 1 (by decide) rfl k_13 (v := .ref (ad 502 0)) rfl dX10_add_31 ?_
      refine lv_bipush (v := (16 : Int32)) hx hb dX10_add_34 rfl ?_
      refine lv_iload_n hx hb dX10_add_36 rfl (lv_at hl 2 rfl) ?_
      refine lv_imul hx hb dX10_add_37 ?_
      refine lv_iload_n hx hb dX10_add_38 rfl (lv_at hl 3 rfl) ?_
      refine lv_iadd hx hb dX10_add_39 ?_
      refine lv_iconst (v := (1 : Int32)) hx hb dX10_add_40 rfl ?_
      obtain ⟨g4, hf⟩ := gd_e hf
      refine x_zast (k := 502) (n := 0) hx hb hK hD hP hS (mk_502 h01) rfl (by decide) g4 dX10_add_41 (fun H locs hP hS => ?_)
      obtain ⟨σ5, e_σ5, hf⟩ := nm_i hf
      have hP : va_P G vwCl (wld ad ca σ5 LM) H := by rw [e_σ5]; exact hP
      refine lv_iload_n hx hb dX10_add_42 rfl (lv_at hl 0 rfl) ?_
      have hf := Option.some.inj hf
      exact x_iret hx hb hr hlocks hK hP hS (congrArg Prod.fst hf) (congrArg Prod.snd hf) dX10_add_43
  · have hf := b_n hf hc
    refine lv_bipush (v := (-3 : Int32)) hx hb dX10_add_7 rfl ?_
    have hf := Option.some.inj hf
    exact x_iret hx hb hr hlocks hK hP hS (congrArg Prod.fst hf) (congrArg Prod.snd hf) dX10_add_9
theorem h9_X10_trait : yX10_trait.cls = RX10 ∧ yX10_trait.cls ≠ "java/lang/invoke/MethodHandle" ∧ yX10_trait.cls ≠ "java/lang/invoke/VarHandle" ∧ (parseMethodDescriptor yX10_trait.desc).map (fun d => d.parameters.length) = some 2 := by decide +kernel
set_option maxRecDepth 100000 in
set_option maxHeartbeats 4000000 in
theorem t_X10_trait (l : Launch) (G : va_G) (ad : Nat → Nat → Nat) (ca : Nat → ClassId) (A : Nat → Prop)   (x1 : Int32) (x2 : Int32) (hD : DW ad LM A)  (σ : PS) (res : Int32) (σz : PS) (hf : X10_trait  x1 x2 σ = some (res, σz)) : Met l yX10_trait wsX10_trait ({ frames := 1, cells := 0, slots := 0, locals := 23 }) (ctP G ad ca LM σ ZM [.ref (ad 500 0), .int x1, .int x2]) (va_Qi (fun r' u => r' = res ∧ u = σz) (ctB G ad ca LM) A) 0 0 A := by
  refine Met.ofW (cc := cX10_trait) (maxL := 3) (ret := (some .int)) (by decide) rfl ?_
  intro p e s m args below meth c s₁ B hml hv
  obtain ⟨rfl, hP, hK, hz⟩ := hv
  have hx := B.exec
  have hb := B.bytes
  have hr := B.returns
  have hts : ∀ w ∈ WW, w.before _ s = true := fun w h => atoms_spec (ws := wsX10_trait) B.pre w (List.mem_cons_of_mem _ h)
  have hown : s.vm.findClass RX10 = some m.cls := findClass_of_methodNamed B.named
  have hlocks := B.notSynchronized
  have hS : va_S A s.heap s.heap [] := va_S.rf
  have hl := lv_entry ([.ref (ad 500 0), .int x1, .int x2]) (n := 3) (Nat.le_of_ble_eq_true rfl)
  rw [lg_entry_eq]
  generalize (lg_sl ([.ref (ad 500 0), .int x1, .int x2]) ++ List.replicate (3 - (lg_sl ([.ref (ad 500 0), .int x1, .int x2])).length) Slot.unset).toArray = ls at hl ⊢
  have hl : lv_has ls 3 [(0, .ref (ad 500 0)), (1, .int x1), (2, .int x2)] := hl
  unfold X10_trait at hf
  refine lv_iload_n hx hb dX10_trait_0 rfl (lv_at hl 1 rfl) ?_
  obtain ⟨r1, hc1, hf⟩ := bd_e hf
  refine x_ci (va_runS (As := [.int x1]) (rest := []) ⟨hx, hb, hml, hown, hts⟩ (t_X10_isTrait l G ad ca A x1 hD  σ r1 hc1) (va_cwS 1 hts gr_X10_114 rfl rfl rfl h9_X10_isTrait ⟨Nat.le_of_ble_eq_true rfl, Nat.le_of_ble_eq_true rfl⟩) (x_prS zkM hz hK hP) rfl rfl hl.1 rfl (lv_room (Nat.le_of_ble_eq_true rfl)) dX10_trait_1 ⟨Nat.le_of_ble_eq_true rfl, Nat.le_of_ble_eq_true rfl⟩) hS (fun H locs hP hS => ?_)
  refine lv_if_eq (tgt := 23) hx hb dX10_trait_4 rfl (fun hc => ?_) (fun hc => ?_)
  · have hf := b_p hf hc
    refine lv_bipush (v := (-2 : Int32)) hx hb dX10_trait_23 rfl ?_
    have hf := Option.some.inj hf
    exact x_iret hx hb hr hlocks hK hP hS (congrArg Prod.fst hf) (congrArg Prod.snd hf) dX10_trait_25
  · have hf := b_n hf hc
    refine lv_iload_n hx hb dX10_trait_7 rfl (lv_at hl 2 rfl) ?_
    obtain ⟨r2, hc2, hf⟩ := bd_e hf
    refine x_ci (va_runS (As := [.int x2]) (rest := []) ⟨hx, hb, hml, hown, hts⟩ (t_X10_isTrait l G ad ca A x2 hD  σ r2 hc2) (va_cwS 1 hts gr_X10_114 rfl rfl rfl h9_X10_isTrait ⟨Nat.le_of_ble_eq_true rfl, Nat.le_of_ble_eq_true rfl⟩) (x_prS zkM hz hK hP) rfl rfl hl.1 rfl (lv_room (Nat.le_of_ble_eq_true rfl)) dX10_trait_8 ⟨Nat.le_of_ble_eq_true rfl, Nat.le_of_ble_eq_true rfl⟩) hS (fun H locs hP hS => ?_)
    refine lv_if_eq (tgt := 23) hx hb dX10_trait_11 rfl (fun hc => ?_) (fun hc => ?_)
    · have hf := b_p hf hc
      refine lv_bipush (v := (-2 : Int32)) hx hb dX10_trait_23 rfl ?_
      have hf := Option.some.inj hf
      exact x_iret hx hb hr hlocks hK hP hS (congrArg Prod.fst hf) (congrArg Prod.snd hf) dX10_trait_25
    · have hf := b_n hf hc
      refine lv_aload_n hx hb dX10_trait_14 rfl (lv_at hl 0 rfl) ?_
      refine lv_iload_n hx hb dX10_trait_15 rfl (lv_at hl 1 rfl) ?_
      refine lv_iload_n hx hb dX10_trait_16 rfl (lv_at hl 2 rfl) ?_
      obtain ⟨r3, σ3, hc3, hf⟩ := bp_e hf
      refine x_ci (va_runV (As := [.int x1, .int x2]) (rest := []) ⟨hx, hb, hml, hown, hts⟩ (t_X10_add l G ad ca A x1 x2 hD  σ r3 σ3 hc3) (cwV 2 hts gr_X10_117 rfl rfl rfl h9_X10_add ⟨Nat.le_of_ble_eq_true rfl, Nat.le_of_ble_eq_true rfl⟩) (x_prV zkM hz hK hP (mk_500 h01) rfl rfl) rfl rfl hl.1 rfl (lv_room (Nat.le_of_ble_eq_true rfl)) dX10_trait_17 ⟨Nat.le_of_ble_eq_true rfl, Nat.le_of_ble_eq_true rfl⟩) hS (fun H locs hP hS => ?_)
      refine lv_goto (tgt := 25) hx hb dX10_trait_20 rfl ?_
      have hf := Option.some.inj hf
      exact x_iret hx hb hr hlocks hK hP hS (congrArg Prod.fst hf) (congrArg Prod.snd hf) dX10_trait_25
theorem h9_X10_has : yX10_has.cls = RX10 ∧ yX10_has.cls ≠ "java/lang/invoke/MethodHandle" ∧ yX10_has.cls ≠ "java/lang/invoke/VarHandle" ∧ (parseMethodDescriptor yX10_has.desc).map (fun d => d.parameters.length) = some 2 := by decide +kernel
set_option maxRecDepth 100000 in
set_option maxHeartbeats 4000000 in
theorem t_X10_has (l : Launch) (G : va_G) (ad : Nat → Nat → Nat) (ca : Nat → ClassId) (A : Nat → Prop)   (x1 : Int32) (x2 : Int32) (hD : DW ad LM A)  (σ : PS) (res : Int32) (σz : PS) (hf : X10_has  x1 x2 σ = some (res, σz)) : Met l yX10_has wsX10_has ({ frames := 1, cells := 0, slots := 0, locals := 23 }) (ctP G ad ca LM σ ZM [.ref (ad 500 0), .int x1, .int x2]) (va_Qi (fun r' u => r' = res ∧ u = σz) (ctB G ad ca LM) A) 0 0 A := by
  refine Met.ofW (cc := cX10_has) (maxL := 3) (ret := (some .int)) (by decide) rfl ?_
  intro p e s m args below meth c s₁ B hml hv
  obtain ⟨rfl, hP, hK, hz⟩ := hv
  have hx := B.exec
  have hb := B.bytes
  have hr := B.returns
  have hts : ∀ w ∈ WW, w.before _ s = true := fun w h => atoms_spec (ws := wsX10_has) B.pre w (List.mem_cons_of_mem _ h)
  have hown : s.vm.findClass RX10 = some m.cls := findClass_of_methodNamed B.named
  have hlocks := B.notSynchronized
  have hS : va_S A s.heap s.heap [] := va_S.rf
  have hl := lv_entry ([.ref (ad 500 0), .int x1, .int x2]) (n := 3) (Nat.le_of_ble_eq_true rfl)
  rw [lg_entry_eq]
  generalize (lg_sl ([.ref (ad 500 0), .int x1, .int x2]) ++ List.replicate (3 - (lg_sl ([.ref (ad 500 0), .int x1, .int x2])).length) Slot.unset).toArray = ls at hl ⊢
  have hl : lv_has ls 3 [(0, .ref (ad 500 0)), (1, .int x1), (2, .int x2)] := hl
  unfold X10_has at hf
  refine lv_iload_n hx hb dX10_has_0 rfl (lv_at hl 1 rfl) ?_
  obtain ⟨r1, hc1, hf⟩ := bd_e hf
  refine x_ci (va_runS (As := [.int x1]) (rest := []) ⟨hx, hb, hml, hown, hts⟩ (t_X10_isClass l G ad ca A x1 hD  σ r1 hc1) (va_cwS 1 hts gr_X10_106 rfl rfl rfl h9_X10_isClass ⟨Nat.le_of_ble_eq_true rfl, Nat.le_of_ble_eq_true rfl⟩) (x_prS zkM hz hK hP) rfl rfl hl.1 rfl (lv_room (Nat.le_of_ble_eq_true rfl)) dX10_has_1 ⟨Nat.le_of_ble_eq_true rfl, Nat.le_of_ble_eq_true rfl⟩) hS (fun H locs hP hS => ?_)
  refine lv_if_eq (tgt := 23) hx hb dX10_has_4 rfl (fun hc => ?_) (fun hc => ?_)
  · have hf := b_p hf hc
    refine lv_bipush (v := (-2 : Int32)) hx hb dX10_has_23 rfl ?_
    have hf := Option.some.inj hf
    exact x_iret hx hb hr hlocks hK hP hS (congrArg Prod.fst hf) (congrArg Prod.snd hf) dX10_has_25
  · have hf := b_n hf hc
    refine lv_iload_n hx hb dX10_has_7 rfl (lv_at hl 2 rfl) ?_
    obtain ⟨r2, hc2, hf⟩ := bd_e hf
    refine x_ci (va_runS (As := [.int x2]) (rest := []) ⟨hx, hb, hml, hown, hts⟩ (t_X10_isTrait l G ad ca A x2 hD  σ r2 hc2) (va_cwS 1 hts gr_X10_114 rfl rfl rfl h9_X10_isTrait ⟨Nat.le_of_ble_eq_true rfl, Nat.le_of_ble_eq_true rfl⟩) (x_prS zkM hz hK hP) rfl rfl hl.1 rfl (lv_room (Nat.le_of_ble_eq_true rfl)) dX10_has_8 ⟨Nat.le_of_ble_eq_true rfl, Nat.le_of_ble_eq_true rfl⟩) hS (fun H locs hP hS => ?_)
    refine lv_if_eq (tgt := 23) hx hb dX10_has_11 rfl (fun hc => ?_) (fun hc => ?_)
    · have hf := b_p hf hc
      refine lv_bipush (v := (-2 : Int32)) hx hb dX10_has_23 rfl ?_
      have hf := Option.some.inj hf
      exact x_iret hx hb hr hlocks hK hP hS (congrArg Prod.fst hf) (congrArg Prod.snd hf) dX10_has_25
    · have hf := b_n hf hc
      refine lv_aload_n hx hb dX10_has_14 rfl (lv_at hl 0 rfl) ?_
      refine lv_iload_n hx hb dX10_has_15 rfl (lv_at hl 1 rfl) ?_
      refine lv_iload_n hx hb dX10_has_16 rfl (lv_at hl 2 rfl) ?_
      obtain ⟨r3, σ3, hc3, hf⟩ := bp_e hf
      refine x_ci (va_runV (As := [.int x1, .int x2]) (rest := []) ⟨hx, hb, hml, hown, hts⟩ (t_X10_add l G ad ca A x1 x2 hD  σ r3 σ3 hc3) (cwV 2 hts gr_X10_117 rfl rfl rfl h9_X10_add ⟨Nat.le_of_ble_eq_true rfl, Nat.le_of_ble_eq_true rfl⟩) (x_prV zkM hz hK hP (mk_500 h01) rfl rfl) rfl rfl hl.1 rfl (lv_room (Nat.le_of_ble_eq_true rfl)) dX10_has_17 ⟨Nat.le_of_ble_eq_true rfl, Nat.le_of_ble_eq_true rfl⟩) hS (fun H locs hP hS => ?_)
      refine lv_goto (tgt := 25) hx hb dX10_has_20 rfl ?_
      have hf := Option.some.inj hf
      exact x_iret hx hb hr hlocks hK hP hS (congrArg Prod.fst hf) (congrArg Prod.snd hf) dX10_has_25
theorem h9_X10_flag : yX10_flag.cls = RX10 ∧ yX10_flag.cls ≠ "java/lang/invoke/MethodHandle" ∧ yX10_flag.cls ≠ "java/lang/invoke/VarHandle" ∧ (parseMethodDescriptor yX10_flag.desc).map (fun d => d.parameters.length) = some 1 := by decide +kernel
set_option maxRecDepth 100000 in
set_option maxHeartbeats 4000000 in
theorem t_X10_flag (l : Launch) (G : va_G) (ad : Nat → Nat → Nat) (ca : Nat → ClassId) (A : Nat → Prop)   (x1 : Int32) (hD : DW ad LM A)  (σ : PS) (res : Int32) (σz : PS) (hf : X10_flag  x1 σ = some (res, σz)) : Met l yX10_flag wsX10_flag ({ frames := 1, cells := 0, slots := 0, locals := 20 }) (ctP G ad ca LM σ ZM [.ref (ad 500 0), .int x1]) (va_Qi (fun r' u => r' = res ∧ u = σz) (ctB G ad ca LM) A) 0 0 A := by
  refine Met.ofW (cc := cX10_flag) (maxL := 3) (ret := (some .int)) (by decide) rfl ?_
  intro p e s m args below meth c s₁ B hml hv
  obtain ⟨rfl, hP, hK, hz⟩ := hv
  have hx := B.exec
  have hb := B.bytes
  have hr := B.returns
  have hts : ∀ w ∈ WW, w.before _ s = true := fun w h => atoms_spec (ws := wsX10_flag) B.pre w (List.mem_cons_of_mem _ h)
  have hown : s.vm.findClass RX10 = some m.cls := findClass_of_methodNamed B.named
  have hlocks := B.notSynchronized
  have hS : va_S A s.heap s.heap [] := va_S.rf
  have k_20 := hts _ kf_X10_20
  have k_110 := hts _ kf_X10_110
  have hl := lv_entry ([.ref (ad 500 0), .int x1]) (n := 3) (Nat.le_of_ble_eq_true rfl)
  rw [lg_entry_eq]
  generalize (lg_sl ([.ref (ad 500 0), .int x1]) ++ List.replicate (3 - (lg_sl ([.ref (ad 500 0), .int x1])).length) Slot.unset).toArray = ls at hl ⊢
  have hl : lv_has ls 3 [(0, .ref (ad 500 0)), (1, .int x1)] := hl
  unfold X10_flag at hf
  refine lv_iload_n hx hb dX10_flag_0 rfl (lv_at hl 1 rfl) ?_
  obtain ⟨r1, hc1, hf⟩ := bd_e hf
  refine x_ci (va_runS (As := [.int x1]) (rest := []) ⟨hx, hb, hml, hown, hts⟩ (t_X10_isClass l G ad ca A x1 hD  σ r1 hc1) (va_cwS 1 hts gr_X10_106 rfl rfl rfl h9_X10_isClass ⟨Nat.le_of_ble_eq_true rfl, Nat.le_of_ble_eq_true rfl⟩) (x_prS zkM hz hK hP) rfl rfl hl.1 rfl (lv_room (Nat.le_of_ble_eq_true rfl)) dX10_flag_1 ⟨Nat.le_of_ble_eq_true rfl, Nat.le_of_ble_eq_true rfl⟩) hS (fun H locs hP hS => ?_)
  refine lv_if_ne (tgt := 10) hx hb dX10_flag_4 rfl (fun hc => ?_) (fun hc => ?_)
  · have hf := b_n hf hc
    refine lv_aload_n hx hb dX10_flag_10 rfl (lv_at hl 0 rfl) ?_
    refine x_get (k := 500) (n := 0) hx hb hts i_X10 hown hK hP (mk_500 h01) rfl rfl 4 (by decide) rfl k_110 (v := .int (gI σ 500 0 4)) rfl dX10_flag_11 ?_
    refine lv_if_eq (tgt := 20) hx hb dX10_flag_14 rfl (fun hc => ?_) (fun hc => ?_)
    · have hf := b_p hf hc
      refine lv_aload_n hx hb dX10_flag_20 rfl (lv_at hl 0 rfl) ?_
      refine x_get (k := 500) (n := 0) hx hb hts i_X10 hown hK hP (mk_500 h01) rfl rfl 3 (by decide) rfl k_20 (v := .ref (ad 504 0)) rfl dX10_flag_21 ?_
      refine lv_iload_n hx hb dX10_flag_24 rfl (lv_at hl 1 rfl) ?_
      obtain ⟨g2, hf⟩ := gd_e hf
      refine x_zald (k := 504) (n := 0) hx hb hK hP (mk_504 h01) rfl g2 dX10_flag_25 ?_
      refine lv_if_eq (tgt := 33) hx hb dX10_flag_26 rfl (fun hc => ?_) (fun hc => ?_)
      · have hf := b_p hf hc
        refine lv_iconst (v := (1 : Int32)) hx hb dX10_flag_33 rfl ?_
        refine lv_istore_n (lv' := [(2, .int (1 : Int32)), (0, .ref (ad 500 0)), (1, .int x1)]) hx hb dX10_flag_34 rfl hl (by decide) rfl (fun ls hl => ?_)
        refine lv_aload_n hx hb dX10_flag_35 rfl (lv_at hl 1 rfl) ?_
        refine x_get (k := 500) (n := 0) hx hb hts i_X10 hown hK hP (mk_500 h01) rfl rfl 3 (by decide) rfl k_20 (v := .ref (ad 504 0)) rfl dX10_flag_36 ?_
        refine lv_iload_n hx hb dX10_flag_39 rfl (lv_at hl 2 rfl) ?_
        refine lv_iconst (v := (1 : Int32)) hx hb dX10_flag_40 rfl ?_
        obtain ⟨g3, hf⟩ := gd_e hf
        refine x_zast (k := 504) (n := 0) hx hb hK hD hP hS (mk_504 h01) rfl (by decide) g3 dX10_flag_41 (fun H locs hP hS => ?_)
        obtain ⟨σ4, e_σ4, hf⟩ := nm_i hf
        have hP : va_P G vwCl (wld ad ca σ4 LM) H := by rw [e_σ4]; exact hP
        refine lv_iload_n hx hb dX10_flag_42 rfl (lv_at hl 0 rfl) ?_
        have hf := Option.some.inj hf
        exact x_iret hx hb hr hlocks hK hP hS (congrArg Prod.fst hf) (congrArg Prod.snd hf) dX10_flag_43
      · have hf := b_n hf hc
        refine lv_iconst (v := (0 : Int32)) hx hb dX10_flag_29 rfl ?_
        refine lv_goto (tgt := 34) hx hb dX10_flag_30 rfl ?_
        refine lv_istore_n (lv' := [(2, .int (0 : Int32)), (0, .ref (ad 500 0)), (1, .int x1)]) hx hb dX10_flag_34 rfl hl (by decide) rfl (fun ls hl => ?_)
        refine lv_aload_n hx hb dX10_flag_35 rfl (lv_at hl 1 rfl) ?_
        refine x_get (k := 500) (n := 0) hx hb hts i_X10 hown hK hP (mk_500 h01) rfl rfl 3 (by decide) rfl k_20 (v := .ref (ad 504 0)) rfl dX10_flag_36 ?_
        refine lv_iload_n hx hb dX10_flag_39 rfl (lv_at hl 2 rfl) ?_
        refine lv_iconst (v := (1 : Int32)) hx hb dX10_flag_40 rfl ?_
        obtain ⟨g5, hf⟩ := gd_e hf
        refine x_zast (k := 504) (n := 0) hx hb hK hD hP hS (mk_504 h01) rfl (by decide) g5 dX10_flag_41 (fun H locs hP hS => ?_)
        obtain ⟨σ6, e_σ6, hf⟩ := nm_i hf
        have hP : va_P G vwCl (wld ad ca σ6 LM) H := by rw [e_σ6]; exact hP
        refine lv_iload_n hx hb dX10_flag_42 rfl (lv_at hl 0 rfl) ?_
        have hf := Option.some.inj hf
        exact x_iret hx hb hr hlocks hK hP hS (congrArg Prod.fst hf) (congrArg Prod.snd hf) dX10_flag_43
    · have hf := b_n hf hc
      refine lv_bipush (v := (-3 : Int32)) hx hb dX10_flag_17 rfl ?_
      have hf := Option.some.inj hf
      exact x_iret hx hb hr hlocks hK hP hS (congrArg Prod.fst hf) (congrArg Prod.snd hf) dX10_flag_19
  · have hf := b_p hf hc
    refine lv_bipush (v := (-2 : Int32)) hx hb dX10_flag_7 rfl ?_
    have hf := Option.some.inj hf
    exact x_iret hx hb hr hlocks hK hP hS (congrArg Prod.fst hf) (congrArg Prod.snd hf) dX10_flag_9
theorem h9_X10_close : yX10_close.cls = RX10 ∧ yX10_close.cls ≠ "java/lang/invoke/MethodHandle" ∧ yX10_close.cls ≠ "java/lang/invoke/VarHandle" ∧ (parseMethodDescriptor yX10_close.desc).map (fun d => d.parameters.length) = some 0 := by decide +kernel
set_option maxRecDepth 100000 in
set_option maxHeartbeats 4000000 in
theorem t_X10_close (l : Launch) (G : va_G) (ad : Nat → Nat → Nat) (ca : Nat → ClassId) (A : Nat → Prop)   (hD : DW ad LM A)  (σ : PS) (res : Int32) (σz : PS) (hf : X10_close   σ = some (res, σz)) : Met l yX10_close wsX10_close ({ frames := 0, cells := 0, slots := 0, locals := 0 }) (ctP G ad ca LM σ ZM [.ref (ad 500 0)]) (va_Qi (fun r' u => r' = res ∧ u = σz) (ctB G ad ca LM) A) 0 0 A := by
  refine Met.ofW (cc := cX10_close) (maxL := 4) (ret := (some .int)) (by decide) rfl ?_
  intro p e s m args below meth c s₁ B hml hv
  obtain ⟨rfl, hP, hK, hz⟩ := hv
  have hx := B.exec
  have hb := B.bytes
  have hr := B.returns
  have hts : ∀ w ∈ WW, w.before _ s = true := fun w h => atoms_spec (ws := wsX10_close) B.pre w (List.mem_cons_of_mem _ h)
  have hown : s.vm.findClass RX10 = some m.cls := findClass_of_methodNamed B.named
  have hlocks := B.notSynchronized
  have hS : va_S A s.heap s.heap [] := va_S.rf
  have k_7 := hts _ kf_X10_7
  have k_13 := hts _ kf_X10_13
  have k_17 := hts _ kf_X10_17
  have k_110 := hts _ kf_X10_110
  have hl := lv_entry ([.ref (ad 500 0)]) (n := 4) (Nat.le_of_ble_eq_true rfl)
  rw [lg_entry_eq]
  generalize (lg_sl ([.ref (ad 500 0)]) ++ List.replicate (4 - (lg_sl ([.ref (ad 500 0)])).length) Slot.unset).toArray = ls at hl ⊢
  have hl : lv_has ls 4 [(0, .ref (ad 500 0))] := hl
  unfold X10_close at hf
  have l12 : ∀ (kx12 : PS → Option (Int32 × PS)), (∀ (σ : PS) (H : Heap) (locs : List Loc) (ls : Array Slot), kx12 σ = some (res, σz) → lv_has ls 4 [(0, .ref (ad 500 0))] → va_P G vwCl (wld ad ca σ LM) H → va_S A s.heap H locs → W p l e (headSpec wsX10_close ({ frames := 0, cells := 0, slots := 0, locals := 0 })).room s m (([.ref (ad 500 0)] : List Value).toArray) below meth c H locs 0 0 (MQ below (va_Qi (fun r' u => r' = res ∧ u = σz) (ctB G ad ca LM) A) (([.ref (ad 500 0)] : List Value).toArray) s 0 0 A) (F0 m 37 ls [])) → ∀ (n12 : Nat) (v1 : Int32) (σ : PS) (H : Heap) (locs : List Loc) (ls : Array Slot), X10_close_l12  kx12 n12 v1 σ = some (res, σz) → lv_has ls 4 [(0, .ref (ad 500 0)), (1, .int v1)] → va_P G vwCl (wld ad ca σ LM) H → va_S A s.heap H locs → W p l e (headSpec wsX10_close ({ frames := 0, cells := 0, slots := 0, locals := 0 })).room s m (([.ref (ad 500 0)] : List Value).toArray) below meth c H locs 0 0 (MQ below (va_Qi (fun r' u => r' = res ∧ u = σz) (ctB G ad ca LM) A) (([.ref (ad 500 0)] : List Value).toArray) s 0 0 A) (F0 m 12 ls []) := by
    intro kx12 hx12 n12
    induction n12 with
    | zero =>
      intro v1 σ H locs ls hf
      exact absurd hf (by simp [X10_close_l12])
    | succ n12 ih12 =>
      intro v1 σ H locs ls hf hl hP hS
      rw [X10_close_l12.eq_2] at hf
      refine lv_iload_n hx hb dX10_close_12 rfl (lv_at hl 1 rfl) ?_
      refine lv_sipush (v := (256 : Int32)) hx hb dX10_close_13 rfl ?_
      refine lv_icmp_ge (tgt := 37) hx hb dX10_close_16 rfl (fun hc => ?_) (fun hc => ?_)
      · have hf := b_p hf hc
        exact hx12  σ _ _ _  hf (lv_sub hl [0] rfl) hP hS
      · have hf := b_n hf hc
        refine lv_aload_n hx hb dX10_close_19 rfl (lv_at hl 0 rfl) ?_
        refine x_get (k := 500) (n := 0) hx hb hts i_X10 hown hK hP (mk_500 h01) rfl rfl 2 (by decide) rfl k_17 (v := .ref (ad 503 0)) rfl dX10_close_20 ?_
        refine lv_iload_n hx hb dX10_close_23 rfl (lv_at hl 1 rfl) ?_
        refine lv_aload_n hx hb dX10_close_24 rfl (lv_at hl 0 rfl) ?_
        refine x_get (k := 500) (n := 0) hx hb hts i_X10 hown hK hP (mk_500 h01) rfl rfl 1 (by decide) rfl k_13 (v := .ref (ad 502 0)) rfl dX10_close_25 ?_
        refine lv_iload_n hx hb dX10_close_28 rfl (lv_at hl 1 rfl) ?_
        obtain ⟨g1, hf⟩ := gd_e hf
        refine x_zald (k := 502) (n := 0) hx hb hK hP (mk_502 h01) rfl g1 dX10_close_29 ?_
        obtain ⟨g2, hf⟩ := gd_e hf
        obtain ⟨g3, hf⟩ := gd_e hf
        refine x_zast (k := 503) (n := 0) hx hb hK hD hP hS (mk_503 h01) rfl g2 g3 dX10_close_30 (fun H locs hP hS => ?_)
        obtain ⟨σ4, e_σ4, hf⟩ := nm_i hf
        have hP : va_P G vwCl (wld ad ca σ4 LM) H := by rw [e_σ4]; exact hP
        refine lv_iinc (v := (v1 + (1 : Int32))) (lv' := [(1, .int (v1 + (1 : Int32))), (0, .ref (ad 500 0))]) hx hb dX10_close_31 hl (k := 1) rfl rfl (by decide) rfl (fun ls hl => ?_)
        refine lv_goto (tgt := 12) hx hb dX10_close_34 rfl ?_
        exact ih12 (v1 + (1 : Int32)) σ4 _ _ _  hf (lv_sub hl [1, 0] rfl) hP hS
  have l39 : ∀ (kx39 : PS → Option (Int32 × PS)), (∀ (σ : PS) (H : Heap) (locs : List Loc) (ls : Array Slot), kx39 σ = some (res, σz) → lv_has ls 4 [(0, .ref (ad 500 0))] → va_P G vwCl (wld ad ca σ LM) H → va_S A s.heap H locs → W p l e (headSpec wsX10_close ({ frames := 0, cells := 0, slots := 0, locals := 0 })).room s m (([.ref (ad 500 0)] : List Value).toArray) below meth c H locs 0 0 (MQ below (va_Qi (fun r' u => r' = res ∧ u = σz) (ctB G ad ca LM) A) (([.ref (ad 500 0)] : List Value).toArray) s 0 0 A) (F0 m 77 ls [])) → ∀ (n39 : Nat) (v1 : Int32) (σ : PS) (H : Heap) (locs : List Loc) (ls : Array Slot), X10_close_l39  kx39 n39 v1 σ = some (res, σz) → lv_has ls 4 [(0, .ref (ad 500 0)), (1, .int v1)] → va_P G vwCl (wld ad ca σ LM) H → va_S A s.heap H locs → W p l e (headSpec wsX10_close ({ frames := 0, cells := 0, slots := 0, locals := 0 })).room s m (([.ref (ad 500 0)] : List Value).toArray) below meth c H locs 0 0 (MQ below (va_Qi (fun r' u => r' = res ∧ u = σz) (ctB G ad ca LM) A) (([.ref (ad 500 0)] : List Value).toArray) s 0 0 A) (F0 m 39 ls []) := by
    intro kx39 hx39 n39
    induction n39 with
    | zero =>
      intro v1 σ H locs ls hf
      exact absurd hf (by simp [X10_close_l39])
    | succ n39 ih39 =>
      intro v1 σ H locs ls hf hl hP hS
      rw [X10_close_l39.eq_2] at hf
      refine lv_iload_n hx hb dX10_close_39 rfl (lv_at hl 1 rfl) ?_
      refine lv_bipush (v := (12 : Int32)) hx hb dX10_close_40 rfl ?_
      refine lv_icmp_ge (tgt := 77) hx hb dX10_close_42 rfl (fun hc => ?_) (fun hc => ?_)
      · have hf := b_p hf hc
        exact hx39  σ _ _ _  hf (lv_sub hl [0] rfl) hP hS
      · have hf := b_n hf hc
        refine lv_aload_n hx hb dX10_close_45 rfl (lv_at hl 0 rfl) ?_
        refine x_get (k := 500) (n := 0) hx hb hts i_X10 hown hK hP (mk_500 h01) rfl rfl 0 (by decide) rfl k_7 (v := .ref (ad 501 0)) rfl dX10_close_46 ?_
        refine lv_iload_n hx hb dX10_close_49 rfl (lv_at hl 1 rfl) ?_
        obtain ⟨g5, hf⟩ := gd_e hf
        refine x_iald (k := 501) (n := 0) hx hb hK hP (mk_501 h01) rfl g5 dX10_close_50 ?_
        refine lv_if_lt (tgt := 71) hx hb dX10_close_51 rfl (fun hc => ?_) (fun hc => ?_)
        · have hf := b_p hf hc
          refine lv_iinc (v := (v1 + (1 : Int32))) (lv' := [(1, .int (v1 + (1 : Int32))), (0, .ref (ad 500 0))]) hx hb dX10_close_71 hl (k := 1) rfl rfl (by decide) rfl (fun ls hl => ?_)
          refine lv_goto (tgt := 39) hx hb dX10_close_74 rfl ?_
          exact ih39 (v1 + (1 : Int32)) σ _ _ _  hf (lv_sub hl [1, 0] rfl) hP hS
        · have hf := b_n hf hc
          refine lv_aload_n hx hb dX10_close_54 rfl (lv_at hl 0 rfl) ?_
          refine x_get (k := 500) (n := 0) hx hb hts i_X10 hown hK hP (mk_500 h01) rfl rfl 2 (by decide) rfl k_17 (v := .ref (ad 503 0)) rfl dX10_close_55 ?_
          refine lv_bipush (v := (16 : Int32)) hx hb dX10_close_58 rfl ?_
          refine lv_iload_n hx hb dX10_close_60 rfl (lv_at hl 1 rfl) ?_
          refine lv_imul hx hb dX10_close_61 ?_
          refine lv_aload_n hx hb dX10_close_62 rfl (lv_at hl 0 rfl) ?_
          refine x_get (k := 500) (n := 0) hx hb hts i_X10 hown hK hP (mk_500 h01) rfl rfl 0 (by decide) rfl k_7 (v := .ref (ad 501 0)) rfl dX10_close_63 ?_
          refine lv_iload_n hx hb dX10_close_66 rfl (lv_at hl 1 rfl) ?_
          obtain ⟨g6, hf⟩ := gd_e hf
          refine x_iald (k := 501) (n := 0) hx hb hK hP (mk_501 h01) rfl g6 dX10_close_67 ?_
          refine lv_iadd hx hb dX10_close_68 ?_
          refine lv_iconst (v := (1 : Int32)) hx hb dX10_close_69 rfl ?_
          obtain ⟨g7, hf⟩ := gd_e hf
          refine x_zast (k := 503) (n := 0) hx hb hK hD hP hS (mk_503 h01) rfl (by decide) g7 dX10_close_70 (fun H locs hP hS => ?_)
          obtain ⟨σ8, e_σ8, hf⟩ := nm_i hf
          have hP : va_P G vwCl (wld ad ca σ8 LM) H := by rw [e_σ8]; exact hP
          refine lv_iinc (v := (v1 + (1 : Int32))) (lv' := [(1, .int (v1 + (1 : Int32))), (0, .ref (ad 500 0))]) hx hb dX10_close_71 hl (k := 1) rfl rfl (by decide) rfl (fun ls hl => ?_)
          refine lv_goto (tgt := 39) hx hb dX10_close_74 rfl ?_
          exact ih39 (v1 + (1 : Int32)) σ8 _ _ _  hf (lv_sub hl [1, 0] rfl) hP hS
  have l79 : ∀ (kx79 : PS → Option (Int32 × PS)), (∀ (σ : PS) (H : Heap) (locs : List Loc) (ls : Array Slot), kx79 σ = some (res, σz) → lv_has ls 4 [(0, .ref (ad 500 0))] → va_P G vwCl (wld ad ca σ LM) H → va_S A s.heap H locs → W p l e (headSpec wsX10_close ({ frames := 0, cells := 0, slots := 0, locals := 0 })).room s m (([.ref (ad 500 0)] : List Value).toArray) below meth c H locs 0 0 (MQ below (va_Qi (fun r' u => r' = res ∧ u = σz) (ctB G ad ca LM) A) (([.ref (ad 500 0)] : List Value).toArray) s 0 0 A) (F0 m 177 ls [])) → ∀ (n79 : Nat) (v1 : Int32) (σ : PS) (H : Heap) (locs : List Loc) (ls : Array Slot), X10_close_l79  kx79 n79 v1 σ = some (res, σz) → lv_has ls 4 [(0, .ref (ad 500 0)), (1, .int v1)] → va_P G vwCl (wld ad ca σ LM) H → va_S A s.heap H locs → W p l e (headSpec wsX10_close ({ frames := 0, cells := 0, slots := 0, locals := 0 })).room s m (([.ref (ad 500 0)] : List Value).toArray) below meth c H locs 0 0 (MQ below (va_Qi (fun r' u => r' = res ∧ u = σz) (ctB G ad ca LM) A) (([.ref (ad 500 0)] : List Value).toArray) s 0 0 A) (F0 m 79 ls []) := by
    intro kx79 hx79 n79
    induction n79 with
    | zero =>
      intro v1 σ H locs ls hf
      exact absurd hf (by simp [X10_close_l79])
    | succ n79 ih79 =>
      intro v1 σ H locs ls hf hl hP hS
      rw [X10_close_l79.eq_2] at hf
      have l87 : ∀ (kx87 : Int32 → PS → Option (Int32 × PS)), (∀ (v1 : Int32) (σ : PS) (H : Heap) (locs : List Loc) (ls : Array Slot), kx87 v1 σ = some (res, σz) → lv_has ls 4 [(0, .ref (ad 500 0)), (1, .int v1)] → va_P G vwCl (wld ad ca σ LM) H → va_S A s.heap H locs → W p l e (headSpec wsX10_close ({ frames := 0, cells := 0, slots := 0, locals := 0 })).room s m (([.ref (ad 500 0)] : List Value).toArray) below meth c H locs 0 0 (MQ below (va_Qi (fun r' u => r' = res ∧ u = σz) (ctB G ad ca LM) A) (([.ref (ad 500 0)] : List Value).toArray) s 0 0 A) (F0 m 171 ls [])) → ∀ (n87 : Nat) (v1 : Int32) (v2 : Int32) (σ : PS) (H : Heap) (locs : List Loc) (ls : Array Slot), X10_close_l87  kx87 n87 v1 v2 σ = some (res, σz) → lv_has ls 4 [(0, .ref (ad 500 0)), (1, .int v1), (2, .int v2)] → va_P G vwCl (wld ad ca σ LM) H → va_S A s.heap H locs → W p l e (headSpec wsX10_close ({ frames := 0, cells := 0, slots := 0, locals := 0 })).room s m (([.ref (ad 500 0)] : List Value).toArray) below meth c H locs 0 0 (MQ below (va_Qi (fun r' u => r' = res ∧ u = σz) (ctB G ad ca LM) A) (([.ref (ad 500 0)] : List Value).toArray) s 0 0 A) (F0 m 87 ls []) := by
        intro kx87 hx87 n87
        induction n87 with
        | zero =>
          intro v1 v2 σ H locs ls hf
          exact absurd hf (by simp [X10_close_l87])
        | succ n87 ih87 =>
          intro v1 v2 σ H locs ls hf hl hP hS
          rw [X10_close_l87.eq_2] at hf
          have l95 : ∀ (kx95 : Int32 → Int32 → PS → Option (Int32 × PS)), (∀ (v1 : Int32) (v2 : Int32) (σ : PS) (H : Heap) (locs : List Loc) (ls : Array Slot), kx95 v1 v2 σ = some (res, σz) → lv_has ls 4 [(0, .ref (ad 500 0)), (1, .int v1), (2, .int v2)] → va_P G vwCl (wld ad ca σ LM) H → va_S A s.heap H locs → W p l e (headSpec wsX10_close ({ frames := 0, cells := 0, slots := 0, locals := 0 })).room s m (([.ref (ad 500 0)] : List Value).toArray) below meth c H locs 0 0 (MQ below (va_Qi (fun r' u => r' = res ∧ u = σz) (ctB G ad ca LM) A) (([.ref (ad 500 0)] : List Value).toArray) s 0 0 A) (F0 m 165 ls [])) → ∀ (n95 : Nat) (v1 : Int32) (v2 : Int32) (v3 : Int32) (σ : PS) (H : Heap) (locs : List Loc) (ls : Array Slot), X10_close_l95  kx95 n95 v1 v2 v3 σ = some (res, σz) → lv_has ls 4 [(0, .ref (ad 500 0)), (1, .int v1), (2, .int v2), (3, .int v3)] → va_P G vwCl (wld ad ca σ LM) H → va_S A s.heap H locs → W p l e (headSpec wsX10_close ({ frames := 0, cells := 0, slots := 0, locals := 0 })).room s m (([.ref (ad 500 0)] : List Value).toArray) below meth c H locs 0 0 (MQ below (va_Qi (fun r' u => r' = res ∧ u = σz) (ctB G ad ca LM) A) (([.ref (ad 500 0)] : List Value).toArray) s 0 0 A) (F0 m 95 ls []) := by
            intro kx95 hx95 n95
            induction n95 with
            | zero =>
              intro v1 v2 v3 σ H locs ls hf
              exact absurd hf (by simp [X10_close_l95])
            | succ n95 ih95 =>
              intro v1 v2 v3 σ H locs ls hf hl hP hS
              rw [X10_close_l95.eq_2] at hf
              refine lv_iload_n hx hb dX10_close_95 rfl (lv_at hl 3 rfl) ?_
              refine lv_bipush (v := (16 : Int32)) hx hb dX10_close_96 rfl ?_
              refine lv_icmp_ge (tgt := 165) hx hb dX10_close_98 rfl (fun hc => ?_) (fun hc => ?_)
              · have hf := b_p hf hc
                exact hx95 v1 v2 σ _ _ _  hf (lv_sub hl [0, 1, 2] rfl) hP hS
              · have hf := b_n hf hc
                refine lv_aload_n hx hb dX10_close_101 rfl (lv_at hl 0 rfl) ?_
                refine x_get (k := 500) (n := 0) hx hb hts i_X10 hown hK hP (mk_500 h01) rfl rfl 2 (by decide) rfl k_17 (v := .ref (ad 503 0)) rfl dX10_close_102 ?_
                refine lv_bipush (v := (16 : Int32)) hx hb dX10_close_105 rfl ?_
                refine lv_iload_n hx hb dX10_close_107 rfl (lv_at hl 2 rfl) ?_
                refine lv_imul hx hb dX10_close_108 ?_
                refine lv_iload_n hx hb dX10_close_109 rfl (lv_at hl 3 rfl) ?_
                refine lv_iadd hx hb dX10_close_110 ?_
                refine lv_aload_n hx hb dX10_close_111 rfl (lv_at hl 0 rfl) ?_
                refine x_get (k := 500) (n := 0) hx hb hts i_X10 hown hK hP (mk_500 h01) rfl rfl 2 (by decide) rfl k_17 (v := .ref (ad 503 0)) rfl dX10_close_112 ?_
                refine lv_bipush (v := (16 : Int32)) hx hb dX10_close_115 rfl ?_
                refine lv_iload_n hx hb dX10_close_117 rfl (lv_at hl 2 rfl) ?_
                refine lv_imul hx hb dX10_close_118 ?_
                refine lv_iload_n hx hb dX10_close_119 rfl (lv_at hl 3 rfl) ?_
                refine lv_iadd hx hb dX10_close_120 ?_
                obtain ⟨g9, hf⟩ := gd_e hf
                refine x_zald (k := 503) (n := 0) hx hb hK hP (mk_503 h01) rfl g9 dX10_close_121 ?_
                refine lv_if_ne (tgt := 153) hx hb dX10_close_122 rfl (fun hc => ?_) (fun hc => ?_)
                · have hf := b_n hf hc
                  refine lv_iconst (v := (1 : Int32)) hx hb dX10_close_153 rfl ?_
                  refine lv_goto (tgt := 158) hx hb dX10_close_154 rfl ?_
                  obtain ⟨g10, hf⟩ := gd_e hf
                  refine x_zast (k := 503) (n := 0) hx hb hK hD hP hS (mk_503 h01) rfl (by decide) g10 dX10_close_158 (fun H locs hP hS => ?_)
                  obtain ⟨σ11, e_σ11, hf⟩ := nm_i hf
                  have hP : va_P G vwCl (wld ad ca σ11 LM) H := by rw [e_σ11]; exact hP
                  refine lv_iinc (v := (v3 + (1 : Int32))) (lv' := [(3, .int (v3 + (1 : Int32))), (0, .ref (ad 500 0)), (1, .int v1), (2, .int v2)]) hx hb dX10_close_159 hl (k := 3) rfl rfl (by decide) rfl (fun ls hl => ?_)
                  refine lv_goto (tgt := 95) hx hb dX10_close_162 rfl ?_
                  exact ih95 v1 v2 (v3 + (1 : Int32)) σ11 _ _ _  hf (lv_sub hl [1, 2, 3, 0] rfl) hP hS
                · have hf := b_p hf hc
                  refine lv_aload_n hx hb dX10_close_125 rfl (lv_at hl 0 rfl) ?_
                  refine x_get (k := 500) (n := 0) hx hb hts i_X10 hown hK hP (mk_500 h01) rfl rfl 2 (by decide) rfl k_17 (v := .ref (ad 503 0)) rfl dX10_close_126 ?_
                  refine lv_bipush (v := (16 : Int32)) hx hb dX10_close_129 rfl ?_
                  refine lv_iload_n hx hb dX10_close_131 rfl (lv_at hl 2 rfl) ?_
                  refine lv_imul hx hb dX10_close_132 ?_
                  refine lv_iload_n hx hb dX10_close_133 rfl (lv_at hl 1 rfl) ?_
                  refine lv_iadd hx hb dX10_close_134 ?_
                  obtain ⟨g12, hf⟩ := gd_e hf
                  refine x_zald (k := 503) (n := 0) hx hb hK hP (mk_503 h01) rfl g12 dX10_close_135 ?_
                  refine lv_if_eq (tgt := 157) hx hb dX10_close_136 rfl (fun hc => ?_) (fun hc => ?_)
                  · have hf := b_p hf hc
                    refine lv_iconst (v := (0 : Int32)) hx hb dX10_close_157 rfl ?_
                    obtain ⟨g13, hf⟩ := gd_e hf
                    refine x_zast (k := 503) (n := 0) hx hb hK hD hP hS (mk_503 h01) rfl (by decide) g13 dX10_close_158 (fun H locs hP hS => ?_)
                    obtain ⟨σ14, e_σ14, hf⟩ := nm_i hf
                    have hP : va_P G vwCl (wld ad ca σ14 LM) H := by rw [e_σ14]; exact hP
                    refine lv_iinc (v := (v3 + (1 : Int32))) (lv' := [(3, .int (v3 + (1 : Int32))), (0, .ref (ad 500 0)), (1, .int v1), (2, .int v2)]) hx hb dX10_close_159 hl (k := 3) rfl rfl (by decide) rfl (fun ls hl => ?_)
                    refine lv_goto (tgt := 95) hx hb dX10_close_162 rfl ?_
                    exact ih95 v1 v2 (v3 + (1 : Int32)) σ14 _ _ _  hf (lv_sub hl [1, 2, 3, 0] rfl) hP hS
                  · have hf := b_n hf hc
                    refine lv_aload_n hx hb dX10_close_139 rfl (lv_at hl 0 rfl) ?_
                    refine x_get (k := 500) (n := 0) hx hb hts i_X10 hown hK hP (mk_500 h01) rfl rfl 2 (by decide) rfl k_17 (v := .ref (ad 503 0)) rfl dX10_close_140 ?_
                    refine lv_bipush (v := (16 : Int32)) hx hb dX10_close_143 rfl ?_
                    refine lv_iload_n hx hb dX10_close_145 rfl (lv_at hl 1 rfl) ?_
                    refine lv_imul hx hb dX10_close_146 ?_
                    refine lv_iload_n hx hb dX10_close_147 rfl (lv_at hl 3 rfl) ?_
                    refine lv_iadd hx hb dX10_close_148 ?_
                    obtain ⟨g15, hf⟩ := gd_e hf
                    refine x_zald (k := 503) (n := 0) hx hb hK hP (mk_503 h01) rfl g15 dX10_close_149 ?_
                    refine lv_if_eq (tgt := 157) hx hb dX10_close_150 rfl (fun hc => ?_) (fun hc => ?_)
                    · have hf := b_p hf hc
                      refine lv_iconst (v := (0 : Int32)) hx hb dX10_close_157 rfl ?_
                      obtain ⟨g16, hf⟩ := gd_e hf
                      refine x_zast (k := 503) (n := 0) hx hb hK hD hP hS (mk_503 h01) rfl (by decide) g16 dX10_close_158 (fun H locs hP hS => ?_)
                      obtain ⟨σ17, e_σ17, hf⟩ := nm_i hf
                      have hP : va_P G vwCl (wld ad ca σ17 LM) H := by rw [e_σ17]; exact hP
                      refine lv_iinc (v := (v3 + (1 : Int32))) (lv' := [(3, .int (v3 + (1 : Int32))), (0, .ref (ad 500 0)), (1, .int v1), (2, .int v2)]) hx hb dX10_close_159 hl (k := 3) rfl rfl (by decide) rfl (fun ls hl => ?_)
                      refine lv_goto (tgt := 95) hx hb dX10_close_162 rfl ?_
                      exact ih95 v1 v2 (v3 + (1 : Int32)) σ17 _ _ _  hf (lv_sub hl [1, 2, 3, 0] rfl) hP hS
                    · have hf := b_n hf hc
                      refine lv_iconst (v := (1 : Int32)) hx hb dX10_close_153 rfl ?_
                      refine lv_goto (tgt := 158) hx hb dX10_close_154 rfl ?_
                      obtain ⟨g18, hf⟩ := gd_e hf
                      refine x_zast (k := 503) (n := 0) hx hb hK hD hP hS (mk_503 h01) rfl (by decide) g18 dX10_close_158 (fun H locs hP hS => ?_)
                      obtain ⟨σ19, e_σ19, hf⟩ := nm_i hf
                      have hP : va_P G vwCl (wld ad ca σ19 LM) H := by rw [e_σ19]; exact hP
                      refine lv_iinc (v := (v3 + (1 : Int32))) (lv' := [(3, .int (v3 + (1 : Int32))), (0, .ref (ad 500 0)), (1, .int v1), (2, .int v2)]) hx hb dX10_close_159 hl (k := 3) rfl rfl (by decide) rfl (fun ls hl => ?_)
                      refine lv_goto (tgt := 95) hx hb dX10_close_162 rfl ?_
                      exact ih95 v1 v2 (v3 + (1 : Int32)) σ19 _ _ _  hf (lv_sub hl [1, 2, 3, 0] rfl) hP hS
          have c165 : ∀ (v1 : Int32) (v2 : Int32) (σ : PS) (H : Heap) (locs : List Loc) (ls : Array Slot), X10_close_c165  (X10_close_l87  kx87 n87) kx87 v1 v2 σ = some (res, σz) → lv_has ls 4 [(0, .ref (ad 500 0)), (1, .int v1), (2, .int v2)] → va_P G vwCl (wld ad ca σ LM) H → va_S A s.heap H locs → W p l e (headSpec wsX10_close ({ frames := 0, cells := 0, slots := 0, locals := 0 })).room s m (([.ref (ad 500 0)] : List Value).toArray) below meth c H locs 0 0 (MQ below (va_Qi (fun r' u => r' = res ∧ u = σz) (ctB G ad ca LM) A) (([.ref (ad 500 0)] : List Value).toArray) s 0 0 A) (F0 m 165 ls []) := by
            intro v1 v2 σ H locs ls hf hl hP hS
            unfold X10_close_c165 at hf
            refine lv_iinc (v := (v2 + (1 : Int32))) (lv' := [(2, .int (v2 + (1 : Int32))), (0, .ref (ad 500 0)), (1, .int v1)]) hx hb dX10_close_165 hl (k := 2) rfl rfl (by decide) rfl (fun ls hl => ?_)
            refine lv_goto (tgt := 87) hx hb dX10_close_168 rfl ?_
            exact ih87 v1 (v2 + (1 : Int32)) σ _ _ _  hf (lv_sub hl [1, 2, 0] rfl) hP hS
          refine lv_iload_n hx hb dX10_close_87 rfl (lv_at hl 2 rfl) ?_
          refine lv_bipush (v := (16 : Int32)) hx hb dX10_close_88 rfl ?_
          refine lv_icmp_ge (tgt := 171) hx hb dX10_close_90 rfl (fun hc => ?_) (fun hc => ?_)
          · have hf := b_p hf hc
            exact hx87 v1 σ _ _ _  hf (lv_sub hl [0, 1] rfl) hP hS
          · have hf := b_n hf hc
            refine lv_iconst (v := (0 : Int32)) hx hb dX10_close_93 rfl ?_
            refine lv_istore_n (lv' := [(3, .int (0 : Int32)), (0, .ref (ad 500 0)), (1, .int v1), (2, .int v2)]) hx hb dX10_close_94 rfl hl (by decide) rfl (fun ls hl => ?_)
            exact l95 _ c165 _ v1 v2 (0 : Int32) σ _ _ _  hf (lv_sub hl [1, 2, 3, 0] rfl) hP hS
      have c171 : ∀ (v1 : Int32) (σ : PS) (H : Heap) (locs : List Loc) (ls : Array Slot), X10_close_c171  (X10_close_l79  kx79 n79) kx79 v1 σ = some (res, σz) → lv_has ls 4 [(0, .ref (ad 500 0)), (1, .int v1)] → va_P G vwCl (wld ad ca σ LM) H → va_S A s.heap H locs → W p l e (headSpec wsX10_close ({ frames := 0, cells := 0, slots := 0, locals := 0 })).room s m (([.ref (ad 500 0)] : List Value).toArray) below meth c H locs 0 0 (MQ below (va_Qi (fun r' u => r' = res ∧ u = σz) (ctB G ad ca LM) A) (([.ref (ad 500 0)] : List Value).toArray) s 0 0 A) (F0 m 171 ls []) := by
        intro v1 σ H locs ls hf hl hP hS
        unfold X10_close_c171 at hf
        refine lv_iinc (v := (v1 + (1 : Int32))) (lv' := [(1, .int (v1 + (1 : Int32))), (0, .ref (ad 500 0))]) hx hb dX10_close_171 hl (k := 1) rfl rfl (by decide) rfl (fun ls hl => ?_)
        refine lv_goto (tgt := 79) hx hb dX10_close_174 rfl ?_
        exact ih79 (v1 + (1 : Int32)) σ _ _ _  hf (lv_sub hl [1, 0] rfl) hP hS
      refine lv_iload_n hx hb dX10_close_79 rfl (lv_at hl 1 rfl) ?_
      refine lv_bipush (v := (16 : Int32)) hx hb dX10_close_80 rfl ?_
      refine lv_icmp_ge (tgt := 177) hx hb dX10_close_82 rfl (fun hc => ?_) (fun hc => ?_)
      · have hf := b_p hf hc
        exact hx79  σ _ _ _  hf (lv_sub hl [0] rfl) hP hS
      · have hf := b_n hf hc
        refine lv_iconst (v := (0 : Int32)) hx hb dX10_close_85 rfl ?_
        refine lv_istore_n (lv' := [(2, .int (0 : Int32)), (0, .ref (ad 500 0)), (1, .int v1)]) hx hb dX10_close_86 rfl hl (by decide) rfl (fun ls hl => ?_)
        exact l87 _ c171 _ v1 (0 : Int32) σ _ _ _  hf (lv_sub hl [1, 2, 0] rfl) hP hS
  have l179 : ∀ (kx179 : PS → Option (Int32 × PS)), (∀ (σ : PS) (H : Heap) (locs : List Loc) (ls : Array Slot), kx179 σ = some (res, σz) → lv_has ls 4 [(0, .ref (ad 500 0))] → va_P G vwCl (wld ad ca σ LM) H → va_S A s.heap H locs → W p l e (headSpec wsX10_close ({ frames := 0, cells := 0, slots := 0, locals := 0 })).room s m (([.ref (ad 500 0)] : List Value).toArray) below meth c H locs 0 0 (MQ below (va_Qi (fun r' u => r' = res ∧ u = σz) (ctB G ad ca LM) A) (([.ref (ad 500 0)] : List Value).toArray) s 0 0 A) (F0 m 206 ls [])) → ∀ (n179 : Nat) (v1 : Int32) (σ : PS) (H : Heap) (locs : List Loc) (ls : Array Slot), X10_close_l179  kx179 n179 v1 σ = some (res, σz) → lv_has ls 4 [(0, .ref (ad 500 0)), (1, .int v1)] → va_P G vwCl (wld ad ca σ LM) H → va_S A s.heap H locs → W p l e (headSpec wsX10_close ({ frames := 0, cells := 0, slots := 0, locals := 0 })).room s m (([.ref (ad 500 0)] : List Value).toArray) below meth c H locs 0 0 (MQ below (va_Qi (fun r' u => r' = res ∧ u = σz) (ctB G ad ca LM) A) (([.ref (ad 500 0)] : List Value).toArray) s 0 0 A) (F0 m 179 ls []) := by
    intro kx179 hx179 n179
    induction n179 with
    | zero =>
      intro v1 σ H locs ls hf
      exact absurd hf (by simp [X10_close_l179])
    | succ n179 ih179 =>
      intro v1 σ H locs ls hf hl hP hS
      rw [X10_close_l179.eq_2] at hf
      refine lv_iload_n hx hb dX10_close_179 rfl (lv_at hl 1 rfl) ?_
      refine lv_bipush (v := (16 : Int32)) hx hb dX10_close_180 rfl ?_
      refine lv_icmp_ge (tgt := 206) hx hb dX10_close_182 rfl (fun hc => ?_) (fun hc => ?_)
      · have hf := b_p hf hc
        exact hx179  σ _ _ _  hf (lv_sub hl [0] rfl) hP hS
      · have hf := b_n hf hc
        refine lv_aload_n hx hb dX10_close_185 rfl (lv_at hl 0 rfl) ?_
        refine x_get (k := 500) (n := 0) hx hb hts i_X10 hown hK hP (mk_500 h01) rfl rfl 2 (by decide) rfl k_17 (v := .ref (ad 503 0)) rfl dX10_close_186 ?_
        refine lv_bipush (v := (17 : Int32)) hx hb dX10_close_189 rfl ?_
        refine lv_iload_n hx hb dX10_close_191 rfl (lv_at hl 1 rfl) ?_
        refine lv_imul hx hb dX10_close_192 ?_
        obtain ⟨g20, hf⟩ := gd_e hf
        refine x_zald (k := 503) (n := 0) hx hb hK hP (mk_503 h01) rfl g20 dX10_close_193 ?_
        refine lv_if_eq (tgt := 200) hx hb dX10_close_194 rfl (fun hc => ?_) (fun hc => ?_)
        · have hf := b_p hf hc
          refine lv_iinc (v := (v1 + (1 : Int32))) (lv' := [(1, .int (v1 + (1 : Int32))), (0, .ref (ad 500 0))]) hx hb dX10_close_200 hl (k := 1) rfl rfl (by decide) rfl (fun ls hl => ?_)
          refine lv_goto (tgt := 179) hx hb dX10_close_203 rfl ?_
          exact ih179 (v1 + (1 : Int32)) σ _ _ _  hf (lv_sub hl [1, 0] rfl) hP hS
        · have hf := b_n hf hc
          refine lv_bipush (v := (-5 : Int32)) hx hb dX10_close_197 rfl ?_
          have hf := Option.some.inj hf
          exact x_iret hx hb hr hlocks hK hP hS (congrArg Prod.fst hf) (congrArg Prod.snd hf) dX10_close_199
  have l208 : ∀ (kx208 : PS → Option (Int32 × PS)), (∀ (σ : PS) (H : Heap) (locs : List Loc) (ls : Array Slot), kx208 σ = some (res, σz) → lv_has ls 4 [(0, .ref (ad 500 0))] → va_P G vwCl (wld ad ca σ LM) H → va_S A s.heap H locs → W p l e (headSpec wsX10_close ({ frames := 0, cells := 0, slots := 0, locals := 0 })).room s m (([.ref (ad 500 0)] : List Value).toArray) below meth c H locs 0 0 (MQ below (va_Qi (fun r' u => r' = res ∧ u = σz) (ctB G ad ca LM) A) (([.ref (ad 500 0)] : List Value).toArray) s 0 0 A) (F0 m 230 ls [])) → ∀ (n208 : Nat) (v1 : Int32) (σ : PS) (H : Heap) (locs : List Loc) (ls : Array Slot), X10_close_l208  kx208 n208 v1 σ = some (res, σz) → lv_has ls 4 [(0, .ref (ad 500 0)), (1, .int v1)] → va_P G vwCl (wld ad ca σ LM) H → va_S A s.heap H locs → W p l e (headSpec wsX10_close ({ frames := 0, cells := 0, slots := 0, locals := 0 })).room s m (([.ref (ad 500 0)] : List Value).toArray) below meth c H locs 0 0 (MQ below (va_Qi (fun r' u => r' = res ∧ u = σz) (ctB G ad ca LM) A) (([.ref (ad 500 0)] : List Value).toArray) s 0 0 A) (F0 m 208 ls []) := by
    intro kx208 hx208 n208
    induction n208 with
    | zero =>
      intro v1 σ H locs ls hf
      exact absurd hf (by simp [X10_close_l208])
    | succ n208 ih208 =>
      intro v1 σ H locs ls hf hl hP hS
      rw [X10_close_l208.eq_2] at hf
      refine lv_iload_n hx hb dX10_close_208 rfl (lv_at hl 1 rfl) ?_
      refine lv_bipush (v := (16 : Int32)) hx hb dX10_close_209 rfl ?_
      refine lv_icmp_ge (tgt := 230) hx hb dX10_close_211 rfl (fun hc => ?_) (fun hc => ?_)
      · have hf := b_p hf hc
        exact hx208  σ _ _ _  hf (lv_sub hl [0] rfl) hP hS
      · have hf := b_n hf hc
        refine lv_aload_n hx hb dX10_close_214 rfl (lv_at hl 0 rfl) ?_
        refine x_get (k := 500) (n := 0) hx hb hts i_X10 hown hK hP (mk_500 h01) rfl rfl 2 (by decide) rfl k_17 (v := .ref (ad 503 0)) rfl dX10_close_215 ?_
        refine lv_bipush (v := (17 : Int32)) hx hb dX10_close_218 rfl ?_
        refine lv_iload_n hx hb dX10_close_220 rfl (lv_at hl 1 rfl) ?_
        refine lv_imul hx hb dX10_close_221 ?_
        refine lv_iconst (v := (1 : Int32)) hx hb dX10_close_222 rfl ?_
        obtain ⟨g21, hf⟩ := gd_e hf
        refine x_zast (k := 503) (n := 0) hx hb hK hD hP hS (mk_503 h01) rfl (by decide) g21 dX10_close_223 (fun H locs hP hS => ?_)
        obtain ⟨σ22, e_σ22, hf⟩ := nm_i hf
        have hP : va_P G vwCl (wld ad ca σ22 LM) H := by rw [e_σ22]; exact hP
        refine lv_iinc (v := (v1 + (1 : Int32))) (lv' := [(1, .int (v1 + (1 : Int32))), (0, .ref (ad 500 0))]) hx hb dX10_close_224 hl (k := 1) rfl rfl (by decide) rfl (fun ls hl => ?_)
        refine lv_goto (tgt := 208) hx hb dX10_close_227 rfl ?_
        exact ih208 (v1 + (1 : Int32)) σ22 _ _ _  hf (lv_sub hl [1, 0] rfl) hP hS
  have c230 : ∀ (σ : PS) (H : Heap) (locs : List Loc) (ls : Array Slot), X10_close_c230   σ = some (res, σz) → lv_has ls 4 [(0, .ref (ad 500 0))] → va_P G vwCl (wld ad ca σ LM) H → va_S A s.heap H locs → W p l e (headSpec wsX10_close ({ frames := 0, cells := 0, slots := 0, locals := 0 })).room s m (([.ref (ad 500 0)] : List Value).toArray) below meth c H locs 0 0 (MQ below (va_Qi (fun r' u => r' = res ∧ u = σz) (ctB G ad ca LM) A) (([.ref (ad 500 0)] : List Value).toArray) s 0 0 A) (F0 m 230 ls []) := by
    intro σ H locs ls hf hl hP hS
    unfold X10_close_c230 at hf
    refine lv_aload_n hx hb dX10_close_230 rfl (lv_at hl 0 rfl) ?_
    refine lv_iconst (v := (1 : Int32)) hx hb dX10_close_231 rfl ?_
    refine x_putI (k := 500) (n := 0) hx hb hts i_X10 tyX10 tyX10_ok nmX10 hown hK hD hP hS (mk_500 h01) rfl rfl 4 (by decide) rfl k_110 rfl rfl rfl rfl dX10_close_232 (fun H locs hP hS => ?_)
    obtain ⟨σ23, e_σ23, hf⟩ := nm_i hf
    have hP : va_P G vwCl (wld ad ca σ23 LM) H := by rw [e_σ23]; exact hP
    refine lv_iconst (v := (1 : Int32)) hx hb dX10_close_235 rfl ?_
    have hf := Option.some.inj hf
    exact x_iret hx hb hr hlocks hK hP hS (congrArg Prod.fst hf) (congrArg Prod.snd hf) dX10_close_236
  have c206 : ∀ (σ : PS) (H : Heap) (locs : List Loc) (ls : Array Slot), X10_close_c206   σ = some (res, σz) → lv_has ls 4 [(0, .ref (ad 500 0))] → va_P G vwCl (wld ad ca σ LM) H → va_S A s.heap H locs → W p l e (headSpec wsX10_close ({ frames := 0, cells := 0, slots := 0, locals := 0 })).room s m (([.ref (ad 500 0)] : List Value).toArray) below meth c H locs 0 0 (MQ below (va_Qi (fun r' u => r' = res ∧ u = σz) (ctB G ad ca LM) A) (([.ref (ad 500 0)] : List Value).toArray) s 0 0 A) (F0 m 206 ls []) := by
    intro σ H locs ls hf hl hP hS
    unfold X10_close_c206 at hf
    refine lv_iconst (v := (0 : Int32)) hx hb dX10_close_206 rfl ?_
    refine lv_istore_n (lv' := [(1, .int (0 : Int32)), (0, .ref (ad 500 0))]) hx hb dX10_close_207 rfl hl (by decide) rfl (fun ls hl => ?_)
    exact l208 _ c230 _ (0 : Int32) σ _ _ _  hf (lv_sub hl [1, 0] rfl) hP hS
  have c177 : ∀ (σ : PS) (H : Heap) (locs : List Loc) (ls : Array Slot), X10_close_c177   σ = some (res, σz) → lv_has ls 4 [(0, .ref (ad 500 0))] → va_P G vwCl (wld ad ca σ LM) H → va_S A s.heap H locs → W p l e (headSpec wsX10_close ({ frames := 0, cells := 0, slots := 0, locals := 0 })).room s m (([.ref (ad 500 0)] : List Value).toArray) below meth c H locs 0 0 (MQ below (va_Qi (fun r' u => r' = res ∧ u = σz) (ctB G ad ca LM) A) (([.ref (ad 500 0)] : List Value).toArray) s 0 0 A) (F0 m 177 ls []) := by
    intro σ H locs ls hf hl hP hS
    unfold X10_close_c177 at hf
    refine lv_iconst (v := (0 : Int32)) hx hb dX10_close_177 rfl ?_
    refine lv_istore_n (lv' := [(1, .int (0 : Int32)), (0, .ref (ad 500 0))]) hx hb dX10_close_178 rfl hl (by decide) rfl (fun ls hl => ?_)
    exact l179 _ c206 _ (0 : Int32) σ _ _ _  hf (lv_sub hl [1, 0] rfl) hP hS
  have c77 : ∀ (σ : PS) (H : Heap) (locs : List Loc) (ls : Array Slot), X10_close_c77   σ = some (res, σz) → lv_has ls 4 [(0, .ref (ad 500 0))] → va_P G vwCl (wld ad ca σ LM) H → va_S A s.heap H locs → W p l e (headSpec wsX10_close ({ frames := 0, cells := 0, slots := 0, locals := 0 })).room s m (([.ref (ad 500 0)] : List Value).toArray) below meth c H locs 0 0 (MQ below (va_Qi (fun r' u => r' = res ∧ u = σz) (ctB G ad ca LM) A) (([.ref (ad 500 0)] : List Value).toArray) s 0 0 A) (F0 m 77 ls []) := by
    intro σ H locs ls hf hl hP hS
    unfold X10_close_c77 at hf
    refine lv_iconst (v := (0 : Int32)) hx hb dX10_close_77 rfl ?_
    refine lv_istore_n (lv' := [(1, .int (0 : Int32)), (0, .ref (ad 500 0))]) hx hb dX10_close_78 rfl hl (by decide) rfl (fun ls hl => ?_)
    exact l79 _ c177 _ (0 : Int32) σ _ _ _  hf (lv_sub hl [1, 0] rfl) hP hS
  have c37 : ∀ (σ : PS) (H : Heap) (locs : List Loc) (ls : Array Slot), X10_close_c37   σ = some (res, σz) → lv_has ls 4 [(0, .ref (ad 500 0))] → va_P G vwCl (wld ad ca σ LM) H → va_S A s.heap H locs → W p l e (headSpec wsX10_close ({ frames := 0, cells := 0, slots := 0, locals := 0 })).room s m (([.ref (ad 500 0)] : List Value).toArray) below meth c H locs 0 0 (MQ below (va_Qi (fun r' u => r' = res ∧ u = σz) (ctB G ad ca LM) A) (([.ref (ad 500 0)] : List Value).toArray) s 0 0 A) (F0 m 37 ls []) := by
    intro σ H locs ls hf hl hP hS
    unfold X10_close_c37 at hf
    refine lv_iconst (v := (0 : Int32)) hx hb dX10_close_37 rfl ?_
    refine lv_istore_n (lv' := [(1, .int (0 : Int32)), (0, .ref (ad 500 0))]) hx hb dX10_close_38 rfl hl (by decide) rfl (fun ls hl => ?_)
    exact l39 _ c77 _ (0 : Int32) σ _ _ _  hf (lv_sub hl [1, 0] rfl) hP hS
  refine lv_aload_n hx hb dX10_close_0 rfl (lv_at hl 0 rfl) ?_
  refine x_get (k := 500) (n := 0) hx hb hts i_X10 hown hK hP (mk_500 h01) rfl rfl 4 (by decide) rfl k_110 (v := .int (gI σ 500 0 4)) rfl dX10_close_1 ?_
  refine lv_if_eq (tgt := 10) hx hb dX10_close_4 rfl (fun hc => ?_) (fun hc => ?_)
  · have hf := b_p hf hc
    refine lv_iconst (v := (0 : Int32)) hx hb dX10_close_10 rfl ?_
    refine lv_istore_n (lv' := [(1, .int (0 : Int32)), (0, .ref (ad 500 0))]) hx hb dX10_close_11 rfl hl (by decide) rfl (fun ls hl => ?_)
    exact l12 _ c37 _ (0 : Int32) σ _ _ _  hf (lv_sub hl [1, 0] rfl) hP hS
  · have hf := b_n hf hc
    refine lv_bipush (v := (-3 : Int32)) hx hb dX10_close_7 rfl ?_
    have hf := Option.some.inj hf
    exact x_iret hx hb hr hlocks hK hP hS (congrArg Prod.fst hf) (congrArg Prod.snd hf) dX10_close_9
theorem h9_X10_isBelow : yX10_isBelow.cls = RX10 ∧ yX10_isBelow.cls ≠ "java/lang/invoke/MethodHandle" ∧ yX10_isBelow.cls ≠ "java/lang/invoke/VarHandle" ∧ (parseMethodDescriptor yX10_isBelow.desc).map (fun d => d.parameters.length) = some 2 := by decide +kernel
set_option maxRecDepth 100000 in
set_option maxHeartbeats 4000000 in
theorem t_X10_isBelow (l : Launch) (G : va_G) (ad : Nat → Nat → Nat) (ca : Nat → ClassId) (A : Nat → Prop)   (x1 : Int32) (x2 : Int32) (hD : DW ad LM A)  (σ : PS) (res : Int32) (hf : X10_isBelow  x1 x2 σ = some res) : Met l yX10_isBelow wsX10_isBelow ({ frames := 0, cells := 0, slots := 0, locals := 0 }) (ctP G ad ca LM σ ZM [.ref (ad 500 0), .int x1, .int x2]) (va_Qi (fun r' u => r' = res ∧ u = σ) (ctB G ad ca LM) A) 0 0 A := by
  refine Met.ofW (cc := cX10_isBelow) (maxL := 3) (ret := (some .boolean)) (by decide) rfl ?_
  intro p e s m args below meth c s₁ B hml hv
  obtain ⟨rfl, hP, hK, hz⟩ := hv
  have hx := B.exec
  have hb := B.bytes
  have hr := B.returns
  have hts : ∀ w ∈ WW, w.before _ s = true := fun w h => atoms_spec (ws := wsX10_isBelow) B.pre w (List.mem_cons_of_mem _ h)
  have hown : s.vm.findClass RX10 = some m.cls := findClass_of_methodNamed B.named
  have hlocks := B.notSynchronized
  have hS : va_S A s.heap s.heap [] := va_S.rf
  have k_17 := hts _ kf_X10_17
  have hl := lv_entry ([.ref (ad 500 0), .int x1, .int x2]) (n := 3) (Nat.le_of_ble_eq_true rfl)
  rw [lg_entry_eq]
  generalize (lg_sl ([.ref (ad 500 0), .int x1, .int x2]) ++ List.replicate (3 - (lg_sl ([.ref (ad 500 0), .int x1, .int x2])).length) Slot.unset).toArray = ls at hl ⊢
  have hl : lv_has ls 3 [(0, .ref (ad 500 0)), (1, .int x1), (2, .int x2)] := hl
  unfold X10_isBelow at hf
  refine lv_aload_n hx hb dX10_isBelow_0 rfl (lv_at hl 0 rfl) ?_
  refine x_get (k := 500) (n := 0) hx hb hts i_X10 hown hK hP (mk_500 h01) rfl rfl 2 (by decide) rfl k_17 (v := .ref (ad 503 0)) rfl dX10_isBelow_1 ?_
  refine lv_bipush (v := (16 : Int32)) hx hb dX10_isBelow_4 rfl ?_
  refine lv_iload_n hx hb dX10_isBelow_6 rfl (lv_at hl 1 rfl) ?_
  refine lv_imul hx hb dX10_isBelow_7 ?_
  refine lv_iload_n hx hb dX10_isBelow_8 rfl (lv_at hl 2 rfl) ?_
  refine lv_iadd hx hb dX10_isBelow_9 ?_
  obtain ⟨g1, hf⟩ := gd_e hf
  refine x_zald (k := 503) (n := 0) hx hb hK hP (mk_503 h01) rfl g1 dX10_isBelow_10 ?_
  obtain ⟨g2, hf⟩ := gd_e hf
  exact x_zret hx hb hr hlocks hK hP hS g2 (Option.some.inj hf) rfl dX10_isBelow_11
theorem h9_X10_below : yX10_below.cls = RX10 ∧ yX10_below.cls ≠ "java/lang/invoke/MethodHandle" ∧ yX10_below.cls ≠ "java/lang/invoke/VarHandle" ∧ (parseMethodDescriptor yX10_below.desc).map (fun d => d.parameters.length) = some 2 := by decide +kernel
set_option maxRecDepth 100000 in
set_option maxHeartbeats 4000000 in
theorem t_X10_below (l : Launch) (G : va_G) (ad : Nat → Nat → Nat) (ca : Nat → ClassId) (A : Nat → Prop)   (x1 : Int32) (x2 : Int32) (hD : DW ad LM A)  (σ : PS) (res : Int32) (hf : X10_below  x1 x2 σ = some res) : Met l yX10_below wsX10_below ({ frames := 1, cells := 0, slots := 0, locals := 22 }) (ctP G ad ca LM σ ZM [.ref (ad 500 0), .int x1, .int x2]) (va_Qi (fun r' u => r' = res ∧ u = σ) (ctB G ad ca LM) A) 0 0 A := by
  refine Met.ofW (cc := cX10_below) (maxL := 3) (ret := (some .boolean)) (by decide) rfl ?_
  intro p e s m args below meth c s₁ B hml hv
  obtain ⟨rfl, hP, hK, hz⟩ := hv
  have hx := B.exec
  have hb := B.bytes
  have hr := B.returns
  have hts : ∀ w ∈ WW, w.before _ s = true := fun w h => atoms_spec (ws := wsX10_below) B.pre w (List.mem_cons_of_mem _ h)
  have hown : s.vm.findClass RX10 = some m.cls := findClass_of_methodNamed B.named
  have hlocks := B.notSynchronized
  have hS : va_S A s.heap s.heap [] := va_S.rf
  have k_110 := hts _ kf_X10_110
  have hl := lv_entry ([.ref (ad 500 0), .int x1, .int x2]) (n := 3) (Nat.le_of_ble_eq_true rfl)
  rw [lg_entry_eq]
  generalize (lg_sl ([.ref (ad 500 0), .int x1, .int x2]) ++ List.replicate (3 - (lg_sl ([.ref (ad 500 0), .int x1, .int x2])).length) Slot.unset).toArray = ls at hl ⊢
  have hl : lv_has ls 3 [(0, .ref (ad 500 0)), (1, .int x1), (2, .int x2)] := hl
  unfold X10_below at hf
  refine lv_aload_n hx hb dX10_below_0 rfl (lv_at hl 0 rfl) ?_
  refine x_get (k := 500) (n := 0) hx hb hts i_X10 hown hK hP (mk_500 h01) rfl rfl 4 (by decide) rfl k_110 (v := .int (gI σ 500 0 4)) rfl dX10_below_1 ?_
  refine lv_if_eq (tgt := 40) hx hb dX10_below_4 rfl (fun hc => ?_) (fun hc => ?_)
  · have hf := b_p hf hc
    refine lv_iconst (v := (0 : Int32)) hx hb dX10_below_40 rfl ?_
    exact x_zret hx hb hr hlocks hK hP hS (by decide) (Option.some.inj hf) rfl dX10_below_41
  · have hf := b_n hf hc
    refine lv_iload_n hx hb dX10_below_7 rfl (lv_at hl 1 rfl) ?_
    refine lv_if_lt (tgt := 40) hx hb dX10_below_8 rfl (fun hc => ?_) (fun hc => ?_)
    · have hf := b_p hf hc
      refine lv_iconst (v := (0 : Int32)) hx hb dX10_below_40 rfl ?_
      exact x_zret hx hb hr hlocks hK hP hS (by decide) (Option.some.inj hf) rfl dX10_below_41
    · have hf := b_n hf hc
      refine lv_iload_n hx hb dX10_below_11 rfl (lv_at hl 1 rfl) ?_
      refine lv_bipush (v := (16 : Int32)) hx hb dX10_below_12 rfl ?_
      refine lv_icmp_ge (tgt := 40) hx hb dX10_below_14 rfl (fun hc => ?_) (fun hc => ?_)
      · have hf := b_p hf hc
        refine lv_iconst (v := (0 : Int32)) hx hb dX10_below_40 rfl ?_
        exact x_zret hx hb hr hlocks hK hP hS (by decide) (Option.some.inj hf) rfl dX10_below_41
      · have hf := b_n hf hc
        refine lv_iload_n hx hb dX10_below_17 rfl (lv_at hl 2 rfl) ?_
        refine lv_if_lt (tgt := 40) hx hb dX10_below_18 rfl (fun hc => ?_) (fun hc => ?_)
        · have hf := b_p hf hc
          refine lv_iconst (v := (0 : Int32)) hx hb dX10_below_40 rfl ?_
          exact x_zret hx hb hr hlocks hK hP hS (by decide) (Option.some.inj hf) rfl dX10_below_41
        · have hf := b_n hf hc
          refine lv_iload_n hx hb dX10_below_21 rfl (lv_at hl 2 rfl) ?_
          refine lv_bipush (v := (16 : Int32)) hx hb dX10_below_22 rfl ?_
          refine lv_icmp_ge (tgt := 40) hx hb dX10_below_24 rfl (fun hc => ?_) (fun hc => ?_)
          · have hf := b_p hf hc
            refine lv_iconst (v := (0 : Int32)) hx hb dX10_below_40 rfl ?_
            exact x_zret hx hb hr hlocks hK hP hS (by decide) (Option.some.inj hf) rfl dX10_below_41
          · have hf := b_n hf hc
            refine lv_aload_n hx hb dX10_below_27 rfl (lv_at hl 0 rfl) ?_
            refine lv_iload_n hx hb dX10_below_28 rfl (lv_at hl 1 rfl) ?_
            refine lv_iload_n hx hb dX10_below_29 rfl (lv_at hl 2 rfl) ?_
            obtain ⟨r1, hc1, hf⟩ := bd_e hf
            refine x_ci (va_runV (As := [.int x1, .int x2]) (rest := []) ⟨hx, hb, hml, hown, hts⟩ (t_X10_isBelow l G ad ca A x1 x2 hD  σ r1 hc1) (cwV 2 hts gr_X10_121 rfl rfl rfl h9_X10_isBelow ⟨Nat.le_of_ble_eq_true rfl, Nat.le_of_ble_eq_true rfl⟩) (x_prV zkM hz hK hP (mk_500 h01) rfl rfl) rfl rfl hl.1 rfl (lv_room (Nat.le_of_ble_eq_true rfl)) dX10_below_30 ⟨Nat.le_of_ble_eq_true rfl, Nat.le_of_ble_eq_true rfl⟩) hS (fun H locs hP hS => ?_)
            refine lv_if_eq (tgt := 40) hx hb dX10_below_33 rfl (fun hc => ?_) (fun hc => ?_)
            · have hf := b_p hf hc
              refine lv_iconst (v := (0 : Int32)) hx hb dX10_below_40 rfl ?_
              exact x_zret hx hb hr hlocks hK hP hS (by decide) (Option.some.inj hf) rfl dX10_below_41
            · have hf := b_n hf hc
              refine lv_iconst (v := (1 : Int32)) hx hb dX10_below_36 rfl ?_
              refine lv_goto (tgt := 41) hx hb dX10_below_37 rfl ?_
              exact x_zret hx hb hr hlocks hK hP hS (by decide) (Option.some.inj hf) rfl dX10_below_41
theorem h9_X10_sample : yX10_sample.cls = RX10 ∧ yX10_sample.cls ≠ "java/lang/invoke/MethodHandle" ∧ yX10_sample.cls ≠ "java/lang/invoke/VarHandle" ∧ (parseMethodDescriptor yX10_sample.desc).map (fun d => d.parameters.length) = some 2 := by decide +kernel
set_option maxRecDepth 100000 in
set_option maxHeartbeats 4000000 in
theorem t_X10_sample (l : Launch) (G : va_G) (ad : Nat → Nat → Nat) (ca : Nat → ClassId) (A : Nat → Prop)   (x1 : Int32) (x2 : Int32) (hD : DW ad LM A)  (σ : PS) (res : Int32) (σz : PS) (hf : X10_sample  x1 x2 σ = some (res, σz)) : Met l yX10_sample wsX10_sample ({ frames := 1, cells := 0, slots := 0, locals := 20 }) (ctP G ad ca LM σ ZM [.ref (ad 500 0), .int x1, .int x2]) (va_Qi (fun r' u => r' = res ∧ u = σz) (ctB G ad ca LM) A) 0 0 A := by
  refine Met.ofW (cc := cX10_sample) (maxL := 3) (ret := (some .int)) (by decide) rfl ?_
  intro p e s m args below meth c s₁ B hml hv
  obtain ⟨rfl, hP, hK, hz⟩ := hv
  have hx := B.exec
  have hb := B.bytes
  have hr := B.returns
  have hts : ∀ w ∈ WW, w.before _ s = true := fun w h => atoms_spec (ws := wsX10_sample) B.pre w (List.mem_cons_of_mem _ h)
  have hown : s.vm.findClass RX10 = some m.cls := findClass_of_methodNamed B.named
  have hlocks := B.notSynchronized
  have hS : va_S A s.heap s.heap [] := va_S.rf
  have k_20 := hts _ kf_X10_20
  have k_23 := hts _ kf_X10_23
  have k_26 := hts _ kf_X10_26
  have k_110 := hts _ kf_X10_110
  have k_125 := hts _ kf_X10_125
  have hl := lv_entry ([.ref (ad 500 0), .int x1, .int x2]) (n := 3) (Nat.le_of_ble_eq_true rfl)
  rw [lg_entry_eq]
  generalize (lg_sl ([.ref (ad 500 0), .int x1, .int x2]) ++ List.replicate (3 - (lg_sl ([.ref (ad 500 0), .int x1, .int x2])).length) Slot.unset).toArray = ls at hl ⊢
  have hl : lv_has ls 3 [(0, .ref (ad 500 0)), (1, .int x1), (2, .int x2)] := hl
  unfold X10_sample at hf
  refine lv_iload_n hx hb dX10_sample_0 rfl (lv_at hl 1 rfl) ?_
  obtain ⟨r1, hc1, hf⟩ := bd_e hf
  refine x_ci (va_runS (As := [.int x1]) (rest := []) ⟨hx, hb, hml, hown, hts⟩ (t_X10_isClass l G ad ca A x1 hD  σ r1 hc1) (va_cwS 1 hts gr_X10_106 rfl rfl rfl h9_X10_isClass ⟨Nat.le_of_ble_eq_true rfl, Nat.le_of_ble_eq_true rfl⟩) (x_prS zkM hz hK hP) rfl rfl hl.1 rfl (lv_room (Nat.le_of_ble_eq_true rfl)) dX10_sample_1 ⟨Nat.le_of_ble_eq_true rfl, Nat.le_of_ble_eq_true rfl⟩) hS (fun H locs hP hS => ?_)
  refine lv_if_ne (tgt := 10) hx hb dX10_sample_4 rfl (fun hc => ?_) (fun hc => ?_)
  · have hf := b_n hf hc
    refine lv_aload_n hx hb dX10_sample_10 rfl (lv_at hl 0 rfl) ?_
    refine x_get (k := 500) (n := 0) hx hb hts i_X10 hown hK hP (mk_500 h01) rfl rfl 4 (by decide) rfl k_110 (v := .int (gI σ 500 0 4)) rfl dX10_sample_11 ?_
    refine lv_if_ne (tgt := 20) hx hb dX10_sample_14 rfl (fun hc => ?_) (fun hc => ?_)
    · have hf := b_n hf hc
      refine lv_aload_n hx hb dX10_sample_20 rfl (lv_at hl 0 rfl) ?_
      refine x_get (k := 500) (n := 0) hx hb hts i_X10 hown hK hP (mk_500 h01) rfl rfl 3 (by decide) rfl k_20 (v := .ref (ad 504 0)) rfl dX10_sample_21 ?_
      refine lv_iload_n hx hb dX10_sample_24 rfl (lv_at hl 1 rfl) ?_
      obtain ⟨g2, hf⟩ := gd_e hf
      refine x_zald (k := 504) (n := 0) hx hb hK hP (mk_504 h01) rfl g2 dX10_sample_25 ?_
      refine lv_if_eq (tgt := 32) hx hb dX10_sample_26 rfl (fun hc => ?_) (fun hc => ?_)
      · have hf := b_p hf hc
        refine lv_aload_n hx hb dX10_sample_32 rfl (lv_at hl 0 rfl) ?_
        refine x_get (k := 500) (n := 0) hx hb hts i_X10 hown hK hP (mk_500 h01) rfl rfl 5 (by decide) rfl k_125 (v := .int (gI σ 500 0 5)) rfl dX10_sample_33 ?_
        refine lv_sipush (v := (300 : Int32)) hx hb dX10_sample_36 rfl ?_
        refine lv_icmp_ne (tgt := 45) hx hb dX10_sample_39 rfl (fun hc => ?_) (fun hc => ?_)
        · have hf := b_n hf hc
          refine lv_aload_n hx hb dX10_sample_45 rfl (lv_at hl 0 rfl) ?_
          refine x_get (k := 500) (n := 0) hx hb hts i_X10 hown hK hP (mk_500 h01) rfl rfl 6 (by decide) rfl k_23 (v := .ref (ad 507 0)) rfl dX10_sample_46 ?_
          refine lv_aload_n hx hb dX10_sample_49 rfl (lv_at hl 0 rfl) ?_
          refine x_get (k := 500) (n := 0) hx hb hts i_X10 hown hK hP (mk_500 h01) rfl rfl 5 (by decide) rfl k_125 (v := .int (gI σ 500 0 5)) rfl dX10_sample_50 ?_
          refine lv_iload_n hx hb dX10_sample_53 rfl (lv_at hl 1 rfl) ?_
          obtain ⟨g3, hf⟩ := gd_e hf
          refine x_iast (k := 507) (n := 0) hx hb hK hD hP hS (mk_507 h01) rfl g3 dX10_sample_54 (fun H locs hP hS => ?_)
          obtain ⟨σ4, e_σ4, hf⟩ := nm_i hf
          have hP : va_P G vwCl (wld ad ca σ4 LM) H := by rw [e_σ4]; exact hP
          refine lv_aload_n hx hb dX10_sample_55 rfl (lv_at hl 0 rfl) ?_
          refine x_get (k := 500) (n := 0) hx hb hts i_X10 hown hK hP (mk_500 h01) rfl rfl 7 (by decide) rfl k_26 (v := .ref (ad 508 0)) rfl dX10_sample_56 ?_
          refine lv_aload_n hx hb dX10_sample_59 rfl (lv_at hl 0 rfl) ?_
          refine x_get (k := 500) (n := 0) hx hb hts i_X10 hown hK hP (mk_500 h01) rfl rfl 5 (by decide) rfl k_125 (v := .int (gI σ4 500 0 5)) rfl dX10_sample_60 ?_
          refine lv_iload_n hx hb dX10_sample_63 rfl (lv_at hl 2 rfl) ?_
          obtain ⟨g5, hf⟩ := gd_e hf
          refine x_iast (k := 508) (n := 0) hx hb hK hD hP hS (mk_508 h01) rfl g5 dX10_sample_64 (fun H locs hP hS => ?_)
          obtain ⟨σ6, e_σ6, hf⟩ := nm_i hf
          have hP : va_P G vwCl (wld ad ca σ6 LM) H := by rw [e_σ6]; exact hP
          refine lv_aload_n hx hb dX10_sample_65 rfl (lv_at hl 0 rfl) ?_
          refine lv_dup hx hb dX10_sample_66 rfl ?_
          refine x_get (k := 500) (n := 0) hx hb hts i_X10 hown hK hP (mk_500 h01) rfl rfl 5 (by decide) rfl k_125 (v := .int (gI σ6 500 0 5)) rfl dX10_sample_67 ?_
          refine lv_iconst (v := (1 : Int32)) hx hb dX10_sample_70 rfl ?_
          refine lv_iadd hx hb dX10_sample_71 ?_
          refine x_putI (k := 500) (n := 0) hx hb hts i_X10 tyX10 tyX10_ok nmX10 hown hK hD hP hS (mk_500 h01) rfl rfl 5 (by decide) rfl k_125 rfl rfl rfl rfl dX10_sample_72 (fun H locs hP hS => ?_)
          obtain ⟨σ7, e_σ7, hf⟩ := nm_i hf
          have hP : va_P G vwCl (wld ad ca σ7 LM) H := by rw [e_σ7]; exact hP
          refine lv_aload_n hx hb dX10_sample_75 rfl (lv_at hl 0 rfl) ?_
          refine x_get (k := 500) (n := 0) hx hb hts i_X10 hown hK hP (mk_500 h01) rfl rfl 5 (by decide) rfl k_125 (v := .int (gI σ7 500 0 5)) rfl dX10_sample_76 ?_
          refine lv_iconst (v := (1 : Int32)) hx hb dX10_sample_79 rfl ?_
          refine lv_isub hx hb dX10_sample_80 ?_
          have hf := Option.some.inj hf
          exact x_iret hx hb hr hlocks hK hP hS (congrArg Prod.fst hf) (congrArg Prod.snd hf) dX10_sample_81
        · have hf := b_p hf hc
          refine lv_bipush (v := (-4 : Int32)) hx hb dX10_sample_42 rfl ?_
          have hf := Option.some.inj hf
          exact x_iret hx hb hr hlocks hK hP hS (congrArg Prod.fst hf) (congrArg Prod.snd hf) dX10_sample_44
      · have hf := b_n hf hc
        refine lv_bipush (v := (-6 : Int32)) hx hb dX10_sample_29 rfl ?_
        have hf := Option.some.inj hf
        exact x_iret hx hb hr hlocks hK hP hS (congrArg Prod.fst hf) (congrArg Prod.snd hf) dX10_sample_31
    · have hf := b_p hf hc
      refine lv_bipush (v := (-3 : Int32)) hx hb dX10_sample_17 rfl ?_
      have hf := Option.some.inj hf
      exact x_iret hx hb hr hlocks hK hP hS (congrArg Prod.fst hf) (congrArg Prod.snd hf) dX10_sample_19
  · have hf := b_p hf hc
    refine lv_bipush (v := (-2 : Int32)) hx hb dX10_sample_7 rfl ?_
    have hf := Option.some.inj hf
    exact x_iret hx hb hr hlocks hK hP hS (congrArg Prod.fst hf) (congrArg Prod.snd hf) dX10_sample_9
theorem h9_X10_of : yX10_of.cls = RX10 ∧ yX10_of.cls ≠ "java/lang/invoke/MethodHandle" ∧ yX10_of.cls ≠ "java/lang/invoke/VarHandle" ∧ (parseMethodDescriptor yX10_of.desc).map (fun d => d.parameters.length) = some 2 := by decide +kernel
set_option maxRecDepth 100000 in
set_option maxHeartbeats 4000000 in
theorem t_X10_of (l : Launch) (G : va_G) (ad : Nat → Nat → Nat) (ca : Nat → ClassId) (A : Nat → Prop)   (x1 : Int32) (x2 : Int32) (hD : DW ad LM A)  (σ : PS) (res : Int32) (hf : X10_of  x1 x2 σ = some res) : Met l yX10_of wsX10_of ({ frames := 0, cells := 0, slots := 0, locals := 0 }) (ctP G ad ca LM σ ZM [.ref (ad 500 0), .int x1, .int x2]) (va_Qi (fun r' u => r' = res ∧ u = σ) (ctB G ad ca LM) A) 0 0 A := by
  refine Met.ofW (cc := cX10_of) (maxL := 3) (ret := (some .int)) (by decide) rfl ?_
  intro p e s m args below meth c s₁ B hml hv
  obtain ⟨rfl, hP, hK, hz⟩ := hv
  have hx := B.exec
  have hb := B.bytes
  have hr := B.returns
  have hts : ∀ w ∈ WW, w.before _ s = true := fun w h => atoms_spec (ws := wsX10_of) B.pre w (List.mem_cons_of_mem _ h)
  have hown : s.vm.findClass RX10 = some m.cls := findClass_of_methodNamed B.named
  have hlocks := B.notSynchronized
  have hS : va_S A s.heap s.heap [] := va_S.rf
  have k_23 := hts _ kf_X10_23
  have k_26 := hts _ kf_X10_26
  have k_125 := hts _ kf_X10_125
  have hl := lv_entry ([.ref (ad 500 0), .int x1, .int x2]) (n := 3) (Nat.le_of_ble_eq_true rfl)
  rw [lg_entry_eq]
  generalize (lg_sl ([.ref (ad 500 0), .int x1, .int x2]) ++ List.replicate (3 - (lg_sl ([.ref (ad 500 0), .int x1, .int x2])).length) Slot.unset).toArray = ls at hl ⊢
  have hl : lv_has ls 3 [(0, .ref (ad 500 0)), (1, .int x1), (2, .int x2)] := hl
  unfold X10_of at hf
  refine lv_iload_n hx hb dX10_of_0 rfl (lv_at hl 1 rfl) ?_
  refine lv_if_lt (tgt := 21) hx hb dX10_of_1 rfl (fun hc => ?_) (fun hc => ?_)
  · have hf := b_p hf hc
    refine lv_iconst (v := (-1 : Int32)) hx hb dX10_of_21 rfl ?_
    exact x_iret hx hb hr hlocks hK hP hS (Option.some.inj hf) rfl dX10_of_22
  · have hf := b_n hf hc
    refine lv_iload_n hx hb dX10_of_4 rfl (lv_at hl 1 rfl) ?_
    refine lv_aload_n hx hb dX10_of_5 rfl (lv_at hl 0 rfl) ?_
    refine x_get (k := 500) (n := 0) hx hb hts i_X10 hown hK hP (mk_500 h01) rfl rfl 5 (by decide) rfl k_125 (v := .int (gI σ 500 0 5)) rfl dX10_of_6 ?_
    refine lv_icmp_ge (tgt := 21) hx hb dX10_of_9 rfl (fun hc => ?_) (fun hc => ?_)
    · have hf := b_p hf hc
      refine lv_iconst (v := (-1 : Int32)) hx hb dX10_of_21 rfl ?_
      exact x_iret hx hb hr hlocks hK hP hS (Option.some.inj hf) rfl dX10_of_22
    · have hf := b_n hf hc
      refine lv_iload_n hx hb dX10_of_12 rfl (lv_at hl 2 rfl) ?_
      refine lv_if_lt (tgt := 21) hx hb dX10_of_13 rfl (fun hc => ?_) (fun hc => ?_)
      · have hf := b_p hf hc
        refine lv_iconst (v := (-1 : Int32)) hx hb dX10_of_21 rfl ?_
        exact x_iret hx hb hr hlocks hK hP hS (Option.some.inj hf) rfl dX10_of_22
      · have hf := b_n hf hc
        refine lv_iload_n hx hb dX10_of_16 rfl (lv_at hl 2 rfl) ?_
        refine lv_iconst (v := (1 : Int32)) hx hb dX10_of_17 rfl ?_
        refine lv_icmp_le (tgt := 23) hx hb dX10_of_18 rfl (fun hc => ?_) (fun hc => ?_)
        · have hf := b_p hf hc
          refine lv_iload_n hx hb dX10_of_23 rfl (lv_at hl 2 rfl) ?_
          refine lv_if_ne (tgt := 36) hx hb dX10_of_24 rfl (fun hc => ?_) (fun hc => ?_)
          · have hf := b_n hf hc
            refine lv_aload_n hx hb dX10_of_36 rfl (lv_at hl 0 rfl) ?_
            refine x_get (k := 500) (n := 0) hx hb hts i_X10 hown hK hP (mk_500 h01) rfl rfl 7 (by decide) rfl k_26 (v := .ref (ad 508 0)) rfl dX10_of_37 ?_
            refine lv_iload_n hx hb dX10_of_40 rfl (lv_at hl 1 rfl) ?_
            obtain ⟨g1, hf⟩ := gd_e hf
            refine x_iald (k := 508) (n := 0) hx hb hK hP (mk_508 h01) rfl g1 dX10_of_41 ?_
            exact x_iret hx hb hr hlocks hK hP hS (Option.some.inj hf) rfl dX10_of_42
          · have hf := b_p hf hc
            refine lv_aload_n hx hb dX10_of_27 rfl (lv_at hl 0 rfl) ?_
            refine x_get (k := 500) (n := 0) hx hb hts i_X10 hown hK hP (mk_500 h01) rfl rfl 6 (by decide) rfl k_23 (v := .ref (ad 507 0)) rfl dX10_of_28 ?_
            refine lv_iload_n hx hb dX10_of_31 rfl (lv_at hl 1 rfl) ?_
            obtain ⟨g2, hf⟩ := gd_e hf
            refine x_iald (k := 507) (n := 0) hx hb hK hP (mk_507 h01) rfl g2 dX10_of_32 ?_
            refine lv_goto (tgt := 42) hx hb dX10_of_33 rfl ?_
            exact x_iret hx hb hr hlocks hK hP hS (Option.some.inj hf) rfl dX10_of_42
        · have hf := b_n hf hc
          refine lv_iconst (v := (-1 : Int32)) hx hb dX10_of_21 rfl ?_
          exact x_iret hx hb hr hlocks hK hP hS (Option.some.inj hf) rfl dX10_of_22
theorem h9_X10_samples : yX10_samples.cls = RX10 ∧ yX10_samples.cls ≠ "java/lang/invoke/MethodHandle" ∧ yX10_samples.cls ≠ "java/lang/invoke/VarHandle" ∧ (parseMethodDescriptor yX10_samples.desc).map (fun d => d.parameters.length) = some 0 := by decide +kernel
set_option maxRecDepth 100000 in
set_option maxHeartbeats 4000000 in
theorem t_X10_samples (l : Launch) (G : va_G) (ad : Nat → Nat → Nat) (ca : Nat → ClassId) (A : Nat → Prop)   (hD : DW ad LM A)  (σ : PS) (res : Int32) (hf : X10_samples   σ = some res) : Met l yX10_samples wsX10_samples ({ frames := 0, cells := 0, slots := 0, locals := 0 }) (ctP G ad ca LM σ ZM [.ref (ad 500 0)]) (va_Qi (fun r' u => r' = res ∧ u = σ) (ctB G ad ca LM) A) 0 0 A := by
  refine Met.ofW (cc := cX10_samples) (maxL := 1) (ret := (some .int)) (by decide) rfl ?_
  intro p e s m args below meth c s₁ B hml hv
  obtain ⟨rfl, hP, hK, hz⟩ := hv
  have hx := B.exec
  have hb := B.bytes
  have hr := B.returns
  have hts : ∀ w ∈ WW, w.before _ s = true := fun w h => atoms_spec (ws := wsX10_samples) B.pre w (List.mem_cons_of_mem _ h)
  have hown : s.vm.findClass RX10 = some m.cls := findClass_of_methodNamed B.named
  have hlocks := B.notSynchronized
  have hS : va_S A s.heap s.heap [] := va_S.rf
  have k_125 := hts _ kf_X10_125
  have hl := lv_entry ([.ref (ad 500 0)]) (n := 1) (Nat.le_of_ble_eq_true rfl)
  rw [lg_entry_eq]
  generalize (lg_sl ([.ref (ad 500 0)]) ++ List.replicate (1 - (lg_sl ([.ref (ad 500 0)])).length) Slot.unset).toArray = ls at hl ⊢
  have hl : lv_has ls 1 [(0, .ref (ad 500 0))] := hl
  unfold X10_samples at hf
  refine lv_aload_n hx hb dX10_samples_0 rfl (lv_at hl 0 rfl) ?_
  refine x_get (k := 500) (n := 0) hx hb hts i_X10 hown hK hP (mk_500 h01) rfl rfl 5 (by decide) rfl k_125 (v := .int (gI σ 500 0 5)) rfl dX10_samples_1 ?_
  exact x_iret hx hb hr hlocks hK hP hS (Option.some.inj hf) rfl dX10_samples_4
theorem h9_X10_function : yX10_function.cls = RX10 ∧ yX10_function.cls ≠ "java/lang/invoke/MethodHandle" ∧ yX10_function.cls ≠ "java/lang/invoke/VarHandle" ∧ (parseMethodDescriptor yX10_function.desc).map (fun d => d.parameters.length) = some 1 := by decide +kernel
set_option maxRecDepth 100000 in
set_option maxHeartbeats 4000000 in
theorem t_X10_function (l : Launch) (G : va_G) (ad : Nat → Nat → Nat) (ca : Nat → ClassId) (A : Nat → Prop)   (x1 : Int32) (hD : DW ad LM A)  (σ : PS) (res : Int32) (σz : PS) (hf : X10_function  x1 σ = some (res, σz)) : Met l yX10_function wsX10_function ({ frames := 0, cells := 0, slots := 0, locals := 0 }) (ctP G ad ca LM σ ZM [.ref (ad 500 0), .int x1]) (va_Qi (fun r' u => r' = res ∧ u = σz) (ctB G ad ca LM) A) 0 0 A := by
  refine Met.ofW (cc := cX10_function) (maxL := 2) (ret := (some .int)) (by decide) rfl ?_
  intro p e s m args below meth c s₁ B hml hv
  obtain ⟨rfl, hP, hK, hz⟩ := hv
  have hx := B.exec
  have hb := B.bytes
  have hr := B.returns
  have hts : ∀ w ∈ WW, w.before _ s = true := fun w h => atoms_spec (ws := wsX10_function) B.pre w (List.mem_cons_of_mem _ h)
  have hown : s.vm.findClass RX10 = some m.cls := findClass_of_methodNamed B.named
  have hlocks := B.notSynchronized
  have hS : va_S A s.heap s.heap [] := va_S.rf
  have k_29 := hts _ kf_X10_29
  have k_110 := hts _ kf_X10_110
  have k_128 := hts _ kf_X10_128
  have hl := lv_entry ([.ref (ad 500 0), .int x1]) (n := 2) (Nat.le_of_ble_eq_true rfl)
  rw [lg_entry_eq]
  generalize (lg_sl ([.ref (ad 500 0), .int x1]) ++ List.replicate (2 - (lg_sl ([.ref (ad 500 0), .int x1])).length) Slot.unset).toArray = ls at hl ⊢
  have hl : lv_has ls 2 [(0, .ref (ad 500 0)), (1, .int x1)] := hl
  unfold X10_function at hf
  refine lv_iload_n hx hb dX10_function_0 rfl (lv_at hl 1 rfl) ?_
  refine lv_iconst (v := (1 : Int32)) hx hb dX10_function_1 rfl ?_
  refine lv_icmp_lt (tgt := 10) hx hb dX10_function_2 rfl (fun hc => ?_) (fun hc => ?_)
  · have hf := b_p hf hc
    refine lv_bipush (v := (-2 : Int32)) hx hb dX10_function_10 rfl ?_
    have hf := Option.some.inj hf
    exact x_iret hx hb hr hlocks hK hP hS (congrArg Prod.fst hf) (congrArg Prod.snd hf) dX10_function_12
  · have hf := b_n hf hc
    refine lv_iload_n hx hb dX10_function_5 rfl (lv_at hl 1 rfl) ?_
    refine lv_iconst (v := (2 : Int32)) hx hb dX10_function_6 rfl ?_
    refine lv_icmp_le (tgt := 13) hx hb dX10_function_7 rfl (fun hc => ?_) (fun hc => ?_)
    · have hf := b_p hf hc
      refine lv_aload_n hx hb dX10_function_13 rfl (lv_at hl 0 rfl) ?_
      refine x_get (k := 500) (n := 0) hx hb hts i_X10 hown hK hP (mk_500 h01) rfl rfl 4 (by decide) rfl k_110 (v := .int (gI σ 500 0 4)) rfl dX10_function_14 ?_
      refine lv_if_ne (tgt := 23) hx hb dX10_function_17 rfl (fun hc => ?_) (fun hc => ?_)
      · have hf := b_n hf hc
        refine lv_aload_n hx hb dX10_function_23 rfl (lv_at hl 0 rfl) ?_
        refine x_get (k := 500) (n := 0) hx hb hts i_X10 hown hK hP (mk_500 h01) rfl rfl 8 (by decide) rfl k_128 (v := .int (gI σ 500 0 8)) rfl dX10_function_24 ?_
        refine lv_iconst (v := (4 : Int32)) hx hb dX10_function_27 rfl ?_
        refine lv_icmp_ne (tgt := 34) hx hb dX10_function_28 rfl (fun hc => ?_) (fun hc => ?_)
        · have hf := b_n hf hc
          refine lv_aload_n hx hb dX10_function_34 rfl (lv_at hl 0 rfl) ?_
          refine x_get (k := 500) (n := 0) hx hb hts i_X10 hown hK hP (mk_500 h01) rfl rfl 9 (by decide) rfl k_29 (v := .ref (ad 510 0)) rfl dX10_function_35 ?_
          refine lv_aload_n hx hb dX10_function_38 rfl (lv_at hl 0 rfl) ?_
          refine x_get (k := 500) (n := 0) hx hb hts i_X10 hown hK hP (mk_500 h01) rfl rfl 8 (by decide) rfl k_128 (v := .int (gI σ 500 0 8)) rfl dX10_function_39 ?_
          refine lv_iload_n hx hb dX10_function_42 rfl (lv_at hl 1 rfl) ?_
          obtain ⟨g1, hf⟩ := gd_e hf
          refine x_iast (k := 510) (n := 0) hx hb hK hD hP hS (mk_510 h01) rfl g1 dX10_function_43 (fun H locs hP hS => ?_)
          obtain ⟨σ2, e_σ2, hf⟩ := nm_i hf
          have hP : va_P G vwCl (wld ad ca σ2 LM) H := by rw [e_σ2]; exact hP
          refine lv_aload_n hx hb dX10_function_44 rfl (lv_at hl 0 rfl) ?_
          refine lv_dup hx hb dX10_function_45 rfl ?_
          refine x_get (k := 500) (n := 0) hx hb hts i_X10 hown hK hP (mk_500 h01) rfl rfl 8 (by decide) rfl k_128 (v := .int (gI σ2 500 0 8)) rfl dX10_function_46 ?_
          refine lv_iconst (v := (1 : Int32)) hx hb dX10_function_49 rfl ?_
          refine lv_iadd hx hb dX10_function_50 ?_
          refine x_putI (k := 500) (n := 0) hx hb hts i_X10 tyX10 tyX10_ok nmX10 hown hK hD hP hS (mk_500 h01) rfl rfl 8 (by decide) rfl k_128 rfl rfl rfl rfl dX10_function_51 (fun H locs hP hS => ?_)
          obtain ⟨σ3, e_σ3, hf⟩ := nm_i hf
          have hP : va_P G vwCl (wld ad ca σ3 LM) H := by rw [e_σ3]; exact hP
          refine lv_aload_n hx hb dX10_function_54 rfl (lv_at hl 0 rfl) ?_
          refine x_get (k := 500) (n := 0) hx hb hts i_X10 hown hK hP (mk_500 h01) rfl rfl 8 (by decide) rfl k_128 (v := .int (gI σ3 500 0 8)) rfl dX10_function_55 ?_
          refine lv_iconst (v := (1 : Int32)) hx hb dX10_function_58 rfl ?_
          refine lv_isub hx hb dX10_function_59 ?_
          have hf := Option.some.inj hf
          exact x_iret hx hb hr hlocks hK hP hS (congrArg Prod.fst hf) (congrArg Prod.snd hf) dX10_function_60
        · have hf := b_p hf hc
          refine lv_bipush (v := (-4 : Int32)) hx hb dX10_function_31 rfl ?_
          have hf := Option.some.inj hf
          exact x_iret hx hb hr hlocks hK hP hS (congrArg Prod.fst hf) (congrArg Prod.snd hf) dX10_function_33
      · have hf := b_p hf hc
        refine lv_bipush (v := (-3 : Int32)) hx hb dX10_function_20 rfl ?_
        have hf := Option.some.inj hf
        exact x_iret hx hb hr hlocks hK hP hS (congrArg Prod.fst hf) (congrArg Prod.snd hf) dX10_function_22
    · have hf := b_n hf hc
      refine lv_bipush (v := (-2 : Int32)) hx hb dX10_function_10 rfl ?_
      have hf := Option.some.inj hf
      exact x_iret hx hb hr hlocks hK hP hS (congrArg Prod.fst hf) (congrArg Prod.snd hf) dX10_function_12
theorem h9_X10_isFunction : yX10_isFunction.cls = RX10 ∧ yX10_isFunction.cls ≠ "java/lang/invoke/MethodHandle" ∧ yX10_isFunction.cls ≠ "java/lang/invoke/VarHandle" ∧ (parseMethodDescriptor yX10_isFunction.desc).map (fun d => d.parameters.length) = some 1 := by decide +kernel
set_option maxRecDepth 100000 in
set_option maxHeartbeats 4000000 in
theorem t_X10_isFunction (l : Launch) (G : va_G) (ad : Nat → Nat → Nat) (ca : Nat → ClassId) (A : Nat → Prop)   (x1 : Int32) (hD : DW ad LM A)  (σ : PS) (res : Int32) (hf : X10_isFunction  x1 σ = some res) : Met l yX10_isFunction wsX10_isFunction ({ frames := 0, cells := 0, slots := 0, locals := 0 }) (ctP G ad ca LM σ ZM [.ref (ad 500 0), .int x1]) (va_Qi (fun r' u => r' = res ∧ u = σ) (ctB G ad ca LM) A) 0 0 A := by
  refine Met.ofW (cc := cX10_isFunction) (maxL := 2) (ret := (some .boolean)) (by decide) rfl ?_
  intro p e s m args below meth c s₁ B hml hv
  obtain ⟨rfl, hP, hK, hz⟩ := hv
  have hx := B.exec
  have hb := B.bytes
  have hr := B.returns
  have hts : ∀ w ∈ WW, w.before _ s = true := fun w h => atoms_spec (ws := wsX10_isFunction) B.pre w (List.mem_cons_of_mem _ h)
  have hown : s.vm.findClass RX10 = some m.cls := findClass_of_methodNamed B.named
  have hlocks := B.notSynchronized
  have hS : va_S A s.heap s.heap [] := va_S.rf
  have k_128 := hts _ kf_X10_128
  have hl := lv_entry ([.ref (ad 500 0), .int x1]) (n := 2) (Nat.le_of_ble_eq_true rfl)
  rw [lg_entry_eq]
  generalize (lg_sl ([.ref (ad 500 0), .int x1]) ++ List.replicate (2 - (lg_sl ([.ref (ad 500 0), .int x1])).length) Slot.unset).toArray = ls at hl ⊢
  have hl : lv_has ls 2 [(0, .ref (ad 500 0)), (1, .int x1)] := hl
  unfold X10_isFunction at hf
  refine lv_iload_n hx hb dX10_isFunction_0 rfl (lv_at hl 1 rfl) ?_
  refine lv_if_lt (tgt := 16) hx hb dX10_isFunction_1 rfl (fun hc => ?_) (fun hc => ?_)
  · have hf := b_p hf hc
    refine lv_iconst (v := (0 : Int32)) hx hb dX10_isFunction_16 rfl ?_
    exact x_zret hx hb hr hlocks hK hP hS (by decide) (Option.some.inj hf) rfl dX10_isFunction_17
  · have hf := b_n hf hc
    refine lv_iload_n hx hb dX10_isFunction_4 rfl (lv_at hl 1 rfl) ?_
    refine lv_aload_n hx hb dX10_isFunction_5 rfl (lv_at hl 0 rfl) ?_
    refine x_get (k := 500) (n := 0) hx hb hts i_X10 hown hK hP (mk_500 h01) rfl rfl 8 (by decide) rfl k_128 (v := .int (gI σ 500 0 8)) rfl dX10_isFunction_6 ?_
    refine lv_icmp_ge (tgt := 16) hx hb dX10_isFunction_9 rfl (fun hc => ?_) (fun hc => ?_)
    · have hf := b_p hf hc
      refine lv_iconst (v := (0 : Int32)) hx hb dX10_isFunction_16 rfl ?_
      exact x_zret hx hb hr hlocks hK hP hS (by decide) (Option.some.inj hf) rfl dX10_isFunction_17
    · have hf := b_n hf hc
      refine lv_iconst (v := (1 : Int32)) hx hb dX10_isFunction_12 rfl ?_
      refine lv_goto (tgt := 17) hx hb dX10_isFunction_13 rfl ?_
      exact x_zret hx hb hr hlocks hK hP hS (by decide) (Option.some.inj hf) rfl dX10_isFunction_17
theorem h9_X10_isHandler : yX10_isHandler.cls = RX10 ∧ yX10_isHandler.cls ≠ "java/lang/invoke/MethodHandle" ∧ yX10_isHandler.cls ≠ "java/lang/invoke/VarHandle" ∧ (parseMethodDescriptor yX10_isHandler.desc).map (fun d => d.parameters.length) = some 1 := by decide +kernel
set_option maxRecDepth 100000 in
set_option maxHeartbeats 4000000 in
theorem t_X10_isHandler (l : Launch) (G : va_G) (ad : Nat → Nat → Nat) (ca : Nat → ClassId) (A : Nat → Prop)   (x1 : Int32) (hD : DW ad LM A)  (σ : PS) (res : Int32) (hf : X10_isHandler  x1 σ = some res) : Met l yX10_isHandler wsX10_isHandler ({ frames := 0, cells := 0, slots := 0, locals := 0 }) (ctP G ad ca LM σ ZM [.ref (ad 500 0), .int x1]) (va_Qi (fun r' u => r' = res ∧ u = σ) (ctB G ad ca LM) A) 0 0 A := by
  refine Met.ofW (cc := cX10_isHandler) (maxL := 2) (ret := (some .boolean)) (by decide) rfl ?_
  intro p e s m args below meth c s₁ B hml hv
  obtain ⟨rfl, hP, hK, hz⟩ := hv
  have hx := B.exec
  have hb := B.bytes
  have hr := B.returns
  have hts : ∀ w ∈ WW, w.before _ s = true := fun w h => atoms_spec (ws := wsX10_isHandler) B.pre w (List.mem_cons_of_mem _ h)
  have hown : s.vm.findClass RX10 = some m.cls := findClass_of_methodNamed B.named
  have hlocks := B.notSynchronized
  have hS : va_S A s.heap s.heap [] := va_S.rf
  have k_131 := hts _ kf_X10_131
  have hl := lv_entry ([.ref (ad 500 0), .int x1]) (n := 2) (Nat.le_of_ble_eq_true rfl)
  rw [lg_entry_eq]
  generalize (lg_sl ([.ref (ad 500 0), .int x1]) ++ List.replicate (2 - (lg_sl ([.ref (ad 500 0), .int x1])).length) Slot.unset).toArray = ls at hl ⊢
  have hl : lv_has ls 2 [(0, .ref (ad 500 0)), (1, .int x1)] := hl
  unfold X10_isHandler at hf
  refine lv_iload_n hx hb dX10_isHandler_0 rfl (lv_at hl 1 rfl) ?_
  refine lv_if_lt (tgt := 16) hx hb dX10_isHandler_1 rfl (fun hc => ?_) (fun hc => ?_)
  · have hf := b_p hf hc
    refine lv_iconst (v := (0 : Int32)) hx hb dX10_isHandler_16 rfl ?_
    exact x_zret hx hb hr hlocks hK hP hS (by decide) (Option.some.inj hf) rfl dX10_isHandler_17
  · have hf := b_n hf hc
    refine lv_iload_n hx hb dX10_isHandler_4 rfl (lv_at hl 1 rfl) ?_
    refine lv_aload_n hx hb dX10_isHandler_5 rfl (lv_at hl 0 rfl) ?_
    refine x_get (k := 500) (n := 0) hx hb hts i_X10 hown hK hP (mk_500 h01) rfl rfl 14 (by decide) rfl k_131 (v := .int (gI σ 500 0 14)) rfl dX10_isHandler_6 ?_
    refine lv_icmp_ge (tgt := 16) hx hb dX10_isHandler_9 rfl (fun hc => ?_) (fun hc => ?_)
    · have hf := b_p hf hc
      refine lv_iconst (v := (0 : Int32)) hx hb dX10_isHandler_16 rfl ?_
      exact x_zret hx hb hr hlocks hK hP hS (by decide) (Option.some.inj hf) rfl dX10_isHandler_17
    · have hf := b_n hf hc
      refine lv_iconst (v := (1 : Int32)) hx hb dX10_isHandler_12 rfl ?_
      refine lv_goto (tgt := 17) hx hb dX10_isHandler_13 rfl ?_
      exact x_zret hx hb hr hlocks hK hP hS (by decide) (Option.some.inj hf) rfl dX10_isHandler_17
theorem h9_X10_handler : yX10_handler.cls = RX10 ∧ yX10_handler.cls ≠ "java/lang/invoke/MethodHandle" ∧ yX10_handler.cls ≠ "java/lang/invoke/VarHandle" ∧ (parseMethodDescriptor yX10_handler.desc).map (fun d => d.parameters.length) = some 4 := by decide +kernel
set_option maxRecDepth 100000 in
set_option maxHeartbeats 4000000 in
theorem t_X10_handler (l : Launch) (G : va_G) (ad : Nat → Nat → Nat) (ca : Nat → ClassId) (A : Nat → Prop)   (x1 : Int32) (x2 : Int32) (x3 : Int32) (x4 : Int32) (hD : DW ad LM A)  (σ : PS) (res : Int32) (σz : PS) (hf : X10_handler  x1 x2 x3 x4 σ = some (res, σz)) : Met l yX10_handler wsX10_handler ({ frames := 1, cells := 0, slots := 0, locals := 21 }) (ctP G ad ca LM σ ZM [.ref (ad 500 0), .int x1, .int x2, .int x3, .int x4]) (va_Qi (fun r' u => r' = res ∧ u = σz) (ctB G ad ca LM) A) 0 0 A := by
  refine Met.ofW (cc := cX10_handler) (maxL := 7) (ret := (some .int)) (by decide) rfl ?_
  intro p e s m args below meth c s₁ B hml hv
  obtain ⟨rfl, hP, hK, hz⟩ := hv
  have hx := B.exec
  have hb := B.bytes
  have hr := B.returns
  have hts : ∀ w ∈ WW, w.before _ s = true := fun w h => atoms_spec (ws := wsX10_handler) B.pre w (List.mem_cons_of_mem _ h)
  have hown : s.vm.findClass RX10 = some m.cls := findClass_of_methodNamed B.named
  have hlocks := B.notSynchronized
  have hS : va_S A s.heap s.heap [] := va_S.rf
  have k_137 := hts _ kk_X10_137
  have k_138 := hts _ kk_X10_138
  have k_45 := hts _ kf_X10_45
  have k_48 := hts _ kf_X10_48
  have k_51 := hts _ kf_X10_51
  have k_54 := hts _ kf_X10_54
  have k_60 := hts _ kf_X10_60
  have k_63 := hts _ kf_X10_63
  have k_66 := hts _ kf_X10_66
  have k_131 := hts _ kf_X10_131
  have hl := lv_entry ([.ref (ad 500 0), .int x1, .int x2, .int x3, .int x4]) (n := 7) (Nat.le_of_ble_eq_true rfl)
  rw [lg_entry_eq]
  generalize (lg_sl ([.ref (ad 500 0), .int x1, .int x2, .int x3, .int x4]) ++ List.replicate (7 - (lg_sl ([.ref (ad 500 0), .int x1, .int x2, .int x3, .int x4])).length) Slot.unset).toArray = ls at hl ⊢
  have hl : lv_has ls 7 [(0, .ref (ad 500 0)), (1, .int x1), (2, .int x2), (3, .int x3), (4, .int x4)] := hl
  unfold X10_handler at hf
  have l85 : ∀ (kx85 : Int32 → PS → Option (Int32 × PS)), (∀ (v5 : Int32) (σ : PS) (H : Heap) (locs : List Loc) (ls : Array Slot), kx85 v5 σ = some (res, σz) → lv_has ls 7 [(5, .int v5)] → va_P G vwCl (wld ad ca σ LM) H → va_S A s.heap H locs → W p l e (headSpec wsX10_handler ({ frames := 1, cells := 0, slots := 0, locals := 21 })).room s m (([.ref (ad 500 0), .int x1, .int x2, .int x3, .int x4] : List Value).toArray) below meth c H locs 0 0 (MQ below (va_Qi (fun r' u => r' = res ∧ u = σz) (ctB G ad ca LM) A) (([.ref (ad 500 0), .int x1, .int x2, .int x3, .int x4] : List Value).toArray) s 0 0 A) (F0 m 138 ls [])) → ∀ (n85 : Nat) (v5 : Int32) (v6 : Int32) (σ : PS) (H : Heap) (locs : List Loc) (ls : Array Slot), X10_handler_l85  kx85 n85 v5 v6 σ = some (res, σz) → lv_has ls 7 [(0, .ref (ad 500 0)), (5, .int v5), (6, .int v6)] → va_P G vwCl (wld ad ca σ LM) H → va_S A s.heap H locs → W p l e (headSpec wsX10_handler ({ frames := 1, cells := 0, slots := 0, locals := 21 })).room s m (([.ref (ad 500 0), .int x1, .int x2, .int x3, .int x4] : List Value).toArray) below meth c H locs 0 0 (MQ below (va_Qi (fun r' u => r' = res ∧ u = σz) (ctB G ad ca LM) A) (([.ref (ad 500 0), .int x1, .int x2, .int x3, .int x4] : List Value).toArray) s 0 0 A) (F0 m 85 ls []) := by
    intro kx85 hx85 n85
    induction n85 with
    | zero =>
      intro v5 v6 σ H locs ls hf
      exact absurd hf (by simp [X10_handler_l85])
    | succ n85 ih85 =>
      intro v5 v6 σ H locs ls hf hl hP hS
      rw [X10_handler_l85.eq_2] at hf
      refine lv_iload hx hb dX10_handler_85 (lv_at hl 2 rfl) ?_
      refine lv_iconst (v := (2 : Int32)) hx hb dX10_handler_87 rfl ?_
      refine lv_icmp_ge (tgt := 138) hx hb dX10_handler_88 rfl (fun hc => ?_) (fun hc => ?_)
      · have hf := b_p hf hc
        exact hx85 v5 σ _ _ _  hf (lv_sub hl [1] rfl) hP hS
      · have hf := b_n hf hc
        refine lv_aload_n hx hb dX10_handler_91 rfl (lv_at hl 0 rfl) ?_
        refine x_get (k := 500) (n := 0) hx hb hts i_X10 hown hK hP (mk_500 h01) rfl rfl 20 (by decide) rfl k_60 (v := .ref (ad 521 0)) rfl dX10_handler_92 ?_
        refine lv_iconst (v := (2 : Int32)) hx hb dX10_handler_95 rfl ?_
        refine lv_iload hx hb dX10_handler_96 (lv_at hl 1 rfl) ?_
        refine lv_imul hx hb dX10_handler_98 ?_
        refine lv_iload hx hb dX10_handler_99 (lv_at hl 2 rfl) ?_
        refine lv_iadd hx hb dX10_handler_101 ?_
        refine lv_iconst (v := (-1 : Int32)) hx hb dX10_handler_102 rfl ?_
        obtain ⟨g13, hf⟩ := gd_e hf
        refine x_iast (k := 521) (n := 0) hx hb hK hD hP hS (mk_521 h01) rfl g13 dX10_handler_103 (fun H locs hP hS => ?_)
        obtain ⟨σ14, e_σ14, hf⟩ := nm_i hf
        have hP : va_P G vwCl (wld ad ca σ14 LM) H := by rw [e_σ14]; exact hP
        refine lv_aload_n hx hb dX10_handler_104 rfl (lv_at hl 0 rfl) ?_
        refine x_get (k := 500) (n := 0) hx hb hts i_X10 hown hK hP (mk_500 h01) rfl rfl 21 (by decide) rfl k_63 (v := .ref (ad 522 0)) rfl dX10_handler_105 ?_
        refine lv_iconst (v := (2 : Int32)) hx hb dX10_handler_108 rfl ?_
        refine lv_iload hx hb dX10_handler_109 (lv_at hl 1 rfl) ?_
        refine lv_imul hx hb dX10_handler_111 ?_
        refine lv_iload hx hb dX10_handler_112 (lv_at hl 2 rfl) ?_
        refine lv_iadd hx hb dX10_handler_114 ?_
        refine lv_ldc hx hb hown k_137 dX10_handler_115 ?_
        obtain ⟨g15, hf⟩ := gd_e hf
        refine x_iast (k := 522) (n := 0) hx hb hK hD hP hS (mk_522 h01) rfl g15 dX10_handler_117 (fun H locs hP hS => ?_)
        obtain ⟨σ16, e_σ16, hf⟩ := nm_i hf
        have hP : va_P G vwCl (wld ad ca σ16 LM) H := by rw [e_σ16]; exact hP
        refine lv_aload_n hx hb dX10_handler_118 rfl (lv_at hl 0 rfl) ?_
        refine x_get (k := 500) (n := 0) hx hb hts i_X10 hown hK hP (mk_500 h01) rfl rfl 22 (by decide) rfl k_66 (v := .ref (ad 523 0)) rfl dX10_handler_119 ?_
        refine lv_iconst (v := (2 : Int32)) hx hb dX10_handler_122 rfl ?_
        refine lv_iload hx hb dX10_handler_123 (lv_at hl 1 rfl) ?_
        refine lv_imul hx hb dX10_handler_125 ?_
        refine lv_iload hx hb dX10_handler_126 (lv_at hl 2 rfl) ?_
        refine lv_iadd hx hb dX10_handler_128 ?_
        refine lv_ldc hx hb hown k_138 dX10_handler_129 ?_
        obtain ⟨g17, hf⟩ := gd_e hf
        refine x_iast (k := 523) (n := 0) hx hb hK hD hP hS (mk_523 h01) rfl g17 dX10_handler_131 (fun H locs hP hS => ?_)
        obtain ⟨σ18, e_σ18, hf⟩ := nm_i hf
        have hP : va_P G vwCl (wld ad ca σ18 LM) H := by rw [e_σ18]; exact hP
        refine lv_iinc (v := (v6 + (1 : Int32))) (lv' := [(6, .int (v6 + (1 : Int32))), (0, .ref (ad 500 0)), (5, .int v5)]) hx hb dX10_handler_132 hl (k := 2) rfl rfl (by decide) rfl (fun ls hl => ?_)
        refine lv_goto (tgt := 85) hx hb dX10_handler_135 rfl ?_
        exact ih85 v5 (v6 + (1 : Int32)) σ18 _ _ _  hf (lv_sub hl [1, 2, 0] rfl) hP hS
  have c138 : ∀ (v5 : Int32) (σ : PS) (H : Heap) (locs : List Loc) (ls : Array Slot), X10_handler_c138  v5 σ = some (res, σz) → lv_has ls 7 [(5, .int v5)] → va_P G vwCl (wld ad ca σ LM) H → va_S A s.heap H locs → W p l e (headSpec wsX10_handler ({ frames := 1, cells := 0, slots := 0, locals := 21 })).room s m (([.ref (ad 500 0), .int x1, .int x2, .int x3, .int x4] : List Value).toArray) below meth c H locs 0 0 (MQ below (va_Qi (fun r' u => r' = res ∧ u = σz) (ctB G ad ca LM) A) (([.ref (ad 500 0), .int x1, .int x2, .int x3, .int x4] : List Value).toArray) s 0 0 A) (F0 m 138 ls []) := by
    intro v5 σ H locs ls hf hl hP hS
    unfold X10_handler_c138 at hf
    refine lv_iload hx hb dX10_handler_138 (lv_at hl 0 rfl) ?_
    have hf := Option.some.inj hf
    exact x_iret hx hb hr hlocks hK hP hS (congrArg Prod.fst hf) (congrArg Prod.snd hf) dX10_handler_140
  refine lv_aload_n hx hb dX10_handler_0 rfl (lv_at hl 0 rfl) ?_
  refine lv_iload_n hx hb dX10_handler_1 rfl (lv_at hl 1 rfl) ?_
  obtain ⟨r1, hc1, hf⟩ := bd_e hf
  refine x_ci (va_runV (As := [.int x1]) (rest := []) ⟨hx, hb, hml, hown, hts⟩ (t_X10_isFunction l G ad ca A x1 hD  σ r1 hc1) (cwV 1 hts gr_X10_134 rfl rfl rfl h9_X10_isFunction ⟨Nat.le_of_ble_eq_true rfl, Nat.le_of_ble_eq_true rfl⟩) (x_prV zkM hz hK hP (mk_500 h01) rfl rfl) rfl rfl hl.1 rfl (lv_room (Nat.le_of_ble_eq_true rfl)) dX10_handler_2 ⟨Nat.le_of_ble_eq_true rfl, Nat.le_of_ble_eq_true rfl⟩) hS (fun H locs hP hS => ?_)
  refine lv_if_eq (tgt := 18) hx hb dX10_handler_5 rfl (fun hc => ?_) (fun hc => ?_)
  · have hf := b_p hf hc
    refine lv_bipush (v := (-2 : Int32)) hx hb dX10_handler_18 rfl ?_
    have hf := Option.some.inj hf
    exact x_iret hx hb hr hlocks hK hP hS (congrArg Prod.fst hf) (congrArg Prod.snd hf) dX10_handler_20
  · have hf := b_n hf hc
    refine lv_iload_n hx hb dX10_handler_8 rfl (lv_at hl 2 rfl) ?_
    refine lv_if_lt (tgt := 18) hx hb dX10_handler_9 rfl (fun hc => ?_) (fun hc => ?_)
    · have hf := b_p hf hc
      refine lv_bipush (v := (-2 : Int32)) hx hb dX10_handler_18 rfl ?_
      have hf := Option.some.inj hf
      exact x_iret hx hb hr hlocks hK hP hS (congrArg Prod.fst hf) (congrArg Prod.snd hf) dX10_handler_20
    · have hf := b_n hf hc
      refine lv_iload_n hx hb dX10_handler_12 rfl (lv_at hl 2 rfl) ?_
      refine lv_bipush (v := (7 : Int32)) hx hb dX10_handler_13 rfl ?_
      refine lv_icmp_le (tgt := 21) hx hb dX10_handler_15 rfl (fun hc => ?_) (fun hc => ?_)
      · have hf := b_p hf hc
        refine lv_aload_n hx hb dX10_handler_21 rfl (lv_at hl 0 rfl) ?_
        refine x_get (k := 500) (n := 0) hx hb hts i_X10 hown hK hP (mk_500 h01) rfl rfl 14 (by decide) rfl k_131 (v := .int (gI σ 500 0 14)) rfl dX10_handler_22 ?_
        refine lv_bipush (v := (40 : Int32)) hx hb dX10_handler_25 rfl ?_
        refine lv_icmp_ne (tgt := 33) hx hb dX10_handler_27 rfl (fun hc => ?_) (fun hc => ?_)
        · have hf := b_n hf hc
          refine lv_aload_n hx hb dX10_handler_33 rfl (lv_at hl 0 rfl) ?_
          refine x_get (k := 500) (n := 0) hx hb hts i_X10 hown hK hP (mk_500 h01) rfl rfl 14 (by decide) rfl k_131 (v := .int (gI σ 500 0 14)) rfl dX10_handler_34 ?_
          obtain ⟨y2, e_y2, hf⟩ := nm_i hf
          refine x_nmI e_y2 ?_
          refine lv_istore (lv' := [(5, .int y2), (0, .ref (ad 500 0)), (1, .int x1), (2, .int x2), (3, .int x3), (4, .int x4)]) hx hb dX10_handler_37 hl (by decide) rfl (fun ls hl => ?_)
          refine lv_aload_n hx hb dX10_handler_39 rfl (lv_at hl 1 rfl) ?_
          refine lv_dup hx hb dX10_handler_40 rfl ?_
          refine x_get (k := 500) (n := 0) hx hb hts i_X10 hown hK hP (mk_500 h01) rfl rfl 14 (by decide) rfl k_131 (v := .int (gI σ 500 0 14)) rfl dX10_handler_41 ?_
          refine lv_iconst (v := (1 : Int32)) hx hb dX10_handler_44 rfl ?_
          refine lv_iadd hx hb dX10_handler_45 ?_
          refine x_putI (k := 500) (n := 0) hx hb hts i_X10 tyX10 tyX10_ok nmX10 hown hK hD hP hS (mk_500 h01) rfl rfl 14 (by decide) rfl k_131 rfl rfl rfl rfl dX10_handler_46 (fun H locs hP hS => ?_)
          obtain ⟨σ3, e_σ3, hf⟩ := nm_i hf
          have hP : va_P G vwCl (wld ad ca σ3 LM) H := by rw [e_σ3]; exact hP
          refine lv_aload_n hx hb dX10_handler_49 rfl (lv_at hl 1 rfl) ?_
          refine x_get (k := 500) (n := 0) hx hb hts i_X10 hown hK hP (mk_500 h01) rfl rfl 15 (by decide) rfl k_45 (v := .ref (ad 516 0)) rfl dX10_handler_50 ?_
          refine lv_iload hx hb dX10_handler_53 (lv_at hl 0 rfl) ?_
          refine lv_iload_n hx hb dX10_handler_55 rfl (lv_at hl 2 rfl) ?_
          obtain ⟨g4, hf⟩ := gd_e hf
          refine x_iast (k := 516) (n := 0) hx hb hK hD hP hS (mk_516 h01) rfl g4 dX10_handler_56 (fun H locs hP hS => ?_)
          obtain ⟨σ5, e_σ5, hf⟩ := nm_i hf
          have hP : va_P G vwCl (wld ad ca σ5 LM) H := by rw [e_σ5]; exact hP
          refine lv_aload_n hx hb dX10_handler_57 rfl (lv_at hl 1 rfl) ?_
          refine x_get (k := 500) (n := 0) hx hb hts i_X10 hown hK hP (mk_500 h01) rfl rfl 16 (by decide) rfl k_48 (v := .ref (ad 517 0)) rfl dX10_handler_58 ?_
          refine lv_iload hx hb dX10_handler_61 (lv_at hl 0 rfl) ?_
          refine lv_iload_n hx hb dX10_handler_63 rfl (lv_at hl 3 rfl) ?_
          obtain ⟨g6, hf⟩ := gd_e hf
          refine x_iast (k := 517) (n := 0) hx hb hK hD hP hS (mk_517 h01) rfl g6 dX10_handler_64 (fun H locs hP hS => ?_)
          obtain ⟨σ7, e_σ7, hf⟩ := nm_i hf
          have hP : va_P G vwCl (wld ad ca σ7 LM) H := by rw [e_σ7]; exact hP
          refine lv_aload_n hx hb dX10_handler_65 rfl (lv_at hl 1 rfl) ?_
          refine x_get (k := 500) (n := 0) hx hb hts i_X10 hown hK hP (mk_500 h01) rfl rfl 17 (by decide) rfl k_51 (v := .ref (ad 518 0)) rfl dX10_handler_66 ?_
          refine lv_iload hx hb dX10_handler_69 (lv_at hl 0 rfl) ?_
          refine lv_iload_n hx hb dX10_handler_71 rfl (lv_at hl 4 rfl) ?_
          obtain ⟨g8, hf⟩ := gd_e hf
          refine x_iast (k := 518) (n := 0) hx hb hK hD hP hS (mk_518 h01) rfl g8 dX10_handler_72 (fun H locs hP hS => ?_)
          obtain ⟨σ9, e_σ9, hf⟩ := nm_i hf
          have hP : va_P G vwCl (wld ad ca σ9 LM) H := by rw [e_σ9]; exact hP
          refine lv_aload_n hx hb dX10_handler_73 rfl (lv_at hl 1 rfl) ?_
          refine x_get (k := 500) (n := 0) hx hb hts i_X10 hown hK hP (mk_500 h01) rfl rfl 18 (by decide) rfl k_54 (v := .ref (ad 519 0)) rfl dX10_handler_74 ?_
          refine lv_iload hx hb dX10_handler_77 (lv_at hl 0 rfl) ?_
          refine lv_iload hx hb dX10_handler_79 (lv_at hl 5 rfl) ?_
          obtain ⟨g10, hf⟩ := gd_e hf
          obtain ⟨g11, hf⟩ := gd_e hf
          refine x_zast (k := 519) (n := 0) hx hb hK hD hP hS (mk_519 h01) rfl g10 g11 dX10_handler_81 (fun H locs hP hS => ?_)
          obtain ⟨σ12, e_σ12, hf⟩ := nm_i hf
          have hP : va_P G vwCl (wld ad ca σ12 LM) H := by rw [e_σ12]; exact hP
          refine lv_iconst (v := (0 : Int32)) hx hb dX10_handler_82 rfl ?_
          refine lv_istore (lv' := [(6, .int (0 : Int32)), (5, .int y2), (0, .ref (ad 500 0)), (1, .int x1), (2, .int x2), (3, .int x3), (4, .int x4)]) hx hb dX10_handler_83 hl (by decide) rfl (fun ls hl => ?_)
          exact l85 _ c138 _ y2 (0 : Int32) σ12 _ _ _  hf (lv_sub hl [2, 1, 0] rfl) hP hS
        · have hf := b_p hf hc
          refine lv_bipush (v := (-4 : Int32)) hx hb dX10_handler_30 rfl ?_
          have hf := Option.some.inj hf
          exact x_iret hx hb hr hlocks hK hP hS (congrArg Prod.fst hf) (congrArg Prod.snd hf) dX10_handler_32
      · have hf := b_n hf hc
        refine lv_bipush (v := (-2 : Int32)) hx hb dX10_handler_18 rfl ?_
        have hf := Option.some.inj hf
        exact x_iret hx hb hr hlocks hK hP hS (congrArg Prod.fst hf) (congrArg Prod.snd hf) dX10_handler_20
theorem h9_X10_hasPlace : yX10_hasPlace.cls = RX10 ∧ yX10_hasPlace.cls ≠ "java/lang/invoke/MethodHandle" ∧ yX10_hasPlace.cls ≠ "java/lang/invoke/VarHandle" ∧ (parseMethodDescriptor yX10_hasPlace.desc).map (fun d => d.parameters.length) = some 2 := by decide +kernel
set_option maxRecDepth 100000 in
set_option maxHeartbeats 4000000 in
theorem t_X10_hasPlace (l : Launch) (G : va_G) (ad : Nat → Nat → Nat) (ca : Nat → ClassId) (A : Nat → Prop)   (x1 : Int32) (x2 : Int32) (hD : DW ad LM A)  (σ : PS) (res : Int32) (hf : X10_hasPlace  x1 x2 σ = some res) : Met l yX10_hasPlace wsX10_hasPlace ({ frames := 1, cells := 0, slots := 0, locals := 21 }) (ctP G ad ca LM σ ZM [.ref (ad 500 0), .int x1, .int x2]) (va_Qi (fun r' u => r' = res ∧ u = σ) (ctB G ad ca LM) A) 0 0 A := by
  refine Met.ofW (cc := cX10_hasPlace) (maxL := 3) (ret := (some .boolean)) (by decide) rfl ?_
  intro p e s m args below meth c s₁ B hml hv
  obtain ⟨rfl, hP, hK, hz⟩ := hv
  have hx := B.exec
  have hb := B.bytes
  have hr := B.returns
  have hts : ∀ w ∈ WW, w.before _ s = true := fun w h => atoms_spec (ws := wsX10_hasPlace) B.pre w (List.mem_cons_of_mem _ h)
  have hown : s.vm.findClass RX10 = some m.cls := findClass_of_methodNamed B.named
  have hlocks := B.notSynchronized
  have hS : va_S A s.heap s.heap [] := va_S.rf
  have k_29 := hts _ kf_X10_29
  have k_45 := hts _ kf_X10_45
  have hl := lv_entry ([.ref (ad 500 0), .int x1, .int x2]) (n := 3) (Nat.le_of_ble_eq_true rfl)
  rw [lg_entry_eq]
  generalize (lg_sl ([.ref (ad 500 0), .int x1, .int x2]) ++ List.replicate (3 - (lg_sl ([.ref (ad 500 0), .int x1, .int x2])).length) Slot.unset).toArray = ls at hl ⊢
  have hl : lv_has ls 3 [(0, .ref (ad 500 0)), (1, .int x1), (2, .int x2)] := hl
  unfold X10_hasPlace at hf
  refine lv_aload_n hx hb dX10_hasPlace_0 rfl (lv_at hl 0 rfl) ?_
  refine lv_iload_n hx hb dX10_hasPlace_1 rfl (lv_at hl 1 rfl) ?_
  obtain ⟨r1, hc1, hf⟩ := bd_e hf
  refine x_ci (va_runV (As := [.int x1]) (rest := []) ⟨hx, hb, hml, hown, hts⟩ (t_X10_isHandler l G ad ca A x1 hD  σ r1 hc1) (cwV 1 hts gr_X10_139 rfl rfl rfl h9_X10_isHandler ⟨Nat.le_of_ble_eq_true rfl, Nat.le_of_ble_eq_true rfl⟩) (x_prV zkM hz hK hP (mk_500 h01) rfl rfl) rfl rfl hl.1 rfl (lv_room (Nat.le_of_ble_eq_true rfl)) dX10_hasPlace_2 ⟨Nat.le_of_ble_eq_true rfl, Nat.le_of_ble_eq_true rfl⟩) hS (fun H locs hP hS => ?_)
  refine lv_if_eq (tgt := 31) hx hb dX10_hasPlace_5 rfl (fun hc => ?_) (fun hc => ?_)
  · have hf := b_p hf hc
    refine lv_iconst (v := (0 : Int32)) hx hb dX10_hasPlace_31 rfl ?_
    exact x_zret hx hb hr hlocks hK hP hS (by decide) (Option.some.inj hf) rfl dX10_hasPlace_32
  · have hf := b_n hf hc
    refine lv_iload_n hx hb dX10_hasPlace_8 rfl (lv_at hl 2 rfl) ?_
    refine lv_if_lt (tgt := 31) hx hb dX10_hasPlace_9 rfl (fun hc => ?_) (fun hc => ?_)
    · have hf := b_p hf hc
      refine lv_iconst (v := (0 : Int32)) hx hb dX10_hasPlace_31 rfl ?_
      exact x_zret hx hb hr hlocks hK hP hS (by decide) (Option.some.inj hf) rfl dX10_hasPlace_32
    · have hf := b_n hf hc
      refine lv_iload_n hx hb dX10_hasPlace_12 rfl (lv_at hl 2 rfl) ?_
      refine lv_aload_n hx hb dX10_hasPlace_13 rfl (lv_at hl 0 rfl) ?_
      refine x_get (k := 500) (n := 0) hx hb hts i_X10 hown hK hP (mk_500 h01) rfl rfl 9 (by decide) rfl k_29 (v := .ref (ad 510 0)) rfl dX10_hasPlace_14 ?_
      refine lv_aload_n hx hb dX10_hasPlace_17 rfl (lv_at hl 0 rfl) ?_
      refine x_get (k := 500) (n := 0) hx hb hts i_X10 hown hK hP (mk_500 h01) rfl rfl 15 (by decide) rfl k_45 (v := .ref (ad 516 0)) rfl dX10_hasPlace_18 ?_
      refine lv_iload_n hx hb dX10_hasPlace_21 rfl (lv_at hl 1 rfl) ?_
      obtain ⟨g2, hf⟩ := gd_e hf
      refine x_iald (k := 516) (n := 0) hx hb hK hP (mk_516 h01) rfl g2 dX10_hasPlace_22 ?_
      obtain ⟨g3, hf⟩ := gd_e hf
      refine x_iald (k := 510) (n := 0) hx hb hK hP (mk_510 h01) rfl g3 dX10_hasPlace_23 ?_
      refine lv_icmp_ge (tgt := 31) hx hb dX10_hasPlace_24 rfl (fun hc => ?_) (fun hc => ?_)
      · have hf := b_p hf hc
        refine lv_iconst (v := (0 : Int32)) hx hb dX10_hasPlace_31 rfl ?_
        exact x_zret hx hb hr hlocks hK hP hS (by decide) (Option.some.inj hf) rfl dX10_hasPlace_32
      · have hf := b_n hf hc
        refine lv_iconst (v := (1 : Int32)) hx hb dX10_hasPlace_27 rfl ?_
        refine lv_goto (tgt := 32) hx hb dX10_hasPlace_28 rfl ?_
        exact x_zret hx hb hr hlocks hK hP hS (by decide) (Option.some.inj hf) rfl dX10_hasPlace_32
theorem h9_X10_place : yX10_place.cls = RX10 ∧ yX10_place.cls ≠ "java/lang/invoke/MethodHandle" ∧ yX10_place.cls ≠ "java/lang/invoke/VarHandle" ∧ (parseMethodDescriptor yX10_place.desc).map (fun d => d.parameters.length) = some 3 := by decide +kernel
set_option maxRecDepth 100000 in
set_option maxHeartbeats 4000000 in
theorem t_X10_place (l : Launch) (G : va_G) (ad : Nat → Nat → Nat) (ca : Nat → ClassId) (A : Nat → Prop)   (x1 : Int32) (x2 : Int32) (x3 : Int32) (hD : DW ad LM A)  (σ : PS) (res : Int32) (σz : PS) (hf : X10_place  x1 x2 x3 σ = some (res, σz)) : Met l yX10_place wsX10_place ({ frames := 2, cells := 0, slots := 0, locals := 43 }) (ctP G ad ca LM σ ZM [.ref (ad 500 0), .int x1, .int x2, .int x3]) (va_Qi (fun r' u => r' = res ∧ u = σz) (ctB G ad ca LM) A) 0 0 A := by
  refine Met.ofW (cc := cX10_place) (maxL := 4) (ret := (some .int)) (by decide) rfl ?_
  intro p e s m args below meth c s₁ B hml hv
  obtain ⟨rfl, hP, hK, hz⟩ := hv
  have hx := B.exec
  have hb := B.bytes
  have hr := B.returns
  have hts : ∀ w ∈ WW, w.before _ s = true := fun w h => atoms_spec (ws := wsX10_place) B.pre w (List.mem_cons_of_mem _ h)
  have hown : s.vm.findClass RX10 = some m.cls := findClass_of_methodNamed B.named
  have hlocks := B.notSynchronized
  have hS : va_S A s.heap s.heap [] := va_S.rf
  have k_57 := hts _ kf_X10_57
  have k_60 := hts _ kf_X10_60
  have hl := lv_entry ([.ref (ad 500 0), .int x1, .int x2, .int x3]) (n := 4) (Nat.le_of_ble_eq_true rfl)
  rw [lg_entry_eq]
  generalize (lg_sl ([.ref (ad 500 0), .int x1, .int x2, .int x3]) ++ List.replicate (4 - (lg_sl ([.ref (ad 500 0), .int x1, .int x2, .int x3])).length) Slot.unset).toArray = ls at hl ⊢
  have hl : lv_has ls 4 [(0, .ref (ad 500 0)), (1, .int x1), (2, .int x2), (3, .int x3)] := hl
  unfold X10_place at hf
  refine lv_aload_n hx hb dX10_place_0 rfl (lv_at hl 0 rfl) ?_
  refine lv_iload_n hx hb dX10_place_1 rfl (lv_at hl 1 rfl) ?_
  refine lv_iload_n hx hb dX10_place_2 rfl (lv_at hl 2 rfl) ?_
  obtain ⟨r1, hc1, hf⟩ := bd_e hf
  refine x_ci (va_runV (As := [.int x1, .int x2]) (rest := []) ⟨hx, hb, hml, hown, hts⟩ (t_X10_hasPlace l G ad ca A x1 x2 hD  σ r1 hc1) (cwV 2 hts gr_X10_142 rfl rfl rfl h9_X10_hasPlace ⟨Nat.le_of_ble_eq_true rfl, Nat.le_of_ble_eq_true rfl⟩) (x_prV zkM hz hK hP (mk_500 h01) rfl rfl) rfl rfl hl.1 rfl (lv_room (Nat.le_of_ble_eq_true rfl)) dX10_place_3 ⟨Nat.le_of_ble_eq_true rfl, Nat.le_of_ble_eq_true rfl⟩) hS (fun H locs hP hS => ?_)
  refine lv_if_eq (tgt := 20) hx hb dX10_place_6 rfl (fun hc => ?_) (fun hc => ?_)
  · have hf := b_p hf hc
    refine lv_bipush (v := (-2 : Int32)) hx hb dX10_place_20 rfl ?_
    have hf := Option.some.inj hf
    exact x_iret hx hb hr hlocks hK hP hS (congrArg Prod.fst hf) (congrArg Prod.snd hf) dX10_place_22
  · have hf := b_n hf hc
    refine lv_iload_n hx hb dX10_place_9 rfl (lv_at hl 3 rfl) ?_
    refine lv_iconst (v := (-1 : Int32)) hx hb dX10_place_10 rfl ?_
    refine lv_icmp_lt (tgt := 20) hx hb dX10_place_11 rfl (fun hc => ?_) (fun hc => ?_)
    · have hf := b_p hf hc
      refine lv_bipush (v := (-2 : Int32)) hx hb dX10_place_20 rfl ?_
      have hf := Option.some.inj hf
      exact x_iret hx hb hr hlocks hK hP hS (congrArg Prod.fst hf) (congrArg Prod.snd hf) dX10_place_22
    · have hf := b_n hf hc
      refine lv_iload_n hx hb dX10_place_14 rfl (lv_at hl 3 rfl) ?_
      refine lv_bipush (v := (15 : Int32)) hx hb dX10_place_15 rfl ?_
      refine lv_icmp_le (tgt := 23) hx hb dX10_place_17 rfl (fun hc => ?_) (fun hc => ?_)
      · have hf := b_p hf hc
        refine lv_aload_n hx hb dX10_place_23 rfl (lv_at hl 0 rfl) ?_
        refine x_get (k := 500) (n := 0) hx hb hts i_X10 hown hK hP (mk_500 h01) rfl rfl 19 (by decide) rfl k_57 (v := .ref (ad 520 0)) rfl dX10_place_24 ?_
        refine lv_iload_n hx hb dX10_place_27 rfl (lv_at hl 1 rfl) ?_
        obtain ⟨g2, hf⟩ := gd_e hf
        refine x_iald (k := 520) (n := 0) hx hb hK hP (mk_520 h01) rfl g2 dX10_place_28 ?_
        refine lv_if_eq (tgt := 35) hx hb dX10_place_29 rfl (fun hc => ?_) (fun hc => ?_)
        · have hf := b_p hf hc
          refine lv_aload_n hx hb dX10_place_35 rfl (lv_at hl 0 rfl) ?_
          refine x_get (k := 500) (n := 0) hx hb hts i_X10 hown hK hP (mk_500 h01) rfl rfl 20 (by decide) rfl k_60 (v := .ref (ad 521 0)) rfl dX10_place_36 ?_
          refine lv_iconst (v := (2 : Int32)) hx hb dX10_place_39 rfl ?_
          refine lv_iload_n hx hb dX10_place_40 rfl (lv_at hl 1 rfl) ?_
          refine lv_imul hx hb dX10_place_41 ?_
          refine lv_iload_n hx hb dX10_place_42 rfl (lv_at hl 2 rfl) ?_
          refine lv_iadd hx hb dX10_place_43 ?_
          refine lv_iload_n hx hb dX10_place_44 rfl (lv_at hl 3 rfl) ?_
          obtain ⟨g3, hf⟩ := gd_e hf
          refine x_iast (k := 521) (n := 0) hx hb hK hD hP hS (mk_521 h01) rfl g3 dX10_place_45 (fun H locs hP hS => ?_)
          obtain ⟨σ4, e_σ4, hf⟩ := nm_i hf
          have hP : va_P G vwCl (wld ad ca σ4 LM) H := by rw [e_σ4]; exact hP
          refine lv_iconst (v := (1 : Int32)) hx hb dX10_place_46 rfl ?_
          have hf := Option.some.inj hf
          exact x_iret hx hb hr hlocks hK hP hS (congrArg Prod.fst hf) (congrArg Prod.snd hf) dX10_place_47
        · have hf := b_n hf hc
          refine lv_bipush (v := (-3 : Int32)) hx hb dX10_place_32 rfl ?_
          have hf := Option.some.inj hf
          exact x_iret hx hb hr hlocks hK hP hS (congrArg Prod.fst hf) (congrArg Prod.snd hf) dX10_place_34
      · have hf := b_n hf hc
        refine lv_bipush (v := (-2 : Int32)) hx hb dX10_place_20 rfl ?_
        have hf := Option.some.inj hf
        exact x_iret hx hb hr hlocks hK hP hS (congrArg Prod.fst hf) (congrArg Prod.snd hf) dX10_place_22

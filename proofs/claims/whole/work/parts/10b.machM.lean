theorem h9_X10_test : yX10_test.cls = RX10 ∧ yX10_test.cls ≠ "java/lang/invoke/MethodHandle" ∧ yX10_test.cls ≠ "java/lang/invoke/VarHandle" ∧ (parseMethodDescriptor yX10_test.desc).map (fun d => d.parameters.length) = some 4 := by decide +kernel
set_option maxRecDepth 100000 in
set_option maxHeartbeats 4000000 in
theorem t_X10_test (l : Launch) (G : va_G) (ad : Nat → Nat → Nat) (ca : Nat → ClassId) (A : Nat → Prop)   (x1 : Int32) (x2 : Int32) (x3 : Int32) (x4 : Int32) (hD : DW ad LM A)  (σ : PS) (res : Int32) (σz : PS) (hf : X10_test  x1 x2 x3 x4 σ = some (res, σz)) : Met l yX10_test wsX10_test ({ frames := 2, cells := 0, slots := 0, locals := 43 }) (ctP G ad ca LM σ ZM [.ref (ad 500 0), .int x1, .int x2, .int x3, .int x4]) (va_Qi (fun r' u => r' = res ∧ u = σz) (ctB G ad ca LM) A) 0 0 A := by
  refine Met.ofW (cc := cX10_test) (maxL := 5) (ret := (some .int)) (by decide) rfl ?_
  intro p e s m args below meth c s₁ B hml hv
  obtain ⟨rfl, hP, hK, hz⟩ := hv
  have hx := B.exec
  have hb := B.bytes
  have hr := B.returns
  have hts : ∀ w ∈ WW, w.before _ s = true := fun w h => atoms_spec (ws := wsX10_test) B.pre w (List.mem_cons_of_mem _ h)
  have hown : s.vm.findClass RX10 = some m.cls := findClass_of_methodNamed B.named
  have hlocks := B.notSynchronized
  have hS : va_S A s.heap s.heap [] := va_S.rf
  have k_57 := hts _ kf_X10_57
  have k_63 := hts _ kf_X10_63
  have k_66 := hts _ kf_X10_66
  have hl := lv_entry ([.ref (ad 500 0), .int x1, .int x2, .int x3, .int x4]) (n := 5) (Nat.le_of_ble_eq_true rfl)
  rw [lg_entry_eq]
  generalize (lg_sl ([.ref (ad 500 0), .int x1, .int x2, .int x3, .int x4]) ++ List.replicate (5 - (lg_sl ([.ref (ad 500 0), .int x1, .int x2, .int x3, .int x4])).length) Slot.unset).toArray = ls at hl ⊢
  have hl : lv_has ls 5 [(0, .ref (ad 500 0)), (1, .int x1), (2, .int x2), (3, .int x3), (4, .int x4)] := hl
  unfold X10_test at hf
  refine lv_aload_n hx hb dX10_test_0 rfl (lv_at hl 0 rfl) ?_
  refine lv_iload_n hx hb dX10_test_1 rfl (lv_at hl 1 rfl) ?_
  refine lv_iload_n hx hb dX10_test_2 rfl (lv_at hl 2 rfl) ?_
  obtain ⟨r1, hc1, hf⟩ := bd_e hf
  refine x_ci (va_runV (As := [.int x1, .int x2]) (rest := []) ⟨hx, hb, hml, hown, hts⟩ (t_X10_hasPlace l G ad ca A x1 x2 hD  σ r1 hc1) (cwV 2 hts gr_X10_142 rfl rfl rfl h9_X10_hasPlace ⟨Nat.le_of_ble_eq_true rfl, Nat.le_of_ble_eq_true rfl⟩) (x_prV zkM hz hK hP (mk_500 h01) rfl rfl) rfl rfl hl.1 rfl (lv_room (Nat.le_of_ble_eq_true rfl)) dX10_test_3 ⟨Nat.le_of_ble_eq_true rfl, Nat.le_of_ble_eq_true rfl⟩) hS (fun H locs hP hS => ?_)
  refine lv_if_eq (tgt := 15) hx hb dX10_test_6 rfl (fun hc => ?_) (fun hc => ?_)
  · have hf := b_p hf hc
    refine lv_bipush (v := (-2 : Int32)) hx hb dX10_test_15 rfl ?_
    have hf := Option.some.inj hf
    exact x_iret hx hb hr hlocks hK hP hS (congrArg Prod.fst hf) (congrArg Prod.snd hf) dX10_test_17
  · have hf := b_n hf hc
    refine lv_iload_n hx hb dX10_test_9 rfl (lv_at hl 3 rfl) ?_
    refine lv_iload hx hb dX10_test_10 (lv_at hl 4 rfl) ?_
    refine lv_icmp_le (tgt := 18) hx hb dX10_test_12 rfl (fun hc => ?_) (fun hc => ?_)
    · have hf := b_p hf hc
      refine lv_aload_n hx hb dX10_test_18 rfl (lv_at hl 0 rfl) ?_
      refine x_get (k := 500) (n := 0) hx hb hts i_X10 hown hK hP (mk_500 h01) rfl rfl 19 (by decide) rfl k_57 (v := .ref (ad 520 0)) rfl dX10_test_19 ?_
      refine lv_iload_n hx hb dX10_test_22 rfl (lv_at hl 1 rfl) ?_
      obtain ⟨g2, hf⟩ := gd_e hf
      refine x_iald (k := 520) (n := 0) hx hb hK hP (mk_520 h01) rfl g2 dX10_test_23 ?_
      refine lv_if_eq (tgt := 30) hx hb dX10_test_24 rfl (fun hc => ?_) (fun hc => ?_)
      · have hf := b_p hf hc
        refine lv_aload_n hx hb dX10_test_30 rfl (lv_at hl 0 rfl) ?_
        refine x_get (k := 500) (n := 0) hx hb hts i_X10 hown hK hP (mk_500 h01) rfl rfl 21 (by decide) rfl k_63 (v := .ref (ad 522 0)) rfl dX10_test_31 ?_
        refine lv_iconst (v := (2 : Int32)) hx hb dX10_test_34 rfl ?_
        refine lv_iload_n hx hb dX10_test_35 rfl (lv_at hl 1 rfl) ?_
        refine lv_imul hx hb dX10_test_36 ?_
        refine lv_iload_n hx hb dX10_test_37 rfl (lv_at hl 2 rfl) ?_
        refine lv_iadd hx hb dX10_test_38 ?_
        refine lv_iload_n hx hb dX10_test_39 rfl (lv_at hl 3 rfl) ?_
        obtain ⟨g3, hf⟩ := gd_e hf
        refine x_iast (k := 522) (n := 0) hx hb hK hD hP hS (mk_522 h01) rfl g3 dX10_test_40 (fun H locs hP hS => ?_)
        obtain ⟨σ4, e_σ4, hf⟩ := nm_i hf
        have hP : va_P G vwCl (wld ad ca σ4 LM) H := by rw [e_σ4]; exact hP
        refine lv_aload_n hx hb dX10_test_41 rfl (lv_at hl 0 rfl) ?_
        refine x_get (k := 500) (n := 0) hx hb hts i_X10 hown hK hP (mk_500 h01) rfl rfl 22 (by decide) rfl k_66 (v := .ref (ad 523 0)) rfl dX10_test_42 ?_
        refine lv_iconst (v := (2 : Int32)) hx hb dX10_test_45 rfl ?_
        refine lv_iload_n hx hb dX10_test_46 rfl (lv_at hl 1 rfl) ?_
        refine lv_imul hx hb dX10_test_47 ?_
        refine lv_iload_n hx hb dX10_test_48 rfl (lv_at hl 2 rfl) ?_
        refine lv_iadd hx hb dX10_test_49 ?_
        refine lv_iload hx hb dX10_test_50 (lv_at hl 4 rfl) ?_
        obtain ⟨g5, hf⟩ := gd_e hf
        refine x_iast (k := 523) (n := 0) hx hb hK hD hP hS (mk_523 h01) rfl g5 dX10_test_52 (fun H locs hP hS => ?_)
        obtain ⟨σ6, e_σ6, hf⟩ := nm_i hf
        have hP : va_P G vwCl (wld ad ca σ6 LM) H := by rw [e_σ6]; exact hP
        refine lv_iconst (v := (1 : Int32)) hx hb dX10_test_53 rfl ?_
        have hf := Option.some.inj hf
        exact x_iret hx hb hr hlocks hK hP hS (congrArg Prod.fst hf) (congrArg Prod.snd hf) dX10_test_54
      · have hf := b_n hf hc
        refine lv_bipush (v := (-3 : Int32)) hx hb dX10_test_27 rfl ?_
        have hf := Option.some.inj hf
        exact x_iret hx hb hr hlocks hK hP hS (congrArg Prod.fst hf) (congrArg Prod.snd hf) dX10_test_29
    · have hf := b_n hf hc
      refine lv_bipush (v := (-2 : Int32)) hx hb dX10_test_15 rfl ?_
      have hf := Option.some.inj hf
      exact x_iret hx hb hr hlocks hK hP hS (congrArg Prod.fst hf) (congrArg Prod.snd hf) dX10_test_17
theorem h9_X10_isLaid : yX10_isLaid.cls = RX10 ∧ yX10_isLaid.cls ≠ "java/lang/invoke/MethodHandle" ∧ yX10_isLaid.cls ≠ "java/lang/invoke/VarHandle" ∧ (parseMethodDescriptor yX10_isLaid.desc).map (fun d => d.parameters.length) = some 2 := by decide +kernel
set_option maxRecDepth 100000 in
set_option maxHeartbeats 4000000 in
theorem t_X10_isLaid (l : Launch) (G : va_G) (ad : Nat → Nat → Nat) (ca : Nat → ClassId) (A : Nat → Prop)   (x1 : Int32) (x2 : Int32) (hD : DW ad LM A)  (σ : PS) (res : Int32) (hf : X10_isLaid  x1 x2 σ = some res) : Met l yX10_isLaid wsX10_isLaid ({ frames := 0, cells := 0, slots := 0, locals := 0 }) (ctP G ad ca LM σ ZM [.ref (ad 500 0), .int x1, .int x2]) (va_Qi (fun r' u => r' = res ∧ u = σ) (ctB G ad ca LM) A) 0 0 A := by
  refine Met.ofW (cc := cX10_isLaid) (maxL := 3) (ret := (some .boolean)) (by decide) rfl ?_
  intro p e s m args below meth c s₁ B hml hv
  obtain ⟨rfl, hP, hK, hz⟩ := hv
  have hx := B.exec
  have hb := B.bytes
  have hr := B.returns
  have hts : ∀ w ∈ WW, w.before _ s = true := fun w h => atoms_spec (ws := wsX10_isLaid) B.pre w (List.mem_cons_of_mem _ h)
  have hown : s.vm.findClass RX10 = some m.cls := findClass_of_methodNamed B.named
  have hlocks := B.notSynchronized
  have hS : va_S A s.heap s.heap [] := va_S.rf
  have k_45 := hts _ kf_X10_45
  have k_57 := hts _ kf_X10_57
  have hl := lv_entry ([.ref (ad 500 0), .int x1, .int x2]) (n := 3) (Nat.le_of_ble_eq_true rfl)
  rw [lg_entry_eq]
  generalize (lg_sl ([.ref (ad 500 0), .int x1, .int x2]) ++ List.replicate (3 - (lg_sl ([.ref (ad 500 0), .int x1, .int x2])).length) Slot.unset).toArray = ls at hl ⊢
  have hl : lv_has ls 3 [(0, .ref (ad 500 0)), (1, .int x1), (2, .int x2)] := hl
  unfold X10_isLaid at hf
  refine lv_aload_n hx hb dX10_isLaid_0 rfl (lv_at hl 0 rfl) ?_
  refine x_get (k := 500) (n := 0) hx hb hts i_X10 hown hK hP (mk_500 h01) rfl rfl 15 (by decide) rfl k_45 (v := .ref (ad 516 0)) rfl dX10_isLaid_1 ?_
  refine lv_iload_n hx hb dX10_isLaid_4 rfl (lv_at hl 1 rfl) ?_
  obtain ⟨g1, hf⟩ := gd_e hf
  refine x_iald (k := 516) (n := 0) hx hb hK hP (mk_516 h01) rfl g1 dX10_isLaid_5 ?_
  refine lv_iload_n hx hb dX10_isLaid_6 rfl (lv_at hl 2 rfl) ?_
  refine lv_icmp_ne (tgt := 24) hx hb dX10_isLaid_7 rfl (fun hc => ?_) (fun hc => ?_)
  · have hf := b_n hf hc
    refine lv_iconst (v := (0 : Int32)) hx hb dX10_isLaid_24 rfl ?_
    exact x_zret hx hb hr hlocks hK hP hS (by decide) (Option.some.inj hf) rfl dX10_isLaid_25
  · have hf := b_p hf hc
    refine lv_aload_n hx hb dX10_isLaid_10 rfl (lv_at hl 0 rfl) ?_
    refine x_get (k := 500) (n := 0) hx hb hts i_X10 hown hK hP (mk_500 h01) rfl rfl 19 (by decide) rfl k_57 (v := .ref (ad 520 0)) rfl dX10_isLaid_11 ?_
    refine lv_iload_n hx hb dX10_isLaid_14 rfl (lv_at hl 1 rfl) ?_
    obtain ⟨g2, hf⟩ := gd_e hf
    refine x_iald (k := 520) (n := 0) hx hb hK hP (mk_520 h01) rfl g2 dX10_isLaid_15 ?_
    refine lv_iconst (v := (1 : Int32)) hx hb dX10_isLaid_16 rfl ?_
    refine lv_icmp_ne (tgt := 24) hx hb dX10_isLaid_17 rfl (fun hc => ?_) (fun hc => ?_)
    · have hf := b_n hf hc
      refine lv_iconst (v := (0 : Int32)) hx hb dX10_isLaid_24 rfl ?_
      exact x_zret hx hb hr hlocks hK hP hS (by decide) (Option.some.inj hf) rfl dX10_isLaid_25
    · have hf := b_p hf hc
      refine lv_iconst (v := (1 : Int32)) hx hb dX10_isLaid_20 rfl ?_
      refine lv_goto (tgt := 25) hx hb dX10_isLaid_21 rfl ?_
      exact x_zret hx hb hr hlocks hK hP hS (by decide) (Option.some.inj hf) rfl dX10_isLaid_25
theorem h9_X10_laid : yX10_laid.cls = RX10 ∧ yX10_laid.cls ≠ "java/lang/invoke/MethodHandle" ∧ yX10_laid.cls ≠ "java/lang/invoke/VarHandle" ∧ (parseMethodDescriptor yX10_laid.desc).map (fun d => d.parameters.length) = some 1 := by decide +kernel
set_option maxRecDepth 100000 in
set_option maxHeartbeats 4000000 in
theorem t_X10_laid (l : Launch) (G : va_G) (ad : Nat → Nat → Nat) (ca : Nat → ClassId) (A : Nat → Prop)   (x1 : Int32) (hD : DW ad LM A)  (σ : PS) (res : Int32) (hf : X10_laid  x1 σ = some res) : Met l yX10_laid wsX10_laid ({ frames := 1, cells := 0, slots := 0, locals := 22 }) (ctP G ad ca LM σ ZM [.ref (ad 500 0), .int x1]) (va_Qi (fun r' u => r' = res ∧ u = σ) (ctB G ad ca LM) A) 0 0 A := by
  refine Met.ofW (cc := cX10_laid) (maxL := 4) (ret := (some .int)) (by decide) rfl ?_
  intro p e s m args below meth c s₁ B hml hv
  obtain ⟨rfl, hP, hK, hz⟩ := hv
  have hx := B.exec
  have hb := B.bytes
  have hr := B.returns
  have hts : ∀ w ∈ WW, w.before _ s = true := fun w h => atoms_spec (ws := wsX10_laid) B.pre w (List.mem_cons_of_mem _ h)
  have hown : s.vm.findClass RX10 = some m.cls := findClass_of_methodNamed B.named
  have hlocks := B.notSynchronized
  have hS : va_S A s.heap s.heap [] := va_S.rf
  have k_131 := hts _ kf_X10_131
  have hl := lv_entry ([.ref (ad 500 0), .int x1]) (n := 4) (Nat.le_of_ble_eq_true rfl)
  rw [lg_entry_eq]
  generalize (lg_sl ([.ref (ad 500 0), .int x1]) ++ List.replicate (4 - (lg_sl ([.ref (ad 500 0), .int x1])).length) Slot.unset).toArray = ls at hl ⊢
  have hl : lv_has ls 4 [(0, .ref (ad 500 0)), (1, .int x1)] := hl
  unfold X10_laid at hf
  have l4 : ∀ (kx4 : Int32 → Option (Int32)), (∀ (v2 : Int32) (H : Heap) (locs : List Loc) (ls : Array Slot), kx4 v2 = some res → lv_has ls 4 [(2, .int v2)] → va_P G vwCl (wld ad ca σ LM) H → va_S A s.heap H locs → W p l e (headSpec wsX10_laid ({ frames := 1, cells := 0, slots := 0, locals := 22 })).room s m (([.ref (ad 500 0), .int x1] : List Value).toArray) below meth c H locs 0 0 (MQ below (va_Qi (fun r' u => r' = res ∧ u = σ) (ctB G ad ca LM) A) (([.ref (ad 500 0), .int x1] : List Value).toArray) s 0 0 A) (F0 m 35 ls [])) → ∀ (n4 : Nat) (v1 : Int32) (v2 : Int32) (v3 : Int32) (H : Heap) (locs : List Loc) (ls : Array Slot), X10_laid_l4 σ kx4 n4 v1 v2 v3 = some res → lv_has ls 4 [(0, .ref (ad 500 0)), (1, .int v1), (2, .int v2), (3, .int v3)] → va_P G vwCl (wld ad ca σ LM) H → va_S A s.heap H locs → W p l e (headSpec wsX10_laid ({ frames := 1, cells := 0, slots := 0, locals := 22 })).room s m (([.ref (ad 500 0), .int x1] : List Value).toArray) below meth c H locs 0 0 (MQ below (va_Qi (fun r' u => r' = res ∧ u = σ) (ctB G ad ca LM) A) (([.ref (ad 500 0), .int x1] : List Value).toArray) s 0 0 A) (F0 m 4 ls []) := by
    intro kx4 hx4 n4
    induction n4 with
    | zero =>
      intro v1 v2 v3 H locs ls hf
      exact absurd hf (by simp [X10_laid_l4])
    | succ n4 ih4 =>
      intro v1 v2 v3 H locs ls hf hl hP hS
      rw [X10_laid_l4.eq_2] at hf
      refine lv_iload_n hx hb dX10_laid_4 rfl (lv_at hl 3 rfl) ?_
      refine lv_aload_n hx hb dX10_laid_5 rfl (lv_at hl 0 rfl) ?_
      refine x_get (k := 500) (n := 0) hx hb hts i_X10 hown hK hP (mk_500 h01) rfl rfl 14 (by decide) rfl k_131 (v := .int (gI σ 500 0 14)) rfl dX10_laid_6 ?_
      refine lv_icmp_ge (tgt := 35) hx hb dX10_laid_9 rfl (fun hc => ?_) (fun hc => ?_)
      · have hf := b_p hf hc
        exact hx4 v2 _ _ _  hf (lv_sub hl [2] rfl) hP hS
      · have hf := b_n hf hc
        refine lv_iload_n hx hb dX10_laid_12 rfl (lv_at hl 2 rfl) ?_
        refine lv_aload_n hx hb dX10_laid_13 rfl (lv_at hl 0 rfl) ?_
        refine lv_iload_n hx hb dX10_laid_14 rfl (lv_at hl 3 rfl) ?_
        refine lv_iload_n hx hb dX10_laid_15 rfl (lv_at hl 1 rfl) ?_
        obtain ⟨r1, hc1, hf⟩ := bd_e hf
        refine x_ci (va_runV (As := [.int v3, .int v1]) (rest := [.int v2]) ⟨hx, hb, hml, hown, hts⟩ (t_X10_isLaid l G ad ca A v3 v1 hD  σ r1 hc1) (cwV 2 hts gr_X10_145 rfl rfl rfl h9_X10_isLaid ⟨Nat.le_of_ble_eq_true rfl, Nat.le_of_ble_eq_true rfl⟩) (x_prV zkM hz hK hP (mk_500 h01) rfl rfl) rfl rfl hl.1 rfl (lv_room (Nat.le_of_ble_eq_true rfl)) dX10_laid_16 ⟨Nat.le_of_ble_eq_true rfl, Nat.le_of_ble_eq_true rfl⟩) hS (fun H locs hP hS => ?_)
        refine lv_if_eq (tgt := 26) hx hb dX10_laid_19 rfl (fun hc => ?_) (fun hc => ?_)
        · have hf := b_p hf hc
          refine lv_iconst (v := (0 : Int32)) hx hb dX10_laid_26 rfl ?_
          refine lv_iadd hx hb dX10_laid_27 ?_
          obtain ⟨y2, e_y2, hf⟩ := nm_i hf
          refine x_nmI e_y2 ?_
          refine lv_istore_n (lv' := [(2, .int y2), (0, .ref (ad 500 0)), (1, .int v1), (3, .int v3)]) hx hb dX10_laid_28 rfl hl (by decide) rfl (fun ls hl => ?_)
          refine lv_iinc (v := (v3 + (1 : Int32))) (lv' := [(3, .int (v3 + (1 : Int32))), (2, .int y2), (0, .ref (ad 500 0)), (1, .int v1)]) hx hb dX10_laid_29 hl (k := 3) rfl rfl (by decide) rfl (fun ls hl => ?_)
          refine lv_goto (tgt := 4) hx hb dX10_laid_32 rfl ?_
          exact ih4 v1 y2 (v3 + (1 : Int32)) _ _ _  hf (lv_sub hl [2, 3, 1, 0] rfl) hP hS
        · have hf := b_n hf hc
          refine lv_iconst (v := (1 : Int32)) hx hb dX10_laid_22 rfl ?_
          refine lv_goto (tgt := 27) hx hb dX10_laid_23 rfl ?_
          refine lv_iadd hx hb dX10_laid_27 ?_
          obtain ⟨y3, e_y3, hf⟩ := nm_i hf
          refine x_nmI e_y3 ?_
          refine lv_istore_n (lv' := [(2, .int y3), (0, .ref (ad 500 0)), (1, .int v1), (3, .int v3)]) hx hb dX10_laid_28 rfl hl (by decide) rfl (fun ls hl => ?_)
          refine lv_iinc (v := (v3 + (1 : Int32))) (lv' := [(3, .int (v3 + (1 : Int32))), (2, .int y3), (0, .ref (ad 500 0)), (1, .int v1)]) hx hb dX10_laid_29 hl (k := 3) rfl rfl (by decide) rfl (fun ls hl => ?_)
          refine lv_goto (tgt := 4) hx hb dX10_laid_32 rfl ?_
          exact ih4 v1 y3 (v3 + (1 : Int32)) _ _ _  hf (lv_sub hl [2, 3, 1, 0] rfl) hP hS
  have c35 : ∀ (v2 : Int32) (H : Heap) (locs : List Loc) (ls : Array Slot), X10_laid_c35 σ v2 = some res → lv_has ls 4 [(2, .int v2)] → va_P G vwCl (wld ad ca σ LM) H → va_S A s.heap H locs → W p l e (headSpec wsX10_laid ({ frames := 1, cells := 0, slots := 0, locals := 22 })).room s m (([.ref (ad 500 0), .int x1] : List Value).toArray) below meth c H locs 0 0 (MQ below (va_Qi (fun r' u => r' = res ∧ u = σ) (ctB G ad ca LM) A) (([.ref (ad 500 0), .int x1] : List Value).toArray) s 0 0 A) (F0 m 35 ls []) := by
    intro v2 H locs ls hf hl hP hS
    unfold X10_laid_c35 at hf
    refine lv_iload_n hx hb dX10_laid_35 rfl (lv_at hl 0 rfl) ?_
    exact x_iret hx hb hr hlocks hK hP hS (Option.some.inj hf) rfl dX10_laid_36
  refine lv_iconst (v := (0 : Int32)) hx hb dX10_laid_0 rfl ?_
  refine lv_istore_n (lv' := [(2, .int (0 : Int32)), (0, .ref (ad 500 0)), (1, .int x1)]) hx hb dX10_laid_1 rfl hl (by decide) rfl (fun ls hl => ?_)
  refine lv_iconst (v := (0 : Int32)) hx hb dX10_laid_2 rfl ?_
  refine lv_istore_n (lv' := [(3, .int (0 : Int32)), (2, .int (0 : Int32)), (0, .ref (ad 500 0)), (1, .int x1)]) hx hb dX10_laid_3 rfl hl (by decide) rfl (fun ls hl => ?_)
  exact l4 _ c35 _ x1 (0 : Int32) (0 : Int32) _ _ _  hf (lv_sub hl [2, 3, 1, 0] rfl) hP hS
theorem h9_X10_areSame : yX10_areSame.cls = RX10 ∧ yX10_areSame.cls ≠ "java/lang/invoke/MethodHandle" ∧ yX10_areSame.cls ≠ "java/lang/invoke/VarHandle" ∧ (parseMethodDescriptor yX10_areSame.desc).map (fun d => d.parameters.length) = some 3 := by decide +kernel
set_option maxRecDepth 100000 in
set_option maxHeartbeats 4000000 in
theorem t_X10_areSame (l : Launch) (G : va_G) (ad : Nat → Nat → Nat) (ca : Nat → ClassId) (A : Nat → Prop)   (x1 : Int32) (x2 : Int32) (x3 : Int32) (hD : DW ad LM A)  (σ : PS) (res : Int32) (hf : X10_areSame  x1 x2 x3 σ = some res) : Met l yX10_areSame wsX10_areSame ({ frames := 0, cells := 0, slots := 0, locals := 0 }) (ctP G ad ca LM σ ZM [.ref (ad 500 0), .int x1, .int x2, .int x3]) (va_Qi (fun r' u => r' = res ∧ u = σ) (ctB G ad ca LM) A) 0 0 A := by
  refine Met.ofW (cc := cX10_areSame) (maxL := 4) (ret := (some .boolean)) (by decide) rfl ?_
  intro p e s m args below meth c s₁ B hml hv
  obtain ⟨rfl, hP, hK, hz⟩ := hv
  have hx := B.exec
  have hb := B.bytes
  have hr := B.returns
  have hts : ∀ w ∈ WW, w.before _ s = true := fun w h => atoms_spec (ws := wsX10_areSame) B.pre w (List.mem_cons_of_mem _ h)
  have hown : s.vm.findClass RX10 = some m.cls := findClass_of_methodNamed B.named
  have hlocks := B.notSynchronized
  have hS : va_S A s.heap s.heap [] := va_S.rf
  have k_60 := hts _ kf_X10_60
  have k_63 := hts _ kf_X10_63
  have k_66 := hts _ kf_X10_66
  have hl := lv_entry ([.ref (ad 500 0), .int x1, .int x2, .int x3]) (n := 4) (Nat.le_of_ble_eq_true rfl)
  rw [lg_entry_eq]
  generalize (lg_sl ([.ref (ad 500 0), .int x1, .int x2, .int x3]) ++ List.replicate (4 - (lg_sl ([.ref (ad 500 0), .int x1, .int x2, .int x3])).length) Slot.unset).toArray = ls at hl ⊢
  have hl : lv_has ls 4 [(0, .ref (ad 500 0)), (1, .int x1), (2, .int x2), (3, .int x3)] := hl
  unfold X10_areSame at hf
  refine lv_aload_n hx hb dX10_areSame_0 rfl (lv_at hl 0 rfl) ?_
  refine x_get (k := 500) (n := 0) hx hb hts i_X10 hown hK hP (mk_500 h01) rfl rfl 20 (by decide) rfl k_60 (v := .ref (ad 521 0)) rfl dX10_areSame_1 ?_
  refine lv_iconst (v := (2 : Int32)) hx hb dX10_areSame_4 rfl ?_
  refine lv_iload_n hx hb dX10_areSame_5 rfl (lv_at hl 1 rfl) ?_
  refine lv_imul hx hb dX10_areSame_6 ?_
  refine lv_iload_n hx hb dX10_areSame_7 rfl (lv_at hl 3 rfl) ?_
  refine lv_iadd hx hb dX10_areSame_8 ?_
  obtain ⟨g1, hf⟩ := gd_e hf
  refine x_iald (k := 521) (n := 0) hx hb hK hP (mk_521 h01) rfl g1 dX10_areSame_9 ?_
  refine lv_aload_n hx hb dX10_areSame_10 rfl (lv_at hl 0 rfl) ?_
  refine x_get (k := 500) (n := 0) hx hb hts i_X10 hown hK hP (mk_500 h01) rfl rfl 20 (by decide) rfl k_60 (v := .ref (ad 521 0)) rfl dX10_areSame_11 ?_
  refine lv_iconst (v := (2 : Int32)) hx hb dX10_areSame_14 rfl ?_
  refine lv_iload_n hx hb dX10_areSame_15 rfl (lv_at hl 2 rfl) ?_
  refine lv_imul hx hb dX10_areSame_16 ?_
  refine lv_iload_n hx hb dX10_areSame_17 rfl (lv_at hl 3 rfl) ?_
  refine lv_iadd hx hb dX10_areSame_18 ?_
  obtain ⟨g2, hf⟩ := gd_e hf
  refine x_iald (k := 521) (n := 0) hx hb hK hP (mk_521 h01) rfl g2 dX10_areSame_19 ?_
  refine lv_icmp_ne (tgt := 73) hx hb dX10_areSame_20 rfl (fun hc => ?_) (fun hc => ?_)
  · have hf := b_n hf hc
    refine lv_iconst (v := (0 : Int32)) hx hb dX10_areSame_73 rfl ?_
    exact x_zret hx hb hr hlocks hK hP hS (by decide) (Option.some.inj hf) rfl dX10_areSame_74
  · have hf := b_p hf hc
    refine lv_aload_n hx hb dX10_areSame_23 rfl (lv_at hl 0 rfl) ?_
    refine x_get (k := 500) (n := 0) hx hb hts i_X10 hown hK hP (mk_500 h01) rfl rfl 21 (by decide) rfl k_63 (v := .ref (ad 522 0)) rfl dX10_areSame_24 ?_
    refine lv_iconst (v := (2 : Int32)) hx hb dX10_areSame_27 rfl ?_
    refine lv_iload_n hx hb dX10_areSame_28 rfl (lv_at hl 1 rfl) ?_
    refine lv_imul hx hb dX10_areSame_29 ?_
    refine lv_iload_n hx hb dX10_areSame_30 rfl (lv_at hl 3 rfl) ?_
    refine lv_iadd hx hb dX10_areSame_31 ?_
    obtain ⟨g3, hf⟩ := gd_e hf
    refine x_iald (k := 522) (n := 0) hx hb hK hP (mk_522 h01) rfl g3 dX10_areSame_32 ?_
    refine lv_aload_n hx hb dX10_areSame_33 rfl (lv_at hl 0 rfl) ?_
    refine x_get (k := 500) (n := 0) hx hb hts i_X10 hown hK hP (mk_500 h01) rfl rfl 21 (by decide) rfl k_63 (v := .ref (ad 522 0)) rfl dX10_areSame_34 ?_
    refine lv_iconst (v := (2 : Int32)) hx hb dX10_areSame_37 rfl ?_
    refine lv_iload_n hx hb dX10_areSame_38 rfl (lv_at hl 2 rfl) ?_
    refine lv_imul hx hb dX10_areSame_39 ?_
    refine lv_iload_n hx hb dX10_areSame_40 rfl (lv_at hl 3 rfl) ?_
    refine lv_iadd hx hb dX10_areSame_41 ?_
    obtain ⟨g4, hf⟩ := gd_e hf
    refine x_iald (k := 522) (n := 0) hx hb hK hP (mk_522 h01) rfl g4 dX10_areSame_42 ?_
    refine lv_icmp_ne (tgt := 73) hx hb dX10_areSame_43 rfl (fun hc => ?_) (fun hc => ?_)
    · have hf := b_n hf hc
      refine lv_iconst (v := (0 : Int32)) hx hb dX10_areSame_73 rfl ?_
      exact x_zret hx hb hr hlocks hK hP hS (by decide) (Option.some.inj hf) rfl dX10_areSame_74
    · have hf := b_p hf hc
      refine lv_aload_n hx hb dX10_areSame_46 rfl (lv_at hl 0 rfl) ?_
      refine x_get (k := 500) (n := 0) hx hb hts i_X10 hown hK hP (mk_500 h01) rfl rfl 22 (by decide) rfl k_66 (v := .ref (ad 523 0)) rfl dX10_areSame_47 ?_
      refine lv_iconst (v := (2 : Int32)) hx hb dX10_areSame_50 rfl ?_
      refine lv_iload_n hx hb dX10_areSame_51 rfl (lv_at hl 1 rfl) ?_
      refine lv_imul hx hb dX10_areSame_52 ?_
      refine lv_iload_n hx hb dX10_areSame_53 rfl (lv_at hl 3 rfl) ?_
      refine lv_iadd hx hb dX10_areSame_54 ?_
      obtain ⟨g5, hf⟩ := gd_e hf
      refine x_iald (k := 523) (n := 0) hx hb hK hP (mk_523 h01) rfl g5 dX10_areSame_55 ?_
      refine lv_aload_n hx hb dX10_areSame_56 rfl (lv_at hl 0 rfl) ?_
      refine x_get (k := 500) (n := 0) hx hb hts i_X10 hown hK hP (mk_500 h01) rfl rfl 22 (by decide) rfl k_66 (v := .ref (ad 523 0)) rfl dX10_areSame_57 ?_
      refine lv_iconst (v := (2 : Int32)) hx hb dX10_areSame_60 rfl ?_
      refine lv_iload_n hx hb dX10_areSame_61 rfl (lv_at hl 2 rfl) ?_
      refine lv_imul hx hb dX10_areSame_62 ?_
      refine lv_iload_n hx hb dX10_areSame_63 rfl (lv_at hl 3 rfl) ?_
      refine lv_iadd hx hb dX10_areSame_64 ?_
      obtain ⟨g6, hf⟩ := gd_e hf
      refine x_iald (k := 523) (n := 0) hx hb hK hP (mk_523 h01) rfl g6 dX10_areSame_65 ?_
      refine lv_icmp_ne (tgt := 73) hx hb dX10_areSame_66 rfl (fun hc => ?_) (fun hc => ?_)
      · have hf := b_n hf hc
        refine lv_iconst (v := (0 : Int32)) hx hb dX10_areSame_73 rfl ?_
        exact x_zret hx hb hr hlocks hK hP hS (by decide) (Option.some.inj hf) rfl dX10_areSame_74
      · have hf := b_p hf hc
        refine lv_iconst (v := (1 : Int32)) hx hb dX10_areSame_69 rfl ?_
        refine lv_goto (tgt := 74) hx hb dX10_areSame_70 rfl ?_
        exact x_zret hx hb hr hlocks hK hP hS (by decide) (Option.some.inj hf) rfl dX10_areSame_74
theorem h9_X10_isNarrower : yX10_isNarrower.cls = RX10 ∧ yX10_isNarrower.cls ≠ "java/lang/invoke/MethodHandle" ∧ yX10_isNarrower.cls ≠ "java/lang/invoke/VarHandle" ∧ (parseMethodDescriptor yX10_isNarrower.desc).map (fun d => d.parameters.length) = some 3 := by decide +kernel
set_option maxRecDepth 100000 in
set_option maxHeartbeats 4000000 in
theorem t_X10_isNarrower (l : Launch) (G : va_G) (ad : Nat → Nat → Nat) (ca : Nat → ClassId) (A : Nat → Prop)   (x1 : Int32) (x2 : Int32) (x3 : Int32) (hD : DW ad LM A)  (σ : PS) (res : Int32) (hf : X10_isNarrower  x1 x2 x3 σ = some res) : Met l yX10_isNarrower wsX10_isNarrower ({ frames := 1, cells := 0, slots := 0, locals := 23 }) (ctP G ad ca LM σ ZM [.ref (ad 500 0), .int x1, .int x2, .int x3]) (va_Qi (fun r' u => r' = res ∧ u = σ) (ctB G ad ca LM) A) 0 0 A := by
  refine Met.ofW (cc := cX10_isNarrower) (maxL := 6) (ret := (some .boolean)) (by decide) rfl ?_
  intro p e s m args below meth c s₁ B hml hv
  obtain ⟨rfl, hP, hK, hz⟩ := hv
  have hx := B.exec
  have hb := B.bytes
  have hr := B.returns
  have hts : ∀ w ∈ WW, w.before _ s = true := fun w h => atoms_spec (ws := wsX10_isNarrower) B.pre w (List.mem_cons_of_mem _ h)
  have hown : s.vm.findClass RX10 = some m.cls := findClass_of_methodNamed B.named
  have hlocks := B.notSynchronized
  have hS : va_S A s.heap s.heap [] := va_S.rf
  have k_60 := hts _ kf_X10_60
  have k_63 := hts _ kf_X10_63
  have k_66 := hts _ kf_X10_66
  have hl := lv_entry ([.ref (ad 500 0), .int x1, .int x2, .int x3]) (n := 6) (Nat.le_of_ble_eq_true rfl)
  rw [lg_entry_eq]
  generalize (lg_sl ([.ref (ad 500 0), .int x1, .int x2, .int x3]) ++ List.replicate (6 - (lg_sl ([.ref (ad 500 0), .int x1, .int x2, .int x3])).length) Slot.unset).toArray = ls at hl ⊢
  have hl : lv_has ls 6 [(0, .ref (ad 500 0)), (1, .int x1), (2, .int x2), (3, .int x3)] := hl
  unfold X10_isNarrower at hf
  refine lv_aload_n hx hb dX10_isNarrower_0 rfl (lv_at hl 0 rfl) ?_
  refine x_get (k := 500) (n := 0) hx hb hts i_X10 hown hK hP (mk_500 h01) rfl rfl 20 (by decide) rfl k_60 (v := .ref (ad 521 0)) rfl dX10_isNarrower_1 ?_
  refine lv_iconst (v := (2 : Int32)) hx hb dX10_isNarrower_4 rfl ?_
  refine lv_iload_n hx hb dX10_isNarrower_5 rfl (lv_at hl 1 rfl) ?_
  refine lv_imul hx hb dX10_isNarrower_6 ?_
  refine lv_iload_n hx hb dX10_isNarrower_7 rfl (lv_at hl 3 rfl) ?_
  refine lv_iadd hx hb dX10_isNarrower_8 ?_
  obtain ⟨g1, hf⟩ := gd_e hf
  refine x_iald (k := 521) (n := 0) hx hb hK hP (mk_521 h01) rfl g1 dX10_isNarrower_9 ?_
  obtain ⟨y2, e_y2, hf⟩ := nm_i hf
  refine x_nmI e_y2 ?_
  refine lv_istore (lv' := [(4, .int y2), (0, .ref (ad 500 0)), (1, .int x1), (2, .int x2), (3, .int x3)]) hx hb dX10_isNarrower_10 hl (by decide) rfl (fun ls hl => ?_)
  refine lv_aload_n hx hb dX10_isNarrower_12 rfl (lv_at hl 1 rfl) ?_
  refine x_get (k := 500) (n := 0) hx hb hts i_X10 hown hK hP (mk_500 h01) rfl rfl 20 (by decide) rfl k_60 (v := .ref (ad 521 0)) rfl dX10_isNarrower_13 ?_
  refine lv_iconst (v := (2 : Int32)) hx hb dX10_isNarrower_16 rfl ?_
  refine lv_iload_n hx hb dX10_isNarrower_17 rfl (lv_at hl 3 rfl) ?_
  refine lv_imul hx hb dX10_isNarrower_18 ?_
  refine lv_iload_n hx hb dX10_isNarrower_19 rfl (lv_at hl 4 rfl) ?_
  refine lv_iadd hx hb dX10_isNarrower_20 ?_
  obtain ⟨g3, hf⟩ := gd_e hf
  refine x_iald (k := 521) (n := 0) hx hb hK hP (mk_521 h01) rfl g3 dX10_isNarrower_21 ?_
  obtain ⟨y4, e_y4, hf⟩ := nm_i hf
  refine x_nmI e_y4 ?_
  refine lv_istore (lv' := [(5, .int y4), (4, .int y2), (0, .ref (ad 500 0)), (1, .int x1), (2, .int x2), (3, .int x3)]) hx hb dX10_isNarrower_22 hl (by decide) rfl (fun ls hl => ?_)
  refine lv_iload hx hb dX10_isNarrower_24 (lv_at hl 1 rfl) ?_
  refine lv_iload hx hb dX10_isNarrower_26 (lv_at hl 0 rfl) ?_
  refine lv_icmp_eq (tgt := 60) hx hb dX10_isNarrower_28 rfl (fun hc => ?_) (fun hc => ?_)
  · have hf := b_p hf hc
    refine lv_aload_n hx hb dX10_isNarrower_60 rfl (lv_at hl 2 rfl) ?_
    refine x_get (k := 500) (n := 0) hx hb hts i_X10 hown hK hP (mk_500 h01) rfl rfl 21 (by decide) rfl k_63 (v := .ref (ad 522 0)) rfl dX10_isNarrower_61 ?_
    refine lv_iconst (v := (2 : Int32)) hx hb dX10_isNarrower_64 rfl ?_
    refine lv_iload_n hx hb dX10_isNarrower_65 rfl (lv_at hl 3 rfl) ?_
    refine lv_imul hx hb dX10_isNarrower_66 ?_
    refine lv_iload_n hx hb dX10_isNarrower_67 rfl (lv_at hl 5 rfl) ?_
    refine lv_iadd hx hb dX10_isNarrower_68 ?_
    obtain ⟨g5, hf⟩ := gd_e hf
    refine x_iald (k := 522) (n := 0) hx hb hK hP (mk_522 h01) rfl g5 dX10_isNarrower_69 ?_
    refine lv_aload_n hx hb dX10_isNarrower_70 rfl (lv_at hl 2 rfl) ?_
    refine x_get (k := 500) (n := 0) hx hb hts i_X10 hown hK hP (mk_500 h01) rfl rfl 21 (by decide) rfl k_63 (v := .ref (ad 522 0)) rfl dX10_isNarrower_71 ?_
    refine lv_iconst (v := (2 : Int32)) hx hb dX10_isNarrower_74 rfl ?_
    refine lv_iload_n hx hb dX10_isNarrower_75 rfl (lv_at hl 4 rfl) ?_
    refine lv_imul hx hb dX10_isNarrower_76 ?_
    refine lv_iload_n hx hb dX10_isNarrower_77 rfl (lv_at hl 5 rfl) ?_
    refine lv_iadd hx hb dX10_isNarrower_78 ?_
    obtain ⟨g6, hf⟩ := gd_e hf
    refine x_iald (k := 522) (n := 0) hx hb hK hP (mk_522 h01) rfl g6 dX10_isNarrower_79 ?_
    refine lv_icmp_lt (tgt := 120) hx hb dX10_isNarrower_80 rfl (fun hc => ?_) (fun hc => ?_)
    · have hf := b_p hf hc
      refine lv_iconst (v := (0 : Int32)) hx hb dX10_isNarrower_120 rfl ?_
      exact x_zret hx hb hr hlocks hK hP hS (by decide) (Option.some.inj hf) rfl dX10_isNarrower_121
    · have hf := b_n hf hc
      refine lv_aload_n hx hb dX10_isNarrower_83 rfl (lv_at hl 2 rfl) ?_
      refine x_get (k := 500) (n := 0) hx hb hts i_X10 hown hK hP (mk_500 h01) rfl rfl 22 (by decide) rfl k_66 (v := .ref (ad 523 0)) rfl dX10_isNarrower_84 ?_
      refine lv_iconst (v := (2 : Int32)) hx hb dX10_isNarrower_87 rfl ?_
      refine lv_iload_n hx hb dX10_isNarrower_88 rfl (lv_at hl 3 rfl) ?_
      refine lv_imul hx hb dX10_isNarrower_89 ?_
      refine lv_iload_n hx hb dX10_isNarrower_90 rfl (lv_at hl 5 rfl) ?_
      refine lv_iadd hx hb dX10_isNarrower_91 ?_
      obtain ⟨g7, hf⟩ := gd_e hf
      refine x_iald (k := 523) (n := 0) hx hb hK hP (mk_523 h01) rfl g7 dX10_isNarrower_92 ?_
      refine lv_aload_n hx hb dX10_isNarrower_93 rfl (lv_at hl 2 rfl) ?_
      refine x_get (k := 500) (n := 0) hx hb hts i_X10 hown hK hP (mk_500 h01) rfl rfl 22 (by decide) rfl k_66 (v := .ref (ad 523 0)) rfl dX10_isNarrower_94 ?_
      refine lv_iconst (v := (2 : Int32)) hx hb dX10_isNarrower_97 rfl ?_
      refine lv_iload_n hx hb dX10_isNarrower_98 rfl (lv_at hl 4 rfl) ?_
      refine lv_imul hx hb dX10_isNarrower_99 ?_
      refine lv_iload_n hx hb dX10_isNarrower_100 rfl (lv_at hl 5 rfl) ?_
      refine lv_iadd hx hb dX10_isNarrower_101 ?_
      obtain ⟨g8, hf⟩ := gd_e hf
      refine x_iald (k := 523) (n := 0) hx hb hK hP (mk_523 h01) rfl g8 dX10_isNarrower_102 ?_
      refine lv_icmp_gt (tgt := 120) hx hb dX10_isNarrower_103 rfl (fun hc => ?_) (fun hc => ?_)
      · have hf := b_p hf hc
        refine lv_iconst (v := (0 : Int32)) hx hb dX10_isNarrower_120 rfl ?_
        exact x_zret hx hb hr hlocks hK hP hS (by decide) (Option.some.inj hf) rfl dX10_isNarrower_121
      · have hf := b_n hf hc
        refine lv_aload_n hx hb dX10_isNarrower_106 rfl (lv_at hl 2 rfl) ?_
        refine lv_iload_n hx hb dX10_isNarrower_107 rfl (lv_at hl 3 rfl) ?_
        refine lv_iload_n hx hb dX10_isNarrower_108 rfl (lv_at hl 4 rfl) ?_
        refine lv_iload_n hx hb dX10_isNarrower_109 rfl (lv_at hl 5 rfl) ?_
        obtain ⟨r9, hc9, hf⟩ := bd_e hf
        refine x_ci (va_runV (As := [.int x1, .int x2, .int x3]) (rest := []) ⟨hx, hb, hml, hown, hts⟩ (t_X10_areSame l G ad ca A x1 x2 x3 hD  σ r9 hc9) (cwV 3 hts gr_X10_148 rfl rfl rfl h9_X10_areSame ⟨Nat.le_of_ble_eq_true rfl, Nat.le_of_ble_eq_true rfl⟩) (x_prV zkM hz hK hP (mk_500 h01) rfl rfl) rfl rfl hl.1 rfl (lv_room (Nat.le_of_ble_eq_true rfl)) dX10_isNarrower_110 ⟨Nat.le_of_ble_eq_true rfl, Nat.le_of_ble_eq_true rfl⟩) hS (fun H locs hP hS => ?_)
        refine lv_if_ne (tgt := 120) hx hb dX10_isNarrower_113 rfl (fun hc => ?_) (fun hc => ?_)
        · have hf := b_n hf hc
          refine lv_iconst (v := (0 : Int32)) hx hb dX10_isNarrower_120 rfl ?_
          exact x_zret hx hb hr hlocks hK hP hS (by decide) (Option.some.inj hf) rfl dX10_isNarrower_121
        · have hf := b_p hf hc
          refine lv_iconst (v := (1 : Int32)) hx hb dX10_isNarrower_116 rfl ?_
          refine lv_goto (tgt := 121) hx hb dX10_isNarrower_117 rfl ?_
          exact x_zret hx hb hr hlocks hK hP hS (by decide) (Option.some.inj hf) rfl dX10_isNarrower_121
  · have hf := b_n hf hc
    refine lv_iload hx hb dX10_isNarrower_31 (lv_at hl 1 rfl) ?_
    refine lv_iconst (v := (-1 : Int32)) hx hb dX10_isNarrower_33 rfl ?_
    refine lv_icmp_eq (tgt := 58) hx hb dX10_isNarrower_34 rfl (fun hc => ?_) (fun hc => ?_)
    · have hf := b_p hf hc
      refine lv_iconst (v := (0 : Int32)) hx hb dX10_isNarrower_58 rfl ?_
      exact x_zret hx hb hr hlocks hK hP hS (by decide) (Option.some.inj hf) rfl dX10_isNarrower_59
    · have hf := b_n hf hc
      refine lv_iload hx hb dX10_isNarrower_37 (lv_at hl 0 rfl) ?_
      refine lv_iconst (v := (-1 : Int32)) hx hb dX10_isNarrower_39 rfl ?_
      refine lv_icmp_eq (tgt := 54) hx hb dX10_isNarrower_40 rfl (fun hc => ?_) (fun hc => ?_)
      · have hf := b_p hf hc
        refine lv_iconst (v := (1 : Int32)) hx hb dX10_isNarrower_54 rfl ?_
        refine lv_goto (tgt := 59) hx hb dX10_isNarrower_55 rfl ?_
        exact x_zret hx hb hr hlocks hK hP hS (by decide) (Option.some.inj hf) rfl dX10_isNarrower_59
      · have hf := b_n hf hc
        refine lv_aload_n hx hb dX10_isNarrower_43 rfl (lv_at hl 2 rfl) ?_
        refine lv_iload hx hb dX10_isNarrower_44 (lv_at hl 1 rfl) ?_
        refine lv_iload hx hb dX10_isNarrower_46 (lv_at hl 0 rfl) ?_
        obtain ⟨r10, hc10, hf⟩ := bd_e hf
        refine x_ci (va_runV (As := [.int y2, .int y4]) (rest := []) ⟨hx, hb, hml, hown, hts⟩ (t_X10_isBelow l G ad ca A y2 y4 hD  σ r10 hc10) (cwV 2 hts gr_X10_121 rfl rfl rfl h9_X10_isBelow ⟨Nat.le_of_ble_eq_true rfl, Nat.le_of_ble_eq_true rfl⟩) (x_prV zkM hz hK hP (mk_500 h01) rfl rfl) rfl rfl hl.1 rfl (lv_room (Nat.le_of_ble_eq_true rfl)) dX10_isNarrower_48 ⟨Nat.le_of_ble_eq_true rfl, Nat.le_of_ble_eq_true rfl⟩) hS (fun H locs hP hS => ?_)
        refine lv_if_eq (tgt := 58) hx hb dX10_isNarrower_51 rfl (fun hc => ?_) (fun hc => ?_)
        · have hf := b_p hf hc
          refine lv_iconst (v := (0 : Int32)) hx hb dX10_isNarrower_58 rfl ?_
          exact x_zret hx hb hr hlocks hK hP hS (by decide) (Option.some.inj hf) rfl dX10_isNarrower_59
        · have hf := b_n hf hc
          refine lv_iconst (v := (1 : Int32)) hx hb dX10_isNarrower_54 rfl ?_
          refine lv_goto (tgt := 59) hx hb dX10_isNarrower_55 rfl ?_
          exact x_zret hx hb hr hlocks hK hP hS (by decide) (Option.some.inj hf) rfl dX10_isNarrower_59
theorem h9_X10_isMore : yX10_isMore.cls = RX10 ∧ yX10_isMore.cls ≠ "java/lang/invoke/MethodHandle" ∧ yX10_isMore.cls ≠ "java/lang/invoke/VarHandle" ∧ (parseMethodDescriptor yX10_isMore.desc).map (fun d => d.parameters.length) = some 2 := by decide +kernel
set_option maxRecDepth 100000 in
set_option maxHeartbeats 4000000 in
theorem t_X10_isMore (l : Launch) (G : va_G) (ad : Nat → Nat → Nat) (ca : Nat → ClassId) (A : Nat → Prop)   (x1 : Int32) (x2 : Int32) (hD : DW ad LM A)  (σ : PS) (res : Int32) (hf : X10_isMore  x1 x2 σ = some res) : Met l yX10_isMore wsX10_isMore ({ frames := 2, cells := 0, slots := 0, locals := 48 }) (ctP G ad ca LM σ ZM [.ref (ad 500 0), .int x1, .int x2]) (va_Qi (fun r' u => r' = res ∧ u = σ) (ctB G ad ca LM) A) 0 0 A := by
  refine Met.ofW (cc := cX10_isMore) (maxL := 7) (ret := (some .boolean)) (by decide) rfl ?_
  intro p e s m args below meth c s₁ B hml hv
  obtain ⟨rfl, hP, hK, hz⟩ := hv
  have hx := B.exec
  have hb := B.bytes
  have hr := B.returns
  have hts : ∀ w ∈ WW, w.before _ s = true := fun w h => atoms_spec (ws := wsX10_isMore) B.pre w (List.mem_cons_of_mem _ h)
  have hown : s.vm.findClass RX10 = some m.cls := findClass_of_methodNamed B.named
  have hlocks := B.notSynchronized
  have hS : va_S A s.heap s.heap [] := va_S.rf
  have k_29 := hts _ kf_X10_29
  have k_45 := hts _ kf_X10_45
  have hl := lv_entry ([.ref (ad 500 0), .int x1, .int x2]) (n := 7) (Nat.le_of_ble_eq_true rfl)
  rw [lg_entry_eq]
  generalize (lg_sl ([.ref (ad 500 0), .int x1, .int x2]) ++ List.replicate (7 - (lg_sl ([.ref (ad 500 0), .int x1, .int x2])).length) Slot.unset).toArray = ls at hl ⊢
  have hl : lv_has ls 7 [(0, .ref (ad 500 0)), (1, .int x1), (2, .int x2)] := hl
  unfold X10_isMore at hf
  have l27 : ∀ (kx27 : Int32 → Int32 → Option (Int32)), (∀ (v3 : Int32) (v4 : Int32) (H : Heap) (locs : List Loc) (ls : Array Slot), kx27 v3 v4 = some res → lv_has ls 7 [(3, .int v3), (4, .int v4)] → va_P G vwCl (wld ad ca σ LM) H → va_S A s.heap H locs → W p l e (headSpec wsX10_isMore ({ frames := 2, cells := 0, slots := 0, locals := 48 })).room s m (([.ref (ad 500 0), .int x1, .int x2] : List Value).toArray) below meth c H locs 0 0 (MQ below (va_Qi (fun r' u => r' = res ∧ u = σ) (ctB G ad ca LM) A) (([.ref (ad 500 0), .int x1, .int x2] : List Value).toArray) s 0 0 A) (F0 m 102 ls [])) → ∀ (n27 : Nat) (v1 : Int32) (v2 : Int32) (v3 : Int32) (v4 : Int32) (v5 : Int32) (H : Heap) (locs : List Loc) (ls : Array Slot), X10_isMore_l27 σ kx27 n27 v1 v2 v3 v4 v5 = some res → lv_has ls 7 [(0, .ref (ad 500 0)), (1, .int v1), (2, .int v2), (3, .int v3), (4, .int v4), (5, .int v5)] → va_P G vwCl (wld ad ca σ LM) H → va_S A s.heap H locs → W p l e (headSpec wsX10_isMore ({ frames := 2, cells := 0, slots := 0, locals := 48 })).room s m (([.ref (ad 500 0), .int x1, .int x2] : List Value).toArray) below meth c H locs 0 0 (MQ below (va_Qi (fun r' u => r' = res ∧ u = σ) (ctB G ad ca LM) A) (([.ref (ad 500 0), .int x1, .int x2] : List Value).toArray) s 0 0 A) (F0 m 27 ls []) := by
    intro kx27 hx27 n27
    induction n27 with
    | zero =>
      intro v1 v2 v3 v4 v5 H locs ls hf
      exact absurd hf (by simp [X10_isMore_l27])
    | succ n27 ih27 =>
      intro v1 v2 v3 v4 v5 H locs ls hf hl hP hS
      rw [X10_isMore_l27.eq_2] at hf
      have c68 : ∀ (v1 : Int32) (v2 : Int32) (v3 : Int32) (v5 : Int32) (v6 : Int32) (w0 : Int32) (H : Heap) (locs : List Loc) (ls : Array Slot), X10_isMore_c68 σ (X10_isMore_l27 σ kx27 n27) kx27 v1 v2 v3 v5 v6 w0 = some res → lv_has ls 7 [(0, .ref (ad 500 0)), (1, .int v1), (2, .int v2), (3, .int v3), (5, .int v5), (6, .int v6)] → va_P G vwCl (wld ad ca σ LM) H → va_S A s.heap H locs → W p l e (headSpec wsX10_isMore ({ frames := 2, cells := 0, slots := 0, locals := 48 })).room s m (([.ref (ad 500 0), .int x1, .int x2] : List Value).toArray) below meth c H locs 0 0 (MQ below (va_Qi (fun r' u => r' = res ∧ u = σ) (ctB G ad ca LM) A) (([.ref (ad 500 0), .int x1, .int x2] : List Value).toArray) s 0 0 A) (F0 m 68 ls [.int w0]) := by
        intro v1 v2 v3 v5 v6 w0 H locs ls hf hl hP hS
        unfold X10_isMore_c68 at hf
        refine lv_istore (lv' := [(4, .int w0), (0, .ref (ad 500 0)), (1, .int v1), (2, .int v2), (3, .int v3), (5, .int v5), (6, .int v6)]) hx hb dX10_isMore_68 hl (by decide) rfl (fun ls hl => ?_)
        refine lv_iload_n hx hb dX10_isMore_70 rfl (lv_at hl 4 rfl) ?_
        refine lv_if_eq (tgt := 94) hx hb dX10_isMore_71 rfl (fun hc => ?_) (fun hc => ?_)
        · have hf := b_p hf hc
          refine lv_iconst (v := (0 : Int32)) hx hb dX10_isMore_94 rfl ?_
          refine lv_istore_n (lv' := [(3, .int (0 : Int32)), (4, .int w0), (0, .ref (ad 500 0)), (1, .int v1), (2, .int v2), (5, .int v5), (6, .int v6)]) hx hb dX10_isMore_95 rfl hl (by decide) rfl (fun ls hl => ?_)
          refine lv_iinc (v := (v5 + (1 : Int32))) (lv' := [(5, .int (v5 + (1 : Int32))), (3, .int (0 : Int32)), (4, .int w0), (0, .ref (ad 500 0)), (1, .int v1), (2, .int v2), (6, .int v6)]) hx hb dX10_isMore_96 hl (k := 5) rfl rfl (by decide) rfl (fun ls hl => ?_)
          refine lv_goto (tgt := 27) hx hb dX10_isMore_99 rfl ?_
          exact ih27 v1 v2 (0 : Int32) w0 (v5 + (1 : Int32)) _ _ _  hf (lv_sub hl [3, 4, 5, 1, 2, 0] rfl) hP hS
        · have hf := b_n hf hc
          refine lv_iload hx hb dX10_isMore_74 (lv_at hl 6 rfl) ?_
          refine lv_if_ne (tgt := 90) hx hb dX10_isMore_76 rfl (fun hc => ?_) (fun hc => ?_)
          · have hf := b_n hf hc
            refine lv_iconst (v := (1 : Int32)) hx hb dX10_isMore_90 rfl ?_
            refine lv_goto (tgt := 95) hx hb dX10_isMore_91 rfl ?_
            refine lv_istore_n (lv' := [(3, .int (1 : Int32)), (4, .int w0), (0, .ref (ad 500 0)), (1, .int v1), (2, .int v2), (5, .int v5), (6, .int v6)]) hx hb dX10_isMore_95 rfl hl (by decide) rfl (fun ls hl => ?_)
            refine lv_iinc (v := (v5 + (1 : Int32))) (lv' := [(5, .int (v5 + (1 : Int32))), (3, .int (1 : Int32)), (4, .int w0), (0, .ref (ad 500 0)), (1, .int v1), (2, .int v2), (6, .int v6)]) hx hb dX10_isMore_96 hl (k := 5) rfl rfl (by decide) rfl (fun ls hl => ?_)
            refine lv_goto (tgt := 27) hx hb dX10_isMore_99 rfl ?_
            exact ih27 v1 v2 (1 : Int32) w0 (v5 + (1 : Int32)) _ _ _  hf (lv_sub hl [3, 4, 5, 1, 2, 0] rfl) hP hS
          · have hf := b_p hf hc
            refine lv_aload_n hx hb dX10_isMore_79 rfl (lv_at hl 1 rfl) ?_
            refine lv_iload_n hx hb dX10_isMore_80 rfl (lv_at hl 2 rfl) ?_
            refine lv_iload_n hx hb dX10_isMore_81 rfl (lv_at hl 3 rfl) ?_
            refine lv_iload hx hb dX10_isMore_82 (lv_at hl 5 rfl) ?_
            obtain ⟨r6, hc6, hf⟩ := bd_e hf
            refine x_ci (va_runV (As := [.int v1, .int v2, .int v5]) (rest := []) ⟨hx, hb, hml, hown, hts⟩ (t_X10_areSame l G ad ca A v1 v2 v5 hD  σ r6 hc6) (cwV 3 hts gr_X10_148 rfl rfl rfl h9_X10_areSame ⟨Nat.le_of_ble_eq_true rfl, Nat.le_of_ble_eq_true rfl⟩) (x_prV zkM hz hK hP (mk_500 h01) rfl rfl) rfl rfl hl.1 rfl (lv_room (Nat.le_of_ble_eq_true rfl)) dX10_isMore_84 ⟨Nat.le_of_ble_eq_true rfl, Nat.le_of_ble_eq_true rfl⟩) hS (fun H locs hP hS => ?_)
            refine lv_if_eq (tgt := 94) hx hb dX10_isMore_87 rfl (fun hc => ?_) (fun hc => ?_)
            · have hf := b_p hf hc
              refine lv_iconst (v := (0 : Int32)) hx hb dX10_isMore_94 rfl ?_
              refine lv_istore_n (lv' := [(3, .int (0 : Int32)), (4, .int w0), (0, .ref (ad 500 0)), (1, .int v1), (2, .int v2), (5, .int v5), (6, .int v6)]) hx hb dX10_isMore_95 rfl hl (by decide) rfl (fun ls hl => ?_)
              refine lv_iinc (v := (v5 + (1 : Int32))) (lv' := [(5, .int (v5 + (1 : Int32))), (3, .int (0 : Int32)), (4, .int w0), (0, .ref (ad 500 0)), (1, .int v1), (2, .int v2), (6, .int v6)]) hx hb dX10_isMore_96 hl (k := 5) rfl rfl (by decide) rfl (fun ls hl => ?_)
              refine lv_goto (tgt := 27) hx hb dX10_isMore_99 rfl ?_
              exact ih27 v1 v2 (0 : Int32) w0 (v5 + (1 : Int32)) _ _ _  hf (lv_sub hl [3, 4, 5, 1, 2, 0] rfl) hP hS
            · have hf := b_n hf hc
              refine lv_iconst (v := (1 : Int32)) hx hb dX10_isMore_90 rfl ?_
              refine lv_goto (tgt := 95) hx hb dX10_isMore_91 rfl ?_
              refine lv_istore_n (lv' := [(3, .int (1 : Int32)), (4, .int w0), (0, .ref (ad 500 0)), (1, .int v1), (2, .int v2), (5, .int v5), (6, .int v6)]) hx hb dX10_isMore_95 rfl hl (by decide) rfl (fun ls hl => ?_)
              refine lv_iinc (v := (v5 + (1 : Int32))) (lv' := [(5, .int (v5 + (1 : Int32))), (3, .int (1 : Int32)), (4, .int w0), (0, .ref (ad 500 0)), (1, .int v1), (2, .int v2), (6, .int v6)]) hx hb dX10_isMore_96 hl (k := 5) rfl rfl (by decide) rfl (fun ls hl => ?_)
              refine lv_goto (tgt := 27) hx hb dX10_isMore_99 rfl ?_
              exact ih27 v1 v2 (1 : Int32) w0 (v5 + (1 : Int32)) _ _ _  hf (lv_sub hl [3, 4, 5, 1, 2, 0] rfl) hP hS
      have c63 : ∀ (v1 : Int32) (v2 : Int32) (v3 : Int32) (v5 : Int32) (v6 : Int32) (H : Heap) (locs : List Loc) (ls : Array Slot), X10_isMore_c63 σ (X10_isMore_l27 σ kx27 n27) kx27 v1 v2 v3 v5 v6 = some res → lv_has ls 7 [(0, .ref (ad 500 0)), (1, .int v1), (2, .int v2), (3, .int v3), (5, .int v5), (6, .int v6)] → va_P G vwCl (wld ad ca σ LM) H → va_S A s.heap H locs → W p l e (headSpec wsX10_isMore ({ frames := 2, cells := 0, slots := 0, locals := 48 })).room s m (([.ref (ad 500 0), .int x1, .int x2] : List Value).toArray) below meth c H locs 0 0 (MQ below (va_Qi (fun r' u => r' = res ∧ u = σ) (ctB G ad ca LM) A) (([.ref (ad 500 0), .int x1, .int x2] : List Value).toArray) s 0 0 A) (F0 m 63 ls []) := by
        intro v1 v2 v3 v5 v6 H locs ls hf hl hP hS
        unfold X10_isMore_c63 at hf
        refine lv_iconst (v := (1 : Int32)) hx hb dX10_isMore_63 rfl ?_
        refine lv_goto (tgt := 68) hx hb dX10_isMore_64 rfl ?_
        exact c68 v1 v2 v3 v5 v6 (1 : Int32) _ _ _  hf (lv_sub hl [0, 1, 2, 3, 4, 5] rfl) hP hS
      refine lv_iload hx hb dX10_isMore_27 (lv_at hl 5 rfl) ?_
      refine lv_aload_n hx hb dX10_isMore_29 rfl (lv_at hl 0 rfl) ?_
      refine x_get (k := 500) (n := 0) hx hb hts i_X10 hown hK hP (mk_500 h01) rfl rfl 9 (by decide) rfl k_29 (v := .ref (ad 510 0)) rfl dX10_isMore_30 ?_
      refine lv_aload_n hx hb dX10_isMore_33 rfl (lv_at hl 0 rfl) ?_
      refine x_get (k := 500) (n := 0) hx hb hts i_X10 hown hK hP (mk_500 h01) rfl rfl 15 (by decide) rfl k_45 (v := .ref (ad 516 0)) rfl dX10_isMore_34 ?_
      refine lv_iload_n hx hb dX10_isMore_37 rfl (lv_at hl 1 rfl) ?_
      obtain ⟨g3, hf⟩ := gd_e hf
      refine x_iald (k := 516) (n := 0) hx hb hK hP (mk_516 h01) rfl g3 dX10_isMore_38 ?_
      obtain ⟨g4, hf⟩ := gd_e hf
      refine x_iald (k := 510) (n := 0) hx hb hK hP (mk_510 h01) rfl g4 dX10_isMore_39 ?_
      refine lv_icmp_ge (tgt := 102) hx hb dX10_isMore_40 rfl (fun hc => ?_) (fun hc => ?_)
      · have hf := b_p hf hc
        exact hx27 v3 v4 _ _ _  hf (lv_sub hl [3, 4] rfl) hP hS
      · have hf := b_n hf hc
        refine lv_aload_n hx hb dX10_isMore_43 rfl (lv_at hl 0 rfl) ?_
        refine lv_iload_n hx hb dX10_isMore_44 rfl (lv_at hl 1 rfl) ?_
        refine lv_iload_n hx hb dX10_isMore_45 rfl (lv_at hl 2 rfl) ?_
        refine lv_iload hx hb dX10_isMore_46 (lv_at hl 5 rfl) ?_
        obtain ⟨r5, hc5, hf⟩ := bd_e hf
        refine x_ci (va_runV (As := [.int v1, .int v2, .int v5]) (rest := []) ⟨hx, hb, hml, hown, hts⟩ (t_X10_isNarrower l G ad ca A v1 v2 v5 hD  σ r5 hc5) (cwV 3 hts gr_X10_152 rfl rfl rfl h9_X10_isNarrower ⟨Nat.le_of_ble_eq_true rfl, Nat.le_of_ble_eq_true rfl⟩) (x_prV zkM hz hK hP (mk_500 h01) rfl rfl) rfl rfl hl.1 rfl (lv_room (Nat.le_of_ble_eq_true rfl)) dX10_isMore_48 ⟨Nat.le_of_ble_eq_true rfl, Nat.le_of_ble_eq_true rfl⟩) hS (fun H locs hP hS => ?_)
        refine lv_istore (lv' := [(6, .int r5), (0, .ref (ad 500 0)), (1, .int v1), (2, .int v2), (3, .int v3), (4, .int v4), (5, .int v5)]) hx hb dX10_isMore_51 hl (by decide) rfl (fun ls hl => ?_)
        refine lv_iload hx hb dX10_isMore_53 (lv_at hl 5 rfl) ?_
        refine lv_if_ne (tgt := 63) hx hb dX10_isMore_55 rfl (fun hc => ?_) (fun hc => ?_)
        · have hf := b_n hf hc
          exact c63 v1 v2 v3 v5 r5 _ _ _  hf (lv_sub hl [1, 2, 3, 4, 6, 0] rfl) hP hS
        · have hf := b_p hf hc
          refine lv_iload hx hb dX10_isMore_58 (lv_at hl 0 rfl) ?_
          refine lv_if_eq (tgt := 67) hx hb dX10_isMore_60 rfl (fun hc => ?_) (fun hc => ?_)
          · have hf := b_p hf hc
            refine lv_iconst (v := (0 : Int32)) hx hb dX10_isMore_67 rfl ?_
            exact c68 v1 v2 v3 v5 r5 (0 : Int32) _ _ _  hf (lv_sub hl [1, 2, 3, 4, 6, 0] rfl) hP hS
          · have hf := b_n hf hc
            exact c63 v1 v2 v3 v5 r5 _ _ _  hf (lv_sub hl [1, 2, 3, 4, 6, 0] rfl) hP hS
  have c102 : ∀ (v3 : Int32) (v4 : Int32) (H : Heap) (locs : List Loc) (ls : Array Slot), X10_isMore_c102 σ v3 v4 = some res → lv_has ls 7 [(3, .int v3), (4, .int v4)] → va_P G vwCl (wld ad ca σ LM) H → va_S A s.heap H locs → W p l e (headSpec wsX10_isMore ({ frames := 2, cells := 0, slots := 0, locals := 48 })).room s m (([.ref (ad 500 0), .int x1, .int x2] : List Value).toArray) below meth c H locs 0 0 (MQ below (va_Qi (fun r' u => r' = res ∧ u = σ) (ctB G ad ca LM) A) (([.ref (ad 500 0), .int x1, .int x2] : List Value).toArray) s 0 0 A) (F0 m 102 ls []) := by
    intro v3 v4 H locs ls hf hl hP hS
    unfold X10_isMore_c102 at hf
    refine lv_iload_n hx hb dX10_isMore_102 rfl (lv_at hl 0 rfl) ?_
    refine lv_if_eq (tgt := 115) hx hb dX10_isMore_103 rfl (fun hc => ?_) (fun hc => ?_)
    · have hf := b_p hf hc
      refine lv_iconst (v := (0 : Int32)) hx hb dX10_isMore_115 rfl ?_
      exact x_zret hx hb hr hlocks hK hP hS (by decide) (Option.some.inj hf) rfl dX10_isMore_116
    · have hf := b_n hf hc
      refine lv_iload hx hb dX10_isMore_106 (lv_at hl 1 rfl) ?_
      refine lv_if_eq (tgt := 115) hx hb dX10_isMore_108 rfl (fun hc => ?_) (fun hc => ?_)
      · have hf := b_p hf hc
        refine lv_iconst (v := (0 : Int32)) hx hb dX10_isMore_115 rfl ?_
        exact x_zret hx hb hr hlocks hK hP hS (by decide) (Option.some.inj hf) rfl dX10_isMore_116
      · have hf := b_n hf hc
        refine lv_iconst (v := (1 : Int32)) hx hb dX10_isMore_111 rfl ?_
        refine lv_goto (tgt := 116) hx hb dX10_isMore_112 rfl ?_
        exact x_zret hx hb hr hlocks hK hP hS (by decide) (Option.some.inj hf) rfl dX10_isMore_116
  have c20 : ∀ (v1 : Int32) (v2 : Int32) (w0 : Int32) (H : Heap) (locs : List Loc) (ls : Array Slot), X10_isMore_c20 σ v1 v2 w0 = some res → lv_has ls 7 [(0, .ref (ad 500 0)), (1, .int v1), (2, .int v2)] → va_P G vwCl (wld ad ca σ LM) H → va_S A s.heap H locs → W p l e (headSpec wsX10_isMore ({ frames := 2, cells := 0, slots := 0, locals := 48 })).room s m (([.ref (ad 500 0), .int x1, .int x2] : List Value).toArray) below meth c H locs 0 0 (MQ below (va_Qi (fun r' u => r' = res ∧ u = σ) (ctB G ad ca LM) A) (([.ref (ad 500 0), .int x1, .int x2] : List Value).toArray) s 0 0 A) (F0 m 20 ls [.int w0]) := by
    intro v1 v2 w0 H locs ls hf hl hP hS
    unfold X10_isMore_c20 at hf
    refine lv_istore_n (lv' := [(3, .int w0), (0, .ref (ad 500 0)), (1, .int v1), (2, .int v2)]) hx hb dX10_isMore_20 rfl hl (by decide) rfl (fun ls hl => ?_)
    refine lv_iconst (v := (0 : Int32)) hx hb dX10_isMore_21 rfl ?_
    refine lv_istore (lv' := [(4, .int (0 : Int32)), (3, .int w0), (0, .ref (ad 500 0)), (1, .int v1), (2, .int v2)]) hx hb dX10_isMore_22 hl (by decide) rfl (fun ls hl => ?_)
    refine lv_iconst (v := (0 : Int32)) hx hb dX10_isMore_24 rfl ?_
    refine lv_istore (lv' := [(5, .int (0 : Int32)), (4, .int (0 : Int32)), (3, .int w0), (0, .ref (ad 500 0)), (1, .int v1), (2, .int v2)]) hx hb dX10_isMore_25 hl (by decide) rfl (fun ls hl => ?_)
    exact l27 _ c102 _ v1 v2 w0 (0 : Int32) (0 : Int32) _ _ _  hf (lv_sub hl [3, 4, 5, 2, 1, 0] rfl) hP hS
  refine lv_aload_n hx hb dX10_isMore_0 rfl (lv_at hl 0 rfl) ?_
  refine x_get (k := 500) (n := 0) hx hb hts i_X10 hown hK hP (mk_500 h01) rfl rfl 15 (by decide) rfl k_45 (v := .ref (ad 516 0)) rfl dX10_isMore_1 ?_
  refine lv_iload_n hx hb dX10_isMore_4 rfl (lv_at hl 1 rfl) ?_
  obtain ⟨g1, hf⟩ := gd_e hf
  refine x_iald (k := 516) (n := 0) hx hb hK hP (mk_516 h01) rfl g1 dX10_isMore_5 ?_
  refine lv_aload_n hx hb dX10_isMore_6 rfl (lv_at hl 0 rfl) ?_
  refine x_get (k := 500) (n := 0) hx hb hts i_X10 hown hK hP (mk_500 h01) rfl rfl 15 (by decide) rfl k_45 (v := .ref (ad 516 0)) rfl dX10_isMore_7 ?_
  refine lv_iload_n hx hb dX10_isMore_10 rfl (lv_at hl 2 rfl) ?_
  obtain ⟨g2, hf⟩ := gd_e hf
  refine x_iald (k := 516) (n := 0) hx hb hK hP (mk_516 h01) rfl g2 dX10_isMore_11 ?_
  refine lv_icmp_ne (tgt := 19) hx hb dX10_isMore_12 rfl (fun hc => ?_) (fun hc => ?_)
  · have hf := b_n hf hc
    refine lv_iconst (v := (0 : Int32)) hx hb dX10_isMore_19 rfl ?_
    exact c20 x1 x2 (0 : Int32) _ _ _  hf (lv_sub hl [0, 1, 2] rfl) hP hS
  · have hf := b_p hf hc
    refine lv_iconst (v := (1 : Int32)) hx hb dX10_isMore_15 rfl ?_
    refine lv_goto (tgt := 20) hx hb dX10_isMore_16 rfl ?_
    exact c20 x1 x2 (1 : Int32) _ _ _  hf (lv_sub hl [0, 1, 2] rfl) hP hS
theorem h9_X10_lay : yX10_lay.cls = RX10 ∧ yX10_lay.cls ≠ "java/lang/invoke/MethodHandle" ∧ yX10_lay.cls ≠ "java/lang/invoke/VarHandle" ∧ (parseMethodDescriptor yX10_lay.desc).map (fun d => d.parameters.length) = some 1 := by decide +kernel
set_option maxRecDepth 100000 in
set_option maxHeartbeats 4000000 in
theorem t_X10_lay (l : Launch) (G : va_G) (ad : Nat → Nat → Nat) (ca : Nat → ClassId) (A : Nat → Prop)   (x1 : Int32) (hD : DW ad LM A)  (σ : PS) (res : Int32) (σz : PS) (hf : X10_lay  x1 σ = some (res, σz)) : Met l yX10_lay wsX10_lay ({ frames := 2, cells := 0, slots := 0, locals := 45 }) (ctP G ad ca LM σ ZM [.ref (ad 500 0), .int x1]) (va_Qi (fun r' u => r' = res ∧ u = σz) (ctB G ad ca LM) A) 0 0 A := by
  refine Met.ofW (cc := cX10_lay) (maxL := 6) (ret := (some .int)) (by decide) rfl ?_
  intro p e s m args below meth c s₁ B hml hv
  obtain ⟨rfl, hP, hK, hz⟩ := hv
  have hx := B.exec
  have hb := B.bytes
  have hr := B.returns
  have hts : ∀ w ∈ WW, w.before _ s = true := fun w h => atoms_spec (ws := wsX10_lay) B.pre w (List.mem_cons_of_mem _ h)
  have hown : s.vm.findClass RX10 = some m.cls := findClass_of_methodNamed B.named
  have hlocks := B.notSynchronized
  have hS : va_S A s.heap s.heap [] := va_S.rf
  have k_29 := hts _ kf_X10_29
  have k_32 := hts _ kf_X10_32
  have k_42 := hts _ kf_X10_42
  have k_45 := hts _ kf_X10_45
  have k_54 := hts _ kf_X10_54
  have k_57 := hts _ kf_X10_57
  have k_131 := hts _ kf_X10_131
  have hl := lv_entry ([.ref (ad 500 0), .int x1]) (n := 6) (Nat.le_of_ble_eq_true rfl)
  rw [lg_entry_eq]
  generalize (lg_sl ([.ref (ad 500 0), .int x1]) ++ List.replicate (6 - (lg_sl ([.ref (ad 500 0), .int x1])).length) Slot.unset).toArray = ls at hl ⊢
  have hl : lv_has ls 6 [(0, .ref (ad 500 0)), (1, .int x1)] := hl
  unfold X10_lay at hf
  have l41 : ∀ (kx41 : Int32 → Int32 → PS → Option (Int32 × PS)), (∀ (v1 : Int32) (v2 : Int32) (σ : PS) (H : Heap) (locs : List Loc) (ls : Array Slot), kx41 v1 v2 σ = some (res, σz) → lv_has ls 6 [(0, .ref (ad 500 0)), (1, .int v1), (2, .int v2)] → va_P G vwCl (wld ad ca σ LM) H → va_S A s.heap H locs → W p l e (headSpec wsX10_lay ({ frames := 2, cells := 0, slots := 0, locals := 45 })).room s m (([.ref (ad 500 0), .int x1] : List Value).toArray) below meth c H locs 0 0 (MQ below (va_Qi (fun r' u => r' = res ∧ u = σz) (ctB G ad ca LM) A) (([.ref (ad 500 0), .int x1] : List Value).toArray) s 0 0 A) (F0 m 137 ls [])) → ∀ (n41 : Nat) (v1 : Int32) (v2 : Int32) (v3 : Int32) (σ : PS) (H : Heap) (locs : List Loc) (ls : Array Slot), X10_lay_l41  kx41 n41 v1 v2 v3 σ = some (res, σz) → lv_has ls 6 [(0, .ref (ad 500 0)), (1, .int v1), (2, .int v2), (3, .int v3)] → va_P G vwCl (wld ad ca σ LM) H → va_S A s.heap H locs → W p l e (headSpec wsX10_lay ({ frames := 2, cells := 0, slots := 0, locals := 45 })).room s m (([.ref (ad 500 0), .int x1] : List Value).toArray) below meth c H locs 0 0 (MQ below (va_Qi (fun r' u => r' = res ∧ u = σz) (ctB G ad ca LM) A) (([.ref (ad 500 0), .int x1] : List Value).toArray) s 0 0 A) (F0 m 41 ls []) := by
    intro kx41 hx41 n41
    induction n41 with
    | zero =>
      intro v1 v2 v3 σ H locs ls hf
      exact absurd hf (by simp [X10_lay_l41])
    | succ n41 ih41 =>
      intro v1 v2 v3 σ H locs ls hf hl hP hS
      rw [X10_lay_l41.eq_2] at hf
      have l83 : ∀ (kx83 : Int32 → Int32 → Int32 → Int32 → PS → Option (Int32 × PS)), (∀ (v1 : Int32) (v2 : Int32) (v3 : Int32) (v4 : Int32) (σ : PS) (H : Heap) (locs : List Loc) (ls : Array Slot), kx83 v1 v2 v3 v4 σ = some (res, σz) → lv_has ls 6 [(0, .ref (ad 500 0)), (1, .int v1), (2, .int v2), (3, .int v3), (4, .int v4)] → va_P G vwCl (wld ad ca σ LM) H → va_S A s.heap H locs → W p l e (headSpec wsX10_lay ({ frames := 2, cells := 0, slots := 0, locals := 45 })).room s m (([.ref (ad 500 0), .int x1] : List Value).toArray) below meth c H locs 0 0 (MQ below (va_Qi (fun r' u => r' = res ∧ u = σz) (ctB G ad ca LM) A) (([.ref (ad 500 0), .int x1] : List Value).toArray) s 0 0 A) (F0 m 123 ls [])) → ∀ (n83 : Nat) (v1 : Int32) (v2 : Int32) (v3 : Int32) (v4 : Int32) (v5 : Int32) (σ : PS) (H : Heap) (locs : List Loc) (ls : Array Slot), X10_lay_l83  kx83 n83 v1 v2 v3 v4 v5 σ = some (res, σz) → lv_has ls 6 [(0, .ref (ad 500 0)), (1, .int v1), (2, .int v2), (3, .int v3), (4, .int v4), (5, .int v5)] → va_P G vwCl (wld ad ca σ LM) H → va_S A s.heap H locs → W p l e (headSpec wsX10_lay ({ frames := 2, cells := 0, slots := 0, locals := 45 })).room s m (([.ref (ad 500 0), .int x1] : List Value).toArray) below meth c H locs 0 0 (MQ below (va_Qi (fun r' u => r' = res ∧ u = σz) (ctB G ad ca LM) A) (([.ref (ad 500 0), .int x1] : List Value).toArray) s 0 0 A) (F0 m 83 ls []) := by
        intro kx83 hx83 n83
        induction n83 with
        | zero =>
          intro v1 v2 v3 v4 v5 σ H locs ls hf
          exact absurd hf (by simp [X10_lay_l83])
        | succ n83 ih83 =>
          intro v1 v2 v3 v4 v5 σ H locs ls hf hl hP hS
          rw [X10_lay_l83.eq_2] at hf
          refine lv_iload hx hb dX10_lay_83 (lv_at hl 5 rfl) ?_
          refine lv_aload_n hx hb dX10_lay_85 rfl (lv_at hl 0 rfl) ?_
          refine x_get (k := 500) (n := 0) hx hb hts i_X10 hown hK hP (mk_500 h01) rfl rfl 9 (by decide) rfl k_29 (v := .ref (ad 510 0)) rfl dX10_lay_86 ?_
          refine lv_iload_n hx hb dX10_lay_89 rfl (lv_at hl 2 rfl) ?_
          obtain ⟨g7, hf⟩ := gd_e hf
          refine x_iald (k := 510) (n := 0) hx hb hK hP (mk_510 h01) rfl g7 dX10_lay_90 ?_
          refine lv_icmp_ge (tgt := 123) hx hb dX10_lay_91 rfl (fun hc => ?_) (fun hc => ?_)
          · have hf := b_p hf hc
            exact hx83 v1 v2 v3 v4 σ _ _ _  hf (lv_sub hl [0, 1, 2, 3, 4] rfl) hP hS
          · have hf := b_n hf hc
            refine lv_iload hx hb dX10_lay_94 (lv_at hl 4 rfl) ?_
            refine lv_if_eq (tgt := 114) hx hb dX10_lay_96 rfl (fun hc => ?_) (fun hc => ?_)
            · have hf := b_p hf hc
              refine lv_iconst (v := (0 : Int32)) hx hb dX10_lay_114 rfl ?_
              refine lv_istore (lv' := [(4, .int (0 : Int32)), (0, .ref (ad 500 0)), (1, .int v1), (2, .int v2), (3, .int v3), (5, .int v5)]) hx hb dX10_lay_115 hl (by decide) rfl (fun ls hl => ?_)
              refine lv_iinc (v := (v5 + (1 : Int32))) (lv' := [(5, .int (v5 + (1 : Int32))), (4, .int (0 : Int32)), (0, .ref (ad 500 0)), (1, .int v1), (2, .int v2), (3, .int v3)]) hx hb dX10_lay_117 hl (k := 5) rfl rfl (by decide) rfl (fun ls hl => ?_)
              refine lv_goto (tgt := 83) hx hb dX10_lay_120 rfl ?_
              exact ih83 v1 v2 v3 (0 : Int32) (v5 + (1 : Int32)) σ _ _ _  hf (lv_sub hl [2, 3, 4, 5, 1, 0] rfl) hP hS
            · have hf := b_n hf hc
              refine lv_aload_n hx hb dX10_lay_99 rfl (lv_at hl 0 rfl) ?_
              refine lv_iload_n hx hb dX10_lay_100 rfl (lv_at hl 1 rfl) ?_
              refine lv_iload_n hx hb dX10_lay_101 rfl (lv_at hl 3 rfl) ?_
              refine lv_iload hx hb dX10_lay_102 (lv_at hl 5 rfl) ?_
              obtain ⟨r8, hc8, hf⟩ := bd_e hf
              refine x_ci (va_runV (As := [.int v1, .int v3, .int v5]) (rest := []) ⟨hx, hb, hml, hown, hts⟩ (t_X10_areSame l G ad ca A v1 v3 v5 hD  σ r8 hc8) (cwV 3 hts gr_X10_148 rfl rfl rfl h9_X10_areSame ⟨Nat.le_of_ble_eq_true rfl, Nat.le_of_ble_eq_true rfl⟩) (x_prV zkM hz hK hP (mk_500 h01) rfl rfl) rfl rfl hl.1 rfl (lv_room (Nat.le_of_ble_eq_true rfl)) dX10_lay_104 ⟨Nat.le_of_ble_eq_true rfl, Nat.le_of_ble_eq_true rfl⟩) hS (fun H locs hP hS => ?_)
              refine lv_if_eq (tgt := 114) hx hb dX10_lay_107 rfl (fun hc => ?_) (fun hc => ?_)
              · have hf := b_p hf hc
                refine lv_iconst (v := (0 : Int32)) hx hb dX10_lay_114 rfl ?_
                refine lv_istore (lv' := [(4, .int (0 : Int32)), (0, .ref (ad 500 0)), (1, .int v1), (2, .int v2), (3, .int v3), (5, .int v5)]) hx hb dX10_lay_115 hl (by decide) rfl (fun ls hl => ?_)
                refine lv_iinc (v := (v5 + (1 : Int32))) (lv' := [(5, .int (v5 + (1 : Int32))), (4, .int (0 : Int32)), (0, .ref (ad 500 0)), (1, .int v1), (2, .int v2), (3, .int v3)]) hx hb dX10_lay_117 hl (k := 5) rfl rfl (by decide) rfl (fun ls hl => ?_)
                refine lv_goto (tgt := 83) hx hb dX10_lay_120 rfl ?_
                exact ih83 v1 v2 v3 (0 : Int32) (v5 + (1 : Int32)) σ _ _ _  hf (lv_sub hl [2, 3, 4, 5, 1, 0] rfl) hP hS
              · have hf := b_n hf hc
                refine lv_iconst (v := (1 : Int32)) hx hb dX10_lay_110 rfl ?_
                refine lv_goto (tgt := 115) hx hb dX10_lay_111 rfl ?_
                refine lv_istore (lv' := [(4, .int (1 : Int32)), (0, .ref (ad 500 0)), (1, .int v1), (2, .int v2), (3, .int v3), (5, .int v5)]) hx hb dX10_lay_115 hl (by decide) rfl (fun ls hl => ?_)
                refine lv_iinc (v := (v5 + (1 : Int32))) (lv' := [(5, .int (v5 + (1 : Int32))), (4, .int (1 : Int32)), (0, .ref (ad 500 0)), (1, .int v1), (2, .int v2), (3, .int v3)]) hx hb dX10_lay_117 hl (k := 5) rfl rfl (by decide) rfl (fun ls hl => ?_)
                refine lv_goto (tgt := 83) hx hb dX10_lay_120 rfl ?_
                exact ih83 v1 v2 v3 (1 : Int32) (v5 + (1 : Int32)) σ _ _ _  hf (lv_sub hl [2, 3, 4, 5, 1, 0] rfl) hP hS
      have c123 : ∀ (v1 : Int32) (v2 : Int32) (v3 : Int32) (v4 : Int32) (σ : PS) (H : Heap) (locs : List Loc) (ls : Array Slot), X10_lay_c123  (X10_lay_l41  kx41 n41) kx41 v1 v2 v3 v4 σ = some (res, σz) → lv_has ls 6 [(0, .ref (ad 500 0)), (1, .int v1), (2, .int v2), (3, .int v3), (4, .int v4)] → va_P G vwCl (wld ad ca σ LM) H → va_S A s.heap H locs → W p l e (headSpec wsX10_lay ({ frames := 2, cells := 0, slots := 0, locals := 45 })).room s m (([.ref (ad 500 0), .int x1] : List Value).toArray) below meth c H locs 0 0 (MQ below (va_Qi (fun r' u => r' = res ∧ u = σz) (ctB G ad ca LM) A) (([.ref (ad 500 0), .int x1] : List Value).toArray) s 0 0 A) (F0 m 123 ls []) := by
        intro v1 v2 v3 v4 σ H locs ls hf hl hP hS
        unfold X10_lay_c123 at hf
        refine lv_iload hx hb dX10_lay_123 (lv_at hl 4 rfl) ?_
        refine lv_if_eq (tgt := 131) hx hb dX10_lay_125 rfl (fun hc => ?_) (fun hc => ?_)
        · have hf := b_p hf hc
          refine lv_iinc (v := (v3 + (1 : Int32))) (lv' := [(3, .int (v3 + (1 : Int32))), (0, .ref (ad 500 0)), (1, .int v1), (2, .int v2), (4, .int v4)]) hx hb dX10_lay_131 hl (k := 3) rfl rfl (by decide) rfl (fun ls hl => ?_)
          refine lv_goto (tgt := 41) hx hb dX10_lay_134 rfl ?_
          exact ih41 v1 v2 (v3 + (1 : Int32)) σ _ _ _  hf (lv_sub hl [1, 2, 3, 0] rfl) hP hS
        · have hf := b_n hf hc
          refine lv_bipush (v := (-5 : Int32)) hx hb dX10_lay_128 rfl ?_
          have hf := Option.some.inj hf
          exact x_iret hx hb hr hlocks hK hP hS (congrArg Prod.fst hf) (congrArg Prod.snd hf) dX10_lay_130
      have c78 : ∀ (v1 : Int32) (v2 : Int32) (v3 : Int32) (w0 : Int32) (σ : PS) (H : Heap) (locs : List Loc) (ls : Array Slot), X10_lay_c78  (X10_lay_l41  kx41 n41) kx41 v1 v2 v3 w0 σ = some (res, σz) → lv_has ls 6 [(0, .ref (ad 500 0)), (1, .int v1), (2, .int v2), (3, .int v3)] → va_P G vwCl (wld ad ca σ LM) H → va_S A s.heap H locs → W p l e (headSpec wsX10_lay ({ frames := 2, cells := 0, slots := 0, locals := 45 })).room s m (([.ref (ad 500 0), .int x1] : List Value).toArray) below meth c H locs 0 0 (MQ below (va_Qi (fun r' u => r' = res ∧ u = σz) (ctB G ad ca LM) A) (([.ref (ad 500 0), .int x1] : List Value).toArray) s 0 0 A) (F0 m 78 ls [.int w0]) := by
        intro v1 v2 v3 w0 σ H locs ls hf hl hP hS
        unfold X10_lay_c78 at hf
        refine lv_istore (lv' := [(4, .int w0), (0, .ref (ad 500 0)), (1, .int v1), (2, .int v2), (3, .int v3)]) hx hb dX10_lay_78 hl (by decide) rfl (fun ls hl => ?_)
        refine lv_iconst (v := (0 : Int32)) hx hb dX10_lay_80 rfl ?_
        refine lv_istore (lv' := [(5, .int (0 : Int32)), (4, .int w0), (0, .ref (ad 500 0)), (1, .int v1), (2, .int v2), (3, .int v3)]) hx hb dX10_lay_81 hl (by decide) rfl (fun ls hl => ?_)
        exact l83 _ c123 _ v1 v2 v3 w0 (0 : Int32) σ _ _ _  hf (lv_sub hl [2, 3, 4, 5, 1, 0] rfl) hP hS
      have c77 : ∀ (v1 : Int32) (v2 : Int32) (v3 : Int32) (σ : PS) (H : Heap) (locs : List Loc) (ls : Array Slot), X10_lay_c77  (X10_lay_l41  kx41 n41) kx41 v1 v2 v3 σ = some (res, σz) → lv_has ls 6 [(0, .ref (ad 500 0)), (1, .int v1), (2, .int v2), (3, .int v3)] → va_P G vwCl (wld ad ca σ LM) H → va_S A s.heap H locs → W p l e (headSpec wsX10_lay ({ frames := 2, cells := 0, slots := 0, locals := 45 })).room s m (([.ref (ad 500 0), .int x1] : List Value).toArray) below meth c H locs 0 0 (MQ below (va_Qi (fun r' u => r' = res ∧ u = σz) (ctB G ad ca LM) A) (([.ref (ad 500 0), .int x1] : List Value).toArray) s 0 0 A) (F0 m 77 ls []) := by
        intro v1 v2 v3 σ H locs ls hf hl hP hS
        unfold X10_lay_c77 at hf
        refine lv_iconst (v := (0 : Int32)) hx hb dX10_lay_77 rfl ?_
        exact c78 v1 v2 v3 (0 : Int32) σ _ _ _  hf (lv_sub hl [0, 1, 2, 3] rfl) hP hS
      refine lv_iload_n hx hb dX10_lay_41 rfl (lv_at hl 3 rfl) ?_
      refine lv_aload_n hx hb dX10_lay_42 rfl (lv_at hl 0 rfl) ?_
      refine x_get (k := 500) (n := 0) hx hb hts i_X10 hown hK hP (mk_500 h01) rfl rfl 14 (by decide) rfl k_131 (v := .int (gI σ 500 0 14)) rfl dX10_lay_43 ?_
      refine lv_icmp_ge (tgt := 137) hx hb dX10_lay_46 rfl (fun hc => ?_) (fun hc => ?_)
      · have hf := b_p hf hc
        exact hx41 v1 v2 σ _ _ _  hf (lv_sub hl [0, 1, 2] rfl) hP hS
      · have hf := b_n hf hc
        refine lv_aload_n hx hb dX10_lay_49 rfl (lv_at hl 0 rfl) ?_
        refine lv_iload_n hx hb dX10_lay_50 rfl (lv_at hl 3 rfl) ?_
        refine lv_iload_n hx hb dX10_lay_51 rfl (lv_at hl 2 rfl) ?_
        obtain ⟨r6, hc6, hf⟩ := bd_e hf
        refine x_ci (va_runV (As := [.int v3, .int v2]) (rest := []) ⟨hx, hb, hml, hown, hts⟩ (t_X10_isLaid l G ad ca A v3 v2 hD  σ r6 hc6) (cwV 2 hts gr_X10_145 rfl rfl rfl h9_X10_isLaid ⟨Nat.le_of_ble_eq_true rfl, Nat.le_of_ble_eq_true rfl⟩) (x_prV zkM hz hK hP (mk_500 h01) rfl rfl) rfl rfl hl.1 rfl (lv_room (Nat.le_of_ble_eq_true rfl)) dX10_lay_52 ⟨Nat.le_of_ble_eq_true rfl, Nat.le_of_ble_eq_true rfl⟩) hS (fun H locs hP hS => ?_)
        refine lv_if_eq (tgt := 77) hx hb dX10_lay_55 rfl (fun hc => ?_) (fun hc => ?_)
        · have hf := b_p hf hc
          exact c77 v1 v2 v3 σ _ _ _  hf (lv_sub hl [0, 1, 2, 3] rfl) hP hS
        · have hf := b_n hf hc
          refine lv_aload_n hx hb dX10_lay_58 rfl (lv_at hl 0 rfl) ?_
          refine x_get (k := 500) (n := 0) hx hb hts i_X10 hown hK hP (mk_500 h01) rfl rfl 18 (by decide) rfl k_54 (v := .ref (ad 519 0)) rfl dX10_lay_59 ?_
          refine lv_iload_n hx hb dX10_lay_62 rfl (lv_at hl 3 rfl) ?_
          obtain ⟨g9, hf⟩ := gd_e hf
          refine x_zald (k := 519) (n := 0) hx hb hK hP (mk_519 h01) rfl g9 dX10_lay_63 ?_
          refine lv_aload_n hx hb dX10_lay_64 rfl (lv_at hl 0 rfl) ?_
          refine x_get (k := 500) (n := 0) hx hb hts i_X10 hown hK hP (mk_500 h01) rfl rfl 18 (by decide) rfl k_54 (v := .ref (ad 519 0)) rfl dX10_lay_65 ?_
          refine lv_iload_n hx hb dX10_lay_68 rfl (lv_at hl 1 rfl) ?_
          obtain ⟨g10, hf⟩ := gd_e hf
          refine x_zald (k := 519) (n := 0) hx hb hK hP (mk_519 h01) rfl g10 dX10_lay_69 ?_
          refine lv_icmp_ne (tgt := 77) hx hb dX10_lay_70 rfl (fun hc => ?_) (fun hc => ?_)
          · have hf := b_n hf hc
            exact c77 v1 v2 v3 σ _ _ _  hf (lv_sub hl [0, 1, 2, 3] rfl) hP hS
          · have hf := b_p hf hc
            refine lv_iconst (v := (1 : Int32)) hx hb dX10_lay_73 rfl ?_
            refine lv_goto (tgt := 78) hx hb dX10_lay_74 rfl ?_
            exact c78 v1 v2 v3 (1 : Int32) σ _ _ _  hf (lv_sub hl [0, 1, 2, 3] rfl) hP hS
  have c137 : ∀ (v1 : Int32) (v2 : Int32) (σ : PS) (H : Heap) (locs : List Loc) (ls : Array Slot), X10_lay_c137  v1 v2 σ = some (res, σz) → lv_has ls 6 [(0, .ref (ad 500 0)), (1, .int v1), (2, .int v2)] → va_P G vwCl (wld ad ca σ LM) H → va_S A s.heap H locs → W p l e (headSpec wsX10_lay ({ frames := 2, cells := 0, slots := 0, locals := 45 })).room s m (([.ref (ad 500 0), .int x1] : List Value).toArray) below meth c H locs 0 0 (MQ below (va_Qi (fun r' u => r' = res ∧ u = σz) (ctB G ad ca LM) A) (([.ref (ad 500 0), .int x1] : List Value).toArray) s 0 0 A) (F0 m 137 ls []) := by
    intro v1 v2 σ H locs ls hf hl hP hS
    unfold X10_lay_c137 at hf
    refine lv_aload_n hx hb dX10_lay_137 rfl (lv_at hl 0 rfl) ?_
    refine lv_iload_n hx hb dX10_lay_138 rfl (lv_at hl 2 rfl) ?_
    obtain ⟨r11, hc11, hf⟩ := bd_e hf
    refine x_ci (va_runV (As := [.int v2]) (rest := []) ⟨hx, hb, hml, hown, hts⟩ (t_X10_laid l G ad ca A v2 hD  σ r11 hc11) (cwV 1 hts gr_X10_155 rfl rfl rfl h9_X10_laid ⟨Nat.le_of_ble_eq_true rfl, Nat.le_of_ble_eq_true rfl⟩) (x_prV zkM hz hK hP (mk_500 h01) rfl rfl) rfl rfl hl.1 rfl (lv_room (Nat.le_of_ble_eq_true rfl)) dX10_lay_139 ⟨Nat.le_of_ble_eq_true rfl, Nat.le_of_ble_eq_true rfl⟩) hS (fun H locs hP hS => ?_)
    refine lv_bipush (v := (8 : Int32)) hx hb dX10_lay_142 rfl ?_
    refine lv_icmp_ne (tgt := 150) hx hb dX10_lay_144 rfl (fun hc => ?_) (fun hc => ?_)
    · have hf := b_n hf hc
      refine lv_aload_n hx hb dX10_lay_150 rfl (lv_at hl 0 rfl) ?_
      refine x_get (k := 500) (n := 0) hx hb hts i_X10 hown hK hP (mk_500 h01) rfl rfl 19 (by decide) rfl k_57 (v := .ref (ad 520 0)) rfl dX10_lay_151 ?_
      refine lv_iload_n hx hb dX10_lay_154 rfl (lv_at hl 1 rfl) ?_
      refine lv_iconst (v := (1 : Int32)) hx hb dX10_lay_155 rfl ?_
      obtain ⟨g12, hf⟩ := gd_e hf
      refine x_iast (k := 520) (n := 0) hx hb hK hD hP hS (mk_520 h01) rfl g12 dX10_lay_156 (fun H locs hP hS => ?_)
      obtain ⟨σ13, e_σ13, hf⟩ := nm_i hf
      have hP : va_P G vwCl (wld ad ca σ13 LM) H := by rw [e_σ13]; exact hP
      refine lv_aload_n hx hb dX10_lay_157 rfl (lv_at hl 0 rfl) ?_
      refine x_get (k := 500) (n := 0) hx hb hts i_X10 hown hK hP (mk_500 h01) rfl rfl 13 (by decide) rfl k_42 (v := .ref (ad 514 0)) rfl dX10_lay_158 ?_
      refine lv_iload_n hx hb dX10_lay_161 rfl (lv_at hl 2 rfl) ?_
      refine lv_iconst (v := (0 : Int32)) hx hb dX10_lay_162 rfl ?_
      obtain ⟨g14, hf⟩ := gd_e hf
      refine x_iast (k := 514) (n := 0) hx hb hK hD hP hS (mk_514 h01) rfl g14 dX10_lay_163 (fun H locs hP hS => ?_)
      obtain ⟨σ15, e_σ15, hf⟩ := nm_i hf
      have hP : va_P G vwCl (wld ad ca σ15 LM) H := by rw [e_σ15]; exact hP
      refine lv_iconst (v := (1 : Int32)) hx hb dX10_lay_164 rfl ?_
      have hf := Option.some.inj hf
      exact x_iret hx hb hr hlocks hK hP hS (congrArg Prod.fst hf) (congrArg Prod.snd hf) dX10_lay_165
    · have hf := b_p hf hc
      refine lv_bipush (v := (-4 : Int32)) hx hb dX10_lay_147 rfl ?_
      have hf := Option.some.inj hf
      exact x_iret hx hb hr hlocks hK hP hS (congrArg Prod.fst hf) (congrArg Prod.snd hf) dX10_lay_149
  refine lv_aload_n hx hb dX10_lay_0 rfl (lv_at hl 0 rfl) ?_
  refine lv_iload_n hx hb dX10_lay_1 rfl (lv_at hl 1 rfl) ?_
  obtain ⟨r1, hc1, hf⟩ := bd_e hf
  refine x_ci (va_runV (As := [.int x1]) (rest := []) ⟨hx, hb, hml, hown, hts⟩ (t_X10_isHandler l G ad ca A x1 hD  σ r1 hc1) (cwV 1 hts gr_X10_139 rfl rfl rfl h9_X10_isHandler ⟨Nat.le_of_ble_eq_true rfl, Nat.le_of_ble_eq_true rfl⟩) (x_prV zkM hz hK hP (mk_500 h01) rfl rfl) rfl rfl hl.1 rfl (lv_room (Nat.le_of_ble_eq_true rfl)) dX10_lay_2 ⟨Nat.le_of_ble_eq_true rfl, Nat.le_of_ble_eq_true rfl⟩) hS (fun H locs hP hS => ?_)
  refine lv_if_ne (tgt := 11) hx hb dX10_lay_5 rfl (fun hc => ?_) (fun hc => ?_)
  · have hf := b_n hf hc
    refine lv_aload_n hx hb dX10_lay_11 rfl (lv_at hl 0 rfl) ?_
    refine x_get (k := 500) (n := 0) hx hb hts i_X10 hown hK hP (mk_500 h01) rfl rfl 15 (by decide) rfl k_45 (v := .ref (ad 516 0)) rfl dX10_lay_12 ?_
    refine lv_iload_n hx hb dX10_lay_15 rfl (lv_at hl 1 rfl) ?_
    obtain ⟨g2, hf⟩ := gd_e hf
    refine x_iald (k := 516) (n := 0) hx hb hK hP (mk_516 h01) rfl g2 dX10_lay_16 ?_
    obtain ⟨y3, e_y3, hf⟩ := nm_i hf
    refine x_nmI e_y3 ?_
    refine lv_istore_n (lv' := [(2, .int y3), (0, .ref (ad 500 0)), (1, .int x1)]) hx hb dX10_lay_17 rfl hl (by decide) rfl (fun ls hl => ?_)
    refine lv_aload_n hx hb dX10_lay_18 rfl (lv_at hl 1 rfl) ?_
    refine x_get (k := 500) (n := 0) hx hb hts i_X10 hown hK hP (mk_500 h01) rfl rfl 19 (by decide) rfl k_57 (v := .ref (ad 520 0)) rfl dX10_lay_19 ?_
    refine lv_iload_n hx hb dX10_lay_22 rfl (lv_at hl 2 rfl) ?_
    obtain ⟨g4, hf⟩ := gd_e hf
    refine x_iald (k := 520) (n := 0) hx hb hK hP (mk_520 h01) rfl g4 dX10_lay_23 ?_
    refine lv_if_ne (tgt := 36) hx hb dX10_lay_24 rfl (fun hc => ?_) (fun hc => ?_)
    · have hf := b_n hf hc
      refine lv_bipush (v := (-3 : Int32)) hx hb dX10_lay_36 rfl ?_
      have hf := Option.some.inj hf
      exact x_iret hx hb hr hlocks hK hP hS (congrArg Prod.fst hf) (congrArg Prod.snd hf) dX10_lay_38
    · have hf := b_p hf hc
      refine lv_aload_n hx hb dX10_lay_27 rfl (lv_at hl 1 rfl) ?_
      refine x_get (k := 500) (n := 0) hx hb hts i_X10 hown hK hP (mk_500 h01) rfl rfl 10 (by decide) rfl k_32 (v := .ref (ad 511 0)) rfl dX10_lay_28 ?_
      refine lv_iload_n hx hb dX10_lay_31 rfl (lv_at hl 0 rfl) ?_
      obtain ⟨g5, hf⟩ := gd_e hf
      refine x_zald (k := 511) (n := 0) hx hb hK hP (mk_511 h01) rfl g5 dX10_lay_32 ?_
      refine lv_if_eq (tgt := 39) hx hb dX10_lay_33 rfl (fun hc => ?_) (fun hc => ?_)
      · have hf := b_p hf hc
        refine lv_iconst (v := (0 : Int32)) hx hb dX10_lay_39 rfl ?_
        refine lv_istore_n (lv' := [(3, .int (0 : Int32)), (2, .int y3), (0, .ref (ad 500 0)), (1, .int x1)]) hx hb dX10_lay_40 rfl hl (by decide) rfl (fun ls hl => ?_)
        exact l41 _ c137 _ x1 y3 (0 : Int32) σ _ _ _  hf (lv_sub hl [2, 3, 1, 0] rfl) hP hS
      · have hf := b_n hf hc
        refine lv_bipush (v := (-3 : Int32)) hx hb dX10_lay_36 rfl ?_
        have hf := Option.some.inj hf
        exact x_iret hx hb hr hlocks hK hP hS (congrArg Prod.fst hf) (congrArg Prod.snd hf) dX10_lay_38
  · have hf := b_p hf hc
    refine lv_bipush (v := (-2 : Int32)) hx hb dX10_lay_8 rfl ?_
    have hf := Option.some.inj hf
    exact x_iret hx hb hr hlocks hK hP hS (congrArg Prod.fst hf) (congrArg Prod.snd hf) dX10_lay_10
theorem h9_X10_lift : yX10_lift.cls = RX10 ∧ yX10_lift.cls ≠ "java/lang/invoke/MethodHandle" ∧ yX10_lift.cls ≠ "java/lang/invoke/VarHandle" ∧ (parseMethodDescriptor yX10_lift.desc).map (fun d => d.parameters.length) = some 1 := by decide +kernel
set_option maxRecDepth 100000 in
set_option maxHeartbeats 4000000 in
theorem t_X10_lift (l : Launch) (G : va_G) (ad : Nat → Nat → Nat) (ca : Nat → ClassId) (A : Nat → Prop)   (x1 : Int32) (hD : DW ad LM A)  (σ : PS) (res : Int32) (σz : PS) (hf : X10_lift  x1 σ = some (res, σz)) : Met l yX10_lift wsX10_lift ({ frames := 1, cells := 0, slots := 0, locals := 21 }) (ctP G ad ca LM σ ZM [.ref (ad 500 0), .int x1]) (va_Qi (fun r' u => r' = res ∧ u = σz) (ctB G ad ca LM) A) 0 0 A := by
  refine Met.ofW (cc := cX10_lift) (maxL := 2) (ret := (some .int)) (by decide) rfl ?_
  intro p e s m args below meth c s₁ B hml hv
  obtain ⟨rfl, hP, hK, hz⟩ := hv
  have hx := B.exec
  have hb := B.bytes
  have hr := B.returns
  have hts : ∀ w ∈ WW, w.before _ s = true := fun w h => atoms_spec (ws := wsX10_lift) B.pre w (List.mem_cons_of_mem _ h)
  have hown : s.vm.findClass RX10 = some m.cls := findClass_of_methodNamed B.named
  have hlocks := B.notSynchronized
  have hS : va_S A s.heap s.heap [] := va_S.rf
  have k_32 := hts _ kf_X10_32
  have k_42 := hts _ kf_X10_42
  have k_45 := hts _ kf_X10_45
  have k_57 := hts _ kf_X10_57
  have hl := lv_entry ([.ref (ad 500 0), .int x1]) (n := 2) (Nat.le_of_ble_eq_true rfl)
  rw [lg_entry_eq]
  generalize (lg_sl ([.ref (ad 500 0), .int x1]) ++ List.replicate (2 - (lg_sl ([.ref (ad 500 0), .int x1])).length) Slot.unset).toArray = ls at hl ⊢
  have hl : lv_has ls 2 [(0, .ref (ad 500 0)), (1, .int x1)] := hl
  unfold X10_lift at hf
  refine lv_aload_n hx hb dX10_lift_0 rfl (lv_at hl 0 rfl) ?_
  refine lv_iload_n hx hb dX10_lift_1 rfl (lv_at hl 1 rfl) ?_
  obtain ⟨r1, hc1, hf⟩ := bd_e hf
  refine x_ci (va_runV (As := [.int x1]) (rest := []) ⟨hx, hb, hml, hown, hts⟩ (t_X10_isHandler l G ad ca A x1 hD  σ r1 hc1) (cwV 1 hts gr_X10_139 rfl rfl rfl h9_X10_isHandler ⟨Nat.le_of_ble_eq_true rfl, Nat.le_of_ble_eq_true rfl⟩) (x_prV zkM hz hK hP (mk_500 h01) rfl rfl) rfl rfl hl.1 rfl (lv_room (Nat.le_of_ble_eq_true rfl)) dX10_lift_2 ⟨Nat.le_of_ble_eq_true rfl, Nat.le_of_ble_eq_true rfl⟩) hS (fun H locs hP hS => ?_)
  refine lv_if_ne (tgt := 11) hx hb dX10_lift_5 rfl (fun hc => ?_) (fun hc => ?_)
  · have hf := b_n hf hc
    refine lv_aload_n hx hb dX10_lift_11 rfl (lv_at hl 0 rfl) ?_
    refine x_get (k := 500) (n := 0) hx hb hts i_X10 hown hK hP (mk_500 h01) rfl rfl 19 (by decide) rfl k_57 (v := .ref (ad 520 0)) rfl dX10_lift_12 ?_
    refine lv_iload_n hx hb dX10_lift_15 rfl (lv_at hl 1 rfl) ?_
    obtain ⟨g2, hf⟩ := gd_e hf
    refine x_iald (k := 520) (n := 0) hx hb hK hP (mk_520 h01) rfl g2 dX10_lift_16 ?_
    refine lv_iconst (v := (1 : Int32)) hx hb dX10_lift_17 rfl ?_
    refine lv_icmp_ne (tgt := 35) hx hb dX10_lift_18 rfl (fun hc => ?_) (fun hc => ?_)
    · have hf := b_n hf hc
      refine lv_bipush (v := (-3 : Int32)) hx hb dX10_lift_35 rfl ?_
      have hf := Option.some.inj hf
      exact x_iret hx hb hr hlocks hK hP hS (congrArg Prod.fst hf) (congrArg Prod.snd hf) dX10_lift_37
    · have hf := b_p hf hc
      refine lv_aload_n hx hb dX10_lift_21 rfl (lv_at hl 0 rfl) ?_
      refine x_get (k := 500) (n := 0) hx hb hts i_X10 hown hK hP (mk_500 h01) rfl rfl 10 (by decide) rfl k_32 (v := .ref (ad 511 0)) rfl dX10_lift_22 ?_
      refine lv_aload_n hx hb dX10_lift_25 rfl (lv_at hl 0 rfl) ?_
      refine x_get (k := 500) (n := 0) hx hb hts i_X10 hown hK hP (mk_500 h01) rfl rfl 15 (by decide) rfl k_45 (v := .ref (ad 516 0)) rfl dX10_lift_26 ?_
      refine lv_iload_n hx hb dX10_lift_29 rfl (lv_at hl 1 rfl) ?_
      obtain ⟨g3, hf⟩ := gd_e hf
      refine x_iald (k := 516) (n := 0) hx hb hK hP (mk_516 h01) rfl g3 dX10_lift_30 ?_
      obtain ⟨g4, hf⟩ := gd_e hf
      refine x_zald (k := 511) (n := 0) hx hb hK hP (mk_511 h01) rfl g4 dX10_lift_31 ?_
      refine lv_if_eq (tgt := 38) hx hb dX10_lift_32 rfl (fun hc => ?_) (fun hc => ?_)
      · have hf := b_p hf hc
        refine lv_aload_n hx hb dX10_lift_38 rfl (lv_at hl 0 rfl) ?_
        refine x_get (k := 500) (n := 0) hx hb hts i_X10 hown hK hP (mk_500 h01) rfl rfl 19 (by decide) rfl k_57 (v := .ref (ad 520 0)) rfl dX10_lift_39 ?_
        refine lv_iload_n hx hb dX10_lift_42 rfl (lv_at hl 1 rfl) ?_
        refine lv_iconst (v := (2 : Int32)) hx hb dX10_lift_43 rfl ?_
        obtain ⟨g5, hf⟩ := gd_e hf
        refine x_iast (k := 520) (n := 0) hx hb hK hD hP hS (mk_520 h01) rfl g5 dX10_lift_44 (fun H locs hP hS => ?_)
        obtain ⟨σ6, e_σ6, hf⟩ := nm_i hf
        have hP : va_P G vwCl (wld ad ca σ6 LM) H := by rw [e_σ6]; exact hP
        refine lv_aload_n hx hb dX10_lift_45 rfl (lv_at hl 0 rfl) ?_
        refine x_get (k := 500) (n := 0) hx hb hts i_X10 hown hK hP (mk_500 h01) rfl rfl 13 (by decide) rfl k_42 (v := .ref (ad 514 0)) rfl dX10_lift_46 ?_
        refine lv_aload_n hx hb dX10_lift_49 rfl (lv_at hl 0 rfl) ?_
        refine x_get (k := 500) (n := 0) hx hb hts i_X10 hown hK hP (mk_500 h01) rfl rfl 15 (by decide) rfl k_45 (v := .ref (ad 516 0)) rfl dX10_lift_50 ?_
        refine lv_iload_n hx hb dX10_lift_53 rfl (lv_at hl 1 rfl) ?_
        obtain ⟨g7, hf⟩ := gd_e hf
        refine x_iald (k := 516) (n := 0) hx hb hK hP (mk_516 h01) rfl g7 dX10_lift_54 ?_
        refine lv_iconst (v := (0 : Int32)) hx hb dX10_lift_55 rfl ?_
        obtain ⟨g8, hf⟩ := gd_e hf
        refine x_iast (k := 514) (n := 0) hx hb hK hD hP hS (mk_514 h01) rfl g8 dX10_lift_56 (fun H locs hP hS => ?_)
        obtain ⟨σ9, e_σ9, hf⟩ := nm_i hf
        have hP : va_P G vwCl (wld ad ca σ9 LM) H := by rw [e_σ9]; exact hP
        refine lv_iconst (v := (1 : Int32)) hx hb dX10_lift_57 rfl ?_
        have hf := Option.some.inj hf
        exact x_iret hx hb hr hlocks hK hP hS (congrArg Prod.fst hf) (congrArg Prod.snd hf) dX10_lift_58
      · have hf := b_n hf hc
        refine lv_bipush (v := (-3 : Int32)) hx hb dX10_lift_35 rfl ?_
        have hf := Option.some.inj hf
        exact x_iret hx hb hr hlocks hK hP hS (congrArg Prod.fst hf) (congrArg Prod.snd hf) dX10_lift_37
  · have hf := b_p hf hc
    refine lv_bipush (v := (-2 : Int32)) hx hb dX10_lift_8 rfl ?_
    have hf := Option.some.inj hf
    exact x_iret hx hb hr hlocks hK hP hS (congrArg Prod.fst hf) (congrArg Prod.snd hf) dX10_lift_10
theorem h9_X10_freeze : yX10_freeze.cls = RX10 ∧ yX10_freeze.cls ≠ "java/lang/invoke/MethodHandle" ∧ yX10_freeze.cls ≠ "java/lang/invoke/VarHandle" ∧ (parseMethodDescriptor yX10_freeze.desc).map (fun d => d.parameters.length) = some 2 := by decide +kernel
set_option maxRecDepth 100000 in
set_option maxHeartbeats 4000000 in
theorem t_X10_freeze (l : Launch) (G : va_G) (ad : Nat → Nat → Nat) (ca : Nat → ClassId) (A : Nat → Prop)   (x1 : Int32) (x2 : Int32) (hD : DW ad LM A)  (σ : PS) (res : Int32) (σz : PS) (hf : X10_freeze  x1 x2 σ = some (res, σz)) : Met l yX10_freeze wsX10_freeze ({ frames := 1, cells := 0, slots := 0, locals := 21 }) (ctP G ad ca LM σ ZM [.ref (ad 500 0), .int x1, .int x2]) (va_Qi (fun r' u => r' = res ∧ u = σz) (ctB G ad ca LM) A) 0 0 A := by
  refine Met.ofW (cc := cX10_freeze) (maxL := 4) (ret := (some .int)) (by decide) rfl ?_
  intro p e s m args below meth c s₁ B hml hv
  obtain ⟨rfl, hP, hK, hz⟩ := hv
  have hx := B.exec
  have hb := B.bytes
  have hr := B.returns
  have hts : ∀ w ∈ WW, w.before _ s = true := fun w h => atoms_spec (ws := wsX10_freeze) B.pre w (List.mem_cons_of_mem _ h)
  have hown : s.vm.findClass RX10 = some m.cls := findClass_of_methodNamed B.named
  have hlocks := B.notSynchronized
  have hS : va_S A s.heap s.heap [] := va_S.rf
  have k_32 := hts _ kf_X10_32
  have hl := lv_entry ([.ref (ad 500 0), .int x1, .int x2]) (n := 4) (Nat.le_of_ble_eq_true rfl)
  rw [lg_entry_eq]
  generalize (lg_sl ([.ref (ad 500 0), .int x1, .int x2]) ++ List.replicate (4 - (lg_sl ([.ref (ad 500 0), .int x1, .int x2])).length) Slot.unset).toArray = ls at hl ⊢
  have hl : lv_has ls 4 [(0, .ref (ad 500 0)), (1, .int x1), (2, .int x2)] := hl
  unfold X10_freeze at hf
  refine lv_aload_n hx hb dX10_freeze_0 rfl (lv_at hl 0 rfl) ?_
  refine lv_iload_n hx hb dX10_freeze_1 rfl (lv_at hl 1 rfl) ?_
  obtain ⟨r1, hc1, hf⟩ := bd_e hf
  refine x_ci (va_runV (As := [.int x1]) (rest := []) ⟨hx, hb, hml, hown, hts⟩ (t_X10_isFunction l G ad ca A x1 hD  σ r1 hc1) (cwV 1 hts gr_X10_134 rfl rfl rfl h9_X10_isFunction ⟨Nat.le_of_ble_eq_true rfl, Nat.le_of_ble_eq_true rfl⟩) (x_prV zkM hz hK hP (mk_500 h01) rfl rfl) rfl rfl hl.1 rfl (lv_room (Nat.le_of_ble_eq_true rfl)) dX10_freeze_2 ⟨Nat.le_of_ble_eq_true rfl, Nat.le_of_ble_eq_true rfl⟩) hS (fun H locs hP hS => ?_)
  refine lv_if_ne (tgt := 11) hx hb dX10_freeze_5 rfl (fun hc => ?_) (fun hc => ?_)
  · have hf := b_n hf hc
    refine lv_aload_n hx hb dX10_freeze_11 rfl (lv_at hl 0 rfl) ?_
    refine x_get (k := 500) (n := 0) hx hb hts i_X10 hown hK hP (mk_500 h01) rfl rfl 10 (by decide) rfl k_32 (v := .ref (ad 511 0)) rfl dX10_freeze_12 ?_
    refine lv_iload_n hx hb dX10_freeze_15 rfl (lv_at hl 1 rfl) ?_
    obtain ⟨g2, hf⟩ := gd_e hf
    refine x_zald (k := 511) (n := 0) hx hb hK hP (mk_511 h01) rfl g2 dX10_freeze_16 ?_
    refine lv_iload_n hx hb dX10_freeze_17 rfl (lv_at hl 2 rfl) ?_
    refine lv_icmp_ne (tgt := 25) hx hb dX10_freeze_18 rfl (fun hc => ?_) (fun hc => ?_)
    · have hf := b_n hf hc
      refine lv_iconst (v := (1 : Int32)) hx hb dX10_freeze_25 rfl ?_
      refine lv_istore_n (lv' := [(3, .int (1 : Int32)), (0, .ref (ad 500 0)), (1, .int x1), (2, .int x2)]) hx hb dX10_freeze_26 rfl hl (by decide) rfl (fun ls hl => ?_)
      refine lv_aload_n hx hb dX10_freeze_27 rfl (lv_at hl 1 rfl) ?_
      refine x_get (k := 500) (n := 0) hx hb hts i_X10 hown hK hP (mk_500 h01) rfl rfl 10 (by decide) rfl k_32 (v := .ref (ad 511 0)) rfl dX10_freeze_28 ?_
      refine lv_iload_n hx hb dX10_freeze_31 rfl (lv_at hl 2 rfl) ?_
      refine lv_iload_n hx hb dX10_freeze_32 rfl (lv_at hl 3 rfl) ?_
      obtain ⟨g3, hf⟩ := gd_e hf
      obtain ⟨g4, hf⟩ := gd_e hf
      refine x_zast (k := 511) (n := 0) hx hb hK hD hP hS (mk_511 h01) rfl g3 g4 dX10_freeze_33 (fun H locs hP hS => ?_)
      obtain ⟨σ5, e_σ5, hf⟩ := nm_i hf
      have hP : va_P G vwCl (wld ad ca σ5 LM) H := by rw [e_σ5]; exact hP
      refine lv_iload_n hx hb dX10_freeze_34 rfl (lv_at hl 0 rfl) ?_
      have hf := Option.some.inj hf
      exact x_iret hx hb hr hlocks hK hP hS (congrArg Prod.fst hf) (congrArg Prod.snd hf) dX10_freeze_35
    · have hf := b_p hf hc
      refine lv_iconst (v := (0 : Int32)) hx hb dX10_freeze_21 rfl ?_
      refine lv_goto (tgt := 26) hx hb dX10_freeze_22 rfl ?_
      refine lv_istore_n (lv' := [(3, .int (0 : Int32)), (0, .ref (ad 500 0)), (1, .int x1), (2, .int x2)]) hx hb dX10_freeze_26 rfl hl (by decide) rfl (fun ls hl => ?_)
      refine lv_aload_n hx hb dX10_freeze_27 rfl (lv_at hl 1 rfl) ?_
      refine x_get (k := 500) (n := 0) hx hb hts i_X10 hown hK hP (mk_500 h01) rfl rfl 10 (by decide) rfl k_32 (v := .ref (ad 511 0)) rfl dX10_freeze_28 ?_
      refine lv_iload_n hx hb dX10_freeze_31 rfl (lv_at hl 2 rfl) ?_
      refine lv_iload_n hx hb dX10_freeze_32 rfl (lv_at hl 3 rfl) ?_
      obtain ⟨g6, hf⟩ := gd_e hf
      obtain ⟨g7, hf⟩ := gd_e hf
      refine x_zast (k := 511) (n := 0) hx hb hK hD hP hS (mk_511 h01) rfl g6 g7 dX10_freeze_33 (fun H locs hP hS => ?_)
      obtain ⟨σ8, e_σ8, hf⟩ := nm_i hf
      have hP : va_P G vwCl (wld ad ca σ8 LM) H := by rw [e_σ8]; exact hP
      refine lv_iload_n hx hb dX10_freeze_34 rfl (lv_at hl 0 rfl) ?_
      have hf := Option.some.inj hf
      exact x_iret hx hb hr hlocks hK hP hS (congrArg Prod.fst hf) (congrArg Prod.snd hf) dX10_freeze_35
  · have hf := b_p hf hc
    refine lv_bipush (v := (-2 : Int32)) hx hb dX10_freeze_8 rfl ?_
    have hf := Option.some.inj hf
    exact x_iret hx hb hr hlocks hK hP hS (congrArg Prod.fst hf) (congrArg Prod.snd hf) dX10_freeze_10
theorem h9_X10_about : yX10_about.cls = RX10 ∧ yX10_about.cls ≠ "java/lang/invoke/MethodHandle" ∧ yX10_about.cls ≠ "java/lang/invoke/VarHandle" ∧ (parseMethodDescriptor yX10_about.desc).map (fun d => d.parameters.length) = some 2 := by decide +kernel
set_option maxRecDepth 100000 in
set_option maxHeartbeats 4000000 in
theorem t_X10_about (l : Launch) (G : va_G) (ad : Nat → Nat → Nat) (ca : Nat → ClassId) (A : Nat → Prop)   (x1 : Int32) (x2 : Int32) (hD : DW ad LM A)  (σ : PS) (res : Int32) (hf : X10_about  x1 x2 σ = some res) : Met l yX10_about wsX10_about ({ frames := 1, cells := 0, slots := 0, locals := 21 }) (ctP G ad ca LM σ ZM [.ref (ad 500 0), .int x1, .int x2]) (va_Qi (fun r' u => r' = res ∧ u = σ) (ctB G ad ca LM) A) 0 0 A := by
  refine Met.ofW (cc := cX10_about) (maxL := 5) (ret := (some .int)) (by decide) rfl ?_
  intro p e s m args below meth c s₁ B hml hv
  obtain ⟨rfl, hP, hK, hz⟩ := hv
  have hx := B.exec
  have hb := B.bytes
  have hr := B.returns
  have hts : ∀ w ∈ WW, w.before _ s = true := fun w h => atoms_spec (ws := wsX10_about) B.pre w (List.mem_cons_of_mem _ h)
  have hown : s.vm.findClass RX10 = some m.cls := findClass_of_methodNamed B.named
  have hlocks := B.notSynchronized
  have hS : va_S A s.heap s.heap [] := va_S.rf
  have k_29 := hts _ kf_X10_29
  have k_45 := hts _ kf_X10_45
  have k_48 := hts _ kf_X10_48
  have k_51 := hts _ kf_X10_51
  have k_54 := hts _ kf_X10_54
  have k_57 := hts _ kf_X10_57
  have k_60 := hts _ kf_X10_60
  have k_63 := hts _ kf_X10_63
  have k_66 := hts _ kf_X10_66
  have hl := lv_entry ([.ref (ad 500 0), .int x1, .int x2]) (n := 5) (Nat.le_of_ble_eq_true rfl)
  rw [lg_entry_eq]
  generalize (lg_sl ([.ref (ad 500 0), .int x1, .int x2]) ++ List.replicate (5 - (lg_sl ([.ref (ad 500 0), .int x1, .int x2])).length) Slot.unset).toArray = ls at hl ⊢
  have hl : lv_has ls 5 [(0, .ref (ad 500 0)), (1, .int x1), (2, .int x2)] := hl
  unfold X10_about at hf
  have c52 : ∀ (v1 : Int32) (v2 : Int32) (v3 : Int32) (w0 : Int32) (H : Heap) (locs : List Loc) (ls : Array Slot), X10_about_c52 σ v1 v2 v3 w0 = some res → lv_has ls 5 [(0, .ref (ad 500 0)), (1, .int v1), (2, .int v2), (3, .int v3)] → va_P G vwCl (wld ad ca σ LM) H → va_S A s.heap H locs → W p l e (headSpec wsX10_about ({ frames := 1, cells := 0, slots := 0, locals := 21 })).room s m (([.ref (ad 500 0), .int x1, .int x2] : List Value).toArray) below meth c H locs 0 0 (MQ below (va_Qi (fun r' u => r' = res ∧ u = σ) (ctB G ad ca LM) A) (([.ref (ad 500 0), .int x1, .int x2] : List Value).toArray) s 0 0 A) (F0 m 52 ls [.int w0]) := by
    intro v1 v2 v3 w0 H locs ls hf hl hP hS
    unfold X10_about_c52 at hf
    refine lv_istore (lv' := [(4, .int w0), (0, .ref (ad 500 0)), (1, .int v1), (2, .int v2), (3, .int v3)]) hx hb dX10_about_52 hl (by decide) rfl (fun ls hl => ?_)
    refine lv_iload_n hx hb dX10_about_54 rfl (lv_at hl 3 rfl) ?_
    by_cases hc0 : v2 = (0 : Int32)
    · have hf := b_p hf hc0
      refine lv_tableIn (off := 49) (tgt := 104) hx hb dX10_about_55 (by rw [hc0]; decide) (by rw [hc0]; decide) (by rw [hc0]; rfl) rfl ?_
      refine lv_aload_n hx hb dX10_about_104 rfl (lv_at hl 1 rfl) ?_
      refine x_get (k := 500) (n := 0) hx hb hts i_X10 hown hK hP (mk_500 h01) rfl rfl 15 (by decide) rfl k_45 (v := .ref (ad 516 0)) rfl dX10_about_105 ?_
      refine lv_iload_n hx hb dX10_about_108 rfl (lv_at hl 2 rfl) ?_
      obtain ⟨g3, hf⟩ := gd_e hf
      refine x_iald (k := 516) (n := 0) hx hb hK hP (mk_516 h01) rfl g3 dX10_about_109 ?_
      exact x_iret hx hb hr hlocks hK hP hS (Option.some.inj hf) rfl dX10_about_110
    have hf := b_n hf hc0
    by_cases hc1 : v2 = (1 : Int32)
    · have hf := b_p hf hc1
      refine lv_tableIn (off := 56) (tgt := 111) hx hb dX10_about_55 (by rw [hc1]; decide) (by rw [hc1]; decide) (by rw [hc1]; rfl) rfl ?_
      refine lv_aload_n hx hb dX10_about_111 rfl (lv_at hl 1 rfl) ?_
      refine x_get (k := 500) (n := 0) hx hb hts i_X10 hown hK hP (mk_500 h01) rfl rfl 16 (by decide) rfl k_48 (v := .ref (ad 517 0)) rfl dX10_about_112 ?_
      refine lv_iload_n hx hb dX10_about_115 rfl (lv_at hl 2 rfl) ?_
      obtain ⟨g4, hf⟩ := gd_e hf
      refine x_iald (k := 517) (n := 0) hx hb hK hP (mk_517 h01) rfl g4 dX10_about_116 ?_
      exact x_iret hx hb hr hlocks hK hP hS (Option.some.inj hf) rfl dX10_about_117
    have hf := b_n hf hc1
    by_cases hc2 : v2 = (2 : Int32)
    · have hf := b_p hf hc2
      refine lv_tableIn (off := 63) (tgt := 118) hx hb dX10_about_55 (by rw [hc2]; decide) (by rw [hc2]; decide) (by rw [hc2]; rfl) rfl ?_
      refine lv_aload_n hx hb dX10_about_118 rfl (lv_at hl 1 rfl) ?_
      refine x_get (k := 500) (n := 0) hx hb hts i_X10 hown hK hP (mk_500 h01) rfl rfl 17 (by decide) rfl k_51 (v := .ref (ad 518 0)) rfl dX10_about_119 ?_
      refine lv_iload_n hx hb dX10_about_122 rfl (lv_at hl 2 rfl) ?_
      obtain ⟨g5, hf⟩ := gd_e hf
      refine x_iald (k := 518) (n := 0) hx hb hK hP (mk_518 h01) rfl g5 dX10_about_123 ?_
      exact x_iret hx hb hr hlocks hK hP hS (Option.some.inj hf) rfl dX10_about_124
    have hf := b_n hf hc2
    by_cases hc3 : v2 = (3 : Int32)
    · have hf := b_p hf hc3
      refine lv_tableIn (off := 70) (tgt := 125) hx hb dX10_about_55 (by rw [hc3]; decide) (by rw [hc3]; decide) (by rw [hc3]; rfl) rfl ?_
      refine lv_aload_n hx hb dX10_about_125 rfl (lv_at hl 1 rfl) ?_
      refine x_get (k := 500) (n := 0) hx hb hts i_X10 hown hK hP (mk_500 h01) rfl rfl 18 (by decide) rfl k_54 (v := .ref (ad 519 0)) rfl dX10_about_126 ?_
      refine lv_iload_n hx hb dX10_about_129 rfl (lv_at hl 2 rfl) ?_
      obtain ⟨g6, hf⟩ := gd_e hf
      refine x_zald (k := 519) (n := 0) hx hb hK hP (mk_519 h01) rfl g6 dX10_about_130 ?_
      refine lv_if_eq (tgt := 138) hx hb dX10_about_131 rfl (fun hc => ?_) (fun hc => ?_)
      · have hf := b_p hf hc
        refine lv_iconst (v := (0 : Int32)) hx hb dX10_about_138 rfl ?_
        exact x_iret hx hb hr hlocks hK hP hS (Option.some.inj hf) rfl dX10_about_139
      · have hf := b_n hf hc
        refine lv_iconst (v := (1 : Int32)) hx hb dX10_about_134 rfl ?_
        refine lv_goto (tgt := 139) hx hb dX10_about_135 rfl ?_
        exact x_iret hx hb hr hlocks hK hP hS (Option.some.inj hf) rfl dX10_about_139
    have hf := b_n hf hc3
    by_cases hc4 : v2 = (4 : Int32)
    · have hf := b_p hf hc4
      refine lv_tableIn (off := 85) (tgt := 140) hx hb dX10_about_55 (by rw [hc4]; decide) (by rw [hc4]; decide) (by rw [hc4]; rfl) rfl ?_
      refine lv_aload_n hx hb dX10_about_140 rfl (lv_at hl 1 rfl) ?_
      refine x_get (k := 500) (n := 0) hx hb hts i_X10 hown hK hP (mk_500 h01) rfl rfl 19 (by decide) rfl k_57 (v := .ref (ad 520 0)) rfl dX10_about_141 ?_
      refine lv_iload_n hx hb dX10_about_144 rfl (lv_at hl 2 rfl) ?_
      obtain ⟨g7, hf⟩ := gd_e hf
      refine x_iald (k := 520) (n := 0) hx hb hK hP (mk_520 h01) rfl g7 dX10_about_145 ?_
      exact x_iret hx hb hr hlocks hK hP hS (Option.some.inj hf) rfl dX10_about_146
    have hf := b_n hf hc4
    by_cases hc5 : v2 = (5 : Int32)
    · have hf := b_p hf hc5
      refine lv_tableIn (off := 92) (tgt := 147) hx hb dX10_about_55 (by rw [hc5]; decide) (by rw [hc5]; decide) (by rw [hc5]; rfl) rfl ?_
      refine lv_iload hx hb dX10_about_147 (lv_at hl 0 rfl) ?_
      refine lv_if_eq (tgt := 165) hx hb dX10_about_149 rfl (fun hc => ?_) (fun hc => ?_)
      · have hf := b_p hf hc
        refine lv_iconst (v := (0 : Int32)) hx hb dX10_about_165 rfl ?_
        exact x_iret hx hb hr hlocks hK hP hS (Option.some.inj hf) rfl dX10_about_166
      · have hf := b_n hf hc
        refine lv_aload_n hx hb dX10_about_152 rfl (lv_at hl 1 rfl) ?_
        refine x_get (k := 500) (n := 0) hx hb hts i_X10 hown hK hP (mk_500 h01) rfl rfl 20 (by decide) rfl k_60 (v := .ref (ad 521 0)) rfl dX10_about_153 ?_
        refine lv_iconst (v := (2 : Int32)) hx hb dX10_about_156 rfl ?_
        refine lv_iload_n hx hb dX10_about_157 rfl (lv_at hl 2 rfl) ?_
        refine lv_imul hx hb dX10_about_158 ?_
        refine lv_iload_n hx hb dX10_about_159 rfl (lv_at hl 4 rfl) ?_
        refine lv_iadd hx hb dX10_about_160 ?_
        obtain ⟨g8, hf⟩ := gd_e hf
        refine x_iald (k := 521) (n := 0) hx hb hK hP (mk_521 h01) rfl g8 dX10_about_161 ?_
        refine lv_goto (tgt := 166) hx hb dX10_about_162 rfl ?_
        exact x_iret hx hb hr hlocks hK hP hS (Option.some.inj hf) rfl dX10_about_166
    have hf := b_n hf hc5
    by_cases hc6 : v2 = (6 : Int32)
    · have hf := b_p hf hc6
      refine lv_tableIn (off := 92) (tgt := 147) hx hb dX10_about_55 (by rw [hc6]; decide) (by rw [hc6]; decide) (by rw [hc6]; rfl) rfl ?_
      refine lv_iload hx hb dX10_about_147 (lv_at hl 0 rfl) ?_
      refine lv_if_eq (tgt := 165) hx hb dX10_about_149 rfl (fun hc => ?_) (fun hc => ?_)
      · have hf := b_p hf hc
        refine lv_iconst (v := (0 : Int32)) hx hb dX10_about_165 rfl ?_
        exact x_iret hx hb hr hlocks hK hP hS (Option.some.inj hf) rfl dX10_about_166
      · have hf := b_n hf hc
        refine lv_aload_n hx hb dX10_about_152 rfl (lv_at hl 1 rfl) ?_
        refine x_get (k := 500) (n := 0) hx hb hts i_X10 hown hK hP (mk_500 h01) rfl rfl 20 (by decide) rfl k_60 (v := .ref (ad 521 0)) rfl dX10_about_153 ?_
        refine lv_iconst (v := (2 : Int32)) hx hb dX10_about_156 rfl ?_
        refine lv_iload_n hx hb dX10_about_157 rfl (lv_at hl 2 rfl) ?_
        refine lv_imul hx hb dX10_about_158 ?_
        refine lv_iload_n hx hb dX10_about_159 rfl (lv_at hl 4 rfl) ?_
        refine lv_iadd hx hb dX10_about_160 ?_
        obtain ⟨g9, hf⟩ := gd_e hf
        refine x_iald (k := 521) (n := 0) hx hb hK hP (mk_521 h01) rfl g9 dX10_about_161 ?_
        refine lv_goto (tgt := 166) hx hb dX10_about_162 rfl ?_
        exact x_iret hx hb hr hlocks hK hP hS (Option.some.inj hf) rfl dX10_about_166
    have hf := b_n hf hc6
    by_cases hc7 : v2 = (7 : Int32)
    · have hf := b_p hf hc7
      refine lv_tableIn (off := 112) (tgt := 167) hx hb dX10_about_55 (by rw [hc7]; decide) (by rw [hc7]; decide) (by rw [hc7]; rfl) rfl ?_
      refine lv_iload hx hb dX10_about_167 (lv_at hl 0 rfl) ?_
      refine lv_if_eq (tgt := 185) hx hb dX10_about_169 rfl (fun hc => ?_) (fun hc => ?_)
      · have hf := b_p hf hc
        refine lv_iconst (v := (0 : Int32)) hx hb dX10_about_185 rfl ?_
        exact x_iret hx hb hr hlocks hK hP hS (Option.some.inj hf) rfl dX10_about_186
      · have hf := b_n hf hc
        refine lv_aload_n hx hb dX10_about_172 rfl (lv_at hl 1 rfl) ?_
        refine x_get (k := 500) (n := 0) hx hb hts i_X10 hown hK hP (mk_500 h01) rfl rfl 21 (by decide) rfl k_63 (v := .ref (ad 522 0)) rfl dX10_about_173 ?_
        refine lv_iconst (v := (2 : Int32)) hx hb dX10_about_176 rfl ?_
        refine lv_iload_n hx hb dX10_about_177 rfl (lv_at hl 2 rfl) ?_
        refine lv_imul hx hb dX10_about_178 ?_
        refine lv_iload_n hx hb dX10_about_179 rfl (lv_at hl 4 rfl) ?_
        refine lv_iadd hx hb dX10_about_180 ?_
        obtain ⟨g10, hf⟩ := gd_e hf
        refine x_iald (k := 522) (n := 0) hx hb hK hP (mk_522 h01) rfl g10 dX10_about_181 ?_
        refine lv_goto (tgt := 186) hx hb dX10_about_182 rfl ?_
        exact x_iret hx hb hr hlocks hK hP hS (Option.some.inj hf) rfl dX10_about_186
    have hf := b_n hf hc7
    by_cases hc8 : v2 = (8 : Int32)
    · have hf := b_p hf hc8
      refine lv_tableIn (off := 112) (tgt := 167) hx hb dX10_about_55 (by rw [hc8]; decide) (by rw [hc8]; decide) (by rw [hc8]; rfl) rfl ?_
      refine lv_iload hx hb dX10_about_167 (lv_at hl 0 rfl) ?_
      refine lv_if_eq (tgt := 185) hx hb dX10_about_169 rfl (fun hc => ?_) (fun hc => ?_)
      · have hf := b_p hf hc
        refine lv_iconst (v := (0 : Int32)) hx hb dX10_about_185 rfl ?_
        exact x_iret hx hb hr hlocks hK hP hS (Option.some.inj hf) rfl dX10_about_186
      · have hf := b_n hf hc
        refine lv_aload_n hx hb dX10_about_172 rfl (lv_at hl 1 rfl) ?_
        refine x_get (k := 500) (n := 0) hx hb hts i_X10 hown hK hP (mk_500 h01) rfl rfl 21 (by decide) rfl k_63 (v := .ref (ad 522 0)) rfl dX10_about_173 ?_
        refine lv_iconst (v := (2 : Int32)) hx hb dX10_about_176 rfl ?_
        refine lv_iload_n hx hb dX10_about_177 rfl (lv_at hl 2 rfl) ?_
        refine lv_imul hx hb dX10_about_178 ?_
        refine lv_iload_n hx hb dX10_about_179 rfl (lv_at hl 4 rfl) ?_
        refine lv_iadd hx hb dX10_about_180 ?_
        obtain ⟨g11, hf⟩ := gd_e hf
        refine x_iald (k := 522) (n := 0) hx hb hK hP (mk_522 h01) rfl g11 dX10_about_181 ?_
        refine lv_goto (tgt := 186) hx hb dX10_about_182 rfl ?_
        exact x_iret hx hb hr hlocks hK hP hS (Option.some.inj hf) rfl dX10_about_186
    have hf := b_n hf hc8
    refine lv_tableOut (tgt := 187) hx hb dX10_about_55 (x_out (N := 8) (fun j hj => by rcases (show j = 0 ∨ j = 1 ∨ j = 2 ∨ j = 3 ∨ j = 4 ∨ j = 5 ∨ j = 6 ∨ j = 7 ∨ j = 8 by omega) with rfl | rfl | rfl | rfl | rfl | rfl | rfl | rfl | rfl <;> assumption)) rfl ?_
    refine lv_iload hx hb dX10_about_187 (lv_at hl 0 rfl) ?_
    refine lv_if_eq (tgt := 205) hx hb dX10_about_189 rfl (fun hc => ?_) (fun hc => ?_)
    · have hf := b_p hf hc
      refine lv_iconst (v := (0 : Int32)) hx hb dX10_about_205 rfl ?_
      exact x_iret hx hb hr hlocks hK hP hS (Option.some.inj hf) rfl dX10_about_206
    · have hf := b_n hf hc
      refine lv_aload_n hx hb dX10_about_192 rfl (lv_at hl 1 rfl) ?_
      refine x_get (k := 500) (n := 0) hx hb hts i_X10 hown hK hP (mk_500 h01) rfl rfl 22 (by decide) rfl k_66 (v := .ref (ad 523 0)) rfl dX10_about_193 ?_
      refine lv_iconst (v := (2 : Int32)) hx hb dX10_about_196 rfl ?_
      refine lv_iload_n hx hb dX10_about_197 rfl (lv_at hl 2 rfl) ?_
      refine lv_imul hx hb dX10_about_198 ?_
      refine lv_iload_n hx hb dX10_about_199 rfl (lv_at hl 4 rfl) ?_
      refine lv_iadd hx hb dX10_about_200 ?_
      obtain ⟨g12, hf⟩ := gd_e hf
      refine x_iald (k := 523) (n := 0) hx hb hK hP (mk_523 h01) rfl g12 dX10_about_201 ?_
      refine lv_goto (tgt := 206) hx hb dX10_about_202 rfl ?_
      exact x_iret hx hb hr hlocks hK hP hS (Option.some.inj hf) rfl dX10_about_206
  have c47 : ∀ (v1 : Int32) (v2 : Int32) (v3 : Int32) (H : Heap) (locs : List Loc) (ls : Array Slot), X10_about_c47 σ v1 v2 v3 = some res → lv_has ls 5 [(0, .ref (ad 500 0)), (1, .int v1), (2, .int v2), (3, .int v3)] → va_P G vwCl (wld ad ca σ LM) H → va_S A s.heap H locs → W p l e (headSpec wsX10_about ({ frames := 1, cells := 0, slots := 0, locals := 21 })).room s m (([.ref (ad 500 0), .int x1, .int x2] : List Value).toArray) below meth c H locs 0 0 (MQ below (va_Qi (fun r' u => r' = res ∧ u = σ) (ctB G ad ca LM) A) (([.ref (ad 500 0), .int x1, .int x2] : List Value).toArray) s 0 0 A) (F0 m 47 ls []) := by
    intro v1 v2 v3 H locs ls hf hl hP hS
    unfold X10_about_c47 at hf
    refine lv_iconst (v := (1 : Int32)) hx hb dX10_about_47 rfl ?_
    refine lv_goto (tgt := 52) hx hb dX10_about_48 rfl ?_
    exact c52 v1 v2 v3 (1 : Int32) _ _ _  hf (lv_sub hl [0, 1, 2, 3] rfl) hP hS
  refine lv_aload_n hx hb dX10_about_0 rfl (lv_at hl 0 rfl) ?_
  refine lv_iload_n hx hb dX10_about_1 rfl (lv_at hl 1 rfl) ?_
  obtain ⟨r1, hc1, hf⟩ := bd_e hf
  refine x_ci (va_runV (As := [.int x1]) (rest := []) ⟨hx, hb, hml, hown, hts⟩ (t_X10_isHandler l G ad ca A x1 hD  σ r1 hc1) (cwV 1 hts gr_X10_139 rfl rfl rfl h9_X10_isHandler ⟨Nat.le_of_ble_eq_true rfl, Nat.le_of_ble_eq_true rfl⟩) (x_prV zkM hz hK hP (mk_500 h01) rfl rfl) rfl rfl hl.1 rfl (lv_room (Nat.le_of_ble_eq_true rfl)) dX10_about_2 ⟨Nat.le_of_ble_eq_true rfl, Nat.le_of_ble_eq_true rfl⟩) hS (fun H locs hP hS => ?_)
  refine lv_if_eq (tgt := 18) hx hb dX10_about_5 rfl (fun hc => ?_) (fun hc => ?_)
  · have hf := b_p hf hc
    refine lv_bipush (v := (-2 : Int32)) hx hb dX10_about_18 rfl ?_
    exact x_iret hx hb hr hlocks hK hP hS (Option.some.inj hf) rfl dX10_about_20
  · have hf := b_n hf hc
    refine lv_iload_n hx hb dX10_about_8 rfl (lv_at hl 2 rfl) ?_
    refine lv_if_lt (tgt := 18) hx hb dX10_about_9 rfl (fun hc => ?_) (fun hc => ?_)
    · have hf := b_p hf hc
      refine lv_bipush (v := (-2 : Int32)) hx hb dX10_about_18 rfl ?_
      exact x_iret hx hb hr hlocks hK hP hS (Option.some.inj hf) rfl dX10_about_20
    · have hf := b_n hf hc
      refine lv_iload_n hx hb dX10_about_12 rfl (lv_at hl 2 rfl) ?_
      refine lv_bipush (v := (10 : Int32)) hx hb dX10_about_13 rfl ?_
      refine lv_icmp_le (tgt := 21) hx hb dX10_about_15 rfl (fun hc => ?_) (fun hc => ?_)
      · have hf := b_p hf hc
        refine lv_iload_n hx hb dX10_about_21 rfl (lv_at hl 2 rfl) ?_
        refine lv_iconst (v := (5 : Int32)) hx hb dX10_about_22 rfl ?_
        refine lv_isub hx hb dX10_about_23 ?_
        refine lv_iconst (v := (2 : Int32)) hx hb dX10_about_24 rfl ?_
        refine lv_irem hx hb dX10_about_25 (by decide) ?_
        obtain ⟨y2, e_y2, hf⟩ := nm_i hf
        refine x_nmI e_y2 ?_
        refine lv_istore_n (lv' := [(3, .int y2), (0, .ref (ad 500 0)), (1, .int x1), (2, .int x2)]) hx hb dX10_about_26 rfl hl (by decide) rfl (fun ls hl => ?_)
        refine lv_iload_n hx hb dX10_about_27 rfl (lv_at hl 3 rfl) ?_
        refine lv_iconst (v := (5 : Int32)) hx hb dX10_about_28 rfl ?_
        refine lv_icmp_lt (tgt := 47) hx hb dX10_about_29 rfl (fun hc => ?_) (fun hc => ?_)
        · have hf := b_p hf hc
          exact c47 x1 x2 y2 _ _ _  hf (lv_sub hl [1, 2, 3, 0] rfl) hP hS
        · have hf := b_n hf hc
          refine lv_iload_n hx hb dX10_about_32 rfl (lv_at hl 0 rfl) ?_
          refine lv_aload_n hx hb dX10_about_33 rfl (lv_at hl 1 rfl) ?_
          refine x_get (k := 500) (n := 0) hx hb hts i_X10 hown hK hP (mk_500 h01) rfl rfl 9 (by decide) rfl k_29 (v := .ref (ad 510 0)) rfl dX10_about_34 ?_
          refine lv_aload_n hx hb dX10_about_37 rfl (lv_at hl 1 rfl) ?_
          refine x_get (k := 500) (n := 0) hx hb hts i_X10 hown hK hP (mk_500 h01) rfl rfl 15 (by decide) rfl k_45 (v := .ref (ad 516 0)) rfl dX10_about_38 ?_
          refine lv_iload_n hx hb dX10_about_41 rfl (lv_at hl 2 rfl) ?_
          obtain ⟨g13, hf⟩ := gd_e hf
          refine x_iald (k := 516) (n := 0) hx hb hK hP (mk_516 h01) rfl g13 dX10_about_42 ?_
          obtain ⟨g14, hf⟩ := gd_e hf
          refine x_iald (k := 510) (n := 0) hx hb hK hP (mk_510 h01) rfl g14 dX10_about_43 ?_
          refine lv_icmp_ge (tgt := 51) hx hb dX10_about_44 rfl (fun hc => ?_) (fun hc => ?_)
          · have hf := b_p hf hc
            refine lv_iconst (v := (0 : Int32)) hx hb dX10_about_51 rfl ?_
            exact c52 x1 x2 y2 (0 : Int32) _ _ _  hf (lv_sub hl [1, 2, 3, 0] rfl) hP hS
          · have hf := b_n hf hc
            exact c47 x1 x2 y2 _ _ _  hf (lv_sub hl [1, 2, 3, 0] rfl) hP hS
      · have hf := b_n hf hc
        refine lv_bipush (v := (-2 : Int32)) hx hb dX10_about_18 rfl ?_
        exact x_iret hx hb hr hlocks hK hP hS (Option.some.inj hf) rfl dX10_about_20
theorem h9_X10_dominates : yX10_dominates.cls = RX10 ∧ yX10_dominates.cls ≠ "java/lang/invoke/MethodHandle" ∧ yX10_dominates.cls ≠ "java/lang/invoke/VarHandle" ∧ (parseMethodDescriptor yX10_dominates.desc).map (fun d => d.parameters.length) = some 2 := by decide +kernel
set_option maxRecDepth 100000 in
set_option maxHeartbeats 4000000 in
theorem t_X10_dominates (l : Launch) (G : va_G) (ad : Nat → Nat → Nat) (ca : Nat → ClassId) (A : Nat → Prop)   (x1 : Int32) (x2 : Int32) (hD : DW ad LM A)  (σ : PS) (res : Int32) (hf : X10_dominates  x1 x2 σ = some res) : Met l yX10_dominates wsX10_dominates ({ frames := 3, cells := 0, slots := 0, locals := 74 }) (ctP G ad ca LM σ ZM [.ref (ad 500 0), .int x1, .int x2]) (va_Qi (fun r' u => r' = res ∧ u = σ) (ctB G ad ca LM) A) 0 0 A := by
  refine Met.ofW (cc := cX10_dominates) (maxL := 3) (ret := (some .boolean)) (by decide) rfl ?_
  intro p e s m args below meth c s₁ B hml hv
  obtain ⟨rfl, hP, hK, hz⟩ := hv
  have hx := B.exec
  have hb := B.bytes
  have hr := B.returns
  have hts : ∀ w ∈ WW, w.before _ s = true := fun w h => atoms_spec (ws := wsX10_dominates) B.pre w (List.mem_cons_of_mem _ h)
  have hown : s.vm.findClass RX10 = some m.cls := findClass_of_methodNamed B.named
  have hlocks := B.notSynchronized
  have hS : va_S A s.heap s.heap [] := va_S.rf
  have hl := lv_entry ([.ref (ad 500 0), .int x1, .int x2]) (n := 3) (Nat.le_of_ble_eq_true rfl)
  rw [lg_entry_eq]
  generalize (lg_sl ([.ref (ad 500 0), .int x1, .int x2]) ++ List.replicate (3 - (lg_sl ([.ref (ad 500 0), .int x1, .int x2])).length) Slot.unset).toArray = ls at hl ⊢
  have hl : lv_has ls 3 [(0, .ref (ad 500 0)), (1, .int x1), (2, .int x2)] := hl
  unfold X10_dominates at hf
  refine lv_aload_n hx hb dX10_dominates_0 rfl (lv_at hl 0 rfl) ?_
  refine lv_iload_n hx hb dX10_dominates_1 rfl (lv_at hl 1 rfl) ?_
  obtain ⟨r1, hc1, hf⟩ := bd_e hf
  refine x_ci (va_runV (As := [.int x1]) (rest := []) ⟨hx, hb, hml, hown, hts⟩ (t_X10_isHandler l G ad ca A x1 hD  σ r1 hc1) (cwV 1 hts gr_X10_139 rfl rfl rfl h9_X10_isHandler ⟨Nat.le_of_ble_eq_true rfl, Nat.le_of_ble_eq_true rfl⟩) (x_prV zkM hz hK hP (mk_500 h01) rfl rfl) rfl rfl hl.1 rfl (lv_room (Nat.le_of_ble_eq_true rfl)) dX10_dominates_2 ⟨Nat.le_of_ble_eq_true rfl, Nat.le_of_ble_eq_true rfl⟩) hS (fun H locs hP hS => ?_)
  refine lv_if_eq (tgt := 29) hx hb dX10_dominates_5 rfl (fun hc => ?_) (fun hc => ?_)
  · have hf := b_p hf hc
    refine lv_iconst (v := (0 : Int32)) hx hb dX10_dominates_29 rfl ?_
    exact x_zret hx hb hr hlocks hK hP hS (by decide) (Option.some.inj hf) rfl dX10_dominates_30
  · have hf := b_n hf hc
    refine lv_aload_n hx hb dX10_dominates_8 rfl (lv_at hl 0 rfl) ?_
    refine lv_iload_n hx hb dX10_dominates_9 rfl (lv_at hl 2 rfl) ?_
    obtain ⟨r2, hc2, hf⟩ := bd_e hf
    refine x_ci (va_runV (As := [.int x2]) (rest := []) ⟨hx, hb, hml, hown, hts⟩ (t_X10_isHandler l G ad ca A x2 hD  σ r2 hc2) (cwV 1 hts gr_X10_139 rfl rfl rfl h9_X10_isHandler ⟨Nat.le_of_ble_eq_true rfl, Nat.le_of_ble_eq_true rfl⟩) (x_prV zkM hz hK hP (mk_500 h01) rfl rfl) rfl rfl hl.1 rfl (lv_room (Nat.le_of_ble_eq_true rfl)) dX10_dominates_10 ⟨Nat.le_of_ble_eq_true rfl, Nat.le_of_ble_eq_true rfl⟩) hS (fun H locs hP hS => ?_)
    refine lv_if_eq (tgt := 29) hx hb dX10_dominates_13 rfl (fun hc => ?_) (fun hc => ?_)
    · have hf := b_p hf hc
      refine lv_iconst (v := (0 : Int32)) hx hb dX10_dominates_29 rfl ?_
      exact x_zret hx hb hr hlocks hK hP hS (by decide) (Option.some.inj hf) rfl dX10_dominates_30
    · have hf := b_n hf hc
      refine lv_aload_n hx hb dX10_dominates_16 rfl (lv_at hl 0 rfl) ?_
      refine lv_iload_n hx hb dX10_dominates_17 rfl (lv_at hl 1 rfl) ?_
      refine lv_iload_n hx hb dX10_dominates_18 rfl (lv_at hl 2 rfl) ?_
      obtain ⟨r3, hc3, hf⟩ := bd_e hf
      refine x_ci (va_runV (As := [.int x1, .int x2]) (rest := []) ⟨hx, hb, hml, hown, hts⟩ (t_X10_isMore l G ad ca A x1 x2 hD  σ r3 hc3) (cwV 2 hts gr_X10_159 rfl rfl rfl h9_X10_isMore ⟨Nat.le_of_ble_eq_true rfl, Nat.le_of_ble_eq_true rfl⟩) (x_prV zkM hz hK hP (mk_500 h01) rfl rfl) rfl rfl hl.1 rfl (lv_room (Nat.le_of_ble_eq_true rfl)) dX10_dominates_19 ⟨Nat.le_of_ble_eq_true rfl, Nat.le_of_ble_eq_true rfl⟩) hS (fun H locs hP hS => ?_)
      refine lv_if_eq (tgt := 29) hx hb dX10_dominates_22 rfl (fun hc => ?_) (fun hc => ?_)
      · have hf := b_p hf hc
        refine lv_iconst (v := (0 : Int32)) hx hb dX10_dominates_29 rfl ?_
        exact x_zret hx hb hr hlocks hK hP hS (by decide) (Option.some.inj hf) rfl dX10_dominates_30
      · have hf := b_n hf hc
        refine lv_iconst (v := (1 : Int32)) hx hb dX10_dominates_25 rfl ?_
        refine lv_goto (tgt := 30) hx hb dX10_dominates_26 rfl ?_
        exact x_zret hx hb hr hlocks hK hP hS (by decide) (Option.some.inj hf) rfl dX10_dominates_30
theorem h9_X10_inOrder : yX10_inOrder.cls = RX10 ∧ yX10_inOrder.cls ≠ "java/lang/invoke/MethodHandle" ∧ yX10_inOrder.cls ≠ "java/lang/invoke/VarHandle" ∧ (parseMethodDescriptor yX10_inOrder.desc).map (fun d => d.parameters.length) = some 2 := by decide +kernel
set_option maxRecDepth 100000 in
set_option maxHeartbeats 4000000 in
theorem t_X10_inOrder (l : Launch) (G : va_G) (ad : Nat → Nat → Nat) (ca : Nat → ClassId) (A : Nat → Prop)   (x1 : Int32) (x2 : Int32) (hD : DW ad LM A)  (σ : PS) (res : Int32) (σz : PS) (hf : X10_inOrder  x1 x2 σ = some (res, σz)) : Met l yX10_inOrder wsX10_inOrder ({ frames := 3, cells := 0, slots := 0, locals := 74 }) (ctP G ad ca LM σ ZM [.ref (ad 500 0), .int x1, .int x2]) (va_Qi (fun r' u => r' = res ∧ u = σz) (ctB G ad ca LM) A) 0 0 A := by
  refine Met.ofW (cc := cX10_inOrder) (maxL := 8) (ret := (some .int)) (by decide) rfl ?_
  intro p e s m args below meth c s₁ B hml hv
  obtain ⟨rfl, hP, hK, hz⟩ := hv
  have hx := B.exec
  have hb := B.bytes
  have hr := B.returns
  have hts : ∀ w ∈ WW, w.before _ s = true := fun w h => atoms_spec (ws := wsX10_inOrder) B.pre w (List.mem_cons_of_mem _ h)
  have hown : s.vm.findClass RX10 = some m.cls := findClass_of_methodNamed B.named
  have hlocks := B.notSynchronized
  have hS : va_S A s.heap s.heap [] := va_S.rf
  have k_91 := hts _ kf_X10_91
  have k_131 := hts _ kf_X10_131
  have hl := lv_entry ([.ref (ad 500 0), .int x1, .int x2]) (n := 8) (Nat.le_of_ble_eq_true rfl)
  rw [lg_entry_eq]
  generalize (lg_sl ([.ref (ad 500 0), .int x1, .int x2]) ++ List.replicate (8 - (lg_sl ([.ref (ad 500 0), .int x1, .int x2])).length) Slot.unset).toArray = ls at hl ⊢
  have hl : lv_has ls 8 [(0, .ref (ad 500 0)), (1, .int x1), (2, .int x2)] := hl
  unfold X10_inOrder at hf
  have l2 : ∀ (kx2 : Int32 → PS → Option (Int32 × PS)), (∀ (v2 : Int32) (σ : PS) (H : Heap) (locs : List Loc) (ls : Array Slot), kx2 v2 σ = some (res, σz) → lv_has ls 8 [(0, .ref (ad 500 0)), (2, .int v2)] → va_P G vwCl (wld ad ca σ LM) H → va_S A s.heap H locs → W p l e (headSpec wsX10_inOrder ({ frames := 3, cells := 0, slots := 0, locals := 74 })).room s m (([.ref (ad 500 0), .int x1, .int x2] : List Value).toArray) below meth c H locs 0 0 (MQ below (va_Qi (fun r' u => r' = res ∧ u = σz) (ctB G ad ca LM) A) (([.ref (ad 500 0), .int x1, .int x2] : List Value).toArray) s 0 0 A) (F0 m 36 ls [])) → ∀ (n2 : Nat) (v1 : Int32) (v2 : Int32) (v3 : Int32) (σ : PS) (H : Heap) (locs : List Loc) (ls : Array Slot), X10_inOrder_l2  kx2 n2 v1 v2 v3 σ = some (res, σz) → lv_has ls 8 [(0, .ref (ad 500 0)), (1, .int v1), (2, .int v2), (3, .int v3)] → va_P G vwCl (wld ad ca σ LM) H → va_S A s.heap H locs → W p l e (headSpec wsX10_inOrder ({ frames := 3, cells := 0, slots := 0, locals := 74 })).room s m (([.ref (ad 500 0), .int x1, .int x2] : List Value).toArray) below meth c H locs 0 0 (MQ below (va_Qi (fun r' u => r' = res ∧ u = σz) (ctB G ad ca LM) A) (([.ref (ad 500 0), .int x1, .int x2] : List Value).toArray) s 0 0 A) (F0 m 2 ls []) := by
    intro kx2 hx2 n2
    induction n2 with
    | zero =>
      intro v1 v2 v3 σ H locs ls hf
      exact absurd hf (by simp [X10_inOrder_l2])
    | succ n2 ih2 =>
      intro v1 v2 v3 σ H locs ls hf hl hP hS
      rw [X10_inOrder_l2.eq_2] at hf
      refine lv_iload_n hx hb dX10_inOrder_2 rfl (lv_at hl 3 rfl) ?_
      refine lv_aload_n hx hb dX10_inOrder_3 rfl (lv_at hl 0 rfl) ?_
      refine x_get (k := 500) (n := 0) hx hb hts i_X10 hown hK hP (mk_500 h01) rfl rfl 14 (by decide) rfl k_131 (v := .int (gI σ 500 0 14)) rfl dX10_inOrder_4 ?_
      refine lv_icmp_ge (tgt := 36) hx hb dX10_inOrder_7 rfl (fun hc => ?_) (fun hc => ?_)
      · have hf := b_p hf hc
        exact hx2 v2 σ _ _ _  hf (lv_sub hl [0, 2] rfl) hP hS
      · have hf := b_n hf hc
        refine lv_aload_n hx hb dX10_inOrder_10 rfl (lv_at hl 0 rfl) ?_
        refine x_get (k := 500) (n := 0) hx hb hts i_X10 hown hK hP (mk_500 h01) rfl rfl 34 (by decide) rfl k_91 (v := .ref (ad 535 0)) rfl dX10_inOrder_11 ?_
        refine lv_iload_n hx hb dX10_inOrder_14 rfl (lv_at hl 3 rfl) ?_
        refine lv_aload_n hx hb dX10_inOrder_15 rfl (lv_at hl 0 rfl) ?_
        refine lv_iload_n hx hb dX10_inOrder_16 rfl (lv_at hl 3 rfl) ?_
        refine lv_iload_n hx hb dX10_inOrder_17 rfl (lv_at hl 1 rfl) ?_
        obtain ⟨r1, hc1, hf⟩ := bd_e hf
        refine x_ci (va_runV (As := [.int v3, .int v1]) (rest := [.int v3, .ref (ad 535 0)]) ⟨hx, hb, hml, hown, hts⟩ (t_X10_isLaid l G ad ca A v3 v1 hD  σ r1 hc1) (cwV 2 hts gr_X10_145 rfl rfl rfl h9_X10_isLaid ⟨Nat.le_of_ble_eq_true rfl, Nat.le_of_ble_eq_true rfl⟩) (x_prV zkM hz hK hP (mk_500 h01) rfl rfl) rfl rfl hl.1 rfl (lv_room (Nat.le_of_ble_eq_true rfl)) dX10_inOrder_18 ⟨Nat.le_of_ble_eq_true rfl, Nat.le_of_ble_eq_true rfl⟩) hS (fun H locs hP hS => ?_)
        refine lv_if_ne (tgt := 28) hx hb dX10_inOrder_21 rfl (fun hc => ?_) (fun hc => ?_)
        · have hf := b_n hf hc
          refine lv_iconst (v := (0 : Int32)) hx hb dX10_inOrder_28 rfl ?_
          obtain ⟨g2, hf⟩ := gd_e hf
          refine x_zast (k := 535) (n := 0) hx hb hK hD hP hS (mk_535 h01) rfl (by decide) g2 dX10_inOrder_29 (fun H locs hP hS => ?_)
          obtain ⟨σ3, e_σ3, hf⟩ := nm_i hf
          have hP : va_P G vwCl (wld ad ca σ3 LM) H := by rw [e_σ3]; exact hP
          refine lv_iinc (v := (v3 + (1 : Int32))) (lv' := [(3, .int (v3 + (1 : Int32))), (0, .ref (ad 500 0)), (1, .int v1), (2, .int v2)]) hx hb dX10_inOrder_30 hl (k := 3) rfl rfl (by decide) rfl (fun ls hl => ?_)
          refine lv_goto (tgt := 2) hx hb dX10_inOrder_33 rfl ?_
          exact ih2 v1 v2 (v3 + (1 : Int32)) σ3 _ _ _  hf (lv_sub hl [1, 2, 3, 0] rfl) hP hS
        · have hf := b_p hf hc
          refine lv_iconst (v := (1 : Int32)) hx hb dX10_inOrder_24 rfl ?_
          refine lv_goto (tgt := 29) hx hb dX10_inOrder_25 rfl ?_
          obtain ⟨g4, hf⟩ := gd_e hf
          refine x_zast (k := 535) (n := 0) hx hb hK hD hP hS (mk_535 h01) rfl (by decide) g4 dX10_inOrder_29 (fun H locs hP hS => ?_)
          obtain ⟨σ5, e_σ5, hf⟩ := nm_i hf
          have hP : va_P G vwCl (wld ad ca σ5 LM) H := by rw [e_σ5]; exact hP
          refine lv_iinc (v := (v3 + (1 : Int32))) (lv' := [(3, .int (v3 + (1 : Int32))), (0, .ref (ad 500 0)), (1, .int v1), (2, .int v2)]) hx hb dX10_inOrder_30 hl (k := 3) rfl rfl (by decide) rfl (fun ls hl => ?_)
          refine lv_goto (tgt := 2) hx hb dX10_inOrder_33 rfl ?_
          exact ih2 v1 v2 (v3 + (1 : Int32)) σ5 _ _ _  hf (lv_sub hl [1, 2, 3, 0] rfl) hP hS
  have l41 : ∀ (kx41 : Int32 → PS → Option (Int32 × PS)), (∀ (v3 : Int32) (σ : PS) (H : Heap) (locs : List Loc) (ls : Array Slot), kx41 v3 σ = some (res, σz) → lv_has ls 8 [(3, .int v3)] → va_P G vwCl (wld ad ca σ LM) H → va_S A s.heap H locs → W p l e (headSpec wsX10_inOrder ({ frames := 3, cells := 0, slots := 0, locals := 74 })).room s m (([.ref (ad 500 0), .int x1, .int x2] : List Value).toArray) below meth c H locs 0 0 (MQ below (va_Qi (fun r' u => r' = res ∧ u = σz) (ctB G ad ca LM) A) (([.ref (ad 500 0), .int x1, .int x2] : List Value).toArray) s 0 0 A) (F0 m 167 ls [])) → ∀ (n41 : Nat) (v2 : Int32) (v3 : Int32) (v4 : Int32) (σ : PS) (H : Heap) (locs : List Loc) (ls : Array Slot), X10_inOrder_l41  kx41 n41 v2 v3 v4 σ = some (res, σz) → lv_has ls 8 [(0, .ref (ad 500 0)), (2, .int v2), (3, .int v3), (4, .int v4)] → va_P G vwCl (wld ad ca σ LM) H → va_S A s.heap H locs → W p l e (headSpec wsX10_inOrder ({ frames := 3, cells := 0, slots := 0, locals := 74 })).room s m (([.ref (ad 500 0), .int x1, .int x2] : List Value).toArray) below meth c H locs 0 0 (MQ below (va_Qi (fun r' u => r' = res ∧ u = σz) (ctB G ad ca LM) A) (([.ref (ad 500 0), .int x1, .int x2] : List Value).toArray) s 0 0 A) (F0 m 41 ls []) := by
    intro kx41 hx41 n41
    induction n41 with
    | zero =>
      intro v2 v3 v4 σ H locs ls hf
      exact absurd hf (by simp [X10_inOrder_l41])
    | succ n41 ih41 =>
      intro v2 v3 v4 σ H locs ls hf hl hP hS
      rw [X10_inOrder_l41.eq_2] at hf
      have l57 : ∀ (kx57 : Int32 → Int32 → Int32 → PS → Option (Int32 × PS)), (∀ (v2 : Int32) (v3 : Int32) (v4 : Int32) (σ : PS) (H : Heap) (locs : List Loc) (ls : Array Slot), kx57 v2 v3 v4 σ = some (res, σz) → lv_has ls 8 [(0, .ref (ad 500 0)), (2, .int v2), (3, .int v3), (4, .int v4)] → va_P G vwCl (wld ad ca σ LM) H → va_S A s.heap H locs → W p l e (headSpec wsX10_inOrder ({ frames := 3, cells := 0, slots := 0, locals := 74 })).room s m (([.ref (ad 500 0), .int x1, .int x2] : List Value).toArray) below meth c H locs 0 0 (MQ below (va_Qi (fun r' u => r' = res ∧ u = σz) (ctB G ad ca LM) A) (([.ref (ad 500 0), .int x1, .int x2] : List Value).toArray) s 0 0 A) (F0 m 148 ls [])) → ∀ (n57 : Nat) (v2 : Int32) (v3 : Int32) (v4 : Int32) (v5 : Int32) (σ : PS) (H : Heap) (locs : List Loc) (ls : Array Slot), X10_inOrder_l57  kx57 n57 v2 v3 v4 v5 σ = some (res, σz) → lv_has ls 8 [(0, .ref (ad 500 0)), (2, .int v2), (3, .int v3), (4, .int v4), (5, .int v5)] → va_P G vwCl (wld ad ca σ LM) H → va_S A s.heap H locs → W p l e (headSpec wsX10_inOrder ({ frames := 3, cells := 0, slots := 0, locals := 74 })).room s m (([.ref (ad 500 0), .int x1, .int x2] : List Value).toArray) below meth c H locs 0 0 (MQ below (va_Qi (fun r' u => r' = res ∧ u = σz) (ctB G ad ca LM) A) (([.ref (ad 500 0), .int x1, .int x2] : List Value).toArray) s 0 0 A) (F0 m 57 ls []) := by
        intro kx57 hx57 n57
        induction n57 with
        | zero =>
          intro v2 v3 v4 v5 σ H locs ls hf
          exact absurd hf (by simp [X10_inOrder_l57])
        | succ n57 ih57 =>
          intro v2 v3 v4 v5 σ H locs ls hf hl hP hS
          rw [X10_inOrder_l57.eq_2] at hf
          have l82 : ∀ (kx82 : Int32 → Int32 → Int32 → Int32 → Int32 → PS → Option (Int32 × PS)), (∀ (v2 : Int32) (v3 : Int32) (v4 : Int32) (v5 : Int32) (v6 : Int32) (σ : PS) (H : Heap) (locs : List Loc) (ls : Array Slot), kx82 v2 v3 v4 v5 v6 σ = some (res, σz) → lv_has ls 8 [(0, .ref (ad 500 0)), (2, .int v2), (3, .int v3), (4, .int v4), (5, .int v5), (6, .int v6)] → va_P G vwCl (wld ad ca σ LM) H → va_S A s.heap H locs → W p l e (headSpec wsX10_inOrder ({ frames := 3, cells := 0, slots := 0, locals := 74 })).room s m (([.ref (ad 500 0), .int x1, .int x2] : List Value).toArray) below meth c H locs 0 0 (MQ below (va_Qi (fun r' u => r' = res ∧ u = σz) (ctB G ad ca LM) A) (([.ref (ad 500 0), .int x1, .int x2] : List Value).toArray) s 0 0 A) (F0 m 130 ls [])) → ∀ (n82 : Nat) (v2 : Int32) (v3 : Int32) (v4 : Int32) (v5 : Int32) (v6 : Int32) (v7 : Int32) (σ : PS) (H : Heap) (locs : List Loc) (ls : Array Slot), X10_inOrder_l82  kx82 n82 v2 v3 v4 v5 v6 v7 σ = some (res, σz) → lv_has ls 8 [(0, .ref (ad 500 0)), (2, .int v2), (3, .int v3), (4, .int v4), (5, .int v5), (6, .int v6), (7, .int v7)] → va_P G vwCl (wld ad ca σ LM) H → va_S A s.heap H locs → W p l e (headSpec wsX10_inOrder ({ frames := 3, cells := 0, slots := 0, locals := 74 })).room s m (([.ref (ad 500 0), .int x1, .int x2] : List Value).toArray) below meth c H locs 0 0 (MQ below (va_Qi (fun r' u => r' = res ∧ u = σz) (ctB G ad ca LM) A) (([.ref (ad 500 0), .int x1, .int x2] : List Value).toArray) s 0 0 A) (F0 m 82 ls []) := by
            intro kx82 hx82 n82
            induction n82 with
            | zero =>
              intro v2 v3 v4 v5 v6 v7 σ H locs ls hf
              exact absurd hf (by simp [X10_inOrder_l82])
            | succ n82 ih82 =>
              intro v2 v3 v4 v5 v6 v7 σ H locs ls hf hl hP hS
              rw [X10_inOrder_l82.eq_2] at hf
              refine lv_iload hx hb dX10_inOrder_82 (lv_at hl 6 rfl) ?_
              refine lv_aload_n hx hb dX10_inOrder_84 rfl (lv_at hl 0 rfl) ?_
              refine x_get (k := 500) (n := 0) hx hb hts i_X10 hown hK hP (mk_500 h01) rfl rfl 14 (by decide) rfl k_131 (v := .int (gI σ 500 0 14)) rfl dX10_inOrder_85 ?_
              refine lv_icmp_ge (tgt := 130) hx hb dX10_inOrder_88 rfl (fun hc => ?_) (fun hc => ?_)
              · have hf := b_p hf hc
                exact hx82 v2 v3 v4 v5 v6 σ _ _ _  hf (lv_sub hl [0, 1, 2, 3, 4, 5] rfl) hP hS
              · have hf := b_n hf hc
                refine lv_iload hx hb dX10_inOrder_91 (lv_at hl 5 rfl) ?_
                refine lv_if_eq (tgt := 121) hx hb dX10_inOrder_93 rfl (fun hc => ?_) (fun hc => ?_)
                · have hf := b_p hf hc
                  refine lv_iconst (v := (0 : Int32)) hx hb dX10_inOrder_121 rfl ?_
                  refine lv_istore (lv' := [(6, .int (0 : Int32)), (0, .ref (ad 500 0)), (2, .int v2), (3, .int v3), (4, .int v4), (5, .int v5), (7, .int v7)]) hx hb dX10_inOrder_122 hl (by decide) rfl (fun ls hl => ?_)
                  refine lv_iinc (v := (v7 + (1 : Int32))) (lv' := [(7, .int (v7 + (1 : Int32))), (6, .int (0 : Int32)), (0, .ref (ad 500 0)), (2, .int v2), (3, .int v3), (4, .int v4), (5, .int v5)]) hx hb dX10_inOrder_124 hl (k := 6) rfl rfl (by decide) rfl (fun ls hl => ?_)
                  refine lv_goto (tgt := 82) hx hb dX10_inOrder_127 rfl ?_
                  exact ih82 v2 v3 v4 v5 (0 : Int32) (v7 + (1 : Int32)) σ _ _ _  hf (lv_sub hl [2, 3, 4, 5, 6, 1, 0] rfl) hP hS
                · have hf := b_n hf hc
                  refine lv_aload_n hx hb dX10_inOrder_96 rfl (lv_at hl 0 rfl) ?_
                  refine x_get (k := 500) (n := 0) hx hb hts i_X10 hown hK hP (mk_500 h01) rfl rfl 34 (by decide) rfl k_91 (v := .ref (ad 535 0)) rfl dX10_inOrder_97 ?_
                  refine lv_iload hx hb dX10_inOrder_100 (lv_at hl 6 rfl) ?_
                  obtain ⟨g8, hf⟩ := gd_e hf
                  refine x_zald (k := 535) (n := 0) hx hb hK hP (mk_535 h01) rfl g8 dX10_inOrder_102 ?_
                  refine lv_if_ne (tgt := 117) hx hb dX10_inOrder_103 rfl (fun hc => ?_) (fun hc => ?_)
                  · have hf := b_n hf hc
                    refine lv_iconst (v := (1 : Int32)) hx hb dX10_inOrder_117 rfl ?_
                    refine lv_goto (tgt := 122) hx hb dX10_inOrder_118 rfl ?_
                    refine lv_istore (lv' := [(6, .int (1 : Int32)), (0, .ref (ad 500 0)), (2, .int v2), (3, .int v3), (4, .int v4), (5, .int v5), (7, .int v7)]) hx hb dX10_inOrder_122 hl (by decide) rfl (fun ls hl => ?_)
                    refine lv_iinc (v := (v7 + (1 : Int32))) (lv' := [(7, .int (v7 + (1 : Int32))), (6, .int (1 : Int32)), (0, .ref (ad 500 0)), (2, .int v2), (3, .int v3), (4, .int v4), (5, .int v5)]) hx hb dX10_inOrder_124 hl (k := 6) rfl rfl (by decide) rfl (fun ls hl => ?_)
                    refine lv_goto (tgt := 82) hx hb dX10_inOrder_127 rfl ?_
                    exact ih82 v2 v3 v4 v5 (1 : Int32) (v7 + (1 : Int32)) σ _ _ _  hf (lv_sub hl [2, 3, 4, 5, 6, 1, 0] rfl) hP hS
                  · have hf := b_p hf hc
                    refine lv_aload_n hx hb dX10_inOrder_106 rfl (lv_at hl 0 rfl) ?_
                    refine lv_iload hx hb dX10_inOrder_107 (lv_at hl 6 rfl) ?_
                    refine lv_iload hx hb dX10_inOrder_109 (lv_at hl 4 rfl) ?_
                    obtain ⟨r9, hc9, hf⟩ := bd_e hf
                    refine x_ci (va_runV (As := [.int v7, .int v5]) (rest := []) ⟨hx, hb, hml, hown, hts⟩ (t_X10_isMore l G ad ca A v7 v5 hD  σ r9 hc9) (cwV 2 hts gr_X10_159 rfl rfl rfl h9_X10_isMore ⟨Nat.le_of_ble_eq_true rfl, Nat.le_of_ble_eq_true rfl⟩) (x_prV zkM hz hK hP (mk_500 h01) rfl rfl) rfl rfl hl.1 rfl (lv_room (Nat.le_of_ble_eq_true rfl)) dX10_inOrder_111 ⟨Nat.le_of_ble_eq_true rfl, Nat.le_of_ble_eq_true rfl⟩) hS (fun H locs hP hS => ?_)
                    refine lv_if_ne (tgt := 121) hx hb dX10_inOrder_114 rfl (fun hc => ?_) (fun hc => ?_)
                    · have hf := b_n hf hc
                      refine lv_iconst (v := (0 : Int32)) hx hb dX10_inOrder_121 rfl ?_
                      refine lv_istore (lv' := [(6, .int (0 : Int32)), (0, .ref (ad 500 0)), (2, .int v2), (3, .int v3), (4, .int v4), (5, .int v5), (7, .int v7)]) hx hb dX10_inOrder_122 hl (by decide) rfl (fun ls hl => ?_)
                      refine lv_iinc (v := (v7 + (1 : Int32))) (lv' := [(7, .int (v7 + (1 : Int32))), (6, .int (0 : Int32)), (0, .ref (ad 500 0)), (2, .int v2), (3, .int v3), (4, .int v4), (5, .int v5)]) hx hb dX10_inOrder_124 hl (k := 6) rfl rfl (by decide) rfl (fun ls hl => ?_)
                      refine lv_goto (tgt := 82) hx hb dX10_inOrder_127 rfl ?_
                      exact ih82 v2 v3 v4 v5 (0 : Int32) (v7 + (1 : Int32)) σ _ _ _  hf (lv_sub hl [2, 3, 4, 5, 6, 1, 0] rfl) hP hS
                    · have hf := b_p hf hc
                      refine lv_iconst (v := (1 : Int32)) hx hb dX10_inOrder_117 rfl ?_
                      refine lv_goto (tgt := 122) hx hb dX10_inOrder_118 rfl ?_
                      refine lv_istore (lv' := [(6, .int (1 : Int32)), (0, .ref (ad 500 0)), (2, .int v2), (3, .int v3), (4, .int v4), (5, .int v5), (7, .int v7)]) hx hb dX10_inOrder_122 hl (by decide) rfl (fun ls hl => ?_)
                      refine lv_iinc (v := (v7 + (1 : Int32))) (lv' := [(7, .int (v7 + (1 : Int32))), (6, .int (1 : Int32)), (0, .ref (ad 500 0)), (2, .int v2), (3, .int v3), (4, .int v4), (5, .int v5)]) hx hb dX10_inOrder_124 hl (k := 6) rfl rfl (by decide) rfl (fun ls hl => ?_)
                      refine lv_goto (tgt := 82) hx hb dX10_inOrder_127 rfl ?_
                      exact ih82 v2 v3 v4 v5 (1 : Int32) (v7 + (1 : Int32)) σ _ _ _  hf (lv_sub hl [2, 3, 4, 5, 6, 1, 0] rfl) hP hS
          have c130 : ∀ (v2 : Int32) (v3 : Int32) (v4 : Int32) (v5 : Int32) (v6 : Int32) (σ : PS) (H : Heap) (locs : List Loc) (ls : Array Slot), X10_inOrder_c130  (X10_inOrder_l57  kx57 n57) kx57 v2 v3 v4 v5 v6 σ = some (res, σz) → lv_has ls 8 [(0, .ref (ad 500 0)), (2, .int v2), (3, .int v3), (4, .int v4), (5, .int v5), (6, .int v6)] → va_P G vwCl (wld ad ca σ LM) H → va_S A s.heap H locs → W p l e (headSpec wsX10_inOrder ({ frames := 3, cells := 0, slots := 0, locals := 74 })).room s m (([.ref (ad 500 0), .int x1, .int x2] : List Value).toArray) below meth c H locs 0 0 (MQ below (va_Qi (fun r' u => r' = res ∧ u = σz) (ctB G ad ca LM) A) (([.ref (ad 500 0), .int x1, .int x2] : List Value).toArray) s 0 0 A) (F0 m 130 ls []) := by
            intro v2 v3 v4 v5 v6 σ H locs ls hf hl hP hS
            unfold X10_inOrder_c130 at hf
            refine lv_iload hx hb dX10_inOrder_130 (lv_at hl 5 rfl) ?_
            refine lv_if_eq (tgt := 140) hx hb dX10_inOrder_132 rfl (fun hc => ?_) (fun hc => ?_)
            · have hf := b_p hf hc
              refine lv_iload_n hx hb dX10_inOrder_140 rfl (lv_at hl 2 rfl) ?_
              refine lv_istore_n (lv' := [(3, .int v3), (0, .ref (ad 500 0)), (2, .int v2), (4, .int v4), (5, .int v5), (6, .int v6)]) hx hb dX10_inOrder_141 rfl hl (by decide) rfl (fun ls hl => ?_)
              refine lv_iinc (v := (v5 + (-1 : Int32))) (lv' := [(5, .int (v5 + (-1 : Int32))), (3, .int v3), (0, .ref (ad 500 0)), (2, .int v2), (4, .int v4), (6, .int v6)]) hx hb dX10_inOrder_142 hl (k := 4) rfl rfl (by decide) rfl (fun ls hl => ?_)
              refine lv_goto (tgt := 57) hx hb dX10_inOrder_145 rfl ?_
              exact ih57 v2 v3 v4 (v5 + (-1 : Int32)) σ _ _ _  hf (lv_sub hl [2, 3, 1, 4, 0] rfl) hP hS
            · have hf := b_n hf hc
              refine lv_iload hx hb dX10_inOrder_135 (lv_at hl 4 rfl) ?_
              refine lv_goto (tgt := 141) hx hb dX10_inOrder_137 rfl ?_
              refine lv_istore_n (lv' := [(3, .int v5), (0, .ref (ad 500 0)), (2, .int v2), (4, .int v4), (5, .int v5), (6, .int v6)]) hx hb dX10_inOrder_141 rfl hl (by decide) rfl (fun ls hl => ?_)
              refine lv_iinc (v := (v5 + (-1 : Int32))) (lv' := [(5, .int (v5 + (-1 : Int32))), (3, .int v5), (0, .ref (ad 500 0)), (2, .int v2), (4, .int v4), (6, .int v6)]) hx hb dX10_inOrder_142 hl (k := 4) rfl rfl (by decide) rfl (fun ls hl => ?_)
              refine lv_goto (tgt := 57) hx hb dX10_inOrder_145 rfl ?_
              exact ih57 v2 v5 v4 (v5 + (-1 : Int32)) σ _ _ _  hf (lv_sub hl [2, 3, 1, 4, 0] rfl) hP hS
          have c77 : ∀ (v2 : Int32) (v3 : Int32) (v4 : Int32) (v5 : Int32) (w0 : Int32) (σ : PS) (H : Heap) (locs : List Loc) (ls : Array Slot), X10_inOrder_c77  (X10_inOrder_l57  kx57 n57) kx57 v2 v3 v4 v5 w0 σ = some (res, σz) → lv_has ls 8 [(0, .ref (ad 500 0)), (2, .int v2), (3, .int v3), (4, .int v4), (5, .int v5)] → va_P G vwCl (wld ad ca σ LM) H → va_S A s.heap H locs → W p l e (headSpec wsX10_inOrder ({ frames := 3, cells := 0, slots := 0, locals := 74 })).room s m (([.ref (ad 500 0), .int x1, .int x2] : List Value).toArray) below meth c H locs 0 0 (MQ below (va_Qi (fun r' u => r' = res ∧ u = σz) (ctB G ad ca LM) A) (([.ref (ad 500 0), .int x1, .int x2] : List Value).toArray) s 0 0 A) (F0 m 77 ls [.int w0]) := by
            intro v2 v3 v4 v5 w0 σ H locs ls hf hl hP hS
            unfold X10_inOrder_c77 at hf
            refine lv_istore (lv' := [(6, .int w0), (0, .ref (ad 500 0)), (2, .int v2), (3, .int v3), (4, .int v4), (5, .int v5)]) hx hb dX10_inOrder_77 hl (by decide) rfl (fun ls hl => ?_)
            refine lv_iconst (v := (0 : Int32)) hx hb dX10_inOrder_79 rfl ?_
            refine lv_istore (lv' := [(7, .int (0 : Int32)), (6, .int w0), (0, .ref (ad 500 0)), (2, .int v2), (3, .int v3), (4, .int v4), (5, .int v5)]) hx hb dX10_inOrder_80 hl (by decide) rfl (fun ls hl => ?_)
            exact l82 _ c130 _ v2 v3 v4 v5 w0 (0 : Int32) σ _ _ _  hf (lv_sub hl [2, 3, 4, 5, 6, 1, 0] rfl) hP hS
          refine lv_iload hx hb dX10_inOrder_57 (lv_at hl 4 rfl) ?_
          refine lv_if_lt (tgt := 148) hx hb dX10_inOrder_59 rfl (fun hc => ?_) (fun hc => ?_)
          · have hf := b_p hf hc
            exact hx57 v2 v3 v4 σ _ _ _  hf (lv_sub hl [0, 1, 2, 3] rfl) hP hS
          · have hf := b_n hf hc
            refine lv_aload_n hx hb dX10_inOrder_62 rfl (lv_at hl 0 rfl) ?_
            refine x_get (k := 500) (n := 0) hx hb hts i_X10 hown hK hP (mk_500 h01) rfl rfl 34 (by decide) rfl k_91 (v := .ref (ad 535 0)) rfl dX10_inOrder_63 ?_
            refine lv_iload hx hb dX10_inOrder_66 (lv_at hl 4 rfl) ?_
            obtain ⟨g7, hf⟩ := gd_e hf
            refine x_zald (k := 535) (n := 0) hx hb hK hP (mk_535 h01) rfl g7 dX10_inOrder_68 ?_
            refine lv_if_ne (tgt := 76) hx hb dX10_inOrder_69 rfl (fun hc => ?_) (fun hc => ?_)
            · have hf := b_n hf hc
              refine lv_iconst (v := (0 : Int32)) hx hb dX10_inOrder_76 rfl ?_
              exact c77 v2 v3 v4 v5 (0 : Int32) σ _ _ _  hf (lv_sub hl [0, 1, 2, 3, 4] rfl) hP hS
            · have hf := b_p hf hc
              refine lv_iconst (v := (1 : Int32)) hx hb dX10_inOrder_72 rfl ?_
              refine lv_goto (tgt := 77) hx hb dX10_inOrder_73 rfl ?_
              exact c77 v2 v3 v4 v5 (1 : Int32) σ _ _ _  hf (lv_sub hl [0, 1, 2, 3, 4] rfl) hP hS
      have c148 : ∀ (v2 : Int32) (v3 : Int32) (v4 : Int32) (σ : PS) (H : Heap) (locs : List Loc) (ls : Array Slot), X10_inOrder_c148  (X10_inOrder_l41  kx41 n41) kx41 v2 v3 v4 σ = some (res, σz) → lv_has ls 8 [(0, .ref (ad 500 0)), (2, .int v2), (3, .int v3), (4, .int v4)] → va_P G vwCl (wld ad ca σ LM) H → va_S A s.heap H locs → W p l e (headSpec wsX10_inOrder ({ frames := 3, cells := 0, slots := 0, locals := 74 })).room s m (([.ref (ad 500 0), .int x1, .int x2] : List Value).toArray) below meth c H locs 0 0 (MQ below (va_Qi (fun r' u => r' = res ∧ u = σz) (ctB G ad ca LM) A) (([.ref (ad 500 0), .int x1, .int x2] : List Value).toArray) s 0 0 A) (F0 m 148 ls []) := by
        intro v2 v3 v4 σ H locs ls hf hl hP hS
        unfold X10_inOrder_c148 at hf
        refine lv_iload_n hx hb dX10_inOrder_148 rfl (lv_at hl 2 rfl) ?_
        refine lv_if_ge (tgt := 154) hx hb dX10_inOrder_149 rfl (fun hc => ?_) (fun hc => ?_)
        · have hf := b_p hf hc
          refine lv_aload_n hx hb dX10_inOrder_154 rfl (lv_at hl 0 rfl) ?_
          refine x_get (k := 500) (n := 0) hx hb hts i_X10 hown hK hP (mk_500 h01) rfl rfl 34 (by decide) rfl k_91 (v := .ref (ad 535 0)) rfl dX10_inOrder_155 ?_
          refine lv_iload_n hx hb dX10_inOrder_158 rfl (lv_at hl 2 rfl) ?_
          refine lv_iconst (v := (1 : Int32)) hx hb dX10_inOrder_159 rfl ?_
          obtain ⟨g10, hf⟩ := gd_e hf
          refine x_zast (k := 535) (n := 0) hx hb hK hD hP hS (mk_535 h01) rfl (by decide) g10 dX10_inOrder_160 (fun H locs hP hS => ?_)
          obtain ⟨σ11, e_σ11, hf⟩ := nm_i hf
          have hP : va_P G vwCl (wld ad ca σ11 LM) H := by rw [e_σ11]; exact hP
          refine lv_iinc (v := (v4 + (1 : Int32))) (lv' := [(4, .int (v4 + (1 : Int32))), (0, .ref (ad 500 0)), (2, .int v2), (3, .int v3)]) hx hb dX10_inOrder_161 hl (k := 3) rfl rfl (by decide) rfl (fun ls hl => ?_)
          refine lv_goto (tgt := 41) hx hb dX10_inOrder_164 rfl ?_
          exact ih41 v2 v3 (v4 + (1 : Int32)) σ11 _ _ _  hf (lv_sub hl [1, 2, 3, 0] rfl) hP hS
        · have hf := b_n hf hc
          refine lv_iconst (v := (-1 : Int32)) hx hb dX10_inOrder_152 rfl ?_
          have hf := Option.some.inj hf
          exact x_iret hx hb hr hlocks hK hP hS (congrArg Prod.fst hf) (congrArg Prod.snd hf) dX10_inOrder_153
      refine lv_iload hx hb dX10_inOrder_41 (lv_at hl 3 rfl) ?_
      refine lv_iload_n hx hb dX10_inOrder_43 rfl (lv_at hl 1 rfl) ?_
      refine lv_icmp_gt (tgt := 167) hx hb dX10_inOrder_44 rfl (fun hc => ?_) (fun hc => ?_)
      · have hf := b_p hf hc
        exact hx41 v3 σ _ _ _  hf (lv_sub hl [2] rfl) hP hS
      · have hf := b_n hf hc
        refine lv_iconst (v := (-1 : Int32)) hx hb dX10_inOrder_47 rfl ?_
        refine lv_istore_n (lv' := [(3, .int (-1 : Int32)), (0, .ref (ad 500 0)), (2, .int v2), (4, .int v4)]) hx hb dX10_inOrder_48 rfl hl (by decide) rfl (fun ls hl => ?_)
        refine lv_aload_n hx hb dX10_inOrder_49 rfl (lv_at hl 1 rfl) ?_
        refine x_get (k := 500) (n := 0) hx hb hts i_X10 hown hK hP (mk_500 h01) rfl rfl 14 (by decide) rfl k_131 (v := .int (gI σ 500 0 14)) rfl dX10_inOrder_50 ?_
        refine lv_iconst (v := (1 : Int32)) hx hb dX10_inOrder_53 rfl ?_
        refine lv_isub hx hb dX10_inOrder_54 ?_
        obtain ⟨y6, e_y6, hf⟩ := nm_i hf
        refine x_nmI e_y6 ?_
        refine lv_istore (lv' := [(5, .int y6), (3, .int (-1 : Int32)), (0, .ref (ad 500 0)), (2, .int v2), (4, .int v4)]) hx hb dX10_inOrder_55 hl (by decide) rfl (fun ls hl => ?_)
        exact l57 _ c148 _ v2 (-1 : Int32) v4 y6 σ _ _ _  hf (lv_sub hl [2, 3, 1, 4, 0] rfl) hP hS
  have c167 : ∀ (v3 : Int32) (σ : PS) (H : Heap) (locs : List Loc) (ls : Array Slot), X10_inOrder_c167  v3 σ = some (res, σz) → lv_has ls 8 [(3, .int v3)] → va_P G vwCl (wld ad ca σ LM) H → va_S A s.heap H locs → W p l e (headSpec wsX10_inOrder ({ frames := 3, cells := 0, slots := 0, locals := 74 })).room s m (([.ref (ad 500 0), .int x1, .int x2] : List Value).toArray) below meth c H locs 0 0 (MQ below (va_Qi (fun r' u => r' = res ∧ u = σz) (ctB G ad ca LM) A) (([.ref (ad 500 0), .int x1, .int x2] : List Value).toArray) s 0 0 A) (F0 m 167 ls []) := by
    intro v3 σ H locs ls hf hl hP hS
    unfold X10_inOrder_c167 at hf
    refine lv_iload_n hx hb dX10_inOrder_167 rfl (lv_at hl 0 rfl) ?_
    have hf := Option.some.inj hf
    exact x_iret hx hb hr hlocks hK hP hS (congrArg Prod.fst hf) (congrArg Prod.snd hf) dX10_inOrder_168
  have c36 : ∀ (v2 : Int32) (σ : PS) (H : Heap) (locs : List Loc) (ls : Array Slot), X10_inOrder_c36  v2 σ = some (res, σz) → lv_has ls 8 [(0, .ref (ad 500 0)), (2, .int v2)] → va_P G vwCl (wld ad ca σ LM) H → va_S A s.heap H locs → W p l e (headSpec wsX10_inOrder ({ frames := 3, cells := 0, slots := 0, locals := 74 })).room s m (([.ref (ad 500 0), .int x1, .int x2] : List Value).toArray) below meth c H locs 0 0 (MQ below (va_Qi (fun r' u => r' = res ∧ u = σz) (ctB G ad ca LM) A) (([.ref (ad 500 0), .int x1, .int x2] : List Value).toArray) s 0 0 A) (F0 m 36 ls []) := by
    intro v2 σ H locs ls hf hl hP hS
    unfold X10_inOrder_c36 at hf
    refine lv_iconst (v := (-1 : Int32)) hx hb dX10_inOrder_36 rfl ?_
    refine lv_istore_n (lv' := [(3, .int (-1 : Int32)), (0, .ref (ad 500 0)), (2, .int v2)]) hx hb dX10_inOrder_37 rfl hl (by decide) rfl (fun ls hl => ?_)
    refine lv_iconst (v := (0 : Int32)) hx hb dX10_inOrder_38 rfl ?_
    refine lv_istore (lv' := [(4, .int (0 : Int32)), (3, .int (-1 : Int32)), (0, .ref (ad 500 0)), (2, .int v2)]) hx hb dX10_inOrder_39 hl (by decide) rfl (fun ls hl => ?_)
    exact l41 _ c167 _ v2 (-1 : Int32) (0 : Int32) σ _ _ _  hf (lv_sub hl [2, 3, 1, 0] rfl) hP hS
  refine lv_iconst (v := (0 : Int32)) hx hb dX10_inOrder_0 rfl ?_
  refine lv_istore_n (lv' := [(3, .int (0 : Int32)), (0, .ref (ad 500 0)), (1, .int x1), (2, .int x2)]) hx hb dX10_inOrder_1 rfl hl (by decide) rfl (fun ls hl => ?_)
  exact l2 _ c36 _ x1 x2 (0 : Int32) σ _ _ _  hf (lv_sub hl [1, 2, 3, 0] rfl) hP hS

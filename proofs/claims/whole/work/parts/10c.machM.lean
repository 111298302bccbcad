theorem h9_X10_order : yX10_order.cls = RX10 ∧ yX10_order.cls ≠ "java/lang/invoke/MethodHandle" ∧ yX10_order.cls ≠ "java/lang/invoke/VarHandle" ∧ (parseMethodDescriptor yX10_order.desc).map (fun d => d.parameters.length) = some 2 := by decide +kernel
set_option maxRecDepth 100000 in
set_option maxHeartbeats 4000000 in
theorem t_X10_order (l : Launch) (G : va_G) (ad : Nat → Nat → Nat) (ca : Nat → ClassId) (A : Nat → Prop)   (x1 : Int32) (x2 : Int32) (hD : DW ad LM A)  (σ : PS) (res : Int32) (σz : PS) (hf : X10_order  x1 x2 σ = some (res, σz)) : Met l yX10_order wsX10_order ({ frames := 4, cells := 0, slots := 0, locals := 101 }) (ctP G ad ca LM σ ZM [.ref (ad 500 0), .int x1, .int x2]) (va_Qi (fun r' u => r' = res ∧ u = σz) (ctB G ad ca LM) A) 0 0 A := by
  refine Met.ofW (cc := cX10_order) (maxL := 3) (ret := (some .int)) (by decide) rfl ?_
  intro p e s m args below meth c s₁ B hml hv
  obtain ⟨rfl, hP, hK, hz⟩ := hv
  have hx := B.exec
  have hb := B.bytes
  have hr := B.returns
  have hts : ∀ w ∈ WW, w.before _ s = true := fun w h => atoms_spec (ws := wsX10_order) B.pre w (List.mem_cons_of_mem _ h)
  have hown : s.vm.findClass RX10 = some m.cls := findClass_of_methodNamed B.named
  have hlocks := B.notSynchronized
  have hS : va_S A s.heap s.heap [] := va_S.rf
  have hl := lv_entry ([.ref (ad 500 0), .int x1, .int x2]) (n := 3) (Nat.le_of_ble_eq_true rfl)
  rw [lg_entry_eq]
  generalize (lg_sl ([.ref (ad 500 0), .int x1, .int x2]) ++ List.replicate (3 - (lg_sl ([.ref (ad 500 0), .int x1, .int x2])).length) Slot.unset).toArray = ls at hl ⊢
  have hl : lv_has ls 3 [(0, .ref (ad 500 0)), (1, .int x1), (2, .int x2)] := hl
  unfold X10_order at hf
  refine lv_aload_n hx hb dX10_order_0 rfl (lv_at hl 0 rfl) ?_
  refine lv_iload_n hx hb dX10_order_1 rfl (lv_at hl 1 rfl) ?_
  obtain ⟨r1, hc1, hf⟩ := bd_e hf
  refine x_ci (va_runV (As := [.int x1]) (rest := []) ⟨hx, hb, hml, hown, hts⟩ (t_X10_isFunction l G ad ca A x1 hD  σ r1 hc1) (cwV 1 hts gr_X10_134 rfl rfl rfl h9_X10_isFunction ⟨Nat.le_of_ble_eq_true rfl, Nat.le_of_ble_eq_true rfl⟩) (x_prV zkM hz hK hP (mk_500 h01) rfl rfl) rfl rfl hl.1 rfl (lv_room (Nat.le_of_ble_eq_true rfl)) dX10_order_2 ⟨Nat.le_of_ble_eq_true rfl, Nat.le_of_ble_eq_true rfl⟩) hS (fun H locs hP hS => ?_)
  refine lv_if_eq (tgt := 30) hx hb dX10_order_5 rfl (fun hc => ?_) (fun hc => ?_)
  · have hf := b_p hf hc
    refine lv_iconst (v := (-1 : Int32)) hx hb dX10_order_30 rfl ?_
    have hf := Option.some.inj hf
    exact x_iret hx hb hr hlocks hK hP hS (congrArg Prod.fst hf) (congrArg Prod.snd hf) dX10_order_31
  · have hf := b_n hf hc
    refine lv_iload_n hx hb dX10_order_8 rfl (lv_at hl 2 rfl) ?_
    refine lv_if_lt (tgt := 30) hx hb dX10_order_9 rfl (fun hc => ?_) (fun hc => ?_)
    · have hf := b_p hf hc
      refine lv_iconst (v := (-1 : Int32)) hx hb dX10_order_30 rfl ?_
      have hf := Option.some.inj hf
      exact x_iret hx hb hr hlocks hK hP hS (congrArg Prod.fst hf) (congrArg Prod.snd hf) dX10_order_31
    · have hf := b_n hf hc
      refine lv_iload_n hx hb dX10_order_12 rfl (lv_at hl 2 rfl) ?_
      refine lv_aload_n hx hb dX10_order_13 rfl (lv_at hl 0 rfl) ?_
      refine lv_iload_n hx hb dX10_order_14 rfl (lv_at hl 1 rfl) ?_
      obtain ⟨r2, hc2, hf⟩ := bd_e hf
      refine x_ci (va_runV (As := [.int x1]) (rest := [.int x2]) ⟨hx, hb, hml, hown, hts⟩ (t_X10_laid l G ad ca A x1 hD  σ r2 hc2) (cwV 1 hts gr_X10_155 rfl rfl rfl h9_X10_laid ⟨Nat.le_of_ble_eq_true rfl, Nat.le_of_ble_eq_true rfl⟩) (x_prV zkM hz hK hP (mk_500 h01) rfl rfl) rfl rfl hl.1 rfl (lv_room (Nat.le_of_ble_eq_true rfl)) dX10_order_15 ⟨Nat.le_of_ble_eq_true rfl, Nat.le_of_ble_eq_true rfl⟩) hS (fun H locs hP hS => ?_)
      refine lv_icmp_ge (tgt := 30) hx hb dX10_order_18 rfl (fun hc => ?_) (fun hc => ?_)
      · have hf := b_p hf hc
        refine lv_iconst (v := (-1 : Int32)) hx hb dX10_order_30 rfl ?_
        have hf := Option.some.inj hf
        exact x_iret hx hb hr hlocks hK hP hS (congrArg Prod.fst hf) (congrArg Prod.snd hf) dX10_order_31
      · have hf := b_n hf hc
        refine lv_aload_n hx hb dX10_order_21 rfl (lv_at hl 0 rfl) ?_
        refine lv_iload_n hx hb dX10_order_22 rfl (lv_at hl 1 rfl) ?_
        refine lv_iload_n hx hb dX10_order_23 rfl (lv_at hl 2 rfl) ?_
        obtain ⟨r3, σ3, hc3, hf⟩ := bp_e hf
        refine x_ci (va_runV (As := [.int x1, .int x2]) (rest := []) ⟨hx, hb, hml, hown, hts⟩ (t_X10_inOrder l G ad ca A x1 x2 hD  σ r3 σ3 hc3) (cwV 2 hts gr_X10_162 rfl rfl rfl h9_X10_inOrder ⟨Nat.le_of_ble_eq_true rfl, Nat.le_of_ble_eq_true rfl⟩) (x_prV zkM hz hK hP (mk_500 h01) rfl rfl) rfl rfl hl.1 rfl (lv_room (Nat.le_of_ble_eq_true rfl)) dX10_order_24 ⟨Nat.le_of_ble_eq_true rfl, Nat.le_of_ble_eq_true rfl⟩) hS (fun H locs hP hS => ?_)
        refine lv_goto (tgt := 31) hx hb dX10_order_27 rfl ?_
        have hf := Option.some.inj hf
        exact x_iret hx hb hr hlocks hK hP hS (congrArg Prod.fst hf) (congrArg Prod.snd hf) dX10_order_31
theorem h9_X10_takesAt : yX10_takesAt.cls = RX10 ∧ yX10_takesAt.cls ≠ "java/lang/invoke/MethodHandle" ∧ yX10_takesAt.cls ≠ "java/lang/invoke/VarHandle" ∧ (parseMethodDescriptor yX10_takesAt.desc).map (fun d => d.parameters.length) = some 2 := by decide +kernel
set_option maxRecDepth 100000 in
set_option maxHeartbeats 4000000 in
theorem t_X10_takesAt (l : Launch) (G : va_G) (ad : Nat → Nat → Nat) (ca : Nat → ClassId) (A : Nat → Prop)   (x1 : Int32) (x2 : Int32) (hD : DW ad LM A)  (σ : PS) (res : Int32) (hf : X10_takesAt  x1 x2 σ = some res) : Met l yX10_takesAt wsX10_takesAt ({ frames := 1, cells := 0, slots := 0, locals := 22 }) (ctP G ad ca LM σ ZM [.ref (ad 500 0), .int x1, .int x2]) (va_Qi (fun r' u => r' = res ∧ u = σ) (ctB G ad ca LM) A) 0 0 A := by
  refine Met.ofW (cc := cX10_takesAt) (maxL := 5) (ret := (some .boolean)) (by decide) rfl ?_
  intro p e s m args below meth c s₁ B hml hv
  obtain ⟨rfl, hP, hK, hz⟩ := hv
  have hx := B.exec
  have hb := B.bytes
  have hr := B.returns
  have hts : ∀ w ∈ WW, w.before _ s = true := fun w h => atoms_spec (ws := wsX10_takesAt) B.pre w (List.mem_cons_of_mem _ h)
  have hown : s.vm.findClass RX10 = some m.cls := findClass_of_methodNamed B.named
  have hlocks := B.notSynchronized
  have hS : va_S A s.heap s.heap [] := va_S.rf
  have k_60 := hts _ kf_X10_60
  have k_63 := hts _ kf_X10_63
  have k_66 := hts _ kf_X10_66
  have k_82 := hts _ kf_X10_82
  have k_85 := hts _ kf_X10_85
  have hl := lv_entry ([.ref (ad 500 0), .int x1, .int x2]) (n := 5) (Nat.le_of_ble_eq_true rfl)
  rw [lg_entry_eq]
  generalize (lg_sl ([.ref (ad 500 0), .int x1, .int x2]) ++ List.replicate (5 - (lg_sl ([.ref (ad 500 0), .int x1, .int x2])).length) Slot.unset).toArray = ls at hl ⊢
  have hl : lv_has ls 5 [(0, .ref (ad 500 0)), (1, .int x1), (2, .int x2)] := hl
  unfold X10_takesAt at hf
  have c35 : ∀ (v1 : Int32) (v2 : Int32) (w0 : Int32) (H : Heap) (locs : List Loc) (ls : Array Slot), X10_takesAt_c35 σ v1 v2 w0 = some res → lv_has ls 5 [(0, .ref (ad 500 0)), (1, .int v1), (2, .int v2)] → va_P G vwCl (wld ad ca σ LM) H → va_S A s.heap H locs → W p l e (headSpec wsX10_takesAt ({ frames := 1, cells := 0, slots := 0, locals := 22 })).room s m (([.ref (ad 500 0), .int x1, .int x2] : List Value).toArray) below meth c H locs 0 0 (MQ below (va_Qi (fun r' u => r' = res ∧ u = σ) (ctB G ad ca LM) A) (([.ref (ad 500 0), .int x1, .int x2] : List Value).toArray) s 0 0 A) (F0 m 35 ls [.int w0]) := by
    intro v1 v2 w0 H locs ls hf hl hP hS
    unfold X10_takesAt_c35 at hf
    refine lv_istore (lv' := [(4, .int w0), (0, .ref (ad 500 0)), (1, .int v1), (2, .int v2)]) hx hb dX10_takesAt_35 hl (by decide) rfl (fun ls hl => ?_)
    refine lv_iload hx hb dX10_takesAt_37 (lv_at hl 0 rfl) ?_
    refine lv_if_eq (tgt := 88) hx hb dX10_takesAt_39 rfl (fun hc => ?_) (fun hc => ?_)
    · have hf := b_p hf hc
      refine lv_iconst (v := (0 : Int32)) hx hb dX10_takesAt_88 rfl ?_
      exact x_zret hx hb hr hlocks hK hP hS (by decide) (Option.some.inj hf) rfl dX10_takesAt_89
    · have hf := b_n hf hc
      refine lv_aload_n hx hb dX10_takesAt_42 rfl (lv_at hl 1 rfl) ?_
      refine x_get (k := 500) (n := 0) hx hb hts i_X10 hown hK hP (mk_500 h01) rfl rfl 32 (by decide) rfl k_85 (v := .ref (ad 533 0)) rfl dX10_takesAt_43 ?_
      refine lv_iload_n hx hb dX10_takesAt_46 rfl (lv_at hl 3 rfl) ?_
      obtain ⟨g3, hf⟩ := gd_e hf
      refine x_lald (k := 533) (n := 0) hx hb hK hP (mk_533 h01) rfl g3 dX10_takesAt_47 ?_
      refine lv_aload_n hx hb dX10_takesAt_48 rfl (lv_at hl 1 rfl) ?_
      refine x_get (k := 500) (n := 0) hx hb hts i_X10 hown hK hP (mk_500 h01) rfl rfl 21 (by decide) rfl k_63 (v := .ref (ad 522 0)) rfl dX10_takesAt_49 ?_
      refine lv_iconst (v := (2 : Int32)) hx hb dX10_takesAt_52 rfl ?_
      refine lv_iload_n hx hb dX10_takesAt_53 rfl (lv_at hl 2 rfl) ?_
      refine lv_imul hx hb dX10_takesAt_54 ?_
      refine lv_iload_n hx hb dX10_takesAt_55 rfl (lv_at hl 3 rfl) ?_
      refine lv_iadd hx hb dX10_takesAt_56 ?_
      obtain ⟨g4, hf⟩ := gd_e hf
      refine x_iald (k := 522) (n := 0) hx hb hK hP (mk_522 h01) rfl g4 dX10_takesAt_57 ?_
      refine lv_i2l hx hb dX10_takesAt_58 rfl ?_
      refine W.lcmp hx hb dX10_takesAt_59 ?_
      refine lv_if_lt (tgt := 88) hx hb dX10_takesAt_60 rfl (fun hc => ?_) (fun hc => ?_)
      · have hf := b_p hf hc
        refine lv_iconst (v := (0 : Int32)) hx hb dX10_takesAt_88 rfl ?_
        exact x_zret hx hb hr hlocks hK hP hS (by decide) (Option.some.inj hf) rfl dX10_takesAt_89
      · have hf := b_n hf hc
        refine lv_aload_n hx hb dX10_takesAt_63 rfl (lv_at hl 1 rfl) ?_
        refine x_get (k := 500) (n := 0) hx hb hts i_X10 hown hK hP (mk_500 h01) rfl rfl 32 (by decide) rfl k_85 (v := .ref (ad 533 0)) rfl dX10_takesAt_64 ?_
        refine lv_iload_n hx hb dX10_takesAt_67 rfl (lv_at hl 3 rfl) ?_
        obtain ⟨g5, hf⟩ := gd_e hf
        refine x_lald (k := 533) (n := 0) hx hb hK hP (mk_533 h01) rfl g5 dX10_takesAt_68 ?_
        refine lv_aload_n hx hb dX10_takesAt_69 rfl (lv_at hl 1 rfl) ?_
        refine x_get (k := 500) (n := 0) hx hb hts i_X10 hown hK hP (mk_500 h01) rfl rfl 22 (by decide) rfl k_66 (v := .ref (ad 523 0)) rfl dX10_takesAt_70 ?_
        refine lv_iconst (v := (2 : Int32)) hx hb dX10_takesAt_73 rfl ?_
        refine lv_iload_n hx hb dX10_takesAt_74 rfl (lv_at hl 2 rfl) ?_
        refine lv_imul hx hb dX10_takesAt_75 ?_
        refine lv_iload_n hx hb dX10_takesAt_76 rfl (lv_at hl 3 rfl) ?_
        refine lv_iadd hx hb dX10_takesAt_77 ?_
        obtain ⟨g6, hf⟩ := gd_e hf
        refine x_iald (k := 523) (n := 0) hx hb hK hP (mk_523 h01) rfl g6 dX10_takesAt_78 ?_
        refine lv_i2l hx hb dX10_takesAt_79 rfl ?_
        refine W.lcmp hx hb dX10_takesAt_80 ?_
        refine lv_if_gt (tgt := 88) hx hb dX10_takesAt_81 rfl (fun hc => ?_) (fun hc => ?_)
        · have hf := b_p hf hc
          refine lv_iconst (v := (0 : Int32)) hx hb dX10_takesAt_88 rfl ?_
          exact x_zret hx hb hr hlocks hK hP hS (by decide) (Option.some.inj hf) rfl dX10_takesAt_89
        · have hf := b_n hf hc
          refine lv_iconst (v := (1 : Int32)) hx hb dX10_takesAt_84 rfl ?_
          refine lv_goto (tgt := 89) hx hb dX10_takesAt_85 rfl ?_
          exact x_zret hx hb hr hlocks hK hP hS (by decide) (Option.some.inj hf) rfl dX10_takesAt_89
  have c30 : ∀ (v1 : Int32) (v2 : Int32) (H : Heap) (locs : List Loc) (ls : Array Slot), X10_takesAt_c30 σ v1 v2 = some res → lv_has ls 5 [(0, .ref (ad 500 0)), (1, .int v1), (2, .int v2)] → va_P G vwCl (wld ad ca σ LM) H → va_S A s.heap H locs → W p l e (headSpec wsX10_takesAt ({ frames := 1, cells := 0, slots := 0, locals := 22 })).room s m (([.ref (ad 500 0), .int x1, .int x2] : List Value).toArray) below meth c H locs 0 0 (MQ below (va_Qi (fun r' u => r' = res ∧ u = σ) (ctB G ad ca LM) A) (([.ref (ad 500 0), .int x1, .int x2] : List Value).toArray) s 0 0 A) (F0 m 30 ls []) := by
    intro v1 v2 H locs ls hf hl hP hS
    unfold X10_takesAt_c30 at hf
    refine lv_iconst (v := (1 : Int32)) hx hb dX10_takesAt_30 rfl ?_
    refine lv_goto (tgt := 35) hx hb dX10_takesAt_31 rfl ?_
    exact c35 v1 v2 (1 : Int32) _ _ _  hf (lv_sub hl [0, 1, 2] rfl) hP hS
  refine lv_aload_n hx hb dX10_takesAt_0 rfl (lv_at hl 0 rfl) ?_
  refine x_get (k := 500) (n := 0) hx hb hts i_X10 hown hK hP (mk_500 h01) rfl rfl 20 (by decide) rfl k_60 (v := .ref (ad 521 0)) rfl dX10_takesAt_1 ?_
  refine lv_iconst (v := (2 : Int32)) hx hb dX10_takesAt_4 rfl ?_
  refine lv_iload_n hx hb dX10_takesAt_5 rfl (lv_at hl 1 rfl) ?_
  refine lv_imul hx hb dX10_takesAt_6 ?_
  refine lv_iload_n hx hb dX10_takesAt_7 rfl (lv_at hl 2 rfl) ?_
  refine lv_iadd hx hb dX10_takesAt_8 ?_
  obtain ⟨g1, hf⟩ := gd_e hf
  refine x_iald (k := 521) (n := 0) hx hb hK hP (mk_521 h01) rfl g1 dX10_takesAt_9 ?_
  obtain ⟨y2, e_y2, hf⟩ := nm_i hf
  refine x_nmI e_y2 ?_
  refine lv_istore_n (lv' := [(3, .int y2), (0, .ref (ad 500 0)), (1, .int x1), (2, .int x2)]) hx hb dX10_takesAt_10 rfl hl (by decide) rfl (fun ls hl => ?_)
  refine lv_iload_n hx hb dX10_takesAt_11 rfl (lv_at hl 0 rfl) ?_
  refine lv_iconst (v := (-1 : Int32)) hx hb dX10_takesAt_12 rfl ?_
  refine lv_icmp_eq (tgt := 30) hx hb dX10_takesAt_13 rfl (fun hc => ?_) (fun hc => ?_)
  · have hf := b_p hf hc
    exact c30 x1 x2 _ _ _  hf (lv_sub hl [1, 2, 3] rfl) hP hS
  · have hf := b_n hf hc
    refine lv_aload_n hx hb dX10_takesAt_16 rfl (lv_at hl 1 rfl) ?_
    refine lv_aload_n hx hb dX10_takesAt_17 rfl (lv_at hl 1 rfl) ?_
    refine x_get (k := 500) (n := 0) hx hb hts i_X10 hown hK hP (mk_500 h01) rfl rfl 31 (by decide) rfl k_82 (v := .ref (ad 532 0)) rfl dX10_takesAt_18 ?_
    refine lv_iload_n hx hb dX10_takesAt_21 rfl (lv_at hl 3 rfl) ?_
    obtain ⟨g7, hf⟩ := gd_e hf
    refine x_iald (k := 532) (n := 0) hx hb hK hP (mk_532 h01) rfl g7 dX10_takesAt_22 ?_
    refine lv_iload_n hx hb dX10_takesAt_23 rfl (lv_at hl 0 rfl) ?_
    obtain ⟨r8, hc8, hf⟩ := bd_e hf
    refine x_ci (va_runV (As := [.int (gI σ 532 0 (ix x2)), .int y2]) (rest := []) ⟨hx, hb, hml, hown, hts⟩ (t_X10_isBelow l G ad ca A (gI σ 532 0 (ix x2)) y2 hD  σ r8 hc8) (cwV 2 hts gr_X10_121 rfl rfl rfl h9_X10_isBelow ⟨Nat.le_of_ble_eq_true rfl, Nat.le_of_ble_eq_true rfl⟩) (x_prV zkM hz hK hP (mk_500 h01) rfl rfl) rfl rfl hl.1 rfl (lv_room (Nat.le_of_ble_eq_true rfl)) dX10_takesAt_24 ⟨Nat.le_of_ble_eq_true rfl, Nat.le_of_ble_eq_true rfl⟩) hS (fun H locs hP hS => ?_)
    refine lv_if_eq (tgt := 34) hx hb dX10_takesAt_27 rfl (fun hc => ?_) (fun hc => ?_)
    · have hf := b_p hf hc
      refine lv_iconst (v := (0 : Int32)) hx hb dX10_takesAt_34 rfl ?_
      exact c35 x1 x2 (0 : Int32) _ _ _  hf (lv_sub hl [1, 2, 3] rfl) hP hS
    · have hf := b_n hf hc
      exact c30 x1 x2 _ _ _  hf (lv_sub hl [1, 2, 3] rfl) hP hS
theorem h9_X10_takes : yX10_takes.cls = RX10 ∧ yX10_takes.cls ≠ "java/lang/invoke/MethodHandle" ∧ yX10_takes.cls ≠ "java/lang/invoke/VarHandle" ∧ (parseMethodDescriptor yX10_takes.desc).map (fun d => d.parameters.length) = some 1 := by decide +kernel
set_option maxRecDepth 100000 in
set_option maxHeartbeats 4000000 in
theorem t_X10_takes (l : Launch) (G : va_G) (ad : Nat → Nat → Nat) (ca : Nat → ClassId) (A : Nat → Prop)   (x1 : Int32) (hD : DW ad LM A)  (σ : PS) (res : Int32) (hf : X10_takes  x1 σ = some res) : Met l yX10_takes wsX10_takes ({ frames := 2, cells := 0, slots := 0, locals := 46 }) (ctP G ad ca LM σ ZM [.ref (ad 500 0), .int x1]) (va_Qi (fun r' u => r' = res ∧ u = σ) (ctB G ad ca LM) A) 0 0 A := by
  refine Met.ofW (cc := cX10_takes) (maxL := 4) (ret := (some .boolean)) (by decide) rfl ?_
  intro p e s m args below meth c s₁ B hml hv
  obtain ⟨rfl, hP, hK, hz⟩ := hv
  have hx := B.exec
  have hb := B.bytes
  have hr := B.returns
  have hts : ∀ w ∈ WW, w.before _ s = true := fun w h => atoms_spec (ws := wsX10_takes) B.pre w (List.mem_cons_of_mem _ h)
  have hown : s.vm.findClass RX10 = some m.cls := findClass_of_methodNamed B.named
  have hlocks := B.notSynchronized
  have hS : va_S A s.heap s.heap [] := va_S.rf
  have k_29 := hts _ kf_X10_29
  have k_45 := hts _ kf_X10_45
  have hl := lv_entry ([.ref (ad 500 0), .int x1]) (n := 4) (Nat.le_of_ble_eq_true rfl)
  rw [lg_entry_eq]
  generalize (lg_sl ([.ref (ad 500 0), .int x1]) ++ List.replicate (4 - (lg_sl ([.ref (ad 500 0), .int x1])).length) Slot.unset).toArray = ls at hl ⊢
  have hl : lv_has ls 4 [(0, .ref (ad 500 0)), (1, .int x1)] := hl
  unfold X10_takes at hf
  have l4 : ∀ (kx4 : Int32 → Option (Int32)), (∀ (v2 : Int32) (H : Heap) (locs : List Loc) (ls : Array Slot), kx4 v2 = some res → lv_has ls 4 [(2, .int v2)] → va_P G vwCl (wld ad ca σ LM) H → va_S A s.heap H locs → W p l e (headSpec wsX10_takes ({ frames := 2, cells := 0, slots := 0, locals := 46 })).room s m (([.ref (ad 500 0), .int x1] : List Value).toArray) below meth c H locs 0 0 (MQ below (va_Qi (fun r' u => r' = res ∧ u = σ) (ctB G ad ca LM) A) (([.ref (ad 500 0), .int x1] : List Value).toArray) s 0 0 A) (F0 m 44 ls [])) → ∀ (n4 : Nat) (v1 : Int32) (v2 : Int32) (v3 : Int32) (H : Heap) (locs : List Loc) (ls : Array Slot), X10_takes_l4 σ kx4 n4 v1 v2 v3 = some res → lv_has ls 4 [(0, .ref (ad 500 0)), (1, .int v1), (2, .int v2), (3, .int v3)] → va_P G vwCl (wld ad ca σ LM) H → va_S A s.heap H locs → W p l e (headSpec wsX10_takes ({ frames := 2, cells := 0, slots := 0, locals := 46 })).room s m (([.ref (ad 500 0), .int x1] : List Value).toArray) below meth c H locs 0 0 (MQ below (va_Qi (fun r' u => r' = res ∧ u = σ) (ctB G ad ca LM) A) (([.ref (ad 500 0), .int x1] : List Value).toArray) s 0 0 A) (F0 m 4 ls []) := by
    intro kx4 hx4 n4
    induction n4 with
    | zero =>
      intro v1 v2 v3 H locs ls hf
      exact absurd hf (by simp [X10_takes_l4])
    | succ n4 ih4 =>
      intro v1 v2 v3 H locs ls hf hl hP hS
      rw [X10_takes_l4.eq_2] at hf
      refine lv_iload_n hx hb dX10_takes_4 rfl (lv_at hl 3 rfl) ?_
      refine lv_aload_n hx hb dX10_takes_5 rfl (lv_at hl 0 rfl) ?_
      refine x_get (k := 500) (n := 0) hx hb hts i_X10 hown hK hP (mk_500 h01) rfl rfl 9 (by decide) rfl k_29 (v := .ref (ad 510 0)) rfl dX10_takes_6 ?_
      refine lv_aload_n hx hb dX10_takes_9 rfl (lv_at hl 0 rfl) ?_
      refine x_get (k := 500) (n := 0) hx hb hts i_X10 hown hK hP (mk_500 h01) rfl rfl 15 (by decide) rfl k_45 (v := .ref (ad 516 0)) rfl dX10_takes_10 ?_
      refine lv_iload_n hx hb dX10_takes_13 rfl (lv_at hl 1 rfl) ?_
      obtain ⟨g1, hf⟩ := gd_e hf
      refine x_iald (k := 516) (n := 0) hx hb hK hP (mk_516 h01) rfl g1 dX10_takes_14 ?_
      obtain ⟨g2, hf⟩ := gd_e hf
      refine x_iald (k := 510) (n := 0) hx hb hK hP (mk_510 h01) rfl g2 dX10_takes_15 ?_
      refine lv_icmp_ge (tgt := 44) hx hb dX10_takes_16 rfl (fun hc => ?_) (fun hc => ?_)
      · have hf := b_p hf hc
        exact hx4 v2 _ _ _  hf (lv_sub hl [2] rfl) hP hS
      · have hf := b_n hf hc
        refine lv_iload_n hx hb dX10_takes_19 rfl (lv_at hl 2 rfl) ?_
        refine lv_if_eq (tgt := 36) hx hb dX10_takes_20 rfl (fun hc => ?_) (fun hc => ?_)
        · have hf := b_p hf hc
          refine lv_iconst (v := (0 : Int32)) hx hb dX10_takes_36 rfl ?_
          refine lv_istore_n (lv' := [(2, .int (0 : Int32)), (0, .ref (ad 500 0)), (1, .int v1), (3, .int v3)]) hx hb dX10_takes_37 rfl hl (by decide) rfl (fun ls hl => ?_)
          refine lv_iinc (v := (v3 + (1 : Int32))) (lv' := [(3, .int (v3 + (1 : Int32))), (2, .int (0 : Int32)), (0, .ref (ad 500 0)), (1, .int v1)]) hx hb dX10_takes_38 hl (k := 3) rfl rfl (by decide) rfl (fun ls hl => ?_)
          refine lv_goto (tgt := 4) hx hb dX10_takes_41 rfl ?_
          exact ih4 v1 (0 : Int32) (v3 + (1 : Int32)) _ _ _  hf (lv_sub hl [2, 3, 1, 0] rfl) hP hS
        · have hf := b_n hf hc
          refine lv_aload_n hx hb dX10_takes_23 rfl (lv_at hl 0 rfl) ?_
          refine lv_iload_n hx hb dX10_takes_24 rfl (lv_at hl 1 rfl) ?_
          refine lv_iload_n hx hb dX10_takes_25 rfl (lv_at hl 3 rfl) ?_
          obtain ⟨r3, hc3, hf⟩ := bd_e hf
          refine x_ci (va_runV (As := [.int v1, .int v3]) (rest := []) ⟨hx, hb, hml, hown, hts⟩ (t_X10_takesAt l G ad ca A v1 v3 hD  σ r3 hc3) (cwV 2 hts gr_X10_165 rfl rfl rfl h9_X10_takesAt ⟨Nat.le_of_ble_eq_true rfl, Nat.le_of_ble_eq_true rfl⟩) (x_prV zkM hz hK hP (mk_500 h01) rfl rfl) rfl rfl hl.1 rfl (lv_room (Nat.le_of_ble_eq_true rfl)) dX10_takes_26 ⟨Nat.le_of_ble_eq_true rfl, Nat.le_of_ble_eq_true rfl⟩) hS (fun H locs hP hS => ?_)
          refine lv_if_eq (tgt := 36) hx hb dX10_takes_29 rfl (fun hc => ?_) (fun hc => ?_)
          · have hf := b_p hf hc
            refine lv_iconst (v := (0 : Int32)) hx hb dX10_takes_36 rfl ?_
            refine lv_istore_n (lv' := [(2, .int (0 : Int32)), (0, .ref (ad 500 0)), (1, .int v1), (3, .int v3)]) hx hb dX10_takes_37 rfl hl (by decide) rfl (fun ls hl => ?_)
            refine lv_iinc (v := (v3 + (1 : Int32))) (lv' := [(3, .int (v3 + (1 : Int32))), (2, .int (0 : Int32)), (0, .ref (ad 500 0)), (1, .int v1)]) hx hb dX10_takes_38 hl (k := 3) rfl rfl (by decide) rfl (fun ls hl => ?_)
            refine lv_goto (tgt := 4) hx hb dX10_takes_41 rfl ?_
            exact ih4 v1 (0 : Int32) (v3 + (1 : Int32)) _ _ _  hf (lv_sub hl [2, 3, 1, 0] rfl) hP hS
          · have hf := b_n hf hc
            refine lv_iconst (v := (1 : Int32)) hx hb dX10_takes_32 rfl ?_
            refine lv_goto (tgt := 37) hx hb dX10_takes_33 rfl ?_
            refine lv_istore_n (lv' := [(2, .int (1 : Int32)), (0, .ref (ad 500 0)), (1, .int v1), (3, .int v3)]) hx hb dX10_takes_37 rfl hl (by decide) rfl (fun ls hl => ?_)
            refine lv_iinc (v := (v3 + (1 : Int32))) (lv' := [(3, .int (v3 + (1 : Int32))), (2, .int (1 : Int32)), (0, .ref (ad 500 0)), (1, .int v1)]) hx hb dX10_takes_38 hl (k := 3) rfl rfl (by decide) rfl (fun ls hl => ?_)
            refine lv_goto (tgt := 4) hx hb dX10_takes_41 rfl ?_
            exact ih4 v1 (1 : Int32) (v3 + (1 : Int32)) _ _ _  hf (lv_sub hl [2, 3, 1, 0] rfl) hP hS
  have c44 : ∀ (v2 : Int32) (H : Heap) (locs : List Loc) (ls : Array Slot), X10_takes_c44 σ v2 = some res → lv_has ls 4 [(2, .int v2)] → va_P G vwCl (wld ad ca σ LM) H → va_S A s.heap H locs → W p l e (headSpec wsX10_takes ({ frames := 2, cells := 0, slots := 0, locals := 46 })).room s m (([.ref (ad 500 0), .int x1] : List Value).toArray) below meth c H locs 0 0 (MQ below (va_Qi (fun r' u => r' = res ∧ u = σ) (ctB G ad ca LM) A) (([.ref (ad 500 0), .int x1] : List Value).toArray) s 0 0 A) (F0 m 44 ls []) := by
    intro v2 H locs ls hf hl hP hS
    unfold X10_takes_c44 at hf
    refine lv_iload_n hx hb dX10_takes_44 rfl (lv_at hl 0 rfl) ?_
    obtain ⟨g4, hf⟩ := gd_e hf
    exact x_zret hx hb hr hlocks hK hP hS g4 (Option.some.inj hf) rfl dX10_takes_45
  refine lv_iconst (v := (1 : Int32)) hx hb dX10_takes_0 rfl ?_
  refine lv_istore_n (lv' := [(2, .int (1 : Int32)), (0, .ref (ad 500 0)), (1, .int x1)]) hx hb dX10_takes_1 rfl hl (by decide) rfl (fun ls hl => ?_)
  refine lv_iconst (v := (0 : Int32)) hx hb dX10_takes_2 rfl ?_
  refine lv_istore_n (lv' := [(3, .int (0 : Int32)), (2, .int (1 : Int32)), (0, .ref (ad 500 0)), (1, .int x1)]) hx hb dX10_takes_3 rfl hl (by decide) rfl (fun ls hl => ?_)
  exact l4 _ c44 _ x1 (1 : Int32) (0 : Int32) _ _ _  hf (lv_sub hl [2, 3, 1, 0] rfl) hP hS
theorem h9_X10_isOffered : yX10_isOffered.cls = RX10 ∧ yX10_isOffered.cls ≠ "java/lang/invoke/MethodHandle" ∧ yX10_isOffered.cls ≠ "java/lang/invoke/VarHandle" ∧ (parseMethodDescriptor yX10_isOffered.desc).map (fun d => d.parameters.length) = some 3 := by decide +kernel
set_option maxRecDepth 100000 in
set_option maxHeartbeats 4000000 in
theorem t_X10_isOffered (l : Launch) (G : va_G) (ad : Nat → Nat → Nat) (ca : Nat → ClassId) (A : Nat → Prop)   (x1 : Int32) (x2 : Int32) (x3 : Int32) (hD : DW ad LM A)  (σ : PS) (res : Int32) (hf : X10_isOffered  x1 x2 x3 σ = some res) : Met l yX10_isOffered wsX10_isOffered ({ frames := 3, cells := 0, slots := 0, locals := 74 }) (ctP G ad ca LM σ ZM [.ref (ad 500 0), .int x1, .int x2, .int x3]) (va_Qi (fun r' u => r' = res ∧ u = σ) (ctB G ad ca LM) A) 0 0 A := by
  refine Met.ofW (cc := cX10_isOffered) (maxL := 4) (ret := (some .boolean)) (by decide) rfl ?_
  intro p e s m args below meth c s₁ B hml hv
  obtain ⟨rfl, hP, hK, hz⟩ := hv
  have hx := B.exec
  have hb := B.bytes
  have hr := B.returns
  have hts : ∀ w ∈ WW, w.before _ s = true := fun w h => atoms_spec (ws := wsX10_isOffered) B.pre w (List.mem_cons_of_mem _ h)
  have hown : s.vm.findClass RX10 = some m.cls := findClass_of_methodNamed B.named
  have hlocks := B.notSynchronized
  have hS : va_S A s.heap s.heap [] := va_S.rf
  have k_54 := hts _ kf_X10_54
  have hl := lv_entry ([.ref (ad 500 0), .int x1, .int x2, .int x3]) (n := 4) (Nat.le_of_ble_eq_true rfl)
  rw [lg_entry_eq]
  generalize (lg_sl ([.ref (ad 500 0), .int x1, .int x2, .int x3]) ++ List.replicate (4 - (lg_sl ([.ref (ad 500 0), .int x1, .int x2, .int x3])).length) Slot.unset).toArray = ls at hl ⊢
  have hl : lv_has ls 4 [(0, .ref (ad 500 0)), (1, .int x1), (2, .int x2), (3, .int x3)] := hl
  unfold X10_isOffered at hf
  refine lv_aload_n hx hb dX10_isOffered_0 rfl (lv_at hl 0 rfl) ?_
  refine lv_iload_n hx hb dX10_isOffered_1 rfl (lv_at hl 1 rfl) ?_
  refine lv_iload_n hx hb dX10_isOffered_2 rfl (lv_at hl 2 rfl) ?_
  obtain ⟨r1, hc1, hf⟩ := bd_e hf
  refine x_ci (va_runV (As := [.int x1, .int x2]) (rest := []) ⟨hx, hb, hml, hown, hts⟩ (t_X10_isLaid l G ad ca A x1 x2 hD  σ r1 hc1) (cwV 2 hts gr_X10_145 rfl rfl rfl h9_X10_isLaid ⟨Nat.le_of_ble_eq_true rfl, Nat.le_of_ble_eq_true rfl⟩) (x_prV zkM hz hK hP (mk_500 h01) rfl rfl) rfl rfl hl.1 rfl (lv_room (Nat.le_of_ble_eq_true rfl)) dX10_isOffered_3 ⟨Nat.le_of_ble_eq_true rfl, Nat.le_of_ble_eq_true rfl⟩) hS (fun H locs hP hS => ?_)
  refine lv_if_eq (tgt := 43) hx hb dX10_isOffered_6 rfl (fun hc => ?_) (fun hc => ?_)
  · have hf := b_p hf hc
    refine lv_iconst (v := (0 : Int32)) hx hb dX10_isOffered_43 rfl ?_
    exact x_zret hx hb hr hlocks hK hP hS (by decide) (Option.some.inj hf) rfl dX10_isOffered_44
  · have hf := b_n hf hc
    refine lv_aload_n hx hb dX10_isOffered_9 rfl (lv_at hl 0 rfl) ?_
    refine x_get (k := 500) (n := 0) hx hb hts i_X10 hown hK hP (mk_500 h01) rfl rfl 18 (by decide) rfl k_54 (v := .ref (ad 519 0)) rfl dX10_isOffered_10 ?_
    refine lv_iload_n hx hb dX10_isOffered_13 rfl (lv_at hl 1 rfl) ?_
    obtain ⟨g2, hf⟩ := gd_e hf
    refine x_zald (k := 519) (n := 0) hx hb hK hP (mk_519 h01) rfl g2 dX10_isOffered_14 ?_
    refine lv_if_ne (tgt := 43) hx hb dX10_isOffered_15 rfl (fun hc => ?_) (fun hc => ?_)
    · have hf := b_n hf hc
      refine lv_iconst (v := (0 : Int32)) hx hb dX10_isOffered_43 rfl ?_
      exact x_zret hx hb hr hlocks hK hP hS (by decide) (Option.some.inj hf) rfl dX10_isOffered_44
    · have hf := b_p hf hc
      refine lv_aload_n hx hb dX10_isOffered_18 rfl (lv_at hl 0 rfl) ?_
      refine lv_iload_n hx hb dX10_isOffered_19 rfl (lv_at hl 1 rfl) ?_
      obtain ⟨r3, hc3, hf⟩ := bd_e hf
      refine x_ci (va_runV (As := [.int x1]) (rest := []) ⟨hx, hb, hml, hown, hts⟩ (t_X10_takes l G ad ca A x1 hD  σ r3 hc3) (cwV 1 hts gr_X10_168 rfl rfl rfl h9_X10_takes ⟨Nat.le_of_ble_eq_true rfl, Nat.le_of_ble_eq_true rfl⟩) (x_prV zkM hz hK hP (mk_500 h01) rfl rfl) rfl rfl hl.1 rfl (lv_room (Nat.le_of_ble_eq_true rfl)) dX10_isOffered_20 ⟨Nat.le_of_ble_eq_true rfl, Nat.le_of_ble_eq_true rfl⟩) hS (fun H locs hP hS => ?_)
      refine lv_if_eq (tgt := 43) hx hb dX10_isOffered_23 rfl (fun hc => ?_) (fun hc => ?_)
      · have hf := b_p hf hc
        refine lv_iconst (v := (0 : Int32)) hx hb dX10_isOffered_43 rfl ?_
        exact x_zret hx hb hr hlocks hK hP hS (by decide) (Option.some.inj hf) rfl dX10_isOffered_44
      · have hf := b_n hf hc
        refine lv_iload_n hx hb dX10_isOffered_26 rfl (lv_at hl 3 rfl) ?_
        refine lv_if_lt (tgt := 39) hx hb dX10_isOffered_27 rfl (fun hc => ?_) (fun hc => ?_)
        · have hf := b_p hf hc
          refine lv_iconst (v := (1 : Int32)) hx hb dX10_isOffered_39 rfl ?_
          refine lv_goto (tgt := 44) hx hb dX10_isOffered_40 rfl ?_
          exact x_zret hx hb hr hlocks hK hP hS (by decide) (Option.some.inj hf) rfl dX10_isOffered_44
        · have hf := b_n hf hc
          refine lv_aload_n hx hb dX10_isOffered_30 rfl (lv_at hl 0 rfl) ?_
          refine lv_iload_n hx hb dX10_isOffered_31 rfl (lv_at hl 3 rfl) ?_
          refine lv_iload_n hx hb dX10_isOffered_32 rfl (lv_at hl 1 rfl) ?_
          obtain ⟨r4, hc4, hf⟩ := bd_e hf
          refine x_ci (va_runV (As := [.int x3, .int x1]) (rest := []) ⟨hx, hb, hml, hown, hts⟩ (t_X10_isMore l G ad ca A x3 x1 hD  σ r4 hc4) (cwV 2 hts gr_X10_159 rfl rfl rfl h9_X10_isMore ⟨Nat.le_of_ble_eq_true rfl, Nat.le_of_ble_eq_true rfl⟩) (x_prV zkM hz hK hP (mk_500 h01) rfl rfl) rfl rfl hl.1 rfl (lv_room (Nat.le_of_ble_eq_true rfl)) dX10_isOffered_33 ⟨Nat.le_of_ble_eq_true rfl, Nat.le_of_ble_eq_true rfl⟩) hS (fun H locs hP hS => ?_)
          refine lv_if_eq (tgt := 43) hx hb dX10_isOffered_36 rfl (fun hc => ?_) (fun hc => ?_)
          · have hf := b_p hf hc
            refine lv_iconst (v := (0 : Int32)) hx hb dX10_isOffered_43 rfl ?_
            exact x_zret hx hb hr hlocks hK hP hS (by decide) (Option.some.inj hf) rfl dX10_isOffered_44
          · have hf := b_n hf hc
            refine lv_iconst (v := (1 : Int32)) hx hb dX10_isOffered_39 rfl ?_
            refine lv_goto (tgt := 44) hx hb dX10_isOffered_40 rfl ?_
            exact x_zret hx hb hr hlocks hK hP hS (by decide) (Option.some.inj hf) rfl dX10_isOffered_44
theorem h9_X10_offered : yX10_offered.cls = RX10 ∧ yX10_offered.cls ≠ "java/lang/invoke/MethodHandle" ∧ yX10_offered.cls ≠ "java/lang/invoke/VarHandle" ∧ (parseMethodDescriptor yX10_offered.desc).map (fun d => d.parameters.length) = some 2 := by decide +kernel
set_option maxRecDepth 100000 in
set_option maxHeartbeats 4000000 in
theorem t_X10_offered (l : Launch) (G : va_G) (ad : Nat → Nat → Nat) (ca : Nat → ClassId) (A : Nat → Prop)   (x1 : Int32) (x2 : Int32) (hD : DW ad LM A)  (σ : PS) (res : Int32) (hf : X10_offered  x1 x2 σ = some res) : Met l yX10_offered wsX10_offered ({ frames := 4, cells := 0, slots := 0, locals := 97 }) (ctP G ad ca LM σ ZM [.ref (ad 500 0), .int x1, .int x2]) (va_Qi (fun r' u => r' = res ∧ u = σ) (ctB G ad ca LM) A) 0 0 A := by
  refine Met.ofW (cc := cX10_offered) (maxL := 5) (ret := (some .int)) (by decide) rfl ?_
  intro p e s m args below meth c s₁ B hml hv
  obtain ⟨rfl, hP, hK, hz⟩ := hv
  have hx := B.exec
  have hb := B.bytes
  have hr := B.returns
  have hts : ∀ w ∈ WW, w.before _ s = true := fun w h => atoms_spec (ws := wsX10_offered) B.pre w (List.mem_cons_of_mem _ h)
  have hown : s.vm.findClass RX10 = some m.cls := findClass_of_methodNamed B.named
  have hlocks := B.notSynchronized
  have hS : va_S A s.heap s.heap [] := va_S.rf
  have k_131 := hts _ kf_X10_131
  have hl := lv_entry ([.ref (ad 500 0), .int x1, .int x2]) (n := 5) (Nat.le_of_ble_eq_true rfl)
  rw [lg_entry_eq]
  generalize (lg_sl ([.ref (ad 500 0), .int x1, .int x2]) ++ List.replicate (5 - (lg_sl ([.ref (ad 500 0), .int x1, .int x2])).length) Slot.unset).toArray = ls at hl ⊢
  have hl : lv_has ls 5 [(0, .ref (ad 500 0)), (1, .int x1), (2, .int x2)] := hl
  unfold X10_offered at hf
  have l5 : ∀ (kx5 : Int32 → Option (Int32)), (∀ (v3 : Int32) (H : Heap) (locs : List Loc) (ls : Array Slot), kx5 v3 = some res → lv_has ls 5 [(3, .int v3)] → va_P G vwCl (wld ad ca σ LM) H → va_S A s.heap H locs → W p l e (headSpec wsX10_offered ({ frames := 4, cells := 0, slots := 0, locals := 97 })).room s m (([.ref (ad 500 0), .int x1, .int x2] : List Value).toArray) below meth c H locs 0 0 (MQ below (va_Qi (fun r' u => r' = res ∧ u = σ) (ctB G ad ca LM) A) (([.ref (ad 500 0), .int x1, .int x2] : List Value).toArray) s 0 0 A) (F0 m 39 ls [])) → ∀ (n5 : Nat) (v1 : Int32) (v2 : Int32) (v3 : Int32) (v4 : Int32) (H : Heap) (locs : List Loc) (ls : Array Slot), X10_offered_l5 σ kx5 n5 v1 v2 v3 v4 = some res → lv_has ls 5 [(0, .ref (ad 500 0)), (1, .int v1), (2, .int v2), (3, .int v3), (4, .int v4)] → va_P G vwCl (wld ad ca σ LM) H → va_S A s.heap H locs → W p l e (headSpec wsX10_offered ({ frames := 4, cells := 0, slots := 0, locals := 97 })).room s m (([.ref (ad 500 0), .int x1, .int x2] : List Value).toArray) below meth c H locs 0 0 (MQ below (va_Qi (fun r' u => r' = res ∧ u = σ) (ctB G ad ca LM) A) (([.ref (ad 500 0), .int x1, .int x2] : List Value).toArray) s 0 0 A) (F0 m 5 ls []) := by
    intro kx5 hx5 n5
    induction n5 with
    | zero =>
      intro v1 v2 v3 v4 H locs ls hf
      exact absurd hf (by simp [X10_offered_l5])
    | succ n5 ih5 =>
      intro v1 v2 v3 v4 H locs ls hf hl hP hS
      rw [X10_offered_l5.eq_2] at hf
      refine lv_iload hx hb dX10_offered_5 (lv_at hl 4 rfl) ?_
      refine lv_aload_n hx hb dX10_offered_7 rfl (lv_at hl 0 rfl) ?_
      refine x_get (k := 500) (n := 0) hx hb hts i_X10 hown hK hP (mk_500 h01) rfl rfl 14 (by decide) rfl k_131 (v := .int (gI σ 500 0 14)) rfl dX10_offered_8 ?_
      refine lv_icmp_ge (tgt := 39) hx hb dX10_offered_11 rfl (fun hc => ?_) (fun hc => ?_)
      · have hf := b_p hf hc
        exact hx5 v3 _ _ _  hf (lv_sub hl [3] rfl) hP hS
      · have hf := b_n hf hc
        refine lv_iload_n hx hb dX10_offered_14 rfl (lv_at hl 3 rfl) ?_
        refine lv_aload_n hx hb dX10_offered_15 rfl (lv_at hl 0 rfl) ?_
        refine lv_iload hx hb dX10_offered_16 (lv_at hl 4 rfl) ?_
        refine lv_iload_n hx hb dX10_offered_18 rfl (lv_at hl 1 rfl) ?_
        refine lv_iload_n hx hb dX10_offered_19 rfl (lv_at hl 2 rfl) ?_
        obtain ⟨r1, hc1, hf⟩ := bd_e hf
        refine x_ci (va_runV (As := [.int v4, .int v1, .int v2]) (rest := [.int v3]) ⟨hx, hb, hml, hown, hts⟩ (t_X10_isOffered l G ad ca A v4 v1 v2 hD  σ r1 hc1) (cwV 3 hts gr_X10_171 rfl rfl rfl h9_X10_isOffered ⟨Nat.le_of_ble_eq_true rfl, Nat.le_of_ble_eq_true rfl⟩) (x_prV zkM hz hK hP (mk_500 h01) rfl rfl) rfl rfl hl.1 rfl (lv_room (Nat.le_of_ble_eq_true rfl)) dX10_offered_20 ⟨Nat.le_of_ble_eq_true rfl, Nat.le_of_ble_eq_true rfl⟩) hS (fun H locs hP hS => ?_)
        refine lv_if_eq (tgt := 30) hx hb dX10_offered_23 rfl (fun hc => ?_) (fun hc => ?_)
        · have hf := b_p hf hc
          refine lv_iconst (v := (0 : Int32)) hx hb dX10_offered_30 rfl ?_
          refine lv_iadd hx hb dX10_offered_31 ?_
          obtain ⟨y2, e_y2, hf⟩ := nm_i hf
          refine x_nmI e_y2 ?_
          refine lv_istore_n (lv' := [(3, .int y2), (0, .ref (ad 500 0)), (1, .int v1), (2, .int v2), (4, .int v4)]) hx hb dX10_offered_32 rfl hl (by decide) rfl (fun ls hl => ?_)
          refine lv_iinc (v := (v4 + (1 : Int32))) (lv' := [(4, .int (v4 + (1 : Int32))), (3, .int y2), (0, .ref (ad 500 0)), (1, .int v1), (2, .int v2)]) hx hb dX10_offered_33 hl (k := 4) rfl rfl (by decide) rfl (fun ls hl => ?_)
          refine lv_goto (tgt := 5) hx hb dX10_offered_36 rfl ?_
          exact ih5 v1 v2 y2 (v4 + (1 : Int32)) _ _ _  hf (lv_sub hl [2, 3, 4, 1, 0] rfl) hP hS
        · have hf := b_n hf hc
          refine lv_iconst (v := (1 : Int32)) hx hb dX10_offered_26 rfl ?_
          refine lv_goto (tgt := 31) hx hb dX10_offered_27 rfl ?_
          refine lv_iadd hx hb dX10_offered_31 ?_
          obtain ⟨y3, e_y3, hf⟩ := nm_i hf
          refine x_nmI e_y3 ?_
          refine lv_istore_n (lv' := [(3, .int y3), (0, .ref (ad 500 0)), (1, .int v1), (2, .int v2), (4, .int v4)]) hx hb dX10_offered_32 rfl hl (by decide) rfl (fun ls hl => ?_)
          refine lv_iinc (v := (v4 + (1 : Int32))) (lv' := [(4, .int (v4 + (1 : Int32))), (3, .int y3), (0, .ref (ad 500 0)), (1, .int v1), (2, .int v2)]) hx hb dX10_offered_33 hl (k := 4) rfl rfl (by decide) rfl (fun ls hl => ?_)
          refine lv_goto (tgt := 5) hx hb dX10_offered_36 rfl ?_
          exact ih5 v1 v2 y3 (v4 + (1 : Int32)) _ _ _  hf (lv_sub hl [2, 3, 4, 1, 0] rfl) hP hS
  have c39 : ∀ (v3 : Int32) (H : Heap) (locs : List Loc) (ls : Array Slot), X10_offered_c39 σ v3 = some res → lv_has ls 5 [(3, .int v3)] → va_P G vwCl (wld ad ca σ LM) H → va_S A s.heap H locs → W p l e (headSpec wsX10_offered ({ frames := 4, cells := 0, slots := 0, locals := 97 })).room s m (([.ref (ad 500 0), .int x1, .int x2] : List Value).toArray) below meth c H locs 0 0 (MQ below (va_Qi (fun r' u => r' = res ∧ u = σ) (ctB G ad ca LM) A) (([.ref (ad 500 0), .int x1, .int x2] : List Value).toArray) s 0 0 A) (F0 m 39 ls []) := by
    intro v3 H locs ls hf hl hP hS
    unfold X10_offered_c39 at hf
    refine lv_iload_n hx hb dX10_offered_39 rfl (lv_at hl 0 rfl) ?_
    exact x_iret hx hb hr hlocks hK hP hS (Option.some.inj hf) rfl dX10_offered_40
  refine lv_iconst (v := (0 : Int32)) hx hb dX10_offered_0 rfl ?_
  refine lv_istore_n (lv' := [(3, .int (0 : Int32)), (0, .ref (ad 500 0)), (1, .int x1), (2, .int x2)]) hx hb dX10_offered_1 rfl hl (by decide) rfl (fun ls hl => ?_)
  refine lv_iconst (v := (0 : Int32)) hx hb dX10_offered_2 rfl ?_
  refine lv_istore (lv' := [(4, .int (0 : Int32)), (3, .int (0 : Int32)), (0, .ref (ad 500 0)), (1, .int x1), (2, .int x2)]) hx hb dX10_offered_3 hl (by decide) rfl (fun ls hl => ?_)
  exact l5 _ c39 _ x1 x2 (0 : Int32) (0 : Int32) _ _ _  hf (lv_sub hl [2, 3, 4, 1, 0] rfl) hP hS
theorem h9_X10_chosen : yX10_chosen.cls = RX10 ∧ yX10_chosen.cls ≠ "java/lang/invoke/MethodHandle" ∧ yX10_chosen.cls ≠ "java/lang/invoke/VarHandle" ∧ (parseMethodDescriptor yX10_chosen.desc).map (fun d => d.parameters.length) = some 2 := by decide +kernel
set_option maxRecDepth 100000 in
set_option maxHeartbeats 4000000 in
theorem t_X10_chosen (l : Launch) (G : va_G) (ad : Nat → Nat → Nat) (ca : Nat → ClassId) (A : Nat → Prop)   (x1 : Int32) (x2 : Int32) (hD : DW ad LM A)  (σ : PS) (res : Int32) (hf : X10_chosen  x1 x2 σ = some res) : Met l yX10_chosen wsX10_chosen ({ frames := 4, cells := 0, slots := 0, locals := 97 }) (ctP G ad ca LM σ ZM [.ref (ad 500 0), .int x1, .int x2]) (va_Qi (fun r' u => r' = res ∧ u = σ) (ctB G ad ca LM) A) 0 0 A := by
  refine Met.ofW (cc := cX10_chosen) (maxL := 7) (ret := (some .int)) (by decide) rfl ?_
  intro p e s m args below meth c s₁ B hml hv
  obtain ⟨rfl, hP, hK, hz⟩ := hv
  have hx := B.exec
  have hb := B.bytes
  have hr := B.returns
  have hts : ∀ w ∈ WW, w.before _ s = true := fun w h => atoms_spec (ws := wsX10_chosen) B.pre w (List.mem_cons_of_mem _ h)
  have hown : s.vm.findClass RX10 = some m.cls := findClass_of_methodNamed B.named
  have hlocks := B.notSynchronized
  have hS : va_S A s.heap s.heap [] := va_S.rf
  have k_131 := hts _ kf_X10_131
  have hl := lv_entry ([.ref (ad 500 0), .int x1, .int x2]) (n := 7) (Nat.le_of_ble_eq_true rfl)
  rw [lg_entry_eq]
  generalize (lg_sl ([.ref (ad 500 0), .int x1, .int x2]) ++ List.replicate (7 - (lg_sl ([.ref (ad 500 0), .int x1, .int x2])).length) Slot.unset).toArray = ls at hl ⊢
  have hl : lv_has ls 7 [(0, .ref (ad 500 0)), (1, .int x1), (2, .int x2)] := hl
  unfold X10_chosen at hf
  have l5 : ∀ (kx5 : Int32 → Option (Int32)), (∀ (v3 : Int32) (H : Heap) (locs : List Loc) (ls : Array Slot), kx5 v3 = some res → lv_has ls 7 [(3, .int v3)] → va_P G vwCl (wld ad ca σ LM) H → va_S A s.heap H locs → W p l e (headSpec wsX10_chosen ({ frames := 4, cells := 0, slots := 0, locals := 97 })).room s m (([.ref (ad 500 0), .int x1, .int x2] : List Value).toArray) below meth c H locs 0 0 (MQ below (va_Qi (fun r' u => r' = res ∧ u = σ) (ctB G ad ca LM) A) (([.ref (ad 500 0), .int x1, .int x2] : List Value).toArray) s 0 0 A) (F0 m 105 ls [])) → ∀ (n5 : Nat) (v1 : Int32) (v2 : Int32) (v3 : Int32) (v4 : Int32) (H : Heap) (locs : List Loc) (ls : Array Slot), X10_chosen_l5 σ kx5 n5 v1 v2 v3 v4 = some res → lv_has ls 7 [(0, .ref (ad 500 0)), (1, .int v1), (2, .int v2), (3, .int v3), (4, .int v4)] → va_P G vwCl (wld ad ca σ LM) H → va_S A s.heap H locs → W p l e (headSpec wsX10_chosen ({ frames := 4, cells := 0, slots := 0, locals := 97 })).room s m (([.ref (ad 500 0), .int x1, .int x2] : List Value).toArray) below meth c H locs 0 0 (MQ below (va_Qi (fun r' u => r' = res ∧ u = σ) (ctB G ad ca LM) A) (([.ref (ad 500 0), .int x1, .int x2] : List Value).toArray) s 0 0 A) (F0 m 5 ls []) := by
    intro kx5 hx5 n5
    induction n5 with
    | zero =>
      intro v1 v2 v3 v4 H locs ls hf
      exact absurd hf (by simp [X10_chosen_l5])
    | succ n5 ih5 =>
      intro v1 v2 v3 v4 H locs ls hf hl hP hS
      rw [X10_chosen_l5.eq_2] at hf
      have l31 : ∀ (kx31 : Int32 → Int32 → Int32 → Int32 → Int32 → Option (Int32)), (∀ (v1 : Int32) (v2 : Int32) (v3 : Int32) (v4 : Int32) (v5 : Int32) (H : Heap) (locs : List Loc) (ls : Array Slot), kx31 v1 v2 v3 v4 v5 = some res → lv_has ls 7 [(0, .ref (ad 500 0)), (1, .int v1), (2, .int v2), (3, .int v3), (4, .int v4), (5, .int v5)] → va_P G vwCl (wld ad ca σ LM) H → va_S A s.heap H locs → W p l e (headSpec wsX10_chosen ({ frames := 4, cells := 0, slots := 0, locals := 97 })).room s m (([.ref (ad 500 0), .int x1, .int x2] : List Value).toArray) below meth c H locs 0 0 (MQ below (va_Qi (fun r' u => r' = res ∧ u = σ) (ctB G ad ca LM) A) (([.ref (ad 500 0), .int x1, .int x2] : List Value).toArray) s 0 0 A) (F0 m 87 ls [])) → ∀ (n31 : Nat) (v1 : Int32) (v2 : Int32) (v3 : Int32) (v4 : Int32) (v5 : Int32) (v6 : Int32) (H : Heap) (locs : List Loc) (ls : Array Slot), X10_chosen_l31 σ kx31 n31 v1 v2 v3 v4 v5 v6 = some res → lv_has ls 7 [(0, .ref (ad 500 0)), (1, .int v1), (2, .int v2), (3, .int v3), (4, .int v4), (5, .int v5), (6, .int v6)] → va_P G vwCl (wld ad ca σ LM) H → va_S A s.heap H locs → W p l e (headSpec wsX10_chosen ({ frames := 4, cells := 0, slots := 0, locals := 97 })).room s m (([.ref (ad 500 0), .int x1, .int x2] : List Value).toArray) below meth c H locs 0 0 (MQ below (va_Qi (fun r' u => r' = res ∧ u = σ) (ctB G ad ca LM) A) (([.ref (ad 500 0), .int x1, .int x2] : List Value).toArray) s 0 0 A) (F0 m 31 ls []) := by
        intro kx31 hx31 n31
        induction n31 with
        | zero =>
          intro v1 v2 v3 v4 v5 v6 H locs ls hf
          exact absurd hf (by simp [X10_chosen_l31])
        | succ n31 ih31 =>
          intro v1 v2 v3 v4 v5 v6 H locs ls hf hl hP hS
          rw [X10_chosen_l31.eq_2] at hf
          refine lv_iload hx hb dX10_chosen_31 (lv_at hl 6 rfl) ?_
          refine lv_aload_n hx hb dX10_chosen_33 rfl (lv_at hl 0 rfl) ?_
          refine x_get (k := 500) (n := 0) hx hb hts i_X10 hown hK hP (mk_500 h01) rfl rfl 14 (by decide) rfl k_131 (v := .int (gI σ 500 0 14)) rfl dX10_chosen_34 ?_
          refine lv_icmp_ge (tgt := 87) hx hb dX10_chosen_37 rfl (fun hc => ?_) (fun hc => ?_)
          · have hf := b_p hf hc
            exact hx31 v1 v2 v3 v4 v5 _ _ _  hf (lv_sub hl [0, 1, 2, 3, 4, 5] rfl) hP hS
          · have hf := b_n hf hc
            refine lv_iload hx hb dX10_chosen_40 (lv_at hl 5 rfl) ?_
            refine lv_if_eq (tgt := 78) hx hb dX10_chosen_42 rfl (fun hc => ?_) (fun hc => ?_)
            · have hf := b_p hf hc
              refine lv_iconst (v := (0 : Int32)) hx hb dX10_chosen_78 rfl ?_
              refine lv_istore (lv' := [(5, .int (0 : Int32)), (0, .ref (ad 500 0)), (1, .int v1), (2, .int v2), (3, .int v3), (4, .int v4), (6, .int v6)]) hx hb dX10_chosen_79 hl (by decide) rfl (fun ls hl => ?_)
              refine lv_iinc (v := (v6 + (1 : Int32))) (lv' := [(6, .int (v6 + (1 : Int32))), (5, .int (0 : Int32)), (0, .ref (ad 500 0)), (1, .int v1), (2, .int v2), (3, .int v3), (4, .int v4)]) hx hb dX10_chosen_81 hl (k := 6) rfl rfl (by decide) rfl (fun ls hl => ?_)
              refine lv_goto (tgt := 31) hx hb dX10_chosen_84 rfl ?_
              exact ih31 v1 v2 v3 v4 (0 : Int32) (v6 + (1 : Int32)) _ _ _  hf (lv_sub hl [2, 3, 4, 5, 6, 1, 0] rfl) hP hS
            · have hf := b_n hf hc
              refine lv_iload hx hb dX10_chosen_45 (lv_at hl 6 rfl) ?_
              refine lv_iload hx hb dX10_chosen_47 (lv_at hl 4 rfl) ?_
              refine lv_icmp_eq (tgt := 74) hx hb dX10_chosen_49 rfl (fun hc => ?_) (fun hc => ?_)
              · have hf := b_p hf hc
                refine lv_iconst (v := (1 : Int32)) hx hb dX10_chosen_74 rfl ?_
                refine lv_goto (tgt := 79) hx hb dX10_chosen_75 rfl ?_
                refine lv_istore (lv' := [(5, .int (1 : Int32)), (0, .ref (ad 500 0)), (1, .int v1), (2, .int v2), (3, .int v3), (4, .int v4), (6, .int v6)]) hx hb dX10_chosen_79 hl (by decide) rfl (fun ls hl => ?_)
                refine lv_iinc (v := (v6 + (1 : Int32))) (lv' := [(6, .int (v6 + (1 : Int32))), (5, .int (1 : Int32)), (0, .ref (ad 500 0)), (1, .int v1), (2, .int v2), (3, .int v3), (4, .int v4)]) hx hb dX10_chosen_81 hl (k := 6) rfl rfl (by decide) rfl (fun ls hl => ?_)
                refine lv_goto (tgt := 31) hx hb dX10_chosen_84 rfl ?_
                exact ih31 v1 v2 v3 v4 (1 : Int32) (v6 + (1 : Int32)) _ _ _  hf (lv_sub hl [2, 3, 4, 5, 6, 1, 0] rfl) hP hS
              · have hf := b_n hf hc
                refine lv_aload_n hx hb dX10_chosen_52 rfl (lv_at hl 0 rfl) ?_
                refine lv_iload hx hb dX10_chosen_53 (lv_at hl 6 rfl) ?_
                refine lv_iload_n hx hb dX10_chosen_55 rfl (lv_at hl 1 rfl) ?_
                refine lv_iload_n hx hb dX10_chosen_56 rfl (lv_at hl 2 rfl) ?_
                obtain ⟨r2, hc2, hf⟩ := bd_e hf
                refine x_ci (va_runV (As := [.int v6, .int v1, .int v2]) (rest := []) ⟨hx, hb, hml, hown, hts⟩ (t_X10_isOffered l G ad ca A v6 v1 v2 hD  σ r2 hc2) (cwV 3 hts gr_X10_171 rfl rfl rfl h9_X10_isOffered ⟨Nat.le_of_ble_eq_true rfl, Nat.le_of_ble_eq_true rfl⟩) (x_prV zkM hz hK hP (mk_500 h01) rfl rfl) rfl rfl hl.1 rfl (lv_room (Nat.le_of_ble_eq_true rfl)) dX10_chosen_57 ⟨Nat.le_of_ble_eq_true rfl, Nat.le_of_ble_eq_true rfl⟩) hS (fun H locs hP hS => ?_)
                refine lv_if_eq (tgt := 74) hx hb dX10_chosen_60 rfl (fun hc => ?_) (fun hc => ?_)
                · have hf := b_p hf hc
                  refine lv_iconst (v := (1 : Int32)) hx hb dX10_chosen_74 rfl ?_
                  refine lv_goto (tgt := 79) hx hb dX10_chosen_75 rfl ?_
                  refine lv_istore (lv' := [(5, .int (1 : Int32)), (0, .ref (ad 500 0)), (1, .int v1), (2, .int v2), (3, .int v3), (4, .int v4), (6, .int v6)]) hx hb dX10_chosen_79 hl (by decide) rfl (fun ls hl => ?_)
                  refine lv_iinc (v := (v6 + (1 : Int32))) (lv' := [(6, .int (v6 + (1 : Int32))), (5, .int (1 : Int32)), (0, .ref (ad 500 0)), (1, .int v1), (2, .int v2), (3, .int v3), (4, .int v4)]) hx hb dX10_chosen_81 hl (k := 6) rfl rfl (by decide) rfl (fun ls hl => ?_)
                  refine lv_goto (tgt := 31) hx hb dX10_chosen_84 rfl ?_
                  exact ih31 v1 v2 v3 v4 (1 : Int32) (v6 + (1 : Int32)) _ _ _  hf (lv_sub hl [2, 3, 4, 5, 6, 1, 0] rfl) hP hS
                · have hf := b_n hf hc
                  refine lv_aload_n hx hb dX10_chosen_63 rfl (lv_at hl 0 rfl) ?_
                  refine lv_iload hx hb dX10_chosen_64 (lv_at hl 4 rfl) ?_
                  refine lv_iload hx hb dX10_chosen_66 (lv_at hl 6 rfl) ?_
                  obtain ⟨r3, hc3, hf⟩ := bd_e hf
                  refine x_ci (va_runV (As := [.int v4, .int v6]) (rest := []) ⟨hx, hb, hml, hown, hts⟩ (t_X10_isMore l G ad ca A v4 v6 hD  σ r3 hc3) (cwV 2 hts gr_X10_159 rfl rfl rfl h9_X10_isMore ⟨Nat.le_of_ble_eq_true rfl, Nat.le_of_ble_eq_true rfl⟩) (x_prV zkM hz hK hP (mk_500 h01) rfl rfl) rfl rfl hl.1 rfl (lv_room (Nat.le_of_ble_eq_true rfl)) dX10_chosen_68 ⟨Nat.le_of_ble_eq_true rfl, Nat.le_of_ble_eq_true rfl⟩) hS (fun H locs hP hS => ?_)
                  refine lv_if_eq (tgt := 78) hx hb dX10_chosen_71 rfl (fun hc => ?_) (fun hc => ?_)
                  · have hf := b_p hf hc
                    refine lv_iconst (v := (0 : Int32)) hx hb dX10_chosen_78 rfl ?_
                    refine lv_istore (lv' := [(5, .int (0 : Int32)), (0, .ref (ad 500 0)), (1, .int v1), (2, .int v2), (3, .int v3), (4, .int v4), (6, .int v6)]) hx hb dX10_chosen_79 hl (by decide) rfl (fun ls hl => ?_)
                    refine lv_iinc (v := (v6 + (1 : Int32))) (lv' := [(6, .int (v6 + (1 : Int32))), (5, .int (0 : Int32)), (0, .ref (ad 500 0)), (1, .int v1), (2, .int v2), (3, .int v3), (4, .int v4)]) hx hb dX10_chosen_81 hl (k := 6) rfl rfl (by decide) rfl (fun ls hl => ?_)
                    refine lv_goto (tgt := 31) hx hb dX10_chosen_84 rfl ?_
                    exact ih31 v1 v2 v3 v4 (0 : Int32) (v6 + (1 : Int32)) _ _ _  hf (lv_sub hl [2, 3, 4, 5, 6, 1, 0] rfl) hP hS
                  · have hf := b_n hf hc
                    refine lv_iconst (v := (1 : Int32)) hx hb dX10_chosen_74 rfl ?_
                    refine lv_goto (tgt := 79) hx hb dX10_chosen_75 rfl ?_
                    refine lv_istore (lv' := [(5, .int (1 : Int32)), (0, .ref (ad 500 0)), (1, .int v1), (2, .int v2), (3, .int v3), (4, .int v4), (6, .int v6)]) hx hb dX10_chosen_79 hl (by decide) rfl (fun ls hl => ?_)
                    refine lv_iinc (v := (v6 + (1 : Int32))) (lv' := [(6, .int (v6 + (1 : Int32))), (5, .int (1 : Int32)), (0, .ref (ad 500 0)), (1, .int v1), (2, .int v2), (3, .int v3), (4, .int v4)]) hx hb dX10_chosen_81 hl (k := 6) rfl rfl (by decide) rfl (fun ls hl => ?_)
                    refine lv_goto (tgt := 31) hx hb dX10_chosen_84 rfl ?_
                    exact ih31 v1 v2 v3 v4 (1 : Int32) (v6 + (1 : Int32)) _ _ _  hf (lv_sub hl [2, 3, 4, 5, 6, 1, 0] rfl) hP hS
      have c87 : ∀ (v1 : Int32) (v2 : Int32) (v3 : Int32) (v4 : Int32) (v5 : Int32) (H : Heap) (locs : List Loc) (ls : Array Slot), X10_chosen_c87 σ (X10_chosen_l5 σ kx5 n5) kx5 v1 v2 v3 v4 v5 = some res → lv_has ls 7 [(0, .ref (ad 500 0)), (1, .int v1), (2, .int v2), (3, .int v3), (4, .int v4), (5, .int v5)] → va_P G vwCl (wld ad ca σ LM) H → va_S A s.heap H locs → W p l e (headSpec wsX10_chosen ({ frames := 4, cells := 0, slots := 0, locals := 97 })).room s m (([.ref (ad 500 0), .int x1, .int x2] : List Value).toArray) below meth c H locs 0 0 (MQ below (va_Qi (fun r' u => r' = res ∧ u = σ) (ctB G ad ca LM) A) (([.ref (ad 500 0), .int x1, .int x2] : List Value).toArray) s 0 0 A) (F0 m 87 ls []) := by
        intro v1 v2 v3 v4 v5 H locs ls hf hl hP hS
        unfold X10_chosen_c87 at hf
        refine lv_iload hx hb dX10_chosen_87 (lv_at hl 5 rfl) ?_
        refine lv_if_eq (tgt := 97) hx hb dX10_chosen_89 rfl (fun hc => ?_) (fun hc => ?_)
        · have hf := b_p hf hc
          refine lv_iload_n hx hb dX10_chosen_97 rfl (lv_at hl 3 rfl) ?_
          refine lv_istore_n (lv' := [(3, .int v3), (0, .ref (ad 500 0)), (1, .int v1), (2, .int v2), (4, .int v4), (5, .int v5)]) hx hb dX10_chosen_98 rfl hl (by decide) rfl (fun ls hl => ?_)
          refine lv_iinc (v := (v4 + (1 : Int32))) (lv' := [(4, .int (v4 + (1 : Int32))), (3, .int v3), (0, .ref (ad 500 0)), (1, .int v1), (2, .int v2), (5, .int v5)]) hx hb dX10_chosen_99 hl (k := 4) rfl rfl (by decide) rfl (fun ls hl => ?_)
          refine lv_goto (tgt := 5) hx hb dX10_chosen_102 rfl ?_
          exact ih5 v1 v2 v3 (v4 + (1 : Int32)) _ _ _  hf (lv_sub hl [2, 3, 4, 1, 0] rfl) hP hS
        · have hf := b_n hf hc
          refine lv_iload hx hb dX10_chosen_92 (lv_at hl 4 rfl) ?_
          refine lv_goto (tgt := 98) hx hb dX10_chosen_94 rfl ?_
          refine lv_istore_n (lv' := [(3, .int v4), (0, .ref (ad 500 0)), (1, .int v1), (2, .int v2), (4, .int v4), (5, .int v5)]) hx hb dX10_chosen_98 rfl hl (by decide) rfl (fun ls hl => ?_)
          refine lv_iinc (v := (v4 + (1 : Int32))) (lv' := [(4, .int (v4 + (1 : Int32))), (3, .int v4), (0, .ref (ad 500 0)), (1, .int v1), (2, .int v2), (5, .int v5)]) hx hb dX10_chosen_99 hl (k := 4) rfl rfl (by decide) rfl (fun ls hl => ?_)
          refine lv_goto (tgt := 5) hx hb dX10_chosen_102 rfl ?_
          exact ih5 v1 v2 v4 (v4 + (1 : Int32)) _ _ _  hf (lv_sub hl [2, 3, 4, 1, 0] rfl) hP hS
      refine lv_iload hx hb dX10_chosen_5 (lv_at hl 4 rfl) ?_
      refine lv_aload_n hx hb dX10_chosen_7 rfl (lv_at hl 0 rfl) ?_
      refine x_get (k := 500) (n := 0) hx hb hts i_X10 hown hK hP (mk_500 h01) rfl rfl 14 (by decide) rfl k_131 (v := .int (gI σ 500 0 14)) rfl dX10_chosen_8 ?_
      refine lv_icmp_ge (tgt := 105) hx hb dX10_chosen_11 rfl (fun hc => ?_) (fun hc => ?_)
      · have hf := b_p hf hc
        exact hx5 v3 _ _ _  hf (lv_sub hl [3] rfl) hP hS
      · have hf := b_n hf hc
        refine lv_aload_n hx hb dX10_chosen_14 rfl (lv_at hl 0 rfl) ?_
        refine lv_iload hx hb dX10_chosen_15 (lv_at hl 4 rfl) ?_
        refine lv_iload_n hx hb dX10_chosen_17 rfl (lv_at hl 1 rfl) ?_
        refine lv_iload_n hx hb dX10_chosen_18 rfl (lv_at hl 2 rfl) ?_
        obtain ⟨r1, hc1, hf⟩ := bd_e hf
        refine x_ci (va_runV (As := [.int v4, .int v1, .int v2]) (rest := []) ⟨hx, hb, hml, hown, hts⟩ (t_X10_isOffered l G ad ca A v4 v1 v2 hD  σ r1 hc1) (cwV 3 hts gr_X10_171 rfl rfl rfl h9_X10_isOffered ⟨Nat.le_of_ble_eq_true rfl, Nat.le_of_ble_eq_true rfl⟩) (x_prV zkM hz hK hP (mk_500 h01) rfl rfl) rfl rfl hl.1 rfl (lv_room (Nat.le_of_ble_eq_true rfl)) dX10_chosen_19 ⟨Nat.le_of_ble_eq_true rfl, Nat.le_of_ble_eq_true rfl⟩) hS (fun H locs hP hS => ?_)
        refine lv_if_eq (tgt := 99) hx hb dX10_chosen_22 rfl (fun hc => ?_) (fun hc => ?_)
        · have hf := b_p hf hc
          refine lv_iinc (v := (v4 + (1 : Int32))) (lv' := [(4, .int (v4 + (1 : Int32))), (0, .ref (ad 500 0)), (1, .int v1), (2, .int v2), (3, .int v3)]) hx hb dX10_chosen_99 hl (k := 4) rfl rfl (by decide) rfl (fun ls hl => ?_)
          refine lv_goto (tgt := 5) hx hb dX10_chosen_102 rfl ?_
          exact ih5 v1 v2 v3 (v4 + (1 : Int32)) _ _ _  hf (lv_sub hl [1, 2, 3, 4, 0] rfl) hP hS
        · have hf := b_n hf hc
          refine lv_iconst (v := (1 : Int32)) hx hb dX10_chosen_25 rfl ?_
          refine lv_istore (lv' := [(5, .int (1 : Int32)), (0, .ref (ad 500 0)), (1, .int v1), (2, .int v2), (3, .int v3), (4, .int v4)]) hx hb dX10_chosen_26 hl (by decide) rfl (fun ls hl => ?_)
          refine lv_iconst (v := (0 : Int32)) hx hb dX10_chosen_28 rfl ?_
          refine lv_istore (lv' := [(6, .int (0 : Int32)), (5, .int (1 : Int32)), (0, .ref (ad 500 0)), (1, .int v1), (2, .int v2), (3, .int v3), (4, .int v4)]) hx hb dX10_chosen_29 hl (by decide) rfl (fun ls hl => ?_)
          exact l31 _ c87 _ v1 v2 v3 v4 (1 : Int32) (0 : Int32) _ _ _  hf (lv_sub hl [2, 3, 4, 5, 6, 1, 0] rfl) hP hS
  have c105 : ∀ (v3 : Int32) (H : Heap) (locs : List Loc) (ls : Array Slot), X10_chosen_c105 σ v3 = some res → lv_has ls 7 [(3, .int v3)] → va_P G vwCl (wld ad ca σ LM) H → va_S A s.heap H locs → W p l e (headSpec wsX10_chosen ({ frames := 4, cells := 0, slots := 0, locals := 97 })).room s m (([.ref (ad 500 0), .int x1, .int x2] : List Value).toArray) below meth c H locs 0 0 (MQ below (va_Qi (fun r' u => r' = res ∧ u = σ) (ctB G ad ca LM) A) (([.ref (ad 500 0), .int x1, .int x2] : List Value).toArray) s 0 0 A) (F0 m 105 ls []) := by
    intro v3 H locs ls hf hl hP hS
    unfold X10_chosen_c105 at hf
    refine lv_iload_n hx hb dX10_chosen_105 rfl (lv_at hl 0 rfl) ?_
    exact x_iret hx hb hr hlocks hK hP hS (Option.some.inj hf) rfl dX10_chosen_106
  refine lv_iconst (v := (-1 : Int32)) hx hb dX10_chosen_0 rfl ?_
  refine lv_istore_n (lv' := [(3, .int (-1 : Int32)), (0, .ref (ad 500 0)), (1, .int x1), (2, .int x2)]) hx hb dX10_chosen_1 rfl hl (by decide) rfl (fun ls hl => ?_)
  refine lv_iconst (v := (0 : Int32)) hx hb dX10_chosen_2 rfl ?_
  refine lv_istore (lv' := [(4, .int (0 : Int32)), (3, .int (-1 : Int32)), (0, .ref (ad 500 0)), (1, .int x1), (2, .int x2)]) hx hb dX10_chosen_3 hl (by decide) rfl (fun ls hl => ?_)
  exact l5 _ c105 _ x1 x2 (-1 : Int32) (0 : Int32) _ _ _  hf (lv_sub hl [2, 3, 4, 1, 0] rfl) hP hS
theorem h9_X10_tellRow : yX10_tellRow.cls = RX10 ∧ yX10_tellRow.cls ≠ "java/lang/invoke/MethodHandle" ∧ yX10_tellRow.cls ≠ "java/lang/invoke/VarHandle" ∧ (parseMethodDescriptor yX10_tellRow.desc).map (fun d => d.parameters.length) = some 1 := by decide +kernel
set_option maxRecDepth 100000 in
set_option maxHeartbeats 4000000 in
theorem t_X10_tellRow (l : Launch) (G : va_G) (ad : Nat → Nat → Nat) (ca : Nat → ClassId) (A : Nat → Prop)   (x1 : Int32) (hD : DW ad LM A)  (σ : PS) (res : Int32) (σz : PS) (hf : X10_tellRow  x1 σ = some (res, σz)) : Met l yX10_tellRow wsX10_tellRow ({ frames := 0, cells := 0, slots := 0, locals := 0 }) (ctP G ad ca LM σ ZM [.ref (ad 500 0), .int x1]) (va_Qi (fun r' u => r' = res ∧ u = σz) (ctB G ad ca LM) A) 0 0 A := by
  refine Met.ofW (cc := cX10_tellRow) (maxL := 4) (ret := (some .boolean)) (by decide) rfl ?_
  intro p e s m args below meth c s₁ B hml hv
  obtain ⟨rfl, hP, hK, hz⟩ := hv
  have hx := B.exec
  have hb := B.bytes
  have hr := B.returns
  have hts : ∀ w ∈ WW, w.before _ s = true := fun w h => atoms_spec (ws := wsX10_tellRow) B.pre w (List.mem_cons_of_mem _ h)
  have hown : s.vm.findClass RX10 = some m.cls := findClass_of_methodNamed B.named
  have hlocks := B.notSynchronized
  have hS : va_S A s.heap s.heap [] := va_S.rf
  have k_23 := hts _ kf_X10_23
  have k_26 := hts _ kf_X10_26
  have k_29 := hts _ kf_X10_29
  have k_72 := hts _ kf_X10_72
  have k_82 := hts _ kf_X10_82
  have k_85 := hts _ kf_X10_85
  have hl := lv_entry ([.ref (ad 500 0), .int x1]) (n := 4) (Nat.le_of_ble_eq_true rfl)
  rw [lg_entry_eq]
  generalize (lg_sl ([.ref (ad 500 0), .int x1]) ++ List.replicate (4 - (lg_sl ([.ref (ad 500 0), .int x1])).length) Slot.unset).toArray = ls at hl ⊢
  have hl : lv_has ls 4 [(0, .ref (ad 500 0)), (1, .int x1)] := hl
  unfold X10_tellRow at hf
  have l4 : ∀ (kx4 : Int32 → PS → Option (Int32 × PS)), (∀ (v2 : Int32) (σ : PS) (H : Heap) (locs : List Loc) (ls : Array Slot), kx4 v2 σ = some (res, σz) → lv_has ls 4 [(2, .int v2)] → va_P G vwCl (wld ad ca σ LM) H → va_S A s.heap H locs → W p l e (headSpec wsX10_tellRow ({ frames := 0, cells := 0, slots := 0, locals := 0 })).room s m (([.ref (ad 500 0), .int x1] : List Value).toArray) below meth c H locs 0 0 (MQ below (va_Qi (fun r' u => r' = res ∧ u = σz) (ctB G ad ca LM) A) (([.ref (ad 500 0), .int x1] : List Value).toArray) s 0 0 A) (F0 m 100 ls [])) → ∀ (n4 : Nat) (v1 : Int32) (v2 : Int32) (v3 : Int32) (σ : PS) (H : Heap) (locs : List Loc) (ls : Array Slot), X10_tellRow_l4  kx4 n4 v1 v2 v3 σ = some (res, σz) → lv_has ls 4 [(0, .ref (ad 500 0)), (1, .int v1), (2, .int v2), (3, .int v3)] → va_P G vwCl (wld ad ca σ LM) H → va_S A s.heap H locs → W p l e (headSpec wsX10_tellRow ({ frames := 0, cells := 0, slots := 0, locals := 0 })).room s m (([.ref (ad 500 0), .int x1] : List Value).toArray) below meth c H locs 0 0 (MQ below (va_Qi (fun r' u => r' = res ∧ u = σz) (ctB G ad ca LM) A) (([.ref (ad 500 0), .int x1] : List Value).toArray) s 0 0 A) (F0 m 4 ls []) := by
    intro kx4 hx4 n4
    induction n4 with
    | zero =>
      intro v1 v2 v3 σ H locs ls hf
      exact absurd hf (by simp [X10_tellRow_l4])
    | succ n4 ih4 =>
      intro v1 v2 v3 σ H locs ls hf hl hP hS
      rw [X10_tellRow_l4.eq_2] at hf
      have c62 : ∀ (v1 : Int32) (v2 : Int32) (v3 : Int32) (w0 : Int32) (w1 : Int32) (σ : PS) (H : Heap) (locs : List Loc) (ls : Array Slot), X10_tellRow_c62  (X10_tellRow_l4  kx4 n4) kx4 v1 v2 v3 w0 w1 σ = some (res, σz) → lv_has ls 4 [(0, .ref (ad 500 0)), (1, .int v1), (2, .int v2), (3, .int v3)] → va_P G vwCl (wld ad ca σ LM) H → va_S A s.heap H locs → W p l e (headSpec wsX10_tellRow ({ frames := 0, cells := 0, slots := 0, locals := 0 })).room s m (([.ref (ad 500 0), .int x1] : List Value).toArray) below meth c H locs 0 0 (MQ below (va_Qi (fun r' u => r' = res ∧ u = σz) (ctB G ad ca LM) A) (([.ref (ad 500 0), .int x1] : List Value).toArray) s 0 0 A) (F0 m 62 ls [.int w0, .int w1, .ref (ad 532 0)]) := by
        intro v1 v2 v3 w0 w1 σ H locs ls hf hl hP hS
        unfold X10_tellRow_c62 at hf
        obtain ⟨g3, hf⟩ := gd_e hf
        refine x_iast (k := 532) (n := 0) hx hb hK hD hP hS (mk_532 h01) rfl g3 dX10_tellRow_62 (fun H locs hP hS => ?_)
        obtain ⟨σ4, e_σ4, hf⟩ := nm_i hf
        have hP : va_P G vwCl (wld ad ca σ4 LM) H := by rw [e_σ4]; exact hP
        refine lv_aload_n hx hb dX10_tellRow_63 rfl (lv_at hl 0 rfl) ?_
        refine x_get (k := 500) (n := 0) hx hb hts i_X10 hown hK hP (mk_500 h01) rfl rfl 32 (by decide) rfl k_85 (v := .ref (ad 533 0)) rfl dX10_tellRow_64 ?_
        refine lv_iload_n hx hb dX10_tellRow_67 rfl (lv_at hl 3 rfl) ?_
        refine lv_aload_n hx hb dX10_tellRow_68 rfl (lv_at hl 0 rfl) ?_
        refine x_get (k := 500) (n := 0) hx hb hts i_X10 hown hK hP (mk_500 h01) rfl rfl 24 (by decide) rfl k_72 (v := .ref (ad 525 0)) rfl dX10_tellRow_69 ?_
        refine lv_iload_n hx hb dX10_tellRow_72 rfl (lv_at hl 3 rfl) ?_
        obtain ⟨g5, hf⟩ := gd_e hf
        refine x_iald (k := 525) (n := 0) hx hb hK hP (mk_525 h01) rfl g5 dX10_tellRow_73 ?_
        refine lv_if_lt (tgt := 92) hx hb dX10_tellRow_74 rfl (fun hc => ?_) (fun hc => ?_)
        · have hf := b_p hf hc
          refine lv_lconst (v := (0 : Int64)) hx hb dX10_tellRow_92 rfl ?_
          obtain ⟨g6, hf⟩ := gd_e hf
          refine x_last (k := 533) (n := 0) hx hb hK hD hP hS (mk_533 h01) rfl g6 dX10_tellRow_93 (fun H locs hP hS => ?_)
          obtain ⟨σ7, e_σ7, hf⟩ := nm_i hf
          have hP : va_P G vwCl (wld ad ca σ7 LM) H := by rw [e_σ7]; exact hP
          refine lv_iinc (v := (v3 + (1 : Int32))) (lv' := [(3, .int (v3 + (1 : Int32))), (0, .ref (ad 500 0)), (1, .int v1), (2, .int v2)]) hx hb dX10_tellRow_94 hl (k := 3) rfl rfl (by decide) rfl (fun ls hl => ?_)
          refine lv_goto (tgt := 4) hx hb dX10_tellRow_97 rfl ?_
          exact ih4 v1 v2 (v3 + (1 : Int32)) σ7 _ _ _  hf (lv_sub hl [1, 2, 3, 0] rfl) hP hS
        · have hf := b_n hf hc
          refine lv_aload_n hx hb dX10_tellRow_77 rfl (lv_at hl 0 rfl) ?_
          refine x_get (k := 500) (n := 0) hx hb hts i_X10 hown hK hP (mk_500 h01) rfl rfl 7 (by decide) rfl k_26 (v := .ref (ad 508 0)) rfl dX10_tellRow_78 ?_
          refine lv_aload_n hx hb dX10_tellRow_81 rfl (lv_at hl 0 rfl) ?_
          refine x_get (k := 500) (n := 0) hx hb hts i_X10 hown hK hP (mk_500 h01) rfl rfl 24 (by decide) rfl k_72 (v := .ref (ad 525 0)) rfl dX10_tellRow_82 ?_
          refine lv_iload_n hx hb dX10_tellRow_85 rfl (lv_at hl 3 rfl) ?_
          obtain ⟨g8, hf⟩ := gd_e hf
          refine x_iald (k := 525) (n := 0) hx hb hK hP (mk_525 h01) rfl g8 dX10_tellRow_86 ?_
          obtain ⟨g9, hf⟩ := gd_e hf
          refine x_iald (k := 508) (n := 0) hx hb hK hP (mk_508 h01) rfl g9 dX10_tellRow_87 ?_
          refine lv_i2l hx hb dX10_tellRow_88 rfl ?_
          refine lv_goto (tgt := 93) hx hb dX10_tellRow_89 rfl ?_
          obtain ⟨g10, hf⟩ := gd_e hf
          refine x_last (k := 533) (n := 0) hx hb hK hD hP hS (mk_533 h01) rfl g10 dX10_tellRow_93 (fun H locs hP hS => ?_)
          obtain ⟨σ11, e_σ11, hf⟩ := nm_i hf
          have hP : va_P G vwCl (wld ad ca σ11 LM) H := by rw [e_σ11]; exact hP
          refine lv_iinc (v := (v3 + (1 : Int32))) (lv' := [(3, .int (v3 + (1 : Int32))), (0, .ref (ad 500 0)), (1, .int v1), (2, .int v2)]) hx hb dX10_tellRow_94 hl (k := 3) rfl rfl (by decide) rfl (fun ls hl => ?_)
          refine lv_goto (tgt := 4) hx hb dX10_tellRow_97 rfl ?_
          exact ih4 v1 v2 (v3 + (1 : Int32)) σ11 _ _ _  hf (lv_sub hl [1, 2, 3, 0] rfl) hP hS
      have c32 : ∀ (v1 : Int32) (v3 : Int32) (w0 : Int32) (σ : PS) (H : Heap) (locs : List Loc) (ls : Array Slot), X10_tellRow_c32  (X10_tellRow_l4  kx4 n4) kx4 v1 v3 w0 σ = some (res, σz) → lv_has ls 4 [(0, .ref (ad 500 0)), (1, .int v1), (3, .int v3)] → va_P G vwCl (wld ad ca σ LM) H → va_S A s.heap H locs → W p l e (headSpec wsX10_tellRow ({ frames := 0, cells := 0, slots := 0, locals := 0 })).room s m (([.ref (ad 500 0), .int x1] : List Value).toArray) below meth c H locs 0 0 (MQ below (va_Qi (fun r' u => r' = res ∧ u = σz) (ctB G ad ca LM) A) (([.ref (ad 500 0), .int x1] : List Value).toArray) s 0 0 A) (F0 m 32 ls [.int w0]) := by
        intro v1 v3 w0 σ H locs ls hf hl hP hS
        unfold X10_tellRow_c32 at hf
        refine lv_istore_n (lv' := [(2, .int w0), (0, .ref (ad 500 0)), (1, .int v1), (3, .int v3)]) hx hb dX10_tellRow_32 rfl hl (by decide) rfl (fun ls hl => ?_)
        refine lv_aload_n hx hb dX10_tellRow_33 rfl (lv_at hl 1 rfl) ?_
        refine x_get (k := 500) (n := 0) hx hb hts i_X10 hown hK hP (mk_500 h01) rfl rfl 31 (by decide) rfl k_82 (v := .ref (ad 532 0)) rfl dX10_tellRow_34 ?_
        refine lv_iload_n hx hb dX10_tellRow_37 rfl (lv_at hl 3 rfl) ?_
        refine lv_aload_n hx hb dX10_tellRow_38 rfl (lv_at hl 1 rfl) ?_
        refine x_get (k := 500) (n := 0) hx hb hts i_X10 hown hK hP (mk_500 h01) rfl rfl 24 (by decide) rfl k_72 (v := .ref (ad 525 0)) rfl dX10_tellRow_39 ?_
        refine lv_iload_n hx hb dX10_tellRow_42 rfl (lv_at hl 3 rfl) ?_
        obtain ⟨g2, hf⟩ := gd_e hf
        refine x_iald (k := 525) (n := 0) hx hb hK hP (mk_525 h01) rfl g2 dX10_tellRow_43 ?_
        refine lv_if_lt (tgt := 61) hx hb dX10_tellRow_44 rfl (fun hc => ?_) (fun hc => ?_)
        · have hf := b_p hf hc
          refine lv_iconst (v := (0 : Int32)) hx hb dX10_tellRow_61 rfl ?_
          exact c62 v1 w0 v3 (0 : Int32) v3 σ _ _ _  hf (lv_sub hl [1, 2, 0, 3] rfl) hP hS
        · have hf := b_n hf hc
          refine lv_aload_n hx hb dX10_tellRow_47 rfl (lv_at hl 1 rfl) ?_
          refine x_get (k := 500) (n := 0) hx hb hts i_X10 hown hK hP (mk_500 h01) rfl rfl 6 (by decide) rfl k_23 (v := .ref (ad 507 0)) rfl dX10_tellRow_48 ?_
          refine lv_aload_n hx hb dX10_tellRow_51 rfl (lv_at hl 1 rfl) ?_
          refine x_get (k := 500) (n := 0) hx hb hts i_X10 hown hK hP (mk_500 h01) rfl rfl 24 (by decide) rfl k_72 (v := .ref (ad 525 0)) rfl dX10_tellRow_52 ?_
          refine lv_iload_n hx hb dX10_tellRow_55 rfl (lv_at hl 3 rfl) ?_
          obtain ⟨g12, hf⟩ := gd_e hf
          refine x_iald (k := 525) (n := 0) hx hb hK hP (mk_525 h01) rfl g12 dX10_tellRow_56 ?_
          obtain ⟨g13, hf⟩ := gd_e hf
          refine x_iald (k := 507) (n := 0) hx hb hK hP (mk_507 h01) rfl g13 dX10_tellRow_57 ?_
          refine lv_goto (tgt := 62) hx hb dX10_tellRow_58 rfl ?_
          exact c62 v1 w0 v3 (gI σ 507 0 (ix (gI σ 525 0 (ix v3)))) v3 σ _ _ _  hf (lv_sub hl [1, 2, 0, 3] rfl) hP hS
      have c31 : ∀ (v1 : Int32) (v3 : Int32) (σ : PS) (H : Heap) (locs : List Loc) (ls : Array Slot), X10_tellRow_c31  (X10_tellRow_l4  kx4 n4) kx4 v1 v3 σ = some (res, σz) → lv_has ls 4 [(0, .ref (ad 500 0)), (1, .int v1), (3, .int v3)] → va_P G vwCl (wld ad ca σ LM) H → va_S A s.heap H locs → W p l e (headSpec wsX10_tellRow ({ frames := 0, cells := 0, slots := 0, locals := 0 })).room s m (([.ref (ad 500 0), .int x1] : List Value).toArray) below meth c H locs 0 0 (MQ below (va_Qi (fun r' u => r' = res ∧ u = σz) (ctB G ad ca LM) A) (([.ref (ad 500 0), .int x1] : List Value).toArray) s 0 0 A) (F0 m 31 ls []) := by
        intro v1 v3 σ H locs ls hf hl hP hS
        unfold X10_tellRow_c31 at hf
        refine lv_iconst (v := (0 : Int32)) hx hb dX10_tellRow_31 rfl ?_
        exact c32 v1 v3 (0 : Int32) σ _ _ _  hf (lv_sub hl [0, 1, 2] rfl) hP hS
      refine lv_iload_n hx hb dX10_tellRow_4 rfl (lv_at hl 3 rfl) ?_
      refine lv_aload_n hx hb dX10_tellRow_5 rfl (lv_at hl 0 rfl) ?_
      refine x_get (k := 500) (n := 0) hx hb hts i_X10 hown hK hP (mk_500 h01) rfl rfl 9 (by decide) rfl k_29 (v := .ref (ad 510 0)) rfl dX10_tellRow_6 ?_
      refine lv_iload_n hx hb dX10_tellRow_9 rfl (lv_at hl 1 rfl) ?_
      obtain ⟨g1, hf⟩ := gd_e hf
      refine x_iald (k := 510) (n := 0) hx hb hK hP (mk_510 h01) rfl g1 dX10_tellRow_10 ?_
      refine lv_icmp_ge (tgt := 100) hx hb dX10_tellRow_11 rfl (fun hc => ?_) (fun hc => ?_)
      · have hf := b_p hf hc
        exact hx4 v2 σ _ _ _  hf (lv_sub hl [2] rfl) hP hS
      · have hf := b_n hf hc
        refine lv_iload_n hx hb dX10_tellRow_14 rfl (lv_at hl 2 rfl) ?_
        refine lv_if_eq (tgt := 31) hx hb dX10_tellRow_15 rfl (fun hc => ?_) (fun hc => ?_)
        · have hf := b_p hf hc
          exact c31 v1 v3 σ _ _ _  hf (lv_sub hl [0, 1, 3] rfl) hP hS
        · have hf := b_n hf hc
          refine lv_aload_n hx hb dX10_tellRow_18 rfl (lv_at hl 0 rfl) ?_
          refine x_get (k := 500) (n := 0) hx hb hts i_X10 hown hK hP (mk_500 h01) rfl rfl 24 (by decide) rfl k_72 (v := .ref (ad 525 0)) rfl dX10_tellRow_19 ?_
          refine lv_iload_n hx hb dX10_tellRow_22 rfl (lv_at hl 3 rfl) ?_
          obtain ⟨g14, hf⟩ := gd_e hf
          refine x_iald (k := 525) (n := 0) hx hb hK hP (mk_525 h01) rfl g14 dX10_tellRow_23 ?_
          refine lv_if_lt (tgt := 31) hx hb dX10_tellRow_24 rfl (fun hc => ?_) (fun hc => ?_)
          · have hf := b_p hf hc
            exact c31 v1 v3 σ _ _ _  hf (lv_sub hl [0, 1, 3] rfl) hP hS
          · have hf := b_n hf hc
            refine lv_iconst (v := (1 : Int32)) hx hb dX10_tellRow_27 rfl ?_
            refine lv_goto (tgt := 32) hx hb dX10_tellRow_28 rfl ?_
            exact c32 v1 v3 (1 : Int32) σ _ _ _  hf (lv_sub hl [0, 1, 3] rfl) hP hS
  have c100 : ∀ (v2 : Int32) (σ : PS) (H : Heap) (locs : List Loc) (ls : Array Slot), X10_tellRow_c100  v2 σ = some (res, σz) → lv_has ls 4 [(2, .int v2)] → va_P G vwCl (wld ad ca σ LM) H → va_S A s.heap H locs → W p l e (headSpec wsX10_tellRow ({ frames := 0, cells := 0, slots := 0, locals := 0 })).room s m (([.ref (ad 500 0), .int x1] : List Value).toArray) below meth c H locs 0 0 (MQ below (va_Qi (fun r' u => r' = res ∧ u = σz) (ctB G ad ca LM) A) (([.ref (ad 500 0), .int x1] : List Value).toArray) s 0 0 A) (F0 m 100 ls []) := by
    intro v2 σ H locs ls hf hl hP hS
    unfold X10_tellRow_c100 at hf
    refine lv_iload_n hx hb dX10_tellRow_100 rfl (lv_at hl 0 rfl) ?_
    obtain ⟨g15, hf⟩ := gd_e hf
    have hf := Option.some.inj hf
    exact x_zret hx hb hr hlocks hK hP hS g15 (congrArg Prod.fst hf) (congrArg Prod.snd hf) dX10_tellRow_101
  refine lv_iconst (v := (1 : Int32)) hx hb dX10_tellRow_0 rfl ?_
  refine lv_istore_n (lv' := [(2, .int (1 : Int32)), (0, .ref (ad 500 0)), (1, .int x1)]) hx hb dX10_tellRow_1 rfl hl (by decide) rfl (fun ls hl => ?_)
  refine lv_iconst (v := (0 : Int32)) hx hb dX10_tellRow_2 rfl ?_
  refine lv_istore_n (lv' := [(3, .int (0 : Int32)), (2, .int (1 : Int32)), (0, .ref (ad 500 0)), (1, .int x1)]) hx hb dX10_tellRow_3 rfl hl (by decide) rfl (fun ls hl => ?_)
  exact l4 _ c100 _ x1 (1 : Int32) (0 : Int32) σ _ _ _  hf (lv_sub hl [2, 3, 1, 0] rfl) hP hS
theorem h9_X10_piece : yX10_piece.cls = RX10 ∧ yX10_piece.cls ≠ "java/lang/invoke/MethodHandle" ∧ yX10_piece.cls ≠ "java/lang/invoke/VarHandle" ∧ (parseMethodDescriptor yX10_piece.desc).map (fun d => d.parameters.length) = some 2 := by decide +kernel
set_option maxRecDepth 100000 in
set_option maxHeartbeats 4000000 in
theorem t_X10_piece (l : Launch) (G : va_G) (ad : Nat → Nat → Nat) (ca : Nat → ClassId) (A : Nat → Prop)   (x1 : Int32) (x2 : Int32) (hD : DW ad LM A)  (σ : PS) (res : Int64) (hf : X10_piece  x1 x2 σ = some res) : Met l yX10_piece wsX10_piece ({ frames := 1, cells := 0, slots := 0, locals := 22 }) (ctP G ad ca LM σ ZM [.ref (ad 500 0), .int x1, .int x2]) (va_Ql (fun r' u => r' = res ∧ u = σ) (ctB G ad ca LM) A) 0 0 A := by
  refine Met.ofW (cc := cX10_piece) (maxL := 10) (ret := (some .long)) (by decide) rfl ?_
  intro p e s m args below meth c s₁ B hml hv
  obtain ⟨rfl, hP, hK, hz⟩ := hv
  have hx := B.exec
  have hb := B.bytes
  have hr := B.returns
  have hts : ∀ w ∈ WW, w.before _ s = true := fun w h => atoms_spec (ws := wsX10_piece) B.pre w (List.mem_cons_of_mem _ h)
  have hown : s.vm.findClass RX10 = some m.cls := findClass_of_methodNamed B.named
  have hlocks := B.notSynchronized
  have hS : va_S A s.heap s.heap [] := va_S.rf
  have k_174 := hts _ kk_X10_174
  have k_63 := hts _ kf_X10_63
  have k_66 := hts _ kf_X10_66
  have k_85 := hts _ kf_X10_85
  have k_131 := hts _ kf_X10_131
  have hl := lv_entry ([.ref (ad 500 0), .int x1, .int x2]) (n := 10) (Nat.le_of_ble_eq_true rfl)
  rw [lg_entry_eq]
  generalize (lg_sl ([.ref (ad 500 0), .int x1, .int x2]) ++ List.replicate (10 - (lg_sl ([.ref (ad 500 0), .int x1, .int x2])).length) Slot.unset).toArray = ls at hl ⊢
  have hl : lv_has ls 10 [(0, .ref (ad 500 0)), (1, .int x1), (2, .int x2)] := hl
  unfold X10_piece at hf
  have l7 : ∀ (kx7 : Int64 → Option (Int64)), (∀ (v3 : Int64) (H : Heap) (locs : List Loc) (ls : Array Slot), kx7 v3 = some res → lv_has ls 10 [(3, .long v3)] → va_P G vwCl (wld ad ca σ LM) H → va_S A s.heap H locs → W p l e (headSpec wsX10_piece ({ frames := 1, cells := 0, slots := 0, locals := 22 })).room s m (([.ref (ad 500 0), .int x1, .int x2] : List Value).toArray) below meth c H locs 0 0 (MQ below (va_Ql (fun r' u => r' = res ∧ u = σ) (ctB G ad ca LM) A) (([.ref (ad 500 0), .int x1, .int x2] : List Value).toArray) s 0 0 A) (F0 m 114 ls [])) → ∀ (n7 : Nat) (v1 : Int32) (v2 : Int32) (v3 : Int64) (v5 : Int32) (H : Heap) (locs : List Loc) (ls : Array Slot), X10_piece_l7 σ kx7 n7 v1 v2 v3 v5 = some res → lv_has ls 10 [(0, .ref (ad 500 0)), (1, .int v1), (2, .int v2), (3, .long v3), (5, .int v5)] → va_P G vwCl (wld ad ca σ LM) H → va_S A s.heap H locs → W p l e (headSpec wsX10_piece ({ frames := 1, cells := 0, slots := 0, locals := 22 })).room s m (([.ref (ad 500 0), .int x1, .int x2] : List Value).toArray) below meth c H locs 0 0 (MQ below (va_Ql (fun r' u => r' = res ∧ u = σ) (ctB G ad ca LM) A) (([.ref (ad 500 0), .int x1, .int x2] : List Value).toArray) s 0 0 A) (F0 m 7 ls []) := by
    intro kx7 hx7 n7
    induction n7 with
    | zero =>
      intro v1 v2 v3 v5 H locs ls hf
      exact absurd hf (by simp [X10_piece_l7])
    | succ n7 ih7 =>
      intro v1 v2 v3 v5 H locs ls hf hl hP hS
      rw [X10_piece_l7.eq_2] at hf
      have c81 : ∀ (v1 : Int32) (v2 : Int32) (v5 : Int32) (v8 : Int64) (w0 : Int64) (H : Heap) (locs : List Loc) (ls : Array Slot), X10_piece_c81 σ (X10_piece_l7 σ kx7 n7) kx7 v1 v2 v5 v8 w0 = some res → lv_has ls 10 [(0, .ref (ad 500 0)), (1, .int v1), (2, .int v2), (5, .int v5), (8, .long v8)] → va_P G vwCl (wld ad ca σ LM) H → va_S A s.heap H locs → W p l e (headSpec wsX10_piece ({ frames := 1, cells := 0, slots := 0, locals := 22 })).room s m (([.ref (ad 500 0), .int x1, .int x2] : List Value).toArray) below meth c H locs 0 0 (MQ below (va_Ql (fun r' u => r' = res ∧ u = σ) (ctB G ad ca LM) A) (([.ref (ad 500 0), .int x1, .int x2] : List Value).toArray) s 0 0 A) (F0 m 81 ls [.long w0]) := by
        intro v1 v2 v5 v8 w0 H locs ls hf hl hP hS
        unfold X10_piece_c81 at hf
        refine lv_lstore_n (lv' := [(3, .long w0), (0, .ref (ad 500 0)), (1, .int v1), (2, .int v2), (5, .int v5), (8, .long v8)]) hx hb dX10_piece_81 rfl hl (by decide) rfl (fun ls hl => ?_)
        refine lv_lload hx hb dX10_piece_82 (lv_at hl 5 rfl) ?_
        refine lv_aload_n hx hb dX10_piece_84 rfl (lv_at hl 1 rfl) ?_
        refine x_get (k := 500) (n := 0) hx hb hts i_X10 hown hK hP (mk_500 h01) rfl rfl 32 (by decide) rfl k_85 (v := .ref (ad 533 0)) rfl dX10_piece_85 ?_
        refine lv_iload_n hx hb dX10_piece_88 rfl (lv_at hl 3 rfl) ?_
        obtain ⟨g7, hf⟩ := gd_e hf
        refine x_lald (k := 533) (n := 0) hx hb hK hP (mk_533 h01) rfl g7 dX10_piece_89 ?_
        refine W.lcmp hx hb dX10_piece_90 ?_
        refine lv_if_le (tgt := 106) hx hb dX10_piece_91 rfl (fun hc => ?_) (fun hc => ?_)
        · have hf := b_p hf hc
          refine lv_lload_n hx hb dX10_piece_106 rfl (lv_at hl 0 rfl) ?_
          refine lv_lstore_n (lv' := [(3, .long w0), (0, .ref (ad 500 0)), (1, .int v1), (2, .int v2), (5, .int v5), (8, .long v8)]) hx hb dX10_piece_107 rfl hl (by decide) rfl (fun ls hl => ?_)
          refine lv_iinc (v := (v5 + (1 : Int32))) (lv' := [(5, .int (v5 + (1 : Int32))), (3, .long w0), (0, .ref (ad 500 0)), (1, .int v1), (2, .int v2), (8, .long v8)]) hx hb dX10_piece_108 hl (k := 4) rfl rfl (by decide) rfl (fun ls hl => ?_)
          refine lv_goto (tgt := 7) hx hb dX10_piece_111 rfl ?_
          exact ih7 v1 v2 w0 (v5 + (1 : Int32)) _ _ _  hf (lv_sub hl [2, 3, 4, 1, 0] rfl) hP hS
        · have hf := b_n hf hc
          refine lv_lload hx hb dX10_piece_94 (lv_at hl 5 rfl) ?_
          refine lv_lload_n hx hb dX10_piece_96 rfl (lv_at hl 0 rfl) ?_
          refine W.lcmp hx hb dX10_piece_97 ?_
          refine lv_if_ge (tgt := 106) hx hb dX10_piece_98 rfl (fun hc => ?_) (fun hc => ?_)
          · have hf := b_p hf hc
            refine lv_lload_n hx hb dX10_piece_106 rfl (lv_at hl 0 rfl) ?_
            refine lv_lstore_n (lv' := [(3, .long w0), (0, .ref (ad 500 0)), (1, .int v1), (2, .int v2), (5, .int v5), (8, .long v8)]) hx hb dX10_piece_107 rfl hl (by decide) rfl (fun ls hl => ?_)
            refine lv_iinc (v := (v5 + (1 : Int32))) (lv' := [(5, .int (v5 + (1 : Int32))), (3, .long w0), (0, .ref (ad 500 0)), (1, .int v1), (2, .int v2), (8, .long v8)]) hx hb dX10_piece_108 hl (k := 4) rfl rfl (by decide) rfl (fun ls hl => ?_)
            refine lv_goto (tgt := 7) hx hb dX10_piece_111 rfl ?_
            exact ih7 v1 v2 w0 (v5 + (1 : Int32)) _ _ _  hf (lv_sub hl [2, 3, 4, 1, 0] rfl) hP hS
          · have hf := b_n hf hc
            refine lv_lload hx hb dX10_piece_101 (lv_at hl 5 rfl) ?_
            refine lv_goto (tgt := 107) hx hb dX10_piece_103 rfl ?_
            refine lv_lstore_n (lv' := [(3, .long v8), (0, .ref (ad 500 0)), (1, .int v1), (2, .int v2), (5, .int v5), (8, .long v8)]) hx hb dX10_piece_107 rfl hl (by decide) rfl (fun ls hl => ?_)
            refine lv_iinc (v := (v5 + (1 : Int32))) (lv' := [(5, .int (v5 + (1 : Int32))), (3, .long v8), (0, .ref (ad 500 0)), (1, .int v1), (2, .int v2), (8, .long v8)]) hx hb dX10_piece_108 hl (k := 4) rfl rfl (by decide) rfl (fun ls hl => ?_)
            refine lv_goto (tgt := 7) hx hb dX10_piece_111 rfl ?_
            exact ih7 v1 v2 v8 (v5 + (1 : Int32)) _ _ _  hf (lv_sub hl [2, 3, 4, 1, 0] rfl) hP hS
      have c80 : ∀ (v1 : Int32) (v2 : Int32) (v3 : Int64) (v5 : Int32) (v8 : Int64) (H : Heap) (locs : List Loc) (ls : Array Slot), X10_piece_c80 σ (X10_piece_l7 σ kx7 n7) kx7 v1 v2 v3 v5 v8 = some res → lv_has ls 10 [(0, .ref (ad 500 0)), (1, .int v1), (2, .int v2), (3, .long v3), (5, .int v5), (8, .long v8)] → va_P G vwCl (wld ad ca σ LM) H → va_S A s.heap H locs → W p l e (headSpec wsX10_piece ({ frames := 1, cells := 0, slots := 0, locals := 22 })).room s m (([.ref (ad 500 0), .int x1, .int x2] : List Value).toArray) below meth c H locs 0 0 (MQ below (va_Ql (fun r' u => r' = res ∧ u = σ) (ctB G ad ca LM) A) (([.ref (ad 500 0), .int x1, .int x2] : List Value).toArray) s 0 0 A) (F0 m 80 ls []) := by
        intro v1 v2 v3 v5 v8 H locs ls hf hl hP hS
        unfold X10_piece_c80 at hf
        refine lv_lload_n hx hb dX10_piece_80 rfl (lv_at hl 3 rfl) ?_
        exact c81 v1 v2 v5 v8 v3 _ _ _  hf (lv_sub hl [0, 1, 2, 4, 5] rfl) hP hS
      refine lv_iload hx hb dX10_piece_7 (lv_at hl 4 rfl) ?_
      refine lv_aload_n hx hb dX10_piece_9 rfl (lv_at hl 0 rfl) ?_
      refine x_get (k := 500) (n := 0) hx hb hts i_X10 hown hK hP (mk_500 h01) rfl rfl 14 (by decide) rfl k_131 (v := .int (gI σ 500 0 14)) rfl dX10_piece_10 ?_
      refine lv_icmp_ge (tgt := 114) hx hb dX10_piece_13 rfl (fun hc => ?_) (fun hc => ?_)
      · have hf := b_p hf hc
        exact hx7 v3 _ _ _  hf (lv_sub hl [3] rfl) hP hS
      · have hf := b_n hf hc
        refine lv_aload_n hx hb dX10_piece_16 rfl (lv_at hl 0 rfl) ?_
        refine lv_iload hx hb dX10_piece_17 (lv_at hl 4 rfl) ?_
        refine lv_iload_n hx hb dX10_piece_19 rfl (lv_at hl 1 rfl) ?_
        obtain ⟨r1, hc1, hf⟩ := bd_e hf
        refine x_ci (va_runV (As := [.int v5, .int v1]) (rest := []) ⟨hx, hb, hml, hown, hts⟩ (t_X10_isLaid l G ad ca A v5 v1 hD  σ r1 hc1) (cwV 2 hts gr_X10_145 rfl rfl rfl h9_X10_isLaid ⟨Nat.le_of_ble_eq_true rfl, Nat.le_of_ble_eq_true rfl⟩) (x_prV zkM hz hK hP (mk_500 h01) rfl rfl) rfl rfl hl.1 rfl (lv_room (Nat.le_of_ble_eq_true rfl)) dX10_piece_20 ⟨Nat.le_of_ble_eq_true rfl, Nat.le_of_ble_eq_true rfl⟩) hS (fun H locs hP hS => ?_)
        refine lv_if_eq (tgt := 108) hx hb dX10_piece_23 rfl (fun hc => ?_) (fun hc => ?_)
        · have hf := b_p hf hc
          refine lv_iinc (v := (v5 + (1 : Int32))) (lv' := [(5, .int (v5 + (1 : Int32))), (0, .ref (ad 500 0)), (1, .int v1), (2, .int v2), (3, .long v3)]) hx hb dX10_piece_108 hl (k := 4) rfl rfl (by decide) rfl (fun ls hl => ?_)
          refine lv_goto (tgt := 7) hx hb dX10_piece_111 rfl ?_
          exact ih7 v1 v2 v3 (v5 + (1 : Int32)) _ _ _  hf (lv_sub hl [1, 2, 3, 4, 0] rfl) hP hS
        · have hf := b_n hf hc
          refine lv_aload_n hx hb dX10_piece_26 rfl (lv_at hl 0 rfl) ?_
          refine x_get (k := 500) (n := 0) hx hb hts i_X10 hown hK hP (mk_500 h01) rfl rfl 21 (by decide) rfl k_63 (v := .ref (ad 522 0)) rfl dX10_piece_27 ?_
          refine lv_iconst (v := (2 : Int32)) hx hb dX10_piece_30 rfl ?_
          refine lv_iload hx hb dX10_piece_31 (lv_at hl 4 rfl) ?_
          refine lv_imul hx hb dX10_piece_33 ?_
          refine lv_iload_n hx hb dX10_piece_34 rfl (lv_at hl 2 rfl) ?_
          refine lv_iadd hx hb dX10_piece_35 ?_
          obtain ⟨g2, hf⟩ := gd_e hf
          refine x_iald (k := 522) (n := 0) hx hb hK hP (mk_522 h01) rfl g2 dX10_piece_36 ?_
          refine lv_i2l hx hb dX10_piece_37 rfl ?_
          obtain ⟨y3, e_y3, hf⟩ := nm_i hf
          refine x_nmL e_y3 ?_
          refine lv_lstore (lv' := [(6, .long y3), (0, .ref (ad 500 0)), (1, .int v1), (2, .int v2), (3, .long v3), (5, .int v5)]) hx hb dX10_piece_38 hl (by decide) rfl (fun ls hl => ?_)
          refine lv_aload_n hx hb dX10_piece_40 rfl (lv_at hl 1 rfl) ?_
          refine x_get (k := 500) (n := 0) hx hb hts i_X10 hown hK hP (mk_500 h01) rfl rfl 22 (by decide) rfl k_66 (v := .ref (ad 523 0)) rfl dX10_piece_41 ?_
          refine lv_iconst (v := (2 : Int32)) hx hb dX10_piece_44 rfl ?_
          refine lv_iload hx hb dX10_piece_45 (lv_at hl 5 rfl) ?_
          refine lv_imul hx hb dX10_piece_47 ?_
          refine lv_iload_n hx hb dX10_piece_48 rfl (lv_at hl 3 rfl) ?_
          refine lv_iadd hx hb dX10_piece_49 ?_
          obtain ⟨g4, hf⟩ := gd_e hf
          refine x_iald (k := 523) (n := 0) hx hb hK hP (mk_523 h01) rfl g4 dX10_piece_50 ?_
          refine lv_i2l hx hb dX10_piece_51 rfl ?_
          refine lv_lconst (v := (1 : Int64)) hx hb dX10_piece_52 rfl ?_
          refine lv_ladd hx hb dX10_piece_53 ?_
          obtain ⟨y5, e_y5, hf⟩ := nm_i hf
          refine x_nmL e_y5 ?_
          refine lv_lstore (lv' := [(8, .long y5), (6, .long y3), (0, .ref (ad 500 0)), (1, .int v1), (2, .int v2), (3, .long v3), (5, .int v5)]) hx hb dX10_piece_54 hl (by decide) rfl (fun ls hl => ?_)
          refine lv_lload hx hb dX10_piece_56 (lv_at hl 1 rfl) ?_
          refine lv_aload_n hx hb dX10_piece_58 rfl (lv_at hl 2 rfl) ?_
          refine x_get (k := 500) (n := 0) hx hb hts i_X10 hown hK hP (mk_500 h01) rfl rfl 32 (by decide) rfl k_85 (v := .ref (ad 533 0)) rfl dX10_piece_59 ?_
          refine lv_iload_n hx hb dX10_piece_62 rfl (lv_at hl 4 rfl) ?_
          obtain ⟨g6, hf⟩ := gd_e hf
          refine x_lald (k := 533) (n := 0) hx hb hK hP (mk_533 h01) rfl g6 dX10_piece_63 ?_
          refine W.lcmp hx hb dX10_piece_64 ?_
          refine lv_if_le (tgt := 80) hx hb dX10_piece_65 rfl (fun hc => ?_) (fun hc => ?_)
          · have hf := b_p hf hc
            exact c80 v1 v2 v3 v5 y5 _ _ _  hf (lv_sub hl [2, 3, 4, 5, 6, 0] rfl) hP hS
          · have hf := b_n hf hc
            refine lv_lload hx hb dX10_piece_68 (lv_at hl 1 rfl) ?_
            refine lv_lload_n hx hb dX10_piece_70 rfl (lv_at hl 5 rfl) ?_
            refine W.lcmp hx hb dX10_piece_71 ?_
            refine lv_if_ge (tgt := 80) hx hb dX10_piece_72 rfl (fun hc => ?_) (fun hc => ?_)
            · have hf := b_p hf hc
              exact c80 v1 v2 v3 v5 y5 _ _ _  hf (lv_sub hl [2, 3, 4, 5, 6, 0] rfl) hP hS
            · have hf := b_n hf hc
              refine lv_lload hx hb dX10_piece_75 (lv_at hl 1 rfl) ?_
              refine lv_goto (tgt := 81) hx hb dX10_piece_77 rfl ?_
              exact c81 v1 v2 v5 y5 y3 _ _ _  hf (lv_sub hl [2, 3, 4, 6, 0] rfl) hP hS
  have c114 : ∀ (v3 : Int64) (H : Heap) (locs : List Loc) (ls : Array Slot), X10_piece_c114 σ v3 = some res → lv_has ls 10 [(3, .long v3)] → va_P G vwCl (wld ad ca σ LM) H → va_S A s.heap H locs → W p l e (headSpec wsX10_piece ({ frames := 1, cells := 0, slots := 0, locals := 22 })).room s m (([.ref (ad 500 0), .int x1, .int x2] : List Value).toArray) below meth c H locs 0 0 (MQ below (va_Ql (fun r' u => r' = res ∧ u = σ) (ctB G ad ca LM) A) (([.ref (ad 500 0), .int x1, .int x2] : List Value).toArray) s 0 0 A) (F0 m 114 ls []) := by
    intro v3 H locs ls hf hl hP hS
    unfold X10_piece_c114 at hf
    refine lv_lload_n hx hb dX10_piece_114 rfl (lv_at hl 0 rfl) ?_
    exact x_lret hx hb hr hlocks hK hP hS (Option.some.inj hf) rfl dX10_piece_115
  refine lv_ldc2 hx hb hown k_174 dX10_piece_0 ?_
  refine lv_lstore_n (lv' := [(3, .long (2147483648 : Int64)), (0, .ref (ad 500 0)), (1, .int x1), (2, .int x2)]) hx hb dX10_piece_3 rfl hl (by decide) rfl (fun ls hl => ?_)
  refine lv_iconst (v := (0 : Int32)) hx hb dX10_piece_4 rfl ?_
  refine lv_istore (lv' := [(5, .int (0 : Int32)), (3, .long (2147483648 : Int64)), (0, .ref (ad 500 0)), (1, .int x1), (2, .int x2)]) hx hb dX10_piece_5 hl (by decide) rfl (fun ls hl => ?_)
  exact l7 _ c114 _ x1 x2 (2147483648 : Int64) (0 : Int32) _ _ _  hf (lv_sub hl [2, 3, 4, 1, 0] rfl) hP hS
theorem h9_X10_remember : yX10_remember.cls = RX10 ∧ yX10_remember.cls ≠ "java/lang/invoke/MethodHandle" ∧ yX10_remember.cls ≠ "java/lang/invoke/VarHandle" ∧ (parseMethodDescriptor yX10_remember.desc).map (fun d => d.parameters.length) = some 1 := by decide +kernel
set_option maxRecDepth 100000 in
set_option maxHeartbeats 4000000 in
theorem t_X10_remember (l : Launch) (G : va_G) (ad : Nat → Nat → Nat) (ca : Nat → ClassId) (A : Nat → Prop)   (x1 : Int32) (hD : DW ad LM A)  (σ : PS) (res : PS) (hf : X10_remember  x1 σ = some res) : Met l yX10_remember wsX10_remember ({ frames := 2, cells := 0, slots := 0, locals := 51 }) (ctP G ad ca LM σ ZM [.ref (ad 500 0), .int x1]) (va_Qv (fun u => u = res) (ctB G ad ca LM) A) 0 0 A := by
  refine Met.ofW (cc := cX10_remember) (maxL := 14) (ret := none) (by decide) rfl ?_
  intro p e s m args below meth c s₁ B hml hv
  obtain ⟨rfl, hP, hK, hz⟩ := hv
  have hx := B.exec
  have hb := B.bytes
  have hr := B.returns
  have hts : ∀ w ∈ WW, w.before _ s = true := fun w h => atoms_spec (ws := wsX10_remember) B.pre w (List.mem_cons_of_mem _ h)
  have hown : s.vm.findClass RX10 = some m.cls := findClass_of_methodNamed B.named
  have hlocks := B.notSynchronized
  have hS : va_S A s.heap s.heap [] := va_S.rf
  have k_29 := hts _ kf_X10_29
  have k_35 := hts _ kf_X10_35
  have k_38 := hts _ kf_X10_38
  have k_42 := hts _ kf_X10_42
  have k_82 := hts _ kf_X10_82
  have hl := lv_entry ([.ref (ad 500 0), .int x1]) (n := 14) (Nat.le_of_ble_eq_true rfl)
  rw [lg_entry_eq]
  generalize (lg_sl ([.ref (ad 500 0), .int x1]) ++ List.replicate (14 - (lg_sl ([.ref (ad 500 0), .int x1])).length) Slot.unset).toArray = ls at hl ⊢
  have hl : lv_has ls 14 [(0, .ref (ad 500 0)), (1, .int x1)] := hl
  unfold X10_remember at hf
  have l70 : ∀ (kx70 : Int32 → Int64 → Int64 → Int64 → Int64 → Int32 → Int32 → PS → Option (PS)), (∀ (v1 : Int32) (v2 : Int64) (v4 : Int64) (v6 : Int64) (v8 : Int64) (v10 : Int32) (v11 : Int32) (σ : PS) (H : Heap) (locs : List Loc) (ls : Array Slot), kx70 v1 v2 v4 v6 v8 v10 v11 σ = some res → lv_has ls 14 [(0, .ref (ad 500 0)), (1, .int v1), (2, .long v2), (4, .long v4), (6, .long v6), (8, .long v8), (10, .int v10), (11, .int v11)] → va_P G vwCl (wld ad ca σ LM) H → va_S A s.heap H locs → W p l e (headSpec wsX10_remember ({ frames := 2, cells := 0, slots := 0, locals := 51 })).room s m (([.ref (ad 500 0), .int x1] : List Value).toArray) below meth c H locs 0 0 (MQ below (va_Qv (fun u => u = res) (ctB G ad ca LM) A) (([.ref (ad 500 0), .int x1] : List Value).toArray) s 0 0 A) (F0 m 164 ls [])) → ∀ (n70 : Nat) (v1 : Int32) (v2 : Int64) (v4 : Int64) (v6 : Int64) (v8 : Int64) (v10 : Int32) (v11 : Int32) (σ : PS) (H : Heap) (locs : List Loc) (ls : Array Slot), X10_remember_l70  kx70 n70 v1 v2 v4 v6 v8 v10 v11 σ = some res → lv_has ls 14 [(0, .ref (ad 500 0)), (1, .int v1), (2, .long v2), (4, .long v4), (6, .long v6), (8, .long v8), (10, .int v10), (11, .int v11)] → va_P G vwCl (wld ad ca σ LM) H → va_S A s.heap H locs → W p l e (headSpec wsX10_remember ({ frames := 2, cells := 0, slots := 0, locals := 51 })).room s m (([.ref (ad 500 0), .int x1] : List Value).toArray) below meth c H locs 0 0 (MQ below (va_Qv (fun u => u = res) (ctB G ad ca LM) A) (([.ref (ad 500 0), .int x1] : List Value).toArray) s 0 0 A) (F0 m 70 ls []) := by
    intro kx70 hx70 n70
    induction n70 with
    | zero =>
      intro v1 v2 v4 v6 v8 v10 v11 σ H locs ls hf
      exact absurd hf (by simp [X10_remember_l70])
    | succ n70 ih70 =>
      intro v1 v2 v4 v6 v8 v10 v11 σ H locs ls hf hl hP hS
      rw [X10_remember_l70.eq_2] at hf
      refine lv_iload hx hb dX10_remember_70 (lv_at hl 7 rfl) ?_
      refine lv_aload_n hx hb dX10_remember_72 rfl (lv_at hl 0 rfl) ?_
      refine x_get (k := 500) (n := 0) hx hb hts i_X10 hown hK hP (mk_500 h01) rfl rfl 13 (by decide) rfl k_42 (v := .ref (ad 514 0)) rfl dX10_remember_73 ?_
      refine lv_iload_n hx hb dX10_remember_76 rfl (lv_at hl 1 rfl) ?_
      obtain ⟨g7, hf⟩ := gd_e hf
      refine x_iald (k := 514) (n := 0) hx hb hK hP (mk_514 h01) rfl g7 dX10_remember_77 ?_
      refine lv_icmp_ge (tgt := 164) hx hb dX10_remember_78 rfl (fun hc => ?_) (fun hc => ?_)
      · have hf := b_p hf hc
        exact hx70 v1 v2 v4 v6 v8 v10 v11 σ _ _ _  hf (lv_sub hl [0, 1, 2, 3, 4, 5, 6, 7] rfl) hP hS
      · have hf := b_n hf hc
        refine lv_aload_n hx hb dX10_remember_81 rfl (lv_at hl 0 rfl) ?_
        refine x_get (k := 500) (n := 0) hx hb hts i_X10 hown hK hP (mk_500 h01) rfl rfl 12 (by decide) rfl k_38 (v := .ref (ad 513 0)) rfl dX10_remember_82 ?_
        refine lv_iload hx hb dX10_remember_85 (lv_at hl 6 rfl) ?_
        refine lv_iconst (v := (4 : Int32)) hx hb dX10_remember_87 rfl ?_
        refine lv_iload hx hb dX10_remember_88 (lv_at hl 7 rfl) ?_
        refine lv_imul hx hb dX10_remember_90 ?_
        refine lv_iadd hx hb dX10_remember_91 ?_
        obtain ⟨g8, hf⟩ := gd_e hf
        refine x_lald (k := 513) (n := 0) hx hb hK hP (mk_513 h01) rfl g8 dX10_remember_92 ?_
        refine lv_lload_n hx hb dX10_remember_93 rfl (lv_at hl 2 rfl) ?_
        refine W.lcmp hx hb dX10_remember_94 ?_
        refine lv_if_ne (tgt := 158) hx hb dX10_remember_95 rfl (fun hc => ?_) (fun hc => ?_)
        · have hf := b_n hf hc
          refine lv_iinc (v := (v11 + (1 : Int32))) (lv' := [(11, .int (v11 + (1 : Int32))), (0, .ref (ad 500 0)), (1, .int v1), (2, .long v2), (4, .long v4), (6, .long v6), (8, .long v8), (10, .int v10)]) hx hb dX10_remember_158 hl (k := 7) rfl rfl (by decide) rfl (fun ls hl => ?_)
          refine lv_goto (tgt := 70) hx hb dX10_remember_161 rfl ?_
          exact ih70 v1 v2 v4 v6 v8 v10 (v11 + (1 : Int32)) σ _ _ _  hf (lv_sub hl [1, 2, 3, 4, 5, 6, 7, 0] rfl) hP hS
        · have hf := b_p hf hc
          refine lv_aload_n hx hb dX10_remember_98 rfl (lv_at hl 0 rfl) ?_
          refine x_get (k := 500) (n := 0) hx hb hts i_X10 hown hK hP (mk_500 h01) rfl rfl 12 (by decide) rfl k_38 (v := .ref (ad 513 0)) rfl dX10_remember_99 ?_
          refine lv_iload hx hb dX10_remember_102 (lv_at hl 6 rfl) ?_
          refine lv_iconst (v := (4 : Int32)) hx hb dX10_remember_104 rfl ?_
          refine lv_iload hx hb dX10_remember_105 (lv_at hl 7 rfl) ?_
          refine lv_imul hx hb dX10_remember_107 ?_
          refine lv_iadd hx hb dX10_remember_108 ?_
          refine lv_iconst (v := (1 : Int32)) hx hb dX10_remember_109 rfl ?_
          refine lv_iadd hx hb dX10_remember_110 ?_
          obtain ⟨g9, hf⟩ := gd_e hf
          refine x_lald (k := 513) (n := 0) hx hb hK hP (mk_513 h01) rfl g9 dX10_remember_111 ?_
          refine lv_lload hx hb dX10_remember_112 (lv_at hl 3 rfl) ?_
          refine W.lcmp hx hb dX10_remember_114 ?_
          refine lv_if_ne (tgt := 158) hx hb dX10_remember_115 rfl (fun hc => ?_) (fun hc => ?_)
          · have hf := b_n hf hc
            refine lv_iinc (v := (v11 + (1 : Int32))) (lv' := [(11, .int (v11 + (1 : Int32))), (0, .ref (ad 500 0)), (1, .int v1), (2, .long v2), (4, .long v4), (6, .long v6), (8, .long v8), (10, .int v10)]) hx hb dX10_remember_158 hl (k := 7) rfl rfl (by decide) rfl (fun ls hl => ?_)
            refine lv_goto (tgt := 70) hx hb dX10_remember_161 rfl ?_
            exact ih70 v1 v2 v4 v6 v8 v10 (v11 + (1 : Int32)) σ _ _ _  hf (lv_sub hl [1, 2, 3, 4, 5, 6, 7, 0] rfl) hP hS
          · have hf := b_p hf hc
            refine lv_aload_n hx hb dX10_remember_118 rfl (lv_at hl 0 rfl) ?_
            refine x_get (k := 500) (n := 0) hx hb hts i_X10 hown hK hP (mk_500 h01) rfl rfl 12 (by decide) rfl k_38 (v := .ref (ad 513 0)) rfl dX10_remember_119 ?_
            refine lv_iload hx hb dX10_remember_122 (lv_at hl 6 rfl) ?_
            refine lv_iconst (v := (4 : Int32)) hx hb dX10_remember_124 rfl ?_
            refine lv_iload hx hb dX10_remember_125 (lv_at hl 7 rfl) ?_
            refine lv_imul hx hb dX10_remember_127 ?_
            refine lv_iadd hx hb dX10_remember_128 ?_
            refine lv_iconst (v := (2 : Int32)) hx hb dX10_remember_129 rfl ?_
            refine lv_iadd hx hb dX10_remember_130 ?_
            obtain ⟨g10, hf⟩ := gd_e hf
            refine x_lald (k := 513) (n := 0) hx hb hK hP (mk_513 h01) rfl g10 dX10_remember_131 ?_
            refine lv_lload hx hb dX10_remember_132 (lv_at hl 4 rfl) ?_
            refine W.lcmp hx hb dX10_remember_134 ?_
            refine lv_if_ne (tgt := 158) hx hb dX10_remember_135 rfl (fun hc => ?_) (fun hc => ?_)
            · have hf := b_n hf hc
              refine lv_iinc (v := (v11 + (1 : Int32))) (lv' := [(11, .int (v11 + (1 : Int32))), (0, .ref (ad 500 0)), (1, .int v1), (2, .long v2), (4, .long v4), (6, .long v6), (8, .long v8), (10, .int v10)]) hx hb dX10_remember_158 hl (k := 7) rfl rfl (by decide) rfl (fun ls hl => ?_)
              refine lv_goto (tgt := 70) hx hb dX10_remember_161 rfl ?_
              exact ih70 v1 v2 v4 v6 v8 v10 (v11 + (1 : Int32)) σ _ _ _  hf (lv_sub hl [1, 2, 3, 4, 5, 6, 7, 0] rfl) hP hS
            · have hf := b_p hf hc
              refine lv_aload_n hx hb dX10_remember_138 rfl (lv_at hl 0 rfl) ?_
              refine x_get (k := 500) (n := 0) hx hb hts i_X10 hown hK hP (mk_500 h01) rfl rfl 12 (by decide) rfl k_38 (v := .ref (ad 513 0)) rfl dX10_remember_139 ?_
              refine lv_iload hx hb dX10_remember_142 (lv_at hl 6 rfl) ?_
              refine lv_iconst (v := (4 : Int32)) hx hb dX10_remember_144 rfl ?_
              refine lv_iload hx hb dX10_remember_145 (lv_at hl 7 rfl) ?_
              refine lv_imul hx hb dX10_remember_147 ?_
              refine lv_iadd hx hb dX10_remember_148 ?_
              refine lv_iconst (v := (3 : Int32)) hx hb dX10_remember_149 rfl ?_
              refine lv_iadd hx hb dX10_remember_150 ?_
              obtain ⟨g11, hf⟩ := gd_e hf
              refine x_lald (k := 513) (n := 0) hx hb hK hP (mk_513 h01) rfl g11 dX10_remember_151 ?_
              refine lv_lload hx hb dX10_remember_152 (lv_at hl 5 rfl) ?_
              refine W.lcmp hx hb dX10_remember_154 ?_
              refine lv_if_eq (tgt := 164) hx hb dX10_remember_155 rfl (fun hc => ?_) (fun hc => ?_)
              · have hf := b_p hf hc
                exact hx70 v1 v2 v4 v6 v8 v10 v11 σ _ _ _  hf (lv_sub hl [0, 1, 2, 3, 4, 5, 6, 7] rfl) hP hS
              · have hf := b_n hf hc
                refine lv_iinc (v := (v11 + (1 : Int32))) (lv' := [(11, .int (v11 + (1 : Int32))), (0, .ref (ad 500 0)), (1, .int v1), (2, .long v2), (4, .long v4), (6, .long v6), (8, .long v8), (10, .int v10)]) hx hb dX10_remember_158 hl (k := 7) rfl rfl (by decide) rfl (fun ls hl => ?_)
                refine lv_goto (tgt := 70) hx hb dX10_remember_161 rfl ?_
                exact ih70 v1 v2 v4 v6 v8 v10 (v11 + (1 : Int32)) σ _ _ _  hf (lv_sub hl [1, 2, 3, 4, 5, 6, 7, 0] rfl) hP hS
  have l262 : ∀ (kx262 : Int32 → Int64 → Int64 → Int64 → Int64 → Int32 → PS → Option (PS)), (∀ (v1 : Int32) (v2 : Int64) (v4 : Int64) (v6 : Int64) (v8 : Int64) (v10 : Int32) (σ : PS) (H : Heap) (locs : List Loc) (ls : Array Slot), kx262 v1 v2 v4 v6 v8 v10 σ = some res → lv_has ls 14 [(0, .ref (ad 500 0)), (1, .int v1), (2, .long v2), (4, .long v4), (6, .long v6), (8, .long v8), (10, .int v10)] → va_P G vwCl (wld ad ca σ LM) H → va_S A s.heap H locs → W p l e (headSpec wsX10_remember ({ frames := 2, cells := 0, slots := 0, locals := 51 })).room s m (([.ref (ad 500 0), .int x1] : List Value).toArray) below meth c H locs 0 0 (MQ below (va_Qv (fun u => u = res) (ctB G ad ca LM) A) (([.ref (ad 500 0), .int x1] : List Value).toArray) s 0 0 A) (F0 m 302 ls [])) → ∀ (n262 : Nat) (v1 : Int32) (v2 : Int64) (v4 : Int64) (v6 : Int64) (v8 : Int64) (v10 : Int32) (v13 : Int32) (σ : PS) (H : Heap) (locs : List Loc) (ls : Array Slot), X10_remember_l262  kx262 n262 v1 v2 v4 v6 v8 v10 v13 σ = some res → lv_has ls 14 [(0, .ref (ad 500 0)), (1, .int v1), (2, .long v2), (4, .long v4), (6, .long v6), (8, .long v8), (10, .int v10), (13, .int v13)] → va_P G vwCl (wld ad ca σ LM) H → va_S A s.heap H locs → W p l e (headSpec wsX10_remember ({ frames := 2, cells := 0, slots := 0, locals := 51 })).room s m (([.ref (ad 500 0), .int x1] : List Value).toArray) below meth c H locs 0 0 (MQ below (va_Qv (fun u => u = res) (ctB G ad ca LM) A) (([.ref (ad 500 0), .int x1] : List Value).toArray) s 0 0 A) (F0 m 262 ls []) := by
    intro kx262 hx262 n262
    induction n262 with
    | zero =>
      intro v1 v2 v4 v6 v8 v10 v13 σ H locs ls hf
      exact absurd hf (by simp [X10_remember_l262])
    | succ n262 ih262 =>
      intro v1 v2 v4 v6 v8 v10 v13 σ H locs ls hf hl hP hS
      rw [X10_remember_l262.eq_2] at hf
      refine lv_iload hx hb dX10_remember_262 (lv_at hl 7 rfl) ?_
      refine lv_iload hx hb dX10_remember_264 (lv_at hl 6 rfl) ?_
      refine lv_iconst (v := (4 : Int32)) hx hb dX10_remember_266 rfl ?_
      refine lv_aload_n hx hb dX10_remember_267 rfl (lv_at hl 0 rfl) ?_
      refine x_get (k := 500) (n := 0) hx hb hts i_X10 hown hK hP (mk_500 h01) rfl rfl 13 (by decide) rfl k_42 (v := .ref (ad 514 0)) rfl dX10_remember_268 ?_
      refine lv_iload_n hx hb dX10_remember_271 rfl (lv_at hl 1 rfl) ?_
      obtain ⟨g24, hf⟩ := gd_e hf
      refine x_iald (k := 514) (n := 0) hx hb hK hP (mk_514 h01) rfl g24 dX10_remember_272 ?_
      refine lv_imul hx hb dX10_remember_273 ?_
      refine lv_iadd hx hb dX10_remember_274 ?_
      refine lv_iconst (v := (4 : Int32)) hx hb dX10_remember_275 rfl ?_
      refine lv_isub hx hb dX10_remember_276 ?_
      refine lv_icmp_ge (tgt := 302) hx hb dX10_remember_277 rfl (fun hc => ?_) (fun hc => ?_)
      · have hf := b_p hf hc
        exact hx262 v1 v2 v4 v6 v8 v10 σ _ _ _  hf (lv_sub hl [0, 1, 2, 3, 4, 5, 6] rfl) hP hS
      · have hf := b_n hf hc
        refine lv_aload_n hx hb dX10_remember_280 rfl (lv_at hl 0 rfl) ?_
        refine x_get (k := 500) (n := 0) hx hb hts i_X10 hown hK hP (mk_500 h01) rfl rfl 12 (by decide) rfl k_38 (v := .ref (ad 513 0)) rfl dX10_remember_281 ?_
        refine lv_iload hx hb dX10_remember_284 (lv_at hl 7 rfl) ?_
        refine lv_aload_n hx hb dX10_remember_286 rfl (lv_at hl 0 rfl) ?_
        refine x_get (k := 500) (n := 0) hx hb hts i_X10 hown hK hP (mk_500 h01) rfl rfl 12 (by decide) rfl k_38 (v := .ref (ad 513 0)) rfl dX10_remember_287 ?_
        refine lv_iload hx hb dX10_remember_290 (lv_at hl 7 rfl) ?_
        refine lv_iconst (v := (4 : Int32)) hx hb dX10_remember_292 rfl ?_
        refine lv_iadd hx hb dX10_remember_293 ?_
        obtain ⟨g25, hf⟩ := gd_e hf
        refine x_lald (k := 513) (n := 0) hx hb hK hP (mk_513 h01) rfl g25 dX10_remember_294 ?_
        obtain ⟨g26, hf⟩ := gd_e hf
        refine x_last (k := 513) (n := 0) hx hb hK hD hP hS (mk_513 h01) rfl g26 dX10_remember_295 (fun H locs hP hS => ?_)
        obtain ⟨σ27, e_σ27, hf⟩ := nm_i hf
        have hP : va_P G vwCl (wld ad ca σ27 LM) H := by rw [e_σ27]; exact hP
        refine lv_iinc (v := (v13 + (1 : Int32))) (lv' := [(13, .int (v13 + (1 : Int32))), (0, .ref (ad 500 0)), (1, .int v1), (2, .long v2), (4, .long v4), (6, .long v6), (8, .long v8), (10, .int v10)]) hx hb dX10_remember_296 hl (k := 7) rfl rfl (by decide) rfl (fun ls hl => ?_)
        refine lv_goto (tgt := 262) hx hb dX10_remember_299 rfl ?_
        exact ih262 v1 v2 v4 v6 v8 v10 (v13 + (1 : Int32)) σ27 _ _ _  hf (lv_sub hl [1, 2, 3, 4, 5, 6, 7, 0] rfl) hP hS
  have c302 : ∀ (v1 : Int32) (v2 : Int64) (v4 : Int64) (v6 : Int64) (v8 : Int64) (v10 : Int32) (σ : PS) (H : Heap) (locs : List Loc) (ls : Array Slot), X10_remember_c302  v1 v2 v4 v6 v8 v10 σ = some res → lv_has ls 14 [(0, .ref (ad 500 0)), (1, .int v1), (2, .long v2), (4, .long v4), (6, .long v6), (8, .long v8), (10, .int v10)] → va_P G vwCl (wld ad ca σ LM) H → va_S A s.heap H locs → W p l e (headSpec wsX10_remember ({ frames := 2, cells := 0, slots := 0, locals := 51 })).room s m (([.ref (ad 500 0), .int x1] : List Value).toArray) below meth c H locs 0 0 (MQ below (va_Qv (fun u => u = res) (ctB G ad ca LM) A) (([.ref (ad 500 0), .int x1] : List Value).toArray) s 0 0 A) (F0 m 302 ls []) := by
    intro v1 v2 v4 v6 v8 v10 σ H locs ls hf hl hP hS
    unfold X10_remember_c302 at hf
    refine lv_iload hx hb dX10_remember_302 (lv_at hl 6 rfl) ?_
    refine lv_iconst (v := (4 : Int32)) hx hb dX10_remember_304 rfl ?_
    refine lv_aload_n hx hb dX10_remember_305 rfl (lv_at hl 0 rfl) ?_
    refine x_get (k := 500) (n := 0) hx hb hts i_X10 hown hK hP (mk_500 h01) rfl rfl 13 (by decide) rfl k_42 (v := .ref (ad 514 0)) rfl dX10_remember_306 ?_
    refine lv_iload_n hx hb dX10_remember_309 rfl (lv_at hl 1 rfl) ?_
    obtain ⟨g28, hf⟩ := gd_e hf
    refine x_iald (k := 514) (n := 0) hx hb hK hP (mk_514 h01) rfl g28 dX10_remember_310 ?_
    refine lv_imul hx hb dX10_remember_311 ?_
    refine lv_iadd hx hb dX10_remember_312 ?_
    refine lv_iconst (v := (4 : Int32)) hx hb dX10_remember_313 rfl ?_
    refine lv_isub hx hb dX10_remember_314 ?_
    obtain ⟨y29, e_y29, hf⟩ := nm_i hf
    refine x_nmI e_y29 ?_
    refine lv_istore (lv' := [(13, .int y29), (0, .ref (ad 500 0)), (1, .int v1), (2, .long v2), (4, .long v4), (6, .long v6), (8, .long v8), (10, .int v10)]) hx hb dX10_remember_315 hl (by decide) rfl (fun ls hl => ?_)
    refine lv_aload_n hx hb dX10_remember_317 rfl (lv_at hl 1 rfl) ?_
    refine x_get (k := 500) (n := 0) hx hb hts i_X10 hown hK hP (mk_500 h01) rfl rfl 12 (by decide) rfl k_38 (v := .ref (ad 513 0)) rfl dX10_remember_318 ?_
    refine lv_iload hx hb dX10_remember_321 (lv_at hl 0 rfl) ?_
    refine lv_lload_n hx hb dX10_remember_323 rfl (lv_at hl 3 rfl) ?_
    obtain ⟨g30, hf⟩ := gd_e hf
    refine x_last (k := 513) (n := 0) hx hb hK hD hP hS (mk_513 h01) rfl g30 dX10_remember_324 (fun H locs hP hS => ?_)
    obtain ⟨σ31, e_σ31, hf⟩ := nm_i hf
    have hP : va_P G vwCl (wld ad ca σ31 LM) H := by rw [e_σ31]; exact hP
    refine lv_aload_n hx hb dX10_remember_325 rfl (lv_at hl 1 rfl) ?_
    refine x_get (k := 500) (n := 0) hx hb hts i_X10 hown hK hP (mk_500 h01) rfl rfl 12 (by decide) rfl k_38 (v := .ref (ad 513 0)) rfl dX10_remember_326 ?_
    refine lv_iload hx hb dX10_remember_329 (lv_at hl 0 rfl) ?_
    refine lv_iconst (v := (1 : Int32)) hx hb dX10_remember_331 rfl ?_
    refine lv_iadd hx hb dX10_remember_332 ?_
    refine lv_lload hx hb dX10_remember_333 (lv_at hl 4 rfl) ?_
    obtain ⟨g32, hf⟩ := gd_e hf
    refine x_last (k := 513) (n := 0) hx hb hK hD hP hS (mk_513 h01) rfl g32 dX10_remember_335 (fun H locs hP hS => ?_)
    obtain ⟨σ33, e_σ33, hf⟩ := nm_i hf
    have hP : va_P G vwCl (wld ad ca σ33 LM) H := by rw [e_σ33]; exact hP
    refine lv_aload_n hx hb dX10_remember_336 rfl (lv_at hl 1 rfl) ?_
    refine x_get (k := 500) (n := 0) hx hb hts i_X10 hown hK hP (mk_500 h01) rfl rfl 12 (by decide) rfl k_38 (v := .ref (ad 513 0)) rfl dX10_remember_337 ?_
    refine lv_iload hx hb dX10_remember_340 (lv_at hl 0 rfl) ?_
    refine lv_iconst (v := (2 : Int32)) hx hb dX10_remember_342 rfl ?_
    refine lv_iadd hx hb dX10_remember_343 ?_
    refine lv_lload hx hb dX10_remember_344 (lv_at hl 5 rfl) ?_
    obtain ⟨g34, hf⟩ := gd_e hf
    refine x_last (k := 513) (n := 0) hx hb hK hD hP hS (mk_513 h01) rfl g34 dX10_remember_346 (fun H locs hP hS => ?_)
    obtain ⟨σ35, e_σ35, hf⟩ := nm_i hf
    have hP : va_P G vwCl (wld ad ca σ35 LM) H := by rw [e_σ35]; exact hP
    refine lv_aload_n hx hb dX10_remember_347 rfl (lv_at hl 1 rfl) ?_
    refine x_get (k := 500) (n := 0) hx hb hts i_X10 hown hK hP (mk_500 h01) rfl rfl 12 (by decide) rfl k_38 (v := .ref (ad 513 0)) rfl dX10_remember_348 ?_
    refine lv_iload hx hb dX10_remember_351 (lv_at hl 0 rfl) ?_
    refine lv_iconst (v := (3 : Int32)) hx hb dX10_remember_353 rfl ?_
    refine lv_iadd hx hb dX10_remember_354 ?_
    refine lv_lload hx hb dX10_remember_355 (lv_at hl 6 rfl) ?_
    obtain ⟨g36, hf⟩ := gd_e hf
    refine x_last (k := 513) (n := 0) hx hb hK hD hP hS (mk_513 h01) rfl g36 dX10_remember_357 (fun H locs hP hS => ?_)
    obtain ⟨σ37, e_σ37, hf⟩ := nm_i hf
    have hP : va_P G vwCl (wld ad ca σ37 LM) H := by rw [e_σ37]; exact hP
    exact x_vret hx hb hr hlocks hK hP hS (Option.some.inj hf) dX10_remember_358
  have c251 : ∀ (v1 : Int32) (v2 : Int64) (v4 : Int64) (v6 : Int64) (v8 : Int64) (v10 : Int32) (v12 : Int32) (w0 : Int32) (w1 : Int32) (w2 : Int32) (σ : PS) (H : Heap) (locs : List Loc) (ls : Array Slot), X10_remember_c251  v1 v2 v4 v6 v8 v10 v12 w0 w1 w2 σ = some res → lv_has ls 14 [(0, .ref (ad 500 0)), (1, .int v1), (2, .long v2), (4, .long v4), (6, .long v6), (8, .long v8), (10, .int v10), (12, .int v12)] → va_P G vwCl (wld ad ca σ LM) H → va_S A s.heap H locs → W p l e (headSpec wsX10_remember ({ frames := 2, cells := 0, slots := 0, locals := 51 })).room s m (([.ref (ad 500 0), .int x1] : List Value).toArray) below meth c H locs 0 0 (MQ below (va_Qv (fun u => u = res) (ctB G ad ca LM) A) (([.ref (ad 500 0), .int x1] : List Value).toArray) s 0 0 A) (F0 m 251 ls [.int w0, .int w1, .int w2, .ref (ad 514 0)]) := by
    intro v1 v2 v4 v6 v8 v10 v12 w0 w1 w2 σ H locs ls hf hl hP hS
    unfold X10_remember_c251 at hf
    refine lv_iadd hx hb dX10_remember_251 ?_
    obtain ⟨g21, hf⟩ := gd_e hf
    refine x_iast (k := 514) (n := 0) hx hb hK hD hP hS (mk_514 h01) rfl g21 dX10_remember_252 (fun H locs hP hS => ?_)
    obtain ⟨σ22, e_σ22, hf⟩ := nm_i hf
    have hP : va_P G vwCl (wld ad ca σ22 LM) H := by rw [e_σ22]; exact hP
    refine lv_iload hx hb dX10_remember_253 (lv_at hl 6 rfl) ?_
    refine lv_iconst (v := (4 : Int32)) hx hb dX10_remember_255 rfl ?_
    refine lv_iload hx hb dX10_remember_256 (lv_at hl 7 rfl) ?_
    refine lv_imul hx hb dX10_remember_258 ?_
    refine lv_iadd hx hb dX10_remember_259 ?_
    obtain ⟨y23, e_y23, hf⟩ := nm_i hf
    refine x_nmI e_y23 ?_
    refine lv_istore (lv' := [(13, .int y23), (0, .ref (ad 500 0)), (1, .int v1), (2, .long v2), (4, .long v4), (6, .long v6), (8, .long v8), (10, .int v10), (12, .int v12)]) hx hb dX10_remember_260 hl (by decide) rfl (fun ls hl => ?_)
    exact l262 _ c302 _ v1 v2 v4 v6 v8 v10 y23 σ22 _ _ _  hf (lv_sub hl [1, 2, 3, 4, 5, 6, 7, 0] rfl) hP hS
  have c226 : ∀ (v1 : Int32) (v2 : Int64) (v4 : Int64) (v6 : Int64) (v8 : Int64) (v10 : Int32) (w0 : Int32) (σ : PS) (H : Heap) (locs : List Loc) (ls : Array Slot), X10_remember_c226  v1 v2 v4 v6 v8 v10 w0 σ = some res → lv_has ls 14 [(0, .ref (ad 500 0)), (1, .int v1), (2, .long v2), (4, .long v4), (6, .long v6), (8, .long v8), (10, .int v10)] → va_P G vwCl (wld ad ca σ LM) H → va_S A s.heap H locs → W p l e (headSpec wsX10_remember ({ frames := 2, cells := 0, slots := 0, locals := 51 })).room s m (([.ref (ad 500 0), .int x1] : List Value).toArray) below meth c H locs 0 0 (MQ below (va_Qv (fun u => u = res) (ctB G ad ca LM) A) (([.ref (ad 500 0), .int x1] : List Value).toArray) s 0 0 A) (F0 m 226 ls [.int w0]) := by
    intro v1 v2 v4 v6 v8 v10 w0 σ H locs ls hf hl hP hS
    unfold X10_remember_c226 at hf
    refine lv_istore (lv' := [(12, .int w0), (0, .ref (ad 500 0)), (1, .int v1), (2, .long v2), (4, .long v4), (6, .long v6), (8, .long v8), (10, .int v10)]) hx hb dX10_remember_226 hl (by decide) rfl (fun ls hl => ?_)
    refine lv_aload_n hx hb dX10_remember_228 rfl (lv_at hl 1 rfl) ?_
    refine x_get (k := 500) (n := 0) hx hb hts i_X10 hown hK hP (mk_500 h01) rfl rfl 13 (by decide) rfl k_42 (v := .ref (ad 514 0)) rfl dX10_remember_229 ?_
    refine lv_iload_n hx hb dX10_remember_232 rfl (lv_at hl 2 rfl) ?_
    refine lv_dup2_11 hx hb dX10_remember_233 rfl rfl ?_
    obtain ⟨g19, hf⟩ := gd_e hf
    refine x_iald (k := 514) (n := 0) hx hb hK hP (mk_514 h01) rfl g19 dX10_remember_234 ?_
    refine lv_iload hx hb dX10_remember_235 (lv_at hl 0 rfl) ?_
    refine lv_aload_n hx hb dX10_remember_237 rfl (lv_at hl 1 rfl) ?_
    refine x_get (k := 500) (n := 0) hx hb hts i_X10 hown hK hP (mk_500 h01) rfl rfl 13 (by decide) rfl k_42 (v := .ref (ad 514 0)) rfl dX10_remember_238 ?_
    refine lv_iload_n hx hb dX10_remember_241 rfl (lv_at hl 2 rfl) ?_
    obtain ⟨g20, hf⟩ := gd_e hf
    refine x_iald (k := 514) (n := 0) hx hb hK hP (mk_514 h01) rfl g20 dX10_remember_242 ?_
    refine lv_icmp_ne (tgt := 250) hx hb dX10_remember_243 rfl (fun hc => ?_) (fun hc => ?_)
    · have hf := b_n hf hc
      refine lv_iconst (v := (0 : Int32)) hx hb dX10_remember_250 rfl ?_
      exact c251 v1 v2 v4 v6 v8 v10 w0 (0 : Int32) (gI σ 514 0 (ix v1)) v1 σ _ _ _  hf (lv_sub hl [1, 2, 3, 4, 5, 6, 7, 0] rfl) hP hS
    · have hf := b_p hf hc
      refine lv_iconst (v := (1 : Int32)) hx hb dX10_remember_246 rfl ?_
      refine lv_goto (tgt := 251) hx hb dX10_remember_247 rfl ?_
      exact c251 v1 v2 v4 v6 v8 v10 w0 (1 : Int32) (gI σ 514 0 (ix v1)) v1 σ _ _ _  hf (lv_sub hl [1, 2, 3, 4, 5, 6, 7, 0] rfl) hP hS
  have c187 : ∀ (v1 : Int32) (v2 : Int64) (v4 : Int64) (v6 : Int64) (v8 : Int64) (v10 : Int32) (v11 : Int32) (w0 : Int32) (w1 : Int32) (w2 : Int32) (σ : PS) (H : Heap) (locs : List Loc) (ls : Array Slot), X10_remember_c187  v1 v2 v4 v6 v8 v10 v11 w0 w1 w2 σ = some res → lv_has ls 14 [(0, .ref (ad 500 0)), (1, .int v1), (2, .long v2), (4, .long v4), (6, .long v6), (8, .long v8), (10, .int v10), (11, .int v11)] → va_P G vwCl (wld ad ca σ LM) H → va_S A s.heap H locs → W p l e (headSpec wsX10_remember ({ frames := 2, cells := 0, slots := 0, locals := 51 })).room s m (([.ref (ad 500 0), .int x1] : List Value).toArray) below meth c H locs 0 0 (MQ below (va_Qv (fun u => u = res) (ctB G ad ca LM) A) (([.ref (ad 500 0), .int x1] : List Value).toArray) s 0 0 A) (F0 m 187 ls [.int w0, .int w1, .int w2, .ref (ad 512 0)]) := by
    intro v1 v2 v4 v6 v8 v10 v11 w0 w1 w2 σ H locs ls hf hl hP hS
    unfold X10_remember_c187 at hf
    refine lv_iadd hx hb dX10_remember_187 ?_
    obtain ⟨g14, hf⟩ := gd_e hf
    refine x_iast (k := 512) (n := 0) hx hb hK hD hP hS (mk_512 h01) rfl g14 dX10_remember_188 (fun H locs hP hS => ?_)
    obtain ⟨σ15, e_σ15, hf⟩ := nm_i hf
    have hP : va_P G vwCl (wld ad ca σ15 LM) H := by rw [e_σ15]; exact hP
    refine lv_iload hx hb dX10_remember_189 (lv_at hl 7 rfl) ?_
    refine lv_aload_n hx hb dX10_remember_191 rfl (lv_at hl 0 rfl) ?_
    refine x_get (k := 500) (n := 0) hx hb hts i_X10 hown hK hP (mk_500 h01) rfl rfl 13 (by decide) rfl k_42 (v := .ref (ad 514 0)) rfl dX10_remember_192 ?_
    refine lv_iload_n hx hb dX10_remember_195 rfl (lv_at hl 1 rfl) ?_
    obtain ⟨g16, hf⟩ := gd_e hf
    refine x_iald (k := 514) (n := 0) hx hb hK hP (mk_514 h01) rfl g16 dX10_remember_196 ?_
    refine lv_icmp_ge (tgt := 205) hx hb dX10_remember_197 rfl (fun hc => ?_) (fun hc => ?_)
    · have hf := b_p hf hc
      refine lv_aload_n hx hb dX10_remember_205 rfl (lv_at hl 0 rfl) ?_
      refine x_get (k := 500) (n := 0) hx hb hts i_X10 hown hK hP (mk_500 h01) rfl rfl 13 (by decide) rfl k_42 (v := .ref (ad 514 0)) rfl dX10_remember_206 ?_
      refine lv_iload_n hx hb dX10_remember_209 rfl (lv_at hl 1 rfl) ?_
      obtain ⟨g17, hf⟩ := gd_e hf
      refine x_iald (k := 514) (n := 0) hx hb hK hP (mk_514 h01) rfl g17 dX10_remember_210 ?_
      refine lv_bipush (v := (16 : Int32)) hx hb dX10_remember_211 rfl ?_
      refine lv_icmp_ne (tgt := 220) hx hb dX10_remember_213 rfl (fun hc => ?_) (fun hc => ?_)
      · have hf := b_n hf hc
        refine lv_aload_n hx hb dX10_remember_220 rfl (lv_at hl 0 rfl) ?_
        refine x_get (k := 500) (n := 0) hx hb hts i_X10 hown hK hP (mk_500 h01) rfl rfl 13 (by decide) rfl k_42 (v := .ref (ad 514 0)) rfl dX10_remember_221 ?_
        refine lv_iload_n hx hb dX10_remember_224 rfl (lv_at hl 1 rfl) ?_
        obtain ⟨g18, hf⟩ := gd_e hf
        refine x_iald (k := 514) (n := 0) hx hb hK hP (mk_514 h01) rfl g18 dX10_remember_225 ?_
        exact c226 v1 v2 v4 v6 v8 v10 (gI σ15 514 0 (ix v1)) σ15 _ _ _  hf (lv_sub hl [0, 1, 2, 3, 4, 5, 6] rfl) hP hS
      · have hf := b_p hf hc
        refine lv_iconst (v := (0 : Int32)) hx hb dX10_remember_216 rfl ?_
        refine lv_goto (tgt := 226) hx hb dX10_remember_217 rfl ?_
        exact c226 v1 v2 v4 v6 v8 v10 (0 : Int32) σ15 _ _ _  hf (lv_sub hl [0, 1, 2, 3, 4, 5, 6] rfl) hP hS
    · have hf := b_n hf hc
      refine lv_iload hx hb dX10_remember_200 (lv_at hl 7 rfl) ?_
      refine lv_goto (tgt := 226) hx hb dX10_remember_202 rfl ?_
      exact c226 v1 v2 v4 v6 v8 v10 v11 σ15 _ _ _  hf (lv_sub hl [0, 1, 2, 3, 4, 5, 6] rfl) hP hS
  have c164 : ∀ (v1 : Int32) (v2 : Int64) (v4 : Int64) (v6 : Int64) (v8 : Int64) (v10 : Int32) (v11 : Int32) (σ : PS) (H : Heap) (locs : List Loc) (ls : Array Slot), X10_remember_c164  v1 v2 v4 v6 v8 v10 v11 σ = some res → lv_has ls 14 [(0, .ref (ad 500 0)), (1, .int v1), (2, .long v2), (4, .long v4), (6, .long v6), (8, .long v8), (10, .int v10), (11, .int v11)] → va_P G vwCl (wld ad ca σ LM) H → va_S A s.heap H locs → W p l e (headSpec wsX10_remember ({ frames := 2, cells := 0, slots := 0, locals := 51 })).room s m (([.ref (ad 500 0), .int x1] : List Value).toArray) below meth c H locs 0 0 (MQ below (va_Qv (fun u => u = res) (ctB G ad ca LM) A) (([.ref (ad 500 0), .int x1] : List Value).toArray) s 0 0 A) (F0 m 164 ls []) := by
    intro v1 v2 v4 v6 v8 v10 v11 σ H locs ls hf hl hP hS
    unfold X10_remember_c164 at hf
    refine lv_aload_n hx hb dX10_remember_164 rfl (lv_at hl 0 rfl) ?_
    refine x_get (k := 500) (n := 0) hx hb hts i_X10 hown hK hP (mk_500 h01) rfl rfl 11 (by decide) rfl k_35 (v := .ref (ad 512 0)) rfl dX10_remember_165 ?_
    refine lv_iload_n hx hb dX10_remember_168 rfl (lv_at hl 1 rfl) ?_
    refine lv_dup2_11 hx hb dX10_remember_169 rfl rfl ?_
    obtain ⟨g12, hf⟩ := gd_e hf
    refine x_iald (k := 512) (n := 0) hx hb hK hP (mk_512 h01) rfl g12 dX10_remember_170 ?_
    refine lv_iload hx hb dX10_remember_171 (lv_at hl 7 rfl) ?_
    refine lv_aload_n hx hb dX10_remember_173 rfl (lv_at hl 0 rfl) ?_
    refine x_get (k := 500) (n := 0) hx hb hts i_X10 hown hK hP (mk_500 h01) rfl rfl 13 (by decide) rfl k_42 (v := .ref (ad 514 0)) rfl dX10_remember_174 ?_
    refine lv_iload_n hx hb dX10_remember_177 rfl (lv_at hl 1 rfl) ?_
    obtain ⟨g13, hf⟩ := gd_e hf
    refine x_iald (k := 514) (n := 0) hx hb hK hP (mk_514 h01) rfl g13 dX10_remember_178 ?_
    refine lv_icmp_ge (tgt := 186) hx hb dX10_remember_179 rfl (fun hc => ?_) (fun hc => ?_)
    · have hf := b_p hf hc
      refine lv_iconst (v := (0 : Int32)) hx hb dX10_remember_186 rfl ?_
      exact c187 v1 v2 v4 v6 v8 v10 v11 (0 : Int32) (gI σ 512 0 (ix v1)) v1 σ _ _ _  hf (lv_sub hl [0, 1, 2, 3, 4, 5, 6, 7] rfl) hP hS
    · have hf := b_n hf hc
      refine lv_iconst (v := (1 : Int32)) hx hb dX10_remember_182 rfl ?_
      refine lv_goto (tgt := 187) hx hb dX10_remember_183 rfl ?_
      exact c187 v1 v2 v4 v6 v8 v10 v11 (1 : Int32) (gI σ 512 0 (ix v1)) v1 σ _ _ _  hf (lv_sub hl [0, 1, 2, 3, 4, 5, 6, 7] rfl) hP hS
  have c59 : ∀ (v1 : Int32) (v2 : Int64) (v4 : Int64) (v6 : Int64) (w0 : Int64) (σ : PS) (H : Heap) (locs : List Loc) (ls : Array Slot), X10_remember_c59  v1 v2 v4 v6 w0 σ = some res → lv_has ls 14 [(0, .ref (ad 500 0)), (1, .int v1), (2, .long v2), (4, .long v4), (6, .long v6)] → va_P G vwCl (wld ad ca σ LM) H → va_S A s.heap H locs → W p l e (headSpec wsX10_remember ({ frames := 2, cells := 0, slots := 0, locals := 51 })).room s m (([.ref (ad 500 0), .int x1] : List Value).toArray) below meth c H locs 0 0 (MQ below (va_Qv (fun u => u = res) (ctB G ad ca LM) A) (([.ref (ad 500 0), .int x1] : List Value).toArray) s 0 0 A) (F0 m 59 ls [.long w0]) := by
    intro v1 v2 v4 v6 w0 σ H locs ls hf hl hP hS
    unfold X10_remember_c59 at hf
    refine lv_lstore (lv' := [(8, .long w0), (0, .ref (ad 500 0)), (1, .int v1), (2, .long v2), (4, .long v4), (6, .long v6)]) hx hb dX10_remember_59 hl (by decide) rfl (fun ls hl => ?_)
    refine lv_bipush (v := (64 : Int32)) hx hb dX10_remember_61 rfl ?_
    refine lv_iload_n hx hb dX10_remember_63 rfl (lv_at hl 2 rfl) ?_
    refine lv_imul hx hb dX10_remember_64 ?_
    obtain ⟨y6, e_y6, hf⟩ := nm_i hf
    refine x_nmI e_y6 ?_
    refine lv_istore (lv' := [(10, .int y6), (8, .long w0), (0, .ref (ad 500 0)), (1, .int v1), (2, .long v2), (4, .long v4), (6, .long v6)]) hx hb dX10_remember_65 hl (by decide) rfl (fun ls hl => ?_)
    refine lv_iconst (v := (0 : Int32)) hx hb dX10_remember_67 rfl ?_
    refine lv_istore (lv' := [(11, .int (0 : Int32)), (10, .int y6), (8, .long w0), (0, .ref (ad 500 0)), (1, .int v1), (2, .long v2), (4, .long v4), (6, .long v6)]) hx hb dX10_remember_68 hl (by decide) rfl (fun ls hl => ?_)
    exact l70 _ c164 _ v1 v2 v4 v6 w0 y6 (0 : Int32) σ _ _ _  hf (lv_sub hl [3, 4, 5, 6, 7, 2, 1, 0] rfl) hP hS
  have c37 : ∀ (v1 : Int32) (v2 : Int64) (v4 : Int64) (w0 : Int64) (σ : PS) (H : Heap) (locs : List Loc) (ls : Array Slot), X10_remember_c37  v1 v2 v4 w0 σ = some res → lv_has ls 14 [(0, .ref (ad 500 0)), (1, .int v1), (2, .long v2), (4, .long v4)] → va_P G vwCl (wld ad ca σ LM) H → va_S A s.heap H locs → W p l e (headSpec wsX10_remember ({ frames := 2, cells := 0, slots := 0, locals := 51 })).room s m (([.ref (ad 500 0), .int x1] : List Value).toArray) below meth c H locs 0 0 (MQ below (va_Qv (fun u => u = res) (ctB G ad ca LM) A) (([.ref (ad 500 0), .int x1] : List Value).toArray) s 0 0 A) (F0 m 37 ls [.long w0]) := by
    intro v1 v2 v4 w0 σ H locs ls hf hl hP hS
    unfold X10_remember_c37 at hf
    refine lv_lstore (lv' := [(6, .long w0), (0, .ref (ad 500 0)), (1, .int v1), (2, .long v2), (4, .long v4)]) hx hb dX10_remember_37 hl (by decide) rfl (fun ls hl => ?_)
    refine lv_aload_n hx hb dX10_remember_39 rfl (lv_at hl 1 rfl) ?_
    refine x_get (k := 500) (n := 0) hx hb hts i_X10 hown hK hP (mk_500 h01) rfl rfl 9 (by decide) rfl k_29 (v := .ref (ad 510 0)) rfl dX10_remember_40 ?_
    refine lv_iload_n hx hb dX10_remember_43 rfl (lv_at hl 2 rfl) ?_
    obtain ⟨g5, hf⟩ := gd_e hf
    refine x_iald (k := 510) (n := 0) hx hb hK hP (mk_510 h01) rfl g5 dX10_remember_44 ?_
    refine lv_iconst (v := (2 : Int32)) hx hb dX10_remember_45 rfl ?_
    refine lv_icmp_ne (tgt := 58) hx hb dX10_remember_46 rfl (fun hc => ?_) (fun hc => ?_)
    · have hf := b_n hf hc
      refine lv_lconst (v := (0 : Int64)) hx hb dX10_remember_58 rfl ?_
      exact c59 v1 v2 v4 w0 (0 : Int64) σ _ _ _  hf (lv_sub hl [1, 2, 3, 4, 0] rfl) hP hS
    · have hf := b_p hf hc
      refine lv_aload_n hx hb dX10_remember_49 rfl (lv_at hl 1 rfl) ?_
      refine lv_iload_n hx hb dX10_remember_50 rfl (lv_at hl 2 rfl) ?_
      refine lv_iconst (v := (1 : Int32)) hx hb dX10_remember_51 rfl ?_
      obtain ⟨r38, hc38, hf⟩ := bd_e hf
      refine x_cl (va_runV (As := [.int v1, .int (1 : Int32)]) (rest := []) ⟨hx, hb, hml, hown, hts⟩ (t_X10_piece l G ad ca A v1 (1 : Int32) hD  σ r38 hc38) (cwV 2 hts gr_X10_176 rfl rfl rfl h9_X10_piece ⟨Nat.le_of_ble_eq_true rfl, Nat.le_of_ble_eq_true rfl⟩) (x_prV zkM hz hK hP (mk_500 h01) rfl rfl) rfl rfl hl.1 rfl (lv_room (Nat.le_of_ble_eq_true rfl)) dX10_remember_52 ⟨Nat.le_of_ble_eq_true rfl, Nat.le_of_ble_eq_true rfl⟩) hS (fun H locs hP hS => ?_)
      refine lv_goto (tgt := 59) hx hb dX10_remember_55 rfl ?_
      exact c59 v1 v2 v4 w0 r38 σ _ _ _  hf (lv_sub hl [1, 2, 3, 4, 0] rfl) hP hS
  refine lv_aload_n hx hb dX10_remember_0 rfl (lv_at hl 0 rfl) ?_
  refine x_get (k := 500) (n := 0) hx hb hts i_X10 hown hK hP (mk_500 h01) rfl rfl 31 (by decide) rfl k_82 (v := .ref (ad 532 0)) rfl dX10_remember_1 ?_
  refine lv_iconst (v := (0 : Int32)) hx hb dX10_remember_4 rfl ?_
  obtain ⟨g1, hf⟩ := gd_e hf
  refine x_iald (k := 532) (n := 0) hx hb hK hP (mk_532 h01) rfl g1 dX10_remember_5 ?_
  refine lv_i2l hx hb dX10_remember_6 rfl ?_
  obtain ⟨y2, e_y2, hf⟩ := nm_i hf
  refine x_nmL e_y2 ?_
  refine lv_lstore_n (lv' := [(2, .long y2), (0, .ref (ad 500 0)), (1, .int x1)]) hx hb dX10_remember_7 rfl hl (by decide) rfl (fun ls hl => ?_)
  refine lv_aload_n hx hb dX10_remember_8 rfl (lv_at hl 1 rfl) ?_
  refine lv_iload_n hx hb dX10_remember_9 rfl (lv_at hl 2 rfl) ?_
  refine lv_iconst (v := (0 : Int32)) hx hb dX10_remember_10 rfl ?_
  obtain ⟨r3, hc3, hf⟩ := bd_e hf
  refine x_cl (va_runV (As := [.int x1, .int (0 : Int32)]) (rest := []) ⟨hx, hb, hml, hown, hts⟩ (t_X10_piece l G ad ca A x1 (0 : Int32) hD  σ r3 hc3) (cwV 2 hts gr_X10_176 rfl rfl rfl h9_X10_piece ⟨Nat.le_of_ble_eq_true rfl, Nat.le_of_ble_eq_true rfl⟩) (x_prV zkM hz hK hP (mk_500 h01) rfl rfl) rfl rfl hl.1 rfl (lv_room (Nat.le_of_ble_eq_true rfl)) dX10_remember_11 ⟨Nat.le_of_ble_eq_true rfl, Nat.le_of_ble_eq_true rfl⟩) hS (fun H locs hP hS => ?_)
  refine lv_lstore (lv' := [(4, .long r3), (2, .long y2), (0, .ref (ad 500 0)), (1, .int x1)]) hx hb dX10_remember_14 hl (by decide) rfl (fun ls hl => ?_)
  refine lv_aload_n hx hb dX10_remember_16 rfl (lv_at hl 2 rfl) ?_
  refine x_get (k := 500) (n := 0) hx hb hts i_X10 hown hK hP (mk_500 h01) rfl rfl 9 (by decide) rfl k_29 (v := .ref (ad 510 0)) rfl dX10_remember_17 ?_
  refine lv_iload_n hx hb dX10_remember_20 rfl (lv_at hl 3 rfl) ?_
  obtain ⟨g4, hf⟩ := gd_e hf
  refine x_iald (k := 510) (n := 0) hx hb hK hP (mk_510 h01) rfl g4 dX10_remember_21 ?_
  refine lv_iconst (v := (2 : Int32)) hx hb dX10_remember_22 rfl ?_
  refine lv_icmp_ne (tgt := 36) hx hb dX10_remember_23 rfl (fun hc => ?_) (fun hc => ?_)
  · have hf := b_n hf hc
    refine lv_lconst (v := (0 : Int64)) hx hb dX10_remember_36 rfl ?_
    exact c37 x1 y2 r3 (0 : Int64) σ _ _ _  hf (lv_sub hl [2, 3, 1, 0] rfl) hP hS
  · have hf := b_p hf hc
    refine lv_aload_n hx hb dX10_remember_26 rfl (lv_at hl 2 rfl) ?_
    refine x_get (k := 500) (n := 0) hx hb hts i_X10 hown hK hP (mk_500 h01) rfl rfl 31 (by decide) rfl k_82 (v := .ref (ad 532 0)) rfl dX10_remember_27 ?_
    refine lv_iconst (v := (1 : Int32)) hx hb dX10_remember_30 rfl ?_
    obtain ⟨g39, hf⟩ := gd_e hf
    refine x_iald (k := 532) (n := 0) hx hb hK hP (mk_532 h01) rfl g39 dX10_remember_31 ?_
    refine lv_i2l hx hb dX10_remember_32 rfl ?_
    refine lv_goto (tgt := 37) hx hb dX10_remember_33 rfl ?_
    exact c37 x1 y2 r3 (gI σ 532 0 (ix (1 : Int32))).toInt64 σ _ _ _  hf (lv_sub hl [2, 3, 1, 0] rfl) hP hS
theorem h9_X10_arg : yX10_arg.cls = RX10 ∧ yX10_arg.cls ≠ "java/lang/invoke/MethodHandle" ∧ yX10_arg.cls ≠ "java/lang/invoke/VarHandle" ∧ (parseMethodDescriptor yX10_arg.desc).map (fun d => d.parameters.length) = some 2 := by decide +kernel
set_option maxRecDepth 100000 in
set_option maxHeartbeats 4000000 in
theorem t_X10_arg (l : Launch) (G : va_G) (ad : Nat → Nat → Nat) (ca : Nat → ClassId) (A : Nat → Prop)   (x1 : Int32) (x2 : Int32) (hD : DW ad LM A)  (σ : PS) (res : Int32) (σz : PS) (hf : X10_arg  x1 x2 σ = some (res, σz)) : Met l yX10_arg wsX10_arg ({ frames := 0, cells := 0, slots := 0, locals := 0 }) (ctP G ad ca LM σ ZM [.ref (ad 500 0), .int x1, .int x2]) (va_Qi (fun r' u => r' = res ∧ u = σz) (ctB G ad ca LM) A) 0 0 A := by
  refine Met.ofW (cc := cX10_arg) (maxL := 3) (ret := (some .int)) (by decide) rfl ?_
  intro p e s m args below meth c s₁ B hml hv
  obtain ⟨rfl, hP, hK, hz⟩ := hv
  have hx := B.exec
  have hb := B.bytes
  have hr := B.returns
  have hts : ∀ w ∈ WW, w.before _ s = true := fun w h => atoms_spec (ws := wsX10_arg) B.pre w (List.mem_cons_of_mem _ h)
  have hown : s.vm.findClass RX10 = some m.cls := findClass_of_methodNamed B.named
  have hlocks := B.notSynchronized
  have hS : va_S A s.heap s.heap [] := va_S.rf
  have k_72 := hts _ kf_X10_72
  have k_125 := hts _ kf_X10_125
  have hl := lv_entry ([.ref (ad 500 0), .int x1, .int x2]) (n := 3) (Nat.le_of_ble_eq_true rfl)
  rw [lg_entry_eq]
  generalize (lg_sl ([.ref (ad 500 0), .int x1, .int x2]) ++ List.replicate (3 - (lg_sl ([.ref (ad 500 0), .int x1, .int x2])).length) Slot.unset).toArray = ls at hl ⊢
  have hl : lv_has ls 3 [(0, .ref (ad 500 0)), (1, .int x1), (2, .int x2)] := hl
  unfold X10_arg at hf
  refine lv_iload_n hx hb dX10_arg_0 rfl (lv_at hl 1 rfl) ?_
  refine lv_if_lt (tgt := 21) hx hb dX10_arg_1 rfl (fun hc => ?_) (fun hc => ?_)
  · have hf := b_p hf hc
    refine lv_bipush (v := (-2 : Int32)) hx hb dX10_arg_21 rfl ?_
    have hf := Option.some.inj hf
    exact x_iret hx hb hr hlocks hK hP hS (congrArg Prod.fst hf) (congrArg Prod.snd hf) dX10_arg_23
  · have hf := b_n hf hc
    refine lv_iload_n hx hb dX10_arg_4 rfl (lv_at hl 1 rfl) ?_
    refine lv_iconst (v := (1 : Int32)) hx hb dX10_arg_5 rfl ?_
    refine lv_icmp_gt (tgt := 21) hx hb dX10_arg_6 rfl (fun hc => ?_) (fun hc => ?_)
    · have hf := b_p hf hc
      refine lv_bipush (v := (-2 : Int32)) hx hb dX10_arg_21 rfl ?_
      have hf := Option.some.inj hf
      exact x_iret hx hb hr hlocks hK hP hS (congrArg Prod.fst hf) (congrArg Prod.snd hf) dX10_arg_23
    · have hf := b_n hf hc
      refine lv_iload_n hx hb dX10_arg_9 rfl (lv_at hl 2 rfl) ?_
      refine lv_if_lt (tgt := 21) hx hb dX10_arg_10 rfl (fun hc => ?_) (fun hc => ?_)
      · have hf := b_p hf hc
        refine lv_bipush (v := (-2 : Int32)) hx hb dX10_arg_21 rfl ?_
        have hf := Option.some.inj hf
        exact x_iret hx hb hr hlocks hK hP hS (congrArg Prod.fst hf) (congrArg Prod.snd hf) dX10_arg_23
      · have hf := b_n hf hc
        refine lv_iload_n hx hb dX10_arg_13 rfl (lv_at hl 2 rfl) ?_
        refine lv_aload_n hx hb dX10_arg_14 rfl (lv_at hl 0 rfl) ?_
        refine x_get (k := 500) (n := 0) hx hb hts i_X10 hown hK hP (mk_500 h01) rfl rfl 5 (by decide) rfl k_125 (v := .int (gI σ 500 0 5)) rfl dX10_arg_15 ?_
        refine lv_icmp_lt (tgt := 24) hx hb dX10_arg_18 rfl (fun hc => ?_) (fun hc => ?_)
        · have hf := b_p hf hc
          refine lv_aload_n hx hb dX10_arg_24 rfl (lv_at hl 0 rfl) ?_
          refine x_get (k := 500) (n := 0) hx hb hts i_X10 hown hK hP (mk_500 h01) rfl rfl 24 (by decide) rfl k_72 (v := .ref (ad 525 0)) rfl dX10_arg_25 ?_
          refine lv_iload_n hx hb dX10_arg_28 rfl (lv_at hl 1 rfl) ?_
          refine lv_iload_n hx hb dX10_arg_29 rfl (lv_at hl 2 rfl) ?_
          obtain ⟨g1, hf⟩ := gd_e hf
          refine x_iast (k := 525) (n := 0) hx hb hK hD hP hS (mk_525 h01) rfl g1 dX10_arg_30 (fun H locs hP hS => ?_)
          obtain ⟨σ2, e_σ2, hf⟩ := nm_i hf
          have hP : va_P G vwCl (wld ad ca σ2 LM) H := by rw [e_σ2]; exact hP
          refine lv_iconst (v := (1 : Int32)) hx hb dX10_arg_31 rfl ?_
          have hf := Option.some.inj hf
          exact x_iret hx hb hr hlocks hK hP hS (congrArg Prod.fst hf) (congrArg Prod.snd hf) dX10_arg_32
        · have hf := b_n hf hc
          refine lv_bipush (v := (-2 : Int32)) hx hb dX10_arg_21 rfl ?_
          have hf := Option.some.inj hf
          exact x_iret hx hb hr hlocks hK hP hS (congrArg Prod.fst hf) (congrArg Prod.snd hf) dX10_arg_23
theorem h9_X10_note : yX10_note.cls = RX10 ∧ yX10_note.cls ≠ "java/lang/invoke/MethodHandle" ∧ yX10_note.cls ≠ "java/lang/invoke/VarHandle" ∧ (parseMethodDescriptor yX10_note.desc).map (fun d => d.parameters.length) = some 1 := by decide +kernel
set_option maxRecDepth 100000 in
set_option maxHeartbeats 4000000 in
theorem t_X10_note (l : Launch) (G : va_G) (ad : Nat → Nat → Nat) (ca : Nat → ClassId) (A : Nat → Prop)   (x1 : Int32) (hD : DW ad LM A)  (σ : PS) (res : PS) (hf : X10_note  x1 σ = some res) : Met l yX10_note wsX10_note ({ frames := 0, cells := 0, slots := 0, locals := 0 }) (ctP G ad ca LM σ ZM [.ref (ad 500 0), .int x1]) (va_Qv (fun u => u = res) (ctB G ad ca LM) A) 0 0 A := by
  refine Met.ofW (cc := cX10_note) (maxL := 2) (ret := none) (by decide) rfl ?_
  intro p e s m args below meth c s₁ B hml hv
  obtain ⟨rfl, hP, hK, hz⟩ := hv
  have hx := B.exec
  have hb := B.bytes
  have hr := B.returns
  have hts : ∀ w ∈ WW, w.before _ s = true := fun w h => atoms_spec (ws := wsX10_note) B.pre w (List.mem_cons_of_mem _ h)
  have hown : s.vm.findClass RX10 = some m.cls := findClass_of_methodNamed B.named
  have hlocks := B.notSynchronized
  have hS : va_S A s.heap s.heap [] := va_S.rf
  have k_79 := hts _ kf_X10_79
  have k_180 := hts _ kf_X10_180
  have hl := lv_entry ([.ref (ad 500 0), .int x1]) (n := 2) (Nat.le_of_ble_eq_true rfl)
  rw [lg_entry_eq]
  generalize (lg_sl ([.ref (ad 500 0), .int x1]) ++ List.replicate (2 - (lg_sl ([.ref (ad 500 0), .int x1])).length) Slot.unset).toArray = ls at hl ⊢
  have hl : lv_has ls 2 [(0, .ref (ad 500 0)), (1, .int x1)] := hl
  unfold X10_note at hf
  refine lv_aload_n hx hb dX10_note_0 rfl (lv_at hl 0 rfl) ?_
  refine x_get (k := 500) (n := 0) hx hb hts i_X10 hown hK hP (mk_500 h01) rfl rfl 29 (by decide) rfl k_180 (v := .int (gI σ 500 0 29)) rfl dX10_note_1 ?_
  refine lv_sipush (v := (1000 : Int32)) hx hb dX10_note_4 rfl ?_
  refine lv_icmp_ge (tgt := 20) hx hb dX10_note_7 rfl (fun hc => ?_) (fun hc => ?_)
  · have hf := b_p hf hc
    refine lv_aload_n hx hb dX10_note_20 rfl (lv_at hl 0 rfl) ?_
    refine lv_dup hx hb dX10_note_21 rfl ?_
    refine x_get (k := 500) (n := 0) hx hb hts i_X10 hown hK hP (mk_500 h01) rfl rfl 29 (by decide) rfl k_180 (v := .int (gI σ 500 0 29)) rfl dX10_note_22 ?_
    refine lv_iconst (v := (1 : Int32)) hx hb dX10_note_25 rfl ?_
    refine lv_iadd hx hb dX10_note_26 ?_
    refine x_putI (k := 500) (n := 0) hx hb hts i_X10 tyX10 tyX10_ok nmX10 hown hK hD hP hS (mk_500 h01) rfl rfl 29 (by decide) rfl k_180 rfl rfl rfl rfl dX10_note_27 (fun H locs hP hS => ?_)
    obtain ⟨σ1, e_σ1, hf⟩ := nm_i hf
    have hP : va_P G vwCl (wld ad ca σ1 LM) H := by rw [e_σ1]; exact hP
    exact x_vret hx hb hr hlocks hK hP hS (Option.some.inj hf) dX10_note_30
  · have hf := b_n hf hc
    refine lv_aload_n hx hb dX10_note_10 rfl (lv_at hl 0 rfl) ?_
    refine x_get (k := 500) (n := 0) hx hb hts i_X10 hown hK hP (mk_500 h01) rfl rfl 28 (by decide) rfl k_79 (v := .ref (ad 529 0)) rfl dX10_note_11 ?_
    refine lv_aload_n hx hb dX10_note_14 rfl (lv_at hl 0 rfl) ?_
    refine x_get (k := 500) (n := 0) hx hb hts i_X10 hown hK hP (mk_500 h01) rfl rfl 29 (by decide) rfl k_180 (v := .int (gI σ 500 0 29)) rfl dX10_note_15 ?_
    refine lv_iload_n hx hb dX10_note_18 rfl (lv_at hl 1 rfl) ?_
    obtain ⟨g2, hf⟩ := gd_e hf
    refine x_iast (k := 529) (n := 0) hx hb hK hD hP hS (mk_529 h01) rfl g2 dX10_note_19 (fun H locs hP hS => ?_)
    obtain ⟨σ3, e_σ3, hf⟩ := nm_i hf
    have hP : va_P G vwCl (wld ad ca σ3 LM) H := by rw [e_σ3]; exact hP
    refine lv_aload_n hx hb dX10_note_20 rfl (lv_at hl 0 rfl) ?_
    refine lv_dup hx hb dX10_note_21 rfl ?_
    refine x_get (k := 500) (n := 0) hx hb hts i_X10 hown hK hP (mk_500 h01) rfl rfl 29 (by decide) rfl k_180 (v := .int (gI σ3 500 0 29)) rfl dX10_note_22 ?_
    refine lv_iconst (v := (1 : Int32)) hx hb dX10_note_25 rfl ?_
    refine lv_iadd hx hb dX10_note_26 ?_
    refine x_putI (k := 500) (n := 0) hx hb hts i_X10 tyX10 tyX10_ok nmX10 hown hK hD hP hS (mk_500 h01) rfl rfl 29 (by decide) rfl k_180 rfl rfl rfl rfl dX10_note_27 (fun H locs hP hS => ?_)
    obtain ⟨σ4, e_σ4, hf⟩ := nm_i hf
    have hP : va_P G vwCl (wld ad ca σ4 LM) H := by rw [e_σ4]; exact hP
    exact x_vret hx hb hr hlocks hK hP hS (Option.some.inj hf) dX10_note_30
theorem h9_X10_weight : yX10_weight.cls = RX10 ∧ yX10_weight.cls ≠ "java/lang/invoke/MethodHandle" ∧ yX10_weight.cls ≠ "java/lang/invoke/VarHandle" ∧ (parseMethodDescriptor yX10_weight.desc).map (fun d => d.parameters.length) = some 1 := by decide +kernel
set_option maxRecDepth 100000 in
set_option maxHeartbeats 4000000 in
theorem t_X10_weight (l : Launch) (G : va_G) (ad : Nat → Nat → Nat) (ca : Nat → ClassId) (A : Nat → Prop)   (x1 : Int32) (hD : DW ad LM A)  (σ : PS) (res : Int64) (hf : X10_weight  x1 σ = some res) : Met l yX10_weight wsX10_weight ({ frames := 0, cells := 0, slots := 0, locals := 0 }) (ctP G ad ca LM σ ZM [.ref (ad 500 0), .int x1]) (va_Ql (fun r' u => r' = res ∧ u = σ) (ctB G ad ca LM) A) 0 0 A := by
  refine Met.ofW (cc := cX10_weight) (maxL := 2) (ret := (some .long)) (by decide) rfl ?_
  intro p e s m args below meth c s₁ B hml hv
  obtain ⟨rfl, hP, hK, hz⟩ := hv
  have hx := B.exec
  have hb := B.bytes
  have hr := B.returns
  have hts : ∀ w ∈ WW, w.before _ s = true := fun w h => atoms_spec (ws := wsX10_weight) B.pre w (List.mem_cons_of_mem _ h)
  have hown : s.vm.findClass RX10 = some m.cls := findClass_of_methodNamed B.named
  have hlocks := B.notSynchronized
  have hS : va_S A s.heap s.heap [] := va_S.rf
  have k_29 := hts _ kf_X10_29
  have k_85 := hts _ kf_X10_85
  have hl := lv_entry ([.ref (ad 500 0), .int x1]) (n := 2) (Nat.le_of_ble_eq_true rfl)
  rw [lg_entry_eq]
  generalize (lg_sl ([.ref (ad 500 0), .int x1]) ++ List.replicate (2 - (lg_sl ([.ref (ad 500 0), .int x1])).length) Slot.unset).toArray = ls at hl ⊢
  have hl : lv_has ls 2 [(0, .ref (ad 500 0)), (1, .int x1)] := hl
  unfold X10_weight at hf
  refine lv_aload_n hx hb dX10_weight_0 rfl (lv_at hl 0 rfl) ?_
  refine x_get (k := 500) (n := 0) hx hb hts i_X10 hown hK hP (mk_500 h01) rfl rfl 32 (by decide) rfl k_85 (v := .ref (ad 533 0)) rfl dX10_weight_1 ?_
  refine lv_iconst (v := (0 : Int32)) hx hb dX10_weight_4 rfl ?_
  obtain ⟨g1, hf⟩ := gd_e hf
  refine x_lald (k := 533) (n := 0) hx hb hK hP (mk_533 h01) rfl g1 dX10_weight_5 ?_
  refine lv_aload_n hx hb dX10_weight_6 rfl (lv_at hl 0 rfl) ?_
  refine x_get (k := 500) (n := 0) hx hb hts i_X10 hown hK hP (mk_500 h01) rfl rfl 9 (by decide) rfl k_29 (v := .ref (ad 510 0)) rfl dX10_weight_7 ?_
  refine lv_iload_n hx hb dX10_weight_10 rfl (lv_at hl 1 rfl) ?_
  obtain ⟨g2, hf⟩ := gd_e hf
  refine x_iald (k := 510) (n := 0) hx hb hK hP (mk_510 h01) rfl g2 dX10_weight_11 ?_
  refine lv_iconst (v := (2 : Int32)) hx hb dX10_weight_12 rfl ?_
  refine lv_icmp_ne (tgt := 25) hx hb dX10_weight_13 rfl (fun hc => ?_) (fun hc => ?_)
  · have hf := b_n hf hc
    refine lv_lconst (v := (0 : Int64)) hx hb dX10_weight_25 rfl ?_
    refine lv_ladd hx hb dX10_weight_26 ?_
    exact x_lret hx hb hr hlocks hK hP hS (Option.some.inj hf) rfl dX10_weight_27
  · have hf := b_p hf hc
    refine lv_aload_n hx hb dX10_weight_16 rfl (lv_at hl 0 rfl) ?_
    refine x_get (k := 500) (n := 0) hx hb hts i_X10 hown hK hP (mk_500 h01) rfl rfl 32 (by decide) rfl k_85 (v := .ref (ad 533 0)) rfl dX10_weight_17 ?_
    refine lv_iconst (v := (1 : Int32)) hx hb dX10_weight_20 rfl ?_
    obtain ⟨g3, hf⟩ := gd_e hf
    refine x_lald (k := 533) (n := 0) hx hb hK hP (mk_533 h01) rfl g3 dX10_weight_21 ?_
    refine lv_goto (tgt := 26) hx hb dX10_weight_22 rfl ?_
    refine lv_ladd hx hb dX10_weight_26 ?_
    exact x_lret hx hb hr hlocks hK hP hS (Option.some.inj hf) rfl dX10_weight_27
theorem h9_X10_isBarred : yX10_isBarred.cls = RX10 ∧ yX10_isBarred.cls ≠ "java/lang/invoke/MethodHandle" ∧ yX10_isBarred.cls ≠ "java/lang/invoke/VarHandle" ∧ (parseMethodDescriptor yX10_isBarred.desc).map (fun d => d.parameters.length) = some 1 := by decide +kernel
set_option maxRecDepth 100000 in
set_option maxHeartbeats 4000000 in
theorem t_X10_isBarred (l : Launch) (G : va_G) (ad : Nat → Nat → Nat) (ca : Nat → ClassId) (A : Nat → Prop)   (x1 : Int32) (hD : DW ad LM A)  (σ : PS) (res : Int32) (σz : PS) (hf : X10_isBarred  x1 σ = some (res, σz)) : Met l yX10_isBarred wsX10_isBarred ({ frames := 4, cells := 0, slots := 0, locals := 101 }) (ctP G ad ca LM σ ZM [.ref (ad 500 0), .int x1]) (va_Qi (fun r' u => r' = res ∧ u = σz) (ctB G ad ca LM) A) 0 0 A := by
  refine Met.ofW (cc := cX10_isBarred) (maxL := 5) (ret := (some .boolean)) (by decide) rfl ?_
  intro p e s m args below meth c s₁ B hml hv
  obtain ⟨rfl, hP, hK, hz⟩ := hv
  have hx := B.exec
  have hb := B.bytes
  have hr := B.returns
  have hts : ∀ w ∈ WW, w.before _ s = true := fun w h => atoms_spec (ws := wsX10_isBarred) B.pre w (List.mem_cons_of_mem _ h)
  have hown : s.vm.findClass RX10 = some m.cls := findClass_of_methodNamed B.named
  have hlocks := B.notSynchronized
  have hS : va_S A s.heap s.heap [] := va_S.rf
  have k_51 := hts _ kf_X10_51
  have k_54 := hts _ kf_X10_54
  have hl := lv_entry ([.ref (ad 500 0), .int x1]) (n := 5) (Nat.le_of_ble_eq_true rfl)
  rw [lg_entry_eq]
  generalize (lg_sl ([.ref (ad 500 0), .int x1]) ++ List.replicate (5 - (lg_sl ([.ref (ad 500 0), .int x1])).length) Slot.unset).toArray = ls at hl ⊢
  have hl : lv_has ls 5 [(0, .ref (ad 500 0)), (1, .int x1)] := hl
  unfold X10_isBarred at hf
  have l8 : ∀ (kx8 : PS → Option (Int32 × PS)), (∀ (σ : PS) (H : Heap) (locs : List Loc) (ls : Array Slot), kx8 σ = some (res, σz) → lv_has ls 5 [] → va_P G vwCl (wld ad ca σ LM) H → va_S A s.heap H locs → W p l e (headSpec wsX10_isBarred ({ frames := 4, cells := 0, slots := 0, locals := 101 })).room s m (([.ref (ad 500 0), .int x1] : List Value).toArray) below meth c H locs 0 0 (MQ below (va_Qi (fun r' u => r' = res ∧ u = σz) (ctB G ad ca LM) A) (([.ref (ad 500 0), .int x1] : List Value).toArray) s 0 0 A) (F0 m 71 ls [])) → ∀ (n8 : Nat) (v1 : Int32) (v2 : Int32) (v3 : Int32) (σ : PS) (H : Heap) (locs : List Loc) (ls : Array Slot), X10_isBarred_l8  kx8 n8 v1 v2 v3 σ = some (res, σz) → lv_has ls 5 [(0, .ref (ad 500 0)), (1, .int v1), (2, .int v2), (3, .int v3)] → va_P G vwCl (wld ad ca σ LM) H → va_S A s.heap H locs → W p l e (headSpec wsX10_isBarred ({ frames := 4, cells := 0, slots := 0, locals := 101 })).room s m (([.ref (ad 500 0), .int x1] : List Value).toArray) below meth c H locs 0 0 (MQ below (va_Qi (fun r' u => r' = res ∧ u = σz) (ctB G ad ca LM) A) (([.ref (ad 500 0), .int x1] : List Value).toArray) s 0 0 A) (F0 m 8 ls []) := by
    intro kx8 hx8 n8
    induction n8 with
    | zero =>
      intro v1 v2 v3 σ H locs ls hf
      exact absurd hf (by simp [X10_isBarred_l8])
    | succ n8 ih8 =>
      intro v1 v2 v3 σ H locs ls hf hl hP hS
      rw [X10_isBarred_l8.eq_2] at hf
      refine lv_iload_n hx hb dX10_isBarred_8 rfl (lv_at hl 3 rfl) ?_
      refine lv_iload_n hx hb dX10_isBarred_9 rfl (lv_at hl 2 rfl) ?_
      refine lv_icmp_ge (tgt := 71) hx hb dX10_isBarred_10 rfl (fun hc => ?_) (fun hc => ?_)
      · have hf := b_p hf hc
        exact hx8  σ _ _ _  hf (lv_sub hl [] rfl) hP hS
      · have hf := b_n hf hc
        refine lv_aload_n hx hb dX10_isBarred_13 rfl (lv_at hl 0 rfl) ?_
        refine lv_iload_n hx hb dX10_isBarred_14 rfl (lv_at hl 1 rfl) ?_
        refine lv_iload_n hx hb dX10_isBarred_15 rfl (lv_at hl 3 rfl) ?_
        obtain ⟨r2, σ2, hc2, hf⟩ := bp_e hf
        refine x_ci (va_runV (As := [.int v1, .int v3]) (rest := []) ⟨hx, hb, hml, hown, hts⟩ (t_X10_inOrder l G ad ca A v1 v3 hD  σ r2 σ2 hc2) (cwV 2 hts gr_X10_162 rfl rfl rfl h9_X10_inOrder ⟨Nat.le_of_ble_eq_true rfl, Nat.le_of_ble_eq_true rfl⟩) (x_prV zkM hz hK hP (mk_500 h01) rfl rfl) rfl rfl hl.1 rfl (lv_room (Nat.le_of_ble_eq_true rfl)) dX10_isBarred_16 ⟨Nat.le_of_ble_eq_true rfl, Nat.le_of_ble_eq_true rfl⟩) hS (fun H locs hP hS => ?_)
        refine lv_istore (lv' := [(4, .int r2), (0, .ref (ad 500 0)), (1, .int v1), (2, .int v2), (3, .int v3)]) hx hb dX10_isBarred_19 hl (by decide) rfl (fun ls hl => ?_)
        refine lv_aload_n hx hb dX10_isBarred_21 rfl (lv_at hl 1 rfl) ?_
        refine x_get (k := 500) (n := 0) hx hb hts i_X10 hown hK hP (mk_500 h01) rfl rfl 18 (by decide) rfl k_54 (v := .ref (ad 519 0)) rfl dX10_isBarred_22 ?_
        refine lv_iload hx hb dX10_isBarred_25 (lv_at hl 0 rfl) ?_
        obtain ⟨g3, hf⟩ := gd_e hf
        refine x_zald (k := 519) (n := 0) hx hb hK hP (mk_519 h01) rfl g3 dX10_isBarred_27 ?_
        refine lv_if_eq (tgt := 65) hx hb dX10_isBarred_28 rfl (fun hc => ?_) (fun hc => ?_)
        · have hf := b_p hf hc
          refine lv_iinc (v := (v3 + (1 : Int32))) (lv' := [(3, .int (v3 + (1 : Int32))), (4, .int r2), (0, .ref (ad 500 0)), (1, .int v1), (2, .int v2)]) hx hb dX10_isBarred_65 hl (k := 4) rfl rfl (by decide) rfl (fun ls hl => ?_)
          refine lv_goto (tgt := 8) hx hb dX10_isBarred_68 rfl ?_
          exact ih8 v1 v2 (v3 + (1 : Int32)) σ2 _ _ _  hf (lv_sub hl [2, 3, 4, 0] rfl) hP hS
        · have hf := b_n hf hc
          refine lv_aload_n hx hb dX10_isBarred_31 rfl (lv_at hl 1 rfl) ?_
          refine lv_iload hx hb dX10_isBarred_32 (lv_at hl 0 rfl) ?_
          obtain ⟨r4, hc4, hf⟩ := bd_e hf
          refine x_ci (va_runV (As := [.int r2]) (rest := []) ⟨hx, hb, hml, hown, hts⟩ (t_X10_takes l G ad ca A r2 hD  σ2 r4 hc4) (cwV 1 hts gr_X10_168 rfl rfl rfl h9_X10_takes ⟨Nat.le_of_ble_eq_true rfl, Nat.le_of_ble_eq_true rfl⟩) (x_prV zkM hz hK hP (mk_500 h01) rfl rfl) rfl rfl hl.1 rfl (lv_room (Nat.le_of_ble_eq_true rfl)) dX10_isBarred_34 ⟨Nat.le_of_ble_eq_true rfl, Nat.le_of_ble_eq_true rfl⟩) hS (fun H locs hP hS => ?_)
          refine lv_if_eq (tgt := 65) hx hb dX10_isBarred_37 rfl (fun hc => ?_) (fun hc => ?_)
          · have hf := b_p hf hc
            refine lv_iinc (v := (v3 + (1 : Int32))) (lv' := [(3, .int (v3 + (1 : Int32))), (4, .int r2), (0, .ref (ad 500 0)), (1, .int v1), (2, .int v2)]) hx hb dX10_isBarred_65 hl (k := 4) rfl rfl (by decide) rfl (fun ls hl => ?_)
            refine lv_goto (tgt := 8) hx hb dX10_isBarred_68 rfl ?_
            exact ih8 v1 v2 (v3 + (1 : Int32)) σ2 _ _ _  hf (lv_sub hl [2, 3, 4, 0] rfl) hP hS
          · have hf := b_n hf hc
            refine lv_aload_n hx hb dX10_isBarred_40 rfl (lv_at hl 1 rfl) ?_
            refine lv_iload hx hb dX10_isBarred_41 (lv_at hl 0 rfl) ?_
            obtain ⟨σ5, hc5, hf⟩ := bd_e hf
            refine x_cv (va_runV (As := [.int r2]) (rest := []) ⟨hx, hb, hml, hown, hts⟩ (t_X10_note l G ad ca A r2 hD  σ2 σ5 hc5) (cwV 1 hts gr_X10_183 rfl rfl rfl h9_X10_note ⟨Nat.le_of_ble_eq_true rfl, Nat.le_of_ble_eq_true rfl⟩) (x_prV zkM hz hK hP (mk_500 h01) rfl rfl) rfl rfl hl.1 rfl (lv_room (Nat.le_of_ble_eq_true rfl)) dX10_isBarred_43 ⟨Nat.le_of_ble_eq_true rfl, Nat.le_of_ble_eq_true rfl⟩) hS (fun H locs hP hS => ?_)
            refine lv_aload_n hx hb dX10_isBarred_46 rfl (lv_at hl 1 rfl) ?_
            refine lv_iload_n hx hb dX10_isBarred_47 rfl (lv_at hl 2 rfl) ?_
            obtain ⟨r6, hc6, hf⟩ := bd_e hf
            refine x_cl (va_runV (As := [.int v1]) (rest := []) ⟨hx, hb, hml, hown, hts⟩ (t_X10_weight l G ad ca A v1 hD  σ5 r6 hc6) (cwV 1 hts gr_X10_187 rfl rfl rfl h9_X10_weight ⟨Nat.le_of_ble_eq_true rfl, Nat.le_of_ble_eq_true rfl⟩) (x_prV zkM hz hK hP (mk_500 h01) rfl rfl) rfl rfl hl.1 rfl (lv_room (Nat.le_of_ble_eq_true rfl)) dX10_isBarred_48 ⟨Nat.le_of_ble_eq_true rfl, Nat.le_of_ble_eq_true rfl⟩) hS (fun H locs hP hS => ?_)
            refine lv_aload_n hx hb dX10_isBarred_51 rfl (lv_at hl 1 rfl) ?_
            refine x_get (k := 500) (n := 0) hx hb hts i_X10 hown hK hP (mk_500 h01) rfl rfl 17 (by decide) rfl k_51 (v := .ref (ad 518 0)) rfl dX10_isBarred_52 ?_
            refine lv_iload hx hb dX10_isBarred_55 (lv_at hl 0 rfl) ?_
            obtain ⟨g7, hf⟩ := gd_e hf
            refine x_iald (k := 518) (n := 0) hx hb hK hP (mk_518 h01) rfl g7 dX10_isBarred_57 ?_
            refine lv_i2l hx hb dX10_isBarred_58 rfl ?_
            refine W.lcmp hx hb dX10_isBarred_59 ?_
            refine lv_if_ge (tgt := 65) hx hb dX10_isBarred_60 rfl (fun hc => ?_) (fun hc => ?_)
            · have hf := b_p hf hc
              refine lv_iinc (v := (v3 + (1 : Int32))) (lv' := [(3, .int (v3 + (1 : Int32))), (4, .int r2), (0, .ref (ad 500 0)), (1, .int v1), (2, .int v2)]) hx hb dX10_isBarred_65 hl (k := 4) rfl rfl (by decide) rfl (fun ls hl => ?_)
              refine lv_goto (tgt := 8) hx hb dX10_isBarred_68 rfl ?_
              exact ih8 v1 v2 (v3 + (1 : Int32)) σ5 _ _ _  hf (lv_sub hl [2, 3, 4, 0] rfl) hP hS
            · have hf := b_n hf hc
              refine lv_iconst (v := (1 : Int32)) hx hb dX10_isBarred_63 rfl ?_
              have hf := Option.some.inj hf
              exact x_zret hx hb hr hlocks hK hP hS (by decide) (congrArg Prod.fst hf) (congrArg Prod.snd hf) dX10_isBarred_64
  have c71 : ∀ (σ : PS) (H : Heap) (locs : List Loc) (ls : Array Slot), X10_isBarred_c71   σ = some (res, σz) → lv_has ls 5 [] → va_P G vwCl (wld ad ca σ LM) H → va_S A s.heap H locs → W p l e (headSpec wsX10_isBarred ({ frames := 4, cells := 0, slots := 0, locals := 101 })).room s m (([.ref (ad 500 0), .int x1] : List Value).toArray) below meth c H locs 0 0 (MQ below (va_Qi (fun r' u => r' = res ∧ u = σz) (ctB G ad ca LM) A) (([.ref (ad 500 0), .int x1] : List Value).toArray) s 0 0 A) (F0 m 71 ls []) := by
    intro σ H locs ls hf hl hP hS
    unfold X10_isBarred_c71 at hf
    refine lv_iconst (v := (0 : Int32)) hx hb dX10_isBarred_71 rfl ?_
    have hf := Option.some.inj hf
    exact x_zret hx hb hr hlocks hK hP hS (by decide) (congrArg Prod.fst hf) (congrArg Prod.snd hf) dX10_isBarred_72
  refine lv_aload_n hx hb dX10_isBarred_0 rfl (lv_at hl 0 rfl) ?_
  refine lv_iload_n hx hb dX10_isBarred_1 rfl (lv_at hl 1 rfl) ?_
  obtain ⟨r1, hc1, hf⟩ := bd_e hf
  refine x_ci (va_runV (As := [.int x1]) (rest := []) ⟨hx, hb, hml, hown, hts⟩ (t_X10_laid l G ad ca A x1 hD  σ r1 hc1) (cwV 1 hts gr_X10_155 rfl rfl rfl h9_X10_laid ⟨Nat.le_of_ble_eq_true rfl, Nat.le_of_ble_eq_true rfl⟩) (x_prV zkM hz hK hP (mk_500 h01) rfl rfl) rfl rfl hl.1 rfl (lv_room (Nat.le_of_ble_eq_true rfl)) dX10_isBarred_2 ⟨Nat.le_of_ble_eq_true rfl, Nat.le_of_ble_eq_true rfl⟩) hS (fun H locs hP hS => ?_)
  refine lv_istore_n (lv' := [(2, .int r1), (0, .ref (ad 500 0)), (1, .int x1)]) hx hb dX10_isBarred_5 rfl hl (by decide) rfl (fun ls hl => ?_)
  refine lv_iconst (v := (0 : Int32)) hx hb dX10_isBarred_6 rfl ?_
  refine lv_istore_n (lv' := [(3, .int (0 : Int32)), (2, .int r1), (0, .ref (ad 500 0)), (1, .int x1)]) hx hb dX10_isBarred_7 rfl hl (by decide) rfl (fun ls hl => ?_)
  exact l8 _ c71 _ x1 r1 (0 : Int32) σ _ _ _  hf (lv_sub hl [2, 3, 1, 0] rfl) hP hS

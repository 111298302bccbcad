theorem h9_X10_count : yX10_count.cls = RX10 ∧ yX10_count.cls ≠ "java/lang/invoke/MethodHandle" ∧ yX10_count.cls ≠ "java/lang/invoke/VarHandle" ∧ (parseMethodDescriptor yX10_count.desc).map (fun d => d.parameters.length) = some 2 := by decide +kernel
set_option maxRecDepth 100000 in
set_option maxHeartbeats 4000000 in
theorem t_X10_count (l : Launch) (G : va_G) (ad : Nat → Nat → Nat) (ca : Nat → ClassId) (A : Nat → Prop)   (x1 : Int32) (x2 : Int32) (hD : DW ad LM A)  (σ : PS) (res : Int32) (hf : X10_count  x1 x2 σ = some res) : Met l yX10_count wsX10_count ({ frames := 2, cells := 0, slots := 0, locals := 45 }) (ctP G ad ca LM σ ZM [.ref (ad 500 0), .int x1, .int x2]) (va_Qi (fun r' u => r' = res ∧ u = σ) (ctB G ad ca LM) A) 0 0 A := by
  refine Met.ofW (cc := cX10_count) (maxL := 3) (ret := (some .int)) (by decide) rfl ?_
  intro p e s m args below meth c s₁ B hml hv
  obtain ⟨rfl, hP, hK, hz⟩ := hv
  have hx := B.exec
  have hb := B.bytes
  have hr := B.returns
  have hts : ∀ w ∈ WW, w.before _ s = true := fun w h => atoms_spec (ws := wsX10_count) B.pre w (List.mem_cons_of_mem _ h)
  have hown : s.vm.findClass RX10 = some m.cls := findClass_of_methodNamed B.named
  have hlocks := B.notSynchronized
  have hS : va_S A s.heap s.heap [] := va_S.rf
  have k_29 := hts _ kf_X10_29
  have k_32 := hts _ kf_X10_32
  have k_35 := hts _ kf_X10_35
  have k_42 := hts _ kf_X10_42
  have hl := lv_entry ([.ref (ad 500 0), .int x1, .int x2]) (n := 3) (Nat.le_of_ble_eq_true rfl)
  rw [lg_entry_eq]
  generalize (lg_sl ([.ref (ad 500 0), .int x1, .int x2]) ++ List.replicate (3 - (lg_sl ([.ref (ad 500 0), .int x1, .int x2])).length) Slot.unset).toArray = ls at hl ⊢
  have hl : lv_has ls 3 [(0, .ref (ad 500 0)), (1, .int x1), (2, .int x2)] := hl
  unfold X10_count at hf
  refine lv_iload_n hx hb dX10_count_0 rfl (lv_at hl 1 rfl) ?_
  refine lv_iconst (v := (-1 : Int32)) hx hb dX10_count_1 rfl ?_
  refine lv_icmp_ne (tgt := 11) hx hb dX10_count_2 rfl (fun hc => ?_) (fun hc => ?_)
  · have hf := b_n hf hc
    refine lv_aload_n hx hb dX10_count_11 rfl (lv_at hl 0 rfl) ?_
    refine lv_iload_n hx hb dX10_count_12 rfl (lv_at hl 1 rfl) ?_
    obtain ⟨r1, hc1, hf⟩ := bd_e hf
    refine x_ci (va_runV (As := [.int x1]) (rest := []) ⟨hx, hb, hml, hown, hts⟩ (t_X10_isFunction l G ad ca A x1 hD  σ r1 hc1) (cwV 1 hts gr_X10_134 rfl rfl rfl h9_X10_isFunction ⟨Nat.le_of_ble_eq_true rfl, Nat.le_of_ble_eq_true rfl⟩) (x_prV zkM hz hK hP (mk_500 h01) rfl rfl) rfl rfl hl.1 rfl (lv_room (Nat.le_of_ble_eq_true rfl)) dX10_count_13 ⟨Nat.le_of_ble_eq_true rfl, Nat.le_of_ble_eq_true rfl⟩) hS (fun H locs hP hS => ?_)
    refine lv_if_eq (tgt := 28) hx hb dX10_count_16 rfl (fun hc => ?_) (fun hc => ?_)
    · have hf := b_p hf hc
      refine lv_bipush (v := (-2 : Int32)) hx hb dX10_count_28 rfl ?_
      exact x_iret hx hb hr hlocks hK hP hS (Option.some.inj hf) rfl dX10_count_30
    · have hf := b_n hf hc
      refine lv_iload_n hx hb dX10_count_19 rfl (lv_at hl 2 rfl) ?_
      refine lv_if_lt (tgt := 28) hx hb dX10_count_20 rfl (fun hc => ?_) (fun hc => ?_)
      · have hf := b_p hf hc
        refine lv_bipush (v := (-2 : Int32)) hx hb dX10_count_28 rfl ?_
        exact x_iret hx hb hr hlocks hK hP hS (Option.some.inj hf) rfl dX10_count_30
      · have hf := b_n hf hc
        refine lv_iload_n hx hb dX10_count_23 rfl (lv_at hl 2 rfl) ?_
        refine lv_iconst (v := (4 : Int32)) hx hb dX10_count_24 rfl ?_
        refine lv_icmp_le (tgt := 31) hx hb dX10_count_25 rfl (fun hc => ?_) (fun hc => ?_)
        · have hf := b_p hf hc
          refine lv_iload_n hx hb dX10_count_31 rfl (lv_at hl 2 rfl) ?_
          refine lv_if_ne (tgt := 44) hx hb dX10_count_32 rfl (fun hc => ?_) (fun hc => ?_)
          · have hf := b_n hf hc
            refine lv_iload_n hx hb dX10_count_44 rfl (lv_at hl 2 rfl) ?_
            refine lv_iconst (v := (1 : Int32)) hx hb dX10_count_45 rfl ?_
            refine lv_icmp_ne (tgt := 57) hx hb dX10_count_46 rfl (fun hc => ?_) (fun hc => ?_)
            · have hf := b_n hf hc
              refine lv_iload_n hx hb dX10_count_57 rfl (lv_at hl 2 rfl) ?_
              refine lv_iconst (v := (2 : Int32)) hx hb dX10_count_58 rfl ?_
              refine lv_icmp_ne (tgt := 79) hx hb dX10_count_59 rfl (fun hc => ?_) (fun hc => ?_)
              · have hf := b_n hf hc
                refine lv_iload_n hx hb dX10_count_79 rfl (lv_at hl 2 rfl) ?_
                refine lv_iconst (v := (3 : Int32)) hx hb dX10_count_80 rfl ?_
                refine lv_icmp_ne (tgt := 93) hx hb dX10_count_81 rfl (fun hc => ?_) (fun hc => ?_)
                · have hf := b_n hf hc
                  refine lv_aload_n hx hb dX10_count_93 rfl (lv_at hl 0 rfl) ?_
                  refine x_get (k := 500) (n := 0) hx hb hts i_X10 hown hK hP (mk_500 h01) rfl rfl 13 (by decide) rfl k_42 (v := .ref (ad 514 0)) rfl dX10_count_94 ?_
                  refine lv_iload_n hx hb dX10_count_97 rfl (lv_at hl 1 rfl) ?_
                  obtain ⟨g2, hf⟩ := gd_e hf
                  refine x_iald (k := 514) (n := 0) hx hb hK hP (mk_514 h01) rfl g2 dX10_count_98 ?_
                  exact x_iret hx hb hr hlocks hK hP hS (Option.some.inj hf) rfl dX10_count_99
                · have hf := b_p hf hc
                  refine lv_aload_n hx hb dX10_count_84 rfl (lv_at hl 0 rfl) ?_
                  refine x_get (k := 500) (n := 0) hx hb hts i_X10 hown hK hP (mk_500 h01) rfl rfl 11 (by decide) rfl k_35 (v := .ref (ad 512 0)) rfl dX10_count_85 ?_
                  refine lv_iload_n hx hb dX10_count_88 rfl (lv_at hl 1 rfl) ?_
                  obtain ⟨g3, hf⟩ := gd_e hf
                  refine x_iald (k := 512) (n := 0) hx hb hK hP (mk_512 h01) rfl g3 dX10_count_89 ?_
                  refine lv_goto (tgt := 99) hx hb dX10_count_90 rfl ?_
                  exact x_iret hx hb hr hlocks hK hP hS (Option.some.inj hf) rfl dX10_count_99
              · have hf := b_p hf hc
                refine lv_aload_n hx hb dX10_count_62 rfl (lv_at hl 0 rfl) ?_
                refine x_get (k := 500) (n := 0) hx hb hts i_X10 hown hK hP (mk_500 h01) rfl rfl 10 (by decide) rfl k_32 (v := .ref (ad 511 0)) rfl dX10_count_63 ?_
                refine lv_iload_n hx hb dX10_count_66 rfl (lv_at hl 1 rfl) ?_
                obtain ⟨g4, hf⟩ := gd_e hf
                refine x_zald (k := 511) (n := 0) hx hb hK hP (mk_511 h01) rfl g4 dX10_count_67 ?_
                refine lv_if_eq (tgt := 75) hx hb dX10_count_68 rfl (fun hc => ?_) (fun hc => ?_)
                · have hf := b_p hf hc
                  refine lv_iconst (v := (0 : Int32)) hx hb dX10_count_75 rfl ?_
                  refine lv_goto (tgt := 99) hx hb dX10_count_76 rfl ?_
                  exact x_iret hx hb hr hlocks hK hP hS (Option.some.inj hf) rfl dX10_count_99
                · have hf := b_n hf hc
                  refine lv_iconst (v := (1 : Int32)) hx hb dX10_count_71 rfl ?_
                  refine lv_goto (tgt := 99) hx hb dX10_count_72 rfl ?_
                  exact x_iret hx hb hr hlocks hK hP hS (Option.some.inj hf) rfl dX10_count_99
            · have hf := b_p hf hc
              refine lv_aload_n hx hb dX10_count_49 rfl (lv_at hl 0 rfl) ?_
              refine lv_iload_n hx hb dX10_count_50 rfl (lv_at hl 1 rfl) ?_
              obtain ⟨r5, hc5, hf⟩ := bd_e hf
              refine x_ci (va_runV (As := [.int x1]) (rest := []) ⟨hx, hb, hml, hown, hts⟩ (t_X10_laid l G ad ca A x1 hD  σ r5 hc5) (cwV 1 hts gr_X10_155 rfl rfl rfl h9_X10_laid ⟨Nat.le_of_ble_eq_true rfl, Nat.le_of_ble_eq_true rfl⟩) (x_prV zkM hz hK hP (mk_500 h01) rfl rfl) rfl rfl hl.1 rfl (lv_room (Nat.le_of_ble_eq_true rfl)) dX10_count_51 ⟨Nat.le_of_ble_eq_true rfl, Nat.le_of_ble_eq_true rfl⟩) hS (fun H locs hP hS => ?_)
              refine lv_goto (tgt := 99) hx hb dX10_count_54 rfl ?_
              exact x_iret hx hb hr hlocks hK hP hS (Option.some.inj hf) rfl dX10_count_99
          · have hf := b_p hf hc
            refine lv_aload_n hx hb dX10_count_35 rfl (lv_at hl 0 rfl) ?_
            refine x_get (k := 500) (n := 0) hx hb hts i_X10 hown hK hP (mk_500 h01) rfl rfl 9 (by decide) rfl k_29 (v := .ref (ad 510 0)) rfl dX10_count_36 ?_
            refine lv_iload_n hx hb dX10_count_39 rfl (lv_at hl 1 rfl) ?_
            obtain ⟨g6, hf⟩ := gd_e hf
            refine x_iald (k := 510) (n := 0) hx hb hK hP (mk_510 h01) rfl g6 dX10_count_40 ?_
            refine lv_goto (tgt := 99) hx hb dX10_count_41 rfl ?_
            exact x_iret hx hb hr hlocks hK hP hS (Option.some.inj hf) rfl dX10_count_99
        · have hf := b_n hf hc
          refine lv_bipush (v := (-2 : Int32)) hx hb dX10_count_28 rfl ?_
          exact x_iret hx hb hr hlocks hK hP hS (Option.some.inj hf) rfl dX10_count_30
  · have hf := b_p hf hc
    refine lv_aload_n hx hb dX10_count_5 rfl (lv_at hl 0 rfl) ?_
    refine lv_iload_n hx hb dX10_count_6 rfl (lv_at hl 2 rfl) ?_
    obtain ⟨r7, hc7, hf⟩ := bd_e hf
    refine x_ci (va_runV (As := [.int x2]) (rest := []) ⟨hx, hb, hml, hown, hts⟩ (t_X10_countAll l G ad ca A x2 hD  σ r7 hc7) (cwV 1 hts gr_X10_247 rfl rfl rfl h9_X10_countAll ⟨Nat.le_of_ble_eq_true rfl, Nat.le_of_ble_eq_true rfl⟩) (x_prV zkM hz hK hP (mk_500 h01) rfl rfl) rfl rfl hl.1 rfl (lv_room (Nat.le_of_ble_eq_true rfl)) dX10_count_7 ⟨Nat.le_of_ble_eq_true rfl, Nat.le_of_ble_eq_true rfl⟩) hS (fun H locs hP hS => ?_)
    exact x_iret hx hb hr hlocks hK hP hS (Option.some.inj hf) rfl dX10_count_10
theorem h9_X10_findEdges : yX10_findEdges.cls = RX10 ∧ yX10_findEdges.cls ≠ "java/lang/invoke/MethodHandle" ∧ yX10_findEdges.cls ≠ "java/lang/invoke/VarHandle" ∧ (parseMethodDescriptor yX10_findEdges.desc).map (fun d => d.parameters.length) = some 2 := by decide +kernel
set_option maxRecDepth 100000 in
set_option maxHeartbeats 4000000 in
theorem t_X10_findEdges (l : Launch) (G : va_G) (ad : Nat → Nat → Nat) (ca : Nat → ClassId) (A : Nat → Prop)   (x1 : Int32) (x2 : Int32) (hD : DW ad LM A)  (σ : PS) (res : PS) (hf : X10_findEdges  x1 x2 σ = some res) : Met l yX10_findEdges wsX10_findEdges ({ frames := 1, cells := 0, slots := 0, locals := 22 }) (ctP G ad ca LM σ ZM [.ref (ad 500 0), .int x1, .int x2]) (va_Qv (fun u => u = res) (ctB G ad ca LM) A) 0 0 A := by
  refine Met.ofW (cc := cX10_findEdges) (maxL := 14) (ret := none) (by decide) rfl ?_
  intro p e s m args below meth c s₁ B hml hv
  obtain ⟨rfl, hP, hK, hz⟩ := hv
  have hx := B.exec
  have hb := B.bytes
  have hr := B.returns
  have hts : ∀ w ∈ WW, w.before _ s = true := fun w h => atoms_spec (ws := wsX10_findEdges) B.pre w (List.mem_cons_of_mem _ h)
  have hown : s.vm.findClass RX10 = some m.cls := findClass_of_methodNamed B.named
  have hlocks := B.notSynchronized
  have hS : va_S A s.heap s.heap [] := va_S.rf
  have k_174 := hts _ kk_X10_174
  have k_250 := hts _ kk_X10_250
  have k_63 := hts _ kf_X10_63
  have k_66 := hts _ kf_X10_66
  have k_94 := hts _ kf_X10_94
  have k_97 := hts _ kf_X10_97
  have k_131 := hts _ kf_X10_131
  have hl := lv_entry ([.ref (ad 500 0), .int x1, .int x2]) (n := 14) (Nat.le_of_ble_eq_true rfl)
  rw [lg_entry_eq]
  generalize (lg_sl ([.ref (ad 500 0), .int x1, .int x2]) ++ List.replicate (14 - (lg_sl ([.ref (ad 500 0), .int x1, .int x2])).length) Slot.unset).toArray = ls at hl ⊢
  have hl : lv_has ls 14 [(0, .ref (ad 500 0)), (1, .int x1), (2, .int x2)] := hl
  unfold X10_findEdges at hf
  have l22 : ∀ (kx22 : Int32 → Int32 → PS → Option (PS)), (∀ (v2 : Int32) (v3 : Int32) (σ : PS) (H : Heap) (locs : List Loc) (ls : Array Slot), kx22 v2 v3 σ = some res → lv_has ls 14 [(0, .ref (ad 500 0)), (2, .int v2), (3, .int v3)] → va_P G vwCl (wld ad ca σ LM) H → va_S A s.heap H locs → W p l e (headSpec wsX10_findEdges ({ frames := 1, cells := 0, slots := 0, locals := 22 })).room s m (([.ref (ad 500 0), .int x1, .int x2] : List Value).toArray) below meth c H locs 0 0 (MQ below (va_Qv (fun u => u = res) (ctB G ad ca LM) A) (([.ref (ad 500 0), .int x1, .int x2] : List Value).toArray) s 0 0 A) (F0 m 184 ls [])) → ∀ (n22 : Nat) (v1 : Int32) (v2 : Int32) (v3 : Int32) (v4 : Int64) (v6 : Int32) (σ : PS) (H : Heap) (locs : List Loc) (ls : Array Slot), X10_findEdges_l22  kx22 n22 v1 v2 v3 v4 v6 σ = some res → lv_has ls 14 [(0, .ref (ad 500 0)), (1, .int v1), (2, .int v2), (3, .int v3), (4, .long v4), (6, .int v6)] → va_P G vwCl (wld ad ca σ LM) H → va_S A s.heap H locs → W p l e (headSpec wsX10_findEdges ({ frames := 1, cells := 0, slots := 0, locals := 22 })).room s m (([.ref (ad 500 0), .int x1, .int x2] : List Value).toArray) below meth c H locs 0 0 (MQ below (va_Qv (fun u => u = res) (ctB G ad ca LM) A) (([.ref (ad 500 0), .int x1, .int x2] : List Value).toArray) s 0 0 A) (F0 m 22 ls []) := by
    intro kx22 hx22 n22
    induction n22 with
    | zero =>
      intro v1 v2 v3 v4 v6 σ H locs ls hf
      exact absurd hf (by simp [X10_findEdges_l22])
    | succ n22 ih22 =>
      intro v1 v2 v3 v4 v6 σ H locs ls hf hl hP hS
      rw [X10_findEdges_l22.eq_2] at hf
      have l35 : ∀ (kx35 : Int32 → Int32 → Int32 → Int64 → Int64 → PS → Option (PS)), (∀ (v1 : Int32) (v2 : Int32) (v3 : Int32) (v4 : Int64) (v7 : Int64) (σ : PS) (H : Heap) (locs : List Loc) (ls : Array Slot), kx35 v1 v2 v3 v4 v7 σ = some res → lv_has ls 14 [(0, .ref (ad 500 0)), (1, .int v1), (2, .int v2), (3, .int v3), (4, .long v4), (7, .long v7)] → va_P G vwCl (wld ad ca σ LM) H → va_S A s.heap H locs → W p l e (headSpec wsX10_findEdges ({ frames := 1, cells := 0, slots := 0, locals := 22 })).room s m (([.ref (ad 500 0), .int x1, .int x2] : List Value).toArray) below meth c H locs 0 0 (MQ below (va_Qv (fun u => u = res) (ctB G ad ca LM) A) (([.ref (ad 500 0), .int x1, .int x2] : List Value).toArray) s 0 0 A) (F0 m 140 ls [])) → ∀ (n35 : Nat) (v1 : Int32) (v2 : Int32) (v3 : Int32) (v4 : Int64) (v7 : Int64) (v9 : Int32) (σ : PS) (H : Heap) (locs : List Loc) (ls : Array Slot), X10_findEdges_l35  kx35 n35 v1 v2 v3 v4 v7 v9 σ = some res → lv_has ls 14 [(0, .ref (ad 500 0)), (1, .int v1), (2, .int v2), (3, .int v3), (4, .long v4), (7, .long v7), (9, .int v9)] → va_P G vwCl (wld ad ca σ LM) H → va_S A s.heap H locs → W p l e (headSpec wsX10_findEdges ({ frames := 1, cells := 0, slots := 0, locals := 22 })).room s m (([.ref (ad 500 0), .int x1, .int x2] : List Value).toArray) below meth c H locs 0 0 (MQ below (va_Qv (fun u => u = res) (ctB G ad ca LM) A) (([.ref (ad 500 0), .int x1, .int x2] : List Value).toArray) s 0 0 A) (F0 m 35 ls []) := by
        intro kx35 hx35 n35
        induction n35 with
        | zero =>
          intro v1 v2 v3 v4 v7 v9 σ H locs ls hf
          exact absurd hf (by simp [X10_findEdges_l35])
        | succ n35 ih35 =>
          intro v1 v2 v3 v4 v7 v9 σ H locs ls hf hl hP hS
          rw [X10_findEdges_l35.eq_2] at hf
          have c107 : ∀ (v1 : Int32) (v2 : Int32) (v3 : Int32) (v4 : Int64) (v9 : Int32) (v12 : Int64) (w0 : Int64) (σ : PS) (H : Heap) (locs : List Loc) (ls : Array Slot), X10_findEdges_c107  (X10_findEdges_l35  kx35 n35) kx35 v1 v2 v3 v4 v9 v12 w0 σ = some res → lv_has ls 14 [(0, .ref (ad 500 0)), (1, .int v1), (2, .int v2), (3, .int v3), (4, .long v4), (9, .int v9), (12, .long v12)] → va_P G vwCl (wld ad ca σ LM) H → va_S A s.heap H locs → W p l e (headSpec wsX10_findEdges ({ frames := 1, cells := 0, slots := 0, locals := 22 })).room s m (([.ref (ad 500 0), .int x1, .int x2] : List Value).toArray) below meth c H locs 0 0 (MQ below (va_Qv (fun u => u = res) (ctB G ad ca LM) A) (([.ref (ad 500 0), .int x1, .int x2] : List Value).toArray) s 0 0 A) (F0 m 107 ls [.long w0]) := by
            intro v1 v2 v3 v4 v9 v12 w0 σ H locs ls hf hl hP hS
            unfold X10_findEdges_c107 at hf
            refine lv_lstore (lv' := [(7, .long w0), (0, .ref (ad 500 0)), (1, .int v1), (2, .int v2), (3, .int v3), (4, .long v4), (9, .int v9), (12, .long v12)]) hx hb dX10_findEdges_107 hl (by decide) rfl (fun ls hl => ?_)
            refine lv_lload hx hb dX10_findEdges_109 (lv_at hl 7 rfl) ?_
            refine lv_lload hx hb dX10_findEdges_111 (lv_at hl 5 rfl) ?_
            refine W.lcmp hx hb dX10_findEdges_113 ?_
            refine lv_if_le (tgt := 130) hx hb dX10_findEdges_114 rfl (fun hc => ?_) (fun hc => ?_)
            · have hf := b_p hf hc
              refine lv_lload hx hb dX10_findEdges_130 (lv_at hl 0 rfl) ?_
              refine lv_lstore (lv' := [(7, .long w0), (0, .ref (ad 500 0)), (1, .int v1), (2, .int v2), (3, .int v3), (4, .long v4), (9, .int v9), (12, .long v12)]) hx hb dX10_findEdges_132 hl (by decide) rfl (fun ls hl => ?_)
              refine lv_iinc (v := (v9 + (1 : Int32))) (lv' := [(9, .int (v9 + (1 : Int32))), (7, .long w0), (0, .ref (ad 500 0)), (1, .int v1), (2, .int v2), (3, .int v3), (4, .long v4), (12, .long v12)]) hx hb dX10_findEdges_134 hl (k := 6) rfl rfl (by decide) rfl (fun ls hl => ?_)
              refine lv_goto (tgt := 35) hx hb dX10_findEdges_137 rfl ?_
              exact ih35 v1 v2 v3 v4 w0 (v9 + (1 : Int32)) σ _ _ _  hf (lv_sub hl [2, 3, 4, 5, 6, 1, 0] rfl) hP hS
            · have hf := b_n hf hc
              refine lv_lload hx hb dX10_findEdges_117 (lv_at hl 7 rfl) ?_
              refine lv_lload hx hb dX10_findEdges_119 (lv_at hl 0 rfl) ?_
              refine W.lcmp hx hb dX10_findEdges_121 ?_
              refine lv_if_ge (tgt := 130) hx hb dX10_findEdges_122 rfl (fun hc => ?_) (fun hc => ?_)
              · have hf := b_p hf hc
                refine lv_lload hx hb dX10_findEdges_130 (lv_at hl 0 rfl) ?_
                refine lv_lstore (lv' := [(7, .long w0), (0, .ref (ad 500 0)), (1, .int v1), (2, .int v2), (3, .int v3), (4, .long v4), (9, .int v9), (12, .long v12)]) hx hb dX10_findEdges_132 hl (by decide) rfl (fun ls hl => ?_)
                refine lv_iinc (v := (v9 + (1 : Int32))) (lv' := [(9, .int (v9 + (1 : Int32))), (7, .long w0), (0, .ref (ad 500 0)), (1, .int v1), (2, .int v2), (3, .int v3), (4, .long v4), (12, .long v12)]) hx hb dX10_findEdges_134 hl (k := 6) rfl rfl (by decide) rfl (fun ls hl => ?_)
                refine lv_goto (tgt := 35) hx hb dX10_findEdges_137 rfl ?_
                exact ih35 v1 v2 v3 v4 w0 (v9 + (1 : Int32)) σ _ _ _  hf (lv_sub hl [2, 3, 4, 5, 6, 1, 0] rfl) hP hS
              · have hf := b_n hf hc
                refine lv_lload hx hb dX10_findEdges_125 (lv_at hl 7 rfl) ?_
                refine lv_goto (tgt := 132) hx hb dX10_findEdges_127 rfl ?_
                refine lv_lstore (lv' := [(7, .long v12), (0, .ref (ad 500 0)), (1, .int v1), (2, .int v2), (3, .int v3), (4, .long v4), (9, .int v9), (12, .long v12)]) hx hb dX10_findEdges_132 hl (by decide) rfl (fun ls hl => ?_)
                refine lv_iinc (v := (v9 + (1 : Int32))) (lv' := [(9, .int (v9 + (1 : Int32))), (7, .long v12), (0, .ref (ad 500 0)), (1, .int v1), (2, .int v2), (3, .int v3), (4, .long v4), (12, .long v12)]) hx hb dX10_findEdges_134 hl (k := 6) rfl rfl (by decide) rfl (fun ls hl => ?_)
                refine lv_goto (tgt := 35) hx hb dX10_findEdges_137 rfl ?_
                exact ih35 v1 v2 v3 v4 v12 (v9 + (1 : Int32)) σ _ _ _  hf (lv_sub hl [2, 3, 4, 5, 6, 1, 0] rfl) hP hS
          have c105 : ∀ (v1 : Int32) (v2 : Int32) (v3 : Int32) (v4 : Int64) (v7 : Int64) (v9 : Int32) (v12 : Int64) (σ : PS) (H : Heap) (locs : List Loc) (ls : Array Slot), X10_findEdges_c105  (X10_findEdges_l35  kx35 n35) kx35 v1 v2 v3 v4 v7 v9 v12 σ = some res → lv_has ls 14 [(0, .ref (ad 500 0)), (1, .int v1), (2, .int v2), (3, .int v3), (4, .long v4), (7, .long v7), (9, .int v9), (12, .long v12)] → va_P G vwCl (wld ad ca σ LM) H → va_S A s.heap H locs → W p l e (headSpec wsX10_findEdges ({ frames := 1, cells := 0, slots := 0, locals := 22 })).room s m (([.ref (ad 500 0), .int x1, .int x2] : List Value).toArray) below meth c H locs 0 0 (MQ below (va_Qv (fun u => u = res) (ctB G ad ca LM) A) (([.ref (ad 500 0), .int x1, .int x2] : List Value).toArray) s 0 0 A) (F0 m 105 ls []) := by
            intro v1 v2 v3 v4 v7 v9 v12 σ H locs ls hf hl hP hS
            unfold X10_findEdges_c105 at hf
            refine lv_lload hx hb dX10_findEdges_105 (lv_at hl 5 rfl) ?_
            exact c107 v1 v2 v3 v4 v9 v12 v7 σ _ _ _  hf (lv_sub hl [0, 1, 2, 3, 4, 6, 7] rfl) hP hS
          refine lv_iload hx hb dX10_findEdges_35 (lv_at hl 6 rfl) ?_
          refine lv_aload_n hx hb dX10_findEdges_37 rfl (lv_at hl 0 rfl) ?_
          refine x_get (k := 500) (n := 0) hx hb hts i_X10 hown hK hP (mk_500 h01) rfl rfl 14 (by decide) rfl k_131 (v := .int (gI σ 500 0 14)) rfl dX10_findEdges_38 ?_
          refine lv_icmp_ge (tgt := 140) hx hb dX10_findEdges_41 rfl (fun hc => ?_) (fun hc => ?_)
          · have hf := b_p hf hc
            exact hx35 v1 v2 v3 v4 v7 σ _ _ _  hf (lv_sub hl [0, 1, 2, 3, 4, 5] rfl) hP hS
          · have hf := b_n hf hc
            refine lv_aload_n hx hb dX10_findEdges_44 rfl (lv_at hl 0 rfl) ?_
            refine lv_iload hx hb dX10_findEdges_45 (lv_at hl 6 rfl) ?_
            refine lv_iload_n hx hb dX10_findEdges_47 rfl (lv_at hl 1 rfl) ?_
            obtain ⟨r3, hc3, hf⟩ := bd_e hf
            refine x_ci (va_runV (As := [.int v9, .int v1]) (rest := []) ⟨hx, hb, hml, hown, hts⟩ (t_X10_isLaid l G ad ca A v9 v1 hD  σ r3 hc3) (cwV 2 hts gr_X10_145 rfl rfl rfl h9_X10_isLaid ⟨Nat.le_of_ble_eq_true rfl, Nat.le_of_ble_eq_true rfl⟩) (x_prV zkM hz hK hP (mk_500 h01) rfl rfl) rfl rfl hl.1 rfl (lv_room (Nat.le_of_ble_eq_true rfl)) dX10_findEdges_48 ⟨Nat.le_of_ble_eq_true rfl, Nat.le_of_ble_eq_true rfl⟩) hS (fun H locs hP hS => ?_)
            refine lv_if_eq (tgt := 134) hx hb dX10_findEdges_51 rfl (fun hc => ?_) (fun hc => ?_)
            · have hf := b_p hf hc
              refine lv_iinc (v := (v9 + (1 : Int32))) (lv' := [(9, .int (v9 + (1 : Int32))), (0, .ref (ad 500 0)), (1, .int v1), (2, .int v2), (3, .int v3), (4, .long v4), (7, .long v7)]) hx hb dX10_findEdges_134 hl (k := 6) rfl rfl (by decide) rfl (fun ls hl => ?_)
              refine lv_goto (tgt := 35) hx hb dX10_findEdges_137 rfl ?_
              exact ih35 v1 v2 v3 v4 v7 (v9 + (1 : Int32)) σ _ _ _  hf (lv_sub hl [1, 2, 3, 4, 5, 6, 0] rfl) hP hS
            · have hf := b_n hf hc
              refine lv_aload_n hx hb dX10_findEdges_54 rfl (lv_at hl 0 rfl) ?_
              refine x_get (k := 500) (n := 0) hx hb hts i_X10 hown hK hP (mk_500 h01) rfl rfl 21 (by decide) rfl k_63 (v := .ref (ad 522 0)) rfl dX10_findEdges_55 ?_
              refine lv_iconst (v := (2 : Int32)) hx hb dX10_findEdges_58 rfl ?_
              refine lv_iload hx hb dX10_findEdges_59 (lv_at hl 6 rfl) ?_
              refine lv_imul hx hb dX10_findEdges_61 ?_
              refine lv_iload_n hx hb dX10_findEdges_62 rfl (lv_at hl 2 rfl) ?_
              refine lv_iadd hx hb dX10_findEdges_63 ?_
              obtain ⟨g4, hf⟩ := gd_e hf
              refine x_iald (k := 522) (n := 0) hx hb hK hP (mk_522 h01) rfl g4 dX10_findEdges_64 ?_
              refine lv_i2l hx hb dX10_findEdges_65 rfl ?_
              obtain ⟨y5, e_y5, hf⟩ := nm_i hf
              refine x_nmL e_y5 ?_
              refine lv_lstore (lv' := [(10, .long y5), (0, .ref (ad 500 0)), (1, .int v1), (2, .int v2), (3, .int v3), (4, .long v4), (7, .long v7), (9, .int v9)]) hx hb dX10_findEdges_66 hl (by decide) rfl (fun ls hl => ?_)
              refine lv_aload_n hx hb dX10_findEdges_68 rfl (lv_at hl 1 rfl) ?_
              refine x_get (k := 500) (n := 0) hx hb hts i_X10 hown hK hP (mk_500 h01) rfl rfl 22 (by decide) rfl k_66 (v := .ref (ad 523 0)) rfl dX10_findEdges_69 ?_
              refine lv_iconst (v := (2 : Int32)) hx hb dX10_findEdges_72 rfl ?_
              refine lv_iload hx hb dX10_findEdges_73 (lv_at hl 7 rfl) ?_
              refine lv_imul hx hb dX10_findEdges_75 ?_
              refine lv_iload_n hx hb dX10_findEdges_76 rfl (lv_at hl 3 rfl) ?_
              refine lv_iadd hx hb dX10_findEdges_77 ?_
              obtain ⟨g6, hf⟩ := gd_e hf
              refine x_iald (k := 523) (n := 0) hx hb hK hP (mk_523 h01) rfl g6 dX10_findEdges_78 ?_
              refine lv_i2l hx hb dX10_findEdges_79 rfl ?_
              refine lv_lconst (v := (1 : Int64)) hx hb dX10_findEdges_80 rfl ?_
              refine lv_ladd hx hb dX10_findEdges_81 ?_
              obtain ⟨y7, e_y7, hf⟩ := nm_i hf
              refine x_nmL e_y7 ?_
              refine lv_lstore (lv' := [(12, .long y7), (10, .long y5), (0, .ref (ad 500 0)), (1, .int v1), (2, .int v2), (3, .int v3), (4, .long v4), (7, .long v7), (9, .int v9)]) hx hb dX10_findEdges_82 hl (by decide) rfl (fun ls hl => ?_)
              refine lv_lload hx hb dX10_findEdges_84 (lv_at hl 1 rfl) ?_
              refine lv_lload hx hb dX10_findEdges_86 (lv_at hl 6 rfl) ?_
              refine W.lcmp hx hb dX10_findEdges_88 ?_
              refine lv_if_le (tgt := 105) hx hb dX10_findEdges_89 rfl (fun hc => ?_) (fun hc => ?_)
              · have hf := b_p hf hc
                exact c105 v1 v2 v3 v4 v7 v9 y7 σ _ _ _  hf (lv_sub hl [2, 3, 4, 5, 6, 7, 8, 0] rfl) hP hS
              · have hf := b_n hf hc
                refine lv_lload hx hb dX10_findEdges_92 (lv_at hl 1 rfl) ?_
                refine lv_lload hx hb dX10_findEdges_94 (lv_at hl 7 rfl) ?_
                refine W.lcmp hx hb dX10_findEdges_96 ?_
                refine lv_if_ge (tgt := 105) hx hb dX10_findEdges_97 rfl (fun hc => ?_) (fun hc => ?_)
                · have hf := b_p hf hc
                  exact c105 v1 v2 v3 v4 v7 v9 y7 σ _ _ _  hf (lv_sub hl [2, 3, 4, 5, 6, 7, 8, 0] rfl) hP hS
                · have hf := b_n hf hc
                  refine lv_lload hx hb dX10_findEdges_100 (lv_at hl 1 rfl) ?_
                  refine lv_goto (tgt := 107) hx hb dX10_findEdges_102 rfl ?_
                  exact c107 v1 v2 v3 v4 v9 y7 y5 σ _ _ _  hf (lv_sub hl [2, 3, 4, 5, 6, 8, 0] rfl) hP hS
      have c154 : ∀ (v1 : Int32) (v2 : Int32) (v3 : Int32) (v4 : Int64) (v7 : Int64) (w0 : Int32) (σ : PS) (H : Heap) (locs : List Loc) (ls : Array Slot), X10_findEdges_c154  (X10_findEdges_l22  kx22 n22) kx22 v1 v2 v3 v4 v7 w0 σ = some res → lv_has ls 14 [(0, .ref (ad 500 0)), (1, .int v1), (2, .int v2), (3, .int v3), (4, .long v4), (7, .long v7)] → va_P G vwCl (wld ad ca σ LM) H → va_S A s.heap H locs → W p l e (headSpec wsX10_findEdges ({ frames := 1, cells := 0, slots := 0, locals := 22 })).room s m (([.ref (ad 500 0), .int x1, .int x2] : List Value).toArray) below meth c H locs 0 0 (MQ below (va_Qv (fun u => u = res) (ctB G ad ca LM) A) (([.ref (ad 500 0), .int x1, .int x2] : List Value).toArray) s 0 0 A) (F0 m 154 ls [.int w0]) := by
        intro v1 v2 v3 v4 v7 w0 σ H locs ls hf hl hP hS
        unfold X10_findEdges_c154 at hf
        refine lv_istore (lv' := [(6, .int w0), (0, .ref (ad 500 0)), (1, .int v1), (2, .int v2), (3, .int v3), (4, .long v4), (7, .long v7)]) hx hb dX10_findEdges_154 hl (by decide) rfl (fun ls hl => ?_)
        refine lv_iload hx hb dX10_findEdges_156 (lv_at hl 0 rfl) ?_
        refine lv_if_eq (tgt := 181) hx hb dX10_findEdges_158 rfl (fun hc => ?_) (fun hc => ?_)
        · have hf := b_p hf hc
          refine lv_goto (tgt := 22) hx hb dX10_findEdges_181 rfl ?_
          exact ih22 v1 v2 v3 v4 w0 σ _ _ _  hf (lv_sub hl [1, 2, 3, 4, 5, 0] rfl) hP hS
        · have hf := b_n hf hc
          refine lv_aload_n hx hb dX10_findEdges_161 rfl (lv_at hl 1 rfl) ?_
          refine x_get (k := 500) (n := 0) hx hb hts i_X10 hown hK hP (mk_500 h01) rfl rfl 35 (by decide) rfl k_94 (v := .ref (ad 536 0)) rfl dX10_findEdges_162 ?_
          refine lv_bipush (v := (34 : Int32)) hx hb dX10_findEdges_165 rfl ?_
          refine lv_iload_n hx hb dX10_findEdges_167 rfl (lv_at hl 3 rfl) ?_
          refine lv_imul hx hb dX10_findEdges_168 ?_
          refine lv_iload_n hx hb dX10_findEdges_169 rfl (lv_at hl 4 rfl) ?_
          refine lv_iadd hx hb dX10_findEdges_170 ?_
          refine lv_lload hx hb dX10_findEdges_171 (lv_at hl 6 rfl) ?_
          obtain ⟨g8, hf⟩ := gd_e hf
          refine x_last (k := 536) (n := 0) hx hb hK hD hP hS (mk_536 h01) rfl g8 dX10_findEdges_173 (fun H locs hP hS => ?_)
          obtain ⟨σ9, e_σ9, hf⟩ := nm_i hf
          have hP : va_P G vwCl (wld ad ca σ9 LM) H := by rw [e_σ9]; exact hP
          refine lv_iinc (v := (v3 + (1 : Int32))) (lv' := [(3, .int (v3 + (1 : Int32))), (6, .int w0), (0, .ref (ad 500 0)), (1, .int v1), (2, .int v2), (4, .long v4), (7, .long v7)]) hx hb dX10_findEdges_174 hl (k := 4) rfl rfl (by decide) rfl (fun ls hl => ?_)
          refine lv_lload hx hb dX10_findEdges_177 (lv_at hl 6 rfl) ?_
          refine lv_lstore (lv' := [(4, .long v7), (3, .int (v3 + (1 : Int32))), (6, .int w0), (0, .ref (ad 500 0)), (1, .int v1), (2, .int v2), (7, .long v7)]) hx hb dX10_findEdges_179 hl (by decide) rfl (fun ls hl => ?_)
          refine lv_goto (tgt := 22) hx hb dX10_findEdges_181 rfl ?_
          exact ih22 v1 v2 (v3 + (1 : Int32)) v7 w0 σ9 _ _ _  hf (lv_sub hl [3, 4, 5, 1, 0, 2] rfl) hP hS
      have c140 : ∀ (v1 : Int32) (v2 : Int32) (v3 : Int32) (v4 : Int64) (v7 : Int64) (σ : PS) (H : Heap) (locs : List Loc) (ls : Array Slot), X10_findEdges_c140  (X10_findEdges_l22  kx22 n22) kx22 v1 v2 v3 v4 v7 σ = some res → lv_has ls 14 [(0, .ref (ad 500 0)), (1, .int v1), (2, .int v2), (3, .int v3), (4, .long v4), (7, .long v7)] → va_P G vwCl (wld ad ca σ LM) H → va_S A s.heap H locs → W p l e (headSpec wsX10_findEdges ({ frames := 1, cells := 0, slots := 0, locals := 22 })).room s m (([.ref (ad 500 0), .int x1, .int x2] : List Value).toArray) below meth c H locs 0 0 (MQ below (va_Qv (fun u => u = res) (ctB G ad ca LM) A) (([.ref (ad 500 0), .int x1, .int x2] : List Value).toArray) s 0 0 A) (F0 m 140 ls []) := by
        intro v1 v2 v3 v4 v7 σ H locs ls hf hl hP hS
        unfold X10_findEdges_c140 at hf
        refine lv_lload hx hb dX10_findEdges_140 (lv_at hl 5 rfl) ?_
        refine lv_ldc2 hx hb hown k_174 dX10_findEdges_142 ?_
        refine W.lcmp hx hb dX10_findEdges_145 ?_
        refine lv_if_ge (tgt := 153) hx hb dX10_findEdges_146 rfl (fun hc => ?_) (fun hc => ?_)
        · have hf := b_p hf hc
          refine lv_iconst (v := (0 : Int32)) hx hb dX10_findEdges_153 rfl ?_
          exact c154 v1 v2 v3 v4 v7 (0 : Int32) σ _ _ _  hf (lv_sub hl [0, 1, 2, 3, 4, 5] rfl) hP hS
        · have hf := b_n hf hc
          refine lv_iconst (v := (1 : Int32)) hx hb dX10_findEdges_149 rfl ?_
          refine lv_goto (tgt := 154) hx hb dX10_findEdges_150 rfl ?_
          exact c154 v1 v2 v3 v4 v7 (1 : Int32) σ _ _ _  hf (lv_sub hl [0, 1, 2, 3, 4, 5] rfl) hP hS
      refine lv_iload hx hb dX10_findEdges_22 (lv_at hl 5 rfl) ?_
      refine lv_if_eq (tgt := 184) hx hb dX10_findEdges_24 rfl (fun hc => ?_) (fun hc => ?_)
      · have hf := b_p hf hc
        exact hx22 v2 v3 σ _ _ _  hf (lv_sub hl [0, 2, 3] rfl) hP hS
      · have hf := b_n hf hc
        refine lv_ldc2 hx hb hown k_174 dX10_findEdges_27 ?_
        refine lv_lstore (lv' := [(7, .long (2147483648 : Int64)), (0, .ref (ad 500 0)), (1, .int v1), (2, .int v2), (3, .int v3), (4, .long v4), (6, .int v6)]) hx hb dX10_findEdges_30 hl (by decide) rfl (fun ls hl => ?_)
        refine lv_iconst (v := (0 : Int32)) hx hb dX10_findEdges_32 rfl ?_
        refine lv_istore (lv' := [(9, .int (0 : Int32)), (7, .long (2147483648 : Int64)), (0, .ref (ad 500 0)), (1, .int v1), (2, .int v2), (3, .int v3), (4, .long v4), (6, .int v6)]) hx hb dX10_findEdges_33 hl (by decide) rfl (fun ls hl => ?_)
        exact l35 _ c140 _ v1 v2 v3 v4 (2147483648 : Int64) (0 : Int32) σ _ _ _  hf (lv_sub hl [2, 3, 4, 5, 6, 1, 0] rfl) hP hS
  have c184 : ∀ (v2 : Int32) (v3 : Int32) (σ : PS) (H : Heap) (locs : List Loc) (ls : Array Slot), X10_findEdges_c184  v2 v3 σ = some res → lv_has ls 14 [(0, .ref (ad 500 0)), (2, .int v2), (3, .int v3)] → va_P G vwCl (wld ad ca σ LM) H → va_S A s.heap H locs → W p l e (headSpec wsX10_findEdges ({ frames := 1, cells := 0, slots := 0, locals := 22 })).room s m (([.ref (ad 500 0), .int x1, .int x2] : List Value).toArray) below meth c H locs 0 0 (MQ below (va_Qv (fun u => u = res) (ctB G ad ca LM) A) (([.ref (ad 500 0), .int x1, .int x2] : List Value).toArray) s 0 0 A) (F0 m 184 ls []) := by
    intro v2 v3 σ H locs ls hf hl hP hS
    unfold X10_findEdges_c184 at hf
    refine lv_aload_n hx hb dX10_findEdges_184 rfl (lv_at hl 0 rfl) ?_
    refine x_get (k := 500) (n := 0) hx hb hts i_X10 hown hK hP (mk_500 h01) rfl rfl 36 (by decide) rfl k_97 (v := .ref (ad 537 0)) rfl dX10_findEdges_185 ?_
    refine lv_iload_n hx hb dX10_findEdges_188 rfl (lv_at hl 1 rfl) ?_
    refine lv_iload_n hx hb dX10_findEdges_189 rfl (lv_at hl 2 rfl) ?_
    obtain ⟨g10, hf⟩ := gd_e hf
    refine x_iast (k := 537) (n := 0) hx hb hK hD hP hS (mk_537 h01) rfl g10 dX10_findEdges_190 (fun H locs hP hS => ?_)
    obtain ⟨σ11, e_σ11, hf⟩ := nm_i hf
    have hP : va_P G vwCl (wld ad ca σ11 LM) H := by rw [e_σ11]; exact hP
    exact x_vret hx hb hr hlocks hK hP hS (Option.some.inj hf) dX10_findEdges_191
  refine lv_iconst (v := (1 : Int32)) hx hb dX10_findEdges_0 rfl ?_
  refine lv_istore_n (lv' := [(3, .int (1 : Int32)), (0, .ref (ad 500 0)), (1, .int x1), (2, .int x2)]) hx hb dX10_findEdges_1 rfl hl (by decide) rfl (fun ls hl => ?_)
  refine lv_aload_n hx hb dX10_findEdges_2 rfl (lv_at hl 1 rfl) ?_
  refine x_get (k := 500) (n := 0) hx hb hts i_X10 hown hK hP (mk_500 h01) rfl rfl 35 (by decide) rfl k_94 (v := .ref (ad 536 0)) rfl dX10_findEdges_3 ?_
  refine lv_bipush (v := (34 : Int32)) hx hb dX10_findEdges_6 rfl ?_
  refine lv_iload_n hx hb dX10_findEdges_8 rfl (lv_at hl 3 rfl) ?_
  refine lv_imul hx hb dX10_findEdges_9 ?_
  refine lv_ldc2 hx hb hown k_250 dX10_findEdges_10 ?_
  obtain ⟨g1, hf⟩ := gd_e hf
  refine x_last (k := 536) (n := 0) hx hb hK hD hP hS (mk_536 h01) rfl g1 dX10_findEdges_13 (fun H locs hP hS => ?_)
  obtain ⟨σ2, e_σ2, hf⟩ := nm_i hf
  have hP : va_P G vwCl (wld ad ca σ2 LM) H := by rw [e_σ2]; exact hP
  refine lv_ldc2 hx hb hown k_250 dX10_findEdges_14 ?_
  refine lv_lstore (lv' := [(4, .long (-2147483648 : Int64)), (3, .int (1 : Int32)), (0, .ref (ad 500 0)), (1, .int x1), (2, .int x2)]) hx hb dX10_findEdges_17 hl (by decide) rfl (fun ls hl => ?_)
  refine lv_iconst (v := (1 : Int32)) hx hb dX10_findEdges_19 rfl ?_
  refine lv_istore (lv' := [(6, .int (1 : Int32)), (4, .long (-2147483648 : Int64)), (3, .int (1 : Int32)), (0, .ref (ad 500 0)), (1, .int x1), (2, .int x2)]) hx hb dX10_findEdges_20 hl (by decide) rfl (fun ls hl => ?_)
  exact l22 _ c184 _ x1 x2 (1 : Int32) (-2147483648 : Int64) (1 : Int32) σ2 _ _ _  hf (lv_sub hl [3, 4, 5, 2, 1, 0] rfl) hP hS
theorem h9_X10_nextClass : yX10_nextClass.cls = RX10 ∧ yX10_nextClass.cls ≠ "java/lang/invoke/MethodHandle" ∧ yX10_nextClass.cls ≠ "java/lang/invoke/VarHandle" ∧ (parseMethodDescriptor yX10_nextClass.desc).map (fun d => d.parameters.length) = some 1 := by decide +kernel
set_option maxRecDepth 100000 in
set_option maxHeartbeats 4000000 in
theorem t_X10_nextClass (l : Launch) (G : va_G) (ad : Nat → Nat → Nat) (ca : Nat → ClassId) (A : Nat → Prop)   (x1 : Int32) (hD : DW ad LM A)  (σ : PS) (res : Int32) (hf : X10_nextClass  x1 σ = some res) : Met l yX10_nextClass wsX10_nextClass ({ frames := 0, cells := 0, slots := 0, locals := 0 }) (ctP G ad ca LM σ ZM [.ref (ad 500 0), .int x1]) (va_Qi (fun r' u => r' = res ∧ u = σ) (ctB G ad ca LM) A) 0 0 A := by
  refine Met.ofW (cc := cX10_nextClass) (maxL := 3) (ret := (some .int)) (by decide) rfl ?_
  intro p e s m args below meth c s₁ B hml hv
  obtain ⟨rfl, hP, hK, hz⟩ := hv
  have hx := B.exec
  have hb := B.bytes
  have hr := B.returns
  have hts : ∀ w ∈ WW, w.before _ s = true := fun w h => atoms_spec (ws := wsX10_nextClass) B.pre w (List.mem_cons_of_mem _ h)
  have hown : s.vm.findClass RX10 = some m.cls := findClass_of_methodNamed B.named
  have hlocks := B.notSynchronized
  have hS : va_S A s.heap s.heap [] := va_S.rf
  have k_20 := hts _ kf_X10_20
  have hl := lv_entry ([.ref (ad 500 0), .int x1]) (n := 3) (Nat.le_of_ble_eq_true rfl)
  rw [lg_entry_eq]
  generalize (lg_sl ([.ref (ad 500 0), .int x1]) ++ List.replicate (3 - (lg_sl ([.ref (ad 500 0), .int x1])).length) Slot.unset).toArray = ls at hl ⊢
  have hl : lv_has ls 3 [(0, .ref (ad 500 0)), (1, .int x1)] := hl
  unfold X10_nextClass at hf
  have l2 : ∀ (kx2 : Int32 → Option (Int32)), (∀ (v2 : Int32) (H : Heap) (locs : List Loc) (ls : Array Slot), kx2 v2 = some res → lv_has ls 3 [(2, .int v2)] → va_P G vwCl (wld ad ca σ LM) H → va_S A s.heap H locs → W p l e (headSpec wsX10_nextClass ({ frames := 0, cells := 0, slots := 0, locals := 0 })).room s m (([.ref (ad 500 0), .int x1] : List Value).toArray) below meth c H locs 0 0 (MQ below (va_Qi (fun r' u => r' = res ∧ u = σ) (ctB G ad ca LM) A) (([.ref (ad 500 0), .int x1] : List Value).toArray) s 0 0 A) (F0 m 23 ls [])) → ∀ (n2 : Nat) (v2 : Int32) (H : Heap) (locs : List Loc) (ls : Array Slot), X10_nextClass_l2 σ kx2 n2 v2 = some res → lv_has ls 3 [(0, .ref (ad 500 0)), (2, .int v2)] → va_P G vwCl (wld ad ca σ LM) H → va_S A s.heap H locs → W p l e (headSpec wsX10_nextClass ({ frames := 0, cells := 0, slots := 0, locals := 0 })).room s m (([.ref (ad 500 0), .int x1] : List Value).toArray) below meth c H locs 0 0 (MQ below (va_Qi (fun r' u => r' = res ∧ u = σ) (ctB G ad ca LM) A) (([.ref (ad 500 0), .int x1] : List Value).toArray) s 0 0 A) (F0 m 2 ls []) := by
    intro kx2 hx2 n2
    induction n2 with
    | zero =>
      intro v2 H locs ls hf
      exact absurd hf (by simp [X10_nextClass_l2])
    | succ n2 ih2 =>
      intro v2 H locs ls hf hl hP hS
      rw [X10_nextClass_l2.eq_2] at hf
      refine lv_iload_n hx hb dX10_nextClass_2 rfl (lv_at hl 1 rfl) ?_
      refine lv_bipush (v := (12 : Int32)) hx hb dX10_nextClass_3 rfl ?_
      refine lv_icmp_ge (tgt := 23) hx hb dX10_nextClass_5 rfl (fun hc => ?_) (fun hc => ?_)
      · have hf := b_p hf hc
        exact hx2 v2 _ _ _  hf (lv_sub hl [1] rfl) hP hS
      · have hf := b_n hf hc
        refine lv_aload_n hx hb dX10_nextClass_8 rfl (lv_at hl 0 rfl) ?_
        refine x_get (k := 500) (n := 0) hx hb hts i_X10 hown hK hP (mk_500 h01) rfl rfl 3 (by decide) rfl k_20 (v := .ref (ad 504 0)) rfl dX10_nextClass_9 ?_
        refine lv_iload_n hx hb dX10_nextClass_12 rfl (lv_at hl 1 rfl) ?_
        obtain ⟨g1, hf⟩ := gd_e hf
        refine x_zald (k := 504) (n := 0) hx hb hK hP (mk_504 h01) rfl g1 dX10_nextClass_13 ?_
        refine lv_if_eq (tgt := 23) hx hb dX10_nextClass_14 rfl (fun hc => ?_) (fun hc => ?_)
        · have hf := b_p hf hc
          exact hx2 v2 _ _ _  hf (lv_sub hl [1] rfl) hP hS
        · have hf := b_n hf hc
          refine lv_iinc (v := (v2 + (1 : Int32))) (lv' := [(2, .int (v2 + (1 : Int32))), (0, .ref (ad 500 0))]) hx hb dX10_nextClass_17 hl (k := 1) rfl rfl (by decide) rfl (fun ls hl => ?_)
          refine lv_goto (tgt := 2) hx hb dX10_nextClass_20 rfl ?_
          exact ih2 (v2 + (1 : Int32)) _ _ _  hf (lv_sub hl [1, 0] rfl) hP hS
  have c23 : ∀ (v2 : Int32) (H : Heap) (locs : List Loc) (ls : Array Slot), X10_nextClass_c23 σ v2 = some res → lv_has ls 3 [(2, .int v2)] → va_P G vwCl (wld ad ca σ LM) H → va_S A s.heap H locs → W p l e (headSpec wsX10_nextClass ({ frames := 0, cells := 0, slots := 0, locals := 0 })).room s m (([.ref (ad 500 0), .int x1] : List Value).toArray) below meth c H locs 0 0 (MQ below (va_Qi (fun r' u => r' = res ∧ u = σ) (ctB G ad ca LM) A) (([.ref (ad 500 0), .int x1] : List Value).toArray) s 0 0 A) (F0 m 23 ls []) := by
    intro v2 H locs ls hf hl hP hS
    unfold X10_nextClass_c23 at hf
    refine lv_iload_n hx hb dX10_nextClass_23 rfl (lv_at hl 0 rfl) ?_
    exact x_iret hx hb hr hlocks hK hP hS (Option.some.inj hf) rfl dX10_nextClass_24
  refine lv_iload_n hx hb dX10_nextClass_0 rfl (lv_at hl 1 rfl) ?_
  refine lv_istore_n (lv' := [(2, .int x1), (0, .ref (ad 500 0)), (1, .int x1)]) hx hb dX10_nextClass_1 rfl hl (by decide) rfl (fun ls hl => ?_)
  exact l2 _ c23 _ x1 _ _ _  hf (lv_sub hl [1, 0] rfl) hP hS
theorem h9_X10_firstTuple : yX10_firstTuple.cls = RX10 ∧ yX10_firstTuple.cls ≠ "java/lang/invoke/MethodHandle" ∧ yX10_firstTuple.cls ≠ "java/lang/invoke/VarHandle" ∧ (parseMethodDescriptor yX10_firstTuple.desc).map (fun d => d.parameters.length) = some 1 := by decide +kernel
set_option maxRecDepth 100000 in
set_option maxHeartbeats 4000000 in
theorem t_X10_firstTuple (l : Launch) (G : va_G) (ad : Nat → Nat → Nat) (ca : Nat → ClassId) (A : Nat → Prop)   (x1 : Int32) (hD : DW ad LM A)  (σ : PS) (res : Int32) (σz : PS) (hf : X10_firstTuple  x1 σ = some (res, σz)) : Met l yX10_firstTuple wsX10_firstTuple ({ frames := 2, cells := 0, slots := 0, locals := 55 }) (ctP G ad ca LM σ ZM [.ref (ad 500 0), .int x1]) (va_Qi (fun r' u => r' = res ∧ u = σz) (ctB G ad ca LM) A) 0 0 A := by
  refine Met.ofW (cc := cX10_firstTuple) (maxL := 3) (ret := (some .boolean)) (by decide) rfl ?_
  intro p e s m args below meth c s₁ B hml hv
  obtain ⟨rfl, hP, hK, hz⟩ := hv
  have hx := B.exec
  have hb := B.bytes
  have hr := B.returns
  have hts : ∀ w ∈ WW, w.before _ s = true := fun w h => atoms_spec (ws := wsX10_firstTuple) B.pre w (List.mem_cons_of_mem _ h)
  have hown : s.vm.findClass RX10 = some m.cls := findClass_of_methodNamed B.named
  have hlocks := B.notSynchronized
  have hS : va_S A s.heap s.heap [] := va_S.rf
  have k_250 := hts _ kk_X10_250
  have k_29 := hts _ kf_X10_29
  have k_82 := hts _ kf_X10_82
  have k_85 := hts _ kf_X10_85
  have k_100 := hts _ kf_X10_100
  have hl := lv_entry ([.ref (ad 500 0), .int x1]) (n := 3) (Nat.le_of_ble_eq_true rfl)
  rw [lg_entry_eq]
  generalize (lg_sl ([.ref (ad 500 0), .int x1]) ++ List.replicate (3 - (lg_sl ([.ref (ad 500 0), .int x1])).length) Slot.unset).toArray = ls at hl ⊢
  have hl : lv_has ls 3 [(0, .ref (ad 500 0)), (1, .int x1)] := hl
  unfold X10_firstTuple at hf
  have l2 : ∀ (kx2 : PS → Option (Int32 × PS)), (∀ (σ : PS) (H : Heap) (locs : List Loc) (ls : Array Slot), kx2 σ = some (res, σz) → lv_has ls 3 [(0, .ref (ad 500 0))] → va_P G vwCl (wld ad ca σ LM) H → va_S A s.heap H locs → W p l e (headSpec wsX10_firstTuple ({ frames := 2, cells := 0, slots := 0, locals := 55 })).room s m (([.ref (ad 500 0), .int x1] : List Value).toArray) below meth c H locs 0 0 (MQ below (va_Qi (fun r' u => r' = res ∧ u = σz) (ctB G ad ca LM) A) (([.ref (ad 500 0), .int x1] : List Value).toArray) s 0 0 A) (F0 m 84 ls [])) → ∀ (n2 : Nat) (v1 : Int32) (v2 : Int32) (σ : PS) (H : Heap) (locs : List Loc) (ls : Array Slot), X10_firstTuple_l2  kx2 n2 v1 v2 σ = some (res, σz) → lv_has ls 3 [(0, .ref (ad 500 0)), (1, .int v1), (2, .int v2)] → va_P G vwCl (wld ad ca σ LM) H → va_S A s.heap H locs → W p l e (headSpec wsX10_firstTuple ({ frames := 2, cells := 0, slots := 0, locals := 55 })).room s m (([.ref (ad 500 0), .int x1] : List Value).toArray) below meth c H locs 0 0 (MQ below (va_Qi (fun r' u => r' = res ∧ u = σz) (ctB G ad ca LM) A) (([.ref (ad 500 0), .int x1] : List Value).toArray) s 0 0 A) (F0 m 2 ls []) := by
    intro kx2 hx2 n2
    induction n2 with
    | zero =>
      intro v1 v2 σ H locs ls hf
      exact absurd hf (by simp [X10_firstTuple_l2])
    | succ n2 ih2 =>
      intro v1 v2 σ H locs ls hf hl hP hS
      rw [X10_firstTuple_l2.eq_2] at hf
      have c54 : ∀ (v1 : Int32) (v2 : Int32) (w0 : Int64) (w1 : Int32) (σ : PS) (H : Heap) (locs : List Loc) (ls : Array Slot), X10_firstTuple_c54  (X10_firstTuple_l2  kx2 n2) kx2 v1 v2 w0 w1 σ = some (res, σz) → lv_has ls 3 [(0, .ref (ad 500 0)), (1, .int v1), (2, .int v2)] → va_P G vwCl (wld ad ca σ LM) H → va_S A s.heap H locs → W p l e (headSpec wsX10_firstTuple ({ frames := 2, cells := 0, slots := 0, locals := 55 })).room s m (([.ref (ad 500 0), .int x1] : List Value).toArray) below meth c H locs 0 0 (MQ below (va_Qi (fun r' u => r' = res ∧ u = σz) (ctB G ad ca LM) A) (([.ref (ad 500 0), .int x1] : List Value).toArray) s 0 0 A) (F0 m 54 ls [.long w0, .int w1, .ref (ad 533 0)]) := by
        intro v1 v2 w0 w1 σ H locs ls hf hl hP hS
        unfold X10_firstTuple_c54 at hf
        obtain ⟨g5, hf⟩ := gd_e hf
        refine x_last (k := 533) (n := 0) hx hb hK hD hP hS (mk_533 h01) rfl g5 dX10_firstTuple_54 (fun H locs hP hS => ?_)
        obtain ⟨σ6, e_σ6, hf⟩ := nm_i hf
        have hP : va_P G vwCl (wld ad ca σ6 LM) H := by rw [e_σ6]; exact hP
        refine lv_aload_n hx hb dX10_firstTuple_55 rfl (lv_at hl 0 rfl) ?_
        refine x_get (k := 500) (n := 0) hx hb hts i_X10 hown hK hP (mk_500 h01) rfl rfl 37 (by decide) rfl k_100 (v := .ref (ad 538 0)) rfl dX10_firstTuple_56 ?_
        refine lv_iload_n hx hb dX10_firstTuple_59 rfl (lv_at hl 2 rfl) ?_
        refine lv_iconst (v := (0 : Int32)) hx hb dX10_firstTuple_60 rfl ?_
        obtain ⟨g7, hf⟩ := gd_e hf
        refine x_iast (k := 538) (n := 0) hx hb hK hD hP hS (mk_538 h01) rfl g7 dX10_firstTuple_61 (fun H locs hP hS => ?_)
        obtain ⟨σ8, e_σ8, hf⟩ := nm_i hf
        have hP : va_P G vwCl (wld ad ca σ8 LM) H := by rw [e_σ8]; exact hP
        refine lv_iload_n hx hb dX10_firstTuple_62 rfl (lv_at hl 2 rfl) ?_
        refine lv_aload_n hx hb dX10_firstTuple_63 rfl (lv_at hl 0 rfl) ?_
        refine x_get (k := 500) (n := 0) hx hb hts i_X10 hown hK hP (mk_500 h01) rfl rfl 9 (by decide) rfl k_29 (v := .ref (ad 510 0)) rfl dX10_firstTuple_64 ?_
        refine lv_iload_n hx hb dX10_firstTuple_67 rfl (lv_at hl 1 rfl) ?_
        obtain ⟨g9, hf⟩ := gd_e hf
        refine x_iald (k := 510) (n := 0) hx hb hK hP (mk_510 h01) rfl g9 dX10_firstTuple_68 ?_
        refine lv_icmp_ge (tgt := 78) hx hb dX10_firstTuple_69 rfl (fun hc => ?_) (fun hc => ?_)
        · have hf := b_p hf hc
          refine lv_iinc (v := (v2 + (1 : Int32))) (lv' := [(2, .int (v2 + (1 : Int32))), (0, .ref (ad 500 0)), (1, .int v1)]) hx hb dX10_firstTuple_78 hl (k := 2) rfl rfl (by decide) rfl (fun ls hl => ?_)
          refine lv_goto (tgt := 2) hx hb dX10_firstTuple_81 rfl ?_
          exact ih2 v1 (v2 + (1 : Int32)) σ8 _ _ _  hf (lv_sub hl [1, 2, 0] rfl) hP hS
        · have hf := b_n hf hc
          refine lv_aload_n hx hb dX10_firstTuple_72 rfl (lv_at hl 0 rfl) ?_
          refine lv_iload_n hx hb dX10_firstTuple_73 rfl (lv_at hl 1 rfl) ?_
          refine lv_iload_n hx hb dX10_firstTuple_74 rfl (lv_at hl 2 rfl) ?_
          obtain ⟨σ10, hc10, hf⟩ := bd_e hf
          refine x_cv (va_runV (As := [.int v1, .int v2]) (rest := []) ⟨hx, hb, hml, hown, hts⟩ (t_X10_findEdges l G ad ca A v1 v2 hD  σ8 σ10 hc10) (cwV 2 hts gr_X10_255 rfl rfl rfl h9_X10_findEdges ⟨Nat.le_of_ble_eq_true rfl, Nat.le_of_ble_eq_true rfl⟩) (x_prV zkM hz hK hP (mk_500 h01) rfl rfl) rfl rfl hl.1 rfl (lv_room (Nat.le_of_ble_eq_true rfl)) dX10_firstTuple_75 ⟨Nat.le_of_ble_eq_true rfl, Nat.le_of_ble_eq_true rfl⟩) hS (fun H locs hP hS => ?_)
          refine lv_iinc (v := (v2 + (1 : Int32))) (lv' := [(2, .int (v2 + (1 : Int32))), (0, .ref (ad 500 0)), (1, .int v1)]) hx hb dX10_firstTuple_78 hl (k := 2) rfl rfl (by decide) rfl (fun ls hl => ?_)
          refine lv_goto (tgt := 2) hx hb dX10_firstTuple_81 rfl ?_
          exact ih2 v1 (v2 + (1 : Int32)) σ10 _ _ _  hf (lv_sub hl [1, 2, 0] rfl) hP hS
      have c31 : ∀ (v1 : Int32) (v2 : Int32) (w0 : Int32) (w1 : Int32) (σ : PS) (H : Heap) (locs : List Loc) (ls : Array Slot), X10_firstTuple_c31  (X10_firstTuple_l2  kx2 n2) kx2 v1 v2 w0 w1 σ = some (res, σz) → lv_has ls 3 [(0, .ref (ad 500 0)), (1, .int v1), (2, .int v2)] → va_P G vwCl (wld ad ca σ LM) H → va_S A s.heap H locs → W p l e (headSpec wsX10_firstTuple ({ frames := 2, cells := 0, slots := 0, locals := 55 })).room s m (([.ref (ad 500 0), .int x1] : List Value).toArray) below meth c H locs 0 0 (MQ below (va_Qi (fun r' u => r' = res ∧ u = σz) (ctB G ad ca LM) A) (([.ref (ad 500 0), .int x1] : List Value).toArray) s 0 0 A) (F0 m 31 ls [.int w0, .int w1, .ref (ad 532 0)]) := by
        intro v1 v2 w0 w1 σ H locs ls hf hl hP hS
        unfold X10_firstTuple_c31 at hf
        obtain ⟨g2, hf⟩ := gd_e hf
        refine x_iast (k := 532) (n := 0) hx hb hK hD hP hS (mk_532 h01) rfl g2 dX10_firstTuple_31 (fun H locs hP hS => ?_)
        obtain ⟨σ3, e_σ3, hf⟩ := nm_i hf
        have hP : va_P G vwCl (wld ad ca σ3 LM) H := by rw [e_σ3]; exact hP
        refine lv_aload_n hx hb dX10_firstTuple_32 rfl (lv_at hl 0 rfl) ?_
        refine x_get (k := 500) (n := 0) hx hb hts i_X10 hown hK hP (mk_500 h01) rfl rfl 32 (by decide) rfl k_85 (v := .ref (ad 533 0)) rfl dX10_firstTuple_33 ?_
        refine lv_iload_n hx hb dX10_firstTuple_36 rfl (lv_at hl 2 rfl) ?_
        refine lv_iload_n hx hb dX10_firstTuple_37 rfl (lv_at hl 2 rfl) ?_
        refine lv_aload_n hx hb dX10_firstTuple_38 rfl (lv_at hl 0 rfl) ?_
        refine x_get (k := 500) (n := 0) hx hb hts i_X10 hown hK hP (mk_500 h01) rfl rfl 9 (by decide) rfl k_29 (v := .ref (ad 510 0)) rfl dX10_firstTuple_39 ?_
        refine lv_iload_n hx hb dX10_firstTuple_42 rfl (lv_at hl 1 rfl) ?_
        obtain ⟨g4, hf⟩ := gd_e hf
        refine x_iald (k := 510) (n := 0) hx hb hK hP (mk_510 h01) rfl g4 dX10_firstTuple_43 ?_
        refine lv_icmp_ge (tgt := 53) hx hb dX10_firstTuple_44 rfl (fun hc => ?_) (fun hc => ?_)
        · have hf := b_p hf hc
          refine lv_lconst (v := (0 : Int64)) hx hb dX10_firstTuple_53 rfl ?_
          exact c54 v1 v2 (0 : Int64) v2 σ3 _ _ _  hf (lv_sub hl [0, 1, 2] rfl) hP hS
        · have hf := b_n hf hc
          refine lv_ldc2 hx hb hown k_250 dX10_firstTuple_47 ?_
          refine lv_goto (tgt := 54) hx hb dX10_firstTuple_50 rfl ?_
          exact c54 v1 v2 (-2147483648 : Int64) v2 σ3 _ _ _  hf (lv_sub hl [0, 1, 2] rfl) hP hS
      refine lv_iload_n hx hb dX10_firstTuple_2 rfl (lv_at hl 2 rfl) ?_
      refine lv_iconst (v := (2 : Int32)) hx hb dX10_firstTuple_3 rfl ?_
      refine lv_icmp_ge (tgt := 84) hx hb dX10_firstTuple_4 rfl (fun hc => ?_) (fun hc => ?_)
      · have hf := b_p hf hc
        exact hx2  σ _ _ _  hf (lv_sub hl [0] rfl) hP hS
      · have hf := b_n hf hc
        refine lv_aload_n hx hb dX10_firstTuple_7 rfl (lv_at hl 0 rfl) ?_
        refine x_get (k := 500) (n := 0) hx hb hts i_X10 hown hK hP (mk_500 h01) rfl rfl 31 (by decide) rfl k_82 (v := .ref (ad 532 0)) rfl dX10_firstTuple_8 ?_
        refine lv_iload_n hx hb dX10_firstTuple_11 rfl (lv_at hl 2 rfl) ?_
        refine lv_iload_n hx hb dX10_firstTuple_12 rfl (lv_at hl 2 rfl) ?_
        refine lv_aload_n hx hb dX10_firstTuple_13 rfl (lv_at hl 0 rfl) ?_
        refine x_get (k := 500) (n := 0) hx hb hts i_X10 hown hK hP (mk_500 h01) rfl rfl 9 (by decide) rfl k_29 (v := .ref (ad 510 0)) rfl dX10_firstTuple_14 ?_
        refine lv_iload_n hx hb dX10_firstTuple_17 rfl (lv_at hl 1 rfl) ?_
        obtain ⟨g1, hf⟩ := gd_e hf
        refine x_iald (k := 510) (n := 0) hx hb hK hP (mk_510 h01) rfl g1 dX10_firstTuple_18 ?_
        refine lv_icmp_ge (tgt := 30) hx hb dX10_firstTuple_19 rfl (fun hc => ?_) (fun hc => ?_)
        · have hf := b_p hf hc
          refine lv_iconst (v := (0 : Int32)) hx hb dX10_firstTuple_30 rfl ?_
          exact c31 v1 v2 (0 : Int32) v2 σ _ _ _  hf (lv_sub hl [0, 1, 2] rfl) hP hS
        · have hf := b_n hf hc
          refine lv_aload_n hx hb dX10_firstTuple_22 rfl (lv_at hl 0 rfl) ?_
          refine lv_iconst (v := (0 : Int32)) hx hb dX10_firstTuple_23 rfl ?_
          obtain ⟨r11, hc11, hf⟩ := bd_e hf
          refine x_ci (va_runV (As := [.int (0 : Int32)]) (rest := [.int v2, .ref (ad 532 0)]) ⟨hx, hb, hml, hown, hts⟩ (t_X10_nextClass l G ad ca A (0 : Int32) hD  σ r11 hc11) (cwV 1 hts gr_X10_252 rfl rfl rfl h9_X10_nextClass ⟨Nat.le_of_ble_eq_true rfl, Nat.le_of_ble_eq_true rfl⟩) (x_prV zkM hz hK hP (mk_500 h01) rfl rfl) rfl rfl hl.1 rfl (lv_room (Nat.le_of_ble_eq_true rfl)) dX10_firstTuple_24 ⟨Nat.le_of_ble_eq_true rfl, Nat.le_of_ble_eq_true rfl⟩) hS (fun H locs hP hS => ?_)
          refine lv_goto (tgt := 31) hx hb dX10_firstTuple_27 rfl ?_
          exact c31 v1 v2 r11 v2 σ _ _ _  hf (lv_sub hl [0, 1, 2] rfl) hP hS
  have c84 : ∀ (σ : PS) (H : Heap) (locs : List Loc) (ls : Array Slot), X10_firstTuple_c84   σ = some (res, σz) → lv_has ls 3 [(0, .ref (ad 500 0))] → va_P G vwCl (wld ad ca σ LM) H → va_S A s.heap H locs → W p l e (headSpec wsX10_firstTuple ({ frames := 2, cells := 0, slots := 0, locals := 55 })).room s m (([.ref (ad 500 0), .int x1] : List Value).toArray) below meth c H locs 0 0 (MQ below (va_Qi (fun r' u => r' = res ∧ u = σz) (ctB G ad ca LM) A) (([.ref (ad 500 0), .int x1] : List Value).toArray) s 0 0 A) (F0 m 84 ls []) := by
    intro σ H locs ls hf hl hP hS
    unfold X10_firstTuple_c84 at hf
    refine lv_aload_n hx hb dX10_firstTuple_84 rfl (lv_at hl 0 rfl) ?_
    refine lv_iconst (v := (0 : Int32)) hx hb dX10_firstTuple_85 rfl ?_
    obtain ⟨r12, hc12, hf⟩ := bd_e hf
    refine x_ci (va_runV (As := [.int (0 : Int32)]) (rest := []) ⟨hx, hb, hml, hown, hts⟩ (t_X10_nextClass l G ad ca A (0 : Int32) hD  σ r12 hc12) (cwV 1 hts gr_X10_252 rfl rfl rfl h9_X10_nextClass ⟨Nat.le_of_ble_eq_true rfl, Nat.le_of_ble_eq_true rfl⟩) (x_prV zkM hz hK hP (mk_500 h01) rfl rfl) rfl rfl hl.1 rfl (lv_room (Nat.le_of_ble_eq_true rfl)) dX10_firstTuple_86 ⟨Nat.le_of_ble_eq_true rfl, Nat.le_of_ble_eq_true rfl⟩) hS (fun H locs hP hS => ?_)
    refine lv_bipush (v := (12 : Int32)) hx hb dX10_firstTuple_89 rfl ?_
    refine lv_icmp_ge (tgt := 98) hx hb dX10_firstTuple_91 rfl (fun hc => ?_) (fun hc => ?_)
    · have hf := b_p hf hc
      refine lv_iconst (v := (0 : Int32)) hx hb dX10_firstTuple_98 rfl ?_
      have hf := Option.some.inj hf
      exact x_zret hx hb hr hlocks hK hP hS (by decide) (congrArg Prod.fst hf) (congrArg Prod.snd hf) dX10_firstTuple_99
    · have hf := b_n hf hc
      refine lv_iconst (v := (1 : Int32)) hx hb dX10_firstTuple_94 rfl ?_
      refine lv_goto (tgt := 99) hx hb dX10_firstTuple_95 rfl ?_
      have hf := Option.some.inj hf
      exact x_zret hx hb hr hlocks hK hP hS (by decide) (congrArg Prod.fst hf) (congrArg Prod.snd hf) dX10_firstTuple_99
  refine lv_iconst (v := (0 : Int32)) hx hb dX10_firstTuple_0 rfl ?_
  refine lv_istore_n (lv' := [(2, .int (0 : Int32)), (0, .ref (ad 500 0)), (1, .int x1)]) hx hb dX10_firstTuple_1 rfl hl (by decide) rfl (fun ls hl => ?_)
  exact l2 _ c84 _ x1 (0 : Int32) σ _ _ _  hf (lv_sub hl [1, 2, 0] rfl) hP hS
theorem h9_X10_nextAt : yX10_nextAt.cls = RX10 ∧ yX10_nextAt.cls ≠ "java/lang/invoke/MethodHandle" ∧ yX10_nextAt.cls ≠ "java/lang/invoke/VarHandle" ∧ (parseMethodDescriptor yX10_nextAt.desc).map (fun d => d.parameters.length) = some 2 := by decide +kernel
set_option maxRecDepth 100000 in
set_option maxHeartbeats 4000000 in
theorem t_X10_nextAt (l : Launch) (G : va_G) (ad : Nat → Nat → Nat) (ca : Nat → ClassId) (A : Nat → Prop)   (x1 : Int32) (x2 : Int32) (hD : DW ad LM A)  (σ : PS) (res : Int32) (σz : PS) (hf : X10_nextAt  x1 x2 σ = some (res, σz)) : Met l yX10_nextAt wsX10_nextAt ({ frames := 1, cells := 0, slots := 0, locals := 22 }) (ctP G ad ca LM σ ZM [.ref (ad 500 0), .int x1, .int x2]) (va_Qi (fun r' u => r' = res ∧ u = σz) (ctB G ad ca LM) A) 0 0 A := by
  refine Met.ofW (cc := cX10_nextAt) (maxL := 4) (ret := (some .boolean)) (by decide) rfl ?_
  intro p e s m args below meth c s₁ B hml hv
  obtain ⟨rfl, hP, hK, hz⟩ := hv
  have hx := B.exec
  have hb := B.bytes
  have hr := B.returns
  have hts : ∀ w ∈ WW, w.before _ s = true := fun w h => atoms_spec (ws := wsX10_nextAt) B.pre w (List.mem_cons_of_mem _ h)
  have hown : s.vm.findClass RX10 = some m.cls := findClass_of_methodNamed B.named
  have hlocks := B.notSynchronized
  have hS : va_S A s.heap s.heap [] := va_S.rf
  have k_250 := hts _ kk_X10_250
  have k_29 := hts _ kf_X10_29
  have k_82 := hts _ kf_X10_82
  have k_85 := hts _ kf_X10_85
  have k_94 := hts _ kf_X10_94
  have k_97 := hts _ kf_X10_97
  have k_100 := hts _ kf_X10_100
  have hl := lv_entry ([.ref (ad 500 0), .int x1, .int x2]) (n := 4) (Nat.le_of_ble_eq_true rfl)
  rw [lg_entry_eq]
  generalize (lg_sl ([.ref (ad 500 0), .int x1, .int x2]) ++ List.replicate (4 - (lg_sl ([.ref (ad 500 0), .int x1, .int x2])).length) Slot.unset).toArray = ls at hl ⊢
  have hl : lv_has ls 4 [(0, .ref (ad 500 0)), (1, .int x1), (2, .int x2)] := hl
  unfold X10_nextAt at hf
  have l9 : ∀ (kx9 : Int32 → PS → Option (Int32 × PS)), (∀ (v2 : Int32) (σ : PS) (H : Heap) (locs : List Loc) (ls : Array Slot), kx9 v2 σ = some (res, σz) → lv_has ls 4 [(0, .ref (ad 500 0)), (2, .int v2)] → va_P G vwCl (wld ad ca σ LM) H → va_S A s.heap H locs → W p l e (headSpec wsX10_nextAt ({ frames := 1, cells := 0, slots := 0, locals := 22 })).room s m (([.ref (ad 500 0), .int x1, .int x2] : List Value).toArray) below meth c H locs 0 0 (MQ below (va_Qi (fun r' u => r' = res ∧ u = σz) (ctB G ad ca LM) A) (([.ref (ad 500 0), .int x1, .int x2] : List Value).toArray) s 0 0 A) (F0 m 47 ls [])) → ∀ (n9 : Nat) (v2 : Int32) (v3 : Int32) (σ : PS) (H : Heap) (locs : List Loc) (ls : Array Slot), X10_nextAt_l9  kx9 n9 v2 v3 σ = some (res, σz) → lv_has ls 4 [(0, .ref (ad 500 0)), (2, .int v2), (3, .int v3)] → va_P G vwCl (wld ad ca σ LM) H → va_S A s.heap H locs → W p l e (headSpec wsX10_nextAt ({ frames := 1, cells := 0, slots := 0, locals := 22 })).room s m (([.ref (ad 500 0), .int x1, .int x2] : List Value).toArray) below meth c H locs 0 0 (MQ below (va_Qi (fun r' u => r' = res ∧ u = σz) (ctB G ad ca LM) A) (([.ref (ad 500 0), .int x1, .int x2] : List Value).toArray) s 0 0 A) (F0 m 9 ls []) := by
    intro kx9 hx9 n9
    induction n9 with
    | zero =>
      intro v2 v3 σ H locs ls hf
      exact absurd hf (by simp [X10_nextAt_l9])
    | succ n9 ih9 =>
      intro v2 v3 σ H locs ls hf hl hP hS
      rw [X10_nextAt_l9.eq_2] at hf
      refine lv_iload_n hx hb dX10_nextAt_9 rfl (lv_at hl 2 rfl) ?_
      refine lv_iload_n hx hb dX10_nextAt_10 rfl (lv_at hl 1 rfl) ?_
      refine lv_icmp_le (tgt := 47) hx hb dX10_nextAt_11 rfl (fun hc => ?_) (fun hc => ?_)
      · have hf := b_p hf hc
        exact hx9 v2 σ _ _ _  hf (lv_sub hl [0, 1] rfl) hP hS
      · have hf := b_n hf hc
        refine lv_aload_n hx hb dX10_nextAt_14 rfl (lv_at hl 0 rfl) ?_
        refine x_get (k := 500) (n := 0) hx hb hts i_X10 hown hK hP (mk_500 h01) rfl rfl 31 (by decide) rfl k_82 (v := .ref (ad 532 0)) rfl dX10_nextAt_15 ?_
        refine lv_iload_n hx hb dX10_nextAt_18 rfl (lv_at hl 2 rfl) ?_
        refine lv_aload_n hx hb dX10_nextAt_19 rfl (lv_at hl 0 rfl) ?_
        refine lv_iconst (v := (0 : Int32)) hx hb dX10_nextAt_20 rfl ?_
        obtain ⟨r3, hc3, hf⟩ := bd_e hf
        refine x_ci (va_runV (As := [.int (0 : Int32)]) (rest := [.int v3, .ref (ad 532 0)]) ⟨hx, hb, hml, hown, hts⟩ (t_X10_nextClass l G ad ca A (0 : Int32) hD  σ r3 hc3) (cwV 1 hts gr_X10_252 rfl rfl rfl h9_X10_nextClass ⟨Nat.le_of_ble_eq_true rfl, Nat.le_of_ble_eq_true rfl⟩) (x_prV zkM hz hK hP (mk_500 h01) rfl rfl) rfl rfl hl.1 rfl (lv_room (Nat.le_of_ble_eq_true rfl)) dX10_nextAt_21 ⟨Nat.le_of_ble_eq_true rfl, Nat.le_of_ble_eq_true rfl⟩) hS (fun H locs hP hS => ?_)
        obtain ⟨g4, hf⟩ := gd_e hf
        refine x_iast (k := 532) (n := 0) hx hb hK hD hP hS (mk_532 h01) rfl g4 dX10_nextAt_24 (fun H locs hP hS => ?_)
        obtain ⟨σ5, e_σ5, hf⟩ := nm_i hf
        have hP : va_P G vwCl (wld ad ca σ5 LM) H := by rw [e_σ5]; exact hP
        refine lv_aload_n hx hb dX10_nextAt_25 rfl (lv_at hl 0 rfl) ?_
        refine x_get (k := 500) (n := 0) hx hb hts i_X10 hown hK hP (mk_500 h01) rfl rfl 32 (by decide) rfl k_85 (v := .ref (ad 533 0)) rfl dX10_nextAt_26 ?_
        refine lv_iload_n hx hb dX10_nextAt_29 rfl (lv_at hl 2 rfl) ?_
        refine lv_ldc2 hx hb hown k_250 dX10_nextAt_30 ?_
        obtain ⟨g6, hf⟩ := gd_e hf
        refine x_last (k := 533) (n := 0) hx hb hK hD hP hS (mk_533 h01) rfl g6 dX10_nextAt_33 (fun H locs hP hS => ?_)
        obtain ⟨σ7, e_σ7, hf⟩ := nm_i hf
        have hP : va_P G vwCl (wld ad ca σ7 LM) H := by rw [e_σ7]; exact hP
        refine lv_aload_n hx hb dX10_nextAt_34 rfl (lv_at hl 0 rfl) ?_
        refine x_get (k := 500) (n := 0) hx hb hts i_X10 hown hK hP (mk_500 h01) rfl rfl 37 (by decide) rfl k_100 (v := .ref (ad 538 0)) rfl dX10_nextAt_35 ?_
        refine lv_iload_n hx hb dX10_nextAt_38 rfl (lv_at hl 2 rfl) ?_
        refine lv_iconst (v := (0 : Int32)) hx hb dX10_nextAt_39 rfl ?_
        obtain ⟨g8, hf⟩ := gd_e hf
        refine x_iast (k := 538) (n := 0) hx hb hK hD hP hS (mk_538 h01) rfl g8 dX10_nextAt_40 (fun H locs hP hS => ?_)
        obtain ⟨σ9, e_σ9, hf⟩ := nm_i hf
        have hP : va_P G vwCl (wld ad ca σ9 LM) H := by rw [e_σ9]; exact hP
        refine lv_iinc (v := (v3 + (-1 : Int32))) (lv' := [(3, .int (v3 + (-1 : Int32))), (0, .ref (ad 500 0)), (2, .int v2)]) hx hb dX10_nextAt_41 hl (k := 2) rfl rfl (by decide) rfl (fun ls hl => ?_)
        refine lv_goto (tgt := 9) hx hb dX10_nextAt_44 rfl ?_
        exact ih9 v2 (v3 + (-1 : Int32)) σ9 _ _ _  hf (lv_sub hl [1, 2, 0] rfl) hP hS
  have l49 : ∀ (kx49 : PS → Option (Int32 × PS)), (∀ (σ : PS) (H : Heap) (locs : List Loc) (ls : Array Slot), kx49 σ = some (res, σz) → lv_has ls 4 [] → va_P G vwCl (wld ad ca σ LM) H → va_S A s.heap H locs → W p l e (headSpec wsX10_nextAt ({ frames := 1, cells := 0, slots := 0, locals := 22 })).room s m (([.ref (ad 500 0), .int x1, .int x2] : List Value).toArray) below meth c H locs 0 0 (MQ below (va_Qi (fun r' u => r' = res ∧ u = σz) (ctB G ad ca LM) A) (([.ref (ad 500 0), .int x1, .int x2] : List Value).toArray) s 0 0 A) (F0 m 166 ls [])) → ∀ (n49 : Nat) (v3 : Int32) (σ : PS) (H : Heap) (locs : List Loc) (ls : Array Slot), X10_nextAt_l49  kx49 n49 v3 σ = some (res, σz) → lv_has ls 4 [(0, .ref (ad 500 0)), (3, .int v3)] → va_P G vwCl (wld ad ca σ LM) H → va_S A s.heap H locs → W p l e (headSpec wsX10_nextAt ({ frames := 1, cells := 0, slots := 0, locals := 22 })).room s m (([.ref (ad 500 0), .int x1, .int x2] : List Value).toArray) below meth c H locs 0 0 (MQ below (va_Qi (fun r' u => r' = res ∧ u = σz) (ctB G ad ca LM) A) (([.ref (ad 500 0), .int x1, .int x2] : List Value).toArray) s 0 0 A) (F0 m 49 ls []) := by
    intro kx49 hx49 n49
    induction n49 with
    | zero =>
      intro v3 σ H locs ls hf
      exact absurd hf (by simp [X10_nextAt_l49])
    | succ n49 ih49 =>
      intro v3 σ H locs ls hf hl hP hS
      rw [X10_nextAt_l49.eq_2] at hf
      refine lv_iload_n hx hb dX10_nextAt_49 rfl (lv_at hl 1 rfl) ?_
      refine lv_if_lt (tgt := 166) hx hb dX10_nextAt_50 rfl (fun hc => ?_) (fun hc => ?_)
      · have hf := b_p hf hc
        exact hx49  σ _ _ _  hf (lv_sub hl [] rfl) hP hS
      · have hf := b_n hf hc
        refine lv_aload_n hx hb dX10_nextAt_53 rfl (lv_at hl 0 rfl) ?_
        refine x_get (k := 500) (n := 0) hx hb hts i_X10 hown hK hP (mk_500 h01) rfl rfl 37 (by decide) rfl k_100 (v := .ref (ad 538 0)) rfl dX10_nextAt_54 ?_
        refine lv_iload_n hx hb dX10_nextAt_57 rfl (lv_at hl 1 rfl) ?_
        refine lv_dup2_11 hx hb dX10_nextAt_58 rfl rfl ?_
        obtain ⟨g10, hf⟩ := gd_e hf
        refine x_iald (k := 538) (n := 0) hx hb hK hP (mk_538 h01) rfl g10 dX10_nextAt_59 ?_
        refine lv_iconst (v := (1 : Int32)) hx hb dX10_nextAt_60 rfl ?_
        refine lv_iadd hx hb dX10_nextAt_61 ?_
        obtain ⟨g11, hf⟩ := gd_e hf
        refine x_iast (k := 538) (n := 0) hx hb hK hD hP hS (mk_538 h01) rfl g11 dX10_nextAt_62 (fun H locs hP hS => ?_)
        obtain ⟨σ12, e_σ12, hf⟩ := nm_i hf
        have hP : va_P G vwCl (wld ad ca σ12 LM) H := by rw [e_σ12]; exact hP
        refine lv_aload_n hx hb dX10_nextAt_63 rfl (lv_at hl 0 rfl) ?_
        refine x_get (k := 500) (n := 0) hx hb hts i_X10 hown hK hP (mk_500 h01) rfl rfl 37 (by decide) rfl k_100 (v := .ref (ad 538 0)) rfl dX10_nextAt_64 ?_
        refine lv_iload_n hx hb dX10_nextAt_67 rfl (lv_at hl 1 rfl) ?_
        obtain ⟨g13, hf⟩ := gd_e hf
        refine x_iald (k := 538) (n := 0) hx hb hK hP (mk_538 h01) rfl g13 dX10_nextAt_68 ?_
        refine lv_aload_n hx hb dX10_nextAt_69 rfl (lv_at hl 0 rfl) ?_
        refine x_get (k := 500) (n := 0) hx hb hts i_X10 hown hK hP (mk_500 h01) rfl rfl 36 (by decide) rfl k_97 (v := .ref (ad 537 0)) rfl dX10_nextAt_70 ?_
        refine lv_iload_n hx hb dX10_nextAt_73 rfl (lv_at hl 1 rfl) ?_
        obtain ⟨g14, hf⟩ := gd_e hf
        refine x_iald (k := 537) (n := 0) hx hb hK hP (mk_537 h01) rfl g14 dX10_nextAt_74 ?_
        refine lv_icmp_ge (tgt := 102) hx hb dX10_nextAt_75 rfl (fun hc => ?_) (fun hc => ?_)
        · have hf := b_p hf hc
          refine lv_aload_n hx hb dX10_nextAt_102 rfl (lv_at hl 0 rfl) ?_
          refine x_get (k := 500) (n := 0) hx hb hts i_X10 hown hK hP (mk_500 h01) rfl rfl 37 (by decide) rfl k_100 (v := .ref (ad 538 0)) rfl dX10_nextAt_103 ?_
          refine lv_iload_n hx hb dX10_nextAt_106 rfl (lv_at hl 1 rfl) ?_
          refine lv_iconst (v := (0 : Int32)) hx hb dX10_nextAt_107 rfl ?_
          obtain ⟨g15, hf⟩ := gd_e hf
          refine x_iast (k := 538) (n := 0) hx hb hK hD hP hS (mk_538 h01) rfl g15 dX10_nextAt_108 (fun H locs hP hS => ?_)
          obtain ⟨σ16, e_σ16, hf⟩ := nm_i hf
          have hP : va_P G vwCl (wld ad ca σ16 LM) H := by rw [e_σ16]; exact hP
          refine lv_aload_n hx hb dX10_nextAt_109 rfl (lv_at hl 0 rfl) ?_
          refine x_get (k := 500) (n := 0) hx hb hts i_X10 hown hK hP (mk_500 h01) rfl rfl 32 (by decide) rfl k_85 (v := .ref (ad 533 0)) rfl dX10_nextAt_110 ?_
          refine lv_iload_n hx hb dX10_nextAt_113 rfl (lv_at hl 1 rfl) ?_
          refine lv_ldc2 hx hb hown k_250 dX10_nextAt_114 ?_
          obtain ⟨g17, hf⟩ := gd_e hf
          refine x_last (k := 533) (n := 0) hx hb hK hD hP hS (mk_533 h01) rfl g17 dX10_nextAt_117 (fun H locs hP hS => ?_)
          obtain ⟨σ18, e_σ18, hf⟩ := nm_i hf
          have hP : va_P G vwCl (wld ad ca σ18 LM) H := by rw [e_σ18]; exact hP
          refine lv_aload_n hx hb dX10_nextAt_118 rfl (lv_at hl 0 rfl) ?_
          refine x_get (k := 500) (n := 0) hx hb hts i_X10 hown hK hP (mk_500 h01) rfl rfl 31 (by decide) rfl k_82 (v := .ref (ad 532 0)) rfl dX10_nextAt_119 ?_
          refine lv_iload_n hx hb dX10_nextAt_122 rfl (lv_at hl 1 rfl) ?_
          refine lv_aload_n hx hb dX10_nextAt_123 rfl (lv_at hl 0 rfl) ?_
          refine lv_aload_n hx hb dX10_nextAt_124 rfl (lv_at hl 0 rfl) ?_
          refine x_get (k := 500) (n := 0) hx hb hts i_X10 hown hK hP (mk_500 h01) rfl rfl 31 (by decide) rfl k_82 (v := .ref (ad 532 0)) rfl dX10_nextAt_125 ?_
          refine lv_iload_n hx hb dX10_nextAt_128 rfl (lv_at hl 1 rfl) ?_
          obtain ⟨g19, hf⟩ := gd_e hf
          refine x_iald (k := 532) (n := 0) hx hb hK hP (mk_532 h01) rfl g19 dX10_nextAt_129 ?_
          refine lv_iconst (v := (1 : Int32)) hx hb dX10_nextAt_130 rfl ?_
          refine lv_iadd hx hb dX10_nextAt_131 ?_
          obtain ⟨r20, hc20, hf⟩ := bd_e hf
          refine x_ci (va_runV (As := [.int ((gI σ18 532 0 (ix v3)) + (1 : Int32))]) (rest := [.int v3, .ref (ad 532 0)]) ⟨hx, hb, hml, hown, hts⟩ (t_X10_nextClass l G ad ca A ((gI σ18 532 0 (ix v3)) + (1 : Int32)) hD  σ18 r20 hc20) (cwV 1 hts gr_X10_252 rfl rfl rfl h9_X10_nextClass ⟨Nat.le_of_ble_eq_true rfl, Nat.le_of_ble_eq_true rfl⟩) (x_prV zkM hz hK hP (mk_500 h01) rfl rfl) rfl rfl hl.1 rfl (lv_room (Nat.le_of_ble_eq_true rfl)) dX10_nextAt_132 ⟨Nat.le_of_ble_eq_true rfl, Nat.le_of_ble_eq_true rfl⟩) hS (fun H locs hP hS => ?_)
          obtain ⟨g21, hf⟩ := gd_e hf
          refine x_iast (k := 532) (n := 0) hx hb hK hD hP hS (mk_532 h01) rfl g21 dX10_nextAt_135 (fun H locs hP hS => ?_)
          obtain ⟨σ22, e_σ22, hf⟩ := nm_i hf
          have hP : va_P G vwCl (wld ad ca σ22 LM) H := by rw [e_σ22]; exact hP
          refine lv_aload_n hx hb dX10_nextAt_136 rfl (lv_at hl 0 rfl) ?_
          refine x_get (k := 500) (n := 0) hx hb hts i_X10 hown hK hP (mk_500 h01) rfl rfl 31 (by decide) rfl k_82 (v := .ref (ad 532 0)) rfl dX10_nextAt_137 ?_
          refine lv_iload_n hx hb dX10_nextAt_140 rfl (lv_at hl 1 rfl) ?_
          obtain ⟨g23, hf⟩ := gd_e hf
          refine x_iald (k := 532) (n := 0) hx hb hK hP (mk_532 h01) rfl g23 dX10_nextAt_141 ?_
          refine lv_bipush (v := (12 : Int32)) hx hb dX10_nextAt_142 rfl ?_
          refine lv_icmp_ge (tgt := 149) hx hb dX10_nextAt_144 rfl (fun hc => ?_) (fun hc => ?_)
          · have hf := b_p hf hc
            refine lv_aload_n hx hb dX10_nextAt_149 rfl (lv_at hl 0 rfl) ?_
            refine x_get (k := 500) (n := 0) hx hb hts i_X10 hown hK hP (mk_500 h01) rfl rfl 31 (by decide) rfl k_82 (v := .ref (ad 532 0)) rfl dX10_nextAt_150 ?_
            refine lv_iload_n hx hb dX10_nextAt_153 rfl (lv_at hl 1 rfl) ?_
            refine lv_aload_n hx hb dX10_nextAt_154 rfl (lv_at hl 0 rfl) ?_
            refine lv_iconst (v := (0 : Int32)) hx hb dX10_nextAt_155 rfl ?_
            obtain ⟨r24, hc24, hf⟩ := bd_e hf
            refine x_ci (va_runV (As := [.int (0 : Int32)]) (rest := [.int v3, .ref (ad 532 0)]) ⟨hx, hb, hml, hown, hts⟩ (t_X10_nextClass l G ad ca A (0 : Int32) hD  σ22 r24 hc24) (cwV 1 hts gr_X10_252 rfl rfl rfl h9_X10_nextClass ⟨Nat.le_of_ble_eq_true rfl, Nat.le_of_ble_eq_true rfl⟩) (x_prV zkM hz hK hP (mk_500 h01) rfl rfl) rfl rfl hl.1 rfl (lv_room (Nat.le_of_ble_eq_true rfl)) dX10_nextAt_156 ⟨Nat.le_of_ble_eq_true rfl, Nat.le_of_ble_eq_true rfl⟩) hS (fun H locs hP hS => ?_)
            obtain ⟨g25, hf⟩ := gd_e hf
            refine x_iast (k := 532) (n := 0) hx hb hK hD hP hS (mk_532 h01) rfl g25 dX10_nextAt_159 (fun H locs hP hS => ?_)
            obtain ⟨σ26, e_σ26, hf⟩ := nm_i hf
            have hP : va_P G vwCl (wld ad ca σ26 LM) H := by rw [e_σ26]; exact hP
            refine lv_iinc (v := (v3 + (-1 : Int32))) (lv' := [(3, .int (v3 + (-1 : Int32))), (0, .ref (ad 500 0))]) hx hb dX10_nextAt_160 hl (k := 1) rfl rfl (by decide) rfl (fun ls hl => ?_)
            refine lv_goto (tgt := 49) hx hb dX10_nextAt_163 rfl ?_
            exact ih49 (v3 + (-1 : Int32)) σ26 _ _ _  hf (lv_sub hl [1, 0] rfl) hP hS
          · have hf := b_n hf hc
            refine lv_iconst (v := (1 : Int32)) hx hb dX10_nextAt_147 rfl ?_
            have hf := Option.some.inj hf
            exact x_zret hx hb hr hlocks hK hP hS (by decide) (congrArg Prod.fst hf) (congrArg Prod.snd hf) dX10_nextAt_148
        · have hf := b_n hf hc
          refine lv_aload_n hx hb dX10_nextAt_78 rfl (lv_at hl 0 rfl) ?_
          refine x_get (k := 500) (n := 0) hx hb hts i_X10 hown hK hP (mk_500 h01) rfl rfl 32 (by decide) rfl k_85 (v := .ref (ad 533 0)) rfl dX10_nextAt_79 ?_
          refine lv_iload_n hx hb dX10_nextAt_82 rfl (lv_at hl 1 rfl) ?_
          refine lv_aload_n hx hb dX10_nextAt_83 rfl (lv_at hl 0 rfl) ?_
          refine x_get (k := 500) (n := 0) hx hb hts i_X10 hown hK hP (mk_500 h01) rfl rfl 35 (by decide) rfl k_94 (v := .ref (ad 536 0)) rfl dX10_nextAt_84 ?_
          refine lv_bipush (v := (34 : Int32)) hx hb dX10_nextAt_87 rfl ?_
          refine lv_iload_n hx hb dX10_nextAt_89 rfl (lv_at hl 1 rfl) ?_
          refine lv_imul hx hb dX10_nextAt_90 ?_
          refine lv_aload_n hx hb dX10_nextAt_91 rfl (lv_at hl 0 rfl) ?_
          refine x_get (k := 500) (n := 0) hx hb hts i_X10 hown hK hP (mk_500 h01) rfl rfl 37 (by decide) rfl k_100 (v := .ref (ad 538 0)) rfl dX10_nextAt_92 ?_
          refine lv_iload_n hx hb dX10_nextAt_95 rfl (lv_at hl 1 rfl) ?_
          obtain ⟨g27, hf⟩ := gd_e hf
          refine x_iald (k := 538) (n := 0) hx hb hK hP (mk_538 h01) rfl g27 dX10_nextAt_96 ?_
          refine lv_iadd hx hb dX10_nextAt_97 ?_
          obtain ⟨g28, hf⟩ := gd_e hf
          refine x_lald (k := 536) (n := 0) hx hb hK hP (mk_536 h01) rfl g28 dX10_nextAt_98 ?_
          obtain ⟨g29, hf⟩ := gd_e hf
          refine x_last (k := 533) (n := 0) hx hb hK hD hP hS (mk_533 h01) rfl g29 dX10_nextAt_99 (fun H locs hP hS => ?_)
          obtain ⟨σ30, e_σ30, hf⟩ := nm_i hf
          have hP : va_P G vwCl (wld ad ca σ30 LM) H := by rw [e_σ30]; exact hP
          refine lv_iconst (v := (1 : Int32)) hx hb dX10_nextAt_100 rfl ?_
          have hf := Option.some.inj hf
          exact x_zret hx hb hr hlocks hK hP hS (by decide) (congrArg Prod.fst hf) (congrArg Prod.snd hf) dX10_nextAt_101
  have c166 : ∀ (σ : PS) (H : Heap) (locs : List Loc) (ls : Array Slot), X10_nextAt_c166   σ = some (res, σz) → lv_has ls 4 [] → va_P G vwCl (wld ad ca σ LM) H → va_S A s.heap H locs → W p l e (headSpec wsX10_nextAt ({ frames := 1, cells := 0, slots := 0, locals := 22 })).room s m (([.ref (ad 500 0), .int x1, .int x2] : List Value).toArray) below meth c H locs 0 0 (MQ below (va_Qi (fun r' u => r' = res ∧ u = σz) (ctB G ad ca LM) A) (([.ref (ad 500 0), .int x1, .int x2] : List Value).toArray) s 0 0 A) (F0 m 166 ls []) := by
    intro σ H locs ls hf hl hP hS
    unfold X10_nextAt_c166 at hf
    refine lv_iconst (v := (0 : Int32)) hx hb dX10_nextAt_166 rfl ?_
    have hf := Option.some.inj hf
    exact x_zret hx hb hr hlocks hK hP hS (by decide) (congrArg Prod.fst hf) (congrArg Prod.snd hf) dX10_nextAt_167
  have c47 : ∀ (v2 : Int32) (σ : PS) (H : Heap) (locs : List Loc) (ls : Array Slot), X10_nextAt_c47  v2 σ = some (res, σz) → lv_has ls 4 [(0, .ref (ad 500 0)), (2, .int v2)] → va_P G vwCl (wld ad ca σ LM) H → va_S A s.heap H locs → W p l e (headSpec wsX10_nextAt ({ frames := 1, cells := 0, slots := 0, locals := 22 })).room s m (([.ref (ad 500 0), .int x1, .int x2] : List Value).toArray) below meth c H locs 0 0 (MQ below (va_Qi (fun r' u => r' = res ∧ u = σz) (ctB G ad ca LM) A) (([.ref (ad 500 0), .int x1, .int x2] : List Value).toArray) s 0 0 A) (F0 m 47 ls []) := by
    intro v2 σ H locs ls hf hl hP hS
    unfold X10_nextAt_c47 at hf
    refine lv_iload_n hx hb dX10_nextAt_47 rfl (lv_at hl 1 rfl) ?_
    refine lv_istore_n (lv' := [(3, .int v2), (0, .ref (ad 500 0)), (2, .int v2)]) hx hb dX10_nextAt_48 rfl hl (by decide) rfl (fun ls hl => ?_)
    exact l49 _ c166 _ v2 σ _ _ _  hf (lv_sub hl [1, 0] rfl) hP hS
  refine lv_aload_n hx hb dX10_nextAt_0 rfl (lv_at hl 0 rfl) ?_
  refine x_get (k := 500) (n := 0) hx hb hts i_X10 hown hK hP (mk_500 h01) rfl rfl 9 (by decide) rfl k_29 (v := .ref (ad 510 0)) rfl dX10_nextAt_1 ?_
  refine lv_iload_n hx hb dX10_nextAt_4 rfl (lv_at hl 1 rfl) ?_
  obtain ⟨g1, hf⟩ := gd_e hf
  refine x_iald (k := 510) (n := 0) hx hb hK hP (mk_510 h01) rfl g1 dX10_nextAt_5 ?_
  refine lv_iconst (v := (1 : Int32)) hx hb dX10_nextAt_6 rfl ?_
  refine lv_isub hx hb dX10_nextAt_7 ?_
  obtain ⟨y2, e_y2, hf⟩ := nm_i hf
  refine x_nmI e_y2 ?_
  refine lv_istore_n (lv' := [(3, .int y2), (0, .ref (ad 500 0)), (1, .int x1), (2, .int x2)]) hx hb dX10_nextAt_8 rfl hl (by decide) rfl (fun ls hl => ?_)
  exact l9 _ c47 _ x2 y2 σ _ _ _  hf (lv_sub hl [1, 3, 0] rfl) hP hS
theorem h9_X10_nextTuple : yX10_nextTuple.cls = RX10 ∧ yX10_nextTuple.cls ≠ "java/lang/invoke/MethodHandle" ∧ yX10_nextTuple.cls ≠ "java/lang/invoke/VarHandle" ∧ (parseMethodDescriptor yX10_nextTuple.desc).map (fun d => d.parameters.length) = some 1 := by decide +kernel
set_option maxRecDepth 100000 in
set_option maxHeartbeats 4000000 in
theorem t_X10_nextTuple (l : Launch) (G : va_G) (ad : Nat → Nat → Nat) (ca : Nat → ClassId) (A : Nat → Prop)   (x1 : Int32) (hD : DW ad LM A)  (σ : PS) (res : Int32) (σz : PS) (hf : X10_nextTuple  x1 σ = some (res, σz)) : Met l yX10_nextTuple wsX10_nextTuple ({ frames := 2, cells := 0, slots := 0, locals := 45 }) (ctP G ad ca LM σ ZM [.ref (ad 500 0), .int x1]) (va_Qi (fun r' u => r' = res ∧ u = σz) (ctB G ad ca LM) A) 0 0 A := by
  refine Met.ofW (cc := cX10_nextTuple) (maxL := 2) (ret := (some .boolean)) (by decide) rfl ?_
  intro p e s m args below meth c s₁ B hml hv
  obtain ⟨rfl, hP, hK, hz⟩ := hv
  have hx := B.exec
  have hb := B.bytes
  have hr := B.returns
  have hts : ∀ w ∈ WW, w.before _ s = true := fun w h => atoms_spec (ws := wsX10_nextTuple) B.pre w (List.mem_cons_of_mem _ h)
  have hown : s.vm.findClass RX10 = some m.cls := findClass_of_methodNamed B.named
  have hlocks := B.notSynchronized
  have hS : va_S A s.heap s.heap [] := va_S.rf
  have k_29 := hts _ kf_X10_29
  have hl := lv_entry ([.ref (ad 500 0), .int x1]) (n := 2) (Nat.le_of_ble_eq_true rfl)
  rw [lg_entry_eq]
  generalize (lg_sl ([.ref (ad 500 0), .int x1]) ++ List.replicate (2 - (lg_sl ([.ref (ad 500 0), .int x1])).length) Slot.unset).toArray = ls at hl ⊢
  have hl : lv_has ls 2 [(0, .ref (ad 500 0)), (1, .int x1)] := hl
  unfold X10_nextTuple at hf
  refine lv_aload_n hx hb dX10_nextTuple_0 rfl (lv_at hl 0 rfl) ?_
  refine lv_iload_n hx hb dX10_nextTuple_1 rfl (lv_at hl 1 rfl) ?_
  refine lv_aload_n hx hb dX10_nextTuple_2 rfl (lv_at hl 0 rfl) ?_
  refine x_get (k := 500) (n := 0) hx hb hts i_X10 hown hK hP (mk_500 h01) rfl rfl 9 (by decide) rfl k_29 (v := .ref (ad 510 0)) rfl dX10_nextTuple_3 ?_
  refine lv_iload_n hx hb dX10_nextTuple_6 rfl (lv_at hl 1 rfl) ?_
  obtain ⟨g1, hf⟩ := gd_e hf
  refine x_iald (k := 510) (n := 0) hx hb hK hP (mk_510 h01) rfl g1 dX10_nextTuple_7 ?_
  refine lv_iconst (v := (1 : Int32)) hx hb dX10_nextTuple_8 rfl ?_
  refine lv_isub hx hb dX10_nextTuple_9 ?_
  obtain ⟨r2, σ2, hc2, hf⟩ := bp_e hf
  refine x_ci (va_runV (As := [.int x1, .int ((gI σ 510 0 (ix x1)) - (1 : Int32))]) (rest := []) ⟨hx, hb, hml, hown, hts⟩ (t_X10_nextAt l G ad ca A x1 ((gI σ 510 0 (ix x1)) - (1 : Int32)) hD  σ r2 σ2 hc2) (cwV 2 hts gr_X10_259 rfl rfl rfl h9_X10_nextAt ⟨Nat.le_of_ble_eq_true rfl, Nat.le_of_ble_eq_true rfl⟩) (x_prV zkM hz hK hP (mk_500 h01) rfl rfl) rfl rfl hl.1 rfl (lv_room (Nat.le_of_ble_eq_true rfl)) dX10_nextTuple_10 ⟨Nat.le_of_ble_eq_true rfl, Nat.le_of_ble_eq_true rfl⟩) hS (fun H locs hP hS => ?_)
  obtain ⟨g3, hf⟩ := gd_e hf
  have hf := Option.some.inj hf
  exact x_zret hx hb hr hlocks hK hP hS g3 (congrArg Prod.fst hf) (congrArg Prod.snd hf) dX10_nextTuple_13
theorem h9_X10_keepTuple : yX10_keepTuple.cls = RX10 ∧ yX10_keepTuple.cls ≠ "java/lang/invoke/MethodHandle" ∧ yX10_keepTuple.cls ≠ "java/lang/invoke/VarHandle" ∧ (parseMethodDescriptor yX10_keepTuple.desc).map (fun d => d.parameters.length) = some 1 := by decide +kernel
set_option maxRecDepth 100000 in
set_option maxHeartbeats 4000000 in
theorem t_X10_keepTuple (l : Launch) (G : va_G) (ad : Nat → Nat → Nat) (ca : Nat → ClassId) (A : Nat → Prop)   (x1 : Int32) (hD : DW ad LM A)  (σ : PS) (res : PS) (hf : X10_keepTuple  x1 σ = some res) : Met l yX10_keepTuple wsX10_keepTuple ({ frames := 0, cells := 0, slots := 0, locals := 0 }) (ctP G ad ca LM σ ZM [.ref (ad 500 0), .int x1]) (va_Qv (fun u => u = res) (ctB G ad ca LM) A) 0 0 A := by
  refine Met.ofW (cc := cX10_keepTuple) (maxL := 3) (ret := none) (by decide) rfl ?_
  intro p e s m args below meth c s₁ B hml hv
  obtain ⟨rfl, hP, hK, hz⟩ := hv
  have hx := B.exec
  have hb := B.bytes
  have hr := B.returns
  have hts : ∀ w ∈ WW, w.before _ s = true := fun w h => atoms_spec (ws := wsX10_keepTuple) B.pre w (List.mem_cons_of_mem _ h)
  have hown : s.vm.findClass RX10 = some m.cls := findClass_of_methodNamed B.named
  have hlocks := B.notSynchronized
  have hS : va_S A s.heap s.heap [] := va_S.rf
  have k_29 := hts _ kf_X10_29
  have k_82 := hts _ kf_X10_82
  have k_85 := hts _ kf_X10_85
  have k_103 := hts _ kf_X10_103
  have hl := lv_entry ([.ref (ad 500 0), .int x1]) (n := 3) (Nat.le_of_ble_eq_true rfl)
  rw [lg_entry_eq]
  generalize (lg_sl ([.ref (ad 500 0), .int x1]) ++ List.replicate (3 - (lg_sl ([.ref (ad 500 0), .int x1])).length) Slot.unset).toArray = ls at hl ⊢
  have hl : lv_has ls 3 [(0, .ref (ad 500 0)), (1, .int x1)] := hl
  unfold X10_keepTuple at hf
  have l2 : ∀ (kx2 : PS → Option (PS)), (∀ (σ : PS) (H : Heap) (locs : List Loc) (ls : Array Slot), kx2 σ = some res → lv_has ls 3 [] → va_P G vwCl (wld ad ca σ LM) H → va_S A s.heap H locs → W p l e (headSpec wsX10_keepTuple ({ frames := 0, cells := 0, slots := 0, locals := 0 })).room s m (([.ref (ad 500 0), .int x1] : List Value).toArray) below meth c H locs 0 0 (MQ below (va_Qv (fun u => u = res) (ctB G ad ca LM) A) (([.ref (ad 500 0), .int x1] : List Value).toArray) s 0 0 A) (F0 m 68 ls [])) → ∀ (n2 : Nat) (v1 : Int32) (v2 : Int32) (σ : PS) (H : Heap) (locs : List Loc) (ls : Array Slot), X10_keepTuple_l2  kx2 n2 v1 v2 σ = some res → lv_has ls 3 [(0, .ref (ad 500 0)), (1, .int v1), (2, .int v2)] → va_P G vwCl (wld ad ca σ LM) H → va_S A s.heap H locs → W p l e (headSpec wsX10_keepTuple ({ frames := 0, cells := 0, slots := 0, locals := 0 })).room s m (([.ref (ad 500 0), .int x1] : List Value).toArray) below meth c H locs 0 0 (MQ below (va_Qv (fun u => u = res) (ctB G ad ca LM) A) (([.ref (ad 500 0), .int x1] : List Value).toArray) s 0 0 A) (F0 m 2 ls []) := by
    intro kx2 hx2 n2
    induction n2 with
    | zero =>
      intro v1 v2 σ H locs ls hf
      exact absurd hf (by simp [X10_keepTuple_l2])
    | succ n2 ih2 =>
      intro v1 v2 σ H locs ls hf hl hP hS
      rw [X10_keepTuple_l2.eq_2] at hf
      have c33 : ∀ (v1 : Int32) (v2 : Int32) (w0 : Int64) (w1 : Int32) (σ : PS) (H : Heap) (locs : List Loc) (ls : Array Slot), X10_keepTuple_c33  (X10_keepTuple_l2  kx2 n2) kx2 v1 v2 w0 w1 σ = some res → lv_has ls 3 [(0, .ref (ad 500 0)), (1, .int v1), (2, .int v2)] → va_P G vwCl (wld ad ca σ LM) H → va_S A s.heap H locs → W p l e (headSpec wsX10_keepTuple ({ frames := 0, cells := 0, slots := 0, locals := 0 })).room s m (([.ref (ad 500 0), .int x1] : List Value).toArray) below meth c H locs 0 0 (MQ below (va_Qv (fun u => u = res) (ctB G ad ca LM) A) (([.ref (ad 500 0), .int x1] : List Value).toArray) s 0 0 A) (F0 m 33 ls [.long w0, .int w1, .ref (ad 539 0)]) := by
        intro v1 v2 w0 w1 σ H locs ls hf hl hP hS
        unfold X10_keepTuple_c33 at hf
        obtain ⟨g2, hf⟩ := gd_e hf
        refine x_last (k := 539) (n := 0) hx hb hK hD hP hS (mk_539 h01) rfl g2 dX10_keepTuple_33 (fun H locs hP hS => ?_)
        obtain ⟨σ3, e_σ3, hf⟩ := nm_i hf
        have hP : va_P G vwCl (wld ad ca σ3 LM) H := by rw [e_σ3]; exact hP
        refine lv_aload_n hx hb dX10_keepTuple_34 rfl (lv_at hl 0 rfl) ?_
        refine x_get (k := 500) (n := 0) hx hb hts i_X10 hown hK hP (mk_500 h01) rfl rfl 38 (by decide) rfl k_103 (v := .ref (ad 539 0)) rfl dX10_keepTuple_35 ?_
        refine lv_iconst (v := (2 : Int32)) hx hb dX10_keepTuple_38 rfl ?_
        refine lv_iload_n hx hb dX10_keepTuple_39 rfl (lv_at hl 2 rfl) ?_
        refine lv_iadd hx hb dX10_keepTuple_40 ?_
        refine lv_iload_n hx hb dX10_keepTuple_41 rfl (lv_at hl 2 rfl) ?_
        refine lv_aload_n hx hb dX10_keepTuple_42 rfl (lv_at hl 0 rfl) ?_
        refine x_get (k := 500) (n := 0) hx hb hts i_X10 hown hK hP (mk_500 h01) rfl rfl 9 (by decide) rfl k_29 (v := .ref (ad 510 0)) rfl dX10_keepTuple_43 ?_
        refine lv_iload_n hx hb dX10_keepTuple_46 rfl (lv_at hl 1 rfl) ?_
        obtain ⟨g4, hf⟩ := gd_e hf
        refine x_iald (k := 510) (n := 0) hx hb hK hP (mk_510 h01) rfl g4 dX10_keepTuple_47 ?_
        refine lv_icmp_ge (tgt := 60) hx hb dX10_keepTuple_48 rfl (fun hc => ?_) (fun hc => ?_)
        · have hf := b_p hf hc
          refine lv_lconst (v := (0 : Int64)) hx hb dX10_keepTuple_60 rfl ?_
          obtain ⟨g5, hf⟩ := gd_e hf
          refine x_last (k := 539) (n := 0) hx hb hK hD hP hS (mk_539 h01) rfl g5 dX10_keepTuple_61 (fun H locs hP hS => ?_)
          obtain ⟨σ6, e_σ6, hf⟩ := nm_i hf
          have hP : va_P G vwCl (wld ad ca σ6 LM) H := by rw [e_σ6]; exact hP
          refine lv_iinc (v := (v2 + (1 : Int32))) (lv' := [(2, .int (v2 + (1 : Int32))), (0, .ref (ad 500 0)), (1, .int v1)]) hx hb dX10_keepTuple_62 hl (k := 2) rfl rfl (by decide) rfl (fun ls hl => ?_)
          refine lv_goto (tgt := 2) hx hb dX10_keepTuple_65 rfl ?_
          exact ih2 v1 (v2 + (1 : Int32)) σ6 _ _ _  hf (lv_sub hl [1, 2, 0] rfl) hP hS
        · have hf := b_n hf hc
          refine lv_aload_n hx hb dX10_keepTuple_51 rfl (lv_at hl 0 rfl) ?_
          refine x_get (k := 500) (n := 0) hx hb hts i_X10 hown hK hP (mk_500 h01) rfl rfl 32 (by decide) rfl k_85 (v := .ref (ad 533 0)) rfl dX10_keepTuple_52 ?_
          refine lv_iload_n hx hb dX10_keepTuple_55 rfl (lv_at hl 2 rfl) ?_
          obtain ⟨g7, hf⟩ := gd_e hf
          refine x_lald (k := 533) (n := 0) hx hb hK hP (mk_533 h01) rfl g7 dX10_keepTuple_56 ?_
          refine lv_goto (tgt := 61) hx hb dX10_keepTuple_57 rfl ?_
          obtain ⟨g8, hf⟩ := gd_e hf
          refine x_last (k := 539) (n := 0) hx hb hK hD hP hS (mk_539 h01) rfl g8 dX10_keepTuple_61 (fun H locs hP hS => ?_)
          obtain ⟨σ9, e_σ9, hf⟩ := nm_i hf
          have hP : va_P G vwCl (wld ad ca σ9 LM) H := by rw [e_σ9]; exact hP
          refine lv_iinc (v := (v2 + (1 : Int32))) (lv' := [(2, .int (v2 + (1 : Int32))), (0, .ref (ad 500 0)), (1, .int v1)]) hx hb dX10_keepTuple_62 hl (k := 2) rfl rfl (by decide) rfl (fun ls hl => ?_)
          refine lv_goto (tgt := 2) hx hb dX10_keepTuple_65 rfl ?_
          exact ih2 v1 (v2 + (1 : Int32)) σ9 _ _ _  hf (lv_sub hl [1, 2, 0] rfl) hP hS
      refine lv_iload_n hx hb dX10_keepTuple_2 rfl (lv_at hl 2 rfl) ?_
      refine lv_iconst (v := (2 : Int32)) hx hb dX10_keepTuple_3 rfl ?_
      refine lv_icmp_ge (tgt := 68) hx hb dX10_keepTuple_4 rfl (fun hc => ?_) (fun hc => ?_)
      · have hf := b_p hf hc
        exact hx2  σ _ _ _  hf (lv_sub hl [] rfl) hP hS
      · have hf := b_n hf hc
        refine lv_aload_n hx hb dX10_keepTuple_7 rfl (lv_at hl 0 rfl) ?_
        refine x_get (k := 500) (n := 0) hx hb hts i_X10 hown hK hP (mk_500 h01) rfl rfl 38 (by decide) rfl k_103 (v := .ref (ad 539 0)) rfl dX10_keepTuple_8 ?_
        refine lv_iload_n hx hb dX10_keepTuple_11 rfl (lv_at hl 2 rfl) ?_
        refine lv_iload_n hx hb dX10_keepTuple_12 rfl (lv_at hl 2 rfl) ?_
        refine lv_aload_n hx hb dX10_keepTuple_13 rfl (lv_at hl 0 rfl) ?_
        refine x_get (k := 500) (n := 0) hx hb hts i_X10 hown hK hP (mk_500 h01) rfl rfl 9 (by decide) rfl k_29 (v := .ref (ad 510 0)) rfl dX10_keepTuple_14 ?_
        refine lv_iload_n hx hb dX10_keepTuple_17 rfl (lv_at hl 1 rfl) ?_
        obtain ⟨g1, hf⟩ := gd_e hf
        refine x_iald (k := 510) (n := 0) hx hb hK hP (mk_510 h01) rfl g1 dX10_keepTuple_18 ?_
        refine lv_icmp_ge (tgt := 32) hx hb dX10_keepTuple_19 rfl (fun hc => ?_) (fun hc => ?_)
        · have hf := b_p hf hc
          refine lv_lconst (v := (0 : Int64)) hx hb dX10_keepTuple_32 rfl ?_
          exact c33 v1 v2 (0 : Int64) v2 σ _ _ _  hf (lv_sub hl [0, 1, 2] rfl) hP hS
        · have hf := b_n hf hc
          refine lv_aload_n hx hb dX10_keepTuple_22 rfl (lv_at hl 0 rfl) ?_
          refine x_get (k := 500) (n := 0) hx hb hts i_X10 hown hK hP (mk_500 h01) rfl rfl 31 (by decide) rfl k_82 (v := .ref (ad 532 0)) rfl dX10_keepTuple_23 ?_
          refine lv_iload_n hx hb dX10_keepTuple_26 rfl (lv_at hl 2 rfl) ?_
          obtain ⟨g10, hf⟩ := gd_e hf
          refine x_iald (k := 532) (n := 0) hx hb hK hP (mk_532 h01) rfl g10 dX10_keepTuple_27 ?_
          refine lv_i2l hx hb dX10_keepTuple_28 rfl ?_
          refine lv_goto (tgt := 33) hx hb dX10_keepTuple_29 rfl ?_
          exact c33 v1 v2 (gI σ 532 0 (ix v2)).toInt64 v2 σ _ _ _  hf (lv_sub hl [0, 1, 2] rfl) hP hS
  have c68 : ∀ (σ : PS) (H : Heap) (locs : List Loc) (ls : Array Slot), X10_keepTuple_c68   σ = some res → lv_has ls 3 [] → va_P G vwCl (wld ad ca σ LM) H → va_S A s.heap H locs → W p l e (headSpec wsX10_keepTuple ({ frames := 0, cells := 0, slots := 0, locals := 0 })).room s m (([.ref (ad 500 0), .int x1] : List Value).toArray) below meth c H locs 0 0 (MQ below (va_Qv (fun u => u = res) (ctB G ad ca LM) A) (([.ref (ad 500 0), .int x1] : List Value).toArray) s 0 0 A) (F0 m 68 ls []) := by
    intro σ H locs ls hf hl hP hS
    unfold X10_keepTuple_c68 at hf
    exact x_vret hx hb hr hlocks hK hP hS (Option.some.inj hf) dX10_keepTuple_68
  refine lv_iconst (v := (0 : Int32)) hx hb dX10_keepTuple_0 rfl ?_
  refine lv_istore_n (lv' := [(2, .int (0 : Int32)), (0, .ref (ad 500 0)), (1, .int x1)]) hx hb dX10_keepTuple_1 rfl hl (by decide) rfl (fun ls hl => ?_)
  exact l2 _ c68 _ x1 (0 : Int32) σ _ _ _  hf (lv_sub hl [1, 2, 0] rfl) hP hS
theorem h9_X10_findHole : yX10_findHole.cls = RX10 ∧ yX10_findHole.cls ≠ "java/lang/invoke/MethodHandle" ∧ yX10_findHole.cls ≠ "java/lang/invoke/VarHandle" ∧ (parseMethodDescriptor yX10_findHole.desc).map (fun d => d.parameters.length) = some 1 := by decide +kernel
set_option maxRecDepth 100000 in
set_option maxHeartbeats 4000000 in
theorem t_X10_findHole (l : Launch) (G : va_G) (ad : Nat → Nat → Nat) (ca : Nat → ClassId) (A : Nat → Prop)   (x1 : Int32) (hD : DW ad LM A)  (σ : PS) (res : Int32) (σz : PS) (hf : X10_findHole  x1 σ = some (res, σz)) : Met l yX10_findHole wsX10_findHole ({ frames := 5, cells := 0, slots := 0, locals := 123 }) (ctP G ad ca LM σ ZM [.ref (ad 500 0), .int x1]) (va_Qi (fun r' u => r' = res ∧ u = σz) (ctB G ad ca LM) A) 0 0 A := by
  refine Met.ofW (cc := cX10_findHole) (maxL := 3) (ret := (some .boolean)) (by decide) rfl ?_
  intro p e s m args below meth c s₁ B hml hv
  obtain ⟨rfl, hP, hK, hz⟩ := hv
  have hx := B.exec
  have hb := B.bytes
  have hr := B.returns
  have hts : ∀ w ∈ WW, w.before _ s = true := fun w h => atoms_spec (ws := wsX10_findHole) B.pre w (List.mem_cons_of_mem _ h)
  have hown : s.vm.findClass RX10 = some m.cls := findClass_of_methodNamed B.named
  have hlocks := B.notSynchronized
  have hS : va_S A s.heap s.heap [] := va_S.rf
  have hl := lv_entry ([.ref (ad 500 0), .int x1]) (n := 3) (Nat.le_of_ble_eq_true rfl)
  rw [lg_entry_eq]
  generalize (lg_sl ([.ref (ad 500 0), .int x1]) ++ List.replicate (3 - (lg_sl ([.ref (ad 500 0), .int x1])).length) Slot.unset).toArray = ls at hl ⊢
  have hl : lv_has ls 3 [(0, .ref (ad 500 0)), (1, .int x1)] := hl
  unfold X10_findHole at hf
  have l6 : ∀ (kx6 : Int32 → Int32 → PS → Option (Int32 × PS)), (∀ (v1 : Int32) (v2 : Int32) (σ : PS) (H : Heap) (locs : List Loc) (ls : Array Slot), kx6 v1 v2 σ = some (res, σz) → lv_has ls 3 [(0, .ref (ad 500 0)), (1, .int v1), (2, .int v2)] → va_P G vwCl (wld ad ca σ LM) H → va_S A s.heap H locs → W p l e (headSpec wsX10_findHole ({ frames := 5, cells := 0, slots := 0, locals := 123 })).room s m (([.ref (ad 500 0), .int x1] : List Value).toArray) below meth c H locs 0 0 (MQ below (va_Qi (fun r' u => r' = res ∧ u = σz) (ctB G ad ca LM) A) (([.ref (ad 500 0), .int x1] : List Value).toArray) s 0 0 A) (F0 m 28 ls [])) → ∀ (n6 : Nat) (v1 : Int32) (v2 : Int32) (σ : PS) (H : Heap) (locs : List Loc) (ls : Array Slot), X10_findHole_l6  kx6 n6 v1 v2 σ = some (res, σz) → lv_has ls 3 [(0, .ref (ad 500 0)), (1, .int v1), (2, .int v2)] → va_P G vwCl (wld ad ca σ LM) H → va_S A s.heap H locs → W p l e (headSpec wsX10_findHole ({ frames := 5, cells := 0, slots := 0, locals := 123 })).room s m (([.ref (ad 500 0), .int x1] : List Value).toArray) below meth c H locs 0 0 (MQ below (va_Qi (fun r' u => r' = res ∧ u = σz) (ctB G ad ca LM) A) (([.ref (ad 500 0), .int x1] : List Value).toArray) s 0 0 A) (F0 m 6 ls []) := by
    intro kx6 hx6 n6
    induction n6 with
    | zero =>
      intro v1 v2 σ H locs ls hf
      exact absurd hf (by simp [X10_findHole_l6])
    | succ n6 ih6 =>
      intro v1 v2 σ H locs ls hf hl hP hS
      rw [X10_findHole_l6.eq_2] at hf
      refine lv_iload_n hx hb dX10_findHole_6 rfl (lv_at hl 2 rfl) ?_
      refine lv_if_eq (tgt := 28) hx hb dX10_findHole_7 rfl (fun hc => ?_) (fun hc => ?_)
      · have hf := b_p hf hc
        exact hx6 v1 v2 σ _ _ _  hf (lv_sub hl [0, 1, 2] rfl) hP hS
      · have hf := b_n hf hc
        refine lv_aload_n hx hb dX10_findHole_10 rfl (lv_at hl 0 rfl) ?_
        refine lv_iload_n hx hb dX10_findHole_11 rfl (lv_at hl 1 rfl) ?_
        refine lv_iconst (v := (-1 : Int32)) hx hb dX10_findHole_12 rfl ?_
        obtain ⟨r2, hc2, hf⟩ := bd_e hf
        refine x_ci (va_runV (As := [.int v1, .int (-1 : Int32)]) (rest := []) ⟨hx, hb, hml, hown, hts⟩ (t_X10_chosen l G ad ca A v1 (-1 : Int32) hD  σ r2 hc2) (cwV 2 hts gr_X10_206 rfl rfl rfl h9_X10_chosen ⟨Nat.le_of_ble_eq_true rfl, Nat.le_of_ble_eq_true rfl⟩) (x_prV zkM hz hK hP (mk_500 h01) rfl rfl) rfl rfl hl.1 rfl (lv_room (Nat.le_of_ble_eq_true rfl)) dX10_findHole_13 ⟨Nat.le_of_ble_eq_true rfl, Nat.le_of_ble_eq_true rfl⟩) hS (fun H locs hP hS => ?_)
        refine lv_if_lt (tgt := 28) hx hb dX10_findHole_16 rfl (fun hc => ?_) (fun hc => ?_)
        · have hf := b_p hf hc
          exact hx6 v1 v2 σ _ _ _  hf (lv_sub hl [0, 1, 2] rfl) hP hS
        · have hf := b_n hf hc
          refine lv_aload_n hx hb dX10_findHole_19 rfl (lv_at hl 0 rfl) ?_
          refine lv_iload_n hx hb dX10_findHole_20 rfl (lv_at hl 1 rfl) ?_
          obtain ⟨r3, σ3, hc3, hf⟩ := bp_e hf
          refine x_ci (va_runV (As := [.int v1]) (rest := []) ⟨hx, hb, hml, hown, hts⟩ (t_X10_nextTuple l G ad ca A v1 hD  σ r3 σ3 hc3) (cwV 1 hts gr_X10_265 rfl rfl rfl h9_X10_nextTuple ⟨Nat.le_of_ble_eq_true rfl, Nat.le_of_ble_eq_true rfl⟩) (x_prV zkM hz hK hP (mk_500 h01) rfl rfl) rfl rfl hl.1 rfl (lv_room (Nat.le_of_ble_eq_true rfl)) dX10_findHole_21 ⟨Nat.le_of_ble_eq_true rfl, Nat.le_of_ble_eq_true rfl⟩) hS (fun H locs hP hS => ?_)
          refine lv_istore_n (lv' := [(2, .int r3), (0, .ref (ad 500 0)), (1, .int v1)]) hx hb dX10_findHole_24 rfl hl (by decide) rfl (fun ls hl => ?_)
          refine lv_goto (tgt := 6) hx hb dX10_findHole_25 rfl ?_
          exact ih6 v1 r3 σ3 _ _ _  hf (lv_sub hl [1, 2, 0] rfl) hP hS
  have c28 : ∀ (v1 : Int32) (v2 : Int32) (σ : PS) (H : Heap) (locs : List Loc) (ls : Array Slot), X10_findHole_c28  v1 v2 σ = some (res, σz) → lv_has ls 3 [(0, .ref (ad 500 0)), (1, .int v1), (2, .int v2)] → va_P G vwCl (wld ad ca σ LM) H → va_S A s.heap H locs → W p l e (headSpec wsX10_findHole ({ frames := 5, cells := 0, slots := 0, locals := 123 })).room s m (([.ref (ad 500 0), .int x1] : List Value).toArray) below meth c H locs 0 0 (MQ below (va_Qi (fun r' u => r' = res ∧ u = σz) (ctB G ad ca LM) A) (([.ref (ad 500 0), .int x1] : List Value).toArray) s 0 0 A) (F0 m 28 ls []) := by
    intro v1 v2 σ H locs ls hf hl hP hS
    unfold X10_findHole_c28 at hf
    refine lv_aload_n hx hb dX10_findHole_28 rfl (lv_at hl 0 rfl) ?_
    refine lv_iload_n hx hb dX10_findHole_29 rfl (lv_at hl 1 rfl) ?_
    obtain ⟨σ4, hc4, hf⟩ := bd_e hf
    refine x_cv (va_runV (As := [.int v1]) (rest := []) ⟨hx, hb, hml, hown, hts⟩ (t_X10_keepTuple l G ad ca A v1 hD  σ σ4 hc4) (cwV 1 hts gr_X10_268 rfl rfl rfl h9_X10_keepTuple ⟨Nat.le_of_ble_eq_true rfl, Nat.le_of_ble_eq_true rfl⟩) (x_prV zkM hz hK hP (mk_500 h01) rfl rfl) rfl rfl hl.1 rfl (lv_room (Nat.le_of_ble_eq_true rfl)) dX10_findHole_30 ⟨Nat.le_of_ble_eq_true rfl, Nat.le_of_ble_eq_true rfl⟩) hS (fun H locs hP hS => ?_)
    refine lv_iload_n hx hb dX10_findHole_33 rfl (lv_at hl 2 rfl) ?_
    obtain ⟨g5, hf⟩ := gd_e hf
    have hf := Option.some.inj hf
    exact x_zret hx hb hr hlocks hK hP hS g5 (congrArg Prod.fst hf) (congrArg Prod.snd hf) dX10_findHole_34
  refine lv_aload_n hx hb dX10_findHole_0 rfl (lv_at hl 0 rfl) ?_
  refine lv_iload_n hx hb dX10_findHole_1 rfl (lv_at hl 1 rfl) ?_
  obtain ⟨r1, σ1, hc1, hf⟩ := bp_e hf
  refine x_ci (va_runV (As := [.int x1]) (rest := []) ⟨hx, hb, hml, hown, hts⟩ (t_X10_firstTuple l G ad ca A x1 hD  σ r1 σ1 hc1) (cwV 1 hts gr_X10_262 rfl rfl rfl h9_X10_firstTuple ⟨Nat.le_of_ble_eq_true rfl, Nat.le_of_ble_eq_true rfl⟩) (x_prV zkM hz hK hP (mk_500 h01) rfl rfl) rfl rfl hl.1 rfl (lv_room (Nat.le_of_ble_eq_true rfl)) dX10_findHole_2 ⟨Nat.le_of_ble_eq_true rfl, Nat.le_of_ble_eq_true rfl⟩) hS (fun H locs hP hS => ?_)
  refine lv_istore_n (lv' := [(2, .int r1), (0, .ref (ad 500 0)), (1, .int x1)]) hx hb dX10_findHole_5 rfl hl (by decide) rfl (fun ls hl => ?_)
  exact l6 _ c28 _ x1 r1 σ1 _ _ _  hf (lv_sub hl [1, 2, 0] rfl) hP hS
theorem h9_X10_covered : yX10_covered.cls = RX10 ∧ yX10_covered.cls ≠ "java/lang/invoke/MethodHandle" ∧ yX10_covered.cls ≠ "java/lang/invoke/VarHandle" ∧ (parseMethodDescriptor yX10_covered.desc).map (fun d => d.parameters.length) = some 1 := by decide +kernel
set_option maxRecDepth 100000 in
set_option maxHeartbeats 4000000 in
theorem t_X10_covered (l : Launch) (G : va_G) (ad : Nat → Nat → Nat) (ca : Nat → ClassId) (A : Nat → Prop)   (x1 : Int32) (hD : DW ad LM A)  (σ : PS) (res : Int32) (σz : PS) (hf : X10_covered  x1 σ = some (res, σz)) : Met l yX10_covered wsX10_covered ({ frames := 6, cells := 0, slots := 0, locals := 145 }) (ctP G ad ca LM σ ZM [.ref (ad 500 0), .int x1]) (va_Qi (fun r' u => r' = res ∧ u = σz) (ctB G ad ca LM) A) 0 0 A := by
  refine Met.ofW (cc := cX10_covered) (maxL := 2) (ret := (some .int)) (by decide) rfl ?_
  intro p e s m args below meth c s₁ B hml hv
  obtain ⟨rfl, hP, hK, hz⟩ := hv
  have hx := B.exec
  have hb := B.bytes
  have hr := B.returns
  have hts : ∀ w ∈ WW, w.before _ s = true := fun w h => atoms_spec (ws := wsX10_covered) B.pre w (List.mem_cons_of_mem _ h)
  have hown : s.vm.findClass RX10 = some m.cls := findClass_of_methodNamed B.named
  have hlocks := B.notSynchronized
  have hS : va_S A s.heap s.heap [] := va_S.rf
  have hl := lv_entry ([.ref (ad 500 0), .int x1]) (n := 2) (Nat.le_of_ble_eq_true rfl)
  rw [lg_entry_eq]
  generalize (lg_sl ([.ref (ad 500 0), .int x1]) ++ List.replicate (2 - (lg_sl ([.ref (ad 500 0), .int x1])).length) Slot.unset).toArray = ls at hl ⊢
  have hl : lv_has ls 2 [(0, .ref (ad 500 0)), (1, .int x1)] := hl
  unfold X10_covered at hf
  refine lv_aload_n hx hb dX10_covered_0 rfl (lv_at hl 0 rfl) ?_
  refine lv_iload_n hx hb dX10_covered_1 rfl (lv_at hl 1 rfl) ?_
  obtain ⟨r1, hc1, hf⟩ := bd_e hf
  refine x_ci (va_runV (As := [.int x1]) (rest := []) ⟨hx, hb, hml, hown, hts⟩ (t_X10_isFunction l G ad ca A x1 hD  σ r1 hc1) (cwV 1 hts gr_X10_134 rfl rfl rfl h9_X10_isFunction ⟨Nat.le_of_ble_eq_true rfl, Nat.le_of_ble_eq_true rfl⟩) (x_prV zkM hz hK hP (mk_500 h01) rfl rfl) rfl rfl hl.1 rfl (lv_room (Nat.le_of_ble_eq_true rfl)) dX10_covered_2 ⟨Nat.le_of_ble_eq_true rfl, Nat.le_of_ble_eq_true rfl⟩) hS (fun H locs hP hS => ?_)
  refine lv_if_ne (tgt := 11) hx hb dX10_covered_5 rfl (fun hc => ?_) (fun hc => ?_)
  · have hf := b_n hf hc
    refine lv_aload_n hx hb dX10_covered_11 rfl (lv_at hl 0 rfl) ?_
    refine lv_iload_n hx hb dX10_covered_12 rfl (lv_at hl 1 rfl) ?_
    obtain ⟨r2, σ2, hc2, hf⟩ := bp_e hf
    refine x_ci (va_runV (As := [.int x1]) (rest := []) ⟨hx, hb, hml, hown, hts⟩ (t_X10_findHole l G ad ca A x1 hD  σ r2 σ2 hc2) (cwV 1 hts gr_X10_271 rfl rfl rfl h9_X10_findHole ⟨Nat.le_of_ble_eq_true rfl, Nat.le_of_ble_eq_true rfl⟩) (x_prV zkM hz hK hP (mk_500 h01) rfl rfl) rfl rfl hl.1 rfl (lv_room (Nat.le_of_ble_eq_true rfl)) dX10_covered_13 ⟨Nat.le_of_ble_eq_true rfl, Nat.le_of_ble_eq_true rfl⟩) hS (fun H locs hP hS => ?_)
    refine lv_if_eq (tgt := 23) hx hb dX10_covered_16 rfl (fun hc => ?_) (fun hc => ?_)
    · have hf := b_p hf hc
      refine lv_iconst (v := (1 : Int32)) hx hb dX10_covered_23 rfl ?_
      have hf := Option.some.inj hf
      exact x_iret hx hb hr hlocks hK hP hS (congrArg Prod.fst hf) (congrArg Prod.snd hf) dX10_covered_24
    · have hf := b_n hf hc
      refine lv_iconst (v := (0 : Int32)) hx hb dX10_covered_19 rfl ?_
      refine lv_goto (tgt := 24) hx hb dX10_covered_20 rfl ?_
      have hf := Option.some.inj hf
      exact x_iret hx hb hr hlocks hK hP hS (congrArg Prod.fst hf) (congrArg Prod.snd hf) dX10_covered_24
  · have hf := b_p hf hc
    refine lv_bipush (v := (-2 : Int32)) hx hb dX10_covered_8 rfl ?_
    have hf := Option.some.inj hf
    exact x_iret hx hb hr hlocks hK hP hS (congrArg Prod.fst hf) (congrArg Prod.snd hf) dX10_covered_10
theorem h9_X10_hole : yX10_hole.cls = RX10 ∧ yX10_hole.cls ≠ "java/lang/invoke/MethodHandle" ∧ yX10_hole.cls ≠ "java/lang/invoke/VarHandle" ∧ (parseMethodDescriptor yX10_hole.desc).map (fun d => d.parameters.length) = some 2 := by decide +kernel
set_option maxRecDepth 100000 in
set_option maxHeartbeats 4000000 in
theorem t_X10_hole (l : Launch) (G : va_G) (ad : Nat → Nat → Nat) (ca : Nat → ClassId) (A : Nat → Prop)   (x1 : Int32) (x2 : Int32) (hD : DW ad LM A)  (σ : PS) (res : Int64) (σz : PS) (hf : X10_hole  x1 x2 σ = some (res, σz)) : Met l yX10_hole wsX10_hole ({ frames := 6, cells := 0, slots := 0, locals := 145 }) (ctP G ad ca LM σ ZM [.ref (ad 500 0), .int x1, .int x2]) (va_Ql (fun r' u => r' = res ∧ u = σz) (ctB G ad ca LM) A) 0 0 A := by
  refine Met.ofW (cc := cX10_hole) (maxL := 3) (ret := (some .long)) (by decide) rfl ?_
  intro p e s m args below meth c s₁ B hml hv
  obtain ⟨rfl, hP, hK, hz⟩ := hv
  have hx := B.exec
  have hb := B.bytes
  have hr := B.returns
  have hts : ∀ w ∈ WW, w.before _ s = true := fun w h => atoms_spec (ws := wsX10_hole) B.pre w (List.mem_cons_of_mem _ h)
  have hown : s.vm.findClass RX10 = some m.cls := findClass_of_methodNamed B.named
  have hlocks := B.notSynchronized
  have hS : va_S A s.heap s.heap [] := va_S.rf
  have k_274 := hts _ kk_X10_274
  have k_103 := hts _ kf_X10_103
  have hl := lv_entry ([.ref (ad 500 0), .int x1, .int x2]) (n := 3) (Nat.le_of_ble_eq_true rfl)
  rw [lg_entry_eq]
  generalize (lg_sl ([.ref (ad 500 0), .int x1, .int x2]) ++ List.replicate (3 - (lg_sl ([.ref (ad 500 0), .int x1, .int x2])).length) Slot.unset).toArray = ls at hl ⊢
  have hl : lv_has ls 3 [(0, .ref (ad 500 0)), (1, .int x1), (2, .int x2)] := hl
  unfold X10_hole at hf
  refine lv_aload_n hx hb dX10_hole_0 rfl (lv_at hl 0 rfl) ?_
  refine lv_iload_n hx hb dX10_hole_1 rfl (lv_at hl 1 rfl) ?_
  obtain ⟨r1, hc1, hf⟩ := bd_e hf
  refine x_ci (va_runV (As := [.int x1]) (rest := []) ⟨hx, hb, hml, hown, hts⟩ (t_X10_isFunction l G ad ca A x1 hD  σ r1 hc1) (cwV 1 hts gr_X10_134 rfl rfl rfl h9_X10_isFunction ⟨Nat.le_of_ble_eq_true rfl, Nat.le_of_ble_eq_true rfl⟩) (x_prV zkM hz hK hP (mk_500 h01) rfl rfl) rfl rfl hl.1 rfl (lv_room (Nat.le_of_ble_eq_true rfl)) dX10_hole_2 ⟨Nat.le_of_ble_eq_true rfl, Nat.le_of_ble_eq_true rfl⟩) hS (fun H locs hP hS => ?_)
  refine lv_if_eq (tgt := 34) hx hb dX10_hole_5 rfl (fun hc => ?_) (fun hc => ?_)
  · have hf := b_p hf hc
    refine lv_ldc2 hx hb hown k_274 dX10_hole_34 ?_
    have hf := Option.some.inj hf
    exact x_lret hx hb hr hlocks hK hP hS (congrArg Prod.fst hf) (congrArg Prod.snd hf) dX10_hole_37
  · have hf := b_n hf hc
    refine lv_iload_n hx hb dX10_hole_8 rfl (lv_at hl 2 rfl) ?_
    refine lv_if_lt (tgt := 34) hx hb dX10_hole_9 rfl (fun hc => ?_) (fun hc => ?_)
    · have hf := b_p hf hc
      refine lv_ldc2 hx hb hown k_274 dX10_hole_34 ?_
      have hf := Option.some.inj hf
      exact x_lret hx hb hr hlocks hK hP hS (congrArg Prod.fst hf) (congrArg Prod.snd hf) dX10_hole_37
    · have hf := b_n hf hc
      refine lv_iload_n hx hb dX10_hole_12 rfl (lv_at hl 2 rfl) ?_
      refine lv_iconst (v := (4 : Int32)) hx hb dX10_hole_13 rfl ?_
      refine lv_icmp_ge (tgt := 34) hx hb dX10_hole_14 rfl (fun hc => ?_) (fun hc => ?_)
      · have hf := b_p hf hc
        refine lv_ldc2 hx hb hown k_274 dX10_hole_34 ?_
        have hf := Option.some.inj hf
        exact x_lret hx hb hr hlocks hK hP hS (congrArg Prod.fst hf) (congrArg Prod.snd hf) dX10_hole_37
      · have hf := b_n hf hc
        refine lv_aload_n hx hb dX10_hole_17 rfl (lv_at hl 0 rfl) ?_
        refine lv_iload_n hx hb dX10_hole_18 rfl (lv_at hl 1 rfl) ?_
        obtain ⟨r2, σ2, hc2, hf⟩ := bp_e hf
        refine x_ci (va_runV (As := [.int x1]) (rest := []) ⟨hx, hb, hml, hown, hts⟩ (t_X10_findHole l G ad ca A x1 hD  σ r2 σ2 hc2) (cwV 1 hts gr_X10_271 rfl rfl rfl h9_X10_findHole ⟨Nat.le_of_ble_eq_true rfl, Nat.le_of_ble_eq_true rfl⟩) (x_prV zkM hz hK hP (mk_500 h01) rfl rfl) rfl rfl hl.1 rfl (lv_room (Nat.le_of_ble_eq_true rfl)) dX10_hole_19 ⟨Nat.le_of_ble_eq_true rfl, Nat.le_of_ble_eq_true rfl⟩) hS (fun H locs hP hS => ?_)
        refine lv_if_eq (tgt := 34) hx hb dX10_hole_22 rfl (fun hc => ?_) (fun hc => ?_)
        · have hf := b_p hf hc
          refine lv_ldc2 hx hb hown k_274 dX10_hole_34 ?_
          have hf := Option.some.inj hf
          exact x_lret hx hb hr hlocks hK hP hS (congrArg Prod.fst hf) (congrArg Prod.snd hf) dX10_hole_37
        · have hf := b_n hf hc
          refine lv_aload_n hx hb dX10_hole_25 rfl (lv_at hl 0 rfl) ?_
          refine x_get (k := 500) (n := 0) hx hb hts i_X10 hown hK hP (mk_500 h01) rfl rfl 38 (by decide) rfl k_103 (v := .ref (ad 539 0)) rfl dX10_hole_26 ?_
          refine lv_iload_n hx hb dX10_hole_29 rfl (lv_at hl 2 rfl) ?_
          obtain ⟨g3, hf⟩ := gd_e hf
          refine x_lald (k := 539) (n := 0) hx hb hK hP (mk_539 h01) rfl g3 dX10_hole_30 ?_
          refine lv_goto (tgt := 37) hx hb dX10_hole_31 rfl ?_
          have hf := Option.some.inj hf
          exact x_lret hx hb hr hlocks hK hP hS (congrArg Prod.fst hf) (congrArg Prod.snd hf) dX10_hole_37
theorem h9_X10_areInDoubt : yX10_areInDoubt.cls = RX10 ∧ yX10_areInDoubt.cls ≠ "java/lang/invoke/MethodHandle" ∧ yX10_areInDoubt.cls ≠ "java/lang/invoke/VarHandle" ∧ (parseMethodDescriptor yX10_areInDoubt.desc).map (fun d => d.parameters.length) = some 3 := by decide +kernel
set_option maxRecDepth 100000 in
set_option maxHeartbeats 4000000 in
theorem t_X10_areInDoubt (l : Launch) (G : va_G) (ad : Nat → Nat → Nat) (ca : Nat → ClassId) (A : Nat → Prop)   (x1 : Int32) (x2 : Int32) (x3 : Int32) (hD : DW ad LM A)  (σ : PS) (res : Int32) (hf : X10_areInDoubt  x1 x2 x3 σ = some res) : Met l yX10_areInDoubt wsX10_areInDoubt ({ frames := 4, cells := 0, slots := 0, locals := 97 }) (ctP G ad ca LM σ ZM [.ref (ad 500 0), .int x1, .int x2, .int x3]) (va_Qi (fun r' u => r' = res ∧ u = σ) (ctB G ad ca LM) A) 0 0 A := by
  refine Met.ofW (cc := cX10_areInDoubt) (maxL := 6) (ret := (some .boolean)) (by decide) rfl ?_
  intro p e s m args below meth c s₁ B hml hv
  obtain ⟨rfl, hP, hK, hz⟩ := hv
  have hx := B.exec
  have hb := B.bytes
  have hr := B.returns
  have hts : ∀ w ∈ WW, w.before _ s = true := fun w h => atoms_spec (ws := wsX10_areInDoubt) B.pre w (List.mem_cons_of_mem _ h)
  have hown : s.vm.findClass RX10 = some m.cls := findClass_of_methodNamed B.named
  have hlocks := B.notSynchronized
  have hS : va_S A s.heap s.heap [] := va_S.rf
  have k_131 := hts _ kf_X10_131
  have hl := lv_entry ([.ref (ad 500 0), .int x1, .int x2, .int x3]) (n := 6) (Nat.le_of_ble_eq_true rfl)
  rw [lg_entry_eq]
  generalize (lg_sl ([.ref (ad 500 0), .int x1, .int x2, .int x3]) ++ List.replicate (6 - (lg_sl ([.ref (ad 500 0), .int x1, .int x2, .int x3])).length) Slot.unset).toArray = ls at hl ⊢
  have hl : lv_has ls 6 [(0, .ref (ad 500 0)), (1, .int x1), (2, .int x2), (3, .int x3)] := hl
  unfold X10_areInDoubt at hf
  have l24 : ∀ (kx24 : Int32 → Option (Int32)), (∀ (v4 : Int32) (H : Heap) (locs : List Loc) (ls : Array Slot), kx24 v4 = some res → lv_has ls 6 [(4, .int v4)] → va_P G vwCl (wld ad ca σ LM) H → va_S A s.heap H locs → W p l e (headSpec wsX10_areInDoubt ({ frames := 4, cells := 0, slots := 0, locals := 97 })).room s m (([.ref (ad 500 0), .int x1, .int x2, .int x3] : List Value).toArray) below meth c H locs 0 0 (MQ below (va_Qi (fun r' u => r' = res ∧ u = σ) (ctB G ad ca LM) A) (([.ref (ad 500 0), .int x1, .int x2, .int x3] : List Value).toArray) s 0 0 A) (F0 m 82 ls [])) → ∀ (n24 : Nat) (v1 : Int32) (v2 : Int32) (v3 : Int32) (v4 : Int32) (v5 : Int32) (H : Heap) (locs : List Loc) (ls : Array Slot), X10_areInDoubt_l24 σ kx24 n24 v1 v2 v3 v4 v5 = some res → lv_has ls 6 [(0, .ref (ad 500 0)), (1, .int v1), (2, .int v2), (3, .int v3), (4, .int v4), (5, .int v5)] → va_P G vwCl (wld ad ca σ LM) H → va_S A s.heap H locs → W p l e (headSpec wsX10_areInDoubt ({ frames := 4, cells := 0, slots := 0, locals := 97 })).room s m (([.ref (ad 500 0), .int x1, .int x2, .int x3] : List Value).toArray) below meth c H locs 0 0 (MQ below (va_Qi (fun r' u => r' = res ∧ u = σ) (ctB G ad ca LM) A) (([.ref (ad 500 0), .int x1, .int x2, .int x3] : List Value).toArray) s 0 0 A) (F0 m 24 ls []) := by
    intro kx24 hx24 n24
    induction n24 with
    | zero =>
      intro v1 v2 v3 v4 v5 H locs ls hf
      exact absurd hf (by simp [X10_areInDoubt_l24])
    | succ n24 ih24 =>
      intro v1 v2 v3 v4 v5 H locs ls hf hl hP hS
      rw [X10_areInDoubt_l24.eq_2] at hf
      refine lv_iload hx hb dX10_areInDoubt_24 (lv_at hl 5 rfl) ?_
      refine lv_aload_n hx hb dX10_areInDoubt_26 rfl (lv_at hl 0 rfl) ?_
      refine x_get (k := 500) (n := 0) hx hb hts i_X10 hown hK hP (mk_500 h01) rfl rfl 14 (by decide) rfl k_131 (v := .int (gI σ 500 0 14)) rfl dX10_areInDoubt_27 ?_
      refine lv_icmp_ge (tgt := 82) hx hb dX10_areInDoubt_30 rfl (fun hc => ?_) (fun hc => ?_)
      · have hf := b_p hf hc
        exact hx24 v4 _ _ _  hf (lv_sub hl [4] rfl) hP hS
      · have hf := b_n hf hc
        refine lv_iload hx hb dX10_areInDoubt_33 (lv_at hl 4 rfl) ?_
        refine lv_if_eq (tgt := 73) hx hb dX10_areInDoubt_35 rfl (fun hc => ?_) (fun hc => ?_)
        · have hf := b_p hf hc
          refine lv_iconst (v := (0 : Int32)) hx hb dX10_areInDoubt_73 rfl ?_
          refine lv_istore (lv' := [(4, .int (0 : Int32)), (0, .ref (ad 500 0)), (1, .int v1), (2, .int v2), (3, .int v3), (5, .int v5)]) hx hb dX10_areInDoubt_74 hl (by decide) rfl (fun ls hl => ?_)
          refine lv_iinc (v := (v5 + (1 : Int32))) (lv' := [(5, .int (v5 + (1 : Int32))), (4, .int (0 : Int32)), (0, .ref (ad 500 0)), (1, .int v1), (2, .int v2), (3, .int v3)]) hx hb dX10_areInDoubt_76 hl (k := 5) rfl rfl (by decide) rfl (fun ls hl => ?_)
          refine lv_goto (tgt := 24) hx hb dX10_areInDoubt_79 rfl ?_
          exact ih24 v1 v2 v3 (0 : Int32) (v5 + (1 : Int32)) _ _ _  hf (lv_sub hl [2, 3, 4, 5, 1, 0] rfl) hP hS
        · have hf := b_n hf hc
          refine lv_aload_n hx hb dX10_areInDoubt_38 rfl (lv_at hl 0 rfl) ?_
          refine lv_iload hx hb dX10_areInDoubt_39 (lv_at hl 5 rfl) ?_
          refine lv_iload_n hx hb dX10_areInDoubt_41 rfl (lv_at hl 1 rfl) ?_
          refine lv_iconst (v := (-1 : Int32)) hx hb dX10_areInDoubt_42 rfl ?_
          obtain ⟨r3, hc3, hf⟩ := bd_e hf
          refine x_ci (va_runV (As := [.int v5, .int v1, .int (-1 : Int32)]) (rest := []) ⟨hx, hb, hml, hown, hts⟩ (t_X10_isOffered l G ad ca A v5 v1 (-1 : Int32) hD  σ r3 hc3) (cwV 3 hts gr_X10_171 rfl rfl rfl h9_X10_isOffered ⟨Nat.le_of_ble_eq_true rfl, Nat.le_of_ble_eq_true rfl⟩) (x_prV zkM hz hK hP (mk_500 h01) rfl rfl) rfl rfl hl.1 rfl (lv_room (Nat.le_of_ble_eq_true rfl)) dX10_areInDoubt_43 ⟨Nat.le_of_ble_eq_true rfl, Nat.le_of_ble_eq_true rfl⟩) hS (fun H locs hP hS => ?_)
          refine lv_if_eq (tgt := 69) hx hb dX10_areInDoubt_46 rfl (fun hc => ?_) (fun hc => ?_)
          · have hf := b_p hf hc
            refine lv_iconst (v := (1 : Int32)) hx hb dX10_areInDoubt_69 rfl ?_
            refine lv_goto (tgt := 74) hx hb dX10_areInDoubt_70 rfl ?_
            refine lv_istore (lv' := [(4, .int (1 : Int32)), (0, .ref (ad 500 0)), (1, .int v1), (2, .int v2), (3, .int v3), (5, .int v5)]) hx hb dX10_areInDoubt_74 hl (by decide) rfl (fun ls hl => ?_)
            refine lv_iinc (v := (v5 + (1 : Int32))) (lv' := [(5, .int (v5 + (1 : Int32))), (4, .int (1 : Int32)), (0, .ref (ad 500 0)), (1, .int v1), (2, .int v2), (3, .int v3)]) hx hb dX10_areInDoubt_76 hl (k := 5) rfl rfl (by decide) rfl (fun ls hl => ?_)
            refine lv_goto (tgt := 24) hx hb dX10_areInDoubt_79 rfl ?_
            exact ih24 v1 v2 v3 (1 : Int32) (v5 + (1 : Int32)) _ _ _  hf (lv_sub hl [2, 3, 4, 5, 1, 0] rfl) hP hS
          · have hf := b_n hf hc
            refine lv_aload_n hx hb dX10_areInDoubt_49 rfl (lv_at hl 0 rfl) ?_
            refine lv_iload hx hb dX10_areInDoubt_50 (lv_at hl 5 rfl) ?_
            refine lv_iload_n hx hb dX10_areInDoubt_52 rfl (lv_at hl 2 rfl) ?_
            obtain ⟨r4, hc4, hf⟩ := bd_e hf
            refine x_ci (va_runV (As := [.int v5, .int v2]) (rest := []) ⟨hx, hb, hml, hown, hts⟩ (t_X10_isMore l G ad ca A v5 v2 hD  σ r4 hc4) (cwV 2 hts gr_X10_159 rfl rfl rfl h9_X10_isMore ⟨Nat.le_of_ble_eq_true rfl, Nat.le_of_ble_eq_true rfl⟩) (x_prV zkM hz hK hP (mk_500 h01) rfl rfl) rfl rfl hl.1 rfl (lv_room (Nat.le_of_ble_eq_true rfl)) dX10_areInDoubt_53 ⟨Nat.le_of_ble_eq_true rfl, Nat.le_of_ble_eq_true rfl⟩) hS (fun H locs hP hS => ?_)
            refine lv_if_eq (tgt := 69) hx hb dX10_areInDoubt_56 rfl (fun hc => ?_) (fun hc => ?_)
            · have hf := b_p hf hc
              refine lv_iconst (v := (1 : Int32)) hx hb dX10_areInDoubt_69 rfl ?_
              refine lv_goto (tgt := 74) hx hb dX10_areInDoubt_70 rfl ?_
              refine lv_istore (lv' := [(4, .int (1 : Int32)), (0, .ref (ad 500 0)), (1, .int v1), (2, .int v2), (3, .int v3), (5, .int v5)]) hx hb dX10_areInDoubt_74 hl (by decide) rfl (fun ls hl => ?_)
              refine lv_iinc (v := (v5 + (1 : Int32))) (lv' := [(5, .int (v5 + (1 : Int32))), (4, .int (1 : Int32)), (0, .ref (ad 500 0)), (1, .int v1), (2, .int v2), (3, .int v3)]) hx hb dX10_areInDoubt_76 hl (k := 5) rfl rfl (by decide) rfl (fun ls hl => ?_)
              refine lv_goto (tgt := 24) hx hb dX10_areInDoubt_79 rfl ?_
              exact ih24 v1 v2 v3 (1 : Int32) (v5 + (1 : Int32)) _ _ _  hf (lv_sub hl [2, 3, 4, 5, 1, 0] rfl) hP hS
            · have hf := b_n hf hc
              refine lv_aload_n hx hb dX10_areInDoubt_59 rfl (lv_at hl 0 rfl) ?_
              refine lv_iload hx hb dX10_areInDoubt_60 (lv_at hl 5 rfl) ?_
              refine lv_iload_n hx hb dX10_areInDoubt_62 rfl (lv_at hl 3 rfl) ?_
              obtain ⟨r5, hc5, hf⟩ := bd_e hf
              refine x_ci (va_runV (As := [.int v5, .int v3]) (rest := []) ⟨hx, hb, hml, hown, hts⟩ (t_X10_isMore l G ad ca A v5 v3 hD  σ r5 hc5) (cwV 2 hts gr_X10_159 rfl rfl rfl h9_X10_isMore ⟨Nat.le_of_ble_eq_true rfl, Nat.le_of_ble_eq_true rfl⟩) (x_prV zkM hz hK hP (mk_500 h01) rfl rfl) rfl rfl hl.1 rfl (lv_room (Nat.le_of_ble_eq_true rfl)) dX10_areInDoubt_63 ⟨Nat.le_of_ble_eq_true rfl, Nat.le_of_ble_eq_true rfl⟩) hS (fun H locs hP hS => ?_)
              refine lv_if_ne (tgt := 73) hx hb dX10_areInDoubt_66 rfl (fun hc => ?_) (fun hc => ?_)
              · have hf := b_n hf hc
                refine lv_iconst (v := (0 : Int32)) hx hb dX10_areInDoubt_73 rfl ?_
                refine lv_istore (lv' := [(4, .int (0 : Int32)), (0, .ref (ad 500 0)), (1, .int v1), (2, .int v2), (3, .int v3), (5, .int v5)]) hx hb dX10_areInDoubt_74 hl (by decide) rfl (fun ls hl => ?_)
                refine lv_iinc (v := (v5 + (1 : Int32))) (lv' := [(5, .int (v5 + (1 : Int32))), (4, .int (0 : Int32)), (0, .ref (ad 500 0)), (1, .int v1), (2, .int v2), (3, .int v3)]) hx hb dX10_areInDoubt_76 hl (k := 5) rfl rfl (by decide) rfl (fun ls hl => ?_)
                refine lv_goto (tgt := 24) hx hb dX10_areInDoubt_79 rfl ?_
                exact ih24 v1 v2 v3 (0 : Int32) (v5 + (1 : Int32)) _ _ _  hf (lv_sub hl [2, 3, 4, 5, 1, 0] rfl) hP hS
              · have hf := b_p hf hc
                refine lv_iconst (v := (1 : Int32)) hx hb dX10_areInDoubt_69 rfl ?_
                refine lv_goto (tgt := 74) hx hb dX10_areInDoubt_70 rfl ?_
                refine lv_istore (lv' := [(4, .int (1 : Int32)), (0, .ref (ad 500 0)), (1, .int v1), (2, .int v2), (3, .int v3), (5, .int v5)]) hx hb dX10_areInDoubt_74 hl (by decide) rfl (fun ls hl => ?_)
                refine lv_iinc (v := (v5 + (1 : Int32))) (lv' := [(5, .int (v5 + (1 : Int32))), (4, .int (1 : Int32)), (0, .ref (ad 500 0)), (1, .int v1), (2, .int v2), (3, .int v3)]) hx hb dX10_areInDoubt_76 hl (k := 5) rfl rfl (by decide) rfl (fun ls hl => ?_)
                refine lv_goto (tgt := 24) hx hb dX10_areInDoubt_79 rfl ?_
                exact ih24 v1 v2 v3 (1 : Int32) (v5 + (1 : Int32)) _ _ _  hf (lv_sub hl [2, 3, 4, 5, 1, 0] rfl) hP hS
  have c82 : ∀ (v4 : Int32) (H : Heap) (locs : List Loc) (ls : Array Slot), X10_areInDoubt_c82 σ v4 = some res → lv_has ls 6 [(4, .int v4)] → va_P G vwCl (wld ad ca σ LM) H → va_S A s.heap H locs → W p l e (headSpec wsX10_areInDoubt ({ frames := 4, cells := 0, slots := 0, locals := 97 })).room s m (([.ref (ad 500 0), .int x1, .int x2, .int x3] : List Value).toArray) below meth c H locs 0 0 (MQ below (va_Qi (fun r' u => r' = res ∧ u = σ) (ctB G ad ca LM) A) (([.ref (ad 500 0), .int x1, .int x2, .int x3] : List Value).toArray) s 0 0 A) (F0 m 82 ls []) := by
    intro v4 H locs ls hf hl hP hS
    unfold X10_areInDoubt_c82 at hf
    refine lv_iload hx hb dX10_areInDoubt_82 (lv_at hl 0 rfl) ?_
    obtain ⟨g6, hf⟩ := gd_e hf
    exact x_zret hx hb hr hlocks hK hP hS g6 (Option.some.inj hf) rfl dX10_areInDoubt_84
  refine lv_aload_n hx hb dX10_areInDoubt_0 rfl (lv_at hl 0 rfl) ?_
  refine lv_iload_n hx hb dX10_areInDoubt_1 rfl (lv_at hl 2 rfl) ?_
  obtain ⟨r1, hc1, hf⟩ := bd_e hf
  refine x_ci (va_runV (As := [.int x2]) (rest := []) ⟨hx, hb, hml, hown, hts⟩ (t_X10_takes l G ad ca A x2 hD  σ r1 hc1) (cwV 1 hts gr_X10_168 rfl rfl rfl h9_X10_takes ⟨Nat.le_of_ble_eq_true rfl, Nat.le_of_ble_eq_true rfl⟩) (x_prV zkM hz hK hP (mk_500 h01) rfl rfl) rfl rfl hl.1 rfl (lv_room (Nat.le_of_ble_eq_true rfl)) dX10_areInDoubt_2 ⟨Nat.le_of_ble_eq_true rfl, Nat.le_of_ble_eq_true rfl⟩) hS (fun H locs hP hS => ?_)
  refine lv_if_eq (tgt := 16) hx hb dX10_areInDoubt_5 rfl (fun hc => ?_) (fun hc => ?_)
  · have hf := b_p hf hc
    refine lv_iconst (v := (0 : Int32)) hx hb dX10_areInDoubt_16 rfl ?_
    exact x_zret hx hb hr hlocks hK hP hS (by decide) (Option.some.inj hf) rfl dX10_areInDoubt_17
  · have hf := b_n hf hc
    refine lv_aload_n hx hb dX10_areInDoubt_8 rfl (lv_at hl 0 rfl) ?_
    refine lv_iload_n hx hb dX10_areInDoubt_9 rfl (lv_at hl 3 rfl) ?_
    obtain ⟨r2, hc2, hf⟩ := bd_e hf
    refine x_ci (va_runV (As := [.int x3]) (rest := []) ⟨hx, hb, hml, hown, hts⟩ (t_X10_takes l G ad ca A x3 hD  σ r2 hc2) (cwV 1 hts gr_X10_168 rfl rfl rfl h9_X10_takes ⟨Nat.le_of_ble_eq_true rfl, Nat.le_of_ble_eq_true rfl⟩) (x_prV zkM hz hK hP (mk_500 h01) rfl rfl) rfl rfl hl.1 rfl (lv_room (Nat.le_of_ble_eq_true rfl)) dX10_areInDoubt_10 ⟨Nat.le_of_ble_eq_true rfl, Nat.le_of_ble_eq_true rfl⟩) hS (fun H locs hP hS => ?_)
    refine lv_if_ne (tgt := 18) hx hb dX10_areInDoubt_13 rfl (fun hc => ?_) (fun hc => ?_)
    · have hf := b_n hf hc
      refine lv_iconst (v := (1 : Int32)) hx hb dX10_areInDoubt_18 rfl ?_
      refine lv_istore (lv' := [(4, .int (1 : Int32)), (0, .ref (ad 500 0)), (1, .int x1), (2, .int x2), (3, .int x3)]) hx hb dX10_areInDoubt_19 hl (by decide) rfl (fun ls hl => ?_)
      refine lv_iconst (v := (0 : Int32)) hx hb dX10_areInDoubt_21 rfl ?_
      refine lv_istore (lv' := [(5, .int (0 : Int32)), (4, .int (1 : Int32)), (0, .ref (ad 500 0)), (1, .int x1), (2, .int x2), (3, .int x3)]) hx hb dX10_areInDoubt_22 hl (by decide) rfl (fun ls hl => ?_)
      exact l24 _ c82 _ x1 x2 x3 (1 : Int32) (0 : Int32) _ _ _  hf (lv_sub hl [2, 3, 4, 5, 1, 0] rfl) hP hS
    · have hf := b_p hf hc
      refine lv_iconst (v := (0 : Int32)) hx hb dX10_areInDoubt_16 rfl ?_
      exact x_zret hx hb hr hlocks hK hP hS (by decide) (Option.some.inj hf) rfl dX10_areInDoubt_17
theorem h9_X10_findDoubt : yX10_findDoubt.cls = RX10 ∧ yX10_findDoubt.cls ≠ "java/lang/invoke/MethodHandle" ∧ yX10_findDoubt.cls ≠ "java/lang/invoke/VarHandle" ∧ (parseMethodDescriptor yX10_findDoubt.desc).map (fun d => d.parameters.length) = some 3 := by decide +kernel
set_option maxRecDepth 100000 in
set_option maxHeartbeats 4000000 in
theorem t_X10_findDoubt (l : Launch) (G : va_G) (ad : Nat → Nat → Nat) (ca : Nat → ClassId) (A : Nat → Prop)   (x1 : Int32) (x2 : Int32) (x3 : Int32) (hD : DW ad LM A)  (σ : PS) (res : Int32) (σz : PS) (hf : X10_findDoubt  x1 x2 x3 σ = some (res, σz)) : Met l yX10_findDoubt wsX10_findDoubt ({ frames := 5, cells := 0, slots := 0, locals := 122 }) (ctP G ad ca LM σ ZM [.ref (ad 500 0), .int x1, .int x2, .int x3]) (va_Qi (fun r' u => r' = res ∧ u = σz) (ctB G ad ca LM) A) 0 0 A := by
  refine Met.ofW (cc := cX10_findDoubt) (maxL := 7) (ret := (some .boolean)) (by decide) rfl ?_
  intro p e s m args below meth c s₁ B hml hv
  obtain ⟨rfl, hP, hK, hz⟩ := hv
  have hx := B.exec
  have hb := B.bytes
  have hr := B.returns
  have hts : ∀ w ∈ WW, w.before _ s = true := fun w h => atoms_spec (ws := wsX10_findDoubt) B.pre w (List.mem_cons_of_mem _ h)
  have hown : s.vm.findClass RX10 = some m.cls := findClass_of_methodNamed B.named
  have hlocks := B.notSynchronized
  have hS : va_S A s.heap s.heap [] := va_S.rf
  have hl := lv_entry ([.ref (ad 500 0), .int x1, .int x2, .int x3]) (n := 7) (Nat.le_of_ble_eq_true rfl)
  rw [lg_entry_eq]
  generalize (lg_sl ([.ref (ad 500 0), .int x1, .int x2, .int x3]) ++ List.replicate (7 - (lg_sl ([.ref (ad 500 0), .int x1, .int x2, .int x3])).length) Slot.unset).toArray = ls at hl ⊢
  have hl : lv_has ls 7 [(0, .ref (ad 500 0)), (1, .int x1), (2, .int x2), (3, .int x3)] := hl
  unfold X10_findDoubt at hf
  have l30 : ∀ (kx30 : Int32 → Int32 → PS → Option (Int32 × PS)), (∀ (v1 : Int32) (v4 : Int32) (σ : PS) (H : Heap) (locs : List Loc) (ls : Array Slot), kx30 v1 v4 σ = some (res, σz) → lv_has ls 7 [(0, .ref (ad 500 0)), (1, .int v1), (4, .int v4)] → va_P G vwCl (wld ad ca σ LM) H → va_S A s.heap H locs → W p l e (headSpec wsX10_findDoubt ({ frames := 5, cells := 0, slots := 0, locals := 122 })).room s m (([.ref (ad 500 0), .int x1, .int x2, .int x3] : List Value).toArray) below meth c H locs 0 0 (MQ below (va_Qi (fun r' u => r' = res ∧ u = σz) (ctB G ad ca LM) A) (([.ref (ad 500 0), .int x1, .int x2, .int x3] : List Value).toArray) s 0 0 A) (F0 m 116 ls [])) → ∀ (n30 : Nat) (v1 : Int32) (v2 : Int32) (v3 : Int32) (v4 : Int32) (v5 : Int32) (σ : PS) (H : Heap) (locs : List Loc) (ls : Array Slot), X10_findDoubt_l30  kx30 n30 v1 v2 v3 v4 v5 σ = some (res, σz) → lv_has ls 7 [(0, .ref (ad 500 0)), (1, .int v1), (2, .int v2), (3, .int v3), (4, .int v4), (5, .int v5)] → va_P G vwCl (wld ad ca σ LM) H → va_S A s.heap H locs → W p l e (headSpec wsX10_findDoubt ({ frames := 5, cells := 0, slots := 0, locals := 122 })).room s m (([.ref (ad 500 0), .int x1, .int x2, .int x3] : List Value).toArray) below meth c H locs 0 0 (MQ below (va_Qi (fun r' u => r' = res ∧ u = σz) (ctB G ad ca LM) A) (([.ref (ad 500 0), .int x1, .int x2, .int x3] : List Value).toArray) s 0 0 A) (F0 m 30 ls []) := by
    intro kx30 hx30 n30
    induction n30 with
    | zero =>
      intro v1 v2 v3 v4 v5 σ H locs ls hf
      exact absurd hf (by simp [X10_findDoubt_l30])
    | succ n30 ih30 =>
      intro v1 v2 v3 v4 v5 σ H locs ls hf hl hP hS
      rw [X10_findDoubt_l30.eq_2] at hf
      have c85 : ∀ (v1 : Int32) (v2 : Int32) (v3 : Int32) (v4 : Int32) (v6 : Int32) (w0 : Int32) (σ : PS) (H : Heap) (locs : List Loc) (ls : Array Slot), X10_findDoubt_c85  (X10_findDoubt_l30  kx30 n30) kx30 v1 v2 v3 v4 v6 w0 σ = some (res, σz) → lv_has ls 7 [(0, .ref (ad 500 0)), (1, .int v1), (2, .int v2), (3, .int v3), (4, .int v4), (6, .int v6)] → va_P G vwCl (wld ad ca σ LM) H → va_S A s.heap H locs → W p l e (headSpec wsX10_findDoubt ({ frames := 5, cells := 0, slots := 0, locals := 122 })).room s m (([.ref (ad 500 0), .int x1, .int x2, .int x3] : List Value).toArray) below meth c H locs 0 0 (MQ below (va_Qi (fun r' u => r' = res ∧ u = σz) (ctB G ad ca LM) A) (([.ref (ad 500 0), .int x1, .int x2, .int x3] : List Value).toArray) s 0 0 A) (F0 m 85 ls [.int w0]) := by
        intro v1 v2 v3 v4 v6 w0 σ H locs ls hf hl hP hS
        unfold X10_findDoubt_c85 at hf
        refine lv_istore (lv' := [(5, .int w0), (0, .ref (ad 500 0)), (1, .int v1), (2, .int v2), (3, .int v3), (4, .int v4), (6, .int v6)]) hx hb dX10_findDoubt_85 hl (by decide) rfl (fun ls hl => ?_)
        refine lv_iload hx hb dX10_findDoubt_87 (lv_at hl 0 rfl) ?_
        refine lv_if_ne (tgt := 113) hx hb dX10_findDoubt_89 rfl (fun hc => ?_) (fun hc => ?_)
        · have hf := b_n hf hc
          refine lv_goto (tgt := 30) hx hb dX10_findDoubt_113 rfl ?_
          exact ih30 v1 v2 v3 v4 w0 σ _ _ _  hf (lv_sub hl [1, 2, 3, 4, 5, 0] rfl) hP hS
        · have hf := b_p hf hc
          refine lv_iload hx hb dX10_findDoubt_92 (lv_at hl 6 rfl) ?_
          refine lv_if_eq (tgt := 105) hx hb dX10_findDoubt_94 rfl (fun hc => ?_) (fun hc => ?_)
          · have hf := b_p hf hc
            refine lv_aload_n hx hb dX10_findDoubt_105 rfl (lv_at hl 1 rfl) ?_
            refine lv_iload_n hx hb dX10_findDoubt_106 rfl (lv_at hl 2 rfl) ?_
            refine lv_iconst (v := (0 : Int32)) hx hb dX10_findDoubt_107 rfl ?_
            obtain ⟨r5, σ5, hc5, hf⟩ := bp_e hf
            refine x_ci (va_runV (As := [.int v1, .int (0 : Int32)]) (rest := []) ⟨hx, hb, hml, hown, hts⟩ (t_X10_nextAt l G ad ca A v1 (0 : Int32) hD  σ r5 σ5 hc5) (cwV 2 hts gr_X10_259 rfl rfl rfl h9_X10_nextAt ⟨Nat.le_of_ble_eq_true rfl, Nat.le_of_ble_eq_true rfl⟩) (x_prV zkM hz hK hP (mk_500 h01) rfl rfl) rfl rfl hl.1 rfl (lv_room (Nat.le_of_ble_eq_true rfl)) dX10_findDoubt_108 ⟨Nat.le_of_ble_eq_true rfl, Nat.le_of_ble_eq_true rfl⟩) hS (fun H locs hP hS => ?_)
            refine lv_istore (lv' := [(4, .int r5), (5, .int w0), (0, .ref (ad 500 0)), (1, .int v1), (2, .int v2), (3, .int v3), (6, .int v6)]) hx hb dX10_findDoubt_111 hl (by decide) rfl (fun ls hl => ?_)
            refine lv_goto (tgt := 30) hx hb dX10_findDoubt_113 rfl ?_
            exact ih30 v1 v2 v3 r5 w0 σ5 _ _ _  hf (lv_sub hl [2, 3, 4, 5, 0, 1] rfl) hP hS
          · have hf := b_n hf hc
            refine lv_aload_n hx hb dX10_findDoubt_97 rfl (lv_at hl 1 rfl) ?_
            refine lv_iload_n hx hb dX10_findDoubt_98 rfl (lv_at hl 2 rfl) ?_
            obtain ⟨r6, σ6, hc6, hf⟩ := bp_e hf
            refine x_ci (va_runV (As := [.int v1]) (rest := []) ⟨hx, hb, hml, hown, hts⟩ (t_X10_nextTuple l G ad ca A v1 hD  σ r6 σ6 hc6) (cwV 1 hts gr_X10_265 rfl rfl rfl h9_X10_nextTuple ⟨Nat.le_of_ble_eq_true rfl, Nat.le_of_ble_eq_true rfl⟩) (x_prV zkM hz hK hP (mk_500 h01) rfl rfl) rfl rfl hl.1 rfl (lv_room (Nat.le_of_ble_eq_true rfl)) dX10_findDoubt_99 ⟨Nat.le_of_ble_eq_true rfl, Nat.le_of_ble_eq_true rfl⟩) hS (fun H locs hP hS => ?_)
            refine lv_goto (tgt := 111) hx hb dX10_findDoubt_102 rfl ?_
            refine lv_istore (lv' := [(4, .int r6), (5, .int w0), (0, .ref (ad 500 0)), (1, .int v1), (2, .int v2), (3, .int v3), (6, .int v6)]) hx hb dX10_findDoubt_111 hl (by decide) rfl (fun ls hl => ?_)
            refine lv_goto (tgt := 30) hx hb dX10_findDoubt_113 rfl ?_
            exact ih30 v1 v2 v3 r6 w0 σ6 _ _ _  hf (lv_sub hl [2, 3, 4, 5, 0, 1] rfl) hP hS
      have c84 : ∀ (v1 : Int32) (v2 : Int32) (v3 : Int32) (v4 : Int32) (v6 : Int32) (σ : PS) (H : Heap) (locs : List Loc) (ls : Array Slot), X10_findDoubt_c84  (X10_findDoubt_l30  kx30 n30) kx30 v1 v2 v3 v4 v6 σ = some (res, σz) → lv_has ls 7 [(0, .ref (ad 500 0)), (1, .int v1), (2, .int v2), (3, .int v3), (4, .int v4), (6, .int v6)] → va_P G vwCl (wld ad ca σ LM) H → va_S A s.heap H locs → W p l e (headSpec wsX10_findDoubt ({ frames := 5, cells := 0, slots := 0, locals := 122 })).room s m (([.ref (ad 500 0), .int x1, .int x2, .int x3] : List Value).toArray) below meth c H locs 0 0 (MQ below (va_Qi (fun r' u => r' = res ∧ u = σz) (ctB G ad ca LM) A) (([.ref (ad 500 0), .int x1, .int x2, .int x3] : List Value).toArray) s 0 0 A) (F0 m 84 ls []) := by
        intro v1 v2 v3 v4 v6 σ H locs ls hf hl hP hS
        unfold X10_findDoubt_c84 at hf
        refine lv_iconst (v := (0 : Int32)) hx hb dX10_findDoubt_84 rfl ?_
        exact c85 v1 v2 v3 v4 v6 (0 : Int32) σ _ _ _  hf (lv_sub hl [0, 1, 2, 3, 4, 5] rfl) hP hS
      have c63 : ∀ (v1 : Int32) (v2 : Int32) (v3 : Int32) (v4 : Int32) (w0 : Int32) (σ : PS) (H : Heap) (locs : List Loc) (ls : Array Slot), X10_findDoubt_c63  (X10_findDoubt_l30  kx30 n30) kx30 v1 v2 v3 v4 w0 σ = some (res, σz) → lv_has ls 7 [(0, .ref (ad 500 0)), (1, .int v1), (2, .int v2), (3, .int v3), (4, .int v4)] → va_P G vwCl (wld ad ca σ LM) H → va_S A s.heap H locs → W p l e (headSpec wsX10_findDoubt ({ frames := 5, cells := 0, slots := 0, locals := 122 })).room s m (([.ref (ad 500 0), .int x1, .int x2, .int x3] : List Value).toArray) below meth c H locs 0 0 (MQ below (va_Qi (fun r' u => r' = res ∧ u = σz) (ctB G ad ca LM) A) (([.ref (ad 500 0), .int x1, .int x2, .int x3] : List Value).toArray) s 0 0 A) (F0 m 63 ls [.int w0]) := by
        intro v1 v2 v3 v4 w0 σ H locs ls hf hl hP hS
        unfold X10_findDoubt_c63 at hf
        refine lv_istore (lv' := [(6, .int w0), (0, .ref (ad 500 0)), (1, .int v1), (2, .int v2), (3, .int v3), (4, .int v4)]) hx hb dX10_findDoubt_63 hl (by decide) rfl (fun ls hl => ?_)
        refine lv_iload hx hb dX10_findDoubt_65 (lv_at hl 0 rfl) ?_
        refine lv_if_eq (tgt := 84) hx hb dX10_findDoubt_67 rfl (fun hc => ?_) (fun hc => ?_)
        · have hf := b_p hf hc
          exact c84 v1 v2 v3 v4 w0 σ _ _ _  hf (lv_sub hl [1, 2, 3, 4, 5, 0] rfl) hP hS
        · have hf := b_n hf hc
          refine lv_aload_n hx hb dX10_findDoubt_70 rfl (lv_at hl 1 rfl) ?_
          refine lv_iload_n hx hb dX10_findDoubt_71 rfl (lv_at hl 2 rfl) ?_
          refine lv_iload_n hx hb dX10_findDoubt_72 rfl (lv_at hl 3 rfl) ?_
          refine lv_iload_n hx hb dX10_findDoubt_73 rfl (lv_at hl 4 rfl) ?_
          obtain ⟨r7, hc7, hf⟩ := bd_e hf
          refine x_ci (va_runV (As := [.int v1, .int v2, .int v3]) (rest := []) ⟨hx, hb, hml, hown, hts⟩ (t_X10_areInDoubt l G ad ca A v1 v2 v3 hD  σ r7 hc7) (cwV 3 hts gr_X10_276 rfl rfl rfl h9_X10_areInDoubt ⟨Nat.le_of_ble_eq_true rfl, Nat.le_of_ble_eq_true rfl⟩) (x_prV zkM hz hK hP (mk_500 h01) rfl rfl) rfl rfl hl.1 rfl (lv_room (Nat.le_of_ble_eq_true rfl)) dX10_findDoubt_74 ⟨Nat.le_of_ble_eq_true rfl, Nat.le_of_ble_eq_true rfl⟩) hS (fun H locs hP hS => ?_)
          refine lv_if_eq (tgt := 84) hx hb dX10_findDoubt_77 rfl (fun hc => ?_) (fun hc => ?_)
          · have hf := b_p hf hc
            exact c84 v1 v2 v3 v4 w0 σ _ _ _  hf (lv_sub hl [1, 2, 3, 4, 5, 0] rfl) hP hS
          · have hf := b_n hf hc
            refine lv_iconst (v := (1 : Int32)) hx hb dX10_findDoubt_80 rfl ?_
            refine lv_goto (tgt := 85) hx hb dX10_findDoubt_81 rfl ?_
            exact c85 v1 v2 v3 v4 w0 (1 : Int32) σ _ _ _  hf (lv_sub hl [1, 2, 3, 4, 5, 0] rfl) hP hS
      have c62 : ∀ (v1 : Int32) (v2 : Int32) (v3 : Int32) (v4 : Int32) (σ : PS) (H : Heap) (locs : List Loc) (ls : Array Slot), X10_findDoubt_c62  (X10_findDoubt_l30  kx30 n30) kx30 v1 v2 v3 v4 σ = some (res, σz) → lv_has ls 7 [(0, .ref (ad 500 0)), (1, .int v1), (2, .int v2), (3, .int v3), (4, .int v4)] → va_P G vwCl (wld ad ca σ LM) H → va_S A s.heap H locs → W p l e (headSpec wsX10_findDoubt ({ frames := 5, cells := 0, slots := 0, locals := 122 })).room s m (([.ref (ad 500 0), .int x1, .int x2, .int x3] : List Value).toArray) below meth c H locs 0 0 (MQ below (va_Qi (fun r' u => r' = res ∧ u = σz) (ctB G ad ca LM) A) (([.ref (ad 500 0), .int x1, .int x2, .int x3] : List Value).toArray) s 0 0 A) (F0 m 62 ls []) := by
        intro v1 v2 v3 v4 σ H locs ls hf hl hP hS
        unfold X10_findDoubt_c62 at hf
        refine lv_iconst (v := (0 : Int32)) hx hb dX10_findDoubt_62 rfl ?_
        exact c63 v1 v2 v3 v4 (0 : Int32) σ _ _ _  hf (lv_sub hl [0, 1, 2, 3, 4] rfl) hP hS
      refine lv_iload hx hb dX10_findDoubt_30 (lv_at hl 4 rfl) ?_
      refine lv_if_eq (tgt := 116) hx hb dX10_findDoubt_32 rfl (fun hc => ?_) (fun hc => ?_)
      · have hf := b_p hf hc
        exact hx30 v1 v4 σ _ _ _  hf (lv_sub hl [0, 1, 4] rfl) hP hS
      · have hf := b_n hf hc
        refine lv_iload hx hb dX10_findDoubt_35 (lv_at hl 5 rfl) ?_
        refine lv_if_ne (tgt := 116) hx hb dX10_findDoubt_37 rfl (fun hc => ?_) (fun hc => ?_)
        · have hf := b_n hf hc
          exact hx30 v1 v4 σ _ _ _  hf (lv_sub hl [0, 1, 4] rfl) hP hS
        · have hf := b_p hf hc
          refine lv_aload_n hx hb dX10_findDoubt_40 rfl (lv_at hl 0 rfl) ?_
          refine lv_iload_n hx hb dX10_findDoubt_41 rfl (lv_at hl 2 rfl) ?_
          refine lv_iconst (v := (0 : Int32)) hx hb dX10_findDoubt_42 rfl ?_
          obtain ⟨r4, hc4, hf⟩ := bd_e hf
          refine x_ci (va_runV (As := [.int v2, .int (0 : Int32)]) (rest := []) ⟨hx, hb, hml, hown, hts⟩ (t_X10_takesAt l G ad ca A v2 (0 : Int32) hD  σ r4 hc4) (cwV 2 hts gr_X10_165 rfl rfl rfl h9_X10_takesAt ⟨Nat.le_of_ble_eq_true rfl, Nat.le_of_ble_eq_true rfl⟩) (x_prV zkM hz hK hP (mk_500 h01) rfl rfl) rfl rfl hl.1 rfl (lv_room (Nat.le_of_ble_eq_true rfl)) dX10_findDoubt_43 ⟨Nat.le_of_ble_eq_true rfl, Nat.le_of_ble_eq_true rfl⟩) hS (fun H locs hP hS => ?_)
          refine lv_if_eq (tgt := 62) hx hb dX10_findDoubt_46 rfl (fun hc => ?_) (fun hc => ?_)
          · have hf := b_p hf hc
            exact c62 v1 v2 v3 v4 σ _ _ _  hf (lv_sub hl [0, 1, 2, 3, 4] rfl) hP hS
          · have hf := b_n hf hc
            refine lv_aload_n hx hb dX10_findDoubt_49 rfl (lv_at hl 0 rfl) ?_
            refine lv_iload_n hx hb dX10_findDoubt_50 rfl (lv_at hl 3 rfl) ?_
            refine lv_iconst (v := (0 : Int32)) hx hb dX10_findDoubt_51 rfl ?_
            obtain ⟨r8, hc8, hf⟩ := bd_e hf
            refine x_ci (va_runV (As := [.int v3, .int (0 : Int32)]) (rest := []) ⟨hx, hb, hml, hown, hts⟩ (t_X10_takesAt l G ad ca A v3 (0 : Int32) hD  σ r8 hc8) (cwV 2 hts gr_X10_165 rfl rfl rfl h9_X10_takesAt ⟨Nat.le_of_ble_eq_true rfl, Nat.le_of_ble_eq_true rfl⟩) (x_prV zkM hz hK hP (mk_500 h01) rfl rfl) rfl rfl hl.1 rfl (lv_room (Nat.le_of_ble_eq_true rfl)) dX10_findDoubt_52 ⟨Nat.le_of_ble_eq_true rfl, Nat.le_of_ble_eq_true rfl⟩) hS (fun H locs hP hS => ?_)
            refine lv_if_eq (tgt := 62) hx hb dX10_findDoubt_55 rfl (fun hc => ?_) (fun hc => ?_)
            · have hf := b_p hf hc
              exact c62 v1 v2 v3 v4 σ _ _ _  hf (lv_sub hl [0, 1, 2, 3, 4] rfl) hP hS
            · have hf := b_n hf hc
              refine lv_iconst (v := (1 : Int32)) hx hb dX10_findDoubt_58 rfl ?_
              refine lv_goto (tgt := 63) hx hb dX10_findDoubt_59 rfl ?_
              exact c63 v1 v2 v3 v4 (1 : Int32) σ _ _ _  hf (lv_sub hl [0, 1, 2, 3, 4] rfl) hP hS
  have c116 : ∀ (v1 : Int32) (v4 : Int32) (σ : PS) (H : Heap) (locs : List Loc) (ls : Array Slot), X10_findDoubt_c116  v1 v4 σ = some (res, σz) → lv_has ls 7 [(0, .ref (ad 500 0)), (1, .int v1), (4, .int v4)] → va_P G vwCl (wld ad ca σ LM) H → va_S A s.heap H locs → W p l e (headSpec wsX10_findDoubt ({ frames := 5, cells := 0, slots := 0, locals := 122 })).room s m (([.ref (ad 500 0), .int x1, .int x2, .int x3] : List Value).toArray) below meth c H locs 0 0 (MQ below (va_Qi (fun r' u => r' = res ∧ u = σz) (ctB G ad ca LM) A) (([.ref (ad 500 0), .int x1, .int x2, .int x3] : List Value).toArray) s 0 0 A) (F0 m 116 ls []) := by
    intro v1 v4 σ H locs ls hf hl hP hS
    unfold X10_findDoubt_c116 at hf
    refine lv_aload_n hx hb dX10_findDoubt_116 rfl (lv_at hl 0 rfl) ?_
    refine lv_iload_n hx hb dX10_findDoubt_117 rfl (lv_at hl 1 rfl) ?_
    obtain ⟨σ9, hc9, hf⟩ := bd_e hf
    refine x_cv (va_runV (As := [.int v1]) (rest := []) ⟨hx, hb, hml, hown, hts⟩ (t_X10_keepTuple l G ad ca A v1 hD  σ σ9 hc9) (cwV 1 hts gr_X10_268 rfl rfl rfl h9_X10_keepTuple ⟨Nat.le_of_ble_eq_true rfl, Nat.le_of_ble_eq_true rfl⟩) (x_prV zkM hz hK hP (mk_500 h01) rfl rfl) rfl rfl hl.1 rfl (lv_room (Nat.le_of_ble_eq_true rfl)) dX10_findDoubt_118 ⟨Nat.le_of_ble_eq_true rfl, Nat.le_of_ble_eq_true rfl⟩) hS (fun H locs hP hS => ?_)
    refine lv_iload hx hb dX10_findDoubt_121 (lv_at hl 2 rfl) ?_
    obtain ⟨g10, hf⟩ := gd_e hf
    have hf := Option.some.inj hf
    exact x_zret hx hb hr hlocks hK hP hS g10 (congrArg Prod.fst hf) (congrArg Prod.snd hf) dX10_findDoubt_123
  refine lv_aload_n hx hb dX10_findDoubt_0 rfl (lv_at hl 0 rfl) ?_
  refine lv_iload_n hx hb dX10_findDoubt_1 rfl (lv_at hl 2 rfl) ?_
  refine lv_iload_n hx hb dX10_findDoubt_2 rfl (lv_at hl 3 rfl) ?_
  obtain ⟨r1, hc1, hf⟩ := bd_e hf
  refine x_ci (va_runV (As := [.int x2, .int x3]) (rest := []) ⟨hx, hb, hml, hown, hts⟩ (t_X10_isMore l G ad ca A x2 x3 hD  σ r1 hc1) (cwV 2 hts gr_X10_159 rfl rfl rfl h9_X10_isMore ⟨Nat.le_of_ble_eq_true rfl, Nat.le_of_ble_eq_true rfl⟩) (x_prV zkM hz hK hP (mk_500 h01) rfl rfl) rfl rfl hl.1 rfl (lv_room (Nat.le_of_ble_eq_true rfl)) dX10_findDoubt_3 ⟨Nat.le_of_ble_eq_true rfl, Nat.le_of_ble_eq_true rfl⟩) hS (fun H locs hP hS => ?_)
  refine lv_if_ne (tgt := 18) hx hb dX10_findDoubt_6 rfl (fun hc => ?_) (fun hc => ?_)
  · have hf := b_n hf hc
    refine lv_iconst (v := (0 : Int32)) hx hb dX10_findDoubt_18 rfl ?_
    have hf := Option.some.inj hf
    exact x_zret hx hb hr hlocks hK hP hS (by decide) (congrArg Prod.fst hf) (congrArg Prod.snd hf) dX10_findDoubt_19
  · have hf := b_p hf hc
    refine lv_aload_n hx hb dX10_findDoubt_9 rfl (lv_at hl 0 rfl) ?_
    refine lv_iload_n hx hb dX10_findDoubt_10 rfl (lv_at hl 3 rfl) ?_
    refine lv_iload_n hx hb dX10_findDoubt_11 rfl (lv_at hl 2 rfl) ?_
    obtain ⟨r2, hc2, hf⟩ := bd_e hf
    refine x_ci (va_runV (As := [.int x3, .int x2]) (rest := []) ⟨hx, hb, hml, hown, hts⟩ (t_X10_isMore l G ad ca A x3 x2 hD  σ r2 hc2) (cwV 2 hts gr_X10_159 rfl rfl rfl h9_X10_isMore ⟨Nat.le_of_ble_eq_true rfl, Nat.le_of_ble_eq_true rfl⟩) (x_prV zkM hz hK hP (mk_500 h01) rfl rfl) rfl rfl hl.1 rfl (lv_room (Nat.le_of_ble_eq_true rfl)) dX10_findDoubt_12 ⟨Nat.le_of_ble_eq_true rfl, Nat.le_of_ble_eq_true rfl⟩) hS (fun H locs hP hS => ?_)
    refine lv_if_eq (tgt := 20) hx hb dX10_findDoubt_15 rfl (fun hc => ?_) (fun hc => ?_)
    · have hf := b_p hf hc
      refine lv_aload_n hx hb dX10_findDoubt_20 rfl (lv_at hl 0 rfl) ?_
      refine lv_iload_n hx hb dX10_findDoubt_21 rfl (lv_at hl 1 rfl) ?_
      obtain ⟨r3, σ3, hc3, hf⟩ := bp_e hf
      refine x_ci (va_runV (As := [.int x1]) (rest := []) ⟨hx, hb, hml, hown, hts⟩ (t_X10_firstTuple l G ad ca A x1 hD  σ r3 σ3 hc3) (cwV 1 hts gr_X10_262 rfl rfl rfl h9_X10_firstTuple ⟨Nat.le_of_ble_eq_true rfl, Nat.le_of_ble_eq_true rfl⟩) (x_prV zkM hz hK hP (mk_500 h01) rfl rfl) rfl rfl hl.1 rfl (lv_room (Nat.le_of_ble_eq_true rfl)) dX10_findDoubt_22 ⟨Nat.le_of_ble_eq_true rfl, Nat.le_of_ble_eq_true rfl⟩) hS (fun H locs hP hS => ?_)
      refine lv_istore (lv' := [(4, .int r3), (0, .ref (ad 500 0)), (1, .int x1), (2, .int x2), (3, .int x3)]) hx hb dX10_findDoubt_25 hl (by decide) rfl (fun ls hl => ?_)
      refine lv_iconst (v := (0 : Int32)) hx hb dX10_findDoubt_27 rfl ?_
      refine lv_istore (lv' := [(5, .int (0 : Int32)), (4, .int r3), (0, .ref (ad 500 0)), (1, .int x1), (2, .int x2), (3, .int x3)]) hx hb dX10_findDoubt_28 hl (by decide) rfl (fun ls hl => ?_)
      exact l30 _ c116 _ x1 x2 x3 r3 (0 : Int32) σ3 _ _ _  hf (lv_sub hl [2, 3, 4, 5, 1, 0] rfl) hP hS
    · have hf := b_n hf hc
      refine lv_iconst (v := (0 : Int32)) hx hb dX10_findDoubt_18 rfl ?_
      have hf := Option.some.inj hf
      exact x_zret hx hb hr hlocks hK hP hS (by decide) (congrArg Prod.fst hf) (congrArg Prod.snd hf) dX10_findDoubt_19

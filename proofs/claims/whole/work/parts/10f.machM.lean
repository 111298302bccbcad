theorem h9_X10_doubt : yX10_doubt.cls = RX10 ∧ yX10_doubt.cls ≠ "java/lang/invoke/MethodHandle" ∧ yX10_doubt.cls ≠ "java/lang/invoke/VarHandle" ∧ (parseMethodDescriptor yX10_doubt.desc).map (fun d => d.parameters.length) = some 3 := by decide +kernel
set_option maxRecDepth 100000 in
set_option maxHeartbeats 4000000 in
theorem t_X10_doubt (l : Launch) (G : va_G) (ad : Nat → Nat → Nat) (ca : Nat → ClassId) (A : Nat → Prop)   (x1 : Int32) (x2 : Int32) (x3 : Int32) (hD : DW ad LM A)  (σ : PS) (res : Int64) (σz : PS) (hf : X10_doubt  x1 x2 x3 σ = some (res, σz)) : Met l yX10_doubt wsX10_doubt ({ frames := 6, cells := 0, slots := 0, locals := 148 }) (ctP G ad ca LM σ ZM [.ref (ad 500 0), .int x1, .int x2, .int x3]) (va_Ql (fun r' u => r' = res ∧ u = σz) (ctB G ad ca LM) A) 0 0 A := by
  refine Met.ofW (cc := cX10_doubt) (maxL := 8) (ret := (some .long)) (by decide) rfl ?_
  intro p e s m args below meth c s₁ B hml hv
  obtain ⟨rfl, hP, hK, hz⟩ := hv
  have hx := B.exec
  have hb := B.bytes
  have hr := B.returns
  have hts : ∀ w ∈ WW, w.before _ s = true := fun w h => atoms_spec (ws := wsX10_doubt) B.pre w (List.mem_cons_of_mem _ h)
  have hown : s.vm.findClass RX10 = some m.cls := findClass_of_methodNamed B.named
  have hlocks := B.notSynchronized
  have hS : va_S A s.heap s.heap [] := va_S.rf
  have k_274 := hts _ kk_X10_274
  have k_54 := hts _ kf_X10_54
  have k_103 := hts _ kf_X10_103
  have k_131 := hts _ kf_X10_131
  have hl := lv_entry ([.ref (ad 500 0), .int x1, .int x2, .int x3]) (n := 8) (Nat.le_of_ble_eq_true rfl)
  rw [lg_entry_eq]
  generalize (lg_sl ([.ref (ad 500 0), .int x1, .int x2, .int x3]) ++ List.replicate (8 - (lg_sl ([.ref (ad 500 0), .int x1, .int x2, .int x3])).length) Slot.unset).toArray = ls at hl ⊢
  have hl : lv_has ls 8 [(0, .ref (ad 500 0)), (1, .int x1), (2, .int x2), (3, .int x3)] := hl
  unfold X10_doubt at hf
  have l31 : ∀ (kx31 : PS → Option (Int64 × PS)), (∀ (σ : PS) (H : Heap) (locs : List Loc) (ls : Array Slot), kx31 σ = some (res, σz) → lv_has ls 8 [] → va_P G vwCl (wld ad ca σ LM) H → va_S A s.heap H locs → W p l e (headSpec wsX10_doubt ({ frames := 6, cells := 0, slots := 0, locals := 148 })).room s m (([.ref (ad 500 0), .int x1, .int x2, .int x3] : List Value).toArray) below meth c H locs 0 0 (MQ below (va_Ql (fun r' u => r' = res ∧ u = σz) (ctB G ad ca LM) A) (([.ref (ad 500 0), .int x1, .int x2, .int x3] : List Value).toArray) s 0 0 A) (F0 m 170 ls [])) → ∀ (n31 : Nat) (v1 : Int32) (v2 : Int32) (v3 : Int32) (v4 : Int32) (v5 : Int32) (σ : PS) (H : Heap) (locs : List Loc) (ls : Array Slot), X10_doubt_l31  kx31 n31 v1 v2 v3 v4 v5 σ = some (res, σz) → lv_has ls 8 [(0, .ref (ad 500 0)), (1, .int v1), (2, .int v2), (3, .int v3), (4, .int v4), (5, .int v5)] → va_P G vwCl (wld ad ca σ LM) H → va_S A s.heap H locs → W p l e (headSpec wsX10_doubt ({ frames := 6, cells := 0, slots := 0, locals := 148 })).room s m (([.ref (ad 500 0), .int x1, .int x2, .int x3] : List Value).toArray) below meth c H locs 0 0 (MQ below (va_Ql (fun r' u => r' = res ∧ u = σz) (ctB G ad ca LM) A) (([.ref (ad 500 0), .int x1, .int x2, .int x3] : List Value).toArray) s 0 0 A) (F0 m 31 ls []) := by
    intro kx31 hx31 n31
    induction n31 with
    | zero =>
      intro v1 v2 v3 v4 v5 σ H locs ls hf
      exact absurd hf (by simp [X10_doubt_l31])
    | succ n31 ih31 =>
      intro v1 v2 v3 v4 v5 σ H locs ls hf hl hP hS
      rw [X10_doubt_l31.eq_2] at hf
      have l46 : ∀ (kx46 : Int32 → Int32 → Int32 → Int32 → Int32 → PS → Option (Int64 × PS)), (∀ (v1 : Int32) (v2 : Int32) (v3 : Int32) (v4 : Int32) (v5 : Int32) (σ : PS) (H : Heap) (locs : List Loc) (ls : Array Slot), kx46 v1 v2 v3 v4 v5 σ = some (res, σz) → lv_has ls 8 [(0, .ref (ad 500 0)), (1, .int v1), (2, .int v2), (3, .int v3), (4, .int v4), (5, .int v5)] → va_P G vwCl (wld ad ca σ LM) H → va_S A s.heap H locs → W p l e (headSpec wsX10_doubt ({ frames := 6, cells := 0, slots := 0, locals := 148 })).room s m (([.ref (ad 500 0), .int x1, .int x2, .int x3] : List Value).toArray) below meth c H locs 0 0 (MQ below (va_Ql (fun r' u => r' = res ∧ u = σz) (ctB G ad ca LM) A) (([.ref (ad 500 0), .int x1, .int x2, .int x3] : List Value).toArray) s 0 0 A) (F0 m 164 ls [])) → ∀ (n46 : Nat) (v1 : Int32) (v2 : Int32) (v3 : Int32) (v4 : Int32) (v5 : Int32) (v6 : Int32) (σ : PS) (H : Heap) (locs : List Loc) (ls : Array Slot), X10_doubt_l46  kx46 n46 v1 v2 v3 v4 v5 v6 σ = some (res, σz) → lv_has ls 8 [(0, .ref (ad 500 0)), (1, .int v1), (2, .int v2), (3, .int v3), (4, .int v4), (5, .int v5), (6, .int v6)] → va_P G vwCl (wld ad ca σ LM) H → va_S A s.heap H locs → W p l e (headSpec wsX10_doubt ({ frames := 6, cells := 0, slots := 0, locals := 148 })).room s m (([.ref (ad 500 0), .int x1, .int x2, .int x3] : List Value).toArray) below meth c H locs 0 0 (MQ below (va_Ql (fun r' u => r' = res ∧ u = σz) (ctB G ad ca LM) A) (([.ref (ad 500 0), .int x1, .int x2, .int x3] : List Value).toArray) s 0 0 A) (F0 m 46 ls []) := by
        intro kx46 hx46 n46
        induction n46 with
        | zero =>
          intro v1 v2 v3 v4 v5 v6 σ H locs ls hf
          exact absurd hf (by simp [X10_doubt_l46])
        | succ n46 ih46 =>
          intro v1 v2 v3 v4 v5 v6 σ H locs ls hf hl hP hS
          rw [X10_doubt_l46.eq_2] at hf
          have c100 : ∀ (v1 : Int32) (v2 : Int32) (v3 : Int32) (v4 : Int32) (v5 : Int32) (v6 : Int32) (w0 : Int32) (σ : PS) (H : Heap) (locs : List Loc) (ls : Array Slot), X10_doubt_c100  (X10_doubt_l46  kx46 n46) kx46 v1 v2 v3 v4 v5 v6 w0 σ = some (res, σz) → lv_has ls 8 [(0, .ref (ad 500 0)), (1, .int v1), (2, .int v2), (3, .int v3), (4, .int v4), (5, .int v5), (6, .int v6)] → va_P G vwCl (wld ad ca σ LM) H → va_S A s.heap H locs → W p l e (headSpec wsX10_doubt ({ frames := 6, cells := 0, slots := 0, locals := 148 })).room s m (([.ref (ad 500 0), .int x1, .int x2, .int x3] : List Value).toArray) below meth c H locs 0 0 (MQ below (va_Ql (fun r' u => r' = res ∧ u = σz) (ctB G ad ca LM) A) (([.ref (ad 500 0), .int x1, .int x2, .int x3] : List Value).toArray) s 0 0 A) (F0 m 100 ls [.int w0]) := by
            intro v1 v2 v3 v4 v5 v6 w0 σ H locs ls hf hl hP hS
            unfold X10_doubt_c100 at hf
            refine lv_istore (lv' := [(7, .int w0), (0, .ref (ad 500 0)), (1, .int v1), (2, .int v2), (3, .int v3), (4, .int v4), (5, .int v5), (6, .int v6)]) hx hb dX10_doubt_100 hl (by decide) rfl (fun ls hl => ?_)
            refine lv_iload hx hb dX10_doubt_102 (lv_at hl 0 rfl) ?_
            refine lv_if_eq (tgt := 158) hx hb dX10_doubt_104 rfl (fun hc => ?_) (fun hc => ?_)
            · have hf := b_p hf hc
              refine lv_iinc (v := (v6 + (1 : Int32))) (lv' := [(6, .int (v6 + (1 : Int32))), (7, .int w0), (0, .ref (ad 500 0)), (1, .int v1), (2, .int v2), (3, .int v3), (4, .int v4), (5, .int v5)]) hx hb dX10_doubt_158 hl (k := 7) rfl rfl (by decide) rfl (fun ls hl => ?_)
              refine lv_goto (tgt := 46) hx hb dX10_doubt_161 rfl ?_
              exact ih46 v1 v2 v3 v4 v5 (v6 + (1 : Int32)) σ _ _ _  hf (lv_sub hl [2, 3, 4, 5, 6, 7, 0] rfl) hP hS
            · have hf := b_n hf hc
              refine lv_aload_n hx hb dX10_doubt_107 rfl (lv_at hl 1 rfl) ?_
              refine lv_iload_n hx hb dX10_doubt_108 rfl (lv_at hl 2 rfl) ?_
              refine lv_iload hx hb dX10_doubt_109 (lv_at hl 6 rfl) ?_
              refine lv_iload hx hb dX10_doubt_111 (lv_at hl 7 rfl) ?_
              obtain ⟨r4, σ4, hc4, hf⟩ := bp_e hf
              refine x_ci (va_runV (As := [.int v1, .int v5, .int v6]) (rest := []) ⟨hx, hb, hml, hown, hts⟩ (t_X10_findDoubt l G ad ca A v1 v5 v6 hD  σ r4 σ4 hc4) (cwV 3 hts gr_X10_279 rfl rfl rfl h9_X10_findDoubt ⟨Nat.le_of_ble_eq_true rfl, Nat.le_of_ble_eq_true rfl⟩) (x_prV zkM hz hK hP (mk_500 h01) rfl rfl) rfl rfl hl.1 rfl (lv_room (Nat.le_of_ble_eq_true rfl)) dX10_doubt_113 ⟨Nat.le_of_ble_eq_true rfl, Nat.le_of_ble_eq_true rfl⟩) hS (fun H locs hP hS => ?_)
              refine lv_if_eq (tgt := 158) hx hb dX10_doubt_116 rfl (fun hc => ?_) (fun hc => ?_)
              · have hf := b_p hf hc
                refine lv_iinc (v := (v6 + (1 : Int32))) (lv' := [(6, .int (v6 + (1 : Int32))), (7, .int w0), (0, .ref (ad 500 0)), (1, .int v1), (2, .int v2), (3, .int v3), (4, .int v4), (5, .int v5)]) hx hb dX10_doubt_158 hl (k := 7) rfl rfl (by decide) rfl (fun ls hl => ?_)
                refine lv_goto (tgt := 46) hx hb dX10_doubt_161 rfl ?_
                exact ih46 v1 v2 v3 v4 v5 (v6 + (1 : Int32)) σ4 _ _ _  hf (lv_sub hl [2, 3, 4, 5, 6, 7, 0] rfl) hP hS
              · have hf := b_n hf hc
                refine lv_iload hx hb dX10_doubt_119 (lv_at hl 5 rfl) ?_
                refine lv_iload_n hx hb dX10_doubt_121 rfl (lv_at hl 3 rfl) ?_
                refine lv_icmp_ne (tgt := 155) hx hb dX10_doubt_122 rfl (fun hc => ?_) (fun hc => ?_)
                · have hf := b_n hf hc
                  refine lv_iinc (v := (v4 + (1 : Int32))) (lv' := [(4, .int (v4 + (1 : Int32))), (7, .int w0), (0, .ref (ad 500 0)), (1, .int v1), (2, .int v2), (3, .int v3), (5, .int v5), (6, .int v6)]) hx hb dX10_doubt_155 hl (k := 5) rfl rfl (by decide) rfl (fun ls hl => ?_)
                  refine lv_iinc (v := (v6 + (1 : Int32))) (lv' := [(6, .int (v6 + (1 : Int32))), (4, .int (v4 + (1 : Int32))), (7, .int w0), (0, .ref (ad 500 0)), (1, .int v1), (2, .int v2), (3, .int v3), (5, .int v5)]) hx hb dX10_doubt_158 hl (k := 7) rfl rfl (by decide) rfl (fun ls hl => ?_)
                  refine lv_goto (tgt := 46) hx hb dX10_doubt_161 rfl ?_
                  exact ih46 v1 v2 v3 (v4 + (1 : Int32)) v5 (v6 + (1 : Int32)) σ4 _ _ _  hf (lv_sub hl [3, 4, 5, 6, 1, 7, 0] rfl) hP hS
                · have hf := b_p hf hc
                  refine lv_iload_n hx hb dX10_doubt_125 rfl (lv_at hl 4 rfl) ?_
                  refine lv_if_ne (tgt := 135) hx hb dX10_doubt_126 rfl (fun hc => ?_) (fun hc => ?_)
                  · have hf := b_n hf hc
                    refine lv_iload_n hx hb dX10_doubt_135 rfl (lv_at hl 4 rfl) ?_
                    refine lv_iconst (v := (1 : Int32)) hx hb dX10_doubt_136 rfl ?_
                    refine lv_icmp_ne (tgt := 146) hx hb dX10_doubt_137 rfl (fun hc => ?_) (fun hc => ?_)
                    · have hf := b_n hf hc
                      refine lv_aload_n hx hb dX10_doubt_146 rfl (lv_at hl 1 rfl) ?_
                      refine x_get (k := 500) (n := 0) hx hb hts i_X10 hown hK hP (mk_500 h01) rfl rfl 38 (by decide) rfl k_103 (v := .ref (ad 539 0)) rfl dX10_doubt_147 ?_
                      refine lv_iload_n hx hb dX10_doubt_150 rfl (lv_at hl 4 rfl) ?_
                      refine lv_iconst (v := (2 : Int32)) hx hb dX10_doubt_151 rfl ?_
                      refine lv_isub hx hb dX10_doubt_152 ?_
                      obtain ⟨g5, hf⟩ := gd_e hf
                      refine x_lald (k := 539) (n := 0) hx hb hK hP (mk_539 h01) rfl g5 dX10_doubt_153 ?_
                      have hf := Option.some.inj hf
                      exact x_lret hx hb hr hlocks hK hP hS (congrArg Prod.fst hf) (congrArg Prod.snd hf) dX10_doubt_154
                    · have hf := b_p hf hc
                      refine lv_iload hx hb dX10_doubt_140 (lv_at hl 7 rfl) ?_
                      refine lv_i2l hx hb dX10_doubt_142 rfl ?_
                      refine lv_goto (tgt := 154) hx hb dX10_doubt_143 rfl ?_
                      have hf := Option.some.inj hf
                      exact x_lret hx hb hr hlocks hK hP hS (congrArg Prod.fst hf) (congrArg Prod.snd hf) dX10_doubt_154
                  · have hf := b_p hf hc
                    refine lv_iload hx hb dX10_doubt_129 (lv_at hl 6 rfl) ?_
                    refine lv_i2l hx hb dX10_doubt_131 rfl ?_
                    refine lv_goto (tgt := 154) hx hb dX10_doubt_132 rfl ?_
                    have hf := Option.some.inj hf
                    exact x_lret hx hb hr hlocks hK hP hS (congrArg Prod.fst hf) (congrArg Prod.snd hf) dX10_doubt_154
          have c99 : ∀ (v1 : Int32) (v2 : Int32) (v3 : Int32) (v4 : Int32) (v5 : Int32) (v6 : Int32) (σ : PS) (H : Heap) (locs : List Loc) (ls : Array Slot), X10_doubt_c99  (X10_doubt_l46  kx46 n46) kx46 v1 v2 v3 v4 v5 v6 σ = some (res, σz) → lv_has ls 8 [(0, .ref (ad 500 0)), (1, .int v1), (2, .int v2), (3, .int v3), (4, .int v4), (5, .int v5), (6, .int v6)] → va_P G vwCl (wld ad ca σ LM) H → va_S A s.heap H locs → W p l e (headSpec wsX10_doubt ({ frames := 6, cells := 0, slots := 0, locals := 148 })).room s m (([.ref (ad 500 0), .int x1, .int x2, .int x3] : List Value).toArray) below meth c H locs 0 0 (MQ below (va_Ql (fun r' u => r' = res ∧ u = σz) (ctB G ad ca LM) A) (([.ref (ad 500 0), .int x1, .int x2, .int x3] : List Value).toArray) s 0 0 A) (F0 m 99 ls []) := by
            intro v1 v2 v3 v4 v5 v6 σ H locs ls hf hl hP hS
            unfold X10_doubt_c99 at hf
            refine lv_iconst (v := (0 : Int32)) hx hb dX10_doubt_99 rfl ?_
            exact c100 v1 v2 v3 v4 v5 v6 (0 : Int32) σ _ _ _  hf (lv_sub hl [0, 1, 2, 3, 4, 5, 6] rfl) hP hS
          refine lv_iload hx hb dX10_doubt_46 (lv_at hl 6 rfl) ?_
          refine lv_aload_n hx hb dX10_doubt_48 rfl (lv_at hl 0 rfl) ?_
          refine x_get (k := 500) (n := 0) hx hb hts i_X10 hown hK hP (mk_500 h01) rfl rfl 14 (by decide) rfl k_131 (v := .int (gI σ 500 0 14)) rfl dX10_doubt_49 ?_
          refine lv_icmp_ge (tgt := 164) hx hb dX10_doubt_52 rfl (fun hc => ?_) (fun hc => ?_)
          · have hf := b_p hf hc
            exact hx46 v1 v2 v3 v4 v5 σ _ _ _  hf (lv_sub hl [0, 1, 2, 3, 4, 5] rfl) hP hS
          · have hf := b_n hf hc
            refine lv_aload_n hx hb dX10_doubt_55 rfl (lv_at hl 0 rfl) ?_
            refine lv_iload hx hb dX10_doubt_56 (lv_at hl 5 rfl) ?_
            refine lv_iload_n hx hb dX10_doubt_58 rfl (lv_at hl 1 rfl) ?_
            obtain ⟨r3, hc3, hf⟩ := bd_e hf
            refine x_ci (va_runV (As := [.int v5, .int v1]) (rest := []) ⟨hx, hb, hml, hown, hts⟩ (t_X10_isLaid l G ad ca A v5 v1 hD  σ r3 hc3) (cwV 2 hts gr_X10_145 rfl rfl rfl h9_X10_isLaid ⟨Nat.le_of_ble_eq_true rfl, Nat.le_of_ble_eq_true rfl⟩) (x_prV zkM hz hK hP (mk_500 h01) rfl rfl) rfl rfl hl.1 rfl (lv_room (Nat.le_of_ble_eq_true rfl)) dX10_doubt_59 ⟨Nat.le_of_ble_eq_true rfl, Nat.le_of_ble_eq_true rfl⟩) hS (fun H locs hP hS => ?_)
            refine lv_if_eq (tgt := 99) hx hb dX10_doubt_62 rfl (fun hc => ?_) (fun hc => ?_)
            · have hf := b_p hf hc
              exact c99 v1 v2 v3 v4 v5 v6 σ _ _ _  hf (lv_sub hl [0, 1, 2, 3, 4, 5, 6] rfl) hP hS
            · have hf := b_n hf hc
              refine lv_aload_n hx hb dX10_doubt_65 rfl (lv_at hl 0 rfl) ?_
              refine lv_iload hx hb dX10_doubt_66 (lv_at hl 6 rfl) ?_
              refine lv_iload_n hx hb dX10_doubt_68 rfl (lv_at hl 1 rfl) ?_
              obtain ⟨r6, hc6, hf⟩ := bd_e hf
              refine x_ci (va_runV (As := [.int v6, .int v1]) (rest := []) ⟨hx, hb, hml, hown, hts⟩ (t_X10_isLaid l G ad ca A v6 v1 hD  σ r6 hc6) (cwV 2 hts gr_X10_145 rfl rfl rfl h9_X10_isLaid ⟨Nat.le_of_ble_eq_true rfl, Nat.le_of_ble_eq_true rfl⟩) (x_prV zkM hz hK hP (mk_500 h01) rfl rfl) rfl rfl hl.1 rfl (lv_room (Nat.le_of_ble_eq_true rfl)) dX10_doubt_69 ⟨Nat.le_of_ble_eq_true rfl, Nat.le_of_ble_eq_true rfl⟩) hS (fun H locs hP hS => ?_)
              refine lv_if_eq (tgt := 99) hx hb dX10_doubt_72 rfl (fun hc => ?_) (fun hc => ?_)
              · have hf := b_p hf hc
                exact c99 v1 v2 v3 v4 v5 v6 σ _ _ _  hf (lv_sub hl [0, 1, 2, 3, 4, 5, 6] rfl) hP hS
              · have hf := b_n hf hc
                refine lv_aload_n hx hb dX10_doubt_75 rfl (lv_at hl 0 rfl) ?_
                refine x_get (k := 500) (n := 0) hx hb hts i_X10 hown hK hP (mk_500 h01) rfl rfl 18 (by decide) rfl k_54 (v := .ref (ad 519 0)) rfl dX10_doubt_76 ?_
                refine lv_iload hx hb dX10_doubt_79 (lv_at hl 5 rfl) ?_
                obtain ⟨g7, hf⟩ := gd_e hf
                refine x_zald (k := 519) (n := 0) hx hb hK hP (mk_519 h01) rfl g7 dX10_doubt_81 ?_
                refine lv_if_ne (tgt := 99) hx hb dX10_doubt_82 rfl (fun hc => ?_) (fun hc => ?_)
                · have hf := b_n hf hc
                  exact c99 v1 v2 v3 v4 v5 v6 σ _ _ _  hf (lv_sub hl [0, 1, 2, 3, 4, 5, 6] rfl) hP hS
                · have hf := b_p hf hc
                  refine lv_aload_n hx hb dX10_doubt_85 rfl (lv_at hl 0 rfl) ?_
                  refine x_get (k := 500) (n := 0) hx hb hts i_X10 hown hK hP (mk_500 h01) rfl rfl 18 (by decide) rfl k_54 (v := .ref (ad 519 0)) rfl dX10_doubt_86 ?_
                  refine lv_iload hx hb dX10_doubt_89 (lv_at hl 6 rfl) ?_
                  obtain ⟨g8, hf⟩ := gd_e hf
                  refine x_zald (k := 519) (n := 0) hx hb hK hP (mk_519 h01) rfl g8 dX10_doubt_91 ?_
                  refine lv_if_ne (tgt := 99) hx hb dX10_doubt_92 rfl (fun hc => ?_) (fun hc => ?_)
                  · have hf := b_n hf hc
                    exact c99 v1 v2 v3 v4 v5 v6 σ _ _ _  hf (lv_sub hl [0, 1, 2, 3, 4, 5, 6] rfl) hP hS
                  · have hf := b_p hf hc
                    refine lv_iconst (v := (1 : Int32)) hx hb dX10_doubt_95 rfl ?_
                    refine lv_goto (tgt := 100) hx hb dX10_doubt_96 rfl ?_
                    exact c100 v1 v2 v3 v4 v5 v6 (1 : Int32) σ _ _ _  hf (lv_sub hl [0, 1, 2, 3, 4, 5, 6] rfl) hP hS
      have c164 : ∀ (v1 : Int32) (v2 : Int32) (v3 : Int32) (v4 : Int32) (v5 : Int32) (σ : PS) (H : Heap) (locs : List Loc) (ls : Array Slot), X10_doubt_c164  (X10_doubt_l31  kx31 n31) kx31 v1 v2 v3 v4 v5 σ = some (res, σz) → lv_has ls 8 [(0, .ref (ad 500 0)), (1, .int v1), (2, .int v2), (3, .int v3), (4, .int v4), (5, .int v5)] → va_P G vwCl (wld ad ca σ LM) H → va_S A s.heap H locs → W p l e (headSpec wsX10_doubt ({ frames := 6, cells := 0, slots := 0, locals := 148 })).room s m (([.ref (ad 500 0), .int x1, .int x2, .int x3] : List Value).toArray) below meth c H locs 0 0 (MQ below (va_Ql (fun r' u => r' = res ∧ u = σz) (ctB G ad ca LM) A) (([.ref (ad 500 0), .int x1, .int x2, .int x3] : List Value).toArray) s 0 0 A) (F0 m 164 ls []) := by
        intro v1 v2 v3 v4 v5 σ H locs ls hf hl hP hS
        unfold X10_doubt_c164 at hf
        refine lv_iinc (v := (v5 + (1 : Int32))) (lv' := [(5, .int (v5 + (1 : Int32))), (0, .ref (ad 500 0)), (1, .int v1), (2, .int v2), (3, .int v3), (4, .int v4)]) hx hb dX10_doubt_164 hl (k := 5) rfl rfl (by decide) rfl (fun ls hl => ?_)
        refine lv_goto (tgt := 31) hx hb dX10_doubt_167 rfl ?_
        exact ih31 v1 v2 v3 v4 (v5 + (1 : Int32)) σ _ _ _  hf (lv_sub hl [1, 2, 3, 4, 5, 0] rfl) hP hS
      refine lv_iload hx hb dX10_doubt_31 (lv_at hl 5 rfl) ?_
      refine lv_aload_n hx hb dX10_doubt_33 rfl (lv_at hl 0 rfl) ?_
      refine x_get (k := 500) (n := 0) hx hb hts i_X10 hown hK hP (mk_500 h01) rfl rfl 14 (by decide) rfl k_131 (v := .int (gI σ 500 0 14)) rfl dX10_doubt_34 ?_
      refine lv_icmp_ge (tgt := 170) hx hb dX10_doubt_37 rfl (fun hc => ?_) (fun hc => ?_)
      · have hf := b_p hf hc
        exact hx31  σ _ _ _  hf (lv_sub hl [] rfl) hP hS
      · have hf := b_n hf hc
        refine lv_iload hx hb dX10_doubt_40 (lv_at hl 5 rfl) ?_
        refine lv_iconst (v := (1 : Int32)) hx hb dX10_doubt_42 rfl ?_
        refine lv_iadd hx hb dX10_doubt_43 ?_
        obtain ⟨y2, e_y2, hf⟩ := nm_i hf
        refine x_nmI e_y2 ?_
        refine lv_istore (lv' := [(6, .int y2), (0, .ref (ad 500 0)), (1, .int v1), (2, .int v2), (3, .int v3), (4, .int v4), (5, .int v5)]) hx hb dX10_doubt_44 hl (by decide) rfl (fun ls hl => ?_)
        exact l46 _ c164 _ v1 v2 v3 v4 v5 y2 σ _ _ _  hf (lv_sub hl [1, 2, 3, 4, 5, 6, 0] rfl) hP hS
  have c170 : ∀ (σ : PS) (H : Heap) (locs : List Loc) (ls : Array Slot), X10_doubt_c170   σ = some (res, σz) → lv_has ls 8 [] → va_P G vwCl (wld ad ca σ LM) H → va_S A s.heap H locs → W p l e (headSpec wsX10_doubt ({ frames := 6, cells := 0, slots := 0, locals := 148 })).room s m (([.ref (ad 500 0), .int x1, .int x2, .int x3] : List Value).toArray) below meth c H locs 0 0 (MQ below (va_Ql (fun r' u => r' = res ∧ u = σz) (ctB G ad ca LM) A) (([.ref (ad 500 0), .int x1, .int x2, .int x3] : List Value).toArray) s 0 0 A) (F0 m 170 ls []) := by
    intro σ H locs ls hf hl hP hS
    unfold X10_doubt_c170 at hf
    refine lv_ldc2 hx hb hown k_274 dX10_doubt_170 ?_
    have hf := Option.some.inj hf
    exact x_lret hx hb hr hlocks hK hP hS (congrArg Prod.fst hf) (congrArg Prod.snd hf) dX10_doubt_173
  refine lv_aload_n hx hb dX10_doubt_0 rfl (lv_at hl 0 rfl) ?_
  refine lv_iload_n hx hb dX10_doubt_1 rfl (lv_at hl 1 rfl) ?_
  obtain ⟨r1, hc1, hf⟩ := bd_e hf
  refine x_ci (va_runV (As := [.int x1]) (rest := []) ⟨hx, hb, hml, hown, hts⟩ (t_X10_isFunction l G ad ca A x1 hD  σ r1 hc1) (cwV 1 hts gr_X10_134 rfl rfl rfl h9_X10_isFunction ⟨Nat.le_of_ble_eq_true rfl, Nat.le_of_ble_eq_true rfl⟩) (x_prV zkM hz hK hP (mk_500 h01) rfl rfl) rfl rfl hl.1 rfl (lv_room (Nat.le_of_ble_eq_true rfl)) dX10_doubt_2 ⟨Nat.le_of_ble_eq_true rfl, Nat.le_of_ble_eq_true rfl⟩) hS (fun H locs hP hS => ?_)
  refine lv_if_eq (tgt := 21) hx hb dX10_doubt_5 rfl (fun hc => ?_) (fun hc => ?_)
  · have hf := b_p hf hc
    refine lv_ldc2 hx hb hown k_274 dX10_doubt_21 ?_
    have hf := Option.some.inj hf
    exact x_lret hx hb hr hlocks hK hP hS (congrArg Prod.fst hf) (congrArg Prod.snd hf) dX10_doubt_24
  · have hf := b_n hf hc
    refine lv_iload_n hx hb dX10_doubt_8 rfl (lv_at hl 2 rfl) ?_
    refine lv_if_lt (tgt := 21) hx hb dX10_doubt_9 rfl (fun hc => ?_) (fun hc => ?_)
    · have hf := b_p hf hc
      refine lv_ldc2 hx hb hown k_274 dX10_doubt_21 ?_
      have hf := Option.some.inj hf
      exact x_lret hx hb hr hlocks hK hP hS (congrArg Prod.fst hf) (congrArg Prod.snd hf) dX10_doubt_24
    · have hf := b_n hf hc
      refine lv_iload_n hx hb dX10_doubt_12 rfl (lv_at hl 3 rfl) ?_
      refine lv_if_lt (tgt := 21) hx hb dX10_doubt_13 rfl (fun hc => ?_) (fun hc => ?_)
      · have hf := b_p hf hc
        refine lv_ldc2 hx hb hown k_274 dX10_doubt_21 ?_
        have hf := Option.some.inj hf
        exact x_lret hx hb hr hlocks hK hP hS (congrArg Prod.fst hf) (congrArg Prod.snd hf) dX10_doubt_24
      · have hf := b_n hf hc
        refine lv_iload_n hx hb dX10_doubt_16 rfl (lv_at hl 3 rfl) ?_
        refine lv_iconst (v := (5 : Int32)) hx hb dX10_doubt_17 rfl ?_
        refine lv_icmp_le (tgt := 25) hx hb dX10_doubt_18 rfl (fun hc => ?_) (fun hc => ?_)
        · have hf := b_p hf hc
          refine lv_iconst (v := (0 : Int32)) hx hb dX10_doubt_25 rfl ?_
          refine lv_istore (lv' := [(4, .int (0 : Int32)), (0, .ref (ad 500 0)), (1, .int x1), (2, .int x2), (3, .int x3)]) hx hb dX10_doubt_26 hl (by decide) rfl (fun ls hl => ?_)
          refine lv_iconst (v := (0 : Int32)) hx hb dX10_doubt_28 rfl ?_
          refine lv_istore (lv' := [(5, .int (0 : Int32)), (4, .int (0 : Int32)), (0, .ref (ad 500 0)), (1, .int x1), (2, .int x2), (3, .int x3)]) hx hb dX10_doubt_29 hl (by decide) rfl (fun ls hl => ?_)
          exact l31 _ c170 _ x1 x2 x3 (0 : Int32) (0 : Int32) σ _ _ _  hf (lv_sub hl [2, 3, 4, 5, 1, 0] rfl) hP hS
        · have hf := b_n hf hc
          refine lv_ldc2 hx hb hown k_274 dX10_doubt_21 ?_
          have hf := Option.some.inj hf
          exact x_lret hx hb hr hlocks hK hP hS (congrArg Prod.fst hf) (congrArg Prod.snd hf) dX10_doubt_24

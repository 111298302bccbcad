theorem h9_X9_isBarred : yX9_isBarred.cls = RX9 ∧ yX9_isBarred.cls ≠ "java/lang/invoke/MethodHandle" ∧ yX9_isBarred.cls ≠ "java/lang/invoke/VarHandle" ∧ (parseMethodDescriptor yX9_isBarred.desc).map (fun d => d.parameters.length) = some 1 := by decide +kernel
set_option maxRecDepth 100000 in
set_option maxHeartbeats 4000000 in
theorem t_X9_isBarred (l : Launch) (G : va_G) (ad : Nat → Nat → Nat) (ca : Nat → ClassId) (A : Nat → Prop) (z : Nat × Nat)  (n1 : Nat) (hD : DW ad (LC z) A) (hn1 : n1 < z.1) (σ : PS) (res : Int32) (σz : PS) (hf : X9_isBarred z  n1 σ = some (res, σz)) : Met l yX9_isBarred wsX9_isBarred ({ frames := 4, cells := 0, slots := 0, locals := 91 }) (ctP G ad ca (LC z) σ ZC [.ref (ad 450 0), .ref (ad 50 n1)]) (va_Qi (fun r' u => r' = res ∧ u = σz) (ctB G ad ca (LC z)) A) 0 0 A := by
  refine Met.ofW (cc := cX9_isBarred) (maxL := 7) (ret := (some .boolean)) (by decide) rfl ?_
  intro p e s m args below meth c s₁ B hml hv
  obtain ⟨rfl, hP, hK, hz⟩ := hv
  have hx := B.exec
  have hb := B.bytes
  have hr := B.returns
  have hts : ∀ w ∈ WW, w.before _ s = true := fun w h => atoms_spec (ws := wsX9_isBarred) B.pre w (List.mem_cons_of_mem _ h)
  have hown : s.vm.findClass RX9 = some m.cls := findClass_of_methodNamed B.named
  have hlocks := B.notSynchronized
  have hS : va_S A s.heap s.heap [] := va_S.rf
  have k_45 := hts _ kf_X9_45
  have k_52 := hts _ kf_X9_52
  have k_179 := hts _ kf_X9_179
  have k_182 := hts _ kf_X9_182
  have k_192 := hts _ kf_X9_192
  have k_195 := hts _ kf_X9_195
  have k_316 := hts _ kf_X9_316
  have hl := lv_entry ([.ref (ad 450 0), .ref (ad 50 n1)]) (n := 7) (Nat.le_of_ble_eq_true rfl)
  rw [lg_entry_eq]
  generalize (lg_sl ([.ref (ad 450 0), .ref (ad 50 n1)]) ++ List.replicate (7 - (lg_sl ([.ref (ad 450 0), .ref (ad 50 n1)])).length) Slot.unset).toArray = ls at hl ⊢
  have hl : lv_has ls 7 [(0, .ref (ad 450 0)), (1, .ref (ad 50 n1))] := hl
  unfold X9_isBarred at hf
  have l21 : ∀ (kx21 : PS → Option (Int32 × PS)), (∀ (σ : PS) (H : Heap) (locs : List Loc) (ls : Array Slot), kx21 σ = some (res, σz) → lv_has ls 7 [] → va_P G vwCl (wld ad ca σ (LC z)) H → va_S A s.heap H locs → W p l e (headSpec wsX9_isBarred ({ frames := 4, cells := 0, slots := 0, locals := 91 })).room s m (([.ref (ad 450 0), .ref (ad 50 n1)] : List Value).toArray) below meth c H locs 0 0 (MQ below (va_Qi (fun r' u => r' = res ∧ u = σz) (ctB G ad ca (LC z)) A) (([.ref (ad 450 0), .ref (ad 50 n1)] : List Value).toArray) s 0 0 A) (F0 m 102 ls [])) → ∀ (n21 : Nat) (v1 : Nat) (v2 : Int64) (v4 : Int32) (v5 : Int32) (σ : PS) (H : Heap) (locs : List Loc) (ls : Array Slot), v1 < z.1 → X9_isBarred_l21 z kx21 n21 v1 v2 v4 v5 σ = some (res, σz) → lv_has ls 7 [(0, .ref (ad 450 0)), (1, .ref (ad 50 v1)), (2, .long v2), (4, .int v4), (5, .int v5)] → va_P G vwCl (wld ad ca σ (LC z)) H → va_S A s.heap H locs → W p l e (headSpec wsX9_isBarred ({ frames := 4, cells := 0, slots := 0, locals := 91 })).room s m (([.ref (ad 450 0), .ref (ad 50 n1)] : List Value).toArray) below meth c H locs 0 0 (MQ below (va_Qi (fun r' u => r' = res ∧ u = σz) (ctB G ad ca (LC z)) A) (([.ref (ad 450 0), .ref (ad 50 n1)] : List Value).toArray) s 0 0 A) (F0 m 21 ls []) := by
    intro kx21 hx21 n21
    induction n21 with
    | zero =>
      intro v1 v2 v4 v5 σ H locs ls h_v1 hf
      exact absurd hf (by simp [X9_isBarred_l21])
    | succ n21 ih21 =>
      intro v1 v2 v4 v5 σ H locs ls h_v1 hf hl hP hS
      rw [X9_isBarred_l21.eq_2] at hf
      refine lv_iload hx hb dX9_isBarred_21 (lv_at hl 4 rfl) ?_
      refine lv_aload_n hx hb dX9_isBarred_23 rfl (lv_at hl 1 rfl) ?_
      refine x_get (k := 50) (n := v1) hx hb hts i_X1 hown hK hP (mk_50 h_v1) rfl rfl 7 (by decide) rfl k_192 (v := .int (gI σ 50 v1 7)) rfl dX9_isBarred_24 ?_
      refine lv_icmp_ge (tgt := 102) hx hb dX9_isBarred_27 rfl (fun hc => ?_) (fun hc => ?_)
      · have hf := b_p hf hc
        exact hx21  σ _ _ _  hf (lv_sub hl [] rfl) hP hS
      · have hf := b_n hf hc
        refine lv_aload_n hx hb dX9_isBarred_30 rfl (lv_at hl 1 rfl) ?_
        refine lv_aload_n hx hb dX9_isBarred_31 rfl (lv_at hl 1 rfl) ?_
        refine x_get (k := 50) (n := v1) hx hb hts i_X1 hown hK hP (mk_50 h_v1) rfl rfl 4 (by decide) rfl k_195 (v := .ref (ad 55 v1)) rfl dX9_isBarred_32 ?_
        refine lv_iload hx hb dX9_isBarred_35 (lv_at hl 4 rfl) ?_
        obtain ⟨g3, hf⟩ := gd_e hf
        refine x_iald (k := 55) (n := v1) hx hb hK hP (mk_55 h_v1) rfl g3 dX9_isBarred_37 ?_
        obtain ⟨r4, hc4, hf⟩ := bd_e hf
        refine x_cq (va_runV (As := [.int (gI σ 55 v1 (ix v5))]) (rest := []) ⟨hx, hb, hml, hown, hts⟩ (t_X1_laidAt l G ad ca A z v1 (gI σ 55 v1 (ix v5)) hD h_v1 σ r4 hc4) (cwV 1 hts gr_X9_313 rfl rfl rfl h9_X1_laidAt ⟨Nat.le_of_ble_eq_true rfl, Nat.le_of_ble_eq_true rfl⟩) (x_prV zkC hz hK hP (mk_50 h_v1) rfl rfl) rfl rfl hl.1 rfl (lv_room (Nat.le_of_ble_eq_true rfl)) dX9_isBarred_38 ⟨Nat.le_of_ble_eq_true rfl, Nat.le_of_ble_eq_true rfl⟩) hS (fun H locs hP hS => ?_)
        refine x_astoreQ (lv' := [(6, va_rf (Option.map (ad 100) r4)), (0, .ref (ad 450 0)), (1, .ref (ad 50 v1)), (2, .long v2), (4, .int v4), (5, .int v5)]) hx hb dX9_isBarred_41 hl (by decide) rfl (fun ls hl => ?_)
        refine x_aloadQ hx hb dX9_isBarred_43 (lv_at hl 0 rfl) ?_
        cases r4 with
        | none =>
          have hf := oc_n hf
          refine lv_ifnullN (tgt := 96) hx hb dX9_isBarred_45 rfl ?_
          refine lv_iinc (v := (v5 + (1 : Int32))) (lv' := [(5, .int (v5 + (1 : Int32))), (6, .null), (0, .ref (ad 450 0)), (1, .ref (ad 50 v1)), (2, .long v2), (4, .int v4)]) hx hb dX9_isBarred_96 hl (k := 5) rfl rfl (by decide) rfl (fun ls hl => ?_)
          refine lv_goto (tgt := 21) hx hb dX9_isBarred_99 rfl ?_
          exact ih21 v1 v2 v4 (v5 + (1 : Int32)) σ _ _ _ h_v1 hf (lv_sub hl [2, 3, 4, 5, 0] rfl) hP hS
        | some q5 =>
          obtain ⟨h_q5, hf⟩ := oc_s hf
          refine lv_ifnull hx hb dX9_isBarred_45 ?_
          refine lv_aload hx hb dX9_isBarred_48 (lv_at hl 0 rfl) ?_
          refine x_get (k := 100) (n := q5) hx hb hts i_X2 hown hK hP (mk_100 h_q5) rfl rfl 4 (by decide) rfl k_182 (v := .int (gI σ 100 q5 4)) rfl dX9_isBarred_50 ?_
          refine lv_if_eq (tgt := 96) hx hb dX9_isBarred_53 rfl (fun hc => ?_) (fun hc => ?_)
          · have hf := b_p hf hc
            refine lv_iinc (v := (v5 + (1 : Int32))) (lv' := [(5, .int (v5 + (1 : Int32))), (6, .ref (ad 100 q5)), (0, .ref (ad 450 0)), (1, .ref (ad 50 v1)), (2, .long v2), (4, .int v4)]) hx hb dX9_isBarred_96 hl (k := 5) rfl rfl (by decide) rfl (fun ls hl => ?_)
            refine lv_goto (tgt := 21) hx hb dX9_isBarred_99 rfl ?_
            exact ih21 v1 v2 v4 (v5 + (1 : Int32)) σ _ _ _ h_v1 hf (lv_sub hl [2, 3, 4, 5, 0] rfl) hP hS
          · have hf := b_n hf hc
            refine lv_iload hx hb dX9_isBarred_56 (lv_at hl 4 rfl) ?_
            refine lv_iconst (v := (1 : Int32)) hx hb dX9_isBarred_58 rfl ?_
            refine lv_aload_n hx hb dX9_isBarred_59 rfl (lv_at hl 2 rfl) ?_
            refine x_get (k := 50) (n := v1) hx hb hts i_X1 hown hK hP (mk_50 h_v1) rfl rfl 4 (by decide) rfl k_195 (v := .ref (ad 55 v1)) rfl dX9_isBarred_60 ?_
            refine lv_iload hx hb dX9_isBarred_63 (lv_at hl 5 rfl) ?_
            obtain ⟨g6, hf⟩ := gd_e hf
            refine x_iald (k := 55) (n := v1) hx hb hK hP (mk_55 h_v1) rfl g6 dX9_isBarred_65 ?_
            refine lv_ishl hx hb dX9_isBarred_66 ?_
            refine lv_iand hx hb dX9_isBarred_67 ?_
            refine lv_if_eq (tgt := 96) hx hb dX9_isBarred_68 rfl (fun hc => ?_) (fun hc => ?_)
            · have hf := b_p hf hc
              refine lv_iinc (v := (v5 + (1 : Int32))) (lv' := [(5, .int (v5 + (1 : Int32))), (6, .ref (ad 100 q5)), (0, .ref (ad 450 0)), (1, .ref (ad 50 v1)), (2, .long v2), (4, .int v4)]) hx hb dX9_isBarred_96 hl (k := 5) rfl rfl (by decide) rfl (fun ls hl => ?_)
              refine lv_goto (tgt := 21) hx hb dX9_isBarred_99 rfl ?_
              exact ih21 v1 v2 v4 (v5 + (1 : Int32)) σ _ _ _ h_v1 hf (lv_sub hl [2, 3, 4, 5, 0] rfl) hP hS
            · have hf := b_n hf hc
              refine lv_aload_n hx hb dX9_isBarred_71 rfl (lv_at hl 1 rfl) ?_
              refine x_get (k := 450) (n := 0) hx hb hts i_X9 hown hK hP (mk_450 h01) rfl rfl 7 (by decide) rfl k_52 (v := .ref (ad 150 0)) rfl dX9_isBarred_72 ?_
              refine lv_aload hx hb dX9_isBarred_75 (lv_at hl 0 rfl) ?_
              refine x_get (k := 100) (n := q5) hx hb hts i_X2 hown hK hP (mk_100 h_q5) rfl rfl 1 (by decide) rfl k_316 (v := .int (gI σ 100 q5 1)) rfl dX9_isBarred_77 ?_
              obtain ⟨σ7, hc7, hf⟩ := bd_e hf
              refine x_cv (va_runV (As := [.int (gI σ 100 q5 1)]) (rest := []) ⟨hx, hb, hml, hown, hts⟩ (t_X3_addStep l G ad ca A z (gI σ 100 q5 1) hD  σ σ7 hc7) (cwV 1 hts gr_X9_317 rfl rfl rfl h9_X3_addStep ⟨Nat.le_of_ble_eq_true rfl, Nat.le_of_ble_eq_true rfl⟩) (x_prV zkC hz hK hP (mk_150 h01) rfl rfl) rfl rfl hl.1 rfl (lv_room (Nat.le_of_ble_eq_true rfl)) dX9_isBarred_80 ⟨Nat.le_of_ble_eq_true rfl, Nat.le_of_ble_eq_true rfl⟩) hS (fun H locs hP hS => ?_)
              refine lv_lload_n hx hb dX9_isBarred_83 rfl (lv_at hl 3 rfl) ?_
              refine lv_aload hx hb dX9_isBarred_84 (lv_at hl 0 rfl) ?_
              refine x_get (k := 100) (n := q5) hx hb hts i_X2 hown hK hP (mk_100 h_q5) rfl rfl 3 (by decide) rfl k_179 (v := .int (gI σ7 100 q5 3)) rfl dX9_isBarred_86 ?_
              refine lv_i2l hx hb dX9_isBarred_89 rfl ?_
              refine W.lcmp hx hb dX9_isBarred_90 ?_
              refine lv_if_ge (tgt := 96) hx hb dX9_isBarred_91 rfl (fun hc => ?_) (fun hc => ?_)
              · have hf := b_p hf hc
                refine lv_iinc (v := (v5 + (1 : Int32))) (lv' := [(5, .int (v5 + (1 : Int32))), (6, .ref (ad 100 q5)), (0, .ref (ad 450 0)), (1, .ref (ad 50 v1)), (2, .long v2), (4, .int v4)]) hx hb dX9_isBarred_96 hl (k := 5) rfl rfl (by decide) rfl (fun ls hl => ?_)
                refine lv_goto (tgt := 21) hx hb dX9_isBarred_99 rfl ?_
                exact ih21 v1 v2 v4 (v5 + (1 : Int32)) σ7 _ _ _ h_v1 hf (lv_sub hl [2, 3, 4, 5, 0] rfl) hP hS
              · have hf := b_n hf hc
                refine lv_iconst (v := (1 : Int32)) hx hb dX9_isBarred_94 rfl ?_
                have hf := Option.some.inj hf
                exact x_zret hx hb hr hlocks hK hP hS (by decide) (congrArg Prod.fst hf) (congrArg Prod.snd hf) dX9_isBarred_95
  have c102 : ∀ (σ : PS) (H : Heap) (locs : List Loc) (ls : Array Slot), X9_isBarred_c102 z  σ = some (res, σz) → lv_has ls 7 [] → va_P G vwCl (wld ad ca σ (LC z)) H → va_S A s.heap H locs → W p l e (headSpec wsX9_isBarred ({ frames := 4, cells := 0, slots := 0, locals := 91 })).room s m (([.ref (ad 450 0), .ref (ad 50 n1)] : List Value).toArray) below meth c H locs 0 0 (MQ below (va_Qi (fun r' u => r' = res ∧ u = σz) (ctB G ad ca (LC z)) A) (([.ref (ad 450 0), .ref (ad 50 n1)] : List Value).toArray) s 0 0 A) (F0 m 102 ls []) := by
    intro σ H locs ls hf hl hP hS
    unfold X9_isBarred_c102 at hf
    refine lv_iconst (v := (0 : Int32)) hx hb dX9_isBarred_102 rfl ?_
    have hf := Option.some.inj hf
    exact x_zret hx hb hr hlocks hK hP hS (by decide) (congrArg Prod.fst hf) (congrArg Prod.snd hf) dX9_isBarred_103
  refine lv_aload_n hx hb dX9_isBarred_0 rfl (lv_at hl 0 rfl) ?_
  refine x_get (k := 450) (n := 0) hx hb hts i_X9 hown hK hP (mk_450 h01) rfl rfl 6 (by decide) rfl k_45 (v := .ref (ad 300 0)) rfl dX9_isBarred_1 ?_
  obtain ⟨r1, hc1, hf⟩ := bd_e hf
  refine x_cl (va_runV (As := []) (rest := []) ⟨hx, hb, hml, hown, hts⟩ (t_X6_weightTogether l G ad ca A z hD  σ r1 hc1) (cwV 0 hts gr_X9_306 rfl rfl rfl h9_X6_weightTogether ⟨Nat.le_of_ble_eq_true rfl, Nat.le_of_ble_eq_true rfl⟩) (x_prV zkC hz hK hP (mk_300 h01) rfl rfl) rfl rfl hl.1 rfl (lv_room (Nat.le_of_ble_eq_true rfl)) dX9_isBarred_4 ⟨Nat.le_of_ble_eq_true rfl, Nat.le_of_ble_eq_true rfl⟩) hS (fun H locs hP hS => ?_)
  refine lv_lstore_n (lv' := [(2, .long r1), (0, .ref (ad 450 0)), (1, .ref (ad 50 n1))]) hx hb dX9_isBarred_7 rfl hl (by decide) rfl (fun ls hl => ?_)
  refine lv_aload_n hx hb dX9_isBarred_8 rfl (lv_at hl 2 rfl) ?_
  refine lv_aload_n hx hb dX9_isBarred_9 rfl (lv_at hl 1 rfl) ?_
  refine x_get (k := 450) (n := 0) hx hb hts i_X9 hown hK hP (mk_450 h01) rfl rfl 6 (by decide) rfl k_45 (v := .ref (ad 300 0)) rfl dX9_isBarred_10 ?_
  obtain ⟨r2, hc2, hf⟩ := bd_e hf
  refine x_ci (va_runV (As := [.ref (ad 300 0)]) (rest := []) ⟨hx, hb, hml, hown, hts⟩ (t_X1_takersOf l G ad ca A z n1 hD hn1 σ r2 hc2) (cwV 1 hts gr_X9_310 rfl rfl rfl h9_X1_takersOf ⟨Nat.le_of_ble_eq_true rfl, Nat.le_of_ble_eq_true rfl⟩) (x_prV zkC hz hK hP (mk_50 hn1) rfl rfl) rfl rfl hl.1 rfl (lv_room (Nat.le_of_ble_eq_true rfl)) dX9_isBarred_13 ⟨Nat.le_of_ble_eq_true rfl, Nat.le_of_ble_eq_true rfl⟩) hS (fun H locs hP hS => ?_)
  refine lv_istore (lv' := [(4, .int r2), (2, .long r1), (0, .ref (ad 450 0)), (1, .ref (ad 50 n1))]) hx hb dX9_isBarred_16 hl (by decide) rfl (fun ls hl => ?_)
  refine lv_iconst (v := (0 : Int32)) hx hb dX9_isBarred_18 rfl ?_
  refine lv_istore (lv' := [(5, .int (0 : Int32)), (4, .int r2), (2, .long r1), (0, .ref (ad 450 0)), (1, .ref (ad 50 n1))]) hx hb dX9_isBarred_19 hl (by decide) rfl (fun ls hl => ?_)
  exact l21 _ c102 _ n1 r1 r2 (0 : Int32) σ _ _ _ hn1 hf (lv_sub hl [3, 4, 2, 1, 0] rfl) hP hS
theorem h9_J9_floorMod_7cf53 : yJ9_floorMod_7cf53.cls ≠ "java/lang/invoke/MethodHandle" ∧ yJ9_floorMod_7cf53.cls ≠ "java/lang/invoke/VarHandle" ∧ (parseMethodDescriptor yJ9_floorMod_7cf53.desc).map (fun d => d.parameters.length) = some 2 := by decide +kernel
set_option maxRecDepth 100000 in
set_option maxHeartbeats 4000000 in
theorem t_J9_floorMod_7cf53 (l : Launch) (G : va_G) (ad : Nat → Nat → Nat) (ca : Nat → ClassId) (A : Nat → Prop) (z : Nat × Nat)  (x0 : Int32) (x1 : Int32) (hD : DW ad (LC z) A)  (σ : PS) (res : Int32) (hf : J9_floorMod_7cf53 z  x0 x1 σ = some res) : Met l yJ9_floorMod_7cf53 wsJ9_floorMod_7cf53 ({ frames := 0, cells := 0, slots := 0, locals := 0 }) (ctP G ad ca (LC z) σ ZC [.int x0, .int x1]) (va_Qi (fun r' u => r' = res ∧ u = σ) (ctB G ad ca (LC z)) A) 0 0 A := by
  refine va_MetF (cc := cJ9_floorMod_7cf53) (maxL := 3) (ret := (some .int)) (by decide +kernel) rfl ?_
  intro p e s m args below meth c s₁ B hml hv
  obtain ⟨rfl, hP, hK, hz⟩ := hv
  have hx := B.exec
  have hb := B.bytes
  have hr := B.returns
  have hts : ∀ w ∈ WW, w.before _ s = true := fun w h => atoms_spec (ws := wsJ9_floorMod_7cf53) B.pre w (List.mem_cons_of_mem _ h)
  have hown : s.vm.findClass RJ9 = some m.cls := findClass_of_methodNamed B.named
  have hlocks := B.notSynchronized
  have hS : va_S A s.heap s.heap [] := va_S.rf
  have hl := lv_entry ([.int x0, .int x1]) (n := 3) (Nat.le_of_ble_eq_true rfl)
  rw [lg_entry_eq]
  generalize (lg_sl ([.int x0, .int x1]) ++ List.replicate (3 - (lg_sl ([.int x0, .int x1])).length) Slot.unset).toArray = ls at hl ⊢
  have hl : lv_has ls 3 [(0, .int x0), (1, .int x1)] := hl
  unfold J9_floorMod_7cf53 at hf
  refine lv_iload_n hx hb dJ9_floorMod_7cf53_0 rfl (lv_at hl 0 rfl) ?_
  refine lv_iload_n hx hb dJ9_floorMod_7cf53_1 rfl (lv_at hl 1 rfl) ?_
  obtain ⟨g1, hf⟩ := gd_e hf
  refine lv_irem hx hb dJ9_floorMod_7cf53_2 (of_decide_eq_true g1) ?_
  obtain ⟨y2, e_y2, hf⟩ := nm_i hf
  refine x_nmI e_y2 ?_
  refine lv_istore_n (lv' := [(2, .int y2), (0, .int x0), (1, .int x1)]) hx hb dJ9_floorMod_7cf53_3 rfl hl (by decide) rfl (fun ls hl => ?_)
  refine lv_iload_n hx hb dJ9_floorMod_7cf53_4 rfl (lv_at hl 1 rfl) ?_
  refine lv_iload_n hx hb dJ9_floorMod_7cf53_5 rfl (lv_at hl 2 rfl) ?_
  refine lv_ixor hx hb dJ9_floorMod_7cf53_6 ?_
  refine lv_if_ge (tgt := 18) hx hb dJ9_floorMod_7cf53_7 rfl (fun hc => ?_) (fun hc => ?_)
  · have hf := b_p hf hc
    refine lv_iload_n hx hb dJ9_floorMod_7cf53_18 rfl (lv_at hl 0 rfl) ?_
    exact x_iret hx hb hr hlocks hK hP hS (Option.some.inj hf) rfl dJ9_floorMod_7cf53_19
  · have hf := b_n hf hc
    refine lv_iload_n hx hb dJ9_floorMod_7cf53_10 rfl (lv_at hl 0 rfl) ?_
    refine lv_if_eq (tgt := 18) hx hb dJ9_floorMod_7cf53_11 rfl (fun hc => ?_) (fun hc => ?_)
    · have hf := b_p hf hc
      refine lv_iload_n hx hb dJ9_floorMod_7cf53_18 rfl (lv_at hl 0 rfl) ?_
      exact x_iret hx hb hr hlocks hK hP hS (Option.some.inj hf) rfl dJ9_floorMod_7cf53_19
    · have hf := b_n hf hc
      refine lv_iload_n hx hb dJ9_floorMod_7cf53_14 rfl (lv_at hl 0 rfl) ?_
      refine lv_iload_n hx hb dJ9_floorMod_7cf53_15 rfl (lv_at hl 2 rfl) ?_
      refine lv_iadd hx hb dJ9_floorMod_7cf53_16 ?_
      exact x_iret hx hb hr hlocks hK hP hS (Option.some.inj hf) rfl dJ9_floorMod_7cf53_17
theorem h9_X9_countUp : yX9_countUp.cls = RX9 ∧ yX9_countUp.cls ≠ "java/lang/invoke/MethodHandle" ∧ yX9_countUp.cls ≠ "java/lang/invoke/VarHandle" ∧ (parseMethodDescriptor yX9_countUp.desc).map (fun d => d.parameters.length) = some 1 := by decide +kernel
set_option maxRecDepth 100000 in
set_option maxHeartbeats 4000000 in
theorem t_X9_countUp (l : Launch) (G : va_G) (ad : Nat → Nat → Nat) (ca : Nat → ClassId) (A : Nat → Prop) (z : Nat × Nat)  (x1 : Int32) (hD : DW ad (LC z) A)  (σ : PS) (res : Int32) (σz : PS) (hf : X9_countUp z  x1 σ = some (res, σz)) : Met l yX9_countUp wsX9_countUp ({ frames := 0, cells := 0, slots := 0, locals := 0 }) (ctP G ad ca (LC z) σ ZC [.ref (ad 450 0), .int x1]) (va_Qi (fun r' u => r' = res ∧ u = σz) (ctB G ad ca (LC z)) A) 0 0 A := by
  refine Met.ofW (cc := cX9_countUp) (maxL := 2) (ret := (some .int)) (by decide) rfl ?_
  intro p e s m args below meth c s₁ B hml hv
  obtain ⟨rfl, hP, hK, hz⟩ := hv
  have hx := B.exec
  have hb := B.bytes
  have hr := B.returns
  have hts : ∀ w ∈ WW, w.before _ s = true := fun w h => atoms_spec (ws := wsX9_countUp) B.pre w (List.mem_cons_of_mem _ h)
  have hown : s.vm.findClass RX9 = some m.cls := findClass_of_methodNamed B.named
  have hlocks := B.notSynchronized
  have hS : va_S A s.heap s.heap [] := va_S.rf
  have k_39 := hts _ kf_X9_39
  have hl := lv_entry ([.ref (ad 450 0), .int x1]) (n := 2) (Nat.le_of_ble_eq_true rfl)
  rw [lg_entry_eq]
  generalize (lg_sl ([.ref (ad 450 0), .int x1]) ++ List.replicate (2 - (lg_sl ([.ref (ad 450 0), .int x1])).length) Slot.unset).toArray = ls at hl ⊢
  have hl : lv_has ls 2 [(0, .ref (ad 450 0)), (1, .int x1)] := hl
  unfold X9_countUp at hf
  refine lv_aload_n hx hb dX9_countUp_0 rfl (lv_at hl 0 rfl) ?_
  refine x_get (k := 450) (n := 0) hx hb hts i_X9 hown hK hP (mk_450 h01) rfl rfl 5 (by decide) rfl k_39 (v := .ref (ad 456 0)) rfl dX9_countUp_1 ?_
  refine lv_iload_n hx hb dX9_countUp_4 rfl (lv_at hl 1 rfl) ?_
  refine lv_dup2_11 hx hb dX9_countUp_5 rfl rfl ?_
  obtain ⟨g1, hf⟩ := gd_e hf
  refine x_iald (k := 456) (n := 0) hx hb hK hP (mk_456 h01) rfl g1 dX9_countUp_6 ?_
  refine lv_iconst (v := (1 : Int32)) hx hb dX9_countUp_7 rfl ?_
  refine lv_iadd hx hb dX9_countUp_8 ?_
  obtain ⟨g2, hf⟩ := gd_e hf
  refine x_iast (k := 456) (n := 0) hx hb hK hD hP hS (mk_456 h01) rfl g2 dX9_countUp_9 (fun H locs hP hS => ?_)
  obtain ⟨σ3, e_σ3, hf⟩ := nm_i hf
  have hP : va_P G vwCl (wld ad ca σ3 (LC z)) H := by rw [e_σ3]; exact hP
  refine lv_aload_n hx hb dX9_countUp_10 rfl (lv_at hl 0 rfl) ?_
  refine x_get (k := 450) (n := 0) hx hb hts i_X9 hown hK hP (mk_450 h01) rfl rfl 5 (by decide) rfl k_39 (v := .ref (ad 456 0)) rfl dX9_countUp_11 ?_
  refine lv_iload_n hx hb dX9_countUp_14 rfl (lv_at hl 1 rfl) ?_
  obtain ⟨g4, hf⟩ := gd_e hf
  refine x_iald (k := 456) (n := 0) hx hb hK hP (mk_456 h01) rfl g4 dX9_countUp_15 ?_
  have hf := Option.some.inj hf
  exact x_iret hx hb hr hlocks hK hP hS (congrArg Prod.fst hf) (congrArg Prod.snd hf) dX9_countUp_16
theorem h9_X9_bringSample : yX9_bringSample.cls = RX9 ∧ yX9_bringSample.cls ≠ "java/lang/invoke/MethodHandle" ∧ yX9_bringSample.cls ≠ "java/lang/invoke/VarHandle" ∧ (parseMethodDescriptor yX9_bringSample.desc).map (fun d => d.parameters.length) = some 1 := by decide +kernel
set_option maxRecDepth 100000 in
set_option maxHeartbeats 4000000 in
theorem t_X9_bringSample (l : Launch) (G : va_G) (ad : Nat → Nat → Nat) (ca : Nat → ClassId) (A : Nat → Prop) (z : Nat × Nat)  (x1 : Int32) (hD : DW ad (LC z) A)  (σ : PS) (res : PS) (hf : X9_bringSample z  x1 σ = some res) : Met l yX9_bringSample wsX9_bringSample ({ frames := 1, cells := 0, slots := 0, locals := 22 }) (ctP G ad ca (LC z) σ ZC [.ref (ad 450 0), .int x1]) (va_Qv (fun u => u = res) (ctB G ad ca (LC z)) A) 0 0 A := by
  refine Met.ofW (cc := cX9_bringSample) (maxL := 3) (ret := none) (by decide) rfl ?_
  intro p e s m args below meth c s₁ B hml hv
  obtain ⟨rfl, hP, hK, hz⟩ := hv
  have hx := B.exec
  have hb := B.bytes
  have hr := B.returns
  have hts : ∀ w ∈ WW, w.before _ s = true := fun w h => atoms_spec (ws := wsX9_bringSample) B.pre w (List.mem_cons_of_mem _ h)
  have hown : s.vm.findClass RX9 = some m.cls := findClass_of_methodNamed B.named
  have hlocks := B.notSynchronized
  have hS : va_S A s.heap s.heap [] := va_S.rf
  have k_19 := hts _ kf_X9_19
  have k_45 := hts _ kf_X9_45
  have k_52 := hts _ kf_X9_52
  have k_283 := hts _ kf_X9_283
  have k_284 := hts _ kf_X9_284
  have hl := lv_entry ([.ref (ad 450 0), .int x1]) (n := 3) (Nat.le_of_ble_eq_true rfl)
  rw [lg_entry_eq]
  generalize (lg_sl ([.ref (ad 450 0), .int x1]) ++ List.replicate (3 - (lg_sl ([.ref (ad 450 0), .int x1])).length) Slot.unset).toArray = ls at hl ⊢
  have hl : lv_has ls 3 [(0, .ref (ad 450 0)), (1, .int x1)] := hl
  unfold X9_bringSample at hf
  refine lv_aload_n hx hb dX9_bringSample_0 rfl (lv_at hl 0 rfl) ?_
  refine x_get (k := 450) (n := 0) hx hb hts i_X9 hown hK hP (mk_450 h01) rfl rfl 1 (by decide) rfl k_19 (v := .ref (ad 350 0)) rfl dX9_bringSample_1 ?_
  refine lv_aload_n hx hb dX9_bringSample_4 rfl (lv_at hl 0 rfl) ?_
  refine x_get (k := 450) (n := 0) hx hb hts i_X9 hown hK hP (mk_450 h01) rfl rfl 6 (by decide) rfl k_45 (v := .ref (ad 300 0)) rfl dX9_bringSample_5 ?_
  refine x_get (k := 300) (n := 0) hx hb hts i_X6 hown hK hP (mk_300 h01) rfl rfl 0 (by decide) rfl k_283 (v := .ref (ad 301 0)) rfl dX9_bringSample_8 ?_
  refine lv_iconst (v := (0 : Int32)) hx hb dX9_bringSample_11 rfl ?_
  obtain ⟨g1, hf⟩ := gd_e hf
  refine x_iald (k := 301) (n := 0) hx hb hK hP (mk_301 h01) rfl g1 dX9_bringSample_12 ?_
  refine lv_aload_n hx hb dX9_bringSample_13 rfl (lv_at hl 0 rfl) ?_
  refine x_get (k := 450) (n := 0) hx hb hts i_X9 hown hK hP (mk_450 h01) rfl rfl 6 (by decide) rfl k_45 (v := .ref (ad 300 0)) rfl dX9_bringSample_14 ?_
  refine x_get (k := 300) (n := 0) hx hb hts i_X6 hown hK hP (mk_300 h01) rfl rfl 1 (by decide) rfl k_284 (v := .ref (ad 302 0)) rfl dX9_bringSample_17 ?_
  refine lv_iconst (v := (0 : Int32)) hx hb dX9_bringSample_20 rfl ?_
  obtain ⟨g2, hf⟩ := gd_e hf
  refine x_iald (k := 302) (n := 0) hx hb hK hP (mk_302 h01) rfl g2 dX9_bringSample_21 ?_
  refine lv_iload_n hx hb dX9_bringSample_22 rfl (lv_at hl 1 rfl) ?_
  refine lv_iadd hx hb dX9_bringSample_23 ?_
  obtain ⟨r3, σ3, hc3, hf⟩ := bp_e hf
  refine x_ci (va_runV (As := [.int (gI σ 301 0 (ix (0 : Int32))), .int ((gI σ 302 0 (ix (0 : Int32))) + x1)]) (rest := []) ⟨hx, hb, hml, hown, hts⟩ (t_X7_bring l G ad ca A z (gI σ 301 0 (ix (0 : Int32))) ((gI σ 302 0 (ix (0 : Int32))) + x1) hD  σ r3 σ3 hc3) (cwV 2 hts gr_X9_111 rfl rfl rfl h9_X7_bring ⟨Nat.le_of_ble_eq_true rfl, Nat.le_of_ble_eq_true rfl⟩) (x_prV zkC hz hK hP (mk_350 h01) rfl rfl) rfl rfl hl.1 rfl (lv_room (Nat.le_of_ble_eq_true rfl)) dX9_bringSample_24 ⟨Nat.le_of_ble_eq_true rfl, Nat.le_of_ble_eq_true rfl⟩) hS (fun H locs hP hS => ?_)
  refine lv_istore_n (lv' := [(2, .int r3), (0, .ref (ad 450 0)), (1, .int x1)]) hx hb dX9_bringSample_27 rfl hl (by decide) rfl (fun ls hl => ?_)
  refine lv_iload_n hx hb dX9_bringSample_28 rfl (lv_at hl 0 rfl) ?_
  refine lv_iconst (v := (-1 : Int32)) hx hb dX9_bringSample_29 rfl ?_
  refine lv_icmp_ne (tgt := 44) hx hb dX9_bringSample_30 rfl (fun hc => ?_) (fun hc => ?_)
  · have hf := b_n hf hc
    refine lv_aload_n hx hb dX9_bringSample_44 rfl (lv_at hl 1 rfl) ?_
    refine x_get (k := 450) (n := 0) hx hb hts i_X9 hown hK hP (mk_450 h01) rfl rfl 7 (by decide) rfl k_52 (v := .ref (ad 150 0)) rfl dX9_bringSample_45 ?_
    refine lv_iload_n hx hb dX9_bringSample_48 rfl (lv_at hl 0 rfl) ?_
    refine lv_i2l hx hb dX9_bringSample_49 rfl ?_
    obtain ⟨σ4, hc4, hf⟩ := bd_e hf
    refine x_cv (va_runV (As := [.long r3.toInt64]) (rest := []) ⟨hx, hb, hml, hown, hts⟩ (t_X3_endWithValue l G ad ca A z r3.toInt64 hD  σ3 σ4 hc4) (cwV 1 hts gr_X9_325 rfl rfl rfl h9_X3_endWithValue ⟨Nat.le_of_ble_eq_true rfl, Nat.le_of_ble_eq_true rfl⟩) (x_prV zkC hz hK hP (mk_150 h01) rfl rfl) rfl rfl hl.1 rfl (lv_room (Nat.le_of_ble_eq_true rfl)) dX9_bringSample_50 ⟨Nat.le_of_ble_eq_true rfl, Nat.le_of_ble_eq_true rfl⟩) hS (fun H locs hP hS => ?_)
    exact x_vret hx hb hr hlocks hK hP hS (Option.some.inj hf) dX9_bringSample_53
  · have hf := b_p hf hc
    refine lv_aload_n hx hb dX9_bringSample_33 rfl (lv_at hl 1 rfl) ?_
    refine x_get (k := 450) (n := 0) hx hb hts i_X9 hown hK hP (mk_450 h01) rfl rfl 7 (by decide) rfl k_52 (v := .ref (ad 150 0)) rfl dX9_bringSample_34 ?_
    refine lv_iconst (v := (-1 : Int32)) hx hb dX9_bringSample_37 rfl ?_
    obtain ⟨σ5, hc5, hf⟩ := bd_e hf
    refine x_cv (va_runV (As := [.int (-1 : Int32)]) (rest := []) ⟨hx, hb, hml, hown, hts⟩ (t_X3_endWithFailure l G ad ca A z (-1 : Int32) hD  σ3 σ5 hc5) (cwV 1 hts gr_X9_329 rfl rfl rfl h9_X3_endWithFailure ⟨Nat.le_of_ble_eq_true rfl, Nat.le_of_ble_eq_true rfl⟩) (x_prV zkC hz hK hP (mk_150 h01) rfl rfl) rfl rfl hl.1 rfl (lv_room (Nat.le_of_ble_eq_true rfl)) dX9_bringSample_38 ⟨Nat.le_of_ble_eq_true rfl, Nat.le_of_ble_eq_true rfl⟩) hS (fun H locs hP hS => ?_)
    refine lv_goto (tgt := 53) hx hb dX9_bringSample_41 rfl ?_
    exact x_vret hx hb hr hlocks hK hP hS (Option.some.inj hf) dX9_bringSample_53
theorem h9_X9_calledWithin : yX9_calledWithin.cls = RX9 ∧ yX9_calledWithin.cls ≠ "java/lang/invoke/MethodHandle" ∧ yX9_calledWithin.cls ≠ "java/lang/invoke/VarHandle" ∧ (parseMethodDescriptor yX9_calledWithin.desc).map (fun d => d.parameters.length) = some 1 := by decide +kernel
set_option maxRecDepth 100000 in
set_option maxHeartbeats 4000000 in
theorem t_X9_calledWithin (l : Launch) (G : va_G) (ad : Nat → Nat → Nat) (ca : Nat → ClassId) (A : Nat → Prop) (z : Nat × Nat)  (n1 : Nat) (hD : DW ad (LC z) A) (hn1 : n1 < z.2) (σ : PS) (res : Option Nat) (σz : PS) (hf : X9_calledWithin z  n1 σ = some (res, σz)) : Met l yX9_calledWithin wsX9_calledWithin ({ frames := 1, cells := 0, slots := 0, locals := 22 }) (ctP G ad ca (LC z) σ ZC [.ref (ad 450 0), .ref (ad 100 n1)]) (va_Qq (fun r' u => r' = Option.map (ad 50) res ∧ u = σz) (ctB G ad ca (LC z)) A) 0 0 A := by
  refine Met.ofW (cc := cX9_calledWithin) (maxL := 3) (ret := (some (.object "CallBoard$Function"))) (by decide) rfl ?_
  intro p e s m args below meth c s₁ B hml hv
  obtain ⟨rfl, hP, hK, hz⟩ := hv
  have hx := B.exec
  have hb := B.bytes
  have hr := B.returns
  have hts : ∀ w ∈ WW, w.before _ s = true := fun w h => atoms_spec (ws := wsX9_calledWithin) B.pre w (List.mem_cons_of_mem _ h)
  have hown : s.vm.findClass RX9 = some m.cls := findClass_of_methodNamed B.named
  have hlocks := B.notSynchronized
  have hS : va_S A s.heap s.heap [] := va_S.rf
  have k_45 := hts _ kf_X9_45
  have k_52 := hts _ kf_X9_52
  have k_179 := hts _ kf_X9_179
  have k_219 := hts _ kf_X9_219
  have k_252 := hts _ kf_X9_252
  have k_285 := hts _ kf_X9_285
  have hl := lv_entry ([.ref (ad 450 0), .ref (ad 100 n1)]) (n := 3) (Nat.le_of_ble_eq_true rfl)
  rw [lg_entry_eq]
  generalize (lg_sl ([.ref (ad 450 0), .ref (ad 100 n1)]) ++ List.replicate (3 - (lg_sl ([.ref (ad 450 0), .ref (ad 100 n1)])).length) Slot.unset).toArray = ls at hl ⊢
  have hl : lv_has ls 3 [(0, .ref (ad 450 0)), (1, .ref (ad 100 n1))] := hl
  unfold X9_calledWithin at hf
  refine lv_aload_n hx hb dX9_calledWithin_0 rfl (lv_at hl 0 rfl) ?_
  refine lv_aload_n hx hb dX9_calledWithin_1 rfl (lv_at hl 1 rfl) ?_
  refine x_get (k := 100) (n := n1) hx hb hts i_X2 hown hK hP (mk_100 hn1) rfl rfl 3 (by decide) rfl k_179 (v := .int (gI σ 100 n1 3)) rfl dX9_calledWithin_2 ?_
  refine lv_iconst (v := (4 : Int32)) hx hb dX9_calledWithin_5 rfl ?_
  obtain ⟨r1, hc1, hf⟩ := bd_e hf
  refine x_ci (va_runS (As := [.int (gI σ 100 n1 3), .int (4 : Int32)]) (rest := [.ref (ad 450 0)]) ⟨hx, hb, hml, hown, hts⟩ (t_J9_floorMod_7cf53 l G ad ca A z (gI σ 100 n1 3) (4 : Int32) hD  σ r1 hc1) (va_cwS 2 hts gr_X9_332 rfl rfl rfl h9_J9_floorMod_7cf53 ⟨Nat.le_of_ble_eq_true rfl, Nat.le_of_ble_eq_true rfl⟩) (x_prS zkC hz hK hP) rfl rfl hl.1 rfl (lv_room (Nat.le_of_ble_eq_true rfl)) dX9_calledWithin_6 ⟨Nat.le_of_ble_eq_true rfl, Nat.le_of_ble_eq_true rfl⟩) hS (fun H locs hP hS => ?_)
  obtain ⟨r2, hc2, hf⟩ := bd_e hf
  refine x_cq (va_runV (As := [.int r1]) (rest := []) ⟨hx, hb, hml, hown, hts⟩ (t_X9_functionAt l G ad ca A z r1 hD  σ r2 hc2) (cwV 1 hts gr_X9_129 rfl rfl rfl h9_X9_functionAt ⟨Nat.le_of_ble_eq_true rfl, Nat.le_of_ble_eq_true rfl⟩) (x_prV zkC hz hK hP (mk_450 h01) rfl rfl) rfl rfl hl.1 rfl (lv_room (Nat.le_of_ble_eq_true rfl)) dX9_calledWithin_9 ⟨Nat.le_of_ble_eq_true rfl, Nat.le_of_ble_eq_true rfl⟩) hS (fun H locs hP hS => ?_)
  refine x_astore_nQ (lv' := [(2, va_rf (Option.map (ad 50) r2)), (0, .ref (ad 450 0)), (1, .ref (ad 100 n1))]) hx hb dX9_calledWithin_12 rfl hl (by decide) rfl (fun ls hl => ?_)
  refine x_aload_nQ hx hb dX9_calledWithin_13 rfl (lv_at hl 0 rfl) ?_
  cases r2 with
  | none =>
    have hf := oc_n hf
    refine lv_ifnullN (tgt := 31) hx hb dX9_calledWithin_14 rfl ?_
    refine lv_aload_n hx hb dX9_calledWithin_31 rfl (lv_at hl 1 rfl) ?_
    refine x_get (k := 450) (n := 0) hx hb hts i_X9 hown hK hP (mk_450 h01) rfl rfl 7 (by decide) rfl k_52 (v := .ref (ad 150 0)) rfl dX9_calledWithin_32 ?_
    refine lv_bipush (v := (-2 : Int32)) hx hb dX9_calledWithin_35 rfl ?_
    obtain ⟨σ4, hc4, hf⟩ := bd_e hf
    refine x_cv (va_runV (As := [.int (-2 : Int32)]) (rest := []) ⟨hx, hb, hml, hown, hts⟩ (t_X3_endWithFailure l G ad ca A z (-2 : Int32) hD  σ σ4 hc4) (cwV 1 hts gr_X9_329 rfl rfl rfl h9_X3_endWithFailure ⟨Nat.le_of_ble_eq_true rfl, Nat.le_of_ble_eq_true rfl⟩) (x_prV zkC hz hK hP (mk_150 h01) rfl rfl) rfl rfl hl.1 rfl (lv_room (Nat.le_of_ble_eq_true rfl)) dX9_calledWithin_37 ⟨Nat.le_of_ble_eq_true rfl, Nat.le_of_ble_eq_true rfl⟩) hS (fun H locs hP hS => ?_)
    refine lv_null hx hb dX9_calledWithin_40 ?_
    have hf := Option.some.inj hf
    exact x_aret (o := none) (t0 := 50) hx hb hr hlocks hK hP hS (congrArg Prod.fst hf) (congrArg Prod.snd hf) dX9_calledWithin_41
  | some q3 =>
    obtain ⟨h_q3, hf⟩ := oc_s hf
    refine lv_ifnull hx hb dX9_calledWithin_14 ?_
    refine lv_aload_n hx hb dX9_calledWithin_17 rfl (lv_at hl 0 rfl) ?_
    refine x_get (k := 50) (n := q3) hx hb hts i_X1 hown hK hP (mk_50 h_q3) rfl rfl 2 (by decide) rfl k_252 (v := .int (gI σ 50 q3 2)) rfl dX9_calledWithin_18 ?_
    refine lv_aload_n hx hb dX9_calledWithin_21 rfl (lv_at hl 1 rfl) ?_
    refine x_get (k := 450) (n := 0) hx hb hts i_X9 hown hK hP (mk_450 h01) rfl rfl 6 (by decide) rfl k_45 (v := .ref (ad 300 0)) rfl dX9_calledWithin_22 ?_
    refine x_get (k := 300) (n := 0) hx hb hts i_X6 hown hK hP (mk_300 h01) rfl rfl 2 (by decide) rfl k_285 (v := .int (gI σ 300 0 2)) rfl dX9_calledWithin_25 ?_
    refine lv_icmp_eq (tgt := 42) hx hb dX9_calledWithin_28 rfl (fun hc => ?_) (fun hc => ?_)
    · have hf := b_p hf hc
      refine lv_aload_n hx hb dX9_calledWithin_42 rfl (lv_at hl 1 rfl) ?_
      refine x_get (k := 450) (n := 0) hx hb hts i_X9 hown hK hP (mk_450 h01) rfl rfl 7 (by decide) rfl k_52 (v := .ref (ad 150 0)) rfl dX9_calledWithin_43 ?_
      refine lv_dup hx hb dX9_calledWithin_46 rfl ?_
      refine x_get (k := 150) (n := 0) hx hb hts i_X3 hown hK hP (mk_150 h01) rfl rfl 5 (by decide) rfl k_219 (v := .long (gL σ 150 0 5)) rfl dX9_calledWithin_47 ?_
      refine lv_lconst (v := (1 : Int64)) hx hb dX9_calledWithin_50 rfl ?_
      refine lv_ladd hx hb dX9_calledWithin_51 ?_
      refine x_putL (k := 150) (n := 0) hx hb hts i_X3 tyX3 tyX3_ok nmX3 hown hK hD hP hS (mk_150 h01) rfl rfl 5 (by decide) rfl k_219 rfl rfl rfl rfl dX9_calledWithin_52 (fun H locs hP hS => ?_)
      obtain ⟨σ5, e_σ5, hf⟩ := nm_i hf
      have hP : va_P G vwCl (wld ad ca σ5 (LC z)) H := by rw [e_σ5]; exact hP
      refine lv_aload_n hx hb dX9_calledWithin_55 rfl (lv_at hl 0 rfl) ?_
      have hf := Option.some.inj hf
      exact x_aret (o := (some q3)) (t0 := 50) hx hb hr hlocks hK hP hS (congrArg Prod.fst hf) (congrArg Prod.snd hf) dX9_calledWithin_56
    · have hf := b_n hf hc
      refine lv_aload_n hx hb dX9_calledWithin_31 rfl (lv_at hl 1 rfl) ?_
      refine x_get (k := 450) (n := 0) hx hb hts i_X9 hown hK hP (mk_450 h01) rfl rfl 7 (by decide) rfl k_52 (v := .ref (ad 150 0)) rfl dX9_calledWithin_32 ?_
      refine lv_bipush (v := (-2 : Int32)) hx hb dX9_calledWithin_35 rfl ?_
      obtain ⟨σ6, hc6, hf⟩ := bd_e hf
      refine x_cv (va_runV (As := [.int (-2 : Int32)]) (rest := []) ⟨hx, hb, hml, hown, hts⟩ (t_X3_endWithFailure l G ad ca A z (-2 : Int32) hD  σ σ6 hc6) (cwV 1 hts gr_X9_329 rfl rfl rfl h9_X3_endWithFailure ⟨Nat.le_of_ble_eq_true rfl, Nat.le_of_ble_eq_true rfl⟩) (x_prV zkC hz hK hP (mk_150 h01) rfl rfl) rfl rfl hl.1 rfl (lv_room (Nat.le_of_ble_eq_true rfl)) dX9_calledWithin_37 ⟨Nat.le_of_ble_eq_true rfl, Nat.le_of_ble_eq_true rfl⟩) hS (fun H locs hP hS => ?_)
      refine lv_null hx hb dX9_calledWithin_40 ?_
      have hf := Option.some.inj hf
      exact x_aret (o := none) (t0 := 50) hx hb hr hlocks hK hP hS (congrArg Prod.fst hf) (congrArg Prod.snd hf) dX9_calledWithin_41
theorem h9_X9_act : yX9_act.cls = RX9 ∧ yX9_act.cls ≠ "java/lang/invoke/MethodHandle" ∧ yX9_act.cls ≠ "java/lang/invoke/VarHandle" ∧ (parseMethodDescriptor yX9_act.desc).map (fun d => d.parameters.length) = some 1 := by decide +kernel
set_option maxRecDepth 100000 in
set_option maxHeartbeats 4000000 in
theorem t_X9_act (l : Launch) (G : va_G) (ad : Nat → Nat → Nat) (ca : Nat → ClassId) (A : Nat → Prop) (z : Nat × Nat)  (n1 : Nat) (hD : DW ad (LC z) A) (hn1 : n1 < z.2) (σ : PS) (res : Option Nat) (σz : PS) (hf : X9_act z  n1 σ = some (res, σz)) : Met l yX9_act wsX9_act ({ frames := 2, cells := 0, slots := 0, locals := 44 }) (ctP G ad ca (LC z) σ ZC [.ref (ad 450 0), .ref (ad 100 n1)]) (va_Qq (fun r' u => r' = Option.map (ad 50) res ∧ u = σz) (ctB G ad ca (LC z)) A) 0 0 A := by
  refine Met.ofW (cc := cX9_act) (maxL := 2) (ret := (some (.object "CallBoard$Function"))) (by decide) rfl ?_
  intro p e s m args below meth c s₁ B hml hv
  obtain ⟨rfl, hP, hK, hz⟩ := hv
  have hx := B.exec
  have hb := B.bytes
  have hr := B.returns
  have hts : ∀ w ∈ WW, w.before _ s = true := fun w h => atoms_spec (ws := wsX9_act) B.pre w (List.mem_cons_of_mem _ h)
  have hown : s.vm.findClass RX9 = some m.cls := findClass_of_methodNamed B.named
  have hlocks := B.notSynchronized
  have hS : va_S A s.heap s.heap [] := va_S.rf
  have k_45 := hts _ kf_X9_45
  have k_52 := hts _ kf_X9_52
  have k_176 := hts _ kf_X9_176
  have k_179 := hts _ kf_X9_179
  have hl := lv_entry ([.ref (ad 450 0), .ref (ad 100 n1)]) (n := 2) (Nat.le_of_ble_eq_true rfl)
  rw [lg_entry_eq]
  generalize (lg_sl ([.ref (ad 450 0), .ref (ad 100 n1)]) ++ List.replicate (2 - (lg_sl ([.ref (ad 450 0), .ref (ad 100 n1)])).length) Slot.unset).toArray = ls at hl ⊢
  have hl : lv_has ls 2 [(0, .ref (ad 450 0)), (1, .ref (ad 100 n1))] := hl
  unfold X9_act at hf
  refine lv_aload_n hx hb dX9_act_0 rfl (lv_at hl 1 rfl) ?_
  refine x_get (k := 100) (n := n1) hx hb hts i_X2 hown hK hP (mk_100 hn1) rfl rfl 2 (by decide) rfl k_176 (v := .int (gI σ 100 n1 2)) rfl dX9_act_1 ?_
  by_cases hc0 : (gI σ 100 n1 2) = (0 : Int32)
  · have hf := b_p hf hc0
    refine lv_tableIn (off := 44) (tgt := 48) hx hb dX9_act_4 (by rw [hc0]; decide) (by rw [hc0]; decide) (by rw [hc0]; rfl) rfl ?_
    refine lv_aload_n hx hb dX9_act_48 rfl (lv_at hl 0 rfl) ?_
    refine x_get (k := 450) (n := 0) hx hb hts i_X9 hown hK hP (mk_450 h01) rfl rfl 7 (by decide) rfl k_52 (v := .ref (ad 150 0)) rfl dX9_act_49 ?_
    refine lv_aload_n hx hb dX9_act_52 rfl (lv_at hl 1 rfl) ?_
    refine x_get (k := 100) (n := n1) hx hb hts i_X2 hown hK hP (mk_100 hn1) rfl rfl 3 (by decide) rfl k_179 (v := .int (gI σ 100 n1 3)) rfl dX9_act_53 ?_
    refine lv_i2l hx hb dX9_act_56 rfl ?_
    obtain ⟨σ1, hc1, hf⟩ := bd_e hf
    refine x_cv (va_runV (As := [.long (gI σ 100 n1 3).toInt64]) (rest := []) ⟨hx, hb, hml, hown, hts⟩ (t_X3_endWithValue l G ad ca A z (gI σ 100 n1 3).toInt64 hD  σ σ1 hc1) (cwV 1 hts gr_X9_325 rfl rfl rfl h9_X3_endWithValue ⟨Nat.le_of_ble_eq_true rfl, Nat.le_of_ble_eq_true rfl⟩) (x_prV zkC hz hK hP (mk_150 h01) rfl rfl) rfl rfl hl.1 rfl (lv_room (Nat.le_of_ble_eq_true rfl)) dX9_act_57 ⟨Nat.le_of_ble_eq_true rfl, Nat.le_of_ble_eq_true rfl⟩) hS (fun H locs hP hS => ?_)
    refine lv_null hx hb dX9_act_60 ?_
    have hf := Option.some.inj hf
    exact x_aret (o := none) (t0 := 50) hx hb hr hlocks hK hP hS (congrArg Prod.fst hf) (congrArg Prod.snd hf) dX9_act_61
  have hf := b_n hf hc0
  by_cases hc1 : (gI σ 100 n1 2) = (1 : Int32)
  · have hf := b_p hf hc1
    refine lv_tableIn (off := 58) (tgt := 62) hx hb dX9_act_4 (by rw [hc1]; decide) (by rw [hc1]; decide) (by rw [hc1]; rfl) rfl ?_
    refine lv_aload_n hx hb dX9_act_62 rfl (lv_at hl 0 rfl) ?_
    refine x_get (k := 450) (n := 0) hx hb hts i_X9 hown hK hP (mk_450 h01) rfl rfl 7 (by decide) rfl k_52 (v := .ref (ad 150 0)) rfl dX9_act_63 ?_
    refine lv_aload_n hx hb dX9_act_66 rfl (lv_at hl 0 rfl) ?_
    refine x_get (k := 450) (n := 0) hx hb hts i_X9 hown hK hP (mk_450 h01) rfl rfl 6 (by decide) rfl k_45 (v := .ref (ad 300 0)) rfl dX9_act_67 ?_
    obtain ⟨r2, hc2, hf⟩ := bd_e hf
    refine x_cl (va_runV (As := []) (rest := [.ref (ad 150 0)]) ⟨hx, hb, hml, hown, hts⟩ (t_X6_weightTogether l G ad ca A z hD  σ r2 hc2) (cwV 0 hts gr_X9_306 rfl rfl rfl h9_X6_weightTogether ⟨Nat.le_of_ble_eq_true rfl, Nat.le_of_ble_eq_true rfl⟩) (x_prV zkC hz hK hP (mk_300 h01) rfl rfl) rfl rfl hl.1 rfl (lv_room (Nat.le_of_ble_eq_true rfl)) dX9_act_70 ⟨Nat.le_of_ble_eq_true rfl, Nat.le_of_ble_eq_true rfl⟩) hS (fun H locs hP hS => ?_)
    refine lv_aload_n hx hb dX9_act_73 rfl (lv_at hl 1 rfl) ?_
    refine x_get (k := 100) (n := n1) hx hb hts i_X2 hown hK hP (mk_100 hn1) rfl rfl 3 (by decide) rfl k_179 (v := .int (gI σ 100 n1 3)) rfl dX9_act_74 ?_
    refine lv_i2l hx hb dX9_act_77 rfl ?_
    refine lv_ladd hx hb dX9_act_78 ?_
    obtain ⟨σ3, hc3, hf⟩ := bd_e hf
    refine x_cv (va_runV (As := [.long (r2 + (gI σ 100 n1 3).toInt64)]) (rest := []) ⟨hx, hb, hml, hown, hts⟩ (t_X3_endWithValue l G ad ca A z (r2 + (gI σ 100 n1 3).toInt64) hD  σ σ3 hc3) (cwV 1 hts gr_X9_325 rfl rfl rfl h9_X3_endWithValue ⟨Nat.le_of_ble_eq_true rfl, Nat.le_of_ble_eq_true rfl⟩) (x_prV zkC hz hK hP (mk_150 h01) rfl rfl) rfl rfl hl.1 rfl (lv_room (Nat.le_of_ble_eq_true rfl)) dX9_act_79 ⟨Nat.le_of_ble_eq_true rfl, Nat.le_of_ble_eq_true rfl⟩) hS (fun H locs hP hS => ?_)
    refine lv_null hx hb dX9_act_82 ?_
    have hf := Option.some.inj hf
    exact x_aret (o := none) (t0 := 50) hx hb hr hlocks hK hP hS (congrArg Prod.fst hf) (congrArg Prod.snd hf) dX9_act_83
  have hf := b_n hf hc1
  by_cases hc2 : (gI σ 100 n1 2) = (2 : Int32)
  · have hf := b_p hf hc2
    refine lv_tableIn (off := 132) (tgt := 136) hx hb dX9_act_4 (by rw [hc2]; decide) (by rw [hc2]; decide) (by rw [hc2]; rfl) rfl ?_
    refine lv_aload_n hx hb dX9_act_136 rfl (lv_at hl 0 rfl) ?_
    refine x_get (k := 450) (n := 0) hx hb hts i_X9 hown hK hP (mk_450 h01) rfl rfl 6 (by decide) rfl k_45 (v := .ref (ad 300 0)) rfl dX9_act_137 ?_
    obtain ⟨σ4, hc4, hf⟩ := bd_e hf
    refine x_cv (va_runV (As := []) (rest := []) ⟨hx, hb, hml, hown, hts⟩ (t_X6_turnRound l G ad ca A z hD  σ σ4 hc4) (cwV 0 hts gr_X9_346 rfl rfl rfl h9_X6_turnRound ⟨Nat.le_of_ble_eq_true rfl, Nat.le_of_ble_eq_true rfl⟩) (x_prV zkC hz hK hP (mk_300 h01) rfl rfl) rfl rfl hl.1 rfl (lv_room (Nat.le_of_ble_eq_true rfl)) dX9_act_140 ⟨Nat.le_of_ble_eq_true rfl, Nat.le_of_ble_eq_true rfl⟩) hS (fun H locs hP hS => ?_)
    refine lv_aload_n hx hb dX9_act_143 rfl (lv_at hl 0 rfl) ?_
    refine lv_aload_n hx hb dX9_act_144 rfl (lv_at hl 1 rfl) ?_
    obtain ⟨r5, σ5, hc5, hf⟩ := bp_e hf
    refine x_cq (va_runV (As := [.ref (ad 100 n1)]) (rest := []) ⟨hx, hb, hml, hown, hts⟩ (t_X9_calledWithin l G ad ca A z n1 hD hn1 σ4 r5 σ5 hc5) (cwV 1 hts gr_X9_343 rfl rfl rfl h9_X9_calledWithin ⟨Nat.le_of_ble_eq_true rfl, Nat.le_of_ble_eq_true rfl⟩) (x_prV zkC hz hK hP (mk_450 h01) rfl rfl) rfl rfl hl.1 rfl (lv_room (Nat.le_of_ble_eq_true rfl)) dX9_act_145 ⟨Nat.le_of_ble_eq_true rfl, Nat.le_of_ble_eq_true rfl⟩) hS (fun H locs hP hS => ?_)
    have hf := Option.some.inj hf
    exact x_aret (o := r5) (t0 := 50) hx hb hr hlocks hK hP hS (congrArg Prod.fst hf) (congrArg Prod.snd hf) dX9_act_148
  have hf := b_n hf hc2
  by_cases hc3 : (gI σ 100 n1 2) = (3 : Int32)
  · have hf := b_p hf hc3
    refine lv_tableIn (off := 80) (tgt := 84) hx hb dX9_act_4 (by rw [hc3]; decide) (by rw [hc3]; decide) (by rw [hc3]; rfl) rfl ?_
    refine lv_aload_n hx hb dX9_act_84 rfl (lv_at hl 0 rfl) ?_
    refine x_get (k := 450) (n := 0) hx hb hts i_X9 hown hK hP (mk_450 h01) rfl rfl 7 (by decide) rfl k_52 (v := .ref (ad 150 0)) rfl dX9_act_85 ?_
    refine lv_aload_n hx hb dX9_act_88 rfl (lv_at hl 1 rfl) ?_
    refine x_get (k := 100) (n := n1) hx hb hts i_X2 hown hK hP (mk_100 hn1) rfl rfl 3 (by decide) rfl k_179 (v := .int (gI σ 100 n1 3)) rfl dX9_act_89 ?_
    obtain ⟨σ6, hc6, hf⟩ := bd_e hf
    refine x_cv (va_runV (As := [.int (gI σ 100 n1 3)]) (rest := []) ⟨hx, hb, hml, hown, hts⟩ (t_X3_endWithFailure l G ad ca A z (gI σ 100 n1 3) hD  σ σ6 hc6) (cwV 1 hts gr_X9_329 rfl rfl rfl h9_X3_endWithFailure ⟨Nat.le_of_ble_eq_true rfl, Nat.le_of_ble_eq_true rfl⟩) (x_prV zkC hz hK hP (mk_150 h01) rfl rfl) rfl rfl hl.1 rfl (lv_room (Nat.le_of_ble_eq_true rfl)) dX9_act_92 ⟨Nat.le_of_ble_eq_true rfl, Nat.le_of_ble_eq_true rfl⟩) hS (fun H locs hP hS => ?_)
    refine lv_null hx hb dX9_act_95 ?_
    have hf := Option.some.inj hf
    exact x_aret (o := none) (t0 := 50) hx hb hr hlocks hK hP hS (congrArg Prod.fst hf) (congrArg Prod.snd hf) dX9_act_96
  have hf := b_n hf hc3
  by_cases hc4 : (gI σ 100 n1 2) = (4 : Int32)
  · have hf := b_p hf hc4
    refine lv_tableIn (off := 93) (tgt := 97) hx hb dX9_act_4 (by rw [hc4]; decide) (by rw [hc4]; decide) (by rw [hc4]; rfl) rfl ?_
    refine lv_aload_n hx hb dX9_act_97 rfl (lv_at hl 0 rfl) ?_
    refine x_get (k := 450) (n := 0) hx hb hts i_X9 hown hK hP (mk_450 h01) rfl rfl 7 (by decide) rfl k_52 (v := .ref (ad 150 0)) rfl dX9_act_98 ?_
    refine lv_aload_n hx hb dX9_act_101 rfl (lv_at hl 0 rfl) ?_
    refine lv_aload_n hx hb dX9_act_102 rfl (lv_at hl 1 rfl) ?_
    refine x_get (k := 100) (n := n1) hx hb hts i_X2 hown hK hP (mk_100 hn1) rfl rfl 3 (by decide) rfl k_179 (v := .int (gI σ 100 n1 3)) rfl dX9_act_103 ?_
    refine lv_bipush (v := (8 : Int32)) hx hb dX9_act_106 rfl ?_
    obtain ⟨r7, hc7, hf⟩ := bd_e hf
    refine x_ci (va_runS (As := [.int (gI σ 100 n1 3), .int (8 : Int32)]) (rest := [.ref (ad 450 0), .ref (ad 150 0)]) ⟨hx, hb, hml, hown, hts⟩ (t_J9_floorMod_7cf53 l G ad ca A z (gI σ 100 n1 3) (8 : Int32) hD  σ r7 hc7) (va_cwS 2 hts gr_X9_332 rfl rfl rfl h9_J9_floorMod_7cf53 ⟨Nat.le_of_ble_eq_true rfl, Nat.le_of_ble_eq_true rfl⟩) (x_prS zkC hz hK hP) rfl rfl hl.1 rfl (lv_room (Nat.le_of_ble_eq_true rfl)) dX9_act_108 ⟨Nat.le_of_ble_eq_true rfl, Nat.le_of_ble_eq_true rfl⟩) hS (fun H locs hP hS => ?_)
    obtain ⟨r8, σ8, hc8, hf⟩ := bp_e hf
    refine x_ci (va_runV (As := [.int r7]) (rest := [.ref (ad 150 0)]) ⟨hx, hb, hml, hown, hts⟩ (t_X9_countUp l G ad ca A z r7 hD  σ r8 σ8 hc8) (cwV 1 hts gr_X9_337 rfl rfl rfl h9_X9_countUp ⟨Nat.le_of_ble_eq_true rfl, Nat.le_of_ble_eq_true rfl⟩) (x_prV zkC hz hK hP (mk_450 h01) rfl rfl) rfl rfl hl.1 rfl (lv_room (Nat.le_of_ble_eq_true rfl)) dX9_act_111 ⟨Nat.le_of_ble_eq_true rfl, Nat.le_of_ble_eq_true rfl⟩) hS (fun H locs hP hS => ?_)
    refine lv_i2l hx hb dX9_act_114 rfl ?_
    obtain ⟨σ9, hc9, hf⟩ := bd_e hf
    refine x_cv (va_runV (As := [.long r8.toInt64]) (rest := []) ⟨hx, hb, hml, hown, hts⟩ (t_X3_endWithValue l G ad ca A z r8.toInt64 hD  σ8 σ9 hc9) (cwV 1 hts gr_X9_325 rfl rfl rfl h9_X3_endWithValue ⟨Nat.le_of_ble_eq_true rfl, Nat.le_of_ble_eq_true rfl⟩) (x_prV zkC hz hK hP (mk_150 h01) rfl rfl) rfl rfl hl.1 rfl (lv_room (Nat.le_of_ble_eq_true rfl)) dX9_act_115 ⟨Nat.le_of_ble_eq_true rfl, Nat.le_of_ble_eq_true rfl⟩) hS (fun H locs hP hS => ?_)
    refine lv_null hx hb dX9_act_118 ?_
    have hf := Option.some.inj hf
    exact x_aret (o := none) (t0 := 50) hx hb hr hlocks hK hP hS (congrArg Prod.fst hf) (congrArg Prod.snd hf) dX9_act_119
  have hf := b_n hf hc4
  by_cases hc5 : (gI σ 100 n1 2) = (5 : Int32)
  · have hf := b_p hf hc5
    refine lv_tableIn (off := 116) (tgt := 120) hx hb dX9_act_4 (by rw [hc5]; decide) (by rw [hc5]; decide) (by rw [hc5]; rfl) rfl ?_
    refine lv_aload_n hx hb dX9_act_120 rfl (lv_at hl 0 rfl) ?_
    refine lv_aload_n hx hb dX9_act_121 rfl (lv_at hl 1 rfl) ?_
    refine x_get (k := 100) (n := n1) hx hb hts i_X2 hown hK hP (mk_100 hn1) rfl rfl 3 (by decide) rfl k_179 (v := .int (gI σ 100 n1 3)) rfl dX9_act_122 ?_
    obtain ⟨σ10, hc10, hf⟩ := bd_e hf
    refine x_cv (va_runV (As := [.int (gI σ 100 n1 3)]) (rest := []) ⟨hx, hb, hml, hown, hts⟩ (t_X9_bringSample l G ad ca A z (gI σ 100 n1 3) hD  σ σ10 hc10) (cwV 1 hts gr_X9_340 rfl rfl rfl h9_X9_bringSample ⟨Nat.le_of_ble_eq_true rfl, Nat.le_of_ble_eq_true rfl⟩) (x_prV zkC hz hK hP (mk_450 h01) rfl rfl) rfl rfl hl.1 rfl (lv_room (Nat.le_of_ble_eq_true rfl)) dX9_act_125 ⟨Nat.le_of_ble_eq_true rfl, Nat.le_of_ble_eq_true rfl⟩) hS (fun H locs hP hS => ?_)
    refine lv_null hx hb dX9_act_128 ?_
    have hf := Option.some.inj hf
    exact x_aret (o := none) (t0 := 50) hx hb hr hlocks hK hP hS (congrArg Prod.fst hf) (congrArg Prod.snd hf) dX9_act_129
  have hf := b_n hf hc5
  by_cases hc6 : (gI σ 100 n1 2) = (6 : Int32)
  · have hf := b_p hf hc6
    refine lv_tableIn (off := 126) (tgt := 130) hx hb dX9_act_4 (by rw [hc6]; decide) (by rw [hc6]; decide) (by rw [hc6]; rfl) rfl ?_
    refine lv_aload_n hx hb dX9_act_130 rfl (lv_at hl 0 rfl) ?_
    refine lv_aload_n hx hb dX9_act_131 rfl (lv_at hl 1 rfl) ?_
    obtain ⟨r11, σ11, hc11, hf⟩ := bp_e hf
    refine x_cq (va_runV (As := [.ref (ad 100 n1)]) (rest := []) ⟨hx, hb, hml, hown, hts⟩ (t_X9_calledWithin l G ad ca A z n1 hD hn1 σ r11 σ11 hc11) (cwV 1 hts gr_X9_343 rfl rfl rfl h9_X9_calledWithin ⟨Nat.le_of_ble_eq_true rfl, Nat.le_of_ble_eq_true rfl⟩) (x_prV zkC hz hK hP (mk_450 h01) rfl rfl) rfl rfl hl.1 rfl (lv_room (Nat.le_of_ble_eq_true rfl)) dX9_act_132 ⟨Nat.le_of_ble_eq_true rfl, Nat.le_of_ble_eq_true rfl⟩) hS (fun H locs hP hS => ?_)
    have hf := Option.some.inj hf
    exact x_aret (o := r11) (t0 := 50) hx hb hr hlocks hK hP hS (congrArg Prod.fst hf) (congrArg Prod.snd hf) dX9_act_135
  have hf := b_n hf hc6
  refine lv_tableOut (tgt := 136) hx hb dX9_act_4 (x_out (N := 6) (fun j hj => by rcases (show j = 0 ∨ j = 1 ∨ j = 2 ∨ j = 3 ∨ j = 4 ∨ j = 5 ∨ j = 6 by omega) with rfl | rfl | rfl | rfl | rfl | rfl | rfl <;> assumption)) rfl ?_
  refine lv_aload_n hx hb dX9_act_136 rfl (lv_at hl 0 rfl) ?_
  refine x_get (k := 450) (n := 0) hx hb hts i_X9 hown hK hP (mk_450 h01) rfl rfl 6 (by decide) rfl k_45 (v := .ref (ad 300 0)) rfl dX9_act_137 ?_
  obtain ⟨σ12, hc12, hf⟩ := bd_e hf
  refine x_cv (va_runV (As := []) (rest := []) ⟨hx, hb, hml, hown, hts⟩ (t_X6_turnRound l G ad ca A z hD  σ σ12 hc12) (cwV 0 hts gr_X9_346 rfl rfl rfl h9_X6_turnRound ⟨Nat.le_of_ble_eq_true rfl, Nat.le_of_ble_eq_true rfl⟩) (x_prV zkC hz hK hP (mk_300 h01) rfl rfl) rfl rfl hl.1 rfl (lv_room (Nat.le_of_ble_eq_true rfl)) dX9_act_140 ⟨Nat.le_of_ble_eq_true rfl, Nat.le_of_ble_eq_true rfl⟩) hS (fun H locs hP hS => ?_)
  refine lv_aload_n hx hb dX9_act_143 rfl (lv_at hl 0 rfl) ?_
  refine lv_aload_n hx hb dX9_act_144 rfl (lv_at hl 1 rfl) ?_
  obtain ⟨r13, σ13, hc13, hf⟩ := bp_e hf
  refine x_cq (va_runV (As := [.ref (ad 100 n1)]) (rest := []) ⟨hx, hb, hml, hown, hts⟩ (t_X9_calledWithin l G ad ca A z n1 hD hn1 σ12 r13 σ13 hc13) (cwV 1 hts gr_X9_343 rfl rfl rfl h9_X9_calledWithin ⟨Nat.le_of_ble_eq_true rfl, Nat.le_of_ble_eq_true rfl⟩) (x_prV zkC hz hK hP (mk_450 h01) rfl rfl) rfl rfl hl.1 rfl (lv_room (Nat.le_of_ble_eq_true rfl)) dX9_act_145 ⟨Nat.le_of_ble_eq_true rfl, Nat.le_of_ble_eq_true rfl⟩) hS (fun H locs hP hS => ?_)
  have hf := Option.some.inj hf
  exact x_aret (o := r13) (t0 := 50) hx hb hr hlocks hK hP hS (congrArg Prod.fst hf) (congrArg Prod.snd hf) dX9_act_148
theorem h9_X9_runChosen : yX9_runChosen.cls = RX9 ∧ yX9_runChosen.cls ≠ "java/lang/invoke/MethodHandle" ∧ yX9_runChosen.cls ≠ "java/lang/invoke/VarHandle" ∧ (parseMethodDescriptor yX9_runChosen.desc).map (fun d => d.parameters.length) = some 2 := by decide +kernel
set_option maxRecDepth 100000 in
set_option maxHeartbeats 4000000 in
theorem t_X9_runChosen (l : Launch) (G : va_G) (ad : Nat → Nat → Nat) (ca : Nat → ClassId) (A : Nat → Prop) (z : Nat × Nat)  (n1 : Nat) (x2 : Int32) (hD : DW ad (LC z) A) (hn1 : n1 < z.1) (σ : PS) (res : Option Nat) (σz : PS) (hf : X9_runChosen z  n1 x2 σ = some (res, σz)) : Met l yX9_runChosen wsX9_runChosen ({ frames := 3, cells := 0, slots := 0, locals := 65 }) (ctP G ad ca (LC z) σ ZC [.ref (ad 450 0), .ref (ad 50 n1), .int x2]) (va_Qq (fun r' u => r' = Option.map (ad 50) res ∧ u = σz) (ctB G ad ca (LC z)) A) 0 0 A := by
  refine Met.ofW (cc := cX9_runChosen) (maxL := 7) (ret := (some (.object "CallBoard$Function"))) (by decide) rfl ?_
  intro p e s m args below meth c s₁ B hml hv
  obtain ⟨rfl, hP, hK, hz⟩ := hv
  have hx := B.exec
  have hb := B.bytes
  have hr := B.returns
  have hts : ∀ w ∈ WW, w.before _ s = true := fun w h => atoms_spec (ws := wsX9_runChosen) B.pre w (List.mem_cons_of_mem _ h)
  have hown : s.vm.findClass RX9 = some m.cls := findClass_of_methodNamed B.named
  have hlocks := B.notSynchronized
  have hS : va_S A s.heap s.heap [] := va_S.rf
  have k_52 := hts _ kf_X9_52
  have k_176 := hts _ kf_X9_176
  have k_179 := hts _ kf_X9_179
  have k_216 := hts _ kf_X9_216
  have k_219 := hts _ kf_X9_219
  have k_316 := hts _ kf_X9_316
  have hl := lv_entry ([.ref (ad 450 0), .ref (ad 50 n1), .int x2]) (n := 7) (Nat.le_of_ble_eq_true rfl)
  rw [lg_entry_eq]
  generalize (lg_sl ([.ref (ad 450 0), .ref (ad 50 n1), .int x2]) ++ List.replicate (7 - (lg_sl ([.ref (ad 450 0), .ref (ad 50 n1), .int x2])).length) Slot.unset).toArray = ls at hl ⊢
  have hl : lv_has ls 7 [(0, .ref (ad 450 0)), (1, .ref (ad 50 n1)), (2, .int x2)] := hl
  unfold X9_runChosen at hf
  have l5 : ∀ (kx5 : PS → Option (Option Nat × PS)), (∀ (σ : PS) (H : Heap) (locs : List Loc) (ls : Array Slot), kx5 σ = some (res, σz) → lv_has ls 7 [(0, .ref (ad 450 0))] → va_P G vwCl (wld ad ca σ (LC z)) H → va_S A s.heap H locs → W p l e (headSpec wsX9_runChosen ({ frames := 3, cells := 0, slots := 0, locals := 65 })).room s m (([.ref (ad 450 0), .ref (ad 50 n1), .int x2] : List Value).toArray) below meth c H locs 0 0 (MQ below (va_Qq (fun r' u => r' = Option.map (ad 50) res ∧ u = σz) (ctB G ad ca (LC z)) A) (([.ref (ad 450 0), .ref (ad 50 n1), .int x2] : List Value).toArray) s 0 0 A) (F0 m 110 ls [])) → ∀ (n5 : Nat) (v1 : Nat) (v2 : Int32) (v3 : Int32) (v4 : Int32) (σ : PS) (H : Heap) (locs : List Loc) (ls : Array Slot), v1 < z.1 → X9_runChosen_l5 z kx5 n5 v1 v2 v3 v4 σ = some (res, σz) → lv_has ls 7 [(0, .ref (ad 450 0)), (1, .ref (ad 50 v1)), (2, .int v2), (3, .int v3), (4, .int v4)] → va_P G vwCl (wld ad ca σ (LC z)) H → va_S A s.heap H locs → W p l e (headSpec wsX9_runChosen ({ frames := 3, cells := 0, slots := 0, locals := 65 })).room s m (([.ref (ad 450 0), .ref (ad 50 n1), .int x2] : List Value).toArray) below meth c H locs 0 0 (MQ below (va_Qq (fun r' u => r' = Option.map (ad 50) res ∧ u = σz) (ctB G ad ca (LC z)) A) (([.ref (ad 450 0), .ref (ad 50 n1), .int x2] : List Value).toArray) s 0 0 A) (F0 m 5 ls []) := by
    intro kx5 hx5 n5
    induction n5 with
    | zero =>
      intro v1 v2 v3 v4 σ H locs ls h_v1 hf
      exact absurd hf (by simp [X9_runChosen_l5])
    | succ n5 ih5 =>
      intro v1 v2 v3 v4 σ H locs ls h_v1 hf hl hP hS
      rw [X9_runChosen_l5.eq_2] at hf
      refine lv_iload hx hb dX9_runChosen_5 (lv_at hl 4 rfl) ?_
      refine lv_bipush (v := (8 : Int32)) hx hb dX9_runChosen_7 rfl ?_
      refine lv_icmp_ge (tgt := 110) hx hb dX9_runChosen_9 rfl (fun hc => ?_) (fun hc => ?_)
      · have hf := b_p hf hc
        exact hx5  σ _ _ _  hf (lv_sub hl [0] rfl) hP hS
      · have hf := b_n hf hc
        refine lv_aload_n hx hb dX9_runChosen_12 rfl (lv_at hl 1 rfl) ?_
        refine lv_iload_n hx hb dX9_runChosen_13 rfl (lv_at hl 3 rfl) ?_
        obtain ⟨r1, hc1, hf⟩ := bd_e hf
        refine x_ci (va_runV (As := [.int v3]) (rest := []) ⟨hx, hb, hml, hown, hts⟩ (t_X1_chosenOf l G ad ca A z v1 v3 hD h_v1 σ r1 hc1) (cwV 1 hts gr_X9_239 rfl rfl rfl h9_X1_chosenOf ⟨Nat.le_of_ble_eq_true rfl, Nat.le_of_ble_eq_true rfl⟩) (x_prV zkC hz hK hP (mk_50 h_v1) rfl rfl) rfl rfl hl.1 rfl (lv_room (Nat.le_of_ble_eq_true rfl)) dX9_runChosen_14 ⟨Nat.le_of_ble_eq_true rfl, Nat.le_of_ble_eq_true rfl⟩) hS (fun H locs hP hS => ?_)
        refine lv_istore (lv' := [(5, .int r1), (0, .ref (ad 450 0)), (1, .ref (ad 50 v1)), (2, .int v2), (3, .int v3), (4, .int v4)]) hx hb dX9_runChosen_17 hl (by decide) rfl (fun ls hl => ?_)
        refine lv_aload_n hx hb dX9_runChosen_19 rfl (lv_at hl 2 rfl) ?_
        refine lv_iload hx hb dX9_runChosen_20 (lv_at hl 0 rfl) ?_
        obtain ⟨r2, hc2, hf⟩ := bd_e hf
        refine x_cq (va_runV (As := [.int r1]) (rest := []) ⟨hx, hb, hml, hown, hts⟩ (t_X1_laidAt l G ad ca A z v1 r1 hD h_v1 σ r2 hc2) (cwV 1 hts gr_X9_313 rfl rfl rfl h9_X1_laidAt ⟨Nat.le_of_ble_eq_true rfl, Nat.le_of_ble_eq_true rfl⟩) (x_prV zkC hz hK hP (mk_50 h_v1) rfl rfl) rfl rfl hl.1 rfl (lv_room (Nat.le_of_ble_eq_true rfl)) dX9_runChosen_22 ⟨Nat.le_of_ble_eq_true rfl, Nat.le_of_ble_eq_true rfl⟩) hS (fun H locs hP hS => ?_)
        refine x_astoreQ (lv' := [(6, va_rf (Option.map (ad 100) r2)), (5, .int r1), (0, .ref (ad 450 0)), (1, .ref (ad 50 v1)), (2, .int v2), (3, .int v3), (4, .int v4)]) hx hb dX9_runChosen_25 hl (by decide) rfl (fun ls hl => ?_)
        refine x_aloadQ hx hb dX9_runChosen_27 (lv_at hl 0 rfl) ?_
        cases r2 with
        | none =>
          have hf := oc_n hf
          refine lv_ifnonnullN hx hb dX9_runChosen_29 ?_
          refine lv_aload_n hx hb dX9_runChosen_32 rfl (lv_at hl 2 rfl) ?_
          refine x_get (k := 450) (n := 0) hx hb hts i_X9 hown hK hP (mk_450 h01) rfl rfl 7 (by decide) rfl k_52 (v := .ref (ad 150 0)) rfl dX9_runChosen_33 ?_
          refine lv_iconst (v := (2 : Int32)) hx hb dX9_runChosen_36 rfl ?_
          refine x_putI (k := 150) (n := 0) hx hb hts i_X3 tyX3 tyX3_ok nmX3 hown hK hD hP hS (mk_150 h01) rfl rfl 3 (by decide) rfl k_216 rfl rfl rfl rfl dX9_runChosen_37 (fun H locs hP hS => ?_)
          obtain ⟨σ4, e_σ4, hf⟩ := nm_i hf
          have hP : va_P G vwCl (wld ad ca σ4 (LC z)) H := by rw [e_σ4]; exact hP
          refine lv_null hx hb dX9_runChosen_40 ?_
          have hf := Option.some.inj hf
          exact x_aret (o := none) (t0 := 50) hx hb hr hlocks hK hP hS (congrArg Prod.fst hf) (congrArg Prod.snd hf) dX9_runChosen_41
        | some q3 =>
          obtain ⟨h_q3, hf⟩ := oc_s hf
          refine lv_ifnonnull (tgt := 42) hx hb dX9_runChosen_29 rfl ?_
          refine lv_aload_n hx hb dX9_runChosen_42 rfl (lv_at hl 2 rfl) ?_
          refine x_get (k := 450) (n := 0) hx hb hts i_X9 hown hK hP (mk_450 h01) rfl rfl 7 (by decide) rfl k_52 (v := .ref (ad 150 0)) rfl dX9_runChosen_43 ?_
          refine lv_aload hx hb dX9_runChosen_46 (lv_at hl 0 rfl) ?_
          refine x_get (k := 100) (n := q3) hx hb hts i_X2 hown hK hP (mk_100 h_q3) rfl rfl 1 (by decide) rfl k_316 (v := .int (gI σ 100 q3 1)) rfl dX9_runChosen_48 ?_
          obtain ⟨σ5, hc5, hf⟩ := bd_e hf
          refine x_cv (va_runV (As := [.int (gI σ 100 q3 1)]) (rest := []) ⟨hx, hb, hml, hown, hts⟩ (t_X3_addStep l G ad ca A z (gI σ 100 q3 1) hD  σ σ5 hc5) (cwV 1 hts gr_X9_317 rfl rfl rfl h9_X3_addStep ⟨Nat.le_of_ble_eq_true rfl, Nat.le_of_ble_eq_true rfl⟩) (x_prV zkC hz hK hP (mk_150 h01) rfl rfl) rfl rfl hl.1 rfl (lv_room (Nat.le_of_ble_eq_true rfl)) dX9_runChosen_51 ⟨Nat.le_of_ble_eq_true rfl, Nat.le_of_ble_eq_true rfl⟩) hS (fun H locs hP hS => ?_)
          refine lv_aload hx hb dX9_runChosen_54 (lv_at hl 0 rfl) ?_
          refine x_get (k := 100) (n := q3) hx hb hts i_X2 hown hK hP (mk_100 h_q3) rfl rfl 2 (by decide) rfl k_176 (v := .int (gI σ5 100 q3 2)) rfl dX9_runChosen_56 ?_
          refine lv_iconst (v := (2 : Int32)) hx hb dX9_runChosen_59 rfl ?_
          refine lv_icmp_eq (tgt := 70) hx hb dX9_runChosen_60 rfl (fun hc => ?_) (fun hc => ?_)
          · have hf := b_p hf hc
            refine lv_aload_n hx hb dX9_runChosen_70 rfl (lv_at hl 2 rfl) ?_
            refine x_get (k := 450) (n := 0) hx hb hts i_X9 hown hK hP (mk_450 h01) rfl rfl 7 (by decide) rfl k_52 (v := .ref (ad 150 0)) rfl dX9_runChosen_71 ?_
            refine lv_dup hx hb dX9_runChosen_74 rfl ?_
            refine x_get (k := 150) (n := 0) hx hb hts i_X3 hown hK hP (mk_150 h01) rfl rfl 5 (by decide) rfl k_219 (v := .long (gL σ5 150 0 5)) rfl dX9_runChosen_75 ?_
            refine lv_aload hx hb dX9_runChosen_78 (lv_at hl 0 rfl) ?_
            refine x_get (k := 100) (n := q3) hx hb hts i_X2 hown hK hP (mk_100 h_q3) rfl rfl 3 (by decide) rfl k_179 (v := .int (gI σ5 100 q3 3)) rfl dX9_runChosen_80 ?_
            refine lv_i2l hx hb dX9_runChosen_83 rfl ?_
            refine lv_ladd hx hb dX9_runChosen_84 ?_
            refine x_putL (k := 150) (n := 0) hx hb hts i_X3 tyX3 tyX3_ok nmX3 hown hK hD hP hS (mk_150 h01) rfl rfl 5 (by decide) rfl k_219 rfl rfl rfl rfl dX9_runChosen_85 (fun H locs hP hS => ?_)
            obtain ⟨σ6, e_σ6, hf⟩ := nm_i hf
            have hP : va_P G vwCl (wld ad ca σ6 (LC z)) H := by rw [e_σ6]; exact hP
            refine lv_iload_n hx hb dX9_runChosen_88 rfl (lv_at hl 4 rfl) ?_
            refine lv_aload_n hx hb dX9_runChosen_89 rfl (lv_at hl 3 rfl) ?_
            refine lv_iload hx hb dX9_runChosen_90 (lv_at hl 1 rfl) ?_
            obtain ⟨r7, hc7, hf⟩ := bd_e hf
            refine x_ci (va_runV (As := [.int r1]) (rest := [.int v2]) ⟨hx, hb, hml, hown, hts⟩ (t_X1_beatenBy l G ad ca A z v1 r1 hD h_v1 σ6 r7 hc7) (cwV 1 hts gr_X9_292 rfl rfl rfl h9_X1_beatenBy ⟨Nat.le_of_ble_eq_true rfl, Nat.le_of_ble_eq_true rfl⟩) (x_prV zkC hz hK hP (mk_50 h_v1) rfl rfl) rfl rfl hl.1 rfl (lv_room (Nat.le_of_ble_eq_true rfl)) dX9_runChosen_92 ⟨Nat.le_of_ble_eq_true rfl, Nat.le_of_ble_eq_true rfl⟩) hS (fun H locs hP hS => ?_)
            refine lv_iand hx hb dX9_runChosen_95 ?_
            obtain ⟨y8, e_y8, hf⟩ := nm_i hf
            refine x_nmI e_y8 ?_
            refine lv_istore_n (lv' := [(3, .int y8), (6, .ref (ad 100 q3)), (5, .int r1), (0, .ref (ad 450 0)), (1, .ref (ad 50 v1)), (2, .int v2), (4, .int v4)]) hx hb dX9_runChosen_96 rfl hl (by decide) rfl (fun ls hl => ?_)
            refine lv_iload_n hx hb dX9_runChosen_97 rfl (lv_at hl 0 rfl) ?_
            refine lv_if_ne (tgt := 104) hx hb dX9_runChosen_98 rfl (fun hc => ?_) (fun hc => ?_)
            · have hf := b_n hf hc
              refine lv_iinc (v := (v4 + (1 : Int32))) (lv' := [(4, .int (v4 + (1 : Int32))), (3, .int y8), (6, .ref (ad 100 q3)), (5, .int r1), (0, .ref (ad 450 0)), (1, .ref (ad 50 v1)), (2, .int v2)]) hx hb dX9_runChosen_104 hl (k := 6) rfl rfl (by decide) rfl (fun ls hl => ?_)
              refine lv_goto (tgt := 5) hx hb dX9_runChosen_107 rfl ?_
              exact ih5 v1 v2 y8 (v4 + (1 : Int32)) σ6 _ _ _ h_v1 hf (lv_sub hl [4, 5, 6, 1, 0] rfl) hP hS
            · have hf := b_p hf hc
              refine lv_goto (tgt := 110) hx hb dX9_runChosen_101 rfl ?_
              exact hx5  σ6 _ _ _  hf (lv_sub hl [3] rfl) hP hS
          · have hf := b_n hf hc
            refine lv_aload_n hx hb dX9_runChosen_63 rfl (lv_at hl 2 rfl) ?_
            refine lv_aload hx hb dX9_runChosen_64 (lv_at hl 0 rfl) ?_
            obtain ⟨r9, σ9, hc9, hf⟩ := bp_e hf
            refine x_cq (va_runV (As := [.ref (ad 100 q3)]) (rest := []) ⟨hx, hb, hml, hown, hts⟩ (t_X9_act l G ad ca A z q3 hD h_q3 σ5 r9 σ9 hc9) (cwV 1 hts gr_X9_321 rfl rfl rfl h9_X9_act ⟨Nat.le_of_ble_eq_true rfl, Nat.le_of_ble_eq_true rfl⟩) (x_prV zkC hz hK hP (mk_450 h01) rfl rfl) rfl rfl hl.1 rfl (lv_room (Nat.le_of_ble_eq_true rfl)) dX9_runChosen_66 ⟨Nat.le_of_ble_eq_true rfl, Nat.le_of_ble_eq_true rfl⟩) hS (fun H locs hP hS => ?_)
            have hf := Option.some.inj hf
            exact x_aret (o := r9) (t0 := 50) hx hb hr hlocks hK hP hS (congrArg Prod.fst hf) (congrArg Prod.snd hf) dX9_runChosen_69
  have c110 : ∀ (σ : PS) (H : Heap) (locs : List Loc) (ls : Array Slot), X9_runChosen_c110 z  σ = some (res, σz) → lv_has ls 7 [(0, .ref (ad 450 0))] → va_P G vwCl (wld ad ca σ (LC z)) H → va_S A s.heap H locs → W p l e (headSpec wsX9_runChosen ({ frames := 3, cells := 0, slots := 0, locals := 65 })).room s m (([.ref (ad 450 0), .ref (ad 50 n1), .int x2] : List Value).toArray) below meth c H locs 0 0 (MQ below (va_Qq (fun r' u => r' = Option.map (ad 50) res ∧ u = σz) (ctB G ad ca (LC z)) A) (([.ref (ad 450 0), .ref (ad 50 n1), .int x2] : List Value).toArray) s 0 0 A) (F0 m 110 ls []) := by
    intro σ H locs ls hf hl hP hS
    unfold X9_runChosen_c110 at hf
    refine lv_aload_n hx hb dX9_runChosen_110 rfl (lv_at hl 0 rfl) ?_
    refine x_get (k := 450) (n := 0) hx hb hts i_X9 hown hK hP (mk_450 h01) rfl rfl 7 (by decide) rfl k_52 (v := .ref (ad 150 0)) rfl dX9_runChosen_111 ?_
    refine lv_iconst (v := (0 : Int32)) hx hb dX9_runChosen_114 rfl ?_
    refine x_putI (k := 150) (n := 0) hx hb hts i_X3 tyX3 tyX3_ok nmX3 hown hK hD hP hS (mk_150 h01) rfl rfl 3 (by decide) rfl k_216 rfl rfl rfl rfl dX9_runChosen_115 (fun H locs hP hS => ?_)
    obtain ⟨σ10, e_σ10, hf⟩ := nm_i hf
    have hP : va_P G vwCl (wld ad ca σ10 (LC z)) H := by rw [e_σ10]; exact hP
    refine lv_null hx hb dX9_runChosen_118 ?_
    have hf := Option.some.inj hf
    exact x_aret (o := none) (t0 := 50) hx hb hr hlocks hK hP hS (congrArg Prod.fst hf) (congrArg Prod.snd hf) dX9_runChosen_119
  refine lv_iload_n hx hb dX9_runChosen_0 rfl (lv_at hl 2 rfl) ?_
  refine lv_istore_n (lv' := [(3, .int x2), (0, .ref (ad 450 0)), (1, .ref (ad 50 n1)), (2, .int x2)]) hx hb dX9_runChosen_1 rfl hl (by decide) rfl (fun ls hl => ?_)
  refine lv_iconst (v := (0 : Int32)) hx hb dX9_runChosen_2 rfl ?_
  refine lv_istore (lv' := [(4, .int (0 : Int32)), (3, .int x2), (0, .ref (ad 450 0)), (1, .ref (ad 50 n1)), (2, .int x2)]) hx hb dX9_runChosen_3 hl (by decide) rfl (fun ls hl => ?_)
  exact l5 _ c110 _ n1 x2 x2 (0 : Int32) σ _ _ _ hn1 hf (lv_sub hl [2, 3, 4, 1, 0] rfl) hP hS
theorem h9_X9_carryOut : yX9_carryOut.cls = RX9 ∧ yX9_carryOut.cls ≠ "java/lang/invoke/MethodHandle" ∧ yX9_carryOut.cls ≠ "java/lang/invoke/VarHandle" ∧ (parseMethodDescriptor yX9_carryOut.desc).map (fun d => d.parameters.length) = some 1 := by decide +kernel
set_option maxRecDepth 100000 in
set_option maxHeartbeats 4000000 in
theorem t_X9_carryOut (l : Launch) (G : va_G) (ad : Nat → Nat → Nat) (ca : Nat → ClassId) (A : Nat → Prop) (z : Nat × Nat)  (n1 : Nat) (hD : DW ad (LC z) A) (hn1 : n1 < z.1) (σ : PS) (res : Option Nat) (σz : PS) (hf : X9_carryOut z  n1 σ = some (res, σz)) : Met l yX9_carryOut wsX9_carryOut ({ frames := 5, cells := 0, slots := 0, locals := 117 }) (ctP G ad ca (LC z) σ ZC [.ref (ad 450 0), .ref (ad 50 n1)]) (va_Qq (fun r' u => r' = Option.map (ad 50) res ∧ u = σz) (ctB G ad ca (LC z)) A) 0 0 A := by
  refine Met.ofW (cc := cX9_carryOut) (maxL := 3) (ret := (some (.object "CallBoard$Function"))) (by decide) rfl ?_
  intro p e s m args below meth c s₁ B hml hv
  obtain ⟨rfl, hP, hK, hz⟩ := hv
  have hx := B.exec
  have hb := B.bytes
  have hr := B.returns
  have hts : ∀ w ∈ WW, w.before _ s = true := fun w h => atoms_spec (ws := wsX9_carryOut) B.pre w (List.mem_cons_of_mem _ h)
  have hown : s.vm.findClass RX9 = some m.cls := findClass_of_methodNamed B.named
  have hlocks := B.notSynchronized
  have hS : va_S A s.heap s.heap [] := va_S.rf
  have k_45 := hts _ kf_X9_45
  have k_52 := hts _ kf_X9_52
  have k_216 := hts _ kf_X9_216
  have hl := lv_entry ([.ref (ad 450 0), .ref (ad 50 n1)]) (n := 3) (Nat.le_of_ble_eq_true rfl)
  rw [lg_entry_eq]
  generalize (lg_sl ([.ref (ad 450 0), .ref (ad 50 n1)]) ++ List.replicate (3 - (lg_sl ([.ref (ad 450 0), .ref (ad 50 n1)])).length) Slot.unset).toArray = ls at hl ⊢
  have hl : lv_has ls 3 [(0, .ref (ad 450 0)), (1, .ref (ad 50 n1))] := hl
  unfold X9_carryOut at hf
  refine lv_aload_n hx hb dX9_carryOut_0 rfl (lv_at hl 0 rfl) ?_
  refine lv_aload_n hx hb dX9_carryOut_1 rfl (lv_at hl 1 rfl) ?_
  obtain ⟨r1, σ1, hc1, hf⟩ := bp_e hf
  refine x_ci (va_runV (As := [.ref (ad 50 n1)]) (rest := []) ⟨hx, hb, hml, hown, hts⟩ (t_X9_isBarred l G ad ca A z n1 hD hn1 σ r1 σ1 hc1) (cwV 1 hts gr_X9_295 rfl rfl rfl h9_X9_isBarred ⟨Nat.le_of_ble_eq_true rfl, Nat.le_of_ble_eq_true rfl⟩) (x_prV zkC hz hK hP (mk_450 h01) rfl rfl) rfl rfl hl.1 rfl (lv_room (Nat.le_of_ble_eq_true rfl)) dX9_carryOut_2 ⟨Nat.le_of_ble_eq_true rfl, Nat.le_of_ble_eq_true rfl⟩) hS (fun H locs hP hS => ?_)
  refine lv_if_eq (tgt := 18) hx hb dX9_carryOut_5 rfl (fun hc => ?_) (fun hc => ?_)
  · have hf := b_p hf hc
    refine lv_aload_n hx hb dX9_carryOut_18 rfl (lv_at hl 1 rfl) ?_
    refine lv_aload_n hx hb dX9_carryOut_19 rfl (lv_at hl 0 rfl) ?_
    refine x_get (k := 450) (n := 0) hx hb hts i_X9 hown hK hP (mk_450 h01) rfl rfl 6 (by decide) rfl k_45 (v := .ref (ad 300 0)) rfl dX9_carryOut_20 ?_
    obtain ⟨σ2, hc2, hf⟩ := bd_e hf
    refine x_cv (va_runV (As := [.ref (ad 300 0)]) (rest := []) ⟨hx, hb, hml, hown, hts⟩ (t_X1_lookForRow l G ad ca A z n1 hD hn1 σ1 σ2 hc2) (cwV 1 hts gr_X9_298 rfl rfl rfl h9_X1_lookForRow ⟨Nat.le_of_ble_eq_true rfl, Nat.le_of_ble_eq_true rfl⟩) (x_prV zkC hz hK hP (mk_50 hn1) rfl rfl) rfl rfl hl.1 rfl (lv_room (Nat.le_of_ble_eq_true rfl)) dX9_carryOut_23 ⟨Nat.le_of_ble_eq_true rfl, Nat.le_of_ble_eq_true rfl⟩) hS (fun H locs hP hS => ?_)
    refine lv_aload_n hx hb dX9_carryOut_26 rfl (lv_at hl 1 rfl) ?_
    refine lv_aload_n hx hb dX9_carryOut_27 rfl (lv_at hl 0 rfl) ?_
    refine x_get (k := 450) (n := 0) hx hb hts i_X9 hown hK hP (mk_450 h01) rfl rfl 6 (by decide) rfl k_45 (v := .ref (ad 300 0)) rfl dX9_carryOut_28 ?_
    obtain ⟨r3, hc3, hf⟩ := bd_e hf
    refine x_ci (va_runV (As := [.ref (ad 300 0)]) (rest := []) ⟨hx, hb, hml, hown, hts⟩ (t_X1_plainTakersOf l G ad ca A z n1 hD hn1 σ2 r3 hc3) (cwV 1 hts gr_X9_232 rfl rfl rfl h9_X1_plainTakersOf ⟨Nat.le_of_ble_eq_true rfl, Nat.le_of_ble_eq_true rfl⟩) (x_prV zkC hz hK hP (mk_50 hn1) rfl rfl) rfl rfl hl.1 rfl (lv_room (Nat.le_of_ble_eq_true rfl)) dX9_carryOut_31 ⟨Nat.le_of_ble_eq_true rfl, Nat.le_of_ble_eq_true rfl⟩) hS (fun H locs hP hS => ?_)
    refine lv_istore_n (lv' := [(2, .int r3), (0, .ref (ad 450 0)), (1, .ref (ad 50 n1))]) hx hb dX9_carryOut_34 rfl hl (by decide) rfl (fun ls hl => ?_)
    refine lv_iload_n hx hb dX9_carryOut_35 rfl (lv_at hl 0 rfl) ?_
    refine lv_if_ne (tgt := 49) hx hb dX9_carryOut_36 rfl (fun hc => ?_) (fun hc => ?_)
    · have hf := b_n hf hc
      refine lv_aload_n hx hb dX9_carryOut_49 rfl (lv_at hl 1 rfl) ?_
      refine lv_aload_n hx hb dX9_carryOut_50 rfl (lv_at hl 2 rfl) ?_
      refine lv_iload_n hx hb dX9_carryOut_51 rfl (lv_at hl 0 rfl) ?_
      obtain ⟨r4, σ4, hc4, hf⟩ := bp_e hf
      refine x_cq (va_runV (As := [.ref (ad 50 n1), .int r3]) (rest := []) ⟨hx, hb, hml, hown, hts⟩ (t_X9_runChosen l G ad ca A z n1 r3 hD hn1 σ2 r4 σ4 hc4) (cwV 2 hts gr_X9_302 rfl rfl rfl h9_X9_runChosen ⟨Nat.le_of_ble_eq_true rfl, Nat.le_of_ble_eq_true rfl⟩) (x_prV zkC hz hK hP (mk_450 h01) rfl rfl) rfl rfl hl.1 rfl (lv_room (Nat.le_of_ble_eq_true rfl)) dX9_carryOut_52 ⟨Nat.le_of_ble_eq_true rfl, Nat.le_of_ble_eq_true rfl⟩) hS (fun H locs hP hS => ?_)
      have hf := Option.some.inj hf
      exact x_aret (o := r4) (t0 := 50) hx hb hr hlocks hK hP hS (congrArg Prod.fst hf) (congrArg Prod.snd hf) dX9_carryOut_55
    · have hf := b_p hf hc
      refine lv_aload_n hx hb dX9_carryOut_39 rfl (lv_at hl 1 rfl) ?_
      refine x_get (k := 450) (n := 0) hx hb hts i_X9 hown hK hP (mk_450 h01) rfl rfl 7 (by decide) rfl k_52 (v := .ref (ad 150 0)) rfl dX9_carryOut_40 ?_
      refine lv_iconst (v := (1 : Int32)) hx hb dX9_carryOut_43 rfl ?_
      refine x_putI (k := 150) (n := 0) hx hb hts i_X3 tyX3 tyX3_ok nmX3 hown hK hD hP hS (mk_150 h01) rfl rfl 3 (by decide) rfl k_216 rfl rfl rfl rfl dX9_carryOut_44 (fun H locs hP hS => ?_)
      obtain ⟨σ5, e_σ5, hf⟩ := nm_i hf
      have hP : va_P G vwCl (wld ad ca σ5 (LC z)) H := by rw [e_σ5]; exact hP
      refine lv_null hx hb dX9_carryOut_47 ?_
      have hf := Option.some.inj hf
      exact x_aret (o := none) (t0 := 50) hx hb hr hlocks hK hP hS (congrArg Prod.fst hf) (congrArg Prod.snd hf) dX9_carryOut_48
  · have hf := b_n hf hc
    refine lv_aload_n hx hb dX9_carryOut_8 rfl (lv_at hl 0 rfl) ?_
    refine x_get (k := 450) (n := 0) hx hb hts i_X9 hown hK hP (mk_450 h01) rfl rfl 7 (by decide) rfl k_52 (v := .ref (ad 150 0)) rfl dX9_carryOut_9 ?_
    refine lv_iconst (v := (5 : Int32)) hx hb dX9_carryOut_12 rfl ?_
    refine x_putI (k := 150) (n := 0) hx hb hts i_X3 tyX3 tyX3_ok nmX3 hown hK hD hP hS (mk_150 h01) rfl rfl 3 (by decide) rfl k_216 rfl rfl rfl rfl dX9_carryOut_13 (fun H locs hP hS => ?_)
    obtain ⟨σ6, e_σ6, hf⟩ := nm_i hf
    have hP : va_P G vwCl (wld ad ca σ6 (LC z)) H := by rw [e_σ6]; exact hP
    refine lv_null hx hb dX9_carryOut_16 ?_
    have hf := Option.some.inj hf
    exact x_aret (o := none) (t0 := 50) hx hb hr hlocks hK hP hS (congrArg Prod.fst hf) (congrArg Prod.snd hf) dX9_carryOut_17
theorem h9_X9_call : yX9_call.cls = RX9 ∧ yX9_call.cls ≠ "java/lang/invoke/MethodHandle" ∧ yX9_call.cls ≠ "java/lang/invoke/VarHandle" ∧ (parseMethodDescriptor yX9_call.desc).map (fun d => d.parameters.length) = some 1 := by decide +kernel
set_option maxRecDepth 100000 in
set_option maxHeartbeats 4000000 in
theorem t_X9_call (l : Launch) (G : va_G) (ad : Nat → Nat → Nat) (ca : Nat → ClassId) (A : Nat → Prop) (z : Nat × Nat)  (x1 : Int32) (hD : DW ad (LC z) A)  (σ : PS) (res : Int32) (σz : PS) (hf : X9_call z  x1 σ = some (res, σz)) : Met l yX9_call wsX9_call ({ frames := 6, cells := 0, slots := 0, locals := 139 }) (ctP G ad ca (LC z) σ ZC [.ref (ad 450 0), .int x1]) (va_Qi (fun r' u => r' = res ∧ u = σz) (ctB G ad ca (LC z)) A) 0 0 A := by
  refine Met.ofW (cc := cX9_call) (maxL := 5) (ret := (some .int)) (by decide) rfl ?_
  intro p e s m args below meth c s₁ B hml hv
  obtain ⟨rfl, hP, hK, hz⟩ := hv
  have hx := B.exec
  have hb := B.bytes
  have hr := B.returns
  have hts : ∀ w ∈ WW, w.before _ s = true := fun w h => atoms_spec (ws := wsX9_call) B.pre w (List.mem_cons_of_mem _ h)
  have hown : s.vm.findClass RX9 = some m.cls := findClass_of_methodNamed B.named
  have hlocks := B.notSynchronized
  have hS : va_S A s.heap s.heap [] := va_S.rf
  have k_52 := hts _ kf_X9_52
  have k_209 := hts _ kf_X9_209
  have k_216 := hts _ kf_X9_216
  have hl := lv_entry ([.ref (ad 450 0), .int x1]) (n := 5) (Nat.le_of_ble_eq_true rfl)
  rw [lg_entry_eq]
  generalize (lg_sl ([.ref (ad 450 0), .int x1]) ++ List.replicate (5 - (lg_sl ([.ref (ad 450 0), .int x1])).length) Slot.unset).toArray = ls at hl ⊢
  have hl : lv_has ls 5 [(0, .ref (ad 450 0)), (1, .int x1)] := hl
  unfold X9_call at hf
  have l36 : ∀ (kx36 : Option Nat → PS → Option (Int32 × PS)), (∀ (v3 : Option Nat) (σ : PS) (H : Heap) (locs : List Loc) (ls : Array Slot), kx36 v3 σ = some (res, σz) → lv_has ls 5 [(0, .ref (ad 450 0)), (3, va_rf (Option.map (ad 50) v3))] → va_P G vwCl (wld ad ca σ (LC z)) H → va_S A s.heap H locs → W p l e (headSpec wsX9_call ({ frames := 6, cells := 0, slots := 0, locals := 139 })).room s m (([.ref (ad 450 0), .int x1] : List Value).toArray) below meth c H locs 0 0 (MQ below (va_Qi (fun r' u => r' = res ∧ u = σz) (ctB G ad ca (LC z)) A) (([.ref (ad 450 0), .int x1] : List Value).toArray) s 0 0 A) (F0 m 68 ls [])) → ∀ (n36 : Nat) (v3 : Option Nat) (v4 : Int32) (σ : PS) (H : Heap) (locs : List Loc) (ls : Array Slot), X9_call_l36 z kx36 n36 v3 v4 σ = some (res, σz) → lv_has ls 5 [(0, .ref (ad 450 0)), (3, va_rf (Option.map (ad 50) v3)), (4, .int v4)] → va_P G vwCl (wld ad ca σ (LC z)) H → va_S A s.heap H locs → W p l e (headSpec wsX9_call ({ frames := 6, cells := 0, slots := 0, locals := 139 })).room s m (([.ref (ad 450 0), .int x1] : List Value).toArray) below meth c H locs 0 0 (MQ below (va_Qi (fun r' u => r' = res ∧ u = σz) (ctB G ad ca (LC z)) A) (([.ref (ad 450 0), .int x1] : List Value).toArray) s 0 0 A) (F0 m 36 ls []) := by
    intro kx36 hx36 n36
    induction n36 with
    | zero =>
      intro v3 v4 σ H locs ls hf
      exact absurd hf (by simp [X9_call_l36])
    | succ n36 ih36 =>
      intro v3 v4 σ H locs ls hf hl hP hS
      rw [X9_call_l36.eq_2] at hf
      refine x_aload_nQ hx hb dX9_call_36 rfl (lv_at hl 1 rfl) ?_
      cases v3 with
      | none =>
        have hf := oc_n hf
        refine lv_ifnullN (tgt := 68) hx hb dX9_call_37 rfl ?_
        exact hx36 none σ _ _ _  hf (lv_sub hl [0, 1] rfl) hP hS
      | some q5 =>
        obtain ⟨h_q5, hf⟩ := oc_s hf
        refine lv_ifnull hx hb dX9_call_37 ?_
        refine lv_iload hx hb dX9_call_40 (lv_at hl 2 rfl) ?_
        refine lv_bipush (v := (12 : Int32)) hx hb dX9_call_42 rfl ?_
        refine lv_icmp_gt (tgt := 68) hx hb dX9_call_44 rfl (fun hc => ?_) (fun hc => ?_)
        · have hf := b_p hf hc
          exact hx36 (some q5) σ _ _ _  hf (lv_sub hl [0, 1] rfl) hP hS
        · have hf := b_n hf hc
          refine lv_aload_n hx hb dX9_call_47 rfl (lv_at hl 0 rfl) ?_
          refine x_get (k := 450) (n := 0) hx hb hts i_X9 hown hK hP (mk_450 h01) rfl rfl 7 (by decide) rfl k_52 (v := .ref (ad 150 0)) rfl dX9_call_48 ?_
          refine lv_iload hx hb dX9_call_51 (lv_at hl 2 rfl) ?_
          refine x_putI (k := 150) (n := 0) hx hb hts i_X3 tyX3 tyX3_ok nmX3 hown hK hD hP hS (mk_150 h01) rfl rfl 2 (by decide) rfl k_209 rfl rfl rfl rfl dX9_call_53 (fun H locs hP hS => ?_)
          obtain ⟨σ6, e_σ6, hf⟩ := nm_i hf
          have hP : va_P G vwCl (wld ad ca σ6 (LC z)) H := by rw [e_σ6]; exact hP
          refine lv_aload_n hx hb dX9_call_56 rfl (lv_at hl 0 rfl) ?_
          refine lv_aload_n hx hb dX9_call_57 rfl (lv_at hl 1 rfl) ?_
          obtain ⟨r7, σ7, hc7, hf⟩ := bp_e hf
          refine x_cq (va_runV (As := [.ref (ad 50 q5)]) (rest := []) ⟨hx, hb, hml, hown, hts⟩ (t_X9_carryOut l G ad ca A z q5 hD h_q5 σ6 r7 σ7 hc7) (cwV 1 hts gr_X9_212 rfl rfl rfl h9_X9_carryOut ⟨Nat.le_of_ble_eq_true rfl, Nat.le_of_ble_eq_true rfl⟩) (x_prV zkC hz hK hP (mk_450 h01) rfl rfl) rfl rfl hl.1 rfl (lv_room (Nat.le_of_ble_eq_true rfl)) dX9_call_58 ⟨Nat.le_of_ble_eq_true rfl, Nat.le_of_ble_eq_true rfl⟩) hS (fun H locs hP hS => ?_)
          refine x_astore_nQ (lv' := [(3, va_rf (Option.map (ad 50) r7)), (0, .ref (ad 450 0)), (4, .int v4)]) hx hb dX9_call_61 rfl hl (by decide) rfl (fun ls hl => ?_)
          refine lv_iinc (v := (v4 + (1 : Int32))) (lv' := [(4, .int (v4 + (1 : Int32))), (3, va_rf (Option.map (ad 50) r7)), (0, .ref (ad 450 0))]) hx hb dX9_call_62 hl (k := 2) rfl rfl (by decide) (by simp [List.filter, x_cat]) (fun ls hl => ?_)
          refine lv_goto (tgt := 36) hx hb dX9_call_65 rfl ?_
          exact ih36 r7 (v4 + (1 : Int32)) σ7 _ _ _  hf (lv_sub hl [2, 1, 0] rfl) hP hS
  have c68 : ∀ (v3 : Option Nat) (σ : PS) (H : Heap) (locs : List Loc) (ls : Array Slot), X9_call_c68 z v3 σ = some (res, σz) → lv_has ls 5 [(0, .ref (ad 450 0)), (3, va_rf (Option.map (ad 50) v3))] → va_P G vwCl (wld ad ca σ (LC z)) H → va_S A s.heap H locs → W p l e (headSpec wsX9_call ({ frames := 6, cells := 0, slots := 0, locals := 139 })).room s m (([.ref (ad 450 0), .int x1] : List Value).toArray) below meth c H locs 0 0 (MQ below (va_Qi (fun r' u => r' = res ∧ u = σz) (ctB G ad ca (LC z)) A) (([.ref (ad 450 0), .int x1] : List Value).toArray) s 0 0 A) (F0 m 68 ls []) := by
    intro v3 σ H locs ls hf hl hP hS
    unfold X9_call_c68 at hf
    refine x_aload_nQ hx hb dX9_call_68 rfl (lv_at hl 1 rfl) ?_
    cases v3 with
    | none =>
      have hf := oc_n hf
      refine lv_ifnullN (tgt := 80) hx hb dX9_call_69 rfl ?_
      refine lv_aload_n hx hb dX9_call_80 rfl (lv_at hl 0 rfl) ?_
      refine x_get (k := 450) (n := 0) hx hb hts i_X9 hown hK hP (mk_450 h01) rfl rfl 7 (by decide) rfl k_52 (v := .ref (ad 150 0)) rfl dX9_call_81 ?_
      refine x_get (k := 150) (n := 0) hx hb hts i_X3 hown hK hP (mk_150 h01) rfl rfl 3 (by decide) rfl k_216 (v := .int (gI σ 150 0 3)) rfl dX9_call_84 ?_
      have hf := Option.some.inj hf
      exact x_iret hx hb hr hlocks hK hP hS (congrArg Prod.fst hf) (congrArg Prod.snd hf) dX9_call_87
    | some q8 =>
      obtain ⟨h_q8, hf⟩ := oc_s hf
      refine lv_ifnull hx hb dX9_call_69 ?_
      refine lv_aload_n hx hb dX9_call_72 rfl (lv_at hl 0 rfl) ?_
      refine x_get (k := 450) (n := 0) hx hb hts i_X9 hown hK hP (mk_450 h01) rfl rfl 7 (by decide) rfl k_52 (v := .ref (ad 150 0)) rfl dX9_call_73 ?_
      refine lv_iconst (v := (4 : Int32)) hx hb dX9_call_76 rfl ?_
      refine x_putI (k := 150) (n := 0) hx hb hts i_X3 tyX3 tyX3_ok nmX3 hown hK hD hP hS (mk_150 h01) rfl rfl 3 (by decide) rfl k_216 rfl rfl rfl rfl dX9_call_77 (fun H locs hP hS => ?_)
      obtain ⟨σ9, e_σ9, hf⟩ := nm_i hf
      have hP : va_P G vwCl (wld ad ca σ9 (LC z)) H := by rw [e_σ9]; exact hP
      refine lv_aload_n hx hb dX9_call_80 rfl (lv_at hl 0 rfl) ?_
      refine x_get (k := 450) (n := 0) hx hb hts i_X9 hown hK hP (mk_450 h01) rfl rfl 7 (by decide) rfl k_52 (v := .ref (ad 150 0)) rfl dX9_call_81 ?_
      refine x_get (k := 150) (n := 0) hx hb hts i_X3 hown hK hP (mk_150 h01) rfl rfl 3 (by decide) rfl k_216 (v := .int (gI σ9 150 0 3)) rfl dX9_call_84 ?_
      have hf := Option.some.inj hf
      exact x_iret hx hb hr hlocks hK hP hS (congrArg Prod.fst hf) (congrArg Prod.snd hf) dX9_call_87
  refine lv_aload_n hx hb dX9_call_0 rfl (lv_at hl 0 rfl) ?_
  refine lv_iload_n hx hb dX9_call_1 rfl (lv_at hl 1 rfl) ?_
  obtain ⟨r1, hc1, hf⟩ := bd_e hf
  refine x_cq (va_runV (As := [.int x1]) (rest := []) ⟨hx, hb, hml, hown, hts⟩ (t_X9_functionAt l G ad ca A z x1 hD  σ r1 hc1) (cwV 1 hts gr_X9_129 rfl rfl rfl h9_X9_functionAt ⟨Nat.le_of_ble_eq_true rfl, Nat.le_of_ble_eq_true rfl⟩) (x_prV zkC hz hK hP (mk_450 h01) rfl rfl) rfl rfl hl.1 rfl (lv_room (Nat.le_of_ble_eq_true rfl)) dX9_call_2 ⟨Nat.le_of_ble_eq_true rfl, Nat.le_of_ble_eq_true rfl⟩) hS (fun H locs hP hS => ?_)
  refine x_astore_nQ (lv' := [(2, va_rf (Option.map (ad 50) r1)), (0, .ref (ad 450 0)), (1, .int x1)]) hx hb dX9_call_5 rfl hl (by decide) rfl (fun ls hl => ?_)
  refine x_aload_nQ hx hb dX9_call_6 rfl (lv_at hl 0 rfl) ?_
  cases r1 with
  | none =>
    have hf := oc_n hf
    refine lv_ifnonnullN hx hb dX9_call_7 ?_
    refine lv_bipush (v := (-2 : Int32)) hx hb dX9_call_10 rfl ?_
    have hf := Option.some.inj hf
    exact x_iret hx hb hr hlocks hK hP hS (congrArg Prod.fst hf) (congrArg Prod.snd hf) dX9_call_12
  | some q2 =>
    obtain ⟨h_q2, hf⟩ := oc_s hf
    refine lv_ifnonnull (tgt := 13) hx hb dX9_call_7 rfl ?_
    refine lv_aload_n hx hb dX9_call_13 rfl (lv_at hl 1 rfl) ?_
    refine lv_aload_n hx hb dX9_call_14 rfl (lv_at hl 0 rfl) ?_
    obtain ⟨r3, σ3, hc3, hf⟩ := bp_e hf
    refine x_ci (va_runV (As := [.ref (ad 50 q2)]) (rest := []) ⟨hx, hb, hml, hown, hts⟩ (t_X9_readToldRow l G ad ca A z q2 hD h_q2 σ r3 σ3 hc3) (cwV 1 hts gr_X9_202 rfl rfl rfl h9_X9_readToldRow ⟨Nat.le_of_ble_eq_true rfl, Nat.le_of_ble_eq_true rfl⟩) (x_prV zkC hz hK hP (mk_450 h01) rfl rfl) rfl rfl hl.1 rfl (lv_room (Nat.le_of_ble_eq_true rfl)) dX9_call_15 ⟨Nat.le_of_ble_eq_true rfl, Nat.le_of_ble_eq_true rfl⟩) hS (fun H locs hP hS => ?_)
    refine lv_if_ne (tgt := 24) hx hb dX9_call_18 rfl (fun hc => ?_) (fun hc => ?_)
    · have hf := b_n hf hc
      refine lv_aload_n hx hb dX9_call_24 rfl (lv_at hl 1 rfl) ?_
      refine x_get (k := 450) (n := 0) hx hb hts i_X9 hown hK hP (mk_450 h01) rfl rfl 7 (by decide) rfl k_52 (v := .ref (ad 150 0)) rfl dX9_call_25 ?_
      obtain ⟨σ4, hc4, hf⟩ := bd_e hf
      refine x_cv (va_runV (As := []) (rest := []) ⟨hx, hb, hml, hown, hts⟩ (t_X3_begin l G ad ca A z hD  σ3 σ4 hc4) (cwV 0 hts gr_X9_206 rfl rfl rfl h9_X3_begin ⟨Nat.le_of_ble_eq_true rfl, Nat.le_of_ble_eq_true rfl⟩) (x_prV zkC hz hK hP (mk_150 h01) rfl rfl) rfl rfl hl.1 rfl (lv_room (Nat.le_of_ble_eq_true rfl)) dX9_call_28 ⟨Nat.le_of_ble_eq_true rfl, Nat.le_of_ble_eq_true rfl⟩) hS (fun H locs hP hS => ?_)
      refine lv_aload_n hx hb dX9_call_31 rfl (lv_at hl 0 rfl) ?_
      refine lv_astore_n (lv' := [(3, .ref (ad 50 q2)), (2, .ref (ad 50 q2)), (0, .ref (ad 450 0)), (1, .int x1)]) hx hb dX9_call_32 rfl hl (by decide) rfl (fun ls hl => ?_)
      refine lv_iconst (v := (1 : Int32)) hx hb dX9_call_33 rfl ?_
      refine lv_istore (lv' := [(4, .int (1 : Int32)), (3, .ref (ad 50 q2)), (2, .ref (ad 50 q2)), (0, .ref (ad 450 0)), (1, .int x1)]) hx hb dX9_call_34 hl (by decide) rfl (fun ls hl => ?_)
      exact l36 _ c68 _ (some q2) (1 : Int32) σ4 _ _ _  hf (lv_sub hl [3, 1, 0] rfl) hP hS
    · have hf := b_p hf hc
      refine lv_bipush (v := (-3 : Int32)) hx hb dX9_call_21 rfl ?_
      have hf := Option.some.inj hf
      exact x_iret hx hb hr hlocks hK hP hS (congrArg Prod.fst hf) (congrArg Prod.snd hf) dX9_call_23
theorem h9_X9_value : yX9_value.cls = RX9 ∧ yX9_value.cls ≠ "java/lang/invoke/MethodHandle" ∧ yX9_value.cls ≠ "java/lang/invoke/VarHandle" ∧ (parseMethodDescriptor yX9_value.desc).map (fun d => d.parameters.length) = some 0 := by decide +kernel
set_option maxRecDepth 100000 in
set_option maxHeartbeats 4000000 in
theorem t_X9_value (l : Launch) (G : va_G) (ad : Nat → Nat → Nat) (ca : Nat → ClassId) (A : Nat → Prop) (z : Nat × Nat)  (hD : DW ad (LC z) A)  (σ : PS) (res : Int64) (hf : X9_value z   σ = some res) : Met l yX9_value wsX9_value ({ frames := 0, cells := 0, slots := 0, locals := 0 }) (ctP G ad ca (LC z) σ ZC [.ref (ad 450 0)]) (va_Ql (fun r' u => r' = res ∧ u = σ) (ctB G ad ca (LC z)) A) 0 0 A := by
  refine Met.ofW (cc := cX9_value) (maxL := 1) (ret := (some .long)) (by decide) rfl ?_
  intro p e s m args below meth c s₁ B hml hv
  obtain ⟨rfl, hP, hK, hz⟩ := hv
  have hx := B.exec
  have hb := B.bytes
  have hr := B.returns
  have hts : ∀ w ∈ WW, w.before _ s = true := fun w h => atoms_spec (ws := wsX9_value) B.pre w (List.mem_cons_of_mem _ h)
  have hown : s.vm.findClass RX9 = some m.cls := findClass_of_methodNamed B.named
  have hlocks := B.notSynchronized
  have hS : va_S A s.heap s.heap [] := va_S.rf
  have k_52 := hts _ kf_X9_52
  have k_216 := hts _ kf_X9_216
  have k_219 := hts _ kf_X9_219
  have hl := lv_entry ([.ref (ad 450 0)]) (n := 1) (Nat.le_of_ble_eq_true rfl)
  rw [lg_entry_eq]
  generalize (lg_sl ([.ref (ad 450 0)]) ++ List.replicate (1 - (lg_sl ([.ref (ad 450 0)])).length) Slot.unset).toArray = ls at hl ⊢
  have hl : lv_has ls 1 [(0, .ref (ad 450 0))] := hl
  unfold X9_value at hf
  refine lv_aload_n hx hb dX9_value_0 rfl (lv_at hl 0 rfl) ?_
  refine x_get (k := 450) (n := 0) hx hb hts i_X9 hown hK hP (mk_450 h01) rfl rfl 7 (by decide) rfl k_52 (v := .ref (ad 150 0)) rfl dX9_value_1 ?_
  refine x_get (k := 150) (n := 0) hx hb hts i_X3 hown hK hP (mk_150 h01) rfl rfl 3 (by decide) rfl k_216 (v := .int (gI σ 150 0 3)) rfl dX9_value_4 ?_
  refine lv_if_ne (tgt := 20) hx hb dX9_value_7 rfl (fun hc => ?_) (fun hc => ?_)
  · have hf := b_n hf hc
    refine lv_lconst (v := (0 : Int64)) hx hb dX9_value_20 rfl ?_
    exact x_lret hx hb hr hlocks hK hP hS (Option.some.inj hf) rfl dX9_value_21
  · have hf := b_p hf hc
    refine lv_aload_n hx hb dX9_value_10 rfl (lv_at hl 0 rfl) ?_
    refine x_get (k := 450) (n := 0) hx hb hts i_X9 hown hK hP (mk_450 h01) rfl rfl 7 (by decide) rfl k_52 (v := .ref (ad 150 0)) rfl dX9_value_11 ?_
    refine x_get (k := 150) (n := 0) hx hb hts i_X3 hown hK hP (mk_150 h01) rfl rfl 5 (by decide) rfl k_219 (v := .long (gL σ 150 0 5)) rfl dX9_value_14 ?_
    refine lv_goto (tgt := 21) hx hb dX9_value_17 rfl ?_
    exact x_lret hx hb hr hlocks hK hP hS (Option.some.inj hf) rfl dX9_value_21
theorem h9_X9_failure : yX9_failure.cls = RX9 ∧ yX9_failure.cls ≠ "java/lang/invoke/MethodHandle" ∧ yX9_failure.cls ≠ "java/lang/invoke/VarHandle" ∧ (parseMethodDescriptor yX9_failure.desc).map (fun d => d.parameters.length) = some 0 := by decide +kernel
set_option maxRecDepth 100000 in
set_option maxHeartbeats 4000000 in
theorem t_X9_failure (l : Launch) (G : va_G) (ad : Nat → Nat → Nat) (ca : Nat → ClassId) (A : Nat → Prop) (z : Nat × Nat)  (hD : DW ad (LC z) A)  (σ : PS) (res : Int32) (hf : X9_failure z   σ = some res) : Met l yX9_failure wsX9_failure ({ frames := 0, cells := 0, slots := 0, locals := 0 }) (ctP G ad ca (LC z) σ ZC [.ref (ad 450 0)]) (va_Qi (fun r' u => r' = res ∧ u = σ) (ctB G ad ca (LC z)) A) 0 0 A := by
  refine Met.ofW (cc := cX9_failure) (maxL := 1) (ret := (some .int)) (by decide) rfl ?_
  intro p e s m args below meth c s₁ B hml hv
  obtain ⟨rfl, hP, hK, hz⟩ := hv
  have hx := B.exec
  have hb := B.bytes
  have hr := B.returns
  have hts : ∀ w ∈ WW, w.before _ s = true := fun w h => atoms_spec (ws := wsX9_failure) B.pre w (List.mem_cons_of_mem _ h)
  have hown : s.vm.findClass RX9 = some m.cls := findClass_of_methodNamed B.named
  have hlocks := B.notSynchronized
  have hS : va_S A s.heap s.heap [] := va_S.rf
  have k_52 := hts _ kf_X9_52
  have k_216 := hts _ kf_X9_216
  have k_223 := hts _ kf_X9_223
  have hl := lv_entry ([.ref (ad 450 0)]) (n := 1) (Nat.le_of_ble_eq_true rfl)
  rw [lg_entry_eq]
  generalize (lg_sl ([.ref (ad 450 0)]) ++ List.replicate (1 - (lg_sl ([.ref (ad 450 0)])).length) Slot.unset).toArray = ls at hl ⊢
  have hl : lv_has ls 1 [(0, .ref (ad 450 0))] := hl
  unfold X9_failure at hf
  refine lv_aload_n hx hb dX9_failure_0 rfl (lv_at hl 0 rfl) ?_
  refine x_get (k := 450) (n := 0) hx hb hts i_X9 hown hK hP (mk_450 h01) rfl rfl 7 (by decide) rfl k_52 (v := .ref (ad 150 0)) rfl dX9_failure_1 ?_
  refine x_get (k := 150) (n := 0) hx hb hts i_X3 hown hK hP (mk_150 h01) rfl rfl 3 (by decide) rfl k_216 (v := .int (gI σ 150 0 3)) rfl dX9_failure_4 ?_
  refine lv_iconst (v := (3 : Int32)) hx hb dX9_failure_7 rfl ?_
  refine lv_icmp_ne (tgt := 21) hx hb dX9_failure_8 rfl (fun hc => ?_) (fun hc => ?_)
  · have hf := b_n hf hc
    refine lv_iconst (v := (0 : Int32)) hx hb dX9_failure_21 rfl ?_
    exact x_iret hx hb hr hlocks hK hP hS (Option.some.inj hf) rfl dX9_failure_22
  · have hf := b_p hf hc
    refine lv_aload_n hx hb dX9_failure_11 rfl (lv_at hl 0 rfl) ?_
    refine x_get (k := 450) (n := 0) hx hb hts i_X9 hown hK hP (mk_450 h01) rfl rfl 7 (by decide) rfl k_52 (v := .ref (ad 150 0)) rfl dX9_failure_12 ?_
    refine x_get (k := 150) (n := 0) hx hb hts i_X3 hown hK hP (mk_150 h01) rfl rfl 4 (by decide) rfl k_223 (v := .int (gI σ 150 0 4)) rfl dX9_failure_15 ?_
    refine lv_goto (tgt := 22) hx hb dX9_failure_18 rfl ?_
    exact x_iret hx hb hr hlocks hK hP hS (Option.some.inj hf) rfl dX9_failure_22
theorem h9_X9_step : yX9_step.cls = RX9 ∧ yX9_step.cls ≠ "java/lang/invoke/MethodHandle" ∧ yX9_step.cls ≠ "java/lang/invoke/VarHandle" ∧ (parseMethodDescriptor yX9_step.desc).map (fun d => d.parameters.length) = some 1 := by decide +kernel
set_option maxRecDepth 100000 in
set_option maxHeartbeats 4000000 in
theorem t_X9_step (l : Launch) (G : va_G) (ad : Nat → Nat → Nat) (ca : Nat → ClassId) (A : Nat → Prop) (z : Nat × Nat)  (x1 : Int32) (hD : DW ad (LC z) A)  (σ : PS) (res : Int32) (hf : X9_step z  x1 σ = some res) : Met l yX9_step wsX9_step ({ frames := 0, cells := 0, slots := 0, locals := 0 }) (ctP G ad ca (LC z) σ ZC [.ref (ad 450 0), .int x1]) (va_Qi (fun r' u => r' = res ∧ u = σ) (ctB G ad ca (LC z)) A) 0 0 A := by
  refine Met.ofW (cc := cX9_step) (maxL := 2) (ret := (some .int)) (by decide) rfl ?_
  intro p e s m args below meth c s₁ B hml hv
  obtain ⟨rfl, hP, hK, hz⟩ := hv
  have hx := B.exec
  have hb := B.bytes
  have hr := B.returns
  have hts : ∀ w ∈ WW, w.before _ s = true := fun w h => atoms_spec (ws := wsX9_step) B.pre w (List.mem_cons_of_mem _ h)
  have hown : s.vm.findClass RX9 = some m.cls := findClass_of_methodNamed B.named
  have hlocks := B.notSynchronized
  have hS : va_S A s.heap s.heap [] := va_S.rf
  have k_52 := hts _ kf_X9_52
  have k_226 := hts _ kf_X9_226
  have k_229 := hts _ kf_X9_229
  have hl := lv_entry ([.ref (ad 450 0), .int x1]) (n := 2) (Nat.le_of_ble_eq_true rfl)
  rw [lg_entry_eq]
  generalize (lg_sl ([.ref (ad 450 0), .int x1]) ++ List.replicate (2 - (lg_sl ([.ref (ad 450 0), .int x1])).length) Slot.unset).toArray = ls at hl ⊢
  have hl : lv_has ls 2 [(0, .ref (ad 450 0)), (1, .int x1)] := hl
  unfold X9_step at hf
  refine lv_iload_n hx hb dX9_step_0 rfl (lv_at hl 1 rfl) ?_
  refine lv_if_lt (tgt := 22) hx hb dX9_step_1 rfl (fun hc => ?_) (fun hc => ?_)
  · have hf := b_p hf hc
    refine lv_iconst (v := (-1 : Int32)) hx hb dX9_step_22 rfl ?_
    exact x_iret hx hb hr hlocks hK hP hS (Option.some.inj hf) rfl dX9_step_23
  · have hf := b_n hf hc
    refine lv_iload_n hx hb dX9_step_4 rfl (lv_at hl 1 rfl) ?_
    refine lv_aload_n hx hb dX9_step_5 rfl (lv_at hl 0 rfl) ?_
    refine x_get (k := 450) (n := 0) hx hb hts i_X9 hown hK hP (mk_450 h01) rfl rfl 7 (by decide) rfl k_52 (v := .ref (ad 150 0)) rfl dX9_step_6 ?_
    refine x_get (k := 150) (n := 0) hx hb hts i_X3 hown hK hP (mk_150 h01) rfl rfl 1 (by decide) rfl k_226 (v := .int (gI σ 150 0 1)) rfl dX9_step_9 ?_
    refine lv_icmp_ge (tgt := 22) hx hb dX9_step_12 rfl (fun hc => ?_) (fun hc => ?_)
    · have hf := b_p hf hc
      refine lv_iconst (v := (-1 : Int32)) hx hb dX9_step_22 rfl ?_
      exact x_iret hx hb hr hlocks hK hP hS (Option.some.inj hf) rfl dX9_step_23
    · have hf := b_n hf hc
      refine lv_iload_n hx hb dX9_step_15 rfl (lv_at hl 1 rfl) ?_
      refine lv_sipush (v := (1000 : Int32)) hx hb dX9_step_16 rfl ?_
      refine lv_icmp_lt (tgt := 24) hx hb dX9_step_19 rfl (fun hc => ?_) (fun hc => ?_)
      · have hf := b_p hf hc
        refine lv_aload_n hx hb dX9_step_24 rfl (lv_at hl 0 rfl) ?_
        refine x_get (k := 450) (n := 0) hx hb hts i_X9 hown hK hP (mk_450 h01) rfl rfl 7 (by decide) rfl k_52 (v := .ref (ad 150 0)) rfl dX9_step_25 ?_
        refine x_get (k := 150) (n := 0) hx hb hts i_X3 hown hK hP (mk_150 h01) rfl rfl 0 (by decide) rfl k_229 (v := .ref (ad 151 0)) rfl dX9_step_28 ?_
        refine lv_iload_n hx hb dX9_step_31 rfl (lv_at hl 1 rfl) ?_
        obtain ⟨g1, hf⟩ := gd_e hf
        refine x_iald (k := 151) (n := 0) hx hb hK hP (mk_151 h01) rfl g1 dX9_step_32 ?_
        exact x_iret hx hb hr hlocks hK hP hS (Option.some.inj hf) rfl dX9_step_33
      · have hf := b_n hf hc
        refine lv_iconst (v := (-1 : Int32)) hx hb dX9_step_22 rfl ?_
        exact x_iret hx hb hr hlocks hK hP hS (Option.some.inj hf) rfl dX9_step_23
theorem h9_X9_counter : yX9_counter.cls = RX9 ∧ yX9_counter.cls ≠ "java/lang/invoke/MethodHandle" ∧ yX9_counter.cls ≠ "java/lang/invoke/VarHandle" ∧ (parseMethodDescriptor yX9_counter.desc).map (fun d => d.parameters.length) = some 1 := by decide +kernel
set_option maxRecDepth 100000 in
set_option maxHeartbeats 4000000 in
theorem t_X9_counter (l : Launch) (G : va_G) (ad : Nat → Nat → Nat) (ca : Nat → ClassId) (A : Nat → Prop) (z : Nat × Nat)  (x1 : Int32) (hD : DW ad (LC z) A)  (σ : PS) (res : Int32) (hf : X9_counter z  x1 σ = some res) : Met l yX9_counter wsX9_counter ({ frames := 0, cells := 0, slots := 0, locals := 0 }) (ctP G ad ca (LC z) σ ZC [.ref (ad 450 0), .int x1]) (va_Qi (fun r' u => r' = res ∧ u = σ) (ctB G ad ca (LC z)) A) 0 0 A := by
  refine Met.ofW (cc := cX9_counter) (maxL := 2) (ret := (some .int)) (by decide) rfl ?_
  intro p e s m args below meth c s₁ B hml hv
  obtain ⟨rfl, hP, hK, hz⟩ := hv
  have hx := B.exec
  have hb := B.bytes
  have hr := B.returns
  have hts : ∀ w ∈ WW, w.before _ s = true := fun w h => atoms_spec (ws := wsX9_counter) B.pre w (List.mem_cons_of_mem _ h)
  have hown : s.vm.findClass RX9 = some m.cls := findClass_of_methodNamed B.named
  have hlocks := B.notSynchronized
  have hS : va_S A s.heap s.heap [] := va_S.rf
  have k_39 := hts _ kf_X9_39
  have hl := lv_entry ([.ref (ad 450 0), .int x1]) (n := 2) (Nat.le_of_ble_eq_true rfl)
  rw [lg_entry_eq]
  generalize (lg_sl ([.ref (ad 450 0), .int x1]) ++ List.replicate (2 - (lg_sl ([.ref (ad 450 0), .int x1])).length) Slot.unset).toArray = ls at hl ⊢
  have hl : lv_has ls 2 [(0, .ref (ad 450 0)), (1, .int x1)] := hl
  unfold X9_counter at hf
  refine lv_iload_n hx hb dX9_counter_0 rfl (lv_at hl 1 rfl) ?_
  refine lv_if_lt (tgt := 10) hx hb dX9_counter_1 rfl (fun hc => ?_) (fun hc => ?_)
  · have hf := b_p hf hc
    refine lv_iconst (v := (-1 : Int32)) hx hb dX9_counter_10 rfl ?_
    refine lv_goto (tgt := 20) hx hb dX9_counter_11 rfl ?_
    exact x_iret hx hb hr hlocks hK hP hS (Option.some.inj hf) rfl dX9_counter_20
  · have hf := b_n hf hc
    refine lv_iload_n hx hb dX9_counter_4 rfl (lv_at hl 1 rfl) ?_
    refine lv_bipush (v := (8 : Int32)) hx hb dX9_counter_5 rfl ?_
    refine lv_icmp_lt (tgt := 14) hx hb dX9_counter_7 rfl (fun hc => ?_) (fun hc => ?_)
    · have hf := b_p hf hc
      refine lv_aload_n hx hb dX9_counter_14 rfl (lv_at hl 0 rfl) ?_
      refine x_get (k := 450) (n := 0) hx hb hts i_X9 hown hK hP (mk_450 h01) rfl rfl 5 (by decide) rfl k_39 (v := .ref (ad 456 0)) rfl dX9_counter_15 ?_
      refine lv_iload_n hx hb dX9_counter_18 rfl (lv_at hl 1 rfl) ?_
      obtain ⟨g1, hf⟩ := gd_e hf
      refine x_iald (k := 456) (n := 0) hx hb hK hP (mk_456 h01) rfl g1 dX9_counter_19 ?_
      exact x_iret hx hb hr hlocks hK hP hS (Option.some.inj hf) rfl dX9_counter_20
    · have hf := b_n hf hc
      refine lv_iconst (v := (-1 : Int32)) hx hb dX9_counter_10 rfl ?_
      refine lv_goto (tgt := 20) hx hb dX9_counter_11 rfl ?_
      exact x_iret hx hb hr hlocks hK hP hS (Option.some.inj hf) rfl dX9_counter_20
theorem h9_X9_applicable : yX9_applicable.cls = RX9 ∧ yX9_applicable.cls ≠ "java/lang/invoke/MethodHandle" ∧ yX9_applicable.cls ≠ "java/lang/invoke/VarHandle" ∧ (parseMethodDescriptor yX9_applicable.desc).map (fun d => d.parameters.length) = some 2 := by decide +kernel
set_option maxRecDepth 100000 in
set_option maxHeartbeats 4000000 in
theorem t_X9_applicable (l : Launch) (G : va_G) (ad : Nat → Nat → Nat) (ca : Nat → ClassId) (A : Nat → Prop) (z : Nat × Nat)  (x1 : Int32) (x2 : Int32) (hD : DW ad (LC z) A)  (σ : PS) (res : Int32) (σz : PS) (hf : X9_applicable z  x1 x2 σ = some (res, σz)) : Met l yX9_applicable wsX9_applicable ({ frames := 5, cells := 0, slots := 0, locals := 112 }) (ctP G ad ca (LC z) σ ZC [.ref (ad 450 0), .int x1, .int x2]) (va_Qi (fun r' u => r' = res ∧ u = σz) (ctB G ad ca (LC z)) A) 0 0 A := by
  refine Met.ofW (cc := cX9_applicable) (maxL := 4) (ret := (some .int)) (by decide) rfl ?_
  intro p e s m args below meth c s₁ B hml hv
  obtain ⟨rfl, hP, hK, hz⟩ := hv
  have hx := B.exec
  have hb := B.bytes
  have hr := B.returns
  have hts : ∀ w ∈ WW, w.before _ s = true := fun w h => atoms_spec (ws := wsX9_applicable) B.pre w (List.mem_cons_of_mem _ h)
  have hown : s.vm.findClass RX9 = some m.cls := findClass_of_methodNamed B.named
  have hlocks := B.notSynchronized
  have hS : va_S A s.heap s.heap [] := va_S.rf
  have k_45 := hts _ kf_X9_45
  have hl := lv_entry ([.ref (ad 450 0), .int x1, .int x2]) (n := 4) (Nat.le_of_ble_eq_true rfl)
  rw [lg_entry_eq]
  generalize (lg_sl ([.ref (ad 450 0), .int x1, .int x2]) ++ List.replicate (4 - (lg_sl ([.ref (ad 450 0), .int x1, .int x2])).length) Slot.unset).toArray = ls at hl ⊢
  have hl : lv_has ls 4 [(0, .ref (ad 450 0)), (1, .int x1), (2, .int x2)] := hl
  unfold X9_applicable at hf
  refine lv_aload_n hx hb dX9_applicable_0 rfl (lv_at hl 0 rfl) ?_
  refine lv_iload_n hx hb dX9_applicable_1 rfl (lv_at hl 1 rfl) ?_
  obtain ⟨r1, hc1, hf⟩ := bd_e hf
  refine x_cq (va_runV (As := [.int x1]) (rest := []) ⟨hx, hb, hml, hown, hts⟩ (t_X9_functionAt l G ad ca A z x1 hD  σ r1 hc1) (cwV 1 hts gr_X9_129 rfl rfl rfl h9_X9_functionAt ⟨Nat.le_of_ble_eq_true rfl, Nat.le_of_ble_eq_true rfl⟩) (x_prV zkC hz hK hP (mk_450 h01) rfl rfl) rfl rfl hl.1 rfl (lv_room (Nat.le_of_ble_eq_true rfl)) dX9_applicable_2 ⟨Nat.le_of_ble_eq_true rfl, Nat.le_of_ble_eq_true rfl⟩) hS (fun H locs hP hS => ?_)
  refine x_astore_nQ (lv' := [(3, va_rf (Option.map (ad 50) r1)), (0, .ref (ad 450 0)), (1, .int x1), (2, .int x2)]) hx hb dX9_applicable_5 rfl hl (by decide) rfl (fun ls hl => ?_)
  refine x_aload_nQ hx hb dX9_applicable_6 rfl (lv_at hl 0 rfl) ?_
  cases r1 with
  | none =>
    have hf := oc_n hf
    refine lv_ifnullN (tgt := 18) hx hb dX9_applicable_7 rfl ?_
    refine lv_iconst (v := (-1 : Int32)) hx hb dX9_applicable_18 rfl ?_
    have hf := Option.some.inj hf
    exact x_iret hx hb hr hlocks hK hP hS (congrArg Prod.fst hf) (congrArg Prod.snd hf) dX9_applicable_19
  | some q2 =>
    obtain ⟨h_q2, hf⟩ := oc_s hf
    refine lv_ifnull hx hb dX9_applicable_7 ?_
    refine lv_aload_n hx hb dX9_applicable_10 rfl (lv_at hl 1 rfl) ?_
    refine lv_aload_n hx hb dX9_applicable_11 rfl (lv_at hl 0 rfl) ?_
    obtain ⟨r3, σ3, hc3, hf⟩ := bp_e hf
    refine x_ci (va_runV (As := [.ref (ad 50 q2)]) (rest := []) ⟨hx, hb, hml, hown, hts⟩ (t_X9_readToldRow l G ad ca A z q2 hD h_q2 σ r3 σ3 hc3) (cwV 1 hts gr_X9_202 rfl rfl rfl h9_X9_readToldRow ⟨Nat.le_of_ble_eq_true rfl, Nat.le_of_ble_eq_true rfl⟩) (x_prV zkC hz hK hP (mk_450 h01) rfl rfl) rfl rfl hl.1 rfl (lv_room (Nat.le_of_ble_eq_true rfl)) dX9_applicable_12 ⟨Nat.le_of_ble_eq_true rfl, Nat.le_of_ble_eq_true rfl⟩) hS (fun H locs hP hS => ?_)
    refine lv_if_ne (tgt := 20) hx hb dX9_applicable_15 rfl (fun hc => ?_) (fun hc => ?_)
    · have hf := b_n hf hc
      refine lv_aload_n hx hb dX9_applicable_20 rfl (lv_at hl 0 rfl) ?_
      refine lv_aload_n hx hb dX9_applicable_21 rfl (lv_at hl 0 rfl) ?_
      refine lv_aload_n hx hb dX9_applicable_22 rfl (lv_at hl 1 rfl) ?_
      refine x_get (k := 450) (n := 0) hx hb hts i_X9 hown hK hP (mk_450 h01) rfl rfl 6 (by decide) rfl k_45 (v := .ref (ad 300 0)) rfl dX9_applicable_23 ?_
      obtain ⟨r4, hc4, hf⟩ := bd_e hf
      refine x_ci (va_runV (As := [.ref (ad 300 0)]) (rest := [.ref (ad 50 q2)]) ⟨hx, hb, hml, hown, hts⟩ (t_X1_plainTakersOf l G ad ca A z q2 hD h_q2 σ3 r4 hc4) (cwV 1 hts gr_X9_232 rfl rfl rfl h9_X1_plainTakersOf ⟨Nat.le_of_ble_eq_true rfl, Nat.le_of_ble_eq_true rfl⟩) (x_prV zkC hz hK hP (mk_50 h_q2) rfl rfl) rfl rfl hl.1 rfl (lv_room (Nat.le_of_ble_eq_true rfl)) dX9_applicable_26 ⟨Nat.le_of_ble_eq_true rfl, Nat.le_of_ble_eq_true rfl⟩) hS (fun H locs hP hS => ?_)
      refine lv_iload_n hx hb dX9_applicable_29 rfl (lv_at hl 3 rfl) ?_
      obtain ⟨r5, hc5, hf⟩ := bd_e hf
      refine x_ci (va_runS (As := [.int r4, .int x2]) (rest := [.ref (ad 50 q2)]) ⟨hx, hb, hml, hown, hts⟩ (t_X9_memberAt l G ad ca A z r4 x2 hD  σ3 r5 hc5) (va_cwS 2 hts gr_X9_236 rfl rfl rfl h9_X9_memberAt ⟨Nat.le_of_ble_eq_true rfl, Nat.le_of_ble_eq_true rfl⟩) (x_prS zkC hz hK hP) rfl rfl hl.1 rfl (lv_room (Nat.le_of_ble_eq_true rfl)) dX9_applicable_30 ⟨Nat.le_of_ble_eq_true rfl, Nat.le_of_ble_eq_true rfl⟩) hS (fun H locs hP hS => ?_)
      obtain ⟨r6, hc6, hf⟩ := bd_e hf
      refine x_ci (va_runV (As := [.int r5]) (rest := []) ⟨hx, hb, hml, hown, hts⟩ (t_X1_numberAt l G ad ca A z q2 r5 hD h_q2 σ3 r6 hc6) (cwV 1 hts gr_X9_198 rfl rfl rfl h9_X1_numberAt ⟨Nat.le_of_ble_eq_true rfl, Nat.le_of_ble_eq_true rfl⟩) (x_prV zkC hz hK hP (mk_50 h_q2) rfl rfl) rfl rfl hl.1 rfl (lv_room (Nat.le_of_ble_eq_true rfl)) dX9_applicable_33 ⟨Nat.le_of_ble_eq_true rfl, Nat.le_of_ble_eq_true rfl⟩) hS (fun H locs hP hS => ?_)
      have hf := Option.some.inj hf
      exact x_iret hx hb hr hlocks hK hP hS (congrArg Prod.fst hf) (congrArg Prod.snd hf) dX9_applicable_36
    · have hf := b_p hf hc
      refine lv_iconst (v := (-1 : Int32)) hx hb dX9_applicable_18 rfl ?_
      have hf := Option.some.inj hf
      exact x_iret hx hb hr hlocks hK hP hS (congrArg Prod.fst hf) (congrArg Prod.snd hf) dX9_applicable_19
theorem h9_X9_most : yX9_most.cls = RX9 ∧ yX9_most.cls ≠ "java/lang/invoke/MethodHandle" ∧ yX9_most.cls ≠ "java/lang/invoke/VarHandle" ∧ (parseMethodDescriptor yX9_most.desc).map (fun d => d.parameters.length) = some 1 := by decide +kernel
set_option maxRecDepth 100000 in
set_option maxHeartbeats 4000000 in
theorem t_X9_most (l : Launch) (G : va_G) (ad : Nat → Nat → Nat) (ca : Nat → ClassId) (A : Nat → Prop) (z : Nat × Nat)  (x1 : Int32) (hD : DW ad (LC z) A)  (σ : PS) (res : Int32) (σz : PS) (hf : X9_most z  x1 σ = some (res, σz)) : Met l yX9_most wsX9_most ({ frames := 5, cells := 0, slots := 0, locals := 112 }) (ctP G ad ca (LC z) σ ZC [.ref (ad 450 0), .int x1]) (va_Qi (fun r' u => r' = res ∧ u = σz) (ctB G ad ca (LC z)) A) 0 0 A := by
  refine Met.ofW (cc := cX9_most) (maxL := 3) (ret := (some .int)) (by decide) rfl ?_
  intro p e s m args below meth c s₁ B hml hv
  obtain ⟨rfl, hP, hK, hz⟩ := hv
  have hx := B.exec
  have hb := B.bytes
  have hr := B.returns
  have hts : ∀ w ∈ WW, w.before _ s = true := fun w h => atoms_spec (ws := wsX9_most) B.pre w (List.mem_cons_of_mem _ h)
  have hown : s.vm.findClass RX9 = some m.cls := findClass_of_methodNamed B.named
  have hlocks := B.notSynchronized
  have hS : va_S A s.heap s.heap [] := va_S.rf
  have k_45 := hts _ kf_X9_45
  have hl := lv_entry ([.ref (ad 450 0), .int x1]) (n := 3) (Nat.le_of_ble_eq_true rfl)
  rw [lg_entry_eq]
  generalize (lg_sl ([.ref (ad 450 0), .int x1]) ++ List.replicate (3 - (lg_sl ([.ref (ad 450 0), .int x1])).length) Slot.unset).toArray = ls at hl ⊢
  have hl : lv_has ls 3 [(0, .ref (ad 450 0)), (1, .int x1)] := hl
  unfold X9_most at hf
  refine lv_aload_n hx hb dX9_most_0 rfl (lv_at hl 0 rfl) ?_
  refine lv_iload_n hx hb dX9_most_1 rfl (lv_at hl 1 rfl) ?_
  obtain ⟨r1, hc1, hf⟩ := bd_e hf
  refine x_cq (va_runV (As := [.int x1]) (rest := []) ⟨hx, hb, hml, hown, hts⟩ (t_X9_functionAt l G ad ca A z x1 hD  σ r1 hc1) (cwV 1 hts gr_X9_129 rfl rfl rfl h9_X9_functionAt ⟨Nat.le_of_ble_eq_true rfl, Nat.le_of_ble_eq_true rfl⟩) (x_prV zkC hz hK hP (mk_450 h01) rfl rfl) rfl rfl hl.1 rfl (lv_room (Nat.le_of_ble_eq_true rfl)) dX9_most_2 ⟨Nat.le_of_ble_eq_true rfl, Nat.le_of_ble_eq_true rfl⟩) hS (fun H locs hP hS => ?_)
  refine x_astore_nQ (lv' := [(2, va_rf (Option.map (ad 50) r1)), (0, .ref (ad 450 0)), (1, .int x1)]) hx hb dX9_most_5 rfl hl (by decide) rfl (fun ls hl => ?_)
  refine x_aload_nQ hx hb dX9_most_6 rfl (lv_at hl 0 rfl) ?_
  cases r1 with
  | none =>
    have hf := oc_n hf
    refine lv_ifnullN (tgt := 18) hx hb dX9_most_7 rfl ?_
    refine lv_iconst (v := (-1 : Int32)) hx hb dX9_most_18 rfl ?_
    have hf := Option.some.inj hf
    exact x_iret hx hb hr hlocks hK hP hS (congrArg Prod.fst hf) (congrArg Prod.snd hf) dX9_most_19
  | some q2 =>
    obtain ⟨h_q2, hf⟩ := oc_s hf
    refine lv_ifnull hx hb dX9_most_7 ?_
    refine lv_aload_n hx hb dX9_most_10 rfl (lv_at hl 1 rfl) ?_
    refine lv_aload_n hx hb dX9_most_11 rfl (lv_at hl 0 rfl) ?_
    obtain ⟨r3, σ3, hc3, hf⟩ := bp_e hf
    refine x_ci (va_runV (As := [.ref (ad 50 q2)]) (rest := []) ⟨hx, hb, hml, hown, hts⟩ (t_X9_readToldRow l G ad ca A z q2 hD h_q2 σ r3 σ3 hc3) (cwV 1 hts gr_X9_202 rfl rfl rfl h9_X9_readToldRow ⟨Nat.le_of_ble_eq_true rfl, Nat.le_of_ble_eq_true rfl⟩) (x_prV zkC hz hK hP (mk_450 h01) rfl rfl) rfl rfl hl.1 rfl (lv_room (Nat.le_of_ble_eq_true rfl)) dX9_most_12 ⟨Nat.le_of_ble_eq_true rfl, Nat.le_of_ble_eq_true rfl⟩) hS (fun H locs hP hS => ?_)
    refine lv_if_ne (tgt := 20) hx hb dX9_most_15 rfl (fun hc => ?_) (fun hc => ?_)
    · have hf := b_n hf hc
      refine lv_aload_n hx hb dX9_most_20 rfl (lv_at hl 0 rfl) ?_
      refine lv_aload_n hx hb dX9_most_21 rfl (lv_at hl 0 rfl) ?_
      refine lv_aload_n hx hb dX9_most_22 rfl (lv_at hl 0 rfl) ?_
      refine lv_aload_n hx hb dX9_most_23 rfl (lv_at hl 1 rfl) ?_
      refine x_get (k := 450) (n := 0) hx hb hts i_X9 hown hK hP (mk_450 h01) rfl rfl 6 (by decide) rfl k_45 (v := .ref (ad 300 0)) rfl dX9_most_24 ?_
      obtain ⟨r4, hc4, hf⟩ := bd_e hf
      refine x_ci (va_runV (As := [.ref (ad 300 0)]) (rest := [.ref (ad 50 q2), .ref (ad 50 q2)]) ⟨hx, hb, hml, hown, hts⟩ (t_X1_plainTakersOf l G ad ca A z q2 hD h_q2 σ3 r4 hc4) (cwV 1 hts gr_X9_232 rfl rfl rfl h9_X1_plainTakersOf ⟨Nat.le_of_ble_eq_true rfl, Nat.le_of_ble_eq_true rfl⟩) (x_prV zkC hz hK hP (mk_50 h_q2) rfl rfl) rfl rfl hl.1 rfl (lv_room (Nat.le_of_ble_eq_true rfl)) dX9_most_27 ⟨Nat.le_of_ble_eq_true rfl, Nat.le_of_ble_eq_true rfl⟩) hS (fun H locs hP hS => ?_)
      obtain ⟨r5, hc5, hf⟩ := bd_e hf
      refine x_ci (va_runV (As := [.int r4]) (rest := [.ref (ad 50 q2)]) ⟨hx, hb, hml, hown, hts⟩ (t_X1_chosenOf l G ad ca A z q2 r4 hD h_q2 σ3 r5 hc5) (cwV 1 hts gr_X9_239 rfl rfl rfl h9_X1_chosenOf ⟨Nat.le_of_ble_eq_true rfl, Nat.le_of_ble_eq_true rfl⟩) (x_prV zkC hz hK hP (mk_50 h_q2) rfl rfl) rfl rfl hl.1 rfl (lv_room (Nat.le_of_ble_eq_true rfl)) dX9_most_30 ⟨Nat.le_of_ble_eq_true rfl, Nat.le_of_ble_eq_true rfl⟩) hS (fun H locs hP hS => ?_)
      obtain ⟨r6, hc6, hf⟩ := bd_e hf
      refine x_ci (va_runV (As := [.int r5]) (rest := []) ⟨hx, hb, hml, hown, hts⟩ (t_X1_numberAt l G ad ca A z q2 r5 hD h_q2 σ3 r6 hc6) (cwV 1 hts gr_X9_198 rfl rfl rfl h9_X1_numberAt ⟨Nat.le_of_ble_eq_true rfl, Nat.le_of_ble_eq_true rfl⟩) (x_prV zkC hz hK hP (mk_50 h_q2) rfl rfl) rfl rfl hl.1 rfl (lv_room (Nat.le_of_ble_eq_true rfl)) dX9_most_33 ⟨Nat.le_of_ble_eq_true rfl, Nat.le_of_ble_eq_true rfl⟩) hS (fun H locs hP hS => ?_)
      have hf := Option.some.inj hf
      exact x_iret hx hb hr hlocks hK hP hS (congrArg Prod.fst hf) (congrArg Prod.snd hf) dX9_most_36
    · have hf := b_p hf hc
      refine lv_iconst (v := (-1 : Int32)) hx hb dX9_most_18 rfl ?_
      have hf := Option.some.inj hf
      exact x_iret hx hb hr hlocks hK hP hS (congrArg Prod.fst hf) (congrArg Prod.snd hf) dX9_most_19
theorem h9_X9_explainAmongTakers : yX9_explainAmongTakers.cls = RX9 ∧ yX9_explainAmongTakers.cls ≠ "java/lang/invoke/MethodHandle" ∧ yX9_explainAmongTakers.cls ≠ "java/lang/invoke/VarHandle" ∧ (parseMethodDescriptor yX9_explainAmongTakers.desc).map (fun d => d.parameters.length) = some 1 := by decide +kernel
set_option maxRecDepth 100000 in
set_option maxHeartbeats 4000000 in
theorem t_X9_explainAmongTakers (l : Launch) (G : va_G) (ad : Nat → Nat → Nat) (ca : Nat → ClassId) (A : Nat → Prop) (z : Nat × Nat)  (n1 : Nat) (hD : DW ad (LC z) A) (hn1 : n1 < z.2) (σ : PS) (res : Int32) (σz : PS) (hf : X9_explainAmongTakers z  n1 σ = some (res, σz)) : Met l yX9_explainAmongTakers wsX9_explainAmongTakers ({ frames := 5, cells := 0, slots := 0, locals := 112 }) (ctP G ad ca (LC z) σ ZC [.ref (ad 450 0), .ref (ad 100 n1)]) (va_Qi (fun r' u => r' = res ∧ u = σz) (ctB G ad ca (LC z)) A) 0 0 A := by
  refine Met.ofW (cc := cX9_explainAmongTakers) (maxL := 7) (ret := (some .int)) (by decide) rfl ?_
  intro p e s m args below meth c s₁ B hml hv
  obtain ⟨rfl, hP, hK, hz⟩ := hv
  have hx := B.exec
  have hb := B.bytes
  have hr := B.returns
  have hts : ∀ w ∈ WW, w.before _ s = true := fun w h => atoms_spec (ws := wsX9_explainAmongTakers) B.pre w (List.mem_cons_of_mem _ h)
  have hown : s.vm.findClass RX9 = some m.cls := findClass_of_methodNamed B.named
  have hlocks := B.notSynchronized
  have hS : va_S A s.heap s.heap [] := va_S.rf
  have k_45 := hts _ kf_X9_45
  have k_70 := hts _ kf_X9_70
  have k_140 := hts _ kf_X9_140
  have hl := lv_entry ([.ref (ad 450 0), .ref (ad 100 n1)]) (n := 7) (Nat.le_of_ble_eq_true rfl)
  rw [lg_entry_eq]
  generalize (lg_sl ([.ref (ad 450 0), .ref (ad 100 n1)]) ++ List.replicate (7 - (lg_sl ([.ref (ad 450 0), .ref (ad 100 n1)])).length) Slot.unset).toArray = ls at hl ⊢
  have hl : lv_has ls 7 [(0, .ref (ad 450 0)), (1, .ref (ad 100 n1))] := hl
  unfold X9_explainAmongTakers at hf
  refine lv_aload_n hx hb dX9_explainAmongTakers_0 rfl (lv_at hl 1 rfl) ?_
  obtain ⟨q1, e_q1, h_q1, hf⟩ := dr_e hf
  refine x_get (k := 100) (n := n1) hx hb hts i_X2 hown hK hP (mk_100 hn1) rfl rfl 0 (by decide) rfl k_140 (v := .ref (ad 50 q1)) (show va_rf (Option.map (ad 50) (gR σ 100 n1 0)) = _ by rw [e_q1]; rfl) dX9_explainAmongTakers_1 ?_
  refine lv_astore_n (lv' := [(2, .ref (ad 50 q1)), (0, .ref (ad 450 0)), (1, .ref (ad 100 n1))]) hx hb dX9_explainAmongTakers_4 rfl hl (by decide) rfl (fun ls hl => ?_)
  refine lv_aload_n hx hb dX9_explainAmongTakers_5 rfl (lv_at hl 0 rfl) ?_
  refine lv_aload_n hx hb dX9_explainAmongTakers_6 rfl (lv_at hl 2 rfl) ?_
  obtain ⟨r2, hc2, hf⟩ := bd_e hf
  refine x_ci (va_runV (As := [.ref (ad 100 n1)]) (rest := []) ⟨hx, hb, hml, hown, hts⟩ (t_X1_indexOf l G ad ca A z q1 n1 hD h_q1 hn1 σ r2 hc2) (cwV 1 hts gr_X9_286 rfl rfl rfl h9_X1_indexOf ⟨Nat.le_of_ble_eq_true rfl, Nat.le_of_ble_eq_true rfl⟩) (x_prV zkC hz hK hP (mk_50 h_q1) rfl rfl) rfl rfl hl.1 rfl (lv_room (Nat.le_of_ble_eq_true rfl)) dX9_explainAmongTakers_7 ⟨Nat.le_of_ble_eq_true rfl, Nat.le_of_ble_eq_true rfl⟩) hS (fun H locs hP hS => ?_)
  refine lv_istore_n (lv' := [(3, .int r2), (2, .ref (ad 50 q1)), (0, .ref (ad 450 0)), (1, .ref (ad 100 n1))]) hx hb dX9_explainAmongTakers_10 rfl hl (by decide) rfl (fun ls hl => ?_)
  refine lv_aload_n hx hb dX9_explainAmongTakers_11 rfl (lv_at hl 1 rfl) ?_
  refine lv_aload_n hx hb dX9_explainAmongTakers_12 rfl (lv_at hl 2 rfl) ?_
  refine x_get (k := 450) (n := 0) hx hb hts i_X9 hown hK hP (mk_450 h01) rfl rfl 6 (by decide) rfl k_45 (v := .ref (ad 300 0)) rfl dX9_explainAmongTakers_13 ?_
  obtain ⟨r3, hc3, hf⟩ := bd_e hf
  refine x_ci (va_runV (As := [.ref (ad 300 0)]) (rest := []) ⟨hx, hb, hml, hown, hts⟩ (t_X1_plainTakersOf l G ad ca A z q1 hD h_q1 σ r3 hc3) (cwV 1 hts gr_X9_232 rfl rfl rfl h9_X1_plainTakersOf ⟨Nat.le_of_ble_eq_true rfl, Nat.le_of_ble_eq_true rfl⟩) (x_prV zkC hz hK hP (mk_50 h_q1) rfl rfl) rfl rfl hl.1 rfl (lv_room (Nat.le_of_ble_eq_true rfl)) dX9_explainAmongTakers_16 ⟨Nat.le_of_ble_eq_true rfl, Nat.le_of_ble_eq_true rfl⟩) hS (fun H locs hP hS => ?_)
  refine lv_istore (lv' := [(4, .int r3), (3, .int r2), (2, .ref (ad 50 q1)), (0, .ref (ad 450 0)), (1, .ref (ad 100 n1))]) hx hb dX9_explainAmongTakers_19 hl (by decide) rfl (fun ls hl => ?_)
  refine lv_iload hx hb dX9_explainAmongTakers_21 (lv_at hl 0 rfl) ?_
  refine lv_aload_n hx hb dX9_explainAmongTakers_23 rfl (lv_at hl 2 rfl) ?_
  refine lv_iload_n hx hb dX9_explainAmongTakers_24 rfl (lv_at hl 1 rfl) ?_
  obtain ⟨r4, hc4, hf⟩ := bd_e hf
  refine x_ci (va_runV (As := [.int r2]) (rest := [.int r3]) ⟨hx, hb, hml, hown, hts⟩ (t_X1_beatersOf l G ad ca A z q1 r2 hD h_q1 σ r4 hc4) (cwV 1 hts gr_X9_289 rfl rfl rfl h9_X1_beatersOf ⟨Nat.le_of_ble_eq_true rfl, Nat.le_of_ble_eq_true rfl⟩) (x_prV zkC hz hK hP (mk_50 h_q1) rfl rfl) rfl rfl hl.1 rfl (lv_room (Nat.le_of_ble_eq_true rfl)) dX9_explainAmongTakers_25 ⟨Nat.le_of_ble_eq_true rfl, Nat.le_of_ble_eq_true rfl⟩) hS (fun H locs hP hS => ?_)
  refine lv_iand hx hb dX9_explainAmongTakers_28 ?_
  obtain ⟨y5, e_y5, hf⟩ := nm_i hf
  refine x_nmI e_y5 ?_
  refine lv_istore (lv' := [(5, .int y5), (4, .int r3), (3, .int r2), (2, .ref (ad 50 q1)), (0, .ref (ad 450 0)), (1, .ref (ad 100 n1))]) hx hb dX9_explainAmongTakers_29 hl (by decide) rfl (fun ls hl => ?_)
  refine lv_iload hx hb dX9_explainAmongTakers_31 (lv_at hl 0 rfl) ?_
  refine lv_if_eq (tgt := 52) hx hb dX9_explainAmongTakers_33 rfl (fun hc => ?_) (fun hc => ?_)
  · have hf := b_p hf hc
    refine lv_iload hx hb dX9_explainAmongTakers_52 (lv_at hl 1 rfl) ?_
    refine lv_iconst (v := (1 : Int32)) hx hb dX9_explainAmongTakers_54 rfl ?_
    refine lv_iload_n hx hb dX9_explainAmongTakers_55 rfl (lv_at hl 2 rfl) ?_
    refine lv_ishl hx hb dX9_explainAmongTakers_56 ?_
    refine lv_iconst (v := (-1 : Int32)) hx hb dX9_explainAmongTakers_57 rfl ?_
    refine lv_ixor hx hb dX9_explainAmongTakers_58 ?_
    refine lv_iand hx hb dX9_explainAmongTakers_59 ?_
    refine lv_aload_n hx hb dX9_explainAmongTakers_60 rfl (lv_at hl 3 rfl) ?_
    refine lv_iload_n hx hb dX9_explainAmongTakers_61 rfl (lv_at hl 2 rfl) ?_
    obtain ⟨r6, hc6, hf⟩ := bd_e hf
    refine x_ci (va_runV (As := [.int r2]) (rest := [.int (r3 &&& (((1 : Int32) <<< (r2 &&& 31)) ^^^ (-1 : Int32)))]) ⟨hx, hb, hml, hown, hts⟩ (t_X1_beatenBy l G ad ca A z q1 r2 hD h_q1 σ r6 hc6) (cwV 1 hts gr_X9_292 rfl rfl rfl h9_X1_beatenBy ⟨Nat.le_of_ble_eq_true rfl, Nat.le_of_ble_eq_true rfl⟩) (x_prV zkC hz hK hP (mk_50 h_q1) rfl rfl) rfl rfl hl.1 rfl (lv_room (Nat.le_of_ble_eq_true rfl)) dX9_explainAmongTakers_62 ⟨Nat.le_of_ble_eq_true rfl, Nat.le_of_ble_eq_true rfl⟩) hS (fun H locs hP hS => ?_)
    refine lv_iconst (v := (-1 : Int32)) hx hb dX9_explainAmongTakers_65 rfl ?_
    refine lv_ixor hx hb dX9_explainAmongTakers_66 ?_
    refine lv_iand hx hb dX9_explainAmongTakers_67 ?_
    obtain ⟨y7, e_y7, hf⟩ := nm_i hf
    refine x_nmI e_y7 ?_
    refine lv_istore (lv' := [(6, .int y7), (5, .int y5), (4, .int r3), (3, .int r2), (2, .ref (ad 50 q1)), (0, .ref (ad 450 0)), (1, .ref (ad 100 n1))]) hx hb dX9_explainAmongTakers_68 hl (by decide) rfl (fun ls hl => ?_)
    refine lv_iload hx hb dX9_explainAmongTakers_70 (lv_at hl 0 rfl) ?_
    refine lv_if_eq (tgt := 91) hx hb dX9_explainAmongTakers_72 rfl (fun hc => ?_) (fun hc => ?_)
    · have hf := b_p hf hc
      refine lv_iconst (v := (0 : Int32)) hx hb dX9_explainAmongTakers_91 rfl ?_
      have hf := Option.some.inj hf
      exact x_iret hx hb hr hlocks hK hP hS (congrArg Prod.fst hf) (congrArg Prod.snd hf) dX9_explainAmongTakers_92
    · have hf := b_n hf hc
      refine lv_aload_n hx hb dX9_explainAmongTakers_75 rfl (lv_at hl 5 rfl) ?_
      refine lv_aload_n hx hb dX9_explainAmongTakers_76 rfl (lv_at hl 4 rfl) ?_
      refine lv_iload hx hb dX9_explainAmongTakers_77 (lv_at hl 0 rfl) ?_
      refine lv_iconst (v := (0 : Int32)) hx hb dX9_explainAmongTakers_79 rfl ?_
      obtain ⟨r8, hc8, hf⟩ := bd_e hf
      refine x_ci (va_runS (As := [.int y7, .int (0 : Int32)]) (rest := [.ref (ad 50 q1), .ref (ad 450 0)]) ⟨hx, hb, hml, hown, hts⟩ (t_X9_memberAt l G ad ca A z y7 (0 : Int32) hD  σ r8 hc8) (va_cwS 2 hts gr_X9_236 rfl rfl rfl h9_X9_memberAt ⟨Nat.le_of_ble_eq_true rfl, Nat.le_of_ble_eq_true rfl⟩) (x_prS zkC hz hK hP) rfl rfl hl.1 rfl (lv_room (Nat.le_of_ble_eq_true rfl)) dX9_explainAmongTakers_80 ⟨Nat.le_of_ble_eq_true rfl, Nat.le_of_ble_eq_true rfl⟩) hS (fun H locs hP hS => ?_)
      obtain ⟨r9, hc9, hf⟩ := bd_e hf
      refine x_ci (va_runV (As := [.int r8]) (rest := [.ref (ad 450 0)]) ⟨hx, hb, hml, hown, hts⟩ (t_X1_numberAt l G ad ca A z q1 r8 hD h_q1 σ r9 hc9) (cwV 1 hts gr_X9_198 rfl rfl rfl h9_X1_numberAt ⟨Nat.le_of_ble_eq_true rfl, Nat.le_of_ble_eq_true rfl⟩) (x_prV zkC hz hK hP (mk_50 h_q1) rfl rfl) rfl rfl hl.1 rfl (lv_room (Nat.le_of_ble_eq_true rfl)) dX9_explainAmongTakers_83 ⟨Nat.le_of_ble_eq_true rfl, Nat.le_of_ble_eq_true rfl⟩) hS (fun H locs hP hS => ?_)
      refine x_putI (k := 450) (n := 0) hx hb hts i_X9 tyX9 tyX9_ok nmX9 hown hK hD hP hS (mk_450 h01) rfl rfl 11 (by decide) rfl k_70 rfl rfl rfl rfl dX9_explainAmongTakers_86 (fun H locs hP hS => ?_)
      obtain ⟨σ10, e_σ10, hf⟩ := nm_i hf
      have hP : va_P G vwCl (wld ad ca σ10 (LC z)) H := by rw [e_σ10]; exact hP
      refine lv_iconst (v := (5 : Int32)) hx hb dX9_explainAmongTakers_89 rfl ?_
      have hf := Option.some.inj hf
      exact x_iret hx hb hr hlocks hK hP hS (congrArg Prod.fst hf) (congrArg Prod.snd hf) dX9_explainAmongTakers_90
  · have hf := b_n hf hc
    refine lv_aload_n hx hb dX9_explainAmongTakers_36 rfl (lv_at hl 4 rfl) ?_
    refine lv_aload_n hx hb dX9_explainAmongTakers_37 rfl (lv_at hl 3 rfl) ?_
    refine lv_iload hx hb dX9_explainAmongTakers_38 (lv_at hl 0 rfl) ?_
    refine lv_iconst (v := (0 : Int32)) hx hb dX9_explainAmongTakers_40 rfl ?_
    obtain ⟨r11, hc11, hf⟩ := bd_e hf
    refine x_ci (va_runS (As := [.int y5, .int (0 : Int32)]) (rest := [.ref (ad 50 q1), .ref (ad 450 0)]) ⟨hx, hb, hml, hown, hts⟩ (t_X9_memberAt l G ad ca A z y5 (0 : Int32) hD  σ r11 hc11) (va_cwS 2 hts gr_X9_236 rfl rfl rfl h9_X9_memberAt ⟨Nat.le_of_ble_eq_true rfl, Nat.le_of_ble_eq_true rfl⟩) (x_prS zkC hz hK hP) rfl rfl hl.1 rfl (lv_room (Nat.le_of_ble_eq_true rfl)) dX9_explainAmongTakers_41 ⟨Nat.le_of_ble_eq_true rfl, Nat.le_of_ble_eq_true rfl⟩) hS (fun H locs hP hS => ?_)
    obtain ⟨r12, hc12, hf⟩ := bd_e hf
    refine x_ci (va_runV (As := [.int r11]) (rest := [.ref (ad 450 0)]) ⟨hx, hb, hml, hown, hts⟩ (t_X1_numberAt l G ad ca A z q1 r11 hD h_q1 σ r12 hc12) (cwV 1 hts gr_X9_198 rfl rfl rfl h9_X1_numberAt ⟨Nat.le_of_ble_eq_true rfl, Nat.le_of_ble_eq_true rfl⟩) (x_prV zkC hz hK hP (mk_50 h_q1) rfl rfl) rfl rfl hl.1 rfl (lv_room (Nat.le_of_ble_eq_true rfl)) dX9_explainAmongTakers_44 ⟨Nat.le_of_ble_eq_true rfl, Nat.le_of_ble_eq_true rfl⟩) hS (fun H locs hP hS => ?_)
    refine x_putI (k := 450) (n := 0) hx hb hts i_X9 tyX9 tyX9_ok nmX9 hown hK hD hP hS (mk_450 h01) rfl rfl 11 (by decide) rfl k_70 rfl rfl rfl rfl dX9_explainAmongTakers_47 (fun H locs hP hS => ?_)
    obtain ⟨σ13, e_σ13, hf⟩ := nm_i hf
    have hP : va_P G vwCl (wld ad ca σ13 (LC z)) H := by rw [e_σ13]; exact hP
    refine lv_iconst (v := (4 : Int32)) hx hb dX9_explainAmongTakers_50 rfl ?_
    have hf := Option.some.inj hf
    exact x_iret hx hb hr hlocks hK hP hS (congrArg Prod.fst hf) (congrArg Prod.snd hf) dX9_explainAmongTakers_51
theorem h9_X9_explain : yX9_explain.cls = RX9 ∧ yX9_explain.cls ≠ "java/lang/invoke/MethodHandle" ∧ yX9_explain.cls ≠ "java/lang/invoke/VarHandle" ∧ (parseMethodDescriptor yX9_explain.desc).map (fun d => d.parameters.length) = some 1 := by decide +kernel
set_option maxRecDepth 100000 in
set_option maxHeartbeats 4000000 in
theorem t_X9_explain (l : Launch) (G : va_G) (ad : Nat → Nat → Nat) (ca : Nat → ClassId) (A : Nat → Prop) (z : Nat × Nat)  (x1 : Int32) (hD : DW ad (LC z) A)  (σ : PS) (res : Int32) (σz : PS) (hf : X9_explain z  x1 σ = some (res, σz)) : Met l yX9_explain wsX9_explain ({ frames := 6, cells := 0, slots := 0, locals := 138 }) (ctP G ad ca (LC z) σ ZC [.ref (ad 450 0), .int x1]) (va_Qi (fun r' u => r' = res ∧ u = σz) (ctB G ad ca (LC z)) A) 0 0 A := by
  refine Met.ofW (cc := cX9_explain) (maxL := 4) (ret := (some .int)) (by decide) rfl ?_
  intro p e s m args below meth c s₁ B hml hv
  obtain ⟨rfl, hP, hK, hz⟩ := hv
  have hx := B.exec
  have hb := B.bytes
  have hr := B.returns
  have hts : ∀ w ∈ WW, w.before _ s = true := fun w h => atoms_spec (ws := wsX9_explain) B.pre w (List.mem_cons_of_mem _ h)
  have hown : s.vm.findClass RX9 = some m.cls := findClass_of_methodNamed B.named
  have hlocks := B.notSynchronized
  have hS : va_S A s.heap s.heap [] := va_S.rf
  have k_45 := hts _ kf_X9_45
  have k_70 := hts _ kf_X9_70
  have k_140 := hts _ kf_X9_140
  have k_147 := hts _ kf_X9_147
  have k_182 := hts _ kf_X9_182
  have hl := lv_entry ([.ref (ad 450 0), .int x1]) (n := 4) (Nat.le_of_ble_eq_true rfl)
  rw [lg_entry_eq]
  generalize (lg_sl ([.ref (ad 450 0), .int x1]) ++ List.replicate (4 - (lg_sl ([.ref (ad 450 0), .int x1])).length) Slot.unset).toArray = ls at hl ⊢
  have hl : lv_has ls 4 [(0, .ref (ad 450 0)), (1, .int x1)] := hl
  unfold X9_explain at hf
  refine lv_aload_n hx hb dX9_explain_0 rfl (lv_at hl 0 rfl) ?_
  refine lv_iload_n hx hb dX9_explain_1 rfl (lv_at hl 1 rfl) ?_
  obtain ⟨r1, hc1, hf⟩ := bd_e hf
  refine x_cq (va_runV (As := [.int x1]) (rest := []) ⟨hx, hb, hml, hown, hts⟩ (t_X9_handlerAt l G ad ca A z x1 hD  σ r1 hc1) (cwV 1 hts gr_X9_136 rfl rfl rfl h9_X9_handlerAt ⟨Nat.le_of_ble_eq_true rfl, Nat.le_of_ble_eq_true rfl⟩) (x_prV zkC hz hK hP (mk_450 h01) rfl rfl) rfl rfl hl.1 rfl (lv_room (Nat.le_of_ble_eq_true rfl)) dX9_explain_2 ⟨Nat.le_of_ble_eq_true rfl, Nat.le_of_ble_eq_true rfl⟩) hS (fun H locs hP hS => ?_)
  refine x_astore_nQ (lv' := [(2, va_rf (Option.map (ad 100) r1)), (0, .ref (ad 450 0)), (1, .int x1)]) hx hb dX9_explain_5 rfl hl (by decide) rfl (fun ls hl => ?_)
  refine x_aload_nQ hx hb dX9_explain_6 rfl (lv_at hl 0 rfl) ?_
  cases r1 with
  | none =>
    have hf := oc_n hf
    refine lv_ifnonnullN hx hb dX9_explain_7 ?_
    refine lv_bipush (v := (-2 : Int32)) hx hb dX9_explain_10 rfl ?_
    have hf := Option.some.inj hf
    exact x_iret hx hb hr hlocks hK hP hS (congrArg Prod.fst hf) (congrArg Prod.snd hf) dX9_explain_12
  | some q2 =>
    obtain ⟨h_q2, hf⟩ := oc_s hf
    refine lv_ifnonnull (tgt := 13) hx hb dX9_explain_7 rfl ?_
    refine lv_aload_n hx hb dX9_explain_13 rfl (lv_at hl 1 rfl) ?_
    refine lv_aload_n hx hb dX9_explain_14 rfl (lv_at hl 0 rfl) ?_
    obtain ⟨q3, e_q3, h_q3, hf⟩ := dr_e hf
    refine x_get (k := 100) (n := q2) hx hb hts i_X2 hown hK hP (mk_100 h_q2) rfl rfl 0 (by decide) rfl k_140 (v := .ref (ad 50 q3)) (show va_rf (Option.map (ad 50) (gR σ 100 q2 0)) = _ by rw [e_q3]; rfl) dX9_explain_15 ?_
    obtain ⟨r4, σ4, hc4, hf⟩ := bp_e hf
    refine x_ci (va_runV (As := [.ref (ad 50 q3)]) (rest := []) ⟨hx, hb, hml, hown, hts⟩ (t_X9_readToldRow l G ad ca A z q3 hD h_q3 σ r4 σ4 hc4) (cwV 1 hts gr_X9_202 rfl rfl rfl h9_X9_readToldRow ⟨Nat.le_of_ble_eq_true rfl, Nat.le_of_ble_eq_true rfl⟩) (x_prV zkC hz hK hP (mk_450 h01) rfl rfl) rfl rfl hl.1 rfl (lv_room (Nat.le_of_ble_eq_true rfl)) dX9_explain_18 ⟨Nat.le_of_ble_eq_true rfl, Nat.le_of_ble_eq_true rfl⟩) hS (fun H locs hP hS => ?_)
    refine lv_if_ne (tgt := 27) hx hb dX9_explain_21 rfl (fun hc => ?_) (fun hc => ?_)
    · have hf := b_n hf hc
      refine lv_aload_n hx hb dX9_explain_27 rfl (lv_at hl 1 rfl) ?_
      refine lv_iconst (v := (-1 : Int32)) hx hb dX9_explain_28 rfl ?_
      refine x_putI (k := 450) (n := 0) hx hb hts i_X9 tyX9 tyX9_ok nmX9 hown hK hD hP hS (mk_450 h01) rfl rfl 11 (by decide) rfl k_70 rfl rfl rfl rfl dX9_explain_29 (fun H locs hP hS => ?_)
      obtain ⟨σ5, e_σ5, hf⟩ := nm_i hf
      have hP : va_P G vwCl (wld ad ca σ5 (LC z)) H := by rw [e_σ5]; exact hP
      refine lv_aload_n hx hb dX9_explain_32 rfl (lv_at hl 0 rfl) ?_
      refine x_get (k := 100) (n := q2) hx hb hts i_X2 hown hK hP (mk_100 h_q2) rfl rfl 8 (by decide) rfl k_147 (v := .int (gI σ5 100 q2 8)) rfl dX9_explain_33 ?_
      refine lv_iconst (v := (1 : Int32)) hx hb dX9_explain_36 rfl ?_
      refine lv_icmp_eq (tgt := 42) hx hb dX9_explain_37 rfl (fun hc => ?_) (fun hc => ?_)
      · have hf := b_p hf hc
        refine lv_aload_n hx hb dX9_explain_42 rfl (lv_at hl 0 rfl) ?_
        refine x_get (k := 100) (n := q2) hx hb hts i_X2 hown hK hP (mk_100 h_q2) rfl rfl 4 (by decide) rfl k_182 (v := .int (gI σ5 100 q2 4)) rfl dX9_explain_43 ?_
        refine lv_if_eq (tgt := 51) hx hb dX9_explain_46 rfl (fun hc => ?_) (fun hc => ?_)
        · have hf := b_p hf hc
          refine lv_aload_n hx hb dX9_explain_51 rfl (lv_at hl 0 rfl) ?_
          refine lv_aload_n hx hb dX9_explain_52 rfl (lv_at hl 1 rfl) ?_
          refine x_get (k := 450) (n := 0) hx hb hts i_X9 hown hK hP (mk_450 h01) rfl rfl 6 (by decide) rfl k_45 (v := .ref (ad 300 0)) rfl dX9_explain_53 ?_
          obtain ⟨r6, hc6, hf⟩ := bd_e hf
          refine x_ci (va_runV (As := [.ref (ad 300 0)]) (rest := []) ⟨hx, hb, hml, hown, hts⟩ (t_X2_firstRefusingPlace l G ad ca A z q2 hD h_q2 σ5 r6 hc6) (cwV 1 hts gr_X9_242 rfl rfl rfl h9_X2_firstRefusingPlace ⟨Nat.le_of_ble_eq_true rfl, Nat.le_of_ble_eq_true rfl⟩) (x_prV zkC hz hK hP (mk_100 h_q2) rfl rfl) rfl rfl hl.1 rfl (lv_room (Nat.le_of_ble_eq_true rfl)) dX9_explain_56 ⟨Nat.le_of_ble_eq_true rfl, Nat.le_of_ble_eq_true rfl⟩) hS (fun H locs hP hS => ?_)
          refine lv_istore_n (lv' := [(3, .int r6), (2, .ref (ad 100 q2)), (0, .ref (ad 450 0)), (1, .int x1)]) hx hb dX9_explain_59 rfl hl (by decide) rfl (fun ls hl => ?_)
          refine lv_iload_n hx hb dX9_explain_60 rfl (lv_at hl 0 rfl) ?_
          refine lv_iconst (v := (-1 : Int32)) hx hb dX9_explain_61 rfl ?_
          refine lv_icmp_eq (tgt := 72) hx hb dX9_explain_62 rfl (fun hc => ?_) (fun hc => ?_)
          · have hf := b_p hf hc
            refine lv_aload_n hx hb dX9_explain_72 rfl (lv_at hl 2 rfl) ?_
            refine lv_aload_n hx hb dX9_explain_73 rfl (lv_at hl 1 rfl) ?_
            obtain ⟨r7, σ7, hc7, hf⟩ := bp_e hf
            refine x_ci (va_runV (As := [.ref (ad 100 q2)]) (rest := []) ⟨hx, hb, hml, hown, hts⟩ (t_X9_explainAmongTakers l G ad ca A z q2 hD h_q2 σ5 r7 σ7 hc7) (cwV 1 hts gr_X9_245 rfl rfl rfl h9_X9_explainAmongTakers ⟨Nat.le_of_ble_eq_true rfl, Nat.le_of_ble_eq_true rfl⟩) (x_prV zkC hz hK hP (mk_450 h01) rfl rfl) rfl rfl hl.1 rfl (lv_room (Nat.le_of_ble_eq_true rfl)) dX9_explain_74 ⟨Nat.le_of_ble_eq_true rfl, Nat.le_of_ble_eq_true rfl⟩) hS (fun H locs hP hS => ?_)
            have hf := Option.some.inj hf
            exact x_iret hx hb hr hlocks hK hP hS (congrArg Prod.fst hf) (congrArg Prod.snd hf) dX9_explain_77
          · have hf := b_n hf hc
            refine lv_aload_n hx hb dX9_explain_65 rfl (lv_at hl 2 rfl) ?_
            refine lv_iload_n hx hb dX9_explain_66 rfl (lv_at hl 0 rfl) ?_
            refine x_putI (k := 450) (n := 0) hx hb hts i_X9 tyX9 tyX9_ok nmX9 hown hK hD hP hS (mk_450 h01) rfl rfl 11 (by decide) rfl k_70 rfl rfl rfl rfl dX9_explain_67 (fun H locs hP hS => ?_)
            obtain ⟨σ8, e_σ8, hf⟩ := nm_i hf
            have hP : va_P G vwCl (wld ad ca σ8 (LC z)) H := by rw [e_σ8]; exact hP
            refine lv_iconst (v := (3 : Int32)) hx hb dX9_explain_70 rfl ?_
            have hf := Option.some.inj hf
            exact x_iret hx hb hr hlocks hK hP hS (congrArg Prod.fst hf) (congrArg Prod.snd hf) dX9_explain_71
        · have hf := b_n hf hc
          refine lv_iconst (v := (2 : Int32)) hx hb dX9_explain_49 rfl ?_
          have hf := Option.some.inj hf
          exact x_iret hx hb hr hlocks hK hP hS (congrArg Prod.fst hf) (congrArg Prod.snd hf) dX9_explain_50
      · have hf := b_n hf hc
        refine lv_iconst (v := (1 : Int32)) hx hb dX9_explain_40 rfl ?_
        have hf := Option.some.inj hf
        exact x_iret hx hb hr hlocks hK hP hS (congrArg Prod.fst hf) (congrArg Prod.snd hf) dX9_explain_41
    · have hf := b_p hf hc
      refine lv_bipush (v := (-3 : Int32)) hx hb dX9_explain_24 rfl ?_
      have hf := Option.some.inj hf
      exact x_iret hx hb hr hlocks hK hP hS (congrArg Prod.fst hf) (congrArg Prod.snd hf) dX9_explain_26
theorem h9_X9_where : yX9_where.cls = RX9 ∧ yX9_where.cls ≠ "java/lang/invoke/MethodHandle" ∧ yX9_where.cls ≠ "java/lang/invoke/VarHandle" ∧ (parseMethodDescriptor yX9_where.desc).map (fun d => d.parameters.length) = some 0 := by decide +kernel
set_option maxRecDepth 100000 in
set_option maxHeartbeats 4000000 in
theorem t_X9_where (l : Launch) (G : va_G) (ad : Nat → Nat → Nat) (ca : Nat → ClassId) (A : Nat → Prop) (z : Nat × Nat)  (hD : DW ad (LC z) A)  (σ : PS) (res : Int32) (hf : X9_where z   σ = some res) : Met l yX9_where wsX9_where ({ frames := 0, cells := 0, slots := 0, locals := 0 }) (ctP G ad ca (LC z) σ ZC [.ref (ad 450 0)]) (va_Qi (fun r' u => r' = res ∧ u = σ) (ctB G ad ca (LC z)) A) 0 0 A := by
  refine Met.ofW (cc := cX9_where) (maxL := 1) (ret := (some .int)) (by decide) rfl ?_
  intro p e s m args below meth c s₁ B hml hv
  obtain ⟨rfl, hP, hK, hz⟩ := hv
  have hx := B.exec
  have hb := B.bytes
  have hr := B.returns
  have hts : ∀ w ∈ WW, w.before _ s = true := fun w h => atoms_spec (ws := wsX9_where) B.pre w (List.mem_cons_of_mem _ h)
  have hown : s.vm.findClass RX9 = some m.cls := findClass_of_methodNamed B.named
  have hlocks := B.notSynchronized
  have hS : va_S A s.heap s.heap [] := va_S.rf
  have k_70 := hts _ kf_X9_70
  have hl := lv_entry ([.ref (ad 450 0)]) (n := 1) (Nat.le_of_ble_eq_true rfl)
  rw [lg_entry_eq]
  generalize (lg_sl ([.ref (ad 450 0)]) ++ List.replicate (1 - (lg_sl ([.ref (ad 450 0)])).length) Slot.unset).toArray = ls at hl ⊢
  have hl : lv_has ls 1 [(0, .ref (ad 450 0))] := hl
  unfold X9_where at hf
  refine lv_aload_n hx hb dX9_where_0 rfl (lv_at hl 0 rfl) ?_
  refine x_get (k := 450) (n := 0) hx hb hts i_X9 hown hK hP (mk_450 h01) rfl rfl 11 (by decide) rfl k_70 (v := .int (gI σ 450 0 11)) rfl dX9_where_1 ?_
  exact x_iret hx hb hr hlocks hK hP hS (Option.some.inj hf) rfl dX9_where_4
theorem h9_X9_countOfAll : yX9_countOfAll.cls = RX9 ∧ yX9_countOfAll.cls ≠ "java/lang/invoke/MethodHandle" ∧ yX9_countOfAll.cls ≠ "java/lang/invoke/VarHandle" ∧ (parseMethodDescriptor yX9_countOfAll.desc).map (fun d => d.parameters.length) = some 1 := by decide +kernel
set_option maxRecDepth 100000 in
set_option maxHeartbeats 4000000 in
theorem t_X9_countOfAll (l : Launch) (G : va_G) (ad : Nat → Nat → Nat) (ca : Nat → ClassId) (A : Nat → Prop) (z : Nat × Nat)  (x1 : Int32) (hD : DW ad (LC z) A)  (σ : PS) (res : Int32) (hf : X9_countOfAll z  x1 σ = some res) : Met l yX9_countOfAll wsX9_countOfAll ({ frames := 0, cells := 0, slots := 0, locals := 0 }) (ctP G ad ca (LC z) σ ZC [.ref (ad 450 0), .int x1]) (va_Qi (fun r' u => r' = res ∧ u = σ) (ctB G ad ca (LC z)) A) 0 0 A := by
  refine Met.ofW (cc := cX9_countOfAll) (maxL := 2) (ret := (some .int)) (by decide) rfl ?_
  intro p e s m args below meth c s₁ B hml hv
  obtain ⟨rfl, hP, hK, hz⟩ := hv
  have hx := B.exec
  have hb := B.bytes
  have hr := B.returns
  have hts : ∀ w ∈ WW, w.before _ s = true := fun w h => atoms_spec (ws := wsX9_countOfAll) B.pre w (List.mem_cons_of_mem _ h)
  have hown : s.vm.findClass RX9 = some m.cls := findClass_of_methodNamed B.named
  have hlocks := B.notSynchronized
  have hS : va_S A s.heap s.heap [] := va_S.rf
  have k_12 := hts _ kf_X9_12
  have k_52 := hts _ kf_X9_52
  have k_63 := hts _ kf_X9_63
  have k_67 := hts _ kf_X9_67
  have k_77 := hts _ kf_X9_77
  have k_209 := hts _ kf_X9_209
  have k_226 := hts _ kf_X9_226
  have hl := lv_entry ([.ref (ad 450 0), .int x1]) (n := 2) (Nat.le_of_ble_eq_true rfl)
  rw [lg_entry_eq]
  generalize (lg_sl ([.ref (ad 450 0), .int x1]) ++ List.replicate (2 - (lg_sl ([.ref (ad 450 0), .int x1])).length) Slot.unset).toArray = ls at hl ⊢
  have hl : lv_has ls 2 [(0, .ref (ad 450 0)), (1, .int x1)] := hl
  unfold X9_countOfAll at hf
  refine lv_iload_n hx hb dX9_countOfAll_0 rfl (lv_at hl 1 rfl) ?_
  by_cases hc0 : x1 = (0 : Int32)
  · have hf := b_p hf hc0
    refine lv_tableIn (off := 35) (tgt := 36) hx hb dX9_countOfAll_1 (by rw [hc0]; decide) (by rw [hc0]; decide) (by rw [hc0]; rfl) rfl ?_
    refine lv_aload_n hx hb dX9_countOfAll_36 rfl (lv_at hl 0 rfl) ?_
    refine x_get (k := 450) (n := 0) hx hb hts i_X9 hown hK hP (mk_450 h01) rfl rfl 9 (by decide) rfl k_63 (v := .int (gI σ 450 0 9)) rfl dX9_countOfAll_37 ?_
    exact x_iret hx hb hr hlocks hK hP hS (Option.some.inj hf) rfl dX9_countOfAll_40
  have hf := b_n hf hc0
  by_cases hc1 : x1 = (1 : Int32)
  · have hf := b_p hf hc1
    refine lv_tableIn (off := 40) (tgt := 41) hx hb dX9_countOfAll_1 (by rw [hc1]; decide) (by rw [hc1]; decide) (by rw [hc1]; rfl) rfl ?_
    refine lv_aload_n hx hb dX9_countOfAll_41 rfl (lv_at hl 0 rfl) ?_
    refine x_get (k := 450) (n := 0) hx hb hts i_X9 hown hK hP (mk_450 h01) rfl rfl 10 (by decide) rfl k_67 (v := .int (gI σ 450 0 10)) rfl dX9_countOfAll_42 ?_
    exact x_iret hx hb hr hlocks hK hP hS (Option.some.inj hf) rfl dX9_countOfAll_45
  have hf := b_n hf hc1
  by_cases hc2 : x1 = (2 : Int32)
  · have hf := b_p hf hc2
    refine lv_tableIn (off := 45) (tgt := 46) hx hb dX9_countOfAll_1 (by rw [hc2]; decide) (by rw [hc2]; decide) (by rw [hc2]; rfl) rfl ?_
    refine lv_aload_n hx hb dX9_countOfAll_46 rfl (lv_at hl 0 rfl) ?_
    refine x_get (k := 450) (n := 0) hx hb hts i_X9 hown hK hP (mk_450 h01) rfl rfl 0 (by decide) rfl k_12 (v := .ref (ad 400 0)) rfl dX9_countOfAll_47 ?_
    refine x_get (k := 400) (n := 0) hx hb hts i_X8 hown hK hP (mk_400 h01) rfl rfl 4 (by decide) rfl k_77 (v := .int (gI σ 400 0 4)) rfl dX9_countOfAll_50 ?_
    refine lv_if_eq (tgt := 60) hx hb dX9_countOfAll_53 rfl (fun hc => ?_) (fun hc => ?_)
    · have hf := b_p hf hc
      refine lv_iconst (v := (0 : Int32)) hx hb dX9_countOfAll_60 rfl ?_
      exact x_iret hx hb hr hlocks hK hP hS (Option.some.inj hf) rfl dX9_countOfAll_61
    · have hf := b_n hf hc
      refine lv_iconst (v := (1 : Int32)) hx hb dX9_countOfAll_56 rfl ?_
      refine lv_goto (tgt := 61) hx hb dX9_countOfAll_57 rfl ?_
      exact x_iret hx hb hr hlocks hK hP hS (Option.some.inj hf) rfl dX9_countOfAll_61
  have hf := b_n hf hc2
  by_cases hc3 : x1 = (3 : Int32)
  · have hf := b_p hf hc3
    refine lv_tableIn (off := 61) (tgt := 62) hx hb dX9_countOfAll_1 (by rw [hc3]; decide) (by rw [hc3]; decide) (by rw [hc3]; rfl) rfl ?_
    refine lv_aload_n hx hb dX9_countOfAll_62 rfl (lv_at hl 0 rfl) ?_
    refine x_get (k := 450) (n := 0) hx hb hts i_X9 hown hK hP (mk_450 h01) rfl rfl 7 (by decide) rfl k_52 (v := .ref (ad 150 0)) rfl dX9_countOfAll_63 ?_
    refine x_get (k := 150) (n := 0) hx hb hts i_X3 hown hK hP (mk_150 h01) rfl rfl 1 (by decide) rfl k_226 (v := .int (gI σ 150 0 1)) rfl dX9_countOfAll_66 ?_
    exact x_iret hx hb hr hlocks hK hP hS (Option.some.inj hf) rfl dX9_countOfAll_69
  have hf := b_n hf hc3
  by_cases hc4 : x1 = (4 : Int32)
  · have hf := b_p hf hc4
    refine lv_tableIn (off := 69) (tgt := 70) hx hb dX9_countOfAll_1 (by rw [hc4]; decide) (by rw [hc4]; decide) (by rw [hc4]; rfl) rfl ?_
    refine lv_aload_n hx hb dX9_countOfAll_70 rfl (lv_at hl 0 rfl) ?_
    refine x_get (k := 450) (n := 0) hx hb hts i_X9 hown hK hP (mk_450 h01) rfl rfl 7 (by decide) rfl k_52 (v := .ref (ad 150 0)) rfl dX9_countOfAll_71 ?_
    refine x_get (k := 150) (n := 0) hx hb hts i_X3 hown hK hP (mk_150 h01) rfl rfl 2 (by decide) rfl k_209 (v := .int (gI σ 150 0 2)) rfl dX9_countOfAll_74 ?_
    exact x_iret hx hb hr hlocks hK hP hS (Option.some.inj hf) rfl dX9_countOfAll_77
  have hf := b_n hf hc4
  refine lv_tableOut (tgt := 78) hx hb dX9_countOfAll_1 (x_out (N := 4) (fun j hj => by rcases (show j = 0 ∨ j = 1 ∨ j = 2 ∨ j = 3 ∨ j = 4 by omega) with rfl | rfl | rfl | rfl | rfl <;> assumption)) rfl ?_
  refine lv_bipush (v := (-2 : Int32)) hx hb dX9_countOfAll_78 rfl ?_
  exact x_iret hx hb hr hlocks hK hP hS (Option.some.inj hf) rfl dX9_countOfAll_80
theorem h9_X9_count : yX9_count.cls = RX9 ∧ yX9_count.cls ≠ "java/lang/invoke/MethodHandle" ∧ yX9_count.cls ≠ "java/lang/invoke/VarHandle" ∧ (parseMethodDescriptor yX9_count.desc).map (fun d => d.parameters.length) = some 2 := by decide +kernel
set_option maxRecDepth 100000 in
set_option maxHeartbeats 4000000 in
theorem t_X9_count (l : Launch) (G : va_G) (ad : Nat → Nat → Nat) (ca : Nat → ClassId) (A : Nat → Prop) (z : Nat × Nat)  (x1 : Int32) (x2 : Int32) (hD : DW ad (LC z) A)  (σ : PS) (res : Int32) (hf : X9_count z  x1 x2 σ = some res) : Met l yX9_count wsX9_count ({ frames := 1, cells := 0, slots := 0, locals := 21 }) (ctP G ad ca (LC z) σ ZC [.ref (ad 450 0), .int x1, .int x2]) (va_Qi (fun r' u => r' = res ∧ u = σ) (ctB G ad ca (LC z)) A) 0 0 A := by
  refine Met.ofW (cc := cX9_count) (maxL := 4) (ret := (some .int)) (by decide) rfl ?_
  intro p e s m args below meth c s₁ B hml hv
  obtain ⟨rfl, hP, hK, hz⟩ := hv
  have hx := B.exec
  have hb := B.bytes
  have hr := B.returns
  have hts : ∀ w ∈ WW, w.before _ s = true := fun w h => atoms_spec (ws := wsX9_count) B.pre w (List.mem_cons_of_mem _ h)
  have hown : s.vm.findClass RX9 = some m.cls := findClass_of_methodNamed B.named
  have hlocks := B.notSynchronized
  have hS : va_S A s.heap s.heap [] := va_S.rf
  have k_159 := hts _ kf_X9_159
  have k_192 := hts _ kf_X9_192
  have k_252 := hts _ kf_X9_252
  have k_255 := hts _ kf_X9_255
  have k_259 := hts _ kf_X9_259
  have k_264 := hts _ kf_X9_264
  have hl := lv_entry ([.ref (ad 450 0), .int x1, .int x2]) (n := 4) (Nat.le_of_ble_eq_true rfl)
  rw [lg_entry_eq]
  generalize (lg_sl ([.ref (ad 450 0), .int x1, .int x2]) ++ List.replicate (4 - (lg_sl ([.ref (ad 450 0), .int x1, .int x2])).length) Slot.unset).toArray = ls at hl ⊢
  have hl : lv_has ls 4 [(0, .ref (ad 450 0)), (1, .int x1), (2, .int x2)] := hl
  unfold X9_count at hf
  refine lv_iload_n hx hb dX9_count_0 rfl (lv_at hl 1 rfl) ?_
  refine lv_iconst (v := (-1 : Int32)) hx hb dX9_count_1 rfl ?_
  refine lv_icmp_ne (tgt := 11) hx hb dX9_count_2 rfl (fun hc => ?_) (fun hc => ?_)
  · have hf := b_n hf hc
    refine lv_aload_n hx hb dX9_count_11 rfl (lv_at hl 0 rfl) ?_
    refine lv_iload_n hx hb dX9_count_12 rfl (lv_at hl 1 rfl) ?_
    obtain ⟨r1, hc1, hf⟩ := bd_e hf
    refine x_cq (va_runV (As := [.int x1]) (rest := []) ⟨hx, hb, hml, hown, hts⟩ (t_X9_functionAt l G ad ca A z x1 hD  σ r1 hc1) (cwV 1 hts gr_X9_129 rfl rfl rfl h9_X9_functionAt ⟨Nat.le_of_ble_eq_true rfl, Nat.le_of_ble_eq_true rfl⟩) (x_prV zkC hz hK hP (mk_450 h01) rfl rfl) rfl rfl hl.1 rfl (lv_room (Nat.le_of_ble_eq_true rfl)) dX9_count_13 ⟨Nat.le_of_ble_eq_true rfl, Nat.le_of_ble_eq_true rfl⟩) hS (fun H locs hP hS => ?_)
    refine x_astore_nQ (lv' := [(3, va_rf (Option.map (ad 50) r1)), (0, .ref (ad 450 0)), (1, .int x1), (2, .int x2)]) hx hb dX9_count_16 rfl hl (by decide) rfl (fun ls hl => ?_)
    refine x_aload_nQ hx hb dX9_count_17 rfl (lv_at hl 0 rfl) ?_
    cases r1 with
    | none =>
      have hf := oc_n hf
      refine lv_ifnonnullN hx hb dX9_count_18 ?_
      refine lv_bipush (v := (-2 : Int32)) hx hb dX9_count_21 rfl ?_
      exact x_iret hx hb hr hlocks hK hP hS (Option.some.inj hf) rfl dX9_count_23
    | some q2 =>
      obtain ⟨h_q2, hf⟩ := oc_s hf
      refine lv_ifnonnull (tgt := 24) hx hb dX9_count_18 rfl ?_
      refine lv_iload_n hx hb dX9_count_24 rfl (lv_at hl 3 rfl) ?_
      by_cases hc0 : x2 = (0 : Int32)
      · have hf := b_p hf hc0
        refine lv_tableIn (off := 35) (tgt := 60) hx hb dX9_count_25 (by rw [hc0]; decide) (by rw [hc0]; decide) (by rw [hc0]; rfl) rfl ?_
        refine lv_aload_n hx hb dX9_count_60 rfl (lv_at hl 0 rfl) ?_
        refine x_get (k := 50) (n := q2) hx hb hts i_X1 hown hK hP (mk_50 h_q2) rfl rfl 2 (by decide) rfl k_252 (v := .int (gI σ 50 q2 2)) rfl dX9_count_61 ?_
        exact x_iret hx hb hr hlocks hK hP hS (Option.some.inj hf) rfl dX9_count_64
      have hf := b_n hf hc0
      by_cases hc1 : x2 = (1 : Int32)
      · have hf := b_p hf hc1
        refine lv_tableIn (off := 40) (tgt := 65) hx hb dX9_count_25 (by rw [hc1]; decide) (by rw [hc1]; decide) (by rw [hc1]; rfl) rfl ?_
        refine lv_aload_n hx hb dX9_count_65 rfl (lv_at hl 0 rfl) ?_
        refine x_get (k := 50) (n := q2) hx hb hts i_X1 hown hK hP (mk_50 h_q2) rfl rfl 7 (by decide) rfl k_192 (v := .int (gI σ 50 q2 7)) rfl dX9_count_66 ?_
        exact x_iret hx hb hr hlocks hK hP hS (Option.some.inj hf) rfl dX9_count_69
      have hf := b_n hf hc1
      by_cases hc2 : x2 = (2 : Int32)
      · have hf := b_p hf hc2
        refine lv_tableIn (off := 45) (tgt := 70) hx hb dX9_count_25 (by rw [hc2]; decide) (by rw [hc2]; decide) (by rw [hc2]; rfl) rfl ?_
        refine lv_aload_n hx hb dX9_count_70 rfl (lv_at hl 0 rfl) ?_
        refine x_get (k := 50) (n := q2) hx hb hts i_X1 hown hK hP (mk_50 h_q2) rfl rfl 9 (by decide) rfl k_159 (v := .int (gI σ 50 q2 9)) rfl dX9_count_71 ?_
        refine lv_if_eq (tgt := 81) hx hb dX9_count_74 rfl (fun hc => ?_) (fun hc => ?_)
        · have hf := b_p hf hc
          refine lv_iconst (v := (0 : Int32)) hx hb dX9_count_81 rfl ?_
          exact x_iret hx hb hr hlocks hK hP hS (Option.some.inj hf) rfl dX9_count_82
        · have hf := b_n hf hc
          refine lv_iconst (v := (1 : Int32)) hx hb dX9_count_77 rfl ?_
          refine lv_goto (tgt := 82) hx hb dX9_count_78 rfl ?_
          exact x_iret hx hb hr hlocks hK hP hS (Option.some.inj hf) rfl dX9_count_82
      have hf := b_n hf hc2
      by_cases hc3 : x2 = (3 : Int32)
      · have hf := b_p hf hc3
        refine lv_tableIn (off := 58) (tgt := 83) hx hb dX9_count_25 (by rw [hc3]; decide) (by rw [hc3]; decide) (by rw [hc3]; rfl) rfl ?_
        refine lv_aload_n hx hb dX9_count_83 rfl (lv_at hl 0 rfl) ?_
        refine x_get (k := 50) (n := q2) hx hb hts i_X1 hown hK hP (mk_50 h_q2) rfl rfl 3 (by decide) rfl k_255 (v := .ref (ad 200 q2)) rfl dX9_count_84 ?_
        refine x_get (k := 200) (n := q2) hx hb hts i_X4 hown hK hP (mk_200 h_q2) rfl rfl 6 (by decide) rfl k_259 (v := .int (gI σ 200 q2 6)) rfl dX9_count_87 ?_
        exact x_iret hx hb hr hlocks hK hP hS (Option.some.inj hf) rfl dX9_count_90
      have hf := b_n hf hc3
      by_cases hc4 : x2 = (4 : Int32)
      · have hf := b_p hf hc4
        refine lv_tableIn (off := 66) (tgt := 91) hx hb dX9_count_25 (by rw [hc4]; decide) (by rw [hc4]; decide) (by rw [hc4]; rfl) rfl ?_
        refine lv_aload_n hx hb dX9_count_91 rfl (lv_at hl 0 rfl) ?_
        refine x_get (k := 50) (n := q2) hx hb hts i_X1 hown hK hP (mk_50 h_q2) rfl rfl 3 (by decide) rfl k_255 (v := .ref (ad 200 q2)) rfl dX9_count_92 ?_
        refine x_get (k := 200) (n := q2) hx hb hts i_X4 hown hK hP (mk_200 h_q2) rfl rfl 5 (by decide) rfl k_264 (v := .int (gI σ 200 q2 5)) rfl dX9_count_95 ?_
        exact x_iret hx hb hr hlocks hK hP hS (Option.some.inj hf) rfl dX9_count_98
      have hf := b_n hf hc4
      refine lv_tableOut (tgt := 99) hx hb dX9_count_25 (x_out (N := 4) (fun j hj => by rcases (show j = 0 ∨ j = 1 ∨ j = 2 ∨ j = 3 ∨ j = 4 by omega) with rfl | rfl | rfl | rfl | rfl <;> assumption)) rfl ?_
      refine lv_bipush (v := (-2 : Int32)) hx hb dX9_count_99 rfl ?_
      exact x_iret hx hb hr hlocks hK hP hS (Option.some.inj hf) rfl dX9_count_101
  · have hf := b_p hf hc
    refine lv_aload_n hx hb dX9_count_5 rfl (lv_at hl 0 rfl) ?_
    refine lv_iload_n hx hb dX9_count_6 rfl (lv_at hl 2 rfl) ?_
    obtain ⟨r3, hc3, hf⟩ := bd_e hf
    refine x_ci (va_runV (As := [.int x2]) (rest := []) ⟨hx, hb, hml, hown, hts⟩ (t_X9_countOfAll l G ad ca A z x2 hD  σ r3 hc3) (cwV 1 hts gr_X9_249 rfl rfl rfl h9_X9_countOfAll ⟨Nat.le_of_ble_eq_true rfl, Nat.le_of_ble_eq_true rfl⟩) (x_prV zkC hz hK hP (mk_450 h01) rfl rfl) rfl rfl hl.1 rfl (lv_room (Nat.le_of_ble_eq_true rfl)) dX9_count_7 ⟨Nat.le_of_ble_eq_true rfl, Nat.le_of_ble_eq_true rfl⟩) hS (fun H locs hP hS => ?_)
    exact x_iret hx hb hr hlocks hK hP hS (Option.some.inj hf) rfl dX9_count_10

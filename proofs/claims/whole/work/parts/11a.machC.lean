theorem h9_X1_hasPlace : yX1_hasPlace.cls = RX1 ∧ yX1_hasPlace.cls ≠ "java/lang/invoke/MethodHandle" ∧ yX1_hasPlace.cls ≠ "java/lang/invoke/VarHandle" ∧ (parseMethodDescriptor yX1_hasPlace.desc).map (fun d => d.parameters.length) = some 1 := by decide +kernel
set_option maxRecDepth 100000 in
set_option maxHeartbeats 4000000 in
theorem t_X1_hasPlace (l : Launch) (G : va_G) (ad : Nat → Nat → Nat) (ca : Nat → ClassId) (A : Nat → Prop) (z : Nat × Nat) (n0 : Nat) (x1 : Int32) (hD : DW ad (LC z) A) (hn0 : n0 < z.1) (σ : PS) (res : Int32) (hf : X1_hasPlace z n0 x1 σ = some res) : Met l yX1_hasPlace wsX1_hasPlace ({ frames := 0, cells := 0, slots := 0, locals := 0 }) (ctP G ad ca (LC z) σ ZC [.ref (ad 50 n0), .int x1]) (va_Qi (fun r' u => r' = res ∧ u = σ) (ctB G ad ca (LC z)) A) 0 0 A := by
  refine Met.ofW (cc := cX1_hasPlace) (maxL := 2) (ret := (some .boolean)) (by decide) rfl ?_
  intro p e s m args below meth c s₁ B hml hv
  obtain ⟨rfl, hP, hK, hz⟩ := hv
  have hx := B.exec
  have hb := B.bytes
  have hr := B.returns
  have hts : ∀ w ∈ WW, w.before _ s = true := fun w h => atoms_spec (ws := wsX1_hasPlace) B.pre w (List.mem_cons_of_mem _ h)
  have hown : s.vm.findClass RX1 = some m.cls := findClass_of_methodNamed B.named
  have hlocks := B.notSynchronized
  have hS : va_S A s.heap s.heap [] := va_S.rf
  have k_49 := hts _ kf_X1_49
  have hl := lv_entry ([.ref (ad 50 n0), .int x1]) (n := 2) (Nat.le_of_ble_eq_true rfl)
  rw [lg_entry_eq]
  generalize (lg_sl ([.ref (ad 50 n0), .int x1]) ++ List.replicate (2 - (lg_sl ([.ref (ad 50 n0), .int x1])).length) Slot.unset).toArray = ls at hl ⊢
  have hl : lv_has ls 2 [(0, .ref (ad 50 n0)), (1, .int x1)] := hl
  unfold X1_hasPlace at hf
  refine lv_iload_n hx hb dX1_hasPlace_0 rfl (lv_at hl 1 rfl) ?_
  refine lv_if_lt (tgt := 16) hx hb dX1_hasPlace_1 rfl (fun hc => ?_) (fun hc => ?_)
  · have hf := b_p hf hc
    refine lv_iconst (v := (0 : Int32)) hx hb dX1_hasPlace_16 rfl ?_
    exact x_zret hx hb hr hlocks hK hP hS (by decide) (Option.some.inj hf) rfl dX1_hasPlace_17
  · have hf := b_n hf hc
    refine lv_iload_n hx hb dX1_hasPlace_4 rfl (lv_at hl 1 rfl) ?_
    refine lv_aload_n hx hb dX1_hasPlace_5 rfl (lv_at hl 0 rfl) ?_
    refine x_get (k := 50) (n := n0) hx hb hts i_X1 hown hK hP (mk_50 hn0) rfl rfl 2 (by decide) rfl k_49 (v := .int (gI σ 50 n0 2)) rfl dX1_hasPlace_6 ?_
    refine lv_icmp_ge (tgt := 16) hx hb dX1_hasPlace_9 rfl (fun hc => ?_) (fun hc => ?_)
    · have hf := b_p hf hc
      refine lv_iconst (v := (0 : Int32)) hx hb dX1_hasPlace_16 rfl ?_
      exact x_zret hx hb hr hlocks hK hP hS (by decide) (Option.some.inj hf) rfl dX1_hasPlace_17
    · have hf := b_n hf hc
      refine lv_iconst (v := (1 : Int32)) hx hb dX1_hasPlace_12 rfl ?_
      refine lv_goto (tgt := 17) hx hb dX1_hasPlace_13 rfl ?_
      exact x_zret hx hb hr hlocks hK hP hS (by decide) (Option.some.inj hf) rfl dX1_hasPlace_17
theorem h9_X0_addNew : yX0_addNew.cls = RX0 ∧ yX0_addNew.cls ≠ "java/lang/invoke/MethodHandle" ∧ yX0_addNew.cls ≠ "java/lang/invoke/VarHandle" ∧ (parseMethodDescriptor yX0_addNew.desc).map (fun d => d.parameters.length) = some 3 := by decide +kernel
set_option maxRecDepth 100000 in
set_option maxHeartbeats 4000000 in
theorem t_X0_addNew (l : Launch) (G : va_G) (ad : Nat → Nat → Nat) (ca : Nat → ClassId) (A : Nat → Prop) (z : Nat × Nat) (n0 : Nat) (x1 : Int32) (x2 : Int32) (x3 : Int32) (hD : DW ad (LC z) A) (hn0 : n0 < 2) (σ : PS) (res : PS) (hf : X0_addNew z n0 x1 x2 x3 σ = some res) : Met l yX0_addNew wsX0_addNew ({ frames := 0, cells := 0, slots := 0, locals := 0 }) (ctP G ad ca (LC z) σ ZC [.ref (ad 0 n0), .int x1, .int x2, .int x3]) (va_Qv (fun u => u = res) (ctB G ad ca (LC z)) A) 0 0 A := by
  refine Met.ofW (cc := cX0_addNew) (maxL := 5) (ret := none) (by decide) rfl ?_
  intro p e s m args below meth c s₁ B hml hv
  obtain ⟨rfl, hP, hK, hz⟩ := hv
  have hx := B.exec
  have hb := B.bytes
  have hr := B.returns
  have hts : ∀ w ∈ WW, w.before _ s = true := fun w h => atoms_spec (ws := wsX0_addNew) B.pre w (List.mem_cons_of_mem _ h)
  have hown : s.vm.findClass RX0 = some m.cls := findClass_of_methodNamed B.named
  have hlocks := B.notSynchronized
  have hS : va_S A s.heap s.heap [] := va_S.rf
  have k_9 := hts _ kf_X0_9
  have k_15 := hts _ kf_X0_15
  have k_18 := hts _ kf_X0_18
  have k_21 := hts _ kf_X0_21
  have hl := lv_entry ([.ref (ad 0 n0), .int x1, .int x2, .int x3]) (n := 5) (Nat.le_of_ble_eq_true rfl)
  rw [lg_entry_eq]
  generalize (lg_sl ([.ref (ad 0 n0), .int x1, .int x2, .int x3]) ++ List.replicate (5 - (lg_sl ([.ref (ad 0 n0), .int x1, .int x2, .int x3])).length) Slot.unset).toArray = ls at hl ⊢
  have hl : lv_has ls 5 [(0, .ref (ad 0 n0)), (1, .int x1), (2, .int x2), (3, .int x3)] := hl
  unfold X0_addNew at hf
  have l3 : ∀ (kx3 : Int32 → Int32 → Int32 → PS → Option (PS)), (∀ (v1 : Int32) (v2 : Int32) (v3 : Int32) (σ : PS) (H : Heap) (locs : List Loc) (ls : Array Slot), kx3 v1 v2 v3 σ = some res → lv_has ls 5 [(0, .ref (ad 0 n0)), (1, .int v1), (2, .int v2), (3, .int v3)] → va_P G vwCl (wld ad ca σ (LC z)) H → va_S A s.heap H locs → W p l e (headSpec wsX0_addNew ({ frames := 0, cells := 0, slots := 0, locals := 0 })).room s m (([.ref (ad 0 n0), .int x1, .int x2, .int x3] : List Value).toArray) below meth c H locs 0 0 (MQ below (va_Qv (fun u => u = res) (ctB G ad ca (LC z)) A) (([.ref (ad 0 n0), .int x1, .int x2, .int x3] : List Value).toArray) s 0 0 A) (F0 m 30 ls [])) → ∀ (n3 : Nat) (v1 : Int32) (v2 : Int32) (v3 : Int32) (v4 : Int32) (σ : PS) (H : Heap) (locs : List Loc) (ls : Array Slot), X0_addNew_l3 z n0 kx3 n3 v1 v2 v3 v4 σ = some res → lv_has ls 5 [(0, .ref (ad 0 n0)), (1, .int v1), (2, .int v2), (3, .int v3), (4, .int v4)] → va_P G vwCl (wld ad ca σ (LC z)) H → va_S A s.heap H locs → W p l e (headSpec wsX0_addNew ({ frames := 0, cells := 0, slots := 0, locals := 0 })).room s m (([.ref (ad 0 n0), .int x1, .int x2, .int x3] : List Value).toArray) below meth c H locs 0 0 (MQ below (va_Qv (fun u => u = res) (ctB G ad ca (LC z)) A) (([.ref (ad 0 n0), .int x1, .int x2, .int x3] : List Value).toArray) s 0 0 A) (F0 m 3 ls []) := by
    intro kx3 hx3 n3
    induction n3 with
    | zero =>
      intro v1 v2 v3 v4 σ H locs ls hf
      exact absurd hf (by simp [X0_addNew_l3])
    | succ n3 ih3 =>
      intro v1 v2 v3 v4 σ H locs ls hf hl hP hS
      rw [X0_addNew_l3.eq_2] at hf
      refine lv_iload hx hb dX0_addNew_3 (lv_at hl 4 rfl) ?_
      refine lv_aload_n hx hb dX0_addNew_5 rfl (lv_at hl 0 rfl) ?_
      refine x_get (k := 0) (n := n0) hx hb hts i_X0 hown hK hP (mk_0 hn0) rfl rfl 3 (by decide) rfl k_21 (v := .int (gI σ 0 n0 3)) rfl dX0_addNew_6 ?_
      refine lv_icmp_ge (tgt := 30) hx hb dX0_addNew_9 rfl (fun hc => ?_) (fun hc => ?_)
      · have hf := b_p hf hc
        exact hx3 v1 v2 v3 σ _ _ _  hf (lv_sub hl [0, 1, 2, 3] rfl) hP hS
      · have hf := b_n hf hc
        refine lv_aload_n hx hb dX0_addNew_12 rfl (lv_at hl 0 rfl) ?_
        refine x_get (k := 0) (n := n0) hx hb hts i_X0 hown hK hP (mk_0 hn0) rfl rfl 2 (by decide) rfl k_18 (v := .ref (ad 3 n0)) rfl dX0_addNew_13 ?_
        refine lv_iload hx hb dX0_addNew_16 (lv_at hl 4 rfl) ?_
        obtain ⟨g1, hf⟩ := gd_e hf
        refine x_iald (k := 3) (n := n0) hx hb hK hP (mk_3 hn0) rfl g1 dX0_addNew_18 ?_
        refine lv_iload_n hx hb dX0_addNew_19 rfl (lv_at hl 3 rfl) ?_
        refine lv_icmp_ne (tgt := 24) hx hb dX0_addNew_20 rfl (fun hc => ?_) (fun hc => ?_)
        · have hf := b_n hf hc
          refine lv_iinc (v := (v4 + (1 : Int32))) (lv' := [(4, .int (v4 + (1 : Int32))), (0, .ref (ad 0 n0)), (1, .int v1), (2, .int v2), (3, .int v3)]) hx hb dX0_addNew_24 hl (k := 4) rfl rfl (by decide) rfl (fun ls hl => ?_)
          refine lv_goto (tgt := 3) hx hb dX0_addNew_27 rfl ?_
          exact ih3 v1 v2 v3 (v4 + (1 : Int32)) σ _ _ _  hf (lv_sub hl [1, 2, 3, 4, 0] rfl) hP hS
        · have hf := b_p hf hc
          exact x_vret hx hb hr hlocks hK hP hS (Option.some.inj hf) dX0_addNew_23
  have c30 : ∀ (v1 : Int32) (v2 : Int32) (v3 : Int32) (σ : PS) (H : Heap) (locs : List Loc) (ls : Array Slot), X0_addNew_c30 z n0 v1 v2 v3 σ = some res → lv_has ls 5 [(0, .ref (ad 0 n0)), (1, .int v1), (2, .int v2), (3, .int v3)] → va_P G vwCl (wld ad ca σ (LC z)) H → va_S A s.heap H locs → W p l e (headSpec wsX0_addNew ({ frames := 0, cells := 0, slots := 0, locals := 0 })).room s m (([.ref (ad 0 n0), .int x1, .int x2, .int x3] : List Value).toArray) below meth c H locs 0 0 (MQ below (va_Qv (fun u => u = res) (ctB G ad ca (LC z)) A) (([.ref (ad 0 n0), .int x1, .int x2, .int x3] : List Value).toArray) s 0 0 A) (F0 m 30 ls []) := by
    intro v1 v2 v3 σ H locs ls hf hl hP hS
    unfold X0_addNew_c30 at hf
    refine lv_aload_n hx hb dX0_addNew_30 rfl (lv_at hl 0 rfl) ?_
    refine x_get (k := 0) (n := n0) hx hb hts i_X0 hown hK hP (mk_0 hn0) rfl rfl 3 (by decide) rfl k_21 (v := .int (gI σ 0 n0 3)) rfl dX0_addNew_31 ?_
    refine lv_sipush (v := (204 : Int32)) hx hb dX0_addNew_34 rfl ?_
    refine lv_icmp_ge (tgt := 80) hx hb dX0_addNew_37 rfl (fun hc => ?_) (fun hc => ?_)
    · have hf := b_p hf hc
      exact x_vret hx hb hr hlocks hK hP hS (Option.some.inj hf) dX0_addNew_80
    · have hf := b_n hf hc
      refine lv_aload_n hx hb dX0_addNew_40 rfl (lv_at hl 0 rfl) ?_
      refine x_get (k := 0) (n := n0) hx hb hts i_X0 hown hK hP (mk_0 hn0) rfl rfl 0 (by decide) rfl k_9 (v := .ref (ad 1 n0)) rfl dX0_addNew_41 ?_
      refine lv_aload_n hx hb dX0_addNew_44 rfl (lv_at hl 0 rfl) ?_
      refine x_get (k := 0) (n := n0) hx hb hts i_X0 hown hK hP (mk_0 hn0) rfl rfl 3 (by decide) rfl k_21 (v := .int (gI σ 0 n0 3)) rfl dX0_addNew_45 ?_
      refine lv_iload_n hx hb dX0_addNew_48 rfl (lv_at hl 1 rfl) ?_
      obtain ⟨g2, hf⟩ := gd_e hf
      refine x_iast (k := 1) (n := n0) hx hb hK hD hP hS (mk_1 hn0) rfl g2 dX0_addNew_49 (fun H locs hP hS => ?_)
      obtain ⟨σ3, e_σ3, hf⟩ := nm_i hf
      have hP : va_P G vwCl (wld ad ca σ3 (LC z)) H := by rw [e_σ3]; exact hP
      refine lv_aload_n hx hb dX0_addNew_50 rfl (lv_at hl 0 rfl) ?_
      refine x_get (k := 0) (n := n0) hx hb hts i_X0 hown hK hP (mk_0 hn0) rfl rfl 1 (by decide) rfl k_15 (v := .ref (ad 2 n0)) rfl dX0_addNew_51 ?_
      refine lv_aload_n hx hb dX0_addNew_54 rfl (lv_at hl 0 rfl) ?_
      refine x_get (k := 0) (n := n0) hx hb hts i_X0 hown hK hP (mk_0 hn0) rfl rfl 3 (by decide) rfl k_21 (v := .int (gI σ3 0 n0 3)) rfl dX0_addNew_55 ?_
      refine lv_iload_n hx hb dX0_addNew_58 rfl (lv_at hl 2 rfl) ?_
      obtain ⟨g4, hf⟩ := gd_e hf
      refine x_iast (k := 2) (n := n0) hx hb hK hD hP hS (mk_2 hn0) rfl g4 dX0_addNew_59 (fun H locs hP hS => ?_)
      obtain ⟨σ5, e_σ5, hf⟩ := nm_i hf
      have hP : va_P G vwCl (wld ad ca σ5 (LC z)) H := by rw [e_σ5]; exact hP
      refine lv_aload_n hx hb dX0_addNew_60 rfl (lv_at hl 0 rfl) ?_
      refine x_get (k := 0) (n := n0) hx hb hts i_X0 hown hK hP (mk_0 hn0) rfl rfl 2 (by decide) rfl k_18 (v := .ref (ad 3 n0)) rfl dX0_addNew_61 ?_
      refine lv_aload_n hx hb dX0_addNew_64 rfl (lv_at hl 0 rfl) ?_
      refine x_get (k := 0) (n := n0) hx hb hts i_X0 hown hK hP (mk_0 hn0) rfl rfl 3 (by decide) rfl k_21 (v := .int (gI σ5 0 n0 3)) rfl dX0_addNew_65 ?_
      refine lv_iload_n hx hb dX0_addNew_68 rfl (lv_at hl 3 rfl) ?_
      obtain ⟨g6, hf⟩ := gd_e hf
      refine x_iast (k := 3) (n := n0) hx hb hK hD hP hS (mk_3 hn0) rfl g6 dX0_addNew_69 (fun H locs hP hS => ?_)
      obtain ⟨σ7, e_σ7, hf⟩ := nm_i hf
      have hP : va_P G vwCl (wld ad ca σ7 (LC z)) H := by rw [e_σ7]; exact hP
      refine lv_aload_n hx hb dX0_addNew_70 rfl (lv_at hl 0 rfl) ?_
      refine lv_dup hx hb dX0_addNew_71 rfl ?_
      refine x_get (k := 0) (n := n0) hx hb hts i_X0 hown hK hP (mk_0 hn0) rfl rfl 3 (by decide) rfl k_21 (v := .int (gI σ7 0 n0 3)) rfl dX0_addNew_72 ?_
      refine lv_iconst (v := (1 : Int32)) hx hb dX0_addNew_75 rfl ?_
      refine lv_iadd hx hb dX0_addNew_76 ?_
      refine x_putI (k := 0) (n := n0) hx hb hts i_X0 tyX0 tyX0_ok nmX0 hown hK hD hP hS (mk_0 hn0) rfl rfl 3 (by decide) rfl k_21 rfl rfl rfl rfl dX0_addNew_77 (fun H locs hP hS => ?_)
      obtain ⟨σ8, e_σ8, hf⟩ := nm_i hf
      have hP : va_P G vwCl (wld ad ca σ8 (LC z)) H := by rw [e_σ8]; exact hP
      exact x_vret hx hb hr hlocks hK hP hS (Option.some.inj hf) dX0_addNew_80
  refine lv_iconst (v := (0 : Int32)) hx hb dX0_addNew_0 rfl ?_
  refine lv_istore (lv' := [(4, .int (0 : Int32)), (0, .ref (ad 0 n0)), (1, .int x1), (2, .int x2), (3, .int x3)]) hx hb dX0_addNew_1 hl (by decide) rfl (fun ls hl => ?_)
  exact l3 _ c30 _ x1 x2 x3 (0 : Int32) σ _ _ _  hf (lv_sub hl [1, 2, 3, 4, 0] rfl) hP hS
theorem h9_X0_addStart : yX0_addStart.cls = RX0 ∧ yX0_addStart.cls ≠ "java/lang/invoke/MethodHandle" ∧ yX0_addStart.cls ≠ "java/lang/invoke/VarHandle" ∧ (parseMethodDescriptor yX0_addStart.desc).map (fun d => d.parameters.length) = some 1 := by decide +kernel
set_option maxRecDepth 100000 in
set_option maxHeartbeats 4000000 in
theorem t_X0_addStart (l : Launch) (G : va_G) (ad : Nat → Nat → Nat) (ca : Nat → ClassId) (A : Nat → Prop) (z : Nat × Nat) (n0 : Nat) (x1 : Int32) (hD : DW ad (LC z) A) (hn0 : n0 < 2) (σ : PS) (res : PS) (hf : X0_addStart z n0 x1 σ = some res) : Met l yX0_addStart wsX0_addStart ({ frames := 0, cells := 0, slots := 0, locals := 0 }) (ctP G ad ca (LC z) σ ZC [.ref (ad 0 n0), .int x1]) (va_Qv (fun u => u = res) (ctB G ad ca (LC z)) A) 0 0 A := by
  refine Met.ofW (cc := cX0_addStart) (maxL := 4) (ret := none) (by decide) rfl ?_
  intro p e s m args below meth c s₁ B hml hv
  obtain ⟨rfl, hP, hK, hz⟩ := hv
  have hx := B.exec
  have hb := B.bytes
  have hr := B.returns
  have hts : ∀ w ∈ WW, w.before _ s = true := fun w h => atoms_spec (ws := wsX0_addStart) B.pre w (List.mem_cons_of_mem _ h)
  have hown : s.vm.findClass RX0 = some m.cls := findClass_of_methodNamed B.named
  have hlocks := B.notSynchronized
  have hS : va_S A s.heap s.heap [] := va_S.rf
  have k_25 := hts _ kf_X0_25
  have k_31 := hts _ kf_X0_31
  have hl := lv_entry ([.ref (ad 0 n0), .int x1]) (n := 4) (Nat.le_of_ble_eq_true rfl)
  rw [lg_entry_eq]
  generalize (lg_sl ([.ref (ad 0 n0), .int x1]) ++ List.replicate (4 - (lg_sl ([.ref (ad 0 n0), .int x1])).length) Slot.unset).toArray = ls at hl ⊢
  have hl : lv_has ls 4 [(0, .ref (ad 0 n0)), (1, .int x1)] := hl
  unfold X0_addStart at hf
  have l5 : ∀ (kx5 : Int32 → Int32 → PS → Option (PS)), (∀ (v1 : Int32) (v2 : Int32) (σ : PS) (H : Heap) (locs : List Loc) (ls : Array Slot), kx5 v1 v2 σ = some res → lv_has ls 4 [(0, .ref (ad 0 n0)), (1, .int v1), (2, .int v2)] → va_P G vwCl (wld ad ca σ (LC z)) H → va_S A s.heap H locs → W p l e (headSpec wsX0_addStart ({ frames := 0, cells := 0, slots := 0, locals := 0 })).room s m (([.ref (ad 0 n0), .int x1] : List Value).toArray) below meth c H locs 0 0 (MQ below (va_Qv (fun u => u = res) (ctB G ad ca (LC z)) A) (([.ref (ad 0 n0), .int x1] : List Value).toArray) s 0 0 A) (F0 m 27 ls [])) → ∀ (n5 : Nat) (v1 : Int32) (v2 : Int32) (σ : PS) (H : Heap) (locs : List Loc) (ls : Array Slot), X0_addStart_l5 z n0 kx5 n5 v1 v2 σ = some res → lv_has ls 4 [(0, .ref (ad 0 n0)), (1, .int v1), (2, .int v2)] → va_P G vwCl (wld ad ca σ (LC z)) H → va_S A s.heap H locs → W p l e (headSpec wsX0_addStart ({ frames := 0, cells := 0, slots := 0, locals := 0 })).room s m (([.ref (ad 0 n0), .int x1] : List Value).toArray) below meth c H locs 0 0 (MQ below (va_Qv (fun u => u = res) (ctB G ad ca (LC z)) A) (([.ref (ad 0 n0), .int x1] : List Value).toArray) s 0 0 A) (F0 m 5 ls []) := by
    intro kx5 hx5 n5
    induction n5 with
    | zero =>
      intro v1 v2 σ H locs ls hf
      exact absurd hf (by simp [X0_addStart_l5])
    | succ n5 ih5 =>
      intro v1 v2 σ H locs ls hf hl hP hS
      rw [X0_addStart_l5.eq_2] at hf
      refine lv_iload_n hx hb dX0_addStart_5 rfl (lv_at hl 2 rfl) ?_
      refine lv_if_le (tgt := 27) hx hb dX0_addStart_6 rfl (fun hc => ?_) (fun hc => ?_)
      · have hf := b_p hf hc
        exact hx5 v1 v2 σ _ _ _  hf (lv_sub hl [0, 1, 2] rfl) hP hS
      · have hf := b_n hf hc
        refine lv_aload_n hx hb dX0_addStart_9 rfl (lv_at hl 0 rfl) ?_
        refine x_get (k := 0) (n := n0) hx hb hts i_X0 hown hK hP (mk_0 hn0) rfl rfl 4 (by decide) rfl k_25 (v := .ref (ad 5 n0)) rfl dX0_addStart_10 ?_
        refine lv_iload_n hx hb dX0_addStart_13 rfl (lv_at hl 2 rfl) ?_
        refine lv_iconst (v := (1 : Int32)) hx hb dX0_addStart_14 rfl ?_
        refine lv_isub hx hb dX0_addStart_15 ?_
        obtain ⟨g2, hf⟩ := gd_e hf
        refine x_iald (k := 5) (n := n0) hx hb hK hP (mk_5 hn0) rfl g2 dX0_addStart_16 ?_
        refine lv_iload_n hx hb dX0_addStart_17 rfl (lv_at hl 1 rfl) ?_
        refine lv_icmp_le (tgt := 27) hx hb dX0_addStart_18 rfl (fun hc => ?_) (fun hc => ?_)
        · have hf := b_p hf hc
          exact hx5 v1 v2 σ _ _ _  hf (lv_sub hl [0, 1, 2] rfl) hP hS
        · have hf := b_n hf hc
          refine lv_iinc (v := (v2 + (-1 : Int32))) (lv' := [(2, .int (v2 + (-1 : Int32))), (0, .ref (ad 0 n0)), (1, .int v1)]) hx hb dX0_addStart_21 hl (k := 2) rfl rfl (by decide) rfl (fun ls hl => ?_)
          refine lv_goto (tgt := 5) hx hb dX0_addStart_24 rfl ?_
          exact ih5 v1 (v2 + (-1 : Int32)) σ _ _ _  hf (lv_sub hl [1, 2, 0] rfl) hP hS
  have l58 : ∀ (kx58 : Int32 → Int32 → PS → Option (PS)), (∀ (v1 : Int32) (v2 : Int32) (σ : PS) (H : Heap) (locs : List Loc) (ls : Array Slot), kx58 v1 v2 σ = some res → lv_has ls 4 [(0, .ref (ad 0 n0)), (1, .int v1), (2, .int v2)] → va_P G vwCl (wld ad ca σ (LC z)) H → va_S A s.heap H locs → W p l e (headSpec wsX0_addStart ({ frames := 0, cells := 0, slots := 0, locals := 0 })).room s m (([.ref (ad 0 n0), .int x1] : List Value).toArray) below meth c H locs 0 0 (MQ below (va_Qv (fun u => u = res) (ctB G ad ca (LC z)) A) (([.ref (ad 0 n0), .int x1] : List Value).toArray) s 0 0 A) (F0 m 83 ls [])) → ∀ (n58 : Nat) (v1 : Int32) (v2 : Int32) (v3 : Int32) (σ : PS) (H : Heap) (locs : List Loc) (ls : Array Slot), X0_addStart_l58 z n0 kx58 n58 v1 v2 v3 σ = some res → lv_has ls 4 [(0, .ref (ad 0 n0)), (1, .int v1), (2, .int v2), (3, .int v3)] → va_P G vwCl (wld ad ca σ (LC z)) H → va_S A s.heap H locs → W p l e (headSpec wsX0_addStart ({ frames := 0, cells := 0, slots := 0, locals := 0 })).room s m (([.ref (ad 0 n0), .int x1] : List Value).toArray) below meth c H locs 0 0 (MQ below (va_Qv (fun u => u = res) (ctB G ad ca (LC z)) A) (([.ref (ad 0 n0), .int x1] : List Value).toArray) s 0 0 A) (F0 m 58 ls []) := by
    intro kx58 hx58 n58
    induction n58 with
    | zero =>
      intro v1 v2 v3 σ H locs ls hf
      exact absurd hf (by simp [X0_addStart_l58])
    | succ n58 ih58 =>
      intro v1 v2 v3 σ H locs ls hf hl hP hS
      rw [X0_addStart_l58.eq_2] at hf
      refine lv_iload_n hx hb dX0_addStart_58 rfl (lv_at hl 3 rfl) ?_
      refine lv_iload_n hx hb dX0_addStart_59 rfl (lv_at hl 2 rfl) ?_
      refine lv_icmp_le (tgt := 83) hx hb dX0_addStart_60 rfl (fun hc => ?_) (fun hc => ?_)
      · have hf := b_p hf hc
        exact hx58 v1 v2 σ _ _ _  hf (lv_sub hl [0, 1, 2] rfl) hP hS
      · have hf := b_n hf hc
        refine lv_aload_n hx hb dX0_addStart_63 rfl (lv_at hl 0 rfl) ?_
        refine x_get (k := 0) (n := n0) hx hb hts i_X0 hown hK hP (mk_0 hn0) rfl rfl 4 (by decide) rfl k_25 (v := .ref (ad 5 n0)) rfl dX0_addStart_64 ?_
        refine lv_iload_n hx hb dX0_addStart_67 rfl (lv_at hl 3 rfl) ?_
        refine lv_aload_n hx hb dX0_addStart_68 rfl (lv_at hl 0 rfl) ?_
        refine x_get (k := 0) (n := n0) hx hb hts i_X0 hown hK hP (mk_0 hn0) rfl rfl 4 (by decide) rfl k_25 (v := .ref (ad 5 n0)) rfl dX0_addStart_69 ?_
        refine lv_iload_n hx hb dX0_addStart_72 rfl (lv_at hl 3 rfl) ?_
        refine lv_iconst (v := (1 : Int32)) hx hb dX0_addStart_73 rfl ?_
        refine lv_isub hx hb dX0_addStart_74 ?_
        obtain ⟨g4, hf⟩ := gd_e hf
        refine x_iald (k := 5) (n := n0) hx hb hK hP (mk_5 hn0) rfl g4 dX0_addStart_75 ?_
        obtain ⟨g5, hf⟩ := gd_e hf
        refine x_iast (k := 5) (n := n0) hx hb hK hD hP hS (mk_5 hn0) rfl g5 dX0_addStart_76 (fun H locs hP hS => ?_)
        obtain ⟨σ6, e_σ6, hf⟩ := nm_i hf
        have hP : va_P G vwCl (wld ad ca σ6 (LC z)) H := by rw [e_σ6]; exact hP
        refine lv_iinc (v := (v3 + (-1 : Int32))) (lv' := [(3, .int (v3 + (-1 : Int32))), (0, .ref (ad 0 n0)), (1, .int v1), (2, .int v2)]) hx hb dX0_addStart_77 hl (k := 3) rfl rfl (by decide) rfl (fun ls hl => ?_)
        refine lv_goto (tgt := 58) hx hb dX0_addStart_80 rfl ?_
        exact ih58 v1 v2 (v3 + (-1 : Int32)) σ6 _ _ _  hf (lv_sub hl [1, 2, 3, 0] rfl) hP hS
  have c83 : ∀ (v1 : Int32) (v2 : Int32) (σ : PS) (H : Heap) (locs : List Loc) (ls : Array Slot), X0_addStart_c83 z n0 v1 v2 σ = some res → lv_has ls 4 [(0, .ref (ad 0 n0)), (1, .int v1), (2, .int v2)] → va_P G vwCl (wld ad ca σ (LC z)) H → va_S A s.heap H locs → W p l e (headSpec wsX0_addStart ({ frames := 0, cells := 0, slots := 0, locals := 0 })).room s m (([.ref (ad 0 n0), .int x1] : List Value).toArray) below meth c H locs 0 0 (MQ below (va_Qv (fun u => u = res) (ctB G ad ca (LC z)) A) (([.ref (ad 0 n0), .int x1] : List Value).toArray) s 0 0 A) (F0 m 83 ls []) := by
    intro v1 v2 σ H locs ls hf hl hP hS
    unfold X0_addStart_c83 at hf
    refine lv_aload_n hx hb dX0_addStart_83 rfl (lv_at hl 0 rfl) ?_
    refine x_get (k := 0) (n := n0) hx hb hts i_X0 hown hK hP (mk_0 hn0) rfl rfl 4 (by decide) rfl k_25 (v := .ref (ad 5 n0)) rfl dX0_addStart_84 ?_
    refine lv_iload_n hx hb dX0_addStart_87 rfl (lv_at hl 2 rfl) ?_
    refine lv_iload_n hx hb dX0_addStart_88 rfl (lv_at hl 1 rfl) ?_
    obtain ⟨g7, hf⟩ := gd_e hf
    refine x_iast (k := 5) (n := n0) hx hb hK hD hP hS (mk_5 hn0) rfl g7 dX0_addStart_89 (fun H locs hP hS => ?_)
    obtain ⟨σ8, e_σ8, hf⟩ := nm_i hf
    have hP : va_P G vwCl (wld ad ca σ8 (LC z)) H := by rw [e_σ8]; exact hP
    refine lv_aload_n hx hb dX0_addStart_90 rfl (lv_at hl 0 rfl) ?_
    refine lv_dup hx hb dX0_addStart_91 rfl ?_
    refine x_get (k := 0) (n := n0) hx hb hts i_X0 hown hK hP (mk_0 hn0) rfl rfl 6 (by decide) rfl k_31 (v := .int (gI σ8 0 n0 6)) rfl dX0_addStart_92 ?_
    refine lv_iconst (v := (1 : Int32)) hx hb dX0_addStart_95 rfl ?_
    refine lv_iadd hx hb dX0_addStart_96 ?_
    refine x_putI (k := 0) (n := n0) hx hb hts i_X0 tyX0 tyX0_ok nmX0 hown hK hD hP hS (mk_0 hn0) rfl rfl 6 (by decide) rfl k_31 rfl rfl rfl rfl dX0_addStart_97 (fun H locs hP hS => ?_)
    obtain ⟨σ9, e_σ9, hf⟩ := nm_i hf
    have hP : va_P G vwCl (wld ad ca σ9 (LC z)) H := by rw [e_σ9]; exact hP
    exact x_vret hx hb hr hlocks hK hP hS (Option.some.inj hf) dX0_addStart_100
  have c43 : ∀ (v1 : Int32) (v2 : Int32) (σ : PS) (H : Heap) (locs : List Loc) (ls : Array Slot), X0_addStart_c43 z n0 v1 v2 σ = some res → lv_has ls 4 [(0, .ref (ad 0 n0)), (1, .int v1), (2, .int v2)] → va_P G vwCl (wld ad ca σ (LC z)) H → va_S A s.heap H locs → W p l e (headSpec wsX0_addStart ({ frames := 0, cells := 0, slots := 0, locals := 0 })).room s m (([.ref (ad 0 n0), .int x1] : List Value).toArray) below meth c H locs 0 0 (MQ below (va_Qv (fun u => u = res) (ctB G ad ca (LC z)) A) (([.ref (ad 0 n0), .int x1] : List Value).toArray) s 0 0 A) (F0 m 43 ls []) := by
    intro v1 v2 σ H locs ls hf hl hP hS
    unfold X0_addStart_c43 at hf
    refine lv_aload_n hx hb dX0_addStart_43 rfl (lv_at hl 0 rfl) ?_
    refine x_get (k := 0) (n := n0) hx hb hts i_X0 hown hK hP (mk_0 hn0) rfl rfl 6 (by decide) rfl k_31 (v := .int (gI σ 0 n0 6)) rfl dX0_addStart_44 ?_
    refine lv_bipush (v := (17 : Int32)) hx hb dX0_addStart_47 rfl ?_
    refine lv_icmp_lt (tgt := 53) hx hb dX0_addStart_49 rfl (fun hc => ?_) (fun hc => ?_)
    · have hf := b_p hf hc
      refine lv_aload_n hx hb dX0_addStart_53 rfl (lv_at hl 0 rfl) ?_
      refine x_get (k := 0) (n := n0) hx hb hts i_X0 hown hK hP (mk_0 hn0) rfl rfl 6 (by decide) rfl k_31 (v := .int (gI σ 0 n0 6)) rfl dX0_addStart_54 ?_
      obtain ⟨y3, e_y3, hf⟩ := nm_i hf
      refine x_nmI e_y3 ?_
      refine lv_istore_n (lv' := [(3, .int y3), (0, .ref (ad 0 n0)), (1, .int v1), (2, .int v2)]) hx hb dX0_addStart_57 rfl hl (by decide) rfl (fun ls hl => ?_)
      exact l58 _ c83 _ v1 v2 y3 σ _ _ _  hf (lv_sub hl [1, 2, 3, 0] rfl) hP hS
    · have hf := b_n hf hc
      exact x_vret hx hb hr hlocks hK hP hS (Option.some.inj hf) dX0_addStart_52
  have c27 : ∀ (v1 : Int32) (v2 : Int32) (σ : PS) (H : Heap) (locs : List Loc) (ls : Array Slot), X0_addStart_c27 z n0 v1 v2 σ = some res → lv_has ls 4 [(0, .ref (ad 0 n0)), (1, .int v1), (2, .int v2)] → va_P G vwCl (wld ad ca σ (LC z)) H → va_S A s.heap H locs → W p l e (headSpec wsX0_addStart ({ frames := 0, cells := 0, slots := 0, locals := 0 })).room s m (([.ref (ad 0 n0), .int x1] : List Value).toArray) below meth c H locs 0 0 (MQ below (va_Qv (fun u => u = res) (ctB G ad ca (LC z)) A) (([.ref (ad 0 n0), .int x1] : List Value).toArray) s 0 0 A) (F0 m 27 ls []) := by
    intro v1 v2 σ H locs ls hf hl hP hS
    unfold X0_addStart_c27 at hf
    refine lv_iload_n hx hb dX0_addStart_27 rfl (lv_at hl 2 rfl) ?_
    refine lv_if_le (tgt := 43) hx hb dX0_addStart_28 rfl (fun hc => ?_) (fun hc => ?_)
    · have hf := b_p hf hc
      exact c43 v1 v2 σ _ _ _  hf (lv_sub hl [0, 1, 2] rfl) hP hS
    · have hf := b_n hf hc
      refine lv_aload_n hx hb dX0_addStart_31 rfl (lv_at hl 0 rfl) ?_
      refine x_get (k := 0) (n := n0) hx hb hts i_X0 hown hK hP (mk_0 hn0) rfl rfl 4 (by decide) rfl k_25 (v := .ref (ad 5 n0)) rfl dX0_addStart_32 ?_
      refine lv_iload_n hx hb dX0_addStart_35 rfl (lv_at hl 2 rfl) ?_
      refine lv_iconst (v := (1 : Int32)) hx hb dX0_addStart_36 rfl ?_
      refine lv_isub hx hb dX0_addStart_37 ?_
      obtain ⟨g10, hf⟩ := gd_e hf
      refine x_iald (k := 5) (n := n0) hx hb hK hP (mk_5 hn0) rfl g10 dX0_addStart_38 ?_
      refine lv_iload_n hx hb dX0_addStart_39 rfl (lv_at hl 1 rfl) ?_
      refine lv_icmp_eq (tgt := 52) hx hb dX0_addStart_40 rfl (fun hc => ?_) (fun hc => ?_)
      · have hf := b_p hf hc
        exact x_vret hx hb hr hlocks hK hP hS (Option.some.inj hf) dX0_addStart_52
      · have hf := b_n hf hc
        exact c43 v1 v2 σ _ _ _  hf (lv_sub hl [0, 1, 2] rfl) hP hS
  refine lv_aload_n hx hb dX0_addStart_0 rfl (lv_at hl 0 rfl) ?_
  refine x_get (k := 0) (n := n0) hx hb hts i_X0 hown hK hP (mk_0 hn0) rfl rfl 6 (by decide) rfl k_31 (v := .int (gI σ 0 n0 6)) rfl dX0_addStart_1 ?_
  obtain ⟨y1, e_y1, hf⟩ := nm_i hf
  refine x_nmI e_y1 ?_
  refine lv_istore_n (lv' := [(2, .int y1), (0, .ref (ad 0 n0)), (1, .int x1)]) hx hb dX0_addStart_4 rfl hl (by decide) rfl (fun ls hl => ?_)
  exact l5 _ c27 _ x1 y1 σ _ _ _  hf (lv_sub hl [1, 2, 0] rfl) hP hS
theorem h9_X1_laidAt : yX1_laidAt.cls = RX1 ∧ yX1_laidAt.cls ≠ "java/lang/invoke/MethodHandle" ∧ yX1_laidAt.cls ≠ "java/lang/invoke/VarHandle" ∧ (parseMethodDescriptor yX1_laidAt.desc).map (fun d => d.parameters.length) = some 1 := by decide +kernel
set_option maxRecDepth 100000 in
set_option maxHeartbeats 4000000 in
theorem t_X1_laidAt (l : Launch) (G : va_G) (ad : Nat → Nat → Nat) (ca : Nat → ClassId) (A : Nat → Prop) (z : Nat × Nat) (n0 : Nat) (x1 : Int32) (hD : DW ad (LC z) A) (hn0 : n0 < z.1) (σ : PS) (res : Option Nat) (hf : X1_laidAt z n0 x1 σ = some res) : Met l yX1_laidAt wsX1_laidAt ({ frames := 0, cells := 0, slots := 0, locals := 0 }) (ctP G ad ca (LC z) σ ZC [.ref (ad 50 n0), .int x1]) (va_Qq (fun r' u => r' = Option.map (ad 100) res ∧ u = σ) (ctB G ad ca (LC z)) A) 0 0 A := by
  refine Met.ofW (cc := cX1_laidAt) (maxL := 2) (ret := (some (.object "CallBoard$Handler"))) (by decide) rfl ?_
  intro p e s m args below meth c s₁ B hml hv
  obtain ⟨rfl, hP, hK, hz⟩ := hv
  have hx := B.exec
  have hb := B.bytes
  have hr := B.returns
  have hts : ∀ w ∈ WW, w.before _ s = true := fun w h => atoms_spec (ws := wsX1_laidAt) B.pre w (List.mem_cons_of_mem _ h)
  have hown : s.vm.findClass RX1 = some m.cls := findClass_of_methodNamed B.named
  have hlocks := B.notSynchronized
  have hS : va_S A s.heap s.heap [] := va_S.rf
  have k_24 := hts _ kf_X1_24
  have k_31 := hts _ kf_X1_31
  have hl := lv_entry ([.ref (ad 50 n0), .int x1]) (n := 2) (Nat.le_of_ble_eq_true rfl)
  rw [lg_entry_eq]
  generalize (lg_sl ([.ref (ad 50 n0), .int x1]) ++ List.replicate (2 - (lg_sl ([.ref (ad 50 n0), .int x1])).length) Slot.unset).toArray = ls at hl ⊢
  have hl : lv_has ls 2 [(0, .ref (ad 50 n0)), (1, .int x1)] := hl
  unfold X1_laidAt at hf
  refine lv_iload_n hx hb dX1_laidAt_0 rfl (lv_at hl 1 rfl) ?_
  refine lv_if_lt (tgt := 21) hx hb dX1_laidAt_1 rfl (fun hc => ?_) (fun hc => ?_)
  · have hf := b_p hf hc
    refine lv_null hx hb dX1_laidAt_21 ?_
    exact x_aret (o := none) (t0 := 100) hx hb hr hlocks hK hP hS (Option.some.inj hf) rfl dX1_laidAt_22
  · have hf := b_n hf hc
    refine lv_iload_n hx hb dX1_laidAt_4 rfl (lv_at hl 1 rfl) ?_
    refine lv_aload_n hx hb dX1_laidAt_5 rfl (lv_at hl 0 rfl) ?_
    refine x_get (k := 50) (n := n0) hx hb hts i_X1 hown hK hP (mk_50 hn0) rfl rfl 7 (by decide) rfl k_31 (v := .int (gI σ 50 n0 7)) rfl dX1_laidAt_6 ?_
    refine lv_icmp_ge (tgt := 21) hx hb dX1_laidAt_9 rfl (fun hc => ?_) (fun hc => ?_)
    · have hf := b_p hf hc
      refine lv_null hx hb dX1_laidAt_21 ?_
      exact x_aret (o := none) (t0 := 100) hx hb hr hlocks hK hP hS (Option.some.inj hf) rfl dX1_laidAt_22
    · have hf := b_n hf hc
      refine lv_aload_n hx hb dX1_laidAt_12 rfl (lv_at hl 0 rfl) ?_
      refine x_get (k := 50) (n := n0) hx hb hts i_X1 hown hK hP (mk_50 hn0) rfl rfl 5 (by decide) rfl k_24 (v := .ref (ad 56 n0)) rfl dX1_laidAt_13 ?_
      refine lv_iload_n hx hb dX1_laidAt_16 rfl (lv_at hl 1 rfl) ?_
      obtain ⟨g1, hf⟩ := gd_e hf
      obtain ⟨o2, e_o2, hf⟩ := nm_i hf
      refine x_aald (k := 56) (n := n0) (t := 100) hx hb hK hP (mk_56 hn0) (by decide) g1 dX1_laidAt_17 e_o2 ?_
      refine lv_goto (tgt := 22) hx hb dX1_laidAt_18 rfl ?_
      exact x_aret (o := o2) (t0 := 100) hx hb hr hlocks hK hP hS (Option.some.inj hf) rfl dX1_laidAt_22
theorem h9_X2_takesWeight : yX2_takesWeight.cls = RX2 ∧ yX2_takesWeight.cls ≠ "java/lang/invoke/MethodHandle" ∧ yX2_takesWeight.cls ≠ "java/lang/invoke/VarHandle" ∧ (parseMethodDescriptor yX2_takesWeight.desc).map (fun d => d.parameters.length) = some 2 := by decide +kernel
set_option maxRecDepth 100000 in
set_option maxHeartbeats 4000000 in
theorem t_X2_takesWeight (l : Launch) (G : va_G) (ad : Nat → Nat → Nat) (ca : Nat → ClassId) (A : Nat → Prop) (z : Nat × Nat) (n0 : Nat) (x1 : Int32) (x2 : Int32) (hD : DW ad (LC z) A) (hn0 : n0 < z.2) (σ : PS) (res : Int32) (hf : X2_takesWeight z n0 x1 x2 σ = some res) : Met l yX2_takesWeight wsX2_takesWeight ({ frames := 0, cells := 0, slots := 0, locals := 0 }) (ctP G ad ca (LC z) σ ZC [.ref (ad 100 n0), .int x1, .int x2]) (va_Qi (fun r' u => r' = res ∧ u = σ) (ctB G ad ca (LC z)) A) 0 0 A := by
  refine Met.ofW (cc := cX2_takesWeight) (maxL := 3) (ret := (some .boolean)) (by decide) rfl ?_
  intro p e s m args below meth c s₁ B hml hv
  obtain ⟨rfl, hP, hK, hz⟩ := hv
  have hx := B.exec
  have hb := B.bytes
  have hr := B.returns
  have hts : ∀ w ∈ WW, w.before _ s = true := fun w h => atoms_spec (ws := wsX2_takesWeight) B.pre w (List.mem_cons_of_mem _ h)
  have hown : s.vm.findClass RX2 = some m.cls := findClass_of_methodNamed B.named
  have hlocks := B.notSynchronized
  have hS : va_S A s.heap s.heap [] := va_S.rf
  have k_41 := hts _ kf_X2_41
  have k_44 := hts _ kf_X2_44
  have hl := lv_entry ([.ref (ad 100 n0), .int x1, .int x2]) (n := 3) (Nat.le_of_ble_eq_true rfl)
  rw [lg_entry_eq]
  generalize (lg_sl ([.ref (ad 100 n0), .int x1, .int x2]) ++ List.replicate (3 - (lg_sl ([.ref (ad 100 n0), .int x1, .int x2])).length) Slot.unset).toArray = ls at hl ⊢
  have hl : lv_has ls 3 [(0, .ref (ad 100 n0)), (1, .int x1), (2, .int x2)] := hl
  unfold X2_takesWeight at hf
  refine lv_aload_n hx hb dX2_takesWeight_0 rfl (lv_at hl 0 rfl) ?_
  refine x_get (k := 100) (n := n0) hx hb hts i_X2 hown hK hP (mk_100 hn0) rfl rfl 6 (by decide) rfl k_41 (v := .ref (ad 107 n0)) rfl dX2_takesWeight_1 ?_
  refine lv_iload_n hx hb dX2_takesWeight_4 rfl (lv_at hl 1 rfl) ?_
  obtain ⟨g1, hf⟩ := gd_e hf
  refine x_iald (k := 107) (n := n0) hx hb hK hP (mk_107 hn0) rfl g1 dX2_takesWeight_5 ?_
  refine lv_iload_n hx hb dX2_takesWeight_6 rfl (lv_at hl 2 rfl) ?_
  refine lv_icmp_gt (tgt := 24) hx hb dX2_takesWeight_7 rfl (fun hc => ?_) (fun hc => ?_)
  · have hf := b_p hf hc
    refine lv_iconst (v := (0 : Int32)) hx hb dX2_takesWeight_24 rfl ?_
    exact x_zret hx hb hr hlocks hK hP hS (by decide) (Option.some.inj hf) rfl dX2_takesWeight_25
  · have hf := b_n hf hc
    refine lv_iload_n hx hb dX2_takesWeight_10 rfl (lv_at hl 2 rfl) ?_
    refine lv_aload_n hx hb dX2_takesWeight_11 rfl (lv_at hl 0 rfl) ?_
    refine x_get (k := 100) (n := n0) hx hb hts i_X2 hown hK hP (mk_100 hn0) rfl rfl 7 (by decide) rfl k_44 (v := .ref (ad 108 n0)) rfl dX2_takesWeight_12 ?_
    refine lv_iload_n hx hb dX2_takesWeight_15 rfl (lv_at hl 1 rfl) ?_
    obtain ⟨g2, hf⟩ := gd_e hf
    refine x_iald (k := 108) (n := n0) hx hb hK hP (mk_108 hn0) rfl g2 dX2_takesWeight_16 ?_
    refine lv_icmp_gt (tgt := 24) hx hb dX2_takesWeight_17 rfl (fun hc => ?_) (fun hc => ?_)
    · have hf := b_p hf hc
      refine lv_iconst (v := (0 : Int32)) hx hb dX2_takesWeight_24 rfl ?_
      exact x_zret hx hb hr hlocks hK hP hS (by decide) (Option.some.inj hf) rfl dX2_takesWeight_25
    · have hf := b_n hf hc
      refine lv_iconst (v := (1 : Int32)) hx hb dX2_takesWeight_20 rfl ?_
      refine lv_goto (tgt := 25) hx hb dX2_takesWeight_21 rfl ?_
      exact x_zret hx hb hr hlocks hK hP hS (by decide) (Option.some.inj hf) rfl dX2_takesWeight_25
theorem h9_X1_takersOfWeight : yX1_takersOfWeight.cls = RX1 ∧ yX1_takersOfWeight.cls ≠ "java/lang/invoke/MethodHandle" ∧ yX1_takersOfWeight.cls ≠ "java/lang/invoke/VarHandle" ∧ (parseMethodDescriptor yX1_takersOfWeight.desc).map (fun d => d.parameters.length) = some 2 := by decide +kernel
set_option maxRecDepth 100000 in
set_option maxHeartbeats 4000000 in
theorem t_X1_takersOfWeight (l : Launch) (G : va_G) (ad : Nat → Nat → Nat) (ca : Nat → ClassId) (A : Nat → Prop) (z : Nat × Nat) (n0 : Nat) (x1 : Int32) (x2 : Int32) (hD : DW ad (LC z) A) (hn0 : n0 < z.1) (σ : PS) (res : Int32) (hf : X1_takersOfWeight z n0 x1 x2 σ = some res) : Met l yX1_takersOfWeight wsX1_takersOfWeight ({ frames := 1, cells := 0, slots := 0, locals := 22 }) (ctP G ad ca (LC z) σ ZC [.ref (ad 50 n0), .int x1, .int x2]) (va_Qi (fun r' u => r' = res ∧ u = σ) (ctB G ad ca (LC z)) A) 0 0 A := by
  refine Met.ofW (cc := cX1_takersOfWeight) (maxL := 5) (ret := (some .int)) (by decide) rfl ?_
  intro p e s m args below meth c s₁ B hml hv
  obtain ⟨rfl, hP, hK, hz⟩ := hv
  have hx := B.exec
  have hb := B.bytes
  have hr := B.returns
  have hts : ∀ w ∈ WW, w.before _ s = true := fun w h => atoms_spec (ws := wsX1_takersOfWeight) B.pre w (List.mem_cons_of_mem _ h)
  have hown : s.vm.findClass RX1 = some m.cls := findClass_of_methodNamed B.named
  have hlocks := B.notSynchronized
  have hS : va_S A s.heap s.heap [] := va_S.rf
  have k_24 := hts _ kf_X1_24
  have k_31 := hts _ kf_X1_31
  have hl := lv_entry ([.ref (ad 50 n0), .int x1, .int x2]) (n := 5) (Nat.le_of_ble_eq_true rfl)
  rw [lg_entry_eq]
  generalize (lg_sl ([.ref (ad 50 n0), .int x1, .int x2]) ++ List.replicate (5 - (lg_sl ([.ref (ad 50 n0), .int x1, .int x2])).length) Slot.unset).toArray = ls at hl ⊢
  have hl : lv_has ls 5 [(0, .ref (ad 50 n0)), (1, .int x1), (2, .int x2)] := hl
  unfold X1_takersOfWeight at hf
  have l5 : ∀ (kx5 : Int32 → Option (Int32)), (∀ (v3 : Int32) (H : Heap) (locs : List Loc) (ls : Array Slot), kx5 v3 = some res → lv_has ls 5 [(3, .int v3)] → va_P G vwCl (wld ad ca σ (LC z)) H → va_S A s.heap H locs → W p l e (headSpec wsX1_takersOfWeight ({ frames := 1, cells := 0, slots := 0, locals := 22 })).room s m (([.ref (ad 50 n0), .int x1, .int x2] : List Value).toArray) below meth c H locs 0 0 (MQ below (va_Qi (fun r' u => r' = res ∧ u = σ) (ctB G ad ca (LC z)) A) (([.ref (ad 50 n0), .int x1, .int x2] : List Value).toArray) s 0 0 A) (F0 m 42 ls [])) → ∀ (n5 : Nat) (v1 : Int32) (v2 : Int32) (v3 : Int32) (v4 : Int32) (H : Heap) (locs : List Loc) (ls : Array Slot), X1_takersOfWeight_l5 z n0 σ kx5 n5 v1 v2 v3 v4 = some res → lv_has ls 5 [(0, .ref (ad 50 n0)), (1, .int v1), (2, .int v2), (3, .int v3), (4, .int v4)] → va_P G vwCl (wld ad ca σ (LC z)) H → va_S A s.heap H locs → W p l e (headSpec wsX1_takersOfWeight ({ frames := 1, cells := 0, slots := 0, locals := 22 })).room s m (([.ref (ad 50 n0), .int x1, .int x2] : List Value).toArray) below meth c H locs 0 0 (MQ below (va_Qi (fun r' u => r' = res ∧ u = σ) (ctB G ad ca (LC z)) A) (([.ref (ad 50 n0), .int x1, .int x2] : List Value).toArray) s 0 0 A) (F0 m 5 ls []) := by
    intro kx5 hx5 n5
    induction n5 with
    | zero =>
      intro v1 v2 v3 v4 H locs ls hf
      exact absurd hf (by simp [X1_takersOfWeight_l5])
    | succ n5 ih5 =>
      intro v1 v2 v3 v4 H locs ls hf hl hP hS
      rw [X1_takersOfWeight_l5.eq_2] at hf
      refine lv_iload hx hb dX1_takersOfWeight_5 (lv_at hl 4 rfl) ?_
      refine lv_aload_n hx hb dX1_takersOfWeight_7 rfl (lv_at hl 0 rfl) ?_
      refine x_get (k := 50) (n := n0) hx hb hts i_X1 hown hK hP (mk_50 hn0) rfl rfl 7 (by decide) rfl k_31 (v := .int (gI σ 50 n0 7)) rfl dX1_takersOfWeight_8 ?_
      refine lv_icmp_ge (tgt := 42) hx hb dX1_takersOfWeight_11 rfl (fun hc => ?_) (fun hc => ?_)
      · have hf := b_p hf hc
        exact hx5 v3 _ _ _  hf (lv_sub hl [3] rfl) hP hS
      · have hf := b_n hf hc
        refine lv_aload_n hx hb dX1_takersOfWeight_14 rfl (lv_at hl 0 rfl) ?_
        refine x_get (k := 50) (n := n0) hx hb hts i_X1 hown hK hP (mk_50 hn0) rfl rfl 5 (by decide) rfl k_24 (v := .ref (ad 56 n0)) rfl dX1_takersOfWeight_15 ?_
        refine lv_iload hx hb dX1_takersOfWeight_18 (lv_at hl 4 rfl) ?_
        obtain ⟨g1, hf⟩ := gd_e hf
        obtain ⟨o2, e_o2, hf⟩ := nm_i hf
        refine x_aald (k := 56) (n := n0) (t := 100) hx hb hK hP (mk_56 hn0) (by decide) g1 dX1_takersOfWeight_20 e_o2 ?_
        refine lv_iload_n hx hb dX1_takersOfWeight_21 rfl (lv_at hl 1 rfl) ?_
        refine lv_iload_n hx hb dX1_takersOfWeight_22 rfl (lv_at hl 2 rfl) ?_
        obtain ⟨q3, e_q3, h_q3, hf9⟩ := dr_e hf
        clear hf
        subst e_q3
        have hf := hf9
        clear hf9
        obtain ⟨r4, hc4, hf⟩ := bd_e hf
        refine x_ci (va_runV (As := [.int v1, .int v2]) (rest := []) ⟨hx, hb, hml, hown, hts⟩ (t_X2_takesWeight l G ad ca A z q3 v1 v2 hD h_q3 σ r4 hc4) (cwV 2 hts gr_X1_106 rfl rfl rfl h9_X2_takesWeight ⟨Nat.le_of_ble_eq_true rfl, Nat.le_of_ble_eq_true rfl⟩) (x_prV zkC hz hK hP (mk_100 h_q3) rfl rfl) rfl rfl hl.1 rfl (lv_room (Nat.le_of_ble_eq_true rfl)) dX1_takersOfWeight_23 ⟨Nat.le_of_ble_eq_true rfl, Nat.le_of_ble_eq_true rfl⟩) hS (fun H locs hP hS => ?_)
        refine lv_if_eq (tgt := 36) hx hb dX1_takersOfWeight_26 rfl (fun hc => ?_) (fun hc => ?_)
        · have hf := b_p hf hc
          refine lv_iinc (v := (v4 + (1 : Int32))) (lv' := [(4, .int (v4 + (1 : Int32))), (0, .ref (ad 50 n0)), (1, .int v1), (2, .int v2), (3, .int v3)]) hx hb dX1_takersOfWeight_36 hl (k := 4) rfl rfl (by decide) rfl (fun ls hl => ?_)
          refine lv_goto (tgt := 5) hx hb dX1_takersOfWeight_39 rfl ?_
          exact ih5 v1 v2 v3 (v4 + (1 : Int32)) _ _ _  hf (lv_sub hl [1, 2, 3, 4, 0] rfl) hP hS
        · have hf := b_n hf hc
          refine lv_iload_n hx hb dX1_takersOfWeight_29 rfl (lv_at hl 3 rfl) ?_
          refine lv_iconst (v := (1 : Int32)) hx hb dX1_takersOfWeight_30 rfl ?_
          refine lv_iload hx hb dX1_takersOfWeight_31 (lv_at hl 4 rfl) ?_
          refine lv_ishl hx hb dX1_takersOfWeight_33 ?_
          refine lv_ior hx hb dX1_takersOfWeight_34 ?_
          obtain ⟨y5, e_y5, hf⟩ := nm_i hf
          refine x_nmI e_y5 ?_
          refine lv_istore_n (lv' := [(3, .int y5), (0, .ref (ad 50 n0)), (1, .int v1), (2, .int v2), (4, .int v4)]) hx hb dX1_takersOfWeight_35 rfl hl (by decide) rfl (fun ls hl => ?_)
          refine lv_iinc (v := (v4 + (1 : Int32))) (lv' := [(4, .int (v4 + (1 : Int32))), (3, .int y5), (0, .ref (ad 50 n0)), (1, .int v1), (2, .int v2)]) hx hb dX1_takersOfWeight_36 hl (k := 4) rfl rfl (by decide) rfl (fun ls hl => ?_)
          refine lv_goto (tgt := 5) hx hb dX1_takersOfWeight_39 rfl ?_
          exact ih5 v1 v2 y5 (v4 + (1 : Int32)) _ _ _  hf (lv_sub hl [2, 3, 4, 1, 0] rfl) hP hS
  have c42 : ∀ (v3 : Int32) (H : Heap) (locs : List Loc) (ls : Array Slot), X1_takersOfWeight_c42 z n0 σ v3 = some res → lv_has ls 5 [(3, .int v3)] → va_P G vwCl (wld ad ca σ (LC z)) H → va_S A s.heap H locs → W p l e (headSpec wsX1_takersOfWeight ({ frames := 1, cells := 0, slots := 0, locals := 22 })).room s m (([.ref (ad 50 n0), .int x1, .int x2] : List Value).toArray) below meth c H locs 0 0 (MQ below (va_Qi (fun r' u => r' = res ∧ u = σ) (ctB G ad ca (LC z)) A) (([.ref (ad 50 n0), .int x1, .int x2] : List Value).toArray) s 0 0 A) (F0 m 42 ls []) := by
    intro v3 H locs ls hf hl hP hS
    unfold X1_takersOfWeight_c42 at hf
    refine lv_iload_n hx hb dX1_takersOfWeight_42 rfl (lv_at hl 0 rfl) ?_
    exact x_iret hx hb hr hlocks hK hP hS (Option.some.inj hf) rfl dX1_takersOfWeight_43
  refine lv_iconst (v := (0 : Int32)) hx hb dX1_takersOfWeight_0 rfl ?_
  refine lv_istore_n (lv' := [(3, .int (0 : Int32)), (0, .ref (ad 50 n0)), (1, .int x1), (2, .int x2)]) hx hb dX1_takersOfWeight_1 rfl hl (by decide) rfl (fun ls hl => ?_)
  refine lv_iconst (v := (0 : Int32)) hx hb dX1_takersOfWeight_2 rfl ?_
  refine lv_istore (lv' := [(4, .int (0 : Int32)), (3, .int (0 : Int32)), (0, .ref (ad 50 n0)), (1, .int x1), (2, .int x2)]) hx hb dX1_takersOfWeight_3 hl (by decide) rfl (fun ls hl => ?_)
  exact l5 _ c42 _ x1 x2 (0 : Int32) (0 : Int32) _ _ _  hf (lv_sub hl [2, 3, 4, 1, 0] rfl) hP hS
theorem h9_X0_findStarts : yX0_findStarts.cls = RX0 ∧ yX0_findStarts.cls ≠ "java/lang/invoke/MethodHandle" ∧ yX0_findStarts.cls ≠ "java/lang/invoke/VarHandle" ∧ (parseMethodDescriptor yX0_findStarts.desc).map (fun d => d.parameters.length) = some 2 := by decide +kernel
set_option maxRecDepth 100000 in
set_option maxHeartbeats 4000000 in
theorem t_X0_findStarts (l : Launch) (G : va_G) (ad : Nat → Nat → Nat) (ca : Nat → ClassId) (A : Nat → Prop) (z : Nat × Nat) (n0 : Nat) (n1 : Nat) (x2 : Int32) (hD : DW ad (LC z) A) (hn0 : n0 < 2) (hn1 : n1 < z.1) (σ : PS) (res : PS) (hf : X0_findStarts z n0 n1 x2 σ = some res) : Met l yX0_findStarts wsX0_findStarts ({ frames := 2, cells := 0, slots := 0, locals := 46 }) (ctP G ad ca (LC z) σ ZC [.ref (ad 0 n0), .ref (ad 50 n1), .int x2]) (va_Qv (fun u => u = res) (ctB G ad ca (LC z)) A) 0 0 A := by
  refine Met.ofW (cc := cX0_findStarts) (maxL := 5) (ret := none) (by decide) rfl ?_
  intro p e s m args below meth c s₁ B hml hv
  obtain ⟨rfl, hP, hK, hz⟩ := hv
  have hx := B.exec
  have hb := B.bytes
  have hr := B.returns
  have hts : ∀ w ∈ WW, w.before _ s = true := fun w h => atoms_spec (ws := wsX0_findStarts) B.pre w (List.mem_cons_of_mem _ h)
  have hown : s.vm.findClass RX0 = some m.cls := findClass_of_methodNamed B.named
  have hlocks := B.notSynchronized
  have hS : va_S A s.heap s.heap [] := va_S.rf
  have k_70 := hts _ kk_X0_70
  have k_94 := hts _ kk_X0_94
  have k_25 := hts _ kf_X0_25
  have k_28 := hts _ kf_X0_28
  have k_31 := hts _ kf_X0_31
  have k_75 := hts _ kf_X0_75
  have k_82 := hts _ kf_X0_82
  have k_88 := hts _ kf_X0_88
  have k_91 := hts _ kf_X0_91
  have hl := lv_entry ([.ref (ad 0 n0), .ref (ad 50 n1), .int x2]) (n := 5) (Nat.le_of_ble_eq_true rfl)
  rw [lg_entry_eq]
  generalize (lg_sl ([.ref (ad 0 n0), .ref (ad 50 n1), .int x2]) ++ List.replicate (5 - (lg_sl ([.ref (ad 0 n0), .ref (ad 50 n1), .int x2])).length) Slot.unset).toArray = ls at hl ⊢
  have hl : lv_has ls 5 [(0, .ref (ad 0 n0)), (1, .ref (ad 50 n1)), (2, .int x2)] := hl
  unfold X0_findStarts at hf
  have l13 : ∀ (kx13 : Nat → Int32 → PS → Option (PS)), (∀ (v1 : Nat) (v2 : Int32) (σ : PS) (H : Heap) (locs : List Loc) (ls : Array Slot), v1 < z.1 → kx13 v1 v2 σ = some res → lv_has ls 5 [(0, .ref (ad 0 n0)), (1, .ref (ad 50 v1)), (2, .int v2)] → va_P G vwCl (wld ad ca σ (LC z)) H → va_S A s.heap H locs → W p l e (headSpec wsX0_findStarts ({ frames := 2, cells := 0, slots := 0, locals := 46 })).room s m (([.ref (ad 0 n0), .ref (ad 50 n1), .int x2] : List Value).toArray) below meth c H locs 0 0 (MQ below (va_Qv (fun u => u = res) (ctB G ad ca (LC z)) A) (([.ref (ad 0 n0), .ref (ad 50 n1), .int x2] : List Value).toArray) s 0 0 A) (F0 m 83 ls [])) → ∀ (n13 : Nat) (v1 : Nat) (v2 : Int32) (v3 : Int32) (σ : PS) (H : Heap) (locs : List Loc) (ls : Array Slot), v1 < z.1 → X0_findStarts_l13 z n0 kx13 n13 v1 v2 v3 σ = some res → lv_has ls 5 [(0, .ref (ad 0 n0)), (1, .ref (ad 50 v1)), (2, .int v2), (3, .int v3)] → va_P G vwCl (wld ad ca σ (LC z)) H → va_S A s.heap H locs → W p l e (headSpec wsX0_findStarts ({ frames := 2, cells := 0, slots := 0, locals := 46 })).room s m (([.ref (ad 0 n0), .ref (ad 50 n1), .int x2] : List Value).toArray) below meth c H locs 0 0 (MQ below (va_Qv (fun u => u = res) (ctB G ad ca (LC z)) A) (([.ref (ad 0 n0), .ref (ad 50 n1), .int x2] : List Value).toArray) s 0 0 A) (F0 m 13 ls []) := by
    intro kx13 hx13 n13
    induction n13 with
    | zero =>
      intro v1 v2 v3 σ H locs ls h_v1 hf
      exact absurd hf (by simp [X0_findStarts_l13])
    | succ n13 ih13 =>
      intro v1 v2 v3 σ H locs ls h_v1 hf hl hP hS
      rw [X0_findStarts_l13.eq_2] at hf
      refine lv_iload_n hx hb dX0_findStarts_13 rfl (lv_at hl 3 rfl) ?_
      refine lv_aload_n hx hb dX0_findStarts_14 rfl (lv_at hl 1 rfl) ?_
      refine x_get (k := 50) (n := v1) hx hb hts i_X1 hown hK hP (mk_50 h_v1) rfl rfl 7 (by decide) rfl k_75 (v := .int (gI σ 50 v1 7)) rfl dX0_findStarts_15 ?_
      refine lv_icmp_ge (tgt := 83) hx hb dX0_findStarts_18 rfl (fun hc => ?_) (fun hc => ?_)
      · have hf := b_p hf hc
        exact hx13 v1 v2 σ _ _ _ h_v1 hf (lv_sub hl [0, 1, 2] rfl) hP hS
      · have hf := b_n hf hc
        refine lv_aload_n hx hb dX0_findStarts_21 rfl (lv_at hl 1 rfl) ?_
        refine lv_iload_n hx hb dX0_findStarts_22 rfl (lv_at hl 3 rfl) ?_
        obtain ⟨r3, hc3, hf⟩ := bd_e hf
        refine x_cq (va_runV (As := [.int v3]) (rest := []) ⟨hx, hb, hml, hown, hts⟩ (t_X1_laidAt l G ad ca A z v1 v3 hD h_v1 σ r3 hc3) (cwV 1 hts gr_X0_78 rfl rfl rfl h9_X1_laidAt ⟨Nat.le_of_ble_eq_true rfl, Nat.le_of_ble_eq_true rfl⟩) (x_prV zkC hz hK hP (mk_50 h_v1) rfl rfl) rfl rfl hl.1 rfl (lv_room (Nat.le_of_ble_eq_true rfl)) dX0_findStarts_23 ⟨Nat.le_of_ble_eq_true rfl, Nat.le_of_ble_eq_true rfl⟩) hS (fun H locs hP hS => ?_)
        refine x_astoreQ (lv' := [(4, va_rf (Option.map (ad 100) r3)), (0, .ref (ad 0 n0)), (1, .ref (ad 50 v1)), (2, .int v2), (3, .int v3)]) hx hb dX0_findStarts_26 hl (by decide) rfl (fun ls hl => ?_)
        refine x_aloadQ hx hb dX0_findStarts_28 (lv_at hl 0 rfl) ?_
        cases r3 with
        | none =>
          have hf := oc_n hf
          refine lv_ifnullN (tgt := 77) hx hb dX0_findStarts_30 rfl ?_
          refine lv_iinc (v := (v3 + (1 : Int32))) (lv' := [(3, .int (v3 + (1 : Int32))), (4, .null), (0, .ref (ad 0 n0)), (1, .ref (ad 50 v1)), (2, .int v2)]) hx hb dX0_findStarts_77 hl (k := 4) rfl rfl (by decide) rfl (fun ls hl => ?_)
          refine lv_goto (tgt := 13) hx hb dX0_findStarts_80 rfl ?_
          exact ih13 v1 v2 (v3 + (1 : Int32)) σ _ _ _ h_v1 hf (lv_sub hl [2, 3, 4, 0] rfl) hP hS
        | some q4 =>
          obtain ⟨h_q4, hf⟩ := oc_s hf
          refine lv_ifnull hx hb dX0_findStarts_30 ?_
          refine lv_aload hx hb dX0_findStarts_33 (lv_at hl 0 rfl) ?_
          refine x_get (k := 100) (n := q4) hx hb hts i_X2 hown hK hP (mk_100 h_q4) rfl rfl 4 (by decide) rfl k_82 (v := .int (gI σ 100 q4 4)) rfl dX0_findStarts_35 ?_
          refine lv_if_ne (tgt := 77) hx hb dX0_findStarts_38 rfl (fun hc => ?_) (fun hc => ?_)
          · have hf := b_n hf hc
            refine lv_iinc (v := (v3 + (1 : Int32))) (lv' := [(3, .int (v3 + (1 : Int32))), (4, .ref (ad 100 q4)), (0, .ref (ad 0 n0)), (1, .ref (ad 50 v1)), (2, .int v2)]) hx hb dX0_findStarts_77 hl (k := 4) rfl rfl (by decide) rfl (fun ls hl => ?_)
            refine lv_goto (tgt := 13) hx hb dX0_findStarts_80 rfl ?_
            exact ih13 v1 v2 (v3 + (1 : Int32)) σ _ _ _ h_v1 hf (lv_sub hl [2, 3, 4, 0] rfl) hP hS
          · have hf := b_p hf hc
            refine lv_aload_n hx hb dX0_findStarts_41 rfl (lv_at hl 1 rfl) ?_
            refine lv_aload hx hb dX0_findStarts_42 (lv_at hl 0 rfl) ?_
            refine x_get (k := 100) (n := q4) hx hb hts i_X2 hown hK hP (mk_100 h_q4) rfl rfl 6 (by decide) rfl k_88 (v := .ref (ad 107 q4)) rfl dX0_findStarts_44 ?_
            refine lv_iload_n hx hb dX0_findStarts_47 rfl (lv_at hl 3 rfl) ?_
            obtain ⟨g5, hf⟩ := gd_e hf
            refine x_iald (k := 107) (n := q4) hx hb hK hP (mk_107 h_q4) rfl g5 dX0_findStarts_48 ?_
            obtain ⟨σ6, hc6, hf⟩ := bd_e hf
            refine x_cv (va_runV (As := [.int (gI σ 107 q4 (ix v2))]) (rest := []) ⟨hx, hb, hml, hown, hts⟩ (t_X0_addStart l G ad ca A z n0 (gI σ 107 q4 (ix v2)) hD hn0 σ σ6 hc6) (cwV 1 hts gr_X0_71 rfl rfl rfl h9_X0_addStart ⟨Nat.le_of_ble_eq_true rfl, Nat.le_of_ble_eq_true rfl⟩) (x_prV zkC hz hK hP (mk_0 hn0) rfl rfl) rfl rfl hl.1 rfl (lv_room (Nat.le_of_ble_eq_true rfl)) dX0_findStarts_49 ⟨Nat.le_of_ble_eq_true rfl, Nat.le_of_ble_eq_true rfl⟩) hS (fun H locs hP hS => ?_)
            refine lv_aload hx hb dX0_findStarts_52 (lv_at hl 0 rfl) ?_
            refine x_get (k := 100) (n := q4) hx hb hts i_X2 hown hK hP (mk_100 h_q4) rfl rfl 7 (by decide) rfl k_91 (v := .ref (ad 108 q4)) rfl dX0_findStarts_54 ?_
            refine lv_iload_n hx hb dX0_findStarts_57 rfl (lv_at hl 3 rfl) ?_
            obtain ⟨g7, hf⟩ := gd_e hf
            refine x_iald (k := 108) (n := q4) hx hb hK hP (mk_108 h_q4) rfl g7 dX0_findStarts_58 ?_
            refine lv_ldc hx hb hown k_94 dX0_findStarts_59 ?_
            refine lv_icmp_ge (tgt := 77) hx hb dX0_findStarts_61 rfl (fun hc => ?_) (fun hc => ?_)
            · have hf := b_p hf hc
              refine lv_iinc (v := (v3 + (1 : Int32))) (lv' := [(3, .int (v3 + (1 : Int32))), (4, .ref (ad 100 q4)), (0, .ref (ad 0 n0)), (1, .ref (ad 50 v1)), (2, .int v2)]) hx hb dX0_findStarts_77 hl (k := 4) rfl rfl (by decide) rfl (fun ls hl => ?_)
              refine lv_goto (tgt := 13) hx hb dX0_findStarts_80 rfl ?_
              exact ih13 v1 v2 (v3 + (1 : Int32)) σ6 _ _ _ h_v1 hf (lv_sub hl [2, 3, 4, 0] rfl) hP hS
            · have hf := b_n hf hc
              refine lv_aload_n hx hb dX0_findStarts_64 rfl (lv_at hl 1 rfl) ?_
              refine lv_aload hx hb dX0_findStarts_65 (lv_at hl 0 rfl) ?_
              refine x_get (k := 100) (n := q4) hx hb hts i_X2 hown hK hP (mk_100 h_q4) rfl rfl 7 (by decide) rfl k_91 (v := .ref (ad 108 q4)) rfl dX0_findStarts_67 ?_
              refine lv_iload_n hx hb dX0_findStarts_70 rfl (lv_at hl 3 rfl) ?_
              obtain ⟨g8, hf⟩ := gd_e hf
              refine x_iald (k := 108) (n := q4) hx hb hK hP (mk_108 h_q4) rfl g8 dX0_findStarts_71 ?_
              refine lv_iconst (v := (1 : Int32)) hx hb dX0_findStarts_72 rfl ?_
              refine lv_iadd hx hb dX0_findStarts_73 ?_
              obtain ⟨σ9, hc9, hf⟩ := bd_e hf
              refine x_cv (va_runV (As := [.int ((gI σ6 108 q4 (ix v2)) + (1 : Int32))]) (rest := []) ⟨hx, hb, hml, hown, hts⟩ (t_X0_addStart l G ad ca A z n0 ((gI σ6 108 q4 (ix v2)) + (1 : Int32)) hD hn0 σ6 σ9 hc9) (cwV 1 hts gr_X0_71 rfl rfl rfl h9_X0_addStart ⟨Nat.le_of_ble_eq_true rfl, Nat.le_of_ble_eq_true rfl⟩) (x_prV zkC hz hK hP (mk_0 hn0) rfl rfl) rfl rfl hl.1 rfl (lv_room (Nat.le_of_ble_eq_true rfl)) dX0_findStarts_74 ⟨Nat.le_of_ble_eq_true rfl, Nat.le_of_ble_eq_true rfl⟩) hS (fun H locs hP hS => ?_)
              refine lv_iinc (v := (v3 + (1 : Int32))) (lv' := [(3, .int (v3 + (1 : Int32))), (4, .ref (ad 100 q4)), (0, .ref (ad 0 n0)), (1, .ref (ad 50 v1)), (2, .int v2)]) hx hb dX0_findStarts_77 hl (k := 4) rfl rfl (by decide) rfl (fun ls hl => ?_)
              refine lv_goto (tgt := 13) hx hb dX0_findStarts_80 rfl ?_
              exact ih13 v1 v2 (v3 + (1 : Int32)) σ9 _ _ _ h_v1 hf (lv_sub hl [2, 3, 4, 0] rfl) hP hS
  have l85 : ∀ (kx85 : PS → Option (PS)), (∀ (σ : PS) (H : Heap) (locs : List Loc) (ls : Array Slot), kx85 σ = some res → lv_has ls 5 [] → va_P G vwCl (wld ad ca σ (LC z)) H → va_S A s.heap H locs → W p l e (headSpec wsX0_findStarts ({ frames := 2, cells := 0, slots := 0, locals := 46 })).room s m (([.ref (ad 0 n0), .ref (ad 50 n1), .int x2] : List Value).toArray) below meth c H locs 0 0 (MQ below (va_Qv (fun u => u = res) (ctB G ad ca (LC z)) A) (([.ref (ad 0 n0), .ref (ad 50 n1), .int x2] : List Value).toArray) s 0 0 A) (F0 m 116 ls [])) → ∀ (n85 : Nat) (v1 : Nat) (v2 : Int32) (v3 : Int32) (σ : PS) (H : Heap) (locs : List Loc) (ls : Array Slot), v1 < z.1 → X0_findStarts_l85 z n0 kx85 n85 v1 v2 v3 σ = some res → lv_has ls 5 [(0, .ref (ad 0 n0)), (1, .ref (ad 50 v1)), (2, .int v2), (3, .int v3)] → va_P G vwCl (wld ad ca σ (LC z)) H → va_S A s.heap H locs → W p l e (headSpec wsX0_findStarts ({ frames := 2, cells := 0, slots := 0, locals := 46 })).room s m (([.ref (ad 0 n0), .ref (ad 50 n1), .int x2] : List Value).toArray) below meth c H locs 0 0 (MQ below (va_Qv (fun u => u = res) (ctB G ad ca (LC z)) A) (([.ref (ad 0 n0), .ref (ad 50 n1), .int x2] : List Value).toArray) s 0 0 A) (F0 m 85 ls []) := by
    intro kx85 hx85 n85
    induction n85 with
    | zero =>
      intro v1 v2 v3 σ H locs ls h_v1 hf
      exact absurd hf (by simp [X0_findStarts_l85])
    | succ n85 ih85 =>
      intro v1 v2 v3 σ H locs ls h_v1 hf hl hP hS
      rw [X0_findStarts_l85.eq_2] at hf
      refine lv_iload_n hx hb dX0_findStarts_85 rfl (lv_at hl 3 rfl) ?_
      refine lv_aload_n hx hb dX0_findStarts_86 rfl (lv_at hl 0 rfl) ?_
      refine x_get (k := 0) (n := n0) hx hb hts i_X0 hown hK hP (mk_0 hn0) rfl rfl 6 (by decide) rfl k_31 (v := .int (gI σ 0 n0 6)) rfl dX0_findStarts_87 ?_
      refine lv_icmp_ge (tgt := 116) hx hb dX0_findStarts_90 rfl (fun hc => ?_) (fun hc => ?_)
      · have hf := b_p hf hc
        exact hx85  σ _ _ _  hf (lv_sub hl [] rfl) hP hS
      · have hf := b_n hf hc
        refine lv_aload_n hx hb dX0_findStarts_93 rfl (lv_at hl 0 rfl) ?_
        refine x_get (k := 0) (n := n0) hx hb hts i_X0 hown hK hP (mk_0 hn0) rfl rfl 5 (by decide) rfl k_28 (v := .ref (ad 6 n0)) rfl dX0_findStarts_94 ?_
        refine lv_iload_n hx hb dX0_findStarts_97 rfl (lv_at hl 3 rfl) ?_
        refine lv_aload_n hx hb dX0_findStarts_98 rfl (lv_at hl 1 rfl) ?_
        refine lv_iload_n hx hb dX0_findStarts_99 rfl (lv_at hl 2 rfl) ?_
        refine lv_aload_n hx hb dX0_findStarts_100 rfl (lv_at hl 0 rfl) ?_
        refine x_get (k := 0) (n := n0) hx hb hts i_X0 hown hK hP (mk_0 hn0) rfl rfl 4 (by decide) rfl k_25 (v := .ref (ad 5 n0)) rfl dX0_findStarts_101 ?_
        refine lv_iload_n hx hb dX0_findStarts_104 rfl (lv_at hl 3 rfl) ?_
        obtain ⟨g10, hf⟩ := gd_e hf
        refine x_iald (k := 5) (n := n0) hx hb hK hP (mk_5 hn0) rfl g10 dX0_findStarts_105 ?_
        obtain ⟨r11, hc11, hf⟩ := bd_e hf
        refine x_ci (va_runV (As := [.int v2, .int (gI σ 5 n0 (ix v3))]) (rest := [.int v3, .ref (ad 6 n0)]) ⟨hx, hb, hml, hown, hts⟩ (t_X1_takersOfWeight l G ad ca A z v1 v2 (gI σ 5 n0 (ix v3)) hD h_v1 σ r11 hc11) (cwV 2 hts gr_X0_95 rfl rfl rfl h9_X1_takersOfWeight ⟨Nat.le_of_ble_eq_true rfl, Nat.le_of_ble_eq_true rfl⟩) (x_prV zkC hz hK hP (mk_50 h_v1) rfl rfl) rfl rfl hl.1 rfl (lv_room (Nat.le_of_ble_eq_true rfl)) dX0_findStarts_106 ⟨Nat.le_of_ble_eq_true rfl, Nat.le_of_ble_eq_true rfl⟩) hS (fun H locs hP hS => ?_)
        obtain ⟨g12, hf⟩ := gd_e hf
        refine x_iast (k := 6) (n := n0) hx hb hK hD hP hS (mk_6 hn0) rfl g12 dX0_findStarts_109 (fun H locs hP hS => ?_)
        obtain ⟨σ13, e_σ13, hf⟩ := nm_i hf
        have hP : va_P G vwCl (wld ad ca σ13 (LC z)) H := by rw [e_σ13]; exact hP
        refine lv_iinc (v := (v3 + (1 : Int32))) (lv' := [(3, .int (v3 + (1 : Int32))), (0, .ref (ad 0 n0)), (1, .ref (ad 50 v1)), (2, .int v2)]) hx hb dX0_findStarts_110 hl (k := 3) rfl rfl (by decide) rfl (fun ls hl => ?_)
        refine lv_goto (tgt := 85) hx hb dX0_findStarts_113 rfl ?_
        exact ih85 v1 v2 (v3 + (1 : Int32)) σ13 _ _ _ h_v1 hf (lv_sub hl [1, 2, 3, 0] rfl) hP hS
  have c116 : ∀ (σ : PS) (H : Heap) (locs : List Loc) (ls : Array Slot), X0_findStarts_c116 z n0  σ = some res → lv_has ls 5 [] → va_P G vwCl (wld ad ca σ (LC z)) H → va_S A s.heap H locs → W p l e (headSpec wsX0_findStarts ({ frames := 2, cells := 0, slots := 0, locals := 46 })).room s m (([.ref (ad 0 n0), .ref (ad 50 n1), .int x2] : List Value).toArray) below meth c H locs 0 0 (MQ below (va_Qv (fun u => u = res) (ctB G ad ca (LC z)) A) (([.ref (ad 0 n0), .ref (ad 50 n1), .int x2] : List Value).toArray) s 0 0 A) (F0 m 116 ls []) := by
    intro σ H locs ls hf hl hP hS
    unfold X0_findStarts_c116 at hf
    exact x_vret hx hb hr hlocks hK hP hS (Option.some.inj hf) dX0_findStarts_116
  have c83 : ∀ (v1 : Nat) (v2 : Int32) (σ : PS) (H : Heap) (locs : List Loc) (ls : Array Slot), v1 < z.1 → X0_findStarts_c83 z n0 v1 v2 σ = some res → lv_has ls 5 [(0, .ref (ad 0 n0)), (1, .ref (ad 50 v1)), (2, .int v2)] → va_P G vwCl (wld ad ca σ (LC z)) H → va_S A s.heap H locs → W p l e (headSpec wsX0_findStarts ({ frames := 2, cells := 0, slots := 0, locals := 46 })).room s m (([.ref (ad 0 n0), .ref (ad 50 n1), .int x2] : List Value).toArray) below meth c H locs 0 0 (MQ below (va_Qv (fun u => u = res) (ctB G ad ca (LC z)) A) (([.ref (ad 0 n0), .ref (ad 50 n1), .int x2] : List Value).toArray) s 0 0 A) (F0 m 83 ls []) := by
    intro v1 v2 σ H locs ls h_v1 hf hl hP hS
    unfold X0_findStarts_c83 at hf
    refine lv_iconst (v := (0 : Int32)) hx hb dX0_findStarts_83 rfl ?_
    refine lv_istore_n (lv' := [(3, .int (0 : Int32)), (0, .ref (ad 0 n0)), (1, .ref (ad 50 v1)), (2, .int v2)]) hx hb dX0_findStarts_84 rfl hl (by decide) rfl (fun ls hl => ?_)
    exact l85 _ c116 _ v1 v2 (0 : Int32) σ _ _ _ h_v1 hf (lv_sub hl [1, 2, 3, 0] rfl) hP hS
  refine lv_aload_n hx hb dX0_findStarts_0 rfl (lv_at hl 0 rfl) ?_
  refine lv_iconst (v := (0 : Int32)) hx hb dX0_findStarts_1 rfl ?_
  refine x_putI (k := 0) (n := n0) hx hb hts i_X0 tyX0 tyX0_ok nmX0 hown hK hD hP hS (mk_0 hn0) rfl rfl 6 (by decide) rfl k_31 rfl rfl rfl rfl dX0_findStarts_2 (fun H locs hP hS => ?_)
  obtain ⟨σ1, e_σ1, hf⟩ := nm_i hf
  have hP : va_P G vwCl (wld ad ca σ1 (LC z)) H := by rw [e_σ1]; exact hP
  refine lv_aload_n hx hb dX0_findStarts_5 rfl (lv_at hl 0 rfl) ?_
  refine lv_ldc hx hb hown k_70 dX0_findStarts_6 ?_
  obtain ⟨σ2, hc2, hf⟩ := bd_e hf
  refine x_cv (va_runV (As := [.int (-2147483648 : Int32)]) (rest := []) ⟨hx, hb, hml, hown, hts⟩ (t_X0_addStart l G ad ca A z n0 (-2147483648 : Int32) hD hn0 σ1 σ2 hc2) (cwV 1 hts gr_X0_71 rfl rfl rfl h9_X0_addStart ⟨Nat.le_of_ble_eq_true rfl, Nat.le_of_ble_eq_true rfl⟩) (x_prV zkC hz hK hP (mk_0 hn0) rfl rfl) rfl rfl hl.1 rfl (lv_room (Nat.le_of_ble_eq_true rfl)) dX0_findStarts_8 ⟨Nat.le_of_ble_eq_true rfl, Nat.le_of_ble_eq_true rfl⟩) hS (fun H locs hP hS => ?_)
  refine lv_iconst (v := (0 : Int32)) hx hb dX0_findStarts_11 rfl ?_
  refine lv_istore_n (lv' := [(3, .int (0 : Int32)), (0, .ref (ad 0 n0)), (1, .ref (ad 50 n1)), (2, .int x2)]) hx hb dX0_findStarts_12 rfl hl (by decide) rfl (fun ls hl => ?_)
  exact l13 _ c83 _ n1 x2 (0 : Int32) σ2 _ _ _ hn1 hf (lv_sub hl [1, 2, 3, 0] rfl) hP hS
theorem h9_X8_isAbstract : yX8_isAbstract.cls = RX8 ∧ yX8_isAbstract.cls ≠ "java/lang/invoke/MethodHandle" ∧ yX8_isAbstract.cls ≠ "java/lang/invoke/VarHandle" ∧ (parseMethodDescriptor yX8_isAbstract.desc).map (fun d => d.parameters.length) = some 1 := by decide +kernel
set_option maxRecDepth 100000 in
set_option maxHeartbeats 4000000 in
theorem t_X8_isAbstract (l : Launch) (G : va_G) (ad : Nat → Nat → Nat) (ca : Nat → ClassId) (A : Nat → Prop) (z : Nat × Nat)  (x1 : Int32) (hD : DW ad (LC z) A)  (σ : PS) (res : Int32) (hf : X8_isAbstract z  x1 σ = some res) : Met l yX8_isAbstract wsX8_isAbstract ({ frames := 0, cells := 0, slots := 0, locals := 0 }) (ctP G ad ca (LC z) σ ZC [.ref (ad 400 0), .int x1]) (va_Qi (fun r' u => r' = res ∧ u = σ) (ctB G ad ca (LC z)) A) 0 0 A := by
  refine Met.ofW (cc := cX8_isAbstract) (maxL := 2) (ret := (some .boolean)) (by decide) rfl ?_
  intro p e s m args below meth c s₁ B hml hv
  obtain ⟨rfl, hP, hK, hz⟩ := hv
  have hx := B.exec
  have hb := B.bytes
  have hr := B.returns
  have hts : ∀ w ∈ WW, w.before _ s = true := fun w h => atoms_spec (ws := wsX8_isAbstract) B.pre w (List.mem_cons_of_mem _ h)
  have hown : s.vm.findClass RX8 = some m.cls := findClass_of_methodNamed B.named
  have hlocks := B.notSynchronized
  have hS : va_S A s.heap s.heap [] := va_S.rf
  have k_21 := hts _ kf_X8_21
  have hl := lv_entry ([.ref (ad 400 0), .int x1]) (n := 2) (Nat.le_of_ble_eq_true rfl)
  rw [lg_entry_eq]
  generalize (lg_sl ([.ref (ad 400 0), .int x1]) ++ List.replicate (2 - (lg_sl ([.ref (ad 400 0), .int x1])).length) Slot.unset).toArray = ls at hl ⊢
  have hl : lv_has ls 2 [(0, .ref (ad 400 0)), (1, .int x1)] := hl
  unfold X8_isAbstract at hf
  refine lv_aload_n hx hb dX8_isAbstract_0 rfl (lv_at hl 0 rfl) ?_
  refine x_get (k := 400) (n := 0) hx hb hts i_X8 hown hK hP (mk_400 h01) rfl rfl 3 (by decide) rfl k_21 (v := .int (gI σ 400 0 3)) rfl dX8_isAbstract_1 ?_
  refine lv_iconst (v := (1 : Int32)) hx hb dX8_isAbstract_4 rfl ?_
  refine lv_iload_n hx hb dX8_isAbstract_5 rfl (lv_at hl 1 rfl) ?_
  refine lv_ishl hx hb dX8_isAbstract_6 ?_
  refine lv_iand hx hb dX8_isAbstract_7 ?_
  refine lv_if_eq (tgt := 15) hx hb dX8_isAbstract_8 rfl (fun hc => ?_) (fun hc => ?_)
  · have hf := b_p hf hc
    refine lv_iconst (v := (0 : Int32)) hx hb dX8_isAbstract_15 rfl ?_
    exact x_zret hx hb hr hlocks hK hP hS (by decide) (Option.some.inj hf) rfl dX8_isAbstract_16
  · have hf := b_n hf hc
    refine lv_iconst (v := (1 : Int32)) hx hb dX8_isAbstract_11 rfl ?_
    refine lv_goto (tgt := 16) hx hb dX8_isAbstract_12 rfl ?_
    exact x_zret hx hb hr hlocks hK hP hS (by decide) (Option.some.inj hf) rfl dX8_isAbstract_16
theorem h9_X8_isBelow : yX8_isBelow.cls = RX8 ∧ yX8_isBelow.cls ≠ "java/lang/invoke/MethodHandle" ∧ yX8_isBelow.cls ≠ "java/lang/invoke/VarHandle" ∧ (parseMethodDescriptor yX8_isBelow.desc).map (fun d => d.parameters.length) = some 2 := by decide +kernel
set_option maxRecDepth 100000 in
set_option maxHeartbeats 4000000 in
theorem t_X8_isBelow (l : Launch) (G : va_G) (ad : Nat → Nat → Nat) (ca : Nat → ClassId) (A : Nat → Prop) (z : Nat × Nat)  (x1 : Int32) (x2 : Int32) (hD : DW ad (LC z) A)  (σ : PS) (res : Int32) (hf : X8_isBelow z  x1 x2 σ = some res) : Met l yX8_isBelow wsX8_isBelow ({ frames := 0, cells := 0, slots := 0, locals := 0 }) (ctP G ad ca (LC z) σ ZC [.ref (ad 400 0), .int x1, .int x2]) (va_Qi (fun r' u => r' = res ∧ u = σ) (ctB G ad ca (LC z)) A) 0 0 A := by
  refine Met.ofW (cc := cX8_isBelow) (maxL := 3) (ret := (some .boolean)) (by decide) rfl ?_
  intro p e s m args below meth c s₁ B hml hv
  obtain ⟨rfl, hP, hK, hz⟩ := hv
  have hx := B.exec
  have hb := B.bytes
  have hr := B.returns
  have hts : ∀ w ∈ WW, w.before _ s = true := fun w h => atoms_spec (ws := wsX8_isBelow) B.pre w (List.mem_cons_of_mem _ h)
  have hown : s.vm.findClass RX8 = some m.cls := findClass_of_methodNamed B.named
  have hlocks := B.notSynchronized
  have hS : va_S A s.heap s.heap [] := va_S.rf
  have k_18 := hts _ kf_X8_18
  have hl := lv_entry ([.ref (ad 400 0), .int x1, .int x2]) (n := 3) (Nat.le_of_ble_eq_true rfl)
  rw [lg_entry_eq]
  generalize (lg_sl ([.ref (ad 400 0), .int x1, .int x2]) ++ List.replicate (3 - (lg_sl ([.ref (ad 400 0), .int x1, .int x2])).length) Slot.unset).toArray = ls at hl ⊢
  have hl : lv_has ls 3 [(0, .ref (ad 400 0)), (1, .int x1), (2, .int x2)] := hl
  unfold X8_isBelow at hf
  refine lv_iload_n hx hb dX8_isBelow_0 rfl (lv_at hl 1 rfl) ?_
  refine lv_iload_n hx hb dX8_isBelow_1 rfl (lv_at hl 2 rfl) ?_
  refine lv_icmp_eq (tgt := 18) hx hb dX8_isBelow_2 rfl (fun hc => ?_) (fun hc => ?_)
  · have hf := b_p hf hc
    refine lv_iconst (v := (1 : Int32)) hx hb dX8_isBelow_18 rfl ?_
    refine lv_goto (tgt := 23) hx hb dX8_isBelow_19 rfl ?_
    exact x_zret hx hb hr hlocks hK hP hS (by decide) (Option.some.inj hf) rfl dX8_isBelow_23
  · have hf := b_n hf hc
    refine lv_aload_n hx hb dX8_isBelow_5 rfl (lv_at hl 0 rfl) ?_
    refine x_get (k := 400) (n := 0) hx hb hts i_X8 hown hK hP (mk_400 h01) rfl rfl 2 (by decide) rfl k_18 (v := .ref (ad 403 0)) rfl dX8_isBelow_6 ?_
    refine lv_iload_n hx hb dX8_isBelow_9 rfl (lv_at hl 1 rfl) ?_
    obtain ⟨g1, hf⟩ := gd_e hf
    refine x_iald (k := 403) (n := 0) hx hb hK hP (mk_403 h01) rfl g1 dX8_isBelow_10 ?_
    refine lv_iconst (v := (1 : Int32)) hx hb dX8_isBelow_11 rfl ?_
    refine lv_iload_n hx hb dX8_isBelow_12 rfl (lv_at hl 2 rfl) ?_
    refine lv_ishl hx hb dX8_isBelow_13 ?_
    refine lv_iand hx hb dX8_isBelow_14 ?_
    refine lv_if_eq (tgt := 22) hx hb dX8_isBelow_15 rfl (fun hc => ?_) (fun hc => ?_)
    · have hf := b_p hf hc
      refine lv_iconst (v := (0 : Int32)) hx hb dX8_isBelow_22 rfl ?_
      exact x_zret hx hb hr hlocks hK hP hS (by decide) (Option.some.inj hf) rfl dX8_isBelow_23
    · have hf := b_n hf hc
      refine lv_iconst (v := (1 : Int32)) hx hb dX8_isBelow_18 rfl ?_
      refine lv_goto (tgt := 23) hx hb dX8_isBelow_19 rfl ?_
      exact x_zret hx hb hr hlocks hK hP hS (by decide) (Option.some.inj hf) rfl dX8_isBelow_23
theorem h9_X2_takesClass : yX2_takesClass.cls = RX2 ∧ yX2_takesClass.cls ≠ "java/lang/invoke/MethodHandle" ∧ yX2_takesClass.cls ≠ "java/lang/invoke/VarHandle" ∧ (parseMethodDescriptor yX2_takesClass.desc).map (fun d => d.parameters.length) = some 2 := by decide +kernel
set_option maxRecDepth 100000 in
set_option maxHeartbeats 4000000 in
theorem t_X2_takesClass (l : Launch) (G : va_G) (ad : Nat → Nat → Nat) (ca : Nat → ClassId) (A : Nat → Prop) (z : Nat × Nat) (n0 : Nat) (x1 : Int32) (x2 : Int32) (hD : DW ad (LC z) A) (hn0 : n0 < z.2) (σ : PS) (res : Int32) (hf : X2_takesClass z n0 x1 x2 σ = some res) : Met l yX2_takesClass wsX2_takesClass ({ frames := 1, cells := 0, slots := 0, locals := 22 }) (ctP G ad ca (LC z) σ ZC [.ref (ad 100 n0), .int x1, .int x2]) (va_Qi (fun r' u => r' = res ∧ u = σ) (ctB G ad ca (LC z)) A) 0 0 A := by
  refine Met.ofW (cc := cX2_takesClass) (maxL := 3) (ret := (some .boolean)) (by decide) rfl ?_
  intro p e s m args below meth c s₁ B hml hv
  obtain ⟨rfl, hP, hK, hz⟩ := hv
  have hx := B.exec
  have hb := B.bytes
  have hr := B.returns
  have hts : ∀ w ∈ WW, w.before _ s = true := fun w h => atoms_spec (ws := wsX2_takesClass) B.pre w (List.mem_cons_of_mem _ h)
  have hown : s.vm.findClass RX2 = some m.cls := findClass_of_methodNamed B.named
  have hlocks := B.notSynchronized
  have hS : va_S A s.heap s.heap [] := va_S.rf
  have k_15 := hts _ kf_X2_15
  have k_37 := hts _ kf_X2_37
  have k_57 := hts _ kf_X2_57
  have hl := lv_entry ([.ref (ad 100 n0), .int x1, .int x2]) (n := 3) (Nat.le_of_ble_eq_true rfl)
  rw [lg_entry_eq]
  generalize (lg_sl ([.ref (ad 100 n0), .int x1, .int x2]) ++ List.replicate (3 - (lg_sl ([.ref (ad 100 n0), .int x1, .int x2])).length) Slot.unset).toArray = ls at hl ⊢
  have hl : lv_has ls 3 [(0, .ref (ad 100 n0)), (1, .int x1), (2, .int x2)] := hl
  unfold X2_takesClass at hf
  refine lv_aload_n hx hb dX2_takesClass_0 rfl (lv_at hl 0 rfl) ?_
  refine x_get (k := 100) (n := n0) hx hb hts i_X2 hown hK hP (mk_100 hn0) rfl rfl 5 (by decide) rfl k_37 (v := .ref (ad 106 n0)) rfl dX2_takesClass_1 ?_
  refine lv_iload_n hx hb dX2_takesClass_4 rfl (lv_at hl 1 rfl) ?_
  obtain ⟨g1, hf⟩ := gd_e hf
  refine x_iald (k := 106) (n := n0) hx hb hK hP (mk_106 hn0) rfl g1 dX2_takesClass_5 ?_
  refine lv_iconst (v := (-1 : Int32)) hx hb dX2_takesClass_6 rfl ?_
  refine lv_icmp_eq (tgt := 30) hx hb dX2_takesClass_7 rfl (fun hc => ?_) (fun hc => ?_)
  · have hf := b_p hf hc
    refine lv_iconst (v := (1 : Int32)) hx hb dX2_takesClass_30 rfl ?_
    refine lv_goto (tgt := 35) hx hb dX2_takesClass_31 rfl ?_
    exact x_zret hx hb hr hlocks hK hP hS (by decide) (Option.some.inj hf) rfl dX2_takesClass_35
  · have hf := b_n hf hc
    refine lv_aload_n hx hb dX2_takesClass_10 rfl (lv_at hl 0 rfl) ?_
    obtain ⟨q2, e_q2, h_q2, hf⟩ := dr_e hf
    refine x_get (k := 100) (n := n0) hx hb hts i_X2 hown hK hP (mk_100 hn0) rfl rfl 0 (by decide) rfl k_15 (v := .ref (ad 50 q2)) (show va_rf (Option.map (ad 50) (gR σ 100 n0 0)) = _ by rw [e_q2]; rfl) dX2_takesClass_11 ?_
    refine x_get (k := 50) (n := q2) hx hb hts i_X1 hown hK hP (mk_50 h_q2) rfl rfl 0 (by decide) rfl k_57 (v := .ref (ad 400 0)) rfl dX2_takesClass_14 ?_
    refine lv_iload_n hx hb dX2_takesClass_17 rfl (lv_at hl 2 rfl) ?_
    refine lv_aload_n hx hb dX2_takesClass_18 rfl (lv_at hl 0 rfl) ?_
    refine x_get (k := 100) (n := n0) hx hb hts i_X2 hown hK hP (mk_100 hn0) rfl rfl 5 (by decide) rfl k_37 (v := .ref (ad 106 n0)) rfl dX2_takesClass_19 ?_
    refine lv_iload_n hx hb dX2_takesClass_22 rfl (lv_at hl 1 rfl) ?_
    obtain ⟨g3, hf⟩ := gd_e hf
    refine x_iald (k := 106) (n := n0) hx hb hK hP (mk_106 hn0) rfl g3 dX2_takesClass_23 ?_
    obtain ⟨r4, hc4, hf⟩ := bd_e hf
    refine x_ci (va_runV (As := [.int x2, .int (gI σ 106 n0 (ix x1))]) (rest := []) ⟨hx, hb, hml, hown, hts⟩ (t_X8_isBelow l G ad ca A z x2 (gI σ 106 n0 (ix x1)) hD  σ r4 hc4) (cwV 2 hts gr_X2_61 rfl rfl rfl h9_X8_isBelow ⟨Nat.le_of_ble_eq_true rfl, Nat.le_of_ble_eq_true rfl⟩) (x_prV zkC hz hK hP (mk_400 h01) rfl rfl) rfl rfl hl.1 rfl (lv_room (Nat.le_of_ble_eq_true rfl)) dX2_takesClass_24 ⟨Nat.le_of_ble_eq_true rfl, Nat.le_of_ble_eq_true rfl⟩) hS (fun H locs hP hS => ?_)
    refine lv_if_eq (tgt := 34) hx hb dX2_takesClass_27 rfl (fun hc => ?_) (fun hc => ?_)
    · have hf := b_p hf hc
      refine lv_iconst (v := (0 : Int32)) hx hb dX2_takesClass_34 rfl ?_
      exact x_zret hx hb hr hlocks hK hP hS (by decide) (Option.some.inj hf) rfl dX2_takesClass_35
    · have hf := b_n hf hc
      refine lv_iconst (v := (1 : Int32)) hx hb dX2_takesClass_30 rfl ?_
      refine lv_goto (tgt := 35) hx hb dX2_takesClass_31 rfl ?_
      exact x_zret hx hb hr hlocks hK hP hS (by decide) (Option.some.inj hf) rfl dX2_takesClass_35
theorem h9_X1_takersOfClass : yX1_takersOfClass.cls = RX1 ∧ yX1_takersOfClass.cls ≠ "java/lang/invoke/MethodHandle" ∧ yX1_takersOfClass.cls ≠ "java/lang/invoke/VarHandle" ∧ (parseMethodDescriptor yX1_takersOfClass.desc).map (fun d => d.parameters.length) = some 2 := by decide +kernel
set_option maxRecDepth 100000 in
set_option maxHeartbeats 4000000 in
theorem t_X1_takersOfClass (l : Launch) (G : va_G) (ad : Nat → Nat → Nat) (ca : Nat → ClassId) (A : Nat → Prop) (z : Nat × Nat) (n0 : Nat) (x1 : Int32) (x2 : Int32) (hD : DW ad (LC z) A) (hn0 : n0 < z.1) (σ : PS) (res : Int32) (hf : X1_takersOfClass z n0 x1 x2 σ = some res) : Met l yX1_takersOfClass wsX1_takersOfClass ({ frames := 2, cells := 0, slots := 0, locals := 44 }) (ctP G ad ca (LC z) σ ZC [.ref (ad 50 n0), .int x1, .int x2]) (va_Qi (fun r' u => r' = res ∧ u = σ) (ctB G ad ca (LC z)) A) 0 0 A := by
  refine Met.ofW (cc := cX1_takersOfClass) (maxL := 5) (ret := (some .int)) (by decide) rfl ?_
  intro p e s m args below meth c s₁ B hml hv
  obtain ⟨rfl, hP, hK, hz⟩ := hv
  have hx := B.exec
  have hb := B.bytes
  have hr := B.returns
  have hts : ∀ w ∈ WW, w.before _ s = true := fun w h => atoms_spec (ws := wsX1_takersOfClass) B.pre w (List.mem_cons_of_mem _ h)
  have hown : s.vm.findClass RX1 = some m.cls := findClass_of_methodNamed B.named
  have hlocks := B.notSynchronized
  have hS : va_S A s.heap s.heap [] := va_S.rf
  have k_24 := hts _ kf_X1_24
  have k_31 := hts _ kf_X1_31
  have hl := lv_entry ([.ref (ad 50 n0), .int x1, .int x2]) (n := 5) (Nat.le_of_ble_eq_true rfl)
  rw [lg_entry_eq]
  generalize (lg_sl ([.ref (ad 50 n0), .int x1, .int x2]) ++ List.replicate (5 - (lg_sl ([.ref (ad 50 n0), .int x1, .int x2])).length) Slot.unset).toArray = ls at hl ⊢
  have hl : lv_has ls 5 [(0, .ref (ad 50 n0)), (1, .int x1), (2, .int x2)] := hl
  unfold X1_takersOfClass at hf
  have l5 : ∀ (kx5 : Int32 → Option (Int32)), (∀ (v3 : Int32) (H : Heap) (locs : List Loc) (ls : Array Slot), kx5 v3 = some res → lv_has ls 5 [(3, .int v3)] → va_P G vwCl (wld ad ca σ (LC z)) H → va_S A s.heap H locs → W p l e (headSpec wsX1_takersOfClass ({ frames := 2, cells := 0, slots := 0, locals := 44 })).room s m (([.ref (ad 50 n0), .int x1, .int x2] : List Value).toArray) below meth c H locs 0 0 (MQ below (va_Qi (fun r' u => r' = res ∧ u = σ) (ctB G ad ca (LC z)) A) (([.ref (ad 50 n0), .int x1, .int x2] : List Value).toArray) s 0 0 A) (F0 m 42 ls [])) → ∀ (n5 : Nat) (v1 : Int32) (v2 : Int32) (v3 : Int32) (v4 : Int32) (H : Heap) (locs : List Loc) (ls : Array Slot), X1_takersOfClass_l5 z n0 σ kx5 n5 v1 v2 v3 v4 = some res → lv_has ls 5 [(0, .ref (ad 50 n0)), (1, .int v1), (2, .int v2), (3, .int v3), (4, .int v4)] → va_P G vwCl (wld ad ca σ (LC z)) H → va_S A s.heap H locs → W p l e (headSpec wsX1_takersOfClass ({ frames := 2, cells := 0, slots := 0, locals := 44 })).room s m (([.ref (ad 50 n0), .int x1, .int x2] : List Value).toArray) below meth c H locs 0 0 (MQ below (va_Qi (fun r' u => r' = res ∧ u = σ) (ctB G ad ca (LC z)) A) (([.ref (ad 50 n0), .int x1, .int x2] : List Value).toArray) s 0 0 A) (F0 m 5 ls []) := by
    intro kx5 hx5 n5
    induction n5 with
    | zero =>
      intro v1 v2 v3 v4 H locs ls hf
      exact absurd hf (by simp [X1_takersOfClass_l5])
    | succ n5 ih5 =>
      intro v1 v2 v3 v4 H locs ls hf hl hP hS
      rw [X1_takersOfClass_l5.eq_2] at hf
      refine lv_iload hx hb dX1_takersOfClass_5 (lv_at hl 4 rfl) ?_
      refine lv_aload_n hx hb dX1_takersOfClass_7 rfl (lv_at hl 0 rfl) ?_
      refine x_get (k := 50) (n := n0) hx hb hts i_X1 hown hK hP (mk_50 hn0) rfl rfl 7 (by decide) rfl k_31 (v := .int (gI σ 50 n0 7)) rfl dX1_takersOfClass_8 ?_
      refine lv_icmp_ge (tgt := 42) hx hb dX1_takersOfClass_11 rfl (fun hc => ?_) (fun hc => ?_)
      · have hf := b_p hf hc
        exact hx5 v3 _ _ _  hf (lv_sub hl [3] rfl) hP hS
      · have hf := b_n hf hc
        refine lv_aload_n hx hb dX1_takersOfClass_14 rfl (lv_at hl 0 rfl) ?_
        refine x_get (k := 50) (n := n0) hx hb hts i_X1 hown hK hP (mk_50 hn0) rfl rfl 5 (by decide) rfl k_24 (v := .ref (ad 56 n0)) rfl dX1_takersOfClass_15 ?_
        refine lv_iload hx hb dX1_takersOfClass_18 (lv_at hl 4 rfl) ?_
        obtain ⟨g1, hf⟩ := gd_e hf
        obtain ⟨o2, e_o2, hf⟩ := nm_i hf
        refine x_aald (k := 56) (n := n0) (t := 100) hx hb hK hP (mk_56 hn0) (by decide) g1 dX1_takersOfClass_20 e_o2 ?_
        refine lv_iload_n hx hb dX1_takersOfClass_21 rfl (lv_at hl 1 rfl) ?_
        refine lv_iload_n hx hb dX1_takersOfClass_22 rfl (lv_at hl 2 rfl) ?_
        obtain ⟨q3, e_q3, h_q3, hf9⟩ := dr_e hf
        clear hf
        subst e_q3
        have hf := hf9
        clear hf9
        obtain ⟨r4, hc4, hf⟩ := bd_e hf
        refine x_ci (va_runV (As := [.int v1, .int v2]) (rest := []) ⟨hx, hb, hml, hown, hts⟩ (t_X2_takesClass l G ad ca A z q3 v1 v2 hD h_q3 σ r4 hc4) (cwV 2 hts gr_X1_102 rfl rfl rfl h9_X2_takesClass ⟨Nat.le_of_ble_eq_true rfl, Nat.le_of_ble_eq_true rfl⟩) (x_prV zkC hz hK hP (mk_100 h_q3) rfl rfl) rfl rfl hl.1 rfl (lv_room (Nat.le_of_ble_eq_true rfl)) dX1_takersOfClass_23 ⟨Nat.le_of_ble_eq_true rfl, Nat.le_of_ble_eq_true rfl⟩) hS (fun H locs hP hS => ?_)
        refine lv_if_eq (tgt := 36) hx hb dX1_takersOfClass_26 rfl (fun hc => ?_) (fun hc => ?_)
        · have hf := b_p hf hc
          refine lv_iinc (v := (v4 + (1 : Int32))) (lv' := [(4, .int (v4 + (1 : Int32))), (0, .ref (ad 50 n0)), (1, .int v1), (2, .int v2), (3, .int v3)]) hx hb dX1_takersOfClass_36 hl (k := 4) rfl rfl (by decide) rfl (fun ls hl => ?_)
          refine lv_goto (tgt := 5) hx hb dX1_takersOfClass_39 rfl ?_
          exact ih5 v1 v2 v3 (v4 + (1 : Int32)) _ _ _  hf (lv_sub hl [1, 2, 3, 4, 0] rfl) hP hS
        · have hf := b_n hf hc
          refine lv_iload_n hx hb dX1_takersOfClass_29 rfl (lv_at hl 3 rfl) ?_
          refine lv_iconst (v := (1 : Int32)) hx hb dX1_takersOfClass_30 rfl ?_
          refine lv_iload hx hb dX1_takersOfClass_31 (lv_at hl 4 rfl) ?_
          refine lv_ishl hx hb dX1_takersOfClass_33 ?_
          refine lv_ior hx hb dX1_takersOfClass_34 ?_
          obtain ⟨y5, e_y5, hf⟩ := nm_i hf
          refine x_nmI e_y5 ?_
          refine lv_istore_n (lv' := [(3, .int y5), (0, .ref (ad 50 n0)), (1, .int v1), (2, .int v2), (4, .int v4)]) hx hb dX1_takersOfClass_35 rfl hl (by decide) rfl (fun ls hl => ?_)
          refine lv_iinc (v := (v4 + (1 : Int32))) (lv' := [(4, .int (v4 + (1 : Int32))), (3, .int y5), (0, .ref (ad 50 n0)), (1, .int v1), (2, .int v2)]) hx hb dX1_takersOfClass_36 hl (k := 4) rfl rfl (by decide) rfl (fun ls hl => ?_)
          refine lv_goto (tgt := 5) hx hb dX1_takersOfClass_39 rfl ?_
          exact ih5 v1 v2 y5 (v4 + (1 : Int32)) _ _ _  hf (lv_sub hl [2, 3, 4, 1, 0] rfl) hP hS
  have c42 : ∀ (v3 : Int32) (H : Heap) (locs : List Loc) (ls : Array Slot), X1_takersOfClass_c42 z n0 σ v3 = some res → lv_has ls 5 [(3, .int v3)] → va_P G vwCl (wld ad ca σ (LC z)) H → va_S A s.heap H locs → W p l e (headSpec wsX1_takersOfClass ({ frames := 2, cells := 0, slots := 0, locals := 44 })).room s m (([.ref (ad 50 n0), .int x1, .int x2] : List Value).toArray) below meth c H locs 0 0 (MQ below (va_Qi (fun r' u => r' = res ∧ u = σ) (ctB G ad ca (LC z)) A) (([.ref (ad 50 n0), .int x1, .int x2] : List Value).toArray) s 0 0 A) (F0 m 42 ls []) := by
    intro v3 H locs ls hf hl hP hS
    unfold X1_takersOfClass_c42 at hf
    refine lv_iload_n hx hb dX1_takersOfClass_42 rfl (lv_at hl 0 rfl) ?_
    exact x_iret hx hb hr hlocks hK hP hS (Option.some.inj hf) rfl dX1_takersOfClass_43
  refine lv_iconst (v := (0 : Int32)) hx hb dX1_takersOfClass_0 rfl ?_
  refine lv_istore_n (lv' := [(3, .int (0 : Int32)), (0, .ref (ad 50 n0)), (1, .int x1), (2, .int x2)]) hx hb dX1_takersOfClass_1 rfl hl (by decide) rfl (fun ls hl => ?_)
  refine lv_iconst (v := (0 : Int32)) hx hb dX1_takersOfClass_2 rfl ?_
  refine lv_istore (lv' := [(4, .int (0 : Int32)), (3, .int (0 : Int32)), (0, .ref (ad 50 n0)), (1, .int x1), (2, .int x2)]) hx hb dX1_takersOfClass_3 hl (by decide) rfl (fun ls hl => ?_)
  exact l5 _ c42 _ x1 x2 (0 : Int32) (0 : Int32) _ _ _  hf (lv_sub hl [2, 3, 4, 1, 0] rfl) hP hS
theorem h9_X0_addClass : yX0_addClass.cls = RX0 ∧ yX0_addClass.cls ≠ "java/lang/invoke/MethodHandle" ∧ yX0_addClass.cls ≠ "java/lang/invoke/VarHandle" ∧ (parseMethodDescriptor yX0_addClass.desc).map (fun d => d.parameters.length) = some 2 := by decide +kernel
set_option maxRecDepth 100000 in
set_option maxHeartbeats 4000000 in
theorem t_X0_addClass (l : Launch) (G : va_G) (ad : Nat → Nat → Nat) (ca : Nat → ClassId) (A : Nat → Prop) (z : Nat × Nat) (n0 : Nat) (x1 : Int32) (x2 : Int32) (hD : DW ad (LC z) A) (hn0 : n0 < 2) (σ : PS) (res : PS) (hf : X0_addClass z n0 x1 x2 σ = some res) : Met l yX0_addClass wsX0_addClass ({ frames := 1, cells := 0, slots := 0, locals := 24 }) (ctP G ad ca (LC z) σ ZC [.ref (ad 0 n0), .int x1, .int x2]) (va_Qv (fun u => u = res) (ctB G ad ca (LC z)) A) 0 0 A := by
  refine Met.ofW (cc := cX0_addClass) (maxL := 4) (ret := none) (by decide) rfl ?_
  intro p e s m args below meth c s₁ B hml hv
  obtain ⟨rfl, hP, hK, hz⟩ := hv
  have hx := B.exec
  have hb := B.bytes
  have hr := B.returns
  have hts : ∀ w ∈ WW, w.before _ s = true := fun w h => atoms_spec (ws := wsX0_addClass) B.pre w (List.mem_cons_of_mem _ h)
  have hown : s.vm.findClass RX0 = some m.cls := findClass_of_methodNamed B.named
  have hlocks := B.notSynchronized
  have hS : va_S A s.heap s.heap [] := va_S.rf
  have k_25 := hts _ kf_X0_25
  have k_28 := hts _ kf_X0_28
  have k_31 := hts _ kf_X0_31
  have hl := lv_entry ([.ref (ad 0 n0), .int x1, .int x2]) (n := 4) (Nat.le_of_ble_eq_true rfl)
  rw [lg_entry_eq]
  generalize (lg_sl ([.ref (ad 0 n0), .int x1, .int x2]) ++ List.replicate (4 - (lg_sl ([.ref (ad 0 n0), .int x1, .int x2])).length) Slot.unset).toArray = ls at hl ⊢
  have hl : lv_has ls 4 [(0, .ref (ad 0 n0)), (1, .int x1), (2, .int x2)] := hl
  unfold X0_addClass at hf
  have l2 : ∀ (kx2 : PS → Option (PS)), (∀ (σ : PS) (H : Heap) (locs : List Loc) (ls : Array Slot), kx2 σ = some res → lv_has ls 4 [] → va_P G vwCl (wld ad ca σ (LC z)) H → va_S A s.heap H locs → W p l e (headSpec wsX0_addClass ({ frames := 1, cells := 0, slots := 0, locals := 24 })).room s m (([.ref (ad 0 n0), .int x1, .int x2] : List Value).toArray) below meth c H locs 0 0 (MQ below (va_Qv (fun u => u = res) (ctB G ad ca (LC z)) A) (([.ref (ad 0 n0), .int x1, .int x2] : List Value).toArray) s 0 0 A) (F0 m 35 ls [])) → ∀ (n2 : Nat) (v1 : Int32) (v2 : Int32) (v3 : Int32) (σ : PS) (H : Heap) (locs : List Loc) (ls : Array Slot), X0_addClass_l2 z n0 kx2 n2 v1 v2 v3 σ = some res → lv_has ls 4 [(0, .ref (ad 0 n0)), (1, .int v1), (2, .int v2), (3, .int v3)] → va_P G vwCl (wld ad ca σ (LC z)) H → va_S A s.heap H locs → W p l e (headSpec wsX0_addClass ({ frames := 1, cells := 0, slots := 0, locals := 24 })).room s m (([.ref (ad 0 n0), .int x1, .int x2] : List Value).toArray) below meth c H locs 0 0 (MQ below (va_Qv (fun u => u = res) (ctB G ad ca (LC z)) A) (([.ref (ad 0 n0), .int x1, .int x2] : List Value).toArray) s 0 0 A) (F0 m 2 ls []) := by
    intro kx2 hx2 n2
    induction n2 with
    | zero =>
      intro v1 v2 v3 σ H locs ls hf
      exact absurd hf (by simp [X0_addClass_l2])
    | succ n2 ih2 =>
      intro v1 v2 v3 σ H locs ls hf hl hP hS
      rw [X0_addClass_l2.eq_2] at hf
      refine lv_iload_n hx hb dX0_addClass_2 rfl (lv_at hl 3 rfl) ?_
      refine lv_aload_n hx hb dX0_addClass_3 rfl (lv_at hl 0 rfl) ?_
      refine x_get (k := 0) (n := n0) hx hb hts i_X0 hown hK hP (mk_0 hn0) rfl rfl 6 (by decide) rfl k_31 (v := .int (gI σ 0 n0 6)) rfl dX0_addClass_4 ?_
      refine lv_icmp_ge (tgt := 35) hx hb dX0_addClass_7 rfl (fun hc => ?_) (fun hc => ?_)
      · have hf := b_p hf hc
        exact hx2  σ _ _ _  hf (lv_sub hl [] rfl) hP hS
      · have hf := b_n hf hc
        refine lv_aload_n hx hb dX0_addClass_10 rfl (lv_at hl 0 rfl) ?_
        refine lv_iload_n hx hb dX0_addClass_11 rfl (lv_at hl 1 rfl) ?_
        refine lv_aload_n hx hb dX0_addClass_12 rfl (lv_at hl 0 rfl) ?_
        refine x_get (k := 0) (n := n0) hx hb hts i_X0 hown hK hP (mk_0 hn0) rfl rfl 4 (by decide) rfl k_25 (v := .ref (ad 5 n0)) rfl dX0_addClass_13 ?_
        refine lv_iload_n hx hb dX0_addClass_16 rfl (lv_at hl 3 rfl) ?_
        obtain ⟨g1, hf⟩ := gd_e hf
        refine x_iald (k := 5) (n := n0) hx hb hK hP (mk_5 hn0) rfl g1 dX0_addClass_17 ?_
        refine lv_iload_n hx hb dX0_addClass_18 rfl (lv_at hl 2 rfl) ?_
        refine lv_aload_n hx hb dX0_addClass_19 rfl (lv_at hl 0 rfl) ?_
        refine x_get (k := 0) (n := n0) hx hb hts i_X0 hown hK hP (mk_0 hn0) rfl rfl 5 (by decide) rfl k_28 (v := .ref (ad 6 n0)) rfl dX0_addClass_20 ?_
        refine lv_iload_n hx hb dX0_addClass_23 rfl (lv_at hl 3 rfl) ?_
        obtain ⟨g2, hf⟩ := gd_e hf
        refine x_iald (k := 6) (n := n0) hx hb hK hP (mk_6 hn0) rfl g2 dX0_addClass_24 ?_
        refine lv_iand hx hb dX0_addClass_25 ?_
        obtain ⟨σ3, hc3, hf⟩ := bd_e hf
        refine x_cv (va_runV (As := [.int v1, .int (gI σ 5 n0 (ix v3)), .int (v2 &&& (gI σ 6 n0 (ix v3)))]) (rest := []) ⟨hx, hb, hml, hown, hts⟩ (t_X0_addNew l G ad ca A z n0 v1 (gI σ 5 n0 (ix v3)) (v2 &&& (gI σ 6 n0 (ix v3))) hD hn0 σ σ3 hc3) (cwV 3 hts gr_X0_43 rfl rfl rfl h9_X0_addNew ⟨Nat.le_of_ble_eq_true rfl, Nat.le_of_ble_eq_true rfl⟩) (x_prV zkC hz hK hP (mk_0 hn0) rfl rfl) rfl rfl hl.1 rfl (lv_room (Nat.le_of_ble_eq_true rfl)) dX0_addClass_26 ⟨Nat.le_of_ble_eq_true rfl, Nat.le_of_ble_eq_true rfl⟩) hS (fun H locs hP hS => ?_)
        refine lv_iinc (v := (v3 + (1 : Int32))) (lv' := [(3, .int (v3 + (1 : Int32))), (0, .ref (ad 0 n0)), (1, .int v1), (2, .int v2)]) hx hb dX0_addClass_29 hl (k := 3) rfl rfl (by decide) rfl (fun ls hl => ?_)
        refine lv_goto (tgt := 2) hx hb dX0_addClass_32 rfl ?_
        exact ih2 v1 v2 (v3 + (1 : Int32)) σ3 _ _ _  hf (lv_sub hl [1, 2, 3, 0] rfl) hP hS
  have c35 : ∀ (σ : PS) (H : Heap) (locs : List Loc) (ls : Array Slot), X0_addClass_c35 z n0  σ = some res → lv_has ls 4 [] → va_P G vwCl (wld ad ca σ (LC z)) H → va_S A s.heap H locs → W p l e (headSpec wsX0_addClass ({ frames := 1, cells := 0, slots := 0, locals := 24 })).room s m (([.ref (ad 0 n0), .int x1, .int x2] : List Value).toArray) below meth c H locs 0 0 (MQ below (va_Qv (fun u => u = res) (ctB G ad ca (LC z)) A) (([.ref (ad 0 n0), .int x1, .int x2] : List Value).toArray) s 0 0 A) (F0 m 35 ls []) := by
    intro σ H locs ls hf hl hP hS
    unfold X0_addClass_c35 at hf
    exact x_vret hx hb hr hlocks hK hP hS (Option.some.inj hf) dX0_addClass_35
  refine lv_iconst (v := (0 : Int32)) hx hb dX0_addClass_0 rfl ?_
  refine lv_istore_n (lv' := [(3, .int (0 : Int32)), (0, .ref (ad 0 n0)), (1, .int x1), (2, .int x2)]) hx hb dX0_addClass_1 rfl hl (by decide) rfl (fun ls hl => ?_)
  exact l2 _ c35 _ x1 x2 (0 : Int32) σ _ _ _  hf (lv_sub hl [1, 2, 3, 0] rfl) hP hS
theorem h9_X0_fill : yX0_fill.cls = RX0 ∧ yX0_fill.cls ≠ "java/lang/invoke/MethodHandle" ∧ yX0_fill.cls ≠ "java/lang/invoke/VarHandle" ∧ (parseMethodDescriptor yX0_fill.desc).map (fun d => d.parameters.length) = some 2 := by decide +kernel
set_option maxRecDepth 100000 in
set_option maxHeartbeats 4000000 in
theorem t_X0_fill (l : Launch) (G : va_G) (ad : Nat → Nat → Nat) (ca : Nat → ClassId) (A : Nat → Prop) (z : Nat × Nat) (n0 : Nat) (n1 : Nat) (x2 : Int32) (hD : DW ad (LC z) A) (hn0 : n0 < 2) (hn1 : n1 < z.1) (σ : PS) (res : PS) (hf : X0_fill z n0 n1 x2 σ = some res) : Met l yX0_fill wsX0_fill ({ frames := 3, cells := 0, slots := 0, locals := 70 }) (ctP G ad ca (LC z) σ ZC [.ref (ad 0 n0), .ref (ad 50 n1), .int x2]) (va_Qv (fun u => u = res) (ctB G ad ca (LC z)) A) 0 0 A := by
  refine Met.ofW (cc := cX0_fill) (maxL := 4) (ret := none) (by decide) rfl ?_
  intro p e s m args below meth c s₁ B hml hv
  obtain ⟨rfl, hP, hK, hz⟩ := hv
  have hx := B.exec
  have hb := B.bytes
  have hr := B.returns
  have hts : ∀ w ∈ WW, w.before _ s = true := fun w h => atoms_spec (ws := wsX0_fill) B.pre w (List.mem_cons_of_mem _ h)
  have hown : s.vm.findClass RX0 = some m.cls := findClass_of_methodNamed B.named
  have hlocks := B.notSynchronized
  have hS : va_S A s.heap s.heap [] := va_S.rf
  have k_21 := hts _ kf_X0_21
  have k_40 := hts _ kf_X0_40
  have k_51 := hts _ kf_X0_51
  have hl := lv_entry ([.ref (ad 0 n0), .ref (ad 50 n1), .int x2]) (n := 4) (Nat.le_of_ble_eq_true rfl)
  rw [lg_entry_eq]
  generalize (lg_sl ([.ref (ad 0 n0), .ref (ad 50 n1), .int x2]) ++ List.replicate (4 - (lg_sl ([.ref (ad 0 n0), .ref (ad 50 n1), .int x2])).length) Slot.unset).toArray = ls at hl ⊢
  have hl : lv_has ls 4 [(0, .ref (ad 0 n0)), (1, .ref (ad 50 n1)), (2, .int x2)] := hl
  unfold X0_fill at hf
  have l32 : ∀ (kx32 : PS → Option (PS)), (∀ (σ : PS) (H : Heap) (locs : List Loc) (ls : Array Slot), kx32 σ = some res → lv_has ls 4 [] → va_P G vwCl (wld ad ca σ (LC z)) H → va_S A s.heap H locs → W p l e (headSpec wsX0_fill ({ frames := 3, cells := 0, slots := 0, locals := 70 })).room s m (([.ref (ad 0 n0), .ref (ad 50 n1), .int x2] : List Value).toArray) below meth c H locs 0 0 (MQ below (va_Qv (fun u => u = res) (ctB G ad ca (LC z)) A) (([.ref (ad 0 n0), .ref (ad 50 n1), .int x2] : List Value).toArray) s 0 0 A) (F0 m 71 ls [])) → ∀ (n32 : Nat) (v1 : Nat) (v2 : Int32) (v3 : Int32) (σ : PS) (H : Heap) (locs : List Loc) (ls : Array Slot), v1 < z.1 → X0_fill_l32 z n0 kx32 n32 v1 v2 v3 σ = some res → lv_has ls 4 [(0, .ref (ad 0 n0)), (1, .ref (ad 50 v1)), (2, .int v2), (3, .int v3)] → va_P G vwCl (wld ad ca σ (LC z)) H → va_S A s.heap H locs → W p l e (headSpec wsX0_fill ({ frames := 3, cells := 0, slots := 0, locals := 70 })).room s m (([.ref (ad 0 n0), .ref (ad 50 n1), .int x2] : List Value).toArray) below meth c H locs 0 0 (MQ below (va_Qv (fun u => u = res) (ctB G ad ca (LC z)) A) (([.ref (ad 0 n0), .ref (ad 50 n1), .int x2] : List Value).toArray) s 0 0 A) (F0 m 32 ls []) := by
    intro kx32 hx32 n32
    induction n32 with
    | zero =>
      intro v1 v2 v3 σ H locs ls h_v1 hf
      exact absurd hf (by simp [X0_fill_l32])
    | succ n32 ih32 =>
      intro v1 v2 v3 σ H locs ls h_v1 hf hl hP hS
      rw [X0_fill_l32.eq_2] at hf
      refine lv_iload_n hx hb dX0_fill_32 rfl (lv_at hl 3 rfl) ?_
      refine lv_bipush (v := (12 : Int32)) hx hb dX0_fill_33 rfl ?_
      refine lv_icmp_ge (tgt := 71) hx hb dX0_fill_35 rfl (fun hc => ?_) (fun hc => ?_)
      · have hf := b_p hf hc
        exact hx32  σ _ _ _  hf (lv_sub hl [] rfl) hP hS
      · have hf := b_n hf hc
        refine lv_aload_n hx hb dX0_fill_38 rfl (lv_at hl 1 rfl) ?_
        refine x_get (k := 50) (n := v1) hx hb hts i_X1 hown hK hP (mk_50 h_v1) rfl rfl 0 (by decide) rfl k_51 (v := .ref (ad 400 0)) rfl dX0_fill_39 ?_
        refine lv_iload_n hx hb dX0_fill_42 rfl (lv_at hl 3 rfl) ?_
        obtain ⟨r4, hc4, hf⟩ := bd_e hf
        refine x_ci (va_runV (As := [.int v3]) (rest := []) ⟨hx, hb, hml, hown, hts⟩ (t_X8_isAbstract l G ad ca A z v3 hD  σ r4 hc4) (cwV 1 hts gr_X0_55 rfl rfl rfl h9_X8_isAbstract ⟨Nat.le_of_ble_eq_true rfl, Nat.le_of_ble_eq_true rfl⟩) (x_prV zkC hz hK hP (mk_400 h01) rfl rfl) rfl rfl hl.1 rfl (lv_room (Nat.le_of_ble_eq_true rfl)) dX0_fill_43 ⟨Nat.le_of_ble_eq_true rfl, Nat.le_of_ble_eq_true rfl⟩) hS (fun H locs hP hS => ?_)
        refine lv_if_ne (tgt := 65) hx hb dX0_fill_46 rfl (fun hc => ?_) (fun hc => ?_)
        · have hf := b_n hf hc
          refine lv_iinc (v := (v3 + (1 : Int32))) (lv' := [(3, .int (v3 + (1 : Int32))), (0, .ref (ad 0 n0)), (1, .ref (ad 50 v1)), (2, .int v2)]) hx hb dX0_fill_65 hl (k := 3) rfl rfl (by decide) rfl (fun ls hl => ?_)
          refine lv_goto (tgt := 32) hx hb dX0_fill_68 rfl ?_
          exact ih32 v1 v2 (v3 + (1 : Int32)) σ _ _ _ h_v1 hf (lv_sub hl [1, 2, 3, 0] rfl) hP hS
        · have hf := b_p hf hc
          refine lv_aload_n hx hb dX0_fill_49 rfl (lv_at hl 0 rfl) ?_
          refine lv_iload_n hx hb dX0_fill_50 rfl (lv_at hl 3 rfl) ?_
          refine lv_aload_n hx hb dX0_fill_51 rfl (lv_at hl 1 rfl) ?_
          refine lv_iload_n hx hb dX0_fill_52 rfl (lv_at hl 2 rfl) ?_
          refine lv_iload_n hx hb dX0_fill_53 rfl (lv_at hl 3 rfl) ?_
          obtain ⟨r5, hc5, hf⟩ := bd_e hf
          refine x_ci (va_runV (As := [.int v2, .int v3]) (rest := [.int v3, .ref (ad 0 n0)]) ⟨hx, hb, hml, hown, hts⟩ (t_X1_takersOfClass l G ad ca A z v1 v2 v3 hD h_v1 σ r5 hc5) (cwV 2 hts gr_X0_60 rfl rfl rfl h9_X1_takersOfClass ⟨Nat.le_of_ble_eq_true rfl, Nat.le_of_ble_eq_true rfl⟩) (x_prV zkC hz hK hP (mk_50 h_v1) rfl rfl) rfl rfl hl.1 rfl (lv_room (Nat.le_of_ble_eq_true rfl)) dX0_fill_54 ⟨Nat.le_of_ble_eq_true rfl, Nat.le_of_ble_eq_true rfl⟩) hS (fun H locs hP hS => ?_)
          refine lv_aload_n hx hb dX0_fill_57 rfl (lv_at hl 1 rfl) ?_
          refine x_get (k := 50) (n := v1) hx hb hts i_X1 hown hK hP (mk_50 h_v1) rfl rfl 8 (by decide) rfl k_40 (v := .int (gI σ 50 v1 8)) rfl dX0_fill_58 ?_
          refine lv_iand hx hb dX0_fill_61 ?_
          obtain ⟨σ6, hc6, hf⟩ := bd_e hf
          refine x_cv (va_runV (As := [.int v3, .int (r5 &&& (gI σ 50 v1 8))]) (rest := []) ⟨hx, hb, hml, hown, hts⟩ (t_X0_addClass l G ad ca A z n0 v3 (r5 &&& (gI σ 50 v1 8)) hD hn0 σ σ6 hc6) (cwV 2 hts gr_X0_64 rfl rfl rfl h9_X0_addClass ⟨Nat.le_of_ble_eq_true rfl, Nat.le_of_ble_eq_true rfl⟩) (x_prV zkC hz hK hP (mk_0 hn0) rfl rfl) rfl rfl hl.1 rfl (lv_room (Nat.le_of_ble_eq_true rfl)) dX0_fill_62 ⟨Nat.le_of_ble_eq_true rfl, Nat.le_of_ble_eq_true rfl⟩) hS (fun H locs hP hS => ?_)
          refine lv_iinc (v := (v3 + (1 : Int32))) (lv' := [(3, .int (v3 + (1 : Int32))), (0, .ref (ad 0 n0)), (1, .ref (ad 50 v1)), (2, .int v2)]) hx hb dX0_fill_65 hl (k := 3) rfl rfl (by decide) rfl (fun ls hl => ?_)
          refine lv_goto (tgt := 32) hx hb dX0_fill_68 rfl ?_
          exact ih32 v1 v2 (v3 + (1 : Int32)) σ6 _ _ _ h_v1 hf (lv_sub hl [1, 2, 3, 0] rfl) hP hS
  have c71 : ∀ (σ : PS) (H : Heap) (locs : List Loc) (ls : Array Slot), X0_fill_c71 z n0  σ = some res → lv_has ls 4 [] → va_P G vwCl (wld ad ca σ (LC z)) H → va_S A s.heap H locs → W p l e (headSpec wsX0_fill ({ frames := 3, cells := 0, slots := 0, locals := 70 })).room s m (([.ref (ad 0 n0), .ref (ad 50 n1), .int x2] : List Value).toArray) below meth c H locs 0 0 (MQ below (va_Qv (fun u => u = res) (ctB G ad ca (LC z)) A) (([.ref (ad 0 n0), .ref (ad 50 n1), .int x2] : List Value).toArray) s 0 0 A) (F0 m 71 ls []) := by
    intro σ H locs ls hf hl hP hS
    unfold X0_fill_c71 at hf
    exact x_vret hx hb hr hlocks hK hP hS (Option.some.inj hf) dX0_fill_71
  refine lv_aload_n hx hb dX0_fill_0 rfl (lv_at hl 0 rfl) ?_
  refine lv_iconst (v := (0 : Int32)) hx hb dX0_fill_1 rfl ?_
  refine x_putI (k := 0) (n := n0) hx hb hts i_X0 tyX0 tyX0_ok nmX0 hown hK hD hP hS (mk_0 hn0) rfl rfl 3 (by decide) rfl k_21 rfl rfl rfl rfl dX0_fill_2 (fun H locs hP hS => ?_)
  obtain ⟨σ1, e_σ1, hf⟩ := nm_i hf
  have hP : va_P G vwCl (wld ad ca σ1 (LC z)) H := by rw [e_σ1]; exact hP
  refine lv_aload_n hx hb dX0_fill_5 rfl (lv_at hl 1 rfl) ?_
  refine lv_iload_n hx hb dX0_fill_6 rfl (lv_at hl 2 rfl) ?_
  obtain ⟨r2, hc2, hf⟩ := bd_e hf
  refine x_ci (va_runV (As := [.int x2]) (rest := []) ⟨hx, hb, hml, hown, hts⟩ (t_X1_hasPlace l G ad ca A z n1 x2 hD hn1 σ1 r2 hc2) (cwV 1 hts gr_X0_34 rfl rfl rfl h9_X1_hasPlace ⟨Nat.le_of_ble_eq_true rfl, Nat.le_of_ble_eq_true rfl⟩) (x_prV zkC hz hK hP (mk_50 hn1) rfl rfl) rfl rfl hl.1 rfl (lv_room (Nat.le_of_ble_eq_true rfl)) dX0_fill_7 ⟨Nat.le_of_ble_eq_true rfl, Nat.le_of_ble_eq_true rfl⟩) hS (fun H locs hP hS => ?_)
  refine lv_if_ne (tgt := 24) hx hb dX0_fill_10 rfl (fun hc => ?_) (fun hc => ?_)
  · have hf := b_n hf hc
    refine lv_aload_n hx hb dX0_fill_24 rfl (lv_at hl 0 rfl) ?_
    refine lv_aload_n hx hb dX0_fill_25 rfl (lv_at hl 1 rfl) ?_
    refine lv_iload_n hx hb dX0_fill_26 rfl (lv_at hl 2 rfl) ?_
    obtain ⟨σ3, hc3, hf⟩ := bd_e hf
    refine x_cv (va_runV (As := [.ref (ad 50 n1), .int x2]) (rest := []) ⟨hx, hb, hml, hown, hts⟩ (t_X0_findStarts l G ad ca A z n0 n1 x2 hD hn0 hn1 σ1 σ3 hc3) (cwV 2 hts gr_X0_47 rfl rfl rfl h9_X0_findStarts ⟨Nat.le_of_ble_eq_true rfl, Nat.le_of_ble_eq_true rfl⟩) (x_prV zkC hz hK hP (mk_0 hn0) rfl rfl) rfl rfl hl.1 rfl (lv_room (Nat.le_of_ble_eq_true rfl)) dX0_fill_27 ⟨Nat.le_of_ble_eq_true rfl, Nat.le_of_ble_eq_true rfl⟩) hS (fun H locs hP hS => ?_)
    refine lv_iconst (v := (0 : Int32)) hx hb dX0_fill_30 rfl ?_
    refine lv_istore_n (lv' := [(3, .int (0 : Int32)), (0, .ref (ad 0 n0)), (1, .ref (ad 50 n1)), (2, .int x2)]) hx hb dX0_fill_31 rfl hl (by decide) rfl (fun ls hl => ?_)
    exact l32 _ c71 _ n1 x2 (0 : Int32) σ3 _ _ _ hn1 hf (lv_sub hl [1, 2, 3, 0] rfl) hP hS
  · have hf := b_p hf hc
    refine lv_aload_n hx hb dX0_fill_13 rfl (lv_at hl 0 rfl) ?_
    refine lv_iconst (v := (0 : Int32)) hx hb dX0_fill_14 rfl ?_
    refine lv_iconst (v := (0 : Int32)) hx hb dX0_fill_15 rfl ?_
    refine lv_aload_n hx hb dX0_fill_16 rfl (lv_at hl 1 rfl) ?_
    refine x_get (k := 50) (n := n1) hx hb hts i_X1 hown hK hP (mk_50 hn1) rfl rfl 8 (by decide) rfl k_40 (v := .int (gI σ1 50 n1 8)) rfl dX0_fill_17 ?_
    obtain ⟨σ7, hc7, hf⟩ := bd_e hf
    refine x_cv (va_runV (As := [.int (0 : Int32), .int (0 : Int32), .int (gI σ1 50 n1 8)]) (rest := []) ⟨hx, hb, hml, hown, hts⟩ (t_X0_addNew l G ad ca A z n0 (0 : Int32) (0 : Int32) (gI σ1 50 n1 8) hD hn0 σ1 σ7 hc7) (cwV 3 hts gr_X0_43 rfl rfl rfl h9_X0_addNew ⟨Nat.le_of_ble_eq_true rfl, Nat.le_of_ble_eq_true rfl⟩) (x_prV zkC hz hK hP (mk_0 hn0) rfl rfl) rfl rfl hl.1 rfl (lv_room (Nat.le_of_ble_eq_true rfl)) dX0_fill_20 ⟨Nat.le_of_ble_eq_true rfl, Nat.le_of_ble_eq_true rfl⟩) hS (fun H locs hP hS => ?_)
    exact x_vret hx hb hr hlocks hK hP hS (Option.some.inj hf) dX0_fill_23
theorem h9_X1_numberAt : yX1_numberAt.cls = RX1 ∧ yX1_numberAt.cls ≠ "java/lang/invoke/MethodHandle" ∧ yX1_numberAt.cls ≠ "java/lang/invoke/VarHandle" ∧ (parseMethodDescriptor yX1_numberAt.desc).map (fun d => d.parameters.length) = some 1 := by decide +kernel
set_option maxRecDepth 100000 in
set_option maxHeartbeats 4000000 in
theorem t_X1_numberAt (l : Launch) (G : va_G) (ad : Nat → Nat → Nat) (ca : Nat → ClassId) (A : Nat → Prop) (z : Nat × Nat) (n0 : Nat) (x1 : Int32) (hD : DW ad (LC z) A) (hn0 : n0 < z.1) (σ : PS) (res : Int32) (hf : X1_numberAt z n0 x1 σ = some res) : Met l yX1_numberAt wsX1_numberAt ({ frames := 1, cells := 0, slots := 0, locals := 21 }) (ctP G ad ca (LC z) σ ZC [.ref (ad 50 n0), .int x1]) (va_Qi (fun r' u => r' = res ∧ u = σ) (ctB G ad ca (LC z)) A) 0 0 A := by
  refine Met.ofW (cc := cX1_numberAt) (maxL := 3) (ret := (some .int)) (by decide) rfl ?_
  intro p e s m args below meth c s₁ B hml hv
  obtain ⟨rfl, hP, hK, hz⟩ := hv
  have hx := B.exec
  have hb := B.bytes
  have hr := B.returns
  have hts : ∀ w ∈ WW, w.before _ s = true := fun w h => atoms_spec (ws := wsX1_numberAt) B.pre w (List.mem_cons_of_mem _ h)
  have hown : s.vm.findClass RX1 = some m.cls := findClass_of_methodNamed B.named
  have hlocks := B.notSynchronized
  have hS : va_S A s.heap s.heap [] := va_S.rf
  have k_56 := hts _ kf_X1_56
  have hl := lv_entry ([.ref (ad 50 n0), .int x1]) (n := 3) (Nat.le_of_ble_eq_true rfl)
  rw [lg_entry_eq]
  generalize (lg_sl ([.ref (ad 50 n0), .int x1]) ++ List.replicate (3 - (lg_sl ([.ref (ad 50 n0), .int x1])).length) Slot.unset).toArray = ls at hl ⊢
  have hl : lv_has ls 3 [(0, .ref (ad 50 n0)), (1, .int x1)] := hl
  unfold X1_numberAt at hf
  refine lv_aload_n hx hb dX1_numberAt_0 rfl (lv_at hl 0 rfl) ?_
  refine lv_iload_n hx hb dX1_numberAt_1 rfl (lv_at hl 1 rfl) ?_
  obtain ⟨r1, hc1, hf⟩ := bd_e hf
  refine x_cq (va_runV (As := [.int x1]) (rest := []) ⟨hx, hb, hml, hown, hts⟩ (t_X1_laidAt l G ad ca A z n0 x1 hD hn0 σ r1 hc1) (cwV 1 hts gr_X1_52 rfl rfl rfl h9_X1_laidAt ⟨Nat.le_of_ble_eq_true rfl, Nat.le_of_ble_eq_true rfl⟩) (x_prV zkC hz hK hP (mk_50 hn0) rfl rfl) rfl rfl hl.1 rfl (lv_room (Nat.le_of_ble_eq_true rfl)) dX1_numberAt_2 ⟨Nat.le_of_ble_eq_true rfl, Nat.le_of_ble_eq_true rfl⟩) hS (fun H locs hP hS => ?_)
  refine x_astore_nQ (lv' := [(2, va_rf (Option.map (ad 100) r1)), (0, .ref (ad 50 n0)), (1, .int x1)]) hx hb dX1_numberAt_5 rfl hl (by decide) rfl (fun ls hl => ?_)
  refine x_aload_nQ hx hb dX1_numberAt_6 rfl (lv_at hl 0 rfl) ?_
  cases r1 with
  | none =>
    have hf := oc_n hf
    refine lv_ifnonnullN hx hb dX1_numberAt_7 ?_
    refine lv_iconst (v := (-1 : Int32)) hx hb dX1_numberAt_10 rfl ?_
    refine lv_goto (tgt := 18) hx hb dX1_numberAt_11 rfl ?_
    exact x_iret hx hb hr hlocks hK hP hS (Option.some.inj hf) rfl dX1_numberAt_18
  | some q2 =>
    obtain ⟨h_q2, hf⟩ := oc_s hf
    refine lv_ifnonnull (tgt := 14) hx hb dX1_numberAt_7 rfl ?_
    refine lv_aload_n hx hb dX1_numberAt_14 rfl (lv_at hl 0 rfl) ?_
    refine x_get (k := 100) (n := q2) hx hb hts i_X2 hown hK hP (mk_100 h_q2) rfl rfl 1 (by decide) rfl k_56 (v := .int (gI σ 100 q2 1)) rfl dX1_numberAt_15 ?_
    exact x_iret hx hb hr hlocks hK hP hS (Option.some.inj hf) rfl dX1_numberAt_18
theorem h9_X1_indexOf : yX1_indexOf.cls = RX1 ∧ yX1_indexOf.cls ≠ "java/lang/invoke/MethodHandle" ∧ yX1_indexOf.cls ≠ "java/lang/invoke/VarHandle" ∧ (parseMethodDescriptor yX1_indexOf.desc).map (fun d => d.parameters.length) = some 1 := by decide +kernel
set_option maxRecDepth 100000 in
set_option maxHeartbeats 4000000 in
theorem t_X1_indexOf (l : Launch) (G : va_G) (ad : Nat → Nat → Nat) (ca : Nat → ClassId) (A : Nat → Prop) (z : Nat × Nat) (n0 : Nat) (n1 : Nat) (hD : DW ad (LC z) A) (hn0 : n0 < z.1) (hn1 : n1 < z.2) (σ : PS) (res : Int32) (hf : X1_indexOf z n0 n1 σ = some res) : Met l yX1_indexOf wsX1_indexOf ({ frames := 0, cells := 0, slots := 0, locals := 0 }) (ctP G ad ca (LC z) σ ZC [.ref (ad 50 n0), .ref (ad 100 n1)]) (va_Qi (fun r' u => r' = res ∧ u = σ) (ctB G ad ca (LC z)) A) 0 0 A := by
  refine Met.ofW (cc := cX1_indexOf) (maxL := 3) (ret := (some .int)) (by decide) rfl ?_
  intro p e s m args below meth c s₁ B hml hv
  obtain ⟨rfl, hP, hK, hz⟩ := hv
  have hx := B.exec
  have hb := B.bytes
  have hr := B.returns
  have hts : ∀ w ∈ WW, w.before _ s = true := fun w h => atoms_spec (ws := wsX1_indexOf) B.pre w (List.mem_cons_of_mem _ h)
  have hown : s.vm.findClass RX1 = some m.cls := findClass_of_methodNamed B.named
  have hlocks := B.notSynchronized
  have hS : va_S A s.heap s.heap [] := va_S.rf
  have k_24 := hts _ kf_X1_24
  have k_31 := hts _ kf_X1_31
  have k_56 := hts _ kf_X1_56
  have hl := lv_entry ([.ref (ad 50 n0), .ref (ad 100 n1)]) (n := 3) (Nat.le_of_ble_eq_true rfl)
  rw [lg_entry_eq]
  generalize (lg_sl ([.ref (ad 50 n0), .ref (ad 100 n1)]) ++ List.replicate (3 - (lg_sl ([.ref (ad 50 n0), .ref (ad 100 n1)])).length) Slot.unset).toArray = ls at hl ⊢
  have hl : lv_has ls 3 [(0, .ref (ad 50 n0)), (1, .ref (ad 100 n1))] := hl
  unfold X1_indexOf at hf
  have l2 : ∀ (kx2 : Option (Int32)), (∀ (H : Heap) (locs : List Loc) (ls : Array Slot), kx2 = some res → lv_has ls 3 [] → va_P G vwCl (wld ad ca σ (LC z)) H → va_S A s.heap H locs → W p l e (headSpec wsX1_indexOf ({ frames := 0, cells := 0, slots := 0, locals := 0 })).room s m (([.ref (ad 50 n0), .ref (ad 100 n1)] : List Value).toArray) below meth c H locs 0 0 (MQ below (va_Qi (fun r' u => r' = res ∧ u = σ) (ctB G ad ca (LC z)) A) (([.ref (ad 50 n0), .ref (ad 100 n1)] : List Value).toArray) s 0 0 A) (F0 m 34 ls [])) → ∀ (n2 : Nat) (v1 : Nat) (v2 : Int32) (H : Heap) (locs : List Loc) (ls : Array Slot), v1 < z.2 → X1_indexOf_l2 z n0 σ kx2 n2 v1 v2 = some res → lv_has ls 3 [(0, .ref (ad 50 n0)), (1, .ref (ad 100 v1)), (2, .int v2)] → va_P G vwCl (wld ad ca σ (LC z)) H → va_S A s.heap H locs → W p l e (headSpec wsX1_indexOf ({ frames := 0, cells := 0, slots := 0, locals := 0 })).room s m (([.ref (ad 50 n0), .ref (ad 100 n1)] : List Value).toArray) below meth c H locs 0 0 (MQ below (va_Qi (fun r' u => r' = res ∧ u = σ) (ctB G ad ca (LC z)) A) (([.ref (ad 50 n0), .ref (ad 100 n1)] : List Value).toArray) s 0 0 A) (F0 m 2 ls []) := by
    intro kx2 hx2 n2
    induction n2 with
    | zero =>
      intro v1 v2 H locs ls h_v1 hf
      exact absurd hf (by simp [X1_indexOf_l2])
    | succ n2 ih2 =>
      intro v1 v2 H locs ls h_v1 hf hl hP hS
      rw [X1_indexOf_l2.eq_2] at hf
      refine lv_iload_n hx hb dX1_indexOf_2 rfl (lv_at hl 2 rfl) ?_
      refine lv_aload_n hx hb dX1_indexOf_3 rfl (lv_at hl 0 rfl) ?_
      refine x_get (k := 50) (n := n0) hx hb hts i_X1 hown hK hP (mk_50 hn0) rfl rfl 7 (by decide) rfl k_31 (v := .int (gI σ 50 n0 7)) rfl dX1_indexOf_4 ?_
      refine lv_icmp_ge (tgt := 34) hx hb dX1_indexOf_7 rfl (fun hc => ?_) (fun hc => ?_)
      · have hf := b_p hf hc
        exact hx2  _ _ _  hf (lv_sub hl [] rfl) hP hS
      · have hf := b_n hf hc
        refine lv_aload_n hx hb dX1_indexOf_10 rfl (lv_at hl 0 rfl) ?_
        refine x_get (k := 50) (n := n0) hx hb hts i_X1 hown hK hP (mk_50 hn0) rfl rfl 5 (by decide) rfl k_24 (v := .ref (ad 56 n0)) rfl dX1_indexOf_11 ?_
        refine lv_iload_n hx hb dX1_indexOf_14 rfl (lv_at hl 2 rfl) ?_
        obtain ⟨g1, hf⟩ := gd_e hf
        obtain ⟨o2, e_o2, hf⟩ := nm_i hf
        refine x_aald (k := 56) (n := n0) (t := 100) hx hb hK hP (mk_56 hn0) (by decide) g1 dX1_indexOf_15 e_o2 ?_
        obtain ⟨q3, e_q3, h_q3, hf9⟩ := dr_e hf
        clear hf
        subst e_q3
        have hf := hf9
        clear hf9
        refine x_get (k := 100) (n := q3) hx hb hts i_X2 hown hK hP (mk_100 h_q3) rfl rfl 1 (by decide) rfl k_56 (v := .int (gI σ 100 q3 1)) rfl dX1_indexOf_16 ?_
        refine lv_aload_n hx hb dX1_indexOf_19 rfl (lv_at hl 1 rfl) ?_
        refine x_get (k := 100) (n := v1) hx hb hts i_X2 hown hK hP (mk_100 h_v1) rfl rfl 1 (by decide) rfl k_56 (v := .int (gI σ 100 v1 1)) rfl dX1_indexOf_20 ?_
        refine lv_icmp_ne (tgt := 28) hx hb dX1_indexOf_23 rfl (fun hc => ?_) (fun hc => ?_)
        · have hf := b_n hf hc
          refine lv_iinc (v := (v2 + (1 : Int32))) (lv' := [(2, .int (v2 + (1 : Int32))), (0, .ref (ad 50 n0)), (1, .ref (ad 100 v1))]) hx hb dX1_indexOf_28 hl (k := 2) rfl rfl (by decide) rfl (fun ls hl => ?_)
          refine lv_goto (tgt := 2) hx hb dX1_indexOf_31 rfl ?_
          exact ih2 v1 (v2 + (1 : Int32)) _ _ _ h_v1 hf (lv_sub hl [1, 2, 0] rfl) hP hS
        · have hf := b_p hf hc
          refine lv_iload_n hx hb dX1_indexOf_26 rfl (lv_at hl 2 rfl) ?_
          exact x_iret hx hb hr hlocks hK hP hS (Option.some.inj hf) rfl dX1_indexOf_27
  have c34 : ∀ (H : Heap) (locs : List Loc) (ls : Array Slot), X1_indexOf_c34 z n0 σ  = some res → lv_has ls 3 [] → va_P G vwCl (wld ad ca σ (LC z)) H → va_S A s.heap H locs → W p l e (headSpec wsX1_indexOf ({ frames := 0, cells := 0, slots := 0, locals := 0 })).room s m (([.ref (ad 50 n0), .ref (ad 100 n1)] : List Value).toArray) below meth c H locs 0 0 (MQ below (va_Qi (fun r' u => r' = res ∧ u = σ) (ctB G ad ca (LC z)) A) (([.ref (ad 50 n0), .ref (ad 100 n1)] : List Value).toArray) s 0 0 A) (F0 m 34 ls []) := by
    intro H locs ls hf hl hP hS
    unfold X1_indexOf_c34 at hf
    refine lv_iconst (v := (-1 : Int32)) hx hb dX1_indexOf_34 rfl ?_
    exact x_iret hx hb hr hlocks hK hP hS (Option.some.inj hf) rfl dX1_indexOf_35
  refine lv_iconst (v := (0 : Int32)) hx hb dX1_indexOf_0 rfl ?_
  refine lv_istore_n (lv' := [(2, .int (0 : Int32)), (0, .ref (ad 50 n0)), (1, .ref (ad 100 n1))]) hx hb dX1_indexOf_1 rfl hl (by decide) rfl (fun ls hl => ?_)
  exact l2 _ c34 _ n1 (0 : Int32) _ _ _ hn1 hf (lv_sub hl [1, 2, 0] rfl) hP hS
theorem h9_X2_isSameAt : yX2_isSameAt.cls = RX2 ∧ yX2_isSameAt.cls ≠ "java/lang/invoke/MethodHandle" ∧ yX2_isSameAt.cls ≠ "java/lang/invoke/VarHandle" ∧ (parseMethodDescriptor yX2_isSameAt.desc).map (fun d => d.parameters.length) = some 2 := by decide +kernel
set_option maxRecDepth 100000 in
set_option maxHeartbeats 4000000 in
theorem t_X2_isSameAt (l : Launch) (G : va_G) (ad : Nat → Nat → Nat) (ca : Nat → ClassId) (A : Nat → Prop) (z : Nat × Nat) (n0 : Nat) (x1 : Int32) (n2 : Nat) (hD : DW ad (LC z) A) (hn0 : n0 < z.2) (hn2 : n2 < z.2) (σ : PS) (res : Int32) (hf : X2_isSameAt z n0 x1 n2 σ = some res) : Met l yX2_isSameAt wsX2_isSameAt ({ frames := 0, cells := 0, slots := 0, locals := 0 }) (ctP G ad ca (LC z) σ ZC [.ref (ad 100 n0), .int x1, .ref (ad 100 n2)]) (va_Qi (fun r' u => r' = res ∧ u = σ) (ctB G ad ca (LC z)) A) 0 0 A := by
  refine Met.ofW (cc := cX2_isSameAt) (maxL := 3) (ret := (some .boolean)) (by decide) rfl ?_
  intro p e s m args below meth c s₁ B hml hv
  obtain ⟨rfl, hP, hK, hz⟩ := hv
  have hx := B.exec
  have hb := B.bytes
  have hr := B.returns
  have hts : ∀ w ∈ WW, w.before _ s = true := fun w h => atoms_spec (ws := wsX2_isSameAt) B.pre w (List.mem_cons_of_mem _ h)
  have hown : s.vm.findClass RX2 = some m.cls := findClass_of_methodNamed B.named
  have hlocks := B.notSynchronized
  have hS : va_S A s.heap s.heap [] := va_S.rf
  have k_37 := hts _ kf_X2_37
  have k_41 := hts _ kf_X2_41
  have k_44 := hts _ kf_X2_44
  have hl := lv_entry ([.ref (ad 100 n0), .int x1, .ref (ad 100 n2)]) (n := 3) (Nat.le_of_ble_eq_true rfl)
  rw [lg_entry_eq]
  generalize (lg_sl ([.ref (ad 100 n0), .int x1, .ref (ad 100 n2)]) ++ List.replicate (3 - (lg_sl ([.ref (ad 100 n0), .int x1, .ref (ad 100 n2)])).length) Slot.unset).toArray = ls at hl ⊢
  have hl : lv_has ls 3 [(0, .ref (ad 100 n0)), (1, .int x1), (2, .ref (ad 100 n2))] := hl
  unfold X2_isSameAt at hf
  refine lv_aload_n hx hb dX2_isSameAt_0 rfl (lv_at hl 0 rfl) ?_
  refine x_get (k := 100) (n := n0) hx hb hts i_X2 hown hK hP (mk_100 hn0) rfl rfl 5 (by decide) rfl k_37 (v := .ref (ad 106 n0)) rfl dX2_isSameAt_1 ?_
  refine lv_iload_n hx hb dX2_isSameAt_4 rfl (lv_at hl 1 rfl) ?_
  obtain ⟨g1, hf⟩ := gd_e hf
  refine x_iald (k := 106) (n := n0) hx hb hK hP (mk_106 hn0) rfl g1 dX2_isSameAt_5 ?_
  refine lv_aload_n hx hb dX2_isSameAt_6 rfl (lv_at hl 2 rfl) ?_
  refine x_get (k := 100) (n := n2) hx hb hts i_X2 hown hK hP (mk_100 hn2) rfl rfl 5 (by decide) rfl k_37 (v := .ref (ad 106 n2)) rfl dX2_isSameAt_7 ?_
  refine lv_iload_n hx hb dX2_isSameAt_10 rfl (lv_at hl 1 rfl) ?_
  obtain ⟨g2, hf⟩ := gd_e hf
  refine x_iald (k := 106) (n := n2) hx hb hK hP (mk_106 hn2) rfl g2 dX2_isSameAt_11 ?_
  refine lv_icmp_ne (tgt := 49) hx hb dX2_isSameAt_12 rfl (fun hc => ?_) (fun hc => ?_)
  · have hf := b_n hf hc
    refine lv_iconst (v := (0 : Int32)) hx hb dX2_isSameAt_49 rfl ?_
    exact x_zret hx hb hr hlocks hK hP hS (by decide) (Option.some.inj hf) rfl dX2_isSameAt_50
  · have hf := b_p hf hc
    refine lv_aload_n hx hb dX2_isSameAt_15 rfl (lv_at hl 0 rfl) ?_
    refine x_get (k := 100) (n := n0) hx hb hts i_X2 hown hK hP (mk_100 hn0) rfl rfl 6 (by decide) rfl k_41 (v := .ref (ad 107 n0)) rfl dX2_isSameAt_16 ?_
    refine lv_iload_n hx hb dX2_isSameAt_19 rfl (lv_at hl 1 rfl) ?_
    obtain ⟨g3, hf⟩ := gd_e hf
    refine x_iald (k := 107) (n := n0) hx hb hK hP (mk_107 hn0) rfl g3 dX2_isSameAt_20 ?_
    refine lv_aload_n hx hb dX2_isSameAt_21 rfl (lv_at hl 2 rfl) ?_
    refine x_get (k := 100) (n := n2) hx hb hts i_X2 hown hK hP (mk_100 hn2) rfl rfl 6 (by decide) rfl k_41 (v := .ref (ad 107 n2)) rfl dX2_isSameAt_22 ?_
    refine lv_iload_n hx hb dX2_isSameAt_25 rfl (lv_at hl 1 rfl) ?_
    obtain ⟨g4, hf⟩ := gd_e hf
    refine x_iald (k := 107) (n := n2) hx hb hK hP (mk_107 hn2) rfl g4 dX2_isSameAt_26 ?_
    refine lv_icmp_ne (tgt := 49) hx hb dX2_isSameAt_27 rfl (fun hc => ?_) (fun hc => ?_)
    · have hf := b_n hf hc
      refine lv_iconst (v := (0 : Int32)) hx hb dX2_isSameAt_49 rfl ?_
      exact x_zret hx hb hr hlocks hK hP hS (by decide) (Option.some.inj hf) rfl dX2_isSameAt_50
    · have hf := b_p hf hc
      refine lv_aload_n hx hb dX2_isSameAt_30 rfl (lv_at hl 0 rfl) ?_
      refine x_get (k := 100) (n := n0) hx hb hts i_X2 hown hK hP (mk_100 hn0) rfl rfl 7 (by decide) rfl k_44 (v := .ref (ad 108 n0)) rfl dX2_isSameAt_31 ?_
      refine lv_iload_n hx hb dX2_isSameAt_34 rfl (lv_at hl 1 rfl) ?_
      obtain ⟨g5, hf⟩ := gd_e hf
      refine x_iald (k := 108) (n := n0) hx hb hK hP (mk_108 hn0) rfl g5 dX2_isSameAt_35 ?_
      refine lv_aload_n hx hb dX2_isSameAt_36 rfl (lv_at hl 2 rfl) ?_
      refine x_get (k := 100) (n := n2) hx hb hts i_X2 hown hK hP (mk_100 hn2) rfl rfl 7 (by decide) rfl k_44 (v := .ref (ad 108 n2)) rfl dX2_isSameAt_37 ?_
      refine lv_iload_n hx hb dX2_isSameAt_40 rfl (lv_at hl 1 rfl) ?_
      obtain ⟨g6, hf⟩ := gd_e hf
      refine x_iald (k := 108) (n := n2) hx hb hK hP (mk_108 hn2) rfl g6 dX2_isSameAt_41 ?_
      refine lv_icmp_ne (tgt := 49) hx hb dX2_isSameAt_42 rfl (fun hc => ?_) (fun hc => ?_)
      · have hf := b_n hf hc
        refine lv_iconst (v := (0 : Int32)) hx hb dX2_isSameAt_49 rfl ?_
        exact x_zret hx hb hr hlocks hK hP hS (by decide) (Option.some.inj hf) rfl dX2_isSameAt_50
      · have hf := b_p hf hc
        refine lv_iconst (v := (1 : Int32)) hx hb dX2_isSameAt_45 rfl ?_
        refine lv_goto (tgt := 50) hx hb dX2_isSameAt_46 rfl ?_
        exact x_zret hx hb hr hlocks hK hP hS (by decide) (Option.some.inj hf) rfl dX2_isSameAt_50
theorem h9_X2_isSameAs : yX2_isSameAs.cls = RX2 ∧ yX2_isSameAs.cls ≠ "java/lang/invoke/MethodHandle" ∧ yX2_isSameAs.cls ≠ "java/lang/invoke/VarHandle" ∧ (parseMethodDescriptor yX2_isSameAs.desc).map (fun d => d.parameters.length) = some 1 := by decide +kernel
set_option maxRecDepth 100000 in
set_option maxHeartbeats 4000000 in
theorem t_X2_isSameAs (l : Launch) (G : va_G) (ad : Nat → Nat → Nat) (ca : Nat → ClassId) (A : Nat → Prop) (z : Nat × Nat) (n0 : Nat) (n1 : Nat) (hD : DW ad (LC z) A) (hn0 : n0 < z.2) (hn1 : n1 < z.2) (σ : PS) (res : Int32) (hf : X2_isSameAs z n0 n1 σ = some res) : Met l yX2_isSameAs wsX2_isSameAs ({ frames := 1, cells := 0, slots := 0, locals := 22 }) (ctP G ad ca (LC z) σ ZC [.ref (ad 100 n0), .ref (ad 100 n1)]) (va_Qi (fun r' u => r' = res ∧ u = σ) (ctB G ad ca (LC z)) A) 0 0 A := by
  refine Met.ofW (cc := cX2_isSameAs) (maxL := 3) (ret := (some .boolean)) (by decide) rfl ?_
  intro p e s m args below meth c s₁ B hml hv
  obtain ⟨rfl, hP, hK, hz⟩ := hv
  have hx := B.exec
  have hb := B.bytes
  have hr := B.returns
  have hts : ∀ w ∈ WW, w.before _ s = true := fun w h => atoms_spec (ws := wsX2_isSameAs) B.pre w (List.mem_cons_of_mem _ h)
  have hown : s.vm.findClass RX2 = some m.cls := findClass_of_methodNamed B.named
  have hlocks := B.notSynchronized
  have hS : va_S A s.heap s.heap [] := va_S.rf
  have k_15 := hts _ kf_X2_15
  have k_32 := hts _ kf_X2_32
  have hl := lv_entry ([.ref (ad 100 n0), .ref (ad 100 n1)]) (n := 3) (Nat.le_of_ble_eq_true rfl)
  rw [lg_entry_eq]
  generalize (lg_sl ([.ref (ad 100 n0), .ref (ad 100 n1)]) ++ List.replicate (3 - (lg_sl ([.ref (ad 100 n0), .ref (ad 100 n1)])).length) Slot.unset).toArray = ls at hl ⊢
  have hl : lv_has ls 3 [(0, .ref (ad 100 n0)), (1, .ref (ad 100 n1))] := hl
  unfold X2_isSameAs at hf
  have l2 : ∀ (kx2 : Option (Int32)), (∀ (H : Heap) (locs : List Loc) (ls : Array Slot), kx2 = some res → lv_has ls 3 [] → va_P G vwCl (wld ad ca σ (LC z)) H → va_S A s.heap H locs → W p l e (headSpec wsX2_isSameAs ({ frames := 1, cells := 0, slots := 0, locals := 22 })).room s m (([.ref (ad 100 n0), .ref (ad 100 n1)] : List Value).toArray) below meth c H locs 0 0 (MQ below (va_Qi (fun r' u => r' = res ∧ u = σ) (ctB G ad ca (LC z)) A) (([.ref (ad 100 n0), .ref (ad 100 n1)] : List Value).toArray) s 0 0 A) (F0 m 30 ls [])) → ∀ (n2 : Nat) (v1 : Nat) (v2 : Int32) (H : Heap) (locs : List Loc) (ls : Array Slot), v1 < z.2 → X2_isSameAs_l2 z n0 σ kx2 n2 v1 v2 = some res → lv_has ls 3 [(0, .ref (ad 100 n0)), (1, .ref (ad 100 v1)), (2, .int v2)] → va_P G vwCl (wld ad ca σ (LC z)) H → va_S A s.heap H locs → W p l e (headSpec wsX2_isSameAs ({ frames := 1, cells := 0, slots := 0, locals := 22 })).room s m (([.ref (ad 100 n0), .ref (ad 100 n1)] : List Value).toArray) below meth c H locs 0 0 (MQ below (va_Qi (fun r' u => r' = res ∧ u = σ) (ctB G ad ca (LC z)) A) (([.ref (ad 100 n0), .ref (ad 100 n1)] : List Value).toArray) s 0 0 A) (F0 m 2 ls []) := by
    intro kx2 hx2 n2
    induction n2 with
    | zero =>
      intro v1 v2 H locs ls h_v1 hf
      exact absurd hf (by simp [X2_isSameAs_l2])
    | succ n2 ih2 =>
      intro v1 v2 H locs ls h_v1 hf hl hP hS
      rw [X2_isSameAs_l2.eq_2] at hf
      refine lv_iload_n hx hb dX2_isSameAs_2 rfl (lv_at hl 2 rfl) ?_
      refine lv_aload_n hx hb dX2_isSameAs_3 rfl (lv_at hl 0 rfl) ?_
      obtain ⟨q1, e_q1, h_q1, hf⟩ := dr_e hf
      refine x_get (k := 100) (n := n0) hx hb hts i_X2 hown hK hP (mk_100 hn0) rfl rfl 0 (by decide) rfl k_15 (v := .ref (ad 50 q1)) (show va_rf (Option.map (ad 50) (gR σ 100 n0 0)) = _ by rw [e_q1]; rfl) dX2_isSameAs_4 ?_
      refine x_get (k := 50) (n := q1) hx hb hts i_X1 hown hK hP (mk_50 h_q1) rfl rfl 2 (by decide) rfl k_32 (v := .int (gI σ 50 q1 2)) rfl dX2_isSameAs_7 ?_
      refine lv_icmp_ge (tgt := 30) hx hb dX2_isSameAs_10 rfl (fun hc => ?_) (fun hc => ?_)
      · have hf := b_p hf hc
        exact hx2  _ _ _  hf (lv_sub hl [] rfl) hP hS
      · have hf := b_n hf hc
        refine lv_aload_n hx hb dX2_isSameAs_13 rfl (lv_at hl 0 rfl) ?_
        refine lv_iload_n hx hb dX2_isSameAs_14 rfl (lv_at hl 2 rfl) ?_
        refine lv_aload_n hx hb dX2_isSameAs_15 rfl (lv_at hl 1 rfl) ?_
        obtain ⟨r2, hc2, hf⟩ := bd_e hf
        refine x_ci (va_runV (As := [.int v2, .ref (ad 100 v1)]) (rest := []) ⟨hx, hb, hml, hown, hts⟩ (t_X2_isSameAt l G ad ca A z n0 v2 v1 hD hn0 h_v1 σ r2 hc2) (cwV 2 hts gr_X2_81 rfl rfl rfl h9_X2_isSameAt ⟨Nat.le_of_ble_eq_true rfl, Nat.le_of_ble_eq_true rfl⟩) (x_prV zkC hz hK hP (mk_100 hn0) rfl rfl) rfl rfl hl.1 rfl (lv_room (Nat.le_of_ble_eq_true rfl)) dX2_isSameAs_16 ⟨Nat.le_of_ble_eq_true rfl, Nat.le_of_ble_eq_true rfl⟩) hS (fun H locs hP hS => ?_)
        refine lv_if_ne (tgt := 24) hx hb dX2_isSameAs_19 rfl (fun hc => ?_) (fun hc => ?_)
        · have hf := b_n hf hc
          refine lv_iinc (v := (v2 + (1 : Int32))) (lv' := [(2, .int (v2 + (1 : Int32))), (0, .ref (ad 100 n0)), (1, .ref (ad 100 v1))]) hx hb dX2_isSameAs_24 hl (k := 2) rfl rfl (by decide) rfl (fun ls hl => ?_)
          refine lv_goto (tgt := 2) hx hb dX2_isSameAs_27 rfl ?_
          exact ih2 v1 (v2 + (1 : Int32)) _ _ _ h_v1 hf (lv_sub hl [1, 2, 0] rfl) hP hS
        · have hf := b_p hf hc
          refine lv_iconst (v := (0 : Int32)) hx hb dX2_isSameAs_22 rfl ?_
          exact x_zret hx hb hr hlocks hK hP hS (by decide) (Option.some.inj hf) rfl dX2_isSameAs_23
  have c30 : ∀ (H : Heap) (locs : List Loc) (ls : Array Slot), X2_isSameAs_c30 z n0 σ  = some res → lv_has ls 3 [] → va_P G vwCl (wld ad ca σ (LC z)) H → va_S A s.heap H locs → W p l e (headSpec wsX2_isSameAs ({ frames := 1, cells := 0, slots := 0, locals := 22 })).room s m (([.ref (ad 100 n0), .ref (ad 100 n1)] : List Value).toArray) below meth c H locs 0 0 (MQ below (va_Qi (fun r' u => r' = res ∧ u = σ) (ctB G ad ca (LC z)) A) (([.ref (ad 100 n0), .ref (ad 100 n1)] : List Value).toArray) s 0 0 A) (F0 m 30 ls []) := by
    intro H locs ls hf hl hP hS
    unfold X2_isSameAs_c30 at hf
    refine lv_iconst (v := (1 : Int32)) hx hb dX2_isSameAs_30 rfl ?_
    exact x_zret hx hb hr hlocks hK hP hS (by decide) (Option.some.inj hf) rfl dX2_isSameAs_31
  refine lv_iconst (v := (0 : Int32)) hx hb dX2_isSameAs_0 rfl ?_
  refine lv_istore_n (lv' := [(2, .int (0 : Int32)), (0, .ref (ad 100 n0)), (1, .ref (ad 100 n1))]) hx hb dX2_isSameAs_1 rfl hl (by decide) rfl (fun ls hl => ?_)
  exact l2 _ c30 _ n1 (0 : Int32) _ _ _ hn1 hf (lv_sub hl [1, 2, 0] rfl) hP hS
theorem h9_X1_hasLaidSame : yX1_hasLaidSame.cls = RX1 ∧ yX1_hasLaidSame.cls ≠ "java/lang/invoke/MethodHandle" ∧ yX1_hasLaidSame.cls ≠ "java/lang/invoke/VarHandle" ∧ (parseMethodDescriptor yX1_hasLaidSame.desc).map (fun d => d.parameters.length) = some 1 := by decide +kernel
set_option maxRecDepth 100000 in
set_option maxHeartbeats 4000000 in
theorem t_X1_hasLaidSame (l : Launch) (G : va_G) (ad : Nat → Nat → Nat) (ca : Nat → ClassId) (A : Nat → Prop) (z : Nat × Nat) (n0 : Nat) (n1 : Nat) (hD : DW ad (LC z) A) (hn0 : n0 < z.1) (hn1 : n1 < z.2) (σ : PS) (res : Int32) (hf : X1_hasLaidSame z n0 n1 σ = some res) : Met l yX1_hasLaidSame wsX1_hasLaidSame ({ frames := 2, cells := 0, slots := 0, locals := 44 }) (ctP G ad ca (LC z) σ ZC [.ref (ad 50 n0), .ref (ad 100 n1)]) (va_Qi (fun r' u => r' = res ∧ u = σ) (ctB G ad ca (LC z)) A) 0 0 A := by
  refine Met.ofW (cc := cX1_hasLaidSame) (maxL := 3) (ret := (some .boolean)) (by decide) rfl ?_
  intro p e s m args below meth c s₁ B hml hv
  obtain ⟨rfl, hP, hK, hz⟩ := hv
  have hx := B.exec
  have hb := B.bytes
  have hr := B.returns
  have hts : ∀ w ∈ WW, w.before _ s = true := fun w h => atoms_spec (ws := wsX1_hasLaidSame) B.pre w (List.mem_cons_of_mem _ h)
  have hown : s.vm.findClass RX1 = some m.cls := findClass_of_methodNamed B.named
  have hlocks := B.notSynchronized
  have hS : va_S A s.heap s.heap [] := va_S.rf
  have k_24 := hts _ kf_X1_24
  have k_31 := hts _ kf_X1_31
  have k_57 := hts _ kf_X1_57
  have hl := lv_entry ([.ref (ad 50 n0), .ref (ad 100 n1)]) (n := 3) (Nat.le_of_ble_eq_true rfl)
  rw [lg_entry_eq]
  generalize (lg_sl ([.ref (ad 50 n0), .ref (ad 100 n1)]) ++ List.replicate (3 - (lg_sl ([.ref (ad 50 n0), .ref (ad 100 n1)])).length) Slot.unset).toArray = ls at hl ⊢
  have hl : lv_has ls 3 [(0, .ref (ad 50 n0)), (1, .ref (ad 100 n1))] := hl
  unfold X1_hasLaidSame at hf
  have l2 : ∀ (kx2 : Option (Int32)), (∀ (H : Heap) (locs : List Loc) (ls : Array Slot), kx2 = some res → lv_has ls 3 [] → va_P G vwCl (wld ad ca σ (LC z)) H → va_S A s.heap H locs → W p l e (headSpec wsX1_hasLaidSame ({ frames := 2, cells := 0, slots := 0, locals := 44 })).room s m (([.ref (ad 50 n0), .ref (ad 100 n1)] : List Value).toArray) below meth c H locs 0 0 (MQ below (va_Qi (fun r' u => r' = res ∧ u = σ) (ctB G ad ca (LC z)) A) (([.ref (ad 50 n0), .ref (ad 100 n1)] : List Value).toArray) s 0 0 A) (F0 m 47 ls [])) → ∀ (n2 : Nat) (v1 : Nat) (v2 : Int32) (H : Heap) (locs : List Loc) (ls : Array Slot), v1 < z.2 → X1_hasLaidSame_l2 z n0 σ kx2 n2 v1 v2 = some res → lv_has ls 3 [(0, .ref (ad 50 n0)), (1, .ref (ad 100 v1)), (2, .int v2)] → va_P G vwCl (wld ad ca σ (LC z)) H → va_S A s.heap H locs → W p l e (headSpec wsX1_hasLaidSame ({ frames := 2, cells := 0, slots := 0, locals := 44 })).room s m (([.ref (ad 50 n0), .ref (ad 100 n1)] : List Value).toArray) below meth c H locs 0 0 (MQ below (va_Qi (fun r' u => r' = res ∧ u = σ) (ctB G ad ca (LC z)) A) (([.ref (ad 50 n0), .ref (ad 100 n1)] : List Value).toArray) s 0 0 A) (F0 m 2 ls []) := by
    intro kx2 hx2 n2
    induction n2 with
    | zero =>
      intro v1 v2 H locs ls h_v1 hf
      exact absurd hf (by simp [X1_hasLaidSame_l2])
    | succ n2 ih2 =>
      intro v1 v2 H locs ls h_v1 hf hl hP hS
      rw [X1_hasLaidSame_l2.eq_2] at hf
      refine lv_iload_n hx hb dX1_hasLaidSame_2 rfl (lv_at hl 2 rfl) ?_
      refine lv_aload_n hx hb dX1_hasLaidSame_3 rfl (lv_at hl 0 rfl) ?_
      refine x_get (k := 50) (n := n0) hx hb hts i_X1 hown hK hP (mk_50 hn0) rfl rfl 7 (by decide) rfl k_31 (v := .int (gI σ 50 n0 7)) rfl dX1_hasLaidSame_4 ?_
      refine lv_icmp_ge (tgt := 47) hx hb dX1_hasLaidSame_7 rfl (fun hc => ?_) (fun hc => ?_)
      · have hf := b_p hf hc
        exact hx2  _ _ _  hf (lv_sub hl [] rfl) hP hS
      · have hf := b_n hf hc
        refine lv_aload_n hx hb dX1_hasLaidSame_10 rfl (lv_at hl 0 rfl) ?_
        refine x_get (k := 50) (n := n0) hx hb hts i_X1 hown hK hP (mk_50 hn0) rfl rfl 5 (by decide) rfl k_24 (v := .ref (ad 56 n0)) rfl dX1_hasLaidSame_11 ?_
        refine lv_iload_n hx hb dX1_hasLaidSame_14 rfl (lv_at hl 2 rfl) ?_
        obtain ⟨g1, hf⟩ := gd_e hf
        obtain ⟨o2, e_o2, hf⟩ := nm_i hf
        refine x_aald (k := 56) (n := n0) (t := 100) hx hb hK hP (mk_56 hn0) (by decide) g1 dX1_hasLaidSame_15 e_o2 ?_
        obtain ⟨q3, e_q3, h_q3, hf9⟩ := dr_e hf
        clear hf
        subst e_q3
        have hf := hf9
        clear hf9
        refine x_get (k := 100) (n := q3) hx hb hts i_X2 hown hK hP (mk_100 h_q3) rfl rfl 4 (by decide) rfl k_57 (v := .int (gI σ 100 q3 4)) rfl dX1_hasLaidSame_16 ?_
        refine lv_aload_n hx hb dX1_hasLaidSame_19 rfl (lv_at hl 1 rfl) ?_
        refine x_get (k := 100) (n := v1) hx hb hts i_X2 hown hK hP (mk_100 h_v1) rfl rfl 4 (by decide) rfl k_57 (v := .int (gI σ 100 v1 4)) rfl dX1_hasLaidSame_20 ?_
        refine lv_icmp_ne (tgt := 41) hx hb dX1_hasLaidSame_23 rfl (fun hc => ?_) (fun hc => ?_)
        · have hf := b_n hf hc
          refine lv_iinc (v := (v2 + (1 : Int32))) (lv' := [(2, .int (v2 + (1 : Int32))), (0, .ref (ad 50 n0)), (1, .ref (ad 100 v1))]) hx hb dX1_hasLaidSame_41 hl (k := 2) rfl rfl (by decide) rfl (fun ls hl => ?_)
          refine lv_goto (tgt := 2) hx hb dX1_hasLaidSame_44 rfl ?_
          exact ih2 v1 (v2 + (1 : Int32)) _ _ _ h_v1 hf (lv_sub hl [1, 2, 0] rfl) hP hS
        · have hf := b_p hf hc
          refine lv_aload_n hx hb dX1_hasLaidSame_26 rfl (lv_at hl 0 rfl) ?_
          refine x_get (k := 50) (n := n0) hx hb hts i_X1 hown hK hP (mk_50 hn0) rfl rfl 5 (by decide) rfl k_24 (v := .ref (ad 56 n0)) rfl dX1_hasLaidSame_27 ?_
          refine lv_iload_n hx hb dX1_hasLaidSame_30 rfl (lv_at hl 2 rfl) ?_
          obtain ⟨g4, hf⟩ := gd_e hf
          obtain ⟨o5, e_o5, hf⟩ := nm_i hf
          refine x_aald (k := 56) (n := n0) (t := 100) hx hb hK hP (mk_56 hn0) (by decide) g4 dX1_hasLaidSame_31 e_o5 ?_
          refine lv_aload_n hx hb dX1_hasLaidSame_32 rfl (lv_at hl 1 rfl) ?_
          obtain ⟨q6, e_q6, h_q6, hf9⟩ := dr_e hf
          clear hf
          subst e_q6
          have hf := hf9
          clear hf9
          obtain ⟨r7, hc7, hf⟩ := bd_e hf
          refine x_ci (va_runV (As := [.ref (ad 100 v1)]) (rest := []) ⟨hx, hb, hml, hown, hts⟩ (t_X2_isSameAs l G ad ca A z q6 v1 hD h_q6 h_v1 σ r7 hc7) (cwV 1 hts gr_X1_60 rfl rfl rfl h9_X2_isSameAs ⟨Nat.le_of_ble_eq_true rfl, Nat.le_of_ble_eq_true rfl⟩) (x_prV zkC hz hK hP (mk_100 h_q6) rfl rfl) rfl rfl hl.1 rfl (lv_room (Nat.le_of_ble_eq_true rfl)) dX1_hasLaidSame_33 ⟨Nat.le_of_ble_eq_true rfl, Nat.le_of_ble_eq_true rfl⟩) hS (fun H locs hP hS => ?_)
          refine lv_if_eq (tgt := 41) hx hb dX1_hasLaidSame_36 rfl (fun hc => ?_) (fun hc => ?_)
          · have hf := b_p hf hc
            refine lv_iinc (v := (v2 + (1 : Int32))) (lv' := [(2, .int (v2 + (1 : Int32))), (0, .ref (ad 50 n0)), (1, .ref (ad 100 v1))]) hx hb dX1_hasLaidSame_41 hl (k := 2) rfl rfl (by decide) rfl (fun ls hl => ?_)
            refine lv_goto (tgt := 2) hx hb dX1_hasLaidSame_44 rfl ?_
            exact ih2 v1 (v2 + (1 : Int32)) _ _ _ h_v1 hf (lv_sub hl [1, 2, 0] rfl) hP hS
          · have hf := b_n hf hc
            refine lv_iconst (v := (1 : Int32)) hx hb dX1_hasLaidSame_39 rfl ?_
            exact x_zret hx hb hr hlocks hK hP hS (by decide) (Option.some.inj hf) rfl dX1_hasLaidSame_40
  have c47 : ∀ (H : Heap) (locs : List Loc) (ls : Array Slot), X1_hasLaidSame_c47 z n0 σ  = some res → lv_has ls 3 [] → va_P G vwCl (wld ad ca σ (LC z)) H → va_S A s.heap H locs → W p l e (headSpec wsX1_hasLaidSame ({ frames := 2, cells := 0, slots := 0, locals := 44 })).room s m (([.ref (ad 50 n0), .ref (ad 100 n1)] : List Value).toArray) below meth c H locs 0 0 (MQ below (va_Qi (fun r' u => r' = res ∧ u = σ) (ctB G ad ca (LC z)) A) (([.ref (ad 50 n0), .ref (ad 100 n1)] : List Value).toArray) s 0 0 A) (F0 m 47 ls []) := by
    intro H locs ls hf hl hP hS
    unfold X1_hasLaidSame_c47 at hf
    refine lv_iconst (v := (0 : Int32)) hx hb dX1_hasLaidSame_47 rfl ?_
    exact x_zret hx hb hr hlocks hK hP hS (by decide) (Option.some.inj hf) rfl dX1_hasLaidSame_48
  refine lv_iconst (v := (0 : Int32)) hx hb dX1_hasLaidSame_0 rfl ?_
  refine lv_istore_n (lv' := [(2, .int (0 : Int32)), (0, .ref (ad 50 n0)), (1, .ref (ad 100 n1))]) hx hb dX1_hasLaidSame_1 rfl hl (by decide) rfl (fun ls hl => ?_)
  exact l2 _ c47 _ n1 (0 : Int32) _ _ _ hn1 hf (lv_sub hl [1, 2, 0] rfl) hP hS
theorem h9_X2_isNarrowerAt : yX2_isNarrowerAt.cls = RX2 ∧ yX2_isNarrowerAt.cls ≠ "java/lang/invoke/MethodHandle" ∧ yX2_isNarrowerAt.cls ≠ "java/lang/invoke/VarHandle" ∧ (parseMethodDescriptor yX2_isNarrowerAt.desc).map (fun d => d.parameters.length) = some 2 := by decide +kernel
set_option maxRecDepth 100000 in
set_option maxHeartbeats 4000000 in
theorem t_X2_isNarrowerAt (l : Launch) (G : va_G) (ad : Nat → Nat → Nat) (ca : Nat → ClassId) (A : Nat → Prop) (z : Nat × Nat) (n0 : Nat) (x1 : Int32) (n2 : Nat) (hD : DW ad (LC z) A) (hn0 : n0 < z.2) (hn2 : n2 < z.2) (σ : PS) (res : Int32) (hf : X2_isNarrowerAt z n0 x1 n2 σ = some res) : Met l yX2_isNarrowerAt wsX2_isNarrowerAt ({ frames := 1, cells := 0, slots := 0, locals := 22 }) (ctP G ad ca (LC z) σ ZC [.ref (ad 100 n0), .int x1, .ref (ad 100 n2)]) (va_Qi (fun r' u => r' = res ∧ u = σ) (ctB G ad ca (LC z)) A) 0 0 A := by
  refine Met.ofW (cc := cX2_isNarrowerAt) (maxL := 3) (ret := (some .boolean)) (by decide) rfl ?_
  intro p e s m args below meth c s₁ B hml hv
  obtain ⟨rfl, hP, hK, hz⟩ := hv
  have hx := B.exec
  have hb := B.bytes
  have hr := B.returns
  have hts : ∀ w ∈ WW, w.before _ s = true := fun w h => atoms_spec (ws := wsX2_isNarrowerAt) B.pre w (List.mem_cons_of_mem _ h)
  have hown : s.vm.findClass RX2 = some m.cls := findClass_of_methodNamed B.named
  have hlocks := B.notSynchronized
  have hS : va_S A s.heap s.heap [] := va_S.rf
  have k_15 := hts _ kf_X2_15
  have k_37 := hts _ kf_X2_37
  have k_41 := hts _ kf_X2_41
  have k_44 := hts _ kf_X2_44
  have k_57 := hts _ kf_X2_57
  have hl := lv_entry ([.ref (ad 100 n0), .int x1, .ref (ad 100 n2)]) (n := 3) (Nat.le_of_ble_eq_true rfl)
  rw [lg_entry_eq]
  generalize (lg_sl ([.ref (ad 100 n0), .int x1, .ref (ad 100 n2)]) ++ List.replicate (3 - (lg_sl ([.ref (ad 100 n0), .int x1, .ref (ad 100 n2)])).length) Slot.unset).toArray = ls at hl ⊢
  have hl : lv_has ls 3 [(0, .ref (ad 100 n0)), (1, .int x1), (2, .ref (ad 100 n2))] := hl
  unfold X2_isNarrowerAt at hf
  refine lv_aload_n hx hb dX2_isNarrowerAt_0 rfl (lv_at hl 0 rfl) ?_
  refine x_get (k := 100) (n := n0) hx hb hts i_X2 hown hK hP (mk_100 hn0) rfl rfl 5 (by decide) rfl k_37 (v := .ref (ad 106 n0)) rfl dX2_isNarrowerAt_1 ?_
  refine lv_iload_n hx hb dX2_isNarrowerAt_4 rfl (lv_at hl 1 rfl) ?_
  obtain ⟨g1, hf⟩ := gd_e hf
  refine x_iald (k := 106) (n := n0) hx hb hK hP (mk_106 hn0) rfl g1 dX2_isNarrowerAt_5 ?_
  refine lv_aload_n hx hb dX2_isNarrowerAt_6 rfl (lv_at hl 2 rfl) ?_
  refine x_get (k := 100) (n := n2) hx hb hts i_X2 hown hK hP (mk_100 hn2) rfl rfl 5 (by decide) rfl k_37 (v := .ref (ad 106 n2)) rfl dX2_isNarrowerAt_7 ?_
  refine lv_iload_n hx hb dX2_isNarrowerAt_10 rfl (lv_at hl 1 rfl) ?_
  obtain ⟨g2, hf⟩ := gd_e hf
  refine x_iald (k := 106) (n := n2) hx hb hK hP (mk_106 hn2) rfl g2 dX2_isNarrowerAt_11 ?_
  refine lv_icmp_eq (tgt := 66) hx hb dX2_isNarrowerAt_12 rfl (fun hc => ?_) (fun hc => ?_)
  · have hf := b_p hf hc
    refine lv_aload_n hx hb dX2_isNarrowerAt_66 rfl (lv_at hl 2 rfl) ?_
    refine x_get (k := 100) (n := n2) hx hb hts i_X2 hown hK hP (mk_100 hn2) rfl rfl 6 (by decide) rfl k_41 (v := .ref (ad 107 n2)) rfl dX2_isNarrowerAt_67 ?_
    refine lv_iload_n hx hb dX2_isNarrowerAt_70 rfl (lv_at hl 1 rfl) ?_
    obtain ⟨g3, hf⟩ := gd_e hf
    refine x_iald (k := 107) (n := n2) hx hb hK hP (mk_107 hn2) rfl g3 dX2_isNarrowerAt_71 ?_
    refine lv_aload_n hx hb dX2_isNarrowerAt_72 rfl (lv_at hl 0 rfl) ?_
    refine x_get (k := 100) (n := n0) hx hb hts i_X2 hown hK hP (mk_100 hn0) rfl rfl 6 (by decide) rfl k_41 (v := .ref (ad 107 n0)) rfl dX2_isNarrowerAt_73 ?_
    refine lv_iload_n hx hb dX2_isNarrowerAt_76 rfl (lv_at hl 1 rfl) ?_
    obtain ⟨g4, hf⟩ := gd_e hf
    refine x_iald (k := 107) (n := n0) hx hb hK hP (mk_107 hn0) rfl g4 dX2_isNarrowerAt_77 ?_
    refine lv_icmp_gt (tgt := 109) hx hb dX2_isNarrowerAt_78 rfl (fun hc => ?_) (fun hc => ?_)
    · have hf := b_p hf hc
      refine lv_iconst (v := (0 : Int32)) hx hb dX2_isNarrowerAt_109 rfl ?_
      exact x_zret hx hb hr hlocks hK hP hS (by decide) (Option.some.inj hf) rfl dX2_isNarrowerAt_110
    · have hf := b_n hf hc
      refine lv_aload_n hx hb dX2_isNarrowerAt_81 rfl (lv_at hl 0 rfl) ?_
      refine x_get (k := 100) (n := n0) hx hb hts i_X2 hown hK hP (mk_100 hn0) rfl rfl 7 (by decide) rfl k_44 (v := .ref (ad 108 n0)) rfl dX2_isNarrowerAt_82 ?_
      refine lv_iload_n hx hb dX2_isNarrowerAt_85 rfl (lv_at hl 1 rfl) ?_
      obtain ⟨g5, hf⟩ := gd_e hf
      refine x_iald (k := 108) (n := n0) hx hb hK hP (mk_108 hn0) rfl g5 dX2_isNarrowerAt_86 ?_
      refine lv_aload_n hx hb dX2_isNarrowerAt_87 rfl (lv_at hl 2 rfl) ?_
      refine x_get (k := 100) (n := n2) hx hb hts i_X2 hown hK hP (mk_100 hn2) rfl rfl 7 (by decide) rfl k_44 (v := .ref (ad 108 n2)) rfl dX2_isNarrowerAt_88 ?_
      refine lv_iload_n hx hb dX2_isNarrowerAt_91 rfl (lv_at hl 1 rfl) ?_
      obtain ⟨g6, hf⟩ := gd_e hf
      refine x_iald (k := 108) (n := n2) hx hb hK hP (mk_108 hn2) rfl g6 dX2_isNarrowerAt_92 ?_
      refine lv_icmp_gt (tgt := 109) hx hb dX2_isNarrowerAt_93 rfl (fun hc => ?_) (fun hc => ?_)
      · have hf := b_p hf hc
        refine lv_iconst (v := (0 : Int32)) hx hb dX2_isNarrowerAt_109 rfl ?_
        exact x_zret hx hb hr hlocks hK hP hS (by decide) (Option.some.inj hf) rfl dX2_isNarrowerAt_110
      · have hf := b_n hf hc
        refine lv_aload_n hx hb dX2_isNarrowerAt_96 rfl (lv_at hl 0 rfl) ?_
        refine lv_iload_n hx hb dX2_isNarrowerAt_97 rfl (lv_at hl 1 rfl) ?_
        refine lv_aload_n hx hb dX2_isNarrowerAt_98 rfl (lv_at hl 2 rfl) ?_
        obtain ⟨r7, hc7, hf⟩ := bd_e hf
        refine x_ci (va_runV (As := [.int x1, .ref (ad 100 n2)]) (rest := []) ⟨hx, hb, hml, hown, hts⟩ (t_X2_isSameAt l G ad ca A z n0 x1 n2 hD hn0 hn2 σ r7 hc7) (cwV 2 hts gr_X2_81 rfl rfl rfl h9_X2_isSameAt ⟨Nat.le_of_ble_eq_true rfl, Nat.le_of_ble_eq_true rfl⟩) (x_prV zkC hz hK hP (mk_100 hn0) rfl rfl) rfl rfl hl.1 rfl (lv_room (Nat.le_of_ble_eq_true rfl)) dX2_isNarrowerAt_99 ⟨Nat.le_of_ble_eq_true rfl, Nat.le_of_ble_eq_true rfl⟩) hS (fun H locs hP hS => ?_)
        refine lv_if_ne (tgt := 109) hx hb dX2_isNarrowerAt_102 rfl (fun hc => ?_) (fun hc => ?_)
        · have hf := b_n hf hc
          refine lv_iconst (v := (0 : Int32)) hx hb dX2_isNarrowerAt_109 rfl ?_
          exact x_zret hx hb hr hlocks hK hP hS (by decide) (Option.some.inj hf) rfl dX2_isNarrowerAt_110
        · have hf := b_p hf hc
          refine lv_iconst (v := (1 : Int32)) hx hb dX2_isNarrowerAt_105 rfl ?_
          refine lv_goto (tgt := 110) hx hb dX2_isNarrowerAt_106 rfl ?_
          exact x_zret hx hb hr hlocks hK hP hS (by decide) (Option.some.inj hf) rfl dX2_isNarrowerAt_110
  · have hf := b_n hf hc
    refine lv_aload_n hx hb dX2_isNarrowerAt_15 rfl (lv_at hl 0 rfl) ?_
    refine x_get (k := 100) (n := n0) hx hb hts i_X2 hown hK hP (mk_100 hn0) rfl rfl 5 (by decide) rfl k_37 (v := .ref (ad 106 n0)) rfl dX2_isNarrowerAt_16 ?_
    refine lv_iload_n hx hb dX2_isNarrowerAt_19 rfl (lv_at hl 1 rfl) ?_
    obtain ⟨g8, hf⟩ := gd_e hf
    refine x_iald (k := 106) (n := n0) hx hb hK hP (mk_106 hn0) rfl g8 dX2_isNarrowerAt_20 ?_
    refine lv_iconst (v := (-1 : Int32)) hx hb dX2_isNarrowerAt_21 rfl ?_
    refine lv_icmp_eq (tgt := 64) hx hb dX2_isNarrowerAt_22 rfl (fun hc => ?_) (fun hc => ?_)
    · have hf := b_p hf hc
      refine lv_iconst (v := (0 : Int32)) hx hb dX2_isNarrowerAt_64 rfl ?_
      exact x_zret hx hb hr hlocks hK hP hS (by decide) (Option.some.inj hf) rfl dX2_isNarrowerAt_65
    · have hf := b_n hf hc
      refine lv_aload_n hx hb dX2_isNarrowerAt_25 rfl (lv_at hl 2 rfl) ?_
      refine x_get (k := 100) (n := n2) hx hb hts i_X2 hown hK hP (mk_100 hn2) rfl rfl 5 (by decide) rfl k_37 (v := .ref (ad 106 n2)) rfl dX2_isNarrowerAt_26 ?_
      refine lv_iload_n hx hb dX2_isNarrowerAt_29 rfl (lv_at hl 1 rfl) ?_
      obtain ⟨g9, hf⟩ := gd_e hf
      refine x_iald (k := 106) (n := n2) hx hb hK hP (mk_106 hn2) rfl g9 dX2_isNarrowerAt_30 ?_
      refine lv_iconst (v := (-1 : Int32)) hx hb dX2_isNarrowerAt_31 rfl ?_
      refine lv_icmp_eq (tgt := 60) hx hb dX2_isNarrowerAt_32 rfl (fun hc => ?_) (fun hc => ?_)
      · have hf := b_p hf hc
        refine lv_iconst (v := (1 : Int32)) hx hb dX2_isNarrowerAt_60 rfl ?_
        refine lv_goto (tgt := 65) hx hb dX2_isNarrowerAt_61 rfl ?_
        exact x_zret hx hb hr hlocks hK hP hS (by decide) (Option.some.inj hf) rfl dX2_isNarrowerAt_65
      · have hf := b_n hf hc
        refine lv_aload_n hx hb dX2_isNarrowerAt_35 rfl (lv_at hl 0 rfl) ?_
        obtain ⟨q10, e_q10, h_q10, hf⟩ := dr_e hf
        refine x_get (k := 100) (n := n0) hx hb hts i_X2 hown hK hP (mk_100 hn0) rfl rfl 0 (by decide) rfl k_15 (v := .ref (ad 50 q10)) (show va_rf (Option.map (ad 50) (gR σ 100 n0 0)) = _ by rw [e_q10]; rfl) dX2_isNarrowerAt_36 ?_
        refine x_get (k := 50) (n := q10) hx hb hts i_X1 hown hK hP (mk_50 h_q10) rfl rfl 0 (by decide) rfl k_57 (v := .ref (ad 400 0)) rfl dX2_isNarrowerAt_39 ?_
        refine lv_aload_n hx hb dX2_isNarrowerAt_42 rfl (lv_at hl 0 rfl) ?_
        refine x_get (k := 100) (n := n0) hx hb hts i_X2 hown hK hP (mk_100 hn0) rfl rfl 5 (by decide) rfl k_37 (v := .ref (ad 106 n0)) rfl dX2_isNarrowerAt_43 ?_
        refine lv_iload_n hx hb dX2_isNarrowerAt_46 rfl (lv_at hl 1 rfl) ?_
        obtain ⟨g11, hf⟩ := gd_e hf
        refine x_iald (k := 106) (n := n0) hx hb hK hP (mk_106 hn0) rfl g11 dX2_isNarrowerAt_47 ?_
        refine lv_aload_n hx hb dX2_isNarrowerAt_48 rfl (lv_at hl 2 rfl) ?_
        refine x_get (k := 100) (n := n2) hx hb hts i_X2 hown hK hP (mk_100 hn2) rfl rfl 5 (by decide) rfl k_37 (v := .ref (ad 106 n2)) rfl dX2_isNarrowerAt_49 ?_
        refine lv_iload_n hx hb dX2_isNarrowerAt_52 rfl (lv_at hl 1 rfl) ?_
        obtain ⟨g12, hf⟩ := gd_e hf
        refine x_iald (k := 106) (n := n2) hx hb hK hP (mk_106 hn2) rfl g12 dX2_isNarrowerAt_53 ?_
        obtain ⟨r13, hc13, hf⟩ := bd_e hf
        refine x_ci (va_runV (As := [.int (gI σ 106 n0 (ix x1)), .int (gI σ 106 n2 (ix x1))]) (rest := []) ⟨hx, hb, hml, hown, hts⟩ (t_X8_isBelow l G ad ca A z (gI σ 106 n0 (ix x1)) (gI σ 106 n2 (ix x1)) hD  σ r13 hc13) (cwV 2 hts gr_X2_61 rfl rfl rfl h9_X8_isBelow ⟨Nat.le_of_ble_eq_true rfl, Nat.le_of_ble_eq_true rfl⟩) (x_prV zkC hz hK hP (mk_400 h01) rfl rfl) rfl rfl hl.1 rfl (lv_room (Nat.le_of_ble_eq_true rfl)) dX2_isNarrowerAt_54 ⟨Nat.le_of_ble_eq_true rfl, Nat.le_of_ble_eq_true rfl⟩) hS (fun H locs hP hS => ?_)
        refine lv_if_eq (tgt := 64) hx hb dX2_isNarrowerAt_57 rfl (fun hc => ?_) (fun hc => ?_)
        · have hf := b_p hf hc
          refine lv_iconst (v := (0 : Int32)) hx hb dX2_isNarrowerAt_64 rfl ?_
          exact x_zret hx hb hr hlocks hK hP hS (by decide) (Option.some.inj hf) rfl dX2_isNarrowerAt_65
        · have hf := b_n hf hc
          refine lv_iconst (v := (1 : Int32)) hx hb dX2_isNarrowerAt_60 rfl ?_
          refine lv_goto (tgt := 65) hx hb dX2_isNarrowerAt_61 rfl ?_
          exact x_zret hx hb hr hlocks hK hP hS (by decide) (Option.some.inj hf) rfl dX2_isNarrowerAt_65
theorem h9_X2_isMoreSpecific : yX2_isMoreSpecific.cls = RX2 ∧ yX2_isMoreSpecific.cls ≠ "java/lang/invoke/MethodHandle" ∧ yX2_isMoreSpecific.cls ≠ "java/lang/invoke/VarHandle" ∧ (parseMethodDescriptor yX2_isMoreSpecific.desc).map (fun d => d.parameters.length) = some 1 := by decide +kernel
set_option maxRecDepth 100000 in
set_option maxHeartbeats 4000000 in
theorem t_X2_isMoreSpecific (l : Launch) (G : va_G) (ad : Nat → Nat → Nat) (ca : Nat → ClassId) (A : Nat → Prop) (z : Nat × Nat) (n0 : Nat) (n1 : Nat) (hD : DW ad (LC z) A) (hn0 : n0 < z.2) (hn1 : n1 < z.2) (σ : PS) (res : Int32) (hf : X2_isMoreSpecific z n0 n1 σ = some res) : Met l yX2_isMoreSpecific wsX2_isMoreSpecific ({ frames := 2, cells := 0, slots := 0, locals := 44 }) (ctP G ad ca (LC z) σ ZC [.ref (ad 100 n0), .ref (ad 100 n1)]) (va_Qi (fun r' u => r' = res ∧ u = σ) (ctB G ad ca (LC z)) A) 0 0 A := by
  refine Met.ofW (cc := cX2_isMoreSpecific) (maxL := 4) (ret := (some .boolean)) (by decide) rfl ?_
  intro p e s m args below meth c s₁ B hml hv
  obtain ⟨rfl, hP, hK, hz⟩ := hv
  have hx := B.exec
  have hb := B.bytes
  have hr := B.returns
  have hts : ∀ w ∈ WW, w.before _ s = true := fun w h => atoms_spec (ws := wsX2_isMoreSpecific) B.pre w (List.mem_cons_of_mem _ h)
  have hown : s.vm.findClass RX2 = some m.cls := findClass_of_methodNamed B.named
  have hlocks := B.notSynchronized
  have hS : va_S A s.heap s.heap [] := va_S.rf
  have k_15 := hts _ kf_X2_15
  have k_32 := hts _ kf_X2_32
  have hl := lv_entry ([.ref (ad 100 n0), .ref (ad 100 n1)]) (n := 4) (Nat.le_of_ble_eq_true rfl)
  rw [lg_entry_eq]
  generalize (lg_sl ([.ref (ad 100 n0), .ref (ad 100 n1)]) ++ List.replicate (4 - (lg_sl ([.ref (ad 100 n0), .ref (ad 100 n1)])).length) Slot.unset).toArray = ls at hl ⊢
  have hl : lv_has ls 4 [(0, .ref (ad 100 n0)), (1, .ref (ad 100 n1))] := hl
  unfold X2_isMoreSpecific at hf
  have l4 : ∀ (kx4 : Int32 → Option (Int32)), (∀ (v2 : Int32) (H : Heap) (locs : List Loc) (ls : Array Slot), kx4 v2 = some res → lv_has ls 4 [(2, .int v2)] → va_P G vwCl (wld ad ca σ (LC z)) H → va_S A s.heap H locs → W p l e (headSpec wsX2_isMoreSpecific ({ frames := 2, cells := 0, slots := 0, locals := 44 })).room s m (([.ref (ad 100 n0), .ref (ad 100 n1)] : List Value).toArray) below meth c H locs 0 0 (MQ below (va_Qi (fun r' u => r' = res ∧ u = σ) (ctB G ad ca (LC z)) A) (([.ref (ad 100 n0), .ref (ad 100 n1)] : List Value).toArray) s 0 0 A) (F0 m 46 ls [])) → ∀ (n4 : Nat) (v1 : Nat) (v2 : Int32) (v3 : Int32) (H : Heap) (locs : List Loc) (ls : Array Slot), v1 < z.2 → X2_isMoreSpecific_l4 z n0 σ kx4 n4 v1 v2 v3 = some res → lv_has ls 4 [(0, .ref (ad 100 n0)), (1, .ref (ad 100 v1)), (2, .int v2), (3, .int v3)] → va_P G vwCl (wld ad ca σ (LC z)) H → va_S A s.heap H locs → W p l e (headSpec wsX2_isMoreSpecific ({ frames := 2, cells := 0, slots := 0, locals := 44 })).room s m (([.ref (ad 100 n0), .ref (ad 100 n1)] : List Value).toArray) below meth c H locs 0 0 (MQ below (va_Qi (fun r' u => r' = res ∧ u = σ) (ctB G ad ca (LC z)) A) (([.ref (ad 100 n0), .ref (ad 100 n1)] : List Value).toArray) s 0 0 A) (F0 m 4 ls []) := by
    intro kx4 hx4 n4
    induction n4 with
    | zero =>
      intro v1 v2 v3 H locs ls h_v1 hf
      exact absurd hf (by simp [X2_isMoreSpecific_l4])
    | succ n4 ih4 =>
      intro v1 v2 v3 H locs ls h_v1 hf hl hP hS
      rw [X2_isMoreSpecific_l4.eq_2] at hf
      refine lv_iload_n hx hb dX2_isMoreSpecific_4 rfl (lv_at hl 3 rfl) ?_
      refine lv_aload_n hx hb dX2_isMoreSpecific_5 rfl (lv_at hl 0 rfl) ?_
      obtain ⟨q1, e_q1, h_q1, hf⟩ := dr_e hf
      refine x_get (k := 100) (n := n0) hx hb hts i_X2 hown hK hP (mk_100 hn0) rfl rfl 0 (by decide) rfl k_15 (v := .ref (ad 50 q1)) (show va_rf (Option.map (ad 50) (gR σ 100 n0 0)) = _ by rw [e_q1]; rfl) dX2_isMoreSpecific_6 ?_
      refine x_get (k := 50) (n := q1) hx hb hts i_X1 hown hK hP (mk_50 h_q1) rfl rfl 2 (by decide) rfl k_32 (v := .int (gI σ 50 q1 2)) rfl dX2_isMoreSpecific_9 ?_
      refine lv_icmp_ge (tgt := 46) hx hb dX2_isMoreSpecific_12 rfl (fun hc => ?_) (fun hc => ?_)
      · have hf := b_p hf hc
        exact hx4 v2 _ _ _  hf (lv_sub hl [2] rfl) hP hS
      · have hf := b_n hf hc
        refine lv_aload_n hx hb dX2_isMoreSpecific_15 rfl (lv_at hl 0 rfl) ?_
        refine lv_iload_n hx hb dX2_isMoreSpecific_16 rfl (lv_at hl 3 rfl) ?_
        refine lv_aload_n hx hb dX2_isMoreSpecific_17 rfl (lv_at hl 1 rfl) ?_
        obtain ⟨r2, hc2, hf⟩ := bd_e hf
        refine x_ci (va_runV (As := [.int v3, .ref (ad 100 v1)]) (rest := []) ⟨hx, hb, hml, hown, hts⟩ (t_X2_isNarrowerAt l G ad ca A z n0 v3 v1 hD hn0 h_v1 σ r2 hc2) (cwV 2 hts gr_X2_85 rfl rfl rfl h9_X2_isNarrowerAt ⟨Nat.le_of_ble_eq_true rfl, Nat.le_of_ble_eq_true rfl⟩) (x_prV zkC hz hK hP (mk_100 hn0) rfl rfl) rfl rfl hl.1 rfl (lv_room (Nat.le_of_ble_eq_true rfl)) dX2_isMoreSpecific_18 ⟨Nat.le_of_ble_eq_true rfl, Nat.le_of_ble_eq_true rfl⟩) hS (fun H locs hP hS => ?_)
        refine lv_if_eq (tgt := 29) hx hb dX2_isMoreSpecific_21 rfl (fun hc => ?_) (fun hc => ?_)
        · have hf := b_p hf hc
          refine lv_aload_n hx hb dX2_isMoreSpecific_29 rfl (lv_at hl 0 rfl) ?_
          refine lv_iload_n hx hb dX2_isMoreSpecific_30 rfl (lv_at hl 3 rfl) ?_
          refine lv_aload_n hx hb dX2_isMoreSpecific_31 rfl (lv_at hl 1 rfl) ?_
          obtain ⟨r3, hc3, hf⟩ := bd_e hf
          refine x_ci (va_runV (As := [.int v3, .ref (ad 100 v1)]) (rest := []) ⟨hx, hb, hml, hown, hts⟩ (t_X2_isSameAt l G ad ca A z n0 v3 v1 hD hn0 h_v1 σ r3 hc3) (cwV 2 hts gr_X2_81 rfl rfl rfl h9_X2_isSameAt ⟨Nat.le_of_ble_eq_true rfl, Nat.le_of_ble_eq_true rfl⟩) (x_prV zkC hz hK hP (mk_100 hn0) rfl rfl) rfl rfl hl.1 rfl (lv_room (Nat.le_of_ble_eq_true rfl)) dX2_isMoreSpecific_32 ⟨Nat.le_of_ble_eq_true rfl, Nat.le_of_ble_eq_true rfl⟩) hS (fun H locs hP hS => ?_)
          refine lv_if_ne (tgt := 40) hx hb dX2_isMoreSpecific_35 rfl (fun hc => ?_) (fun hc => ?_)
          · have hf := b_n hf hc
            refine lv_iinc (v := (v3 + (1 : Int32))) (lv' := [(3, .int (v3 + (1 : Int32))), (0, .ref (ad 100 n0)), (1, .ref (ad 100 v1)), (2, .int v2)]) hx hb dX2_isMoreSpecific_40 hl (k := 3) rfl rfl (by decide) rfl (fun ls hl => ?_)
            refine lv_goto (tgt := 4) hx hb dX2_isMoreSpecific_43 rfl ?_
            exact ih4 v1 v2 (v3 + (1 : Int32)) _ _ _ h_v1 hf (lv_sub hl [1, 2, 3, 0] rfl) hP hS
          · have hf := b_p hf hc
            refine lv_iconst (v := (0 : Int32)) hx hb dX2_isMoreSpecific_38 rfl ?_
            exact x_zret hx hb hr hlocks hK hP hS (by decide) (Option.some.inj hf) rfl dX2_isMoreSpecific_39
        · have hf := b_n hf hc
          refine lv_iconst (v := (1 : Int32)) hx hb dX2_isMoreSpecific_24 rfl ?_
          refine lv_istore_n (lv' := [(2, .int (1 : Int32)), (0, .ref (ad 100 n0)), (1, .ref (ad 100 v1)), (3, .int v3)]) hx hb dX2_isMoreSpecific_25 rfl hl (by decide) rfl (fun ls hl => ?_)
          refine lv_goto (tgt := 40) hx hb dX2_isMoreSpecific_26 rfl ?_
          refine lv_iinc (v := (v3 + (1 : Int32))) (lv' := [(3, .int (v3 + (1 : Int32))), (2, .int (1 : Int32)), (0, .ref (ad 100 n0)), (1, .ref (ad 100 v1))]) hx hb dX2_isMoreSpecific_40 hl (k := 3) rfl rfl (by decide) rfl (fun ls hl => ?_)
          refine lv_goto (tgt := 4) hx hb dX2_isMoreSpecific_43 rfl ?_
          exact ih4 v1 (1 : Int32) (v3 + (1 : Int32)) _ _ _ h_v1 hf (lv_sub hl [2, 3, 1, 0] rfl) hP hS
  have c46 : ∀ (v2 : Int32) (H : Heap) (locs : List Loc) (ls : Array Slot), X2_isMoreSpecific_c46 z n0 σ v2 = some res → lv_has ls 4 [(2, .int v2)] → va_P G vwCl (wld ad ca σ (LC z)) H → va_S A s.heap H locs → W p l e (headSpec wsX2_isMoreSpecific ({ frames := 2, cells := 0, slots := 0, locals := 44 })).room s m (([.ref (ad 100 n0), .ref (ad 100 n1)] : List Value).toArray) below meth c H locs 0 0 (MQ below (va_Qi (fun r' u => r' = res ∧ u = σ) (ctB G ad ca (LC z)) A) (([.ref (ad 100 n0), .ref (ad 100 n1)] : List Value).toArray) s 0 0 A) (F0 m 46 ls []) := by
    intro v2 H locs ls hf hl hP hS
    unfold X2_isMoreSpecific_c46 at hf
    refine lv_iload_n hx hb dX2_isMoreSpecific_46 rfl (lv_at hl 0 rfl) ?_
    obtain ⟨g4, hf⟩ := gd_e hf
    exact x_zret hx hb hr hlocks hK hP hS g4 (Option.some.inj hf) rfl dX2_isMoreSpecific_47
  refine lv_iconst (v := (0 : Int32)) hx hb dX2_isMoreSpecific_0 rfl ?_
  refine lv_istore_n (lv' := [(2, .int (0 : Int32)), (0, .ref (ad 100 n0)), (1, .ref (ad 100 n1))]) hx hb dX2_isMoreSpecific_1 rfl hl (by decide) rfl (fun ls hl => ?_)
  refine lv_iconst (v := (0 : Int32)) hx hb dX2_isMoreSpecific_2 rfl ?_
  refine lv_istore_n (lv' := [(3, .int (0 : Int32)), (2, .int (0 : Int32)), (0, .ref (ad 100 n0)), (1, .ref (ad 100 n1))]) hx hb dX2_isMoreSpecific_3 rfl hl (by decide) rfl (fun ls hl => ?_)
  exact l4 _ c46 _ n1 (0 : Int32) (0 : Int32) _ _ _ hn1 hf (lv_sub hl [2, 3, 1, 0] rfl) hP hS

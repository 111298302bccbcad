theorem h9_X1_beatenByAny : yX1_beatenByAny.cls = RX1 ∧ yX1_beatenByAny.cls ≠ "java/lang/invoke/MethodHandle" ∧ yX1_beatenByAny.cls ≠ "java/lang/invoke/VarHandle" ∧ (parseMethodDescriptor yX1_beatenByAny.desc).map (fun d => d.parameters.length) = some 1 := by decide +kernel
set_option maxRecDepth 100000 in
set_option maxHeartbeats 4000000 in
theorem t_X1_beatenByAny (l : Launch) (G : va_G) (ad : Nat → Nat → Nat) (ca : Nat → ClassId) (A : Nat → Prop) (z : Nat × Nat) (n0 : Nat) (x1 : Int32) (hD : DW ad (LC z) A) (hn0 : n0 < z.1) (σ : PS) (res : Int32) (hf : X1_beatenByAny z n0 x1 σ = some res) : Met l yX1_beatenByAny wsX1_beatenByAny ({ frames := 0, cells := 0, slots := 0, locals := 0 }) (ctP G ad ca (LC z) σ ZC [.ref (ad 50 n0), .int x1]) (va_Qi (fun r' u => r' = res ∧ u = σ) (ctB G ad ca (LC z)) A) 0 0 A := by
  refine Met.ofW (cc := cX1_beatenByAny) (maxL := 4) (ret := (some .int)) (by decide) rfl ?_
  intro p e s m args below meth c s₁ B hml hv
  obtain ⟨rfl, hP, hK, hz⟩ := hv
  have hx := B.exec
  have hb := B.bytes
  have hr := B.returns
  have hts : ∀ w ∈ WW, w.before _ s = true := fun w h => atoms_spec (ws := wsX1_beatenByAny) B.pre w (List.mem_cons_of_mem _ h)
  have hown : s.vm.findClass RX1 = some m.cls := findClass_of_methodNamed B.named
  have hlocks := B.notSynchronized
  have hS : va_S A s.heap s.heap [] := va_S.rf
  have k_28 := hts _ kf_X1_28
  have k_31 := hts _ kf_X1_31
  have hl := lv_entry ([.ref (ad 50 n0), .int x1]) (n := 4) (Nat.le_of_ble_eq_true rfl)
  rw [lg_entry_eq]
  generalize (lg_sl ([.ref (ad 50 n0), .int x1]) ++ List.replicate (4 - (lg_sl ([.ref (ad 50 n0), .int x1])).length) Slot.unset).toArray = ls at hl ⊢
  have hl : lv_has ls 4 [(0, .ref (ad 50 n0)), (1, .int x1)] := hl
  unfold X1_beatenByAny at hf
  have l4 : ∀ (kx4 : Int32 → Option (Int32)), (∀ (v2 : Int32) (H : Heap) (locs : List Loc) (ls : Array Slot), kx4 v2 = some res → lv_has ls 4 [(2, .int v2)] → va_P G vwCl (wld ad ca σ (LC z)) H → va_S A s.heap H locs → W p l e (headSpec wsX1_beatenByAny ({ frames := 0, cells := 0, slots := 0, locals := 0 })).room s m (([.ref (ad 50 n0), .int x1] : List Value).toArray) below meth c H locs 0 0 (MQ below (va_Qi (fun r' u => r' = res ∧ u = σ) (ctB G ad ca (LC z)) A) (([.ref (ad 50 n0), .int x1] : List Value).toArray) s 0 0 A) (F0 m 35 ls [])) → ∀ (n4 : Nat) (v1 : Int32) (v2 : Int32) (v3 : Int32) (H : Heap) (locs : List Loc) (ls : Array Slot), X1_beatenByAny_l4 z n0 σ kx4 n4 v1 v2 v3 = some res → lv_has ls 4 [(0, .ref (ad 50 n0)), (1, .int v1), (2, .int v2), (3, .int v3)] → va_P G vwCl (wld ad ca σ (LC z)) H → va_S A s.heap H locs → W p l e (headSpec wsX1_beatenByAny ({ frames := 0, cells := 0, slots := 0, locals := 0 })).room s m (([.ref (ad 50 n0), .int x1] : List Value).toArray) below meth c H locs 0 0 (MQ below (va_Qi (fun r' u => r' = res ∧ u = σ) (ctB G ad ca (LC z)) A) (([.ref (ad 50 n0), .int x1] : List Value).toArray) s 0 0 A) (F0 m 4 ls []) := by
    intro kx4 hx4 n4
    induction n4 with
    | zero =>
      intro v1 v2 v3 H locs ls hf
      exact absurd hf (by simp [X1_beatenByAny_l4])
    | succ n4 ih4 =>
      intro v1 v2 v3 H locs ls hf hl hP hS
      rw [X1_beatenByAny_l4.eq_2] at hf
      refine lv_iload_n hx hb dX1_beatenByAny_4 rfl (lv_at hl 3 rfl) ?_
      refine lv_aload_n hx hb dX1_beatenByAny_5 rfl (lv_at hl 0 rfl) ?_
      refine x_get (k := 50) (n := n0) hx hb hts i_X1 hown hK hP (mk_50 hn0) rfl rfl 7 (by decide) rfl k_31 (v := .int (gI σ 50 n0 7)) rfl dX1_beatenByAny_6 ?_
      refine lv_icmp_ge (tgt := 35) hx hb dX1_beatenByAny_9 rfl (fun hc => ?_) (fun hc => ?_)
      · have hf := b_p hf hc
        exact hx4 v2 _ _ _  hf (lv_sub hl [2] rfl) hP hS
      · have hf := b_n hf hc
        refine lv_iload_n hx hb dX1_beatenByAny_12 rfl (lv_at hl 1 rfl) ?_
        refine lv_iconst (v := (1 : Int32)) hx hb dX1_beatenByAny_13 rfl ?_
        refine lv_iload_n hx hb dX1_beatenByAny_14 rfl (lv_at hl 3 rfl) ?_
        refine lv_ishl hx hb dX1_beatenByAny_15 ?_
        refine lv_iand hx hb dX1_beatenByAny_16 ?_
        refine lv_if_eq (tgt := 29) hx hb dX1_beatenByAny_17 rfl (fun hc => ?_) (fun hc => ?_)
        · have hf := b_p hf hc
          refine lv_iinc (v := (v3 + (1 : Int32))) (lv' := [(3, .int (v3 + (1 : Int32))), (0, .ref (ad 50 n0)), (1, .int v1), (2, .int v2)]) hx hb dX1_beatenByAny_29 hl (k := 3) rfl rfl (by decide) rfl (fun ls hl => ?_)
          refine lv_goto (tgt := 4) hx hb dX1_beatenByAny_32 rfl ?_
          exact ih4 v1 v2 (v3 + (1 : Int32)) _ _ _  hf (lv_sub hl [1, 2, 3, 0] rfl) hP hS
        · have hf := b_n hf hc
          refine lv_iload_n hx hb dX1_beatenByAny_20 rfl (lv_at hl 2 rfl) ?_
          refine lv_aload_n hx hb dX1_beatenByAny_21 rfl (lv_at hl 0 rfl) ?_
          refine x_get (k := 50) (n := n0) hx hb hts i_X1 hown hK hP (mk_50 hn0) rfl rfl 6 (by decide) rfl k_28 (v := .ref (ad 57 n0)) rfl dX1_beatenByAny_22 ?_
          refine lv_iload_n hx hb dX1_beatenByAny_25 rfl (lv_at hl 3 rfl) ?_
          obtain ⟨g1, hf⟩ := gd_e hf
          refine x_iald (k := 57) (n := n0) hx hb hK hP (mk_57 hn0) rfl g1 dX1_beatenByAny_26 ?_
          refine lv_ior hx hb dX1_beatenByAny_27 ?_
          obtain ⟨y2, e_y2, hf⟩ := nm_i hf
          refine x_nmI e_y2 ?_
          refine lv_istore_n (lv' := [(2, .int y2), (0, .ref (ad 50 n0)), (1, .int v1), (3, .int v3)]) hx hb dX1_beatenByAny_28 rfl hl (by decide) rfl (fun ls hl => ?_)
          refine lv_iinc (v := (v3 + (1 : Int32))) (lv' := [(3, .int (v3 + (1 : Int32))), (2, .int y2), (0, .ref (ad 50 n0)), (1, .int v1)]) hx hb dX1_beatenByAny_29 hl (k := 3) rfl rfl (by decide) rfl (fun ls hl => ?_)
          refine lv_goto (tgt := 4) hx hb dX1_beatenByAny_32 rfl ?_
          exact ih4 v1 y2 (v3 + (1 : Int32)) _ _ _  hf (lv_sub hl [2, 3, 1, 0] rfl) hP hS
  have c35 : ∀ (v2 : Int32) (H : Heap) (locs : List Loc) (ls : Array Slot), X1_beatenByAny_c35 z n0 σ v2 = some res → lv_has ls 4 [(2, .int v2)] → va_P G vwCl (wld ad ca σ (LC z)) H → va_S A s.heap H locs → W p l e (headSpec wsX1_beatenByAny ({ frames := 0, cells := 0, slots := 0, locals := 0 })).room s m (([.ref (ad 50 n0), .int x1] : List Value).toArray) below meth c H locs 0 0 (MQ below (va_Qi (fun r' u => r' = res ∧ u = σ) (ctB G ad ca (LC z)) A) (([.ref (ad 50 n0), .int x1] : List Value).toArray) s 0 0 A) (F0 m 35 ls []) := by
    intro v2 H locs ls hf hl hP hS
    unfold X1_beatenByAny_c35 at hf
    refine lv_iload_n hx hb dX1_beatenByAny_35 rfl (lv_at hl 0 rfl) ?_
    exact x_iret hx hb hr hlocks hK hP hS (Option.some.inj hf) rfl dX1_beatenByAny_36
  refine lv_iconst (v := (0 : Int32)) hx hb dX1_beatenByAny_0 rfl ?_
  refine lv_istore_n (lv' := [(2, .int (0 : Int32)), (0, .ref (ad 50 n0)), (1, .int x1)]) hx hb dX1_beatenByAny_1 rfl hl (by decide) rfl (fun ls hl => ?_)
  refine lv_iconst (v := (0 : Int32)) hx hb dX1_beatenByAny_2 rfl ?_
  refine lv_istore_n (lv' := [(3, .int (0 : Int32)), (2, .int (0 : Int32)), (0, .ref (ad 50 n0)), (1, .int x1)]) hx hb dX1_beatenByAny_3 rfl hl (by decide) rfl (fun ls hl => ?_)
  exact l4 _ c35 _ x1 (0 : Int32) (0 : Int32) _ _ _  hf (lv_sub hl [2, 3, 1, 0] rfl) hP hS
theorem h9_X9_memberAt : yX9_memberAt.cls ≠ "java/lang/invoke/MethodHandle" ∧ yX9_memberAt.cls ≠ "java/lang/invoke/VarHandle" ∧ (parseMethodDescriptor yX9_memberAt.desc).map (fun d => d.parameters.length) = some 2 := by decide +kernel
set_option maxRecDepth 100000 in
set_option maxHeartbeats 4000000 in
theorem t_X9_memberAt (l : Launch) (G : va_G) (ad : Nat → Nat → Nat) (ca : Nat → ClassId) (A : Nat → Prop) (z : Nat × Nat)  (x0 : Int32) (x1 : Int32) (hD : DW ad (LC z) A)  (σ : PS) (res : Int32) (hf : X9_memberAt z  x0 x1 σ = some res) : Met l yX9_memberAt wsX9_memberAt ({ frames := 0, cells := 0, slots := 0, locals := 0 }) (ctP G ad ca (LC z) σ ZC [.int x0, .int x1]) (va_Qi (fun r' u => r' = res ∧ u = σ) (ctB G ad ca (LC z)) A) 0 0 A := by
  refine Met.ofW (cc := cX9_memberAt) (maxL := 4) (ret := (some .int)) (by decide) rfl ?_
  intro p e s m args below meth c s₁ B hml hv
  obtain ⟨rfl, hP, hK, hz⟩ := hv
  have hx := B.exec
  have hb := B.bytes
  have hr := B.returns
  have hts : ∀ w ∈ WW, w.before _ s = true := fun w h => atoms_spec (ws := wsX9_memberAt) B.pre w (List.mem_cons_of_mem _ h)
  have hown : s.vm.findClass RX9 = some m.cls := findClass_of_methodNamed B.named
  have hlocks := B.notSynchronized
  have hS : va_S A s.heap s.heap [] := va_S.rf
  have hl := lv_entry ([.int x0, .int x1]) (n := 4) (Nat.le_of_ble_eq_true rfl)
  rw [lg_entry_eq]
  generalize (lg_sl ([.int x0, .int x1]) ++ List.replicate (4 - (lg_sl ([.int x0, .int x1])).length) Slot.unset).toArray = ls at hl ⊢
  have hl : lv_has ls 4 [(0, .int x0), (1, .int x1)] := hl
  unfold X9_memberAt at hf
  have l4 : ∀ (kx4 : Option (Int32)), (∀ (H : Heap) (locs : List Loc) (ls : Array Slot), kx4 = some res → lv_has ls 4 [] → va_P G vwCl (wld ad ca σ (LC z)) H → va_S A s.heap H locs → W p l e (headSpec wsX9_memberAt ({ frames := 0, cells := 0, slots := 0, locals := 0 })).room s m (([.int x0, .int x1] : List Value).toArray) below meth c H locs 0 0 (MQ below (va_Qi (fun r' u => r' = res ∧ u = σ) (ctB G ad ca (LC z)) A) (([.int x0, .int x1] : List Value).toArray) s 0 0 A) (F0 m 34 ls [])) → ∀ (n4 : Nat) (v0 : Int32) (v1 : Int32) (v2 : Int32) (v3 : Int32) (H : Heap) (locs : List Loc) (ls : Array Slot), X9_memberAt_l4 z  σ kx4 n4 v0 v1 v2 v3 = some res → lv_has ls 4 [(0, .int v0), (1, .int v1), (2, .int v2), (3, .int v3)] → va_P G vwCl (wld ad ca σ (LC z)) H → va_S A s.heap H locs → W p l e (headSpec wsX9_memberAt ({ frames := 0, cells := 0, slots := 0, locals := 0 })).room s m (([.int x0, .int x1] : List Value).toArray) below meth c H locs 0 0 (MQ below (va_Qi (fun r' u => r' = res ∧ u = σ) (ctB G ad ca (LC z)) A) (([.int x0, .int x1] : List Value).toArray) s 0 0 A) (F0 m 4 ls []) := by
    intro kx4 hx4 n4
    induction n4 with
    | zero =>
      intro v0 v1 v2 v3 H locs ls hf
      exact absurd hf (by simp [X9_memberAt_l4])
    | succ n4 ih4 =>
      intro v0 v1 v2 v3 H locs ls hf hl hP hS
      rw [X9_memberAt_l4.eq_2] at hf
      refine lv_iload_n hx hb dX9_memberAt_4 rfl (lv_at hl 3 rfl) ?_
      refine lv_bipush (v := (8 : Int32)) hx hb dX9_memberAt_5 rfl ?_
      refine lv_icmp_ge (tgt := 34) hx hb dX9_memberAt_7 rfl (fun hc => ?_) (fun hc => ?_)
      · have hf := b_p hf hc
        exact hx4  _ _ _  hf (lv_sub hl [] rfl) hP hS
      · have hf := b_n hf hc
        refine lv_iload_n hx hb dX9_memberAt_10 rfl (lv_at hl 0 rfl) ?_
        refine lv_iconst (v := (1 : Int32)) hx hb dX9_memberAt_11 rfl ?_
        refine lv_iload_n hx hb dX9_memberAt_12 rfl (lv_at hl 3 rfl) ?_
        refine lv_ishl hx hb dX9_memberAt_13 ?_
        refine lv_iand hx hb dX9_memberAt_14 ?_
        refine lv_if_eq (tgt := 28) hx hb dX9_memberAt_15 rfl (fun hc => ?_) (fun hc => ?_)
        · have hf := b_p hf hc
          refine lv_iinc (v := (v3 + (1 : Int32))) (lv' := [(3, .int (v3 + (1 : Int32))), (0, .int v0), (1, .int v1), (2, .int v2)]) hx hb dX9_memberAt_28 hl (k := 3) rfl rfl (by decide) rfl (fun ls hl => ?_)
          refine lv_goto (tgt := 4) hx hb dX9_memberAt_31 rfl ?_
          exact ih4 v0 v1 v2 (v3 + (1 : Int32)) _ _ _  hf (lv_sub hl [1, 2, 3, 0] rfl) hP hS
        · have hf := b_n hf hc
          refine lv_iload_n hx hb dX9_memberAt_18 rfl (lv_at hl 2 rfl) ?_
          refine lv_iload_n hx hb dX9_memberAt_19 rfl (lv_at hl 1 rfl) ?_
          refine lv_icmp_ne (tgt := 25) hx hb dX9_memberAt_20 rfl (fun hc => ?_) (fun hc => ?_)
          · have hf := b_n hf hc
            refine lv_iinc (v := (v2 + (1 : Int32))) (lv' := [(2, .int (v2 + (1 : Int32))), (0, .int v0), (1, .int v1), (3, .int v3)]) hx hb dX9_memberAt_25 hl (k := 2) rfl rfl (by decide) rfl (fun ls hl => ?_)
            refine lv_iinc (v := (v3 + (1 : Int32))) (lv' := [(3, .int (v3 + (1 : Int32))), (2, .int (v2 + (1 : Int32))), (0, .int v0), (1, .int v1)]) hx hb dX9_memberAt_28 hl (k := 3) rfl rfl (by decide) rfl (fun ls hl => ?_)
            refine lv_goto (tgt := 4) hx hb dX9_memberAt_31 rfl ?_
            exact ih4 v0 v1 (v2 + (1 : Int32)) (v3 + (1 : Int32)) _ _ _  hf (lv_sub hl [2, 3, 1, 0] rfl) hP hS
          · have hf := b_p hf hc
            refine lv_iload_n hx hb dX9_memberAt_23 rfl (lv_at hl 3 rfl) ?_
            exact x_iret hx hb hr hlocks hK hP hS (Option.some.inj hf) rfl dX9_memberAt_24
  have c34 : ∀ (H : Heap) (locs : List Loc) (ls : Array Slot), X9_memberAt_c34 z  σ  = some res → lv_has ls 4 [] → va_P G vwCl (wld ad ca σ (LC z)) H → va_S A s.heap H locs → W p l e (headSpec wsX9_memberAt ({ frames := 0, cells := 0, slots := 0, locals := 0 })).room s m (([.int x0, .int x1] : List Value).toArray) below meth c H locs 0 0 (MQ below (va_Qi (fun r' u => r' = res ∧ u = σ) (ctB G ad ca (LC z)) A) (([.int x0, .int x1] : List Value).toArray) s 0 0 A) (F0 m 34 ls []) := by
    intro H locs ls hf hl hP hS
    unfold X9_memberAt_c34 at hf
    refine lv_iconst (v := (-1 : Int32)) hx hb dX9_memberAt_34 rfl ?_
    exact x_iret hx hb hr hlocks hK hP hS (Option.some.inj hf) rfl dX9_memberAt_35
  refine lv_iconst (v := (0 : Int32)) hx hb dX9_memberAt_0 rfl ?_
  refine lv_istore_n (lv' := [(2, .int (0 : Int32)), (0, .int x0), (1, .int x1)]) hx hb dX9_memberAt_1 rfl hl (by decide) rfl (fun ls hl => ?_)
  refine lv_iconst (v := (0 : Int32)) hx hb dX9_memberAt_2 rfl ?_
  refine lv_istore_n (lv' := [(3, .int (0 : Int32)), (2, .int (0 : Int32)), (0, .int x0), (1, .int x1)]) hx hb dX9_memberAt_3 rfl hl (by decide) rfl (fun ls hl => ?_)
  exact l4 _ c34 _ x0 x1 (0 : Int32) (0 : Int32) _ _ _  hf (lv_sub hl [2, 3, 1, 0] rfl) hP hS
theorem h9_X1_putInOrder : yX1_putInOrder.cls = RX1 ∧ yX1_putInOrder.cls ≠ "java/lang/invoke/MethodHandle" ∧ yX1_putInOrder.cls ≠ "java/lang/invoke/VarHandle" ∧ (parseMethodDescriptor yX1_putInOrder.desc).map (fun d => d.parameters.length) = some 0 := by decide +kernel
set_option maxRecDepth 100000 in
set_option maxHeartbeats 4000000 in
theorem t_X1_putInOrder (l : Launch) (G : va_G) (ad : Nat → Nat → Nat) (ca : Nat → ClassId) (A : Nat → Prop) (z : Nat × Nat) (n0 : Nat) (hD : DW ad (LC z) A) (hn0 : n0 < z.1) (σ : PS) (res : PS) (hf : X1_putInOrder z n0  σ = some res) : Met l yX1_putInOrder wsX1_putInOrder ({ frames := 1, cells := 0, slots := 0, locals := 23 }) (ctP G ad ca (LC z) σ ZC [.ref (ad 50 n0)]) (va_Qv (fun u => u = res) (ctB G ad ca (LC z)) A) 0 0 A := by
  refine Met.ofW (cc := cX1_putInOrder) (maxL := 4) (ret := none) (by decide) rfl ?_
  intro p e s m args below meth c s₁ B hml hv
  obtain ⟨rfl, hP, hK, hz⟩ := hv
  have hx := B.exec
  have hb := B.bytes
  have hr := B.returns
  have hts : ∀ w ∈ WW, w.before _ s = true := fun w h => atoms_spec (ws := wsX1_putInOrder) B.pre w (List.mem_cons_of_mem _ h)
  have hown : s.vm.findClass RX1 = some m.cls := findClass_of_methodNamed B.named
  have hlocks := B.notSynchronized
  have hS : va_S A s.heap s.heap [] := va_S.rf
  have k_18 := hts _ kf_X1_18
  have k_31 := hts _ kf_X1_31
  have hl := lv_entry ([.ref (ad 50 n0)]) (n := 4) (Nat.le_of_ble_eq_true rfl)
  rw [lg_entry_eq]
  generalize (lg_sl ([.ref (ad 50 n0)]) ++ List.replicate (4 - (lg_sl ([.ref (ad 50 n0)])).length) Slot.unset).toArray = ls at hl ⊢
  have hl : lv_has ls 4 [(0, .ref (ad 50 n0))] := hl
  unfold X1_putInOrder at hf
  have l11 : ∀ (kx11 : PS → Option (PS)), (∀ (σ : PS) (H : Heap) (locs : List Loc) (ls : Array Slot), kx11 σ = some res → lv_has ls 4 [] → va_P G vwCl (wld ad ca σ (LC z)) H → va_S A s.heap H locs → W p l e (headSpec wsX1_putInOrder ({ frames := 1, cells := 0, slots := 0, locals := 23 })).room s m (([.ref (ad 50 n0)] : List Value).toArray) below meth c H locs 0 0 (MQ below (va_Qv (fun u => u = res) (ctB G ad ca (LC z)) A) (([.ref (ad 50 n0)] : List Value).toArray) s 0 0 A) (F0 m 54 ls [])) → ∀ (n11 : Nat) (v1 : Int32) (v2 : Int32) (σ : PS) (H : Heap) (locs : List Loc) (ls : Array Slot), X1_putInOrder_l11 z n0 kx11 n11 v1 v2 σ = some res → lv_has ls 4 [(0, .ref (ad 50 n0)), (1, .int v1), (2, .int v2)] → va_P G vwCl (wld ad ca σ (LC z)) H → va_S A s.heap H locs → W p l e (headSpec wsX1_putInOrder ({ frames := 1, cells := 0, slots := 0, locals := 23 })).room s m (([.ref (ad 50 n0)] : List Value).toArray) below meth c H locs 0 0 (MQ below (va_Qv (fun u => u = res) (ctB G ad ca (LC z)) A) (([.ref (ad 50 n0)] : List Value).toArray) s 0 0 A) (F0 m 11 ls []) := by
    intro kx11 hx11 n11
    induction n11 with
    | zero =>
      intro v1 v2 σ H locs ls hf
      exact absurd hf (by simp [X1_putInOrder_l11])
    | succ n11 ih11 =>
      intro v1 v2 σ H locs ls hf hl hP hS
      rw [X1_putInOrder_l11.eq_2] at hf
      refine lv_iload_n hx hb dX1_putInOrder_11 rfl (lv_at hl 2 rfl) ?_
      refine lv_aload_n hx hb dX1_putInOrder_12 rfl (lv_at hl 0 rfl) ?_
      refine x_get (k := 50) (n := n0) hx hb hts i_X1 hown hK hP (mk_50 hn0) rfl rfl 7 (by decide) rfl k_31 (v := .int (gI σ 50 n0 7)) rfl dX1_putInOrder_13 ?_
      refine lv_icmp_ge (tgt := 54) hx hb dX1_putInOrder_16 rfl (fun hc => ?_) (fun hc => ?_)
      · have hf := b_p hf hc
        exact hx11  σ _ _ _  hf (lv_sub hl [] rfl) hP hS
      · have hf := b_n hf hc
        refine lv_iload_n hx hb dX1_putInOrder_19 rfl (lv_at hl 1 rfl) ?_
        refine lv_aload_n hx hb dX1_putInOrder_20 rfl (lv_at hl 0 rfl) ?_
        refine lv_iload_n hx hb dX1_putInOrder_21 rfl (lv_at hl 1 rfl) ?_
        obtain ⟨r2, hc2, hf⟩ := bd_e hf
        refine x_ci (va_runV (As := [.int v1]) (rest := [.int v1]) ⟨hx, hb, hml, hown, hts⟩ (t_X1_beatenByAny l G ad ca A z n0 v1 hD hn0 σ r2 hc2) (cwV 1 hts gr_X1_76 rfl rfl rfl h9_X1_beatenByAny ⟨Nat.le_of_ble_eq_true rfl, Nat.le_of_ble_eq_true rfl⟩) (x_prV zkC hz hK hP (mk_50 hn0) rfl rfl) rfl rfl hl.1 rfl (lv_room (Nat.le_of_ble_eq_true rfl)) dX1_putInOrder_22 ⟨Nat.le_of_ble_eq_true rfl, Nat.le_of_ble_eq_true rfl⟩) hS (fun H locs hP hS => ?_)
        refine lv_iconst (v := (-1 : Int32)) hx hb dX1_putInOrder_25 rfl ?_
        refine lv_ixor hx hb dX1_putInOrder_26 ?_
        refine lv_iand hx hb dX1_putInOrder_27 ?_
        refine lv_iconst (v := (0 : Int32)) hx hb dX1_putInOrder_28 rfl ?_
        obtain ⟨r3, hc3, hf⟩ := bd_e hf
        refine x_ci (va_runSN (As := [.int (v1 &&& (r2 ^^^ (-1 : Int32))), .int (0 : Int32)]) (rest := []) ⟨hx, hb, hml, hown, hts⟩ (t_X9_memberAt l G ad ca A z (v1 &&& (r2 ^^^ (-1 : Int32))) (0 : Int32) hD  σ r3 hc3) ⟨va_cnB 2 hts (gw_0 kc_X9_memberAt) rfl rfl rfl (nw_80 hz) (hts _ kz_X9) h9_X9_memberAt ⟨Nat.le_of_ble_eq_true rfl, Nat.le_of_ble_eq_true rfl⟩, hts _ kt_X9_memberAt, trivial⟩ (x_prS zkC hz hK hP) rfl rfl hl.1 rfl (lv_room (Nat.le_of_ble_eq_true rfl)) dX1_putInOrder_29 ⟨Nat.le_of_ble_eq_true rfl, Nat.le_of_ble_eq_true rfl⟩) hS (fun H locs hP hS => ?_)
        refine lv_istore_n (lv' := [(3, .int r3), (0, .ref (ad 50 n0)), (1, .int v1), (2, .int v2)]) hx hb dX1_putInOrder_32 rfl hl (by decide) rfl (fun ls hl => ?_)
        refine lv_aload_n hx hb dX1_putInOrder_33 rfl (lv_at hl 1 rfl) ?_
        refine x_get (k := 50) (n := n0) hx hb hts i_X1 hown hK hP (mk_50 hn0) rfl rfl 4 (by decide) rfl k_18 (v := .ref (ad 55 n0)) rfl dX1_putInOrder_34 ?_
        refine lv_iload_n hx hb dX1_putInOrder_37 rfl (lv_at hl 3 rfl) ?_
        refine lv_iload_n hx hb dX1_putInOrder_38 rfl (lv_at hl 0 rfl) ?_
        obtain ⟨g4, hf⟩ := gd_e hf
        refine x_iast (k := 55) (n := n0) hx hb hK hD hP hS (mk_55 hn0) rfl g4 dX1_putInOrder_39 (fun H locs hP hS => ?_)
        obtain ⟨σ5, e_σ5, hf⟩ := nm_i hf
        have hP : va_P G vwCl (wld ad ca σ5 (LC z)) H := by rw [e_σ5]; exact hP
        refine lv_iload_n hx hb dX1_putInOrder_40 rfl (lv_at hl 2 rfl) ?_
        refine lv_iconst (v := (1 : Int32)) hx hb dX1_putInOrder_41 rfl ?_
        refine lv_iload_n hx hb dX1_putInOrder_42 rfl (lv_at hl 0 rfl) ?_
        refine lv_ishl hx hb dX1_putInOrder_43 ?_
        refine lv_iconst (v := (-1 : Int32)) hx hb dX1_putInOrder_44 rfl ?_
        refine lv_ixor hx hb dX1_putInOrder_45 ?_
        refine lv_iand hx hb dX1_putInOrder_46 ?_
        obtain ⟨y6, e_y6, hf⟩ := nm_i hf
        refine x_nmI e_y6 ?_
        refine lv_istore_n (lv' := [(1, .int y6), (3, .int r3), (0, .ref (ad 50 n0)), (2, .int v2)]) hx hb dX1_putInOrder_47 rfl hl (by decide) rfl (fun ls hl => ?_)
        refine lv_iinc (v := (v2 + (1 : Int32))) (lv' := [(2, .int (v2 + (1 : Int32))), (1, .int y6), (3, .int r3), (0, .ref (ad 50 n0))]) hx hb dX1_putInOrder_48 hl (k := 3) rfl rfl (by decide) rfl (fun ls hl => ?_)
        refine lv_goto (tgt := 11) hx hb dX1_putInOrder_51 rfl ?_
        exact ih11 y6 (v2 + (1 : Int32)) σ5 _ _ _  hf (lv_sub hl [3, 1, 0] rfl) hP hS
  have c54 : ∀ (σ : PS) (H : Heap) (locs : List Loc) (ls : Array Slot), X1_putInOrder_c54 z n0  σ = some res → lv_has ls 4 [] → va_P G vwCl (wld ad ca σ (LC z)) H → va_S A s.heap H locs → W p l e (headSpec wsX1_putInOrder ({ frames := 1, cells := 0, slots := 0, locals := 23 })).room s m (([.ref (ad 50 n0)] : List Value).toArray) below meth c H locs 0 0 (MQ below (va_Qv (fun u => u = res) (ctB G ad ca (LC z)) A) (([.ref (ad 50 n0)] : List Value).toArray) s 0 0 A) (F0 m 54 ls []) := by
    intro σ H locs ls hf hl hP hS
    unfold X1_putInOrder_c54 at hf
    exact x_vret hx hb hr hlocks hK hP hS (Option.some.inj hf) dX1_putInOrder_54
  refine lv_iconst (v := (1 : Int32)) hx hb dX1_putInOrder_0 rfl ?_
  refine lv_aload_n hx hb dX1_putInOrder_1 rfl (lv_at hl 0 rfl) ?_
  refine x_get (k := 50) (n := n0) hx hb hts i_X1 hown hK hP (mk_50 hn0) rfl rfl 7 (by decide) rfl k_31 (v := .int (gI σ 50 n0 7)) rfl dX1_putInOrder_2 ?_
  refine lv_ishl hx hb dX1_putInOrder_5 ?_
  refine lv_iconst (v := (1 : Int32)) hx hb dX1_putInOrder_6 rfl ?_
  refine lv_isub hx hb dX1_putInOrder_7 ?_
  obtain ⟨y1, e_y1, hf⟩ := nm_i hf
  refine x_nmI e_y1 ?_
  refine lv_istore_n (lv' := [(1, .int y1), (0, .ref (ad 50 n0))]) hx hb dX1_putInOrder_8 rfl hl (by decide) rfl (fun ls hl => ?_)
  refine lv_iconst (v := (0 : Int32)) hx hb dX1_putInOrder_9 rfl ?_
  refine lv_istore_n (lv' := [(2, .int (0 : Int32)), (1, .int y1), (0, .ref (ad 50 n0))]) hx hb dX1_putInOrder_10 rfl hl (by decide) rfl (fun ls hl => ?_)
  exact l11 _ c54 _ y1 (0 : Int32) σ _ _ _  hf (lv_sub hl [2, 1, 0] rfl) hP hS
theorem h9_X4_forget : yX4_forget.cls = RX4 ∧ yX4_forget.cls ≠ "java/lang/invoke/MethodHandle" ∧ yX4_forget.cls ≠ "java/lang/invoke/VarHandle" ∧ (parseMethodDescriptor yX4_forget.desc).map (fun d => d.parameters.length) = some 0 := by decide +kernel
set_option maxRecDepth 100000 in
set_option maxHeartbeats 4000000 in
theorem t_X4_forget (l : Launch) (G : va_G) (ad : Nat → Nat → Nat) (ca : Nat → ClassId) (A : Nat → Prop) (z : Nat × Nat) (n0 : Nat) (hD : DW ad (LC z) A) (hn0 : n0 < z.1) (σ : PS) (res : PS) (hf : X4_forget z n0  σ = some res) : Met l yX4_forget wsX4_forget ({ frames := 0, cells := 0, slots := 0, locals := 0 }) (ctP G ad ca (LC z) σ ZC [.ref (ad 200 n0)]) (va_Qv (fun u => u = res) (ctB G ad ca (LC z)) A) 0 0 A := by
  refine Met.ofW (cc := cX4_forget) (maxL := 1) (ret := none) (by decide) rfl ?_
  intro p e s m args below meth c s₁ B hml hv
  obtain ⟨rfl, hP, hK, hz⟩ := hv
  have hx := B.exec
  have hb := B.bytes
  have hr := B.returns
  have hts : ∀ w ∈ WW, w.before _ s = true := fun w h => atoms_spec (ws := wsX4_forget) B.pre w (List.mem_cons_of_mem _ h)
  have hown : s.vm.findClass RX4 = some m.cls := findClass_of_methodNamed B.named
  have hlocks := B.notSynchronized
  have hS : va_S A s.heap s.heap [] := va_S.rf
  have k_29 := hts _ kf_X4_29
  have hl := lv_entry ([.ref (ad 200 n0)]) (n := 1) (Nat.le_of_ble_eq_true rfl)
  rw [lg_entry_eq]
  generalize (lg_sl ([.ref (ad 200 n0)]) ++ List.replicate (1 - (lg_sl ([.ref (ad 200 n0)])).length) Slot.unset).toArray = ls at hl ⊢
  have hl : lv_has ls 1 [(0, .ref (ad 200 n0))] := hl
  unfold X4_forget at hf
  refine lv_aload_n hx hb dX4_forget_0 rfl (lv_at hl 0 rfl) ?_
  refine lv_iconst (v := (0 : Int32)) hx hb dX4_forget_1 rfl ?_
  refine x_putI (k := 200) (n := n0) hx hb hts i_X4 tyX4 tyX4_ok nmX4 hown hK hD hP hS (mk_200 hn0) rfl rfl 5 (by decide) rfl k_29 rfl rfl rfl rfl dX4_forget_2 (fun H locs hP hS => ?_)
  obtain ⟨σ1, e_σ1, hf⟩ := nm_i hf
  have hP : va_P G vwCl (wld ad ca σ1 (LC z)) H := by rw [e_σ1]; exact hP
  exact x_vret hx hb hr hlocks hK hP hS (Option.some.inj hf) dX4_forget_5
theorem h9_X1_compareLaid : yX1_compareLaid.cls = RX1 ∧ yX1_compareLaid.cls ≠ "java/lang/invoke/MethodHandle" ∧ yX1_compareLaid.cls ≠ "java/lang/invoke/VarHandle" ∧ (parseMethodDescriptor yX1_compareLaid.desc).map (fun d => d.parameters.length) = some 0 := by decide +kernel
set_option maxRecDepth 100000 in
set_option maxHeartbeats 4000000 in
theorem t_X1_compareLaid (l : Launch) (G : va_G) (ad : Nat → Nat → Nat) (ca : Nat → ClassId) (A : Nat → Prop) (z : Nat × Nat) (n0 : Nat) (hD : DW ad (LC z) A) (hn0 : n0 < z.1) (σ : PS) (res : PS) (hf : X1_compareLaid z n0  σ = some res) : Met l yX1_compareLaid wsX1_compareLaid ({ frames := 3, cells := 0, slots := 0, locals := 67 }) (ctP G ad ca (LC z) σ ZC [.ref (ad 50 n0)]) (va_Qv (fun u => u = res) (ctB G ad ca (LC z)) A) 0 0 A := by
  refine Met.ofW (cc := cX1_compareLaid) (maxL := 3) (ret := none) (by decide) rfl ?_
  intro p e s m args below meth c s₁ B hml hv
  obtain ⟨rfl, hP, hK, hz⟩ := hv
  have hx := B.exec
  have hb := B.bytes
  have hr := B.returns
  have hts : ∀ w ∈ WW, w.before _ s = true := fun w h => atoms_spec (ws := wsX1_compareLaid) B.pre w (List.mem_cons_of_mem _ h)
  have hown : s.vm.findClass RX1 = some m.cls := findClass_of_methodNamed B.named
  have hlocks := B.notSynchronized
  have hS : va_S A s.heap s.heap [] := va_S.rf
  have k_12 := hts _ kf_X1_12
  have k_24 := hts _ kf_X1_24
  have k_28 := hts _ kf_X1_28
  have k_31 := hts _ kf_X1_31
  have k_35 := hts _ kf_X1_35
  have k_57 := hts _ kf_X1_57
  have hl := lv_entry ([.ref (ad 50 n0)]) (n := 3) (Nat.le_of_ble_eq_true rfl)
  rw [lg_entry_eq]
  generalize (lg_sl ([.ref (ad 50 n0)]) ++ List.replicate (3 - (lg_sl ([.ref (ad 50 n0)])).length) Slot.unset).toArray = ls at hl ⊢
  have hl : lv_has ls 3 [(0, .ref (ad 50 n0))] := hl
  unfold X1_compareLaid at hf
  have l7 : ∀ (kx7 : PS → Option (PS)), (∀ (σ : PS) (H : Heap) (locs : List Loc) (ls : Array Slot), kx7 σ = some res → lv_has ls 3 [(0, .ref (ad 50 n0))] → va_P G vwCl (wld ad ca σ (LC z)) H → va_S A s.heap H locs → W p l e (headSpec wsX1_compareLaid ({ frames := 3, cells := 0, slots := 0, locals := 67 })).room s m (([.ref (ad 50 n0)] : List Value).toArray) below meth c H locs 0 0 (MQ below (va_Qv (fun u => u = res) (ctB G ad ca (LC z)) A) (([.ref (ad 50 n0)] : List Value).toArray) s 0 0 A) (F0 m 98 ls [])) → ∀ (n7 : Nat) (v1 : Int32) (σ : PS) (H : Heap) (locs : List Loc) (ls : Array Slot), X1_compareLaid_l7 z n0 kx7 n7 v1 σ = some res → lv_has ls 3 [(0, .ref (ad 50 n0)), (1, .int v1)] → va_P G vwCl (wld ad ca σ (LC z)) H → va_S A s.heap H locs → W p l e (headSpec wsX1_compareLaid ({ frames := 3, cells := 0, slots := 0, locals := 67 })).room s m (([.ref (ad 50 n0)] : List Value).toArray) below meth c H locs 0 0 (MQ below (va_Qv (fun u => u = res) (ctB G ad ca (LC z)) A) (([.ref (ad 50 n0)] : List Value).toArray) s 0 0 A) (F0 m 7 ls []) := by
    intro kx7 hx7 n7
    induction n7 with
    | zero =>
      intro v1 σ H locs ls hf
      exact absurd hf (by simp [X1_compareLaid_l7])
    | succ n7 ih7 =>
      intro v1 σ H locs ls hf hl hP hS
      rw [X1_compareLaid_l7.eq_2] at hf
      have l48 : ∀ (kx48 : Int32 → PS → Option (PS)), (∀ (v1 : Int32) (σ : PS) (H : Heap) (locs : List Loc) (ls : Array Slot), kx48 v1 σ = some res → lv_has ls 3 [(0, .ref (ad 50 n0)), (1, .int v1)] → va_P G vwCl (wld ad ca σ (LC z)) H → va_S A s.heap H locs → W p l e (headSpec wsX1_compareLaid ({ frames := 3, cells := 0, slots := 0, locals := 67 })).room s m (([.ref (ad 50 n0)] : List Value).toArray) below meth c H locs 0 0 (MQ below (va_Qv (fun u => u = res) (ctB G ad ca (LC z)) A) (([.ref (ad 50 n0)] : List Value).toArray) s 0 0 A) (F0 m 92 ls [])) → ∀ (n48 : Nat) (v1 : Int32) (v2 : Int32) (σ : PS) (H : Heap) (locs : List Loc) (ls : Array Slot), X1_compareLaid_l48 z n0 kx48 n48 v1 v2 σ = some res → lv_has ls 3 [(0, .ref (ad 50 n0)), (1, .int v1), (2, .int v2)] → va_P G vwCl (wld ad ca σ (LC z)) H → va_S A s.heap H locs → W p l e (headSpec wsX1_compareLaid ({ frames := 3, cells := 0, slots := 0, locals := 67 })).room s m (([.ref (ad 50 n0)] : List Value).toArray) below meth c H locs 0 0 (MQ below (va_Qv (fun u => u = res) (ctB G ad ca (LC z)) A) (([.ref (ad 50 n0)] : List Value).toArray) s 0 0 A) (F0 m 48 ls []) := by
        intro kx48 hx48 n48
        induction n48 with
        | zero =>
          intro v1 v2 σ H locs ls hf
          exact absurd hf (by simp [X1_compareLaid_l48])
        | succ n48 ih48 =>
          intro v1 v2 σ H locs ls hf hl hP hS
          rw [X1_compareLaid_l48.eq_2] at hf
          refine lv_iload_n hx hb dX1_compareLaid_48 rfl (lv_at hl 2 rfl) ?_
          refine lv_aload_n hx hb dX1_compareLaid_49 rfl (lv_at hl 0 rfl) ?_
          refine x_get (k := 50) (n := n0) hx hb hts i_X1 hown hK hP (mk_50 hn0) rfl rfl 7 (by decide) rfl k_31 (v := .int (gI σ 50 n0 7)) rfl dX1_compareLaid_50 ?_
          refine lv_icmp_ge (tgt := 92) hx hb dX1_compareLaid_53 rfl (fun hc => ?_) (fun hc => ?_)
          · have hf := b_p hf hc
            exact hx48 v1 σ _ _ _  hf (lv_sub hl [0, 1] rfl) hP hS
          · have hf := b_n hf hc
            refine lv_aload_n hx hb dX1_compareLaid_56 rfl (lv_at hl 0 rfl) ?_
            refine x_get (k := 50) (n := n0) hx hb hts i_X1 hown hK hP (mk_50 hn0) rfl rfl 5 (by decide) rfl k_24 (v := .ref (ad 56 n0)) rfl dX1_compareLaid_57 ?_
            refine lv_iload_n hx hb dX1_compareLaid_60 rfl (lv_at hl 1 rfl) ?_
            obtain ⟨g7, hf⟩ := gd_e hf
            obtain ⟨o8, e_o8, hf⟩ := nm_i hf
            refine x_aald (k := 56) (n := n0) (t := 100) hx hb hK hP (mk_56 hn0) (by decide) g7 dX1_compareLaid_61 e_o8 ?_
            refine lv_aload_n hx hb dX1_compareLaid_62 rfl (lv_at hl 0 rfl) ?_
            refine x_get (k := 50) (n := n0) hx hb hts i_X1 hown hK hP (mk_50 hn0) rfl rfl 5 (by decide) rfl k_24 (v := .ref (ad 56 n0)) rfl dX1_compareLaid_63 ?_
            refine lv_iload_n hx hb dX1_compareLaid_66 rfl (lv_at hl 2 rfl) ?_
            obtain ⟨g9, hf⟩ := gd_e hf
            obtain ⟨o10, e_o10, hf⟩ := nm_i hf
            refine x_aald (k := 56) (n := n0) (t := 100) hx hb hK hP (mk_56 hn0) (by decide) g9 dX1_compareLaid_67 e_o10 ?_
            obtain ⟨q11, e_q11, h_q11, hf9⟩ := dr_e hf
            clear hf
            subst e_q11
            have hf := hf9
            clear hf9
            obtain ⟨q12, e_q12, h_q12, hf9⟩ := dr_e hf
            clear hf
            subst e_q12
            have hf := hf9
            clear hf9
            obtain ⟨r13, hc13, hf⟩ := bd_e hf
            refine x_ci (va_runV (As := [.ref (ad 100 q11)]) (rest := []) ⟨hx, hb, hml, hown, hts⟩ (t_X2_isMoreSpecific l G ad ca A z q12 q11 hD h_q12 h_q11 σ r13 hc13) (cwV 1 hts gr_X1_67 rfl rfl rfl h9_X2_isMoreSpecific ⟨Nat.le_of_ble_eq_true rfl, Nat.le_of_ble_eq_true rfl⟩) (x_prV zkC hz hK hP (mk_100 h_q12) rfl rfl) rfl rfl hl.1 rfl (lv_room (Nat.le_of_ble_eq_true rfl)) dX1_compareLaid_68 ⟨Nat.le_of_ble_eq_true rfl, Nat.le_of_ble_eq_true rfl⟩) hS (fun H locs hP hS => ?_)
            refine lv_if_eq (tgt := 86) hx hb dX1_compareLaid_71 rfl (fun hc => ?_) (fun hc => ?_)
            · have hf := b_p hf hc
              refine lv_iinc (v := (v2 + (1 : Int32))) (lv' := [(2, .int (v2 + (1 : Int32))), (0, .ref (ad 50 n0)), (1, .int v1)]) hx hb dX1_compareLaid_86 hl (k := 2) rfl rfl (by decide) rfl (fun ls hl => ?_)
              refine lv_goto (tgt := 48) hx hb dX1_compareLaid_89 rfl ?_
              exact ih48 v1 (v2 + (1 : Int32)) σ _ _ _  hf (lv_sub hl [1, 2, 0] rfl) hP hS
            · have hf := b_n hf hc
              refine lv_aload_n hx hb dX1_compareLaid_74 rfl (lv_at hl 0 rfl) ?_
              refine x_get (k := 50) (n := n0) hx hb hts i_X1 hown hK hP (mk_50 hn0) rfl rfl 6 (by decide) rfl k_28 (v := .ref (ad 57 n0)) rfl dX1_compareLaid_75 ?_
              refine lv_iload_n hx hb dX1_compareLaid_78 rfl (lv_at hl 1 rfl) ?_
              refine lv_dup2_11 hx hb dX1_compareLaid_79 rfl rfl ?_
              obtain ⟨g14, hf⟩ := gd_e hf
              refine x_iald (k := 57) (n := n0) hx hb hK hP (mk_57 hn0) rfl g14 dX1_compareLaid_80 ?_
              refine lv_iconst (v := (1 : Int32)) hx hb dX1_compareLaid_81 rfl ?_
              refine lv_iload_n hx hb dX1_compareLaid_82 rfl (lv_at hl 2 rfl) ?_
              refine lv_ishl hx hb dX1_compareLaid_83 ?_
              refine lv_ior hx hb dX1_compareLaid_84 ?_
              obtain ⟨g15, hf⟩ := gd_e hf
              refine x_iast (k := 57) (n := n0) hx hb hK hD hP hS (mk_57 hn0) rfl g15 dX1_compareLaid_85 (fun H locs hP hS => ?_)
              obtain ⟨σ16, e_σ16, hf⟩ := nm_i hf
              have hP : va_P G vwCl (wld ad ca σ16 (LC z)) H := by rw [e_σ16]; exact hP
              refine lv_iinc (v := (v2 + (1 : Int32))) (lv' := [(2, .int (v2 + (1 : Int32))), (0, .ref (ad 50 n0)), (1, .int v1)]) hx hb dX1_compareLaid_86 hl (k := 2) rfl rfl (by decide) rfl (fun ls hl => ?_)
              refine lv_goto (tgt := 48) hx hb dX1_compareLaid_89 rfl ?_
              exact ih48 v1 (v2 + (1 : Int32)) σ16 _ _ _  hf (lv_sub hl [1, 2, 0] rfl) hP hS
      have c92 : ∀ (v1 : Int32) (σ : PS) (H : Heap) (locs : List Loc) (ls : Array Slot), X1_compareLaid_c92 z n0 (X1_compareLaid_l7 z n0 kx7 n7) kx7 v1 σ = some res → lv_has ls 3 [(0, .ref (ad 50 n0)), (1, .int v1)] → va_P G vwCl (wld ad ca σ (LC z)) H → va_S A s.heap H locs → W p l e (headSpec wsX1_compareLaid ({ frames := 3, cells := 0, slots := 0, locals := 67 })).room s m (([.ref (ad 50 n0)] : List Value).toArray) below meth c H locs 0 0 (MQ below (va_Qv (fun u => u = res) (ctB G ad ca (LC z)) A) (([.ref (ad 50 n0)] : List Value).toArray) s 0 0 A) (F0 m 92 ls []) := by
        intro v1 σ H locs ls hf hl hP hS
        unfold X1_compareLaid_c92 at hf
        refine lv_iinc (v := (v1 + (1 : Int32))) (lv' := [(1, .int (v1 + (1 : Int32))), (0, .ref (ad 50 n0))]) hx hb dX1_compareLaid_92 hl (k := 1) rfl rfl (by decide) rfl (fun ls hl => ?_)
        refine lv_goto (tgt := 7) hx hb dX1_compareLaid_95 rfl ?_
        exact ih7 (v1 + (1 : Int32)) σ _ _ _  hf (lv_sub hl [1, 0] rfl) hP hS
      have c46 : ∀ (v1 : Int32) (σ : PS) (H : Heap) (locs : List Loc) (ls : Array Slot), X1_compareLaid_c46 z n0 (X1_compareLaid_l7 z n0 kx7 n7) kx7 v1 σ = some res → lv_has ls 3 [(0, .ref (ad 50 n0)), (1, .int v1)] → va_P G vwCl (wld ad ca σ (LC z)) H → va_S A s.heap H locs → W p l e (headSpec wsX1_compareLaid ({ frames := 3, cells := 0, slots := 0, locals := 67 })).room s m (([.ref (ad 50 n0)] : List Value).toArray) below meth c H locs 0 0 (MQ below (va_Qv (fun u => u = res) (ctB G ad ca (LC z)) A) (([.ref (ad 50 n0)] : List Value).toArray) s 0 0 A) (F0 m 46 ls []) := by
        intro v1 σ H locs ls hf hl hP hS
        unfold X1_compareLaid_c46 at hf
        refine lv_iconst (v := (0 : Int32)) hx hb dX1_compareLaid_46 rfl ?_
        refine lv_istore_n (lv' := [(2, .int (0 : Int32)), (0, .ref (ad 50 n0)), (1, .int v1)]) hx hb dX1_compareLaid_47 rfl hl (by decide) rfl (fun ls hl => ?_)
        exact l48 _ c92 _ v1 (0 : Int32) σ _ _ _  hf (lv_sub hl [1, 2, 0] rfl) hP hS
      refine lv_iload_n hx hb dX1_compareLaid_7 rfl (lv_at hl 1 rfl) ?_
      refine lv_aload_n hx hb dX1_compareLaid_8 rfl (lv_at hl 0 rfl) ?_
      refine x_get (k := 50) (n := n0) hx hb hts i_X1 hown hK hP (mk_50 hn0) rfl rfl 7 (by decide) rfl k_31 (v := .int (gI σ 50 n0 7)) rfl dX1_compareLaid_9 ?_
      refine lv_icmp_ge (tgt := 98) hx hb dX1_compareLaid_12 rfl (fun hc => ?_) (fun hc => ?_)
      · have hf := b_p hf hc
        exact hx7  σ _ _ _  hf (lv_sub hl [0] rfl) hP hS
      · have hf := b_n hf hc
        refine lv_aload_n hx hb dX1_compareLaid_15 rfl (lv_at hl 0 rfl) ?_
        refine x_get (k := 50) (n := n0) hx hb hts i_X1 hown hK hP (mk_50 hn0) rfl rfl 6 (by decide) rfl k_28 (v := .ref (ad 57 n0)) rfl dX1_compareLaid_16 ?_
        refine lv_iload_n hx hb dX1_compareLaid_19 rfl (lv_at hl 1 rfl) ?_
        refine lv_iconst (v := (0 : Int32)) hx hb dX1_compareLaid_20 rfl ?_
        obtain ⟨g2, hf⟩ := gd_e hf
        refine x_iast (k := 57) (n := n0) hx hb hK hD hP hS (mk_57 hn0) rfl g2 dX1_compareLaid_21 (fun H locs hP hS => ?_)
        obtain ⟨σ3, e_σ3, hf⟩ := nm_i hf
        have hP : va_P G vwCl (wld ad ca σ3 (LC z)) H := by rw [e_σ3]; exact hP
        refine lv_aload_n hx hb dX1_compareLaid_22 rfl (lv_at hl 0 rfl) ?_
        refine x_get (k := 50) (n := n0) hx hb hts i_X1 hown hK hP (mk_50 hn0) rfl rfl 5 (by decide) rfl k_24 (v := .ref (ad 56 n0)) rfl dX1_compareLaid_23 ?_
        refine lv_iload_n hx hb dX1_compareLaid_26 rfl (lv_at hl 1 rfl) ?_
        obtain ⟨g4, hf⟩ := gd_e hf
        obtain ⟨o5, e_o5, hf⟩ := nm_i hf
        refine x_aald (k := 56) (n := n0) (t := 100) hx hb hK hP (mk_56 hn0) (by decide) g4 dX1_compareLaid_27 e_o5 ?_
        obtain ⟨q6, e_q6, h_q6, hf9⟩ := dr_e hf
        clear hf
        subst e_q6
        have hf := hf9
        clear hf9
        refine x_get (k := 100) (n := q6) hx hb hts i_X2 hown hK hP (mk_100 h_q6) rfl rfl 4 (by decide) rfl k_57 (v := .int (gI σ3 100 q6 4)) rfl dX1_compareLaid_28 ?_
        refine lv_if_ne (tgt := 46) hx hb dX1_compareLaid_31 rfl (fun hc => ?_) (fun hc => ?_)
        · have hf := b_n hf hc
          exact c46 v1 σ3 _ _ _  hf (lv_sub hl [0, 1] rfl) hP hS
        · have hf := b_p hf hc
          refine lv_aload_n hx hb dX1_compareLaid_34 rfl (lv_at hl 0 rfl) ?_
          refine lv_dup hx hb dX1_compareLaid_35 rfl ?_
          refine x_get (k := 50) (n := n0) hx hb hts i_X1 hown hK hP (mk_50 hn0) rfl rfl 8 (by decide) rfl k_35 (v := .int (gI σ3 50 n0 8)) rfl dX1_compareLaid_36 ?_
          refine lv_iconst (v := (1 : Int32)) hx hb dX1_compareLaid_39 rfl ?_
          refine lv_iload_n hx hb dX1_compareLaid_40 rfl (lv_at hl 1 rfl) ?_
          refine lv_ishl hx hb dX1_compareLaid_41 ?_
          refine lv_ior hx hb dX1_compareLaid_42 ?_
          refine x_putI (k := 50) (n := n0) hx hb hts i_X1 tyX1 tyX1_ok nmX1 hown hK hD hP hS (mk_50 hn0) rfl rfl 8 (by decide) rfl k_35 rfl rfl rfl rfl dX1_compareLaid_43 (fun H locs hP hS => ?_)
          obtain ⟨σ17, e_σ17, hf⟩ := nm_i hf
          have hP : va_P G vwCl (wld ad ca σ17 (LC z)) H := by rw [e_σ17]; exact hP
          exact c46 v1 σ17 _ _ _  hf (lv_sub hl [0, 1] rfl) hP hS
  have c98 : ∀ (σ : PS) (H : Heap) (locs : List Loc) (ls : Array Slot), X1_compareLaid_c98 z n0  σ = some res → lv_has ls 3 [(0, .ref (ad 50 n0))] → va_P G vwCl (wld ad ca σ (LC z)) H → va_S A s.heap H locs → W p l e (headSpec wsX1_compareLaid ({ frames := 3, cells := 0, slots := 0, locals := 67 })).room s m (([.ref (ad 50 n0)] : List Value).toArray) below meth c H locs 0 0 (MQ below (va_Qv (fun u => u = res) (ctB G ad ca (LC z)) A) (([.ref (ad 50 n0)] : List Value).toArray) s 0 0 A) (F0 m 98 ls []) := by
    intro σ H locs ls hf hl hP hS
    unfold X1_compareLaid_c98 at hf
    refine lv_aload_n hx hb dX1_compareLaid_98 rfl (lv_at hl 0 rfl) ?_
    obtain ⟨σ18, hc18, hf⟩ := bd_e hf
    refine x_cv (va_runV (As := []) (rest := []) ⟨hx, hb, hml, hown, hts⟩ (t_X1_putInOrder l G ad ca A z n0 hD hn0 σ σ18 hc18) (cwV 0 hts gr_X1_70 rfl rfl rfl h9_X1_putInOrder ⟨Nat.le_of_ble_eq_true rfl, Nat.le_of_ble_eq_true rfl⟩) (x_prV zkC hz hK hP (mk_50 hn0) rfl rfl) rfl rfl hl.1 rfl (lv_room (Nat.le_of_ble_eq_true rfl)) dX1_compareLaid_99 ⟨Nat.le_of_ble_eq_true rfl, Nat.le_of_ble_eq_true rfl⟩) hS (fun H locs hP hS => ?_)
    refine lv_aload_n hx hb dX1_compareLaid_102 rfl (lv_at hl 0 rfl) ?_
    refine x_get (k := 50) (n := n0) hx hb hts i_X1 hown hK hP (mk_50 hn0) rfl rfl 3 (by decide) rfl k_12 (v := .ref (ad 200 n0)) rfl dX1_compareLaid_103 ?_
    obtain ⟨σ19, hc19, hf⟩ := bd_e hf
    refine x_cv (va_runV (As := []) (rest := []) ⟨hx, hb, hml, hown, hts⟩ (t_X4_forget l G ad ca A z n0 hD hn0 σ18 σ19 hc19) (cwV 0 hts gr_X1_73 rfl rfl rfl h9_X4_forget ⟨Nat.le_of_ble_eq_true rfl, Nat.le_of_ble_eq_true rfl⟩) (x_prV zkC hz hK hP (mk_200 hn0) rfl rfl) rfl rfl hl.1 rfl (lv_room (Nat.le_of_ble_eq_true rfl)) dX1_compareLaid_106 ⟨Nat.le_of_ble_eq_true rfl, Nat.le_of_ble_eq_true rfl⟩) hS (fun H locs hP hS => ?_)
    exact x_vret hx hb hr hlocks hK hP hS (Option.some.inj hf) dX1_compareLaid_109
  refine lv_aload_n hx hb dX1_compareLaid_0 rfl (lv_at hl 0 rfl) ?_
  refine lv_iconst (v := (0 : Int32)) hx hb dX1_compareLaid_1 rfl ?_
  refine x_putI (k := 50) (n := n0) hx hb hts i_X1 tyX1 tyX1_ok nmX1 hown hK hD hP hS (mk_50 hn0) rfl rfl 8 (by decide) rfl k_35 rfl rfl rfl rfl dX1_compareLaid_2 (fun H locs hP hS => ?_)
  obtain ⟨σ1, e_σ1, hf⟩ := nm_i hf
  have hP : va_P G vwCl (wld ad ca σ1 (LC z)) H := by rw [e_σ1]; exact hP
  refine lv_iconst (v := (0 : Int32)) hx hb dX1_compareLaid_5 rfl ?_
  refine lv_istore_n (lv' := [(1, .int (0 : Int32)), (0, .ref (ad 50 n0))]) hx hb dX1_compareLaid_6 rfl hl (by decide) rfl (fun ls hl => ?_)
  exact l7 _ c98 _ (0 : Int32) σ1 _ _ _  hf (lv_sub hl [1, 0] rfl) hP hS
theorem h9_X1_putLaid : yX1_putLaid.cls = RX1 ∧ yX1_putLaid.cls ≠ "java/lang/invoke/MethodHandle" ∧ yX1_putLaid.cls ≠ "java/lang/invoke/VarHandle" ∧ (parseMethodDescriptor yX1_putLaid.desc).map (fun d => d.parameters.length) = some 1 := by decide +kernel
set_option maxRecDepth 100000 in
set_option maxHeartbeats 4000000 in
theorem t_X1_putLaid (l : Launch) (G : va_G) (ad : Nat → Nat → Nat) (ca : Nat → ClassId) (A : Nat → Prop) (z : Nat × Nat) (n0 : Nat) (n1 : Nat) (hD : DW ad (LC z) A) (hn0 : n0 < z.1) (hn1 : n1 < z.2) (σ : PS) (res : Int32) (σz : PS) (hf : X1_putLaid z n0 n1 σ = some (res, σz)) : Met l yX1_putLaid wsX1_putLaid ({ frames := 4, cells := 0, slots := 0, locals := 89 }) (ctP G ad ca (LC z) σ ZC [.ref (ad 50 n0), .ref (ad 100 n1)]) (va_Qi (fun r' u => r' = res ∧ u = σz) (ctB G ad ca (LC z)) A) 0 0 A := by
  refine Met.ofW (cc := cX1_putLaid) (maxL := 3) (ret := (some .boolean)) (by decide) rfl ?_
  intro p e s m args below meth c s₁ B hml hv
  obtain ⟨rfl, hP, hK, hz⟩ := hv
  have hx := B.exec
  have hb := B.bytes
  have hr := B.returns
  have hts : ∀ w ∈ WW, w.before _ s = true := fun w h => atoms_spec (ws := wsX1_putLaid) B.pre w (List.mem_cons_of_mem _ h)
  have hown : s.vm.findClass RX1 = some m.cls := findClass_of_methodNamed B.named
  have hlocks := B.notSynchronized
  have hS : va_S A s.heap s.heap [] := va_S.rf
  have k_24 := hts _ kf_X1_24
  have k_31 := hts _ kf_X1_31
  have k_56 := hts _ kf_X1_56
  have hl := lv_entry ([.ref (ad 50 n0), .ref (ad 100 n1)]) (n := 3) (Nat.le_of_ble_eq_true rfl)
  rw [lg_entry_eq]
  generalize (lg_sl ([.ref (ad 50 n0), .ref (ad 100 n1)]) ++ List.replicate (3 - (lg_sl ([.ref (ad 50 n0), .ref (ad 100 n1)])).length) Slot.unset).toArray = ls at hl ⊢
  have hl : lv_has ls 3 [(0, .ref (ad 50 n0)), (1, .ref (ad 100 n1))] := hl
  unfold X1_putLaid at hf
  have l16 : ∀ (kx16 : Nat → Int32 → PS → Option (Int32 × PS)), (∀ (v1 : Nat) (v2 : Int32) (σ : PS) (H : Heap) (locs : List Loc) (ls : Array Slot), v1 < z.2 → kx16 v1 v2 σ = some (res, σz) → lv_has ls 3 [(0, .ref (ad 50 n0)), (1, .ref (ad 100 v1)), (2, .int v2)] → va_P G vwCl (wld ad ca σ (LC z)) H → va_S A s.heap H locs → W p l e (headSpec wsX1_putLaid ({ frames := 4, cells := 0, slots := 0, locals := 89 })).room s m (([.ref (ad 50 n0), .ref (ad 100 n1)] : List Value).toArray) below meth c H locs 0 0 (MQ below (va_Qi (fun r' u => r' = res ∧ u = σz) (ctB G ad ca (LC z)) A) (([.ref (ad 50 n0), .ref (ad 100 n1)] : List Value).toArray) s 0 0 A) (F0 m 58 ls [])) → ∀ (n16 : Nat) (v1 : Nat) (v2 : Int32) (σ : PS) (H : Heap) (locs : List Loc) (ls : Array Slot), v1 < z.2 → X1_putLaid_l16 z n0 kx16 n16 v1 v2 σ = some (res, σz) → lv_has ls 3 [(0, .ref (ad 50 n0)), (1, .ref (ad 100 v1)), (2, .int v2)] → va_P G vwCl (wld ad ca σ (LC z)) H → va_S A s.heap H locs → W p l e (headSpec wsX1_putLaid ({ frames := 4, cells := 0, slots := 0, locals := 89 })).room s m (([.ref (ad 50 n0), .ref (ad 100 n1)] : List Value).toArray) below meth c H locs 0 0 (MQ below (va_Qi (fun r' u => r' = res ∧ u = σz) (ctB G ad ca (LC z)) A) (([.ref (ad 50 n0), .ref (ad 100 n1)] : List Value).toArray) s 0 0 A) (F0 m 16 ls []) := by
    intro kx16 hx16 n16
    induction n16 with
    | zero =>
      intro v1 v2 σ H locs ls h_v1 hf
      exact absurd hf (by simp [X1_putLaid_l16])
    | succ n16 ih16 =>
      intro v1 v2 σ H locs ls h_v1 hf hl hP hS
      rw [X1_putLaid_l16.eq_2] at hf
      refine lv_iload_n hx hb dX1_putLaid_16 rfl (lv_at hl 2 rfl) ?_
      refine lv_if_le (tgt := 58) hx hb dX1_putLaid_17 rfl (fun hc => ?_) (fun hc => ?_)
      · have hf := b_p hf hc
        exact hx16 v1 v2 σ _ _ _ h_v1 hf (lv_sub hl [0, 1, 2] rfl) hP hS
      · have hf := b_n hf hc
        refine lv_aload_n hx hb dX1_putLaid_20 rfl (lv_at hl 0 rfl) ?_
        refine x_get (k := 50) (n := n0) hx hb hts i_X1 hown hK hP (mk_50 hn0) rfl rfl 5 (by decide) rfl k_24 (v := .ref (ad 56 n0)) rfl dX1_putLaid_21 ?_
        refine lv_iload_n hx hb dX1_putLaid_24 rfl (lv_at hl 2 rfl) ?_
        refine lv_iconst (v := (1 : Int32)) hx hb dX1_putLaid_25 rfl ?_
        refine lv_isub hx hb dX1_putLaid_26 ?_
        obtain ⟨g2, hf⟩ := gd_e hf
        obtain ⟨o3, e_o3, hf⟩ := nm_i hf
        refine x_aald (k := 56) (n := n0) (t := 100) hx hb hK hP (mk_56 hn0) (by decide) g2 dX1_putLaid_27 e_o3 ?_
        obtain ⟨q4, e_q4, h_q4, hf9⟩ := dr_e hf
        clear hf
        subst e_q4
        have hf := hf9
        clear hf9
        refine x_get (k := 100) (n := q4) hx hb hts i_X2 hown hK hP (mk_100 h_q4) rfl rfl 1 (by decide) rfl k_56 (v := .int (gI σ 100 q4 1)) rfl dX1_putLaid_28 ?_
        refine lv_aload_n hx hb dX1_putLaid_31 rfl (lv_at hl 1 rfl) ?_
        refine x_get (k := 100) (n := v1) hx hb hts i_X2 hown hK hP (mk_100 h_v1) rfl rfl 1 (by decide) rfl k_56 (v := .int (gI σ 100 v1 1)) rfl dX1_putLaid_32 ?_
        refine lv_icmp_le (tgt := 58) hx hb dX1_putLaid_35 rfl (fun hc => ?_) (fun hc => ?_)
        · have hf := b_p hf hc
          exact hx16 v1 v2 σ _ _ _ h_v1 hf (lv_sub hl [0, 1, 2] rfl) hP hS
        · have hf := b_n hf hc
          refine lv_aload_n hx hb dX1_putLaid_38 rfl (lv_at hl 0 rfl) ?_
          refine x_get (k := 50) (n := n0) hx hb hts i_X1 hown hK hP (mk_50 hn0) rfl rfl 5 (by decide) rfl k_24 (v := .ref (ad 56 n0)) rfl dX1_putLaid_39 ?_
          refine lv_iload_n hx hb dX1_putLaid_42 rfl (lv_at hl 2 rfl) ?_
          refine lv_aload_n hx hb dX1_putLaid_43 rfl (lv_at hl 0 rfl) ?_
          refine x_get (k := 50) (n := n0) hx hb hts i_X1 hown hK hP (mk_50 hn0) rfl rfl 5 (by decide) rfl k_24 (v := .ref (ad 56 n0)) rfl dX1_putLaid_44 ?_
          refine lv_iload_n hx hb dX1_putLaid_47 rfl (lv_at hl 2 rfl) ?_
          refine lv_iconst (v := (1 : Int32)) hx hb dX1_putLaid_48 rfl ?_
          refine lv_isub hx hb dX1_putLaid_49 ?_
          obtain ⟨g5, hf⟩ := gd_e hf
          obtain ⟨o6, e_o6, hf⟩ := nm_i hf
          refine x_aald (k := 56) (n := n0) (t := 100) hx hb hK hP (mk_56 hn0) (by decide) g5 dX1_putLaid_50 e_o6 ?_
          obtain ⟨q7, e_q7, h_q7, hf9⟩ := dr_e hf
          clear hf
          subst e_q7
          have hf := hf9
          clear hf9
          obtain ⟨g8, hf⟩ := gd_e hf
          refine x_aast5 (k := 56) (n := n0) (t := 100) (x := q7) hx hb hK hD hP hS (mk_56 hn0) rfl rfl rfl rfl (mk_100 h_q7) g8 dX1_putLaid_51 (fun H locs hP hS => ?_)
          obtain ⟨σ9, e_σ9, hf⟩ := nm_i hf
          have hP : va_P G vwCl (wld ad ca σ9 (LC z)) H := by rw [e_σ9]; exact hP
          refine lv_iinc (v := (v2 + (-1 : Int32))) (lv' := [(2, .int (v2 + (-1 : Int32))), (0, .ref (ad 50 n0)), (1, .ref (ad 100 v1))]) hx hb dX1_putLaid_52 hl (k := 2) rfl rfl (by decide) rfl (fun ls hl => ?_)
          refine lv_goto (tgt := 16) hx hb dX1_putLaid_55 rfl ?_
          exact ih16 v1 (v2 + (-1 : Int32)) σ9 _ _ _ h_v1 hf (lv_sub hl [1, 2, 0] rfl) hP hS
  have c58 : ∀ (v1 : Nat) (v2 : Int32) (σ : PS) (H : Heap) (locs : List Loc) (ls : Array Slot), v1 < z.2 → X1_putLaid_c58 z n0 v1 v2 σ = some (res, σz) → lv_has ls 3 [(0, .ref (ad 50 n0)), (1, .ref (ad 100 v1)), (2, .int v2)] → va_P G vwCl (wld ad ca σ (LC z)) H → va_S A s.heap H locs → W p l e (headSpec wsX1_putLaid ({ frames := 4, cells := 0, slots := 0, locals := 89 })).room s m (([.ref (ad 50 n0), .ref (ad 100 n1)] : List Value).toArray) below meth c H locs 0 0 (MQ below (va_Qi (fun r' u => r' = res ∧ u = σz) (ctB G ad ca (LC z)) A) (([.ref (ad 50 n0), .ref (ad 100 n1)] : List Value).toArray) s 0 0 A) (F0 m 58 ls []) := by
    intro v1 v2 σ H locs ls h_v1 hf hl hP hS
    unfold X1_putLaid_c58 at hf
    refine lv_aload_n hx hb dX1_putLaid_58 rfl (lv_at hl 0 rfl) ?_
    refine x_get (k := 50) (n := n0) hx hb hts i_X1 hown hK hP (mk_50 hn0) rfl rfl 5 (by decide) rfl k_24 (v := .ref (ad 56 n0)) rfl dX1_putLaid_59 ?_
    refine lv_iload_n hx hb dX1_putLaid_62 rfl (lv_at hl 2 rfl) ?_
    refine lv_aload_n hx hb dX1_putLaid_63 rfl (lv_at hl 1 rfl) ?_
    obtain ⟨g10, hf⟩ := gd_e hf
    refine x_aast5 (k := 56) (n := n0) (t := 100) (x := v1) hx hb hK hD hP hS (mk_56 hn0) rfl rfl rfl rfl (mk_100 h_v1) g10 dX1_putLaid_64 (fun H locs hP hS => ?_)
    obtain ⟨σ11, e_σ11, hf⟩ := nm_i hf
    have hP : va_P G vwCl (wld ad ca σ11 (LC z)) H := by rw [e_σ11]; exact hP
    refine lv_aload_n hx hb dX1_putLaid_65 rfl (lv_at hl 0 rfl) ?_
    refine lv_dup hx hb dX1_putLaid_66 rfl ?_
    refine x_get (k := 50) (n := n0) hx hb hts i_X1 hown hK hP (mk_50 hn0) rfl rfl 7 (by decide) rfl k_31 (v := .int (gI σ11 50 n0 7)) rfl dX1_putLaid_67 ?_
    refine lv_iconst (v := (1 : Int32)) hx hb dX1_putLaid_70 rfl ?_
    refine lv_iadd hx hb dX1_putLaid_71 ?_
    refine x_putI (k := 50) (n := n0) hx hb hts i_X1 tyX1 tyX1_ok nmX1 hown hK hD hP hS (mk_50 hn0) rfl rfl 7 (by decide) rfl k_31 rfl rfl rfl rfl dX1_putLaid_72 (fun H locs hP hS => ?_)
    obtain ⟨σ12, e_σ12, hf⟩ := nm_i hf
    have hP : va_P G vwCl (wld ad ca σ12 (LC z)) H := by rw [e_σ12]; exact hP
    refine lv_aload_n hx hb dX1_putLaid_75 rfl (lv_at hl 0 rfl) ?_
    obtain ⟨σ13, hc13, hf⟩ := bd_e hf
    refine x_cv (va_runV (As := []) (rest := []) ⟨hx, hb, hml, hown, hts⟩ (t_X1_compareLaid l G ad ca A z n0 hD hn0 σ12 σ13 hc13) (cwV 0 hts gr_X1_64 rfl rfl rfl h9_X1_compareLaid ⟨Nat.le_of_ble_eq_true rfl, Nat.le_of_ble_eq_true rfl⟩) (x_prV zkC hz hK hP (mk_50 hn0) rfl rfl) rfl rfl hl.1 rfl (lv_room (Nat.le_of_ble_eq_true rfl)) dX1_putLaid_76 ⟨Nat.le_of_ble_eq_true rfl, Nat.le_of_ble_eq_true rfl⟩) hS (fun H locs hP hS => ?_)
    refine lv_iconst (v := (1 : Int32)) hx hb dX1_putLaid_79 rfl ?_
    have hf := Option.some.inj hf
    exact x_zret hx hb hr hlocks hK hP hS (by decide) (congrArg Prod.fst hf) (congrArg Prod.snd hf) dX1_putLaid_80
  refine lv_aload_n hx hb dX1_putLaid_0 rfl (lv_at hl 0 rfl) ?_
  refine x_get (k := 50) (n := n0) hx hb hts i_X1 hown hK hP (mk_50 hn0) rfl rfl 7 (by decide) rfl k_31 (v := .int (gI σ 50 n0 7)) rfl dX1_putLaid_1 ?_
  refine lv_bipush (v := (8 : Int32)) hx hb dX1_putLaid_4 rfl ?_
  refine lv_icmp_lt (tgt := 11) hx hb dX1_putLaid_6 rfl (fun hc => ?_) (fun hc => ?_)
  · have hf := b_p hf hc
    refine lv_aload_n hx hb dX1_putLaid_11 rfl (lv_at hl 0 rfl) ?_
    refine x_get (k := 50) (n := n0) hx hb hts i_X1 hown hK hP (mk_50 hn0) rfl rfl 7 (by decide) rfl k_31 (v := .int (gI σ 50 n0 7)) rfl dX1_putLaid_12 ?_
    obtain ⟨y1, e_y1, hf⟩ := nm_i hf
    refine x_nmI e_y1 ?_
    refine lv_istore_n (lv' := [(2, .int y1), (0, .ref (ad 50 n0)), (1, .ref (ad 100 n1))]) hx hb dX1_putLaid_15 rfl hl (by decide) rfl (fun ls hl => ?_)
    exact l16 _ c58 _ n1 y1 σ _ _ _ hn1 hf (lv_sub hl [1, 2, 0] rfl) hP hS
  · have hf := b_n hf hc
    refine lv_iconst (v := (0 : Int32)) hx hb dX1_putLaid_9 rfl ?_
    have hf := Option.some.inj hf
    exact x_zret hx hb hr hlocks hK hP hS (by decide) (congrArg Prod.fst hf) (congrArg Prod.snd hf) dX1_putLaid_10
theorem h9_X1_dropLaid : yX1_dropLaid.cls = RX1 ∧ yX1_dropLaid.cls ≠ "java/lang/invoke/MethodHandle" ∧ yX1_dropLaid.cls ≠ "java/lang/invoke/VarHandle" ∧ (parseMethodDescriptor yX1_dropLaid.desc).map (fun d => d.parameters.length) = some 1 := by decide +kernel
set_option maxRecDepth 100000 in
set_option maxHeartbeats 4000000 in
theorem t_X1_dropLaid (l : Launch) (G : va_G) (ad : Nat → Nat → Nat) (ca : Nat → ClassId) (A : Nat → Prop) (z : Nat × Nat) (n0 : Nat) (n1 : Nat) (hD : DW ad (LC z) A) (hn0 : n0 < z.1) (hn1 : n1 < z.2) (σ : PS) (res : PS) (hf : X1_dropLaid z n0 n1 σ = some res) : Met l yX1_dropLaid wsX1_dropLaid ({ frames := 4, cells := 0, slots := 0, locals := 89 }) (ctP G ad ca (LC z) σ ZC [.ref (ad 50 n0), .ref (ad 100 n1)]) (va_Qv (fun u => u = res) (ctB G ad ca (LC z)) A) 0 0 A := by
  refine Met.ofW (cc := cX1_dropLaid) (maxL := 4) (ret := none) (by decide) rfl ?_
  intro p e s m args below meth c s₁ B hml hv
  obtain ⟨rfl, hP, hK, hz⟩ := hv
  have hx := B.exec
  have hb := B.bytes
  have hr := B.returns
  have hts : ∀ w ∈ WW, w.before _ s = true := fun w h => atoms_spec (ws := wsX1_dropLaid) B.pre w (List.mem_cons_of_mem _ h)
  have hown : s.vm.findClass RX1 = some m.cls := findClass_of_methodNamed B.named
  have hlocks := B.notSynchronized
  have hS : va_S A s.heap s.heap [] := va_S.rf
  have k_24 := hts _ kf_X1_24
  have k_31 := hts _ kf_X1_31
  have k_56 := hts _ kf_X1_56
  have hl := lv_entry ([.ref (ad 50 n0), .ref (ad 100 n1)]) (n := 4) (Nat.le_of_ble_eq_true rfl)
  rw [lg_entry_eq]
  generalize (lg_sl ([.ref (ad 50 n0), .ref (ad 100 n1)]) ++ List.replicate (4 - (lg_sl ([.ref (ad 50 n0), .ref (ad 100 n1)])).length) Slot.unset).toArray = ls at hl ⊢
  have hl : lv_has ls 4 [(0, .ref (ad 50 n0)), (1, .ref (ad 100 n1))] := hl
  unfold X1_dropLaid at hf
  have l4 : ∀ (kx4 : Int32 → PS → Option (PS)), (∀ (v2 : Int32) (σ : PS) (H : Heap) (locs : List Loc) (ls : Array Slot), kx4 v2 σ = some res → lv_has ls 4 [(0, .ref (ad 50 n0)), (2, .int v2)] → va_P G vwCl (wld ad ca σ (LC z)) H → va_S A s.heap H locs → W p l e (headSpec wsX1_dropLaid ({ frames := 4, cells := 0, slots := 0, locals := 89 })).room s m (([.ref (ad 50 n0), .ref (ad 100 n1)] : List Value).toArray) below meth c H locs 0 0 (MQ below (va_Qv (fun u => u = res) (ctB G ad ca (LC z)) A) (([.ref (ad 50 n0), .ref (ad 100 n1)] : List Value).toArray) s 0 0 A) (F0 m 49 ls [])) → ∀ (n4 : Nat) (v1 : Nat) (v2 : Int32) (v3 : Int32) (σ : PS) (H : Heap) (locs : List Loc) (ls : Array Slot), v1 < z.2 → X1_dropLaid_l4 z n0 kx4 n4 v1 v2 v3 σ = some res → lv_has ls 4 [(0, .ref (ad 50 n0)), (1, .ref (ad 100 v1)), (2, .int v2), (3, .int v3)] → va_P G vwCl (wld ad ca σ (LC z)) H → va_S A s.heap H locs → W p l e (headSpec wsX1_dropLaid ({ frames := 4, cells := 0, slots := 0, locals := 89 })).room s m (([.ref (ad 50 n0), .ref (ad 100 n1)] : List Value).toArray) below meth c H locs 0 0 (MQ below (va_Qv (fun u => u = res) (ctB G ad ca (LC z)) A) (([.ref (ad 50 n0), .ref (ad 100 n1)] : List Value).toArray) s 0 0 A) (F0 m 4 ls []) := by
    intro kx4 hx4 n4
    induction n4 with
    | zero =>
      intro v1 v2 v3 σ H locs ls h_v1 hf
      exact absurd hf (by simp [X1_dropLaid_l4])
    | succ n4 ih4 =>
      intro v1 v2 v3 σ H locs ls h_v1 hf hl hP hS
      rw [X1_dropLaid_l4.eq_2] at hf
      refine lv_iload_n hx hb dX1_dropLaid_4 rfl (lv_at hl 3 rfl) ?_
      refine lv_aload_n hx hb dX1_dropLaid_5 rfl (lv_at hl 0 rfl) ?_
      refine x_get (k := 50) (n := n0) hx hb hts i_X1 hown hK hP (mk_50 hn0) rfl rfl 7 (by decide) rfl k_31 (v := .int (gI σ 50 n0 7)) rfl dX1_dropLaid_6 ?_
      refine lv_icmp_ge (tgt := 49) hx hb dX1_dropLaid_9 rfl (fun hc => ?_) (fun hc => ?_)
      · have hf := b_p hf hc
        exact hx4 v2 σ _ _ _  hf (lv_sub hl [0, 2] rfl) hP hS
      · have hf := b_n hf hc
        refine lv_aload_n hx hb dX1_dropLaid_12 rfl (lv_at hl 0 rfl) ?_
        refine x_get (k := 50) (n := n0) hx hb hts i_X1 hown hK hP (mk_50 hn0) rfl rfl 5 (by decide) rfl k_24 (v := .ref (ad 56 n0)) rfl dX1_dropLaid_13 ?_
        refine lv_iload_n hx hb dX1_dropLaid_16 rfl (lv_at hl 3 rfl) ?_
        obtain ⟨g1, hf⟩ := gd_e hf
        obtain ⟨o2, e_o2, hf⟩ := nm_i hf
        refine x_aald (k := 56) (n := n0) (t := 100) hx hb hK hP (mk_56 hn0) (by decide) g1 dX1_dropLaid_17 e_o2 ?_
        obtain ⟨q3, e_q3, h_q3, hf9⟩ := dr_e hf
        clear hf
        subst e_q3
        have hf := hf9
        clear hf9
        refine x_get (k := 100) (n := q3) hx hb hts i_X2 hown hK hP (mk_100 h_q3) rfl rfl 1 (by decide) rfl k_56 (v := .int (gI σ 100 q3 1)) rfl dX1_dropLaid_18 ?_
        refine lv_aload_n hx hb dX1_dropLaid_21 rfl (lv_at hl 1 rfl) ?_
        refine x_get (k := 100) (n := v1) hx hb hts i_X2 hown hK hP (mk_100 h_v1) rfl rfl 1 (by decide) rfl k_56 (v := .int (gI σ 100 v1 1)) rfl dX1_dropLaid_22 ?_
        refine lv_icmp_eq (tgt := 43) hx hb dX1_dropLaid_25 rfl (fun hc => ?_) (fun hc => ?_)
        · have hf := b_p hf hc
          refine lv_iinc (v := (v3 + (1 : Int32))) (lv' := [(3, .int (v3 + (1 : Int32))), (0, .ref (ad 50 n0)), (1, .ref (ad 100 v1)), (2, .int v2)]) hx hb dX1_dropLaid_43 hl (k := 3) rfl rfl (by decide) rfl (fun ls hl => ?_)
          refine lv_goto (tgt := 4) hx hb dX1_dropLaid_46 rfl ?_
          exact ih4 v1 v2 (v3 + (1 : Int32)) σ _ _ _ h_v1 hf (lv_sub hl [1, 2, 3, 0] rfl) hP hS
        · have hf := b_n hf hc
          refine lv_aload_n hx hb dX1_dropLaid_28 rfl (lv_at hl 0 rfl) ?_
          refine x_get (k := 50) (n := n0) hx hb hts i_X1 hown hK hP (mk_50 hn0) rfl rfl 5 (by decide) rfl k_24 (v := .ref (ad 56 n0)) rfl dX1_dropLaid_29 ?_
          refine lv_iload_n hx hb dX1_dropLaid_32 rfl (lv_at hl 2 rfl) ?_
          refine lv_aload_n hx hb dX1_dropLaid_33 rfl (lv_at hl 0 rfl) ?_
          refine x_get (k := 50) (n := n0) hx hb hts i_X1 hown hK hP (mk_50 hn0) rfl rfl 5 (by decide) rfl k_24 (v := .ref (ad 56 n0)) rfl dX1_dropLaid_34 ?_
          refine lv_iload_n hx hb dX1_dropLaid_37 rfl (lv_at hl 3 rfl) ?_
          obtain ⟨g4, hf⟩ := gd_e hf
          obtain ⟨o5, e_o5, hf⟩ := nm_i hf
          refine x_aald (k := 56) (n := n0) (t := 100) hx hb hK hP (mk_56 hn0) (by decide) g4 dX1_dropLaid_38 e_o5 ?_
          obtain ⟨q6, e_q6, h_q6, hf9⟩ := dr_e hf
          clear hf
          subst e_q6
          have hf := hf9
          clear hf9
          obtain ⟨g7, hf⟩ := gd_e hf
          refine x_aast5 (k := 56) (n := n0) (t := 100) (x := q6) hx hb hK hD hP hS (mk_56 hn0) rfl rfl rfl rfl (mk_100 h_q6) g7 dX1_dropLaid_39 (fun H locs hP hS => ?_)
          obtain ⟨σ8, e_σ8, hf⟩ := nm_i hf
          have hP : va_P G vwCl (wld ad ca σ8 (LC z)) H := by rw [e_σ8]; exact hP
          refine lv_iinc (v := (v2 + (1 : Int32))) (lv' := [(2, .int (v2 + (1 : Int32))), (0, .ref (ad 50 n0)), (1, .ref (ad 100 v1)), (3, .int v3)]) hx hb dX1_dropLaid_40 hl (k := 2) rfl rfl (by decide) rfl (fun ls hl => ?_)
          refine lv_iinc (v := (v3 + (1 : Int32))) (lv' := [(3, .int (v3 + (1 : Int32))), (2, .int (v2 + (1 : Int32))), (0, .ref (ad 50 n0)), (1, .ref (ad 100 v1))]) hx hb dX1_dropLaid_43 hl (k := 3) rfl rfl (by decide) rfl (fun ls hl => ?_)
          refine lv_goto (tgt := 4) hx hb dX1_dropLaid_46 rfl ?_
          exact ih4 v1 (v2 + (1 : Int32)) (v3 + (1 : Int32)) σ8 _ _ _ h_v1 hf (lv_sub hl [2, 3, 1, 0] rfl) hP hS
  have c49 : ∀ (v2 : Int32) (σ : PS) (H : Heap) (locs : List Loc) (ls : Array Slot), X1_dropLaid_c49 z n0 v2 σ = some res → lv_has ls 4 [(0, .ref (ad 50 n0)), (2, .int v2)] → va_P G vwCl (wld ad ca σ (LC z)) H → va_S A s.heap H locs → W p l e (headSpec wsX1_dropLaid ({ frames := 4, cells := 0, slots := 0, locals := 89 })).room s m (([.ref (ad 50 n0), .ref (ad 100 n1)] : List Value).toArray) below meth c H locs 0 0 (MQ below (va_Qv (fun u => u = res) (ctB G ad ca (LC z)) A) (([.ref (ad 50 n0), .ref (ad 100 n1)] : List Value).toArray) s 0 0 A) (F0 m 49 ls []) := by
    intro v2 σ H locs ls hf hl hP hS
    unfold X1_dropLaid_c49 at hf
    refine lv_aload_n hx hb dX1_dropLaid_49 rfl (lv_at hl 0 rfl) ?_
    refine lv_iload_n hx hb dX1_dropLaid_50 rfl (lv_at hl 1 rfl) ?_
    refine x_putI (k := 50) (n := n0) hx hb hts i_X1 tyX1 tyX1_ok nmX1 hown hK hD hP hS (mk_50 hn0) rfl rfl 7 (by decide) rfl k_31 rfl rfl rfl rfl dX1_dropLaid_51 (fun H locs hP hS => ?_)
    obtain ⟨σ9, e_σ9, hf⟩ := nm_i hf
    have hP : va_P G vwCl (wld ad ca σ9 (LC z)) H := by rw [e_σ9]; exact hP
    refine lv_aload_n hx hb dX1_dropLaid_54 rfl (lv_at hl 0 rfl) ?_
    obtain ⟨σ10, hc10, hf⟩ := bd_e hf
    refine x_cv (va_runV (As := []) (rest := []) ⟨hx, hb, hml, hown, hts⟩ (t_X1_compareLaid l G ad ca A z n0 hD hn0 σ9 σ10 hc10) (cwV 0 hts gr_X1_64 rfl rfl rfl h9_X1_compareLaid ⟨Nat.le_of_ble_eq_true rfl, Nat.le_of_ble_eq_true rfl⟩) (x_prV zkC hz hK hP (mk_50 hn0) rfl rfl) rfl rfl hl.1 rfl (lv_room (Nat.le_of_ble_eq_true rfl)) dX1_dropLaid_55 ⟨Nat.le_of_ble_eq_true rfl, Nat.le_of_ble_eq_true rfl⟩) hS (fun H locs hP hS => ?_)
    exact x_vret hx hb hr hlocks hK hP hS (Option.some.inj hf) dX1_dropLaid_58
  refine lv_iconst (v := (0 : Int32)) hx hb dX1_dropLaid_0 rfl ?_
  refine lv_istore_n (lv' := [(2, .int (0 : Int32)), (0, .ref (ad 50 n0)), (1, .ref (ad 100 n1))]) hx hb dX1_dropLaid_1 rfl hl (by decide) rfl (fun ls hl => ?_)
  refine lv_iconst (v := (0 : Int32)) hx hb dX1_dropLaid_2 rfl ?_
  refine lv_istore_n (lv' := [(3, .int (0 : Int32)), (2, .int (0 : Int32)), (0, .ref (ad 50 n0)), (1, .ref (ad 100 n1))]) hx hb dX1_dropLaid_3 rfl hl (by decide) rfl (fun ls hl => ?_)
  exact l4 _ c49 _ n1 (0 : Int32) (0 : Int32) σ _ _ _ hn1 hf (lv_sub hl [2, 3, 1, 0] rfl) hP hS
theorem h9_X1_beatenBy : yX1_beatenBy.cls = RX1 ∧ yX1_beatenBy.cls ≠ "java/lang/invoke/MethodHandle" ∧ yX1_beatenBy.cls ≠ "java/lang/invoke/VarHandle" ∧ (parseMethodDescriptor yX1_beatenBy.desc).map (fun d => d.parameters.length) = some 1 := by decide +kernel
set_option maxRecDepth 100000 in
set_option maxHeartbeats 4000000 in
theorem t_X1_beatenBy (l : Launch) (G : va_G) (ad : Nat → Nat → Nat) (ca : Nat → ClassId) (A : Nat → Prop) (z : Nat × Nat) (n0 : Nat) (x1 : Int32) (hD : DW ad (LC z) A) (hn0 : n0 < z.1) (σ : PS) (res : Int32) (hf : X1_beatenBy z n0 x1 σ = some res) : Met l yX1_beatenBy wsX1_beatenBy ({ frames := 0, cells := 0, slots := 0, locals := 0 }) (ctP G ad ca (LC z) σ ZC [.ref (ad 50 n0), .int x1]) (va_Qi (fun r' u => r' = res ∧ u = σ) (ctB G ad ca (LC z)) A) 0 0 A := by
  refine Met.ofW (cc := cX1_beatenBy) (maxL := 2) (ret := (some .int)) (by decide) rfl ?_
  intro p e s m args below meth c s₁ B hml hv
  obtain ⟨rfl, hP, hK, hz⟩ := hv
  have hx := B.exec
  have hb := B.bytes
  have hr := B.returns
  have hts : ∀ w ∈ WW, w.before _ s = true := fun w h => atoms_spec (ws := wsX1_beatenBy) B.pre w (List.mem_cons_of_mem _ h)
  have hown : s.vm.findClass RX1 = some m.cls := findClass_of_methodNamed B.named
  have hlocks := B.notSynchronized
  have hS : va_S A s.heap s.heap [] := va_S.rf
  have k_28 := hts _ kf_X1_28
  have k_31 := hts _ kf_X1_31
  have hl := lv_entry ([.ref (ad 50 n0), .int x1]) (n := 2) (Nat.le_of_ble_eq_true rfl)
  rw [lg_entry_eq]
  generalize (lg_sl ([.ref (ad 50 n0), .int x1]) ++ List.replicate (2 - (lg_sl ([.ref (ad 50 n0), .int x1])).length) Slot.unset).toArray = ls at hl ⊢
  have hl : lv_has ls 2 [(0, .ref (ad 50 n0)), (1, .int x1)] := hl
  unfold X1_beatenBy at hf
  refine lv_iload_n hx hb dX1_beatenBy_0 rfl (lv_at hl 1 rfl) ?_
  refine lv_if_lt (tgt := 21) hx hb dX1_beatenBy_1 rfl (fun hc => ?_) (fun hc => ?_)
  · have hf := b_p hf hc
    refine lv_iconst (v := (0 : Int32)) hx hb dX1_beatenBy_21 rfl ?_
    exact x_iret hx hb hr hlocks hK hP hS (Option.some.inj hf) rfl dX1_beatenBy_22
  · have hf := b_n hf hc
    refine lv_iload_n hx hb dX1_beatenBy_4 rfl (lv_at hl 1 rfl) ?_
    refine lv_aload_n hx hb dX1_beatenBy_5 rfl (lv_at hl 0 rfl) ?_
    refine x_get (k := 50) (n := n0) hx hb hts i_X1 hown hK hP (mk_50 hn0) rfl rfl 7 (by decide) rfl k_31 (v := .int (gI σ 50 n0 7)) rfl dX1_beatenBy_6 ?_
    refine lv_icmp_ge (tgt := 21) hx hb dX1_beatenBy_9 rfl (fun hc => ?_) (fun hc => ?_)
    · have hf := b_p hf hc
      refine lv_iconst (v := (0 : Int32)) hx hb dX1_beatenBy_21 rfl ?_
      exact x_iret hx hb hr hlocks hK hP hS (Option.some.inj hf) rfl dX1_beatenBy_22
    · have hf := b_n hf hc
      refine lv_aload_n hx hb dX1_beatenBy_12 rfl (lv_at hl 0 rfl) ?_
      refine x_get (k := 50) (n := n0) hx hb hts i_X1 hown hK hP (mk_50 hn0) rfl rfl 6 (by decide) rfl k_28 (v := .ref (ad 57 n0)) rfl dX1_beatenBy_13 ?_
      refine lv_iload_n hx hb dX1_beatenBy_16 rfl (lv_at hl 1 rfl) ?_
      obtain ⟨g1, hf⟩ := gd_e hf
      refine x_iald (k := 57) (n := n0) hx hb hK hP (mk_57 hn0) rfl g1 dX1_beatenBy_17 ?_
      refine lv_goto (tgt := 22) hx hb dX1_beatenBy_18 rfl ?_
      exact x_iret hx hb hr hlocks hK hP hS (Option.some.inj hf) rfl dX1_beatenBy_22
theorem h9_X1_beatersOf : yX1_beatersOf.cls = RX1 ∧ yX1_beatersOf.cls ≠ "java/lang/invoke/MethodHandle" ∧ yX1_beatersOf.cls ≠ "java/lang/invoke/VarHandle" ∧ (parseMethodDescriptor yX1_beatersOf.desc).map (fun d => d.parameters.length) = some 1 := by decide +kernel
set_option maxRecDepth 100000 in
set_option maxHeartbeats 4000000 in
theorem t_X1_beatersOf (l : Launch) (G : va_G) (ad : Nat → Nat → Nat) (ca : Nat → ClassId) (A : Nat → Prop) (z : Nat × Nat) (n0 : Nat) (x1 : Int32) (hD : DW ad (LC z) A) (hn0 : n0 < z.1) (σ : PS) (res : Int32) (hf : X1_beatersOf z n0 x1 σ = some res) : Met l yX1_beatersOf wsX1_beatersOf ({ frames := 0, cells := 0, slots := 0, locals := 0 }) (ctP G ad ca (LC z) σ ZC [.ref (ad 50 n0), .int x1]) (va_Qi (fun r' u => r' = res ∧ u = σ) (ctB G ad ca (LC z)) A) 0 0 A := by
  refine Met.ofW (cc := cX1_beatersOf) (maxL := 4) (ret := (some .int)) (by decide) rfl ?_
  intro p e s m args below meth c s₁ B hml hv
  obtain ⟨rfl, hP, hK, hz⟩ := hv
  have hx := B.exec
  have hb := B.bytes
  have hr := B.returns
  have hts : ∀ w ∈ WW, w.before _ s = true := fun w h => atoms_spec (ws := wsX1_beatersOf) B.pre w (List.mem_cons_of_mem _ h)
  have hown : s.vm.findClass RX1 = some m.cls := findClass_of_methodNamed B.named
  have hlocks := B.notSynchronized
  have hS : va_S A s.heap s.heap [] := va_S.rf
  have k_28 := hts _ kf_X1_28
  have k_31 := hts _ kf_X1_31
  have hl := lv_entry ([.ref (ad 50 n0), .int x1]) (n := 4) (Nat.le_of_ble_eq_true rfl)
  rw [lg_entry_eq]
  generalize (lg_sl ([.ref (ad 50 n0), .int x1]) ++ List.replicate (4 - (lg_sl ([.ref (ad 50 n0), .int x1])).length) Slot.unset).toArray = ls at hl ⊢
  have hl : lv_has ls 4 [(0, .ref (ad 50 n0)), (1, .int x1)] := hl
  unfold X1_beatersOf at hf
  have l4 : ∀ (kx4 : Int32 → Option (Int32)), (∀ (v2 : Int32) (H : Heap) (locs : List Loc) (ls : Array Slot), kx4 v2 = some res → lv_has ls 4 [(2, .int v2)] → va_P G vwCl (wld ad ca σ (LC z)) H → va_S A s.heap H locs → W p l e (headSpec wsX1_beatersOf ({ frames := 0, cells := 0, slots := 0, locals := 0 })).room s m (([.ref (ad 50 n0), .int x1] : List Value).toArray) below meth c H locs 0 0 (MQ below (va_Qi (fun r' u => r' = res ∧ u = σ) (ctB G ad ca (LC z)) A) (([.ref (ad 50 n0), .int x1] : List Value).toArray) s 0 0 A) (F0 m 37 ls [])) → ∀ (n4 : Nat) (v1 : Int32) (v2 : Int32) (v3 : Int32) (H : Heap) (locs : List Loc) (ls : Array Slot), X1_beatersOf_l4 z n0 σ kx4 n4 v1 v2 v3 = some res → lv_has ls 4 [(0, .ref (ad 50 n0)), (1, .int v1), (2, .int v2), (3, .int v3)] → va_P G vwCl (wld ad ca σ (LC z)) H → va_S A s.heap H locs → W p l e (headSpec wsX1_beatersOf ({ frames := 0, cells := 0, slots := 0, locals := 0 })).room s m (([.ref (ad 50 n0), .int x1] : List Value).toArray) below meth c H locs 0 0 (MQ below (va_Qi (fun r' u => r' = res ∧ u = σ) (ctB G ad ca (LC z)) A) (([.ref (ad 50 n0), .int x1] : List Value).toArray) s 0 0 A) (F0 m 4 ls []) := by
    intro kx4 hx4 n4
    induction n4 with
    | zero =>
      intro v1 v2 v3 H locs ls hf
      exact absurd hf (by simp [X1_beatersOf_l4])
    | succ n4 ih4 =>
      intro v1 v2 v3 H locs ls hf hl hP hS
      rw [X1_beatersOf_l4.eq_2] at hf
      refine lv_iload_n hx hb dX1_beatersOf_4 rfl (lv_at hl 3 rfl) ?_
      refine lv_aload_n hx hb dX1_beatersOf_5 rfl (lv_at hl 0 rfl) ?_
      refine x_get (k := 50) (n := n0) hx hb hts i_X1 hown hK hP (mk_50 hn0) rfl rfl 7 (by decide) rfl k_31 (v := .int (gI σ 50 n0 7)) rfl dX1_beatersOf_6 ?_
      refine lv_icmp_ge (tgt := 37) hx hb dX1_beatersOf_9 rfl (fun hc => ?_) (fun hc => ?_)
      · have hf := b_p hf hc
        exact hx4 v2 _ _ _  hf (lv_sub hl [2] rfl) hP hS
      · have hf := b_n hf hc
        refine lv_aload_n hx hb dX1_beatersOf_12 rfl (lv_at hl 0 rfl) ?_
        refine x_get (k := 50) (n := n0) hx hb hts i_X1 hown hK hP (mk_50 hn0) rfl rfl 6 (by decide) rfl k_28 (v := .ref (ad 57 n0)) rfl dX1_beatersOf_13 ?_
        refine lv_iload_n hx hb dX1_beatersOf_16 rfl (lv_at hl 3 rfl) ?_
        obtain ⟨g1, hf⟩ := gd_e hf
        refine x_iald (k := 57) (n := n0) hx hb hK hP (mk_57 hn0) rfl g1 dX1_beatersOf_17 ?_
        refine lv_iconst (v := (1 : Int32)) hx hb dX1_beatersOf_18 rfl ?_
        refine lv_iload_n hx hb dX1_beatersOf_19 rfl (lv_at hl 1 rfl) ?_
        refine lv_ishl hx hb dX1_beatersOf_20 ?_
        refine lv_iand hx hb dX1_beatersOf_21 ?_
        refine lv_if_eq (tgt := 31) hx hb dX1_beatersOf_22 rfl (fun hc => ?_) (fun hc => ?_)
        · have hf := b_p hf hc
          refine lv_iinc (v := (v3 + (1 : Int32))) (lv' := [(3, .int (v3 + (1 : Int32))), (0, .ref (ad 50 n0)), (1, .int v1), (2, .int v2)]) hx hb dX1_beatersOf_31 hl (k := 3) rfl rfl (by decide) rfl (fun ls hl => ?_)
          refine lv_goto (tgt := 4) hx hb dX1_beatersOf_34 rfl ?_
          exact ih4 v1 v2 (v3 + (1 : Int32)) _ _ _  hf (lv_sub hl [1, 2, 3, 0] rfl) hP hS
        · have hf := b_n hf hc
          refine lv_iload_n hx hb dX1_beatersOf_25 rfl (lv_at hl 2 rfl) ?_
          refine lv_iconst (v := (1 : Int32)) hx hb dX1_beatersOf_26 rfl ?_
          refine lv_iload_n hx hb dX1_beatersOf_27 rfl (lv_at hl 3 rfl) ?_
          refine lv_ishl hx hb dX1_beatersOf_28 ?_
          refine lv_ior hx hb dX1_beatersOf_29 ?_
          obtain ⟨y2, e_y2, hf⟩ := nm_i hf
          refine x_nmI e_y2 ?_
          refine lv_istore_n (lv' := [(2, .int y2), (0, .ref (ad 50 n0)), (1, .int v1), (3, .int v3)]) hx hb dX1_beatersOf_30 rfl hl (by decide) rfl (fun ls hl => ?_)
          refine lv_iinc (v := (v3 + (1 : Int32))) (lv' := [(3, .int (v3 + (1 : Int32))), (2, .int y2), (0, .ref (ad 50 n0)), (1, .int v1)]) hx hb dX1_beatersOf_31 hl (k := 3) rfl rfl (by decide) rfl (fun ls hl => ?_)
          refine lv_goto (tgt := 4) hx hb dX1_beatersOf_34 rfl ?_
          exact ih4 v1 y2 (v3 + (1 : Int32)) _ _ _  hf (lv_sub hl [2, 3, 1, 0] rfl) hP hS
  have c37 : ∀ (v2 : Int32) (H : Heap) (locs : List Loc) (ls : Array Slot), X1_beatersOf_c37 z n0 σ v2 = some res → lv_has ls 4 [(2, .int v2)] → va_P G vwCl (wld ad ca σ (LC z)) H → va_S A s.heap H locs → W p l e (headSpec wsX1_beatersOf ({ frames := 0, cells := 0, slots := 0, locals := 0 })).room s m (([.ref (ad 50 n0), .int x1] : List Value).toArray) below meth c H locs 0 0 (MQ below (va_Qi (fun r' u => r' = res ∧ u = σ) (ctB G ad ca (LC z)) A) (([.ref (ad 50 n0), .int x1] : List Value).toArray) s 0 0 A) (F0 m 37 ls []) := by
    intro v2 H locs ls hf hl hP hS
    unfold X1_beatersOf_c37 at hf
    refine lv_iload_n hx hb dX1_beatersOf_37 rfl (lv_at hl 0 rfl) ?_
    exact x_iret hx hb hr hlocks hK hP hS (Option.some.inj hf) rfl dX1_beatersOf_38
  refine lv_iconst (v := (0 : Int32)) hx hb dX1_beatersOf_0 rfl ?_
  refine lv_istore_n (lv' := [(2, .int (0 : Int32)), (0, .ref (ad 50 n0)), (1, .int x1)]) hx hb dX1_beatersOf_1 rfl hl (by decide) rfl (fun ls hl => ?_)
  refine lv_iconst (v := (0 : Int32)) hx hb dX1_beatersOf_2 rfl ?_
  refine lv_istore_n (lv' := [(3, .int (0 : Int32)), (2, .int (0 : Int32)), (0, .ref (ad 50 n0)), (1, .int x1)]) hx hb dX1_beatersOf_3 rfl hl (by decide) rfl (fun ls hl => ?_)
  exact l4 _ c37 _ x1 (0 : Int32) (0 : Int32) _ _ _  hf (lv_sub hl [2, 3, 1, 0] rfl) hP hS
theorem h9_X1_takersOf : yX1_takersOf.cls = RX1 ∧ yX1_takersOf.cls ≠ "java/lang/invoke/MethodHandle" ∧ yX1_takersOf.cls ≠ "java/lang/invoke/VarHandle" ∧ (parseMethodDescriptor yX1_takersOf.desc).map (fun d => d.parameters.length) = some 1 := by decide +kernel
set_option maxRecDepth 100000 in
set_option maxHeartbeats 4000000 in
theorem t_X1_takersOf (l : Launch) (G : va_G) (ad : Nat → Nat → Nat) (ca : Nat → ClassId) (A : Nat → Prop) (z : Nat × Nat) (n0 : Nat) (hD : DW ad (LC z) A) (hn0 : n0 < z.1) (σ : PS) (res : Int32) (hf : X1_takersOf z n0  σ = some res) : Met l yX1_takersOf wsX1_takersOf ({ frames := 3, cells := 0, slots := 0, locals := 68 }) (ctP G ad ca (LC z) σ ZC [.ref (ad 50 n0), .ref (ad 300 0)]) (va_Qi (fun r' u => r' = res ∧ u = σ) (ctB G ad ca (LC z)) A) 0 0 A := by
  refine Met.ofW (cc := cX1_takersOf) (maxL := 4) (ret := (some .int)) (by decide) rfl ?_
  intro p e s m args below meth c s₁ B hml hv
  obtain ⟨rfl, hP, hK, hz⟩ := hv
  have hx := B.exec
  have hb := B.bytes
  have hr := B.returns
  have hts : ∀ w ∈ WW, w.before _ s = true := fun w h => atoms_spec (ws := wsX1_takersOf) B.pre w (List.mem_cons_of_mem _ h)
  have hown : s.vm.findClass RX1 = some m.cls := findClass_of_methodNamed B.named
  have hlocks := B.notSynchronized
  have hS : va_S A s.heap s.heap [] := va_S.rf
  have k_31 := hts _ kf_X1_31
  have k_49 := hts _ kf_X1_49
  have k_84 := hts _ kf_X1_84
  have k_92 := hts _ kf_X1_92
  have hl := lv_entry ([.ref (ad 50 n0), .ref (ad 300 0)]) (n := 4) (Nat.le_of_ble_eq_true rfl)
  rw [lg_entry_eq]
  generalize (lg_sl ([.ref (ad 50 n0), .ref (ad 300 0)]) ++ List.replicate (4 - (lg_sl ([.ref (ad 50 n0), .ref (ad 300 0)])).length) Slot.unset).toArray = ls at hl ⊢
  have hl : lv_has ls 4 [(0, .ref (ad 50 n0)), (1, .ref (ad 300 0))] := hl
  unfold X1_takersOf at hf
  have l11 : ∀ (kx11 : Int32 → Option (Int32)), (∀ (v2 : Int32) (H : Heap) (locs : List Loc) (ls : Array Slot), kx11 v2 = some res → lv_has ls 4 [(2, .int v2)] → va_P G vwCl (wld ad ca σ (LC z)) H → va_S A s.heap H locs → W p l e (headSpec wsX1_takersOf ({ frames := 3, cells := 0, slots := 0, locals := 68 })).room s m (([.ref (ad 50 n0), .ref (ad 300 0)] : List Value).toArray) below meth c H locs 0 0 (MQ below (va_Qi (fun r' u => r' = res ∧ u = σ) (ctB G ad ca (LC z)) A) (([.ref (ad 50 n0), .ref (ad 300 0)] : List Value).toArray) s 0 0 A) (F0 m 51 ls [])) → ∀ (n11 : Nat) (v2 : Int32) (v3 : Int32) (H : Heap) (locs : List Loc) (ls : Array Slot), X1_takersOf_l11 z n0 σ kx11 n11 v2 v3 = some res → lv_has ls 4 [(0, .ref (ad 50 n0)), (1, .ref (ad 300 0)), (2, .int v2), (3, .int v3)] → va_P G vwCl (wld ad ca σ (LC z)) H → va_S A s.heap H locs → W p l e (headSpec wsX1_takersOf ({ frames := 3, cells := 0, slots := 0, locals := 68 })).room s m (([.ref (ad 50 n0), .ref (ad 300 0)] : List Value).toArray) below meth c H locs 0 0 (MQ below (va_Qi (fun r' u => r' = res ∧ u = σ) (ctB G ad ca (LC z)) A) (([.ref (ad 50 n0), .ref (ad 300 0)] : List Value).toArray) s 0 0 A) (F0 m 11 ls []) := by
    intro kx11 hx11 n11
    induction n11 with
    | zero =>
      intro v2 v3 H locs ls hf
      exact absurd hf (by simp [X1_takersOf_l11])
    | succ n11 ih11 =>
      intro v2 v3 H locs ls hf hl hP hS
      rw [X1_takersOf_l11.eq_2] at hf
      refine lv_iload_n hx hb dX1_takersOf_11 rfl (lv_at hl 3 rfl) ?_
      refine lv_aload_n hx hb dX1_takersOf_12 rfl (lv_at hl 0 rfl) ?_
      refine x_get (k := 50) (n := n0) hx hb hts i_X1 hown hK hP (mk_50 hn0) rfl rfl 2 (by decide) rfl k_49 (v := .int (gI σ 50 n0 2)) rfl dX1_takersOf_13 ?_
      refine lv_icmp_ge (tgt := 51) hx hb dX1_takersOf_16 rfl (fun hc => ?_) (fun hc => ?_)
      · have hf := b_p hf hc
        exact hx11 v2 _ _ _  hf (lv_sub hl [2] rfl) hP hS
      · have hf := b_n hf hc
        refine lv_iload_n hx hb dX1_takersOf_19 rfl (lv_at hl 2 rfl) ?_
        refine lv_aload_n hx hb dX1_takersOf_20 rfl (lv_at hl 0 rfl) ?_
        refine lv_iload_n hx hb dX1_takersOf_21 rfl (lv_at hl 3 rfl) ?_
        refine lv_aload_n hx hb dX1_takersOf_22 rfl (lv_at hl 1 rfl) ?_
        refine x_get (k := 300) (n := 0) hx hb hts i_X6 hown hK hP (mk_300 h01) rfl rfl 0 (by decide) rfl k_84 (v := .ref (ad 301 0)) rfl dX1_takersOf_23 ?_
        refine lv_iload_n hx hb dX1_takersOf_26 rfl (lv_at hl 3 rfl) ?_
        obtain ⟨g2, hf⟩ := gd_e hf
        refine x_iald (k := 301) (n := 0) hx hb hK hP (mk_301 h01) rfl g2 dX1_takersOf_27 ?_
        obtain ⟨r3, hc3, hf⟩ := bd_e hf
        refine x_ci (va_runV (As := [.int v3, .int (gI σ 301 0 (ix v3))]) (rest := [.int v2]) ⟨hx, hb, hml, hown, hts⟩ (t_X1_takersOfClass l G ad ca A z n0 v3 (gI σ 301 0 (ix v3)) hD hn0 σ r3 hc3) (cwV 2 hts gr_X1_89 rfl rfl rfl h9_X1_takersOfClass ⟨Nat.le_of_ble_eq_true rfl, Nat.le_of_ble_eq_true rfl⟩) (x_prV zkC hz hK hP (mk_50 hn0) rfl rfl) rfl rfl hl.1 rfl (lv_room (Nat.le_of_ble_eq_true rfl)) dX1_takersOf_28 ⟨Nat.le_of_ble_eq_true rfl, Nat.le_of_ble_eq_true rfl⟩) hS (fun H locs hP hS => ?_)
        refine lv_aload_n hx hb dX1_takersOf_31 rfl (lv_at hl 0 rfl) ?_
        refine lv_iload_n hx hb dX1_takersOf_32 rfl (lv_at hl 3 rfl) ?_
        refine lv_aload_n hx hb dX1_takersOf_33 rfl (lv_at hl 1 rfl) ?_
        refine x_get (k := 300) (n := 0) hx hb hts i_X6 hown hK hP (mk_300 h01) rfl rfl 1 (by decide) rfl k_92 (v := .ref (ad 302 0)) rfl dX1_takersOf_34 ?_
        refine lv_iload_n hx hb dX1_takersOf_37 rfl (lv_at hl 3 rfl) ?_
        obtain ⟨g4, hf⟩ := gd_e hf
        refine x_iald (k := 302) (n := 0) hx hb hK hP (mk_302 h01) rfl g4 dX1_takersOf_38 ?_
        obtain ⟨r5, hc5, hf⟩ := bd_e hf
        refine x_ci (va_runV (As := [.int v3, .int (gI σ 302 0 (ix v3))]) (rest := [.int r3, .int v2]) ⟨hx, hb, hml, hown, hts⟩ (t_X1_takersOfWeight l G ad ca A z n0 v3 (gI σ 302 0 (ix v3)) hD hn0 σ r5 hc5) (cwV 2 hts gr_X1_95 rfl rfl rfl h9_X1_takersOfWeight ⟨Nat.le_of_ble_eq_true rfl, Nat.le_of_ble_eq_true rfl⟩) (x_prV zkC hz hK hP (mk_50 hn0) rfl rfl) rfl rfl hl.1 rfl (lv_room (Nat.le_of_ble_eq_true rfl)) dX1_takersOf_39 ⟨Nat.le_of_ble_eq_true rfl, Nat.le_of_ble_eq_true rfl⟩) hS (fun H locs hP hS => ?_)
        refine lv_iand hx hb dX1_takersOf_42 ?_
        refine lv_iand hx hb dX1_takersOf_43 ?_
        obtain ⟨y6, e_y6, hf⟩ := nm_i hf
        refine x_nmI e_y6 ?_
        refine lv_istore_n (lv' := [(2, .int y6), (0, .ref (ad 50 n0)), (1, .ref (ad 300 0)), (3, .int v3)]) hx hb dX1_takersOf_44 rfl hl (by decide) rfl (fun ls hl => ?_)
        refine lv_iinc (v := (v3 + (1 : Int32))) (lv' := [(3, .int (v3 + (1 : Int32))), (2, .int y6), (0, .ref (ad 50 n0)), (1, .ref (ad 300 0))]) hx hb dX1_takersOf_45 hl (k := 3) rfl rfl (by decide) rfl (fun ls hl => ?_)
        refine lv_goto (tgt := 11) hx hb dX1_takersOf_48 rfl ?_
        exact ih11 y6 (v3 + (1 : Int32)) _ _ _  hf (lv_sub hl [2, 3, 1, 0] rfl) hP hS
  have c51 : ∀ (v2 : Int32) (H : Heap) (locs : List Loc) (ls : Array Slot), X1_takersOf_c51 z n0 σ v2 = some res → lv_has ls 4 [(2, .int v2)] → va_P G vwCl (wld ad ca σ (LC z)) H → va_S A s.heap H locs → W p l e (headSpec wsX1_takersOf ({ frames := 3, cells := 0, slots := 0, locals := 68 })).room s m (([.ref (ad 50 n0), .ref (ad 300 0)] : List Value).toArray) below meth c H locs 0 0 (MQ below (va_Qi (fun r' u => r' = res ∧ u = σ) (ctB G ad ca (LC z)) A) (([.ref (ad 50 n0), .ref (ad 300 0)] : List Value).toArray) s 0 0 A) (F0 m 51 ls []) := by
    intro v2 H locs ls hf hl hP hS
    unfold X1_takersOf_c51 at hf
    refine lv_iload_n hx hb dX1_takersOf_51 rfl (lv_at hl 0 rfl) ?_
    exact x_iret hx hb hr hlocks hK hP hS (Option.some.inj hf) rfl dX1_takersOf_52
  refine lv_iconst (v := (1 : Int32)) hx hb dX1_takersOf_0 rfl ?_
  refine lv_aload_n hx hb dX1_takersOf_1 rfl (lv_at hl 0 rfl) ?_
  refine x_get (k := 50) (n := n0) hx hb hts i_X1 hown hK hP (mk_50 hn0) rfl rfl 7 (by decide) rfl k_31 (v := .int (gI σ 50 n0 7)) rfl dX1_takersOf_2 ?_
  refine lv_ishl hx hb dX1_takersOf_5 ?_
  refine lv_iconst (v := (1 : Int32)) hx hb dX1_takersOf_6 rfl ?_
  refine lv_isub hx hb dX1_takersOf_7 ?_
  obtain ⟨y1, e_y1, hf⟩ := nm_i hf
  refine x_nmI e_y1 ?_
  refine lv_istore_n (lv' := [(2, .int y1), (0, .ref (ad 50 n0)), (1, .ref (ad 300 0))]) hx hb dX1_takersOf_8 rfl hl (by decide) rfl (fun ls hl => ?_)
  refine lv_iconst (v := (0 : Int32)) hx hb dX1_takersOf_9 rfl ?_
  refine lv_istore_n (lv' := [(3, .int (0 : Int32)), (2, .int y1), (0, .ref (ad 50 n0)), (1, .ref (ad 300 0))]) hx hb dX1_takersOf_10 rfl hl (by decide) rfl (fun ls hl => ?_)
  exact l11 _ c51 _ y1 (0 : Int32) _ _ _  hf (lv_sub hl [2, 3, 1, 0] rfl) hP hS
theorem h9_X1_plainTakersOf : yX1_plainTakersOf.cls = RX1 ∧ yX1_plainTakersOf.cls ≠ "java/lang/invoke/MethodHandle" ∧ yX1_plainTakersOf.cls ≠ "java/lang/invoke/VarHandle" ∧ (parseMethodDescriptor yX1_plainTakersOf.desc).map (fun d => d.parameters.length) = some 1 := by decide +kernel
set_option maxRecDepth 100000 in
set_option maxHeartbeats 4000000 in
theorem t_X1_plainTakersOf (l : Launch) (G : va_G) (ad : Nat → Nat → Nat) (ca : Nat → ClassId) (A : Nat → Prop) (z : Nat × Nat) (n0 : Nat) (hD : DW ad (LC z) A) (hn0 : n0 < z.1) (σ : PS) (res : Int32) (hf : X1_plainTakersOf z n0  σ = some res) : Met l yX1_plainTakersOf wsX1_plainTakersOf ({ frames := 4, cells := 0, slots := 0, locals := 91 }) (ctP G ad ca (LC z) σ ZC [.ref (ad 50 n0), .ref (ad 300 0)]) (va_Qi (fun r' u => r' = res ∧ u = σ) (ctB G ad ca (LC z)) A) 0 0 A := by
  refine Met.ofW (cc := cX1_plainTakersOf) (maxL := 2) (ret := (some .int)) (by decide) rfl ?_
  intro p e s m args below meth c s₁ B hml hv
  obtain ⟨rfl, hP, hK, hz⟩ := hv
  have hx := B.exec
  have hb := B.bytes
  have hr := B.returns
  have hts : ∀ w ∈ WW, w.before _ s = true := fun w h => atoms_spec (ws := wsX1_plainTakersOf) B.pre w (List.mem_cons_of_mem _ h)
  have hown : s.vm.findClass RX1 = some m.cls := findClass_of_methodNamed B.named
  have hlocks := B.notSynchronized
  have hS : va_S A s.heap s.heap [] := va_S.rf
  have k_35 := hts _ kf_X1_35
  have hl := lv_entry ([.ref (ad 50 n0), .ref (ad 300 0)]) (n := 2) (Nat.le_of_ble_eq_true rfl)
  rw [lg_entry_eq]
  generalize (lg_sl ([.ref (ad 50 n0), .ref (ad 300 0)]) ++ List.replicate (2 - (lg_sl ([.ref (ad 50 n0), .ref (ad 300 0)])).length) Slot.unset).toArray = ls at hl ⊢
  have hl : lv_has ls 2 [(0, .ref (ad 50 n0)), (1, .ref (ad 300 0))] := hl
  unfold X1_plainTakersOf at hf
  refine lv_aload_n hx hb dX1_plainTakersOf_0 rfl (lv_at hl 0 rfl) ?_
  refine lv_aload_n hx hb dX1_plainTakersOf_1 rfl (lv_at hl 1 rfl) ?_
  obtain ⟨r1, hc1, hf⟩ := bd_e hf
  refine x_ci (va_runV (As := [.ref (ad 300 0)]) (rest := []) ⟨hx, hb, hml, hown, hts⟩ (t_X1_takersOf l G ad ca A z n0 hD hn0 σ r1 hc1) (cwV 1 hts gr_X1_98 rfl rfl rfl h9_X1_takersOf ⟨Nat.le_of_ble_eq_true rfl, Nat.le_of_ble_eq_true rfl⟩) (x_prV zkC hz hK hP (mk_50 hn0) rfl rfl) rfl rfl hl.1 rfl (lv_room (Nat.le_of_ble_eq_true rfl)) dX1_plainTakersOf_2 ⟨Nat.le_of_ble_eq_true rfl, Nat.le_of_ble_eq_true rfl⟩) hS (fun H locs hP hS => ?_)
  refine lv_aload_n hx hb dX1_plainTakersOf_5 rfl (lv_at hl 0 rfl) ?_
  refine x_get (k := 50) (n := n0) hx hb hts i_X1 hown hK hP (mk_50 hn0) rfl rfl 8 (by decide) rfl k_35 (v := .int (gI σ 50 n0 8)) rfl dX1_plainTakersOf_6 ?_
  refine lv_iand hx hb dX1_plainTakersOf_9 ?_
  exact x_iret hx hb hr hlocks hK hP hS (Option.some.inj hf) rfl dX1_plainTakersOf_10
theorem h9_X1_chosenOf : yX1_chosenOf.cls = RX1 ∧ yX1_chosenOf.cls ≠ "java/lang/invoke/MethodHandle" ∧ yX1_chosenOf.cls ≠ "java/lang/invoke/VarHandle" ∧ (parseMethodDescriptor yX1_chosenOf.desc).map (fun d => d.parameters.length) = some 1 := by decide +kernel
set_option maxRecDepth 100000 in
set_option maxHeartbeats 4000000 in
theorem t_X1_chosenOf (l : Launch) (G : va_G) (ad : Nat → Nat → Nat) (ca : Nat → ClassId) (A : Nat → Prop) (z : Nat × Nat) (n0 : Nat) (x1 : Int32) (hD : DW ad (LC z) A) (hn0 : n0 < z.1) (σ : PS) (res : Int32) (hf : X1_chosenOf z n0 x1 σ = some res) : Met l yX1_chosenOf wsX1_chosenOf ({ frames := 0, cells := 0, slots := 0, locals := 0 }) (ctP G ad ca (LC z) σ ZC [.ref (ad 50 n0), .int x1]) (va_Qi (fun r' u => r' = res ∧ u = σ) (ctB G ad ca (LC z)) A) 0 0 A := by
  refine Met.ofW (cc := cX1_chosenOf) (maxL := 4) (ret := (some .int)) (by decide) rfl ?_
  intro p e s m args below meth c s₁ B hml hv
  obtain ⟨rfl, hP, hK, hz⟩ := hv
  have hx := B.exec
  have hb := B.bytes
  have hr := B.returns
  have hts : ∀ w ∈ WW, w.before _ s = true := fun w h => atoms_spec (ws := wsX1_chosenOf) B.pre w (List.mem_cons_of_mem _ h)
  have hown : s.vm.findClass RX1 = some m.cls := findClass_of_methodNamed B.named
  have hlocks := B.notSynchronized
  have hS : va_S A s.heap s.heap [] := va_S.rf
  have k_28 := hts _ kf_X1_28
  have k_31 := hts _ kf_X1_31
  have hl := lv_entry ([.ref (ad 50 n0), .int x1]) (n := 4) (Nat.le_of_ble_eq_true rfl)
  rw [lg_entry_eq]
  generalize (lg_sl ([.ref (ad 50 n0), .int x1]) ++ List.replicate (4 - (lg_sl ([.ref (ad 50 n0), .int x1])).length) Slot.unset).toArray = ls at hl ⊢
  have hl : lv_has ls 4 [(0, .ref (ad 50 n0)), (1, .int x1)] := hl
  unfold X1_chosenOf at hf
  have l2 : ∀ (kx2 : Option (Int32)), (∀ (H : Heap) (locs : List Loc) (ls : Array Slot), kx2 = some res → lv_has ls 4 [] → va_P G vwCl (wld ad ca σ (LC z)) H → va_S A s.heap H locs → W p l e (headSpec wsX1_chosenOf ({ frames := 0, cells := 0, slots := 0, locals := 0 })).room s m (([.ref (ad 50 n0), .int x1] : List Value).toArray) below meth c H locs 0 0 (MQ below (va_Qi (fun r' u => r' = res ∧ u = σ) (ctB G ad ca (LC z)) A) (([.ref (ad 50 n0), .int x1] : List Value).toArray) s 0 0 A) (F0 m 45 ls [])) → ∀ (n2 : Nat) (v1 : Int32) (v2 : Int32) (H : Heap) (locs : List Loc) (ls : Array Slot), X1_chosenOf_l2 z n0 σ kx2 n2 v1 v2 = some res → lv_has ls 4 [(0, .ref (ad 50 n0)), (1, .int v1), (2, .int v2)] → va_P G vwCl (wld ad ca σ (LC z)) H → va_S A s.heap H locs → W p l e (headSpec wsX1_chosenOf ({ frames := 0, cells := 0, slots := 0, locals := 0 })).room s m (([.ref (ad 50 n0), .int x1] : List Value).toArray) below meth c H locs 0 0 (MQ below (va_Qi (fun r' u => r' = res ∧ u = σ) (ctB G ad ca (LC z)) A) (([.ref (ad 50 n0), .int x1] : List Value).toArray) s 0 0 A) (F0 m 2 ls []) := by
    intro kx2 hx2 n2
    induction n2 with
    | zero =>
      intro v1 v2 H locs ls hf
      exact absurd hf (by simp [X1_chosenOf_l2])
    | succ n2 ih2 =>
      intro v1 v2 H locs ls hf hl hP hS
      rw [X1_chosenOf_l2.eq_2] at hf
      refine lv_iload_n hx hb dX1_chosenOf_2 rfl (lv_at hl 2 rfl) ?_
      refine lv_aload_n hx hb dX1_chosenOf_3 rfl (lv_at hl 0 rfl) ?_
      refine x_get (k := 50) (n := n0) hx hb hts i_X1 hown hK hP (mk_50 hn0) rfl rfl 7 (by decide) rfl k_31 (v := .int (gI σ 50 n0 7)) rfl dX1_chosenOf_4 ?_
      refine lv_icmp_ge (tgt := 45) hx hb dX1_chosenOf_7 rfl (fun hc => ?_) (fun hc => ?_)
      · have hf := b_p hf hc
        exact hx2  _ _ _  hf (lv_sub hl [] rfl) hP hS
      · have hf := b_n hf hc
        refine lv_iconst (v := (1 : Int32)) hx hb dX1_chosenOf_10 rfl ?_
        refine lv_iload_n hx hb dX1_chosenOf_11 rfl (lv_at hl 2 rfl) ?_
        refine lv_ishl hx hb dX1_chosenOf_12 ?_
        obtain ⟨y1, e_y1, hf⟩ := nm_i hf
        refine x_nmI e_y1 ?_
        refine lv_istore_n (lv' := [(3, .int y1), (0, .ref (ad 50 n0)), (1, .int v1), (2, .int v2)]) hx hb dX1_chosenOf_13 rfl hl (by decide) rfl (fun ls hl => ?_)
        refine lv_iload_n hx hb dX1_chosenOf_14 rfl (lv_at hl 2 rfl) ?_
        refine lv_iload_n hx hb dX1_chosenOf_15 rfl (lv_at hl 0 rfl) ?_
        refine lv_iand hx hb dX1_chosenOf_16 ?_
        refine lv_if_eq (tgt := 39) hx hb dX1_chosenOf_17 rfl (fun hc => ?_) (fun hc => ?_)
        · have hf := b_p hf hc
          refine lv_iinc (v := (v2 + (1 : Int32))) (lv' := [(2, .int (v2 + (1 : Int32))), (3, .int y1), (0, .ref (ad 50 n0)), (1, .int v1)]) hx hb dX1_chosenOf_39 hl (k := 3) rfl rfl (by decide) rfl (fun ls hl => ?_)
          refine lv_goto (tgt := 2) hx hb dX1_chosenOf_42 rfl ?_
          exact ih2 v1 (v2 + (1 : Int32)) _ _ _  hf (lv_sub hl [2, 3, 0] rfl) hP hS
        · have hf := b_n hf hc
          refine lv_iload_n hx hb dX1_chosenOf_20 rfl (lv_at hl 2 rfl) ?_
          refine lv_iload_n hx hb dX1_chosenOf_21 rfl (lv_at hl 0 rfl) ?_
          refine lv_iconst (v := (-1 : Int32)) hx hb dX1_chosenOf_22 rfl ?_
          refine lv_ixor hx hb dX1_chosenOf_23 ?_
          refine lv_iand hx hb dX1_chosenOf_24 ?_
          refine lv_aload_n hx hb dX1_chosenOf_25 rfl (lv_at hl 1 rfl) ?_
          refine x_get (k := 50) (n := n0) hx hb hts i_X1 hown hK hP (mk_50 hn0) rfl rfl 6 (by decide) rfl k_28 (v := .ref (ad 57 n0)) rfl dX1_chosenOf_26 ?_
          refine lv_iload_n hx hb dX1_chosenOf_29 rfl (lv_at hl 3 rfl) ?_
          obtain ⟨g2, hf⟩ := gd_e hf
          refine x_iald (k := 57) (n := n0) hx hb hK hP (mk_57 hn0) rfl g2 dX1_chosenOf_30 ?_
          refine lv_iconst (v := (-1 : Int32)) hx hb dX1_chosenOf_31 rfl ?_
          refine lv_ixor hx hb dX1_chosenOf_32 ?_
          refine lv_iand hx hb dX1_chosenOf_33 ?_
          refine lv_if_ne (tgt := 39) hx hb dX1_chosenOf_34 rfl (fun hc => ?_) (fun hc => ?_)
          · have hf := b_n hf hc
            refine lv_iinc (v := (v2 + (1 : Int32))) (lv' := [(2, .int (v2 + (1 : Int32))), (3, .int y1), (0, .ref (ad 50 n0)), (1, .int v1)]) hx hb dX1_chosenOf_39 hl (k := 3) rfl rfl (by decide) rfl (fun ls hl => ?_)
            refine lv_goto (tgt := 2) hx hb dX1_chosenOf_42 rfl ?_
            exact ih2 v1 (v2 + (1 : Int32)) _ _ _  hf (lv_sub hl [2, 3, 0] rfl) hP hS
          · have hf := b_p hf hc
            refine lv_iload_n hx hb dX1_chosenOf_37 rfl (lv_at hl 3 rfl) ?_
            exact x_iret hx hb hr hlocks hK hP hS (Option.some.inj hf) rfl dX1_chosenOf_38
  have c45 : ∀ (H : Heap) (locs : List Loc) (ls : Array Slot), X1_chosenOf_c45 z n0 σ  = some res → lv_has ls 4 [] → va_P G vwCl (wld ad ca σ (LC z)) H → va_S A s.heap H locs → W p l e (headSpec wsX1_chosenOf ({ frames := 0, cells := 0, slots := 0, locals := 0 })).room s m (([.ref (ad 50 n0), .int x1] : List Value).toArray) below meth c H locs 0 0 (MQ below (va_Qi (fun r' u => r' = res ∧ u = σ) (ctB G ad ca (LC z)) A) (([.ref (ad 50 n0), .int x1] : List Value).toArray) s 0 0 A) (F0 m 45 ls []) := by
    intro H locs ls hf hl hP hS
    unfold X1_chosenOf_c45 at hf
    refine lv_iconst (v := (-1 : Int32)) hx hb dX1_chosenOf_45 rfl ?_
    exact x_iret hx hb hr hlocks hK hP hS (Option.some.inj hf) rfl dX1_chosenOf_46
  refine lv_iconst (v := (0 : Int32)) hx hb dX1_chosenOf_0 rfl ?_
  refine lv_istore_n (lv' := [(2, .int (0 : Int32)), (0, .ref (ad 50 n0)), (1, .int x1)]) hx hb dX1_chosenOf_1 rfl hl (by decide) rfl (fun ls hl => ?_)
  exact l2 _ c45 _ x1 (0 : Int32) _ _ _  hf (lv_sub hl [1, 2, 0] rfl) hP hS
theorem h9_X1_pieceOf : yX1_pieceOf.cls = RX1 ∧ yX1_pieceOf.cls ≠ "java/lang/invoke/MethodHandle" ∧ yX1_pieceOf.cls ≠ "java/lang/invoke/VarHandle" ∧ (parseMethodDescriptor yX1_pieceOf.desc).map (fun d => d.parameters.length) = some 2 := by decide +kernel
set_option maxRecDepth 100000 in
set_option maxHeartbeats 4000000 in
theorem t_X1_pieceOf (l : Launch) (G : va_G) (ad : Nat → Nat → Nat) (ca : Nat → ClassId) (A : Nat → Prop) (z : Nat × Nat) (n0 : Nat) (x1 : Int32) (x2 : Int32) (hD : DW ad (LC z) A) (hn0 : n0 < z.1) (σ : PS) (res : Int64) (hf : X1_pieceOf z n0 x1 x2 σ = some res) : Met l yX1_pieceOf wsX1_pieceOf ({ frames := 1, cells := 0, slots := 0, locals := 28 }) (ctP G ad ca (LC z) σ ZC [.ref (ad 50 n0), .int x1, .int x2]) (va_Ql (fun r' u => r' = res ∧ u = σ) (ctB G ad ca (LC z)) A) 0 0 A := by
  refine Met.ofW (cc := cX1_pieceOf) (maxL := 10) (ret := (some .long)) (by decide) rfl ?_
  intro p e s m args below meth c s₁ B hml hv
  obtain ⟨rfl, hP, hK, hz⟩ := hv
  have hx := B.exec
  have hb := B.bytes
  have hr := B.returns
  have hts : ∀ w ∈ WW, w.before _ s = true := fun w h => atoms_spec (ws := wsX1_pieceOf) B.pre w (List.mem_cons_of_mem _ h)
  have hown : s.vm.findClass RX1 = some m.cls := findClass_of_methodNamed B.named
  have hlocks := B.notSynchronized
  have hS : va_S A s.heap s.heap [] := va_S.rf
  have k_117 := hts _ kk_X1_117
  have k_24 := hts _ kf_X1_24
  have k_31 := hts _ kf_X1_31
  have k_119 := hts _ kf_X1_119
  have k_122 := hts _ kf_X1_122
  have k_125 := hts _ km_X1_125
  have hl := lv_entry ([.ref (ad 50 n0), .int x1, .int x2]) (n := 10) (Nat.le_of_ble_eq_true rfl)
  rw [lg_entry_eq]
  generalize (lg_sl ([.ref (ad 50 n0), .int x1, .int x2]) ++ List.replicate (10 - (lg_sl ([.ref (ad 50 n0), .int x1, .int x2])).length) Slot.unset).toArray = ls at hl ⊢
  have hl : lv_has ls 10 [(0, .ref (ad 50 n0)), (1, .int x1), (2, .int x2)] := hl
  unfold X1_pieceOf at hf
  have l7 : ∀ (kx7 : Int64 → Option (Int64)), (∀ (v3 : Int64) (H : Heap) (locs : List Loc) (ls : Array Slot), kx7 v3 = some res → lv_has ls 10 [(3, .long v3)] → va_P G vwCl (wld ad ca σ (LC z)) H → va_S A s.heap H locs → W p l e (headSpec wsX1_pieceOf ({ frames := 1, cells := 0, slots := 0, locals := 28 })).room s m (([.ref (ad 50 n0), .int x1, .int x2] : List Value).toArray) below meth c H locs 0 0 (MQ below (va_Ql (fun r' u => r' = res ∧ u = σ) (ctB G ad ca (LC z)) A) (([.ref (ad 50 n0), .int x1, .int x2] : List Value).toArray) s 0 0 A) (F0 m 84 ls [])) → ∀ (n7 : Nat) (v1 : Int32) (v2 : Int32) (v3 : Int64) (v5 : Int32) (H : Heap) (locs : List Loc) (ls : Array Slot), X1_pieceOf_l7 z n0 σ kx7 n7 v1 v2 v3 v5 = some res → lv_has ls 10 [(0, .ref (ad 50 n0)), (1, .int v1), (2, .int v2), (3, .long v3), (5, .int v5)] → va_P G vwCl (wld ad ca σ (LC z)) H → va_S A s.heap H locs → W p l e (headSpec wsX1_pieceOf ({ frames := 1, cells := 0, slots := 0, locals := 28 })).room s m (([.ref (ad 50 n0), .int x1, .int x2] : List Value).toArray) below meth c H locs 0 0 (MQ below (va_Ql (fun r' u => r' = res ∧ u = σ) (ctB G ad ca (LC z)) A) (([.ref (ad 50 n0), .int x1, .int x2] : List Value).toArray) s 0 0 A) (F0 m 7 ls []) := by
    intro kx7 hx7 n7
    induction n7 with
    | zero =>
      intro v1 v2 v3 v5 H locs ls hf
      exact absurd hf (by simp [X1_pieceOf_l7])
    | succ n7 ih7 =>
      intro v1 v2 v3 v5 H locs ls hf hl hP hS
      rw [X1_pieceOf_l7.eq_2] at hf
      have c63 : ∀ (v1 : Int32) (v2 : Int32) (v3 : Int64) (v5 : Int32) (v8 : Int64) (H : Heap) (locs : List Loc) (ls : Array Slot), X1_pieceOf_c63 z n0 σ (X1_pieceOf_l7 z n0 σ kx7 n7) kx7 v1 v2 v3 v5 v8 = some res → lv_has ls 10 [(0, .ref (ad 50 n0)), (1, .int v1), (2, .int v2), (3, .long v3), (5, .int v5), (8, .long v8)] → va_P G vwCl (wld ad ca σ (LC z)) H → va_S A s.heap H locs → W p l e (headSpec wsX1_pieceOf ({ frames := 1, cells := 0, slots := 0, locals := 28 })).room s m (([.ref (ad 50 n0), .int x1, .int x2] : List Value).toArray) below meth c H locs 0 0 (MQ below (va_Ql (fun r' u => r' = res ∧ u = σ) (ctB G ad ca (LC z)) A) (([.ref (ad 50 n0), .int x1, .int x2] : List Value).toArray) s 0 0 A) (F0 m 63 ls []) := by
        intro v1 v2 v3 v5 v8 H locs ls hf hl hP hS
        unfold X1_pieceOf_c63 at hf
        refine lv_lload hx hb dX1_pieceOf_63 (lv_at hl 5 rfl) ?_
        refine lv_iload_n hx hb dX1_pieceOf_65 rfl (lv_at hl 2 rfl) ?_
        refine lv_i2l hx hb dX1_pieceOf_66 rfl ?_
        refine W.lcmp hx hb dX1_pieceOf_67 ?_
        refine lv_if_le (tgt := 78) hx hb dX1_pieceOf_68 rfl (fun hc => ?_) (fun hc => ?_)
        · have hf := b_p hf hc
          refine lv_iinc (v := (v5 + (1 : Int32))) (lv' := [(5, .int (v5 + (1 : Int32))), (0, .ref (ad 50 n0)), (1, .int v1), (2, .int v2), (3, .long v3), (8, .long v8)]) hx hb dX1_pieceOf_78 hl (k := 4) rfl rfl (by decide) rfl (fun ls hl => ?_)
          refine lv_goto (tgt := 7) hx hb dX1_pieceOf_81 rfl ?_
          exact ih7 v1 v2 v3 (v5 + (1 : Int32)) _ _ _  hf (lv_sub hl [1, 2, 3, 4, 0] rfl) hP hS
        · have hf := b_n hf hc
          refine lv_lload_n hx hb dX1_pieceOf_71 rfl (lv_at hl 3 rfl) ?_
          refine lv_lload hx hb dX1_pieceOf_72 (lv_at hl 5 rfl) ?_
          refine va_mmin_long hx hb (by rw [hml]; exact hl.1.symm) hown k_125 (hts _ kt_MIN) (hts _ kz_MIN) (hts _ kc_MIN) (Nat.le_of_ble_eq_true rfl) (Nat.le_of_ble_eq_true rfl) (Nat.le_refl 0) (Nat.le_refl 0) dX1_pieceOf_74 ?_
          obtain ⟨y11, e_y11, hf⟩ := nm_i hf
          refine x_nmL e_y11 ?_
          refine lv_lstore_n (lv' := [(3, .long y11), (0, .ref (ad 50 n0)), (1, .int v1), (2, .int v2), (5, .int v5), (8, .long v8)]) hx hb dX1_pieceOf_77 rfl hl (by decide) rfl (fun ls hl => ?_)
          refine lv_iinc (v := (v5 + (1 : Int32))) (lv' := [(5, .int (v5 + (1 : Int32))), (3, .long y11), (0, .ref (ad 50 n0)), (1, .int v1), (2, .int v2), (8, .long v8)]) hx hb dX1_pieceOf_78 hl (k := 4) rfl rfl (by decide) rfl (fun ls hl => ?_)
          refine lv_goto (tgt := 7) hx hb dX1_pieceOf_81 rfl ?_
          exact ih7 v1 v2 y11 (v5 + (1 : Int32)) _ _ _  hf (lv_sub hl [2, 3, 4, 1, 0] rfl) hP hS
      refine lv_iload hx hb dX1_pieceOf_7 (lv_at hl 4 rfl) ?_
      refine lv_aload_n hx hb dX1_pieceOf_9 rfl (lv_at hl 0 rfl) ?_
      refine x_get (k := 50) (n := n0) hx hb hts i_X1 hown hK hP (mk_50 hn0) rfl rfl 7 (by decide) rfl k_31 (v := .int (gI σ 50 n0 7)) rfl dX1_pieceOf_10 ?_
      refine lv_icmp_ge (tgt := 84) hx hb dX1_pieceOf_13 rfl (fun hc => ?_) (fun hc => ?_)
      · have hf := b_p hf hc
        exact hx7 v3 _ _ _  hf (lv_sub hl [3] rfl) hP hS
      · have hf := b_n hf hc
        refine lv_aload_n hx hb dX1_pieceOf_16 rfl (lv_at hl 0 rfl) ?_
        refine x_get (k := 50) (n := n0) hx hb hts i_X1 hown hK hP (mk_50 hn0) rfl rfl 5 (by decide) rfl k_24 (v := .ref (ad 56 n0)) rfl dX1_pieceOf_17 ?_
        refine lv_iload hx hb dX1_pieceOf_20 (lv_at hl 4 rfl) ?_
        obtain ⟨g1, hf⟩ := gd_e hf
        obtain ⟨o2, e_o2, hf⟩ := nm_i hf
        refine x_aald (k := 56) (n := n0) (t := 100) hx hb hK hP (mk_56 hn0) (by decide) g1 dX1_pieceOf_22 e_o2 ?_
        obtain ⟨q3, e_q3, h_q3, hf9⟩ := dr_e hf
        clear hf
        subst e_q3
        have hf := hf9
        clear hf9
        refine x_get (k := 100) (n := q3) hx hb hts i_X2 hown hK hP (mk_100 h_q3) rfl rfl 6 (by decide) rfl k_119 (v := .ref (ad 107 q3)) rfl dX1_pieceOf_23 ?_
        refine lv_iload_n hx hb dX1_pieceOf_26 rfl (lv_at hl 1 rfl) ?_
        obtain ⟨g4, hf⟩ := gd_e hf
        refine x_iald (k := 107) (n := q3) hx hb hK hP (mk_107 h_q3) rfl g4 dX1_pieceOf_27 ?_
        refine lv_i2l hx hb dX1_pieceOf_28 rfl ?_
        obtain ⟨y5, e_y5, hf⟩ := nm_i hf
        refine x_nmL e_y5 ?_
        refine lv_lstore (lv' := [(6, .long y5), (0, .ref (ad 50 n0)), (1, .int v1), (2, .int v2), (3, .long v3), (5, .int v5)]) hx hb dX1_pieceOf_29 hl (by decide) rfl (fun ls hl => ?_)
        refine lv_aload_n hx hb dX1_pieceOf_31 rfl (lv_at hl 1 rfl) ?_
        refine x_get (k := 50) (n := n0) hx hb hts i_X1 hown hK hP (mk_50 hn0) rfl rfl 5 (by decide) rfl k_24 (v := .ref (ad 56 n0)) rfl dX1_pieceOf_32 ?_
        refine lv_iload hx hb dX1_pieceOf_35 (lv_at hl 5 rfl) ?_
        obtain ⟨g6, hf⟩ := gd_e hf
        obtain ⟨o7, e_o7, hf⟩ := nm_i hf
        refine x_aald (k := 56) (n := n0) (t := 100) hx hb hK hP (mk_56 hn0) (by decide) g6 dX1_pieceOf_37 e_o7 ?_
        obtain ⟨q8, e_q8, h_q8, hf9⟩ := dr_e hf
        clear hf
        subst e_q8
        have hf := hf9
        clear hf9
        refine x_get (k := 100) (n := q8) hx hb hts i_X2 hown hK hP (mk_100 h_q8) rfl rfl 7 (by decide) rfl k_122 (v := .ref (ad 108 q8)) rfl dX1_pieceOf_38 ?_
        refine lv_iload_n hx hb dX1_pieceOf_41 rfl (lv_at hl 2 rfl) ?_
        obtain ⟨g9, hf⟩ := gd_e hf
        refine x_iald (k := 108) (n := q8) hx hb hK hP (mk_108 h_q8) rfl g9 dX1_pieceOf_42 ?_
        refine lv_i2l hx hb dX1_pieceOf_43 rfl ?_
        refine lv_lconst (v := (1 : Int64)) hx hb dX1_pieceOf_44 rfl ?_
        refine lv_ladd hx hb dX1_pieceOf_45 ?_
        obtain ⟨y10, e_y10, hf⟩ := nm_i hf
        refine x_nmL e_y10 ?_
        refine lv_lstore (lv' := [(8, .long y10), (6, .long y5), (0, .ref (ad 50 n0)), (1, .int v1), (2, .int v2), (3, .long v3), (5, .int v5)]) hx hb dX1_pieceOf_46 hl (by decide) rfl (fun ls hl => ?_)
        refine lv_lload hx hb dX1_pieceOf_48 (lv_at hl 1 rfl) ?_
        refine lv_iload_n hx hb dX1_pieceOf_50 rfl (lv_at hl 4 rfl) ?_
        refine lv_i2l hx hb dX1_pieceOf_51 rfl ?_
        refine W.lcmp hx hb dX1_pieceOf_52 ?_
        refine lv_if_le (tgt := 63) hx hb dX1_pieceOf_53 rfl (fun hc => ?_) (fun hc => ?_)
        · have hf := b_p hf hc
          exact c63 v1 v2 v3 v5 y10 _ _ _  hf (lv_sub hl [2, 3, 4, 5, 6, 0] rfl) hP hS
        · have hf := b_n hf hc
          refine lv_lload_n hx hb dX1_pieceOf_56 rfl (lv_at hl 5 rfl) ?_
          refine lv_lload hx hb dX1_pieceOf_57 (lv_at hl 1 rfl) ?_
          refine va_mmin_long hx hb (by rw [hml]; exact hl.1.symm) hown k_125 (hts _ kt_MIN) (hts _ kz_MIN) (hts _ kc_MIN) (Nat.le_of_ble_eq_true rfl) (Nat.le_of_ble_eq_true rfl) (Nat.le_refl 0) (Nat.le_refl 0) dX1_pieceOf_59 ?_
          obtain ⟨y12, e_y12, hf⟩ := nm_i hf
          refine x_nmL e_y12 ?_
          refine lv_lstore_n (lv' := [(3, .long y12), (8, .long y10), (6, .long y5), (0, .ref (ad 50 n0)), (1, .int v1), (2, .int v2), (5, .int v5)]) hx hb dX1_pieceOf_62 rfl hl (by decide) rfl (fun ls hl => ?_)
          exact c63 v1 v2 y12 v5 y10 _ _ _  hf (lv_sub hl [3, 4, 5, 0, 6, 1] rfl) hP hS
  have c84 : ∀ (v3 : Int64) (H : Heap) (locs : List Loc) (ls : Array Slot), X1_pieceOf_c84 z n0 σ v3 = some res → lv_has ls 10 [(3, .long v3)] → va_P G vwCl (wld ad ca σ (LC z)) H → va_S A s.heap H locs → W p l e (headSpec wsX1_pieceOf ({ frames := 1, cells := 0, slots := 0, locals := 28 })).room s m (([.ref (ad 50 n0), .int x1, .int x2] : List Value).toArray) below meth c H locs 0 0 (MQ below (va_Ql (fun r' u => r' = res ∧ u = σ) (ctB G ad ca (LC z)) A) (([.ref (ad 50 n0), .int x1, .int x2] : List Value).toArray) s 0 0 A) (F0 m 84 ls []) := by
    intro v3 H locs ls hf hl hP hS
    unfold X1_pieceOf_c84 at hf
    refine lv_lload_n hx hb dX1_pieceOf_84 rfl (lv_at hl 0 rfl) ?_
    exact x_lret hx hb hr hlocks hK hP hS (Option.some.inj hf) rfl dX1_pieceOf_85
  refine lv_ldc2 hx hb hown k_117 dX1_pieceOf_0 ?_
  refine lv_lstore_n (lv' := [(3, .long (2147483648 : Int64)), (0, .ref (ad 50 n0)), (1, .int x1), (2, .int x2)]) hx hb dX1_pieceOf_3 rfl hl (by decide) rfl (fun ls hl => ?_)
  refine lv_iconst (v := (0 : Int32)) hx hb dX1_pieceOf_4 rfl ?_
  refine lv_istore (lv' := [(5, .int (0 : Int32)), (3, .long (2147483648 : Int64)), (0, .ref (ad 50 n0)), (1, .int x1), (2, .int x2)]) hx hb dX1_pieceOf_5 hl (by decide) rfl (fun ls hl => ?_)
  exact l7 _ c84 _ x1 x2 (2147483648 : Int64) (0 : Int32) _ _ _  hf (lv_sub hl [2, 3, 4, 1, 0] rfl) hP hS
theorem h9_X4_find : yX4_find.cls = RX4 ∧ yX4_find.cls ≠ "java/lang/invoke/MethodHandle" ∧ yX4_find.cls ≠ "java/lang/invoke/VarHandle" ∧ (parseMethodDescriptor yX4_find.desc).map (fun d => d.parameters.length) = some 3 := by decide +kernel
set_option maxRecDepth 100000 in
set_option maxHeartbeats 4000000 in
theorem t_X4_find (l : Launch) (G : va_G) (ad : Nat → Nat → Nat) (ca : Nat → ClassId) (A : Nat → Prop) (z : Nat × Nat) (n0 : Nat) (x1 : Int32) (x2 : Int64) (x4 : Int64) (hD : DW ad (LC z) A) (hn0 : n0 < z.1) (σ : PS) (res : Int32) (hf : X4_find z n0 x1 x2 x4 σ = some res) : Met l yX4_find wsX4_find ({ frames := 0, cells := 0, slots := 0, locals := 0 }) (ctP G ad ca (LC z) σ ZC [.ref (ad 200 n0), .int x1, .long x2, .long x4]) (va_Qi (fun r' u => r' = res ∧ u = σ) (ctB G ad ca (LC z)) A) 0 0 A := by
  refine Met.ofW (cc := cX4_find) (maxL := 7) (ret := (some .int)) (by decide) rfl ?_
  intro p e s m args below meth c s₁ B hml hv
  obtain ⟨rfl, hP, hK, hz⟩ := hv
  have hx := B.exec
  have hb := B.bytes
  have hr := B.returns
  have hts : ∀ w ∈ WW, w.before _ s = true := fun w h => atoms_spec (ws := wsX4_find) B.pre w (List.mem_cons_of_mem _ h)
  have hown : s.vm.findClass RX4 = some m.cls := findClass_of_methodNamed B.named
  have hlocks := B.notSynchronized
  have hS : va_S A s.heap s.heap [] := va_S.rf
  have k_9 := hts _ kf_X4_9
  have k_15 := hts _ kf_X4_15
  have k_19 := hts _ kf_X4_19
  have k_29 := hts _ kf_X4_29
  have hl := lv_entry ([.ref (ad 200 n0), .int x1, .long x2, .long x4]) (n := 7) (Nat.le_of_ble_eq_true rfl)
  rw [lg_entry_eq]
  generalize (lg_sl ([.ref (ad 200 n0), .int x1, .long x2, .long x4]) ++ List.replicate (7 - (lg_sl ([.ref (ad 200 n0), .int x1, .long x2, .long x4])).length) Slot.unset).toArray = ls at hl ⊢
  have hl : lv_has ls 7 [(0, .ref (ad 200 n0)), (1, .int x1), (2, .long x2), (4, .long x4)] := hl
  unfold X4_find at hf
  have l3 : ∀ (kx3 : Option (Int32)), (∀ (H : Heap) (locs : List Loc) (ls : Array Slot), kx3 = some res → lv_has ls 7 [] → va_P G vwCl (wld ad ca σ (LC z)) H → va_S A s.heap H locs → W p l e (headSpec wsX4_find ({ frames := 0, cells := 0, slots := 0, locals := 0 })).room s m (([.ref (ad 200 n0), .int x1, .long x2, .long x4] : List Value).toArray) below meth c H locs 0 0 (MQ below (va_Qi (fun r' u => r' = res ∧ u = σ) (ctB G ad ca (LC z)) A) (([.ref (ad 200 n0), .int x1, .long x2, .long x4] : List Value).toArray) s 0 0 A) (F0 m 57 ls [])) → ∀ (n3 : Nat) (v1 : Int32) (v2 : Int64) (v4 : Int64) (v6 : Int32) (H : Heap) (locs : List Loc) (ls : Array Slot), X4_find_l3 z n0 σ kx3 n3 v1 v2 v4 v6 = some res → lv_has ls 7 [(0, .ref (ad 200 n0)), (1, .int v1), (2, .long v2), (4, .long v4), (6, .int v6)] → va_P G vwCl (wld ad ca σ (LC z)) H → va_S A s.heap H locs → W p l e (headSpec wsX4_find ({ frames := 0, cells := 0, slots := 0, locals := 0 })).room s m (([.ref (ad 200 n0), .int x1, .long x2, .long x4] : List Value).toArray) below meth c H locs 0 0 (MQ below (va_Qi (fun r' u => r' = res ∧ u = σ) (ctB G ad ca (LC z)) A) (([.ref (ad 200 n0), .int x1, .long x2, .long x4] : List Value).toArray) s 0 0 A) (F0 m 3 ls []) := by
    intro kx3 hx3 n3
    induction n3 with
    | zero =>
      intro v1 v2 v4 v6 H locs ls hf
      exact absurd hf (by simp [X4_find_l3])
    | succ n3 ih3 =>
      intro v1 v2 v4 v6 H locs ls hf hl hP hS
      rw [X4_find_l3.eq_2] at hf
      refine lv_iload hx hb dX4_find_3 (lv_at hl 4 rfl) ?_
      refine lv_aload_n hx hb dX4_find_5 rfl (lv_at hl 0 rfl) ?_
      refine x_get (k := 200) (n := n0) hx hb hts i_X4 hown hK hP (mk_200 hn0) rfl rfl 5 (by decide) rfl k_29 (v := .int (gI σ 200 n0 5)) rfl dX4_find_6 ?_
      refine lv_icmp_ge (tgt := 57) hx hb dX4_find_9 rfl (fun hc => ?_) (fun hc => ?_)
      · have hf := b_p hf hc
        exact hx3  _ _ _  hf (lv_sub hl [] rfl) hP hS
      · have hf := b_n hf hc
        refine lv_aload_n hx hb dX4_find_12 rfl (lv_at hl 0 rfl) ?_
        refine x_get (k := 200) (n := n0) hx hb hts i_X4 hown hK hP (mk_200 hn0) rfl rfl 0 (by decide) rfl k_9 (v := .ref (ad 201 n0)) rfl dX4_find_13 ?_
        refine lv_iload hx hb dX4_find_16 (lv_at hl 4 rfl) ?_
        obtain ⟨g1, hf⟩ := gd_e hf
        refine x_iald (k := 201) (n := n0) hx hb hK hP (mk_201 hn0) rfl g1 dX4_find_18 ?_
        refine lv_iload_n hx hb dX4_find_19 rfl (lv_at hl 1 rfl) ?_
        refine lv_icmp_ne (tgt := 51) hx hb dX4_find_20 rfl (fun hc => ?_) (fun hc => ?_)
        · have hf := b_n hf hc
          refine lv_iinc (v := (v6 + (1 : Int32))) (lv' := [(6, .int (v6 + (1 : Int32))), (0, .ref (ad 200 n0)), (1, .int v1), (2, .long v2), (4, .long v4)]) hx hb dX4_find_51 hl (k := 4) rfl rfl (by decide) rfl (fun ls hl => ?_)
          refine lv_goto (tgt := 3) hx hb dX4_find_54 rfl ?_
          exact ih3 v1 v2 v4 (v6 + (1 : Int32)) _ _ _  hf (lv_sub hl [1, 2, 3, 4, 0] rfl) hP hS
        · have hf := b_p hf hc
          refine lv_aload_n hx hb dX4_find_23 rfl (lv_at hl 0 rfl) ?_
          refine x_get (k := 200) (n := n0) hx hb hts i_X4 hown hK hP (mk_200 hn0) rfl rfl 1 (by decide) rfl k_15 (v := .ref (ad 202 n0)) rfl dX4_find_24 ?_
          refine lv_iload hx hb dX4_find_27 (lv_at hl 4 rfl) ?_
          obtain ⟨g2, hf⟩ := gd_e hf
          refine x_lald (k := 202) (n := n0) hx hb hK hP (mk_202 hn0) rfl g2 dX4_find_29 ?_
          refine lv_lload_n hx hb dX4_find_30 rfl (lv_at hl 2 rfl) ?_
          refine W.lcmp hx hb dX4_find_31 ?_
          refine lv_if_ne (tgt := 51) hx hb dX4_find_32 rfl (fun hc => ?_) (fun hc => ?_)
          · have hf := b_n hf hc
            refine lv_iinc (v := (v6 + (1 : Int32))) (lv' := [(6, .int (v6 + (1 : Int32))), (0, .ref (ad 200 n0)), (1, .int v1), (2, .long v2), (4, .long v4)]) hx hb dX4_find_51 hl (k := 4) rfl rfl (by decide) rfl (fun ls hl => ?_)
            refine lv_goto (tgt := 3) hx hb dX4_find_54 rfl ?_
            exact ih3 v1 v2 v4 (v6 + (1 : Int32)) _ _ _  hf (lv_sub hl [1, 2, 3, 4, 0] rfl) hP hS
          · have hf := b_p hf hc
            refine lv_aload_n hx hb dX4_find_35 rfl (lv_at hl 0 rfl) ?_
            refine x_get (k := 200) (n := n0) hx hb hts i_X4 hown hK hP (mk_200 hn0) rfl rfl 2 (by decide) rfl k_19 (v := .ref (ad 203 n0)) rfl dX4_find_36 ?_
            refine lv_iload hx hb dX4_find_39 (lv_at hl 4 rfl) ?_
            obtain ⟨g3, hf⟩ := gd_e hf
            refine x_lald (k := 203) (n := n0) hx hb hK hP (mk_203 hn0) rfl g3 dX4_find_41 ?_
            refine lv_lload hx hb dX4_find_42 (lv_at hl 3 rfl) ?_
            refine W.lcmp hx hb dX4_find_44 ?_
            refine lv_if_ne (tgt := 51) hx hb dX4_find_45 rfl (fun hc => ?_) (fun hc => ?_)
            · have hf := b_n hf hc
              refine lv_iinc (v := (v6 + (1 : Int32))) (lv' := [(6, .int (v6 + (1 : Int32))), (0, .ref (ad 200 n0)), (1, .int v1), (2, .long v2), (4, .long v4)]) hx hb dX4_find_51 hl (k := 4) rfl rfl (by decide) rfl (fun ls hl => ?_)
              refine lv_goto (tgt := 3) hx hb dX4_find_54 rfl ?_
              exact ih3 v1 v2 v4 (v6 + (1 : Int32)) _ _ _  hf (lv_sub hl [1, 2, 3, 4, 0] rfl) hP hS
            · have hf := b_p hf hc
              refine lv_iload hx hb dX4_find_48 (lv_at hl 4 rfl) ?_
              exact x_iret hx hb hr hlocks hK hP hS (Option.some.inj hf) rfl dX4_find_50
  have c57 : ∀ (H : Heap) (locs : List Loc) (ls : Array Slot), X4_find_c57 z n0 σ  = some res → lv_has ls 7 [] → va_P G vwCl (wld ad ca σ (LC z)) H → va_S A s.heap H locs → W p l e (headSpec wsX4_find ({ frames := 0, cells := 0, slots := 0, locals := 0 })).room s m (([.ref (ad 200 n0), .int x1, .long x2, .long x4] : List Value).toArray) below meth c H locs 0 0 (MQ below (va_Qi (fun r' u => r' = res ∧ u = σ) (ctB G ad ca (LC z)) A) (([.ref (ad 200 n0), .int x1, .long x2, .long x4] : List Value).toArray) s 0 0 A) (F0 m 57 ls []) := by
    intro H locs ls hf hl hP hS
    unfold X4_find_c57 at hf
    refine lv_iconst (v := (-1 : Int32)) hx hb dX4_find_57 rfl ?_
    exact x_iret hx hb hr hlocks hK hP hS (Option.some.inj hf) rfl dX4_find_58
  refine lv_iconst (v := (0 : Int32)) hx hb dX4_find_0 rfl ?_
  refine lv_istore (lv' := [(6, .int (0 : Int32)), (0, .ref (ad 200 n0)), (1, .int x1), (2, .long x2), (4, .long x4)]) hx hb dX4_find_1 hl (by decide) rfl (fun ls hl => ?_)
  exact l3 _ c57 _ x1 x2 x4 (0 : Int32) _ _ _  hf (lv_sub hl [1, 2, 3, 4, 0] rfl) hP hS
theorem h9_X4_makeRoom : yX4_makeRoom.cls = RX4 ∧ yX4_makeRoom.cls ≠ "java/lang/invoke/MethodHandle" ∧ yX4_makeRoom.cls ≠ "java/lang/invoke/VarHandle" ∧ (parseMethodDescriptor yX4_makeRoom.desc).map (fun d => d.parameters.length) = some 0 := by decide +kernel
set_option maxRecDepth 100000 in
set_option maxHeartbeats 4000000 in
theorem t_X4_makeRoom (l : Launch) (G : va_G) (ad : Nat → Nat → Nat) (ca : Nat → ClassId) (A : Nat → Prop) (z : Nat × Nat) (n0 : Nat) (hD : DW ad (LC z) A) (hn0 : n0 < z.1) (σ : PS) (res : Int32) (σz : PS) (hf : X4_makeRoom z n0  σ = some (res, σz)) : Met l yX4_makeRoom wsX4_makeRoom ({ frames := 0, cells := 0, slots := 0, locals := 0 }) (ctP G ad ca (LC z) σ ZC [.ref (ad 200 n0)]) (va_Qi (fun r' u => r' = res ∧ u = σz) (ctB G ad ca (LC z)) A) 0 0 A := by
  refine Met.ofW (cc := cX4_makeRoom) (maxL := 3) (ret := (some .int)) (by decide) rfl ?_
  intro p e s m args below meth c s₁ B hml hv
  obtain ⟨rfl, hP, hK, hz⟩ := hv
  have hx := B.exec
  have hb := B.bytes
  have hr := B.returns
  have hts : ∀ w ∈ WW, w.before _ s = true := fun w h => atoms_spec (ws := wsX4_makeRoom) B.pre w (List.mem_cons_of_mem _ h)
  have hown : s.vm.findClass RX4 = some m.cls := findClass_of_methodNamed B.named
  have hlocks := B.notSynchronized
  have hS : va_S A s.heap s.heap [] := va_S.rf
  have k_22 := hts _ kf_X4_22
  have k_29 := hts _ kf_X4_29
  have hl := lv_entry ([.ref (ad 200 n0)]) (n := 3) (Nat.le_of_ble_eq_true rfl)
  rw [lg_entry_eq]
  generalize (lg_sl ([.ref (ad 200 n0)]) ++ List.replicate (3 - (lg_sl ([.ref (ad 200 n0)])).length) Slot.unset).toArray = ls at hl ⊢
  have hl : lv_has ls 3 [(0, .ref (ad 200 n0))] := hl
  unfold X4_makeRoom at hf
  have l30 : ∀ (kx30 : Int32 → PS → Option (Int32 × PS)), (∀ (v1 : Int32) (σ : PS) (H : Heap) (locs : List Loc) (ls : Array Slot), kx30 v1 σ = some (res, σz) → lv_has ls 3 [(1, .int v1)] → va_P G vwCl (wld ad ca σ (LC z)) H → va_S A s.heap H locs → W p l e (headSpec wsX4_makeRoom ({ frames := 0, cells := 0, slots := 0, locals := 0 })).room s m (([.ref (ad 200 n0)] : List Value).toArray) below meth c H locs 0 0 (MQ below (va_Qi (fun r' u => r' = res ∧ u = σz) (ctB G ad ca (LC z)) A) (([.ref (ad 200 n0)] : List Value).toArray) s 0 0 A) (F0 m 59 ls [])) → ∀ (n30 : Nat) (v1 : Int32) (v2 : Int32) (σ : PS) (H : Heap) (locs : List Loc) (ls : Array Slot), X4_makeRoom_l30 z n0 kx30 n30 v1 v2 σ = some (res, σz) → lv_has ls 3 [(0, .ref (ad 200 n0)), (1, .int v1), (2, .int v2)] → va_P G vwCl (wld ad ca σ (LC z)) H → va_S A s.heap H locs → W p l e (headSpec wsX4_makeRoom ({ frames := 0, cells := 0, slots := 0, locals := 0 })).room s m (([.ref (ad 200 n0)] : List Value).toArray) below meth c H locs 0 0 (MQ below (va_Qi (fun r' u => r' = res ∧ u = σz) (ctB G ad ca (LC z)) A) (([.ref (ad 200 n0)] : List Value).toArray) s 0 0 A) (F0 m 30 ls []) := by
    intro kx30 hx30 n30
    induction n30 with
    | zero =>
      intro v1 v2 σ H locs ls hf
      exact absurd hf (by simp [X4_makeRoom_l30])
    | succ n30 ih30 =>
      intro v1 v2 σ H locs ls hf hl hP hS
      rw [X4_makeRoom_l30.eq_2] at hf
      refine lv_iload_n hx hb dX4_makeRoom_30 rfl (lv_at hl 2 rfl) ?_
      refine lv_bipush (v := (16 : Int32)) hx hb dX4_makeRoom_31 rfl ?_
      refine lv_icmp_ge (tgt := 59) hx hb dX4_makeRoom_33 rfl (fun hc => ?_) (fun hc => ?_)
      · have hf := b_p hf hc
        exact hx30 v1 σ _ _ _  hf (lv_sub hl [1] rfl) hP hS
      · have hf := b_n hf hc
        refine lv_aload_n hx hb dX4_makeRoom_36 rfl (lv_at hl 0 rfl) ?_
        refine x_get (k := 200) (n := n0) hx hb hts i_X4 hown hK hP (mk_200 hn0) rfl rfl 3 (by decide) rfl k_22 (v := .ref (ad 204 n0)) rfl dX4_makeRoom_37 ?_
        refine lv_iload_n hx hb dX4_makeRoom_40 rfl (lv_at hl 2 rfl) ?_
        obtain ⟨g1, hf⟩ := gd_e hf
        refine x_iald (k := 204) (n := n0) hx hb hK hP (mk_204 hn0) rfl g1 dX4_makeRoom_41 ?_
        refine lv_aload_n hx hb dX4_makeRoom_42 rfl (lv_at hl 0 rfl) ?_
        refine x_get (k := 200) (n := n0) hx hb hts i_X4 hown hK hP (mk_200 hn0) rfl rfl 3 (by decide) rfl k_22 (v := .ref (ad 204 n0)) rfl dX4_makeRoom_43 ?_
        refine lv_iload_n hx hb dX4_makeRoom_46 rfl (lv_at hl 1 rfl) ?_
        obtain ⟨g2, hf⟩ := gd_e hf
        refine x_iald (k := 204) (n := n0) hx hb hK hP (mk_204 hn0) rfl g2 dX4_makeRoom_47 ?_
        refine lv_icmp_ge (tgt := 53) hx hb dX4_makeRoom_48 rfl (fun hc => ?_) (fun hc => ?_)
        · have hf := b_p hf hc
          refine lv_iinc (v := (v2 + (1 : Int32))) (lv' := [(2, .int (v2 + (1 : Int32))), (0, .ref (ad 200 n0)), (1, .int v1)]) hx hb dX4_makeRoom_53 hl (k := 2) rfl rfl (by decide) rfl (fun ls hl => ?_)
          refine lv_goto (tgt := 30) hx hb dX4_makeRoom_56 rfl ?_
          exact ih30 v1 (v2 + (1 : Int32)) σ _ _ _  hf (lv_sub hl [1, 2, 0] rfl) hP hS
        · have hf := b_n hf hc
          refine lv_iload_n hx hb dX4_makeRoom_51 rfl (lv_at hl 2 rfl) ?_
          refine lv_istore_n (lv' := [(1, .int v2), (0, .ref (ad 200 n0)), (2, .int v2)]) hx hb dX4_makeRoom_52 rfl hl (by decide) rfl (fun ls hl => ?_)
          refine lv_iinc (v := (v2 + (1 : Int32))) (lv' := [(2, .int (v2 + (1 : Int32))), (1, .int v2), (0, .ref (ad 200 n0))]) hx hb dX4_makeRoom_53 hl (k := 2) rfl rfl (by decide) rfl (fun ls hl => ?_)
          refine lv_goto (tgt := 30) hx hb dX4_makeRoom_56 rfl ?_
          exact ih30 v2 (v2 + (1 : Int32)) σ _ _ _  hf (lv_sub hl [2, 1, 0] rfl) hP hS
  have c59 : ∀ (v1 : Int32) (σ : PS) (H : Heap) (locs : List Loc) (ls : Array Slot), X4_makeRoom_c59 z n0 v1 σ = some (res, σz) → lv_has ls 3 [(1, .int v1)] → va_P G vwCl (wld ad ca σ (LC z)) H → va_S A s.heap H locs → W p l e (headSpec wsX4_makeRoom ({ frames := 0, cells := 0, slots := 0, locals := 0 })).room s m (([.ref (ad 200 n0)] : List Value).toArray) below meth c H locs 0 0 (MQ below (va_Qi (fun r' u => r' = res ∧ u = σz) (ctB G ad ca (LC z)) A) (([.ref (ad 200 n0)] : List Value).toArray) s 0 0 A) (F0 m 59 ls []) := by
    intro v1 σ H locs ls hf hl hP hS
    unfold X4_makeRoom_c59 at hf
    refine lv_iload_n hx hb dX4_makeRoom_59 rfl (lv_at hl 0 rfl) ?_
    have hf := Option.some.inj hf
    exact x_iret hx hb hr hlocks hK hP hS (congrArg Prod.fst hf) (congrArg Prod.snd hf) dX4_makeRoom_60
  refine lv_aload_n hx hb dX4_makeRoom_0 rfl (lv_at hl 0 rfl) ?_
  refine x_get (k := 200) (n := n0) hx hb hts i_X4 hown hK hP (mk_200 hn0) rfl rfl 5 (by decide) rfl k_29 (v := .int (gI σ 200 n0 5)) rfl dX4_makeRoom_1 ?_
  refine lv_bipush (v := (16 : Int32)) hx hb dX4_makeRoom_4 rfl ?_
  refine lv_icmp_ge (tgt := 26) hx hb dX4_makeRoom_6 rfl (fun hc => ?_) (fun hc => ?_)
  · have hf := b_p hf hc
    refine lv_iconst (v := (0 : Int32)) hx hb dX4_makeRoom_26 rfl ?_
    refine lv_istore_n (lv' := [(1, .int (0 : Int32)), (0, .ref (ad 200 n0))]) hx hb dX4_makeRoom_27 rfl hl (by decide) rfl (fun ls hl => ?_)
    refine lv_iconst (v := (1 : Int32)) hx hb dX4_makeRoom_28 rfl ?_
    refine lv_istore_n (lv' := [(2, .int (1 : Int32)), (1, .int (0 : Int32)), (0, .ref (ad 200 n0))]) hx hb dX4_makeRoom_29 rfl hl (by decide) rfl (fun ls hl => ?_)
    exact l30 _ c59 _ (0 : Int32) (1 : Int32) σ _ _ _  hf (lv_sub hl [2, 1, 0] rfl) hP hS
  · have hf := b_n hf hc
    refine lv_aload_n hx hb dX4_makeRoom_9 rfl (lv_at hl 0 rfl) ?_
    refine lv_dup hx hb dX4_makeRoom_10 rfl ?_
    refine x_get (k := 200) (n := n0) hx hb hts i_X4 hown hK hP (mk_200 hn0) rfl rfl 5 (by decide) rfl k_29 (v := .int (gI σ 200 n0 5)) rfl dX4_makeRoom_11 ?_
    refine lv_iconst (v := (1 : Int32)) hx hb dX4_makeRoom_14 rfl ?_
    refine lv_iadd hx hb dX4_makeRoom_15 ?_
    refine x_putI (k := 200) (n := n0) hx hb hts i_X4 tyX4 tyX4_ok nmX4 hown hK hD hP hS (mk_200 hn0) rfl rfl 5 (by decide) rfl k_29 rfl rfl rfl rfl dX4_makeRoom_16 (fun H locs hP hS => ?_)
    obtain ⟨σ3, e_σ3, hf⟩ := nm_i hf
    have hP : va_P G vwCl (wld ad ca σ3 (LC z)) H := by rw [e_σ3]; exact hP
    refine lv_aload_n hx hb dX4_makeRoom_19 rfl (lv_at hl 0 rfl) ?_
    refine x_get (k := 200) (n := n0) hx hb hts i_X4 hown hK hP (mk_200 hn0) rfl rfl 5 (by decide) rfl k_29 (v := .int (gI σ3 200 n0 5)) rfl dX4_makeRoom_20 ?_
    refine lv_iconst (v := (1 : Int32)) hx hb dX4_makeRoom_23 rfl ?_
    refine lv_isub hx hb dX4_makeRoom_24 ?_
    have hf := Option.some.inj hf
    exact x_iret hx hb hr hlocks hK hP hS (congrArg Prod.fst hf) (congrArg Prod.snd hf) dX4_makeRoom_25
theorem h9_X4_look : yX4_look.cls = RX4 ∧ yX4_look.cls ≠ "java/lang/invoke/MethodHandle" ∧ yX4_look.cls ≠ "java/lang/invoke/VarHandle" ∧ (parseMethodDescriptor yX4_look.desc).map (fun d => d.parameters.length) = some 3 := by decide +kernel
set_option maxRecDepth 100000 in
set_option maxHeartbeats 4000000 in
theorem t_X4_look (l : Launch) (G : va_G) (ad : Nat → Nat → Nat) (ca : Nat → ClassId) (A : Nat → Prop) (z : Nat × Nat) (n0 : Nat) (x1 : Int32) (x2 : Int64) (x4 : Int64) (hD : DW ad (LC z) A) (hn0 : n0 < z.1) (σ : PS) (res : PS) (hf : X4_look z n0 x1 x2 x4 σ = some res) : Met l yX4_look wsX4_look ({ frames := 1, cells := 0, slots := 0, locals := 26 }) (ctP G ad ca (LC z) σ ZC [.ref (ad 200 n0), .int x1, .long x2, .long x4]) (va_Qv (fun u => u = res) (ctB G ad ca (LC z)) A) 0 0 A := by
  refine Met.ofW (cc := cX4_look) (maxL := 7) (ret := none) (by decide) rfl ?_
  intro p e s m args below meth c s₁ B hml hv
  obtain ⟨rfl, hP, hK, hz⟩ := hv
  have hx := B.exec
  have hb := B.bytes
  have hr := B.returns
  have hts : ∀ w ∈ WW, w.before _ s = true := fun w h => atoms_spec (ws := wsX4_look) B.pre w (List.mem_cons_of_mem _ h)
  have hown : s.vm.findClass RX4 = some m.cls := findClass_of_methodNamed B.named
  have hlocks := B.notSynchronized
  have hS : va_S A s.heap s.heap [] := va_S.rf
  have k_9 := hts _ kf_X4_9
  have k_15 := hts _ kf_X4_15
  have k_19 := hts _ kf_X4_19
  have k_22 := hts _ kf_X4_22
  have k_25 := hts _ kf_X4_25
  have k_32 := hts _ kf_X4_32
  have hl := lv_entry ([.ref (ad 200 n0), .int x1, .long x2, .long x4]) (n := 7) (Nat.le_of_ble_eq_true rfl)
  rw [lg_entry_eq]
  generalize (lg_sl ([.ref (ad 200 n0), .int x1, .long x2, .long x4]) ++ List.replicate (7 - (lg_sl ([.ref (ad 200 n0), .int x1, .long x2, .long x4])).length) Slot.unset).toArray = ls at hl ⊢
  have hl : lv_has ls 7 [(0, .ref (ad 200 n0)), (1, .int x1), (2, .long x2), (4, .long x4)] := hl
  unfold X4_look at hf
  refine lv_aload_n hx hb dX4_look_0 rfl (lv_at hl 0 rfl) ?_
  refine lv_iload_n hx hb dX4_look_1 rfl (lv_at hl 1 rfl) ?_
  refine lv_lload_n hx hb dX4_look_2 rfl (lv_at hl 2 rfl) ?_
  refine lv_lload hx hb dX4_look_3 (lv_at hl 3 rfl) ?_
  obtain ⟨r1, hc1, hf⟩ := bd_e hf
  refine x_ci (va_runV (As := [.int x1, .long x2, .long x4]) (rest := []) ⟨hx, hb, hml, hown, hts⟩ (t_X4_find l G ad ca A z n0 x1 x2 x4 hD hn0 σ r1 hc1) (cwV 3 hts gr_X4_35 rfl rfl rfl h9_X4_find ⟨Nat.le_of_ble_eq_true rfl, Nat.le_of_ble_eq_true rfl⟩) (x_prV zkC hz hK hP (mk_200 hn0) rfl rfl) rfl rfl hl.1 rfl (lv_room (Nat.le_of_ble_eq_true rfl)) dX4_look_5 ⟨Nat.le_of_ble_eq_true rfl, Nat.le_of_ble_eq_true rfl⟩) hS (fun H locs hP hS => ?_)
  refine lv_istore (lv' := [(6, .int r1), (0, .ref (ad 200 n0)), (1, .int x1), (2, .long x2), (4, .long x4)]) hx hb dX4_look_8 hl (by decide) rfl (fun ls hl => ?_)
  refine lv_iload hx hb dX4_look_10 (lv_at hl 0 rfl) ?_
  refine lv_iconst (v := (-1 : Int32)) hx hb dX4_look_12 rfl ?_
  refine lv_icmp_eq (tgt := 29) hx hb dX4_look_13 rfl (fun hc => ?_) (fun hc => ?_)
  · have hf := b_p hf hc
    refine lv_aload_n hx hb dX4_look_29 rfl (lv_at hl 1 rfl) ?_
    obtain ⟨r2, σ2, hc2, hf⟩ := bp_e hf
    refine x_ci (va_runV (As := []) (rest := []) ⟨hx, hb, hml, hown, hts⟩ (t_X4_makeRoom l G ad ca A z n0 hD hn0 σ r2 σ2 hc2) (cwV 0 hts gr_X4_39 rfl rfl rfl h9_X4_makeRoom ⟨Nat.le_of_ble_eq_true rfl, Nat.le_of_ble_eq_true rfl⟩) (x_prV zkC hz hK hP (mk_200 hn0) rfl rfl) rfl rfl hl.1 rfl (lv_room (Nat.le_of_ble_eq_true rfl)) dX4_look_30 ⟨Nat.le_of_ble_eq_true rfl, Nat.le_of_ble_eq_true rfl⟩) hS (fun H locs hP hS => ?_)
    refine lv_istore (lv' := [(6, .int r2), (0, .ref (ad 200 n0)), (1, .int x1), (2, .long x2), (4, .long x4)]) hx hb dX4_look_33 hl (by decide) rfl (fun ls hl => ?_)
    refine lv_aload_n hx hb dX4_look_35 rfl (lv_at hl 1 rfl) ?_
    refine x_get (k := 200) (n := n0) hx hb hts i_X4 hown hK hP (mk_200 hn0) rfl rfl 0 (by decide) rfl k_9 (v := .ref (ad 201 n0)) rfl dX4_look_36 ?_
    refine lv_iload hx hb dX4_look_39 (lv_at hl 0 rfl) ?_
    refine lv_iload_n hx hb dX4_look_41 rfl (lv_at hl 2 rfl) ?_
    obtain ⟨g3, hf⟩ := gd_e hf
    refine x_iast (k := 201) (n := n0) hx hb hK hD hP hS (mk_201 hn0) rfl g3 dX4_look_42 (fun H locs hP hS => ?_)
    obtain ⟨σ4, e_σ4, hf⟩ := nm_i hf
    have hP : va_P G vwCl (wld ad ca σ4 (LC z)) H := by rw [e_σ4]; exact hP
    refine lv_aload_n hx hb dX4_look_43 rfl (lv_at hl 1 rfl) ?_
    refine x_get (k := 200) (n := n0) hx hb hts i_X4 hown hK hP (mk_200 hn0) rfl rfl 1 (by decide) rfl k_15 (v := .ref (ad 202 n0)) rfl dX4_look_44 ?_
    refine lv_iload hx hb dX4_look_47 (lv_at hl 0 rfl) ?_
    refine lv_lload_n hx hb dX4_look_49 rfl (lv_at hl 3 rfl) ?_
    obtain ⟨g5, hf⟩ := gd_e hf
    refine x_last (k := 202) (n := n0) hx hb hK hD hP hS (mk_202 hn0) rfl g5 dX4_look_50 (fun H locs hP hS => ?_)
    obtain ⟨σ6, e_σ6, hf⟩ := nm_i hf
    have hP : va_P G vwCl (wld ad ca σ6 (LC z)) H := by rw [e_σ6]; exact hP
    refine lv_aload_n hx hb dX4_look_51 rfl (lv_at hl 1 rfl) ?_
    refine x_get (k := 200) (n := n0) hx hb hts i_X4 hown hK hP (mk_200 hn0) rfl rfl 2 (by decide) rfl k_19 (v := .ref (ad 203 n0)) rfl dX4_look_52 ?_
    refine lv_iload hx hb dX4_look_55 (lv_at hl 0 rfl) ?_
    refine lv_lload hx hb dX4_look_57 (lv_at hl 4 rfl) ?_
    obtain ⟨g7, hf⟩ := gd_e hf
    refine x_last (k := 203) (n := n0) hx hb hK hD hP hS (mk_203 hn0) rfl g7 dX4_look_59 (fun H locs hP hS => ?_)
    obtain ⟨σ8, e_σ8, hf⟩ := nm_i hf
    have hP : va_P G vwCl (wld ad ca σ8 (LC z)) H := by rw [e_σ8]; exact hP
    refine lv_aload_n hx hb dX4_look_60 rfl (lv_at hl 1 rfl) ?_
    refine lv_dup hx hb dX4_look_61 rfl ?_
    refine x_get (k := 200) (n := n0) hx hb hts i_X4 hown hK hP (mk_200 hn0) rfl rfl 4 (by decide) rfl k_25 (v := .int (gI σ8 200 n0 4)) rfl dX4_look_62 ?_
    refine lv_iconst (v := (1 : Int32)) hx hb dX4_look_65 rfl ?_
    refine lv_iadd hx hb dX4_look_66 ?_
    refine x_putI (k := 200) (n := n0) hx hb hts i_X4 tyX4 tyX4_ok nmX4 hown hK hD hP hS (mk_200 hn0) rfl rfl 4 (by decide) rfl k_25 rfl rfl rfl rfl dX4_look_67 (fun H locs hP hS => ?_)
    obtain ⟨σ9, e_σ9, hf⟩ := nm_i hf
    have hP : va_P G vwCl (wld ad ca σ9 (LC z)) H := by rw [e_σ9]; exact hP
    refine lv_aload_n hx hb dX4_look_70 rfl (lv_at hl 1 rfl) ?_
    refine x_get (k := 200) (n := n0) hx hb hts i_X4 hown hK hP (mk_200 hn0) rfl rfl 3 (by decide) rfl k_22 (v := .ref (ad 204 n0)) rfl dX4_look_71 ?_
    refine lv_iload hx hb dX4_look_74 (lv_at hl 0 rfl) ?_
    refine lv_aload_n hx hb dX4_look_76 rfl (lv_at hl 1 rfl) ?_
    refine x_get (k := 200) (n := n0) hx hb hts i_X4 hown hK hP (mk_200 hn0) rfl rfl 4 (by decide) rfl k_25 (v := .int (gI σ9 200 n0 4)) rfl dX4_look_77 ?_
    obtain ⟨g10, hf⟩ := gd_e hf
    refine x_iast (k := 204) (n := n0) hx hb hK hD hP hS (mk_204 hn0) rfl g10 dX4_look_80 (fun H locs hP hS => ?_)
    obtain ⟨σ11, e_σ11, hf⟩ := nm_i hf
    have hP : va_P G vwCl (wld ad ca σ11 (LC z)) H := by rw [e_σ11]; exact hP
    exact x_vret hx hb hr hlocks hK hP hS (Option.some.inj hf) dX4_look_81
  · have hf := b_n hf hc
    refine lv_aload_n hx hb dX4_look_16 rfl (lv_at hl 1 rfl) ?_
    refine lv_dup hx hb dX4_look_17 rfl ?_
    refine x_get (k := 200) (n := n0) hx hb hts i_X4 hown hK hP (mk_200 hn0) rfl rfl 6 (by decide) rfl k_32 (v := .int (gI σ 200 n0 6)) rfl dX4_look_18 ?_
    refine lv_iconst (v := (1 : Int32)) hx hb dX4_look_21 rfl ?_
    refine lv_iadd hx hb dX4_look_22 ?_
    refine x_putI (k := 200) (n := n0) hx hb hts i_X4 tyX4 tyX4_ok nmX4 hown hK hD hP hS (mk_200 hn0) rfl rfl 6 (by decide) rfl k_32 rfl rfl rfl rfl dX4_look_23 (fun H locs hP hS => ?_)
    obtain ⟨σ12, e_σ12, hf⟩ := nm_i hf
    have hP : va_P G vwCl (wld ad ca σ12 (LC z)) H := by rw [e_σ12]; exact hP
    refine lv_goto (tgt := 60) hx hb dX4_look_26 rfl ?_
    refine lv_aload_n hx hb dX4_look_60 rfl (lv_at hl 1 rfl) ?_
    refine lv_dup hx hb dX4_look_61 rfl ?_
    refine x_get (k := 200) (n := n0) hx hb hts i_X4 hown hK hP (mk_200 hn0) rfl rfl 4 (by decide) rfl k_25 (v := .int (gI σ12 200 n0 4)) rfl dX4_look_62 ?_
    refine lv_iconst (v := (1 : Int32)) hx hb dX4_look_65 rfl ?_
    refine lv_iadd hx hb dX4_look_66 ?_
    refine x_putI (k := 200) (n := n0) hx hb hts i_X4 tyX4 tyX4_ok nmX4 hown hK hD hP hS (mk_200 hn0) rfl rfl 4 (by decide) rfl k_25 rfl rfl rfl rfl dX4_look_67 (fun H locs hP hS => ?_)
    obtain ⟨σ13, e_σ13, hf⟩ := nm_i hf
    have hP : va_P G vwCl (wld ad ca σ13 (LC z)) H := by rw [e_σ13]; exact hP
    refine lv_aload_n hx hb dX4_look_70 rfl (lv_at hl 1 rfl) ?_
    refine x_get (k := 200) (n := n0) hx hb hts i_X4 hown hK hP (mk_200 hn0) rfl rfl 3 (by decide) rfl k_22 (v := .ref (ad 204 n0)) rfl dX4_look_71 ?_
    refine lv_iload hx hb dX4_look_74 (lv_at hl 0 rfl) ?_
    refine lv_aload_n hx hb dX4_look_76 rfl (lv_at hl 1 rfl) ?_
    refine x_get (k := 200) (n := n0) hx hb hts i_X4 hown hK hP (mk_200 hn0) rfl rfl 4 (by decide) rfl k_25 (v := .int (gI σ13 200 n0 4)) rfl dX4_look_77 ?_
    obtain ⟨g14, hf⟩ := gd_e hf
    refine x_iast (k := 204) (n := n0) hx hb hK hD hP hS (mk_204 hn0) rfl g14 dX4_look_80 (fun H locs hP hS => ?_)
    obtain ⟨σ15, e_σ15, hf⟩ := nm_i hf
    have hP : va_P G vwCl (wld ad ca σ15 (LC z)) H := by rw [e_σ15]; exact hP
    exact x_vret hx hb hr hlocks hK hP hS (Option.some.inj hf) dX4_look_81
theorem h9_X1_lookForRow : yX1_lookForRow.cls = RX1 ∧ yX1_lookForRow.cls ≠ "java/lang/invoke/MethodHandle" ∧ yX1_lookForRow.cls ≠ "java/lang/invoke/VarHandle" ∧ (parseMethodDescriptor yX1_lookForRow.desc).map (fun d => d.parameters.length) = some 1 := by decide +kernel
set_option maxRecDepth 100000 in
set_option maxHeartbeats 4000000 in
theorem t_X1_lookForRow (l : Launch) (G : va_G) (ad : Nat → Nat → Nat) (ca : Nat → ClassId) (A : Nat → Prop) (z : Nat × Nat) (n0 : Nat) (hD : DW ad (LC z) A) (hn0 : n0 < z.1) (σ : PS) (res : PS) (hf : X1_lookForRow z n0  σ = some res) : Met l yX1_lookForRow wsX1_lookForRow ({ frames := 2, cells := 0, slots := 0, locals := 57 }) (ctP G ad ca (LC z) σ ZC [.ref (ad 50 n0), .ref (ad 300 0)]) (va_Qv (fun u => u = res) (ctB G ad ca (LC z)) A) 0 0 A := by
  refine Met.ofW (cc := cX1_lookForRow) (maxL := 5) (ret := none) (by decide) rfl ?_
  intro p e s m args below meth c s₁ B hml hv
  obtain ⟨rfl, hP, hK, hz⟩ := hv
  have hx := B.exec
  have hb := B.bytes
  have hr := B.returns
  have hts : ∀ w ∈ WW, w.before _ s = true := fun w h => atoms_spec (ws := wsX1_lookForRow) B.pre w (List.mem_cons_of_mem _ h)
  have hown : s.vm.findClass RX1 = some m.cls := findClass_of_methodNamed B.named
  have hlocks := B.notSynchronized
  have hS : va_S A s.heap s.heap [] := va_S.rf
  have k_12 := hts _ kf_X1_12
  have k_49 := hts _ kf_X1_49
  have k_84 := hts _ kf_X1_84
  have k_92 := hts _ kf_X1_92
  have hl := lv_entry ([.ref (ad 50 n0), .ref (ad 300 0)]) (n := 5) (Nat.le_of_ble_eq_true rfl)
  rw [lg_entry_eq]
  generalize (lg_sl ([.ref (ad 50 n0), .ref (ad 300 0)]) ++ List.replicate (5 - (lg_sl ([.ref (ad 50 n0), .ref (ad 300 0)])).length) Slot.unset).toArray = ls at hl ⊢
  have hl : lv_has ls 5 [(0, .ref (ad 50 n0)), (1, .ref (ad 300 0))] := hl
  unfold X1_lookForRow at hf
  refine lv_aload_n hx hb dX1_lookForRow_0 rfl (lv_at hl 1 rfl) ?_
  refine x_get (k := 300) (n := 0) hx hb hts i_X6 hown hK hP (mk_300 h01) rfl rfl 0 (by decide) rfl k_84 (v := .ref (ad 301 0)) rfl dX1_lookForRow_1 ?_
  refine lv_iconst (v := (0 : Int32)) hx hb dX1_lookForRow_4 rfl ?_
  obtain ⟨g1, hf⟩ := gd_e hf
  refine x_iald (k := 301) (n := 0) hx hb hK hP (mk_301 h01) rfl g1 dX1_lookForRow_5 ?_
  obtain ⟨y2, e_y2, hf⟩ := nm_i hf
  refine x_nmI e_y2 ?_
  refine lv_istore_n (lv' := [(2, .int y2), (0, .ref (ad 50 n0)), (1, .ref (ad 300 0))]) hx hb dX1_lookForRow_6 rfl hl (by decide) rfl (fun ls hl => ?_)
  refine lv_aload_n hx hb dX1_lookForRow_7 rfl (lv_at hl 1 rfl) ?_
  refine lv_iconst (v := (0 : Int32)) hx hb dX1_lookForRow_8 rfl ?_
  refine lv_aload_n hx hb dX1_lookForRow_9 rfl (lv_at hl 2 rfl) ?_
  refine x_get (k := 300) (n := 0) hx hb hts i_X6 hown hK hP (mk_300 h01) rfl rfl 1 (by decide) rfl k_92 (v := .ref (ad 302 0)) rfl dX1_lookForRow_10 ?_
  refine lv_iconst (v := (0 : Int32)) hx hb dX1_lookForRow_13 rfl ?_
  obtain ⟨g3, hf⟩ := gd_e hf
  refine x_iald (k := 302) (n := 0) hx hb hK hP (mk_302 h01) rfl g3 dX1_lookForRow_14 ?_
  obtain ⟨r4, hc4, hf⟩ := bd_e hf
  refine x_cl (va_runV (As := [.int (0 : Int32), .int (gI σ 302 0 (ix (0 : Int32)))]) (rest := []) ⟨hx, hb, hml, hown, hts⟩ (t_X1_pieceOf l G ad ca A z n0 (0 : Int32) (gI σ 302 0 (ix (0 : Int32))) hD hn0 σ r4 hc4) (cwV 2 hts gr_X1_109 rfl rfl rfl h9_X1_pieceOf ⟨Nat.le_of_ble_eq_true rfl, Nat.le_of_ble_eq_true rfl⟩) (x_prV zkC hz hK hP (mk_50 hn0) rfl rfl) rfl rfl hl.1 rfl (lv_room (Nat.le_of_ble_eq_true rfl)) dX1_lookForRow_15 ⟨Nat.le_of_ble_eq_true rfl, Nat.le_of_ble_eq_true rfl⟩) hS (fun H locs hP hS => ?_)
  refine lv_lstore_n (lv' := [(3, .long r4), (2, .int y2), (0, .ref (ad 50 n0)), (1, .ref (ad 300 0))]) hx hb dX1_lookForRow_18 rfl hl (by decide) rfl (fun ls hl => ?_)
  refine lv_aload_n hx hb dX1_lookForRow_19 rfl (lv_at hl 2 rfl) ?_
  refine x_get (k := 50) (n := n0) hx hb hts i_X1 hown hK hP (mk_50 hn0) rfl rfl 2 (by decide) rfl k_49 (v := .int (gI σ 50 n0 2)) rfl dX1_lookForRow_20 ?_
  refine lv_iconst (v := (2 : Int32)) hx hb dX1_lookForRow_23 rfl ?_
  refine lv_icmp_ge (tgt := 40) hx hb dX1_lookForRow_24 rfl (fun hc => ?_) (fun hc => ?_)
  · have hf := b_p hf hc
    refine lv_aload_n hx hb dX1_lookForRow_40 rfl (lv_at hl 2 rfl) ?_
    refine x_get (k := 50) (n := n0) hx hb hts i_X1 hown hK hP (mk_50 hn0) rfl rfl 3 (by decide) rfl k_12 (v := .ref (ad 200 n0)) rfl dX1_lookForRow_41 ?_
    refine lv_iload_n hx hb dX1_lookForRow_44 rfl (lv_at hl 1 rfl) ?_
    refine lv_bipush (v := (12 : Int32)) hx hb dX1_lookForRow_45 rfl ?_
    refine lv_imul hx hb dX1_lookForRow_47 ?_
    refine lv_aload_n hx hb dX1_lookForRow_48 rfl (lv_at hl 3 rfl) ?_
    refine x_get (k := 300) (n := 0) hx hb hts i_X6 hown hK hP (mk_300 h01) rfl rfl 0 (by decide) rfl k_84 (v := .ref (ad 301 0)) rfl dX1_lookForRow_49 ?_
    refine lv_iconst (v := (1 : Int32)) hx hb dX1_lookForRow_52 rfl ?_
    obtain ⟨g5, hf⟩ := gd_e hf
    refine x_iald (k := 301) (n := 0) hx hb hK hP (mk_301 h01) rfl g5 dX1_lookForRow_53 ?_
    refine lv_iadd hx hb dX1_lookForRow_54 ?_
    refine lv_lload_n hx hb dX1_lookForRow_55 rfl (lv_at hl 0 rfl) ?_
    refine lv_aload_n hx hb dX1_lookForRow_56 rfl (lv_at hl 2 rfl) ?_
    refine lv_iconst (v := (1 : Int32)) hx hb dX1_lookForRow_57 rfl ?_
    refine lv_aload_n hx hb dX1_lookForRow_58 rfl (lv_at hl 3 rfl) ?_
    refine x_get (k := 300) (n := 0) hx hb hts i_X6 hown hK hP (mk_300 h01) rfl rfl 1 (by decide) rfl k_92 (v := .ref (ad 302 0)) rfl dX1_lookForRow_59 ?_
    refine lv_iconst (v := (1 : Int32)) hx hb dX1_lookForRow_62 rfl ?_
    obtain ⟨g6, hf⟩ := gd_e hf
    refine x_iald (k := 302) (n := 0) hx hb hK hP (mk_302 h01) rfl g6 dX1_lookForRow_63 ?_
    obtain ⟨r7, hc7, hf⟩ := bd_e hf
    refine x_cl (va_runV (As := [.int (1 : Int32), .int (gI σ 302 0 (ix (1 : Int32)))]) (rest := [.long r4, .int ((y2 * (12 : Int32)) + (gI σ 301 0 (ix (1 : Int32)))), .ref (ad 200 n0)]) ⟨hx, hb, hml, hown, hts⟩ (t_X1_pieceOf l G ad ca A z n0 (1 : Int32) (gI σ 302 0 (ix (1 : Int32))) hD hn0 σ r7 hc7) (cwV 2 hts gr_X1_109 rfl rfl rfl h9_X1_pieceOf ⟨Nat.le_of_ble_eq_true rfl, Nat.le_of_ble_eq_true rfl⟩) (x_prV zkC hz hK hP (mk_50 hn0) rfl rfl) rfl rfl hl.1 rfl (lv_room (Nat.le_of_ble_eq_true rfl)) dX1_lookForRow_64 ⟨Nat.le_of_ble_eq_true rfl, Nat.le_of_ble_eq_true rfl⟩) hS (fun H locs hP hS => ?_)
    obtain ⟨σ8, hc8, hf⟩ := bd_e hf
    refine x_cv (va_runV (As := [.int ((y2 * (12 : Int32)) + (gI σ 301 0 (ix (1 : Int32)))), .long r4, .long r7]) (rest := []) ⟨hx, hb, hml, hown, hts⟩ (t_X4_look l G ad ca A z n0 ((y2 * (12 : Int32)) + (gI σ 301 0 (ix (1 : Int32)))) r4 r7 hD hn0 σ σ8 hc8) (cwV 3 hts gr_X1_113 rfl rfl rfl h9_X4_look ⟨Nat.le_of_ble_eq_true rfl, Nat.le_of_ble_eq_true rfl⟩) (x_prV zkC hz hK hP (mk_200 hn0) rfl rfl) rfl rfl hl.1 rfl (lv_room (Nat.le_of_ble_eq_true rfl)) dX1_lookForRow_67 ⟨Nat.le_of_ble_eq_true rfl, Nat.le_of_ble_eq_true rfl⟩) hS (fun H locs hP hS => ?_)
    exact x_vret hx hb hr hlocks hK hP hS (Option.some.inj hf) dX1_lookForRow_70
  · have hf := b_n hf hc
    refine lv_aload_n hx hb dX1_lookForRow_27 rfl (lv_at hl 2 rfl) ?_
    refine x_get (k := 50) (n := n0) hx hb hts i_X1 hown hK hP (mk_50 hn0) rfl rfl 3 (by decide) rfl k_12 (v := .ref (ad 200 n0)) rfl dX1_lookForRow_28 ?_
    refine lv_iload_n hx hb dX1_lookForRow_31 rfl (lv_at hl 1 rfl) ?_
    refine lv_lload_n hx hb dX1_lookForRow_32 rfl (lv_at hl 0 rfl) ?_
    refine lv_lconst (v := (0 : Int64)) hx hb dX1_lookForRow_33 rfl ?_
    obtain ⟨σ9, hc9, hf⟩ := bd_e hf
    refine x_cv (va_runV (As := [.int y2, .long r4, .long (0 : Int64)]) (rest := []) ⟨hx, hb, hml, hown, hts⟩ (t_X4_look l G ad ca A z n0 y2 r4 (0 : Int64) hD hn0 σ σ9 hc9) (cwV 3 hts gr_X1_113 rfl rfl rfl h9_X4_look ⟨Nat.le_of_ble_eq_true rfl, Nat.le_of_ble_eq_true rfl⟩) (x_prV zkC hz hK hP (mk_200 hn0) rfl rfl) rfl rfl hl.1 rfl (lv_room (Nat.le_of_ble_eq_true rfl)) dX1_lookForRow_34 ⟨Nat.le_of_ble_eq_true rfl, Nat.le_of_ble_eq_true rfl⟩) hS (fun H locs hP hS => ?_)
    refine lv_goto (tgt := 70) hx hb dX1_lookForRow_37 rfl ?_
    exact x_vret hx hb hr hlocks hK hP hS (Option.some.inj hf) dX1_lookForRow_70
theorem h9_X2_firstRefusingPlace : yX2_firstRefusingPlace.cls = RX2 ∧ yX2_firstRefusingPlace.cls ≠ "java/lang/invoke/MethodHandle" ∧ yX2_firstRefusingPlace.cls ≠ "java/lang/invoke/VarHandle" ∧ (parseMethodDescriptor yX2_firstRefusingPlace.desc).map (fun d => d.parameters.length) = some 1 := by decide +kernel
set_option maxRecDepth 100000 in
set_option maxHeartbeats 4000000 in
theorem t_X2_firstRefusingPlace (l : Launch) (G : va_G) (ad : Nat → Nat → Nat) (ca : Nat → ClassId) (A : Nat → Prop) (z : Nat × Nat) (n0 : Nat) (hD : DW ad (LC z) A) (hn0 : n0 < z.2) (σ : PS) (res : Int32) (hf : X2_firstRefusingPlace z n0  σ = some res) : Met l yX2_firstRefusingPlace wsX2_firstRefusingPlace ({ frames := 2, cells := 0, slots := 0, locals := 44 }) (ctP G ad ca (LC z) σ ZC [.ref (ad 100 n0), .ref (ad 300 0)]) (va_Qi (fun r' u => r' = res ∧ u = σ) (ctB G ad ca (LC z)) A) 0 0 A := by
  refine Met.ofW (cc := cX2_firstRefusingPlace) (maxL := 3) (ret := (some .int)) (by decide) rfl ?_
  intro p e s m args below meth c s₁ B hml hv
  obtain ⟨rfl, hP, hK, hz⟩ := hv
  have hx := B.exec
  have hb := B.bytes
  have hr := B.returns
  have hts : ∀ w ∈ WW, w.before _ s = true := fun w h => atoms_spec (ws := wsX2_firstRefusingPlace) B.pre w (List.mem_cons_of_mem _ h)
  have hown : s.vm.findClass RX2 = some m.cls := findClass_of_methodNamed B.named
  have hlocks := B.notSynchronized
  have hS : va_S A s.heap s.heap [] := va_S.rf
  have k_15 := hts _ kf_X2_15
  have k_32 := hts _ kf_X2_32
  have k_67 := hts _ kf_X2_67
  have k_75 := hts _ kf_X2_75
  have hl := lv_entry ([.ref (ad 100 n0), .ref (ad 300 0)]) (n := 3) (Nat.le_of_ble_eq_true rfl)
  rw [lg_entry_eq]
  generalize (lg_sl ([.ref (ad 100 n0), .ref (ad 300 0)]) ++ List.replicate (3 - (lg_sl ([.ref (ad 100 n0), .ref (ad 300 0)])).length) Slot.unset).toArray = ls at hl ⊢
  have hl : lv_has ls 3 [(0, .ref (ad 100 n0)), (1, .ref (ad 300 0))] := hl
  unfold X2_firstRefusingPlace at hf
  have l2 : ∀ (kx2 : Option (Int32)), (∀ (H : Heap) (locs : List Loc) (ls : Array Slot), kx2 = some res → lv_has ls 3 [] → va_P G vwCl (wld ad ca σ (LC z)) H → va_S A s.heap H locs → W p l e (headSpec wsX2_firstRefusingPlace ({ frames := 2, cells := 0, slots := 0, locals := 44 })).room s m (([.ref (ad 100 n0), .ref (ad 300 0)] : List Value).toArray) below meth c H locs 0 0 (MQ below (va_Qi (fun r' u => r' = res ∧ u = σ) (ctB G ad ca (LC z)) A) (([.ref (ad 100 n0), .ref (ad 300 0)] : List Value).toArray) s 0 0 A) (F0 m 49 ls [])) → ∀ (n2 : Nat) (v2 : Int32) (H : Heap) (locs : List Loc) (ls : Array Slot), X2_firstRefusingPlace_l2 z n0 σ kx2 n2 v2 = some res → lv_has ls 3 [(0, .ref (ad 100 n0)), (1, .ref (ad 300 0)), (2, .int v2)] → va_P G vwCl (wld ad ca σ (LC z)) H → va_S A s.heap H locs → W p l e (headSpec wsX2_firstRefusingPlace ({ frames := 2, cells := 0, slots := 0, locals := 44 })).room s m (([.ref (ad 100 n0), .ref (ad 300 0)] : List Value).toArray) below meth c H locs 0 0 (MQ below (va_Qi (fun r' u => r' = res ∧ u = σ) (ctB G ad ca (LC z)) A) (([.ref (ad 100 n0), .ref (ad 300 0)] : List Value).toArray) s 0 0 A) (F0 m 2 ls []) := by
    intro kx2 hx2 n2
    induction n2 with
    | zero =>
      intro v2 H locs ls hf
      exact absurd hf (by simp [X2_firstRefusingPlace_l2])
    | succ n2 ih2 =>
      intro v2 H locs ls hf hl hP hS
      rw [X2_firstRefusingPlace_l2.eq_2] at hf
      refine lv_iload_n hx hb dX2_firstRefusingPlace_2 rfl (lv_at hl 2 rfl) ?_
      refine lv_aload_n hx hb dX2_firstRefusingPlace_3 rfl (lv_at hl 0 rfl) ?_
      obtain ⟨q1, e_q1, h_q1, hf⟩ := dr_e hf
      refine x_get (k := 100) (n := n0) hx hb hts i_X2 hown hK hP (mk_100 hn0) rfl rfl 0 (by decide) rfl k_15 (v := .ref (ad 50 q1)) (show va_rf (Option.map (ad 50) (gR σ 100 n0 0)) = _ by rw [e_q1]; rfl) dX2_firstRefusingPlace_4 ?_
      refine x_get (k := 50) (n := q1) hx hb hts i_X1 hown hK hP (mk_50 h_q1) rfl rfl 2 (by decide) rfl k_32 (v := .int (gI σ 50 q1 2)) rfl dX2_firstRefusingPlace_7 ?_
      refine lv_icmp_ge (tgt := 49) hx hb dX2_firstRefusingPlace_10 rfl (fun hc => ?_) (fun hc => ?_)
      · have hf := b_p hf hc
        exact hx2  _ _ _  hf (lv_sub hl [] rfl) hP hS
      · have hf := b_n hf hc
        refine lv_aload_n hx hb dX2_firstRefusingPlace_13 rfl (lv_at hl 0 rfl) ?_
        refine lv_iload_n hx hb dX2_firstRefusingPlace_14 rfl (lv_at hl 2 rfl) ?_
        refine lv_aload_n hx hb dX2_firstRefusingPlace_15 rfl (lv_at hl 1 rfl) ?_
        refine x_get (k := 300) (n := 0) hx hb hts i_X6 hown hK hP (mk_300 h01) rfl rfl 0 (by decide) rfl k_67 (v := .ref (ad 301 0)) rfl dX2_firstRefusingPlace_16 ?_
        refine lv_iload_n hx hb dX2_firstRefusingPlace_19 rfl (lv_at hl 2 rfl) ?_
        obtain ⟨g2, hf⟩ := gd_e hf
        refine x_iald (k := 301) (n := 0) hx hb hK hP (mk_301 h01) rfl g2 dX2_firstRefusingPlace_20 ?_
        obtain ⟨r3, hc3, hf⟩ := bd_e hf
        refine x_ci (va_runV (As := [.int v2, .int (gI σ 301 0 (ix v2))]) (rest := []) ⟨hx, hb, hml, hown, hts⟩ (t_X2_takesClass l G ad ca A z n0 v2 (gI σ 301 0 (ix v2)) hD hn0 σ r3 hc3) (cwV 2 hts gr_X2_72 rfl rfl rfl h9_X2_takesClass ⟨Nat.le_of_ble_eq_true rfl, Nat.le_of_ble_eq_true rfl⟩) (x_prV zkC hz hK hP (mk_100 hn0) rfl rfl) rfl rfl hl.1 rfl (lv_room (Nat.le_of_ble_eq_true rfl)) dX2_firstRefusingPlace_21 ⟨Nat.le_of_ble_eq_true rfl, Nat.le_of_ble_eq_true rfl⟩) hS (fun H locs hP hS => ?_)
        refine lv_if_eq (tgt := 41) hx hb dX2_firstRefusingPlace_24 rfl (fun hc => ?_) (fun hc => ?_)
        · have hf := b_p hf hc
          refine lv_iload_n hx hb dX2_firstRefusingPlace_41 rfl (lv_at hl 2 rfl) ?_
          exact x_iret hx hb hr hlocks hK hP hS (Option.some.inj hf) rfl dX2_firstRefusingPlace_42
        · have hf := b_n hf hc
          refine lv_aload_n hx hb dX2_firstRefusingPlace_27 rfl (lv_at hl 0 rfl) ?_
          refine lv_iload_n hx hb dX2_firstRefusingPlace_28 rfl (lv_at hl 2 rfl) ?_
          refine lv_aload_n hx hb dX2_firstRefusingPlace_29 rfl (lv_at hl 1 rfl) ?_
          refine x_get (k := 300) (n := 0) hx hb hts i_X6 hown hK hP (mk_300 h01) rfl rfl 1 (by decide) rfl k_75 (v := .ref (ad 302 0)) rfl dX2_firstRefusingPlace_30 ?_
          refine lv_iload_n hx hb dX2_firstRefusingPlace_33 rfl (lv_at hl 2 rfl) ?_
          obtain ⟨g4, hf⟩ := gd_e hf
          refine x_iald (k := 302) (n := 0) hx hb hK hP (mk_302 h01) rfl g4 dX2_firstRefusingPlace_34 ?_
          obtain ⟨r5, hc5, hf⟩ := bd_e hf
          refine x_ci (va_runV (As := [.int v2, .int (gI σ 302 0 (ix v2))]) (rest := []) ⟨hx, hb, hml, hown, hts⟩ (t_X2_takesWeight l G ad ca A z n0 v2 (gI σ 302 0 (ix v2)) hD hn0 σ r5 hc5) (cwV 2 hts gr_X2_78 rfl rfl rfl h9_X2_takesWeight ⟨Nat.le_of_ble_eq_true rfl, Nat.le_of_ble_eq_true rfl⟩) (x_prV zkC hz hK hP (mk_100 hn0) rfl rfl) rfl rfl hl.1 rfl (lv_room (Nat.le_of_ble_eq_true rfl)) dX2_firstRefusingPlace_35 ⟨Nat.le_of_ble_eq_true rfl, Nat.le_of_ble_eq_true rfl⟩) hS (fun H locs hP hS => ?_)
          refine lv_if_ne (tgt := 43) hx hb dX2_firstRefusingPlace_38 rfl (fun hc => ?_) (fun hc => ?_)
          · have hf := b_n hf hc
            refine lv_iinc (v := (v2 + (1 : Int32))) (lv' := [(2, .int (v2 + (1 : Int32))), (0, .ref (ad 100 n0)), (1, .ref (ad 300 0))]) hx hb dX2_firstRefusingPlace_43 hl (k := 2) rfl rfl (by decide) rfl (fun ls hl => ?_)
            refine lv_goto (tgt := 2) hx hb dX2_firstRefusingPlace_46 rfl ?_
            exact ih2 (v2 + (1 : Int32)) _ _ _  hf (lv_sub hl [1, 2, 0] rfl) hP hS
          · have hf := b_p hf hc
            refine lv_iload_n hx hb dX2_firstRefusingPlace_41 rfl (lv_at hl 2 rfl) ?_
            exact x_iret hx hb hr hlocks hK hP hS (Option.some.inj hf) rfl dX2_firstRefusingPlace_42
  have c49 : ∀ (H : Heap) (locs : List Loc) (ls : Array Slot), X2_firstRefusingPlace_c49 z n0 σ  = some res → lv_has ls 3 [] → va_P G vwCl (wld ad ca σ (LC z)) H → va_S A s.heap H locs → W p l e (headSpec wsX2_firstRefusingPlace ({ frames := 2, cells := 0, slots := 0, locals := 44 })).room s m (([.ref (ad 100 n0), .ref (ad 300 0)] : List Value).toArray) below meth c H locs 0 0 (MQ below (va_Qi (fun r' u => r' = res ∧ u = σ) (ctB G ad ca (LC z)) A) (([.ref (ad 100 n0), .ref (ad 300 0)] : List Value).toArray) s 0 0 A) (F0 m 49 ls []) := by
    intro H locs ls hf hl hP hS
    unfold X2_firstRefusingPlace_c49 at hf
    refine lv_iconst (v := (-1 : Int32)) hx hb dX2_firstRefusingPlace_49 rfl ?_
    exact x_iret hx hb hr hlocks hK hP hS (Option.some.inj hf) rfl dX2_firstRefusingPlace_50
  refine lv_iconst (v := (0 : Int32)) hx hb dX2_firstRefusingPlace_0 rfl ?_
  refine lv_istore_n (lv' := [(2, .int (0 : Int32)), (0, .ref (ad 100 n0)), (1, .ref (ad 300 0))]) hx hb dX2_firstRefusingPlace_1 rfl hl (by decide) rfl (fun ls hl => ?_)
  exact l2 _ c49 _ (0 : Int32) _ _ _  hf (lv_sub hl [1, 2, 0] rfl) hP hS

theorem h9_J7_fill_53178 : yJ7_fill_53178.cls ≠ "java/lang/invoke/MethodHandle" ∧ yJ7_fill_53178.cls ≠ "java/lang/invoke/VarHandle" ∧ (parseMethodDescriptor yJ7_fill_53178.desc).map (fun d => d.parameters.length) = some 2 := by decide +kernel
set_option maxRecDepth 100000 in
set_option maxHeartbeats 4000000 in
/-- Arrays.fill of ints -/
theorem t_J7_fill (l : Launch) (G : va_G) (ca : Nat → ClassId) (h0 sz N : Nat) (f : Nat → Int32) (x1 : Int32) (hN : N < 1000000) : Met l yJ7_fill_53178 wsJ7_fill_53178 ({ frames := 0, cells := 0, slots := 0, locals := 0 }) (inP G ca sz [(h0, .inl (ca 0, N, .inl f))] [.ref h0, .int x1]) (va_Qv (fun _ : Unit => True) (inB G ca sz [(h0, .inl (ca 0, N, .inl f))] (fun _ => [(h0, .inl (ca 0, N, .inl (fun _ => x1)))])) (va_A [(h0, .inl (ca 0, N, .inl f))] sz)) 0 0 (va_A [(h0, .inl (ca 0, N, .inl f))] sz) := by
  refine va_MetF (cc := cJ7_fill_53178) (maxL := 4) (ret := none) (by decide +kernel) rfl ?_
  intro p e s m args below meth c s₁ B hml hv
  obtain ⟨rfl, hsz, hP, hK, hD0, hz⟩ := hv
  have hx := B.exec
  have hb := B.bytes
  have hr := B.returns
  have hlocks := B.notSynchronized
  subst hsz
  have hD := hD0.self (sz := s.heap.size)
  have hS : va_S (va_A [(h0, .inl (ca 0, N, .inl f))] s.heap.size) s.heap s.heap [] := va_S.rf
  have hl := lv_entry ([.ref h0, .int x1]) (n := 4) (Nat.le_of_ble_eq_true rfl)
  rw [lg_entry_eq]
  generalize (lg_sl ([.ref h0, .int x1]) ++ List.replicate (4 - (lg_sl ([.ref h0, .int x1])).length) Slot.unset).toArray = ls at hl ⊢
  have hl : lv_has ls 4 [(0, .ref h0), (1, .int x1)] := hl
  have l5 : ∀ (n i : Nat) (g : Nat → Int32) (H : Heap) (locs : List Loc) (ls : Array Slot), i + n = N → (∀ j, j < i → g j = x1) → lv_has ls 4 [(3, .int (nI N)), (2, .int (nI i)), (0, .ref h0), (1, .int x1)] → va_P G vwCl [(h0, .inl (ca 0, N, .inl g))] H → va_D (va_A [(h0, .inl (ca 0, N, .inl f))] s.heap.size) [(h0, .inl (ca 0, N, .inl g))] → va_S (va_A [(h0, .inl (ca 0, N, .inl f))] s.heap.size) s.heap H locs → W p l e (headSpec wsJ7_fill_53178 ({ frames := 0, cells := 0, slots := 0, locals := 0 })).room s m (([.ref h0, .int x1] : List Value).toArray) below meth c H locs 0 0 (MQ below (va_Qv (fun _ : Unit => True) (inB G ca s.heap.size [(h0, .inl (ca 0, N, .inl f))] (fun _ => [(h0, .inl (ca 0, N, .inl (fun _ => x1)))])) (va_A [(h0, .inl (ca 0, N, .inl f))] s.heap.size)) (([.ref h0, .int x1] : List Value).toArray) s 0 0 (va_A [(h0, .inl (ca 0, N, .inl f))] s.heap.size)) (F0 m 5 ls []) := by
    intro n
    induction n with
    | zero =>
      intro i g H locs ls hin hg hl hP hD hS
      refine lv_iload_n hx hb dJ7_fill_53178_5 rfl (lv_at hl 1 rfl) ?_
      refine lv_iload_n hx hb dJ7_fill_53178_6 rfl (lv_at hl 0 rfl) ?_
      refine lv_icmp_ge (tgt := 20) hx hb dJ7_fill_53178_7 rfl (fun hc => ?_) (fun hc => absurd (nI_le (a := N) (b := i) (by omega) (by omega)) hc)
      have hP2 : va_P G vwCl [(h0, .inl (ca 0, N, .inl (fun _ => x1)))] H := by
        intro k q hk
        have hz0 : k < 1 := (List.getElem?_eq_some_iff.mp hk).1
        rw [show k = 0 by omega] at hk
        cases hk
        have h1 : H[h0]? = some (vp_cell (ca 0) (N, .inl g)) := hP 0 _ rfl
        show H[h0]? = some (vp_cell (ca 0) (N, .inl (fun _ => x1)))
        rw [h1, vp_cell_eq (g := fun _ => x1) (fun j hj => hg j (by omega))]
      have hD2 : va_D (va_A [(h0, .inl (ca 0, N, .inl f))] s.heap.size) [(h0, .inl (ca 0, N, .inl (fun _ => x1)))] := hD.set (p := 0) (a := h0) (e := .inl (ca 0, N, .inl (fun _ => x1))) rfl
      exact W.vret hx hb hr (fun t ht hW => ⟨⟨(), rfl, trivial, by rw [ht]; exact hP2, va_K.moved hW.alike hK, hD2⟩, hS.F ht⟩) hS.2.2 dJ7_fill_53178_20
    | succ n ih =>
      intro i g H locs ls hin hg hl hP hD hS
      refine lv_iload_n hx hb dJ7_fill_53178_5 rfl (lv_at hl 1 rfl) ?_
      refine lv_iload_n hx hb dJ7_fill_53178_6 rfl (lv_at hl 0 rfl) ?_
      refine lv_icmp_ge (tgt := 20) hx hb dJ7_fill_53178_7 rfl (fun hc => absurd hc (nI_ge (a := i) (b := N) (by omega) (by omega))) (fun hc => ?_)
      refine lv_aload_n hx hb dJ7_fill_53178_10 rfl (lv_at hl 2 rfl) ?_
      refine lv_iload_n hx hb dJ7_fill_53178_11 rfl (lv_at hl 1 rfl) ?_
      refine lv_iload_n hx hb dJ7_fill_53178_12 rfl (lv_at hl 3 rfl) ?_
      refine va_iast hx hb hK hP hD hS 0 0 rfl rfl (vp_in_nI (n := i) (N := N) (by omega) (by omega)) dJ7_fill_53178_13 (fun H locs hP hD hS => ?_)
      have hi : (nI i).toNatClampNeg = i := nI_clamp (by omega)
      rw [hi] at hP hD
      refine lv_iinc (v := nI (i + 1)) (lv' := [(2, .int (nI (i + 1))), (3, .int (nI N)), (0, .ref h0), (1, .int x1)]) hx hb dJ7_fill_53178_14 hl (k := 1) rfl (by rw [nI_succ]; rfl) (by decide) rfl (fun ls hl => ?_)
      refine lv_goto (tgt := 5) hx hb dJ7_fill_53178_17 rfl ?_
      exact ih (i + 1) (upd g i x1) _ _ _ (by omega) (fun j hj => by unfold upd; by_cases h : j = i; simp [h]; rw [if_neg h]; exact hg j (by omega)) (lv_sub hl [1, 0, 2, 3] rfl) hP hD hS
  refine lv_iconst (v := (0 : Int32)) hx hb dJ7_fill_53178_0 rfl ?_
  refine lv_istore_n (lv' := [(2, .int (0 : Int32)), (0, .ref h0), (1, .int x1)]) hx hb dJ7_fill_53178_1 rfl hl (by decide) rfl (fun ls hl => ?_)
  refine lv_aload_n hx hb dJ7_fill_53178_2 rfl (lv_at hl 1 rfl) ?_
  refine va_alen hx hb hK hP 0 0 rfl (ty := .int) rfl (v := nI N) rfl dJ7_fill_53178_3 ?_
  refine lv_istore_n (lv' := [(3, .int (nI N)), (2, .int (0 : Int32)), (0, .ref h0), (1, .int x1)]) hx hb dJ7_fill_53178_4 rfl hl (by decide) rfl (fun ls hl => ?_)
  exact l5 N 0 f _ _ _ (by omega) (fun j hj => absurd hj (by omega)) hl hP hD hS

theorem h9_X0_init : yX0_init.cls ≠ "java/lang/invoke/MethodHandle" ∧ yX0_init.cls ≠ "java/lang/invoke/VarHandle" ∧ (parseMethodDescriptor yX0_init.desc).map (fun d => d.parameters.length) = some 0 := by decide +kernel
abbrev w1_X0_init (ca : Nat → ClassId) (h0 : Nat)  (u : Nat → Nat) : va_W := [(h0, .inr (0, [.ref (u 0), .ref (u 1), .ref (u 2), .int (0 : Int32), .ref (u 3), .ref (u 4), .int (0 : Int32)])), ((u 0), .inl (ca 0, 204, .inl (fun _ => 0))), ((u 1), .inl (ca 0, 204, .inl (fun _ => 0))), ((u 2), .inl (ca 0, 204, .inl (fun _ => 0))), ((u 3), .inl (ca 0, 17, .inl (fun _ => 0))), ((u 4), .inl (ca 0, 17, .inl (fun _ => 0)))]
set_option maxRecDepth 100000 in
set_option maxHeartbeats 4000000 in
theorem t_X0_init (l : Launch) (G : va_G) (ca : Nat → ClassId) (h0 sz : Nat)   : Met l yX0_init wsX0_init ({ frames := 1, cells := 5, slots := 646, locals := 28 }) (inP G ca sz [(h0, .inr (0, [.null, .null, .null, .int 0, .null, .null, .int 0]))] [.ref h0]) (va_Qv (fun _ : Nat → Nat => True) (inB G ca sz [(h0, .inr (0, [.null, .null, .null, .int 0, .null, .null, .int 0]))] (w1_X0_init ca h0 )) (va_A [(h0, .inr (0, [.null, .null, .null, .int 0, .null, .null, .int 0]))] sz)) 5 646 (va_A [(h0, .inr (0, [.null, .null, .null, .int 0, .null, .null, .int 0]))] sz) := by
  refine Met.ofW (cc := cX0_init) (maxL := 1) (ret := none) (by decide) rfl ?_
  intro p e s m args below meth c s₁ B hml hv
  obtain ⟨rfl, hsz, hP, hK, hD0, hz⟩ := hv
  have hx := B.exec
  have hb := B.bytes
  have hr := B.returns
  have hts : ∀ w ∈ WW, w.before _ s = true := fun w h => atoms_spec (ws := wsX0_init) B.pre w (List.mem_cons_of_mem _ h)
  have hown : s.vm.findClass RX0 = some m.cls := findClass_of_methodNamed B.named
  have hlocks := B.notSynchronized
  have hin : meth.name = "<init>" := (name_of_methodNamed B.named B.method).1
  subst hsz
  have hD := hD0.self (sz := s.heap.size)
  generalize hAe : va_A [(h0, .inr (0, [.null, .null, .null, .int 0, .null, .null, .int 0]))] s.heap.size = A at hD ⊢
  have hA : ∀ q : Nat, s.heap.size ≤ q → A q := fun q h => by rw [← hAe]; exact Or.inr h
  have hS : va_S A s.heap s.heap [] := va_S.rf
  have hl := lv_entry ([.ref h0]) (n := 1) (Nat.le_of_ble_eq_true rfl)
  rw [lg_entry_eq]
  generalize (lg_sl ([.ref h0]) ++ List.replicate (1 - (lg_sl ([.ref h0])).length) Slot.unset).toArray = ls at hl ⊢
  have hl : lv_has ls 1 [(0, .ref h0)] := hl
  refine lv_aload_n hx hb dX0_init_0 rfl (lv_at hl 0 rfl) ?_
  refine W.objInit hx hb hown (hts _ km_X0_3) (hts _ ki_OBJ) (hts _ kc_OBJ) rfl (by rw [hml]; exact hl.1) rfl dX0_init_1 (Nat.le_of_ble_eq_true rfl) (Nat.le_of_ble_eq_true rfl) ?_
  refine W.eq (g2 := F0 m 4 ls []) rfl ?_
  refine lv_aload_n hx hb dX0_init_4 rfl (lv_at hl 0 rfl) ?_
  refine lv_sipush (v := (204 : Int32)) hx hb dX0_init_5 rfl ?_
  refine x_newaI hx hb (hts _ ka_int) hK hP hD hS hA (N' := 204) (by decide) rfl (by decide) (Nat.le_of_ble_eq_true rfl) (Nat.le_of_ble_eq_true rfl) dX0_init_8 (fun q1 H hP hD hS => ?_)
  have hP : va_P G vwCl [(h0, .inr (0, [.null, .null, .null, .int 0, .null, .null, .int 0])), (q1, .inl (ca 0, 204, .inl (fun _ => 0)))] H := hP
  have hD : va_D A [(h0, .inr (0, [.null, .null, .null, .int 0, .null, .null, .int 0])), (q1, .inl (ca 0, 204, .inl (fun _ => 0)))] := hD
  refine W.widen (k := 1) (n := 204) (by omega) (by omega) ?_
  refine va_putF (D := G) (ci := 0) (v := .ref q1) (ty := (tyX0 0)) (C := RX0) (T := TX0) (N := 7) hx hb hts i_X0 tyX0 tyX0_ok nmX0 hown hK hP hD hS 0 rfl rfl 0 (by decide) (hts _ kf_X0_9) (fun _ h9 => h9) rfl hin rfl (by decide +kernel) rfl rfl (Nat.le_of_ble_eq_true rfl) dX0_init_10 (fun H locs hP hD hS => ?_)
  have hP : va_P G vwCl [(h0, .inr (0, [.ref q1, .null, .null, .int 0, .null, .null, .int 0])), (q1, .inl (ca 0, 204, .inl (fun _ => 0)))] H := hP
  have hD : va_D A [(h0, .inr (0, [.ref q1, .null, .null, .int 0, .null, .null, .int 0])), (q1, .inl (ca 0, 204, .inl (fun _ => 0)))] := hD
  refine lv_aload_n hx hb dX0_init_13 rfl (lv_at hl 0 rfl) ?_
  refine lv_sipush (v := (204 : Int32)) hx hb dX0_init_14 rfl ?_
  refine x_newaI hx hb (hts _ ka_int) hK hP hD hS hA (N' := 204) (by decide) rfl (by decide) (Nat.le_of_ble_eq_true rfl) (Nat.le_of_ble_eq_true rfl) dX0_init_17 (fun q2 H hP hD hS => ?_)
  have hP : va_P G vwCl [(h0, .inr (0, [.ref q1, .null, .null, .int 0, .null, .null, .int 0])), (q1, .inl (ca 0, 204, .inl (fun _ => 0))), (q2, .inl (ca 0, 204, .inl (fun _ => 0)))] H := hP
  have hD : va_D A [(h0, .inr (0, [.ref q1, .null, .null, .int 0, .null, .null, .int 0])), (q1, .inl (ca 0, 204, .inl (fun _ => 0))), (q2, .inl (ca 0, 204, .inl (fun _ => 0)))] := hD
  refine W.widen (k := 2) (n := 408) (by omega) (by omega) ?_
  refine va_putF (D := G) (ci := 0) (v := .ref q2) (ty := (tyX0 1)) (C := RX0) (T := TX0) (N := 7) hx hb hts i_X0 tyX0 tyX0_ok nmX0 hown hK hP hD hS 0 rfl rfl 1 (by decide) (hts _ kf_X0_15) (fun _ h9 => h9) rfl hin rfl (by decide +kernel) rfl rfl (Nat.le_of_ble_eq_true rfl) dX0_init_19 (fun H locs hP hD hS => ?_)
  have hP : va_P G vwCl [(h0, .inr (0, [.ref q1, .ref q2, .null, .int 0, .null, .null, .int 0])), (q1, .inl (ca 0, 204, .inl (fun _ => 0))), (q2, .inl (ca 0, 204, .inl (fun _ => 0)))] H := hP
  have hD : va_D A [(h0, .inr (0, [.ref q1, .ref q2, .null, .int 0, .null, .null, .int 0])), (q1, .inl (ca 0, 204, .inl (fun _ => 0))), (q2, .inl (ca 0, 204, .inl (fun _ => 0)))] := hD
  refine lv_aload_n hx hb dX0_init_22 rfl (lv_at hl 0 rfl) ?_
  refine lv_sipush (v := (204 : Int32)) hx hb dX0_init_23 rfl ?_
  refine x_newaI hx hb (hts _ ka_int) hK hP hD hS hA (N' := 204) (by decide) rfl (by decide) (Nat.le_of_ble_eq_true rfl) (Nat.le_of_ble_eq_true rfl) dX0_init_26 (fun q3 H hP hD hS => ?_)
  have hP : va_P G vwCl [(h0, .inr (0, [.ref q1, .ref q2, .null, .int 0, .null, .null, .int 0])), (q1, .inl (ca 0, 204, .inl (fun _ => 0))), (q2, .inl (ca 0, 204, .inl (fun _ => 0))), (q3, .inl (ca 0, 204, .inl (fun _ => 0)))] H := hP
  have hD : va_D A [(h0, .inr (0, [.ref q1, .ref q2, .null, .int 0, .null, .null, .int 0])), (q1, .inl (ca 0, 204, .inl (fun _ => 0))), (q2, .inl (ca 0, 204, .inl (fun _ => 0))), (q3, .inl (ca 0, 204, .inl (fun _ => 0)))] := hD
  refine W.widen (k := 3) (n := 612) (by omega) (by omega) ?_
  refine va_putF (D := G) (ci := 0) (v := .ref q3) (ty := (tyX0 2)) (C := RX0) (T := TX0) (N := 7) hx hb hts i_X0 tyX0 tyX0_ok nmX0 hown hK hP hD hS 0 rfl rfl 2 (by decide) (hts _ kf_X0_18) (fun _ h9 => h9) rfl hin rfl (by decide +kernel) rfl rfl (Nat.le_of_ble_eq_true rfl) dX0_init_28 (fun H locs hP hD hS => ?_)
  have hP : va_P G vwCl [(h0, .inr (0, [.ref q1, .ref q2, .ref q3, .int 0, .null, .null, .int 0])), (q1, .inl (ca 0, 204, .inl (fun _ => 0))), (q2, .inl (ca 0, 204, .inl (fun _ => 0))), (q3, .inl (ca 0, 204, .inl (fun _ => 0)))] H := hP
  have hD : va_D A [(h0, .inr (0, [.ref q1, .ref q2, .ref q3, .int 0, .null, .null, .int 0])), (q1, .inl (ca 0, 204, .inl (fun _ => 0))), (q2, .inl (ca 0, 204, .inl (fun _ => 0))), (q3, .inl (ca 0, 204, .inl (fun _ => 0)))] := hD
  refine lv_aload_n hx hb dX0_init_31 rfl (lv_at hl 0 rfl) ?_
  refine lv_iconst (v := (0 : Int32)) hx hb dX0_init_32 rfl ?_
  refine va_put (D := G) (ci := 0) (v := .int (0 : Int32)) (ty := .int) (C := RX0) (T := TX0) (N := 7) hx hb hts i_X0 tyX0 tyX0_ok nmX0 hown hK hP hD hS 0 rfl rfl 3 (by decide) (hts _ kf_X0_21) (fun _ h9 => h9) rfl (by decide +kernel) rfl rfl (Nat.le_of_ble_eq_true rfl) dX0_init_33 (fun H locs hP hD hS => ?_)
  have hP : va_P G vwCl [(h0, .inr (0, [.ref q1, .ref q2, .ref q3, .int (0 : Int32), .null, .null, .int 0])), (q1, .inl (ca 0, 204, .inl (fun _ => 0))), (q2, .inl (ca 0, 204, .inl (fun _ => 0))), (q3, .inl (ca 0, 204, .inl (fun _ => 0)))] H := hP
  have hD : va_D A [(h0, .inr (0, [.ref q1, .ref q2, .ref q3, .int (0 : Int32), .null, .null, .int 0])), (q1, .inl (ca 0, 204, .inl (fun _ => 0))), (q2, .inl (ca 0, 204, .inl (fun _ => 0))), (q3, .inl (ca 0, 204, .inl (fun _ => 0)))] := hD
  refine lv_aload_n hx hb dX0_init_36 rfl (lv_at hl 0 rfl) ?_
  refine lv_bipush (v := (17 : Int32)) hx hb dX0_init_37 rfl ?_
  refine x_newaI hx hb (hts _ ka_int) hK hP hD hS hA (N' := 17) (by decide) rfl (by decide) (Nat.le_of_ble_eq_true rfl) (Nat.le_of_ble_eq_true rfl) dX0_init_39 (fun q4 H hP hD hS => ?_)
  have hP : va_P G vwCl [(h0, .inr (0, [.ref q1, .ref q2, .ref q3, .int (0 : Int32), .null, .null, .int 0])), (q1, .inl (ca 0, 204, .inl (fun _ => 0))), (q2, .inl (ca 0, 204, .inl (fun _ => 0))), (q3, .inl (ca 0, 204, .inl (fun _ => 0))), (q4, .inl (ca 0, 17, .inl (fun _ => 0)))] H := hP
  have hD : va_D A [(h0, .inr (0, [.ref q1, .ref q2, .ref q3, .int (0 : Int32), .null, .null, .int 0])), (q1, .inl (ca 0, 204, .inl (fun _ => 0))), (q2, .inl (ca 0, 204, .inl (fun _ => 0))), (q3, .inl (ca 0, 204, .inl (fun _ => 0))), (q4, .inl (ca 0, 17, .inl (fun _ => 0)))] := hD
  refine W.widen (k := 4) (n := 629) (by omega) (by omega) ?_
  refine va_putF (D := G) (ci := 0) (v := .ref q4) (ty := (tyX0 4)) (C := RX0) (T := TX0) (N := 7) hx hb hts i_X0 tyX0 tyX0_ok nmX0 hown hK hP hD hS 0 rfl rfl 4 (by decide) (hts _ kf_X0_25) (fun _ h9 => h9) rfl hin rfl (by decide +kernel) rfl rfl (Nat.le_of_ble_eq_true rfl) dX0_init_41 (fun H locs hP hD hS => ?_)
  have hP : va_P G vwCl [(h0, .inr (0, [.ref q1, .ref q2, .ref q3, .int (0 : Int32), .ref q4, .null, .int 0])), (q1, .inl (ca 0, 204, .inl (fun _ => 0))), (q2, .inl (ca 0, 204, .inl (fun _ => 0))), (q3, .inl (ca 0, 204, .inl (fun _ => 0))), (q4, .inl (ca 0, 17, .inl (fun _ => 0)))] H := hP
  have hD : va_D A [(h0, .inr (0, [.ref q1, .ref q2, .ref q3, .int (0 : Int32), .ref q4, .null, .int 0])), (q1, .inl (ca 0, 204, .inl (fun _ => 0))), (q2, .inl (ca 0, 204, .inl (fun _ => 0))), (q3, .inl (ca 0, 204, .inl (fun _ => 0))), (q4, .inl (ca 0, 17, .inl (fun _ => 0)))] := hD
  refine lv_aload_n hx hb dX0_init_44 rfl (lv_at hl 0 rfl) ?_
  refine lv_bipush (v := (17 : Int32)) hx hb dX0_init_45 rfl ?_
  refine x_newaI hx hb (hts _ ka_int) hK hP hD hS hA (N' := 17) (by decide) rfl (by decide) (Nat.le_of_ble_eq_true rfl) (Nat.le_of_ble_eq_true rfl) dX0_init_47 (fun q5 H hP hD hS => ?_)
  have hP : va_P G vwCl [(h0, .inr (0, [.ref q1, .ref q2, .ref q3, .int (0 : Int32), .ref q4, .null, .int 0])), (q1, .inl (ca 0, 204, .inl (fun _ => 0))), (q2, .inl (ca 0, 204, .inl (fun _ => 0))), (q3, .inl (ca 0, 204, .inl (fun _ => 0))), (q4, .inl (ca 0, 17, .inl (fun _ => 0))), (q5, .inl (ca 0, 17, .inl (fun _ => 0)))] H := hP
  have hD : va_D A [(h0, .inr (0, [.ref q1, .ref q2, .ref q3, .int (0 : Int32), .ref q4, .null, .int 0])), (q1, .inl (ca 0, 204, .inl (fun _ => 0))), (q2, .inl (ca 0, 204, .inl (fun _ => 0))), (q3, .inl (ca 0, 204, .inl (fun _ => 0))), (q4, .inl (ca 0, 17, .inl (fun _ => 0))), (q5, .inl (ca 0, 17, .inl (fun _ => 0)))] := hD
  refine W.widen (k := 5) (n := 646) (by omega) (by omega) ?_
  refine va_putF (D := G) (ci := 0) (v := .ref q5) (ty := (tyX0 5)) (C := RX0) (T := TX0) (N := 7) hx hb hts i_X0 tyX0 tyX0_ok nmX0 hown hK hP hD hS 0 rfl rfl 5 (by decide) (hts _ kf_X0_28) (fun _ h9 => h9) rfl hin rfl (by decide +kernel) rfl rfl (Nat.le_of_ble_eq_true rfl) dX0_init_49 (fun H locs hP hD hS => ?_)
  have hP : va_P G vwCl [(h0, .inr (0, [.ref q1, .ref q2, .ref q3, .int (0 : Int32), .ref q4, .ref q5, .int 0])), (q1, .inl (ca 0, 204, .inl (fun _ => 0))), (q2, .inl (ca 0, 204, .inl (fun _ => 0))), (q3, .inl (ca 0, 204, .inl (fun _ => 0))), (q4, .inl (ca 0, 17, .inl (fun _ => 0))), (q5, .inl (ca 0, 17, .inl (fun _ => 0)))] H := hP
  have hD : va_D A [(h0, .inr (0, [.ref q1, .ref q2, .ref q3, .int (0 : Int32), .ref q4, .ref q5, .int 0])), (q1, .inl (ca 0, 204, .inl (fun _ => 0))), (q2, .inl (ca 0, 204, .inl (fun _ => 0))), (q3, .inl (ca 0, 204, .inl (fun _ => 0))), (q4, .inl (ca 0, 17, .inl (fun _ => 0))), (q5, .inl (ca 0, 17, .inl (fun _ => 0)))] := hD
  refine lv_aload_n hx hb dX0_init_52 rfl (lv_at hl 0 rfl) ?_
  refine lv_iconst (v := (0 : Int32)) hx hb dX0_init_53 rfl ?_
  refine va_put (D := G) (ci := 0) (v := .int (0 : Int32)) (ty := .int) (C := RX0) (T := TX0) (N := 7) hx hb hts i_X0 tyX0 tyX0_ok nmX0 hown hK hP hD hS 0 rfl rfl 6 (by decide) (hts _ kf_X0_31) (fun _ h9 => h9) rfl (by decide +kernel) rfl rfl (Nat.le_of_ble_eq_true rfl) dX0_init_54 (fun H locs hP hD hS => ?_)
  have hP : va_P G vwCl [(h0, .inr (0, [.ref q1, .ref q2, .ref q3, .int (0 : Int32), .ref q4, .ref q5, .int (0 : Int32)])), (q1, .inl (ca 0, 204, .inl (fun _ => 0))), (q2, .inl (ca 0, 204, .inl (fun _ => 0))), (q3, .inl (ca 0, 204, .inl (fun _ => 0))), (q4, .inl (ca 0, 17, .inl (fun _ => 0))), (q5, .inl (ca 0, 17, .inl (fun _ => 0)))] H := hP
  have hD : va_D A [(h0, .inr (0, [.ref q1, .ref q2, .ref q3, .int (0 : Int32), .ref q4, .ref q5, .int (0 : Int32)])), (q1, .inl (ca 0, 204, .inl (fun _ => 0))), (q2, .inl (ca 0, 204, .inl (fun _ => 0))), (q3, .inl (ca 0, 204, .inl (fun _ => 0))), (q4, .inl (ca 0, 17, .inl (fun _ => 0))), (q5, .inl (ca 0, 17, .inl (fun _ => 0)))] := hD
  exact W.vret hx hb hr (fun t ht hW => ⟨⟨(fun i => match i with | 0 => q1 | 1 => q2 | 2 => q3 | 3 => q4 | _ => q5), rfl, trivial, by rw [ht]; exact hP, va_K.moved hW.alike hK, by rw [hAe]; exact hD⟩, hS.F ht⟩) hS.2.2 dX0_init_57
theorem h9_X3_init : yX3_init.cls ≠ "java/lang/invoke/MethodHandle" ∧ yX3_init.cls ≠ "java/lang/invoke/VarHandle" ∧ (parseMethodDescriptor yX3_init.desc).map (fun d => d.parameters.length) = some 0 := by decide +kernel
abbrev w1_X3_init (ca : Nat → ClassId) (h0 : Nat)  (u : Nat → Nat) : va_W := [(h0, .inr (3, [.ref (u 0), .int (0 : Int32), .int (0 : Int32), .int (0 : Int32), .int (0 : Int32), .long (0 : Int64)])), ((u 0), .inl (ca 0, 1000, .inl (fun _ => 0)))]
set_option maxRecDepth 100000 in
set_option maxHeartbeats 4000000 in
theorem t_X3_init (l : Launch) (G : va_G) (ca : Nat → ClassId) (h0 sz : Nat)   : Met l yX3_init wsX3_init ({ frames := 1, cells := 1, slots := 1000, locals := 28 }) (inP G ca sz [(h0, .inr (3, [.null, .int 0, .int 0, .int 0, .int 0, .long 0]))] [.ref h0]) (va_Qv (fun _ : Nat → Nat => True) (inB G ca sz [(h0, .inr (3, [.null, .int 0, .int 0, .int 0, .int 0, .long 0]))] (w1_X3_init ca h0 )) (va_A [(h0, .inr (3, [.null, .int 0, .int 0, .int 0, .int 0, .long 0]))] sz)) 1 1000 (va_A [(h0, .inr (3, [.null, .int 0, .int 0, .int 0, .int 0, .long 0]))] sz) := by
  refine Met.ofW (cc := cX3_init) (maxL := 1) (ret := none) (by decide) rfl ?_
  intro p e s m args below meth c s₁ B hml hv
  obtain ⟨rfl, hsz, hP, hK, hD0, hz⟩ := hv
  have hx := B.exec
  have hb := B.bytes
  have hr := B.returns
  have hts : ∀ w ∈ WW, w.before _ s = true := fun w h => atoms_spec (ws := wsX3_init) B.pre w (List.mem_cons_of_mem _ h)
  have hown : s.vm.findClass RX3 = some m.cls := findClass_of_methodNamed B.named
  have hlocks := B.notSynchronized
  have hin : meth.name = "<init>" := (name_of_methodNamed B.named B.method).1
  subst hsz
  have hD := hD0.self (sz := s.heap.size)
  generalize hAe : va_A [(h0, .inr (3, [.null, .int 0, .int 0, .int 0, .int 0, .long 0]))] s.heap.size = A at hD ⊢
  have hA : ∀ q : Nat, s.heap.size ≤ q → A q := fun q h => by rw [← hAe]; exact Or.inr h
  have hS : va_S A s.heap s.heap [] := va_S.rf
  have hl := lv_entry ([.ref h0]) (n := 1) (Nat.le_of_ble_eq_true rfl)
  rw [lg_entry_eq]
  generalize (lg_sl ([.ref h0]) ++ List.replicate (1 - (lg_sl ([.ref h0])).length) Slot.unset).toArray = ls at hl ⊢
  have hl : lv_has ls 1 [(0, .ref h0)] := hl
  refine lv_aload_n hx hb dX3_init_0 rfl (lv_at hl 0 rfl) ?_
  refine W.objInit hx hb hown (hts _ km_X3_3) (hts _ ki_OBJ) (hts _ kc_OBJ) rfl (by rw [hml]; exact hl.1) rfl dX3_init_1 (Nat.le_of_ble_eq_true rfl) (Nat.le_of_ble_eq_true rfl) ?_
  refine W.eq (g2 := F0 m 4 ls []) rfl ?_
  refine lv_aload_n hx hb dX3_init_4 rfl (lv_at hl 0 rfl) ?_
  refine lv_sipush (v := (1000 : Int32)) hx hb dX3_init_5 rfl ?_
  refine x_newaI hx hb (hts _ ka_int) hK hP hD hS hA (N' := 1000) (by decide) rfl (by decide) (Nat.le_of_ble_eq_true rfl) (Nat.le_of_ble_eq_true rfl) dX3_init_8 (fun q1 H hP hD hS => ?_)
  have hP : va_P G vwCl [(h0, .inr (3, [.null, .int 0, .int 0, .int 0, .int 0, .long 0])), (q1, .inl (ca 0, 1000, .inl (fun _ => 0)))] H := hP
  have hD : va_D A [(h0, .inr (3, [.null, .int 0, .int 0, .int 0, .int 0, .long 0])), (q1, .inl (ca 0, 1000, .inl (fun _ => 0)))] := hD
  refine W.widen (k := 1) (n := 1000) (by omega) (by omega) ?_
  refine va_putF (D := G) (ci := 3) (v := .ref q1) (ty := (tyX3 0)) (C := RX3) (T := TX3) (N := 6) hx hb hts i_X3 tyX3 tyX3_ok nmX3 hown hK hP hD hS 0 rfl rfl 0 (by decide) (hts _ kf_X3_9) (fun _ h9 => h9) rfl hin rfl (by decide +kernel) rfl rfl (Nat.le_of_ble_eq_true rfl) dX3_init_10 (fun H locs hP hD hS => ?_)
  have hP : va_P G vwCl [(h0, .inr (3, [.ref q1, .int 0, .int 0, .int 0, .int 0, .long 0])), (q1, .inl (ca 0, 1000, .inl (fun _ => 0)))] H := hP
  have hD : va_D A [(h0, .inr (3, [.ref q1, .int 0, .int 0, .int 0, .int 0, .long 0])), (q1, .inl (ca 0, 1000, .inl (fun _ => 0)))] := hD
  refine lv_aload_n hx hb dX3_init_13 rfl (lv_at hl 0 rfl) ?_
  refine lv_iconst (v := (0 : Int32)) hx hb dX3_init_14 rfl ?_
  refine va_put (D := G) (ci := 3) (v := .int (0 : Int32)) (ty := .int) (C := RX3) (T := TX3) (N := 6) hx hb hts i_X3 tyX3 tyX3_ok nmX3 hown hK hP hD hS 0 rfl rfl 1 (by decide) (hts _ kf_X3_15) (fun _ h9 => h9) rfl (by decide +kernel) rfl rfl (Nat.le_of_ble_eq_true rfl) dX3_init_15 (fun H locs hP hD hS => ?_)
  have hP : va_P G vwCl [(h0, .inr (3, [.ref q1, .int (0 : Int32), .int 0, .int 0, .int 0, .long 0])), (q1, .inl (ca 0, 1000, .inl (fun _ => 0)))] H := hP
  have hD : va_D A [(h0, .inr (3, [.ref q1, .int (0 : Int32), .int 0, .int 0, .int 0, .long 0])), (q1, .inl (ca 0, 1000, .inl (fun _ => 0)))] := hD
  refine lv_aload_n hx hb dX3_init_18 rfl (lv_at hl 0 rfl) ?_
  refine lv_iconst (v := (0 : Int32)) hx hb dX3_init_19 rfl ?_
  refine va_put (D := G) (ci := 3) (v := .int (0 : Int32)) (ty := .int) (C := RX3) (T := TX3) (N := 6) hx hb hts i_X3 tyX3 tyX3_ok nmX3 hown hK hP hD hS 0 rfl rfl 2 (by decide) (hts _ kf_X3_19) (fun _ h9 => h9) rfl (by decide +kernel) rfl rfl (Nat.le_of_ble_eq_true rfl) dX3_init_20 (fun H locs hP hD hS => ?_)
  have hP : va_P G vwCl [(h0, .inr (3, [.ref q1, .int (0 : Int32), .int (0 : Int32), .int 0, .int 0, .long 0])), (q1, .inl (ca 0, 1000, .inl (fun _ => 0)))] H := hP
  have hD : va_D A [(h0, .inr (3, [.ref q1, .int (0 : Int32), .int (0 : Int32), .int 0, .int 0, .long 0])), (q1, .inl (ca 0, 1000, .inl (fun _ => 0)))] := hD
  refine lv_aload_n hx hb dX3_init_23 rfl (lv_at hl 0 rfl) ?_
  refine lv_iconst (v := (0 : Int32)) hx hb dX3_init_24 rfl ?_
  refine va_put (D := G) (ci := 3) (v := .int (0 : Int32)) (ty := .int) (C := RX3) (T := TX3) (N := 6) hx hb hts i_X3 tyX3 tyX3_ok nmX3 hown hK hP hD hS 0 rfl rfl 3 (by decide) (hts _ kf_X3_22) (fun _ h9 => h9) rfl (by decide +kernel) rfl rfl (Nat.le_of_ble_eq_true rfl) dX3_init_25 (fun H locs hP hD hS => ?_)
  have hP : va_P G vwCl [(h0, .inr (3, [.ref q1, .int (0 : Int32), .int (0 : Int32), .int (0 : Int32), .int 0, .long 0])), (q1, .inl (ca 0, 1000, .inl (fun _ => 0)))] H := hP
  have hD : va_D A [(h0, .inr (3, [.ref q1, .int (0 : Int32), .int (0 : Int32), .int (0 : Int32), .int 0, .long 0])), (q1, .inl (ca 0, 1000, .inl (fun _ => 0)))] := hD
  refine lv_aload_n hx hb dX3_init_28 rfl (lv_at hl 0 rfl) ?_
  refine lv_iconst (v := (0 : Int32)) hx hb dX3_init_29 rfl ?_
  refine va_put (D := G) (ci := 3) (v := .int (0 : Int32)) (ty := .int) (C := RX3) (T := TX3) (N := 6) hx hb hts i_X3 tyX3 tyX3_ok nmX3 hown hK hP hD hS 0 rfl rfl 4 (by decide) (hts _ kf_X3_25) (fun _ h9 => h9) rfl (by decide +kernel) rfl rfl (Nat.le_of_ble_eq_true rfl) dX3_init_30 (fun H locs hP hD hS => ?_)
  have hP : va_P G vwCl [(h0, .inr (3, [.ref q1, .int (0 : Int32), .int (0 : Int32), .int (0 : Int32), .int (0 : Int32), .long 0])), (q1, .inl (ca 0, 1000, .inl (fun _ => 0)))] H := hP
  have hD : va_D A [(h0, .inr (3, [.ref q1, .int (0 : Int32), .int (0 : Int32), .int (0 : Int32), .int (0 : Int32), .long 0])), (q1, .inl (ca 0, 1000, .inl (fun _ => 0)))] := hD
  refine lv_aload_n hx hb dX3_init_33 rfl (lv_at hl 0 rfl) ?_
  refine lv_lconst (v := (0 : Int64)) hx hb dX3_init_34 rfl ?_
  refine va_put (D := G) (ci := 3) (v := .long (0 : Int64)) (ty := .long) (C := RX3) (T := TX3) (N := 6) hx hb hts i_X3 tyX3 tyX3_ok nmX3 hown hK hP hD hS 0 rfl rfl 5 (by decide) (hts _ kf_X3_28) (fun _ h9 => h9) rfl (by decide +kernel) rfl rfl (Nat.le_of_ble_eq_true rfl) dX3_init_35 (fun H locs hP hD hS => ?_)
  have hP : va_P G vwCl [(h0, .inr (3, [.ref q1, .int (0 : Int32), .int (0 : Int32), .int (0 : Int32), .int (0 : Int32), .long (0 : Int64)])), (q1, .inl (ca 0, 1000, .inl (fun _ => 0)))] H := hP
  have hD : va_D A [(h0, .inr (3, [.ref q1, .int (0 : Int32), .int (0 : Int32), .int (0 : Int32), .int (0 : Int32), .long (0 : Int64)])), (q1, .inl (ca 0, 1000, .inl (fun _ => 0)))] := hD
  exact W.vret hx hb hr (fun t ht hW => ⟨⟨(fun i => match i with | _ => q1), rfl, trivial, by rw [ht]; exact hP, va_K.moved hW.alike hK, by rw [hAe]; exact hD⟩, hS.F ht⟩) hS.2.2 dX3_init_38
theorem h9_X4_init : yX4_init.cls ≠ "java/lang/invoke/MethodHandle" ∧ yX4_init.cls ≠ "java/lang/invoke/VarHandle" ∧ (parseMethodDescriptor yX4_init.desc).map (fun d => d.parameters.length) = some 0 := by decide +kernel
abbrev w1_X4_init (ca : Nat → ClassId) (h0 : Nat)  (u : Nat → Nat) : va_W := [(h0, .inr (4, [.ref (u 0), .ref (u 1), .ref (u 2), .ref (u 3), .int (0 : Int32), .int (0 : Int32), .int (0 : Int32)])), ((u 0), .inl (ca 0, 16, .inl (fun _ => 0))), ((u 1), .inl (ca 2, 16, .inr (.inl (fun _ => 0)))), ((u 2), .inl (ca 2, 16, .inr (.inl (fun _ => 0)))), ((u 3), .inl (ca 0, 16, .inl (fun _ => 0)))]
set_option maxRecDepth 100000 in
set_option maxHeartbeats 4000000 in
theorem t_X4_init (l : Launch) (G : va_G) (ca : Nat → ClassId) (h0 sz : Nat)   : Met l yX4_init wsX4_init ({ frames := 1, cells := 4, slots := 64, locals := 28 }) (inP G ca sz [(h0, .inr (4, [.null, .null, .null, .null, .int 0, .int 0, .int 0]))] [.ref h0]) (va_Qv (fun _ : Nat → Nat => True) (inB G ca sz [(h0, .inr (4, [.null, .null, .null, .null, .int 0, .int 0, .int 0]))] (w1_X4_init ca h0 )) (va_A [(h0, .inr (4, [.null, .null, .null, .null, .int 0, .int 0, .int 0]))] sz)) 4 64 (va_A [(h0, .inr (4, [.null, .null, .null, .null, .int 0, .int 0, .int 0]))] sz) := by
  refine Met.ofW (cc := cX4_init) (maxL := 1) (ret := none) (by decide) rfl ?_
  intro p e s m args below meth c s₁ B hml hv
  obtain ⟨rfl, hsz, hP, hK, hD0, hz⟩ := hv
  have hx := B.exec
  have hb := B.bytes
  have hr := B.returns
  have hts : ∀ w ∈ WW, w.before _ s = true := fun w h => atoms_spec (ws := wsX4_init) B.pre w (List.mem_cons_of_mem _ h)
  have hown : s.vm.findClass RX4 = some m.cls := findClass_of_methodNamed B.named
  have hlocks := B.notSynchronized
  have hin : meth.name = "<init>" := (name_of_methodNamed B.named B.method).1
  subst hsz
  have hD := hD0.self (sz := s.heap.size)
  generalize hAe : va_A [(h0, .inr (4, [.null, .null, .null, .null, .int 0, .int 0, .int 0]))] s.heap.size = A at hD ⊢
  have hA : ∀ q : Nat, s.heap.size ≤ q → A q := fun q h => by rw [← hAe]; exact Or.inr h
  have hS : va_S A s.heap s.heap [] := va_S.rf
  have hl := lv_entry ([.ref h0]) (n := 1) (Nat.le_of_ble_eq_true rfl)
  rw [lg_entry_eq]
  generalize (lg_sl ([.ref h0]) ++ List.replicate (1 - (lg_sl ([.ref h0])).length) Slot.unset).toArray = ls at hl ⊢
  have hl : lv_has ls 1 [(0, .ref h0)] := hl
  refine lv_aload_n hx hb dX4_init_0 rfl (lv_at hl 0 rfl) ?_
  refine W.objInit hx hb hown (hts _ km_X4_3) (hts _ ki_OBJ) (hts _ kc_OBJ) rfl (by rw [hml]; exact hl.1) rfl dX4_init_1 (Nat.le_of_ble_eq_true rfl) (Nat.le_of_ble_eq_true rfl) ?_
  refine W.eq (g2 := F0 m 4 ls []) rfl ?_
  refine lv_aload_n hx hb dX4_init_4 rfl (lv_at hl 0 rfl) ?_
  refine lv_bipush (v := (16 : Int32)) hx hb dX4_init_5 rfl ?_
  refine x_newaI hx hb (hts _ ka_int) hK hP hD hS hA (N' := 16) (by decide) rfl (by decide) (Nat.le_of_ble_eq_true rfl) (Nat.le_of_ble_eq_true rfl) dX4_init_7 (fun q1 H hP hD hS => ?_)
  have hP : va_P G vwCl [(h0, .inr (4, [.null, .null, .null, .null, .int 0, .int 0, .int 0])), (q1, .inl (ca 0, 16, .inl (fun _ => 0)))] H := hP
  have hD : va_D A [(h0, .inr (4, [.null, .null, .null, .null, .int 0, .int 0, .int 0])), (q1, .inl (ca 0, 16, .inl (fun _ => 0)))] := hD
  refine W.widen (k := 1) (n := 16) (by omega) (by omega) ?_
  refine va_putF (D := G) (ci := 4) (v := .ref q1) (ty := (tyX4 0)) (C := RX4) (T := TX4) (N := 7) hx hb hts i_X4 tyX4 tyX4_ok nmX4 hown hK hP hD hS 0 rfl rfl 0 (by decide) (hts _ kf_X4_9) (fun _ h9 => h9) rfl hin rfl (by decide +kernel) rfl rfl (Nat.le_of_ble_eq_true rfl) dX4_init_9 (fun H locs hP hD hS => ?_)
  have hP : va_P G vwCl [(h0, .inr (4, [.ref q1, .null, .null, .null, .int 0, .int 0, .int 0])), (q1, .inl (ca 0, 16, .inl (fun _ => 0)))] H := hP
  have hD : va_D A [(h0, .inr (4, [.ref q1, .null, .null, .null, .int 0, .int 0, .int 0])), (q1, .inl (ca 0, 16, .inl (fun _ => 0)))] := hD
  refine lv_aload_n hx hb dX4_init_12 rfl (lv_at hl 0 rfl) ?_
  refine lv_bipush (v := (16 : Int32)) hx hb dX4_init_13 rfl ?_
  refine x_newaJ hx hb (hts _ ka_long) hK hP hD hS hA (N' := 16) (by decide) rfl (by decide) (Nat.le_of_ble_eq_true rfl) (Nat.le_of_ble_eq_true rfl) dX4_init_15 (fun q2 H hP hD hS => ?_)
  have hP : va_P G vwCl [(h0, .inr (4, [.ref q1, .null, .null, .null, .int 0, .int 0, .int 0])), (q1, .inl (ca 0, 16, .inl (fun _ => 0))), (q2, .inl (ca 2, 16, .inr (.inl (fun _ => 0))))] H := hP
  have hD : va_D A [(h0, .inr (4, [.ref q1, .null, .null, .null, .int 0, .int 0, .int 0])), (q1, .inl (ca 0, 16, .inl (fun _ => 0))), (q2, .inl (ca 2, 16, .inr (.inl (fun _ => 0))))] := hD
  refine W.widen (k := 2) (n := 32) (by omega) (by omega) ?_
  refine va_putF (D := G) (ci := 4) (v := .ref q2) (ty := (tyX4 1)) (C := RX4) (T := TX4) (N := 7) hx hb hts i_X4 tyX4 tyX4_ok nmX4 hown hK hP hD hS 0 rfl rfl 1 (by decide) (hts _ kf_X4_15) (fun _ h9 => h9) rfl hin rfl (by decide +kernel) rfl rfl (Nat.le_of_ble_eq_true rfl) dX4_init_17 (fun H locs hP hD hS => ?_)
  have hP : va_P G vwCl [(h0, .inr (4, [.ref q1, .ref q2, .null, .null, .int 0, .int 0, .int 0])), (q1, .inl (ca 0, 16, .inl (fun _ => 0))), (q2, .inl (ca 2, 16, .inr (.inl (fun _ => 0))))] H := hP
  have hD : va_D A [(h0, .inr (4, [.ref q1, .ref q2, .null, .null, .int 0, .int 0, .int 0])), (q1, .inl (ca 0, 16, .inl (fun _ => 0))), (q2, .inl (ca 2, 16, .inr (.inl (fun _ => 0))))] := hD
  refine lv_aload_n hx hb dX4_init_20 rfl (lv_at hl 0 rfl) ?_
  refine lv_bipush (v := (16 : Int32)) hx hb dX4_init_21 rfl ?_
  refine x_newaJ hx hb (hts _ ka_long) hK hP hD hS hA (N' := 16) (by decide) rfl (by decide) (Nat.le_of_ble_eq_true rfl) (Nat.le_of_ble_eq_true rfl) dX4_init_23 (fun q3 H hP hD hS => ?_)
  have hP : va_P G vwCl [(h0, .inr (4, [.ref q1, .ref q2, .null, .null, .int 0, .int 0, .int 0])), (q1, .inl (ca 0, 16, .inl (fun _ => 0))), (q2, .inl (ca 2, 16, .inr (.inl (fun _ => 0)))), (q3, .inl (ca 2, 16, .inr (.inl (fun _ => 0))))] H := hP
  have hD : va_D A [(h0, .inr (4, [.ref q1, .ref q2, .null, .null, .int 0, .int 0, .int 0])), (q1, .inl (ca 0, 16, .inl (fun _ => 0))), (q2, .inl (ca 2, 16, .inr (.inl (fun _ => 0)))), (q3, .inl (ca 2, 16, .inr (.inl (fun _ => 0))))] := hD
  refine W.widen (k := 3) (n := 48) (by omega) (by omega) ?_
  refine va_putF (D := G) (ci := 4) (v := .ref q3) (ty := (tyX4 2)) (C := RX4) (T := TX4) (N := 7) hx hb hts i_X4 tyX4 tyX4_ok nmX4 hown hK hP hD hS 0 rfl rfl 2 (by decide) (hts _ kf_X4_19) (fun _ h9 => h9) rfl hin rfl (by decide +kernel) rfl rfl (Nat.le_of_ble_eq_true rfl) dX4_init_25 (fun H locs hP hD hS => ?_)
  have hP : va_P G vwCl [(h0, .inr (4, [.ref q1, .ref q2, .ref q3, .null, .int 0, .int 0, .int 0])), (q1, .inl (ca 0, 16, .inl (fun _ => 0))), (q2, .inl (ca 2, 16, .inr (.inl (fun _ => 0)))), (q3, .inl (ca 2, 16, .inr (.inl (fun _ => 0))))] H := hP
  have hD : va_D A [(h0, .inr (4, [.ref q1, .ref q2, .ref q3, .null, .int 0, .int 0, .int 0])), (q1, .inl (ca 0, 16, .inl (fun _ => 0))), (q2, .inl (ca 2, 16, .inr (.inl (fun _ => 0)))), (q3, .inl (ca 2, 16, .inr (.inl (fun _ => 0))))] := hD
  refine lv_aload_n hx hb dX4_init_28 rfl (lv_at hl 0 rfl) ?_
  refine lv_bipush (v := (16 : Int32)) hx hb dX4_init_29 rfl ?_
  refine x_newaI hx hb (hts _ ka_int) hK hP hD hS hA (N' := 16) (by decide) rfl (by decide) (Nat.le_of_ble_eq_true rfl) (Nat.le_of_ble_eq_true rfl) dX4_init_31 (fun q4 H hP hD hS => ?_)
  have hP : va_P G vwCl [(h0, .inr (4, [.ref q1, .ref q2, .ref q3, .null, .int 0, .int 0, .int 0])), (q1, .inl (ca 0, 16, .inl (fun _ => 0))), (q2, .inl (ca 2, 16, .inr (.inl (fun _ => 0)))), (q3, .inl (ca 2, 16, .inr (.inl (fun _ => 0)))), (q4, .inl (ca 0, 16, .inl (fun _ => 0)))] H := hP
  have hD : va_D A [(h0, .inr (4, [.ref q1, .ref q2, .ref q3, .null, .int 0, .int 0, .int 0])), (q1, .inl (ca 0, 16, .inl (fun _ => 0))), (q2, .inl (ca 2, 16, .inr (.inl (fun _ => 0)))), (q3, .inl (ca 2, 16, .inr (.inl (fun _ => 0)))), (q4, .inl (ca 0, 16, .inl (fun _ => 0)))] := hD
  refine W.widen (k := 4) (n := 64) (by omega) (by omega) ?_
  refine va_putF (D := G) (ci := 4) (v := .ref q4) (ty := (tyX4 3)) (C := RX4) (T := TX4) (N := 7) hx hb hts i_X4 tyX4 tyX4_ok nmX4 hown hK hP hD hS 0 rfl rfl 3 (by decide) (hts _ kf_X4_22) (fun _ h9 => h9) rfl hin rfl (by decide +kernel) rfl rfl (Nat.le_of_ble_eq_true rfl) dX4_init_33 (fun H locs hP hD hS => ?_)
  have hP : va_P G vwCl [(h0, .inr (4, [.ref q1, .ref q2, .ref q3, .ref q4, .int 0, .int 0, .int 0])), (q1, .inl (ca 0, 16, .inl (fun _ => 0))), (q2, .inl (ca 2, 16, .inr (.inl (fun _ => 0)))), (q3, .inl (ca 2, 16, .inr (.inl (fun _ => 0)))), (q4, .inl (ca 0, 16, .inl (fun _ => 0)))] H := hP
  have hD : va_D A [(h0, .inr (4, [.ref q1, .ref q2, .ref q3, .ref q4, .int 0, .int 0, .int 0])), (q1, .inl (ca 0, 16, .inl (fun _ => 0))), (q2, .inl (ca 2, 16, .inr (.inl (fun _ => 0)))), (q3, .inl (ca 2, 16, .inr (.inl (fun _ => 0)))), (q4, .inl (ca 0, 16, .inl (fun _ => 0)))] := hD
  refine lv_aload_n hx hb dX4_init_36 rfl (lv_at hl 0 rfl) ?_
  refine lv_iconst (v := (0 : Int32)) hx hb dX4_init_37 rfl ?_
  refine va_put (D := G) (ci := 4) (v := .int (0 : Int32)) (ty := .int) (C := RX4) (T := TX4) (N := 7) hx hb hts i_X4 tyX4 tyX4_ok nmX4 hown hK hP hD hS 0 rfl rfl 4 (by decide) (hts _ kf_X4_25) (fun _ h9 => h9) rfl (by decide +kernel) rfl rfl (Nat.le_of_ble_eq_true rfl) dX4_init_38 (fun H locs hP hD hS => ?_)
  have hP : va_P G vwCl [(h0, .inr (4, [.ref q1, .ref q2, .ref q3, .ref q4, .int (0 : Int32), .int 0, .int 0])), (q1, .inl (ca 0, 16, .inl (fun _ => 0))), (q2, .inl (ca 2, 16, .inr (.inl (fun _ => 0)))), (q3, .inl (ca 2, 16, .inr (.inl (fun _ => 0)))), (q4, .inl (ca 0, 16, .inl (fun _ => 0)))] H := hP
  have hD : va_D A [(h0, .inr (4, [.ref q1, .ref q2, .ref q3, .ref q4, .int (0 : Int32), .int 0, .int 0])), (q1, .inl (ca 0, 16, .inl (fun _ => 0))), (q2, .inl (ca 2, 16, .inr (.inl (fun _ => 0)))), (q3, .inl (ca 2, 16, .inr (.inl (fun _ => 0)))), (q4, .inl (ca 0, 16, .inl (fun _ => 0)))] := hD
  refine lv_aload_n hx hb dX4_init_41 rfl (lv_at hl 0 rfl) ?_
  refine lv_iconst (v := (0 : Int32)) hx hb dX4_init_42 rfl ?_
  refine va_put (D := G) (ci := 4) (v := .int (0 : Int32)) (ty := .int) (C := RX4) (T := TX4) (N := 7) hx hb hts i_X4 tyX4 tyX4_ok nmX4 hown hK hP hD hS 0 rfl rfl 5 (by decide) (hts _ kf_X4_29) (fun _ h9 => h9) rfl (by decide +kernel) rfl rfl (Nat.le_of_ble_eq_true rfl) dX4_init_43 (fun H locs hP hD hS => ?_)
  have hP : va_P G vwCl [(h0, .inr (4, [.ref q1, .ref q2, .ref q3, .ref q4, .int (0 : Int32), .int (0 : Int32), .int 0])), (q1, .inl (ca 0, 16, .inl (fun _ => 0))), (q2, .inl (ca 2, 16, .inr (.inl (fun _ => 0)))), (q3, .inl (ca 2, 16, .inr (.inl (fun _ => 0)))), (q4, .inl (ca 0, 16, .inl (fun _ => 0)))] H := hP
  have hD : va_D A [(h0, .inr (4, [.ref q1, .ref q2, .ref q3, .ref q4, .int (0 : Int32), .int (0 : Int32), .int 0])), (q1, .inl (ca 0, 16, .inl (fun _ => 0))), (q2, .inl (ca 2, 16, .inr (.inl (fun _ => 0)))), (q3, .inl (ca 2, 16, .inr (.inl (fun _ => 0)))), (q4, .inl (ca 0, 16, .inl (fun _ => 0)))] := hD
  refine lv_aload_n hx hb dX4_init_46 rfl (lv_at hl 0 rfl) ?_
  refine lv_iconst (v := (0 : Int32)) hx hb dX4_init_47 rfl ?_
  refine va_put (D := G) (ci := 4) (v := .int (0 : Int32)) (ty := .int) (C := RX4) (T := TX4) (N := 7) hx hb hts i_X4 tyX4 tyX4_ok nmX4 hown hK hP hD hS 0 rfl rfl 6 (by decide) (hts _ kf_X4_32) (fun _ h9 => h9) rfl (by decide +kernel) rfl rfl (Nat.le_of_ble_eq_true rfl) dX4_init_48 (fun H locs hP hD hS => ?_)
  have hP : va_P G vwCl [(h0, .inr (4, [.ref q1, .ref q2, .ref q3, .ref q4, .int (0 : Int32), .int (0 : Int32), .int (0 : Int32)])), (q1, .inl (ca 0, 16, .inl (fun _ => 0))), (q2, .inl (ca 2, 16, .inr (.inl (fun _ => 0)))), (q3, .inl (ca 2, 16, .inr (.inl (fun _ => 0)))), (q4, .inl (ca 0, 16, .inl (fun _ => 0)))] H := hP
  have hD : va_D A [(h0, .inr (4, [.ref q1, .ref q2, .ref q3, .ref q4, .int (0 : Int32), .int (0 : Int32), .int (0 : Int32)])), (q1, .inl (ca 0, 16, .inl (fun _ => 0))), (q2, .inl (ca 2, 16, .inr (.inl (fun _ => 0)))), (q3, .inl (ca 2, 16, .inr (.inl (fun _ => 0)))), (q4, .inl (ca 0, 16, .inl (fun _ => 0)))] := hD
  exact W.vret hx hb hr (fun t ht hW => ⟨⟨(fun i => match i with | 0 => q1 | 1 => q2 | 2 => q3 | _ => q4), rfl, trivial, by rw [ht]; exact hP, va_K.moved hW.alike hK, by rw [hAe]; exact hD⟩, hS.F ht⟩) hS.2.2 dX4_init_51
theorem h9_X6_init : yX6_init.cls ≠ "java/lang/invoke/MethodHandle" ∧ yX6_init.cls ≠ "java/lang/invoke/VarHandle" ∧ (parseMethodDescriptor yX6_init.desc).map (fun d => d.parameters.length) = some 0 := by decide +kernel
abbrev w1_X6_init (ca : Nat → ClassId) (h0 : Nat)  (u : Nat → Nat) : va_W := [(h0, .inr (6, [.ref (u 0), .ref (u 1), .int (1 : Int32)])), ((u 0), .inl (ca 0, 2, .inl (fun _ => 0))), ((u 1), .inl (ca 0, 2, .inl (fun _ => 0)))]
set_option maxRecDepth 100000 in
set_option maxHeartbeats 4000000 in
theorem t_X6_init (l : Launch) (G : va_G) (ca : Nat → ClassId) (h0 sz : Nat)   : Met l yX6_init wsX6_init ({ frames := 1, cells := 2, slots := 4, locals := 28 }) (inP G ca sz [(h0, .inr (6, [.null, .null, .int 0]))] [.ref h0]) (va_Qv (fun _ : Nat → Nat => True) (inB G ca sz [(h0, .inr (6, [.null, .null, .int 0]))] (w1_X6_init ca h0 )) (va_A [(h0, .inr (6, [.null, .null, .int 0]))] sz)) 2 4 (va_A [(h0, .inr (6, [.null, .null, .int 0]))] sz) := by
  refine Met.ofW (cc := cX6_init) (maxL := 1) (ret := none) (by decide) rfl ?_
  intro p e s m args below meth c s₁ B hml hv
  obtain ⟨rfl, hsz, hP, hK, hD0, hz⟩ := hv
  have hx := B.exec
  have hb := B.bytes
  have hr := B.returns
  have hts : ∀ w ∈ WW, w.before _ s = true := fun w h => atoms_spec (ws := wsX6_init) B.pre w (List.mem_cons_of_mem _ h)
  have hown : s.vm.findClass RX6 = some m.cls := findClass_of_methodNamed B.named
  have hlocks := B.notSynchronized
  have hin : meth.name = "<init>" := (name_of_methodNamed B.named B.method).1
  subst hsz
  have hD := hD0.self (sz := s.heap.size)
  generalize hAe : va_A [(h0, .inr (6, [.null, .null, .int 0]))] s.heap.size = A at hD ⊢
  have hA : ∀ q : Nat, s.heap.size ≤ q → A q := fun q h => by rw [← hAe]; exact Or.inr h
  have hS : va_S A s.heap s.heap [] := va_S.rf
  have hl := lv_entry ([.ref h0]) (n := 1) (Nat.le_of_ble_eq_true rfl)
  rw [lg_entry_eq]
  generalize (lg_sl ([.ref h0]) ++ List.replicate (1 - (lg_sl ([.ref h0])).length) Slot.unset).toArray = ls at hl ⊢
  have hl : lv_has ls 1 [(0, .ref h0)] := hl
  refine lv_aload_n hx hb dX6_init_0 rfl (lv_at hl 0 rfl) ?_
  refine W.objInit hx hb hown (hts _ km_X6_3) (hts _ ki_OBJ) (hts _ kc_OBJ) rfl (by rw [hml]; exact hl.1) rfl dX6_init_1 (Nat.le_of_ble_eq_true rfl) (Nat.le_of_ble_eq_true rfl) ?_
  refine W.eq (g2 := F0 m 4 ls []) rfl ?_
  refine lv_aload_n hx hb dX6_init_4 rfl (lv_at hl 0 rfl) ?_
  refine lv_iconst (v := (2 : Int32)) hx hb dX6_init_5 rfl ?_
  refine x_newaI hx hb (hts _ ka_int) hK hP hD hS hA (N' := 2) (by decide) rfl (by decide) (Nat.le_of_ble_eq_true rfl) (Nat.le_of_ble_eq_true rfl) dX6_init_6 (fun q1 H hP hD hS => ?_)
  have hP : va_P G vwCl [(h0, .inr (6, [.null, .null, .int 0])), (q1, .inl (ca 0, 2, .inl (fun _ => 0)))] H := hP
  have hD : va_D A [(h0, .inr (6, [.null, .null, .int 0])), (q1, .inl (ca 0, 2, .inl (fun _ => 0)))] := hD
  refine W.widen (k := 1) (n := 2) (by omega) (by omega) ?_
  refine va_putF (D := G) (ci := 6) (v := .ref q1) (ty := (tyX6 0)) (C := RX6) (T := TX6) (N := 3) hx hb hts i_X6 tyX6 tyX6_ok nmX6 hown hK hP hD hS 0 rfl rfl 0 (by decide) (hts _ kf_X6_9) (fun _ h9 => h9) rfl hin rfl (by decide +kernel) rfl rfl (Nat.le_of_ble_eq_true rfl) dX6_init_8 (fun H locs hP hD hS => ?_)
  have hP : va_P G vwCl [(h0, .inr (6, [.ref q1, .null, .int 0])), (q1, .inl (ca 0, 2, .inl (fun _ => 0)))] H := hP
  have hD : va_D A [(h0, .inr (6, [.ref q1, .null, .int 0])), (q1, .inl (ca 0, 2, .inl (fun _ => 0)))] := hD
  refine lv_aload_n hx hb dX6_init_11 rfl (lv_at hl 0 rfl) ?_
  refine lv_iconst (v := (2 : Int32)) hx hb dX6_init_12 rfl ?_
  refine x_newaI hx hb (hts _ ka_int) hK hP hD hS hA (N' := 2) (by decide) rfl (by decide) (Nat.le_of_ble_eq_true rfl) (Nat.le_of_ble_eq_true rfl) dX6_init_13 (fun q2 H hP hD hS => ?_)
  have hP : va_P G vwCl [(h0, .inr (6, [.ref q1, .null, .int 0])), (q1, .inl (ca 0, 2, .inl (fun _ => 0))), (q2, .inl (ca 0, 2, .inl (fun _ => 0)))] H := hP
  have hD : va_D A [(h0, .inr (6, [.ref q1, .null, .int 0])), (q1, .inl (ca 0, 2, .inl (fun _ => 0))), (q2, .inl (ca 0, 2, .inl (fun _ => 0)))] := hD
  refine W.widen (k := 2) (n := 4) (by omega) (by omega) ?_
  refine va_putF (D := G) (ci := 6) (v := .ref q2) (ty := (tyX6 1)) (C := RX6) (T := TX6) (N := 3) hx hb hts i_X6 tyX6 tyX6_ok nmX6 hown hK hP hD hS 0 rfl rfl 1 (by decide) (hts _ kf_X6_15) (fun _ h9 => h9) rfl hin rfl (by decide +kernel) rfl rfl (Nat.le_of_ble_eq_true rfl) dX6_init_15 (fun H locs hP hD hS => ?_)
  have hP : va_P G vwCl [(h0, .inr (6, [.ref q1, .ref q2, .int 0])), (q1, .inl (ca 0, 2, .inl (fun _ => 0))), (q2, .inl (ca 0, 2, .inl (fun _ => 0)))] H := hP
  have hD : va_D A [(h0, .inr (6, [.ref q1, .ref q2, .int 0])), (q1, .inl (ca 0, 2, .inl (fun _ => 0))), (q2, .inl (ca 0, 2, .inl (fun _ => 0)))] := hD
  refine lv_aload_n hx hb dX6_init_18 rfl (lv_at hl 0 rfl) ?_
  refine lv_iconst (v := (1 : Int32)) hx hb dX6_init_19 rfl ?_
  refine va_put (D := G) (ci := 6) (v := .int (1 : Int32)) (ty := .int) (C := RX6) (T := TX6) (N := 3) hx hb hts i_X6 tyX6 tyX6_ok nmX6 hown hK hP hD hS 0 rfl rfl 2 (by decide) (hts _ kf_X6_18) (fun _ h9 => h9) rfl (by decide +kernel) rfl rfl (Nat.le_of_ble_eq_true rfl) dX6_init_20 (fun H locs hP hD hS => ?_)
  have hP : va_P G vwCl [(h0, .inr (6, [.ref q1, .ref q2, .int (1 : Int32)])), (q1, .inl (ca 0, 2, .inl (fun _ => 0))), (q2, .inl (ca 0, 2, .inl (fun _ => 0)))] H := hP
  have hD : va_D A [(h0, .inr (6, [.ref q1, .ref q2, .int (1 : Int32)])), (q1, .inl (ca 0, 2, .inl (fun _ => 0))), (q2, .inl (ca 0, 2, .inl (fun _ => 0)))] := hD
  exact W.vret hx hb hr (fun t ht hW => ⟨⟨(fun i => match i with | 0 => q1 | _ => q2), rfl, trivial, by rw [ht]; exact hP, va_K.moved hW.alike hK, by rw [hAe]; exact hD⟩, hS.F ht⟩) hS.2.2 dX6_init_23
theorem h9_X7_init : yX7_init.cls ≠ "java/lang/invoke/MethodHandle" ∧ yX7_init.cls ≠ "java/lang/invoke/VarHandle" ∧ (parseMethodDescriptor yX7_init.desc).map (fun d => d.parameters.length) = some 0 := by decide +kernel
abbrev w1_X7_init (ca : Nat → ClassId) (h0 : Nat)  (u : Nat → Nat) : va_W := [(h0, .inr (7, [.ref (u 0), .ref (u 1), .int (0 : Int32)])), ((u 0), .inl (ca 0, 300, .inl (fun _ => 0))), ((u 1), .inl (ca 0, 300, .inl (fun _ => 0)))]
set_option maxRecDepth 100000 in
set_option maxHeartbeats 4000000 in
theorem t_X7_init (l : Launch) (G : va_G) (ca : Nat → ClassId) (h0 sz : Nat)   : Met l yX7_init wsX7_init ({ frames := 1, cells := 2, slots := 600, locals := 28 }) (inP G ca sz [(h0, .inr (7, [.null, .null, .int 0]))] [.ref h0]) (va_Qv (fun _ : Nat → Nat => True) (inB G ca sz [(h0, .inr (7, [.null, .null, .int 0]))] (w1_X7_init ca h0 )) (va_A [(h0, .inr (7, [.null, .null, .int 0]))] sz)) 2 600 (va_A [(h0, .inr (7, [.null, .null, .int 0]))] sz) := by
  refine Met.ofW (cc := cX7_init) (maxL := 1) (ret := none) (by decide) rfl ?_
  intro p e s m args below meth c s₁ B hml hv
  obtain ⟨rfl, hsz, hP, hK, hD0, hz⟩ := hv
  have hx := B.exec
  have hb := B.bytes
  have hr := B.returns
  have hts : ∀ w ∈ WW, w.before _ s = true := fun w h => atoms_spec (ws := wsX7_init) B.pre w (List.mem_cons_of_mem _ h)
  have hown : s.vm.findClass RX7 = some m.cls := findClass_of_methodNamed B.named
  have hlocks := B.notSynchronized
  have hin : meth.name = "<init>" := (name_of_methodNamed B.named B.method).1
  subst hsz
  have hD := hD0.self (sz := s.heap.size)
  generalize hAe : va_A [(h0, .inr (7, [.null, .null, .int 0]))] s.heap.size = A at hD ⊢
  have hA : ∀ q : Nat, s.heap.size ≤ q → A q := fun q h => by rw [← hAe]; exact Or.inr h
  have hS : va_S A s.heap s.heap [] := va_S.rf
  have hl := lv_entry ([.ref h0]) (n := 1) (Nat.le_of_ble_eq_true rfl)
  rw [lg_entry_eq]
  generalize (lg_sl ([.ref h0]) ++ List.replicate (1 - (lg_sl ([.ref h0])).length) Slot.unset).toArray = ls at hl ⊢
  have hl : lv_has ls 1 [(0, .ref h0)] := hl
  refine lv_aload_n hx hb dX7_init_0 rfl (lv_at hl 0 rfl) ?_
  refine W.objInit hx hb hown (hts _ km_X7_3) (hts _ ki_OBJ) (hts _ kc_OBJ) rfl (by rw [hml]; exact hl.1) rfl dX7_init_1 (Nat.le_of_ble_eq_true rfl) (Nat.le_of_ble_eq_true rfl) ?_
  refine W.eq (g2 := F0 m 4 ls []) rfl ?_
  refine lv_aload_n hx hb dX7_init_4 rfl (lv_at hl 0 rfl) ?_
  refine lv_sipush (v := (300 : Int32)) hx hb dX7_init_5 rfl ?_
  refine x_newaI hx hb (hts _ ka_int) hK hP hD hS hA (N' := 300) (by decide) rfl (by decide) (Nat.le_of_ble_eq_true rfl) (Nat.le_of_ble_eq_true rfl) dX7_init_8 (fun q1 H hP hD hS => ?_)
  have hP : va_P G vwCl [(h0, .inr (7, [.null, .null, .int 0])), (q1, .inl (ca 0, 300, .inl (fun _ => 0)))] H := hP
  have hD : va_D A [(h0, .inr (7, [.null, .null, .int 0])), (q1, .inl (ca 0, 300, .inl (fun _ => 0)))] := hD
  refine W.widen (k := 1) (n := 300) (by omega) (by omega) ?_
  refine va_putF (D := G) (ci := 7) (v := .ref q1) (ty := (tyX7 0)) (C := RX7) (T := TX7) (N := 3) hx hb hts i_X7 tyX7 tyX7_ok nmX7 hown hK hP hD hS 0 rfl rfl 0 (by decide) (hts _ kf_X7_9) (fun _ h9 => h9) rfl hin rfl (by decide +kernel) rfl rfl (Nat.le_of_ble_eq_true rfl) dX7_init_10 (fun H locs hP hD hS => ?_)
  have hP : va_P G vwCl [(h0, .inr (7, [.ref q1, .null, .int 0])), (q1, .inl (ca 0, 300, .inl (fun _ => 0)))] H := hP
  have hD : va_D A [(h0, .inr (7, [.ref q1, .null, .int 0])), (q1, .inl (ca 0, 300, .inl (fun _ => 0)))] := hD
  refine lv_aload_n hx hb dX7_init_13 rfl (lv_at hl 0 rfl) ?_
  refine lv_sipush (v := (300 : Int32)) hx hb dX7_init_14 rfl ?_
  refine x_newaI hx hb (hts _ ka_int) hK hP hD hS hA (N' := 300) (by decide) rfl (by decide) (Nat.le_of_ble_eq_true rfl) (Nat.le_of_ble_eq_true rfl) dX7_init_17 (fun q2 H hP hD hS => ?_)
  have hP : va_P G vwCl [(h0, .inr (7, [.ref q1, .null, .int 0])), (q1, .inl (ca 0, 300, .inl (fun _ => 0))), (q2, .inl (ca 0, 300, .inl (fun _ => 0)))] H := hP
  have hD : va_D A [(h0, .inr (7, [.ref q1, .null, .int 0])), (q1, .inl (ca 0, 300, .inl (fun _ => 0))), (q2, .inl (ca 0, 300, .inl (fun _ => 0)))] := hD
  refine W.widen (k := 2) (n := 600) (by omega) (by omega) ?_
  refine va_putF (D := G) (ci := 7) (v := .ref q2) (ty := (tyX7 1)) (C := RX7) (T := TX7) (N := 3) hx hb hts i_X7 tyX7 tyX7_ok nmX7 hown hK hP hD hS 0 rfl rfl 1 (by decide) (hts _ kf_X7_15) (fun _ h9 => h9) rfl hin rfl (by decide +kernel) rfl rfl (Nat.le_of_ble_eq_true rfl) dX7_init_19 (fun H locs hP hD hS => ?_)
  have hP : va_P G vwCl [(h0, .inr (7, [.ref q1, .ref q2, .int 0])), (q1, .inl (ca 0, 300, .inl (fun _ => 0))), (q2, .inl (ca 0, 300, .inl (fun _ => 0)))] H := hP
  have hD : va_D A [(h0, .inr (7, [.ref q1, .ref q2, .int 0])), (q1, .inl (ca 0, 300, .inl (fun _ => 0))), (q2, .inl (ca 0, 300, .inl (fun _ => 0)))] := hD
  refine lv_aload_n hx hb dX7_init_22 rfl (lv_at hl 0 rfl) ?_
  refine lv_iconst (v := (0 : Int32)) hx hb dX7_init_23 rfl ?_
  refine va_put (D := G) (ci := 7) (v := .int (0 : Int32)) (ty := .int) (C := RX7) (T := TX7) (N := 3) hx hb hts i_X7 tyX7 tyX7_ok nmX7 hown hK hP hD hS 0 rfl rfl 2 (by decide) (hts _ kf_X7_18) (fun _ h9 => h9) rfl (by decide +kernel) rfl rfl (Nat.le_of_ble_eq_true rfl) dX7_init_24 (fun H locs hP hD hS => ?_)
  have hP : va_P G vwCl [(h0, .inr (7, [.ref q1, .ref q2, .int (0 : Int32)])), (q1, .inl (ca 0, 300, .inl (fun _ => 0))), (q2, .inl (ca 0, 300, .inl (fun _ => 0)))] H := hP
  have hD : va_D A [(h0, .inr (7, [.ref q1, .ref q2, .int (0 : Int32)])), (q1, .inl (ca 0, 300, .inl (fun _ => 0))), (q2, .inl (ca 0, 300, .inl (fun _ => 0)))] := hD
  exact W.vret hx hb hr (fun t ht hW => ⟨⟨(fun i => match i with | 0 => q1 | _ => q2), rfl, trivial, by rw [ht]; exact hP, va_K.moved hW.alike hK, by rw [hAe]; exact hD⟩, hS.F ht⟩) hS.2.2 dX7_init_27
theorem h9_X8_init : yX8_init.cls ≠ "java/lang/invoke/MethodHandle" ∧ yX8_init.cls ≠ "java/lang/invoke/VarHandle" ∧ (parseMethodDescriptor yX8_init.desc).map (fun d => d.parameters.length) = some 0 := by decide +kernel
abbrev w1_X8_init (ca : Nat → ClassId) (h0 : Nat)  (u : Nat → Nat) : va_W := [(h0, .inr (8, [.ref (u 2), .ref (u 0), .ref (u 1), .int (0 : Int32), .int (0 : Int32)])), ((u 0), .inl (ca 0, 16, .inl (fun _ => 0))), ((u 1), .inl (ca 0, 16, .inl (fun _ => 0))), ((u 2), .inl (ca 0, 12, .inl (fun _ => (-1 : Int32))))]
set_option maxRecDepth 100000 in
set_option maxHeartbeats 4000000 in
theorem t_X8_init (l : Launch) (G : va_G) (ca : Nat → ClassId) (h0 sz : Nat)   : Met l yX8_init wsX8_init ({ frames := 1, cells := 3, slots := 44, locals := 28 }) (inP G ca sz [(h0, .inr (8, [.null, .null, .null, .int 0, .int 0]))] [.ref h0]) (va_Qv (fun _ : Nat → Nat => True) (inB G ca sz [(h0, .inr (8, [.null, .null, .null, .int 0, .int 0]))] (w1_X8_init ca h0 )) (va_A [(h0, .inr (8, [.null, .null, .null, .int 0, .int 0]))] sz)) 3 44 (va_A [(h0, .inr (8, [.null, .null, .null, .int 0, .int 0]))] sz) := by
  refine Met.ofW (cc := cX8_init) (maxL := 1) (ret := none) (by decide) rfl ?_
  intro p e s m args below meth c s₁ B hml hv
  obtain ⟨rfl, hsz, hP, hK, hD0, hz⟩ := hv
  have hx := B.exec
  have hb := B.bytes
  have hr := B.returns
  have hts : ∀ w ∈ WW, w.before _ s = true := fun w h => atoms_spec (ws := wsX8_init) B.pre w (List.mem_cons_of_mem _ h)
  have hown : s.vm.findClass RX8 = some m.cls := findClass_of_methodNamed B.named
  have hlocks := B.notSynchronized
  have hin : meth.name = "<init>" := (name_of_methodNamed B.named B.method).1
  subst hsz
  have hD := hD0.self (sz := s.heap.size)
  generalize hAe : va_A [(h0, .inr (8, [.null, .null, .null, .int 0, .int 0]))] s.heap.size = A at hD ⊢
  have hA : ∀ q : Nat, s.heap.size ≤ q → A q := fun q h => by rw [← hAe]; exact Or.inr h
  have hS : va_S A s.heap s.heap [] := va_S.rf
  have hl := lv_entry ([.ref h0]) (n := 1) (Nat.le_of_ble_eq_true rfl)
  rw [lg_entry_eq]
  generalize (lg_sl ([.ref h0]) ++ List.replicate (1 - (lg_sl ([.ref h0])).length) Slot.unset).toArray = ls at hl ⊢
  have hl : lv_has ls 1 [(0, .ref h0)] := hl
  refine lv_aload_n hx hb dX8_init_0 rfl (lv_at hl 0 rfl) ?_
  refine W.objInit hx hb hown (hts _ km_X8_3) (hts _ ki_OBJ) (hts _ kc_OBJ) rfl (by rw [hml]; exact hl.1) rfl dX8_init_1 (Nat.le_of_ble_eq_true rfl) (Nat.le_of_ble_eq_true rfl) ?_
  refine W.eq (g2 := F0 m 4 ls []) rfl ?_
  refine lv_aload_n hx hb dX8_init_4 rfl (lv_at hl 0 rfl) ?_
  refine lv_bipush (v := (12 : Int32)) hx hb dX8_init_5 rfl ?_
  refine x_newaI hx hb (hts _ ka_int) hK hP hD hS hA (N' := 12) (by decide) rfl (by decide) (Nat.le_of_ble_eq_true rfl) (Nat.le_of_ble_eq_true rfl) dX8_init_7 (fun q1 H hP hD hS => ?_)
  have hP : va_P G vwCl [(h0, .inr (8, [.null, .null, .null, .int 0, .int 0])), (q1, .inl (ca 0, 12, .inl (fun _ => 0)))] H := hP
  have hD : va_D A [(h0, .inr (8, [.null, .null, .null, .int 0, .int 0])), (q1, .inl (ca 0, 12, .inl (fun _ => 0)))] := hD
  refine W.widen (k := 1) (n := 12) (by omega) (by omega) ?_
  refine va_putF (D := G) (ci := 8) (v := .ref q1) (ty := (tyX8 0)) (C := RX8) (T := TX8) (N := 5) hx hb hts i_X8 tyX8 tyX8_ok nmX8 hown hK hP hD hS 0 rfl rfl 0 (by decide) (hts _ kf_X8_9) (fun _ h9 => h9) rfl hin rfl (by decide +kernel) rfl rfl (Nat.le_of_ble_eq_true rfl) dX8_init_9 (fun H locs hP hD hS => ?_)
  have hP : va_P G vwCl [(h0, .inr (8, [.ref q1, .null, .null, .int 0, .int 0])), (q1, .inl (ca 0, 12, .inl (fun _ => 0)))] H := hP
  have hD : va_D A [(h0, .inr (8, [.ref q1, .null, .null, .int 0, .int 0])), (q1, .inl (ca 0, 12, .inl (fun _ => 0)))] := hD
  refine lv_aload_n hx hb dX8_init_12 rfl (lv_at hl 0 rfl) ?_
  refine lv_bipush (v := (16 : Int32)) hx hb dX8_init_13 rfl ?_
  refine x_newaI hx hb (hts _ ka_int) hK hP hD hS hA (N' := 16) (by decide) rfl (by decide) (Nat.le_of_ble_eq_true rfl) (Nat.le_of_ble_eq_true rfl) dX8_init_15 (fun q2 H hP hD hS => ?_)
  have hP : va_P G vwCl [(h0, .inr (8, [.ref q1, .null, .null, .int 0, .int 0])), (q1, .inl (ca 0, 12, .inl (fun _ => 0))), (q2, .inl (ca 0, 16, .inl (fun _ => 0)))] H := hP
  have hD : va_D A [(h0, .inr (8, [.ref q1, .null, .null, .int 0, .int 0])), (q1, .inl (ca 0, 12, .inl (fun _ => 0))), (q2, .inl (ca 0, 16, .inl (fun _ => 0)))] := hD
  refine W.widen (k := 2) (n := 28) (by omega) (by omega) ?_
  refine va_putF (D := G) (ci := 8) (v := .ref q2) (ty := (tyX8 1)) (C := RX8) (T := TX8) (N := 5) hx hb hts i_X8 tyX8 tyX8_ok nmX8 hown hK hP hD hS 0 rfl rfl 1 (by decide) (hts _ kf_X8_15) (fun _ h9 => h9) rfl hin rfl (by decide +kernel) rfl rfl (Nat.le_of_ble_eq_true rfl) dX8_init_17 (fun H locs hP hD hS => ?_)
  have hP : va_P G vwCl [(h0, .inr (8, [.ref q1, .ref q2, .null, .int 0, .int 0])), (q1, .inl (ca 0, 12, .inl (fun _ => 0))), (q2, .inl (ca 0, 16, .inl (fun _ => 0)))] H := hP
  have hD : va_D A [(h0, .inr (8, [.ref q1, .ref q2, .null, .int 0, .int 0])), (q1, .inl (ca 0, 12, .inl (fun _ => 0))), (q2, .inl (ca 0, 16, .inl (fun _ => 0)))] := hD
  refine lv_aload_n hx hb dX8_init_20 rfl (lv_at hl 0 rfl) ?_
  refine lv_bipush (v := (16 : Int32)) hx hb dX8_init_21 rfl ?_
  refine x_newaI hx hb (hts _ ka_int) hK hP hD hS hA (N' := 16) (by decide) rfl (by decide) (Nat.le_of_ble_eq_true rfl) (Nat.le_of_ble_eq_true rfl) dX8_init_23 (fun q3 H hP hD hS => ?_)
  have hP : va_P G vwCl [(h0, .inr (8, [.ref q1, .ref q2, .null, .int 0, .int 0])), (q1, .inl (ca 0, 12, .inl (fun _ => 0))), (q2, .inl (ca 0, 16, .inl (fun _ => 0))), (q3, .inl (ca 0, 16, .inl (fun _ => 0)))] H := hP
  have hD : va_D A [(h0, .inr (8, [.ref q1, .ref q2, .null, .int 0, .int 0])), (q1, .inl (ca 0, 12, .inl (fun _ => 0))), (q2, .inl (ca 0, 16, .inl (fun _ => 0))), (q3, .inl (ca 0, 16, .inl (fun _ => 0)))] := hD
  refine W.widen (k := 3) (n := 44) (by omega) (by omega) ?_
  refine va_putF (D := G) (ci := 8) (v := .ref q3) (ty := (tyX8 2)) (C := RX8) (T := TX8) (N := 5) hx hb hts i_X8 tyX8 tyX8_ok nmX8 hown hK hP hD hS 0 rfl rfl 2 (by decide) (hts _ kf_X8_18) (fun _ h9 => h9) rfl hin rfl (by decide +kernel) rfl rfl (Nat.le_of_ble_eq_true rfl) dX8_init_25 (fun H locs hP hD hS => ?_)
  have hP : va_P G vwCl [(h0, .inr (8, [.ref q1, .ref q2, .ref q3, .int 0, .int 0])), (q1, .inl (ca 0, 12, .inl (fun _ => 0))), (q2, .inl (ca 0, 16, .inl (fun _ => 0))), (q3, .inl (ca 0, 16, .inl (fun _ => 0)))] H := hP
  have hD : va_D A [(h0, .inr (8, [.ref q1, .ref q2, .ref q3, .int 0, .int 0])), (q1, .inl (ca 0, 12, .inl (fun _ => 0))), (q2, .inl (ca 0, 16, .inl (fun _ => 0))), (q3, .inl (ca 0, 16, .inl (fun _ => 0)))] := hD
  refine lv_aload_n hx hb dX8_init_28 rfl (lv_at hl 0 rfl) ?_
  refine lv_iconst (v := (0 : Int32)) hx hb dX8_init_29 rfl ?_
  refine va_put (D := G) (ci := 8) (v := .int (0 : Int32)) (ty := .int) (C := RX8) (T := TX8) (N := 5) hx hb hts i_X8 tyX8 tyX8_ok nmX8 hown hK hP hD hS 0 rfl rfl 3 (by decide) (hts _ kf_X8_21) (fun _ h9 => h9) rfl (by decide +kernel) rfl rfl (Nat.le_of_ble_eq_true rfl) dX8_init_30 (fun H locs hP hD hS => ?_)
  have hP : va_P G vwCl [(h0, .inr (8, [.ref q1, .ref q2, .ref q3, .int (0 : Int32), .int 0])), (q1, .inl (ca 0, 12, .inl (fun _ => 0))), (q2, .inl (ca 0, 16, .inl (fun _ => 0))), (q3, .inl (ca 0, 16, .inl (fun _ => 0)))] H := hP
  have hD : va_D A [(h0, .inr (8, [.ref q1, .ref q2, .ref q3, .int (0 : Int32), .int 0])), (q1, .inl (ca 0, 12, .inl (fun _ => 0))), (q2, .inl (ca 0, 16, .inl (fun _ => 0))), (q3, .inl (ca 0, 16, .inl (fun _ => 0)))] := hD
  refine lv_aload_n hx hb dX8_init_33 rfl (lv_at hl 0 rfl) ?_
  refine lv_iconst (v := (0 : Int32)) hx hb dX8_init_34 rfl ?_
  refine va_put (D := G) (ci := 8) (v := .int (0 : Int32)) (ty := .boolean) (C := RX8) (T := TX8) (N := 5) hx hb hts i_X8 tyX8 tyX8_ok nmX8 hown hK hP hD hS 0 rfl rfl 4 (by decide) (hts _ kf_X8_25) (fun _ h9 => h9) rfl (by decide +kernel) rfl rfl (Nat.le_of_ble_eq_true rfl) dX8_init_35 (fun H locs hP hD hS => ?_)
  have hP : va_P G vwCl [(h0, .inr (8, [.ref q1, .ref q2, .ref q3, .int (0 : Int32), .int (0 : Int32)])), (q1, .inl (ca 0, 12, .inl (fun _ => 0))), (q2, .inl (ca 0, 16, .inl (fun _ => 0))), (q3, .inl (ca 0, 16, .inl (fun _ => 0)))] H := hP
  have hD : va_D A [(h0, .inr (8, [.ref q1, .ref q2, .ref q3, .int (0 : Int32), .int (0 : Int32)])), (q1, .inl (ca 0, 12, .inl (fun _ => 0))), (q2, .inl (ca 0, 16, .inl (fun _ => 0))), (q3, .inl (ca 0, 16, .inl (fun _ => 0)))] := hD
  refine lv_aload_n hx hb dX8_init_38 rfl (lv_at hl 0 rfl) ?_
  refine va_get (D := G) (ci := 8) (v := .ref q1) (C := RX8) (T := TX8) (N := 5) hx hb hts i_X8 hown hK hP 0 rfl rfl 0 (by decide) (hts _ kf_X8_9) (fun _ h9 => h9) rfl dX8_init_39 ?_
  refine lv_iconst (v := (-1 : Int32)) hx hb dX8_init_42 rfl ?_
  have hPc := hP.sub (ws' := [(q1, .inl (ca 0, 12, .inl (fun _ => 0)))]) [1] rfl
  have hDc := hD.sub (ws' := [(q1, .inl (ca 0, 12, .inl (fun _ => 0)))]) [1] (by decide) rfl
  have hFc := va_free (wc := [(q1, .inl (ca 0, 12, .inl (fun _ => 0)))]) hD hS hA [1] rfl
  refine va_callv (va_runS (As := [.ref q1, .int (-1 : Int32)]) (rest := []) ⟨hx, hb, hml, hown, hts⟩ (t_J7_fill l G ca q1 H.size 12 (fun _ => 0) (-1 : Int32) (by omega)) (va_cwS 2 hts gr_X8_29 rfl rfl rfl h9_J7_fill_53178 ⟨Nat.le_of_ble_eq_true rfl, Nat.le_of_ble_eq_true rfl⟩) (x_inPre hz hK hPc hDc) rfl rfl hl.1 rfl (lv_room (Nat.le_of_ble_eq_true rfl)) dX8_init_43 ⟨Nat.le_of_ble_eq_true rfl, Nat.le_of_ble_eq_true rfl⟩) hS (fun q _ h => hFc q h) hFc (fun _ t H1 locs ht hvm hw hB hz1 hk1 hS => ?_)
  obtain ⟨hP1, hK1, hD1⟩ := hB
  rw [ht] at hP1
  obtain ⟨hP, hD⟩ := va_join (wr := [(h0, .inr (8, [.ref q1, .ref q2, .ref q3, .int (0 : Int32), .int (0 : Int32)])), (q2, .inl (ca 0, 16, .inl (fun _ => 0))), (q3, .inl (ca 0, 16, .inl (fun _ => 0)))]) (w1 := [(q1, .inl (ca 0, 12, .inl (fun _ => (-1 : Int32))))]) hP hD [1] [0, 2, 3] rfl rfl (by decide) (by decide) hk1 hFc hP1 hD1
  generalize H1 = H at hP hS ⊢
  have hP : va_P G vwCl [(h0, .inr (8, [.ref q1, .ref q2, .ref q3, .int (0 : Int32), .int (0 : Int32)])), (q2, .inl (ca 0, 16, .inl (fun _ => 0))), (q3, .inl (ca 0, 16, .inl (fun _ => 0))), (q1, .inl (ca 0, 12, .inl (fun _ => (-1 : Int32))))] H := hP
  have hD : va_D A [(h0, .inr (8, [.ref q1, .ref q2, .ref q3, .int (0 : Int32), .int (0 : Int32)])), (q2, .inl (ca 0, 16, .inl (fun _ => 0))), (q3, .inl (ca 0, 16, .inl (fun _ => 0))), (q1, .inl (ca 0, 12, .inl (fun _ => (-1 : Int32))))] := hD
  exact W.vret hx hb hr (fun t ht hW => ⟨⟨(fun i => match i with | 0 => q2 | 1 => q3 | _ => q1), rfl, trivial, by rw [ht]; exact hP, va_K.moved hW.alike hK, by rw [hAe]; exact hD⟩, hS.F ht⟩) hS.2.2 dX8_init_46
theorem h9_X5_init : yX5_init.cls ≠ "java/lang/invoke/MethodHandle" ∧ yX5_init.cls ≠ "java/lang/invoke/VarHandle" ∧ (parseMethodDescriptor yX5_init.desc).map (fun d => d.parameters.length) = some 0 := by decide +kernel
abbrev w1_X5_init (ca : Nat → ClassId) (h0 : Nat)  (u : Nat → Nat) : va_W := [(h0, .inr (5, [.ref (u 0), .ref (u 6), .int (0 : Int32), .int (0 : Int32), .int (0 : Int32), .int (0 : Int32)])), ((u 0), .inr (0, [.ref (u 1), .ref (u 2), .ref (u 3), .int (0 : Int32), .ref (u 4), .ref (u 5), .int (0 : Int32)])), ((u 1), .inl (ca 0, 204, .inl (fun _ => 0))), ((u 2), .inl (ca 0, 204, .inl (fun _ => 0))), ((u 3), .inl (ca 0, 204, .inl (fun _ => 0))), ((u 4), .inl (ca 0, 17, .inl (fun _ => 0))), ((u 5), .inl (ca 0, 17, .inl (fun _ => 0))), ((u 6), .inr (0, [.ref (u 7), .ref (u 8), .ref (u 9), .int (0 : Int32), .ref (u 10), .ref (u 11), .int (0 : Int32)])), ((u 7), .inl (ca 0, 204, .inl (fun _ => 0))), ((u 8), .inl (ca 0, 204, .inl (fun _ => 0))), ((u 9), .inl (ca 0, 204, .inl (fun _ => 0))), ((u 10), .inl (ca 0, 17, .inl (fun _ => 0))), ((u 11), .inl (ca 0, 17, .inl (fun _ => 0)))]
set_option maxRecDepth 100000 in
set_option maxHeartbeats 4000000 in
theorem t_X5_init (l : Launch) (G : va_G) (ca : Nat → ClassId) (h0 sz : Nat)   : Met l yX5_init wsX5_init ({ frames := 2, cells := 12, slots := 1306, locals := 48 }) (inP G ca sz [(h0, .inr (5, [.null, .null, .int 0, .int 0, .int 0, .int 0]))] [.ref h0]) (va_Qv (fun _ : Nat → Nat => True) (inB G ca sz [(h0, .inr (5, [.null, .null, .int 0, .int 0, .int 0, .int 0]))] (w1_X5_init ca h0 )) (va_A [(h0, .inr (5, [.null, .null, .int 0, .int 0, .int 0, .int 0]))] sz)) 12 1306 (va_A [(h0, .inr (5, [.null, .null, .int 0, .int 0, .int 0, .int 0]))] sz) := by
  refine Met.ofW (cc := cX5_init) (maxL := 1) (ret := none) (by decide) rfl ?_
  intro p e s m args below meth c s₁ B hml hv
  obtain ⟨rfl, hsz, hP, hK, hD0, hz⟩ := hv
  have hx := B.exec
  have hb := B.bytes
  have hr := B.returns
  have hts : ∀ w ∈ WW, w.before _ s = true := fun w h => atoms_spec (ws := wsX5_init) B.pre w (List.mem_cons_of_mem _ h)
  have hown : s.vm.findClass RX5 = some m.cls := findClass_of_methodNamed B.named
  have hlocks := B.notSynchronized
  have hin : meth.name = "<init>" := (name_of_methodNamed B.named B.method).1
  subst hsz
  have hD := hD0.self (sz := s.heap.size)
  generalize hAe : va_A [(h0, .inr (5, [.null, .null, .int 0, .int 0, .int 0, .int 0]))] s.heap.size = A at hD ⊢
  have hA : ∀ q : Nat, s.heap.size ≤ q → A q := fun q h => by rw [← hAe]; exact Or.inr h
  have hS : va_S A s.heap s.heap [] := va_S.rf
  have hl := lv_entry ([.ref h0]) (n := 1) (Nat.le_of_ble_eq_true rfl)
  rw [lg_entry_eq]
  generalize (lg_sl ([.ref h0]) ++ List.replicate (1 - (lg_sl ([.ref h0])).length) Slot.unset).toArray = ls at hl ⊢
  have hl : lv_has ls 1 [(0, .ref h0)] := hl
  refine lv_aload_n hx hb dX5_init_0 rfl (lv_at hl 0 rfl) ?_
  refine W.objInit hx hb hown (hts _ km_X5_3) (hts _ ki_OBJ) (hts _ kc_OBJ) rfl (by rw [hml]; exact hl.1) rfl dX5_init_1 (Nat.le_of_ble_eq_true rfl) (Nat.le_of_ble_eq_true rfl) ?_
  refine W.eq (g2 := F0 m 4 ls []) rfl ?_
  refine lv_aload_n hx hb dX5_init_4 rfl (lv_at hl 0 rfl) ?_
  refine va_new (ci := 0) (fs := [.null, .null, .null, .int 0, .null, .null, .int 0]) (C := RX0) (T := TX0) (N := 7) hx hb hts i_X0 tyX0 tyX0_ok hown (hts _ kl_X5_9) (hts _ kn_X0) (hts _ kz_X0) hK hP hD hS hA rfl (fun j hj => by rcases (show j = 0 ∨ j = 1 ∨ j = 2 ∨ j = 3 ∨ j = 4 ∨ j = 5 ∨ j = 6 by omega) with rfl | rfl | rfl | rfl | rfl | rfl | rfl <;> rfl) (Nat.le_of_ble_eq_true rfl) (Nat.le_of_ble_eq_true rfl) dX5_init_5 (fun q1 H hP hD hS => ?_)
  have hP : va_P G vwCl [(h0, .inr (5, [.null, .null, .int 0, .int 0, .int 0, .int 0])), (q1, .inr (0, [.null, .null, .null, .int 0, .null, .null, .int 0]))] H := hP
  have hD : va_D A [(h0, .inr (5, [.null, .null, .int 0, .int 0, .int 0, .int 0])), (q1, .inr (0, [.null, .null, .null, .int 0, .null, .null, .int 0]))] := hD
  refine W.widen (k := 1) (n := 7) (by omega) (by omega) ?_
  refine lv_dup hx hb dX5_init_8 rfl ?_
  have hPc := hP.sub (ws' := [(q1, .inr (0, [.null, .null, .null, .int 0, .null, .null, .int 0]))]) [1] rfl
  have hDc := hD.sub (ws' := [(q1, .inr (0, [.null, .null, .null, .int 0, .null, .null, .int 0]))]) [1] (by decide) rfl
  have hFc := va_free (wc := [(q1, .inr (0, [.null, .null, .null, .int 0, .null, .null, .int 0]))]) hD hS hA [1] rfl
  refine va_callv (va_runIN (As := []) (rest := [.ref q1, .ref h0]) ⟨hx, hb, hml, hown, hts⟩ (t_X0_init l G ca q1 H.size) ⟨va_cnB 0 hts (gw_0 kc_X0_init) rfl rfl rfl (nw_X5_11 hz) (hts _ kz_X0) h9_X0_init ⟨Nat.le_of_ble_eq_true rfl, Nat.le_of_ble_eq_true rfl⟩, rfl, hts _ ki_X0_init⟩ (x_inPre hz hK hPc hDc) rfl rfl hl.1 rfl (lv_room (Nat.le_of_ble_eq_true rfl)) dX5_init_9 ⟨Nat.le_of_ble_eq_true rfl, Nat.le_of_ble_eq_true rfl⟩) hS (fun q _ h => hFc q h) hFc (fun u2 t H1 locs ht hvm hw hB hz1 hk1 hS => ?_)
  obtain ⟨hP1, hK1, hD1⟩ := hB
  rw [ht] at hP1
  obtain ⟨hP, hD⟩ := va_join (wr := [(h0, .inr (5, [.null, .null, .int 0, .int 0, .int 0, .int 0]))]) (w1 := [(q1, .inr (0, [.ref (u2 0), .ref (u2 1), .ref (u2 2), .int (0 : Int32), .ref (u2 3), .ref (u2 4), .int (0 : Int32)])), ((u2 0), .inl (ca 0, 204, .inl (fun _ => 0))), ((u2 1), .inl (ca 0, 204, .inl (fun _ => 0))), ((u2 2), .inl (ca 0, 204, .inl (fun _ => 0))), ((u2 3), .inl (ca 0, 17, .inl (fun _ => 0))), ((u2 4), .inl (ca 0, 17, .inl (fun _ => 0)))]) hP hD [1] [0] rfl rfl (by decide) (by decide) hk1 hFc hP1 hD1
  generalize H1 = H at hP hS ⊢
  have hP : va_P G vwCl [(h0, .inr (5, [.null, .null, .int 0, .int 0, .int 0, .int 0])), (q1, .inr (0, [.ref (u2 0), .ref (u2 1), .ref (u2 2), .int (0 : Int32), .ref (u2 3), .ref (u2 4), .int (0 : Int32)])), ((u2 0), .inl (ca 0, 204, .inl (fun _ => 0))), ((u2 1), .inl (ca 0, 204, .inl (fun _ => 0))), ((u2 2), .inl (ca 0, 204, .inl (fun _ => 0))), ((u2 3), .inl (ca 0, 17, .inl (fun _ => 0))), ((u2 4), .inl (ca 0, 17, .inl (fun _ => 0)))] H := hP
  have hD : va_D A [(h0, .inr (5, [.null, .null, .int 0, .int 0, .int 0, .int 0])), (q1, .inr (0, [.ref (u2 0), .ref (u2 1), .ref (u2 2), .int (0 : Int32), .ref (u2 3), .ref (u2 4), .int (0 : Int32)])), ((u2 0), .inl (ca 0, 204, .inl (fun _ => 0))), ((u2 1), .inl (ca 0, 204, .inl (fun _ => 0))), ((u2 2), .inl (ca 0, 204, .inl (fun _ => 0))), ((u2 3), .inl (ca 0, 17, .inl (fun _ => 0))), ((u2 4), .inl (ca 0, 17, .inl (fun _ => 0)))] := hD
  refine W.widen (k := 6) (n := 653) (by omega) (by omega) ?_
  refine va_putF (D := G) (ci := 5) (v := .ref q1) (ty := (tyX5 0)) (C := RX5) (T := TX5) (N := 6) hx hb hts i_X5 tyX5 tyX5_ok nmX5 hown hK hP hD hS 0 rfl rfl 0 (by decide) (hts _ kf_X5_12) (fun _ h9 => h9) rfl hin rfl (by decide +kernel) rfl rfl (Nat.le_of_ble_eq_true rfl) dX5_init_12 (fun H locs hP hD hS => ?_)
  have hP : va_P G vwCl [(h0, .inr (5, [.ref q1, .null, .int 0, .int 0, .int 0, .int 0])), (q1, .inr (0, [.ref (u2 0), .ref (u2 1), .ref (u2 2), .int (0 : Int32), .ref (u2 3), .ref (u2 4), .int (0 : Int32)])), ((u2 0), .inl (ca 0, 204, .inl (fun _ => 0))), ((u2 1), .inl (ca 0, 204, .inl (fun _ => 0))), ((u2 2), .inl (ca 0, 204, .inl (fun _ => 0))), ((u2 3), .inl (ca 0, 17, .inl (fun _ => 0))), ((u2 4), .inl (ca 0, 17, .inl (fun _ => 0)))] H := hP
  have hD : va_D A [(h0, .inr (5, [.ref q1, .null, .int 0, .int 0, .int 0, .int 0])), (q1, .inr (0, [.ref (u2 0), .ref (u2 1), .ref (u2 2), .int (0 : Int32), .ref (u2 3), .ref (u2 4), .int (0 : Int32)])), ((u2 0), .inl (ca 0, 204, .inl (fun _ => 0))), ((u2 1), .inl (ca 0, 204, .inl (fun _ => 0))), ((u2 2), .inl (ca 0, 204, .inl (fun _ => 0))), ((u2 3), .inl (ca 0, 17, .inl (fun _ => 0))), ((u2 4), .inl (ca 0, 17, .inl (fun _ => 0)))] := hD
  refine lv_aload_n hx hb dX5_init_15 rfl (lv_at hl 0 rfl) ?_
  refine va_new (ci := 0) (fs := [.null, .null, .null, .int 0, .null, .null, .int 0]) (C := RX0) (T := TX0) (N := 7) hx hb hts i_X0 tyX0 tyX0_ok hown (hts _ kl_X5_9) (hts _ kn_X0) (hts _ kz_X0) hK hP hD hS hA rfl (fun j hj => by rcases (show j = 0 ∨ j = 1 ∨ j = 2 ∨ j = 3 ∨ j = 4 ∨ j = 5 ∨ j = 6 by omega) with rfl | rfl | rfl | rfl | rfl | rfl | rfl <;> rfl) (Nat.le_of_ble_eq_true rfl) (Nat.le_of_ble_eq_true rfl) dX5_init_16 (fun q3 H hP hD hS => ?_)
  have hP : va_P G vwCl [(h0, .inr (5, [.ref q1, .null, .int 0, .int 0, .int 0, .int 0])), (q1, .inr (0, [.ref (u2 0), .ref (u2 1), .ref (u2 2), .int (0 : Int32), .ref (u2 3), .ref (u2 4), .int (0 : Int32)])), ((u2 0), .inl (ca 0, 204, .inl (fun _ => 0))), ((u2 1), .inl (ca 0, 204, .inl (fun _ => 0))), ((u2 2), .inl (ca 0, 204, .inl (fun _ => 0))), ((u2 3), .inl (ca 0, 17, .inl (fun _ => 0))), ((u2 4), .inl (ca 0, 17, .inl (fun _ => 0))), (q3, .inr (0, [.null, .null, .null, .int 0, .null, .null, .int 0]))] H := hP
  have hD : va_D A [(h0, .inr (5, [.ref q1, .null, .int 0, .int 0, .int 0, .int 0])), (q1, .inr (0, [.ref (u2 0), .ref (u2 1), .ref (u2 2), .int (0 : Int32), .ref (u2 3), .ref (u2 4), .int (0 : Int32)])), ((u2 0), .inl (ca 0, 204, .inl (fun _ => 0))), ((u2 1), .inl (ca 0, 204, .inl (fun _ => 0))), ((u2 2), .inl (ca 0, 204, .inl (fun _ => 0))), ((u2 3), .inl (ca 0, 17, .inl (fun _ => 0))), ((u2 4), .inl (ca 0, 17, .inl (fun _ => 0))), (q3, .inr (0, [.null, .null, .null, .int 0, .null, .null, .int 0]))] := hD
  refine W.widen (k := 7) (n := 660) (by omega) (by omega) ?_
  refine lv_dup hx hb dX5_init_19 rfl ?_
  have hPc := hP.sub (ws' := [(q3, .inr (0, [.null, .null, .null, .int 0, .null, .null, .int 0]))]) [7] rfl
  have hDc := hD.sub (ws' := [(q3, .inr (0, [.null, .null, .null, .int 0, .null, .null, .int 0]))]) [7] (by decide) rfl
  have hFc := va_free (wc := [(q3, .inr (0, [.null, .null, .null, .int 0, .null, .null, .int 0]))]) hD hS hA [7] rfl
  refine va_callv (va_runIN (As := []) (rest := [.ref q3, .ref h0]) ⟨hx, hb, hml, hown, hts⟩ (t_X0_init l G ca q3 H.size) ⟨va_cnB 0 hts (gw_0 kc_X0_init) rfl rfl rfl (nw_X5_11 hz) (hts _ kz_X0) h9_X0_init ⟨Nat.le_of_ble_eq_true rfl, Nat.le_of_ble_eq_true rfl⟩, rfl, hts _ ki_X0_init⟩ (x_inPre hz hK hPc hDc) rfl rfl hl.1 rfl (lv_room (Nat.le_of_ble_eq_true rfl)) dX5_init_20 ⟨Nat.le_of_ble_eq_true rfl, Nat.le_of_ble_eq_true rfl⟩) hS (fun q _ h => hFc q h) hFc (fun u4 t H1 locs ht hvm hw hB hz1 hk1 hS => ?_)
  obtain ⟨hP1, hK1, hD1⟩ := hB
  rw [ht] at hP1
  obtain ⟨hP, hD⟩ := va_join (wr := [(h0, .inr (5, [.ref q1, .null, .int 0, .int 0, .int 0, .int 0])), (q1, .inr (0, [.ref (u2 0), .ref (u2 1), .ref (u2 2), .int (0 : Int32), .ref (u2 3), .ref (u2 4), .int (0 : Int32)])), ((u2 0), .inl (ca 0, 204, .inl (fun _ => 0))), ((u2 1), .inl (ca 0, 204, .inl (fun _ => 0))), ((u2 2), .inl (ca 0, 204, .inl (fun _ => 0))), ((u2 3), .inl (ca 0, 17, .inl (fun _ => 0))), ((u2 4), .inl (ca 0, 17, .inl (fun _ => 0)))]) (w1 := [(q3, .inr (0, [.ref (u4 0), .ref (u4 1), .ref (u4 2), .int (0 : Int32), .ref (u4 3), .ref (u4 4), .int (0 : Int32)])), ((u4 0), .inl (ca 0, 204, .inl (fun _ => 0))), ((u4 1), .inl (ca 0, 204, .inl (fun _ => 0))), ((u4 2), .inl (ca 0, 204, .inl (fun _ => 0))), ((u4 3), .inl (ca 0, 17, .inl (fun _ => 0))), ((u4 4), .inl (ca 0, 17, .inl (fun _ => 0)))]) hP hD [7] [0, 1, 2, 3, 4, 5, 6] rfl rfl (by decide) (by decide) hk1 hFc hP1 hD1
  generalize H1 = H at hP hS ⊢
  have hP : va_P G vwCl [(h0, .inr (5, [.ref q1, .null, .int 0, .int 0, .int 0, .int 0])), (q1, .inr (0, [.ref (u2 0), .ref (u2 1), .ref (u2 2), .int (0 : Int32), .ref (u2 3), .ref (u2 4), .int (0 : Int32)])), ((u2 0), .inl (ca 0, 204, .inl (fun _ => 0))), ((u2 1), .inl (ca 0, 204, .inl (fun _ => 0))), ((u2 2), .inl (ca 0, 204, .inl (fun _ => 0))), ((u2 3), .inl (ca 0, 17, .inl (fun _ => 0))), ((u2 4), .inl (ca 0, 17, .inl (fun _ => 0))), (q3, .inr (0, [.ref (u4 0), .ref (u4 1), .ref (u4 2), .int (0 : Int32), .ref (u4 3), .ref (u4 4), .int (0 : Int32)])), ((u4 0), .inl (ca 0, 204, .inl (fun _ => 0))), ((u4 1), .inl (ca 0, 204, .inl (fun _ => 0))), ((u4 2), .inl (ca 0, 204, .inl (fun _ => 0))), ((u4 3), .inl (ca 0, 17, .inl (fun _ => 0))), ((u4 4), .inl (ca 0, 17, .inl (fun _ => 0)))] H := hP
  have hD : va_D A [(h0, .inr (5, [.ref q1, .null, .int 0, .int 0, .int 0, .int 0])), (q1, .inr (0, [.ref (u2 0), .ref (u2 1), .ref (u2 2), .int (0 : Int32), .ref (u2 3), .ref (u2 4), .int (0 : Int32)])), ((u2 0), .inl (ca 0, 204, .inl (fun _ => 0))), ((u2 1), .inl (ca 0, 204, .inl (fun _ => 0))), ((u2 2), .inl (ca 0, 204, .inl (fun _ => 0))), ((u2 3), .inl (ca 0, 17, .inl (fun _ => 0))), ((u2 4), .inl (ca 0, 17, .inl (fun _ => 0))), (q3, .inr (0, [.ref (u4 0), .ref (u4 1), .ref (u4 2), .int (0 : Int32), .ref (u4 3), .ref (u4 4), .int (0 : Int32)])), ((u4 0), .inl (ca 0, 204, .inl (fun _ => 0))), ((u4 1), .inl (ca 0, 204, .inl (fun _ => 0))), ((u4 2), .inl (ca 0, 204, .inl (fun _ => 0))), ((u4 3), .inl (ca 0, 17, .inl (fun _ => 0))), ((u4 4), .inl (ca 0, 17, .inl (fun _ => 0)))] := hD
  refine W.widen (k := 12) (n := 1306) (by omega) (by omega) ?_
  refine va_putF (D := G) (ci := 5) (v := .ref q3) (ty := (tyX5 1)) (C := RX5) (T := TX5) (N := 6) hx hb hts i_X5 tyX5 tyX5_ok nmX5 hown hK hP hD hS 0 rfl rfl 1 (by decide) (hts _ kf_X5_18) (fun _ h9 => h9) rfl hin rfl (by decide +kernel) rfl rfl (Nat.le_of_ble_eq_true rfl) dX5_init_23 (fun H locs hP hD hS => ?_)
  have hP : va_P G vwCl [(h0, .inr (5, [.ref q1, .ref q3, .int 0, .int 0, .int 0, .int 0])), (q1, .inr (0, [.ref (u2 0), .ref (u2 1), .ref (u2 2), .int (0 : Int32), .ref (u2 3), .ref (u2 4), .int (0 : Int32)])), ((u2 0), .inl (ca 0, 204, .inl (fun _ => 0))), ((u2 1), .inl (ca 0, 204, .inl (fun _ => 0))), ((u2 2), .inl (ca 0, 204, .inl (fun _ => 0))), ((u2 3), .inl (ca 0, 17, .inl (fun _ => 0))), ((u2 4), .inl (ca 0, 17, .inl (fun _ => 0))), (q3, .inr (0, [.ref (u4 0), .ref (u4 1), .ref (u4 2), .int (0 : Int32), .ref (u4 3), .ref (u4 4), .int (0 : Int32)])), ((u4 0), .inl (ca 0, 204, .inl (fun _ => 0))), ((u4 1), .inl (ca 0, 204, .inl (fun _ => 0))), ((u4 2), .inl (ca 0, 204, .inl (fun _ => 0))), ((u4 3), .inl (ca 0, 17, .inl (fun _ => 0))), ((u4 4), .inl (ca 0, 17, .inl (fun _ => 0)))] H := hP
  have hD : va_D A [(h0, .inr (5, [.ref q1, .ref q3, .int 0, .int 0, .int 0, .int 0])), (q1, .inr (0, [.ref (u2 0), .ref (u2 1), .ref (u2 2), .int (0 : Int32), .ref (u2 3), .ref (u2 4), .int (0 : Int32)])), ((u2 0), .inl (ca 0, 204, .inl (fun _ => 0))), ((u2 1), .inl (ca 0, 204, .inl (fun _ => 0))), ((u2 2), .inl (ca 0, 204, .inl (fun _ => 0))), ((u2 3), .inl (ca 0, 17, .inl (fun _ => 0))), ((u2 4), .inl (ca 0, 17, .inl (fun _ => 0))), (q3, .inr (0, [.ref (u4 0), .ref (u4 1), .ref (u4 2), .int (0 : Int32), .ref (u4 3), .ref (u4 4), .int (0 : Int32)])), ((u4 0), .inl (ca 0, 204, .inl (fun _ => 0))), ((u4 1), .inl (ca 0, 204, .inl (fun _ => 0))), ((u4 2), .inl (ca 0, 204, .inl (fun _ => 0))), ((u4 3), .inl (ca 0, 17, .inl (fun _ => 0))), ((u4 4), .inl (ca 0, 17, .inl (fun _ => 0)))] := hD
  refine lv_aload_n hx hb dX5_init_26 rfl (lv_at hl 0 rfl) ?_
  refine lv_iconst (v := (0 : Int32)) hx hb dX5_init_27 rfl ?_
  refine va_put (D := G) (ci := 5) (v := .int (0 : Int32)) (ty := .int) (C := RX5) (T := TX5) (N := 6) hx hb hts i_X5 tyX5 tyX5_ok nmX5 hown hK hP hD hS 0 rfl rfl 2 (by decide) (hts _ kf_X5_21) (fun _ h9 => h9) rfl (by decide +kernel) rfl rfl (Nat.le_of_ble_eq_true rfl) dX5_init_28 (fun H locs hP hD hS => ?_)
  have hP : va_P G vwCl [(h0, .inr (5, [.ref q1, .ref q3, .int (0 : Int32), .int 0, .int 0, .int 0])), (q1, .inr (0, [.ref (u2 0), .ref (u2 1), .ref (u2 2), .int (0 : Int32), .ref (u2 3), .ref (u2 4), .int (0 : Int32)])), ((u2 0), .inl (ca 0, 204, .inl (fun _ => 0))), ((u2 1), .inl (ca 0, 204, .inl (fun _ => 0))), ((u2 2), .inl (ca 0, 204, .inl (fun _ => 0))), ((u2 3), .inl (ca 0, 17, .inl (fun _ => 0))), ((u2 4), .inl (ca 0, 17, .inl (fun _ => 0))), (q3, .inr (0, [.ref (u4 0), .ref (u4 1), .ref (u4 2), .int (0 : Int32), .ref (u4 3), .ref (u4 4), .int (0 : Int32)])), ((u4 0), .inl (ca 0, 204, .inl (fun _ => 0))), ((u4 1), .inl (ca 0, 204, .inl (fun _ => 0))), ((u4 2), .inl (ca 0, 204, .inl (fun _ => 0))), ((u4 3), .inl (ca 0, 17, .inl (fun _ => 0))), ((u4 4), .inl (ca 0, 17, .inl (fun _ => 0)))] H := hP
  have hD : va_D A [(h0, .inr (5, [.ref q1, .ref q3, .int (0 : Int32), .int 0, .int 0, .int 0])), (q1, .inr (0, [.ref (u2 0), .ref (u2 1), .ref (u2 2), .int (0 : Int32), .ref (u2 3), .ref (u2 4), .int (0 : Int32)])), ((u2 0), .inl (ca 0, 204, .inl (fun _ => 0))), ((u2 1), .inl (ca 0, 204, .inl (fun _ => 0))), ((u2 2), .inl (ca 0, 204, .inl (fun _ => 0))), ((u2 3), .inl (ca 0, 17, .inl (fun _ => 0))), ((u2 4), .inl (ca 0, 17, .inl (fun _ => 0))), (q3, .inr (0, [.ref (u4 0), .ref (u4 1), .ref (u4 2), .int (0 : Int32), .ref (u4 3), .ref (u4 4), .int (0 : Int32)])), ((u4 0), .inl (ca 0, 204, .inl (fun _ => 0))), ((u4 1), .inl (ca 0, 204, .inl (fun _ => 0))), ((u4 2), .inl (ca 0, 204, .inl (fun _ => 0))), ((u4 3), .inl (ca 0, 17, .inl (fun _ => 0))), ((u4 4), .inl (ca 0, 17, .inl (fun _ => 0)))] := hD
  refine lv_aload_n hx hb dX5_init_31 rfl (lv_at hl 0 rfl) ?_
  refine lv_iconst (v := (0 : Int32)) hx hb dX5_init_32 rfl ?_
  refine va_put (D := G) (ci := 5) (v := .int (0 : Int32)) (ty := .int) (C := RX5) (T := TX5) (N := 6) hx hb hts i_X5 tyX5 tyX5_ok nmX5 hown hK hP hD hS 0 rfl rfl 3 (by decide) (hts _ kf_X5_25) (fun _ h9 => h9) rfl (by decide +kernel) rfl rfl (Nat.le_of_ble_eq_true rfl) dX5_init_33 (fun H locs hP hD hS => ?_)
  have hP : va_P G vwCl [(h0, .inr (5, [.ref q1, .ref q3, .int (0 : Int32), .int (0 : Int32), .int 0, .int 0])), (q1, .inr (0, [.ref (u2 0), .ref (u2 1), .ref (u2 2), .int (0 : Int32), .ref (u2 3), .ref (u2 4), .int (0 : Int32)])), ((u2 0), .inl (ca 0, 204, .inl (fun _ => 0))), ((u2 1), .inl (ca 0, 204, .inl (fun _ => 0))), ((u2 2), .inl (ca 0, 204, .inl (fun _ => 0))), ((u2 3), .inl (ca 0, 17, .inl (fun _ => 0))), ((u2 4), .inl (ca 0, 17, .inl (fun _ => 0))), (q3, .inr (0, [.ref (u4 0), .ref (u4 1), .ref (u4 2), .int (0 : Int32), .ref (u4 3), .ref (u4 4), .int (0 : Int32)])), ((u4 0), .inl (ca 0, 204, .inl (fun _ => 0))), ((u4 1), .inl (ca 0, 204, .inl (fun _ => 0))), ((u4 2), .inl (ca 0, 204, .inl (fun _ => 0))), ((u4 3), .inl (ca 0, 17, .inl (fun _ => 0))), ((u4 4), .inl (ca 0, 17, .inl (fun _ => 0)))] H := hP
  have hD : va_D A [(h0, .inr (5, [.ref q1, .ref q3, .int (0 : Int32), .int (0 : Int32), .int 0, .int 0])), (q1, .inr (0, [.ref (u2 0), .ref (u2 1), .ref (u2 2), .int (0 : Int32), .ref (u2 3), .ref (u2 4), .int (0 : Int32)])), ((u2 0), .inl (ca 0, 204, .inl (fun _ => 0))), ((u2 1), .inl (ca 0, 204, .inl (fun _ => 0))), ((u2 2), .inl (ca 0, 204, .inl (fun _ => 0))), ((u2 3), .inl (ca 0, 17, .inl (fun _ => 0))), ((u2 4), .inl (ca 0, 17, .inl (fun _ => 0))), (q3, .inr (0, [.ref (u4 0), .ref (u4 1), .ref (u4 2), .int (0 : Int32), .ref (u4 3), .ref (u4 4), .int (0 : Int32)])), ((u4 0), .inl (ca 0, 204, .inl (fun _ => 0))), ((u4 1), .inl (ca 0, 204, .inl (fun _ => 0))), ((u4 2), .inl (ca 0, 204, .inl (fun _ => 0))), ((u4 3), .inl (ca 0, 17, .inl (fun _ => 0))), ((u4 4), .inl (ca 0, 17, .inl (fun _ => 0)))] := hD
  refine lv_aload_n hx hb dX5_init_36 rfl (lv_at hl 0 rfl) ?_
  refine lv_iconst (v := (0 : Int32)) hx hb dX5_init_37 rfl ?_
  refine va_put (D := G) (ci := 5) (v := .int (0 : Int32)) (ty := .int) (C := RX5) (T := TX5) (N := 6) hx hb hts i_X5 tyX5 tyX5_ok nmX5 hown hK hP hD hS 0 rfl rfl 4 (by decide) (hts _ kf_X5_28) (fun _ h9 => h9) rfl (by decide +kernel) rfl rfl (Nat.le_of_ble_eq_true rfl) dX5_init_38 (fun H locs hP hD hS => ?_)
  have hP : va_P G vwCl [(h0, .inr (5, [.ref q1, .ref q3, .int (0 : Int32), .int (0 : Int32), .int (0 : Int32), .int 0])), (q1, .inr (0, [.ref (u2 0), .ref (u2 1), .ref (u2 2), .int (0 : Int32), .ref (u2 3), .ref (u2 4), .int (0 : Int32)])), ((u2 0), .inl (ca 0, 204, .inl (fun _ => 0))), ((u2 1), .inl (ca 0, 204, .inl (fun _ => 0))), ((u2 2), .inl (ca 0, 204, .inl (fun _ => 0))), ((u2 3), .inl (ca 0, 17, .inl (fun _ => 0))), ((u2 4), .inl (ca 0, 17, .inl (fun _ => 0))), (q3, .inr (0, [.ref (u4 0), .ref (u4 1), .ref (u4 2), .int (0 : Int32), .ref (u4 3), .ref (u4 4), .int (0 : Int32)])), ((u4 0), .inl (ca 0, 204, .inl (fun _ => 0))), ((u4 1), .inl (ca 0, 204, .inl (fun _ => 0))), ((u4 2), .inl (ca 0, 204, .inl (fun _ => 0))), ((u4 3), .inl (ca 0, 17, .inl (fun _ => 0))), ((u4 4), .inl (ca 0, 17, .inl (fun _ => 0)))] H := hP
  have hD : va_D A [(h0, .inr (5, [.ref q1, .ref q3, .int (0 : Int32), .int (0 : Int32), .int (0 : Int32), .int 0])), (q1, .inr (0, [.ref (u2 0), .ref (u2 1), .ref (u2 2), .int (0 : Int32), .ref (u2 3), .ref (u2 4), .int (0 : Int32)])), ((u2 0), .inl (ca 0, 204, .inl (fun _ => 0))), ((u2 1), .inl (ca 0, 204, .inl (fun _ => 0))), ((u2 2), .inl (ca 0, 204, .inl (fun _ => 0))), ((u2 3), .inl (ca 0, 17, .inl (fun _ => 0))), ((u2 4), .inl (ca 0, 17, .inl (fun _ => 0))), (q3, .inr (0, [.ref (u4 0), .ref (u4 1), .ref (u4 2), .int (0 : Int32), .ref (u4 3), .ref (u4 4), .int (0 : Int32)])), ((u4 0), .inl (ca 0, 204, .inl (fun _ => 0))), ((u4 1), .inl (ca 0, 204, .inl (fun _ => 0))), ((u4 2), .inl (ca 0, 204, .inl (fun _ => 0))), ((u4 3), .inl (ca 0, 17, .inl (fun _ => 0))), ((u4 4), .inl (ca 0, 17, .inl (fun _ => 0)))] := hD
  refine lv_aload_n hx hb dX5_init_41 rfl (lv_at hl 0 rfl) ?_
  refine lv_iconst (v := (0 : Int32)) hx hb dX5_init_42 rfl ?_
  refine va_put (D := G) (ci := 5) (v := .int (0 : Int32)) (ty := .int) (C := RX5) (T := TX5) (N := 6) hx hb hts i_X5 tyX5 tyX5_ok nmX5 hown hK hP hD hS 0 rfl rfl 5 (by decide) (hts _ kf_X5_31) (fun _ h9 => h9) rfl (by decide +kernel) rfl rfl (Nat.le_of_ble_eq_true rfl) dX5_init_43 (fun H locs hP hD hS => ?_)
  have hP : va_P G vwCl [(h0, .inr (5, [.ref q1, .ref q3, .int (0 : Int32), .int (0 : Int32), .int (0 : Int32), .int (0 : Int32)])), (q1, .inr (0, [.ref (u2 0), .ref (u2 1), .ref (u2 2), .int (0 : Int32), .ref (u2 3), .ref (u2 4), .int (0 : Int32)])), ((u2 0), .inl (ca 0, 204, .inl (fun _ => 0))), ((u2 1), .inl (ca 0, 204, .inl (fun _ => 0))), ((u2 2), .inl (ca 0, 204, .inl (fun _ => 0))), ((u2 3), .inl (ca 0, 17, .inl (fun _ => 0))), ((u2 4), .inl (ca 0, 17, .inl (fun _ => 0))), (q3, .inr (0, [.ref (u4 0), .ref (u4 1), .ref (u4 2), .int (0 : Int32), .ref (u4 3), .ref (u4 4), .int (0 : Int32)])), ((u4 0), .inl (ca 0, 204, .inl (fun _ => 0))), ((u4 1), .inl (ca 0, 204, .inl (fun _ => 0))), ((u4 2), .inl (ca 0, 204, .inl (fun _ => 0))), ((u4 3), .inl (ca 0, 17, .inl (fun _ => 0))), ((u4 4), .inl (ca 0, 17, .inl (fun _ => 0)))] H := hP
  have hD : va_D A [(h0, .inr (5, [.ref q1, .ref q3, .int (0 : Int32), .int (0 : Int32), .int (0 : Int32), .int (0 : Int32)])), (q1, .inr (0, [.ref (u2 0), .ref (u2 1), .ref (u2 2), .int (0 : Int32), .ref (u2 3), .ref (u2 4), .int (0 : Int32)])), ((u2 0), .inl (ca 0, 204, .inl (fun _ => 0))), ((u2 1), .inl (ca 0, 204, .inl (fun _ => 0))), ((u2 2), .inl (ca 0, 204, .inl (fun _ => 0))), ((u2 3), .inl (ca 0, 17, .inl (fun _ => 0))), ((u2 4), .inl (ca 0, 17, .inl (fun _ => 0))), (q3, .inr (0, [.ref (u4 0), .ref (u4 1), .ref (u4 2), .int (0 : Int32), .ref (u4 3), .ref (u4 4), .int (0 : Int32)])), ((u4 0), .inl (ca 0, 204, .inl (fun _ => 0))), ((u4 1), .inl (ca 0, 204, .inl (fun _ => 0))), ((u4 2), .inl (ca 0, 204, .inl (fun _ => 0))), ((u4 3), .inl (ca 0, 17, .inl (fun _ => 0))), ((u4 4), .inl (ca 0, 17, .inl (fun _ => 0)))] := hD
  exact W.vret hx hb hr (fun t ht hW => ⟨⟨(fun i => match i with | 0 => q1 | 1 => (u2 0) | 2 => (u2 1) | 3 => (u2 2) | 4 => (u2 3) | 5 => (u2 4) | 6 => q3 | 7 => (u4 0) | 8 => (u4 1) | 9 => (u4 2) | 10 => (u4 3) | _ => (u4 4)), rfl, trivial, by rw [ht]; exact hP, va_K.moved hW.alike hK, by rw [hAe]; exact hD⟩, hS.F ht⟩) hS.2.2 dX5_init_46
theorem h9_X1_init : yX1_init.cls ≠ "java/lang/invoke/MethodHandle" ∧ yX1_init.cls ≠ "java/lang/invoke/VarHandle" ∧ (parseMethodDescriptor yX1_init.desc).map (fun d => d.parameters.length) = some 3 := by decide +kernel
abbrev w1_X1_init (ca : Nat → ClassId) (h0 : Nat) (x1 : Nat) (x2 : Int32) (x3 : Int32) (u : Nat → Nat) : va_W := [(h0, .inr (1, [.ref x1, .int x2, .int x3, .ref (u 0), .ref (u 5), .ref (u 6), .ref (u 7), .int (0 : Int32), .int (0 : Int32), .int (0 : Int32)])), ((u 0), .inr (4, [.ref (u 1), .ref (u 2), .ref (u 3), .ref (u 4), .int (0 : Int32), .int (0 : Int32), .int (0 : Int32)])), ((u 1), .inl (ca 0, 16, .inl (fun _ => 0))), ((u 2), .inl (ca 2, 16, .inr (.inl (fun _ => 0)))), ((u 3), .inl (ca 2, 16, .inr (.inl (fun _ => 0)))), ((u 4), .inl (ca 0, 16, .inl (fun _ => 0))), ((u 5), .inl (ca 0, 8, .inl (fun _ => 0))), ((u 6), .inl (ca 4, 8, .inr (.inr (.inr (.inr (fun _ => none)))))), ((u 7), .inl (ca 0, 8, .inl (fun _ => 0)))]
set_option maxRecDepth 100000 in
set_option maxHeartbeats 4000000 in
theorem t_X1_init (l : Launch) (G : va_G) (ca : Nat → ClassId) (h0 sz : Nat) (x1 : Nat) (x2 : Int32) (x3 : Int32)  : Met l yX1_init wsX1_init ({ frames := 2, cells := 8, slots := 95, locals := 48 }) (inP G ca sz [(h0, .inr (1, [.null, .int 0, .int 0, .null, .null, .null, .null, .int 0, .int 0, .int 0]))] [.ref h0, .ref x1, .int x2, .int x3]) (va_Qv (fun _ : Nat → Nat => True) (inB G ca sz [(h0, .inr (1, [.null, .int 0, .int 0, .null, .null, .null, .null, .int 0, .int 0, .int 0]))] (w1_X1_init ca h0 x1 x2 x3)) (va_A [(h0, .inr (1, [.null, .int 0, .int 0, .null, .null, .null, .null, .int 0, .int 0, .int 0]))] sz)) 8 95 (va_A [(h0, .inr (1, [.null, .int 0, .int 0, .null, .null, .null, .null, .int 0, .int 0, .int 0]))] sz) := by
  refine Met.ofW (cc := cX1_init) (maxL := 4) (ret := none) (by decide) rfl ?_
  intro p e s m args below meth c s₁ B hml hv
  obtain ⟨rfl, hsz, hP, hK, hD0, hz⟩ := hv
  have hx := B.exec
  have hb := B.bytes
  have hr := B.returns
  have hts : ∀ w ∈ WW, w.before _ s = true := fun w h => atoms_spec (ws := wsX1_init) B.pre w (List.mem_cons_of_mem _ h)
  have hown : s.vm.findClass RX1 = some m.cls := findClass_of_methodNamed B.named
  have hlocks := B.notSynchronized
  have hin : meth.name = "<init>" := (name_of_methodNamed B.named B.method).1
  subst hsz
  have hD := hD0.self (sz := s.heap.size)
  generalize hAe : va_A [(h0, .inr (1, [.null, .int 0, .int 0, .null, .null, .null, .null, .int 0, .int 0, .int 0]))] s.heap.size = A at hD ⊢
  have hA : ∀ q : Nat, s.heap.size ≤ q → A q := fun q h => by rw [← hAe]; exact Or.inr h
  have hS : va_S A s.heap s.heap [] := va_S.rf
  have hl := lv_entry ([.ref h0, .ref x1, .int x2, .int x3]) (n := 4) (Nat.le_of_ble_eq_true rfl)
  rw [lg_entry_eq]
  generalize (lg_sl ([.ref h0, .ref x1, .int x2, .int x3]) ++ List.replicate (4 - (lg_sl ([.ref h0, .ref x1, .int x2, .int x3])).length) Slot.unset).toArray = ls at hl ⊢
  have hl : lv_has ls 4 [(0, .ref h0), (1, .ref x1), (2, .int x2), (3, .int x3)] := hl
  refine lv_aload_n hx hb dX1_init_0 rfl (lv_at hl 0 rfl) ?_
  refine W.objInit hx hb hown (hts _ km_X1_3) (hts _ ki_OBJ) (hts _ kc_OBJ) rfl (by rw [hml]; exact hl.1) rfl dX1_init_1 (Nat.le_of_ble_eq_true rfl) (Nat.le_of_ble_eq_true rfl) ?_
  refine W.eq (g2 := F0 m 4 ls []) rfl ?_
  refine lv_aload_n hx hb dX1_init_4 rfl (lv_at hl 0 rfl) ?_
  refine va_new (ci := 4) (fs := [.null, .null, .null, .null, .int 0, .int 0, .int 0]) (C := RX4) (T := TX4) (N := 7) hx hb hts i_X4 tyX4 tyX4_ok hown (hts _ kl_X1_9) (hts _ kn_X4) (hts _ kz_X4) hK hP hD hS hA rfl (fun j hj => by rcases (show j = 0 ∨ j = 1 ∨ j = 2 ∨ j = 3 ∨ j = 4 ∨ j = 5 ∨ j = 6 by omega) with rfl | rfl | rfl | rfl | rfl | rfl | rfl <;> rfl) (Nat.le_of_ble_eq_true rfl) (Nat.le_of_ble_eq_true rfl) dX1_init_5 (fun q1 H hP hD hS => ?_)
  have hP : va_P G vwCl [(h0, .inr (1, [.null, .int 0, .int 0, .null, .null, .null, .null, .int 0, .int 0, .int 0])), (q1, .inr (4, [.null, .null, .null, .null, .int 0, .int 0, .int 0]))] H := hP
  have hD : va_D A [(h0, .inr (1, [.null, .int 0, .int 0, .null, .null, .null, .null, .int 0, .int 0, .int 0])), (q1, .inr (4, [.null, .null, .null, .null, .int 0, .int 0, .int 0]))] := hD
  refine W.widen (k := 1) (n := 7) (by omega) (by omega) ?_
  refine lv_dup hx hb dX1_init_8 rfl ?_
  have hPc := hP.sub (ws' := [(q1, .inr (4, [.null, .null, .null, .null, .int 0, .int 0, .int 0]))]) [1] rfl
  have hDc := hD.sub (ws' := [(q1, .inr (4, [.null, .null, .null, .null, .int 0, .int 0, .int 0]))]) [1] (by decide) rfl
  have hFc := va_free (wc := [(q1, .inr (4, [.null, .null, .null, .null, .int 0, .int 0, .int 0]))]) hD hS hA [1] rfl
  refine va_callv (va_runIN (As := []) (rest := [.ref q1, .ref h0]) ⟨hx, hb, hml, hown, hts⟩ (t_X4_init l G ca q1 H.size) ⟨va_cnB 0 hts (gw_0 kc_X4_init) rfl rfl rfl (nw_X1_11 hz) (hts _ kz_X4) h9_X4_init ⟨Nat.le_of_ble_eq_true rfl, Nat.le_of_ble_eq_true rfl⟩, rfl, hts _ ki_X4_init⟩ (x_inPre hz hK hPc hDc) rfl rfl hl.1 rfl (lv_room (Nat.le_of_ble_eq_true rfl)) dX1_init_9 ⟨Nat.le_of_ble_eq_true rfl, Nat.le_of_ble_eq_true rfl⟩) hS (fun q _ h => hFc q h) hFc (fun u2 t H1 locs ht hvm hw hB hz1 hk1 hS => ?_)
  obtain ⟨hP1, hK1, hD1⟩ := hB
  rw [ht] at hP1
  obtain ⟨hP, hD⟩ := va_join (wr := [(h0, .inr (1, [.null, .int 0, .int 0, .null, .null, .null, .null, .int 0, .int 0, .int 0]))]) (w1 := [(q1, .inr (4, [.ref (u2 0), .ref (u2 1), .ref (u2 2), .ref (u2 3), .int (0 : Int32), .int (0 : Int32), .int (0 : Int32)])), ((u2 0), .inl (ca 0, 16, .inl (fun _ => 0))), ((u2 1), .inl (ca 2, 16, .inr (.inl (fun _ => 0)))), ((u2 2), .inl (ca 2, 16, .inr (.inl (fun _ => 0)))), ((u2 3), .inl (ca 0, 16, .inl (fun _ => 0)))]) hP hD [1] [0] rfl rfl (by decide) (by decide) hk1 hFc hP1 hD1
  generalize H1 = H at hP hS ⊢
  have hP : va_P G vwCl [(h0, .inr (1, [.null, .int 0, .int 0, .null, .null, .null, .null, .int 0, .int 0, .int 0])), (q1, .inr (4, [.ref (u2 0), .ref (u2 1), .ref (u2 2), .ref (u2 3), .int (0 : Int32), .int (0 : Int32), .int (0 : Int32)])), ((u2 0), .inl (ca 0, 16, .inl (fun _ => 0))), ((u2 1), .inl (ca 2, 16, .inr (.inl (fun _ => 0)))), ((u2 2), .inl (ca 2, 16, .inr (.inl (fun _ => 0)))), ((u2 3), .inl (ca 0, 16, .inl (fun _ => 0)))] H := hP
  have hD : va_D A [(h0, .inr (1, [.null, .int 0, .int 0, .null, .null, .null, .null, .int 0, .int 0, .int 0])), (q1, .inr (4, [.ref (u2 0), .ref (u2 1), .ref (u2 2), .ref (u2 3), .int (0 : Int32), .int (0 : Int32), .int (0 : Int32)])), ((u2 0), .inl (ca 0, 16, .inl (fun _ => 0))), ((u2 1), .inl (ca 2, 16, .inr (.inl (fun _ => 0)))), ((u2 2), .inl (ca 2, 16, .inr (.inl (fun _ => 0)))), ((u2 3), .inl (ca 0, 16, .inl (fun _ => 0)))] := hD
  refine W.widen (k := 5) (n := 71) (by omega) (by omega) ?_
  refine va_putF (D := G) (ci := 1) (v := .ref q1) (ty := (tyX1 3)) (C := RX1) (T := TX1) (N := 10) hx hb hts i_X1 tyX1 tyX1_ok nmX1 hown hK hP hD hS 0 rfl rfl 3 (by decide) (hts _ kf_X1_12) (fun _ h9 => h9) rfl hin rfl (by decide +kernel) rfl rfl (Nat.le_of_ble_eq_true rfl) dX1_init_12 (fun H locs hP hD hS => ?_)
  have hP : va_P G vwCl [(h0, .inr (1, [.null, .int 0, .int 0, .ref q1, .null, .null, .null, .int 0, .int 0, .int 0])), (q1, .inr (4, [.ref (u2 0), .ref (u2 1), .ref (u2 2), .ref (u2 3), .int (0 : Int32), .int (0 : Int32), .int (0 : Int32)])), ((u2 0), .inl (ca 0, 16, .inl (fun _ => 0))), ((u2 1), .inl (ca 2, 16, .inr (.inl (fun _ => 0)))), ((u2 2), .inl (ca 2, 16, .inr (.inl (fun _ => 0)))), ((u2 3), .inl (ca 0, 16, .inl (fun _ => 0)))] H := hP
  have hD : va_D A [(h0, .inr (1, [.null, .int 0, .int 0, .ref q1, .null, .null, .null, .int 0, .int 0, .int 0])), (q1, .inr (4, [.ref (u2 0), .ref (u2 1), .ref (u2 2), .ref (u2 3), .int (0 : Int32), .int (0 : Int32), .int (0 : Int32)])), ((u2 0), .inl (ca 0, 16, .inl (fun _ => 0))), ((u2 1), .inl (ca 2, 16, .inr (.inl (fun _ => 0)))), ((u2 2), .inl (ca 2, 16, .inr (.inl (fun _ => 0)))), ((u2 3), .inl (ca 0, 16, .inl (fun _ => 0)))] := hD
  refine lv_aload_n hx hb dX1_init_15 rfl (lv_at hl 0 rfl) ?_
  refine lv_bipush (v := (8 : Int32)) hx hb dX1_init_16 rfl ?_
  refine x_newaI hx hb (hts _ ka_int) hK hP hD hS hA (N' := 8) (by decide) rfl (by decide) (Nat.le_of_ble_eq_true rfl) (Nat.le_of_ble_eq_true rfl) dX1_init_18 (fun q3 H hP hD hS => ?_)
  have hP : va_P G vwCl [(h0, .inr (1, [.null, .int 0, .int 0, .ref q1, .null, .null, .null, .int 0, .int 0, .int 0])), (q1, .inr (4, [.ref (u2 0), .ref (u2 1), .ref (u2 2), .ref (u2 3), .int (0 : Int32), .int (0 : Int32), .int (0 : Int32)])), ((u2 0), .inl (ca 0, 16, .inl (fun _ => 0))), ((u2 1), .inl (ca 2, 16, .inr (.inl (fun _ => 0)))), ((u2 2), .inl (ca 2, 16, .inr (.inl (fun _ => 0)))), ((u2 3), .inl (ca 0, 16, .inl (fun _ => 0))), (q3, .inl (ca 0, 8, .inl (fun _ => 0)))] H := hP
  have hD : va_D A [(h0, .inr (1, [.null, .int 0, .int 0, .ref q1, .null, .null, .null, .int 0, .int 0, .int 0])), (q1, .inr (4, [.ref (u2 0), .ref (u2 1), .ref (u2 2), .ref (u2 3), .int (0 : Int32), .int (0 : Int32), .int (0 : Int32)])), ((u2 0), .inl (ca 0, 16, .inl (fun _ => 0))), ((u2 1), .inl (ca 2, 16, .inr (.inl (fun _ => 0)))), ((u2 2), .inl (ca 2, 16, .inr (.inl (fun _ => 0)))), ((u2 3), .inl (ca 0, 16, .inl (fun _ => 0))), (q3, .inl (ca 0, 8, .inl (fun _ => 0)))] := hD
  refine W.widen (k := 6) (n := 79) (by omega) (by omega) ?_
  refine va_putF (D := G) (ci := 1) (v := .ref q3) (ty := (tyX1 4)) (C := RX1) (T := TX1) (N := 10) hx hb hts i_X1 tyX1 tyX1_ok nmX1 hown hK hP hD hS 0 rfl rfl 4 (by decide) (hts _ kf_X1_18) (fun _ h9 => h9) rfl hin rfl (by decide +kernel) rfl rfl (Nat.le_of_ble_eq_true rfl) dX1_init_20 (fun H locs hP hD hS => ?_)
  have hP : va_P G vwCl [(h0, .inr (1, [.null, .int 0, .int 0, .ref q1, .ref q3, .null, .null, .int 0, .int 0, .int 0])), (q1, .inr (4, [.ref (u2 0), .ref (u2 1), .ref (u2 2), .ref (u2 3), .int (0 : Int32), .int (0 : Int32), .int (0 : Int32)])), ((u2 0), .inl (ca 0, 16, .inl (fun _ => 0))), ((u2 1), .inl (ca 2, 16, .inr (.inl (fun _ => 0)))), ((u2 2), .inl (ca 2, 16, .inr (.inl (fun _ => 0)))), ((u2 3), .inl (ca 0, 16, .inl (fun _ => 0))), (q3, .inl (ca 0, 8, .inl (fun _ => 0)))] H := hP
  have hD : va_D A [(h0, .inr (1, [.null, .int 0, .int 0, .ref q1, .ref q3, .null, .null, .int 0, .int 0, .int 0])), (q1, .inr (4, [.ref (u2 0), .ref (u2 1), .ref (u2 2), .ref (u2 3), .int (0 : Int32), .int (0 : Int32), .int (0 : Int32)])), ((u2 0), .inl (ca 0, 16, .inl (fun _ => 0))), ((u2 1), .inl (ca 2, 16, .inr (.inl (fun _ => 0)))), ((u2 2), .inl (ca 2, 16, .inr (.inl (fun _ => 0)))), ((u2 3), .inl (ca 0, 16, .inl (fun _ => 0))), (q3, .inl (ca 0, 8, .inl (fun _ => 0)))] := hD
  refine lv_aload_n hx hb dX1_init_23 rfl (lv_at hl 0 rfl) ?_
  refine lv_bipush (v := (8 : Int32)) hx hb dX1_init_24 rfl ?_
  refine x_newaQ 4 rfl hx hb hown (hts _ kl_X1_22) (ao_X2 hz) hK hP hD hS hA (N' := 8) (by decide) rfl (by decide) (Nat.le_of_ble_eq_true rfl) (Nat.le_of_ble_eq_true rfl) dX1_init_26 (fun q4 H hP hD hS => ?_)
  have hP : va_P G vwCl [(h0, .inr (1, [.null, .int 0, .int 0, .ref q1, .ref q3, .null, .null, .int 0, .int 0, .int 0])), (q1, .inr (4, [.ref (u2 0), .ref (u2 1), .ref (u2 2), .ref (u2 3), .int (0 : Int32), .int (0 : Int32), .int (0 : Int32)])), ((u2 0), .inl (ca 0, 16, .inl (fun _ => 0))), ((u2 1), .inl (ca 2, 16, .inr (.inl (fun _ => 0)))), ((u2 2), .inl (ca 2, 16, .inr (.inl (fun _ => 0)))), ((u2 3), .inl (ca 0, 16, .inl (fun _ => 0))), (q3, .inl (ca 0, 8, .inl (fun _ => 0))), (q4, .inl (ca 4, 8, .inr (.inr (.inr (.inr (fun _ => none))))))] H := hP
  have hD : va_D A [(h0, .inr (1, [.null, .int 0, .int 0, .ref q1, .ref q3, .null, .null, .int 0, .int 0, .int 0])), (q1, .inr (4, [.ref (u2 0), .ref (u2 1), .ref (u2 2), .ref (u2 3), .int (0 : Int32), .int (0 : Int32), .int (0 : Int32)])), ((u2 0), .inl (ca 0, 16, .inl (fun _ => 0))), ((u2 1), .inl (ca 2, 16, .inr (.inl (fun _ => 0)))), ((u2 2), .inl (ca 2, 16, .inr (.inl (fun _ => 0)))), ((u2 3), .inl (ca 0, 16, .inl (fun _ => 0))), (q3, .inl (ca 0, 8, .inl (fun _ => 0))), (q4, .inl (ca 4, 8, .inr (.inr (.inr (.inr (fun _ => none))))))] := hD
  refine W.widen (k := 7) (n := 87) (by omega) (by omega) ?_
  refine va_putF (D := G) (ci := 1) (v := .ref q4) (ty := (tyX1 5)) (C := RX1) (T := TX1) (N := 10) hx hb hts i_X1 tyX1 tyX1_ok nmX1 hown hK hP hD hS 0 rfl rfl 5 (by decide) (hts _ kf_X1_24) (fun _ h9 => h9) rfl hin rfl (by decide +kernel) rfl rfl (Nat.le_of_ble_eq_true rfl) dX1_init_29 (fun H locs hP hD hS => ?_)
  have hP : va_P G vwCl [(h0, .inr (1, [.null, .int 0, .int 0, .ref q1, .ref q3, .ref q4, .null, .int 0, .int 0, .int 0])), (q1, .inr (4, [.ref (u2 0), .ref (u2 1), .ref (u2 2), .ref (u2 3), .int (0 : Int32), .int (0 : Int32), .int (0 : Int32)])), ((u2 0), .inl (ca 0, 16, .inl (fun _ => 0))), ((u2 1), .inl (ca 2, 16, .inr (.inl (fun _ => 0)))), ((u2 2), .inl (ca 2, 16, .inr (.inl (fun _ => 0)))), ((u2 3), .inl (ca 0, 16, .inl (fun _ => 0))), (q3, .inl (ca 0, 8, .inl (fun _ => 0))), (q4, .inl (ca 4, 8, .inr (.inr (.inr (.inr (fun _ => none))))))] H := hP
  have hD : va_D A [(h0, .inr (1, [.null, .int 0, .int 0, .ref q1, .ref q3, .ref q4, .null, .int 0, .int 0, .int 0])), (q1, .inr (4, [.ref (u2 0), .ref (u2 1), .ref (u2 2), .ref (u2 3), .int (0 : Int32), .int (0 : Int32), .int (0 : Int32)])), ((u2 0), .inl (ca 0, 16, .inl (fun _ => 0))), ((u2 1), .inl (ca 2, 16, .inr (.inl (fun _ => 0)))), ((u2 2), .inl (ca 2, 16, .inr (.inl (fun _ => 0)))), ((u2 3), .inl (ca 0, 16, .inl (fun _ => 0))), (q3, .inl (ca 0, 8, .inl (fun _ => 0))), (q4, .inl (ca 4, 8, .inr (.inr (.inr (.inr (fun _ => none))))))] := hD
  refine lv_aload_n hx hb dX1_init_32 rfl (lv_at hl 0 rfl) ?_
  refine lv_bipush (v := (8 : Int32)) hx hb dX1_init_33 rfl ?_
  refine x_newaI hx hb (hts _ ka_int) hK hP hD hS hA (N' := 8) (by decide) rfl (by decide) (Nat.le_of_ble_eq_true rfl) (Nat.le_of_ble_eq_true rfl) dX1_init_35 (fun q5 H hP hD hS => ?_)
  have hP : va_P G vwCl [(h0, .inr (1, [.null, .int 0, .int 0, .ref q1, .ref q3, .ref q4, .null, .int 0, .int 0, .int 0])), (q1, .inr (4, [.ref (u2 0), .ref (u2 1), .ref (u2 2), .ref (u2 3), .int (0 : Int32), .int (0 : Int32), .int (0 : Int32)])), ((u2 0), .inl (ca 0, 16, .inl (fun _ => 0))), ((u2 1), .inl (ca 2, 16, .inr (.inl (fun _ => 0)))), ((u2 2), .inl (ca 2, 16, .inr (.inl (fun _ => 0)))), ((u2 3), .inl (ca 0, 16, .inl (fun _ => 0))), (q3, .inl (ca 0, 8, .inl (fun _ => 0))), (q4, .inl (ca 4, 8, .inr (.inr (.inr (.inr (fun _ => none)))))), (q5, .inl (ca 0, 8, .inl (fun _ => 0)))] H := hP
  have hD : va_D A [(h0, .inr (1, [.null, .int 0, .int 0, .ref q1, .ref q3, .ref q4, .null, .int 0, .int 0, .int 0])), (q1, .inr (4, [.ref (u2 0), .ref (u2 1), .ref (u2 2), .ref (u2 3), .int (0 : Int32), .int (0 : Int32), .int (0 : Int32)])), ((u2 0), .inl (ca 0, 16, .inl (fun _ => 0))), ((u2 1), .inl (ca 2, 16, .inr (.inl (fun _ => 0)))), ((u2 2), .inl (ca 2, 16, .inr (.inl (fun _ => 0)))), ((u2 3), .inl (ca 0, 16, .inl (fun _ => 0))), (q3, .inl (ca 0, 8, .inl (fun _ => 0))), (q4, .inl (ca 4, 8, .inr (.inr (.inr (.inr (fun _ => none)))))), (q5, .inl (ca 0, 8, .inl (fun _ => 0)))] := hD
  refine W.widen (k := 8) (n := 95) (by omega) (by omega) ?_
  refine va_putF (D := G) (ci := 1) (v := .ref q5) (ty := (tyX1 6)) (C := RX1) (T := TX1) (N := 10) hx hb hts i_X1 tyX1 tyX1_ok nmX1 hown hK hP hD hS 0 rfl rfl 6 (by decide) (hts _ kf_X1_28) (fun _ h9 => h9) rfl hin rfl (by decide +kernel) rfl rfl (Nat.le_of_ble_eq_true rfl) dX1_init_37 (fun H locs hP hD hS => ?_)
  have hP : va_P G vwCl [(h0, .inr (1, [.null, .int 0, .int 0, .ref q1, .ref q3, .ref q4, .ref q5, .int 0, .int 0, .int 0])), (q1, .inr (4, [.ref (u2 0), .ref (u2 1), .ref (u2 2), .ref (u2 3), .int (0 : Int32), .int (0 : Int32), .int (0 : Int32)])), ((u2 0), .inl (ca 0, 16, .inl (fun _ => 0))), ((u2 1), .inl (ca 2, 16, .inr (.inl (fun _ => 0)))), ((u2 2), .inl (ca 2, 16, .inr (.inl (fun _ => 0)))), ((u2 3), .inl (ca 0, 16, .inl (fun _ => 0))), (q3, .inl (ca 0, 8, .inl (fun _ => 0))), (q4, .inl (ca 4, 8, .inr (.inr (.inr (.inr (fun _ => none)))))), (q5, .inl (ca 0, 8, .inl (fun _ => 0)))] H := hP
  have hD : va_D A [(h0, .inr (1, [.null, .int 0, .int 0, .ref q1, .ref q3, .ref q4, .ref q5, .int 0, .int 0, .int 0])), (q1, .inr (4, [.ref (u2 0), .ref (u2 1), .ref (u2 2), .ref (u2 3), .int (0 : Int32), .int (0 : Int32), .int (0 : Int32)])), ((u2 0), .inl (ca 0, 16, .inl (fun _ => 0))), ((u2 1), .inl (ca 2, 16, .inr (.inl (fun _ => 0)))), ((u2 2), .inl (ca 2, 16, .inr (.inl (fun _ => 0)))), ((u2 3), .inl (ca 0, 16, .inl (fun _ => 0))), (q3, .inl (ca 0, 8, .inl (fun _ => 0))), (q4, .inl (ca 4, 8, .inr (.inr (.inr (.inr (fun _ => none)))))), (q5, .inl (ca 0, 8, .inl (fun _ => 0)))] := hD
  refine lv_aload_n hx hb dX1_init_40 rfl (lv_at hl 0 rfl) ?_
  refine lv_iconst (v := (0 : Int32)) hx hb dX1_init_41 rfl ?_
  refine va_put (D := G) (ci := 1) (v := .int (0 : Int32)) (ty := .int) (C := RX1) (T := TX1) (N := 10) hx hb hts i_X1 tyX1 tyX1_ok nmX1 hown hK hP hD hS 0 rfl rfl 7 (by decide) (hts _ kf_X1_31) (fun _ h9 => h9) rfl (by decide +kernel) rfl rfl (Nat.le_of_ble_eq_true rfl) dX1_init_42 (fun H locs hP hD hS => ?_)
  have hP : va_P G vwCl [(h0, .inr (1, [.null, .int 0, .int 0, .ref q1, .ref q3, .ref q4, .ref q5, .int (0 : Int32), .int 0, .int 0])), (q1, .inr (4, [.ref (u2 0), .ref (u2 1), .ref (u2 2), .ref (u2 3), .int (0 : Int32), .int (0 : Int32), .int (0 : Int32)])), ((u2 0), .inl (ca 0, 16, .inl (fun _ => 0))), ((u2 1), .inl (ca 2, 16, .inr (.inl (fun _ => 0)))), ((u2 2), .inl (ca 2, 16, .inr (.inl (fun _ => 0)))), ((u2 3), .inl (ca 0, 16, .inl (fun _ => 0))), (q3, .inl (ca 0, 8, .inl (fun _ => 0))), (q4, .inl (ca 4, 8, .inr (.inr (.inr (.inr (fun _ => none)))))), (q5, .inl (ca 0, 8, .inl (fun _ => 0)))] H := hP
  have hD : va_D A [(h0, .inr (1, [.null, .int 0, .int 0, .ref q1, .ref q3, .ref q4, .ref q5, .int (0 : Int32), .int 0, .int 0])), (q1, .inr (4, [.ref (u2 0), .ref (u2 1), .ref (u2 2), .ref (u2 3), .int (0 : Int32), .int (0 : Int32), .int (0 : Int32)])), ((u2 0), .inl (ca 0, 16, .inl (fun _ => 0))), ((u2 1), .inl (ca 2, 16, .inr (.inl (fun _ => 0)))), ((u2 2), .inl (ca 2, 16, .inr (.inl (fun _ => 0)))), ((u2 3), .inl (ca 0, 16, .inl (fun _ => 0))), (q3, .inl (ca 0, 8, .inl (fun _ => 0))), (q4, .inl (ca 4, 8, .inr (.inr (.inr (.inr (fun _ => none)))))), (q5, .inl (ca 0, 8, .inl (fun _ => 0)))] := hD
  refine lv_aload_n hx hb dX1_init_45 rfl (lv_at hl 0 rfl) ?_
  refine lv_iconst (v := (0 : Int32)) hx hb dX1_init_46 rfl ?_
  refine va_put (D := G) (ci := 1) (v := .int (0 : Int32)) (ty := .int) (C := RX1) (T := TX1) (N := 10) hx hb hts i_X1 tyX1 tyX1_ok nmX1 hown hK hP hD hS 0 rfl rfl 8 (by decide) (hts _ kf_X1_35) (fun _ h9 => h9) rfl (by decide +kernel) rfl rfl (Nat.le_of_ble_eq_true rfl) dX1_init_47 (fun H locs hP hD hS => ?_)
  have hP : va_P G vwCl [(h0, .inr (1, [.null, .int 0, .int 0, .ref q1, .ref q3, .ref q4, .ref q5, .int (0 : Int32), .int (0 : Int32), .int 0])), (q1, .inr (4, [.ref (u2 0), .ref (u2 1), .ref (u2 2), .ref (u2 3), .int (0 : Int32), .int (0 : Int32), .int (0 : Int32)])), ((u2 0), .inl (ca 0, 16, .inl (fun _ => 0))), ((u2 1), .inl (ca 2, 16, .inr (.inl (fun _ => 0)))), ((u2 2), .inl (ca 2, 16, .inr (.inl (fun _ => 0)))), ((u2 3), .inl (ca 0, 16, .inl (fun _ => 0))), (q3, .inl (ca 0, 8, .inl (fun _ => 0))), (q4, .inl (ca 4, 8, .inr (.inr (.inr (.inr (fun _ => none)))))), (q5, .inl (ca 0, 8, .inl (fun _ => 0)))] H := hP
  have hD : va_D A [(h0, .inr (1, [.null, .int 0, .int 0, .ref q1, .ref q3, .ref q4, .ref q5, .int (0 : Int32), .int (0 : Int32), .int 0])), (q1, .inr (4, [.ref (u2 0), .ref (u2 1), .ref (u2 2), .ref (u2 3), .int (0 : Int32), .int (0 : Int32), .int (0 : Int32)])), ((u2 0), .inl (ca 0, 16, .inl (fun _ => 0))), ((u2 1), .inl (ca 2, 16, .inr (.inl (fun _ => 0)))), ((u2 2), .inl (ca 2, 16, .inr (.inl (fun _ => 0)))), ((u2 3), .inl (ca 0, 16, .inl (fun _ => 0))), (q3, .inl (ca 0, 8, .inl (fun _ => 0))), (q4, .inl (ca 4, 8, .inr (.inr (.inr (.inr (fun _ => none)))))), (q5, .inl (ca 0, 8, .inl (fun _ => 0)))] := hD
  refine lv_aload_n hx hb dX1_init_50 rfl (lv_at hl 0 rfl) ?_
  refine lv_iconst (v := (0 : Int32)) hx hb dX1_init_51 rfl ?_
  refine va_put (D := G) (ci := 1) (v := .int (0 : Int32)) (ty := .boolean) (C := RX1) (T := TX1) (N := 10) hx hb hts i_X1 tyX1 tyX1_ok nmX1 hown hK hP hD hS 0 rfl rfl 9 (by decide) (hts _ kf_X1_38) (fun _ h9 => h9) rfl (by decide +kernel) rfl rfl (Nat.le_of_ble_eq_true rfl) dX1_init_52 (fun H locs hP hD hS => ?_)
  have hP : va_P G vwCl [(h0, .inr (1, [.null, .int 0, .int 0, .ref q1, .ref q3, .ref q4, .ref q5, .int (0 : Int32), .int (0 : Int32), .int (0 : Int32)])), (q1, .inr (4, [.ref (u2 0), .ref (u2 1), .ref (u2 2), .ref (u2 3), .int (0 : Int32), .int (0 : Int32), .int (0 : Int32)])), ((u2 0), .inl (ca 0, 16, .inl (fun _ => 0))), ((u2 1), .inl (ca 2, 16, .inr (.inl (fun _ => 0)))), ((u2 2), .inl (ca 2, 16, .inr (.inl (fun _ => 0)))), ((u2 3), .inl (ca 0, 16, .inl (fun _ => 0))), (q3, .inl (ca 0, 8, .inl (fun _ => 0))), (q4, .inl (ca 4, 8, .inr (.inr (.inr (.inr (fun _ => none)))))), (q5, .inl (ca 0, 8, .inl (fun _ => 0)))] H := hP
  have hD : va_D A [(h0, .inr (1, [.null, .int 0, .int 0, .ref q1, .ref q3, .ref q4, .ref q5, .int (0 : Int32), .int (0 : Int32), .int (0 : Int32)])), (q1, .inr (4, [.ref (u2 0), .ref (u2 1), .ref (u2 2), .ref (u2 3), .int (0 : Int32), .int (0 : Int32), .int (0 : Int32)])), ((u2 0), .inl (ca 0, 16, .inl (fun _ => 0))), ((u2 1), .inl (ca 2, 16, .inr (.inl (fun _ => 0)))), ((u2 2), .inl (ca 2, 16, .inr (.inl (fun _ => 0)))), ((u2 3), .inl (ca 0, 16, .inl (fun _ => 0))), (q3, .inl (ca 0, 8, .inl (fun _ => 0))), (q4, .inl (ca 4, 8, .inr (.inr (.inr (.inr (fun _ => none)))))), (q5, .inl (ca 0, 8, .inl (fun _ => 0)))] := hD
  refine lv_aload_n hx hb dX1_init_55 rfl (lv_at hl 0 rfl) ?_
  refine lv_aload_n hx hb dX1_init_56 rfl (lv_at hl 1 rfl) ?_
  refine va_putF (D := G) (ci := 1) (v := .ref x1) (ty := (tyX1 0)) (C := RX1) (T := TX1) (N := 10) hx hb hts i_X1 tyX1 tyX1_ok nmX1 hown hK hP hD hS 0 rfl rfl 0 (by decide) (hts _ kf_X1_42) (fun _ h9 => h9) rfl hin rfl (by decide +kernel) rfl rfl (Nat.le_of_ble_eq_true rfl) dX1_init_57 (fun H locs hP hD hS => ?_)
  have hP : va_P G vwCl [(h0, .inr (1, [.ref x1, .int 0, .int 0, .ref q1, .ref q3, .ref q4, .ref q5, .int (0 : Int32), .int (0 : Int32), .int (0 : Int32)])), (q1, .inr (4, [.ref (u2 0), .ref (u2 1), .ref (u2 2), .ref (u2 3), .int (0 : Int32), .int (0 : Int32), .int (0 : Int32)])), ((u2 0), .inl (ca 0, 16, .inl (fun _ => 0))), ((u2 1), .inl (ca 2, 16, .inr (.inl (fun _ => 0)))), ((u2 2), .inl (ca 2, 16, .inr (.inl (fun _ => 0)))), ((u2 3), .inl (ca 0, 16, .inl (fun _ => 0))), (q3, .inl (ca 0, 8, .inl (fun _ => 0))), (q4, .inl (ca 4, 8, .inr (.inr (.inr (.inr (fun _ => none)))))), (q5, .inl (ca 0, 8, .inl (fun _ => 0)))] H := hP
  have hD : va_D A [(h0, .inr (1, [.ref x1, .int 0, .int 0, .ref q1, .ref q3, .ref q4, .ref q5, .int (0 : Int32), .int (0 : Int32), .int (0 : Int32)])), (q1, .inr (4, [.ref (u2 0), .ref (u2 1), .ref (u2 2), .ref (u2 3), .int (0 : Int32), .int (0 : Int32), .int (0 : Int32)])), ((u2 0), .inl (ca 0, 16, .inl (fun _ => 0))), ((u2 1), .inl (ca 2, 16, .inr (.inl (fun _ => 0)))), ((u2 2), .inl (ca 2, 16, .inr (.inl (fun _ => 0)))), ((u2 3), .inl (ca 0, 16, .inl (fun _ => 0))), (q3, .inl (ca 0, 8, .inl (fun _ => 0))), (q4, .inl (ca 4, 8, .inr (.inr (.inr (.inr (fun _ => none)))))), (q5, .inl (ca 0, 8, .inl (fun _ => 0)))] := hD
  refine lv_aload_n hx hb dX1_init_60 rfl (lv_at hl 0 rfl) ?_
  refine lv_iload_n hx hb dX1_init_61 rfl (lv_at hl 2 rfl) ?_
  refine va_putF (D := G) (ci := 1) (v := .int x2) (ty := .int) (C := RX1) (T := TX1) (N := 10) hx hb hts i_X1 tyX1 tyX1_ok nmX1 hown hK hP hD hS 0 rfl rfl 1 (by decide) (hts _ kf_X1_46) (fun _ h9 => h9) rfl hin rfl (by decide +kernel) rfl rfl (Nat.le_of_ble_eq_true rfl) dX1_init_62 (fun H locs hP hD hS => ?_)
  have hP : va_P G vwCl [(h0, .inr (1, [.ref x1, .int x2, .int 0, .ref q1, .ref q3, .ref q4, .ref q5, .int (0 : Int32), .int (0 : Int32), .int (0 : Int32)])), (q1, .inr (4, [.ref (u2 0), .ref (u2 1), .ref (u2 2), .ref (u2 3), .int (0 : Int32), .int (0 : Int32), .int (0 : Int32)])), ((u2 0), .inl (ca 0, 16, .inl (fun _ => 0))), ((u2 1), .inl (ca 2, 16, .inr (.inl (fun _ => 0)))), ((u2 2), .inl (ca 2, 16, .inr (.inl (fun _ => 0)))), ((u2 3), .inl (ca 0, 16, .inl (fun _ => 0))), (q3, .inl (ca 0, 8, .inl (fun _ => 0))), (q4, .inl (ca 4, 8, .inr (.inr (.inr (.inr (fun _ => none)))))), (q5, .inl (ca 0, 8, .inl (fun _ => 0)))] H := hP
  have hD : va_D A [(h0, .inr (1, [.ref x1, .int x2, .int 0, .ref q1, .ref q3, .ref q4, .ref q5, .int (0 : Int32), .int (0 : Int32), .int (0 : Int32)])), (q1, .inr (4, [.ref (u2 0), .ref (u2 1), .ref (u2 2), .ref (u2 3), .int (0 : Int32), .int (0 : Int32), .int (0 : Int32)])), ((u2 0), .inl (ca 0, 16, .inl (fun _ => 0))), ((u2 1), .inl (ca 2, 16, .inr (.inl (fun _ => 0)))), ((u2 2), .inl (ca 2, 16, .inr (.inl (fun _ => 0)))), ((u2 3), .inl (ca 0, 16, .inl (fun _ => 0))), (q3, .inl (ca 0, 8, .inl (fun _ => 0))), (q4, .inl (ca 4, 8, .inr (.inr (.inr (.inr (fun _ => none)))))), (q5, .inl (ca 0, 8, .inl (fun _ => 0)))] := hD
  refine lv_aload_n hx hb dX1_init_65 rfl (lv_at hl 0 rfl) ?_
  refine lv_iload_n hx hb dX1_init_66 rfl (lv_at hl 3 rfl) ?_
  refine va_putF (D := G) (ci := 1) (v := .int x3) (ty := .int) (C := RX1) (T := TX1) (N := 10) hx hb hts i_X1 tyX1 tyX1_ok nmX1 hown hK hP hD hS 0 rfl rfl 2 (by decide) (hts _ kf_X1_49) (fun _ h9 => h9) rfl hin rfl (by decide +kernel) rfl rfl (Nat.le_of_ble_eq_true rfl) dX1_init_67 (fun H locs hP hD hS => ?_)
  have hP : va_P G vwCl [(h0, .inr (1, [.ref x1, .int x2, .int x3, .ref q1, .ref q3, .ref q4, .ref q5, .int (0 : Int32), .int (0 : Int32), .int (0 : Int32)])), (q1, .inr (4, [.ref (u2 0), .ref (u2 1), .ref (u2 2), .ref (u2 3), .int (0 : Int32), .int (0 : Int32), .int (0 : Int32)])), ((u2 0), .inl (ca 0, 16, .inl (fun _ => 0))), ((u2 1), .inl (ca 2, 16, .inr (.inl (fun _ => 0)))), ((u2 2), .inl (ca 2, 16, .inr (.inl (fun _ => 0)))), ((u2 3), .inl (ca 0, 16, .inl (fun _ => 0))), (q3, .inl (ca 0, 8, .inl (fun _ => 0))), (q4, .inl (ca 4, 8, .inr (.inr (.inr (.inr (fun _ => none)))))), (q5, .inl (ca 0, 8, .inl (fun _ => 0)))] H := hP
  have hD : va_D A [(h0, .inr (1, [.ref x1, .int x2, .int x3, .ref q1, .ref q3, .ref q4, .ref q5, .int (0 : Int32), .int (0 : Int32), .int (0 : Int32)])), (q1, .inr (4, [.ref (u2 0), .ref (u2 1), .ref (u2 2), .ref (u2 3), .int (0 : Int32), .int (0 : Int32), .int (0 : Int32)])), ((u2 0), .inl (ca 0, 16, .inl (fun _ => 0))), ((u2 1), .inl (ca 2, 16, .inr (.inl (fun _ => 0)))), ((u2 2), .inl (ca 2, 16, .inr (.inl (fun _ => 0)))), ((u2 3), .inl (ca 0, 16, .inl (fun _ => 0))), (q3, .inl (ca 0, 8, .inl (fun _ => 0))), (q4, .inl (ca 4, 8, .inr (.inr (.inr (.inr (fun _ => none)))))), (q5, .inl (ca 0, 8, .inl (fun _ => 0)))] := hD
  exact W.vret hx hb hr (fun t ht hW => ⟨⟨(fun i => match i with | 0 => q1 | 1 => (u2 0) | 2 => (u2 1) | 3 => (u2 2) | 4 => (u2 3) | 5 => q3 | 6 => q4 | _ => q5), rfl, trivial, by rw [ht]; exact hP, va_K.moved hW.alike hK, by rw [hAe]; exact hD⟩, hS.F ht⟩) hS.2.2 dX1_init_70
theorem h9_X2_init : yX2_init.cls ≠ "java/lang/invoke/MethodHandle" ∧ yX2_init.cls ≠ "java/lang/invoke/VarHandle" ∧ (parseMethodDescriptor yX2_init.desc).map (fun d => d.parameters.length) = some 5 := by decide +kernel
abbrev w1_X2_init (ca : Nat → ClassId) (h0 : Nat) (x1 : Nat) (fo : List Value) (pv : Int32) (pn : Nat) (x2 : Int32) (x3 : Int32) (x4 : Int32) (x5 : Int32) (u : Nat → Nat) : va_W := [(h0, .inr (2, [.ref x1, .int x2, .int x3, .int x4, .int x5, .ref (u 0), .ref (u 1), .ref (u 2), .int (0 : Int32)])), (x1, .inr (1, fo)), ((u 0), .inl (ca 0, pn, .inl (fun _ => (-1 : Int32)))), ((u 1), .inl (ca 0, pn, .inl (fun _ => (-2147483648 : Int32)))), ((u 2), .inl (ca 0, pn, .inl (fun _ => (2147483647 : Int32))))]
set_option maxRecDepth 100000 in
set_option maxHeartbeats 4000000 in
theorem t_X2_init (l : Launch) (G : va_G) (ca : Nat → ClassId) (h0 sz : Nat) (x1 : Nat) (fo : List Value) (pv : Int32) (pn : Nat) (x2 : Int32) (x3 : Int32) (x4 : Int32) (x5 : Int32) (hfo : fo[2]? = some (.int pv)) (hpn : ¬ pv < 0) (hpN : pv.toNatClampNeg = pn) (hp2 : pn ≤ 2) (hB5 : isB x5 = true) : Met l yX2_init wsX2_init ({ frames := 1, cells := 3, slots := 6, locals := 28 }) (inP G ca sz [(h0, .inr (2, [.null, .int 0, .int 0, .int 0, .int 0, .null, .null, .null, .int 0])), (x1, .inr (1, fo))] [.ref h0, .ref x1, .int x2, .int x3, .int x4, .int x5]) (va_Qv (fun _ : Nat → Nat => True) (inB G ca sz [(h0, .inr (2, [.null, .int 0, .int 0, .int 0, .int 0, .null, .null, .null, .int 0])), (x1, .inr (1, fo))] (w1_X2_init ca h0 x1 fo pv pn x2 x3 x4 x5)) (va_A [(h0, .inr (2, [.null, .int 0, .int 0, .int 0, .int 0, .null, .null, .null, .int 0])), (x1, .inr (1, fo))] sz)) 3 6 (va_A [(h0, .inr (2, [.null, .int 0, .int 0, .int 0, .int 0, .null, .null, .null, .int 0])), (x1, .inr (1, fo))] sz) := by
  refine Met.ofW (cc := cX2_init) (maxL := 6) (ret := none) (by decide) rfl ?_
  intro p e s m args below meth c s₁ B hml hv
  obtain ⟨rfl, hsz, hP, hK, hD0, hz⟩ := hv
  have hx := B.exec
  have hb := B.bytes
  have hr := B.returns
  have hts : ∀ w ∈ WW, w.before _ s = true := fun w h => atoms_spec (ws := wsX2_init) B.pre w (List.mem_cons_of_mem _ h)
  have hown : s.vm.findClass RX2 = some m.cls := findClass_of_methodNamed B.named
  have hlocks := B.notSynchronized
  have hin : meth.name = "<init>" := (name_of_methodNamed B.named B.method).1
  subst hsz
  have hD := hD0.self (sz := s.heap.size)
  generalize hAe : va_A [(h0, .inr (2, [.null, .int 0, .int 0, .int 0, .int 0, .null, .null, .null, .int 0])), (x1, .inr (1, fo))] s.heap.size = A at hD ⊢
  have hA : ∀ q : Nat, s.heap.size ≤ q → A q := fun q h => by rw [← hAe]; exact Or.inr h
  have hS : va_S A s.heap s.heap [] := va_S.rf
  have hl := lv_entry ([.ref h0, .ref x1, .int x2, .int x3, .int x4, .int x5]) (n := 6) (Nat.le_of_ble_eq_true rfl)
  rw [lg_entry_eq]
  generalize (lg_sl ([.ref h0, .ref x1, .int x2, .int x3, .int x4, .int x5]) ++ List.replicate (6 - (lg_sl ([.ref h0, .ref x1, .int x2, .int x3, .int x4, .int x5])).length) Slot.unset).toArray = ls at hl ⊢
  have hl : lv_has ls 6 [(0, .ref h0), (1, .ref x1), (2, .int x2), (3, .int x3), (4, .int x4), (5, .int x5)] := hl
  refine lv_aload_n hx hb dX2_init_0 rfl (lv_at hl 0 rfl) ?_
  refine W.objInit hx hb hown (hts _ km_X2_3) (hts _ ki_OBJ) (hts _ kc_OBJ) rfl (by rw [hml]; exact hl.1) rfl dX2_init_1 (Nat.le_of_ble_eq_true rfl) (Nat.le_of_ble_eq_true rfl) ?_
  refine W.eq (g2 := F0 m 4 ls []) rfl ?_
  refine lv_aload_n hx hb dX2_init_4 rfl (lv_at hl 0 rfl) ?_
  refine lv_iconst (v := (0 : Int32)) hx hb dX2_init_5 rfl ?_
  refine va_put (D := G) (ci := 2) (v := .int (0 : Int32)) (ty := .int) (C := RX2) (T := TX2) (N := 9) hx hb hts i_X2 tyX2 tyX2_ok nmX2 hown hK hP hD hS 0 rfl rfl 8 (by decide) (hts _ kf_X2_9) (fun _ h9 => h9) rfl (by decide +kernel) rfl rfl (Nat.le_of_ble_eq_true rfl) dX2_init_6 (fun H locs hP hD hS => ?_)
  have hP : va_P G vwCl [(h0, .inr (2, [.null, .int 0, .int 0, .int 0, .int 0, .null, .null, .null, .int (0 : Int32)])), (x1, .inr (1, fo))] H := hP
  have hD : va_D A [(h0, .inr (2, [.null, .int 0, .int 0, .int 0, .int 0, .null, .null, .null, .int (0 : Int32)])), (x1, .inr (1, fo))] := hD
  refine lv_aload_n hx hb dX2_init_9 rfl (lv_at hl 0 rfl) ?_
  refine lv_aload_n hx hb dX2_init_10 rfl (lv_at hl 1 rfl) ?_
  refine va_putF (D := G) (ci := 2) (v := .ref x1) (ty := (tyX2 0)) (C := RX2) (T := TX2) (N := 9) hx hb hts i_X2 tyX2 tyX2_ok nmX2 hown hK hP hD hS 0 rfl rfl 0 (by decide) (hts _ kf_X2_15) (fun _ h9 => h9) rfl hin rfl (by decide +kernel) rfl rfl (Nat.le_of_ble_eq_true rfl) dX2_init_11 (fun H locs hP hD hS => ?_)
  have hP : va_P G vwCl [(h0, .inr (2, [.ref x1, .int 0, .int 0, .int 0, .int 0, .null, .null, .null, .int (0 : Int32)])), (x1, .inr (1, fo))] H := hP
  have hD : va_D A [(h0, .inr (2, [.ref x1, .int 0, .int 0, .int 0, .int 0, .null, .null, .null, .int (0 : Int32)])), (x1, .inr (1, fo))] := hD
  refine lv_aload_n hx hb dX2_init_14 rfl (lv_at hl 0 rfl) ?_
  refine lv_iload_n hx hb dX2_init_15 rfl (lv_at hl 2 rfl) ?_
  refine va_putF (D := G) (ci := 2) (v := .int x2) (ty := .int) (C := RX2) (T := TX2) (N := 9) hx hb hts i_X2 tyX2 tyX2_ok nmX2 hown hK hP hD hS 0 rfl rfl 1 (by decide) (hts _ kf_X2_19) (fun _ h9 => h9) rfl hin rfl (by decide +kernel) rfl rfl (Nat.le_of_ble_eq_true rfl) dX2_init_16 (fun H locs hP hD hS => ?_)
  have hP : va_P G vwCl [(h0, .inr (2, [.ref x1, .int x2, .int 0, .int 0, .int 0, .null, .null, .null, .int (0 : Int32)])), (x1, .inr (1, fo))] H := hP
  have hD : va_D A [(h0, .inr (2, [.ref x1, .int x2, .int 0, .int 0, .int 0, .null, .null, .null, .int (0 : Int32)])), (x1, .inr (1, fo))] := hD
  refine lv_aload_n hx hb dX2_init_19 rfl (lv_at hl 0 rfl) ?_
  refine lv_iload_n hx hb dX2_init_20 rfl (lv_at hl 3 rfl) ?_
  refine va_putF (D := G) (ci := 2) (v := .int x3) (ty := .int) (C := RX2) (T := TX2) (N := 9) hx hb hts i_X2 tyX2 tyX2_ok nmX2 hown hK hP hD hS 0 rfl rfl 2 (by decide) (hts _ kf_X2_22) (fun _ h9 => h9) rfl hin rfl (by decide +kernel) rfl rfl (Nat.le_of_ble_eq_true rfl) dX2_init_21 (fun H locs hP hD hS => ?_)
  have hP : va_P G vwCl [(h0, .inr (2, [.ref x1, .int x2, .int x3, .int 0, .int 0, .null, .null, .null, .int (0 : Int32)])), (x1, .inr (1, fo))] H := hP
  have hD : va_D A [(h0, .inr (2, [.ref x1, .int x2, .int x3, .int 0, .int 0, .null, .null, .null, .int (0 : Int32)])), (x1, .inr (1, fo))] := hD
  refine lv_aload_n hx hb dX2_init_24 rfl (lv_at hl 0 rfl) ?_
  refine lv_iload hx hb dX2_init_25 (lv_at hl 4 rfl) ?_
  refine va_putF (D := G) (ci := 2) (v := .int x4) (ty := .int) (C := RX2) (T := TX2) (N := 9) hx hb hts i_X2 tyX2 tyX2_ok nmX2 hown hK hP hD hS 0 rfl rfl 3 (by decide) (hts _ kf_X2_25) (fun _ h9 => h9) rfl hin rfl (by decide +kernel) rfl rfl (Nat.le_of_ble_eq_true rfl) dX2_init_27 (fun H locs hP hD hS => ?_)
  have hP : va_P G vwCl [(h0, .inr (2, [.ref x1, .int x2, .int x3, .int x4, .int 0, .null, .null, .null, .int (0 : Int32)])), (x1, .inr (1, fo))] H := hP
  have hD : va_D A [(h0, .inr (2, [.ref x1, .int x2, .int x3, .int x4, .int 0, .null, .null, .null, .int (0 : Int32)])), (x1, .inr (1, fo))] := hD
  refine lv_aload_n hx hb dX2_init_30 rfl (lv_at hl 0 rfl) ?_
  refine lv_iload hx hb dX2_init_31 (lv_at hl 5 rfl) ?_
  refine va_putF (D := G) (ci := 2) (v := .int x5) (ty := .boolean) (C := RX2) (T := TX2) (N := 9) hx hb hts i_X2 tyX2 tyX2_ok nmX2 hown hK hP hD hS 0 rfl rfl 4 (by decide) (hts _ kf_X2_28) (fun _ h9 => h9) rfl hin rfl (by decide +kernel) (isB_nar hB5) (isB_fit hB5) (Nat.le_of_ble_eq_true rfl) dX2_init_33 (fun H locs hP hD hS => ?_)
  have hP : va_P G vwCl [(h0, .inr (2, [.ref x1, .int x2, .int x3, .int x4, .int x5, .null, .null, .null, .int (0 : Int32)])), (x1, .inr (1, fo))] H := hP
  have hD : va_D A [(h0, .inr (2, [.ref x1, .int x2, .int x3, .int x4, .int x5, .null, .null, .null, .int (0 : Int32)])), (x1, .inr (1, fo))] := hD
  refine lv_aload_n hx hb dX2_init_36 rfl (lv_at hl 0 rfl) ?_
  refine lv_aload_n hx hb dX2_init_37 rfl (lv_at hl 1 rfl) ?_
  refine va_get (D := G) (ci := 1) (v := .int pv) (C := RX1) (T := TX1) (N := 10) hx hb hts i_X1 hown hK hP 1 rfl rfl 2 (by decide) (hts _ kf_X2_32) (fun _ h9 => h9) hfo dX2_init_38 ?_
  refine x_newaI hx hb (hts _ ka_int) hK hP hD hS hA (N' := pn) hpn hpN (by show pn * 4 ≤ 536870912; omega) (Nat.le_of_ble_eq_true rfl) (Nat.le_trans (Nat.add_le_add_left hp2 0) (Nat.le_of_ble_eq_true rfl)) dX2_init_41 (fun q1 H hP hD hS => ?_)
  have hP : va_P G vwCl [(h0, .inr (2, [.ref x1, .int x2, .int x3, .int x4, .int x5, .null, .null, .null, .int (0 : Int32)])), (x1, .inr (1, fo)), (q1, .inl (ca 0, pn, .inl (fun _ => 0)))] H := hP
  have hD : va_D A [(h0, .inr (2, [.ref x1, .int x2, .int x3, .int x4, .int x5, .null, .null, .null, .int (0 : Int32)])), (x1, .inr (1, fo)), (q1, .inl (ca 0, pn, .inl (fun _ => 0)))] := hD
  refine W.widen (k := 1) (n := 2) (by omega) (by omega) ?_
  refine va_putF (D := G) (ci := 2) (v := .ref q1) (ty := (tyX2 5)) (C := RX2) (T := TX2) (N := 9) hx hb hts i_X2 tyX2 tyX2_ok nmX2 hown hK hP hD hS 0 rfl rfl 5 (by decide) (hts _ kf_X2_37) (fun _ h9 => h9) rfl hin rfl (by decide +kernel) rfl rfl (Nat.le_of_ble_eq_true rfl) dX2_init_43 (fun H locs hP hD hS => ?_)
  have hP : va_P G vwCl [(h0, .inr (2, [.ref x1, .int x2, .int x3, .int x4, .int x5, .ref q1, .null, .null, .int (0 : Int32)])), (x1, .inr (1, fo)), (q1, .inl (ca 0, pn, .inl (fun _ => 0)))] H := hP
  have hD : va_D A [(h0, .inr (2, [.ref x1, .int x2, .int x3, .int x4, .int x5, .ref q1, .null, .null, .int (0 : Int32)])), (x1, .inr (1, fo)), (q1, .inl (ca 0, pn, .inl (fun _ => 0)))] := hD
  refine lv_aload_n hx hb dX2_init_46 rfl (lv_at hl 0 rfl) ?_
  refine lv_aload_n hx hb dX2_init_47 rfl (lv_at hl 1 rfl) ?_
  refine va_get (D := G) (ci := 1) (v := .int pv) (C := RX1) (T := TX1) (N := 10) hx hb hts i_X1 hown hK hP 1 rfl rfl 2 (by decide) (hts _ kf_X2_32) (fun _ h9 => h9) hfo dX2_init_48 ?_
  refine x_newaI hx hb (hts _ ka_int) hK hP hD hS hA (N' := pn) hpn hpN (by show pn * 4 ≤ 536870912; omega) (Nat.le_of_ble_eq_true rfl) (Nat.le_trans (Nat.add_le_add_left hp2 2) (Nat.le_of_ble_eq_true rfl)) dX2_init_51 (fun q2 H hP hD hS => ?_)
  have hP : va_P G vwCl [(h0, .inr (2, [.ref x1, .int x2, .int x3, .int x4, .int x5, .ref q1, .null, .null, .int (0 : Int32)])), (x1, .inr (1, fo)), (q1, .inl (ca 0, pn, .inl (fun _ => 0))), (q2, .inl (ca 0, pn, .inl (fun _ => 0)))] H := hP
  have hD : va_D A [(h0, .inr (2, [.ref x1, .int x2, .int x3, .int x4, .int x5, .ref q1, .null, .null, .int (0 : Int32)])), (x1, .inr (1, fo)), (q1, .inl (ca 0, pn, .inl (fun _ => 0))), (q2, .inl (ca 0, pn, .inl (fun _ => 0)))] := hD
  refine W.widen (k := 2) (n := 4) (by omega) (by omega) ?_
  refine va_putF (D := G) (ci := 2) (v := .ref q2) (ty := (tyX2 6)) (C := RX2) (T := TX2) (N := 9) hx hb hts i_X2 tyX2 tyX2_ok nmX2 hown hK hP hD hS 0 rfl rfl 6 (by decide) (hts _ kf_X2_41) (fun _ h9 => h9) rfl hin rfl (by decide +kernel) rfl rfl (Nat.le_of_ble_eq_true rfl) dX2_init_53 (fun H locs hP hD hS => ?_)
  have hP : va_P G vwCl [(h0, .inr (2, [.ref x1, .int x2, .int x3, .int x4, .int x5, .ref q1, .ref q2, .null, .int (0 : Int32)])), (x1, .inr (1, fo)), (q1, .inl (ca 0, pn, .inl (fun _ => 0))), (q2, .inl (ca 0, pn, .inl (fun _ => 0)))] H := hP
  have hD : va_D A [(h0, .inr (2, [.ref x1, .int x2, .int x3, .int x4, .int x5, .ref q1, .ref q2, .null, .int (0 : Int32)])), (x1, .inr (1, fo)), (q1, .inl (ca 0, pn, .inl (fun _ => 0))), (q2, .inl (ca 0, pn, .inl (fun _ => 0)))] := hD
  refine lv_aload_n hx hb dX2_init_56 rfl (lv_at hl 0 rfl) ?_
  refine lv_aload_n hx hb dX2_init_57 rfl (lv_at hl 1 rfl) ?_
  refine va_get (D := G) (ci := 1) (v := .int pv) (C := RX1) (T := TX1) (N := 10) hx hb hts i_X1 hown hK hP 1 rfl rfl 2 (by decide) (hts _ kf_X2_32) (fun _ h9 => h9) hfo dX2_init_58 ?_
  refine x_newaI hx hb (hts _ ka_int) hK hP hD hS hA (N' := pn) hpn hpN (by show pn * 4 ≤ 536870912; omega) (Nat.le_of_ble_eq_true rfl) (Nat.le_trans (Nat.add_le_add_left hp2 4) (Nat.le_of_ble_eq_true rfl)) dX2_init_61 (fun q3 H hP hD hS => ?_)
  have hP : va_P G vwCl [(h0, .inr (2, [.ref x1, .int x2, .int x3, .int x4, .int x5, .ref q1, .ref q2, .null, .int (0 : Int32)])), (x1, .inr (1, fo)), (q1, .inl (ca 0, pn, .inl (fun _ => 0))), (q2, .inl (ca 0, pn, .inl (fun _ => 0))), (q3, .inl (ca 0, pn, .inl (fun _ => 0)))] H := hP
  have hD : va_D A [(h0, .inr (2, [.ref x1, .int x2, .int x3, .int x4, .int x5, .ref q1, .ref q2, .null, .int (0 : Int32)])), (x1, .inr (1, fo)), (q1, .inl (ca 0, pn, .inl (fun _ => 0))), (q2, .inl (ca 0, pn, .inl (fun _ => 0))), (q3, .inl (ca 0, pn, .inl (fun _ => 0)))] := hD
  refine W.widen (k := 3) (n := 6) (by omega) (by omega) ?_
  refine va_putF (D := G) (ci := 2) (v := .ref q3) (ty := (tyX2 7)) (C := RX2) (T := TX2) (N := 9) hx hb hts i_X2 tyX2 tyX2_ok nmX2 hown hK hP hD hS 0 rfl rfl 7 (by decide) (hts _ kf_X2_44) (fun _ h9 => h9) rfl hin rfl (by decide +kernel) rfl rfl (Nat.le_of_ble_eq_true rfl) dX2_init_63 (fun H locs hP hD hS => ?_)
  have hP : va_P G vwCl [(h0, .inr (2, [.ref x1, .int x2, .int x3, .int x4, .int x5, .ref q1, .ref q2, .ref q3, .int (0 : Int32)])), (x1, .inr (1, fo)), (q1, .inl (ca 0, pn, .inl (fun _ => 0))), (q2, .inl (ca 0, pn, .inl (fun _ => 0))), (q3, .inl (ca 0, pn, .inl (fun _ => 0)))] H := hP
  have hD : va_D A [(h0, .inr (2, [.ref x1, .int x2, .int x3, .int x4, .int x5, .ref q1, .ref q2, .ref q3, .int (0 : Int32)])), (x1, .inr (1, fo)), (q1, .inl (ca 0, pn, .inl (fun _ => 0))), (q2, .inl (ca 0, pn, .inl (fun _ => 0))), (q3, .inl (ca 0, pn, .inl (fun _ => 0)))] := hD
  refine lv_aload_n hx hb dX2_init_66 rfl (lv_at hl 0 rfl) ?_
  refine va_get (D := G) (ci := 2) (v := .ref q1) (C := RX2) (T := TX2) (N := 9) hx hb hts i_X2 hown hK hP 0 rfl rfl 5 (by decide) (hts _ kf_X2_37) (fun _ h9 => h9) rfl dX2_init_67 ?_
  refine lv_iconst (v := (-1 : Int32)) hx hb dX2_init_70 rfl ?_
  have hPc := hP.sub (ws' := [(q1, .inl (ca 0, pn, .inl (fun _ => 0)))]) [2] rfl
  have hDc := hD.sub (ws' := [(q1, .inl (ca 0, pn, .inl (fun _ => 0)))]) [2] (by decide) rfl
  have hFc := va_free (wc := [(q1, .inl (ca 0, pn, .inl (fun _ => 0)))]) hD hS hA [2] rfl
  refine va_callv (va_runS (As := [.ref q1, .int (-1 : Int32)]) (rest := []) ⟨hx, hb, hml, hown, hts⟩ (t_J7_fill l G ca q1 H.size pn (fun _ => 0) (-1 : Int32) (by omega)) (va_cwS 2 hts gr_X2_47 rfl rfl rfl h9_J7_fill_53178 ⟨Nat.le_of_ble_eq_true rfl, Nat.le_of_ble_eq_true rfl⟩) (x_inPre hz hK hPc hDc) rfl rfl hl.1 rfl (lv_room (Nat.le_of_ble_eq_true rfl)) dX2_init_71 ⟨Nat.le_of_ble_eq_true rfl, Nat.le_of_ble_eq_true rfl⟩) hS (fun q _ h => hFc q h) hFc (fun _ t H1 locs ht hvm hw hB hz1 hk1 hS => ?_)
  obtain ⟨hP1, hK1, hD1⟩ := hB
  rw [ht] at hP1
  obtain ⟨hP, hD⟩ := va_join (wr := [(h0, .inr (2, [.ref x1, .int x2, .int x3, .int x4, .int x5, .ref q1, .ref q2, .ref q3, .int (0 : Int32)])), (x1, .inr (1, fo)), (q2, .inl (ca 0, pn, .inl (fun _ => 0))), (q3, .inl (ca 0, pn, .inl (fun _ => 0)))]) (w1 := [(q1, .inl (ca 0, pn, .inl (fun _ => (-1 : Int32))))]) hP hD [2] [0, 1, 3, 4] rfl rfl (by decide) (by decide) hk1 hFc hP1 hD1
  generalize H1 = H at hP hS ⊢
  have hP : va_P G vwCl [(h0, .inr (2, [.ref x1, .int x2, .int x3, .int x4, .int x5, .ref q1, .ref q2, .ref q3, .int (0 : Int32)])), (x1, .inr (1, fo)), (q2, .inl (ca 0, pn, .inl (fun _ => 0))), (q3, .inl (ca 0, pn, .inl (fun _ => 0))), (q1, .inl (ca 0, pn, .inl (fun _ => (-1 : Int32))))] H := hP
  have hD : va_D A [(h0, .inr (2, [.ref x1, .int x2, .int x3, .int x4, .int x5, .ref q1, .ref q2, .ref q3, .int (0 : Int32)])), (x1, .inr (1, fo)), (q2, .inl (ca 0, pn, .inl (fun _ => 0))), (q3, .inl (ca 0, pn, .inl (fun _ => 0))), (q1, .inl (ca 0, pn, .inl (fun _ => (-1 : Int32))))] := hD
  refine lv_aload_n hx hb dX2_init_74 rfl (lv_at hl 0 rfl) ?_
  refine va_get (D := G) (ci := 2) (v := .ref q2) (C := RX2) (T := TX2) (N := 9) hx hb hts i_X2 hown hK hP 0 rfl rfl 6 (by decide) (hts _ kf_X2_41) (fun _ h9 => h9) rfl dX2_init_75 ?_
  refine lv_ldc hx hb hown (hts _ kk_X2_55) dX2_init_78 ?_
  have hPc := hP.sub (ws' := [(q2, .inl (ca 0, pn, .inl (fun _ => 0)))]) [2] rfl
  have hDc := hD.sub (ws' := [(q2, .inl (ca 0, pn, .inl (fun _ => 0)))]) [2] (by decide) rfl
  have hFc := va_free (wc := [(q2, .inl (ca 0, pn, .inl (fun _ => 0)))]) hD hS hA [2] rfl
  refine va_callv (va_runS (As := [.ref q2, .int (-2147483648 : Int32)]) (rest := []) ⟨hx, hb, hml, hown, hts⟩ (t_J7_fill l G ca q2 H.size pn (fun _ => 0) (-2147483648 : Int32) (by omega)) (va_cwS 2 hts gr_X2_47 rfl rfl rfl h9_J7_fill_53178 ⟨Nat.le_of_ble_eq_true rfl, Nat.le_of_ble_eq_true rfl⟩) (x_inPre hz hK hPc hDc) rfl rfl hl.1 rfl (lv_room (Nat.le_of_ble_eq_true rfl)) dX2_init_80 ⟨Nat.le_of_ble_eq_true rfl, Nat.le_of_ble_eq_true rfl⟩) hS (fun q _ h => hFc q h) hFc (fun _ t H1 locs ht hvm hw hB hz1 hk1 hS => ?_)
  obtain ⟨hP1, hK1, hD1⟩ := hB
  rw [ht] at hP1
  obtain ⟨hP, hD⟩ := va_join (wr := [(h0, .inr (2, [.ref x1, .int x2, .int x3, .int x4, .int x5, .ref q1, .ref q2, .ref q3, .int (0 : Int32)])), (x1, .inr (1, fo)), (q3, .inl (ca 0, pn, .inl (fun _ => 0))), (q1, .inl (ca 0, pn, .inl (fun _ => (-1 : Int32))))]) (w1 := [(q2, .inl (ca 0, pn, .inl (fun _ => (-2147483648 : Int32))))]) hP hD [2] [0, 1, 3, 4] rfl rfl (by decide) (by decide) hk1 hFc hP1 hD1
  generalize H1 = H at hP hS ⊢
  have hP : va_P G vwCl [(h0, .inr (2, [.ref x1, .int x2, .int x3, .int x4, .int x5, .ref q1, .ref q2, .ref q3, .int (0 : Int32)])), (x1, .inr (1, fo)), (q3, .inl (ca 0, pn, .inl (fun _ => 0))), (q1, .inl (ca 0, pn, .inl (fun _ => (-1 : Int32)))), (q2, .inl (ca 0, pn, .inl (fun _ => (-2147483648 : Int32))))] H := hP
  have hD : va_D A [(h0, .inr (2, [.ref x1, .int x2, .int x3, .int x4, .int x5, .ref q1, .ref q2, .ref q3, .int (0 : Int32)])), (x1, .inr (1, fo)), (q3, .inl (ca 0, pn, .inl (fun _ => 0))), (q1, .inl (ca 0, pn, .inl (fun _ => (-1 : Int32)))), (q2, .inl (ca 0, pn, .inl (fun _ => (-2147483648 : Int32))))] := hD
  refine lv_aload_n hx hb dX2_init_83 rfl (lv_at hl 0 rfl) ?_
  refine va_get (D := G) (ci := 2) (v := .ref q3) (C := RX2) (T := TX2) (N := 9) hx hb hts i_X2 hown hK hP 0 rfl rfl 7 (by decide) (hts _ kf_X2_44) (fun _ h9 => h9) rfl dX2_init_84 ?_
  refine lv_ldc hx hb hown (hts _ kk_X2_56) dX2_init_87 ?_
  have hPc := hP.sub (ws' := [(q3, .inl (ca 0, pn, .inl (fun _ => 0)))]) [2] rfl
  have hDc := hD.sub (ws' := [(q3, .inl (ca 0, pn, .inl (fun _ => 0)))]) [2] (by decide) rfl
  have hFc := va_free (wc := [(q3, .inl (ca 0, pn, .inl (fun _ => 0)))]) hD hS hA [2] rfl
  refine va_callv (va_runS (As := [.ref q3, .int (2147483647 : Int32)]) (rest := []) ⟨hx, hb, hml, hown, hts⟩ (t_J7_fill l G ca q3 H.size pn (fun _ => 0) (2147483647 : Int32) (by omega)) (va_cwS 2 hts gr_X2_47 rfl rfl rfl h9_J7_fill_53178 ⟨Nat.le_of_ble_eq_true rfl, Nat.le_of_ble_eq_true rfl⟩) (x_inPre hz hK hPc hDc) rfl rfl hl.1 rfl (lv_room (Nat.le_of_ble_eq_true rfl)) dX2_init_89 ⟨Nat.le_of_ble_eq_true rfl, Nat.le_of_ble_eq_true rfl⟩) hS (fun q _ h => hFc q h) hFc (fun _ t H1 locs ht hvm hw hB hz1 hk1 hS => ?_)
  obtain ⟨hP1, hK1, hD1⟩ := hB
  rw [ht] at hP1
  obtain ⟨hP, hD⟩ := va_join (wr := [(h0, .inr (2, [.ref x1, .int x2, .int x3, .int x4, .int x5, .ref q1, .ref q2, .ref q3, .int (0 : Int32)])), (x1, .inr (1, fo)), (q1, .inl (ca 0, pn, .inl (fun _ => (-1 : Int32)))), (q2, .inl (ca 0, pn, .inl (fun _ => (-2147483648 : Int32))))]) (w1 := [(q3, .inl (ca 0, pn, .inl (fun _ => (2147483647 : Int32))))]) hP hD [2] [0, 1, 3, 4] rfl rfl (by decide) (by decide) hk1 hFc hP1 hD1
  generalize H1 = H at hP hS ⊢
  have hP : va_P G vwCl [(h0, .inr (2, [.ref x1, .int x2, .int x3, .int x4, .int x5, .ref q1, .ref q2, .ref q3, .int (0 : Int32)])), (x1, .inr (1, fo)), (q1, .inl (ca 0, pn, .inl (fun _ => (-1 : Int32)))), (q2, .inl (ca 0, pn, .inl (fun _ => (-2147483648 : Int32)))), (q3, .inl (ca 0, pn, .inl (fun _ => (2147483647 : Int32))))] H := hP
  have hD : va_D A [(h0, .inr (2, [.ref x1, .int x2, .int x3, .int x4, .int x5, .ref q1, .ref q2, .ref q3, .int (0 : Int32)])), (x1, .inr (1, fo)), (q1, .inl (ca 0, pn, .inl (fun _ => (-1 : Int32)))), (q2, .inl (ca 0, pn, .inl (fun _ => (-2147483648 : Int32)))), (q3, .inl (ca 0, pn, .inl (fun _ => (2147483647 : Int32))))] := hD
  exact W.vret hx hb hr (fun t ht hW => ⟨⟨(fun i => match i with | 0 => q1 | 1 => q2 | _ => q3), rfl, trivial, by rw [ht]; exact hP, va_K.moved hW.alike hK, by rw [hAe]; exact hD⟩, hS.F ht⟩) hS.2.2 dX2_init_92

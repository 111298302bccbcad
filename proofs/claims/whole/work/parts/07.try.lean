-- X10_isLaid
noncomputable def X10_isLaid (x1 : Int32) (x2 : Int32) (σ : PS) : Option (Int32) :=
  gd (ib x1 40) (if (gI σ 516 0 (ix x1)) = x2 then gd (ib x1 40) (if (gI σ 520 0 (ix x1)) = (1 : Int32) then some (1 : Int32) else some (0 : Int32)) else some (0 : Int32))
-- X10_laid
noncomputable def X10_laid_l4 (σ : PS) (kx4 : Int32 → Option (Int32)) : Nat → Int32 → Int32 → Int32 → Option (Int32)
  | 0, _, _, _ => none
  | n4 + 1, v1, v2, v3 =>
    if (gI σ 500 0 14) ≤ v3 then kx4 v2 else (X10_isLaid v3 v1 σ).bind (fun r1 => if r1 = 0 then nm (v2 + (0 : Int32)) (fun y2 => (X10_laid_l4 σ kx4 n4) v1 y2 (v3 + (1 : Int32))) else nm (v2 + (1 : Int32)) (fun y3 => (X10_laid_l4 σ kx4 n4) v1 y3 (v3 + (1 : Int32))))
noncomputable def X10_laid_c35 (σ : PS) (v2 : Int32) : Option (Int32) :=
  some v2
noncomputable def X10_laid (x1 : Int32) (σ : PS) : Option (Int32) :=
  X10_laid_l4 σ (fun v2 => X10_laid_c35 σ v2) fuel x1 (0 : Int32) (0 : Int32)
-- X10_isClass
noncomputable def X10_isClass (x0 : Int32) (σ : PS) : Option (Int32) :=
  if x0 < 0 then some (0 : Int32) else if (12 : Int32) ≤ x0 then some (0 : Int32) else some (1 : Int32)
-- X10_parent
noncomputable def X10_parent (x1 : Int32) (x2 : Int32) (σ : PS) : Option (Int32 × PS) :=
  (X10_isClass x1 σ).bind (fun r1 => if r1 = 0 then some ((-2 : Int32), σ) else if x2 = (-1 : Int32) then if (gI σ 500 0 4) = 0 then gd (ib x1 12) (nm (sI σ 501 0 (ix x1) x2) (fun σ3 => some ((1 : Int32), σ3))) else some ((-3 : Int32), σ) else (X10_isClass x2 σ).bind (fun r4 => if r4 = 0 then some ((-2 : Int32), σ) else if (gI σ 500 0 4) = 0 then gd (ib x1 12) (nm (sI σ 501 0 (ix x1) x2) (fun σ6 => some ((1 : Int32), σ6))) else some ((-3 : Int32), σ)))
-- X10_isHandler
noncomputable def X10_isHandler (x1 : Int32) (σ : PS) : Option (Int32) :=
  if x1 < 0 then some (0 : Int32) else if (gI σ 500 0 14) ≤ x1 then some (0 : Int32) else some (1 : Int32)
-- X10_about
noncomputable def X10_about_c52 (σ : PS) (v1 : Int32) (v2 : Int32) (v3 : Int32) (w0 : Int32) : Option (Int32) :=
  if v2 = (0 : Int32) then gd (ib v1 40) (some (gI σ 516 0 (ix v1))) else if v2 = (1 : Int32) then gd (ib v1 40) (some (gI σ 517 0 (ix v1))) else if v2 = (2 : Int32) then gd (ib v1 40) (some (gI σ 518 0 (ix v1))) else if v2 = (3 : Int32) then gd (ib v1 40) (if (gI σ 519 0 (ix v1)) = 0 then some (0 : Int32) else some (1 : Int32)) else if v2 = (4 : Int32) then gd (ib v1 40) (some (gI σ 520 0 (ix v1))) else if v2 = (5 : Int32) then if w0 = 0 then some (0 : Int32) else gd (ib (((2 : Int32) * v1) + v3) 80) (some (gI σ 521 0 (ix (((2 : Int32) * v1) + v3)))) else if v2 = (6 : Int32) then if w0 = 0 then some (0 : Int32) else gd (ib (((2 : Int32) * v1) + v3) 80) (some (gI σ 521 0 (ix (((2 : Int32) * v1) + v3)))) else if v2 = (7 : Int32) then if w0 = 0 then some (0 : Int32) else gd (ib (((2 : Int32) * v1) + v3) 80) (some (gI σ 522 0 (ix (((2 : Int32) * v1) + v3)))) else if v2 = (8 : Int32) then if w0 = 0 then some (0 : Int32) else gd (ib (((2 : Int32) * v1) + v3) 80) (some (gI σ 522 0 (ix (((2 : Int32) * v1) + v3)))) else if w0 = 0 then some (0 : Int32) else gd (ib (((2 : Int32) * v1) + v3) 80) (some (gI σ 523 0 (ix (((2 : Int32) * v1) + v3))))
noncomputable def X10_about_c47 (σ : PS) (v1 : Int32) (v2 : Int32) (v3 : Int32) : Option (Int32) :=
  X10_about_c52 σ  v1 v2 v3 (1 : Int32)
noncomputable def X10_about (x1 : Int32) (x2 : Int32) (σ : PS) : Option (Int32) :=
  (X10_isHandler x1 σ).bind (fun r1 => if r1 = 0 then some (-2 : Int32) else if x2 < 0 then some (-2 : Int32) else if x2 ≤ (10 : Int32) then nm ((x2 - (5 : Int32)) - (x2 - (5 : Int32)) / (2 : Int32) * (2 : Int32)) (fun y2 => if x2 < (5 : Int32) then X10_about_c47 σ  x1 x2 y2 else gd (ib x1 40) (gd (ib (gI σ 516 0 (ix x1)) 4) (if (gI σ 510 0 (ix (gI σ 516 0 (ix x1)))) ≤ y2 then X10_about_c52 σ  x1 x2 y2 (0 : Int32) else X10_about_c47 σ  x1 x2 y2))) else some (-2 : Int32))
-- X10_close
noncomputable def X10_close_l12  (kx12 : PS → Option (Int32 × PS)) : Nat → Int32 → PS → Option (Int32 × PS)
  | 0, _, _ => none
  | n12 + 1, v1, σ =>
    if (256 : Int32) ≤ v1 then kx12 σ else gd (ib v1 256) (gd (isB (gI σ 502 0 (ix v1))) (gd (ib v1 256) (nm (sI σ 503 0 (ix v1) (gI σ 502 0 (ix v1))) (fun σ4 => (X10_close_l12  kx12 n12) (v1 + (1 : Int32)) σ4))))
noncomputable def X10_close_l39  (kx39 : PS → Option (Int32 × PS)) : Nat → Int32 → PS → Option (Int32 × PS)
  | 0, _, _ => none
  | n39 + 1, v1, σ =>
    if (12 : Int32) ≤ v1 then kx39 σ else gd (ib v1 12) (if (gI σ 501 0 (ix v1)) < 0 then (X10_close_l39  kx39 n39) (v1 + (1 : Int32)) σ else gd (ib v1 12) (gd (ib (((16 : Int32) * v1) + (gI σ 501 0 (ix v1))) 256) (nm (sI σ 503 0 (ix (((16 : Int32) * v1) + (gI σ 501 0 (ix v1)))) (1 : Int32)) (fun σ8 => (X10_close_l39  kx39 n39) (v1 + (1 : Int32)) σ8))))
noncomputable def X10_close_l95  (kx95 : Int32 → Int32 → PS → Option (Int32 × PS)) : Nat → Int32 → Int32 → Int32 → PS → Option (Int32 × PS)
  | 0, _, _, _, _ => none
  | n95 + 1, v1, v2, v3, σ =>
    if (16 : Int32) ≤ v3 then kx95 v1 v2 σ else gd (ib (((16 : Int32) * v2) + v3) 256) (if (gI σ 503 0 (ix (((16 : Int32) * v2) + v3))) = 0 then gd (ib (((16 : Int32) * v2) + v1) 256) (if (gI σ 503 0 (ix (((16 : Int32) * v2) + v1))) = 0 then gd (ib (((16 : Int32) * v2) + v3) 256) (nm (sI σ 503 0 (ix (((16 : Int32) * v2) + v3)) (0 : Int32)) (fun σ14 => (X10_close_l95  kx95 n95) v1 v2 (v3 + (1 : Int32)) σ14)) else gd (ib (((16 : Int32) * v1) + v3) 256) (if (gI σ 503 0 (ix (((16 : Int32) * v1) + v3))) = 0 then gd (ib (((16 : Int32) * v2) + v3) 256) (nm (sI σ 503 0 (ix (((16 : Int32) * v2) + v3)) (0 : Int32)) (fun σ17 => (X10_close_l95  kx95 n95) v1 v2 (v3 + (1 : Int32)) σ17)) else gd (ib (((16 : Int32) * v2) + v3) 256) (nm (sI σ 503 0 (ix (((16 : Int32) * v2) + v3)) (1 : Int32)) (fun σ19 => (X10_close_l95  kx95 n95) v1 v2 (v3 + (1 : Int32)) σ19)))) else gd (ib (((16 : Int32) * v2) + v3) 256) (nm (sI σ 503 0 (ix (((16 : Int32) * v2) + v3)) (1 : Int32)) (fun σ11 => (X10_close_l95  kx95 n95) v1 v2 (v3 + (1 : Int32)) σ11)))
noncomputable def X10_close_c165  (kr87 : Int32 → Int32 → PS → Option (Int32 × PS)) (kx87 : Int32 → PS → Option (Int32 × PS)) (v1 : Int32) (v2 : Int32) (σ : PS) : Option (Int32 × PS) :=
  kr87 v1 (v2 + (1 : Int32)) σ
noncomputable def X10_close_l87  (kx87 : Int32 → PS → Option (Int32 × PS)) : Nat → Int32 → Int32 → PS → Option (Int32 × PS)
  | 0, _, _, _ => none
  | n87 + 1, v1, v2, σ =>
    if (16 : Int32) ≤ v2 then kx87 v1 σ else X10_close_l95  (fun v1 v2 σ => X10_close_c165  (X10_close_l87  kx87 n87) kx87 v1 v2 σ) fuel v1 v2 (0 : Int32) σ
noncomputable def X10_close_c171  (kr79 : Int32 → PS → Option (Int32 × PS)) (kx79 : PS → Option (Int32 × PS)) (v1 : Int32) (σ : PS) : Option (Int32 × PS) :=
  kr79 (v1 + (1 : Int32)) σ
noncomputable def X10_close_l79  (kx79 : PS → Option (Int32 × PS)) : Nat → Int32 → PS → Option (Int32 × PS)
  | 0, _, _ => none
  | n79 + 1, v1, σ =>
    if (16 : Int32) ≤ v1 then kx79 σ else X10_close_l87  (fun v1 σ => X10_close_c171  (X10_close_l79  kx79 n79) kx79 v1 σ) fuel v1 (0 : Int32) σ
noncomputable def X10_close_l179  (kx179 : PS → Option (Int32 × PS)) : Nat → Int32 → PS → Option (Int32 × PS)
  | 0, _, _ => none
  | n179 + 1, v1, σ =>
    if (16 : Int32) ≤ v1 then kx179 σ else gd (ib ((17 : Int32) * v1) 256) (if (gI σ 503 0 (ix ((17 : Int32) * v1))) = 0 then (X10_close_l179  kx179 n179) (v1 + (1 : Int32)) σ else some ((-5 : Int32), σ))
noncomputable def X10_close_l208  (kx208 : PS → Option (Int32 × PS)) : Nat → Int32 → PS → Option (Int32 × PS)
  | 0, _, _ => none
  | n208 + 1, v1, σ =>
    if (16 : Int32) ≤ v1 then kx208 σ else gd (ib ((17 : Int32) * v1) 256) (nm (sI σ 503 0 (ix ((17 : Int32) * v1)) (1 : Int32)) (fun σ22 => (X10_close_l208  kx208 n208) (v1 + (1 : Int32)) σ22))
noncomputable def X10_close_c230  (σ : PS) : Option (Int32 × PS) :=
  nm (sI σ 500 0 4 (1 : Int32)) (fun σ23 => some ((1 : Int32), σ23))
noncomputable def X10_close_c206  (σ : PS) : Option (Int32 × PS) :=
  X10_close_l208  (fun σ => X10_close_c230  σ) fuel (0 : Int32) σ
noncomputable def X10_close_c177  (σ : PS) : Option (Int32 × PS) :=
  X10_close_l179  (fun σ => X10_close_c206  σ) fuel (0 : Int32) σ
noncomputable def X10_close_c77  (σ : PS) : Option (Int32 × PS) :=
  X10_close_l79  (fun σ => X10_close_c177  σ) fuel (0 : Int32) σ
noncomputable def X10_close_c37  (σ : PS) : Option (Int32 × PS) :=
  X10_close_l39  (fun σ => X10_close_c77  σ) fuel (0 : Int32) σ
noncomputable def X10_close (σ : PS) : Option (Int32 × PS) :=
  if (gI σ 500 0 4) = 0 then X10_close_l12  (fun σ => X10_close_c37  σ) fuel (0 : Int32) σ else some ((-3 : Int32), σ)
theorem h9_X10_isLaid : yX10_isLaid.cls = RX10 ∧ yX10_isLaid.cls ≠ "java/lang/invoke/MethodHandle" ∧ yX10_isLaid.cls ≠ "java/lang/invoke/VarHandle" ∧ (parseMethodDescriptor yX10_isLaid.desc).map (fun d => d.parameters.length) = some 2 := by decide +kernel
set_option maxRecDepth 100000 in
set_option maxHeartbeats 4000000 in
theorem t_X10_isLaid (l : Launch) (G : va_G) (ad : Nat → Nat → Nat) (ca : Nat → ClassId) (A : Nat → Prop)   (x1 : Int32) (x2 : Int32) (hD : DW ad LM A)  (σ : PS) (res : Int32) (hf : X10_isLaid  x1 x2 σ = some res) : Met l yX10_isLaid wsX10_isLaid ({ frames := 0, cells := 0, slots := 0, locals := 0 }) (ctP G ad ca LM σ ZM [.ref (ad 500 0), .int x1, .int x2]) (va_Qi (fun r' u => r' = res ∧ u = σ) (ctB G ad ca LM) A) 0 0 A := by
  refine Met.ofW (cc := cX10_isLaid) (maxL := 3) (ret := (some .boolean)) (by decide) rfl ?_
  intro p e s m args below meth c s₁ B hml hv
  obtain ⟨rfl, hP, hK, hz⟩ := hv
  have hx := B.exec
  have hb := B.bytes
  have hr := B.returns
  have hts : ∀ w ∈ WW, w.before _ s = true := fun w h => atoms_spec (ws := wsX10_isLaid) B.pre w (List.mem_cons_of_mem _ h)
  have hown : s.vm.findClass RX10 = some m.cls := findClass_of_methodNamed B.named
  have hlocks := B.notSynchronized
  have hS : va_S A s.heap s.heap [] := va_S.rf
  have k_45 := hts _ kf_X10_45
  have k_57 := hts _ kf_X10_57
  have hl := lv_entry ([.ref (ad 500 0), .int x1, .int x2]) (n := 3) (Nat.le_of_ble_eq_true rfl)
  rw [lg_entry_eq]
  generalize (lg_sl ([.ref (ad 500 0), .int x1, .int x2]) ++ List.replicate (3 - (lg_sl ([.ref (ad 500 0), .int x1, .int x2])).length) Slot.unset).toArray = ls at hl ⊢
  have hl : lv_has ls 3 [(0, .ref (ad 500 0)), (1, .int x1), (2, .int x2)] := hl
  unfold X10_isLaid at hf
  refine lv_aload_n hx hb dX10_isLaid_0 rfl (lv_at hl 0 rfl) ?_
  refine x_get (k := 500) (n := 0) hx hb hts i_X10 hown hK hP (mk_500 h01) rfl rfl 15 (by decide) rfl k_45 (v := .ref (ad 516 0)) rfl dX10_isLaid_1 ?_
  refine lv_iload_n hx hb dX10_isLaid_4 rfl (lv_at hl 1 rfl) ?_
  obtain ⟨g1, hf⟩ := gd_e hf
  refine x_iald (k := 516) (n := 0) hx hb hK hP (mk_516 h01) rfl g1 dX10_isLaid_5 ?_
  refine lv_iload_n hx hb dX10_isLaid_6 rfl (lv_at hl 2 rfl) ?_
  refine lv_icmp_ne (tgt := 24) hx hb dX10_isLaid_7 rfl (fun hc => ?_) (fun hc => ?_)
  · have hf := b_n hf hc
    refine lv_iconst (v := (0 : Int32)) hx hb dX10_isLaid_24 rfl ?_
    exact x_zret hx hb hr hlocks hK hP hS (by decide) (Option.some.inj hf) rfl dX10_isLaid_25
  · have hf := b_p hf hc
    refine lv_aload_n hx hb dX10_isLaid_10 rfl (lv_at hl 0 rfl) ?_
    refine x_get (k := 500) (n := 0) hx hb hts i_X10 hown hK hP (mk_500 h01) rfl rfl 19 (by decide) rfl k_57 (v := .ref (ad 520 0)) rfl dX10_isLaid_11 ?_
    refine lv_iload_n hx hb dX10_isLaid_14 rfl (lv_at hl 1 rfl) ?_
    obtain ⟨g2, hf⟩ := gd_e hf
    refine x_iald (k := 520) (n := 0) hx hb hK hP (mk_520 h01) rfl g2 dX10_isLaid_15 ?_
    refine lv_iconst (v := (1 : Int32)) hx hb dX10_isLaid_16 rfl ?_
    refine lv_icmp_ne (tgt := 24) hx hb dX10_isLaid_17 rfl (fun hc => ?_) (fun hc => ?_)
    · have hf := b_n hf hc
      refine lv_iconst (v := (0 : Int32)) hx hb dX10_isLaid_24 rfl ?_
      exact x_zret hx hb hr hlocks hK hP hS (by decide) (Option.some.inj hf) rfl dX10_isLaid_25
    · have hf := b_p hf hc
      refine lv_iconst (v := (1 : Int32)) hx hb dX10_isLaid_20 rfl ?_
      refine lv_goto (tgt := 25) hx hb dX10_isLaid_21 rfl ?_
      exact x_zret hx hb hr hlocks hK hP hS (by decide) (Option.some.inj hf) rfl dX10_isLaid_25
theorem h9_X10_laid : yX10_laid.cls = RX10 ∧ yX10_laid.cls ≠ "java/lang/invoke/MethodHandle" ∧ yX10_laid.cls ≠ "java/lang/invoke/VarHandle" ∧ (parseMethodDescriptor yX10_laid.desc).map (fun d => d.parameters.length) = some 1 := by decide +kernel
set_option maxRecDepth 100000 in
set_option maxHeartbeats 4000000 in
theorem t_X10_laid (l : Launch) (G : va_G) (ad : Nat → Nat → Nat) (ca : Nat → ClassId) (A : Nat → Prop)   (x1 : Int32) (hD : DW ad LM A)  (σ : PS) (res : Int32) (hf : X10_laid  x1 σ = some res) : Met l yX10_laid wsX10_laid ({ frames := 1, cells := 0, slots := 0, locals := 22 }) (ctP G ad ca LM σ ZM [.ref (ad 500 0), .int x1]) (va_Qi (fun r' u => r' = res ∧ u = σ) (ctB G ad ca LM) A) 0 0 A := by
  refine Met.ofW (cc := cX10_laid) (maxL := 4) (ret := (some .int)) (by decide) rfl ?_
  intro p e s m args below meth c s₁ B hml hv
  obtain ⟨rfl, hP, hK, hz⟩ := hv
  have hx := B.exec
  have hb := B.bytes
  have hr := B.returns
  have hts : ∀ w ∈ WW, w.before _ s = true := fun w h => atoms_spec (ws := wsX10_laid) B.pre w (List.mem_cons_of_mem _ h)
  have hown : s.vm.findClass RX10 = some m.cls := findClass_of_methodNamed B.named
  have hlocks := B.notSynchronized
  have hS : va_S A s.heap s.heap [] := va_S.rf
  have k_131 := hts _ kf_X10_131
  have hl := lv_entry ([.ref (ad 500 0), .int x1]) (n := 4) (Nat.le_of_ble_eq_true rfl)
  rw [lg_entry_eq]
  generalize (lg_sl ([.ref (ad 500 0), .int x1]) ++ List.replicate (4 - (lg_sl ([.ref (ad 500 0), .int x1])).length) Slot.unset).toArray = ls at hl ⊢
  have hl : lv_has ls 4 [(0, .ref (ad 500 0)), (1, .int x1)] := hl
  unfold X10_laid at hf
  have l4 : ∀ (kx4 : Int32 → Option (Int32)), (∀ (v2 : Int32) (H : Heap) (locs : List Loc) (ls : Array Slot), kx4 v2 = some res → lv_has ls 4 [(2, .int v2)] → va_P G vwCl (wld ad ca σ LM) H → va_S A s.heap H locs → W p l e (headSpec wsX10_laid ({ frames := 1, cells := 0, slots := 0, locals := 22 })).room s m (([.ref (ad 500 0), .int x1] : List Value).toArray) below meth c H locs 0 0 (MQ below (va_Qi (fun r' u => r' = res ∧ u = σ) (ctB G ad ca LM) A) (([.ref (ad 500 0), .int x1] : List Value).toArray) s 0 0 A) (F0 m 35 ls [])) → ∀ (n4 : Nat) (v1 : Int32) (v2 : Int32) (v3 : Int32) (H : Heap) (locs : List Loc) (ls : Array Slot), X10_laid_l4 σ kx4 n4 v1 v2 v3 = some res → lv_has ls 4 [(0, .ref (ad 500 0)), (1, .int v1), (2, .int v2), (3, .int v3)] → va_P G vwCl (wld ad ca σ LM) H → va_S A s.heap H locs → W p l e (headSpec wsX10_laid ({ frames := 1, cells := 0, slots := 0, locals := 22 })).room s m (([.ref (ad 500 0), .int x1] : List Value).toArray) below meth c H locs 0 0 (MQ below (va_Qi (fun r' u => r' = res ∧ u = σ) (ctB G ad ca LM) A) (([.ref (ad 500 0), .int x1] : List Value).toArray) s 0 0 A) (F0 m 4 ls []) := by
    intro kx4 hx4 n4
    induction n4 with
    | zero =>
      intro v1 v2 v3 H locs ls hf
      exact absurd hf (by simp [X10_laid_l4])
    | succ n4 ih4 =>
      intro v1 v2 v3 H locs ls hf hl hP hS
      rw [X10_laid_l4.eq_2] at hf
      refine lv_iload_n hx hb dX10_laid_4 rfl (lv_at hl 3 rfl) ?_
      refine lv_aload_n hx hb dX10_laid_5 rfl (lv_at hl 0 rfl) ?_
      refine x_get (k := 500) (n := 0) hx hb hts i_X10 hown hK hP (mk_500 h01) rfl rfl 14 (by decide) rfl k_131 (v := .int (gI σ 500 0 14)) rfl dX10_laid_6 ?_
      refine lv_icmp_ge (tgt := 35) hx hb dX10_laid_9 rfl (fun hc => ?_) (fun hc => ?_)
      · have hf := b_p hf hc
        exact hx4 v2 H locs ls  hf (lv_sub hl [2] rfl) hP hS
      · have hf := b_n hf hc
        refine lv_iload_n hx hb dX10_laid_12 rfl (lv_at hl 2 rfl) ?_
        refine lv_aload_n hx hb dX10_laid_13 rfl (lv_at hl 0 rfl) ?_
        refine lv_iload_n hx hb dX10_laid_14 rfl (lv_at hl 3 rfl) ?_
        refine lv_iload_n hx hb dX10_laid_15 rfl (lv_at hl 1 rfl) ?_
        obtain ⟨r1, hc1, hf⟩ := bd_e hf
        refine x_ci (va_runV (As := [.int v3, .int v1]) (rest := [.int v2]) ⟨hx, hb, hml, hown, hts⟩ (t_X10_isLaid l G ad ca A v3 v1 hD  σ r1 hc1) (cwV 2 hts gr_X10_145 rfl rfl rfl h9_X10_isLaid ⟨Nat.le_of_ble_eq_true rfl, Nat.le_of_ble_eq_true rfl⟩) (x_prV zkM hz hK hP (mk_500 h01) rfl rfl) rfl rfl hl.1 rfl (lv_room (Nat.le_of_ble_eq_true rfl)) dX10_laid_16 ⟨Nat.le_of_ble_eq_true rfl, Nat.le_of_ble_eq_true rfl⟩) hS (fun H locs hP hS => ?_)
        refine lv_if_eq (tgt := 26) hx hb dX10_laid_19 rfl (fun hc => ?_) (fun hc => ?_)
        · have hf := b_p hf hc
          refine lv_iconst (v := (0 : Int32)) hx hb dX10_laid_26 rfl ?_
          refine lv_iadd hx hb dX10_laid_27 ?_
          obtain ⟨y2, e_y2, hf⟩ := nm_i hf
          refine x_nmI e_y2 ?_
          refine lv_istore_n (lv' := [(2, .int y2), (0, .ref (ad 500 0)), (1, .int v1), (3, .int v3)]) hx hb dX10_laid_28 rfl hl (by decide) rfl (fun ls hl => ?_)
          refine lv_iinc (v := (v3 + (1 : Int32))) (lv' := [(3, .int (v3 + (1 : Int32))), (2, .int y2), (0, .ref (ad 500 0)), (1, .int v1)]) hx hb dX10_laid_29 hl (k := 3) rfl rfl (by decide) rfl (fun ls hl => ?_)
          refine lv_goto (tgt := 4) hx hb dX10_laid_32 rfl ?_
          exact ih4 v1 y2 (v3 + (1 : Int32)) H locs ls  hf (lv_sub hl [2, 3, 1, 0] rfl) hP hS
        · have hf := b_n hf hc
          refine lv_iconst (v := (1 : Int32)) hx hb dX10_laid_22 rfl ?_
          refine lv_goto (tgt := 27) hx hb dX10_laid_23 rfl ?_
          refine lv_iadd hx hb dX10_laid_27 ?_
          obtain ⟨y3, e_y3, hf⟩ := nm_i hf
          refine x_nmI e_y3 ?_
          refine lv_istore_n (lv' := [(2, .int y3), (0, .ref (ad 500 0)), (1, .int v1), (3, .int v3)]) hx hb dX10_laid_28 rfl hl (by decide) rfl (fun ls hl => ?_)
          refine lv_iinc (v := (v3 + (1 : Int32))) (lv' := [(3, .int (v3 + (1 : Int32))), (2, .int y3), (0, .ref (ad 500 0)), (1, .int v1)]) hx hb dX10_laid_29 hl (k := 3) rfl rfl (by decide) rfl (fun ls hl => ?_)
          refine lv_goto (tgt := 4) hx hb dX10_laid_32 rfl ?_
          exact ih4 v1 y3 (v3 + (1 : Int32)) H locs ls  hf (lv_sub hl [2, 3, 1, 0] rfl) hP hS
  have c35 : ∀ (v2 : Int32) (H : Heap) (locs : List Loc) (ls : Array Slot), X10_laid_c35 σ v2 = some res → lv_has ls 4 [(2, .int v2)] → va_P G vwCl (wld ad ca σ LM) H → va_S A s.heap H locs → W p l e (headSpec wsX10_laid ({ frames := 1, cells := 0, slots := 0, locals := 22 })).room s m (([.ref (ad 500 0), .int x1] : List Value).toArray) below meth c H locs 0 0 (MQ below (va_Qi (fun r' u => r' = res ∧ u = σ) (ctB G ad ca LM) A) (([.ref (ad 500 0), .int x1] : List Value).toArray) s 0 0 A) (F0 m 35 ls []) := by
    intro v2 H locs ls hf hl hP hS
    unfold X10_laid_c35 at hf
    refine lv_iload_n hx hb dX10_laid_35 rfl (lv_at hl 0 rfl) ?_
    exact x_iret hx hb hr hlocks hK hP hS (Option.some.inj hf) rfl dX10_laid_36
  refine lv_iconst (v := (0 : Int32)) hx hb dX10_laid_0 rfl ?_
  refine lv_istore_n (lv' := [(2, .int (0 : Int32)), (0, .ref (ad 500 0)), (1, .int x1)]) hx hb dX10_laid_1 rfl hl (by decide) rfl (fun ls hl => ?_)
  refine lv_iconst (v := (0 : Int32)) hx hb dX10_laid_2 rfl ?_
  refine lv_istore_n (lv' := [(3, .int (0 : Int32)), (2, .int (0 : Int32)), (0, .ref (ad 500 0)), (1, .int x1)]) hx hb dX10_laid_3 rfl hl (by decide) rfl (fun ls hl => ?_)
  exact l4 _ c35 _ x1 (0 : Int32) (0 : Int32) H locs ls  hf (lv_sub hl [2, 3, 1, 0] rfl) hP hS
theorem h9_X10_isClass : yX10_isClass.cls ≠ "java/lang/invoke/MethodHandle" ∧ yX10_isClass.cls ≠ "java/lang/invoke/VarHandle" ∧ (parseMethodDescriptor yX10_isClass.desc).map (fun d => d.parameters.length) = some 1 := by decide +kernel
set_option maxRecDepth 100000 in
set_option maxHeartbeats 4000000 in
theorem t_X10_isClass (l : Launch) (G : va_G) (ad : Nat → Nat → Nat) (ca : Nat → ClassId) (A : Nat → Prop)   (x0 : Int32) (hD : DW ad LM A)  (σ : PS) (res : Int32) (hf : X10_isClass  x0 σ = some res) : Met l yX10_isClass wsX10_isClass ({ frames := 0, cells := 0, slots := 0, locals := 0 }) (ctP G ad ca LM σ ZM [.int x0]) (va_Qi (fun r' u => r' = res ∧ u = σ) (ctB G ad ca LM) A) 0 0 A := by
  refine Met.ofW (cc := cX10_isClass) (maxL := 1) (ret := (some .boolean)) (by decide) rfl ?_
  intro p e s m args below meth c s₁ B hml hv
  obtain ⟨rfl, hP, hK, hz⟩ := hv
  have hx := B.exec
  have hb := B.bytes
  have hr := B.returns
  have hts : ∀ w ∈ WW, w.before _ s = true := fun w h => atoms_spec (ws := wsX10_isClass) B.pre w (List.mem_cons_of_mem _ h)
  have hown : s.vm.findClass RX10 = some m.cls := findClass_of_methodNamed B.named
  have hlocks := B.notSynchronized
  have hS : va_S A s.heap s.heap [] := va_S.rf
  have hl := lv_entry ([.int x0]) (n := 1) (Nat.le_of_ble_eq_true rfl)
  rw [lg_entry_eq]
  generalize (lg_sl ([.int x0]) ++ List.replicate (1 - (lg_sl ([.int x0])).length) Slot.unset).toArray = ls at hl ⊢
  have hl : lv_has ls 1 [(0, .int x0)] := hl
  unfold X10_isClass at hf
  refine lv_iload_n hx hb dX10_isClass_0 rfl (lv_at hl 0 rfl) ?_
  refine lv_if_lt (tgt := 14) hx hb dX10_isClass_1 rfl (fun hc => ?_) (fun hc => ?_)
  · have hf := b_p hf hc
    refine lv_iconst (v := (0 : Int32)) hx hb dX10_isClass_14 rfl ?_
    exact x_zret hx hb hr hlocks hK hP hS (by decide) (Option.some.inj hf) rfl dX10_isClass_15
  · have hf := b_n hf hc
    refine lv_iload_n hx hb dX10_isClass_4 rfl (lv_at hl 0 rfl) ?_
    refine lv_bipush (v := (12 : Int32)) hx hb dX10_isClass_5 rfl ?_
    refine lv_icmp_ge (tgt := 14) hx hb dX10_isClass_7 rfl (fun hc => ?_) (fun hc => ?_)
    · have hf := b_p hf hc
      refine lv_iconst (v := (0 : Int32)) hx hb dX10_isClass_14 rfl ?_
      exact x_zret hx hb hr hlocks hK hP hS (by decide) (Option.some.inj hf) rfl dX10_isClass_15
    · have hf := b_n hf hc
      refine lv_iconst (v := (1 : Int32)) hx hb dX10_isClass_10 rfl ?_
      refine lv_goto (tgt := 15) hx hb dX10_isClass_11 rfl ?_
      exact x_zret hx hb hr hlocks hK hP hS (by decide) (Option.some.inj hf) rfl dX10_isClass_15
theorem h9_X10_parent : yX10_parent.cls = RX10 ∧ yX10_parent.cls ≠ "java/lang/invoke/MethodHandle" ∧ yX10_parent.cls ≠ "java/lang/invoke/VarHandle" ∧ (parseMethodDescriptor yX10_parent.desc).map (fun d => d.parameters.length) = some 2 := by decide +kernel
set_option maxRecDepth 100000 in
set_option maxHeartbeats 4000000 in
theorem t_X10_parent (l : Launch) (G : va_G) (ad : Nat → Nat → Nat) (ca : Nat → ClassId) (A : Nat → Prop)   (x1 : Int32) (x2 : Int32) (hD : DW ad LM A)  (σ : PS) (res : Int32) (σ9 : PS) (hf : X10_parent  x1 x2 σ = some (res, σz)) : Met l yX10_parent wsX10_parent ({ frames := 1, cells := 0, slots := 0, locals := 20 }) (ctP G ad ca LM σ ZM [.ref (ad 500 0), .int x1, .int x2]) (va_Qi (fun r' u => r' = res ∧ u = σz) (ctB G ad ca LM) A) 0 0 A := by
  refine Met.ofW (cc := cX10_parent) (maxL := 3) (ret := (some .int)) (by decide) rfl ?_
  intro p e s m args below meth c s₁ B hml hv
  obtain ⟨rfl, hP, hK, hz⟩ := hv
  have hx := B.exec
  have hb := B.bytes
  have hr := B.returns
  have hts : ∀ w ∈ WW, w.before _ s = true := fun w h => atoms_spec (ws := wsX10_parent) B.pre w (List.mem_cons_of_mem _ h)
  have hown : s.vm.findClass RX10 = some m.cls := findClass_of_methodNamed B.named
  have hlocks := B.notSynchronized
  have hS : va_S A s.heap s.heap [] := va_S.rf
  have k_7 := hts _ kf_X10_7
  have k_110 := hts _ kf_X10_110
  have hl := lv_entry ([.ref (ad 500 0), .int x1, .int x2]) (n := 3) (Nat.le_of_ble_eq_true rfl)
  rw [lg_entry_eq]
  generalize (lg_sl ([.ref (ad 500 0), .int x1, .int x2]) ++ List.replicate (3 - (lg_sl ([.ref (ad 500 0), .int x1, .int x2])).length) Slot.unset).toArray = ls at hl ⊢
  have hl : lv_has ls 3 [(0, .ref (ad 500 0)), (1, .int x1), (2, .int x2)] := hl
  unfold X10_parent at hf
  refine lv_iload_n hx hb dX10_parent_0 rfl (lv_at hl 1 rfl) ?_
  obtain ⟨r1, hc1, hf⟩ := bd_e hf
  refine x_ci (va_runS (As := [.int x1]) (rest := []) ⟨hx, hb, hml, hown, hts⟩ (t_X10_isClass l G ad ca A x1 hD  σ r1 hc1) (va_cwS 1 hts gr_X10_106 rfl rfl rfl h9_X10_isClass ⟨Nat.le_of_ble_eq_true rfl, Nat.le_of_ble_eq_true rfl⟩) (x_prS zkM hz hK hP) rfl rfl hl.1 rfl (lv_room (Nat.le_of_ble_eq_true rfl)) dX10_parent_1 ⟨Nat.le_of_ble_eq_true rfl, Nat.le_of_ble_eq_true rfl⟩) hS (fun H locs hP hS => ?_)
  refine lv_if_eq (tgt := 19) hx hb dX10_parent_4 rfl (fun hc => ?_) (fun hc => ?_)
  · have hf := b_p hf hc
    refine lv_bipush (v := (-2 : Int32)) hx hb dX10_parent_19 rfl ?_
    have hf := Option.some.inj hf
    exact x_iret hx hb hr hlocks hK hP hS (congrArg Prod.fst hf) (congrArg Prod.snd hf) dX10_parent_21
  · have hf := b_n hf hc
    refine lv_iload_n hx hb dX10_parent_7 rfl (lv_at hl 2 rfl) ?_
    refine lv_iconst (v := (-1 : Int32)) hx hb dX10_parent_8 rfl ?_
    refine lv_icmp_eq (tgt := 22) hx hb dX10_parent_9 rfl (fun hc => ?_) (fun hc => ?_)
    · have hf := b_p hf hc
      refine lv_aload_n hx hb dX10_parent_22 rfl (lv_at hl 0 rfl) ?_
      refine x_get (k := 500) (n := 0) hx hb hts i_X10 hown hK hP (mk_500 h01) rfl rfl 4 (by decide) rfl k_110 (v := .int (gI σ 500 0 4)) rfl dX10_parent_23 ?_
      refine lv_if_eq (tgt := 32) hx hb dX10_parent_26 rfl (fun hc => ?_) (fun hc => ?_)
      · have hf := b_p hf hc
        refine lv_aload_n hx hb dX10_parent_32 rfl (lv_at hl 0 rfl) ?_
        refine x_get (k := 500) (n := 0) hx hb hts i_X10 hown hK hP (mk_500 h01) rfl rfl 0 (by decide) rfl k_7 (v := .ref (ad 501 0)) rfl dX10_parent_33 ?_
        refine lv_iload_n hx hb dX10_parent_36 rfl (lv_at hl 1 rfl) ?_
        refine lv_iload_n hx hb dX10_parent_37 rfl (lv_at hl 2 rfl) ?_
        obtain ⟨g2, hf⟩ := gd_e hf
        refine x_iast (k := 501) (n := 0) hx hb hK hD hP hS (mk_501 h01) rfl g2 dX10_parent_38 (fun H locs hP hS => ?_)
        obtain ⟨σ3, e_σ3, hf⟩ := nm_i hf
        have hP : va_P G vwCl (wld ad ca σ3 LM) H := by rw [e_σ3]; exact hP
        refine lv_iconst (v := (1 : Int32)) hx hb dX10_parent_39 rfl ?_
        have hf := Option.some.inj hf
        exact x_iret hx hb hr hlocks hK hP hS (congrArg Prod.fst hf) (congrArg Prod.snd hf) dX10_parent_40
      · have hf := b_n hf hc
        refine lv_bipush (v := (-3 : Int32)) hx hb dX10_parent_29 rfl ?_
        have hf := Option.some.inj hf
        exact x_iret hx hb hr hlocks hK hP hS (congrArg Prod.fst hf) (congrArg Prod.snd hf) dX10_parent_31
    · have hf := b_n hf hc
      refine lv_iload_n hx hb dX10_parent_12 rfl (lv_at hl 2 rfl) ?_
      obtain ⟨r4, hc4, hf⟩ := bd_e hf
      refine x_ci (va_runS (As := [.int x2]) (rest := []) ⟨hx, hb, hml, hown, hts⟩ (t_X10_isClass l G ad ca A x2 hD  σ r4 hc4) (va_cwS 1 hts gr_X10_106 rfl rfl rfl h9_X10_isClass ⟨Nat.le_of_ble_eq_true rfl, Nat.le_of_ble_eq_true rfl⟩) (x_prS zkM hz hK hP) rfl rfl hl.1 rfl (lv_room (Nat.le_of_ble_eq_true rfl)) dX10_parent_13 ⟨Nat.le_of_ble_eq_true rfl, Nat.le_of_ble_eq_true rfl⟩) hS (fun H locs hP hS => ?_)
      refine lv_if_ne (tgt := 22) hx hb dX10_parent_16 rfl (fun hc => ?_) (fun hc => ?_)
      · have hf := b_n hf hc
        refine lv_aload_n hx hb dX10_parent_22 rfl (lv_at hl 0 rfl) ?_
        refine x_get (k := 500) (n := 0) hx hb hts i_X10 hown hK hP (mk_500 h01) rfl rfl 4 (by decide) rfl k_110 (v := .int (gI σ 500 0 4)) rfl dX10_parent_23 ?_
        refine lv_if_eq (tgt := 32) hx hb dX10_parent_26 rfl (fun hc => ?_) (fun hc => ?_)
        · have hf := b_p hf hc
          refine lv_aload_n hx hb dX10_parent_32 rfl (lv_at hl 0 rfl) ?_
          refine x_get (k := 500) (n := 0) hx hb hts i_X10 hown hK hP (mk_500 h01) rfl rfl 0 (by decide) rfl k_7 (v := .ref (ad 501 0)) rfl dX10_parent_33 ?_
          refine lv_iload_n hx hb dX10_parent_36 rfl (lv_at hl 1 rfl) ?_
          refine lv_iload_n hx hb dX10_parent_37 rfl (lv_at hl 2 rfl) ?_
          obtain ⟨g5, hf⟩ := gd_e hf
          refine x_iast (k := 501) (n := 0) hx hb hK hD hP hS (mk_501 h01) rfl g5 dX10_parent_38 (fun H locs hP hS => ?_)
          obtain ⟨σ6, e_σ6, hf⟩ := nm_i hf
          have hP : va_P G vwCl (wld ad ca σ6 LM) H := by rw [e_σ6]; exact hP
          refine lv_iconst (v := (1 : Int32)) hx hb dX10_parent_39 rfl ?_
          have hf := Option.some.inj hf
          exact x_iret hx hb hr hlocks hK hP hS (congrArg Prod.fst hf) (congrArg Prod.snd hf) dX10_parent_40
        · have hf := b_n hf hc
          refine lv_bipush (v := (-3 : Int32)) hx hb dX10_parent_29 rfl ?_
          have hf := Option.some.inj hf
          exact x_iret hx hb hr hlocks hK hP hS (congrArg Prod.fst hf) (congrArg Prod.snd hf) dX10_parent_31
      · have hf := b_p hf hc
        refine lv_bipush (v := (-2 : Int32)) hx hb dX10_parent_19 rfl ?_
        have hf := Option.some.inj hf
        exact x_iret hx hb hr hlocks hK hP hS (congrArg Prod.fst hf) (congrArg Prod.snd hf) dX10_parent_21
theorem h9_X10_isHandler : yX10_isHandler.cls = RX10 ∧ yX10_isHandler.cls ≠ "java/lang/invoke/MethodHandle" ∧ yX10_isHandler.cls ≠ "java/lang/invoke/VarHandle" ∧ (parseMethodDescriptor yX10_isHandler.desc).map (fun d => d.parameters.length) = some 1 := by decide +kernel
set_option maxRecDepth 100000 in
set_option maxHeartbeats 4000000 in
theorem t_X10_isHandler (l : Launch) (G : va_G) (ad : Nat → Nat → Nat) (ca : Nat → ClassId) (A : Nat → Prop)   (x1 : Int32) (hD : DW ad LM A)  (σ : PS) (res : Int32) (hf : X10_isHandler  x1 σ = some res) : Met l yX10_isHandler wsX10_isHandler ({ frames := 0, cells := 0, slots := 0, locals := 0 }) (ctP G ad ca LM σ ZM [.ref (ad 500 0), .int x1]) (va_Qi (fun r' u => r' = res ∧ u = σ) (ctB G ad ca LM) A) 0 0 A := by
  refine Met.ofW (cc := cX10_isHandler) (maxL := 2) (ret := (some .boolean)) (by decide) rfl ?_
  intro p e s m args below meth c s₁ B hml hv
  obtain ⟨rfl, hP, hK, hz⟩ := hv
  have hx := B.exec
  have hb := B.bytes
  have hr := B.returns
  have hts : ∀ w ∈ WW, w.before _ s = true := fun w h => atoms_spec (ws := wsX10_isHandler) B.pre w (List.mem_cons_of_mem _ h)
  have hown : s.vm.findClass RX10 = some m.cls := findClass_of_methodNamed B.named
  have hlocks := B.notSynchronized
  have hS : va_S A s.heap s.heap [] := va_S.rf
  have k_131 := hts _ kf_X10_131
  have hl := lv_entry ([.ref (ad 500 0), .int x1]) (n := 2) (Nat.le_of_ble_eq_true rfl)
  rw [lg_entry_eq]
  generalize (lg_sl ([.ref (ad 500 0), .int x1]) ++ List.replicate (2 - (lg_sl ([.ref (ad 500 0), .int x1])).length) Slot.unset).toArray = ls at hl ⊢
  have hl : lv_has ls 2 [(0, .ref (ad 500 0)), (1, .int x1)] := hl
  unfold X10_isHandler at hf
  refine lv_iload_n hx hb dX10_isHandler_0 rfl (lv_at hl 1 rfl) ?_
  refine lv_if_lt (tgt := 16) hx hb dX10_isHandler_1 rfl (fun hc => ?_) (fun hc => ?_)
  · have hf := b_p hf hc
    refine lv_iconst (v := (0 : Int32)) hx hb dX10_isHandler_16 rfl ?_
    exact x_zret hx hb hr hlocks hK hP hS (by decide) (Option.some.inj hf) rfl dX10_isHandler_17
  · have hf := b_n hf hc
    refine lv_iload_n hx hb dX10_isHandler_4 rfl (lv_at hl 1 rfl) ?_
    refine lv_aload_n hx hb dX10_isHandler_5 rfl (lv_at hl 0 rfl) ?_
    refine x_get (k := 500) (n := 0) hx hb hts i_X10 hown hK hP (mk_500 h01) rfl rfl 14 (by decide) rfl k_131 (v := .int (gI σ 500 0 14)) rfl dX10_isHandler_6 ?_
    refine lv_icmp_ge (tgt := 16) hx hb dX10_isHandler_9 rfl (fun hc => ?_) (fun hc => ?_)
    · have hf := b_p hf hc
      refine lv_iconst (v := (0 : Int32)) hx hb dX10_isHandler_16 rfl ?_
      exact x_zret hx hb hr hlocks hK hP hS (by decide) (Option.some.inj hf) rfl dX10_isHandler_17
    · have hf := b_n hf hc
      refine lv_iconst (v := (1 : Int32)) hx hb dX10_isHandler_12 rfl ?_
      refine lv_goto (tgt := 17) hx hb dX10_isHandler_13 rfl ?_
      exact x_zret hx hb hr hlocks hK hP hS (by decide) (Option.some.inj hf) rfl dX10_isHandler_17
theorem h9_X10_about : yX10_about.cls = RX10 ∧ yX10_about.cls ≠ "java/lang/invoke/MethodHandle" ∧ yX10_about.cls ≠ "java/lang/invoke/VarHandle" ∧ (parseMethodDescriptor yX10_about.desc).map (fun d => d.parameters.length) = some 2 := by decide +kernel
set_option maxRecDepth 100000 in
set_option maxHeartbeats 4000000 in
theorem t_X10_about (l : Launch) (G : va_G) (ad : Nat → Nat → Nat) (ca : Nat → ClassId) (A : Nat → Prop)   (x1 : Int32) (x2 : Int32) (hD : DW ad LM A)  (σ : PS) (res : Int32) (hf : X10_about  x1 x2 σ = some res) : Met l yX10_about wsX10_about ({ frames := 1, cells := 0, slots := 0, locals := 21 }) (ctP G ad ca LM σ ZM [.ref (ad 500 0), .int x1, .int x2]) (va_Qi (fun r' u => r' = res ∧ u = σ) (ctB G ad ca LM) A) 0 0 A := by
  refine Met.ofW (cc := cX10_about) (maxL := 5) (ret := (some .int)) (by decide) rfl ?_
  intro p e s m args below meth c s₁ B hml hv
  obtain ⟨rfl, hP, hK, hz⟩ := hv
  have hx := B.exec
  have hb := B.bytes
  have hr := B.returns
  have hts : ∀ w ∈ WW, w.before _ s = true := fun w h => atoms_spec (ws := wsX10_about) B.pre w (List.mem_cons_of_mem _ h)
  have hown : s.vm.findClass RX10 = some m.cls := findClass_of_methodNamed B.named
  have hlocks := B.notSynchronized
  have hS : va_S A s.heap s.heap [] := va_S.rf
  have k_29 := hts _ kf_X10_29
  have k_45 := hts _ kf_X10_45
  have k_48 := hts _ kf_X10_48
  have k_51 := hts _ kf_X10_51
  have k_54 := hts _ kf_X10_54
  have k_57 := hts _ kf_X10_57
  have k_60 := hts _ kf_X10_60
  have k_63 := hts _ kf_X10_63
  have k_66 := hts _ kf_X10_66
  have hl := lv_entry ([.ref (ad 500 0), .int x1, .int x2]) (n := 5) (Nat.le_of_ble_eq_true rfl)
  rw [lg_entry_eq]
  generalize (lg_sl ([.ref (ad 500 0), .int x1, .int x2]) ++ List.replicate (5 - (lg_sl ([.ref (ad 500 0), .int x1, .int x2])).length) Slot.unset).toArray = ls at hl ⊢
  have hl : lv_has ls 5 [(0, .ref (ad 500 0)), (1, .int x1), (2, .int x2)] := hl
  unfold X10_about at hf
  have c52 : ∀ (v1 : Int32) (v2 : Int32) (v3 : Int32) (w0 : Int32) (H : Heap) (locs : List Loc) (ls : Array Slot), X10_about_c52 σ v1 v2 v3 w0 = some res → lv_has ls 5 [(0, .ref (ad 500 0)), (1, .int v1), (2, .int v2), (3, .int v3)] → va_P G vwCl (wld ad ca σ LM) H → va_S A s.heap H locs → W p l e (headSpec wsX10_about ({ frames := 1, cells := 0, slots := 0, locals := 21 })).room s m (([.ref (ad 500 0), .int x1, .int x2] : List Value).toArray) below meth c H locs 0 0 (MQ below (va_Qi (fun r' u => r' = res ∧ u = σ) (ctB G ad ca LM) A) (([.ref (ad 500 0), .int x1, .int x2] : List Value).toArray) s 0 0 A) (F0 m 52 ls [.int w0]) := by
    intro v1 v2 v3 w0 H locs ls hf hl hP hS
    unfold X10_about_c52 at hf
    refine lv_istore (lv' := [(4, .int w0), (0, .ref (ad 500 0)), (1, .int v1), (2, .int v2), (3, .int v3)]) hx hb dX10_about_52 hl (by decide) rfl (fun ls hl => ?_)
    refine lv_iload_n hx hb dX10_about_54 rfl (lv_at hl 3 rfl) ?_
    by_cases hc0 : v2 = (0 : Int32)
    · have hf := b_p hf hc0
      refine lv_tableIn (off := 49) (tgt := 104) hx hb dX10_about_55 (by rw [hc0]; decide) (by rw [hc0]; decide) (by rw [hc0]; rfl) rfl ?_
      refine lv_aload_n hx hb dX10_about_104 rfl (lv_at hl 1 rfl) ?_
      refine x_get (k := 500) (n := 0) hx hb hts i_X10 hown hK hP (mk_500 h01) rfl rfl 15 (by decide) rfl k_45 (v := .ref (ad 516 0)) rfl dX10_about_105 ?_
      refine lv_iload_n hx hb dX10_about_108 rfl (lv_at hl 2 rfl) ?_
      obtain ⟨g3, hf⟩ := gd_e hf
      refine x_iald (k := 516) (n := 0) hx hb hK hP (mk_516 h01) rfl g3 dX10_about_109 ?_
      exact x_iret hx hb hr hlocks hK hP hS (Option.some.inj hf) rfl dX10_about_110
    have hf := b_n hf hc0
    by_cases hc1 : v2 = (1 : Int32)
    · have hf := b_p hf hc1
      refine lv_tableIn (off := 56) (tgt := 111) hx hb dX10_about_55 (by rw [hc1]; decide) (by rw [hc1]; decide) (by rw [hc1]; rfl) rfl ?_
      refine lv_aload_n hx hb dX10_about_111 rfl (lv_at hl 1 rfl) ?_
      refine x_get (k := 500) (n := 0) hx hb hts i_X10 hown hK hP (mk_500 h01) rfl rfl 16 (by decide) rfl k_48 (v := .ref (ad 517 0)) rfl dX10_about_112 ?_
      refine lv_iload_n hx hb dX10_about_115 rfl (lv_at hl 2 rfl) ?_
      obtain ⟨g4, hf⟩ := gd_e hf
      refine x_iald (k := 517) (n := 0) hx hb hK hP (mk_517 h01) rfl g4 dX10_about_116 ?_
      exact x_iret hx hb hr hlocks hK hP hS (Option.some.inj hf) rfl dX10_about_117
    have hf := b_n hf hc1
    by_cases hc2 : v2 = (2 : Int32)
    · have hf := b_p hf hc2
      refine lv_tableIn (off := 63) (tgt := 118) hx hb dX10_about_55 (by rw [hc2]; decide) (by rw [hc2]; decide) (by rw [hc2]; rfl) rfl ?_
      refine lv_aload_n hx hb dX10_about_118 rfl (lv_at hl 1 rfl) ?_
      refine x_get (k := 500) (n := 0) hx hb hts i_X10 hown hK hP (mk_500 h01) rfl rfl 17 (by decide) rfl k_51 (v := .ref (ad 518 0)) rfl dX10_about_119 ?_
      refine lv_iload_n hx hb dX10_about_122 rfl (lv_at hl 2 rfl) ?_
      obtain ⟨g5, hf⟩ := gd_e hf
      refine x_iald (k := 518) (n := 0) hx hb hK hP (mk_518 h01) rfl g5 dX10_about_123 ?_
      exact x_iret hx hb hr hlocks hK hP hS (Option.some.inj hf) rfl dX10_about_124
    have hf := b_n hf hc2
    by_cases hc3 : v2 = (3 : Int32)
    · have hf := b_p hf hc3
      refine lv_tableIn (off := 70) (tgt := 125) hx hb dX10_about_55 (by rw [hc3]; decide) (by rw [hc3]; decide) (by rw [hc3]; rfl) rfl ?_
      refine lv_aload_n hx hb dX10_about_125 rfl (lv_at hl 1 rfl) ?_
      refine x_get (k := 500) (n := 0) hx hb hts i_X10 hown hK hP (mk_500 h01) rfl rfl 18 (by decide) rfl k_54 (v := .ref (ad 519 0)) rfl dX10_about_126 ?_
      refine lv_iload_n hx hb dX10_about_129 rfl (lv_at hl 2 rfl) ?_
      obtain ⟨g6, hf⟩ := gd_e hf
      refine x_zald (k := 519) (n := 0) hx hb hK hP (mk_519 h01) rfl g6 dX10_about_130 ?_
      refine lv_if_eq (tgt := 138) hx hb dX10_about_131 rfl (fun hc => ?_) (fun hc => ?_)
      · have hf := b_p hf hc
        refine lv_iconst (v := (0 : Int32)) hx hb dX10_about_138 rfl ?_
        exact x_iret hx hb hr hlocks hK hP hS (Option.some.inj hf) rfl dX10_about_139
      · have hf := b_n hf hc
        refine lv_iconst (v := (1 : Int32)) hx hb dX10_about_134 rfl ?_
        refine lv_goto (tgt := 139) hx hb dX10_about_135 rfl ?_
        exact x_iret hx hb hr hlocks hK hP hS (Option.some.inj hf) rfl dX10_about_139
    have hf := b_n hf hc3
    by_cases hc4 : v2 = (4 : Int32)
    · have hf := b_p hf hc4
      refine lv_tableIn (off := 85) (tgt := 140) hx hb dX10_about_55 (by rw [hc4]; decide) (by rw [hc4]; decide) (by rw [hc4]; rfl) rfl ?_
      refine lv_aload_n hx hb dX10_about_140 rfl (lv_at hl 1 rfl) ?_
      refine x_get (k := 500) (n := 0) hx hb hts i_X10 hown hK hP (mk_500 h01) rfl rfl 19 (by decide) rfl k_57 (v := .ref (ad 520 0)) rfl dX10_about_141 ?_
      refine lv_iload_n hx hb dX10_about_144 rfl (lv_at hl 2 rfl) ?_
      obtain ⟨g7, hf⟩ := gd_e hf
      refine x_iald (k := 520) (n := 0) hx hb hK hP (mk_520 h01) rfl g7 dX10_about_145 ?_
      exact x_iret hx hb hr hlocks hK hP hS (Option.some.inj hf) rfl dX10_about_146
    have hf := b_n hf hc4
    by_cases hc5 : v2 = (5 : Int32)
    · have hf := b_p hf hc5
      refine lv_tableIn (off := 92) (tgt := 147) hx hb dX10_about_55 (by rw [hc5]; decide) (by rw [hc5]; decide) (by rw [hc5]; rfl) rfl ?_
      refine lv_iload hx hb dX10_about_147 (lv_at hl 0 rfl) ?_
      refine lv_if_eq (tgt := 165) hx hb dX10_about_149 rfl (fun hc => ?_) (fun hc => ?_)
      · have hf := b_p hf hc
        refine lv_iconst (v := (0 : Int32)) hx hb dX10_about_165 rfl ?_
        exact x_iret hx hb hr hlocks hK hP hS (Option.some.inj hf) rfl dX10_about_166
      · have hf := b_n hf hc
        refine lv_aload_n hx hb dX10_about_152 rfl (lv_at hl 1 rfl) ?_
        refine x_get (k := 500) (n := 0) hx hb hts i_X10 hown hK hP (mk_500 h01) rfl rfl 20 (by decide) rfl k_60 (v := .ref (ad 521 0)) rfl dX10_about_153 ?_
        refine lv_iconst (v := (2 : Int32)) hx hb dX10_about_156 rfl ?_
        refine lv_iload_n hx hb dX10_about_157 rfl (lv_at hl 2 rfl) ?_
        refine lv_imul hx hb dX10_about_158 ?_
        refine lv_iload_n hx hb dX10_about_159 rfl (lv_at hl 4 rfl) ?_
        refine lv_iadd hx hb dX10_about_160 ?_
        obtain ⟨g8, hf⟩ := gd_e hf
        refine x_iald (k := 521) (n := 0) hx hb hK hP (mk_521 h01) rfl g8 dX10_about_161 ?_
        refine lv_goto (tgt := 166) hx hb dX10_about_162 rfl ?_
        exact x_iret hx hb hr hlocks hK hP hS (Option.some.inj hf) rfl dX10_about_166
    have hf := b_n hf hc5
    by_cases hc6 : v2 = (6 : Int32)
    · have hf := b_p hf hc6
      refine lv_tableIn (off := 92) (tgt := 147) hx hb dX10_about_55 (by rw [hc6]; decide) (by rw [hc6]; decide) (by rw [hc6]; rfl) rfl ?_
      refine lv_iload hx hb dX10_about_147 (lv_at hl 0 rfl) ?_
      refine lv_if_eq (tgt := 165) hx hb dX10_about_149 rfl (fun hc => ?_) (fun hc => ?_)
      · have hf := b_p hf hc
        refine lv_iconst (v := (0 : Int32)) hx hb dX10_about_165 rfl ?_
        exact x_iret hx hb hr hlocks hK hP hS (Option.some.inj hf) rfl dX10_about_166
      · have hf := b_n hf hc
        refine lv_aload_n hx hb dX10_about_152 rfl (lv_at hl 1 rfl) ?_
        refine x_get (k := 500) (n := 0) hx hb hts i_X10 hown hK hP (mk_500 h01) rfl rfl 20 (by decide) rfl k_60 (v := .ref (ad 521 0)) rfl dX10_about_153 ?_
        refine lv_iconst (v := (2 : Int32)) hx hb dX10_about_156 rfl ?_
        refine lv_iload_n hx hb dX10_about_157 rfl (lv_at hl 2 rfl) ?_
        refine lv_imul hx hb dX10_about_158 ?_
        refine lv_iload_n hx hb dX10_about_159 rfl (lv_at hl 4 rfl) ?_
        refine lv_iadd hx hb dX10_about_160 ?_
        obtain ⟨g9, hf⟩ := gd_e hf
        refine x_iald (k := 521) (n := 0) hx hb hK hP (mk_521 h01) rfl g9 dX10_about_161 ?_
        refine lv_goto (tgt := 166) hx hb dX10_about_162 rfl ?_
        exact x_iret hx hb hr hlocks hK hP hS (Option.some.inj hf) rfl dX10_about_166
    have hf := b_n hf hc6
    by_cases hc7 : v2 = (7 : Int32)
    · have hf := b_p hf hc7
      refine lv_tableIn (off := 112) (tgt := 167) hx hb dX10_about_55 (by rw [hc7]; decide) (by rw [hc7]; decide) (by rw [hc7]; rfl) rfl ?_
      refine lv_iload hx hb dX10_about_167 (lv_at hl 0 rfl) ?_
      refine lv_if_eq (tgt := 185) hx hb dX10_about_169 rfl (fun hc => ?_) (fun hc => ?_)
      · have hf := b_p hf hc
        refine lv_iconst (v := (0 : Int32)) hx hb dX10_about_185 rfl ?_
        exact x_iret hx hb hr hlocks hK hP hS (Option.some.inj hf) rfl dX10_about_186
      · have hf := b_n hf hc
        refine lv_aload_n hx hb dX10_about_172 rfl (lv_at hl 1 rfl) ?_
        refine x_get (k := 500) (n := 0) hx hb hts i_X10 hown hK hP (mk_500 h01) rfl rfl 21 (by decide) rfl k_63 (v := .ref (ad 522 0)) rfl dX10_about_173 ?_
        refine lv_iconst (v := (2 : Int32)) hx hb dX10_about_176 rfl ?_
        refine lv_iload_n hx hb dX10_about_177 rfl (lv_at hl 2 rfl) ?_
        refine lv_imul hx hb dX10_about_178 ?_
        refine lv_iload_n hx hb dX10_about_179 rfl (lv_at hl 4 rfl) ?_
        refine lv_iadd hx hb dX10_about_180 ?_
        obtain ⟨g10, hf⟩ := gd_e hf
        refine x_iald (k := 522) (n := 0) hx hb hK hP (mk_522 h01) rfl g10 dX10_about_181 ?_
        refine lv_goto (tgt := 186) hx hb dX10_about_182 rfl ?_
        exact x_iret hx hb hr hlocks hK hP hS (Option.some.inj hf) rfl dX10_about_186
    have hf := b_n hf hc7
    by_cases hc8 : v2 = (8 : Int32)
    · have hf := b_p hf hc8
      refine lv_tableIn (off := 112) (tgt := 167) hx hb dX10_about_55 (by rw [hc8]; decide) (by rw [hc8]; decide) (by rw [hc8]; rfl) rfl ?_
      refine lv_iload hx hb dX10_about_167 (lv_at hl 0 rfl) ?_
      refine lv_if_eq (tgt := 185) hx hb dX10_about_169 rfl (fun hc => ?_) (fun hc => ?_)
      · have hf := b_p hf hc
        refine lv_iconst (v := (0 : Int32)) hx hb dX10_about_185 rfl ?_
        exact x_iret hx hb hr hlocks hK hP hS (Option.some.inj hf) rfl dX10_about_186
      · have hf := b_n hf hc
        refine lv_aload_n hx hb dX10_about_172 rfl (lv_at hl 1 rfl) ?_
        refine x_get (k := 500) (n := 0) hx hb hts i_X10 hown hK hP (mk_500 h01) rfl rfl 21 (by decide) rfl k_63 (v := .ref (ad 522 0)) rfl dX10_about_173 ?_
        refine lv_iconst (v := (2 : Int32)) hx hb dX10_about_176 rfl ?_
        refine lv_iload_n hx hb dX10_about_177 rfl (lv_at hl 2 rfl) ?_
        refine lv_imul hx hb dX10_about_178 ?_
        refine lv_iload_n hx hb dX10_about_179 rfl (lv_at hl 4 rfl) ?_
        refine lv_iadd hx hb dX10_about_180 ?_
        obtain ⟨g11, hf⟩ := gd_e hf
        refine x_iald (k := 522) (n := 0) hx hb hK hP (mk_522 h01) rfl g11 dX10_about_181 ?_
        refine lv_goto (tgt := 186) hx hb dX10_about_182 rfl ?_
        exact x_iret hx hb hr hlocks hK hP hS (Option.some.inj hf) rfl dX10_about_186
    have hf := b_n hf hc8
    refine lv_tableOut (tgt := 187) hx hb dX10_about_55 (x_out (N := 8) (fun j hj => by rcases (show j = 0 ∨ j = 1 ∨ j = 2 ∨ j = 3 ∨ j = 4 ∨ j = 5 ∨ j = 6 ∨ j = 7 ∨ j = 8 by omega) with rfl | rfl | rfl | rfl | rfl | rfl | rfl | rfl | rfl <;> assumption)) rfl ?_
    refine lv_iload hx hb dX10_about_187 (lv_at hl 0 rfl) ?_
    refine lv_if_eq (tgt := 205) hx hb dX10_about_189 rfl (fun hc => ?_) (fun hc => ?_)
    · have hf := b_p hf hc
      refine lv_iconst (v := (0 : Int32)) hx hb dX10_about_205 rfl ?_
      exact x_iret hx hb hr hlocks hK hP hS (Option.some.inj hf) rfl dX10_about_206
    · have hf := b_n hf hc
      refine lv_aload_n hx hb dX10_about_192 rfl (lv_at hl 1 rfl) ?_
      refine x_get (k := 500) (n := 0) hx hb hts i_X10 hown hK hP (mk_500 h01) rfl rfl 22 (by decide) rfl k_66 (v := .ref (ad 523 0)) rfl dX10_about_193 ?_
      refine lv_iconst (v := (2 : Int32)) hx hb dX10_about_196 rfl ?_
      refine lv_iload_n hx hb dX10_about_197 rfl (lv_at hl 2 rfl) ?_
      refine lv_imul hx hb dX10_about_198 ?_
      refine lv_iload_n hx hb dX10_about_199 rfl (lv_at hl 4 rfl) ?_
      refine lv_iadd hx hb dX10_about_200 ?_
      obtain ⟨g12, hf⟩ := gd_e hf
      refine x_iald (k := 523) (n := 0) hx hb hK hP (mk_523 h01) rfl g12 dX10_about_201 ?_
      refine lv_goto (tgt := 206) hx hb dX10_about_202 rfl ?_
      exact x_iret hx hb hr hlocks hK hP hS (Option.some.inj hf) rfl dX10_about_206
  have c47 : ∀ (v1 : Int32) (v2 : Int32) (v3 : Int32) (H : Heap) (locs : List Loc) (ls : Array Slot), X10_about_c47 σ v1 v2 v3 = some res → lv_has ls 5 [(0, .ref (ad 500 0)), (1, .int v1), (2, .int v2), (3, .int v3)] → va_P G vwCl (wld ad ca σ LM) H → va_S A s.heap H locs → W p l e (headSpec wsX10_about ({ frames := 1, cells := 0, slots := 0, locals := 21 })).room s m (([.ref (ad 500 0), .int x1, .int x2] : List Value).toArray) below meth c H locs 0 0 (MQ below (va_Qi (fun r' u => r' = res ∧ u = σ) (ctB G ad ca LM) A) (([.ref (ad 500 0), .int x1, .int x2] : List Value).toArray) s 0 0 A) (F0 m 47 ls []) := by
    intro v1 v2 v3 H locs ls hf hl hP hS
    unfold X10_about_c47 at hf
    refine lv_iconst (v := (1 : Int32)) hx hb dX10_about_47 rfl ?_
    refine lv_goto (tgt := 52) hx hb dX10_about_48 rfl ?_
    exact c52 v1 v2 v3 (1 : Int32) H locs ls  hf (lv_sub hl [0, 1, 2, 3] rfl) hP hS
  refine lv_aload_n hx hb dX10_about_0 rfl (lv_at hl 0 rfl) ?_
  refine lv_iload_n hx hb dX10_about_1 rfl (lv_at hl 1 rfl) ?_
  obtain ⟨r1, hc1, hf⟩ := bd_e hf
  refine x_ci (va_runV (As := [.int x1]) (rest := []) ⟨hx, hb, hml, hown, hts⟩ (t_X10_isHandler l G ad ca A x1 hD  σ r1 hc1) (cwV 1 hts gr_X10_139 rfl rfl rfl h9_X10_isHandler ⟨Nat.le_of_ble_eq_true rfl, Nat.le_of_ble_eq_true rfl⟩) (x_prV zkM hz hK hP (mk_500 h01) rfl rfl) rfl rfl hl.1 rfl (lv_room (Nat.le_of_ble_eq_true rfl)) dX10_about_2 ⟨Nat.le_of_ble_eq_true rfl, Nat.le_of_ble_eq_true rfl⟩) hS (fun H locs hP hS => ?_)
  refine lv_if_eq (tgt := 18) hx hb dX10_about_5 rfl (fun hc => ?_) (fun hc => ?_)
  · have hf := b_p hf hc
    refine lv_bipush (v := (-2 : Int32)) hx hb dX10_about_18 rfl ?_
    exact x_iret hx hb hr hlocks hK hP hS (Option.some.inj hf) rfl dX10_about_20
  · have hf := b_n hf hc
    refine lv_iload_n hx hb dX10_about_8 rfl (lv_at hl 2 rfl) ?_
    refine lv_if_lt (tgt := 18) hx hb dX10_about_9 rfl (fun hc => ?_) (fun hc => ?_)
    · have hf := b_p hf hc
      refine lv_bipush (v := (-2 : Int32)) hx hb dX10_about_18 rfl ?_
      exact x_iret hx hb hr hlocks hK hP hS (Option.some.inj hf) rfl dX10_about_20
    · have hf := b_n hf hc
      refine lv_iload_n hx hb dX10_about_12 rfl (lv_at hl 2 rfl) ?_
      refine lv_bipush (v := (10 : Int32)) hx hb dX10_about_13 rfl ?_
      refine lv_icmp_le (tgt := 21) hx hb dX10_about_15 rfl (fun hc => ?_) (fun hc => ?_)
      · have hf := b_p hf hc
        refine lv_iload_n hx hb dX10_about_21 rfl (lv_at hl 2 rfl) ?_
        refine lv_iconst (v := (5 : Int32)) hx hb dX10_about_22 rfl ?_
        refine lv_isub hx hb dX10_about_23 ?_
        refine lv_iconst (v := (2 : Int32)) hx hb dX10_about_24 rfl ?_
        refine lv_irem hx hb dX10_about_25 (by decide) ?_
        obtain ⟨y2, e_y2, hf⟩ := nm_i hf
        refine x_nmI e_y2 ?_
        refine lv_istore_n (lv' := [(3, .int y2), (0, .ref (ad 500 0)), (1, .int x1), (2, .int x2)]) hx hb dX10_about_26 rfl hl (by decide) rfl (fun ls hl => ?_)
        refine lv_iload_n hx hb dX10_about_27 rfl (lv_at hl 3 rfl) ?_
        refine lv_iconst (v := (5 : Int32)) hx hb dX10_about_28 rfl ?_
        refine lv_icmp_lt (tgt := 47) hx hb dX10_about_29 rfl (fun hc => ?_) (fun hc => ?_)
        · have hf := b_p hf hc
          exact c47 x1 x2 y2 H locs ls  hf (lv_sub hl [1, 2, 3, 0] rfl) hP hS
        · have hf := b_n hf hc
          refine lv_iload_n hx hb dX10_about_32 rfl (lv_at hl 0 rfl) ?_
          refine lv_aload_n hx hb dX10_about_33 rfl (lv_at hl 1 rfl) ?_
          refine x_get (k := 500) (n := 0) hx hb hts i_X10 hown hK hP (mk_500 h01) rfl rfl 9 (by decide) rfl k_29 (v := .ref (ad 510 0)) rfl dX10_about_34 ?_
          refine lv_aload_n hx hb dX10_about_37 rfl (lv_at hl 1 rfl) ?_
          refine x_get (k := 500) (n := 0) hx hb hts i_X10 hown hK hP (mk_500 h01) rfl rfl 15 (by decide) rfl k_45 (v := .ref (ad 516 0)) rfl dX10_about_38 ?_
          refine lv_iload_n hx hb dX10_about_41 rfl (lv_at hl 2 rfl) ?_
          obtain ⟨g13, hf⟩ := gd_e hf
          refine x_iald (k := 516) (n := 0) hx hb hK hP (mk_516 h01) rfl g13 dX10_about_42 ?_
          obtain ⟨g14, hf⟩ := gd_e hf
          refine x_iald (k := 510) (n := 0) hx hb hK hP (mk_510 h01) rfl g14 dX10_about_43 ?_
          refine lv_icmp_ge (tgt := 51) hx hb dX10_about_44 rfl (fun hc => ?_) (fun hc => ?_)
          · have hf := b_p hf hc
            refine lv_iconst (v := (0 : Int32)) hx hb dX10_about_51 rfl ?_
            exact c52 x1 x2 y2 (0 : Int32) H locs ls  hf (lv_sub hl [1, 2, 3, 0] rfl) hP hS
          · have hf := b_n hf hc
            exact c47 x1 x2 y2 H locs ls  hf (lv_sub hl [1, 2, 3, 0] rfl) hP hS
      · have hf := b_n hf hc
        refine lv_bipush (v := (-2 : Int32)) hx hb dX10_about_18 rfl ?_
        exact x_iret hx hb hr hlocks hK hP hS (Option.some.inj hf) rfl dX10_about_20
theorem h9_X10_close : yX10_close.cls = RX10 ∧ yX10_close.cls ≠ "java/lang/invoke/MethodHandle" ∧ yX10_close.cls ≠ "java/lang/invoke/VarHandle" ∧ (parseMethodDescriptor yX10_close.desc).map (fun d => d.parameters.length) = some 0 := by decide +kernel
set_option maxRecDepth 100000 in
set_option maxHeartbeats 4000000 in
theorem t_X10_close (l : Launch) (G : va_G) (ad : Nat → Nat → Nat) (ca : Nat → ClassId) (A : Nat → Prop)   (hD : DW ad LM A)  (σ : PS) (res : Int32) (σ9 : PS) (hf : X10_close   σ = some (res, σz)) : Met l yX10_close wsX10_close ({ frames := 0, cells := 0, slots := 0, locals := 0 }) (ctP G ad ca LM σ ZM [.ref (ad 500 0)]) (va_Qi (fun r' u => r' = res ∧ u = σz) (ctB G ad ca LM) A) 0 0 A := by
  refine Met.ofW (cc := cX10_close) (maxL := 4) (ret := (some .int)) (by decide) rfl ?_
  intro p e s m args below meth c s₁ B hml hv
  obtain ⟨rfl, hP, hK, hz⟩ := hv
  have hx := B.exec
  have hb := B.bytes
  have hr := B.returns
  have hts : ∀ w ∈ WW, w.before _ s = true := fun w h => atoms_spec (ws := wsX10_close) B.pre w (List.mem_cons_of_mem _ h)
  have hown : s.vm.findClass RX10 = some m.cls := findClass_of_methodNamed B.named
  have hlocks := B.notSynchronized
  have hS : va_S A s.heap s.heap [] := va_S.rf
  have k_7 := hts _ kf_X10_7
  have k_13 := hts _ kf_X10_13
  have k_17 := hts _ kf_X10_17
  have k_110 := hts _ kf_X10_110
  have hl := lv_entry ([.ref (ad 500 0)]) (n := 4) (Nat.le_of_ble_eq_true rfl)
  rw [lg_entry_eq]
  generalize (lg_sl ([.ref (ad 500 0)]) ++ List.replicate (4 - (lg_sl ([.ref (ad 500 0)])).length) Slot.unset).toArray = ls at hl ⊢
  have hl : lv_has ls 4 [(0, .ref (ad 500 0))] := hl
  unfold X10_close at hf
  have l12 : ∀ (kx12 : PS → Option (Int32 × PS)), (∀ (σ : PS) (H : Heap) (locs : List Loc) (ls : Array Slot), kx12 σ = some (res, σz) → lv_has ls 4 [(0, .ref (ad 500 0))] → va_P G vwCl (wld ad ca σ LM) H → va_S A s.heap H locs → W p l e (headSpec wsX10_close ({ frames := 0, cells := 0, slots := 0, locals := 0 })).room s m (([.ref (ad 500 0)] : List Value).toArray) below meth c H locs 0 0 (MQ below (va_Qi (fun r' u => r' = res ∧ u = σz) (ctB G ad ca LM) A) (([.ref (ad 500 0)] : List Value).toArray) s 0 0 A) (F0 m 37 ls [])) → ∀ (n12 : Nat) (v1 : Int32) (σ : PS) (H : Heap) (locs : List Loc) (ls : Array Slot), X10_close_l12  kx12 n12 v1 σ = some (res, σz) → lv_has ls 4 [(0, .ref (ad 500 0)), (1, .int v1)] → va_P G vwCl (wld ad ca σ LM) H → va_S A s.heap H locs → W p l e (headSpec wsX10_close ({ frames := 0, cells := 0, slots := 0, locals := 0 })).room s m (([.ref (ad 500 0)] : List Value).toArray) below meth c H locs 0 0 (MQ below (va_Qi (fun r' u => r' = res ∧ u = σz) (ctB G ad ca LM) A) (([.ref (ad 500 0)] : List Value).toArray) s 0 0 A) (F0 m 12 ls []) := by
    intro kx12 hx12 n12
    induction n12 with
    | zero =>
      intro v1 σ H locs ls hf
      exact absurd hf (by simp [X10_close_l12])
    | succ n12 ih12 =>
      intro v1 σ H locs ls hf hl hP hS
      rw [X10_close_l12.eq_2] at hf
      refine lv_iload_n hx hb dX10_close_12 rfl (lv_at hl 1 rfl) ?_
      refine lv_sipush (v := (256 : Int32)) hx hb dX10_close_13 rfl ?_
      refine lv_icmp_ge (tgt := 37) hx hb dX10_close_16 rfl (fun hc => ?_) (fun hc => ?_)
      · have hf := b_p hf hc
        exact hx12  σ H locs ls  hf (lv_sub hl [0] rfl) hP hS
      · have hf := b_n hf hc
        refine lv_aload_n hx hb dX10_close_19 rfl (lv_at hl 0 rfl) ?_
        refine x_get (k := 500) (n := 0) hx hb hts i_X10 hown hK hP (mk_500 h01) rfl rfl 2 (by decide) rfl k_17 (v := .ref (ad 503 0)) rfl dX10_close_20 ?_
        refine lv_iload_n hx hb dX10_close_23 rfl (lv_at hl 1 rfl) ?_
        refine lv_aload_n hx hb dX10_close_24 rfl (lv_at hl 0 rfl) ?_
        refine x_get (k := 500) (n := 0) hx hb hts i_X10 hown hK hP (mk_500 h01) rfl rfl 1 (by decide) rfl k_13 (v := .ref (ad 502 0)) rfl dX10_close_25 ?_
        refine lv_iload_n hx hb dX10_close_28 rfl (lv_at hl 1 rfl) ?_
        obtain ⟨g1, hf⟩ := gd_e hf
        refine x_zald (k := 502) (n := 0) hx hb hK hP (mk_502 h01) rfl g1 dX10_close_29 ?_
        obtain ⟨g2, hf⟩ := gd_e hf
        obtain ⟨g3, hf⟩ := gd_e hf
        refine x_zast (k := 503) (n := 0) hx hb hK hD hP hS (mk_503 h01) rfl g2 g3 dX10_close_30 (fun H locs hP hS => ?_)
        obtain ⟨σ4, e_σ4, hf⟩ := nm_i hf
        have hP : va_P G vwCl (wld ad ca σ4 LM) H := by rw [e_σ4]; exact hP
        refine lv_iinc (v := (v1 + (1 : Int32))) (lv' := [(1, .int (v1 + (1 : Int32))), (0, .ref (ad 500 0))]) hx hb dX10_close_31 hl (k := 1) rfl rfl (by decide) rfl (fun ls hl => ?_)
        refine lv_goto (tgt := 12) hx hb dX10_close_34 rfl ?_
        exact ih12 (v1 + (1 : Int32)) σ4 H locs ls  hf (lv_sub hl [1, 0] rfl) hP hS
  have l39 : ∀ (kx39 : PS → Option (Int32 × PS)), (∀ (σ : PS) (H : Heap) (locs : List Loc) (ls : Array Slot), kx39 σ = some (res, σz) → lv_has ls 4 [(0, .ref (ad 500 0))] → va_P G vwCl (wld ad ca σ LM) H → va_S A s.heap H locs → W p l e (headSpec wsX10_close ({ frames := 0, cells := 0, slots := 0, locals := 0 })).room s m (([.ref (ad 500 0)] : List Value).toArray) below meth c H locs 0 0 (MQ below (va_Qi (fun r' u => r' = res ∧ u = σz) (ctB G ad ca LM) A) (([.ref (ad 500 0)] : List Value).toArray) s 0 0 A) (F0 m 77 ls [])) → ∀ (n39 : Nat) (v1 : Int32) (σ : PS) (H : Heap) (locs : List Loc) (ls : Array Slot), X10_close_l39  kx39 n39 v1 σ = some (res, σz) → lv_has ls 4 [(0, .ref (ad 500 0)), (1, .int v1)] → va_P G vwCl (wld ad ca σ LM) H → va_S A s.heap H locs → W p l e (headSpec wsX10_close ({ frames := 0, cells := 0, slots := 0, locals := 0 })).room s m (([.ref (ad 500 0)] : List Value).toArray) below meth c H locs 0 0 (MQ below (va_Qi (fun r' u => r' = res ∧ u = σz) (ctB G ad ca LM) A) (([.ref (ad 500 0)] : List Value).toArray) s 0 0 A) (F0 m 39 ls []) := by
    intro kx39 hx39 n39
    induction n39 with
    | zero =>
      intro v1 σ H locs ls hf
      exact absurd hf (by simp [X10_close_l39])
    | succ n39 ih39 =>
      intro v1 σ H locs ls hf hl hP hS
      rw [X10_close_l39.eq_2] at hf
      refine lv_iload_n hx hb dX10_close_39 rfl (lv_at hl 1 rfl) ?_
      refine lv_bipush (v := (12 : Int32)) hx hb dX10_close_40 rfl ?_
      refine lv_icmp_ge (tgt := 77) hx hb dX10_close_42 rfl (fun hc => ?_) (fun hc => ?_)
      · have hf := b_p hf hc
        exact hx39  σ H locs ls  hf (lv_sub hl [0] rfl) hP hS
      · have hf := b_n hf hc
        refine lv_aload_n hx hb dX10_close_45 rfl (lv_at hl 0 rfl) ?_
        refine x_get (k := 500) (n := 0) hx hb hts i_X10 hown hK hP (mk_500 h01) rfl rfl 0 (by decide) rfl k_7 (v := .ref (ad 501 0)) rfl dX10_close_46 ?_
        refine lv_iload_n hx hb dX10_close_49 rfl (lv_at hl 1 rfl) ?_
        obtain ⟨g5, hf⟩ := gd_e hf
        refine x_iald (k := 501) (n := 0) hx hb hK hP (mk_501 h01) rfl g5 dX10_close_50 ?_
        refine lv_if_lt (tgt := 71) hx hb dX10_close_51 rfl (fun hc => ?_) (fun hc => ?_)
        · have hf := b_p hf hc
          refine lv_iinc (v := (v1 + (1 : Int32))) (lv' := [(1, .int (v1 + (1 : Int32))), (0, .ref (ad 500 0))]) hx hb dX10_close_71 hl (k := 1) rfl rfl (by decide) rfl (fun ls hl => ?_)
          refine lv_goto (tgt := 39) hx hb dX10_close_74 rfl ?_
          exact ih39 (v1 + (1 : Int32)) σ H locs ls  hf (lv_sub hl [1, 0] rfl) hP hS
        · have hf := b_n hf hc
          refine lv_aload_n hx hb dX10_close_54 rfl (lv_at hl 0 rfl) ?_
          refine x_get (k := 500) (n := 0) hx hb hts i_X10 hown hK hP (mk_500 h01) rfl rfl 2 (by decide) rfl k_17 (v := .ref (ad 503 0)) rfl dX10_close_55 ?_
          refine lv_bipush (v := (16 : Int32)) hx hb dX10_close_58 rfl ?_
          refine lv_iload_n hx hb dX10_close_60 rfl (lv_at hl 1 rfl) ?_
          refine lv_imul hx hb dX10_close_61 ?_
          refine lv_aload_n hx hb dX10_close_62 rfl (lv_at hl 0 rfl) ?_
          refine x_get (k := 500) (n := 0) hx hb hts i_X10 hown hK hP (mk_500 h01) rfl rfl 0 (by decide) rfl k_7 (v := .ref (ad 501 0)) rfl dX10_close_63 ?_
          refine lv_iload_n hx hb dX10_close_66 rfl (lv_at hl 1 rfl) ?_
          obtain ⟨g6, hf⟩ := gd_e hf
          refine x_iald (k := 501) (n := 0) hx hb hK hP (mk_501 h01) rfl g6 dX10_close_67 ?_
          refine lv_iadd hx hb dX10_close_68 ?_
          refine lv_iconst (v := (1 : Int32)) hx hb dX10_close_69 rfl ?_
          obtain ⟨g7, hf⟩ := gd_e hf
          refine x_zast (k := 503) (n := 0) hx hb hK hD hP hS (mk_503 h01) rfl (by decide) g7 dX10_close_70 (fun H locs hP hS => ?_)
          obtain ⟨σ8, e_σ8, hf⟩ := nm_i hf
          have hP : va_P G vwCl (wld ad ca σ8 LM) H := by rw [e_σ8]; exact hP
          refine lv_iinc (v := (v1 + (1 : Int32))) (lv' := [(1, .int (v1 + (1 : Int32))), (0, .ref (ad 500 0))]) hx hb dX10_close_71 hl (k := 1) rfl rfl (by decide) rfl (fun ls hl => ?_)
          refine lv_goto (tgt := 39) hx hb dX10_close_74 rfl ?_
          exact ih39 (v1 + (1 : Int32)) σ8 H locs ls  hf (lv_sub hl [1, 0] rfl) hP hS
  have l79 : ∀ (kx79 : PS → Option (Int32 × PS)), (∀ (σ : PS) (H : Heap) (locs : List Loc) (ls : Array Slot), kx79 σ = some (res, σz) → lv_has ls 4 [(0, .ref (ad 500 0))] → va_P G vwCl (wld ad ca σ LM) H → va_S A s.heap H locs → W p l e (headSpec wsX10_close ({ frames := 0, cells := 0, slots := 0, locals := 0 })).room s m (([.ref (ad 500 0)] : List Value).toArray) below meth c H locs 0 0 (MQ below (va_Qi (fun r' u => r' = res ∧ u = σz) (ctB G ad ca LM) A) (([.ref (ad 500 0)] : List Value).toArray) s 0 0 A) (F0 m 177 ls [])) → ∀ (n79 : Nat) (v1 : Int32) (σ : PS) (H : Heap) (locs : List Loc) (ls : Array Slot), X10_close_l79  kx79 n79 v1 σ = some (res, σz) → lv_has ls 4 [(0, .ref (ad 500 0)), (1, .int v1)] → va_P G vwCl (wld ad ca σ LM) H → va_S A s.heap H locs → W p l e (headSpec wsX10_close ({ frames := 0, cells := 0, slots := 0, locals := 0 })).room s m (([.ref (ad 500 0)] : List Value).toArray) below meth c H locs 0 0 (MQ below (va_Qi (fun r' u => r' = res ∧ u = σz) (ctB G ad ca LM) A) (([.ref (ad 500 0)] : List Value).toArray) s 0 0 A) (F0 m 79 ls []) := by
    intro kx79 hx79 n79
    induction n79 with
    | zero =>
      intro v1 σ H locs ls hf
      exact absurd hf (by simp [X10_close_l79])
    | succ n79 ih79 =>
      intro v1 σ H locs ls hf hl hP hS
      rw [X10_close_l79.eq_2] at hf
      have l87 : ∀ (kx87 : Int32 → PS → Option (Int32 × PS)), (∀ (v1 : Int32) (σ : PS) (H : Heap) (locs : List Loc) (ls : Array Slot), kx87 v1 σ = some (res, σz) → lv_has ls 4 [(0, .ref (ad 500 0)), (1, .int v1)] → va_P G vwCl (wld ad ca σ LM) H → va_S A s.heap H locs → W p l e (headSpec wsX10_close ({ frames := 0, cells := 0, slots := 0, locals := 0 })).room s m (([.ref (ad 500 0)] : List Value).toArray) below meth c H locs 0 0 (MQ below (va_Qi (fun r' u => r' = res ∧ u = σz) (ctB G ad ca LM) A) (([.ref (ad 500 0)] : List Value).toArray) s 0 0 A) (F0 m 171 ls [])) → ∀ (n87 : Nat) (v1 : Int32) (v2 : Int32) (σ : PS) (H : Heap) (locs : List Loc) (ls : Array Slot), X10_close_l87  kx87 n87 v1 v2 σ = some (res, σz) → lv_has ls 4 [(0, .ref (ad 500 0)), (1, .int v1), (2, .int v2)] → va_P G vwCl (wld ad ca σ LM) H → va_S A s.heap H locs → W p l e (headSpec wsX10_close ({ frames := 0, cells := 0, slots := 0, locals := 0 })).room s m (([.ref (ad 500 0)] : List Value).toArray) below meth c H locs 0 0 (MQ below (va_Qi (fun r' u => r' = res ∧ u = σz) (ctB G ad ca LM) A) (([.ref (ad 500 0)] : List Value).toArray) s 0 0 A) (F0 m 87 ls []) := by
        intro kx87 hx87 n87
        induction n87 with
        | zero =>
          intro v1 v2 σ H locs ls hf
          exact absurd hf (by simp [X10_close_l87])
        | succ n87 ih87 =>
          intro v1 v2 σ H locs ls hf hl hP hS
          rw [X10_close_l87.eq_2] at hf
          have l95 : ∀ (kx95 : Int32 → Int32 → PS → Option (Int32 × PS)), (∀ (v1 : Int32) (v2 : Int32) (σ : PS) (H : Heap) (locs : List Loc) (ls : Array Slot), kx95 v1 v2 σ = some (res, σz) → lv_has ls 4 [(0, .ref (ad 500 0)), (1, .int v1), (2, .int v2)] → va_P G vwCl (wld ad ca σ LM) H → va_S A s.heap H locs → W p l e (headSpec wsX10_close ({ frames := 0, cells := 0, slots := 0, locals := 0 })).room s m (([.ref (ad 500 0)] : List Value).toArray) below meth c H locs 0 0 (MQ below (va_Qi (fun r' u => r' = res ∧ u = σz) (ctB G ad ca LM) A) (([.ref (ad 500 0)] : List Value).toArray) s 0 0 A) (F0 m 165 ls [])) → ∀ (n95 : Nat) (v1 : Int32) (v2 : Int32) (v3 : Int32) (σ : PS) (H : Heap) (locs : List Loc) (ls : Array Slot), X10_close_l95  kx95 n95 v1 v2 v3 σ = some (res, σz) → lv_has ls 4 [(0, .ref (ad 500 0)), (1, .int v1), (2, .int v2), (3, .int v3)] → va_P G vwCl (wld ad ca σ LM) H → va_S A s.heap H locs → W p l e (headSpec wsX10_close ({ frames := 0, cells := 0, slots := 0, locals := 0 })).room s m (([.ref (ad 500 0)] : List Value).toArray) below meth c H locs 0 0 (MQ below (va_Qi (fun r' u => r' = res ∧ u = σz) (ctB G ad ca LM) A) (([.ref (ad 500 0)] : List Value).toArray) s 0 0 A) (F0 m 95 ls []) := by
            intro kx95 hx95 n95
            induction n95 with
            | zero =>
              intro v1 v2 v3 σ H locs ls hf
              exact absurd hf (by simp [X10_close_l95])
            | succ n95 ih95 =>
              intro v1 v2 v3 σ H locs ls hf hl hP hS
              rw [X10_close_l95.eq_2] at hf
              refine lv_iload_n hx hb dX10_close_95 rfl (lv_at hl 3 rfl) ?_
              refine lv_bipush (v := (16 : Int32)) hx hb dX10_close_96 rfl ?_
              refine lv_icmp_ge (tgt := 165) hx hb dX10_close_98 rfl (fun hc => ?_) (fun hc => ?_)
              · have hf := b_p hf hc
                exact hx95 v1 v2 σ H locs ls  hf (lv_sub hl [0, 1, 2] rfl) hP hS
              · have hf := b_n hf hc
                refine lv_aload_n hx hb dX10_close_101 rfl (lv_at hl 0 rfl) ?_
                refine x_get (k := 500) (n := 0) hx hb hts i_X10 hown hK hP (mk_500 h01) rfl rfl 2 (by decide) rfl k_17 (v := .ref (ad 503 0)) rfl dX10_close_102 ?_
                refine lv_bipush (v := (16 : Int32)) hx hb dX10_close_105 rfl ?_
                refine lv_iload_n hx hb dX10_close_107 rfl (lv_at hl 2 rfl) ?_
                refine lv_imul hx hb dX10_close_108 ?_
                refine lv_iload_n hx hb dX10_close_109 rfl (lv_at hl 3 rfl) ?_
                refine lv_iadd hx hb dX10_close_110 ?_
                refine lv_aload_n hx hb dX10_close_111 rfl (lv_at hl 0 rfl) ?_
                refine x_get (k := 500) (n := 0) hx hb hts i_X10 hown hK hP (mk_500 h01) rfl rfl 2 (by decide) rfl k_17 (v := .ref (ad 503 0)) rfl dX10_close_112 ?_
                refine lv_bipush (v := (16 : Int32)) hx hb dX10_close_115 rfl ?_
                refine lv_iload_n hx hb dX10_close_117 rfl (lv_at hl 2 rfl) ?_
                refine lv_imul hx hb dX10_close_118 ?_
                refine lv_iload_n hx hb dX10_close_119 rfl (lv_at hl 3 rfl) ?_
                refine lv_iadd hx hb dX10_close_120 ?_
                obtain ⟨g9, hf⟩ := gd_e hf
                refine x_zald (k := 503) (n := 0) hx hb hK hP (mk_503 h01) rfl g9 dX10_close_121 ?_
                refine lv_if_ne (tgt := 153) hx hb dX10_close_122 rfl (fun hc => ?_) (fun hc => ?_)
                · have hf := b_n hf hc
                  refine lv_iconst (v := (1 : Int32)) hx hb dX10_close_153 rfl ?_
                  refine lv_goto (tgt := 158) hx hb dX10_close_154 rfl ?_
                  obtain ⟨g10, hf⟩ := gd_e hf
                  refine x_zast (k := 503) (n := 0) hx hb hK hD hP hS (mk_503 h01) rfl (by decide) g10 dX10_close_158 (fun H locs hP hS => ?_)
                  obtain ⟨σ11, e_σ11, hf⟩ := nm_i hf
                  have hP : va_P G vwCl (wld ad ca σ11 LM) H := by rw [e_σ11]; exact hP
                  refine lv_iinc (v := (v3 + (1 : Int32))) (lv' := [(3, .int (v3 + (1 : Int32))), (0, .ref (ad 500 0)), (1, .int v1), (2, .int v2)]) hx hb dX10_close_159 hl (k := 3) rfl rfl (by decide) rfl (fun ls hl => ?_)
                  refine lv_goto (tgt := 95) hx hb dX10_close_162 rfl ?_
                  exact ih95 v1 v2 (v3 + (1 : Int32)) σ11 H locs ls  hf (lv_sub hl [1, 2, 3, 0] rfl) hP hS
                · have hf := b_p hf hc
                  refine lv_aload_n hx hb dX10_close_125 rfl (lv_at hl 0 rfl) ?_
                  refine x_get (k := 500) (n := 0) hx hb hts i_X10 hown hK hP (mk_500 h01) rfl rfl 2 (by decide) rfl k_17 (v := .ref (ad 503 0)) rfl dX10_close_126 ?_
                  refine lv_bipush (v := (16 : Int32)) hx hb dX10_close_129 rfl ?_
                  refine lv_iload_n hx hb dX10_close_131 rfl (lv_at hl 2 rfl) ?_
                  refine lv_imul hx hb dX10_close_132 ?_
                  refine lv_iload_n hx hb dX10_close_133 rfl (lv_at hl 1 rfl) ?_
                  refine lv_iadd hx hb dX10_close_134 ?_
                  obtain ⟨g12, hf⟩ := gd_e hf
                  refine x_zald (k := 503) (n := 0) hx hb hK hP (mk_503 h01) rfl g12 dX10_close_135 ?_
                  refine lv_if_eq (tgt := 157) hx hb dX10_close_136 rfl (fun hc => ?_) (fun hc => ?_)
                  · have hf := b_p hf hc
                    refine lv_iconst (v := (0 : Int32)) hx hb dX10_close_157 rfl ?_
                    obtain ⟨g13, hf⟩ := gd_e hf
                    refine x_zast (k := 503) (n := 0) hx hb hK hD hP hS (mk_503 h01) rfl (by decide) g13 dX10_close_158 (fun H locs hP hS => ?_)
                    obtain ⟨σ14, e_σ14, hf⟩ := nm_i hf
                    have hP : va_P G vwCl (wld ad ca σ14 LM) H := by rw [e_σ14]; exact hP
                    refine lv_iinc (v := (v3 + (1 : Int32))) (lv' := [(3, .int (v3 + (1 : Int32))), (0, .ref (ad 500 0)), (1, .int v1), (2, .int v2)]) hx hb dX10_close_159 hl (k := 3) rfl rfl (by decide) rfl (fun ls hl => ?_)
                    refine lv_goto (tgt := 95) hx hb dX10_close_162 rfl ?_
                    exact ih95 v1 v2 (v3 + (1 : Int32)) σ14 H locs ls  hf (lv_sub hl [1, 2, 3, 0] rfl) hP hS
                  · have hf := b_n hf hc
                    refine lv_aload_n hx hb dX10_close_139 rfl (lv_at hl 0 rfl) ?_
                    refine x_get (k := 500) (n := 0) hx hb hts i_X10 hown hK hP (mk_500 h01) rfl rfl 2 (by decide) rfl k_17 (v := .ref (ad 503 0)) rfl dX10_close_140 ?_
                    refine lv_bipush (v := (16 : Int32)) hx hb dX10_close_143 rfl ?_
                    refine lv_iload_n hx hb dX10_close_145 rfl (lv_at hl 1 rfl) ?_
                    refine lv_imul hx hb dX10_close_146 ?_
                    refine lv_iload_n hx hb dX10_close_147 rfl (lv_at hl 3 rfl) ?_
                    refine lv_iadd hx hb dX10_close_148 ?_
                    obtain ⟨g15, hf⟩ := gd_e hf
                    refine x_zald (k := 503) (n := 0) hx hb hK hP (mk_503 h01) rfl g15 dX10_close_149 ?_
                    refine lv_if_eq (tgt := 157) hx hb dX10_close_150 rfl (fun hc => ?_) (fun hc => ?_)
                    · have hf := b_p hf hc
                      refine lv_iconst (v := (0 : Int32)) hx hb dX10_close_157 rfl ?_
                      obtain ⟨g16, hf⟩ := gd_e hf
                      refine x_zast (k := 503) (n := 0) hx hb hK hD hP hS (mk_503 h01) rfl (by decide) g16 dX10_close_158 (fun H locs hP hS => ?_)
                      obtain ⟨σ17, e_σ17, hf⟩ := nm_i hf
                      have hP : va_P G vwCl (wld ad ca σ17 LM) H := by rw [e_σ17]; exact hP
                      refine lv_iinc (v := (v3 + (1 : Int32))) (lv' := [(3, .int (v3 + (1 : Int32))), (0, .ref (ad 500 0)), (1, .int v1), (2, .int v2)]) hx hb dX10_close_159 hl (k := 3) rfl rfl (by decide) rfl (fun ls hl => ?_)
                      refine lv_goto (tgt := 95) hx hb dX10_close_162 rfl ?_
                      exact ih95 v1 v2 (v3 + (1 : Int32)) σ17 H locs ls  hf (lv_sub hl [1, 2, 3, 0] rfl) hP hS
                    · have hf := b_n hf hc
                      refine lv_iconst (v := (1 : Int32)) hx hb dX10_close_153 rfl ?_
                      refine lv_goto (tgt := 158) hx hb dX10_close_154 rfl ?_
                      obtain ⟨g18, hf⟩ := gd_e hf
                      refine x_zast (k := 503) (n := 0) hx hb hK hD hP hS (mk_503 h01) rfl (by decide) g18 dX10_close_158 (fun H locs hP hS => ?_)
                      obtain ⟨σ19, e_σ19, hf⟩ := nm_i hf
                      have hP : va_P G vwCl (wld ad ca σ19 LM) H := by rw [e_σ19]; exact hP
                      refine lv_iinc (v := (v3 + (1 : Int32))) (lv' := [(3, .int (v3 + (1 : Int32))), (0, .ref (ad 500 0)), (1, .int v1), (2, .int v2)]) hx hb dX10_close_159 hl (k := 3) rfl rfl (by decide) rfl (fun ls hl => ?_)
                      refine lv_goto (tgt := 95) hx hb dX10_close_162 rfl ?_
                      exact ih95 v1 v2 (v3 + (1 : Int32)) σ19 H locs ls  hf (lv_sub hl [1, 2, 3, 0] rfl) hP hS
          have c165 : ∀ (v1 : Int32) (v2 : Int32) (σ : PS) (H : Heap) (locs : List Loc) (ls : Array Slot), X10_close_c165  (X10_close_l87  kx87 n87) kx87 v1 v2 σ = some (res, σz) → lv_has ls 4 [(0, .ref (ad 500 0)), (1, .int v1), (2, .int v2)] → va_P G vwCl (wld ad ca σ LM) H → va_S A s.heap H locs → W p l e (headSpec wsX10_close ({ frames := 0, cells := 0, slots := 0, locals := 0 })).room s m (([.ref (ad 500 0)] : List Value).toArray) below meth c H locs 0 0 (MQ below (va_Qi (fun r' u => r' = res ∧ u = σz) (ctB G ad ca LM) A) (([.ref (ad 500 0)] : List Value).toArray) s 0 0 A) (F0 m 165 ls []) := by
            intro v1 v2 σ H locs ls hf hl hP hS
            unfold X10_close_c165 at hf
            refine lv_iinc (v := (v2 + (1 : Int32))) (lv' := [(2, .int (v2 + (1 : Int32))), (0, .ref (ad 500 0)), (1, .int v1)]) hx hb dX10_close_165 hl (k := 2) rfl rfl (by decide) rfl (fun ls hl => ?_)
            refine lv_goto (tgt := 87) hx hb dX10_close_168 rfl ?_
            exact ih87 v1 (v2 + (1 : Int32)) σ H locs ls  hf (lv_sub hl [1, 2, 0] rfl) hP hS
          refine lv_iload_n hx hb dX10_close_87 rfl (lv_at hl 2 rfl) ?_
          refine lv_bipush (v := (16 : Int32)) hx hb dX10_close_88 rfl ?_
          refine lv_icmp_ge (tgt := 171) hx hb dX10_close_90 rfl (fun hc => ?_) (fun hc => ?_)
          · have hf := b_p hf hc
            exact hx87 v1 σ H locs ls  hf (lv_sub hl [0, 1] rfl) hP hS
          · have hf := b_n hf hc
            refine lv_iconst (v := (0 : Int32)) hx hb dX10_close_93 rfl ?_
            refine lv_istore_n (lv' := [(3, .int (0 : Int32)), (0, .ref (ad 500 0)), (1, .int v1), (2, .int v2)]) hx hb dX10_close_94 rfl hl (by decide) rfl (fun ls hl => ?_)
            exact l95 _ c165 _ v1 v2 (0 : Int32) σ H locs ls  hf (lv_sub hl [1, 2, 3, 0] rfl) hP hS
      have c171 : ∀ (v1 : Int32) (σ : PS) (H : Heap) (locs : List Loc) (ls : Array Slot), X10_close_c171  (X10_close_l79  kx79 n79) kx79 v1 σ = some (res, σz) → lv_has ls 4 [(0, .ref (ad 500 0)), (1, .int v1)] → va_P G vwCl (wld ad ca σ LM) H → va_S A s.heap H locs → W p l e (headSpec wsX10_close ({ frames := 0, cells := 0, slots := 0, locals := 0 })).room s m (([.ref (ad 500 0)] : List Value).toArray) below meth c H locs 0 0 (MQ below (va_Qi (fun r' u => r' = res ∧ u = σz) (ctB G ad ca LM) A) (([.ref (ad 500 0)] : List Value).toArray) s 0 0 A) (F0 m 171 ls []) := by
        intro v1 σ H locs ls hf hl hP hS
        unfold X10_close_c171 at hf
        refine lv_iinc (v := (v1 + (1 : Int32))) (lv' := [(1, .int (v1 + (1 : Int32))), (0, .ref (ad 500 0))]) hx hb dX10_close_171 hl (k := 1) rfl rfl (by decide) rfl (fun ls hl => ?_)
        refine lv_goto (tgt := 79) hx hb dX10_close_174 rfl ?_
        exact ih79 (v1 + (1 : Int32)) σ H locs ls  hf (lv_sub hl [1, 0] rfl) hP hS
      refine lv_iload_n hx hb dX10_close_79 rfl (lv_at hl 1 rfl) ?_
      refine lv_bipush (v := (16 : Int32)) hx hb dX10_close_80 rfl ?_
      refine lv_icmp_ge (tgt := 177) hx hb dX10_close_82 rfl (fun hc => ?_) (fun hc => ?_)
      · have hf := b_p hf hc
        exact hx79  σ H locs ls  hf (lv_sub hl [0] rfl) hP hS
      · have hf := b_n hf hc
        refine lv_iconst (v := (0 : Int32)) hx hb dX10_close_85 rfl ?_
        refine lv_istore_n (lv' := [(2, .int (0 : Int32)), (0, .ref (ad 500 0)), (1, .int v1)]) hx hb dX10_close_86 rfl hl (by decide) rfl (fun ls hl => ?_)
        exact l87 _ c171 _ v1 (0 : Int32) σ H locs ls  hf (lv_sub hl [1, 2, 0] rfl) hP hS
  have l179 : ∀ (kx179 : PS → Option (Int32 × PS)), (∀ (σ : PS) (H : Heap) (locs : List Loc) (ls : Array Slot), kx179 σ = some (res, σz) → lv_has ls 4 [(0, .ref (ad 500 0))] → va_P G vwCl (wld ad ca σ LM) H → va_S A s.heap H locs → W p l e (headSpec wsX10_close ({ frames := 0, cells := 0, slots := 0, locals := 0 })).room s m (([.ref (ad 500 0)] : List Value).toArray) below meth c H locs 0 0 (MQ below (va_Qi (fun r' u => r' = res ∧ u = σz) (ctB G ad ca LM) A) (([.ref (ad 500 0)] : List Value).toArray) s 0 0 A) (F0 m 206 ls [])) → ∀ (n179 : Nat) (v1 : Int32) (σ : PS) (H : Heap) (locs : List Loc) (ls : Array Slot), X10_close_l179  kx179 n179 v1 σ = some (res, σz) → lv_has ls 4 [(0, .ref (ad 500 0)), (1, .int v1)] → va_P G vwCl (wld ad ca σ LM) H → va_S A s.heap H locs → W p l e (headSpec wsX10_close ({ frames := 0, cells := 0, slots := 0, locals := 0 })).room s m (([.ref (ad 500 0)] : List Value).toArray) below meth c H locs 0 0 (MQ below (va_Qi (fun r' u => r' = res ∧ u = σz) (ctB G ad ca LM) A) (([.ref (ad 500 0)] : List Value).toArray) s 0 0 A) (F0 m 179 ls []) := by
    intro kx179 hx179 n179
    induction n179 with
    | zero =>
      intro v1 σ H locs ls hf
      exact absurd hf (by simp [X10_close_l179])
    | succ n179 ih179 =>
      intro v1 σ H locs ls hf hl hP hS
      rw [X10_close_l179.eq_2] at hf
      refine lv_iload_n hx hb dX10_close_179 rfl (lv_at hl 1 rfl) ?_
      refine lv_bipush (v := (16 : Int32)) hx hb dX10_close_180 rfl ?_
      refine lv_icmp_ge (tgt := 206) hx hb dX10_close_182 rfl (fun hc => ?_) (fun hc => ?_)
      · have hf := b_p hf hc
        exact hx179  σ H locs ls  hf (lv_sub hl [0] rfl) hP hS
      · have hf := b_n hf hc
        refine lv_aload_n hx hb dX10_close_185 rfl (lv_at hl 0 rfl) ?_
        refine x_get (k := 500) (n := 0) hx hb hts i_X10 hown hK hP (mk_500 h01) rfl rfl 2 (by decide) rfl k_17 (v := .ref (ad 503 0)) rfl dX10_close_186 ?_
        refine lv_bipush (v := (17 : Int32)) hx hb dX10_close_189 rfl ?_
        refine lv_iload_n hx hb dX10_close_191 rfl (lv_at hl 1 rfl) ?_
        refine lv_imul hx hb dX10_close_192 ?_
        obtain ⟨g20, hf⟩ := gd_e hf
        refine x_zald (k := 503) (n := 0) hx hb hK hP (mk_503 h01) rfl g20 dX10_close_193 ?_
        refine lv_if_eq (tgt := 200) hx hb dX10_close_194 rfl (fun hc => ?_) (fun hc => ?_)
        · have hf := b_p hf hc
          refine lv_iinc (v := (v1 + (1 : Int32))) (lv' := [(1, .int (v1 + (1 : Int32))), (0, .ref (ad 500 0))]) hx hb dX10_close_200 hl (k := 1) rfl rfl (by decide) rfl (fun ls hl => ?_)
          refine lv_goto (tgt := 179) hx hb dX10_close_203 rfl ?_
          exact ih179 (v1 + (1 : Int32)) σ H locs ls  hf (lv_sub hl [1, 0] rfl) hP hS
        · have hf := b_n hf hc
          refine lv_bipush (v := (-5 : Int32)) hx hb dX10_close_197 rfl ?_
          have hf := Option.some.inj hf
          exact x_iret hx hb hr hlocks hK hP hS (congrArg Prod.fst hf) (congrArg Prod.snd hf) dX10_close_199
  have l208 : ∀ (kx208 : PS → Option (Int32 × PS)), (∀ (σ : PS) (H : Heap) (locs : List Loc) (ls : Array Slot), kx208 σ = some (res, σz) → lv_has ls 4 [(0, .ref (ad 500 0))] → va_P G vwCl (wld ad ca σ LM) H → va_S A s.heap H locs → W p l e (headSpec wsX10_close ({ frames := 0, cells := 0, slots := 0, locals := 0 })).room s m (([.ref (ad 500 0)] : List Value).toArray) below meth c H locs 0 0 (MQ below (va_Qi (fun r' u => r' = res ∧ u = σz) (ctB G ad ca LM) A) (([.ref (ad 500 0)] : List Value).toArray) s 0 0 A) (F0 m 230 ls [])) → ∀ (n208 : Nat) (v1 : Int32) (σ : PS) (H : Heap) (locs : List Loc) (ls : Array Slot), X10_close_l208  kx208 n208 v1 σ = some (res, σz) → lv_has ls 4 [(0, .ref (ad 500 0)), (1, .int v1)] → va_P G vwCl (wld ad ca σ LM) H → va_S A s.heap H locs → W p l e (headSpec wsX10_close ({ frames := 0, cells := 0, slots := 0, locals := 0 })).room s m (([.ref (ad 500 0)] : List Value).toArray) below meth c H locs 0 0 (MQ below (va_Qi (fun r' u => r' = res ∧ u = σz) (ctB G ad ca LM) A) (([.ref (ad 500 0)] : List Value).toArray) s 0 0 A) (F0 m 208 ls []) := by
    intro kx208 hx208 n208
    induction n208 with
    | zero =>
      intro v1 σ H locs ls hf
      exact absurd hf (by simp [X10_close_l208])
    | succ n208 ih208 =>
      intro v1 σ H locs ls hf hl hP hS
      rw [X10_close_l208.eq_2] at hf
      refine lv_iload_n hx hb dX10_close_208 rfl (lv_at hl 1 rfl) ?_
      refine lv_bipush (v := (16 : Int32)) hx hb dX10_close_209 rfl ?_
      refine lv_icmp_ge (tgt := 230) hx hb dX10_close_211 rfl (fun hc => ?_) (fun hc => ?_)
      · have hf := b_p hf hc
        exact hx208  σ H locs ls  hf (lv_sub hl [0] rfl) hP hS
      · have hf := b_n hf hc
        refine lv_aload_n hx hb dX10_close_214 rfl (lv_at hl 0 rfl) ?_
        refine x_get (k := 500) (n := 0) hx hb hts i_X10 hown hK hP (mk_500 h01) rfl rfl 2 (by decide) rfl k_17 (v := .ref (ad 503 0)) rfl dX10_close_215 ?_
        refine lv_bipush (v := (17 : Int32)) hx hb dX10_close_218 rfl ?_
        refine lv_iload_n hx hb dX10_close_220 rfl (lv_at hl 1 rfl) ?_
        refine lv_imul hx hb dX10_close_221 ?_
        refine lv_iconst (v := (1 : Int32)) hx hb dX10_close_222 rfl ?_
        obtain ⟨g21, hf⟩ := gd_e hf
        refine x_zast (k := 503) (n := 0) hx hb hK hD hP hS (mk_503 h01) rfl (by decide) g21 dX10_close_223 (fun H locs hP hS => ?_)
        obtain ⟨σ22, e_σ22, hf⟩ := nm_i hf
        have hP : va_P G vwCl (wld ad ca σ22 LM) H := by rw [e_σ22]; exact hP
        refine lv_iinc (v := (v1 + (1 : Int32))) (lv' := [(1, .int (v1 + (1 : Int32))), (0, .ref (ad 500 0))]) hx hb dX10_close_224 hl (k := 1) rfl rfl (by decide) rfl (fun ls hl => ?_)
        refine lv_goto (tgt := 208) hx hb dX10_close_227 rfl ?_
        exact ih208 (v1 + (1 : Int32)) σ22 H locs ls  hf (lv_sub hl [1, 0] rfl) hP hS
  have c230 : ∀ (σ : PS) (H : Heap) (locs : List Loc) (ls : Array Slot), X10_close_c230   σ = some (res, σz) → lv_has ls 4 [(0, .ref (ad 500 0))] → va_P G vwCl (wld ad ca σ LM) H → va_S A s.heap H locs → W p l e (headSpec wsX10_close ({ frames := 0, cells := 0, slots := 0, locals := 0 })).room s m (([.ref (ad 500 0)] : List Value).toArray) below meth c H locs 0 0 (MQ below (va_Qi (fun r' u => r' = res ∧ u = σz) (ctB G ad ca LM) A) (([.ref (ad 500 0)] : List Value).toArray) s 0 0 A) (F0 m 230 ls []) := by
    intro σ H locs ls hf hl hP hS
    unfold X10_close_c230 at hf
    refine lv_aload_n hx hb dX10_close_230 rfl (lv_at hl 0 rfl) ?_
    refine lv_iconst (v := (1 : Int32)) hx hb dX10_close_231 rfl ?_
    refine x_putI (k := 500) (n := 0) hx hb hts i_X10 tyX10 tyX10_ok nmX10 hown hK hD hP hS (mk_500 h01) rfl rfl 4 (by decide) rfl k_110 rfl rfl rfl rfl dX10_close_232 (fun H locs hP hS => ?_)
    obtain ⟨σ23, e_σ23, hf⟩ := nm_i hf
    have hP : va_P G vwCl (wld ad ca σ23 LM) H := by rw [e_σ23]; exact hP
    refine lv_iconst (v := (1 : Int32)) hx hb dX10_close_235 rfl ?_
    have hf := Option.some.inj hf
    exact x_iret hx hb hr hlocks hK hP hS (congrArg Prod.fst hf) (congrArg Prod.snd hf) dX10_close_236
  have c206 : ∀ (σ : PS) (H : Heap) (locs : List Loc) (ls : Array Slot), X10_close_c206   σ = some (res, σz) → lv_has ls 4 [(0, .ref (ad 500 0))] → va_P G vwCl (wld ad ca σ LM) H → va_S A s.heap H locs → W p l e (headSpec wsX10_close ({ frames := 0, cells := 0, slots := 0, locals := 0 })).room s m (([.ref (ad 500 0)] : List Value).toArray) below meth c H locs 0 0 (MQ below (va_Qi (fun r' u => r' = res ∧ u = σz) (ctB G ad ca LM) A) (([.ref (ad 500 0)] : List Value).toArray) s 0 0 A) (F0 m 206 ls []) := by
    intro σ H locs ls hf hl hP hS
    unfold X10_close_c206 at hf
    refine lv_iconst (v := (0 : Int32)) hx hb dX10_close_206 rfl ?_
    refine lv_istore_n (lv' := [(1, .int (0 : Int32)), (0, .ref (ad 500 0))]) hx hb dX10_close_207 rfl hl (by decide) rfl (fun ls hl => ?_)
    exact l208 _ c230 _ (0 : Int32) σ H locs ls  hf (lv_sub hl [1, 0] rfl) hP hS
  have c177 : ∀ (σ : PS) (H : Heap) (locs : List Loc) (ls : Array Slot), X10_close_c177   σ = some (res, σz) → lv_has ls 4 [(0, .ref (ad 500 0))] → va_P G vwCl (wld ad ca σ LM) H → va_S A s.heap H locs → W p l e (headSpec wsX10_close ({ frames := 0, cells := 0, slots := 0, locals := 0 })).room s m (([.ref (ad 500 0)] : List Value).toArray) below meth c H locs 0 0 (MQ below (va_Qi (fun r' u => r' = res ∧ u = σz) (ctB G ad ca LM) A) (([.ref (ad 500 0)] : List Value).toArray) s 0 0 A) (F0 m 177 ls []) := by
    intro σ H locs ls hf hl hP hS
    unfold X10_close_c177 at hf
    refine lv_iconst (v := (0 : Int32)) hx hb dX10_close_177 rfl ?_
    refine lv_istore_n (lv' := [(1, .int (0 : Int32)), (0, .ref (ad 500 0))]) hx hb dX10_close_178 rfl hl (by decide) rfl (fun ls hl => ?_)
    exact l179 _ c206 _ (0 : Int32) σ H locs ls  hf (lv_sub hl [1, 0] rfl) hP hS
  have c77 : ∀ (σ : PS) (H : Heap) (locs : List Loc) (ls : Array Slot), X10_close_c77   σ = some (res, σz) → lv_has ls 4 [(0, .ref (ad 500 0))] → va_P G vwCl (wld ad ca σ LM) H → va_S A s.heap H locs → W p l e (headSpec wsX10_close ({ frames := 0, cells := 0, slots := 0, locals := 0 })).room s m (([.ref (ad 500 0)] : List Value).toArray) below meth c H locs 0 0 (MQ below (va_Qi (fun r' u => r' = res ∧ u = σz) (ctB G ad ca LM) A) (([.ref (ad 500 0)] : List Value).toArray) s 0 0 A) (F0 m 77 ls []) := by
    intro σ H locs ls hf hl hP hS
    unfold X10_close_c77 at hf
    refine lv_iconst (v := (0 : Int32)) hx hb dX10_close_77 rfl ?_
    refine lv_istore_n (lv' := [(1, .int (0 : Int32)), (0, .ref (ad 500 0))]) hx hb dX10_close_78 rfl hl (by decide) rfl (fun ls hl => ?_)
    exact l79 _ c177 _ (0 : Int32) σ H locs ls  hf (lv_sub hl [1, 0] rfl) hP hS
  have c37 : ∀ (σ : PS) (H : Heap) (locs : List Loc) (ls : Array Slot), X10_close_c37   σ = some (res, σz) → lv_has ls 4 [(0, .ref (ad 500 0))] → va_P G vwCl (wld ad ca σ LM) H → va_S A s.heap H locs → W p l e (headSpec wsX10_close ({ frames := 0, cells := 0, slots := 0, locals := 0 })).room s m (([.ref (ad 500 0)] : List Value).toArray) below meth c H locs 0 0 (MQ below (va_Qi (fun r' u => r' = res ∧ u = σz) (ctB G ad ca LM) A) (([.ref (ad 500 0)] : List Value).toArray) s 0 0 A) (F0 m 37 ls []) := by
    intro σ H locs ls hf hl hP hS
    unfold X10_close_c37 at hf
    refine lv_iconst (v := (0 : Int32)) hx hb dX10_close_37 rfl ?_
    refine lv_istore_n (lv' := [(1, .int (0 : Int32)), (0, .ref (ad 500 0))]) hx hb dX10_close_38 rfl hl (by decide) rfl (fun ls hl => ?_)
    exact l39 _ c77 _ (0 : Int32) σ H locs ls  hf (lv_sub hl [1, 0] rfl) hP hS
  refine lv_aload_n hx hb dX10_close_0 rfl (lv_at hl 0 rfl) ?_
  refine x_get (k := 500) (n := 0) hx hb hts i_X10 hown hK hP (mk_500 h01) rfl rfl 4 (by decide) rfl k_110 (v := .int (gI σ 500 0 4)) rfl dX10_close_1 ?_
  refine lv_if_eq (tgt := 10) hx hb dX10_close_4 rfl (fun hc => ?_) (fun hc => ?_)
  · have hf := b_p hf hc
    refine lv_iconst (v := (0 : Int32)) hx hb dX10_close_10 rfl ?_
    refine lv_istore_n (lv' := [(1, .int (0 : Int32)), (0, .ref (ad 500 0))]) hx hb dX10_close_11 rfl hl (by decide) rfl (fun ls hl => ?_)
    exact l12 _ c37 _ (0 : Int32) σ H locs ls  hf (lv_sub hl [1, 0] rfl) hP hS
  · have hf := b_n hf hc
    refine lv_bipush (v := (-3 : Int32)) hx hb dX10_close_7 rfl ?_
    have hf := Option.some.inj hf
    exact x_iret hx hb hr hlocks hK hP hS (congrArg Prod.fst hf) (congrArg Prod.snd hf) dX10_close_9

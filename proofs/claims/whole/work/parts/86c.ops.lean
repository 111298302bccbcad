theorem op_order {p : Program} {l : Launch} {e : Env} {s : State} {m : MethodId} {below : List Frame} {meth : Method} {c : Code} {b L k : Nat} {xs : Nat → Int32} {G : va_G} {ca : Nat → ClassId} {M : Nat → Prop} {ad bd : Nat → Nat → Nat} {z : Nat × Nat} {σ τ : PS} {H : Heap} {locs : List Loc} {ls : Array Slot} (hL : L ≤ 2560) (C0 : lw_At p s m meth c b L xs) (hK : va_K G vwCl (tyL ca) s) (hz : ZC s) (hk : 5 * k + 5 ≤ L) (hI : LI s G ca M b k ad bd z σ τ H locs ls) (next : NX p l e s m below meth c b k G ca M ad bd ls) : W p l e room_1 s m #[Value.ref b] below meth c H locs (60 + 9 * k) (6060 + 105 * k) (lw_Z below #[Value.ref b] s) (F0 m 776 ls []) := by
  obtain ⟨hx, hb, hr, hml, hown, hts0, hX, hbl, hlocks, hgv⟩ := C0
  have hts : ∀ w ∈ WW, w.before #[Value.ref b] s = true := fun w h => hts0 w (List.mem_filter.mp h).1
  have hown : s.vm.findClass RL = some m.cls := hown
  obtain ⟨hR, hP, hQ, hD, hE, hM, hS, hl⟩ := hI
  obtain ⟨r, τ', e1, e2, hR'⟩ := m_order hR (xs (5 * k + 1)) (xs (5 * k + 2))
  refine lv_aload_n hx hb dL_law_776 rfl (lv_at hl 1 rfl) ?_
  refine lw_arg hx hb hX hbl hS (lv_at hl 0 rfl) (lv_at hl 3 rfl) 1 (by decide) hk hL (v := (1 : Int32)) rfl dL_law_777 dL_law_778 (fun rest kk => lv_iconst (v := (1 : Int32)) hx hb dL_law_779 rfl kk) dL_law_780 dL_law_781 ?_
  refine lw_arg hx hb hX hbl hS (lv_at hl 0 rfl) (lv_at hl 3 rfl) 2 (by decide) hk hL (v := (2 : Int32)) rfl dL_law_782 dL_law_783 (fun rest kk => lv_iconst (v := (2 : Int32)) hx hb dL_law_784 rfl kk) dL_law_785 dL_law_786 ?_
  refine y_ci (va_runV (As := [.int (xs (5 * k + 1)), .int (xs (5 * k + 2))]) (rest := []) ⟨hx, hb, hml, hown, hts⟩ (t_X9_order l G ad ca _ z (xs (5 * k + 1)) (xs (5 * k + 2)) hD σ r e1) (cwV 2 hts gr_L_93 rfl rfl rfl h9_X9_order ⟨Nat.le_of_ble_eq_true rfl, Nat.le_of_ble_eq_true rfl⟩) (x_prV zkC hz hK hP (mk_450 h01) rfl rfl) rfl rfl hl.1 rfl (lv_room (Nat.le_of_ble_eq_true rfl)) dL_law_787 ⟨by show 60 + 9 * k + 0 ≤ 600000; omega, by show 6060 + 105 * k + 0 ≤ 7302250; omega⟩) hS (fun q h => h.1) hQ hE (fun q h h' => h'.2 h.2) (fun H1 locs1 hP hQ hz1 hS => ?_)
  refine lv_aload_n hx hb dL_law_790 rfl (lv_at hl 2 rfl) ?_
  refine lw_arg hx hb hX hbl hS (lv_at hl 0 rfl) (lv_at hl 3 rfl) 1 (by decide) hk hL (v := (1 : Int32)) rfl dL_law_791 dL_law_792 (fun rest kk => lv_iconst (v := (1 : Int32)) hx hb dL_law_793 rfl kk) dL_law_794 dL_law_795 ?_
  refine lw_arg hx hb hX hbl hS (lv_at hl 0 rfl) (lv_at hl 3 rfl) 2 (by decide) hk hL (v := (2 : Int32)) rfl dL_law_796 dL_law_797 (fun rest kk => lv_iconst (v := (2 : Int32)) hx hb dL_law_798 rfl kk) dL_law_799 dL_law_800 ?_
  refine y_ci (va_runV (As := [.int (xs (5 * k + 1)), .int (xs (5 * k + 2))]) (rest := [.int r]) ⟨hx, hb, hml, hown, hts⟩ (t_X10_order l G bd ca _ (xs (5 * k + 1)) (xs (5 * k + 2)) hE τ r τ' e2) (cwV 2 hts gr_L_96 rfl rfl rfl h9_X10_order ⟨Nat.le_of_ble_eq_true rfl, Nat.le_of_ble_eq_true rfl⟩) (x_prV zkM trivial hK hQ (mk_500 h01) rfl rfl) rfl rfl hl.1 rfl (lv_room (Nat.le_of_ble_eq_true rfl)) dL_law_801 ⟨by show 60 + 9 * k + 0 ≤ 600000; omega, by show 6060 + 105 * k + 0 ≤ 7302250; omega⟩) hS (fun q h => h.1) hP hD (fun q h h' => h.2 h'.2) (fun H2 locs2 hQ hP hz2 hS => ?_)
  refine lv_icmp_eq (tgt := 1164) hx hb dL_law_804 rfl (fun _ => ?_) (fun hc => absurd rfl hc)
  refine W.widen (k := 60 + 9 * k + 9) (n := 6060 + 105 * k + 105) (by omega) (by omega) ?_
  exact next ad z σ τ' _ _ rfl (RR_t hR' (by omega)) hP hQ hD (fun q h => Nat.lt_of_lt_of_le (hM q h) (Nat.le_trans hz1 hz2)) hS
theorem op_arg {p : Program} {l : Launch} {e : Env} {s : State} {m : MethodId} {below : List Frame} {meth : Method} {c : Code} {b L k : Nat} {xs : Nat → Int32} {G : va_G} {ca : Nat → ClassId} {M : Nat → Prop} {ad bd : Nat → Nat → Nat} {z : Nat × Nat} {σ τ : PS} {H : Heap} {locs : List Loc} {ls : Array Slot} (hL : L ≤ 2560) (C0 : lw_At p s m meth c b L xs) (hK : va_K G vwCl (tyL ca) s) (hz : ZC s) (hk : 5 * k + 5 ≤ L) (hI : LI s G ca M b k ad bd z σ τ H locs ls) (next : NX p l e s m below meth c b k G ca M ad bd ls) : W p l e room_1 s m #[Value.ref b] below meth c H locs (60 + 9 * k) (6060 + 105 * k) (lw_Z below #[Value.ref b] s) (F0 m 809 ls []) := by
  obtain ⟨hx, hb, hr, hml, hown, hts0, hX, hbl, hlocks, hgv⟩ := C0
  have hts : ∀ w ∈ WW, w.before #[Value.ref b] s = true := fun w h => hts0 w (List.mem_filter.mp h).1
  have hown : s.vm.findClass RL = some m.cls := hown
  obtain ⟨hR, hP, hQ, hD, hE, hM, hS, hl⟩ := hI
  obtain ⟨r, σ', τ', e1, e2, hR'⟩ := m_arg hR (xs (5 * k + 1)) (xs (5 * k + 2))
  refine lv_aload_n hx hb dL_law_809 rfl (lv_at hl 1 rfl) ?_
  refine lw_arg hx hb hX hbl hS (lv_at hl 0 rfl) (lv_at hl 3 rfl) 1 (by decide) hk hL (v := (1 : Int32)) rfl dL_law_810 dL_law_811 (fun rest kk => lv_iconst (v := (1 : Int32)) hx hb dL_law_812 rfl kk) dL_law_813 dL_law_814 ?_
  refine lw_arg hx hb hX hbl hS (lv_at hl 0 rfl) (lv_at hl 3 rfl) 2 (by decide) hk hL (v := (2 : Int32)) rfl dL_law_815 dL_law_816 (fun rest kk => lv_iconst (v := (2 : Int32)) hx hb dL_law_817 rfl kk) dL_law_818 dL_law_819 ?_
  refine y_ci (va_runV (As := [.int (xs (5 * k + 1)), .int (xs (5 * k + 2))]) (rest := []) ⟨hx, hb, hml, hown, hts⟩ (t_X9_arg l G ad ca _ z (xs (5 * k + 1)) (xs (5 * k + 2)) hD σ r σ' e1) (cwV 2 hts gr_L_97 rfl rfl rfl h9_X9_arg ⟨Nat.le_of_ble_eq_true rfl, Nat.le_of_ble_eq_true rfl⟩) (x_prV zkC hz hK hP (mk_450 h01) rfl rfl) rfl rfl hl.1 rfl (lv_room (Nat.le_of_ble_eq_true rfl)) dL_law_820 ⟨by show 60 + 9 * k + 0 ≤ 600000; omega, by show 6060 + 105 * k + 0 ≤ 7302250; omega⟩) hS (fun q h => h.1) hQ hE (fun q h h' => h'.2 h.2) (fun H1 locs1 hP hQ hz1 hS => ?_)
  refine lv_aload_n hx hb dL_law_823 rfl (lv_at hl 2 rfl) ?_
  refine lw_arg hx hb hX hbl hS (lv_at hl 0 rfl) (lv_at hl 3 rfl) 1 (by decide) hk hL (v := (1 : Int32)) rfl dL_law_824 dL_law_825 (fun rest kk => lv_iconst (v := (1 : Int32)) hx hb dL_law_826 rfl kk) dL_law_827 dL_law_828 ?_
  refine lw_arg hx hb hX hbl hS (lv_at hl 0 rfl) (lv_at hl 3 rfl) 2 (by decide) hk hL (v := (2 : Int32)) rfl dL_law_829 dL_law_830 (fun rest kk => lv_iconst (v := (2 : Int32)) hx hb dL_law_831 rfl kk) dL_law_832 dL_law_833 ?_
  refine y_ci (va_runV (As := [.int (xs (5 * k + 1)), .int (xs (5 * k + 2))]) (rest := [.int r]) ⟨hx, hb, hml, hown, hts⟩ (t_X10_arg l G bd ca _ (xs (5 * k + 1)) (xs (5 * k + 2)) hE τ r τ' e2) (cwV 2 hts gr_L_100 rfl rfl rfl h9_X10_arg ⟨Nat.le_of_ble_eq_true rfl, Nat.le_of_ble_eq_true rfl⟩) (x_prV zkM trivial hK hQ (mk_500 h01) rfl rfl) rfl rfl hl.1 rfl (lv_room (Nat.le_of_ble_eq_true rfl)) dL_law_834 ⟨by show 60 + 9 * k + 0 ≤ 600000; omega, by show 6060 + 105 * k + 0 ≤ 7302250; omega⟩) hS (fun q h => h.1) hP hD (fun q h h' => h.2 h'.2) (fun H2 locs2 hQ hP hz2 hS => ?_)
  refine lv_icmp_eq (tgt := 1164) hx hb dL_law_837 rfl (fun _ => ?_) (fun hc => absurd rfl hc)
  refine W.widen (k := 60 + 9 * k + 9) (n := 6060 + 105 * k + 105) (by omega) (by omega) ?_
  exact next ad z σ' τ' _ _ rfl (RR_t hR' (by omega)) hP hQ hD (fun q h => Nat.lt_of_lt_of_le (hM q h) (Nat.le_trans hz1 hz2)) hS
theorem op_call {p : Program} {l : Launch} {e : Env} {s : State} {m : MethodId} {below : List Frame} {meth : Method} {c : Code} {b L k : Nat} {xs : Nat → Int32} {G : va_G} {ca : Nat → ClassId} {M : Nat → Prop} {ad bd : Nat → Nat → Nat} {z : Nat × Nat} {σ τ : PS} {H : Heap} {locs : List Loc} {ls : Array Slot} (hL : L ≤ 2560) (C0 : lw_At p s m meth c b L xs) (hK : va_K G vwCl (tyL ca) s) (hz : ZC s) (hk : 5 * k + 5 ≤ L) (hI : LI s G ca M b k ad bd z σ τ H locs ls) (next : NX p l e s m below meth c b k G ca M ad bd ls) : W p l e room_1 s m #[Value.ref b] below meth c H locs (60 + 9 * k) (6060 + 105 * k) (lw_Z below #[Value.ref b] s) (F0 m 842 ls []) := by
  obtain ⟨hx, hb, hr, hml, hown, hts0, hX, hbl, hlocks, hgv⟩ := C0
  have hts : ∀ w ∈ WW, w.before #[Value.ref b] s = true := fun w h => hts0 w (List.mem_filter.mp h).1
  have hown : s.vm.findClass RL = some m.cls := hown
  obtain ⟨hR, hP, hQ, hD, hE, hM, hS, hl⟩ := hI
  obtain ⟨r, σ', τ', e1, e2, hR'⟩ := m_call hR (by omega) (xs (5 * k + 1))
  refine lv_aload_n hx hb dL_law_842 rfl (lv_at hl 1 rfl) ?_
  refine lw_arg hx hb hX hbl hS (lv_at hl 0 rfl) (lv_at hl 3 rfl) 1 (by decide) hk hL (v := (1 : Int32)) rfl dL_law_843 dL_law_844 (fun rest kk => lv_iconst (v := (1 : Int32)) hx hb dL_law_845 rfl kk) dL_law_846 dL_law_847 ?_
  refine y_ci (va_runV (As := [.int (xs (5 * k + 1))]) (rest := []) ⟨hx, hb, hml, hown, hts⟩ (t_X9_call l G ad ca _ z (xs (5 * k + 1)) hD σ r σ' e1) (cwV 1 hts gr_L_101 rfl rfl rfl h9_X9_call ⟨Nat.le_of_ble_eq_true rfl, Nat.le_of_ble_eq_true rfl⟩) (x_prV zkC hz hK hP (mk_450 h01) rfl rfl) rfl rfl hl.1 rfl (lv_room (Nat.le_of_ble_eq_true rfl)) dL_law_848 ⟨by show 60 + 9 * k + 0 ≤ 600000; omega, by show 6060 + 105 * k + 0 ≤ 7302250; omega⟩) hS (fun q h => h.1) hQ hE (fun q h h' => h'.2 h.2) (fun H1 locs1 hP hQ hz1 hS => ?_)
  refine lv_aload_n hx hb dL_law_851 rfl (lv_at hl 2 rfl) ?_
  refine lw_arg hx hb hX hbl hS (lv_at hl 0 rfl) (lv_at hl 3 rfl) 1 (by decide) hk hL (v := (1 : Int32)) rfl dL_law_852 dL_law_853 (fun rest kk => lv_iconst (v := (1 : Int32)) hx hb dL_law_854 rfl kk) dL_law_855 dL_law_856 ?_
  refine y_ci (va_runV (As := [.int (xs (5 * k + 1))]) (rest := [.int r]) ⟨hx, hb, hml, hown, hts⟩ (t_X10_call l G bd ca _ (xs (5 * k + 1)) hE τ r τ' e2) (cwV 1 hts gr_L_104 rfl rfl rfl h9_X10_call ⟨Nat.le_of_ble_eq_true rfl, Nat.le_of_ble_eq_true rfl⟩) (x_prV zkM trivial hK hQ (mk_500 h01) rfl rfl) rfl rfl hl.1 rfl (lv_room (Nat.le_of_ble_eq_true rfl)) dL_law_857 ⟨by show 60 + 9 * k + 0 ≤ 600000; omega, by show 6060 + 105 * k + 0 ≤ 7302250; omega⟩) hS (fun q h => h.1) hP hD (fun q h h' => h.2 h'.2) (fun H2 locs2 hQ hP hz2 hS => ?_)
  refine lv_icmp_eq (tgt := 1164) hx hb dL_law_860 rfl (fun _ => ?_) (fun hc => absurd rfl hc)
  refine W.widen (k := 60 + 9 * k + 9) (n := 6060 + 105 * k + 105) (by omega) (by omega) ?_
  exact next ad z σ' τ' _ _ rfl (RR_t hR' (by omega)) hP hQ hD (fun q h => Nat.lt_of_lt_of_le (hM q h) (Nat.le_trans hz1 hz2)) hS
theorem op_value {p : Program} {l : Launch} {e : Env} {s : State} {m : MethodId} {below : List Frame} {meth : Method} {c : Code} {b L k : Nat} {xs : Nat → Int32} {G : va_G} {ca : Nat → ClassId} {M : Nat → Prop} {ad bd : Nat → Nat → Nat} {z : Nat × Nat} {σ τ : PS} {H : Heap} {locs : List Loc} {ls : Array Slot} (hL : L ≤ 2560) (C0 : lw_At p s m meth c b L xs) (hK : va_K G vwCl (tyL ca) s) (hz : ZC s) (hk : 5 * k + 5 ≤ L) (hI : LI s G ca M b k ad bd z σ τ H locs ls) (next : NX p l e s m below meth c b k G ca M ad bd ls) : W p l e room_1 s m #[Value.ref b] below meth c H locs (60 + 9 * k) (6060 + 105 * k) (lw_Z below #[Value.ref b] s) (F0 m 865 ls []) := by
  obtain ⟨hx, hb, hr, hml, hown, hts0, hX, hbl, hlocks, hgv⟩ := C0
  have hts : ∀ w ∈ WW, w.before #[Value.ref b] s = true := fun w h => hts0 w (List.mem_filter.mp h).1
  have hown : s.vm.findClass RL = some m.cls := hown
  obtain ⟨hR, hP, hQ, hD, hE, hM, hS, hl⟩ := hI
  obtain ⟨r, e1, e2⟩ := m_value hR 
  refine lv_aload_n hx hb dL_law_865 rfl (lv_at hl 1 rfl) ?_
  refine y_cl (va_runV (As := []) (rest := []) ⟨hx, hb, hml, hown, hts⟩ (t_X9_value l G ad ca _ z  hD σ r e1) (cwV 0 hts gr_L_105 rfl rfl rfl h9_X9_value ⟨Nat.le_of_ble_eq_true rfl, Nat.le_of_ble_eq_true rfl⟩) (x_prV zkC hz hK hP (mk_450 h01) rfl rfl) rfl rfl hl.1 rfl (lv_room (Nat.le_of_ble_eq_true rfl)) dL_law_866 ⟨by show 60 + 9 * k + 0 ≤ 600000; omega, by show 6060 + 105 * k + 0 ≤ 7302250; omega⟩) hS (fun q h => h.1) hQ hE (fun q h h' => h'.2 h.2) (fun H1 locs1 hP hQ hz1 hS => ?_)
  refine lv_aload_n hx hb dL_law_869 rfl (lv_at hl 2 rfl) ?_
  refine y_cl (va_runV (As := []) (rest := [.long r]) ⟨hx, hb, hml, hown, hts⟩ (t_X10_value l G bd ca _  hE τ r e2) (cwV 0 hts gr_L_109 rfl rfl rfl h9_X10_value ⟨Nat.le_of_ble_eq_true rfl, Nat.le_of_ble_eq_true rfl⟩) (x_prV zkM trivial hK hQ (mk_500 h01) rfl rfl) rfl rfl hl.1 rfl (lv_room (Nat.le_of_ble_eq_true rfl)) dL_law_870 ⟨by show 60 + 9 * k + 0 ≤ 600000; omega, by show 6060 + 105 * k + 0 ≤ 7302250; omega⟩) hS (fun q h => h.1) hP hD (fun q h h' => h.2 h'.2) (fun H2 locs2 hQ hP hz2 hS => ?_)
  refine W.lcmp hx hb dL_law_873 ?_
  refine lv_if_eq (tgt := 1164) hx hb dL_law_874 rfl (fun _ => ?_) (fun hc => absurd (by simp [lg_cmp]) hc)
  refine W.widen (k := 60 + 9 * k + 9) (n := 6060 + 105 * k + 105) (by omega) (by omega) ?_
  exact next ad z σ τ _ _ rfl (RR_t hR (by omega)) hP hQ hD (fun q h => Nat.lt_of_lt_of_le (hM q h) (Nat.le_trans hz1 hz2)) hS
theorem op_failure {p : Program} {l : Launch} {e : Env} {s : State} {m : MethodId} {below : List Frame} {meth : Method} {c : Code} {b L k : Nat} {xs : Nat → Int32} {G : va_G} {ca : Nat → ClassId} {M : Nat → Prop} {ad bd : Nat → Nat → Nat} {z : Nat × Nat} {σ τ : PS} {H : Heap} {locs : List Loc} {ls : Array Slot} (hL : L ≤ 2560) (C0 : lw_At p s m meth c b L xs) (hK : va_K G vwCl (tyL ca) s) (hz : ZC s) (hk : 5 * k + 5 ≤ L) (hI : LI s G ca M b k ad bd z σ τ H locs ls) (next : NX p l e s m below meth c b k G ca M ad bd ls) : W p l e room_1 s m #[Value.ref b] below meth c H locs (60 + 9 * k) (6060 + 105 * k) (lw_Z below #[Value.ref b] s) (F0 m 879 ls []) := by
  obtain ⟨hx, hb, hr, hml, hown, hts0, hX, hbl, hlocks, hgv⟩ := C0
  have hts : ∀ w ∈ WW, w.before #[Value.ref b] s = true := fun w h => hts0 w (List.mem_filter.mp h).1
  have hown : s.vm.findClass RL = some m.cls := hown
  obtain ⟨hR, hP, hQ, hD, hE, hM, hS, hl⟩ := hI
  obtain ⟨r, e1, e2⟩ := m_failure hR 
  refine lv_aload_n hx hb dL_law_879 rfl (lv_at hl 1 rfl) ?_
  refine y_ci (va_runV (As := []) (rest := []) ⟨hx, hb, hml, hown, hts⟩ (t_X9_failure l G ad ca _ z  hD σ r e1) (cwV 0 hts gr_L_110 rfl rfl rfl h9_X9_failure ⟨Nat.le_of_ble_eq_true rfl, Nat.le_of_ble_eq_true rfl⟩) (x_prV zkC hz hK hP (mk_450 h01) rfl rfl) rfl rfl hl.1 rfl (lv_room (Nat.le_of_ble_eq_true rfl)) dL_law_880 ⟨by show 60 + 9 * k + 0 ≤ 600000; omega, by show 6060 + 105 * k + 0 ≤ 7302250; omega⟩) hS (fun q h => h.1) hQ hE (fun q h h' => h'.2 h.2) (fun H1 locs1 hP hQ hz1 hS => ?_)
  refine lv_aload_n hx hb dL_law_883 rfl (lv_at hl 2 rfl) ?_
  refine y_ci (va_runV (As := []) (rest := [.int r]) ⟨hx, hb, hml, hown, hts⟩ (t_X10_failure l G bd ca _  hE τ r e2) (cwV 0 hts gr_L_113 rfl rfl rfl h9_X10_failure ⟨Nat.le_of_ble_eq_true rfl, Nat.le_of_ble_eq_true rfl⟩) (x_prV zkM trivial hK hQ (mk_500 h01) rfl rfl) rfl rfl hl.1 rfl (lv_room (Nat.le_of_ble_eq_true rfl)) dL_law_884 ⟨by show 60 + 9 * k + 0 ≤ 600000; omega, by show 6060 + 105 * k + 0 ≤ 7302250; omega⟩) hS (fun q h => h.1) hP hD (fun q h h' => h.2 h'.2) (fun H2 locs2 hQ hP hz2 hS => ?_)
  refine lv_icmp_eq (tgt := 1164) hx hb dL_law_887 rfl (fun _ => ?_) (fun hc => absurd rfl hc)
  refine W.widen (k := 60 + 9 * k + 9) (n := 6060 + 105 * k + 105) (by omega) (by omega) ?_
  exact next ad z σ τ _ _ rfl (RR_t hR (by omega)) hP hQ hD (fun q h => Nat.lt_of_lt_of_le (hM q h) (Nat.le_trans hz1 hz2)) hS
theorem op_step {p : Program} {l : Launch} {e : Env} {s : State} {m : MethodId} {below : List Frame} {meth : Method} {c : Code} {b L k : Nat} {xs : Nat → Int32} {G : va_G} {ca : Nat → ClassId} {M : Nat → Prop} {ad bd : Nat → Nat → Nat} {z : Nat × Nat} {σ τ : PS} {H : Heap} {locs : List Loc} {ls : Array Slot} (hL : L ≤ 2560) (C0 : lw_At p s m meth c b L xs) (hK : va_K G vwCl (tyL ca) s) (hz : ZC s) (hk : 5 * k + 5 ≤ L) (hI : LI s G ca M b k ad bd z σ τ H locs ls) (next : NX p l e s m below meth c b k G ca M ad bd ls) : W p l e room_1 s m #[Value.ref b] below meth c H locs (60 + 9 * k) (6060 + 105 * k) (lw_Z below #[Value.ref b] s) (F0 m 892 ls []) := by
  obtain ⟨hx, hb, hr, hml, hown, hts0, hX, hbl, hlocks, hgv⟩ := C0
  have hts : ∀ w ∈ WW, w.before #[Value.ref b] s = true := fun w h => hts0 w (List.mem_filter.mp h).1
  have hown : s.vm.findClass RL = some m.cls := hown
  obtain ⟨hR, hP, hQ, hD, hE, hM, hS, hl⟩ := hI
  obtain ⟨r, e1, e2⟩ := m_step hR (xs (5 * k + 1))
  refine lv_aload_n hx hb dL_law_892 rfl (lv_at hl 1 rfl) ?_
  refine lw_arg hx hb hX hbl hS (lv_at hl 0 rfl) (lv_at hl 3 rfl) 1 (by decide) hk hL (v := (1 : Int32)) rfl dL_law_893 dL_law_894 (fun rest kk => lv_iconst (v := (1 : Int32)) hx hb dL_law_895 rfl kk) dL_law_896 dL_law_897 ?_
  refine y_ci (va_runV (As := [.int (xs (5 * k + 1))]) (rest := []) ⟨hx, hb, hml, hown, hts⟩ (t_X9_step l G ad ca _ z (xs (5 * k + 1)) hD σ r e1) (cwV 1 hts gr_L_114 rfl rfl rfl h9_X9_step ⟨Nat.le_of_ble_eq_true rfl, Nat.le_of_ble_eq_true rfl⟩) (x_prV zkC hz hK hP (mk_450 h01) rfl rfl) rfl rfl hl.1 rfl (lv_room (Nat.le_of_ble_eq_true rfl)) dL_law_898 ⟨by show 60 + 9 * k + 0 ≤ 600000; omega, by show 6060 + 105 * k + 0 ≤ 7302250; omega⟩) hS (fun q h => h.1) hQ hE (fun q h h' => h'.2 h.2) (fun H1 locs1 hP hQ hz1 hS => ?_)
  refine lv_aload_n hx hb dL_law_901 rfl (lv_at hl 2 rfl) ?_
  refine lw_arg hx hb hX hbl hS (lv_at hl 0 rfl) (lv_at hl 3 rfl) 1 (by decide) hk hL (v := (1 : Int32)) rfl dL_law_902 dL_law_903 (fun rest kk => lv_iconst (v := (1 : Int32)) hx hb dL_law_904 rfl kk) dL_law_905 dL_law_906 ?_
  refine y_ci (va_runV (As := [.int (xs (5 * k + 1))]) (rest := [.int r]) ⟨hx, hb, hml, hown, hts⟩ (t_X10_step l G bd ca _ (xs (5 * k + 1)) hE τ r e2) (cwV 1 hts gr_L_117 rfl rfl rfl h9_X10_step ⟨Nat.le_of_ble_eq_true rfl, Nat.le_of_ble_eq_true rfl⟩) (x_prV zkM trivial hK hQ (mk_500 h01) rfl rfl) rfl rfl hl.1 rfl (lv_room (Nat.le_of_ble_eq_true rfl)) dL_law_907 ⟨by show 60 + 9 * k + 0 ≤ 600000; omega, by show 6060 + 105 * k + 0 ≤ 7302250; omega⟩) hS (fun q h => h.1) hP hD (fun q h h' => h.2 h'.2) (fun H2 locs2 hQ hP hz2 hS => ?_)
  refine lv_icmp_eq (tgt := 1164) hx hb dL_law_910 rfl (fun _ => ?_) (fun hc => absurd rfl hc)
  refine W.widen (k := 60 + 9 * k + 9) (n := 6060 + 105 * k + 105) (by omega) (by omega) ?_
  exact next ad z σ τ _ _ rfl (RR_t hR (by omega)) hP hQ hD (fun q h => Nat.lt_of_lt_of_le (hM q h) (Nat.le_trans hz1 hz2)) hS
theorem op_counter {p : Program} {l : Launch} {e : Env} {s : State} {m : MethodId} {below : List Frame} {meth : Method} {c : Code} {b L k : Nat} {xs : Nat → Int32} {G : va_G} {ca : Nat → ClassId} {M : Nat → Prop} {ad bd : Nat → Nat → Nat} {z : Nat × Nat} {σ τ : PS} {H : Heap} {locs : List Loc} {ls : Array Slot} (hL : L ≤ 2560) (C0 : lw_At p s m meth c b L xs) (hK : va_K G vwCl (tyL ca) s) (hz : ZC s) (hk : 5 * k + 5 ≤ L) (hI : LI s G ca M b k ad bd z σ τ H locs ls) (next : NX p l e s m below meth c b k G ca M ad bd ls) : W p l e room_1 s m #[Value.ref b] below meth c H locs (60 + 9 * k) (6060 + 105 * k) (lw_Z below #[Value.ref b] s) (F0 m 915 ls []) := by
  obtain ⟨hx, hb, hr, hml, hown, hts0, hX, hbl, hlocks, hgv⟩ := C0
  have hts : ∀ w ∈ WW, w.before #[Value.ref b] s = true := fun w h => hts0 w (List.mem_filter.mp h).1
  have hown : s.vm.findClass RL = some m.cls := hown
  obtain ⟨hR, hP, hQ, hD, hE, hM, hS, hl⟩ := hI
  obtain ⟨r, e1, e2⟩ := m_counter hR (xs (5 * k + 1))
  refine lv_aload_n hx hb dL_law_915 rfl (lv_at hl 1 rfl) ?_
  refine lw_arg hx hb hX hbl hS (lv_at hl 0 rfl) (lv_at hl 3 rfl) 1 (by decide) hk hL (v := (1 : Int32)) rfl dL_law_916 dL_law_917 (fun rest kk => lv_iconst (v := (1 : Int32)) hx hb dL_law_918 rfl kk) dL_law_919 dL_law_920 ?_
  refine y_ci (va_runV (As := [.int (xs (5 * k + 1))]) (rest := []) ⟨hx, hb, hml, hown, hts⟩ (t_X9_counter l G ad ca _ z (xs (5 * k + 1)) hD σ r e1) (cwV 1 hts gr_L_118 rfl rfl rfl h9_X9_counter ⟨Nat.le_of_ble_eq_true rfl, Nat.le_of_ble_eq_true rfl⟩) (x_prV zkC hz hK hP (mk_450 h01) rfl rfl) rfl rfl hl.1 rfl (lv_room (Nat.le_of_ble_eq_true rfl)) dL_law_921 ⟨by show 60 + 9 * k + 0 ≤ 600000; omega, by show 6060 + 105 * k + 0 ≤ 7302250; omega⟩) hS (fun q h => h.1) hQ hE (fun q h h' => h'.2 h.2) (fun H1 locs1 hP hQ hz1 hS => ?_)
  refine lv_aload_n hx hb dL_law_924 rfl (lv_at hl 2 rfl) ?_
  refine lw_arg hx hb hX hbl hS (lv_at hl 0 rfl) (lv_at hl 3 rfl) 1 (by decide) hk hL (v := (1 : Int32)) rfl dL_law_925 dL_law_926 (fun rest kk => lv_iconst (v := (1 : Int32)) hx hb dL_law_927 rfl kk) dL_law_928 dL_law_929 ?_
  refine y_ci (va_runV (As := [.int (xs (5 * k + 1))]) (rest := [.int r]) ⟨hx, hb, hml, hown, hts⟩ (t_X10_counter l G bd ca _ (xs (5 * k + 1)) hE τ r e2) (cwV 1 hts gr_L_121 rfl rfl rfl h9_X10_counter ⟨Nat.le_of_ble_eq_true rfl, Nat.le_of_ble_eq_true rfl⟩) (x_prV zkM trivial hK hQ (mk_500 h01) rfl rfl) rfl rfl hl.1 rfl (lv_room (Nat.le_of_ble_eq_true rfl)) dL_law_930 ⟨by show 60 + 9 * k + 0 ≤ 600000; omega, by show 6060 + 105 * k + 0 ≤ 7302250; omega⟩) hS (fun q h => h.1) hP hD (fun q h h' => h.2 h'.2) (fun H2 locs2 hQ hP hz2 hS => ?_)
  refine lv_icmp_eq (tgt := 1164) hx hb dL_law_933 rfl (fun _ => ?_) (fun hc => absurd rfl hc)
  refine W.widen (k := 60 + 9 * k + 9) (n := 6060 + 105 * k + 105) (by omega) (by omega) ?_
  exact next ad z σ τ _ _ rfl (RR_t hR (by omega)) hP hQ hD (fun q h => Nat.lt_of_lt_of_le (hM q h) (Nat.le_trans hz1 hz2)) hS
theorem op_applicable {p : Program} {l : Launch} {e : Env} {s : State} {m : MethodId} {below : List Frame} {meth : Method} {c : Code} {b L k : Nat} {xs : Nat → Int32} {G : va_G} {ca : Nat → ClassId} {M : Nat → Prop} {ad bd : Nat → Nat → Nat} {z : Nat × Nat} {σ τ : PS} {H : Heap} {locs : List Loc} {ls : Array Slot} (hL : L ≤ 2560) (C0 : lw_At p s m meth c b L xs) (hK : va_K G vwCl (tyL ca) s) (hz : ZC s) (hk : 5 * k + 5 ≤ L) (hI : LI s G ca M b k ad bd z σ τ H locs ls) (next : NX p l e s m below meth c b k G ca M ad bd ls) : W p l e room_1 s m #[Value.ref b] below meth c H locs (60 + 9 * k) (6060 + 105 * k) (lw_Z below #[Value.ref b] s) (F0 m 938 ls []) := by
  obtain ⟨hx, hb, hr, hml, hown, hts0, hX, hbl, hlocks, hgv⟩ := C0
  have hts : ∀ w ∈ WW, w.before #[Value.ref b] s = true := fun w h => hts0 w (List.mem_filter.mp h).1
  have hown : s.vm.findClass RL = some m.cls := hown
  obtain ⟨hR, hP, hQ, hD, hE, hM, hS, hl⟩ := hI
  obtain ⟨r, σ', τ', e1, e2, hR'⟩ := m_applicable hR (xs (5 * k + 1)) (xs (5 * k + 2))
  refine lv_aload_n hx hb dL_law_938 rfl (lv_at hl 1 rfl) ?_
  refine lw_arg hx hb hX hbl hS (lv_at hl 0 rfl) (lv_at hl 3 rfl) 1 (by decide) hk hL (v := (1 : Int32)) rfl dL_law_939 dL_law_940 (fun rest kk => lv_iconst (v := (1 : Int32)) hx hb dL_law_941 rfl kk) dL_law_942 dL_law_943 ?_
  refine lw_arg hx hb hX hbl hS (lv_at hl 0 rfl) (lv_at hl 3 rfl) 2 (by decide) hk hL (v := (2 : Int32)) rfl dL_law_944 dL_law_945 (fun rest kk => lv_iconst (v := (2 : Int32)) hx hb dL_law_946 rfl kk) dL_law_947 dL_law_948 ?_
  refine y_ci (va_runV (As := [.int (xs (5 * k + 1)), .int (xs (5 * k + 2))]) (rest := []) ⟨hx, hb, hml, hown, hts⟩ (t_X9_applicable l G ad ca _ z (xs (5 * k + 1)) (xs (5 * k + 2)) hD σ r σ' e1) (cwV 2 hts gr_L_122 rfl rfl rfl h9_X9_applicable ⟨Nat.le_of_ble_eq_true rfl, Nat.le_of_ble_eq_true rfl⟩) (x_prV zkC hz hK hP (mk_450 h01) rfl rfl) rfl rfl hl.1 rfl (lv_room (Nat.le_of_ble_eq_true rfl)) dL_law_949 ⟨by show 60 + 9 * k + 0 ≤ 600000; omega, by show 6060 + 105 * k + 0 ≤ 7302250; omega⟩) hS (fun q h => h.1) hQ hE (fun q h h' => h'.2 h.2) (fun H1 locs1 hP hQ hz1 hS => ?_)
  refine lv_aload_n hx hb dL_law_952 rfl (lv_at hl 2 rfl) ?_
  refine lw_arg hx hb hX hbl hS (lv_at hl 0 rfl) (lv_at hl 3 rfl) 1 (by decide) hk hL (v := (1 : Int32)) rfl dL_law_953 dL_law_954 (fun rest kk => lv_iconst (v := (1 : Int32)) hx hb dL_law_955 rfl kk) dL_law_956 dL_law_957 ?_
  refine lw_arg hx hb hX hbl hS (lv_at hl 0 rfl) (lv_at hl 3 rfl) 2 (by decide) hk hL (v := (2 : Int32)) rfl dL_law_958 dL_law_959 (fun rest kk => lv_iconst (v := (2 : Int32)) hx hb dL_law_960 rfl kk) dL_law_961 dL_law_962 ?_
  refine y_ci (va_runV (As := [.int (xs (5 * k + 1)), .int (xs (5 * k + 2))]) (rest := [.int r]) ⟨hx, hb, hml, hown, hts⟩ (t_X10_applicable l G bd ca _ (xs (5 * k + 1)) (xs (5 * k + 2)) hE τ r τ' e2) (cwV 2 hts gr_L_125 rfl rfl rfl h9_X10_applicable ⟨Nat.le_of_ble_eq_true rfl, Nat.le_of_ble_eq_true rfl⟩) (x_prV zkM trivial hK hQ (mk_500 h01) rfl rfl) rfl rfl hl.1 rfl (lv_room (Nat.le_of_ble_eq_true rfl)) dL_law_963 ⟨by show 60 + 9 * k + 0 ≤ 600000; omega, by show 6060 + 105 * k + 0 ≤ 7302250; omega⟩) hS (fun q h => h.1) hP hD (fun q h h' => h.2 h'.2) (fun H2 locs2 hQ hP hz2 hS => ?_)
  refine lv_icmp_eq (tgt := 1164) hx hb dL_law_966 rfl (fun _ => ?_) (fun hc => absurd rfl hc)
  refine W.widen (k := 60 + 9 * k + 9) (n := 6060 + 105 * k + 105) (by omega) (by omega) ?_
  exact next ad z σ' τ' _ _ rfl (RR_t hR' (by omega)) hP hQ hD (fun q h => Nat.lt_of_lt_of_le (hM q h) (Nat.le_trans hz1 hz2)) hS
theorem op_most {p : Program} {l : Launch} {e : Env} {s : State} {m : MethodId} {below : List Frame} {meth : Method} {c : Code} {b L k : Nat} {xs : Nat → Int32} {G : va_G} {ca : Nat → ClassId} {M : Nat → Prop} {ad bd : Nat → Nat → Nat} {z : Nat × Nat} {σ τ : PS} {H : Heap} {locs : List Loc} {ls : Array Slot} (hL : L ≤ 2560) (C0 : lw_At p s m meth c b L xs) (hK : va_K G vwCl (tyL ca) s) (hz : ZC s) (hk : 5 * k + 5 ≤ L) (hI : LI s G ca M b k ad bd z σ τ H locs ls) (next : NX p l e s m below meth c b k G ca M ad bd ls) : W p l e room_1 s m #[Value.ref b] below meth c H locs (60 + 9 * k) (6060 + 105 * k) (lw_Z below #[Value.ref b] s) (F0 m 971 ls []) := by
  obtain ⟨hx, hb, hr, hml, hown, hts0, hX, hbl, hlocks, hgv⟩ := C0
  have hts : ∀ w ∈ WW, w.before #[Value.ref b] s = true := fun w h => hts0 w (List.mem_filter.mp h).1
  have hown : s.vm.findClass RL = some m.cls := hown
  obtain ⟨hR, hP, hQ, hD, hE, hM, hS, hl⟩ := hI
  obtain ⟨r, σ', τ', e1, e2, hR'⟩ := m_most hR (xs (5 * k + 1))
  refine lv_aload_n hx hb dL_law_971 rfl (lv_at hl 1 rfl) ?_
  refine lw_arg hx hb hX hbl hS (lv_at hl 0 rfl) (lv_at hl 3 rfl) 1 (by decide) hk hL (v := (1 : Int32)) rfl dL_law_972 dL_law_973 (fun rest kk => lv_iconst (v := (1 : Int32)) hx hb dL_law_974 rfl kk) dL_law_975 dL_law_976 ?_
  refine y_ci (va_runV (As := [.int (xs (5 * k + 1))]) (rest := []) ⟨hx, hb, hml, hown, hts⟩ (t_X9_most l G ad ca _ z (xs (5 * k + 1)) hD σ r σ' e1) (cwV 1 hts gr_L_126 rfl rfl rfl h9_X9_most ⟨Nat.le_of_ble_eq_true rfl, Nat.le_of_ble_eq_true rfl⟩) (x_prV zkC hz hK hP (mk_450 h01) rfl rfl) rfl rfl hl.1 rfl (lv_room (Nat.le_of_ble_eq_true rfl)) dL_law_977 ⟨by show 60 + 9 * k + 0 ≤ 600000; omega, by show 6060 + 105 * k + 0 ≤ 7302250; omega⟩) hS (fun q h => h.1) hQ hE (fun q h h' => h'.2 h.2) (fun H1 locs1 hP hQ hz1 hS => ?_)
  refine lv_aload_n hx hb dL_law_980 rfl (lv_at hl 2 rfl) ?_
  refine lw_arg hx hb hX hbl hS (lv_at hl 0 rfl) (lv_at hl 3 rfl) 1 (by decide) hk hL (v := (1 : Int32)) rfl dL_law_981 dL_law_982 (fun rest kk => lv_iconst (v := (1 : Int32)) hx hb dL_law_983 rfl kk) dL_law_984 dL_law_985 ?_
  refine y_ci (va_runV (As := [.int (xs (5 * k + 1))]) (rest := [.int r]) ⟨hx, hb, hml, hown, hts⟩ (t_X10_most l G bd ca _ (xs (5 * k + 1)) hE τ r τ' e2) (cwV 1 hts gr_L_129 rfl rfl rfl h9_X10_most ⟨Nat.le_of_ble_eq_true rfl, Nat.le_of_ble_eq_true rfl⟩) (x_prV zkM trivial hK hQ (mk_500 h01) rfl rfl) rfl rfl hl.1 rfl (lv_room (Nat.le_of_ble_eq_true rfl)) dL_law_986 ⟨by show 60 + 9 * k + 0 ≤ 600000; omega, by show 6060 + 105 * k + 0 ≤ 7302250; omega⟩) hS (fun q h => h.1) hP hD (fun q h h' => h.2 h'.2) (fun H2 locs2 hQ hP hz2 hS => ?_)
  refine lv_icmp_eq (tgt := 1164) hx hb dL_law_989 rfl (fun _ => ?_) (fun hc => absurd rfl hc)
  refine W.widen (k := 60 + 9 * k + 9) (n := 6060 + 105 * k + 105) (by omega) (by omega) ?_
  exact next ad z σ' τ' _ _ rfl (RR_t hR' (by omega)) hP hQ hD (fun q h => Nat.lt_of_lt_of_le (hM q h) (Nat.le_trans hz1 hz2)) hS
theorem op_explain {p : Program} {l : Launch} {e : Env} {s : State} {m : MethodId} {below : List Frame} {meth : Method} {c : Code} {b L k : Nat} {xs : Nat → Int32} {G : va_G} {ca : Nat → ClassId} {M : Nat → Prop} {ad bd : Nat → Nat → Nat} {z : Nat × Nat} {σ τ : PS} {H : Heap} {locs : List Loc} {ls : Array Slot} (hL : L ≤ 2560) (C0 : lw_At p s m meth c b L xs) (hK : va_K G vwCl (tyL ca) s) (hz : ZC s) (hk : 5 * k + 5 ≤ L) (hI : LI s G ca M b k ad bd z σ τ H locs ls) (next : NX p l e s m below meth c b k G ca M ad bd ls) : W p l e room_1 s m #[Value.ref b] below meth c H locs (60 + 9 * k) (6060 + 105 * k) (lw_Z below #[Value.ref b] s) (F0 m 994 ls []) := by
  obtain ⟨hx, hb, hr, hml, hown, hts0, hX, hbl, hlocks, hgv⟩ := C0
  have hts : ∀ w ∈ WW, w.before #[Value.ref b] s = true := fun w h => hts0 w (List.mem_filter.mp h).1
  have hown : s.vm.findClass RL = some m.cls := hown
  obtain ⟨hR, hP, hQ, hD, hE, hM, hS, hl⟩ := hI
  obtain ⟨r, σ', τ', e1, e2, hR'⟩ := m_explain hR (xs (5 * k + 1))
  refine lv_aload_n hx hb dL_law_994 rfl (lv_at hl 1 rfl) ?_
  refine lw_arg hx hb hX hbl hS (lv_at hl 0 rfl) (lv_at hl 3 rfl) 1 (by decide) hk hL (v := (1 : Int32)) rfl dL_law_995 dL_law_996 (fun rest kk => lv_iconst (v := (1 : Int32)) hx hb dL_law_997 rfl kk) dL_law_998 dL_law_999 ?_
  refine y_ci (va_runV (As := [.int (xs (5 * k + 1))]) (rest := []) ⟨hx, hb, hml, hown, hts⟩ (t_X9_explain l G ad ca _ z (xs (5 * k + 1)) hD σ r σ' e1) (cwV 1 hts gr_L_130 rfl rfl rfl h9_X9_explain ⟨Nat.le_of_ble_eq_true rfl, Nat.le_of_ble_eq_true rfl⟩) (x_prV zkC hz hK hP (mk_450 h01) rfl rfl) rfl rfl hl.1 rfl (lv_room (Nat.le_of_ble_eq_true rfl)) dL_law_1000 ⟨by show 60 + 9 * k + 0 ≤ 600000; omega, by show 6060 + 105 * k + 0 ≤ 7302250; omega⟩) hS (fun q h => h.1) hQ hE (fun q h h' => h'.2 h.2) (fun H1 locs1 hP hQ hz1 hS => ?_)
  refine lv_aload_n hx hb dL_law_1003 rfl (lv_at hl 2 rfl) ?_
  refine lw_arg hx hb hX hbl hS (lv_at hl 0 rfl) (lv_at hl 3 rfl) 1 (by decide) hk hL (v := (1 : Int32)) rfl dL_law_1004 dL_law_1005 (fun rest kk => lv_iconst (v := (1 : Int32)) hx hb dL_law_1006 rfl kk) dL_law_1007 dL_law_1008 ?_
  refine y_ci (va_runV (As := [.int (xs (5 * k + 1))]) (rest := [.int r]) ⟨hx, hb, hml, hown, hts⟩ (t_X10_explain l G bd ca _ (xs (5 * k + 1)) hE τ r τ' e2) (cwV 1 hts gr_L_133 rfl rfl rfl h9_X10_explain ⟨Nat.le_of_ble_eq_true rfl, Nat.le_of_ble_eq_true rfl⟩) (x_prV zkM trivial hK hQ (mk_500 h01) rfl rfl) rfl rfl hl.1 rfl (lv_room (Nat.le_of_ble_eq_true rfl)) dL_law_1009 ⟨by show 60 + 9 * k + 0 ≤ 600000; omega, by show 6060 + 105 * k + 0 ≤ 7302250; omega⟩) hS (fun q h => h.1) hP hD (fun q h h' => h.2 h'.2) (fun H2 locs2 hQ hP hz2 hS => ?_)
  refine lv_icmp_eq (tgt := 1164) hx hb dL_law_1012 rfl (fun _ => ?_) (fun hc => absurd rfl hc)
  refine W.widen (k := 60 + 9 * k + 9) (n := 6060 + 105 * k + 105) (by omega) (by omega) ?_
  exact next ad z σ' τ' _ _ rfl (RR_t hR' (by omega)) hP hQ hD (fun q h => Nat.lt_of_lt_of_le (hM q h) (Nat.le_trans hz1 hz2)) hS
theorem op_where {p : Program} {l : Launch} {e : Env} {s : State} {m : MethodId} {below : List Frame} {meth : Method} {c : Code} {b L k : Nat} {xs : Nat → Int32} {G : va_G} {ca : Nat → ClassId} {M : Nat → Prop} {ad bd : Nat → Nat → Nat} {z : Nat × Nat} {σ τ : PS} {H : Heap} {locs : List Loc} {ls : Array Slot} (hL : L ≤ 2560) (C0 : lw_At p s m meth c b L xs) (hK : va_K G vwCl (tyL ca) s) (hz : ZC s) (hk : 5 * k + 5 ≤ L) (hI : LI s G ca M b k ad bd z σ τ H locs ls) (next : NX p l e s m below meth c b k G ca M ad bd ls) : W p l e room_1 s m #[Value.ref b] below meth c H locs (60 + 9 * k) (6060 + 105 * k) (lw_Z below #[Value.ref b] s) (F0 m 1017 ls []) := by
  obtain ⟨hx, hb, hr, hml, hown, hts0, hX, hbl, hlocks, hgv⟩ := C0
  have hts : ∀ w ∈ WW, w.before #[Value.ref b] s = true := fun w h => hts0 w (List.mem_filter.mp h).1
  have hown : s.vm.findClass RL = some m.cls := hown
  obtain ⟨hR, hP, hQ, hD, hE, hM, hS, hl⟩ := hI
  obtain ⟨r, e1, e2⟩ := m_where hR 
  refine lv_aload_n hx hb dL_law_1017 rfl (lv_at hl 1 rfl) ?_
  refine y_ci (va_runV (As := []) (rest := []) ⟨hx, hb, hml, hown, hts⟩ (t_X9_where l G ad ca _ z  hD σ r e1) (cwV 0 hts gr_L_134 rfl rfl rfl h9_X9_where ⟨Nat.le_of_ble_eq_true rfl, Nat.le_of_ble_eq_true rfl⟩) (x_prV zkC hz hK hP (mk_450 h01) rfl rfl) rfl rfl hl.1 rfl (lv_room (Nat.le_of_ble_eq_true rfl)) dL_law_1018 ⟨by show 60 + 9 * k + 0 ≤ 600000; omega, by show 6060 + 105 * k + 0 ≤ 7302250; omega⟩) hS (fun q h => h.1) hQ hE (fun q h h' => h'.2 h.2) (fun H1 locs1 hP hQ hz1 hS => ?_)
  refine lv_aload_n hx hb dL_law_1021 rfl (lv_at hl 2 rfl) ?_
  refine y_ci (va_runV (As := []) (rest := [.int r]) ⟨hx, hb, hml, hown, hts⟩ (t_X10_where l G bd ca _  hE τ r e2) (cwV 0 hts gr_L_137 rfl rfl rfl h9_X10_where ⟨Nat.le_of_ble_eq_true rfl, Nat.le_of_ble_eq_true rfl⟩) (x_prV zkM trivial hK hQ (mk_500 h01) rfl rfl) rfl rfl hl.1 rfl (lv_room (Nat.le_of_ble_eq_true rfl)) dL_law_1022 ⟨by show 60 + 9 * k + 0 ≤ 600000; omega, by show 6060 + 105 * k + 0 ≤ 7302250; omega⟩) hS (fun q h => h.1) hP hD (fun q h h' => h.2 h'.2) (fun H2 locs2 hQ hP hz2 hS => ?_)
  refine lv_icmp_eq (tgt := 1164) hx hb dL_law_1025 rfl (fun _ => ?_) (fun hc => absurd rfl hc)
  refine W.widen (k := 60 + 9 * k + 9) (n := 6060 + 105 * k + 105) (by omega) (by omega) ?_
  exact next ad z σ τ _ _ rfl (RR_t hR (by omega)) hP hQ hD (fun q h => Nat.lt_of_lt_of_le (hM q h) (Nat.le_trans hz1 hz2)) hS
theorem op_count {p : Program} {l : Launch} {e : Env} {s : State} {m : MethodId} {below : List Frame} {meth : Method} {c : Code} {b L k : Nat} {xs : Nat → Int32} {G : va_G} {ca : Nat → ClassId} {M : Nat → Prop} {ad bd : Nat → Nat → Nat} {z : Nat × Nat} {σ τ : PS} {H : Heap} {locs : List Loc} {ls : Array Slot} (hL : L ≤ 2560) (C0 : lw_At p s m meth c b L xs) (hK : va_K G vwCl (tyL ca) s) (hz : ZC s) (hk : 5 * k + 5 ≤ L) (hI : LI s G ca M b k ad bd z σ τ H locs ls) (next : NX p l e s m below meth c b k G ca M ad bd ls) : W p l e room_1 s m #[Value.ref b] below meth c H locs (60 + 9 * k) (6060 + 105 * k) (lw_Z below #[Value.ref b] s) (F0 m 1030 ls []) := by
  obtain ⟨hx, hb, hr, hml, hown, hts0, hX, hbl, hlocks, hgv⟩ := C0
  have hts : ∀ w ∈ WW, w.before #[Value.ref b] s = true := fun w h => hts0 w (List.mem_filter.mp h).1
  have hown : s.vm.findClass RL = some m.cls := hown
  obtain ⟨hR, hP, hQ, hD, hE, hM, hS, hl⟩ := hI
  obtain ⟨r, e1, e2⟩ := m_count hR (xs (5 * k + 1)) (xs (5 * k + 2))
  refine lv_aload_n hx hb dL_law_1030 rfl (lv_at hl 1 rfl) ?_
  refine lw_arg hx hb hX hbl hS (lv_at hl 0 rfl) (lv_at hl 3 rfl) 1 (by decide) hk hL (v := (1 : Int32)) rfl dL_law_1031 dL_law_1032 (fun rest kk => lv_iconst (v := (1 : Int32)) hx hb dL_law_1033 rfl kk) dL_law_1034 dL_law_1035 ?_
  refine lw_arg hx hb hX hbl hS (lv_at hl 0 rfl) (lv_at hl 3 rfl) 2 (by decide) hk hL (v := (2 : Int32)) rfl dL_law_1036 dL_law_1037 (fun rest kk => lv_iconst (v := (2 : Int32)) hx hb dL_law_1038 rfl kk) dL_law_1039 dL_law_1040 ?_
  refine y_ci (va_runV (As := [.int (xs (5 * k + 1)), .int (xs (5 * k + 2))]) (rest := []) ⟨hx, hb, hml, hown, hts⟩ (t_X9_count l G ad ca _ z (xs (5 * k + 1)) (xs (5 * k + 2)) hD σ r e1) (cwV 2 hts gr_L_138 rfl rfl rfl h9_X9_count ⟨Nat.le_of_ble_eq_true rfl, Nat.le_of_ble_eq_true rfl⟩) (x_prV zkC hz hK hP (mk_450 h01) rfl rfl) rfl rfl hl.1 rfl (lv_room (Nat.le_of_ble_eq_true rfl)) dL_law_1041 ⟨by show 60 + 9 * k + 0 ≤ 600000; omega, by show 6060 + 105 * k + 0 ≤ 7302250; omega⟩) hS (fun q h => h.1) hQ hE (fun q h h' => h'.2 h.2) (fun H1 locs1 hP hQ hz1 hS => ?_)
  refine lv_aload_n hx hb dL_law_1044 rfl (lv_at hl 2 rfl) ?_
  refine lw_arg hx hb hX hbl hS (lv_at hl 0 rfl) (lv_at hl 3 rfl) 1 (by decide) hk hL (v := (1 : Int32)) rfl dL_law_1045 dL_law_1046 (fun rest kk => lv_iconst (v := (1 : Int32)) hx hb dL_law_1047 rfl kk) dL_law_1048 dL_law_1049 ?_
  refine lw_arg hx hb hX hbl hS (lv_at hl 0 rfl) (lv_at hl 3 rfl) 2 (by decide) hk hL (v := (2 : Int32)) rfl dL_law_1050 dL_law_1051 (fun rest kk => lv_iconst (v := (2 : Int32)) hx hb dL_law_1052 rfl kk) dL_law_1053 dL_law_1054 ?_
  refine y_ci (va_runV (As := [.int (xs (5 * k + 1)), .int (xs (5 * k + 2))]) (rest := [.int r]) ⟨hx, hb, hml, hown, hts⟩ (t_X10_count l G bd ca _ (xs (5 * k + 1)) (xs (5 * k + 2)) hE τ r e2) (cwV 2 hts gr_L_141 rfl rfl rfl h9_X10_count ⟨Nat.le_of_ble_eq_true rfl, Nat.le_of_ble_eq_true rfl⟩) (x_prV zkM trivial hK hQ (mk_500 h01) rfl rfl) rfl rfl hl.1 rfl (lv_room (Nat.le_of_ble_eq_true rfl)) dL_law_1055 ⟨by show 60 + 9 * k + 0 ≤ 600000; omega, by show 6060 + 105 * k + 0 ≤ 7302250; omega⟩) hS (fun q h => h.1) hP hD (fun q h h' => h.2 h'.2) (fun H2 locs2 hQ hP hz2 hS => ?_)
  refine lv_icmp_eq (tgt := 1164) hx hb dL_law_1058 rfl (fun _ => ?_) (fun hc => absurd rfl hc)
  refine W.widen (k := 60 + 9 * k + 9) (n := 6060 + 105 * k + 105) (by omega) (by omega) ?_
  exact next ad z σ τ _ _ rfl (RR_t hR (by omega)) hP hQ hD (fun q h => Nat.lt_of_lt_of_le (hM q h) (Nat.le_trans hz1 hz2)) hS
theorem op_covered {p : Program} {l : Launch} {e : Env} {s : State} {m : MethodId} {below : List Frame} {meth : Method} {c : Code} {b L k : Nat} {xs : Nat → Int32} {G : va_G} {ca : Nat → ClassId} {M : Nat → Prop} {ad bd : Nat → Nat → Nat} {z : Nat × Nat} {σ τ : PS} {H : Heap} {locs : List Loc} {ls : Array Slot} (hL : L ≤ 2560) (C0 : lw_At p s m meth c b L xs) (hK : va_K G vwCl (tyL ca) s) (hz : ZC s) (hk : 5 * k + 5 ≤ L) (hI : LI s G ca M b k ad bd z σ τ H locs ls) (next : NX p l e s m below meth c b k G ca M ad bd ls) : W p l e room_1 s m #[Value.ref b] below meth c H locs (60 + 9 * k) (6060 + 105 * k) (lw_Z below #[Value.ref b] s) (F0 m 1063 ls []) := by
  obtain ⟨hx, hb, hr, hml, hown, hts0, hX, hbl, hlocks, hgv⟩ := C0
  have hts : ∀ w ∈ WW, w.before #[Value.ref b] s = true := fun w h => hts0 w (List.mem_filter.mp h).1
  have hown : s.vm.findClass RL = some m.cls := hown
  obtain ⟨hR, hP, hQ, hD, hE, hM, hS, hl⟩ := hI
  obtain ⟨r, σ', τ', e1, e2, hR'⟩ := m_covered hR (xs (5 * k + 1))
  refine lv_aload_n hx hb dL_law_1063 rfl (lv_at hl 1 rfl) ?_
  refine lw_arg hx hb hX hbl hS (lv_at hl 0 rfl) (lv_at hl 3 rfl) 1 (by decide) hk hL (v := (1 : Int32)) rfl dL_law_1064 dL_law_1065 (fun rest kk => lv_iconst (v := (1 : Int32)) hx hb dL_law_1066 rfl kk) dL_law_1067 dL_law_1068 ?_
  refine y_ci (va_runV (As := [.int (xs (5 * k + 1))]) (rest := []) ⟨hx, hb, hml, hown, hts⟩ (t_X9_covered l G ad ca _ z (xs (5 * k + 1)) hD σ r σ' e1) (cwV 1 hts gr_L_142 rfl rfl rfl h9_X9_covered ⟨Nat.le_of_ble_eq_true rfl, Nat.le_of_ble_eq_true rfl⟩) (x_prV zkC hz hK hP (mk_450 h01) rfl rfl) rfl rfl hl.1 rfl (lv_room (Nat.le_of_ble_eq_true rfl)) dL_law_1069 ⟨by show 60 + 9 * k + 0 ≤ 600000; omega, by show 6060 + 105 * k + 0 ≤ 7302250; omega⟩) hS (fun q h => h.1) hQ hE (fun q h h' => h'.2 h.2) (fun H1 locs1 hP hQ hz1 hS => ?_)
  refine lv_aload_n hx hb dL_law_1072 rfl (lv_at hl 2 rfl) ?_
  refine lw_arg hx hb hX hbl hS (lv_at hl 0 rfl) (lv_at hl 3 rfl) 1 (by decide) hk hL (v := (1 : Int32)) rfl dL_law_1073 dL_law_1074 (fun rest kk => lv_iconst (v := (1 : Int32)) hx hb dL_law_1075 rfl kk) dL_law_1076 dL_law_1077 ?_
  refine y_ci (va_runV (As := [.int (xs (5 * k + 1))]) (rest := [.int r]) ⟨hx, hb, hml, hown, hts⟩ (t_X10_covered l G bd ca _ (xs (5 * k + 1)) hE τ r τ' e2) (cwV 1 hts gr_L_145 rfl rfl rfl h9_X10_covered ⟨Nat.le_of_ble_eq_true rfl, Nat.le_of_ble_eq_true rfl⟩) (x_prV zkM trivial hK hQ (mk_500 h01) rfl rfl) rfl rfl hl.1 rfl (lv_room (Nat.le_of_ble_eq_true rfl)) dL_law_1078 ⟨by show 60 + 9 * k + 0 ≤ 600000; omega, by show 6060 + 105 * k + 0 ≤ 7302250; omega⟩) hS (fun q h => h.1) hP hD (fun q h h' => h.2 h'.2) (fun H2 locs2 hQ hP hz2 hS => ?_)
  refine lv_icmp_eq (tgt := 1164) hx hb dL_law_1081 rfl (fun _ => ?_) (fun hc => absurd rfl hc)
  refine W.widen (k := 60 + 9 * k + 9) (n := 6060 + 105 * k + 105) (by omega) (by omega) ?_
  exact next ad z σ' τ' _ _ rfl (RR_t hR' (by omega)) hP hQ hD (fun q h => Nat.lt_of_lt_of_le (hM q h) (Nat.le_trans hz1 hz2)) hS
theorem op_hole {p : Program} {l : Launch} {e : Env} {s : State} {m : MethodId} {below : List Frame} {meth : Method} {c : Code} {b L k : Nat} {xs : Nat → Int32} {G : va_G} {ca : Nat → ClassId} {M : Nat → Prop} {ad bd : Nat → Nat → Nat} {z : Nat × Nat} {σ τ : PS} {H : Heap} {locs : List Loc} {ls : Array Slot} (hL : L ≤ 2560) (C0 : lw_At p s m meth c b L xs) (hK : va_K G vwCl (tyL ca) s) (hz : ZC s) (hk : 5 * k + 5 ≤ L) (hI : LI s G ca M b k ad bd z σ τ H locs ls) (next : NX p l e s m below meth c b k G ca M ad bd ls) : W p l e room_1 s m #[Value.ref b] below meth c H locs (60 + 9 * k) (6060 + 105 * k) (lw_Z below #[Value.ref b] s) (F0 m 1086 ls []) := by
  obtain ⟨hx, hb, hr, hml, hown, hts0, hX, hbl, hlocks, hgv⟩ := C0
  have hts : ∀ w ∈ WW, w.before #[Value.ref b] s = true := fun w h => hts0 w (List.mem_filter.mp h).1
  have hown : s.vm.findClass RL = some m.cls := hown
  obtain ⟨hR, hP, hQ, hD, hE, hM, hS, hl⟩ := hI
  obtain ⟨r, σ', τ', e1, e2, hR'⟩ := m_hole hR (xs (5 * k + 1)) (xs (5 * k + 2))
  refine lv_aload_n hx hb dL_law_1086 rfl (lv_at hl 1 rfl) ?_
  refine lw_arg hx hb hX hbl hS (lv_at hl 0 rfl) (lv_at hl 3 rfl) 1 (by decide) hk hL (v := (1 : Int32)) rfl dL_law_1087 dL_law_1088 (fun rest kk => lv_iconst (v := (1 : Int32)) hx hb dL_law_1089 rfl kk) dL_law_1090 dL_law_1091 ?_
  refine lw_arg hx hb hX hbl hS (lv_at hl 0 rfl) (lv_at hl 3 rfl) 2 (by decide) hk hL (v := (2 : Int32)) rfl dL_law_1092 dL_law_1093 (fun rest kk => lv_iconst (v := (2 : Int32)) hx hb dL_law_1094 rfl kk) dL_law_1095 dL_law_1096 ?_
  refine y_cl (va_runV (As := [.int (xs (5 * k + 1)), .int (xs (5 * k + 2))]) (rest := []) ⟨hx, hb, hml, hown, hts⟩ (t_X9_hole l G ad ca _ z (xs (5 * k + 1)) (xs (5 * k + 2)) hD σ r σ' e1) (cwV 2 hts gr_L_146 rfl rfl rfl h9_X9_hole ⟨Nat.le_of_ble_eq_true rfl, Nat.le_of_ble_eq_true rfl⟩) (x_prV zkC hz hK hP (mk_450 h01) rfl rfl) rfl rfl hl.1 rfl (lv_room (Nat.le_of_ble_eq_true rfl)) dL_law_1097 ⟨by show 60 + 9 * k + 0 ≤ 600000; omega, by show 6060 + 105 * k + 0 ≤ 7302250; omega⟩) hS (fun q h => h.1) hQ hE (fun q h h' => h'.2 h.2) (fun H1 locs1 hP hQ hz1 hS => ?_)
  refine lv_aload_n hx hb dL_law_1100 rfl (lv_at hl 2 rfl) ?_
  refine lw_arg hx hb hX hbl hS (lv_at hl 0 rfl) (lv_at hl 3 rfl) 1 (by decide) hk hL (v := (1 : Int32)) rfl dL_law_1101 dL_law_1102 (fun rest kk => lv_iconst (v := (1 : Int32)) hx hb dL_law_1103 rfl kk) dL_law_1104 dL_law_1105 ?_
  refine lw_arg hx hb hX hbl hS (lv_at hl 0 rfl) (lv_at hl 3 rfl) 2 (by decide) hk hL (v := (2 : Int32)) rfl dL_law_1106 dL_law_1107 (fun rest kk => lv_iconst (v := (2 : Int32)) hx hb dL_law_1108 rfl kk) dL_law_1109 dL_law_1110 ?_
  refine y_cl (va_runV (As := [.int (xs (5 * k + 1)), .int (xs (5 * k + 2))]) (rest := [.long r]) ⟨hx, hb, hml, hown, hts⟩ (t_X10_hole l G bd ca _ (xs (5 * k + 1)) (xs (5 * k + 2)) hE τ r τ' e2) (cwV 2 hts gr_L_150 rfl rfl rfl h9_X10_hole ⟨Nat.le_of_ble_eq_true rfl, Nat.le_of_ble_eq_true rfl⟩) (x_prV zkM trivial hK hQ (mk_500 h01) rfl rfl) rfl rfl hl.1 rfl (lv_room (Nat.le_of_ble_eq_true rfl)) dL_law_1111 ⟨by show 60 + 9 * k + 0 ≤ 600000; omega, by show 6060 + 105 * k + 0 ≤ 7302250; omega⟩) hS (fun q h => h.1) hP hD (fun q h h' => h.2 h'.2) (fun H2 locs2 hQ hP hz2 hS => ?_)
  refine W.lcmp hx hb dL_law_1114 ?_
  refine lv_if_eq (tgt := 1164) hx hb dL_law_1115 rfl (fun _ => ?_) (fun hc => absurd (by simp [lg_cmp]) hc)
  refine W.widen (k := 60 + 9 * k + 9) (n := 6060 + 105 * k + 105) (by omega) (by omega) ?_
  exact next ad z σ' τ' _ _ rfl (RR_t hR' (by omega)) hP hQ hD (fun q h => Nat.lt_of_lt_of_le (hM q h) (Nat.le_trans hz1 hz2)) hS
theorem op_doubt {p : Program} {l : Launch} {e : Env} {s : State} {m : MethodId} {below : List Frame} {meth : Method} {c : Code} {b L k : Nat} {xs : Nat → Int32} {G : va_G} {ca : Nat → ClassId} {M : Nat → Prop} {ad bd : Nat → Nat → Nat} {z : Nat × Nat} {σ τ : PS} {H : Heap} {locs : List Loc} {ls : Array Slot} (hL : L ≤ 2560) (C0 : lw_At p s m meth c b L xs) (hK : va_K G vwCl (tyL ca) s) (hz : ZC s) (hk : 5 * k + 5 ≤ L) (hI : LI s G ca M b k ad bd z σ τ H locs ls) (next : NX p l e s m below meth c b k G ca M ad bd ls) : W p l e room_1 s m #[Value.ref b] below meth c H locs (60 + 9 * k) (6060 + 105 * k) (lw_Z below #[Value.ref b] s) (F0 m 1120 ls []) := by
  obtain ⟨hx, hb, hr, hml, hown, hts0, hX, hbl, hlocks, hgv⟩ := C0
  have hts : ∀ w ∈ WW, w.before #[Value.ref b] s = true := fun w h => hts0 w (List.mem_filter.mp h).1
  have hown : s.vm.findClass RL = some m.cls := hown
  obtain ⟨hR, hP, hQ, hD, hE, hM, hS, hl⟩ := hI
  obtain ⟨r, σ', τ', e1, e2, hR'⟩ := m_doubt hR (xs (5 * k + 1)) (xs (5 * k + 2)) (xs (5 * k + 3))
  refine lv_aload_n hx hb dL_law_1120 rfl (lv_at hl 1 rfl) ?_
  refine lw_arg hx hb hX hbl hS (lv_at hl 0 rfl) (lv_at hl 3 rfl) 1 (by decide) hk hL (v := (1 : Int32)) rfl dL_law_1121 dL_law_1122 (fun rest kk => lv_iconst (v := (1 : Int32)) hx hb dL_law_1123 rfl kk) dL_law_1124 dL_law_1125 ?_
  refine lw_arg hx hb hX hbl hS (lv_at hl 0 rfl) (lv_at hl 3 rfl) 2 (by decide) hk hL (v := (2 : Int32)) rfl dL_law_1126 dL_law_1127 (fun rest kk => lv_iconst (v := (2 : Int32)) hx hb dL_law_1128 rfl kk) dL_law_1129 dL_law_1130 ?_
  refine lw_arg hx hb hX hbl hS (lv_at hl 0 rfl) (lv_at hl 3 rfl) 3 (by decide) hk hL (v := (3 : Int32)) rfl dL_law_1131 dL_law_1132 (fun rest kk => lv_iconst (v := (3 : Int32)) hx hb dL_law_1133 rfl kk) dL_law_1134 dL_law_1135 ?_
  refine y_cl (va_runV (As := [.int (xs (5 * k + 1)), .int (xs (5 * k + 2)), .int (xs (5 * k + 3))]) (rest := []) ⟨hx, hb, hml, hown, hts⟩ (t_X9_doubt l G ad ca _ z (xs (5 * k + 1)) (xs (5 * k + 2)) (xs (5 * k + 3)) hD σ r σ' e1) (cwV 3 hts gr_L_151 rfl rfl rfl h9_X9_doubt ⟨Nat.le_of_ble_eq_true rfl, Nat.le_of_ble_eq_true rfl⟩) (x_prV zkC hz hK hP (mk_450 h01) rfl rfl) rfl rfl hl.1 rfl (lv_room (Nat.le_of_ble_eq_true rfl)) dL_law_1136 ⟨by show 60 + 9 * k + 0 ≤ 600000; omega, by show 6060 + 105 * k + 0 ≤ 7302250; omega⟩) hS (fun q h => h.1) hQ hE (fun q h h' => h'.2 h.2) (fun H1 locs1 hP hQ hz1 hS => ?_)
  refine lv_aload_n hx hb dL_law_1139 rfl (lv_at hl 2 rfl) ?_
  refine lw_arg hx hb hX hbl hS (lv_at hl 0 rfl) (lv_at hl 3 rfl) 1 (by decide) hk hL (v := (1 : Int32)) rfl dL_law_1140 dL_law_1141 (fun rest kk => lv_iconst (v := (1 : Int32)) hx hb dL_law_1142 rfl kk) dL_law_1143 dL_law_1144 ?_
  refine lw_arg hx hb hX hbl hS (lv_at hl 0 rfl) (lv_at hl 3 rfl) 2 (by decide) hk hL (v := (2 : Int32)) rfl dL_law_1145 dL_law_1146 (fun rest kk => lv_iconst (v := (2 : Int32)) hx hb dL_law_1147 rfl kk) dL_law_1148 dL_law_1149 ?_
  refine lw_arg hx hb hX hbl hS (lv_at hl 0 rfl) (lv_at hl 3 rfl) 3 (by decide) hk hL (v := (3 : Int32)) rfl dL_law_1150 dL_law_1151 (fun rest kk => lv_iconst (v := (3 : Int32)) hx hb dL_law_1152 rfl kk) dL_law_1153 dL_law_1154 ?_
  refine y_cl (va_runV (As := [.int (xs (5 * k + 1)), .int (xs (5 * k + 2)), .int (xs (5 * k + 3))]) (rest := [.long r]) ⟨hx, hb, hml, hown, hts⟩ (t_X10_doubt l G bd ca _ (xs (5 * k + 1)) (xs (5 * k + 2)) (xs (5 * k + 3)) hE τ r τ' e2) (cwV 3 hts gr_L_155 rfl rfl rfl h9_X10_doubt ⟨Nat.le_of_ble_eq_true rfl, Nat.le_of_ble_eq_true rfl⟩) (x_prV zkM trivial hK hQ (mk_500 h01) rfl rfl) rfl rfl hl.1 rfl (lv_room (Nat.le_of_ble_eq_true rfl)) dL_law_1155 ⟨by show 60 + 9 * k + 0 ≤ 600000; omega, by show 6060 + 105 * k + 0 ≤ 7302250; omega⟩) hS (fun q h => h.1) hP hD (fun q h h' => h.2 h'.2) (fun H2 locs2 hQ hP hz2 hS => ?_)
  refine W.lcmp hx hb dL_law_1158 ?_
  refine lv_if_eq (tgt := 1164) hx hb dL_law_1159 rfl (fun _ => ?_) (fun hc => absurd (by simp [lg_cmp]) hc)
  refine W.widen (k := 60 + 9 * k + 9) (n := 6060 + 105 * k + 105) (by omega) (by omega) ?_
  exact next ad z σ' τ' _ _ rfl (RR_t hR' (by omega)) hP hQ hD (fun q h => Nat.lt_of_lt_of_le (hM q h) (Nat.le_trans hz1 hz2)) hS

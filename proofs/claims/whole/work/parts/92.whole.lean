theorem DW.wk {ad : Nat → Nat → Nat} {L : List (Nat × Nat)} {A B : Nat → Prop} (h : DW ad L A) (hB : ∀ x ∈ L, A (ad x.1 x.2) → B (ad x.1 x.2)) : DW ad L B := ⟨h.1, fun q hq => hB q hq (h.2 q hq)⟩
set_option maxHeartbeats 1000000 in
set_option maxRecDepth 100000 in
/-- from the entry, for every script of at most 2560 ints, the law comes to its end with true -/
theorem whole_start {p : Program} {e : Env} {s : State} {m : MethodId} {below : List Frame} {meth : Method} {c : Code} (l : Launch) {b L : Nat} {xs : Nat → Int32} (hL : L ≤ 2560) (C0 : lw_At p s m meth c b L xs) : W p l e room_1 s m #[Value.ref b] below meth c s.heap [] 0 0 (lw_Z below #[Value.ref b] s) (entryFrame m ([Value.ref b] : List Value).toArray 4) := by
  obtain ⟨hx, hb, hr, hml, hown, hts0, hX, hbl, hlocks, hgv⟩ := id C0
  have hts : ∀ w ∈ WW, w.before #[Value.ref b] s = true := fun w h => hts0 w (List.mem_filter.mp h).1
  have hown : s.vm.findClass RL = some m.cls := hown
  have hA : ∀ q : Nat, s.heap.size ≤ q → (fun q : Nat => s.heap.size ≤ q) q := fun _ h => h
  obtain ⟨c0, j0, hk0⟩ := u_known (C := RX0) (T := TX0) (N := 7) (n := 7) hts i_X0 (hts _ kn_X0)
  obtain ⟨c1, j1, hk1⟩ := u_known (C := RX1) (T := TX1) (N := 10) (n := 10) hts i_X1 (hts _ kn_X1)
  obtain ⟨c2, j2, hk2⟩ := u_known (C := RX2) (T := TX2) (N := 9) (n := 9) hts i_X2 (hts _ kn_X2)
  obtain ⟨c3, j3, hk3⟩ := u_known (C := RX3) (T := TX3) (N := 6) (n := 6) hts i_X3 (hts _ kn_X3)
  obtain ⟨c4, j4, hk4⟩ := u_known (C := RX4) (T := TX4) (N := 7) (n := 7) hts i_X4 (hts _ kn_X4)
  obtain ⟨c5, j5, hk5⟩ := u_known (C := RX5) (T := TX5) (N := 6) (n := 6) hts i_X5 (hts _ kn_X5)
  obtain ⟨c6, j6, hk6⟩ := u_known (C := RX6) (T := TX6) (N := 3) (n := 3) hts i_X6 (hts _ kn_X6)
  obtain ⟨c7, j7, hk7⟩ := u_known (C := RX7) (T := TX7) (N := 3) (n := 3) hts i_X7 (hts _ kn_X7)
  obtain ⟨c8, j8, hk8⟩ := u_known (C := RX8) (T := TX8) (N := 5) (n := 5) hts i_X8 (hts _ kn_X8)
  obtain ⟨c9, j9, hk9⟩ := u_known (C := RX9) (T := TX9) (N := 12) (n := 12) hts i_X9 (hts _ kn_X9)
  obtain ⟨c10, j10, hk10⟩ := u_known (C := RX10) (T := TX10) (N := 39) (n := 39) hts i_X10 (hts _ kn_X10)
  obtain ⟨a0, ha0⟩ := arr_p (ty := .int) (fun C h => by cases h) (hts _ ka_int)
  obtain ⟨a1, ha1⟩ := arr_p (ty := .boolean) (fun C h => by cases h) (hts _ ka_boolean)
  obtain ⟨a2, ha2⟩ := arr_p (ty := .long) (fun C h => by cases h) (hts _ ka_long)
  obtain ⟨a3, ha3⟩ := arr_o (C := RX1) (hts0 _ ko_X1)
  obtain ⟨a4, ha4⟩ := arr_o (C := RX2) (hts0 _ ko_X2)
  obtain ⟨G, hG⟩ : ∃ G : va_G, ∀ (k : Nat) (q : vw_C), vwCl[k]? = some q → u_Kn s q.1 q.2.1 q.2.2 (G.1 k) (G.2 k) := by
    refine ⟨(fun k => match k with | 0 => c0 | 1 => c1 | 2 => c2 | 3 => c3 | 4 => c4 | 5 => c5 | 6 => c6 | 7 => c7 | 8 => c8 | 9 => c9 | _ => c10, fun k => match k with | 0 => j0 | 1 => j1 | 2 => j2 | 3 => j3 | 4 => j4 | 5 => j5 | 6 => j6 | 7 => j7 | 8 => j8 | 9 => j9 | _ => j10), ?_⟩
    intro k q hq
    match k, hq with
    | 0, hq => cases hq; exact hk0
    | 1, hq => cases hq; exact hk1
    | 2, hq => cases hq; exact hk2
    | 3, hq => cases hq; exact hk3
    | 4, hq => cases hq; exact hk4
    | 5, hq => cases hq; exact hk5
    | 6, hq => cases hq; exact hk6
    | 7, hq => cases hq; exact hk7
    | 8, hq => cases hq; exact hk8
    | 9, hq => cases hq; exact hk9
    | 10, hq => cases hq; exact hk10
    | k + 11, hq => exact absurd hq (by simp)
  obtain ⟨ca, hca⟩ : ∃ ca : Nat → ClassId, ∀ (k : Nat) (q : ClassId × FieldType), (tyL ca)[k]? = some q → ArrOfT s q.1 q.2 ∧ va_RA s q.1 q.2 := by
    refine ⟨fun k => match k with | 0 => a0 | 1 => a1 | 2 => a2 | 3 => a3 | _ => a4, ?_⟩
    intro k q hq
    match k, hq with
    | 0, hq => cases hq; exact ha0
    | 1, hq => cases hq; exact ha1
    | 2, hq => cases hq; exact ha2
    | 3, hq => cases hq; exact ha3
    | 4, hq => cases hq; exact ha4
    | k + 5, hq => exact absurd hq (by simp)
  have hK : va_K G vwCl (tyL ca) s := ⟨hG, hca⟩
  have hz : ZC s := ⟨va_Nw.of rfl (hts0 _ kq_0), va_Nw.of rfl (hts0 _ kq_1), va_Nw.of rfl (hts0 _ kq_2), va_Nw.of rfl (hts0 _ kq_3), va_Nw.of rfl (hts0 _ kq_4), va_Nw.of rfl (hts0 _ kq_5), va_Nw.of rfl (hts0 _ kq_6), va_AO.of (hts0 _ ko_X1), va_AO.of (hts0 _ ko_X2)⟩
  have hS : va_S (fun q : Nat => s.heap.size ≤ q) s.heap s.heap [] := va_S.rf
  have hP : va_P G vwCl [] s.heap := fun k q h => by simp at h
  have hD : va_D (fun q : Nat => s.heap.size ≤ q) [] := ⟨fun i j p q h => by simp at h, fun k q h => by simp at h⟩
  have hl := lv_entry ([.ref b]) (n := 4) (Nat.le_of_ble_eq_true rfl)
  rw [lg_entry_eq]
  generalize (lg_sl ([.ref b]) ++ List.replicate (4 - (lg_sl ([.ref b])).length) Slot.unset).toArray = ls at hl ⊢
  have hl : lv_has ls 4 [(0, .ref b)] := hl
  obtain ⟨τ0, ht0, ht1, ht2, ht3⟩ := tail0
  refine va_new (ci := 9) (fs := [.null, .null, .null, .null, .null, .null, .null, .null, .null, .int 0, .int 0, .int 0]) (C := RX9) (T := TX9) (N := 12) hx hb hts i_X9 tyX9 tyX9_ok hown (hts _ kl_L_7) (hts _ kn_X9) (hts _ kz_X9) hK hP hD hS hA rfl (fun j hj => by rcases (show j = 0 ∨ j = 1 ∨ j = 2 ∨ j = 3 ∨ j = 4 ∨ j = 5 ∨ j = 6 ∨ j = 7 ∨ j = 8 ∨ j = 9 ∨ j = 10 ∨ j = 11 by omega) with rfl | rfl | rfl | rfl | rfl | rfl | rfl | rfl | rfl | rfl | rfl | rfl <;> rfl) (Nat.le_of_ble_eq_true rfl) (Nat.le_of_ble_eq_true rfl) dL_law_0 (fun q0 H hP hD hS => ?_)
  have hP : va_P G vwCl [(q0, (.inr (9, [.null, .null, .null, .null, .null, .null, .null, .null, .null, .int 0, .int 0, .int 0]) : va_E))] H := hP
  have hD : va_D (fun q : Nat => s.heap.size ≤ q) [(q0, (.inr (9, [.null, .null, .null, .null, .null, .null, .null, .null, .null, .int 0, .int 0, .int 0]) : va_E))] := hD
  refine lv_dup hx hb dL_law_3 rfl ?_
  have hFc : ∀ a, va_A [(q0, (.inr (9, [.null, .null, .null, .null, .null, .null, .null, .null, .null, .int 0, .int 0, .int 0]) : va_E))] H.size a → s.heap.size ≤ a := by
    rintro a (⟨k, e, h⟩ | h)
    · exact hD.2 k (a, e) h
    · exact Nat.le_trans hS.1 h
  refine va_callv (va_runI (As := []) (rest := [.ref q0]) ⟨hx, hb, hml, hown, hts⟩ (t_X9_init l G ca q0 H.size) (cwI 0 hts (gw_0 kc_X9_init) rfl rfl rfl (hts _ kz_X9) (hts _ km_L_9) (hts _ ki_X9_init) rfl h9_X9_init ⟨Nat.le_of_ble_eq_true rfl, Nat.le_of_ble_eq_true rfl⟩) (x_inPre hz hK hP hD) rfl rfl hl.1 rfl (lv_room (Nat.le_of_ble_eq_true rfl)) dL_law_4 ⟨Nat.le_of_ble_eq_true rfl, Nat.le_of_ble_eq_true rfl⟩) hS (fun q _ h => hFc q h) hFc (fun u t H1 locs ht hvm hw hB hz1 hk1 hS => ?_)
  obtain ⟨hP1, hK1, hD1⟩ := hB
  rw [ht] at hP1
  obtain ⟨hPC, hDC⟩ := perm_P pos9 (world9 ca q0 u) pos9_i (LC_nd (by decide) (by decide)) hP1 hD1
  have hDC := hDC.wk (B := fun q => s.heap.size ≤ q) (fun x _ h => hFc _ h)
  generalize had : ad9 q0 u = ad at hPC hDC
  have h450 : ad 450 0 = q0 := by rw [← had]; rfl
  refine lv_astore_n (lv' := [(1, .ref q0), (0, .ref b)]) hx hb dL_law_7 rfl hl (by decide) rfl (fun ls hl => ?_)
  refine va_new (ci := 10) (fs := [.null, .null, .null, .null, .int 0, .int 0, .null, .null, .int 0, .null, .null, .null, .null, .null, .int 0, .null, .null, .null, .null, .null, .null, .null, .null, .null, .null, .int 0, .long 0, .int 0, .null, .int 0, .int 0, .null, .null, .int 0, .null, .null, .null, .null, .null]) (C := RX10) (T := TX10) (N := 39) hx hb hts i_X10 tyX10 tyX10_ok hown (hts _ kl_L_10) (hts _ kn_X10) (hts _ kz_X10) hK hPC (hDC.d ca sC0) hS hA rfl (fun j hj => by rcases (show j = 0 ∨ j = 1 ∨ j = 2 ∨ j = 3 ∨ j = 4 ∨ j = 5 ∨ j = 6 ∨ j = 7 ∨ j = 8 ∨ j = 9 ∨ j = 10 ∨ j = 11 ∨ j = 12 ∨ j = 13 ∨ j = 14 ∨ j = 15 ∨ j = 16 ∨ j = 17 ∨ j = 18 ∨ j = 19 ∨ j = 20 ∨ j = 21 ∨ j = 22 ∨ j = 23 ∨ j = 24 ∨ j = 25 ∨ j = 26 ∨ j = 27 ∨ j = 28 ∨ j = 29 ∨ j = 30 ∨ j = 31 ∨ j = 32 ∨ j = 33 ∨ j = 34 ∨ j = 35 ∨ j = 36 ∨ j = 37 ∨ j = 38 by omega) with rfl | rfl | rfl | rfl | rfl | rfl | rfl | rfl | rfl | rfl | rfl | rfl | rfl | rfl | rfl | rfl | rfl | rfl | rfl | rfl | rfl | rfl | rfl | rfl | rfl | rfl | rfl | rfl | rfl | rfl | rfl | rfl | rfl | rfl | rfl | rfl | rfl | rfl | rfl <;> rfl) (Nat.le_of_ble_eq_true rfl) (Nat.le_of_ble_eq_true rfl) dL_law_8 (fun q1 H2 hP2 hD2 hS => ?_)
  have hPC := va_P_left hP2
  have hPc := va_P_right hP2
  have hDc := va_D_right hD2
  refine lv_dup hx hb dL_law_11 rfl ?_
  have hFc : ∀ a, va_A [(q1, (.inr (10, [.null, .null, .null, .null, .int 0, .int 0, .null, .null, .int 0, .null, .null, .null, .null, .null, .int 0, .null, .null, .null, .null, .null, .null, .null, .null, .null, .null, .int 0, .long 0, .int 0, .null, .int 0, .int 0, .null, .null, .int 0, .null, .null, .null, .null, .null]) : va_E))] H2.size a → s.heap.size ≤ a := by
    rintro a (⟨k, e, h⟩ | h)
    · exact hDc.2 k (a, e) h
    · exact Nat.le_trans hS.1 h
  have hno : ∀ x ∈ LC (0, 0), ¬ va_A [(q1, (.inr (10, [.null, .null, .null, .null, .int 0, .int 0, .null, .null, .int 0, .null, .null, .null, .null, .null, .int 0, .null, .null, .null, .null, .null, .null, .null, .null, .null, .null, .int 0, .long 0, .int 0, .null, .int 0, .int 0, .null, .null, .int 0, .null, .null, .null, .null, .null]) : va_E))] H2.size (ad x.1 x.2) := by
    intro x hx h
    have hm : (ad x.1 x.2, ent ad ca sC0 x.1 x.2) ∈ wld ad ca sC0 (LC (0, 0)) := List.mem_map.mpr ⟨x, hx, rfl⟩
    rcases h with ⟨k, e, h⟩ | h
    · have := List.mem_singleton.mp (List.mem_of_getElem? h)
      have e1 : ad x.1 x.2 = q1 := congrArg Prod.fst this
      exact va_D_apart hD2 hm (List.mem_singleton.mpr rfl) e1
    · have := (va_P_mem hPC hm).lt
      have : ad x.1 x.2 < H2.size := this
      omega
  refine va_callv (va_runI (As := []) (rest := [.ref q1]) ⟨hx, hb, hml, hown, hts⟩ (t_X10_init l G ca q1 H2.size τ0 ht0) (cwI 0 hts (gw_0 kc_X10_init) rfl rfl rfl (hts _ kz_X10) (hts _ km_L_12) (hts _ ki_X10_init) rfl h9_X10_init ⟨Nat.le_of_ble_eq_true rfl, Nat.le_of_ble_eq_true rfl⟩) (x_inPre hz hK hPc hDc) rfl rfl hl.1 rfl (lv_room (Nat.le_of_ble_eq_true rfl)) dL_law_12 ⟨Nat.le_of_ble_eq_true rfl, Nat.le_of_ble_eq_true rfl⟩) hS (fun q _ h => hFc q h) hFc (fun bd t H3 locs ht hvm hw hB hz3 hk3 hS => ?_)
  obtain ⟨h500, hDM⟩ := hw
  obtain ⟨hPM, hK3⟩ := hB
  rw [ht] at hPM
  have hDC2 := hDC.wk (B := fun q => s.heap.size ≤ q ∧ ¬ va_A [(q1, (.inr (10, [.null, .null, .null, .null, .int 0, .int 0, .null, .null, .int 0, .null, .null, .null, .null, .null, .int 0, .null, .null, .null, .null, .null, .null, .null, .null, .null, .null, .int 0, .long 0, .int 0, .null, .int 0, .int 0, .null, .null, .int 0, .null, .null, .null, .null, .null]) : va_E))] H2.size q) (fun x hx h => ⟨h, hno x hx⟩)
  have hPC := keepP hPC hDC2 (fun q h => h.2) hk3
  refine lv_astore_n (lv' := [(2, .ref q1), (1, .ref q0), (0, .ref b)]) hx hb dL_law_15 rfl hl (by decide) rfl (fun ls hl => ?_)
  refine lv_iconst (v := (0 : Int32)) hx hb dL_law_16 rfl ?_
  refine lv_istore_n (lv' := [(3, .int (0 : Int32)), (2, .ref q1), (1, .ref q0), (0, .ref b)]) hx hb dL_law_17 rfl hl (by decide) rfl (fun ls hl => ?_)
  refine W.widen (k := 60 + 9 * 0) (n := 6060 + 105 * 0) (by omega) (by omega) ?_
  refine law_loop (M := fun q => ∃ x ∈ LM, q = bd x.1 x.2) (bd := bd) hL C0 hK hz (L + 1) 0 ad (0, 0) sC0 τ0 _ _ ls (by omega) (by omega) ⟨RR0 ht1 ht2 ht3, hPC, hPM, hDC.wk (fun x hx h => ⟨h, ?_⟩), hDM.wk (fun x hx h => ⟨hFc _ h, x, hx, rfl⟩), ?_, hS, ?_⟩
  · rintro ⟨y, hy, e⟩
    have := hDM.2 y hy
    rw [← e] at this
    exact hno x hx this
  · rintro q ⟨y, hy, rfl⟩
    exact (va_P_mem hPM (List.mem_map.mpr ⟨y, hy, rfl⟩)).lt
  · rw [h450, h500]
    exact lv_sub hl [3, 2, 1, 0] rfl

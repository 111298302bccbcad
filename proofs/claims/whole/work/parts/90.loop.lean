/-! ===== the law's loop ===== -/
theorem and63 (x : Int32) : ∃ v, v < 64 ∧ x &&& 63 = nI v := by
  refine ⟨(x.toBitVec &&& 63#32).toNat, ?_, ?_⟩
  · rw [BitVec.toNat_and]
    exact Nat.lt_succ_of_le (Nat.and_le_right)
  · apply Int32.toBitVec_inj.mp
    show x.toBitVec &&& 63#32 = BitVec.ofNat 32 (x.toBitVec &&& 63#32).toNat
    rw [BitVec.ofNat_toNat, BitVec.setWidth_eq]
theorem out63 : ∀ v, v < 64 → 32 < v → (32 : Int) < (nI v).toInt := by decide +kernel
set_option maxHeartbeats 1000000 in
set_option maxRecDepth 100000 in
theorem law_loop {p : Program} {l : Launch} {e : Env} {s : State} {m : MethodId} {below : List Frame} {meth : Method} {c : Code} {b L : Nat} {xs : Nat → Int32} {G : va_G} {ca : Nat → ClassId} {M : Nat → Prop} {bd : Nat → Nat → Nat} (hL : L ≤ 2560) (C0 : lw_At p s m meth c b L xs) (hK : va_K G vwCl (tyL ca) s) (hz : ZC s) :
    ∀ (n k : Nat) (ad : Nat → Nat → Nat) (z : Nat × Nat) (σ τ : PS) (H : Heap) (locs : List Loc) (ls : Array Slot), 5 * k ≤ L → L < 5 * k + 5 * n → LI s G ca M b k ad bd z σ τ H locs ls → W p l e room_1 s m #[Value.ref b] below meth c H locs (60 + 9 * k) (6060 + 105 * k) (lw_Z below #[Value.ref b] s) (F0 m 18 ls []) := by
  have C1 := C0
  obtain ⟨hx, hb, hr, hml, hown, hts0, hX, hbl, hlocks, hgv⟩ := C0
  have hbA : ¬ (fun q : Nat => s.heap.size ≤ q) b := Nat.not_le.mpr hbl
  intro n
  induction n with
  | zero => intro k ad z σ τ H locs ls h1 h2; omega
  | succ n ih =>
    intro k ad z σ τ H locs ls h1 h2 hI
    have hI1 := hI
    obtain ⟨hR, hP, hQ, hD, hE, hM, hS, hl⟩ := hI
    refine lv_iload_n hx hb dL_law_18 rfl (lv_at hl 3 rfl) ?_
    refine lv_aload_n hx hb dL_law_19 rfl (lv_at hl 0 rfl) ?_
    refine va_slen hx hb hX hbl hbA hS dL_law_20 ?_
    refine lv_iconst (v := (5 : Int32)) hx hb dL_law_21 rfl ?_
    refine lv_isub hx hb dL_law_22 ?_
    refine lv_icmp_gt (tgt := 1170) hx hb dL_law_23 rfl (fun hc => ?_) (fun hc => ?_)
    · refine lv_iconst (v := (1 : Int32)) hx hb dL_law_1170 rfl ?_
      refine va_forget (fun q hq => hS.2.2 q hq) ?_
      refine W.widen (k := 600000) (n := 7302250) (by omega) (by omega) ?_
      exact lw_ret hx hb hr hlocks dL_law_1171
    · have hc : ¬ (nI L - 5 < nI (5 * k)) := hc
      have hk : 5 * k + 5 ≤ L := by
        rcases Nat.lt_or_ge L (5 * k + 5) with q | q
        · exfalso
          rcases Nat.lt_or_ge L 5 with r | r
          · have hk0 : k = 0 := by omega
            subst hk0
            rcases (show L = 0 ∨ L = 1 ∨ L = 2 ∨ L = 3 ∨ L = 4 by omega) with rfl | rfl | rfl | rfl | rfl <;> exact hc (by decide)
          · apply hc
            have e5 : nI L - 5 = nI (L - 5) := by
              have h : nI (L - 5) + nI 5 = nI L := by rw [nI_add]; congr 1; omega
              rw [← h]
              show nI (L - 5) + 5 - 5 = _
              exact Int32.add_sub_cancel _ _
            rw [e5]
            exact nI_lt (by omega) (by omega)
        · exact q
      refine lv_aload_n hx hb dL_law_26 rfl (lv_at hl 0 rfl) ?_
      refine lv_iload_n hx hb dL_law_27 rfl (lv_at hl 3 rfl) ?_
      refine va_sld hx hb hX hbl hbA hS (vp_in_nI (by omega) (by omega)) dL_law_28 ?_
      refine lv_bipush (v := (63 : Int32)) hx hb dL_law_29 rfl ?_
      refine lv_iand hx hb dL_law_31 ?_
      obtain ⟨v, hv, ev⟩ := and63 (xs (nI (5 * k)).toNatClampNeg)
      rw [ev]
      have nx : NX p l e s m below meth c b k G ca M ad bd ls := by
        intro ad' z' σ' τ' H' locs' h0 hR hP hQ hD hM hS
        refine lv_iinc (v := nI (5 * (k + 1))) (lv' := [(3, .int (nI (5 * (k + 1)))), (0, .ref b), (1, .ref (ad 450 0)), (2, .ref (bd 500 0))]) hx hb dL_law_1164 hl (k := 3) rfl (by rw [show (Int32.ofInt 5) = nI 5 from by decide, nI_add]; rfl) (by decide) rfl (fun ls hl => ?_)
        refine lv_goto (tgt := 18) hx hb dL_law_1167 rfl ?_
        have := ih (k + 1) ad' z' σ' τ' H' locs' ls (by omega) (by omega) ⟨hR, hP, hQ, hD, hE, hM, hS, by rw [h0]; exact lv_sub hl [1, 2, 3, 0] rfl⟩
        rw [show 60 + 9 * (k + 1) = 60 + 9 * k + 9 by omega, show 6060 + 105 * (k + 1) = 6060 + 105 * k + 105 by omega] at this
        exact this
      rcases (show v = 0 ∨ v = 1 ∨ v = 2 ∨ v = 3 ∨ v = 4 ∨ v = 5 ∨ v = 6 ∨ v = 7 ∨ v = 8 ∨ v = 9 ∨ v = 10 ∨ v = 11 ∨ v = 12 ∨ v = 13 ∨ v = 14 ∨ v = 15 ∨ v = 16 ∨ v = 17 ∨ v = 18 ∨ v = 19 ∨ v = 20 ∨ v = 21 ∨ v = 22 ∨ v = 23 ∨ v = 24 ∨ v = 25 ∨ v = 26 ∨ v = 27 ∨ v = 28 ∨ v = 29 ∨ v = 30 ∨ v = 31 ∨ v = 32 ∨ 32 < v by omega) with rfl | rfl | rfl | rfl | rfl | rfl | rfl | rfl | rfl | rfl | rfl | rfl | rfl | rfl | rfl | rfl | rfl | rfl | rfl | rfl | rfl | rfl | rfl | rfl | rfl | rfl | rfl | rfl | rfl | rfl | rfl | rfl | rfl | hgt
      · refine lv_tableIn (off := 148) (tgt := 180) hx hb dL_law_32 (by decide) (by decide) (by rfl) rfl ?_
        exact op_parent hL C1 hK hz hk hI1 nx
      · refine lv_tableIn (off := 181) (tgt := 213) hx hb dL_law_32 (by decide) (by decide) (by rfl) rfl ?_
        exact op_trait hL C1 hK hz hk hI1 nx
      · refine lv_tableIn (off := 214) (tgt := 246) hx hb dL_law_32 (by decide) (by decide) (by rfl) rfl ?_
        exact op_has hL C1 hK hz hk hI1 nx
      · refine lv_tableIn (off := 247) (tgt := 279) hx hb dL_law_32 (by decide) (by decide) (by rfl) rfl ?_
        exact op_flag hL C1 hK hz hk hI1 nx
      · refine lv_tableIn (off := 270) (tgt := 302) hx hb dL_law_32 (by decide) (by decide) (by rfl) rfl ?_
        exact op_close hL C1 hK hz hk hI1 nx
      · refine lv_tableIn (off := 283) (tgt := 315) hx hb dL_law_32 (by decide) (by decide) (by rfl) rfl ?_
        exact op_below hL C1 hK hz hk hI1 nx
      · refine lv_tableIn (off := 316) (tgt := 348) hx hb dL_law_32 (by decide) (by decide) (by rfl) rfl ?_
        exact op_sample hL C1 hK hz hk hI1 nx
      · refine lv_tableIn (off := 349) (tgt := 381) hx hb dL_law_32 (by decide) (by decide) (by rfl) rfl ?_
        exact op_of hL C1 hK hz hk hI1 nx
      · refine lv_tableIn (off := 382) (tgt := 414) hx hb dL_law_32 (by decide) (by decide) (by rfl) rfl ?_
        exact op_samples hL C1 hK hz hk hI1 nx
      · refine lv_tableIn (off := 395) (tgt := 427) hx hb dL_law_32 (by decide) (by decide) (by rfl) rfl ?_
        exact op_function hL C1 hK hz hk hI1 nx
      · refine lv_tableIn (off := 418) (tgt := 450) hx hb dL_law_32 (by decide) (by decide) (by rfl) rfl ?_
        exact op_handler hL C1 hK hz hk hI1 nx
      · refine lv_tableIn (off := 487) (tgt := 519) hx hb dL_law_32 (by decide) (by decide) (by rfl) rfl ?_
        exact op_place hL C1 hK hz hk hI1 nx
      · refine lv_tableIn (off := 530) (tgt := 562) hx hb dL_law_32 (by decide) (by decide) (by rfl) rfl ?_
        exact op_test hL C1 hK hz hk hI1 nx
      · refine lv_tableIn (off := 583) (tgt := 615) hx hb dL_law_32 (by decide) (by decide) (by rfl) rfl ?_
        exact op_lay hL C1 hK hz hk hI1 nx
      · refine lv_tableIn (off := 606) (tgt := 638) hx hb dL_law_32 (by decide) (by decide) (by rfl) rfl ?_
        exact op_lift hL C1 hK hz hk hI1 nx
      · refine lv_tableIn (off := 629) (tgt := 661) hx hb dL_law_32 (by decide) (by decide) (by rfl) rfl ?_
        exact op_freeze hL C1 hK hz hk hI1 nx
      · refine lv_tableIn (off := 678) (tgt := 710) hx hb dL_law_32 (by decide) (by decide) (by rfl) rfl ?_
        exact op_about hL C1 hK hz hk hI1 nx
      · refine lv_tableIn (off := 711) (tgt := 743) hx hb dL_law_32 (by decide) (by decide) (by rfl) rfl ?_
        exact op_dominates hL C1 hK hz hk hI1 nx
      · refine lv_tableIn (off := 744) (tgt := 776) hx hb dL_law_32 (by decide) (by decide) (by rfl) rfl ?_
        exact op_order hL C1 hK hz hk hI1 nx
      · refine lv_tableIn (off := 777) (tgt := 809) hx hb dL_law_32 (by decide) (by decide) (by rfl) rfl ?_
        exact op_arg hL C1 hK hz hk hI1 nx
      · refine lv_tableIn (off := 810) (tgt := 842) hx hb dL_law_32 (by decide) (by decide) (by rfl) rfl ?_
        exact op_call hL C1 hK hz hk hI1 nx
      · refine lv_tableIn (off := 833) (tgt := 865) hx hb dL_law_32 (by decide) (by decide) (by rfl) rfl ?_
        exact op_value hL C1 hK hz hk hI1 nx
      · refine lv_tableIn (off := 847) (tgt := 879) hx hb dL_law_32 (by decide) (by decide) (by rfl) rfl ?_
        exact op_failure hL C1 hK hz hk hI1 nx
      · refine lv_tableIn (off := 860) (tgt := 892) hx hb dL_law_32 (by decide) (by decide) (by rfl) rfl ?_
        exact op_step hL C1 hK hz hk hI1 nx
      · refine lv_tableIn (off := 883) (tgt := 915) hx hb dL_law_32 (by decide) (by decide) (by rfl) rfl ?_
        exact op_counter hL C1 hK hz hk hI1 nx
      · refine lv_tableIn (off := 906) (tgt := 938) hx hb dL_law_32 (by decide) (by decide) (by rfl) rfl ?_
        exact op_applicable hL C1 hK hz hk hI1 nx
      · refine lv_tableIn (off := 939) (tgt := 971) hx hb dL_law_32 (by decide) (by decide) (by rfl) rfl ?_
        exact op_most hL C1 hK hz hk hI1 nx
      · refine lv_tableIn (off := 962) (tgt := 994) hx hb dL_law_32 (by decide) (by decide) (by rfl) rfl ?_
        exact op_explain hL C1 hK hz hk hI1 nx
      · refine lv_tableIn (off := 985) (tgt := 1017) hx hb dL_law_32 (by decide) (by decide) (by rfl) rfl ?_
        exact op_where hL C1 hK hz hk hI1 nx
      · refine lv_tableIn (off := 998) (tgt := 1030) hx hb dL_law_32 (by decide) (by decide) (by rfl) rfl ?_
        exact op_count hL C1 hK hz hk hI1 nx
      · refine lv_tableIn (off := 1031) (tgt := 1063) hx hb dL_law_32 (by decide) (by decide) (by rfl) rfl ?_
        exact op_covered hL C1 hK hz hk hI1 nx
      · refine lv_tableIn (off := 1054) (tgt := 1086) hx hb dL_law_32 (by decide) (by decide) (by rfl) rfl ?_
        exact op_hole hL C1 hK hz hk hI1 nx
      · refine lv_tableIn (off := 1088) (tgt := 1120) hx hb dL_law_32 (by decide) (by decide) (by rfl) rfl ?_
        exact op_doubt hL C1 hK hz hk hI1 nx
      · refine lv_tableOut (tgt := 1164) hx hb dL_law_32 (Or.inr (out63 v hv hgt)) rfl ?_
        refine W.widen (k := 60 + 9 * k + 9) (n := 6060 + 105 * k + 105) (by omega) (by omega) ?_
        exact nx ad z σ τ H locs rfl (RR_t hR (by omega)) hP hQ hD hM hS

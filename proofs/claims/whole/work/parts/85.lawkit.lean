/-! ===== the law's loop: two pools side by side ===== -/
theorem RR_t {z : Nat × Nat} {t t' : Nat} {σ τ : PS} (h : RR z t σ τ) (ht : t ≤ t') : RR z t' σ τ := by
  obtain ⟨own, pn, lc, la, od, ns, h1, h2, h3, h4, h5, h6, h7, h8, h9, h10, h11, h12, h13⟩ := h
  exact ⟨own, pn, lc, la, od, ns, h1, h2, h3, h4, h5, h6, h7, h8, h9, h10, h11, fun g hg => rM1_t (h12 g hg) ht, h13⟩
section LK
variable {p : Program} {l : Launch} {e : Env} {R : Room} {s : State} {m : MethodId} {args : Array Value} {below : List Frame} {meth : Method} {c : Code} {H : Heap} {locs : List Loc} {cells slots : Nat} {Q : State → Prop}
variable {cc : ByteArray} {pc : Nat} {ls : Array Slot} {rest st0 : List Value} {a : Array Value} {G : va_G} {A0 A1 A2 : Nat → Prop} {ad bd : Nat → Nat → Nat} {ca : Nat → ClassId} {σ σ' τ : PS} {L L2 : List (Nat × Nat)} {H0 : Heap} {k n : Nat}
theorem keepP {H1 : Heap} (hP2 : va_P G vwCl (wld bd ca τ L2) H) (hD2 : DW bd L2 A2) (hd : ∀ q, A2 q → ¬ A1 q) (hk : ∀ q : Nat, q < H.size → ¬ A1 q → H1[q]? = H[q]?) : va_P G vwCl (wld bd ca τ L2) H1 := by
  refine va_P_all (fun q hq => ?_)
  have h := va_P_mem hP2 hq
  obtain ⟨x, hx, rfl⟩ := List.mem_map.mp hq
  exact h.kept (hk _ h.lt (hd _ (hD2.2 x hx)))
theorem y_ci {r : Int32} (hr : va_Run p l e R s m args below meth c H locs cells slots 0 0 (F0 m pc ls st0) rest (va_Qi (fun r' u => r' = r ∧ u = σ') (ctB G ad ca L) A1 a) A1) (hS : va_S A0 H0 H locs) (hA : ∀ q, A1 q → A0 q) (hP2 : va_P G vwCl (wld bd ca τ L2) H) (hD2 : DW bd L2 A2) (hd : ∀ q, A2 q → ¬ A1 q)
    (kk : ∀ (H1 : Heap) (locs1 : List Loc), va_P G vwCl (wld ad ca σ' L) H1 → va_P G vwCl (wld bd ca τ L2) H1 → H.size ≤ H1.size → va_S A0 H0 H1 locs1 → W p l e R s m args below meth c H1 locs1 cells slots Q (F0 m (pc + 3) ls (.int r :: rest))) : W p l e R s m args below meth c H locs cells slots Q (F0 m pc ls st0) :=
  va_calli hr hS (fun q _ h => hA q h) (fun q h => hA q h) (fun r1 u t H1 locs1 ht _ hw hB hz hk hS1 => by obtain ⟨rfl, rfl⟩ := hw; exact kk H1 locs1 (by rw [← ht]; exact hB.1) (keepP hP2 hD2 hd hk) hz hS1)
theorem y_cl {r : Int64} (hr : va_Run p l e R s m args below meth c H locs cells slots 0 0 (F0 m pc ls st0) rest (va_Ql (fun r' u => r' = r ∧ u = σ') (ctB G ad ca L) A1 a) A1) (hS : va_S A0 H0 H locs) (hA : ∀ q, A1 q → A0 q) (hP2 : va_P G vwCl (wld bd ca τ L2) H) (hD2 : DW bd L2 A2) (hd : ∀ q, A2 q → ¬ A1 q)
    (kk : ∀ (H1 : Heap) (locs1 : List Loc), va_P G vwCl (wld ad ca σ' L) H1 → va_P G vwCl (wld bd ca τ L2) H1 → H.size ≤ H1.size → va_S A0 H0 H1 locs1 → W p l e R s m args below meth c H1 locs1 cells slots Q (F0 m (pc + 3) ls (.long r :: rest))) : W p l e R s m args below meth c H locs cells slots Q (F0 m pc ls st0) :=
  va_calll hr hS (fun q _ h => hA q h) (fun q h => hA q h) (fun r1 u t H1 locs1 ht _ hw hB hz hk hS1 => by obtain ⟨rfl, rfl⟩ := hw; exact kk H1 locs1 (by rw [← ht]; exact hB.1) (keepP hP2 hD2 hd hk) hz hS1)
theorem y_cG {mc ms a0 : Nat} {res : Int32 × (Nat × Nat) × PS} (hr : va_Run p l e R s m args below meth c H locs cells slots mc ms (F0 m pc ls st0) rest (va_Qi (fun r' (u : SG) => (r', u.2) = res) (ctG G ca A1 a0) A1 a) A1) (hS : va_S A0 H0 H locs) (hA : ∀ q, A1 q → A0 q) (hP2 : va_P G vwCl (wld bd ca τ L2) H) (hD2 : DW bd L2 A2) (hd : ∀ q, A2 q → ¬ A1 q)
    (kk : ∀ (ad' : Nat → Nat → Nat) (H1 : Heap) (locs1 : List Loc), va_P G vwCl (wld ad' ca res.2.2 (LC res.2.1)) H1 → DW ad' (LC res.2.1) A1 → ad' 450 0 = a0 → va_P G vwCl (wld bd ca τ L2) H1 → H.size ≤ H1.size → va_S A0 H0 H1 locs1 → W p l e R s m args below meth c H1 locs1 (cells + mc) (slots + ms) Q (F0 m (pc + 3) ls (.int res.1 :: rest))) : W p l e R s m args below meth c H locs cells slots Q (F0 m pc ls st0) :=
  va_calli hr hS (fun q _ h => hA q h) (fun q h => hA q h) (fun r1 u t H1 locs1 ht _ hw hB hz hk hS1 => by subst hw; exact kk u.1 H1 locs1 (by rw [← ht]; exact hB.1) hB.2.2.1 hB.2.2.2 (keepP hP2 hD2 hd hk) hz hS1)
theorem x_prN {As : List Value} {C : String} {T : u_T} {N : Nat} (hz : ZC s) (hK : va_K G vwCl (tyL ca) s) (hP : va_P G vwCl (wld ad ca σ L) H) (hq : (k, n) ∈ L) (hk : ak k = 0) (hc : vwCl[ck k]? = some (C, T, N)) : PreV s H C (ad k n) (ctN G ad ca L σ ZC H.size (.ref (ad k n) :: As)) As := by
  obtain ⟨q0, -, he⟩ := wl_get (ad := ad) ca σ hq
  rw [ent_0 hk] at he
  exact ⟨fun a U g mk q => ⟨q.1, q.2.1, q.2.2.1, va_K.moved (u := U) (U := U.calling g mk a) (Vm.Alike.refl U.vm) q.2.2.2.1, zkC.2 _ _ _ _ q.2.2.2.2⟩, va_recv hK hP hc he, fun U hU hW => ⟨rfl, by rw [hU], by rw [hU]; exact hP, va_K.moved hW.alike hK, zkC.1 _ _ hW hz⟩⟩
end LK
/-- what holds at the loop's head, behind k calls -/
def LI (s : State) (G : va_G) (ca : Nat → ClassId) (M : Nat → Prop) (b k : Nat) (ad bd : Nat → Nat → Nat) (z : Nat × Nat) (σ τ : PS) (H : Heap) (locs : List Loc) (ls : Array Slot) : Prop :=
  RR z (12 * k) σ τ ∧ va_P G vwCl (wld ad ca σ (LC z)) H ∧ va_P G vwCl (wld bd ca τ LM) H ∧ DW ad (LC z) (fun q => s.heap.size ≤ q ∧ ¬ M q) ∧ DW bd LM (fun q => s.heap.size ≤ q ∧ M q) ∧ (∀ q, M q → q < H.size) ∧ va_S (fun q => s.heap.size ≤ q) s.heap H locs ∧ lv_has ls 4 [(0, .ref b), (1, .ref (ad 450 0)), (2, .ref (bd 500 0)), (3, .int (nI (5 * k)))]
section LA
variable {p : Program} {l : Launch} {e : Env} {s : State} {m : MethodId} {below : List Frame} {meth : Method} {c : Code} {H : Heap} {locs : List Loc} {cells slots : Nat} {Q : State → Prop} {args : Array Value} {R : Room}
variable {pc : Nat} {ls : Array Slot} {rest : List Value} {b L k : Nat} {xs : Nat → Int32}
/-- a word of the script -/
theorem lw_arg (hx : p.tables.exec = Jvm.exec) (hb : c.code = cL_law) (hX : va_X b L xs s s.heap) (hbl : b < s.heap.size) (hS : va_S (fun q => s.heap.size ≤ q) s.heap H locs) (h0 : ls[0]? = some (.val (.ref b))) (h3 : ls[3]? = some (.val (.int (nI (5 * k))))) (j : Nat) (hj : j < 5) (hk : 5 * k + 5 ≤ L) (hL : L ≤ 2560) {v : Int32} (hv : v = nI j)
    (d1 : decode cL_law pc = .ok (.aload_n 0, 1)) (d2 : decode cL_law (pc + 1) = .ok (.iload_n 3, 1)) (d3 : ∀ (rest : List Value), W p l e R s m args below meth c H locs cells slots Q (F0 m (pc + 3) ls (.int v :: rest)) → W p l e R s m args below meth c H locs cells slots Q (F0 m (pc + 2) ls rest)) (d4 : decode cL_law (pc + 3) = .ok (.iadd, 1)) (d5 : decode cL_law (pc + 4) = .ok (.iaload, 1))
    (kk : W p l e R s m args below meth c H locs cells slots Q (F0 m (pc + 5) ls (.int (xs (5 * k + j)) :: rest))) : W p l e R s m args below meth c H locs cells slots Q (F0 m pc ls rest) := by
  refine lv_aload_n hx hb d1 rfl h0 ?_
  refine lv_iload_n hx hb d2 rfl h3 ?_
  refine d3 _ ?_
  refine lv_iadd hx hb d4 ?_
  refine x_nmI (y := nI (5 * k + j)) (by rw [hv, nI_add]) ?_
  refine va_sld hx hb hX hbl (Nat.not_le.mpr hbl) hS (vp_in_nI (by omega) (by omega)) d5 ?_
  rw [nI_clamp (by omega)]
  exact kk
end LA
def NX (p : Program) (l : Launch) (e : Env) (s : State) (m : MethodId) (below : List Frame) (meth : Method) (c : Code) (b k : Nat) (G : va_G) (ca : Nat → ClassId) (M : Nat → Prop) (ad bd : Nat → Nat → Nat) (ls : Array Slot) : Prop :=
  ∀ (ad' : Nat → Nat → Nat) (z' : Nat × Nat) (σ' τ' : PS) (H' : Heap) (locs' : List Loc), ad' 450 0 = ad 450 0 → RR z' (12 * (k + 1)) σ' τ' → va_P G vwCl (wld ad' ca σ' (LC z')) H' → va_P G vwCl (wld bd ca τ' LM) H' → DW ad' (LC z') (fun q => s.heap.size ≤ q ∧ ¬ M q) → (∀ q, M q → q < H'.size) → va_S (fun q => s.heap.size ≤ q) s.heap H' locs' → W p l e room_1 s m #[Value.ref b] below meth c H' locs' (60 + 9 * k + 9) (6060 + 105 * k + 105) (lw_Z below #[Value.ref b] s) (F0 m 1164 ls [])
/-- a word of the script as a truth -/
theorem lw_bool {p : Program} {l : Launch} {e : Env} {s : State} {m : MethodId} {below : List Frame} {meth : Method} {c : Code} {H : Heap} {locs : List Loc} {cells slots : Nat} {Q : State → Prop} {args : Array Value} {R : Room} {pc tgt pe : Nat} {ls : Array Slot} {rest : List Value} {off : Int} {x bb : Int32} (hx : p.tables.exec = Jvm.exec) (hb : c.code = cL_law) (hdg : decode cL_law pc = .ok (.ifCond .eq off, 3)) (ht : (pc : Int) + off = (tgt : Int)) (hbv : bb = if x = 0 then 0 else 1)
    (k1 : W p l e R s m args below meth c H locs cells slots Q (F0 m pe ls (.int 1 :: rest)) → W p l e R s m args below meth c H locs cells slots Q (F0 m (pc + 3) ls rest)) (k0 : W p l e R s m args below meth c H locs cells slots Q (F0 m pe ls (.int 0 :: rest)) → W p l e R s m args below meth c H locs cells slots Q (F0 m tgt ls rest))
    (kk : W p l e R s m args below meth c H locs cells slots Q (F0 m pe ls (.int bb :: rest))) : W p l e R s m args below meth c H locs cells slots Q (F0 m pc ls (.int x :: rest)) := by
  refine lv_if_eq (tgt := tgt) hx hb hdg ht (fun hc => k0 ?_) (fun hc => k1 ?_)
  · rw [hbv, if_pos hc] at kk; exact kk
  · rw [hbv, if_neg hc] at kk; exact kk

theorem lst_la {la : Nat → Nat} {lc N : Nat} {P P' : Nat → Bool} (hm : ∀ i j, i < j → j < lc → la i < la j) (hN : ∀ i, i < lc → la i < N) (hP : ∀ g, g < N → (P' g = true ↔ ∃ j, j < lc ∧ la j = g ∧ P j = true)) {j g : Nat} (hj : j < lc) (h1 : P j = true) (h2 : ∀ i, i < j → P i = false) (hg : g < N) (h3 : P' g = true) (h4 : ∀ k, k < g → P' k = false) : g = la j := by
  obtain ⟨i, hi, rfl, hp⟩ := (hP g hg).mp h3
  rcases Nat.lt_trichotomy i j with q | q | q
  · rw [h2 i q] at hp; cases hp
  · rw [q]
  · have := hm j i q hi
    have hc := h4 (la j) this
    rw [(hP _ (hN j hj)).mpr ⟨j, hj, rfl, h1⟩] at hc
    cases hc
theorem memL (z : Nat × Nat) (σ : PS) {lc : Nat} {P : Nat → Bool} (hl : lc ≤ 8) (h : ¬ mkS lc P = 0) : ∃ j, j < lc ∧ P j = true ∧ (∀ i, i < j → P i = false) ∧ X9_memberAt z (mkS lc P) 0 σ = some (nI j) := by
  obtain ⟨r, e, hr⟩ := mem0 z σ (mkS lc P)
  rcases hr with ⟨-, a⟩ | ⟨j, a1, a2, a3, a4⟩
  · exfalso
    apply h
    rw [mkS_0 (by omega)]
    intro i hi
    have := a i (by omega)
    rw [bt_mkS P lc (by omega) i (by omega)] at this
    simpa [hi] using this
  · obtain ⟨hj, hp⟩ := (bt_lc hl (by omega)).mp a2
    refine ⟨j, hj, hp, fun i hi => ?_, by rw [e, a4]⟩
    have := a3 i hi
    rw [bt_mkS P lc (by omega) i (by omega)] at this
    simpa [show i < lc by omega] using this
theorem mkS_rest {lc i : Nat} (hl : lc ≤ 8) (hi : i < lc) (S Q : Nat → Bool) : (mkS lc S &&& (((1 : Int32) <<< (nI i &&& 31)) ^^^ (-1))) &&& (mkS lc Q ^^^ (-1)) = mkS lc (fun j => S j && !decide (j = i) && !Q j) := by
  apply b_ext
  intro j hj
  simp only [b_and, b_not _ hj, b_one (show i < 32 by omega) hj, bt_mkS _ lc (show lc ≤ 32 by omega) j hj]
  by_cases q : j < lc
  · simp [q]
  · simp [q]
def DX' : Nat → Nat → Nat → Prop := fun k _ _ => k = 450
def DEC : Nat → Nat → Nat → Prop := fun k _ i => k = 301 ∨ k = 302 ∨ (k = 300 ∧ i = 2) ∨ (k = 450 ∧ i = 11)
def DEM : Nat → Nat → Nat → Prop := fun k _ i => k = 532 ∨ k = 533 ∨ (k = 500 ∧ i = 33)
theorem s_explain {z : Nat × Nat} {ns : Nat} {σ τ : PS} {own pn : Nat → Nat} {lc : Nat → Nat} {la od : Nat → Nat → Nat} (hC : z.2 = 0 ∨ CR z own pn lc la od σ τ) (hF : rF z pn σ τ) (hH : rH z own pn σ τ) (hs : rS ns σ τ) (hA : rA ns σ τ) (x1 : Int32) : ∃ r σ' τ', X9_explain z x1 σ = some (r, σ') ∧ X10_explain x1 τ = some (r, τ') ∧ ag DEC σ σ' ∧ ag DEM τ τ' ∧ (gI σ 450 0 11 = gI τ 500 0 33 → gI σ' 450 0 11 = gI τ' 500 0 33) := by
  have hfu := fuel_ge
  unfold X9_explain X10_explain
  rcases hdAt hH x1 with ⟨e1, e2⟩ | ⟨h, hh, rfl, e1, e2⟩
  · exact ⟨-2, σ, τ, by rw [e1]; rfl, by rw [e2]; rfl, ag_r _, ag_r _, id⟩
  · have hC := hC.elim (fun q => by omega) id
    have h40 := hH.1
    obtain ⟨⟨-, a2, a3, a4⟩, -, -⟩ := hH.2.2.2 h hh
    rw [e1, e2]
    simp only [Option.bind_some, if_neg (show ¬ (1 : Int32) = 0 by decide), oc_s' hh, ib_nI (show h < 2 ^ 31 by omega), gd_d (show h < 40 by omega), ix_nI (show h < 2 ^ 31 by omega), nm_b, a3, a4, dr_s a2]
    rcases tell hs hA hF a2 with ⟨σ', τ', t1, t2, t3, t4⟩ | ⟨c, w, σ', τ', t1, t2, t3, t4, t5, t6, t7⟩
    · refine ⟨-3, σ', τ', by rw [t1]; rfl, by rw [t2]; rfl, ag_m t3 (fun k n i q => by unfold DRC at q; unfold DEC; omega), ag_m t4 (fun k n i q => by unfold DRM at q; unfold DEM; omega), fun q => ?_⟩
      rw [agI t3 (by unfold DRC; omega), agI t4 (by unfold DRM; omega), q]
    · rw [t1, t2]
      simp only [bp_s, if_neg (show ¬ (1 : Int32) = 0 by decide)]
      have g1 : ag DEC σ (sI σ' 450 0 11 (-1)) := ag_t (ag_m t3 (fun k n i q => by unfold DRC at q; unfold DEC; omega)) (ag_sI (by unfold DEC; omega))
      have g2 : ag DEM τ (sI τ' 500 0 33 (-1)) := ag_t (ag_m t4 (fun k n i q => by unfold DRM at q; unfold DEM; omega)) (ag_sI (by unfold DEM; omega))
      have w5 : rWC (pn (own h)) c w (sI σ' 450 0 11 (-1)) := rWC_ag t5 (ag_sI (D := DX') rfl) (fun k n i q => by unfold DX'; omega)
      have w6 : rWM (pn (own h)) c w (sI τ' 500 0 33 (-1)) := rWM_ag t6 (ag_sI (D := DX) ⟨rfl, rfl⟩) (fun k n i q => by unfold DX; omega)
      have hC5 := CR_ag hC g1 g2 (fun k n i q => by unfold DEC; omega) (fun k n i q => by unfold DEM; omega)
      have v1 : gI (sI σ' 450 0 11 (-1)) 450 0 11 = gI (sI τ' 500 0 33 (-1)) 500 0 33 := by simp [gI_sI]
      have fin : ∀ r : Int32, ag DEC σ (sI (sI σ' 450 0 11 (-1)) 450 0 11 r) ∧ ag DEM τ (sI (sI τ' 500 0 33 (-1)) 500 0 33 r) ∧ gI (sI (sI σ' 450 0 11 (-1)) 450 0 11 r) 450 0 11 = gI (sI (sI τ' 500 0 33 (-1)) 500 0 33 r) 500 0 33 := fun r => ⟨ag_t g1 (ag_sI (by unfold DEC; omega)), ag_t g2 (ag_sI (by unfold DEM; omega)), by simp [gI_sI]⟩
      generalize sI σ' 450 0 11 (-1) = σ5 at g1 w5 hC5 v1 fin ⊢
      generalize hτ5 : sI τ' 500 0 33 (-1) = τ5 at g2 w6 hC5 v1 fin ⊢
      obtain ⟨hB, hO, hQ, hF5, hH5, hL5⟩ := id hC5
      obtain ⟨⟨-, -, b3, -⟩, bo, -⟩ := hH5.2.2.2 h hh
      obtain ⟨-, -, -, -, o5, o6, o7, o8⟩ := bo
      have hL := hL5 (own h) a2
      have hlc := hL.1.1
      obtain ⟨-, -, ⟨-, p2⟩, -⟩ := hF5.2.2.2 (own h) a2
      have hof := ofM hB hQ hF5 hH5 hh a2 w6 none (fun g q => by cases q)
      rw [show ofI none = (-1 : Int32) from rfl] at hof
      rw [hof, o5, o7]
      simp only [Option.bind_some]
      by_cases k1 : gI τ5 520 0 h = 1
      · by_cases k2 : gI τ5 519 0 h = 0
        · obtain ⟨i, hi, ei⟩ := (hL.2.2.1 h hh).mp (show ldP own τ5 (own h) h = true by unfold ldP; simp [k1])
          rw [if_pos k1, if_pos k2]
          obtain ⟨rp, f1, f2⟩ := frpC hB hF5 hH5 hh w5
          rw [f1]
          simp only [Option.bind_some]
          rcases f2 with ⟨f2, f3⟩ | ⟨x, f2, f3, f4, f5⟩
          · rw [if_pos f2]
            have hofh : ofP own τ5 c w (pn (own h)) (own h) none h = true := by unfold ofP ldP plP; simp [k1, k2, f3]
            rw [hofh, if_neg (by decide)]
            have hSi : (tkP τ5 c w (pn (own h)) (la (own h) i) && plP τ5 (la (own h) i)) = true := by unfold plP; rw [ei]; simp [k2, f3]
            obtain ⟨rC, rM, c1, c2, c3⟩ := chBoth hB hO hQ hF5 hH5 a2 hL w6 none (fun g q => by cases q) (of_none hL)
            rw [show ofI none = (-1 : Int32) from rfl] at c2
            have hN : ∀ i, i < lc (own h) → la (own h) i < z.2 := fun i hi => (hL.1.2.2 i hi).2
            have hown : ∀ i, i < lc (own h) → own (la (own h) i) = own h := fun i hi => ld_own ((hL.2.2.1 _ (hN i hi)).mpr ⟨i, hi, rfl⟩)
            -- the model behind 'not chosen'
            have mno : ¬ rM = nI h → (if rM = nI h then some ((0 : Int32), τ5) else X10_explain_c56 (nI h) (nI (own h)) τ5) = (X10_moreThan (nI (own h)) (nI h) τ5).bind (fun r11 => nm (sI τ5 500 0 33 r11) (fun σ12 => if (gI σ12 500 0 33) < 0 then nm ((gI σ12 500 0 14) - (1 : Int32)) (fun y13 => X10_explain_l145 (fun σ => X10_explain_c191 σ) fuel (nI h) (nI (own h)) y13 σ12) else some ((4 : Int32), σ12))) := fun q => by
              rw [if_neg q]
              unfold X10_explain_c56
              rw [ib_nI (show h < 2 ^ 31 by omega), gd_d (show h < 40 by omega), ix_nI (show h < 2 ^ 31 by omega), if_pos k1, gd_d (show h < 40 by omega), if_pos k2, tkM hB hQ hF5 hH5 hh w6, f3]
              simp only [Option.bind_some]
              rw [if_neg (by decide)]
            unfold X9_explainAmongTakers
            rw [b3, dr_s a2, c2, tkPl z hB hF5 hH5 a2 hL w5]
            have eidx := idxC hH5 hL.1 hL.2.1 hi
            rw [ei] at eidx
            rw [eidx]
            simp only [Option.bind_some, btsC z hlc hL.1.2.1 hL.2.2.2.2.1 hi, btnC z hlc hL.1.2.1 hL.2.2.2.2.1 hi, nm_b, mkS_and (show lc (own h) ≤ 32 by omega), mkS_rest hlc hi]
            obtain ⟨rt, mt1, mt2⟩ := mtM hB hQ hF5 hH5 a2 hh w6
            have hP4 : ∀ g, g < z.2 → ((ofP own τ5 c w (pn (own h)) (own h) none g && mB own pn τ5 g h) = true ↔ ∃ j, j < lc (own h) ∧ la (own h) j = g ∧ ((tkP τ5 c w (pn (own h)) (la (own h) j) && plP τ5 (la (own h) j)) && moP τ5 (pn (own h)) (la (own h) j) (la (own h) i)) = true) := by
              intro g hg
              rw [Bool.and_eq_true, of_none hL g hg]
              constructor
              · rintro ⟨⟨j, hj, rfl, s⟩, m⟩
                unfold mB at m
                rw [hown j hj] at m
                simp only [decide_true, Bool.true_and] at m
                exact ⟨j, hj, rfl, by rw [ei, s, m]; rfl⟩
              · rintro ⟨j, hj, rfl, s⟩
                rw [Bool.and_eq_true] at s
                refine ⟨⟨j, hj, rfl, s.1⟩, ?_⟩
                unfold mB
                rw [ei] at s
                rw [hown j hj]
                simp [s.2]
            by_cases y5 : mkS (lc (own h)) (fun j => (tkP τ5 c w (pn (own h)) (la (own h) j) && plP τ5 (la (own h) j)) && moP τ5 (pn (own h)) (la (own h) j) (la (own h) i)) = 0
            · rw [if_pos y5]
              have hz := (mkS_0 (by omega)).mp y5
              have hrt : rt = -1 := by
                rcases mt2 with ⟨q, -⟩ | ⟨g, q1, q2, -, -⟩
                · exact q
                · obtain ⟨j, hj, -, s⟩ := (hP4 g q1).mp q2
                  rw [hz j hj] at s; cases s
              by_cases y7 : mkS (lc (own h)) (fun j => (tkP τ5 c w (pn (own h)) (la (own h) j) && plP τ5 (la (own h) j)) && !decide (j = i) && !moP τ5 (pn (own h)) (la (own h) i) (la (own h) j)) = 0
              · rw [if_pos y7]
                have hz7 := (mkS_0 (by omega)).mp y7
                have hch : isCh (lc (own h)) (fun a => tkP τ5 c w (pn (own h)) (la (own h) a) && plP τ5 (la (own h) a)) (fun i j => moP τ5 (pn (own h)) (la (own h) i) (la (own h) j)) i := ⟨hi, hSi, fun j hj hs => by
                  have := hz7 j hj
                  dsimp only at hs
                  rw [hs] at this
                  simp only [Bool.true_and, Bool.and_eq_false_iff, Bool.not_eq_false', decide_eq_true_eq] at this
                  exact this⟩
                have hrM : rM = nI h := by
                  rcases c3 with ⟨-, -, q⟩ | ⟨j, q1, -, q3⟩
                  · exact absurd hch (q i)
                  · rcases hch.2.2 j q1.1 q1.2.1 with e | e
                    · rw [q3, e, ei]
                    · rcases q1.2.2 i hi hSi with e' | e'
                      · rw [q3, ← e', ei]
                      · exact (mo_as hO hQ p2 (hN _ hi) (hN _ q1.1) e e').elim
                refine ⟨0, σ5, τ5, rfl, by rw [if_pos hrM], g1, g2, fun _ => v1⟩
              · rw [if_neg y7]
                obtain ⟨j, j1, j2, j3, j4⟩ := memL z σ5 hlc y7
                simp only [Bool.and_eq_true, Bool.not_eq_true', decide_eq_false_iff_not] at j2
                have hrM : ¬ rM = nI h := fun q => by
                  rcases c3 with ⟨-, q2, -⟩ | ⟨x, q1, -, q3⟩
                  · rw [q2] at q; exact nI_m1 (show h < 2 ^ 31 by omega) q.symm
                  · have hx := hN x q1.1
                    have : x = i := la_inj hL.2.1 q1.1 hi (by rw [ei]; exact (nI_eq (by omega) (by omega)).mp (q3.symm.trans q))
                    subst this
                    rcases q1.2.2 j j1 (by simp [j2.1.1]) with e | e
                    · exact j2.1.2 e
                    · simp only at e; rw [e] at j2; exact Bool.noConfusion j2.2
                have hex := exM hC5 a2 hh w6 (fun σ => X10_explain_c191 σ) fuel z.2 (-1) (Nat.le_refl _) (by omega)
                obtain ⟨rx, x1, x2⟩ := hex
                have hP5 : ∀ g, g < z.2 → ((!decide (g = h) && ofP own τ5 c w (pn (own h)) (own h) none g && !mB own pn τ5 h g) = true ↔ ∃ j, j < lc (own h) ∧ la (own h) j = g ∧ ((tkP τ5 c w (pn (own h)) (la (own h) j) && plP τ5 (la (own h) j)) && !decide (j = i) && !moP τ5 (pn (own h)) (la (own h) i) (la (own h) j)) = true) := by
                  intro g hg
                  simp only [Bool.and_eq_true, Bool.not_eq_true', decide_eq_false_iff_not]
                  rw [of_none hL g hg]
                  constructor
                  · rintro ⟨⟨n1, ⟨j, hj, rfl, s⟩⟩, m⟩
                    unfold mB at m
                    rw [hown j hj] at m
                    simp only [decide_true, Bool.true_and] at m
                    simp only [Bool.and_eq_true] at s
                    exact ⟨j, hj, rfl, ⟨s, fun q => n1 (by rw [q, ei])⟩, by rw [ei]; exact m⟩
                  · rintro ⟨j, hj, rfl, ⟨s, n1⟩, m⟩
                    refine ⟨⟨fun q => n1 (la_inj hL.2.1 hj hi (by rw [q, ei])), j, hj, rfl, by simp [s]⟩, ?_⟩
                    unfold mB
                    rw [ei] at m
                    rw [hown j hj]
                    simp [m]
                have hrx : rx = nI (la (own h) j) := by
                  rcases x2 with ⟨-, q⟩ | ⟨g, q1, q2, q3, q4⟩
                  · exfalso
                    have := q (la (own h) j) (hN j j1)
                    rw [(hP5 _ (hN j j1)).mpr ⟨j, j1, rfl, by simp [j2]⟩] at this
                    cases this
                  · rw [q4, lst_la hL.2.1 hN hP5 j1 (by simp [j2]) j3 q1 q2 q3]
                obtain ⟨u1, u2, u3⟩ := fin (nI (la (own h) j))
                refine ⟨5, _, _, ?_, ?_, u1, u2, fun _ => u3⟩
                · rw [j4]
                  simp only [Option.bind_some, (numAt hH5 hL.1 j1).2, nm_b, bp_s]
                · rw [mno hrM, mt1, hrt]
                  simp only [Option.bind_some, nm_b, gI_sI, true_and, and_self, if_true, gI_k]
                  rw [if_pos (by decide), if_neg (by omega), hH5.2.2.1, show nI z.2 - 1 = nI z.2 + (-1) by rw [Int32.sub_eq_add_neg], x1, hrx]
                  rfl
            · rw [if_neg y5]
              obtain ⟨j, j1, j2, j3, j4⟩ := memL z σ5 hlc y5
              rw [Bool.and_eq_true] at j2
              have hrM : ¬ rM = nI h := fun q => by
                rcases c3 with ⟨-, q2, -⟩ | ⟨x, q1, -, q3⟩
                · rw [q2] at q; exact nI_m1 (show h < 2 ^ 31 by omega) q.symm
                · have hx := hN x q1.1
                  have : x = i := la_inj hL.2.1 q1.1 hi (by rw [ei]; exact (nI_eq (by omega) (by omega)).mp (q3.symm.trans q))
                  subst this
                  rcases q1.2.2 j j1 j2.1 with e | e
                  · subst e; rw [mo_irr] at j2; exact Bool.noConfusion j2.2
                  · exact mo_as hO hQ p2 (hN _ hi) (hN _ j1) e j2.2
              have hrt : rt = nI (la (own h) j) := by
                rcases mt2 with ⟨-, q⟩ | ⟨g, q1, q2, q3, q4⟩
                · exfalso
                  have := q (la (own h) j) (hN j j1)
                  rw [(hP4 _ (hN j j1)).mpr ⟨j, j1, rfl, by simp [j2]⟩] at this
                  cases this
                · rw [q4, lst_la hL.2.1 hN hP4 j1 (by simp [j2]) j3 q1 q2 q3]
              obtain ⟨u1, u2, u3⟩ := fin (nI (la (own h) j))
              have hj40 := hN j j1
              refine ⟨4, _, _, ?_, ?_, u1, u2, fun _ => u3⟩
              · rw [j4]
                simp only [Option.bind_some, (numAt hH5 hL.1 j1).2, nm_b, bp_s]
              · rw [mno hrM, mt1, hrt]
                simp only [Option.bind_some, nm_b, gI_sI, true_and, and_self, if_true]
                rw [if_neg (nI_pos (by omega))]
          · have hx2 : x < 2 := by omega
            rw [if_neg (by rw [f3]; exact nI_m1 (by omega))]
            have htk : tkP τ5 c w (pn (own h)) h = false := by
              rcases q : tkP τ5 c w (pn (own h)) h with _ | _
              · rfl
              · rw [tkP_iff.mp q x f2] at f4; cases f4
            have hofh : ofP own τ5 c w (pn (own h)) (own h) none h = false := by unfold ofP; simp [htk]
            obtain ⟨u1, u2, u3⟩ := fin (nI x)
            refine ⟨3, _, _, by rw [f3], ?_, u1, u2, fun _ => u3⟩
            rw [hofh, if_pos (by rfl)]
            unfold X10_explain_c56
            have hta := tkAtM hB hQ hh h40 w6 (show 0 < pn (own h) by omega) p2
            rw [show nI 0 = (0 : Int32) from rfl] at hta
            rw [ib_nI (show h < 2 ^ 31 by omega), gd_d (show h < 40 by omega), ix_nI (show h < 2 ^ 31 by omega), if_pos k1, gd_d (show h < 40 by omega), if_pos k2, tkM hB hQ hF5 hH5 hh w6, htk, hta]
            simp only [Option.bind_some]
            rw [if_pos (by rfl)]
            rcases (show x = 0 ∨ x = 1 by omega) with rfl | rfl
            · unfold taP at f4
              rw [f4, if_pos (by rfl)]
              rfl
            · have := f5 0 (by omega)
              unfold taP at this
              rw [this, if_neg (by decide)]
              rfl
        · have hofh : ofP own τ5 c w (pn (own h)) (own h) none h = false := by unfold ofP plP; simp [k2]
          refine ⟨2, σ5, τ5, by rw [if_pos k1, if_neg k2], ?_, g1, g2, fun _ => v1⟩
          rw [hofh, if_pos (by rfl)]
          unfold X10_explain_c56
          rw [ib_nI (show h < 2 ^ 31 by omega), gd_d (show h < 40 by omega), ix_nI (show h < 2 ^ 31 by omega), if_pos k1, gd_d (show h < 40 by omega), if_neg k2, gd_d (show h < 40 by omega), if_pos k1]
      · have hofh : ofP own τ5 c w (pn (own h)) (own h) none h = false := by unfold ofP ldP; simp [k1]
        refine ⟨1, σ5, τ5, by rw [if_neg k1], ?_, g1, g2, fun _ => v1⟩
        rw [hofh, if_pos (by rfl)]
        unfold X10_explain_c56
        rw [ib_nI (show h < 2 ^ 31 by omega), gd_d (show h < 40 by omega), ix_nI (show h < 2 ^ 31 by omega), if_neg k1, gd_d (show h < 40 by omega), if_neg k1]

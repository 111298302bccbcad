theorem s_dominates {z : Nat × Nat} {own pn : Nat → Nat} {σ τ : PS} (hB : z.2 = 0 ∨ rB σ τ) (hq : rQ z.2 τ) (hF : rF z pn σ τ) (hH : rH z own pn σ τ) (x1 x2 : Int32) : ∃ r, X9_dominates z x1 x2 σ = some r ∧ X10_dominates x1 x2 τ = some r := by
  unfold X9_dominates X10_dominates
  rcases hdAt hH x1 with ⟨e1, e2⟩ | ⟨h, hh, rfl, e1, e2⟩
  · rcases hdAt hH x2 with ⟨e3, e4⟩ | ⟨g, hg, rfl, e3, e4⟩
    · exact ⟨0, by rw [e1, e3]; rfl, by rw [e2]; rfl⟩
    · exact ⟨0, by rw [e1, e3]; rfl, by rw [e2]; rfl⟩
  · rcases hdAt hH x2 with ⟨e3, e4⟩ | ⟨g, hg, rfl, e3, e4⟩
    · refine ⟨0, ?_, ?_⟩
      · rw [e1, e3]
        simp only [Option.bind_some, oc_s' hh]
        rfl
      · rw [e2, e4]; rfl
    · have hB : rB σ τ := hB.elim (fun q => by omega) id
      obtain ⟨⟨-, a2, a3, -⟩, -, -⟩ := hH.2.2.2 h hh
      obtain ⟨⟨-, b2, b3, -⟩, -, -⟩ := hH.2.2.2 g hg
      have hf4 := hF.1
      rw [e1, e2, e3, e4]
      simp only [Option.bind_some, if_neg (show ¬ (1 : Int32) = 0 by decide), oc_s' hh, oc_s' hg, a3, b3, dr_s a2, dr_s b2, (hF.2.2.2 (own h) a2).2.1, (hF.2.2.2 (own g) b2).2.1, moreM hB hq hF hH hh hg]
      by_cases e : own h = own g
      · rw [if_pos (by rw [e]), moreC z hB hF hH hh hg e]
        simp only [Option.bind_some, e, decide_true, Bool.true_and]
        rcases moP τ (pn (own g)) h g with _ | _
        · exact ⟨0, rfl, rfl⟩
        · exact ⟨1, rfl, rfl⟩
      · rw [if_neg (fun q => e ((nI_eq (show own h < 2 ^ 31 by omega) (show own g < 2 ^ 31 by omega)).mp q))]
        simp only [e, decide_false, Bool.false_and]
        exact ⟨0, rfl, rfl⟩

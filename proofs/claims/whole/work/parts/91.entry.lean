/-! ===== the law, from its entry ===== -/
theorem arr_p {s : State} {args : Array Value} {ty : FieldType} (hn : ∀ C, ty ≠ .object C) (h : (Cond.arrayClass ty).before args s = true) : ∃ cA : ClassId, ArrOfT s cA ty ∧ va_RA s cA ty := by
  obtain ⟨cA, kA, comp, h1, h2, h3⟩ := Cond.arrayClass_spec h
  refine ⟨cA, fun n z => ⟨fun k h => (by cases h), kA, h2, comp, h3⟩, ?_⟩
  cases ty with
  | object C => exact absurd rfl (hn C)
  | _ => exact h1
theorem arr_o {s : State} {args : Array Value} {C : String} (h : (Cond.arrayOver (.object C)).before args s = true) : ∃ cA : ClassId, ArrOfT s cA (.object C) ∧ va_RA s cA (.object C) := by
  obtain ⟨comp, cA, kA, h1, -, h3, h4, h5⟩ := Cond.arrayOver_spec h
  exact ⟨cA, fun n z => ⟨fun k h => (by cases h), kA, h3, comp, h4⟩, kA, comp, h3, h4, h1, h5⟩
theorem kq_0 : Cond.methodLinkNest RX1 80 yX9_memberAt "CallBoard" ∈ lw_tbl := by decide +kernel
theorem kq_1 : Cond.methodLinkNest RX1 11 yX4_init "CallBoard" ∈ lw_tbl := by decide +kernel
theorem kq_2 : Cond.methodLinkNest RX5 11 yX0_init "CallBoard" ∈ lw_tbl := by decide +kernel
theorem kq_3 : Cond.methodLinkNest RX9 18 yX7_init "CallBoard" ∈ lw_tbl := by decide +kernel
theorem kq_4 : Cond.methodLinkNest RX9 44 yX6_init "CallBoard" ∈ lw_tbl := by decide +kernel
theorem kq_5 : Cond.methodLinkNest RX9 51 yX3_init "CallBoard" ∈ lw_tbl := by decide +kernel
theorem kq_6 : Cond.methodLinkNest RX9 58 yX5_init "CallBoard" ∈ lw_tbl := by decide +kernel

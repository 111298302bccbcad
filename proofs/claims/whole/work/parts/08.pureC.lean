-- X1_hasPlace
noncomputable def X1_hasPlace (z : Nat × Nat) (n0 : Nat) (x1 : Int32) (σ : PS) : Option (Int32) :=
  if x1 < 0 then some (0 : Int32) else if (gI σ 50 n0 2) ≤ x1 then some (0 : Int32) else some (1 : Int32)
-- X0_addNew
noncomputable def X0_addNew_l3 (z : Nat × Nat) (n0 : Nat) (kx3 : Int32 → Int32 → Int32 → PS → Option (PS)) : Nat → Int32 → Int32 → Int32 → Int32 → PS → Option (PS)
  | 0, _, _, _, _, _ => none
  | n3 + 1, v1, v2, v3, v4, σ =>
    if (gI σ 0 n0 3) ≤ v4 then kx3 v1 v2 v3 σ else gd (ib v4 204) (if (gI σ 3 n0 (ix v4)) = v3 then some σ else (X0_addNew_l3 z n0 kx3 n3) v1 v2 v3 (v4 + (1 : Int32)) σ)
noncomputable def X0_addNew_c30 (z : Nat × Nat) (n0 : Nat) (v1 : Int32) (v2 : Int32) (v3 : Int32) (σ : PS) : Option (PS) :=
  if (204 : Int32) ≤ (gI σ 0 n0 3) then some σ else gd (ib (gI σ 0 n0 3) 204) (nm (sI σ 1 n0 (ix (gI σ 0 n0 3)) v1) (fun σ3 => gd (ib (gI σ3 0 n0 3) 204) (nm (sI σ3 2 n0 (ix (gI σ3 0 n0 3)) v2) (fun σ5 => gd (ib (gI σ5 0 n0 3) 204) (nm (sI σ5 3 n0 (ix (gI σ5 0 n0 3)) v3) (fun σ7 => nm (sI σ7 0 n0 3 ((gI σ7 0 n0 3) + (1 : Int32))) (fun σ8 => some σ8)))))))
noncomputable def X0_addNew (z : Nat × Nat) (n0 : Nat) (x1 : Int32) (x2 : Int32) (x3 : Int32) (σ : PS) : Option (PS) :=
  X0_addNew_l3 z n0 (fun v1 v2 v3 σ => X0_addNew_c30 z n0 v1 v2 v3 σ) fuel x1 x2 x3 (0 : Int32) σ
-- X0_addStart
noncomputable def X0_addStart_l5 (z : Nat × Nat) (n0 : Nat) (kx5 : Int32 → Int32 → PS → Option (PS)) : Nat → Int32 → Int32 → PS → Option (PS)
  | 0, _, _, _ => none
  | n5 + 1, v1, v2, σ =>
    if v2 ≤ 0 then kx5 v1 v2 σ else gd (ib (v2 - (1 : Int32)) 17) (if (gI σ 5 n0 (ix (v2 - (1 : Int32)))) ≤ v1 then kx5 v1 v2 σ else (X0_addStart_l5 z n0 kx5 n5) v1 (v2 + (-1 : Int32)) σ)
noncomputable def X0_addStart_l58 (z : Nat × Nat) (n0 : Nat) (kx58 : Int32 → Int32 → PS → Option (PS)) : Nat → Int32 → Int32 → Int32 → PS → Option (PS)
  | 0, _, _, _, _ => none
  | n58 + 1, v1, v2, v3, σ =>
    if v3 ≤ v2 then kx58 v1 v2 σ else gd (ib (v3 - (1 : Int32)) 17) (gd (ib v3 17) (nm (sI σ 5 n0 (ix v3) (gI σ 5 n0 (ix (v3 - (1 : Int32))))) (fun σ6 => (X0_addStart_l58 z n0 kx58 n58) v1 v2 (v3 + (-1 : Int32)) σ6)))
noncomputable def X0_addStart_c83 (z : Nat × Nat) (n0 : Nat) (v1 : Int32) (v2 : Int32) (σ : PS) : Option (PS) :=
  gd (ib v2 17) (nm (sI σ 5 n0 (ix v2) v1) (fun σ8 => nm (sI σ8 0 n0 6 ((gI σ8 0 n0 6) + (1 : Int32))) (fun σ9 => some σ9)))
noncomputable def X0_addStart_c43 (z : Nat × Nat) (n0 : Nat) (v1 : Int32) (v2 : Int32) (σ : PS) : Option (PS) :=
  if (gI σ 0 n0 6) < (17 : Int32) then nm (gI σ 0 n0 6) (fun y3 => X0_addStart_l58 z n0 (fun v1 v2 σ => X0_addStart_c83 z n0 v1 v2 σ) fuel v1 v2 y3 σ) else some σ
noncomputable def X0_addStart_c27 (z : Nat × Nat) (n0 : Nat) (v1 : Int32) (v2 : Int32) (σ : PS) : Option (PS) :=
  if v2 ≤ 0 then X0_addStart_c43 z n0  v1 v2 σ else gd (ib (v2 - (1 : Int32)) 17) (if (gI σ 5 n0 (ix (v2 - (1 : Int32)))) = v1 then some σ else X0_addStart_c43 z n0  v1 v2 σ)
noncomputable def X0_addStart (z : Nat × Nat) (n0 : Nat) (x1 : Int32) (σ : PS) : Option (PS) :=
  nm (gI σ 0 n0 6) (fun y1 => X0_addStart_l5 z n0 (fun v1 v2 σ => X0_addStart_c27 z n0 v1 v2 σ) fuel x1 y1 σ)
-- X1_laidAt
noncomputable def X1_laidAt (z : Nat × Nat) (n0 : Nat) (x1 : Int32) (σ : PS) : Option (Option Nat) :=
  if x1 < 0 then some none else if (gI σ 50 n0 7) ≤ x1 then some none else gd (ib x1 8) (nm (gR σ 56 n0 (ix x1)) (fun o2 => some o2))
-- X2_takesWeight
noncomputable def X2_takesWeight (z : Nat × Nat) (n0 : Nat) (x1 : Int32) (x2 : Int32) (σ : PS) : Option (Int32) :=
  gd (ib x1 (gN σ 107 n0)) (if x2 < (gI σ 107 n0 (ix x1)) then some (0 : Int32) else gd (ib x1 (gN σ 108 n0)) (if (gI σ 108 n0 (ix x1)) < x2 then some (0 : Int32) else some (1 : Int32)))
-- X1_takersOfWeight
noncomputable def X1_takersOfWeight_l5 (z : Nat × Nat) (n0 : Nat) (σ : PS) (kx5 : Int32 → Option (Int32)) : Nat → Int32 → Int32 → Int32 → Int32 → Option (Int32)
  | 0, _, _, _, _ => none
  | n5 + 1, v1, v2, v3, v4 =>
    if (gI σ 50 n0 7) ≤ v4 then kx5 v3 else gd (ib v4 8) (nm (gR σ 56 n0 (ix v4)) (fun o2 => dr o2 z.2 (fun q3 => (X2_takesWeight z q3 v1 v2 σ).bind (fun r4 => if r4 = 0 then (X1_takersOfWeight_l5 z n0 σ kx5 n5) v1 v2 v3 (v4 + (1 : Int32)) else nm (v3 ||| ((1 : Int32) <<< (v4 &&& 31))) (fun y5 => (X1_takersOfWeight_l5 z n0 σ kx5 n5) v1 v2 y5 (v4 + (1 : Int32)))))))
noncomputable def X1_takersOfWeight_c42 (z : Nat × Nat) (n0 : Nat) (σ : PS) (v3 : Int32) : Option (Int32) :=
  some v3
noncomputable def X1_takersOfWeight (z : Nat × Nat) (n0 : Nat) (x1 : Int32) (x2 : Int32) (σ : PS) : Option (Int32) :=
  X1_takersOfWeight_l5 z n0 σ (fun v3 => X1_takersOfWeight_c42 z n0 σ v3) fuel x1 x2 (0 : Int32) (0 : Int32)
-- X0_findStarts
noncomputable def X0_findStarts_l13 (z : Nat × Nat) (n0 : Nat) (kx13 : Nat → Int32 → PS → Option (PS)) : Nat → Nat → Int32 → Int32 → PS → Option (PS)
  | 0, _, _, _, _ => none
  | n13 + 1, v1, v2, v3, σ =>
    if (gI σ 50 v1 7) ≤ v3 then kx13 v1 v2 σ else (X1_laidAt z v1 v3 σ).bind (fun r3 => oc r3 z.2 ((X0_findStarts_l13 z n0 kx13 n13) v1 v2 (v3 + (1 : Int32)) σ) (fun q4 => if (gI σ 100 q4 4) = 0 then gd (ib v2 (gN σ 107 q4)) ((X0_addStart z n0 (gI σ 107 q4 (ix v2)) σ).bind (fun σ6 => gd (ib v2 (gN σ6 108 q4)) (if (2147483647 : Int32) ≤ (gI σ6 108 q4 (ix v2)) then (X0_findStarts_l13 z n0 kx13 n13) v1 v2 (v3 + (1 : Int32)) σ6 else gd (ib v2 (gN σ6 108 q4)) ((X0_addStart z n0 ((gI σ6 108 q4 (ix v2)) + (1 : Int32)) σ6).bind (fun σ9 => (X0_findStarts_l13 z n0 kx13 n13) v1 v2 (v3 + (1 : Int32)) σ9))))) else (X0_findStarts_l13 z n0 kx13 n13) v1 v2 (v3 + (1 : Int32)) σ))
noncomputable def X0_findStarts_l85 (z : Nat × Nat) (n0 : Nat) (kx85 : PS → Option (PS)) : Nat → Nat → Int32 → Int32 → PS → Option (PS)
  | 0, _, _, _, _ => none
  | n85 + 1, v1, v2, v3, σ =>
    if (gI σ 0 n0 6) ≤ v3 then kx85 σ else gd (ib v3 17) ((X1_takersOfWeight z v1 v2 (gI σ 5 n0 (ix v3)) σ).bind (fun r11 => gd (ib v3 17) (nm (sI σ 6 n0 (ix v3) r11) (fun σ13 => (X0_findStarts_l85 z n0 kx85 n85) v1 v2 (v3 + (1 : Int32)) σ13))))
noncomputable def X0_findStarts_c116 (z : Nat × Nat) (n0 : Nat) (σ : PS) : Option (PS) :=
  some σ
noncomputable def X0_findStarts_c83 (z : Nat × Nat) (n0 : Nat) (v1 : Nat) (v2 : Int32) (σ : PS) : Option (PS) :=
  X0_findStarts_l85 z n0 (fun σ => X0_findStarts_c116 z n0 σ) fuel v1 v2 (0 : Int32) σ
noncomputable def X0_findStarts (z : Nat × Nat) (n0 : Nat) (n1 : Nat) (x2 : Int32) (σ : PS) : Option (PS) :=
  nm (sI σ 0 n0 6 (0 : Int32)) (fun σ1 => (X0_addStart z n0 (-2147483648 : Int32) σ1).bind (fun σ2 => X0_findStarts_l13 z n0 (fun v1 v2 σ => X0_findStarts_c83 z n0 v1 v2 σ) fuel n1 x2 (0 : Int32) σ2))
-- X8_isAbstract
noncomputable def X8_isAbstract (z : Nat × Nat) (x1 : Int32) (σ : PS) : Option (Int32) :=
  if ((gI σ 400 0 3) &&& ((1 : Int32) <<< (x1 &&& 31))) = 0 then some (0 : Int32) else some (1 : Int32)
-- X8_isBelow
noncomputable def X8_isBelow (z : Nat × Nat) (x1 : Int32) (x2 : Int32) (σ : PS) : Option (Int32) :=
  if x1 = x2 then some (1 : Int32) else gd (ib x1 16) (if ((gI σ 403 0 (ix x1)) &&& ((1 : Int32) <<< (x2 &&& 31))) = 0 then some (0 : Int32) else some (1 : Int32))
-- X2_takesClass
noncomputable def X2_takesClass (z : Nat × Nat) (n0 : Nat) (x1 : Int32) (x2 : Int32) (σ : PS) : Option (Int32) :=
  gd (ib x1 (gN σ 106 n0)) (if (gI σ 106 n0 (ix x1)) = (-1 : Int32) then some (1 : Int32) else dr (gR σ 100 n0 0) z.1 (fun q2 => gd (ib x1 (gN σ 106 n0)) ((X8_isBelow z x2 (gI σ 106 n0 (ix x1)) σ).bind (fun r4 => if r4 = 0 then some (0 : Int32) else some (1 : Int32)))))
-- X1_takersOfClass
noncomputable def X1_takersOfClass_l5 (z : Nat × Nat) (n0 : Nat) (σ : PS) (kx5 : Int32 → Option (Int32)) : Nat → Int32 → Int32 → Int32 → Int32 → Option (Int32)
  | 0, _, _, _, _ => none
  | n5 + 1, v1, v2, v3, v4 =>
    if (gI σ 50 n0 7) ≤ v4 then kx5 v3 else gd (ib v4 8) (nm (gR σ 56 n0 (ix v4)) (fun o2 => dr o2 z.2 (fun q3 => (X2_takesClass z q3 v1 v2 σ).bind (fun r4 => if r4 = 0 then (X1_takersOfClass_l5 z n0 σ kx5 n5) v1 v2 v3 (v4 + (1 : Int32)) else nm (v3 ||| ((1 : Int32) <<< (v4 &&& 31))) (fun y5 => (X1_takersOfClass_l5 z n0 σ kx5 n5) v1 v2 y5 (v4 + (1 : Int32)))))))
noncomputable def X1_takersOfClass_c42 (z : Nat × Nat) (n0 : Nat) (σ : PS) (v3 : Int32) : Option (Int32) :=
  some v3
noncomputable def X1_takersOfClass (z : Nat × Nat) (n0 : Nat) (x1 : Int32) (x2 : Int32) (σ : PS) : Option (Int32) :=
  X1_takersOfClass_l5 z n0 σ (fun v3 => X1_takersOfClass_c42 z n0 σ v3) fuel x1 x2 (0 : Int32) (0 : Int32)
-- X0_addClass
noncomputable def X0_addClass_l2 (z : Nat × Nat) (n0 : Nat) (kx2 : PS → Option (PS)) : Nat → Int32 → Int32 → Int32 → PS → Option (PS)
  | 0, _, _, _, _ => none
  | n2 + 1, v1, v2, v3, σ =>
    if (gI σ 0 n0 6) ≤ v3 then kx2 σ else gd (ib v3 17) (gd (ib v3 17) ((X0_addNew z n0 v1 (gI σ 5 n0 (ix v3)) (v2 &&& (gI σ 6 n0 (ix v3))) σ).bind (fun σ3 => (X0_addClass_l2 z n0 kx2 n2) v1 v2 (v3 + (1 : Int32)) σ3)))
noncomputable def X0_addClass_c35 (z : Nat × Nat) (n0 : Nat) (σ : PS) : Option (PS) :=
  some σ
noncomputable def X0_addClass (z : Nat × Nat) (n0 : Nat) (x1 : Int32) (x2 : Int32) (σ : PS) : Option (PS) :=
  X0_addClass_l2 z n0 (fun σ => X0_addClass_c35 z n0 σ) fuel x1 x2 (0 : Int32) σ
-- X0_fill
noncomputable def X0_fill_l32 (z : Nat × Nat) (n0 : Nat) (kx32 : PS → Option (PS)) : Nat → Nat → Int32 → Int32 → PS → Option (PS)
  | 0, _, _, _, _ => none
  | n32 + 1, v1, v2, v3, σ =>
    if (12 : Int32) ≤ v3 then kx32 σ else (X8_isAbstract z v3 σ).bind (fun r4 => if r4 = 0 then (X1_takersOfClass z v1 v2 v3 σ).bind (fun r5 => (X0_addClass z n0 v3 (r5 &&& (gI σ 50 v1 8)) σ).bind (fun σ6 => (X0_fill_l32 z n0 kx32 n32) v1 v2 (v3 + (1 : Int32)) σ6)) else (X0_fill_l32 z n0 kx32 n32) v1 v2 (v3 + (1 : Int32)) σ)
noncomputable def X0_fill_c71 (z : Nat × Nat) (n0 : Nat) (σ : PS) : Option (PS) :=
  some σ
noncomputable def X0_fill (z : Nat × Nat) (n0 : Nat) (n1 : Nat) (x2 : Int32) (σ : PS) : Option (PS) :=
  nm (sI σ 0 n0 3 (0 : Int32)) (fun σ1 => (X1_hasPlace z n1 x2 σ1).bind (fun r2 => if r2 = 0 then (X0_addNew z n0 (0 : Int32) (0 : Int32) (gI σ1 50 n1 8) σ1).bind (fun σ7 => some σ7) else (X0_findStarts z n0 n1 x2 σ1).bind (fun σ3 => X0_fill_l32 z n0 (fun σ => X0_fill_c71 z n0 σ) fuel n1 x2 (0 : Int32) σ3)))
-- X1_numberAt
noncomputable def X1_numberAt (z : Nat × Nat) (n0 : Nat) (x1 : Int32) (σ : PS) : Option (Int32) :=
  (X1_laidAt z n0 x1 σ).bind (fun r1 => oc r1 z.2 (some (-1 : Int32)) (fun q2 => some (gI σ 100 q2 1)))
-- X1_indexOf
noncomputable def X1_indexOf_l2 (z : Nat × Nat) (n0 : Nat) (σ : PS) (kx2 : Option (Int32)) : Nat → Nat → Int32 → Option (Int32)
  | 0, _, _ => none
  | n2 + 1, v1, v2 =>
    if (gI σ 50 n0 7) ≤ v2 then kx2 else gd (ib v2 8) (nm (gR σ 56 n0 (ix v2)) (fun o2 => dr o2 z.2 (fun q3 => if (gI σ 100 q3 1) = (gI σ 100 v1 1) then some v2 else (X1_indexOf_l2 z n0 σ kx2 n2) v1 (v2 + (1 : Int32)))))
noncomputable def X1_indexOf_c34 (z : Nat × Nat) (n0 : Nat) (σ : PS)  : Option (Int32) :=
  some (-1 : Int32)
noncomputable def X1_indexOf (z : Nat × Nat) (n0 : Nat) (n1 : Nat) (σ : PS) : Option (Int32) :=
  X1_indexOf_l2 z n0 σ (X1_indexOf_c34 z n0 σ ) fuel n1 (0 : Int32)
-- X2_isSameAt
noncomputable def X2_isSameAt (z : Nat × Nat) (n0 : Nat) (x1 : Int32) (n2 : Nat) (σ : PS) : Option (Int32) :=
  gd (ib x1 (gN σ 106 n0)) (gd (ib x1 (gN σ 106 n2)) (if (gI σ 106 n0 (ix x1)) = (gI σ 106 n2 (ix x1)) then gd (ib x1 (gN σ 107 n0)) (gd (ib x1 (gN σ 107 n2)) (if (gI σ 107 n0 (ix x1)) = (gI σ 107 n2 (ix x1)) then gd (ib x1 (gN σ 108 n0)) (gd (ib x1 (gN σ 108 n2)) (if (gI σ 108 n0 (ix x1)) = (gI σ 108 n2 (ix x1)) then some (1 : Int32) else some (0 : Int32))) else some (0 : Int32))) else some (0 : Int32)))
-- X2_isSameAs
noncomputable def X2_isSameAs_l2 (z : Nat × Nat) (n0 : Nat) (σ : PS) (kx2 : Option (Int32)) : Nat → Nat → Int32 → Option (Int32)
  | 0, _, _ => none
  | n2 + 1, v1, v2 =>
    dr (gR σ 100 n0 0) z.1 (fun q1 => if (gI σ 50 q1 2) ≤ v2 then kx2 else (X2_isSameAt z n0 v2 v1 σ).bind (fun r2 => if r2 = 0 then some (0 : Int32) else (X2_isSameAs_l2 z n0 σ kx2 n2) v1 (v2 + (1 : Int32))))
noncomputable def X2_isSameAs_c30 (z : Nat × Nat) (n0 : Nat) (σ : PS)  : Option (Int32) :=
  some (1 : Int32)
noncomputable def X2_isSameAs (z : Nat × Nat) (n0 : Nat) (n1 : Nat) (σ : PS) : Option (Int32) :=
  X2_isSameAs_l2 z n0 σ (X2_isSameAs_c30 z n0 σ ) fuel n1 (0 : Int32)
-- X1_hasLaidSame
noncomputable def X1_hasLaidSame_l2 (z : Nat × Nat) (n0 : Nat) (σ : PS) (kx2 : Option (Int32)) : Nat → Nat → Int32 → Option (Int32)
  | 0, _, _ => none
  | n2 + 1, v1, v2 =>
    if (gI σ 50 n0 7) ≤ v2 then kx2 else gd (ib v2 8) (nm (gR σ 56 n0 (ix v2)) (fun o2 => dr o2 z.2 (fun q3 => if (gI σ 100 q3 4) = (gI σ 100 v1 4) then gd (ib v2 8) (nm (gR σ 56 n0 (ix v2)) (fun o5 => dr o5 z.2 (fun q6 => (X2_isSameAs z q6 v1 σ).bind (fun r7 => if r7 = 0 then (X1_hasLaidSame_l2 z n0 σ kx2 n2) v1 (v2 + (1 : Int32)) else some (1 : Int32))))) else (X1_hasLaidSame_l2 z n0 σ kx2 n2) v1 (v2 + (1 : Int32)))))
noncomputable def X1_hasLaidSame_c47 (z : Nat × Nat) (n0 : Nat) (σ : PS)  : Option (Int32) :=
  some (0 : Int32)
noncomputable def X1_hasLaidSame (z : Nat × Nat) (n0 : Nat) (n1 : Nat) (σ : PS) : Option (Int32) :=
  X1_hasLaidSame_l2 z n0 σ (X1_hasLaidSame_c47 z n0 σ ) fuel n1 (0 : Int32)
-- X2_isNarrowerAt
noncomputable def X2_isNarrowerAt (z : Nat × Nat) (n0 : Nat) (x1 : Int32) (n2 : Nat) (σ : PS) : Option (Int32) :=
  gd (ib x1 (gN σ 106 n0)) (gd (ib x1 (gN σ 106 n2)) (if (gI σ 106 n0 (ix x1)) = (gI σ 106 n2 (ix x1)) then gd (ib x1 (gN σ 107 n2)) (gd (ib x1 (gN σ 107 n0)) (if (gI σ 107 n0 (ix x1)) < (gI σ 107 n2 (ix x1)) then some (0 : Int32) else gd (ib x1 (gN σ 108 n0)) (gd (ib x1 (gN σ 108 n2)) (if (gI σ 108 n2 (ix x1)) < (gI σ 108 n0 (ix x1)) then some (0 : Int32) else (X2_isSameAt z n0 x1 n2 σ).bind (fun r7 => if r7 = 0 then some (1 : Int32) else some (0 : Int32)))))) else gd (ib x1 (gN σ 106 n0)) (if (gI σ 106 n0 (ix x1)) = (-1 : Int32) then some (0 : Int32) else gd (ib x1 (gN σ 106 n2)) (if (gI σ 106 n2 (ix x1)) = (-1 : Int32) then some (1 : Int32) else dr (gR σ 100 n0 0) z.1 (fun q10 => gd (ib x1 (gN σ 106 n0)) (gd (ib x1 (gN σ 106 n2)) ((X8_isBelow z (gI σ 106 n0 (ix x1)) (gI σ 106 n2 (ix x1)) σ).bind (fun r13 => if r13 = 0 then some (0 : Int32) else some (1 : Int32)))))))))
-- X2_isMoreSpecific
noncomputable def X2_isMoreSpecific_l4 (z : Nat × Nat) (n0 : Nat) (σ : PS) (kx4 : Int32 → Option (Int32)) : Nat → Nat → Int32 → Int32 → Option (Int32)
  | 0, _, _, _ => none
  | n4 + 1, v1, v2, v3 =>
    dr (gR σ 100 n0 0) z.1 (fun q1 => if (gI σ 50 q1 2) ≤ v3 then kx4 v2 else (X2_isNarrowerAt z n0 v3 v1 σ).bind (fun r2 => if r2 = 0 then (X2_isSameAt z n0 v3 v1 σ).bind (fun r3 => if r3 = 0 then some (0 : Int32) else (X2_isMoreSpecific_l4 z n0 σ kx4 n4) v1 v2 (v3 + (1 : Int32))) else (X2_isMoreSpecific_l4 z n0 σ kx4 n4) v1 (1 : Int32) (v3 + (1 : Int32))))
noncomputable def X2_isMoreSpecific_c46 (z : Nat × Nat) (n0 : Nat) (σ : PS) (v2 : Int32) : Option (Int32) :=
  gd (isB v2) (some v2)
noncomputable def X2_isMoreSpecific (z : Nat × Nat) (n0 : Nat) (n1 : Nat) (σ : PS) : Option (Int32) :=
  X2_isMoreSpecific_l4 z n0 σ (fun v2 => X2_isMoreSpecific_c46 z n0 σ v2) fuel n1 (0 : Int32) (0 : Int32)
-- X1_beatenByAny
noncomputable def X1_beatenByAny_l4 (z : Nat × Nat) (n0 : Nat) (σ : PS) (kx4 : Int32 → Option (Int32)) : Nat → Int32 → Int32 → Int32 → Option (Int32)
  | 0, _, _, _ => none
  | n4 + 1, v1, v2, v3 =>
    if (gI σ 50 n0 7) ≤ v3 then kx4 v2 else if (v1 &&& ((1 : Int32) <<< (v3 &&& 31))) = 0 then (X1_beatenByAny_l4 z n0 σ kx4 n4) v1 v2 (v3 + (1 : Int32)) else gd (ib v3 8) (nm (v2 ||| (gI σ 57 n0 (ix v3))) (fun y2 => (X1_beatenByAny_l4 z n0 σ kx4 n4) v1 y2 (v3 + (1 : Int32))))
noncomputable def X1_beatenByAny_c35 (z : Nat × Nat) (n0 : Nat) (σ : PS) (v2 : Int32) : Option (Int32) :=
  some v2
noncomputable def X1_beatenByAny (z : Nat × Nat) (n0 : Nat) (x1 : Int32) (σ : PS) : Option (Int32) :=
  X1_beatenByAny_l4 z n0 σ (fun v2 => X1_beatenByAny_c35 z n0 σ v2) fuel x1 (0 : Int32) (0 : Int32)
-- X9_memberAt
noncomputable def X9_memberAt_l4 (z : Nat × Nat)  (σ : PS) (kx4 : Option (Int32)) : Nat → Int32 → Int32 → Int32 → Int32 → Option (Int32)
  | 0, _, _, _, _ => none
  | n4 + 1, v0, v1, v2, v3 =>
    if (8 : Int32) ≤ v3 then kx4 else if (v0 &&& ((1 : Int32) <<< (v3 &&& 31))) = 0 then (X9_memberAt_l4 z  σ kx4 n4) v0 v1 v2 (v3 + (1 : Int32)) else if v2 = v1 then some v3 else (X9_memberAt_l4 z  σ kx4 n4) v0 v1 (v2 + (1 : Int32)) (v3 + (1 : Int32))
noncomputable def X9_memberAt_c34 (z : Nat × Nat)  (σ : PS)  : Option (Int32) :=
  some (-1 : Int32)
noncomputable def X9_memberAt (z : Nat × Nat) (x0 : Int32) (x1 : Int32) (σ : PS) : Option (Int32) :=
  X9_memberAt_l4 z  σ (X9_memberAt_c34 z  σ ) fuel x0 x1 (0 : Int32) (0 : Int32)
-- X1_putInOrder
noncomputable def X1_putInOrder_l11 (z : Nat × Nat) (n0 : Nat) (kx11 : PS → Option (PS)) : Nat → Int32 → Int32 → PS → Option (PS)
  | 0, _, _, _ => none
  | n11 + 1, v1, v2, σ =>
    if (gI σ 50 n0 7) ≤ v2 then kx11 σ else (X1_beatenByAny z n0 v1 σ).bind (fun r2 => (X9_memberAt z (v1 &&& (r2 ^^^ (-1 : Int32))) (0 : Int32) σ).bind (fun r3 => gd (ib v2 8) (nm (sI σ 55 n0 (ix v2) r3) (fun σ5 => nm (v1 &&& (((1 : Int32) <<< (r3 &&& 31)) ^^^ (-1 : Int32))) (fun y6 => (X1_putInOrder_l11 z n0 kx11 n11) y6 (v2 + (1 : Int32)) σ5)))))
noncomputable def X1_putInOrder_c54 (z : Nat × Nat) (n0 : Nat) (σ : PS) : Option (PS) :=
  some σ
noncomputable def X1_putInOrder (z : Nat × Nat) (n0 : Nat) (σ : PS) : Option (PS) :=
  nm (((1 : Int32) <<< ((gI σ 50 n0 7) &&& 31)) - (1 : Int32)) (fun y1 => X1_putInOrder_l11 z n0 (fun σ => X1_putInOrder_c54 z n0 σ) fuel y1 (0 : Int32) σ)
-- X4_forget
noncomputable def X4_forget (z : Nat × Nat) (n0 : Nat) (σ : PS) : Option (PS) :=
  nm (sI σ 200 n0 5 (0 : Int32)) (fun σ1 => some σ1)
-- X1_compareLaid
noncomputable def X1_compareLaid_l48 (z : Nat × Nat) (n0 : Nat) (kx48 : Int32 → PS → Option (PS)) : Nat → Int32 → Int32 → PS → Option (PS)
  | 0, _, _, _ => none
  | n48 + 1, v1, v2, σ =>
    if (gI σ 50 n0 7) ≤ v2 then kx48 v1 σ else gd (ib v1 8) (nm (gR σ 56 n0 (ix v1)) (fun o8 => gd (ib v2 8) (nm (gR σ 56 n0 (ix v2)) (fun o10 => dr o10 z.2 (fun q11 => dr o8 z.2 (fun q12 => (X2_isMoreSpecific z q12 q11 σ).bind (fun r13 => if r13 = 0 then (X1_compareLaid_l48 z n0 kx48 n48) v1 (v2 + (1 : Int32)) σ else gd (ib v1 8) (gd (ib v1 8) (nm (sI σ 57 n0 (ix v1) ((gI σ 57 n0 (ix v1)) ||| ((1 : Int32) <<< (v2 &&& 31)))) (fun σ16 => (X1_compareLaid_l48 z n0 kx48 n48) v1 (v2 + (1 : Int32)) σ16))))))))))
noncomputable def X1_compareLaid_c92 (z : Nat × Nat) (n0 : Nat) (kr7 : Int32 → PS → Option (PS)) (kx7 : PS → Option (PS)) (v1 : Int32) (σ : PS) : Option (PS) :=
  kr7 (v1 + (1 : Int32)) σ
noncomputable def X1_compareLaid_c46 (z : Nat × Nat) (n0 : Nat) (kr7 : Int32 → PS → Option (PS)) (kx7 : PS → Option (PS)) (v1 : Int32) (σ : PS) : Option (PS) :=
  X1_compareLaid_l48 z n0 (fun v1 σ => X1_compareLaid_c92 z n0 kr7 kx7 v1 σ) fuel v1 (0 : Int32) σ
noncomputable def X1_compareLaid_l7 (z : Nat × Nat) (n0 : Nat) (kx7 : PS → Option (PS)) : Nat → Int32 → PS → Option (PS)
  | 0, _, _ => none
  | n7 + 1, v1, σ =>
    if (gI σ 50 n0 7) ≤ v1 then kx7 σ else gd (ib v1 8) (nm (sI σ 57 n0 (ix v1) (0 : Int32)) (fun σ3 => gd (ib v1 8) (nm (gR σ3 56 n0 (ix v1)) (fun o5 => dr o5 z.2 (fun q6 => if (gI σ3 100 q6 4) = 0 then nm (sI σ3 50 n0 8 ((gI σ3 50 n0 8) ||| ((1 : Int32) <<< (v1 &&& 31)))) (fun σ17 => X1_compareLaid_c46 z n0 (X1_compareLaid_l7 z n0 kx7 n7) kx7  v1 σ17) else X1_compareLaid_c46 z n0 (X1_compareLaid_l7 z n0 kx7 n7) kx7  v1 σ3)))))
noncomputable def X1_compareLaid_c98 (z : Nat × Nat) (n0 : Nat) (σ : PS) : Option (PS) :=
  (X1_putInOrder z n0 σ).bind (fun σ18 => (X4_forget z n0 σ18).bind (fun σ19 => some σ19))
noncomputable def X1_compareLaid (z : Nat × Nat) (n0 : Nat) (σ : PS) : Option (PS) :=
  nm (sI σ 50 n0 8 (0 : Int32)) (fun σ1 => X1_compareLaid_l7 z n0 (fun σ => X1_compareLaid_c98 z n0 σ) fuel (0 : Int32) σ1)
-- X1_putLaid
noncomputable def X1_putLaid_l16 (z : Nat × Nat) (n0 : Nat) (kx16 : Nat → Int32 → PS → Option (Int32 × PS)) : Nat → Nat → Int32 → PS → Option (Int32 × PS)
  | 0, _, _, _ => none
  | n16 + 1, v1, v2, σ =>
    if v2 ≤ 0 then kx16 v1 v2 σ else gd (ib (v2 - (1 : Int32)) 8) (nm (gR σ 56 n0 (ix (v2 - (1 : Int32)))) (fun o3 => dr o3 z.2 (fun q4 => if (gI σ 100 q4 1) ≤ (gI σ 100 v1 1) then kx16 v1 v2 σ else gd (ib (v2 - (1 : Int32)) 8) (nm (gR σ 56 n0 (ix (v2 - (1 : Int32)))) (fun o6 => dr o6 z.2 (fun q7 => gd (ib v2 8) (nm (sR σ 56 n0 (ix v2) (some q7)) (fun σ9 => (X1_putLaid_l16 z n0 kx16 n16) v1 (v2 + (-1 : Int32)) σ9))))))))
noncomputable def X1_putLaid_c58 (z : Nat × Nat) (n0 : Nat) (v1 : Nat) (v2 : Int32) (σ : PS) : Option (Int32 × PS) :=
  gd (ib v2 8) (nm (sR σ 56 n0 (ix v2) (some v1)) (fun σ11 => nm (sI σ11 50 n0 7 ((gI σ11 50 n0 7) + (1 : Int32))) (fun σ12 => (X1_compareLaid z n0 σ12).bind (fun σ13 => some ((1 : Int32), σ13)))))
noncomputable def X1_putLaid (z : Nat × Nat) (n0 : Nat) (n1 : Nat) (σ : PS) : Option (Int32 × PS) :=
  if (gI σ 50 n0 7) < (8 : Int32) then nm (gI σ 50 n0 7) (fun y1 => X1_putLaid_l16 z n0 (fun v1 v2 σ => X1_putLaid_c58 z n0 v1 v2 σ) fuel n1 y1 σ) else some ((0 : Int32), σ)
-- X1_dropLaid
noncomputable def X1_dropLaid_l4 (z : Nat × Nat) (n0 : Nat) (kx4 : Int32 → PS → Option (PS)) : Nat → Nat → Int32 → Int32 → PS → Option (PS)
  | 0, _, _, _, _ => none
  | n4 + 1, v1, v2, v3, σ =>
    if (gI σ 50 n0 7) ≤ v3 then kx4 v2 σ else gd (ib v3 8) (nm (gR σ 56 n0 (ix v3)) (fun o2 => dr o2 z.2 (fun q3 => if (gI σ 100 q3 1) = (gI σ 100 v1 1) then (X1_dropLaid_l4 z n0 kx4 n4) v1 v2 (v3 + (1 : Int32)) σ else gd (ib v3 8) (nm (gR σ 56 n0 (ix v3)) (fun o5 => dr o5 z.2 (fun q6 => gd (ib v2 8) (nm (sR σ 56 n0 (ix v2) (some q6)) (fun σ8 => (X1_dropLaid_l4 z n0 kx4 n4) v1 (v2 + (1 : Int32)) (v3 + (1 : Int32)) σ8))))))))
noncomputable def X1_dropLaid_c49 (z : Nat × Nat) (n0 : Nat) (v2 : Int32) (σ : PS) : Option (PS) :=
  nm (sI σ 50 n0 7 v2) (fun σ9 => (X1_compareLaid z n0 σ9).bind (fun σ10 => some σ10))
noncomputable def X1_dropLaid (z : Nat × Nat) (n0 : Nat) (n1 : Nat) (σ : PS) : Option (PS) :=
  X1_dropLaid_l4 z n0 (fun v2 σ => X1_dropLaid_c49 z n0 v2 σ) fuel n1 (0 : Int32) (0 : Int32) σ
-- X1_beatenBy
noncomputable def X1_beatenBy (z : Nat × Nat) (n0 : Nat) (x1 : Int32) (σ : PS) : Option (Int32) :=
  if x1 < 0 then some (0 : Int32) else if (gI σ 50 n0 7) ≤ x1 then some (0 : Int32) else gd (ib x1 8) (some (gI σ 57 n0 (ix x1)))
-- X1_beatersOf
noncomputable def X1_beatersOf_l4 (z : Nat × Nat) (n0 : Nat) (σ : PS) (kx4 : Int32 → Option (Int32)) : Nat → Int32 → Int32 → Int32 → Option (Int32)
  | 0, _, _, _ => none
  | n4 + 1, v1, v2, v3 =>
    if (gI σ 50 n0 7) ≤ v3 then kx4 v2 else gd (ib v3 8) (if ((gI σ 57 n0 (ix v3)) &&& ((1 : Int32) <<< (v1 &&& 31))) = 0 then (X1_beatersOf_l4 z n0 σ kx4 n4) v1 v2 (v3 + (1 : Int32)) else nm (v2 ||| ((1 : Int32) <<< (v3 &&& 31))) (fun y2 => (X1_beatersOf_l4 z n0 σ kx4 n4) v1 y2 (v3 + (1 : Int32))))
noncomputable def X1_beatersOf_c37 (z : Nat × Nat) (n0 : Nat) (σ : PS) (v2 : Int32) : Option (Int32) :=
  some v2
noncomputable def X1_beatersOf (z : Nat × Nat) (n0 : Nat) (x1 : Int32) (σ : PS) : Option (Int32) :=
  X1_beatersOf_l4 z n0 σ (fun v2 => X1_beatersOf_c37 z n0 σ v2) fuel x1 (0 : Int32) (0 : Int32)
-- X1_takersOf
noncomputable def X1_takersOf_l11 (z : Nat × Nat) (n0 : Nat) (σ : PS) (kx11 : Int32 → Option (Int32)) : Nat → Int32 → Int32 → Option (Int32)
  | 0, _, _ => none
  | n11 + 1, v2, v3 =>
    if (gI σ 50 n0 2) ≤ v3 then kx11 v2 else gd (ib v3 2) ((X1_takersOfClass z n0 v3 (gI σ 301 0 (ix v3)) σ).bind (fun r3 => gd (ib v3 2) ((X1_takersOfWeight z n0 v3 (gI σ 302 0 (ix v3)) σ).bind (fun r5 => nm (v2 &&& (r3 &&& r5)) (fun y6 => (X1_takersOf_l11 z n0 σ kx11 n11) y6 (v3 + (1 : Int32)))))))
noncomputable def X1_takersOf_c51 (z : Nat × Nat) (n0 : Nat) (σ : PS) (v2 : Int32) : Option (Int32) :=
  some v2
noncomputable def X1_takersOf (z : Nat × Nat) (n0 : Nat) (σ : PS) : Option (Int32) :=
  nm (((1 : Int32) <<< ((gI σ 50 n0 7) &&& 31)) - (1 : Int32)) (fun y1 => X1_takersOf_l11 z n0 σ (fun v2 => X1_takersOf_c51 z n0 σ v2) fuel y1 (0 : Int32))
-- X1_plainTakersOf
noncomputable def X1_plainTakersOf (z : Nat × Nat) (n0 : Nat) (σ : PS) : Option (Int32) :=
  (X1_takersOf z n0 σ).bind (fun r1 => some (r1 &&& (gI σ 50 n0 8)))
-- X1_chosenOf
noncomputable def X1_chosenOf_l2 (z : Nat × Nat) (n0 : Nat) (σ : PS) (kx2 : Option (Int32)) : Nat → Int32 → Int32 → Option (Int32)
  | 0, _, _ => none
  | n2 + 1, v1, v2 =>
    if (gI σ 50 n0 7) ≤ v2 then kx2 else nm ((1 : Int32) <<< (v2 &&& 31)) (fun y1 => if (v1 &&& y1) = 0 then (X1_chosenOf_l2 z n0 σ kx2 n2) v1 (v2 + (1 : Int32)) else gd (ib v2 8) (if ((v1 &&& (y1 ^^^ (-1 : Int32))) &&& ((gI σ 57 n0 (ix v2)) ^^^ (-1 : Int32))) = 0 then some v2 else (X1_chosenOf_l2 z n0 σ kx2 n2) v1 (v2 + (1 : Int32))))
noncomputable def X1_chosenOf_c45 (z : Nat × Nat) (n0 : Nat) (σ : PS)  : Option (Int32) :=
  some (-1 : Int32)
noncomputable def X1_chosenOf (z : Nat × Nat) (n0 : Nat) (x1 : Int32) (σ : PS) : Option (Int32) :=
  X1_chosenOf_l2 z n0 σ (X1_chosenOf_c45 z n0 σ ) fuel x1 (0 : Int32)
-- X1_pieceOf
noncomputable def X1_pieceOf_c63 (z : Nat × Nat) (n0 : Nat) (σ : PS) (kr7 : Int32 → Int32 → Int64 → Int32 → Option (Int64)) (kx7 : Int64 → Option (Int64)) (v1 : Int32) (v2 : Int32) (v3 : Int64) (v5 : Int32) (v8 : Int64) : Option (Int64) :=
  if (lg_cmp v8 v2.toInt64) ≤ 0 then kr7 v1 v2 v3 (v5 + (1 : Int32)) else nm (if v8 < v3 then v8 else v3) (fun y11 => kr7 v1 v2 y11 (v5 + (1 : Int32)))
noncomputable def X1_pieceOf_l7 (z : Nat × Nat) (n0 : Nat) (σ : PS) (kx7 : Int64 → Option (Int64)) : Nat → Int32 → Int32 → Int64 → Int32 → Option (Int64)
  | 0, _, _, _, _ => none
  | n7 + 1, v1, v2, v3, v5 =>
    if (gI σ 50 n0 7) ≤ v5 then kx7 v3 else gd (ib v5 8) (nm (gR σ 56 n0 (ix v5)) (fun o2 => dr o2 z.2 (fun q3 => gd (ib v1 (gN σ 107 q3)) (nm (gI σ 107 q3 (ix v1)).toInt64 (fun y5 => gd (ib v5 8) (nm (gR σ 56 n0 (ix v5)) (fun o7 => dr o7 z.2 (fun q8 => gd (ib v1 (gN σ 108 q8)) (nm ((gI σ 108 q8 (ix v1)).toInt64 + (1 : Int64)) (fun y10 => if (lg_cmp y5 v2.toInt64) ≤ 0 then X1_pieceOf_c63 z n0 σ (X1_pieceOf_l7 z n0 σ kx7 n7) kx7  v1 v2 v3 v5 y10 else nm (if y5 < v3 then y5 else v3) (fun y12 => X1_pieceOf_c63 z n0 σ (X1_pieceOf_l7 z n0 σ kx7 n7) kx7  v1 v2 y12 v5 y10)))))))))))
noncomputable def X1_pieceOf_c84 (z : Nat × Nat) (n0 : Nat) (σ : PS) (v3 : Int64) : Option (Int64) :=
  some v3
noncomputable def X1_pieceOf (z : Nat × Nat) (n0 : Nat) (x1 : Int32) (x2 : Int32) (σ : PS) : Option (Int64) :=
  X1_pieceOf_l7 z n0 σ (fun v3 => X1_pieceOf_c84 z n0 σ v3) fuel x1 x2 (2147483648 : Int64) (0 : Int32)
-- X4_find
noncomputable def X4_find_l3 (z : Nat × Nat) (n0 : Nat) (σ : PS) (kx3 : Option (Int32)) : Nat → Int32 → Int64 → Int64 → Int32 → Option (Int32)
  | 0, _, _, _, _ => none
  | n3 + 1, v1, v2, v4, v6 =>
    if (gI σ 200 n0 5) ≤ v6 then kx3 else gd (ib v6 16) (if (gI σ 201 n0 (ix v6)) = v1 then gd (ib v6 16) (if (lg_cmp (gL σ 202 n0 (ix v6)) v2) = 0 then gd (ib v6 16) (if (lg_cmp (gL σ 203 n0 (ix v6)) v4) = 0 then some v6 else (X4_find_l3 z n0 σ kx3 n3) v1 v2 v4 (v6 + (1 : Int32))) else (X4_find_l3 z n0 σ kx3 n3) v1 v2 v4 (v6 + (1 : Int32))) else (X4_find_l3 z n0 σ kx3 n3) v1 v2 v4 (v6 + (1 : Int32)))
noncomputable def X4_find_c57 (z : Nat × Nat) (n0 : Nat) (σ : PS)  : Option (Int32) :=
  some (-1 : Int32)
noncomputable def X4_find (z : Nat × Nat) (n0 : Nat) (x1 : Int32) (x2 : Int64) (x4 : Int64) (σ : PS) : Option (Int32) :=
  X4_find_l3 z n0 σ (X4_find_c57 z n0 σ ) fuel x1 x2 x4 (0 : Int32)
-- X4_makeRoom
noncomputable def X4_makeRoom_l30 (z : Nat × Nat) (n0 : Nat) (kx30 : Int32 → PS → Option (Int32 × PS)) : Nat → Int32 → Int32 → PS → Option (Int32 × PS)
  | 0, _, _, _ => none
  | n30 + 1, v1, v2, σ =>
    if (16 : Int32) ≤ v2 then kx30 v1 σ else gd (ib v2 16) (gd (ib v1 16) (if (gI σ 204 n0 (ix v1)) ≤ (gI σ 204 n0 (ix v2)) then (X4_makeRoom_l30 z n0 kx30 n30) v1 (v2 + (1 : Int32)) σ else (X4_makeRoom_l30 z n0 kx30 n30) v2 (v2 + (1 : Int32)) σ))
noncomputable def X4_makeRoom_c59 (z : Nat × Nat) (n0 : Nat) (v1 : Int32) (σ : PS) : Option (Int32 × PS) :=
  some (v1, σ)
noncomputable def X4_makeRoom (z : Nat × Nat) (n0 : Nat) (σ : PS) : Option (Int32 × PS) :=
  if (16 : Int32) ≤ (gI σ 200 n0 5) then X4_makeRoom_l30 z n0 (fun v1 σ => X4_makeRoom_c59 z n0 v1 σ) fuel (0 : Int32) (1 : Int32) σ else nm (sI σ 200 n0 5 ((gI σ 200 n0 5) + (1 : Int32))) (fun σ3 => some (((gI σ3 200 n0 5) - (1 : Int32)), σ3))
-- X4_look
noncomputable def X4_look (z : Nat × Nat) (n0 : Nat) (x1 : Int32) (x2 : Int64) (x4 : Int64) (σ : PS) : Option (PS) :=
  (X4_find z n0 x1 x2 x4 σ).bind (fun r1 => if r1 = (-1 : Int32) then bp (X4_makeRoom z n0 σ) (fun r2 σ2 => gd (ib r2 16) (nm (sI σ2 201 n0 (ix r2) x1) (fun σ4 => gd (ib r2 16) (nm (sL σ4 202 n0 (ix r2) x2) (fun σ6 => gd (ib r2 16) (nm (sL σ6 203 n0 (ix r2) x4) (fun σ8 => nm (sI σ8 200 n0 4 ((gI σ8 200 n0 4) + (1 : Int32))) (fun σ9 => gd (ib r2 16) (nm (sI σ9 204 n0 (ix r2) (gI σ9 200 n0 4)) (fun σ11 => some σ11)))))))))) else nm (sI σ 200 n0 6 ((gI σ 200 n0 6) + (1 : Int32))) (fun σ12 => nm (sI σ12 200 n0 4 ((gI σ12 200 n0 4) + (1 : Int32))) (fun σ13 => gd (ib r1 16) (nm (sI σ13 204 n0 (ix r1) (gI σ13 200 n0 4)) (fun σ15 => some σ15)))))
-- X1_lookForRow
noncomputable def X1_lookForRow (z : Nat × Nat) (n0 : Nat) (σ : PS) : Option (PS) :=
  gd (ib (0 : Int32) 2) (nm (gI σ 301 0 (ix (0 : Int32))) (fun y2 => gd (ib (0 : Int32) 2) ((X1_pieceOf z n0 (0 : Int32) (gI σ 302 0 (ix (0 : Int32))) σ).bind (fun r4 => if (2 : Int32) ≤ (gI σ 50 n0 2) then gd (ib (1 : Int32) 2) (gd (ib (1 : Int32) 2) ((X1_pieceOf z n0 (1 : Int32) (gI σ 302 0 (ix (1 : Int32))) σ).bind (fun r7 => (X4_look z n0 ((y2 * (12 : Int32)) + (gI σ 301 0 (ix (1 : Int32)))) r4 r7 σ).bind (fun σ8 => some σ8)))) else (X4_look z n0 y2 r4 (0 : Int64) σ).bind (fun σ9 => some σ9)))))
-- X2_firstRefusingPlace
noncomputable def X2_firstRefusingPlace_l2 (z : Nat × Nat) (n0 : Nat) (σ : PS) (kx2 : Option (Int32)) : Nat → Int32 → Option (Int32)
  | 0, _ => none
  | n2 + 1, v2 =>
    dr (gR σ 100 n0 0) z.1 (fun q1 => if (gI σ 50 q1 2) ≤ v2 then kx2 else gd (ib v2 2) ((X2_takesClass z n0 v2 (gI σ 301 0 (ix v2)) σ).bind (fun r3 => if r3 = 0 then some v2 else gd (ib v2 2) ((X2_takesWeight z n0 v2 (gI σ 302 0 (ix v2)) σ).bind (fun r5 => if r5 = 0 then some v2 else (X2_firstRefusingPlace_l2 z n0 σ kx2 n2) (v2 + (1 : Int32)))))))
noncomputable def X2_firstRefusingPlace_c49 (z : Nat × Nat) (n0 : Nat) (σ : PS)  : Option (Int32) :=
  some (-1 : Int32)
noncomputable def X2_firstRefusingPlace (z : Nat × Nat) (n0 : Nat) (σ : PS) : Option (Int32) :=
  X2_firstRefusingPlace_l2 z n0 σ (X2_firstRefusingPlace_c49 z n0 σ ) fuel (0 : Int32)
-- X3_begin
noncomputable def X3_begin (z : Nat × Nat) (σ : PS) : Option (PS) :=
  nm (sI σ 150 0 1 (0 : Int32)) (fun σ1 => nm (sI σ1 150 0 2 (0 : Int32)) (fun σ2 => nm (sI σ2 150 0 3 (0 : Int32)) (fun σ3 => nm (sI σ3 150 0 4 (0 : Int32)) (fun σ4 => nm (sL σ4 150 0 5 (0 : Int64)) (fun σ5 => some σ5)))))
-- X3_addStep
noncomputable def X3_addStep (z : Nat × Nat) (x1 : Int32) (σ : PS) : Option (PS) :=
  if (1000 : Int32) ≤ (gI σ 150 0 1) then nm (sI σ 150 0 1 ((gI σ 150 0 1) + (1 : Int32))) (fun σ1 => some σ1) else gd (ib (gI σ 150 0 1) 1000) (nm (sI σ 151 0 (ix (gI σ 150 0 1)) x1) (fun σ3 => nm (sI σ3 150 0 1 ((gI σ3 150 0 1) + (1 : Int32))) (fun σ4 => some σ4)))
-- X3_endWithValue
noncomputable def X3_endWithValue (z : Nat × Nat) (x1 : Int64) (σ : PS) : Option (PS) :=
  nm (sI σ 150 0 3 (0 : Int32)) (fun σ1 => nm (sL σ1 150 0 5 ((gL σ1 150 0 5) + x1)) (fun σ2 => some σ2))
-- X3_endWithFailure
noncomputable def X3_endWithFailure (z : Nat × Nat) (x1 : Int32) (σ : PS) : Option (PS) :=
  nm (sI σ 150 0 3 (3 : Int32)) (fun σ1 => nm (sI σ1 150 0 4 x1) (fun σ2 => some σ2))
-- X5_fillCells
noncomputable def X5_fillCells (z : Nat × Nat) (n1 : Nat) (σ : PS) : Option (PS) :=
  (X0_fill z 0 n1 (0 : Int32) σ).bind (fun σ1 => (X0_fill z 1 n1 (1 : Int32) σ1).bind (fun σ2 => some σ2))
-- X5_foundAt
noncomputable def X5_foundAt (z : Nat × Nat) (x1 : Int32) (x2 : Int32) (σ : PS) : Option (Int32 × PS) :=
  nm (sI σ 250 0 2 x1) (fun σ1 => nm (sI σ1 250 0 3 x2) (fun σ2 => some ((1 : Int32), σ2)))
-- X5_findHole
noncomputable def X5_findHole_l20 (z : Nat × Nat) (kx20 : Nat → Int32 → PS → Option (Int32 × PS)) : Nat → Nat → Int32 → Int32 → PS → Option (Int32 × PS)
  | 0, _, _, _, _ => none
  | n20 + 1, v1, v2, v3, σ =>
    if (gI σ 0 1 3) ≤ v3 then kx20 v1 v2 σ else gd (ib v2 204) (gd (ib v3 204) ((X1_chosenOf z v1 ((gI σ 3 0 (ix v2)) &&& (gI σ 3 1 (ix v3))) σ).bind (fun r4 => if r4 = (-1 : Int32) then bp (X5_foundAt z v2 v3 σ) (fun r5 σ5 => gd (isB r5) (some (r5, σ5))) else (X5_findHole_l20 z kx20 n20) v1 v2 (v3 + (1 : Int32)) σ)))
noncomputable def X5_findHole_c71 (z : Nat × Nat) (kr7 : Nat → Int32 → PS → Option (Int32 × PS)) (kx7 : PS → Option (Int32 × PS)) (v1 : Nat) (v2 : Int32) (σ : PS) : Option (Int32 × PS) :=
  kr7 v1 (v2 + (1 : Int32)) σ
noncomputable def X5_findHole_l7 (z : Nat × Nat) (kx7 : PS → Option (Int32 × PS)) : Nat → Nat → Int32 → PS → Option (Int32 × PS)
  | 0, _, _, _ => none
  | n7 + 1, v1, v2, σ =>
    if (gI σ 0 0 3) ≤ v2 then kx7 σ else X5_findHole_l20 z (fun v1 v2 σ => X5_findHole_c71 z (X5_findHole_l7 z kx7 n7) kx7 v1 v2 σ) fuel v1 v2 (0 : Int32) σ
noncomputable def X5_findHole_c77 (z : Nat × Nat) (σ : PS) : Option (Int32 × PS) :=
  some ((0 : Int32), σ)
noncomputable def X5_findHole (z : Nat × Nat) (n1 : Nat) (σ : PS) : Option (Int32 × PS) :=
  (X5_fillCells z n1 σ).bind (fun σ1 => X5_findHole_l7 z (fun σ => X5_findHole_c77 z σ) fuel n1 (0 : Int32) σ1)
-- X5_haveDoubt
noncomputable def X5_haveDoubt_l78 (z : Nat × Nat) (kx78 : Int32 → Int32 → Int32 → PS → Option (Int32 × PS)) : Nat → Int32 → Int32 → Int32 → Int32 → PS → Option (Int32 × PS)
  | 0, _, _, _, _, _ => none
  | n78 + 1, v4, v5, v6, v7, σ =>
    if (gI σ 0 1 3) ≤ v7 then kx78 v4 v5 v6 σ else gd (ib v6 204) (gd (ib v7 204) (nm ((gI σ 3 0 (ix v6)) &&& (gI σ 3 1 (ix v7))) (fun y9 => if (y9 &&& v4) = v4 then if (y9 &&& v5) = 0 then bp (X5_foundAt z v6 v7 σ) (fun r10 σ10 => gd (isB r10) (some (r10, σ10))) else (X5_haveDoubt_l78 z kx78 n78) v4 v5 v6 (v7 + (1 : Int32)) σ else (X5_haveDoubt_l78 z kx78 n78) v4 v5 v6 (v7 + (1 : Int32)) σ)))
noncomputable def X5_haveDoubt_c146 (z : Nat × Nat) (kr63 : Int32 → Int32 → Int32 → PS → Option (Int32 × PS)) (kx63 : PS → Option (Int32 × PS)) (v4 : Int32) (v5 : Int32) (v6 : Int32) (σ : PS) : Option (Int32 × PS) :=
  kr63 v4 v5 (v6 + (1 : Int32)) σ
noncomputable def X5_haveDoubt_l63 (z : Nat × Nat) (kx63 : PS → Option (Int32 × PS)) : Nat → Int32 → Int32 → Int32 → PS → Option (Int32 × PS)
  | 0, _, _, _, _ => none
  | n63 + 1, v4, v5, v6, σ =>
    if (gI σ 0 0 3) ≤ v6 then kx63 σ else X5_haveDoubt_l78 z (fun v4 v5 v6 σ => X5_haveDoubt_c146 z (X5_haveDoubt_l63 z kx63 n63) kx63 v4 v5 v6 σ) fuel v4 v5 v6 (0 : Int32) σ
noncomputable def X5_haveDoubt_c152 (z : Nat × Nat) (σ : PS) : Option (Int32 × PS) :=
  some ((0 : Int32), σ)
noncomputable def X5_haveDoubt (z : Nat × Nat) (n1 : Nat) (x2 : Int32) (x3 : Int32) (σ : PS) : Option (Int32 × PS) :=
  nm (((1 : Int32) <<< (x2 &&& 31)) ||| ((1 : Int32) <<< (x3 &&& 31))) (fun y1 => if ((gI σ 50 n1 8) &&& y1) = y1 then (X1_beatenBy z n1 x2 σ).bind (fun r2 => if (r2 &&& ((1 : Int32) <<< (x3 &&& 31))) = 0 then (X1_beatenBy z n1 x3 σ).bind (fun r3 => if (r3 &&& ((1 : Int32) <<< (x2 &&& 31))) = 0 then (X1_beatersOf z n1 x2 σ).bind (fun r4 => (X1_beatersOf z n1 x3 σ).bind (fun r5 => nm (r4 &&& r5) (fun y6 => X5_haveDoubt_l63 z (fun σ => X5_haveDoubt_c152 z σ) fuel y1 y6 (0 : Int32) σ))) else some ((0 : Int32), σ)) else some ((0 : Int32), σ)) else some ((0 : Int32), σ))
-- X5_findDoubt
noncomputable def X5_findDoubt_l25 (z : Nat × Nat) (kx25 : Nat → Int32 → Int32 → Int32 → PS → Option (Int32 × PS)) : Nat → Nat → Int32 → Int32 → Int32 → Int32 → PS → Option (Int32 × PS)
  | 0, _, _, _, _, _, _ => none
  | n25 + 1, v1, v2, v3, v4, v5, σ =>
    if (gI σ 50 v1 7) ≤ v5 then kx25 v1 v2 v3 v4 σ else bp (X5_haveDoubt z v1 v4 v5 σ) (fun r3 σ3 => if r3 = 0 then (X5_findDoubt_l25 z kx25 n25) v1 v2 v3 v4 (v5 + (1 : Int32)) σ3 else if v3 = v2 then nm (sI σ3 250 0 4 v4) (fun σ4 => nm (sI σ4 250 0 5 v5) (fun σ5 => some ((1 : Int32), σ5))) else (X5_findDoubt_l25 z kx25 n25) v1 v2 (v3 + (1 : Int32)) v4 (v5 + (1 : Int32)) σ3)
noncomputable def X5_findDoubt_c74 (z : Nat × Nat) (kr10 : Nat → Int32 → Int32 → Int32 → PS → Option (Int32 × PS)) (kx10 : PS → Option (Int32 × PS)) (v1 : Nat) (v2 : Int32) (v3 : Int32) (v4 : Int32) (σ : PS) : Option (Int32 × PS) :=
  kr10 v1 v2 v3 (v4 + (1 : Int32)) σ
noncomputable def X5_findDoubt_l10 (z : Nat × Nat) (kx10 : PS → Option (Int32 × PS)) : Nat → Nat → Int32 → Int32 → Int32 → PS → Option (Int32 × PS)
  | 0, _, _, _, _, _ => none
  | n10 + 1, v1, v2, v3, v4, σ =>
    if (gI σ 50 v1 7) ≤ v4 then kx10 σ else nm (v4 + (1 : Int32)) (fun y2 => X5_findDoubt_l25 z (fun v1 v2 v3 v4 σ => X5_findDoubt_c74 z (X5_findDoubt_l10 z kx10 n10) kx10 v1 v2 v3 v4 σ) fuel v1 v2 v3 v4 y2 σ)
noncomputable def X5_findDoubt_c80 (z : Nat × Nat) (σ : PS) : Option (Int32 × PS) :=
  some ((0 : Int32), σ)
noncomputable def X5_findDoubt (z : Nat × Nat) (n1 : Nat) (x2 : Int32) (σ : PS) : Option (Int32 × PS) :=
  (X5_fillCells z n1 σ).bind (fun σ1 => X5_findDoubt_l10 z (fun σ => X5_findDoubt_c80 z σ) fuel n1 x2 (0 : Int32) (0 : Int32) σ1)
-- X5_partOfTuple
noncomputable def X5_partOfTuple (z : Nat × Nat) (x1 : Int32) (σ : PS) : Option (Int32) :=
  if x1 = (0 : Int32) then gd (ib (gI σ 250 0 2) 204) (some (gI σ 1 0 (ix (gI σ 250 0 2)))) else if x1 = (1 : Int32) then gd (ib (gI σ 250 0 3) 204) (some (gI σ 1 1 (ix (gI σ 250 0 3)))) else if x1 = (2 : Int32) then gd (ib (gI σ 250 0 2) 204) (some (gI σ 2 0 (ix (gI σ 250 0 2)))) else gd (ib (gI σ 250 0 3) 204) (some (gI σ 2 1 (ix (gI σ 250 0 3))))
-- X6_weightTogether
noncomputable def X6_weightTogether_l4 (z : Nat × Nat)  (σ : PS) (kx4 : Int64 → Option (Int64)) : Nat → Int64 → Int32 → Option (Int64)
  | 0, _, _ => none
  | n4 + 1, v1, v3 =>
    if (gI σ 300 0 2) ≤ v3 then kx4 v1 else gd (ib v3 2) (nm (v1 + (gI σ 302 0 (ix v3)).toInt64) (fun y2 => (X6_weightTogether_l4 z  σ kx4 n4) y2 (v3 + (1 : Int32))))
noncomputable def X6_weightTogether_c28 (z : Nat × Nat)  (σ : PS) (v1 : Int64) : Option (Int64) :=
  some v1
noncomputable def X6_weightTogether (z : Nat × Nat) (σ : PS) : Option (Int64) :=
  X6_weightTogether_l4 z  σ (fun v1 => X6_weightTogether_c28 z  σ v1) fuel (0 : Int64) (0 : Int32)
-- X6_turnRound
noncomputable def X6_turnRound (z : Nat × Nat) (σ : PS) : Option (PS) :=
  if (2 : Int32) ≤ (gI σ 300 0 2) then gd (ib (0 : Int32) 2) (nm (gI σ 301 0 (ix (0 : Int32))) (fun y2 => gd (ib (1 : Int32) 2) (gd (ib (0 : Int32) 2) (nm (sI σ 301 0 (ix (0 : Int32)) (gI σ 301 0 (ix (1 : Int32)))) (fun σ5 => gd (ib (1 : Int32) 2) (nm (sI σ5 301 0 (ix (1 : Int32)) y2) (fun σ7 => gd (ib (0 : Int32) 2) (nm (gI σ7 302 0 (ix (0 : Int32))) (fun y9 => gd (ib (1 : Int32) 2) (gd (ib (0 : Int32) 2) (nm (sI σ7 302 0 (ix (0 : Int32)) (gI σ7 302 0 (ix (1 : Int32)))) (fun σ12 => gd (ib (1 : Int32) 2) (nm (sI σ12 302 0 (ix (1 : Int32)) y9) (fun σ14 => some σ14)))))))))))))) else some σ
-- X7_holds
noncomputable def X7_holds (z : Nat × Nat) (x1 : Int32) (σ : PS) : Option (Int32) :=
  if x1 < 0 then some (0 : Int32) else if (gI σ 350 0 2) ≤ x1 then some (0 : Int32) else some (1 : Int32)
-- X7_bring
noncomputable def X7_bring (z : Nat × Nat) (x1 : Int32) (x2 : Int32) (σ : PS) : Option (Int32 × PS) :=
  if (gI σ 350 0 2) < (300 : Int32) then gd (ib (gI σ 350 0 2) 300) (nm (sI σ 351 0 (ix (gI σ 350 0 2)) x1) (fun σ2 => gd (ib (gI σ2 350 0 2) 300) (nm (sI σ2 352 0 (ix (gI σ2 350 0 2)) x2) (fun σ4 => nm (sI σ4 350 0 2 ((gI σ4 350 0 2) + (1 : Int32))) (fun σ5 => some (((gI σ5 350 0 2) - (1 : Int32)), σ5)))))) else some ((-1 : Int32), σ)
-- X8_addTrait
noncomputable def X8_addTrait (z : Nat × Nat) (x1 : Int32) (x2 : Int32) (σ : PS) : Option (Int32 × PS) :=
  nm ((1 : Int32) <<< (x2 &&& 31)) (fun y1 => gd (ib x1 16) (if ((gI σ 402 0 (ix x1)) &&& y1) = 0 then gd (ib x1 16) (gd (ib x1 16) (nm (sI σ 402 0 (ix x1) ((gI σ 402 0 (ix x1)) ||| y1)) (fun σ5 => some ((1 : Int32), σ5)))) else some ((0 : Int32), σ)))
-- X8_findReach
noncomputable def X8_findReach_l2 (z : Nat × Nat) (kx2 : PS → Option (PS)) : Nat → Int32 → PS → Option (PS)
  | 0, _, _ => none
  | n2 + 1, v1, σ =>
    if (16 : Int32) ≤ v1 then kx2 σ else gd (ib v1 16) (gd (ib v1 16) (nm (sI σ 403 0 (ix v1) (gI σ 402 0 (ix v1))) (fun σ3 => if (12 : Int32) ≤ v1 then (X8_findReach_l2 z kx2 n2) (v1 + (1 : Int32)) σ3 else gd (ib v1 12) (if (gI σ3 401 0 (ix v1)) = (-1 : Int32) then (X8_findReach_l2 z kx2 n2) (v1 + (1 : Int32)) σ3 else gd (ib v1 16) (gd (ib v1 12) (gd (ib v1 16) (nm (sI σ3 403 0 (ix v1) ((gI σ3 403 0 (ix v1)) ||| ((1 : Int32) <<< ((gI σ3 401 0 (ix v1)) &&& 31)))) (fun σ8 => (X8_findReach_l2 z kx2 n2) (v1 + (1 : Int32)) σ8))))))))
noncomputable def X8_findReach_l69 (z : Nat × Nat) (kx69 : Int32 → PS → Option (PS)) : Nat → Int32 → Int32 → PS → Option (PS)
  | 0, _, _, _ => none
  | n69 + 1, v1, v2, σ =>
    if (16 : Int32) ≤ v2 then kx69 v1 σ else gd (ib v2 16) (if ((gI σ 403 0 (ix v2)) &&& ((1 : Int32) <<< (v1 &&& 31))) = 0 then (X8_findReach_l69 z kx69 n69) v1 (v2 + (1 : Int32)) σ else gd (ib v2 16) (gd (ib v1 16) (gd (ib v2 16) (nm (sI σ 403 0 (ix v2) ((gI σ 403 0 (ix v2)) ||| (gI σ 403 0 (ix v1)))) (fun σ13 => (X8_findReach_l69 z kx69 n69) v1 (v2 + (1 : Int32)) σ13)))))
noncomputable def X8_findReach_c109 (z : Nat × Nat) (kr61 : Int32 → PS → Option (PS)) (kx61 : PS → Option (PS)) (v1 : Int32) (σ : PS) : Option (PS) :=
  kr61 (v1 + (1 : Int32)) σ
noncomputable def X8_findReach_l61 (z : Nat × Nat) (kx61 : PS → Option (PS)) : Nat → Int32 → PS → Option (PS)
  | 0, _, _ => none
  | n61 + 1, v1, σ =>
    if (16 : Int32) ≤ v1 then kx61 σ else X8_findReach_l69 z (fun v1 σ => X8_findReach_c109 z (X8_findReach_l61 z kx61 n61) kx61 v1 σ) fuel v1 (0 : Int32) σ
noncomputable def X8_findReach_c115 (z : Nat × Nat) (σ : PS) : Option (PS) :=
  some σ
noncomputable def X8_findReach_c59 (z : Nat × Nat) (σ : PS) : Option (PS) :=
  X8_findReach_l61 z (fun σ => X8_findReach_c115 z σ) fuel (0 : Int32) σ
noncomputable def X8_findReach (z : Nat × Nat) (σ : PS) : Option (PS) :=
  X8_findReach_l2 z (fun σ => X8_findReach_c59 z σ) fuel (0 : Int32) σ
-- X8_goesRound
noncomputable def X8_goesRound_l2 (z : Nat × Nat)  (σ : PS) (kx2 : Option (Int32)) : Nat → Int32 → Option (Int32)
  | 0, _ => none
  | n2 + 1, v1 =>
    if (16 : Int32) ≤ v1 then kx2 else gd (ib v1 16) (if ((gI σ 403 0 (ix v1)) &&& ((1 : Int32) <<< (v1 &&& 31))) = 0 then (X8_goesRound_l2 z  σ kx2 n2) (v1 + (1 : Int32)) else some (1 : Int32))
noncomputable def X8_goesRound_c29 (z : Nat × Nat)  (σ : PS)  : Option (Int32) :=
  some (0 : Int32)
noncomputable def X8_goesRound (z : Nat × Nat) (σ : PS) : Option (Int32) :=
  X8_goesRound_l2 z  σ (X8_goesRound_c29 z  σ ) fuel (0 : Int32)
-- X9_isClass
noncomputable def X9_isClass (z : Nat × Nat) (x0 : Int32) (σ : PS) : Option (Int32) :=
  if x0 < 0 then some (0 : Int32) else if (12 : Int32) ≤ x0 then some (0 : Int32) else some (1 : Int32)
-- X9_parent
noncomputable def X9_parent (z : Nat × Nat) (x1 : Int32) (x2 : Int32) (σ : PS) : Option (Int32 × PS) :=
  (X9_isClass z x1 σ).bind (fun r1 => if r1 = 0 then some ((-2 : Int32), σ) else if x2 = (-1 : Int32) then if (gI σ 400 0 4) = 0 then gd (ib x1 12) (nm (sI σ 401 0 (ix x1) x2) (fun σ3 => some ((1 : Int32), σ3))) else some ((-3 : Int32), σ) else (X9_isClass z x2 σ).bind (fun r4 => if r4 = 0 then some ((-2 : Int32), σ) else if (gI σ 400 0 4) = 0 then gd (ib x1 12) (nm (sI σ 401 0 (ix x1) x2) (fun σ6 => some ((1 : Int32), σ6))) else some ((-3 : Int32), σ)))
-- X9_isTrait
noncomputable def X9_isTrait (z : Nat × Nat) (x0 : Int32) (σ : PS) : Option (Int32) :=
  if x0 < (12 : Int32) then some (0 : Int32) else if (16 : Int32) ≤ x0 then some (0 : Int32) else some (1 : Int32)
-- X9_trait
noncomputable def X9_trait (z : Nat × Nat) (x1 : Int32) (x2 : Int32) (σ : PS) : Option (Int32 × PS) :=
  (X9_isTrait z x1 σ).bind (fun r1 => if r1 = 0 then some ((-2 : Int32), σ) else (X9_isTrait z x2 σ).bind (fun r2 => if r2 = 0 then some ((-2 : Int32), σ) else if (gI σ 400 0 4) = 0 then bp (X8_addTrait z x1 x2 σ) (fun r3 σ3 => some (r3, σ3)) else some ((-3 : Int32), σ)))
-- X9_has
noncomputable def X9_has (z : Nat × Nat) (x1 : Int32) (x2 : Int32) (σ : PS) : Option (Int32 × PS) :=
  (X9_isClass z x1 σ).bind (fun r1 => if r1 = 0 then some ((-2 : Int32), σ) else (X9_isTrait z x2 σ).bind (fun r2 => if r2 = 0 then some ((-2 : Int32), σ) else if (gI σ 400 0 4) = 0 then bp (X8_addTrait z x1 x2 σ) (fun r3 σ3 => some (r3, σ3)) else some ((-3 : Int32), σ)))
-- X9_flag
noncomputable def X9_flag (z : Nat × Nat) (x1 : Int32) (σ : PS) : Option (Int32 × PS) :=
  (X9_isClass z x1 σ).bind (fun r1 => if r1 = 0 then some ((-2 : Int32), σ) else if (gI σ 400 0 4) = 0 then (X8_isAbstract z x1 σ).bind (fun r2 => if r2 = 0 then nm (sI σ 400 0 3 ((gI σ 400 0 3) ||| ((1 : Int32) <<< (x1 &&& 31)))) (fun σ3 => some ((1 : Int32), σ3)) else some ((0 : Int32), σ)) else some ((-3 : Int32), σ))
-- X9_close
noncomputable def X9_close (z : Nat × Nat) (σ : PS) : Option (Int32 × PS) :=
  if (gI σ 400 0 4) = 0 then (X8_findReach z σ).bind (fun σ1 => (X8_goesRound z σ1).bind (fun r2 => if r2 = 0 then nm (sI σ1 400 0 4 (1 : Int32)) (fun σ3 => some ((1 : Int32), σ3)) else some ((-5 : Int32), σ1))) else some ((-3 : Int32), σ)
-- X9_isCode
noncomputable def X9_isCode (z : Nat × Nat) (x0 : Int32) (σ : PS) : Option (Int32) :=
  if x0 < 0 then some (0 : Int32) else if (16 : Int32) ≤ x0 then some (0 : Int32) else some (1 : Int32)
-- X9_below
noncomputable def X9_below (z : Nat × Nat) (x1 : Int32) (x2 : Int32) (σ : PS) : Option (Int32) :=
  if (gI σ 400 0 4) = 0 then some (0 : Int32) else (X9_isCode z x1 σ).bind (fun r1 => if r1 = 0 then some (0 : Int32) else (X9_isCode z x2 σ).bind (fun r2 => if r2 = 0 then some (0 : Int32) else (X8_isBelow z x1 x2 σ).bind (fun r3 => if r3 = 0 then some (0 : Int32) else some (1 : Int32))))
-- X9_sample
noncomputable def X9_sample (z : Nat × Nat) (x1 : Int32) (x2 : Int32) (σ : PS) : Option (Int32 × PS) :=
  (X9_isClass z x1 σ).bind (fun r1 => if r1 = 0 then some ((-2 : Int32), σ) else if (gI σ 400 0 4) = 0 then some ((-3 : Int32), σ) else (X8_isAbstract z x1 σ).bind (fun r2 => if r2 = 0 then bp (X7_bring z x1 x2 σ) (fun r3 σ3 => if r3 = (-1 : Int32) then some ((-4 : Int32), σ3) else some (r3, σ3)) else some ((-6 : Int32), σ)))
-- X9_of
noncomputable def X9_of (z : Nat × Nat) (x1 : Int32) (x2 : Int32) (σ : PS) : Option (Int32) :=
  (X7_holds z x1 σ).bind (fun r1 => if r1 = 0 then some (-1 : Int32) else if x2 = (0 : Int32) then gd (ib x1 300) (some (gI σ 351 0 (ix x1))) else if x2 = (1 : Int32) then gd (ib x1 300) (some (gI σ 352 0 (ix x1))) else some (-1 : Int32))
-- X9_samples
noncomputable def X9_samples (z : Nat × Nat) (σ : PS) : Option (Int32) :=
  some (gI σ 350 0 2)
-- X9_handlerAt
noncomputable def X9_handlerAt (z : Nat × Nat) (x1 : Int32) (σ : PS) : Option (Option Nat) :=
  if x1 < 0 then some none else if (gI σ 450 0 10) ≤ x1 then some none else gd (ib x1 40) (nm (gR σ 454 0 (ix x1)) (fun o2 => some o2))
-- X9_place
noncomputable def X9_place (z : Nat × Nat) (x1 : Int32) (x2 : Int32) (x3 : Int32) (σ : PS) : Option (Int32 × PS) :=
  (X9_handlerAt z x1 σ).bind (fun r1 => oc r1 z.2 (some ((-2 : Int32), σ)) (fun q2 => dr (gR σ 100 q2 0) z.1 (fun q3 => (X1_hasPlace z q3 x2 σ).bind (fun r4 => if r4 = 0 then some ((-2 : Int32), σ) else if x3 = (-1 : Int32) then if (gI σ 100 q2 8) = 0 then gd (ib x2 (gN σ 106 q2)) (nm (sI σ 106 q2 (ix x2) x3) (fun σ6 => some ((1 : Int32), σ6))) else some ((-3 : Int32), σ) else (X9_isCode z x3 σ).bind (fun r7 => if r7 = 0 then some ((-2 : Int32), σ) else if (gI σ 100 q2 8) = 0 then gd (ib x2 (gN σ 106 q2)) (nm (sI σ 106 q2 (ix x2) x3) (fun σ9 => some ((1 : Int32), σ9))) else some ((-3 : Int32), σ))))))
-- X9_test
noncomputable def X9_test (z : Nat × Nat) (x1 : Int32) (x2 : Int32) (x3 : Int32) (x4 : Int32) (σ : PS) : Option (Int32 × PS) :=
  (X9_handlerAt z x1 σ).bind (fun r1 => oc r1 z.2 (some ((-2 : Int32), σ)) (fun q2 => dr (gR σ 100 q2 0) z.1 (fun q3 => (X1_hasPlace z q3 x2 σ).bind (fun r4 => if r4 = 0 then some ((-2 : Int32), σ) else if x3 ≤ x4 then if (gI σ 100 q2 8) = 0 then gd (ib x2 (gN σ 107 q2)) (nm (sI σ 107 q2 (ix x2) x3) (fun σ6 => gd (ib x2 (gN σ6 108 q2)) (nm (sI σ6 108 q2 (ix x2) x4) (fun σ8 => some ((1 : Int32), σ8))))) else some ((-3 : Int32), σ) else some ((-2 : Int32), σ)))))
-- X9_lay
noncomputable def X9_lay (z : Nat × Nat) (x1 : Int32) (σ : PS) : Option (Int32 × PS) :=
  (X9_handlerAt z x1 σ).bind (fun r1 => oc r1 z.2 (some ((-2 : Int32), σ)) (fun q2 => dr (gR σ 100 q2 0) z.1 (fun q3 => if (gI σ 100 q2 8) = 0 then if (gI σ 50 q3 9) = 0 then (X1_hasLaidSame z q3 q2 σ).bind (fun r4 => if r4 = 0 then bp (X1_putLaid z q3 q2 σ) (fun r5 σ5 => if r5 = 0 then some ((-4 : Int32), σ5) else nm (sI σ5 100 q2 8 (1 : Int32)) (fun σ6 => some ((1 : Int32), σ6))) else some ((-5 : Int32), σ)) else some ((-3 : Int32), σ) else some ((-3 : Int32), σ))))
-- X9_lift
noncomputable def X9_lift (z : Nat × Nat) (x1 : Int32) (σ : PS) : Option (Int32 × PS) :=
  (X9_handlerAt z x1 σ).bind (fun r1 => oc r1 z.2 (some ((-2 : Int32), σ)) (fun q2 => if (gI σ 100 q2 8) = (1 : Int32) then dr (gR σ 100 q2 0) z.1 (fun q3 => if (gI σ 50 q3 9) = 0 then nm (sI σ 100 q2 8 (2 : Int32)) (fun σ4 => dr (gR σ4 100 q2 0) z.1 (fun q5 => (X1_dropLaid z q5 q2 σ4).bind (fun σ6 => some ((1 : Int32), σ6)))) else some ((-3 : Int32), σ)) else some ((-3 : Int32), σ)))
-- X9_functionAt
noncomputable def X9_functionAt (z : Nat × Nat) (x1 : Int32) (σ : PS) : Option (Option Nat) :=
  if x1 < 0 then some none else if (gI σ 450 0 9) ≤ x1 then some none else gd (ib x1 4) (nm (gR σ 453 0 (ix x1)) (fun o2 => some o2))
-- X9_freeze
noncomputable def X9_freeze (z : Nat × Nat) (x1 : Int32) (x2 : Int32) (σ : PS) : Option (Int32 × PS) :=
  (X9_functionAt z x1 σ).bind (fun r1 => oc r1 z.1 (some ((-2 : Int32), σ)) (fun q2 => if (gI σ 50 q2 9) = x2 then some ((0 : Int32), σ) else gd (isB x2) (nm (sI σ 50 q2 9 x2) (fun σ4 => some ((1 : Int32), σ4)))))
-- X9_elementOrZero
noncomputable def X9_elementOrZero (z : Nat × Nat) (ka0 na0 : Nat) (x1 : Int32) (σ : PS) : Option (Int32) :=
  if x1 < 0 then some (0 : Int32) else if (nI (al σ ka0 na0)) ≤ x1 then some (0 : Int32) else gd (ib x1 (al σ ka0 na0)) (some (gI σ ka0 na0 (ix x1)))
-- X9_about
noncomputable def X9_about (z : Nat × Nat) (x1 : Int32) (x2 : Int32) (σ : PS) : Option (Int32) :=
  (X9_handlerAt z x1 σ).bind (fun r1 => oc r1 z.2 (some (-2 : Int32)) (fun q2 => if x2 = (0 : Int32) then dr (gR σ 100 q2 0) z.1 (fun q3 => some (gI σ 50 q3 1)) else if x2 = (1 : Int32) then some (gI σ 100 q2 2) else if x2 = (2 : Int32) then some (gI σ 100 q2 3) else if x2 = (3 : Int32) then if (gI σ 100 q2 4) = 0 then some (0 : Int32) else some (1 : Int32) else if x2 = (4 : Int32) then some (gI σ 100 q2 8) else if x2 = (5 : Int32) then (X9_elementOrZero z 106 q2 (x2 - (5 : Int32)) σ).bind (fun r4 => some r4) else if x2 = (6 : Int32) then (X9_elementOrZero z 106 q2 (x2 - (5 : Int32)) σ).bind (fun r5 => some r5) else if x2 = (7 : Int32) then (X9_elementOrZero z 107 q2 (x2 - (7 : Int32)) σ).bind (fun r6 => some r6) else if x2 = (8 : Int32) then (X9_elementOrZero z 107 q2 (x2 - (7 : Int32)) σ).bind (fun r7 => some r7) else if x2 = (9 : Int32) then (X9_elementOrZero z 108 q2 (x2 - (9 : Int32)) σ).bind (fun r8 => some r8) else if x2 = (10 : Int32) then (X9_elementOrZero z 108 q2 (x2 - (9 : Int32)) σ).bind (fun r9 => some r9) else some (-2 : Int32)))
-- X9_dominates
noncomputable def X9_dominates (z : Nat × Nat) (x1 : Int32) (x2 : Int32) (σ : PS) : Option (Int32) :=
  (X9_handlerAt z x1 σ).bind (fun r1 => (X9_handlerAt z x2 σ).bind (fun r2 => oc r1 z.2 (some (0 : Int32)) (fun q3 => oc r2 z.2 (some (0 : Int32)) (fun q4 => dr (gR σ 100 q3 0) z.1 (fun q5 => dr (gR σ 100 q4 0) z.1 (fun q6 => if (gI σ 50 q5 1) = (gI σ 50 q6 1) then (X2_isMoreSpecific z q3 q4 σ).bind (fun r7 => if r7 = 0 then some (0 : Int32) else some (1 : Int32)) else some (0 : Int32)))))))
-- X9_order
noncomputable def X9_order (z : Nat × Nat) (x1 : Int32) (x2 : Int32) (σ : PS) : Option (Int32) :=
  (X9_functionAt z x1 σ).bind (fun r1 => oc r1 z.1 (some (-1 : Int32)) (fun q2 => if x2 < 0 then some (-1 : Int32) else if x2 < (gI σ 50 q2 7) then gd (ib x2 8) ((X1_numberAt z q2 (gI σ 55 q2 (ix x2)) σ).bind (fun r4 => some r4)) else some (-1 : Int32)))
-- X9_arg
noncomputable def X9_arg (z : Nat × Nat) (x1 : Int32) (x2 : Int32) (σ : PS) : Option (Int32 × PS) :=
  if x1 < 0 then some ((-2 : Int32), σ) else if (2 : Int32) ≤ x1 then some ((-2 : Int32), σ) else (X7_holds z x2 σ).bind (fun r1 => if r1 = 0 then some ((-2 : Int32), σ) else gd (ib x1 2) (nm (sI σ 455 0 (ix x1) x2) (fun σ3 => some ((1 : Int32), σ3))))
-- X9_readToldRow
noncomputable def X9_readToldRow_l2 (z : Nat × Nat) (kx2 : Nat → PS → Option (Int32 × PS)) : Nat → Nat → Int32 → PS → Option (Int32 × PS)
  | 0, _, _, _ => none
  | n2 + 1, v1, v2, σ =>
    if (gI σ 50 v1 2) ≤ v2 then kx2 v1 σ else gd (ib v2 2) (nm (gI σ 455 0 (ix v2)) (fun y2 => (X7_holds z y2 σ).bind (fun r3 => if r3 = 0 then some ((0 : Int32), σ) else gd (ib y2 300) (gd (ib v2 2) (nm (sI σ 301 0 (ix v2) (gI σ 351 0 (ix y2))) (fun σ6 => gd (ib y2 300) (gd (ib v2 2) (nm (sI σ6 302 0 (ix v2) (gI σ6 352 0 (ix y2))) (fun σ9 => (X9_readToldRow_l2 z kx2 n2) v1 (v2 + (1 : Int32)) σ9)))))))))
noncomputable def X9_readToldRow_c72 (z : Nat × Nat) (v1 : Nat) (σ : PS) : Option (Int32 × PS) :=
  nm (sI σ 300 0 2 (gI σ 50 v1 2)) (fun σ10 => some ((1 : Int32), σ10))
noncomputable def X9_readToldRow (z : Nat × Nat) (n1 : Nat) (σ : PS) : Option (Int32 × PS) :=
  X9_readToldRow_l2 z (fun v1 σ => X9_readToldRow_c72 z v1 σ) fuel n1 (0 : Int32) σ
-- X9_isBarred
noncomputable def X9_isBarred_l21 (z : Nat × Nat) (kx21 : PS → Option (Int32 × PS)) : Nat → Nat → Int64 → Int32 → Int32 → PS → Option (Int32 × PS)
  | 0, _, _, _, _, _ => none
  | n21 + 1, v1, v2, v4, v5, σ =>
    if (gI σ 50 v1 7) ≤ v5 then kx21 σ else gd (ib v5 8) ((X1_laidAt z v1 (gI σ 55 v1 (ix v5)) σ).bind (fun r4 => oc r4 z.2 ((X9_isBarred_l21 z kx21 n21) v1 v2 v4 (v5 + (1 : Int32)) σ) (fun q5 => if (gI σ 100 q5 4) = 0 then (X9_isBarred_l21 z kx21 n21) v1 v2 v4 (v5 + (1 : Int32)) σ else gd (ib v5 8) (if (v4 &&& ((1 : Int32) <<< ((gI σ 55 v1 (ix v5)) &&& 31))) = 0 then (X9_isBarred_l21 z kx21 n21) v1 v2 v4 (v5 + (1 : Int32)) σ else (X3_addStep z (gI σ 100 q5 1) σ).bind (fun σ7 => if 0 ≤ (lg_cmp v2 (gI σ7 100 q5 3).toInt64) then (X9_isBarred_l21 z kx21 n21) v1 v2 v4 (v5 + (1 : Int32)) σ7 else some ((1 : Int32), σ7))))))
noncomputable def X9_isBarred_c102 (z : Nat × Nat) (σ : PS) : Option (Int32 × PS) :=
  some ((0 : Int32), σ)
noncomputable def X9_isBarred (z : Nat × Nat) (n1 : Nat) (σ : PS) : Option (Int32 × PS) :=
  (X6_weightTogether z σ).bind (fun r1 => (X1_takersOf z n1 σ).bind (fun r2 => X9_isBarred_l21 z (fun σ => X9_isBarred_c102 z σ) fuel n1 r1 r2 (0 : Int32) σ))
-- J9_floorMod_7cf53
noncomputable def J9_floorMod_7cf53 (z : Nat × Nat) (x0 : Int32) (x1 : Int32) (σ : PS) : Option (Int32) :=
  gd (decide (¬ x1 = 0)) (nm (x0 - x0 / x1 * x1) (fun y2 => if 0 ≤ (x0 ^^^ x1) then some y2 else if y2 = 0 then some y2 else some (y2 + x1)))
-- X9_countUp
noncomputable def X9_countUp (z : Nat × Nat) (x1 : Int32) (σ : PS) : Option (Int32 × PS) :=
  gd (ib x1 8) (gd (ib x1 8) (nm (sI σ 456 0 (ix x1) ((gI σ 456 0 (ix x1)) + (1 : Int32))) (fun σ3 => gd (ib x1 8) (some ((gI σ3 456 0 (ix x1)), σ3)))))
-- X9_bringSample
noncomputable def X9_bringSample (z : Nat × Nat) (x1 : Int32) (σ : PS) : Option (PS) :=
  gd (ib (0 : Int32) 2) (gd (ib (0 : Int32) 2) (bp (X7_bring z (gI σ 301 0 (ix (0 : Int32))) ((gI σ 302 0 (ix (0 : Int32))) + x1) σ) (fun r3 σ3 => if r3 = (-1 : Int32) then (X3_endWithFailure z (-1 : Int32) σ3).bind (fun σ5 => some σ5) else (X3_endWithValue z r3.toInt64 σ3).bind (fun σ4 => some σ4))))
-- X9_calledWithin
noncomputable def X9_calledWithin (z : Nat × Nat) (n1 : Nat) (σ : PS) : Option (Option Nat × PS) :=
  (J9_floorMod_7cf53 z (gI σ 100 n1 3) (4 : Int32) σ).bind (fun r1 => (X9_functionAt z r1 σ).bind (fun r2 => oc r2 z.1 ((X3_endWithFailure z (-2 : Int32) σ).bind (fun σ4 => some (none, σ4))) (fun q3 => if (gI σ 50 q3 2) = (gI σ 300 0 2) then nm (sL σ 150 0 5 ((gL σ 150 0 5) + (1 : Int64))) (fun σ5 => some ((some q3), σ5)) else (X3_endWithFailure z (-2 : Int32) σ).bind (fun σ6 => some (none, σ6)))))
-- X9_act
noncomputable def X9_act (z : Nat × Nat) (n1 : Nat) (σ : PS) : Option (Option Nat × PS) :=
  if (gI σ 100 n1 2) = (0 : Int32) then (X3_endWithValue z (gI σ 100 n1 3).toInt64 σ).bind (fun σ1 => some (none, σ1)) else if (gI σ 100 n1 2) = (1 : Int32) then (X6_weightTogether z σ).bind (fun r2 => (X3_endWithValue z (r2 + (gI σ 100 n1 3).toInt64) σ).bind (fun σ3 => some (none, σ3))) else if (gI σ 100 n1 2) = (2 : Int32) then (X6_turnRound z σ).bind (fun σ4 => bp (X9_calledWithin z n1 σ4) (fun r5 σ5 => some (r5, σ5))) else if (gI σ 100 n1 2) = (3 : Int32) then (X3_endWithFailure z (gI σ 100 n1 3) σ).bind (fun σ6 => some (none, σ6)) else if (gI σ 100 n1 2) = (4 : Int32) then (J9_floorMod_7cf53 z (gI σ 100 n1 3) (8 : Int32) σ).bind (fun r7 => bp (X9_countUp z r7 σ) (fun r8 σ8 => (X3_endWithValue z r8.toInt64 σ8).bind (fun σ9 => some (none, σ9)))) else if (gI σ 100 n1 2) = (5 : Int32) then (X9_bringSample z (gI σ 100 n1 3) σ).bind (fun σ10 => some (none, σ10)) else if (gI σ 100 n1 2) = (6 : Int32) then bp (X9_calledWithin z n1 σ) (fun r11 σ11 => some (r11, σ11)) else (X6_turnRound z σ).bind (fun σ12 => bp (X9_calledWithin z n1 σ12) (fun r13 σ13 => some (r13, σ13)))
-- X9_runChosen
noncomputable def X9_runChosen_l5 (z : Nat × Nat) (kx5 : PS → Option (Option Nat × PS)) : Nat → Nat → Int32 → Int32 → Int32 → PS → Option (Option Nat × PS)
  | 0, _, _, _, _, _ => none
  | n5 + 1, v1, v2, v3, v4, σ =>
    if (8 : Int32) ≤ v4 then kx5 σ else (X1_chosenOf z v1 v3 σ).bind (fun r1 => (X1_laidAt z v1 r1 σ).bind (fun r2 => oc r2 z.2 (nm (sI σ 150 0 3 (2 : Int32)) (fun σ4 => some (none, σ4))) (fun q3 => (X3_addStep z (gI σ 100 q3 1) σ).bind (fun σ5 => if (gI σ5 100 q3 2) = (2 : Int32) then nm (sL σ5 150 0 5 ((gL σ5 150 0 5) + (gI σ5 100 q3 3).toInt64)) (fun σ6 => (X1_beatenBy z v1 r1 σ6).bind (fun r7 => nm (v2 &&& r7) (fun y8 => if y8 = 0 then kx5 σ6 else (X9_runChosen_l5 z kx5 n5) v1 v2 y8 (v4 + (1 : Int32)) σ6))) else bp (X9_act z q3 σ5) (fun r9 σ9 => some (r9, σ9))))))
noncomputable def X9_runChosen_c110 (z : Nat × Nat) (σ : PS) : Option (Option Nat × PS) :=
  nm (sI σ 150 0 3 (0 : Int32)) (fun σ10 => some (none, σ10))
noncomputable def X9_runChosen (z : Nat × Nat) (n1 : Nat) (x2 : Int32) (σ : PS) : Option (Option Nat × PS) :=
  X9_runChosen_l5 z (fun σ => X9_runChosen_c110 z σ) fuel n1 x2 x2 (0 : Int32) σ
-- X9_carryOut
noncomputable def X9_carryOut (z : Nat × Nat) (n1 : Nat) (σ : PS) : Option (Option Nat × PS) :=
  bp (X9_isBarred z n1 σ) (fun r1 σ1 => if r1 = 0 then (X1_lookForRow z n1 σ1).bind (fun σ2 => (X1_plainTakersOf z n1 σ2).bind (fun r3 => if r3 = 0 then nm (sI σ2 150 0 3 (1 : Int32)) (fun σ5 => some (none, σ5)) else bp (X9_runChosen z n1 r3 σ2) (fun r4 σ4 => some (r4, σ4)))) else nm (sI σ1 150 0 3 (5 : Int32)) (fun σ6 => some (none, σ6)))
-- X9_call
noncomputable def X9_call_l36 (z : Nat × Nat) (kx36 : Option Nat → PS → Option (Int32 × PS)) : Nat → Option Nat → Int32 → PS → Option (Int32 × PS)
  | 0, _, _, _ => none
  | n36 + 1, v3, v4, σ =>
    oc v3 z.1 (kx36 none σ) (fun q5 => if (12 : Int32) < v4 then kx36 (some q5) σ else nm (sI σ 150 0 2 v4) (fun σ6 => bp (X9_carryOut z q5 σ6) (fun r7 σ7 => (X9_call_l36 z kx36 n36) r7 (v4 + (1 : Int32)) σ7)))
noncomputable def X9_call_c68 (z : Nat × Nat) (v3 : Option Nat) (σ : PS) : Option (Int32 × PS) :=
  oc v3 z.1 (some ((gI σ 150 0 3), σ)) (fun q8 => nm (sI σ 150 0 3 (4 : Int32)) (fun σ9 => some ((gI σ9 150 0 3), σ9)))
noncomputable def X9_call (z : Nat × Nat) (x1 : Int32) (σ : PS) : Option (Int32 × PS) :=
  (X9_functionAt z x1 σ).bind (fun r1 => oc r1 z.1 (some ((-2 : Int32), σ)) (fun q2 => bp (X9_readToldRow z q2 σ) (fun r3 σ3 => if r3 = 0 then some ((-3 : Int32), σ3) else (X3_begin z σ3).bind (fun σ4 => X9_call_l36 z (fun v3 σ => X9_call_c68 z v3 σ) fuel (some q2) (1 : Int32) σ4))))
-- X9_value
noncomputable def X9_value (z : Nat × Nat) (σ : PS) : Option (Int64) :=
  if (gI σ 150 0 3) = 0 then some (gL σ 150 0 5) else some (0 : Int64)
-- X9_failure
noncomputable def X9_failure (z : Nat × Nat) (σ : PS) : Option (Int32) :=
  if (gI σ 150 0 3) = (3 : Int32) then some (gI σ 150 0 4) else some (0 : Int32)
-- X9_step
noncomputable def X9_step (z : Nat × Nat) (x1 : Int32) (σ : PS) : Option (Int32) :=
  if x1 < 0 then some (-1 : Int32) else if (gI σ 150 0 1) ≤ x1 then some (-1 : Int32) else if x1 < (1000 : Int32) then gd (ib x1 1000) (some (gI σ 151 0 (ix x1))) else some (-1 : Int32)
-- X9_counter
noncomputable def X9_counter (z : Nat × Nat) (x1 : Int32) (σ : PS) : Option (Int32) :=
  if x1 < 0 then some (-1 : Int32) else if x1 < (8 : Int32) then gd (ib x1 8) (some (gI σ 456 0 (ix x1))) else some (-1 : Int32)
-- X9_applicable
noncomputable def X9_applicable (z : Nat × Nat) (x1 : Int32) (x2 : Int32) (σ : PS) : Option (Int32 × PS) :=
  (X9_functionAt z x1 σ).bind (fun r1 => oc r1 z.1 (some ((-1 : Int32), σ)) (fun q2 => bp (X9_readToldRow z q2 σ) (fun r3 σ3 => if r3 = 0 then some ((-1 : Int32), σ3) else (X1_plainTakersOf z q2 σ3).bind (fun r4 => (X9_memberAt z r4 x2 σ3).bind (fun r5 => (X1_numberAt z q2 r5 σ3).bind (fun r6 => some (r6, σ3)))))))
-- X9_most
noncomputable def X9_most (z : Nat × Nat) (x1 : Int32) (σ : PS) : Option (Int32 × PS) :=
  (X9_functionAt z x1 σ).bind (fun r1 => oc r1 z.1 (some ((-1 : Int32), σ)) (fun q2 => bp (X9_readToldRow z q2 σ) (fun r3 σ3 => if r3 = 0 then some ((-1 : Int32), σ3) else (X1_plainTakersOf z q2 σ3).bind (fun r4 => (X1_chosenOf z q2 r4 σ3).bind (fun r5 => (X1_numberAt z q2 r5 σ3).bind (fun r6 => some (r6, σ3)))))))
-- X9_explainAmongTakers
noncomputable def X9_explainAmongTakers (z : Nat × Nat) (n1 : Nat) (σ : PS) : Option (Int32 × PS) :=
  dr (gR σ 100 n1 0) z.1 (fun q1 => (X1_indexOf z q1 n1 σ).bind (fun r2 => (X1_plainTakersOf z q1 σ).bind (fun r3 => (X1_beatersOf z q1 r2 σ).bind (fun r4 => nm (r3 &&& r4) (fun y5 => if y5 = 0 then (X1_beatenBy z q1 r2 σ).bind (fun r6 => nm ((r3 &&& (((1 : Int32) <<< (r2 &&& 31)) ^^^ (-1 : Int32))) &&& (r6 ^^^ (-1 : Int32))) (fun y7 => if y7 = 0 then some ((0 : Int32), σ) else (X9_memberAt z y7 (0 : Int32) σ).bind (fun r8 => (X1_numberAt z q1 r8 σ).bind (fun r9 => nm (sI σ 450 0 11 r9) (fun σ10 => some ((5 : Int32), σ10)))))) else (X9_memberAt z y5 (0 : Int32) σ).bind (fun r11 => (X1_numberAt z q1 r11 σ).bind (fun r12 => nm (sI σ 450 0 11 r12) (fun σ13 => some ((4 : Int32), σ13)))))))))
-- X9_explain
noncomputable def X9_explain (z : Nat × Nat) (x1 : Int32) (σ : PS) : Option (Int32 × PS) :=
  (X9_handlerAt z x1 σ).bind (fun r1 => oc r1 z.2 (some ((-2 : Int32), σ)) (fun q2 => dr (gR σ 100 q2 0) z.1 (fun q3 => bp (X9_readToldRow z q3 σ) (fun r4 σ4 => if r4 = 0 then some ((-3 : Int32), σ4) else nm (sI σ4 450 0 11 (-1 : Int32)) (fun σ5 => if (gI σ5 100 q2 8) = (1 : Int32) then if (gI σ5 100 q2 4) = 0 then (X2_firstRefusingPlace z q2 σ5).bind (fun r6 => if r6 = (-1 : Int32) then bp (X9_explainAmongTakers z q2 σ5) (fun r7 σ7 => some (r7, σ7)) else nm (sI σ5 450 0 11 r6) (fun σ8 => some ((3 : Int32), σ8))) else some ((2 : Int32), σ5) else some ((1 : Int32), σ5))))))
-- X9_where
noncomputable def X9_where (z : Nat × Nat) (σ : PS) : Option (Int32) :=
  some (gI σ 450 0 11)
-- X9_countOfAll
noncomputable def X9_countOfAll (z : Nat × Nat) (x1 : Int32) (σ : PS) : Option (Int32) :=
  if x1 = (0 : Int32) then some (gI σ 450 0 9) else if x1 = (1 : Int32) then some (gI σ 450 0 10) else if x1 = (2 : Int32) then if (gI σ 400 0 4) = 0 then some (0 : Int32) else some (1 : Int32) else if x1 = (3 : Int32) then some (gI σ 150 0 1) else if x1 = (4 : Int32) then some (gI σ 150 0 2) else some (-2 : Int32)
-- X9_count
noncomputable def X9_count (z : Nat × Nat) (x1 : Int32) (x2 : Int32) (σ : PS) : Option (Int32) :=
  if x1 = (-1 : Int32) then (X9_countOfAll z x2 σ).bind (fun r3 => some r3) else (X9_functionAt z x1 σ).bind (fun r1 => oc r1 z.1 (some (-2 : Int32)) (fun q2 => if x2 = (0 : Int32) then some (gI σ 50 q2 2) else if x2 = (1 : Int32) then some (gI σ 50 q2 7) else if x2 = (2 : Int32) then if (gI σ 50 q2 9) = 0 then some (0 : Int32) else some (1 : Int32) else if x2 = (3 : Int32) then some (gI σ 200 q2 6) else if x2 = (4 : Int32) then some (gI σ 200 q2 5) else some (-2 : Int32)))
-- X9_covered
noncomputable def X9_covered (z : Nat × Nat) (x1 : Int32) (σ : PS) : Option (Int32 × PS) :=
  (X9_functionAt z x1 σ).bind (fun r1 => oc r1 z.1 (some ((-2 : Int32), σ)) (fun q2 => bp (X5_findHole z q2 σ) (fun r3 σ3 => if r3 = 0 then some ((1 : Int32), σ3) else some ((0 : Int32), σ3))))
-- X9_hole
noncomputable def X9_hole (z : Nat × Nat) (x1 : Int32) (x2 : Int32) (σ : PS) : Option (Int64 × PS) :=
  (X9_functionAt z x1 σ).bind (fun r1 => oc r1 z.1 (some ((1099511627776 : Int64), σ)) (fun q2 => if x2 < 0 then some ((1099511627776 : Int64), σ) else if (3 : Int32) < x2 then some ((1099511627776 : Int64), σ) else bp (X5_findHole z q2 σ) (fun r3 σ3 => if r3 = 0 then some ((1099511627776 : Int64), σ3) else (X5_partOfTuple z x2 σ3).bind (fun r4 => some (r4.toInt64, σ3)))))
-- X9_doubt
noncomputable def X9_doubt (z : Nat × Nat) (x1 : Int32) (x2 : Int32) (x3 : Int32) (σ : PS) : Option (Int64 × PS) :=
  (X9_functionAt z x1 σ).bind (fun r1 => oc r1 z.1 (some ((1099511627776 : Int64), σ)) (fun q2 => if x2 < 0 then some ((1099511627776 : Int64), σ) else if x3 < 0 then some ((1099511627776 : Int64), σ) else if (5 : Int32) < x3 then some ((1099511627776 : Int64), σ) else bp (X5_findDoubt z q2 x2 σ) (fun r3 σ3 => if r3 = 0 then some ((1099511627776 : Int64), σ3) else if x3 = (0 : Int32) then (X1_numberAt z q2 (gI σ3 250 0 4) σ3).bind (fun r4 => some (r4.toInt64, σ3)) else if x3 = (1 : Int32) then (X1_numberAt z q2 (gI σ3 250 0 5) σ3).bind (fun r5 => some (r5.toInt64, σ3)) else (X5_partOfTuple z (x3 - (2 : Int32)) σ3).bind (fun r6 => some (r6.toInt64, σ3)))))

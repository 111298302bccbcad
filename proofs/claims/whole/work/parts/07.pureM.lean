-- X10_isClass
noncomputable def X10_isClass (x0 : Int32) (σ : PS) : Option (Int32) :=
  if x0 < 0 then some (0 : Int32) else if (12 : Int32) ≤ x0 then some (0 : Int32) else some (1 : Int32)
-- X10_isTrait
noncomputable def X10_isTrait (x0 : Int32) (σ : PS) : Option (Int32) :=
  if x0 < (12 : Int32) then some (0 : Int32) else if (16 : Int32) ≤ x0 then some (0 : Int32) else some (1 : Int32)
-- X10_parent
noncomputable def X10_parent (x1 : Int32) (x2 : Int32) (σ : PS) : Option (Int32 × PS) :=
  (X10_isClass x1 σ).bind (fun r1 => if r1 = 0 then some ((-2 : Int32), σ) else if x2 = (-1 : Int32) then if (gI σ 500 0 4) = 0 then gd (ib x1 12) (nm (sI σ 501 0 (ix x1) x2) (fun σ3 => some ((1 : Int32), σ3))) else some ((-3 : Int32), σ) else (X10_isClass x2 σ).bind (fun r4 => if r4 = 0 then some ((-2 : Int32), σ) else if (gI σ 500 0 4) = 0 then gd (ib x1 12) (nm (sI σ 501 0 (ix x1) x2) (fun σ6 => some ((1 : Int32), σ6))) else some ((-3 : Int32), σ)))
-- X10_add
noncomputable def X10_add (x1 : Int32) (x2 : Int32) (σ : PS) : Option (Int32 × PS) :=
  if (gI σ 500 0 4) = 0 then gd (ib (((16 : Int32) * x1) + x2) 256) (if (gI σ 502 0 (ix (((16 : Int32) * x1) + x2))) = 0 then gd (ib (((16 : Int32) * x1) + x2) 256) (nm (sI σ 502 0 (ix (((16 : Int32) * x1) + x2)) (1 : Int32)) (fun σ3 => some ((1 : Int32), σ3))) else gd (ib (((16 : Int32) * x1) + x2) 256) (nm (sI σ 502 0 (ix (((16 : Int32) * x1) + x2)) (1 : Int32)) (fun σ5 => some ((0 : Int32), σ5)))) else some ((-3 : Int32), σ)
-- X10_trait
noncomputable def X10_trait (x1 : Int32) (x2 : Int32) (σ : PS) : Option (Int32 × PS) :=
  (X10_isTrait x1 σ).bind (fun r1 => if r1 = 0 then some ((-2 : Int32), σ) else (X10_isTrait x2 σ).bind (fun r2 => if r2 = 0 then some ((-2 : Int32), σ) else bp (X10_add x1 x2 σ) (fun r3 σ3 => some (r3, σ3))))
-- X10_has
noncomputable def X10_has (x1 : Int32) (x2 : Int32) (σ : PS) : Option (Int32 × PS) :=
  (X10_isClass x1 σ).bind (fun r1 => if r1 = 0 then some ((-2 : Int32), σ) else (X10_isTrait x2 σ).bind (fun r2 => if r2 = 0 then some ((-2 : Int32), σ) else bp (X10_add x1 x2 σ) (fun r3 σ3 => some (r3, σ3))))
-- X10_flag
noncomputable def X10_flag (x1 : Int32) (σ : PS) : Option (Int32 × PS) :=
  (X10_isClass x1 σ).bind (fun r1 => if r1 = 0 then some ((-2 : Int32), σ) else if (gI σ 500 0 4) = 0 then gd (ib x1 12) (if (gI σ 504 0 (ix x1)) = 0 then gd (ib x1 12) (nm (sI σ 504 0 (ix x1) (1 : Int32)) (fun σ4 => some ((1 : Int32), σ4))) else gd (ib x1 12) (nm (sI σ 504 0 (ix x1) (1 : Int32)) (fun σ6 => some ((0 : Int32), σ6)))) else some ((-3 : Int32), σ))
-- X10_close
noncomputable def X10_close_l12  (kx12 : PS → Option (Int32 × PS)) : Nat → Int32 → PS → Option (Int32 × PS)
  | 0, _, _ => none
  | n12 + 1, v1, σ =>
    if (256 : Int32) ≤ v1 then kx12 σ else gd (ib v1 256) (gd (isB (gI σ 502 0 (ix v1))) (gd (ib v1 256) (nm (sI σ 503 0 (ix v1) (gI σ 502 0 (ix v1))) (fun σ4 => (X10_close_l12  kx12 n12) (v1 + (1 : Int32)) σ4))))
noncomputable def X10_close_l39  (kx39 : PS → Option (Int32 × PS)) : Nat → Int32 → PS → Option (Int32 × PS)
  | 0, _, _ => none
  | n39 + 1, v1, σ =>
    if (12 : Int32) ≤ v1 then kx39 σ else gd (ib v1 12) (if (gI σ 501 0 (ix v1)) < 0 then (X10_close_l39  kx39 n39) (v1 + (1 : Int32)) σ else gd (ib v1 12) (gd (ib (((16 : Int32) * v1) + (gI σ 501 0 (ix v1))) 256) (nm (sI σ 503 0 (ix (((16 : Int32) * v1) + (gI σ 501 0 (ix v1)))) (1 : Int32)) (fun σ8 => (X10_close_l39  kx39 n39) (v1 + (1 : Int32)) σ8))))
noncomputable def X10_close_l95  (kx95 : Int32 → Int32 → PS → Option (Int32 × PS)) : Nat → Int32 → Int32 → Int32 → PS → Option (Int32 × PS)
  | 0, _, _, _, _ => none
  | n95 + 1, v1, v2, v3, σ =>
    if (16 : Int32) ≤ v3 then kx95 v1 v2 σ else gd (ib (((16 : Int32) * v2) + v3) 256) (if (gI σ 503 0 (ix (((16 : Int32) * v2) + v3))) = 0 then gd (ib (((16 : Int32) * v2) + v1) 256) (if (gI σ 503 0 (ix (((16 : Int32) * v2) + v1))) = 0 then gd (ib (((16 : Int32) * v2) + v3) 256) (nm (sI σ 503 0 (ix (((16 : Int32) * v2) + v3)) (0 : Int32)) (fun σ14 => (X10_close_l95  kx95 n95) v1 v2 (v3 + (1 : Int32)) σ14)) else gd (ib (((16 : Int32) * v1) + v3) 256) (if (gI σ 503 0 (ix (((16 : Int32) * v1) + v3))) = 0 then gd (ib (((16 : Int32) * v2) + v3) 256) (nm (sI σ 503 0 (ix (((16 : Int32) * v2) + v3)) (0 : Int32)) (fun σ17 => (X10_close_l95  kx95 n95) v1 v2 (v3 + (1 : Int32)) σ17)) else gd (ib (((16 : Int32) * v2) + v3) 256) (nm (sI σ 503 0 (ix (((16 : Int32) * v2) + v3)) (1 : Int32)) (fun σ19 => (X10_close_l95  kx95 n95) v1 v2 (v3 + (1 : Int32)) σ19)))) else gd (ib (((16 : Int32) * v2) + v3) 256) (nm (sI σ 503 0 (ix (((16 : Int32) * v2) + v3)) (1 : Int32)) (fun σ11 => (X10_close_l95  kx95 n95) v1 v2 (v3 + (1 : Int32)) σ11)))
noncomputable def X10_close_c165  (kr87 : Int32 → Int32 → PS → Option (Int32 × PS)) (kx87 : Int32 → PS → Option (Int32 × PS)) (v1 : Int32) (v2 : Int32) (σ : PS) : Option (Int32 × PS) :=
  kr87 v1 (v2 + (1 : Int32)) σ
noncomputable def X10_close_l87  (kx87 : Int32 → PS → Option (Int32 × PS)) : Nat → Int32 → Int32 → PS → Option (Int32 × PS)
  | 0, _, _, _ => none
  | n87 + 1, v1, v2, σ =>
    if (16 : Int32) ≤ v2 then kx87 v1 σ else X10_close_l95  (fun v1 v2 σ => X10_close_c165  (X10_close_l87  kx87 n87) kx87 v1 v2 σ) fuel v1 v2 (0 : Int32) σ
noncomputable def X10_close_c171  (kr79 : Int32 → PS → Option (Int32 × PS)) (kx79 : PS → Option (Int32 × PS)) (v1 : Int32) (σ : PS) : Option (Int32 × PS) :=
  kr79 (v1 + (1 : Int32)) σ
noncomputable def X10_close_l79  (kx79 : PS → Option (Int32 × PS)) : Nat → Int32 → PS → Option (Int32 × PS)
  | 0, _, _ => none
  | n79 + 1, v1, σ =>
    if (16 : Int32) ≤ v1 then kx79 σ else X10_close_l87  (fun v1 σ => X10_close_c171  (X10_close_l79  kx79 n79) kx79 v1 σ) fuel v1 (0 : Int32) σ
noncomputable def X10_close_l179  (kx179 : PS → Option (Int32 × PS)) : Nat → Int32 → PS → Option (Int32 × PS)
  | 0, _, _ => none
  | n179 + 1, v1, σ =>
    if (16 : Int32) ≤ v1 then kx179 σ else gd (ib ((17 : Int32) * v1) 256) (if (gI σ 503 0 (ix ((17 : Int32) * v1))) = 0 then (X10_close_l179  kx179 n179) (v1 + (1 : Int32)) σ else some ((-5 : Int32), σ))
noncomputable def X10_close_l208  (kx208 : PS → Option (Int32 × PS)) : Nat → Int32 → PS → Option (Int32 × PS)
  | 0, _, _ => none
  | n208 + 1, v1, σ =>
    if (16 : Int32) ≤ v1 then kx208 σ else gd (ib ((17 : Int32) * v1) 256) (nm (sI σ 503 0 (ix ((17 : Int32) * v1)) (1 : Int32)) (fun σ22 => (X10_close_l208  kx208 n208) (v1 + (1 : Int32)) σ22))
noncomputable def X10_close_c230  (σ : PS) : Option (Int32 × PS) :=
  nm (sI σ 500 0 4 (1 : Int32)) (fun σ23 => some ((1 : Int32), σ23))
noncomputable def X10_close_c206  (σ : PS) : Option (Int32 × PS) :=
  X10_close_l208  (fun σ => X10_close_c230  σ) fuel (0 : Int32) σ
noncomputable def X10_close_c177  (σ : PS) : Option (Int32 × PS) :=
  X10_close_l179  (fun σ => X10_close_c206  σ) fuel (0 : Int32) σ
noncomputable def X10_close_c77  (σ : PS) : Option (Int32 × PS) :=
  X10_close_l79  (fun σ => X10_close_c177  σ) fuel (0 : Int32) σ
noncomputable def X10_close_c37  (σ : PS) : Option (Int32 × PS) :=
  X10_close_l39  (fun σ => X10_close_c77  σ) fuel (0 : Int32) σ
noncomputable def X10_close (σ : PS) : Option (Int32 × PS) :=
  if (gI σ 500 0 4) = 0 then X10_close_l12  (fun σ => X10_close_c37  σ) fuel (0 : Int32) σ else some ((-3 : Int32), σ)
-- X10_isBelow
noncomputable def X10_isBelow (x1 : Int32) (x2 : Int32) (σ : PS) : Option (Int32) :=
  gd (ib (((16 : Int32) * x1) + x2) 256) (gd (isB (gI σ 503 0 (ix (((16 : Int32) * x1) + x2)))) (some (gI σ 503 0 (ix (((16 : Int32) * x1) + x2)))))
-- X10_below
noncomputable def X10_below (x1 : Int32) (x2 : Int32) (σ : PS) : Option (Int32) :=
  if (gI σ 500 0 4) = 0 then some (0 : Int32) else if x1 < 0 then some (0 : Int32) else if (16 : Int32) ≤ x1 then some (0 : Int32) else if x2 < 0 then some (0 : Int32) else if (16 : Int32) ≤ x2 then some (0 : Int32) else (X10_isBelow x1 x2 σ).bind (fun r1 => if r1 = 0 then some (0 : Int32) else some (1 : Int32))
-- X10_sample
noncomputable def X10_sample (x1 : Int32) (x2 : Int32) (σ : PS) : Option (Int32 × PS) :=
  (X10_isClass x1 σ).bind (fun r1 => if r1 = 0 then some ((-2 : Int32), σ) else if (gI σ 500 0 4) = 0 then some ((-3 : Int32), σ) else gd (ib x1 12) (if (gI σ 504 0 (ix x1)) = 0 then if (gI σ 500 0 5) = (300 : Int32) then some ((-4 : Int32), σ) else gd (ib (gI σ 500 0 5) 300) (nm (sI σ 507 0 (ix (gI σ 500 0 5)) x1) (fun σ4 => gd (ib (gI σ4 500 0 5) 300) (nm (sI σ4 508 0 (ix (gI σ4 500 0 5)) x2) (fun σ6 => nm (sI σ6 500 0 5 ((gI σ6 500 0 5) + (1 : Int32))) (fun σ7 => some (((gI σ7 500 0 5) - (1 : Int32)), σ7)))))) else some ((-6 : Int32), σ)))
-- X10_of
noncomputable def X10_of (x1 : Int32) (x2 : Int32) (σ : PS) : Option (Int32) :=
  if x1 < 0 then some (-1 : Int32) else if (gI σ 500 0 5) ≤ x1 then some (-1 : Int32) else if x2 < 0 then some (-1 : Int32) else if x2 ≤ (1 : Int32) then if x2 = 0 then gd (ib x1 300) (some (gI σ 507 0 (ix x1))) else gd (ib x1 300) (some (gI σ 508 0 (ix x1))) else some (-1 : Int32)
-- X10_samples
noncomputable def X10_samples (σ : PS) : Option (Int32) :=
  some (gI σ 500 0 5)
-- X10_function
noncomputable def X10_function (x1 : Int32) (σ : PS) : Option (Int32 × PS) :=
  if x1 < (1 : Int32) then some ((-2 : Int32), σ) else if x1 ≤ (2 : Int32) then if (gI σ 500 0 4) = 0 then some ((-3 : Int32), σ) else if (gI σ 500 0 8) = (4 : Int32) then some ((-4 : Int32), σ) else gd (ib (gI σ 500 0 8) 4) (nm (sI σ 510 0 (ix (gI σ 500 0 8)) x1) (fun σ2 => nm (sI σ2 500 0 8 ((gI σ2 500 0 8) + (1 : Int32))) (fun σ3 => some (((gI σ3 500 0 8) - (1 : Int32)), σ3)))) else some ((-2 : Int32), σ)
-- X10_isFunction
noncomputable def X10_isFunction (x1 : Int32) (σ : PS) : Option (Int32) :=
  if x1 < 0 then some (0 : Int32) else if (gI σ 500 0 8) ≤ x1 then some (0 : Int32) else some (1 : Int32)
-- X10_isHandler
noncomputable def X10_isHandler (x1 : Int32) (σ : PS) : Option (Int32) :=
  if x1 < 0 then some (0 : Int32) else if (gI σ 500 0 14) ≤ x1 then some (0 : Int32) else some (1 : Int32)
-- X10_handler
noncomputable def X10_handler_l85  (kx85 : Int32 → PS → Option (Int32 × PS)) : Nat → Int32 → Int32 → PS → Option (Int32 × PS)
  | 0, _, _, _ => none
  | n85 + 1, v5, v6, σ =>
    if (2 : Int32) ≤ v6 then kx85 v5 σ else gd (ib (((2 : Int32) * v5) + v6) 80) (nm (sI σ 521 0 (ix (((2 : Int32) * v5) + v6)) (-1 : Int32)) (fun σ14 => gd (ib (((2 : Int32) * v5) + v6) 80) (nm (sI σ14 522 0 (ix (((2 : Int32) * v5) + v6)) (-2147483648 : Int32)) (fun σ16 => gd (ib (((2 : Int32) * v5) + v6) 80) (nm (sI σ16 523 0 (ix (((2 : Int32) * v5) + v6)) (2147483647 : Int32)) (fun σ18 => (X10_handler_l85  kx85 n85) v5 (v6 + (1 : Int32)) σ18))))))
noncomputable def X10_handler_c138  (v5 : Int32) (σ : PS) : Option (Int32 × PS) :=
  some (v5, σ)
noncomputable def X10_handler (x1 : Int32) (x2 : Int32) (x3 : Int32) (x4 : Int32) (σ : PS) : Option (Int32 × PS) :=
  (X10_isFunction x1 σ).bind (fun r1 => if r1 = 0 then some ((-2 : Int32), σ) else if x2 < 0 then some ((-2 : Int32), σ) else if x2 ≤ (7 : Int32) then if (gI σ 500 0 14) = (40 : Int32) then some ((-4 : Int32), σ) else nm (gI σ 500 0 14) (fun y2 => nm (sI σ 500 0 14 ((gI σ 500 0 14) + (1 : Int32))) (fun σ3 => gd (ib y2 40) (nm (sI σ3 516 0 (ix y2) x1) (fun σ5 => gd (ib y2 40) (nm (sI σ5 517 0 (ix y2) x2) (fun σ7 => gd (ib y2 40) (nm (sI σ7 518 0 (ix y2) x3) (fun σ9 => gd (isB x4) (gd (ib y2 40) (nm (sI σ9 519 0 (ix y2) x4) (fun σ12 => X10_handler_l85  (fun v5 σ => X10_handler_c138  v5 σ) fuel y2 (0 : Int32) σ12))))))))))) else some ((-2 : Int32), σ))
-- X10_hasPlace
noncomputable def X10_hasPlace (x1 : Int32) (x2 : Int32) (σ : PS) : Option (Int32) :=
  (X10_isHandler x1 σ).bind (fun r1 => if r1 = 0 then some (0 : Int32) else if x2 < 0 then some (0 : Int32) else gd (ib x1 40) (gd (ib (gI σ 516 0 (ix x1)) 4) (if (gI σ 510 0 (ix (gI σ 516 0 (ix x1)))) ≤ x2 then some (0 : Int32) else some (1 : Int32))))
-- X10_place
noncomputable def X10_place (x1 : Int32) (x2 : Int32) (x3 : Int32) (σ : PS) : Option (Int32 × PS) :=
  (X10_hasPlace x1 x2 σ).bind (fun r1 => if r1 = 0 then some ((-2 : Int32), σ) else if x3 < (-1 : Int32) then some ((-2 : Int32), σ) else if x3 ≤ (15 : Int32) then gd (ib x1 40) (if (gI σ 520 0 (ix x1)) = 0 then gd (ib (((2 : Int32) * x1) + x2) 80) (nm (sI σ 521 0 (ix (((2 : Int32) * x1) + x2)) x3) (fun σ4 => some ((1 : Int32), σ4))) else some ((-3 : Int32), σ)) else some ((-2 : Int32), σ))
-- X10_test
noncomputable def X10_test (x1 : Int32) (x2 : Int32) (x3 : Int32) (x4 : Int32) (σ : PS) : Option (Int32 × PS) :=
  (X10_hasPlace x1 x2 σ).bind (fun r1 => if r1 = 0 then some ((-2 : Int32), σ) else if x3 ≤ x4 then gd (ib x1 40) (if (gI σ 520 0 (ix x1)) = 0 then gd (ib (((2 : Int32) * x1) + x2) 80) (nm (sI σ 522 0 (ix (((2 : Int32) * x1) + x2)) x3) (fun σ4 => gd (ib (((2 : Int32) * x1) + x2) 80) (nm (sI σ4 523 0 (ix (((2 : Int32) * x1) + x2)) x4) (fun σ6 => some ((1 : Int32), σ6))))) else some ((-3 : Int32), σ)) else some ((-2 : Int32), σ))
-- X10_isLaid
noncomputable def X10_isLaid (x1 : Int32) (x2 : Int32) (σ : PS) : Option (Int32) :=
  gd (ib x1 40) (if (gI σ 516 0 (ix x1)) = x2 then gd (ib x1 40) (if (gI σ 520 0 (ix x1)) = (1 : Int32) then some (1 : Int32) else some (0 : Int32)) else some (0 : Int32))
-- X10_laid
noncomputable def X10_laid_l4 (σ : PS) (kx4 : Int32 → Option (Int32)) : Nat → Int32 → Int32 → Int32 → Option (Int32)
  | 0, _, _, _ => none
  | n4 + 1, v1, v2, v3 =>
    if (gI σ 500 0 14) ≤ v3 then kx4 v2 else (X10_isLaid v3 v1 σ).bind (fun r1 => if r1 = 0 then nm (v2 + (0 : Int32)) (fun y2 => (X10_laid_l4 σ kx4 n4) v1 y2 (v3 + (1 : Int32))) else nm (v2 + (1 : Int32)) (fun y3 => (X10_laid_l4 σ kx4 n4) v1 y3 (v3 + (1 : Int32))))
noncomputable def X10_laid_c35 (σ : PS) (v2 : Int32) : Option (Int32) :=
  some v2
noncomputable def X10_laid (x1 : Int32) (σ : PS) : Option (Int32) :=
  X10_laid_l4 σ (fun v2 => X10_laid_c35 σ v2) fuel x1 (0 : Int32) (0 : Int32)
-- X10_areSame
noncomputable def X10_areSame (x1 : Int32) (x2 : Int32) (x3 : Int32) (σ : PS) : Option (Int32) :=
  gd (ib (((2 : Int32) * x1) + x3) 80) (gd (ib (((2 : Int32) * x2) + x3) 80) (if (gI σ 521 0 (ix (((2 : Int32) * x1) + x3))) = (gI σ 521 0 (ix (((2 : Int32) * x2) + x3))) then gd (ib (((2 : Int32) * x1) + x3) 80) (gd (ib (((2 : Int32) * x2) + x3) 80) (if (gI σ 522 0 (ix (((2 : Int32) * x1) + x3))) = (gI σ 522 0 (ix (((2 : Int32) * x2) + x3))) then gd (ib (((2 : Int32) * x1) + x3) 80) (gd (ib (((2 : Int32) * x2) + x3) 80) (if (gI σ 523 0 (ix (((2 : Int32) * x1) + x3))) = (gI σ 523 0 (ix (((2 : Int32) * x2) + x3))) then some (1 : Int32) else some (0 : Int32))) else some (0 : Int32))) else some (0 : Int32)))
-- X10_isNarrower
noncomputable def X10_isNarrower (x1 : Int32) (x2 : Int32) (x3 : Int32) (σ : PS) : Option (Int32) :=
  gd (ib (((2 : Int32) * x1) + x3) 80) (nm (gI σ 521 0 (ix (((2 : Int32) * x1) + x3))) (fun y2 => gd (ib (((2 : Int32) * x2) + x3) 80) (nm (gI σ 521 0 (ix (((2 : Int32) * x2) + x3))) (fun y4 => if y2 = y4 then gd (ib (((2 : Int32) * x1) + x3) 80) (gd (ib (((2 : Int32) * x2) + x3) 80) (if (gI σ 522 0 (ix (((2 : Int32) * x1) + x3))) < (gI σ 522 0 (ix (((2 : Int32) * x2) + x3))) then some (0 : Int32) else gd (ib (((2 : Int32) * x1) + x3) 80) (gd (ib (((2 : Int32) * x2) + x3) 80) (if (gI σ 523 0 (ix (((2 : Int32) * x2) + x3))) < (gI σ 523 0 (ix (((2 : Int32) * x1) + x3))) then some (0 : Int32) else (X10_areSame x1 x2 x3 σ).bind (fun r9 => if r9 = 0 then some (1 : Int32) else some (0 : Int32)))))) else if y2 = (-1 : Int32) then some (0 : Int32) else if y4 = (-1 : Int32) then some (1 : Int32) else (X10_isBelow y2 y4 σ).bind (fun r10 => if r10 = 0 then some (0 : Int32) else some (1 : Int32))))))
-- X10_isMore
noncomputable def X10_isMore_c68 (σ : PS) (kr27 : Int32 → Int32 → Int32 → Int32 → Int32 → Option (Int32)) (kx27 : Int32 → Int32 → Option (Int32)) (v1 : Int32) (v2 : Int32) (v3 : Int32) (v5 : Int32) (v6 : Int32) (w0 : Int32) : Option (Int32) :=
  if v3 = 0 then kr27 v1 v2 (0 : Int32) w0 (v5 + (1 : Int32)) else if v6 = 0 then (X10_areSame v1 v2 v5 σ).bind (fun r6 => if r6 = 0 then kr27 v1 v2 (0 : Int32) w0 (v5 + (1 : Int32)) else kr27 v1 v2 (1 : Int32) w0 (v5 + (1 : Int32))) else kr27 v1 v2 (1 : Int32) w0 (v5 + (1 : Int32))
noncomputable def X10_isMore_c63 (σ : PS) (kr27 : Int32 → Int32 → Int32 → Int32 → Int32 → Option (Int32)) (kx27 : Int32 → Int32 → Option (Int32)) (v1 : Int32) (v2 : Int32) (v3 : Int32) (v5 : Int32) (v6 : Int32) : Option (Int32) :=
  X10_isMore_c68 σ kr27 kx27  v1 v2 v3 v5 v6 (1 : Int32)
noncomputable def X10_isMore_l27 (σ : PS) (kx27 : Int32 → Int32 → Option (Int32)) : Nat → Int32 → Int32 → Int32 → Int32 → Int32 → Option (Int32)
  | 0, _, _, _, _, _ => none
  | n27 + 1, v1, v2, v3, v4, v5 =>
    gd (ib v1 40) (gd (ib (gI σ 516 0 (ix v1)) 4) (if (gI σ 510 0 (ix (gI σ 516 0 (ix v1)))) ≤ v5 then kx27 v3 v4 else (X10_isNarrower v1 v2 v5 σ).bind (fun r5 => if v4 = 0 then if r5 = 0 then X10_isMore_c68 σ (X10_isMore_l27 σ kx27 n27) kx27  v1 v2 v3 v5 r5 (0 : Int32) else X10_isMore_c63 σ (X10_isMore_l27 σ kx27 n27) kx27  v1 v2 v3 v5 r5 else X10_isMore_c63 σ (X10_isMore_l27 σ kx27 n27) kx27  v1 v2 v3 v5 r5)))
noncomputable def X10_isMore_c102 (σ : PS) (v3 : Int32) (v4 : Int32) : Option (Int32) :=
  if v3 = 0 then some (0 : Int32) else if v4 = 0 then some (0 : Int32) else some (1 : Int32)
noncomputable def X10_isMore_c20 (σ : PS) (v1 : Int32) (v2 : Int32) (w0 : Int32) : Option (Int32) :=
  X10_isMore_l27 σ (fun v3 v4 => X10_isMore_c102 σ v3 v4) fuel v1 v2 w0 (0 : Int32) (0 : Int32)
noncomputable def X10_isMore (x1 : Int32) (x2 : Int32) (σ : PS) : Option (Int32) :=
  gd (ib x1 40) (gd (ib x2 40) (if (gI σ 516 0 (ix x1)) = (gI σ 516 0 (ix x2)) then X10_isMore_c20 σ  x1 x2 (1 : Int32) else X10_isMore_c20 σ  x1 x2 (0 : Int32)))
-- X10_lay
noncomputable def X10_lay_l83  (kx83 : Int32 → Int32 → Int32 → Int32 → PS → Option (Int32 × PS)) : Nat → Int32 → Int32 → Int32 → Int32 → Int32 → PS → Option (Int32 × PS)
  | 0, _, _, _, _, _, _ => none
  | n83 + 1, v1, v2, v3, v4, v5, σ =>
    gd (ib v2 4) (if (gI σ 510 0 (ix v2)) ≤ v5 then kx83 v1 v2 v3 v4 σ else if v4 = 0 then (X10_lay_l83  kx83 n83) v1 v2 v3 (0 : Int32) (v5 + (1 : Int32)) σ else (X10_areSame v1 v3 v5 σ).bind (fun r8 => if r8 = 0 then (X10_lay_l83  kx83 n83) v1 v2 v3 (0 : Int32) (v5 + (1 : Int32)) σ else (X10_lay_l83  kx83 n83) v1 v2 v3 (1 : Int32) (v5 + (1 : Int32)) σ))
noncomputable def X10_lay_c123  (kr41 : Int32 → Int32 → Int32 → PS → Option (Int32 × PS)) (kx41 : Int32 → Int32 → PS → Option (Int32 × PS)) (v1 : Int32) (v2 : Int32) (v3 : Int32) (v4 : Int32) (σ : PS) : Option (Int32 × PS) :=
  if v4 = 0 then kr41 v1 v2 (v3 + (1 : Int32)) σ else some ((-5 : Int32), σ)
noncomputable def X10_lay_c78  (kr41 : Int32 → Int32 → Int32 → PS → Option (Int32 × PS)) (kx41 : Int32 → Int32 → PS → Option (Int32 × PS)) (v1 : Int32) (v2 : Int32) (v3 : Int32) (w0 : Int32) (σ : PS) : Option (Int32 × PS) :=
  X10_lay_l83  (fun v1 v2 v3 v4 σ => X10_lay_c123  kr41 kx41 v1 v2 v3 v4 σ) fuel v1 v2 v3 w0 (0 : Int32) σ
noncomputable def X10_lay_c77  (kr41 : Int32 → Int32 → Int32 → PS → Option (Int32 × PS)) (kx41 : Int32 → Int32 → PS → Option (Int32 × PS)) (v1 : Int32) (v2 : Int32) (v3 : Int32) (σ : PS) : Option (Int32 × PS) :=
  X10_lay_c78  kr41 kx41  v1 v2 v3 (0 : Int32) σ
noncomputable def X10_lay_l41  (kx41 : Int32 → Int32 → PS → Option (Int32 × PS)) : Nat → Int32 → Int32 → Int32 → PS → Option (Int32 × PS)
  | 0, _, _, _, _ => none
  | n41 + 1, v1, v2, v3, σ =>
    if (gI σ 500 0 14) ≤ v3 then kx41 v1 v2 σ else (X10_isLaid v3 v2 σ).bind (fun r6 => if r6 = 0 then X10_lay_c77  (X10_lay_l41  kx41 n41) kx41  v1 v2 v3 σ else gd (ib v3 40) (gd (ib v1 40) (if (gI σ 519 0 (ix v3)) = (gI σ 519 0 (ix v1)) then X10_lay_c78  (X10_lay_l41  kx41 n41) kx41  v1 v2 v3 (1 : Int32) σ else X10_lay_c77  (X10_lay_l41  kx41 n41) kx41  v1 v2 v3 σ)))
noncomputable def X10_lay_c137  (v1 : Int32) (v2 : Int32) (σ : PS) : Option (Int32 × PS) :=
  (X10_laid v2 σ).bind (fun r11 => if r11 = (8 : Int32) then some ((-4 : Int32), σ) else gd (ib v1 40) (nm (sI σ 520 0 (ix v1) (1 : Int32)) (fun σ13 => gd (ib v2 4) (nm (sI σ13 514 0 (ix v2) (0 : Int32)) (fun σ15 => some ((1 : Int32), σ15))))))
noncomputable def X10_lay (x1 : Int32) (σ : PS) : Option (Int32 × PS) :=
  (X10_isHandler x1 σ).bind (fun r1 => if r1 = 0 then some ((-2 : Int32), σ) else gd (ib x1 40) (nm (gI σ 516 0 (ix x1)) (fun y3 => gd (ib x1 40) (if (gI σ 520 0 (ix x1)) = 0 then gd (ib y3 4) (if (gI σ 511 0 (ix y3)) = 0 then X10_lay_l41  (fun v1 v2 σ => X10_lay_c137  v1 v2 σ) fuel x1 y3 (0 : Int32) σ else some ((-3 : Int32), σ)) else some ((-3 : Int32), σ)))))
-- X10_lift
noncomputable def X10_lift (x1 : Int32) (σ : PS) : Option (Int32 × PS) :=
  (X10_isHandler x1 σ).bind (fun r1 => if r1 = 0 then some ((-2 : Int32), σ) else gd (ib x1 40) (if (gI σ 520 0 (ix x1)) = (1 : Int32) then gd (ib x1 40) (gd (ib (gI σ 516 0 (ix x1)) 4) (if (gI σ 511 0 (ix (gI σ 516 0 (ix x1)))) = 0 then gd (ib x1 40) (nm (sI σ 520 0 (ix x1) (2 : Int32)) (fun σ6 => gd (ib x1 40) (gd (ib (gI σ6 516 0 (ix x1)) 4) (nm (sI σ6 514 0 (ix (gI σ6 516 0 (ix x1))) (0 : Int32)) (fun σ9 => some ((1 : Int32), σ9)))))) else some ((-3 : Int32), σ))) else some ((-3 : Int32), σ)))
-- X10_freeze
noncomputable def X10_freeze (x1 : Int32) (x2 : Int32) (σ : PS) : Option (Int32 × PS) :=
  (X10_isFunction x1 σ).bind (fun r1 => if r1 = 0 then some ((-2 : Int32), σ) else gd (ib x1 4) (if (gI σ 511 0 (ix x1)) = x2 then gd (isB x2) (gd (ib x1 4) (nm (sI σ 511 0 (ix x1) x2) (fun σ8 => some ((0 : Int32), σ8)))) else gd (isB x2) (gd (ib x1 4) (nm (sI σ 511 0 (ix x1) x2) (fun σ5 => some ((1 : Int32), σ5))))))
-- X10_about
noncomputable def X10_about_c52 (σ : PS) (v1 : Int32) (v2 : Int32) (v3 : Int32) (w0 : Int32) : Option (Int32) :=
  if v2 = (0 : Int32) then gd (ib v1 40) (some (gI σ 516 0 (ix v1))) else if v2 = (1 : Int32) then gd (ib v1 40) (some (gI σ 517 0 (ix v1))) else if v2 = (2 : Int32) then gd (ib v1 40) (some (gI σ 518 0 (ix v1))) else if v2 = (3 : Int32) then gd (ib v1 40) (if (gI σ 519 0 (ix v1)) = 0 then some (0 : Int32) else some (1 : Int32)) else if v2 = (4 : Int32) then gd (ib v1 40) (some (gI σ 520 0 (ix v1))) else if v2 = (5 : Int32) then if w0 = 0 then some (0 : Int32) else gd (ib (((2 : Int32) * v1) + v3) 80) (some (gI σ 521 0 (ix (((2 : Int32) * v1) + v3)))) else if v2 = (6 : Int32) then if w0 = 0 then some (0 : Int32) else gd (ib (((2 : Int32) * v1) + v3) 80) (some (gI σ 521 0 (ix (((2 : Int32) * v1) + v3)))) else if v2 = (7 : Int32) then if w0 = 0 then some (0 : Int32) else gd (ib (((2 : Int32) * v1) + v3) 80) (some (gI σ 522 0 (ix (((2 : Int32) * v1) + v3)))) else if v2 = (8 : Int32) then if w0 = 0 then some (0 : Int32) else gd (ib (((2 : Int32) * v1) + v3) 80) (some (gI σ 522 0 (ix (((2 : Int32) * v1) + v3)))) else if w0 = 0 then some (0 : Int32) else gd (ib (((2 : Int32) * v1) + v3) 80) (some (gI σ 523 0 (ix (((2 : Int32) * v1) + v3))))
noncomputable def X10_about_c47 (σ : PS) (v1 : Int32) (v2 : Int32) (v3 : Int32) : Option (Int32) :=
  X10_about_c52 σ  v1 v2 v3 (1 : Int32)
noncomputable def X10_about (x1 : Int32) (x2 : Int32) (σ : PS) : Option (Int32) :=
  (X10_isHandler x1 σ).bind (fun r1 => if r1 = 0 then some (-2 : Int32) else if x2 < 0 then some (-2 : Int32) else if x2 ≤ (10 : Int32) then nm ((x2 - (5 : Int32)) - (x2 - (5 : Int32)) / (2 : Int32) * (2 : Int32)) (fun y2 => if x2 < (5 : Int32) then X10_about_c47 σ  x1 x2 y2 else gd (ib x1 40) (gd (ib (gI σ 516 0 (ix x1)) 4) (if (gI σ 510 0 (ix (gI σ 516 0 (ix x1)))) ≤ y2 then X10_about_c52 σ  x1 x2 y2 (0 : Int32) else X10_about_c47 σ  x1 x2 y2))) else some (-2 : Int32))
-- X10_dominates
noncomputable def X10_dominates (x1 : Int32) (x2 : Int32) (σ : PS) : Option (Int32) :=
  (X10_isHandler x1 σ).bind (fun r1 => if r1 = 0 then some (0 : Int32) else (X10_isHandler x2 σ).bind (fun r2 => if r2 = 0 then some (0 : Int32) else (X10_isMore x1 x2 σ).bind (fun r3 => if r3 = 0 then some (0 : Int32) else some (1 : Int32))))
-- X10_inOrder
noncomputable def X10_inOrder_l2  (kx2 : Int32 → PS → Option (Int32 × PS)) : Nat → Int32 → Int32 → Int32 → PS → Option (Int32 × PS)
  | 0, _, _, _, _ => none
  | n2 + 1, v1, v2, v3, σ =>
    if (gI σ 500 0 14) ≤ v3 then kx2 v2 σ else (X10_isLaid v3 v1 σ).bind (fun r1 => if r1 = 0 then gd (ib v3 40) (nm (sI σ 535 0 (ix v3) (1 : Int32)) (fun σ5 => (X10_inOrder_l2  kx2 n2) v1 v2 (v3 + (1 : Int32)) σ5)) else gd (ib v3 40) (nm (sI σ 535 0 (ix v3) (0 : Int32)) (fun σ3 => (X10_inOrder_l2  kx2 n2) v1 v2 (v3 + (1 : Int32)) σ3)))
noncomputable def X10_inOrder_l82  (kx82 : Int32 → Int32 → Int32 → Int32 → Int32 → PS → Option (Int32 × PS)) : Nat → Int32 → Int32 → Int32 → Int32 → Int32 → Int32 → PS → Option (Int32 × PS)
  | 0, _, _, _, _, _, _, _ => none
  | n82 + 1, v2, v3, v4, v5, v6, v7, σ =>
    if (gI σ 500 0 14) ≤ v7 then kx82 v2 v3 v4 v5 v6 σ else if v6 = 0 then (X10_inOrder_l82  kx82 n82) v2 v3 v4 v5 (0 : Int32) (v7 + (1 : Int32)) σ else gd (ib v7 40) (if (gI σ 535 0 (ix v7)) = 0 then (X10_isMore v7 v5 σ).bind (fun r9 => if r9 = 0 then (X10_inOrder_l82  kx82 n82) v2 v3 v4 v5 (1 : Int32) (v7 + (1 : Int32)) σ else (X10_inOrder_l82  kx82 n82) v2 v3 v4 v5 (0 : Int32) (v7 + (1 : Int32)) σ) else (X10_inOrder_l82  kx82 n82) v2 v3 v4 v5 (1 : Int32) (v7 + (1 : Int32)) σ)
noncomputable def X10_inOrder_c130  (kr57 : Int32 → Int32 → Int32 → Int32 → PS → Option (Int32 × PS)) (kx57 : Int32 → Int32 → Int32 → PS → Option (Int32 × PS)) (v2 : Int32) (v3 : Int32) (v4 : Int32) (v5 : Int32) (v6 : Int32) (σ : PS) : Option (Int32 × PS) :=
  if v6 = 0 then kr57 v2 v3 v4 (v5 + (-1 : Int32)) σ else kr57 v2 v5 v4 (v5 + (-1 : Int32)) σ
noncomputable def X10_inOrder_c77  (kr57 : Int32 → Int32 → Int32 → Int32 → PS → Option (Int32 × PS)) (kx57 : Int32 → Int32 → Int32 → PS → Option (Int32 × PS)) (v2 : Int32) (v3 : Int32) (v4 : Int32) (v5 : Int32) (w0 : Int32) (σ : PS) : Option (Int32 × PS) :=
  X10_inOrder_l82  (fun v2 v3 v4 v5 v6 σ => X10_inOrder_c130  kr57 kx57 v2 v3 v4 v5 v6 σ) fuel v2 v3 v4 v5 w0 (0 : Int32) σ
noncomputable def X10_inOrder_l57  (kx57 : Int32 → Int32 → Int32 → PS → Option (Int32 × PS)) : Nat → Int32 → Int32 → Int32 → Int32 → PS → Option (Int32 × PS)
  | 0, _, _, _, _, _ => none
  | n57 + 1, v2, v3, v4, v5, σ =>
    if v5 < 0 then kx57 v2 v3 v4 σ else gd (ib v5 40) (if (gI σ 535 0 (ix v5)) = 0 then X10_inOrder_c77  (X10_inOrder_l57  kx57 n57) kx57  v2 v3 v4 v5 (1 : Int32) σ else X10_inOrder_c77  (X10_inOrder_l57  kx57 n57) kx57  v2 v3 v4 v5 (0 : Int32) σ)
noncomputable def X10_inOrder_c148  (kr41 : Int32 → Int32 → Int32 → PS → Option (Int32 × PS)) (kx41 : Int32 → PS → Option (Int32 × PS)) (v2 : Int32) (v3 : Int32) (v4 : Int32) (σ : PS) : Option (Int32 × PS) :=
  if 0 ≤ v3 then gd (ib v3 40) (nm (sI σ 535 0 (ix v3) (1 : Int32)) (fun σ11 => kr41 v2 v3 (v4 + (1 : Int32)) σ11)) else some ((-1 : Int32), σ)
noncomputable def X10_inOrder_l41  (kx41 : Int32 → PS → Option (Int32 × PS)) : Nat → Int32 → Int32 → Int32 → PS → Option (Int32 × PS)
  | 0, _, _, _, _ => none
  | n41 + 1, v2, v3, v4, σ =>
    if v2 < v4 then kx41 v3 σ else nm ((gI σ 500 0 14) - (1 : Int32)) (fun y6 => X10_inOrder_l57  (fun v2 v3 v4 σ => X10_inOrder_c148  (X10_inOrder_l41  kx41 n41) kx41 v2 v3 v4 σ) fuel v2 (-1 : Int32) v4 y6 σ)
noncomputable def X10_inOrder_c167  (v3 : Int32) (σ : PS) : Option (Int32 × PS) :=
  some (v3, σ)
noncomputable def X10_inOrder_c36  (v2 : Int32) (σ : PS) : Option (Int32 × PS) :=
  X10_inOrder_l41  (fun v3 σ => X10_inOrder_c167  v3 σ) fuel v2 (-1 : Int32) (0 : Int32) σ
noncomputable def X10_inOrder (x1 : Int32) (x2 : Int32) (σ : PS) : Option (Int32 × PS) :=
  X10_inOrder_l2  (fun v2 σ => X10_inOrder_c36  v2 σ) fuel x1 x2 (0 : Int32) σ
-- X10_order
noncomputable def X10_order (x1 : Int32) (x2 : Int32) (σ : PS) : Option (Int32 × PS) :=
  (X10_isFunction x1 σ).bind (fun r1 => if r1 = 0 then some ((-1 : Int32), σ) else if x2 < 0 then some ((-1 : Int32), σ) else (X10_laid x1 σ).bind (fun r2 => if r2 ≤ x2 then some ((-1 : Int32), σ) else bp (X10_inOrder x1 x2 σ) (fun r3 σ3 => some (r3, σ3))))
-- X10_takesAt
noncomputable def X10_takesAt_c35 (σ : PS) (v1 : Int32) (v2 : Int32) (w0 : Int32) : Option (Int32) :=
  if w0 = 0 then some (0 : Int32) else gd (ib v2 2) (gd (ib (((2 : Int32) * v1) + v2) 80) (if (lg_cmp (gL σ 533 0 (ix v2)) (gI σ 522 0 (ix (((2 : Int32) * v1) + v2))).toInt64) < 0 then some (0 : Int32) else gd (ib v2 2) (gd (ib (((2 : Int32) * v1) + v2) 80) (if 0 < (lg_cmp (gL σ 533 0 (ix v2)) (gI σ 523 0 (ix (((2 : Int32) * v1) + v2))).toInt64) then some (0 : Int32) else some (1 : Int32)))))
noncomputable def X10_takesAt_c30 (σ : PS) (v1 : Int32) (v2 : Int32) : Option (Int32) :=
  X10_takesAt_c35 σ  v1 v2 (1 : Int32)
noncomputable def X10_takesAt (x1 : Int32) (x2 : Int32) (σ : PS) : Option (Int32) :=
  gd (ib (((2 : Int32) * x1) + x2) 80) (nm (gI σ 521 0 (ix (((2 : Int32) * x1) + x2))) (fun y2 => if y2 = (-1 : Int32) then X10_takesAt_c30 σ  x1 x2 else gd (ib x2 2) ((X10_isBelow (gI σ 532 0 (ix x2)) y2 σ).bind (fun r8 => if r8 = 0 then X10_takesAt_c35 σ  x1 x2 (0 : Int32) else X10_takesAt_c30 σ  x1 x2))))
-- X10_takes
noncomputable def X10_takes_l4 (σ : PS) (kx4 : Int32 → Option (Int32)) : Nat → Int32 → Int32 → Int32 → Option (Int32)
  | 0, _, _, _ => none
  | n4 + 1, v1, v2, v3 =>
    gd (ib v1 40) (gd (ib (gI σ 516 0 (ix v1)) 4) (if (gI σ 510 0 (ix (gI σ 516 0 (ix v1)))) ≤ v3 then kx4 v2 else if v2 = 0 then (X10_takes_l4 σ kx4 n4) v1 (0 : Int32) (v3 + (1 : Int32)) else (X10_takesAt v1 v3 σ).bind (fun r3 => if r3 = 0 then (X10_takes_l4 σ kx4 n4) v1 (0 : Int32) (v3 + (1 : Int32)) else (X10_takes_l4 σ kx4 n4) v1 (1 : Int32) (v3 + (1 : Int32)))))
noncomputable def X10_takes_c44 (σ : PS) (v2 : Int32) : Option (Int32) :=
  gd (isB v2) (some v2)
noncomputable def X10_takes (x1 : Int32) (σ : PS) : Option (Int32) :=
  X10_takes_l4 σ (fun v2 => X10_takes_c44 σ v2) fuel x1 (1 : Int32) (0 : Int32)
-- X10_isOffered
noncomputable def X10_isOffered (x1 : Int32) (x2 : Int32) (x3 : Int32) (σ : PS) : Option (Int32) :=
  (X10_isLaid x1 x2 σ).bind (fun r1 => if r1 = 0 then some (0 : Int32) else gd (ib x1 40) (if (gI σ 519 0 (ix x1)) = 0 then (X10_takes x1 σ).bind (fun r3 => if r3 = 0 then some (0 : Int32) else if x3 < 0 then some (1 : Int32) else (X10_isMore x3 x1 σ).bind (fun r4 => if r4 = 0 then some (0 : Int32) else some (1 : Int32))) else some (0 : Int32)))
-- X10_offered
noncomputable def X10_offered_l5 (σ : PS) (kx5 : Int32 → Option (Int32)) : Nat → Int32 → Int32 → Int32 → Int32 → Option (Int32)
  | 0, _, _, _, _ => none
  | n5 + 1, v1, v2, v3, v4 =>
    if (gI σ 500 0 14) ≤ v4 then kx5 v3 else (X10_isOffered v4 v1 v2 σ).bind (fun r1 => if r1 = 0 then nm (v3 + (0 : Int32)) (fun y2 => (X10_offered_l5 σ kx5 n5) v1 v2 y2 (v4 + (1 : Int32))) else nm (v3 + (1 : Int32)) (fun y3 => (X10_offered_l5 σ kx5 n5) v1 v2 y3 (v4 + (1 : Int32))))
noncomputable def X10_offered_c39 (σ : PS) (v3 : Int32) : Option (Int32) :=
  some v3
noncomputable def X10_offered (x1 : Int32) (x2 : Int32) (σ : PS) : Option (Int32) :=
  X10_offered_l5 σ (fun v3 => X10_offered_c39 σ v3) fuel x1 x2 (0 : Int32) (0 : Int32)
-- X10_chosen
noncomputable def X10_chosen_l31 (σ : PS) (kx31 : Int32 → Int32 → Int32 → Int32 → Int32 → Option (Int32)) : Nat → Int32 → Int32 → Int32 → Int32 → Int32 → Int32 → Option (Int32)
  | 0, _, _, _, _, _, _ => none
  | n31 + 1, v1, v2, v3, v4, v5, v6 =>
    if (gI σ 500 0 14) ≤ v6 then kx31 v1 v2 v3 v4 v5 else if v5 = 0 then (X10_chosen_l31 σ kx31 n31) v1 v2 v3 v4 (0 : Int32) (v6 + (1 : Int32)) else if v6 = v4 then (X10_chosen_l31 σ kx31 n31) v1 v2 v3 v4 (1 : Int32) (v6 + (1 : Int32)) else (X10_isOffered v6 v1 v2 σ).bind (fun r2 => if r2 = 0 then (X10_chosen_l31 σ kx31 n31) v1 v2 v3 v4 (1 : Int32) (v6 + (1 : Int32)) else (X10_isMore v4 v6 σ).bind (fun r3 => if r3 = 0 then (X10_chosen_l31 σ kx31 n31) v1 v2 v3 v4 (0 : Int32) (v6 + (1 : Int32)) else (X10_chosen_l31 σ kx31 n31) v1 v2 v3 v4 (1 : Int32) (v6 + (1 : Int32))))
noncomputable def X10_chosen_c87 (σ : PS) (kr5 : Int32 → Int32 → Int32 → Int32 → Option (Int32)) (kx5 : Int32 → Option (Int32)) (v1 : Int32) (v2 : Int32) (v3 : Int32) (v4 : Int32) (v5 : Int32) : Option (Int32) :=
  if v5 = 0 then kr5 v1 v2 v3 (v4 + (1 : Int32)) else kr5 v1 v2 v4 (v4 + (1 : Int32))
noncomputable def X10_chosen_l5 (σ : PS) (kx5 : Int32 → Option (Int32)) : Nat → Int32 → Int32 → Int32 → Int32 → Option (Int32)
  | 0, _, _, _, _ => none
  | n5 + 1, v1, v2, v3, v4 =>
    if (gI σ 500 0 14) ≤ v4 then kx5 v3 else (X10_isOffered v4 v1 v2 σ).bind (fun r1 => if r1 = 0 then (X10_chosen_l5 σ kx5 n5) v1 v2 v3 (v4 + (1 : Int32)) else X10_chosen_l31 σ (fun v1 v2 v3 v4 v5 => X10_chosen_c87 σ (X10_chosen_l5 σ kx5 n5) kx5 v1 v2 v3 v4 v5) fuel v1 v2 v3 v4 (1 : Int32) (0 : Int32))
noncomputable def X10_chosen_c105 (σ : PS) (v3 : Int32) : Option (Int32) :=
  some v3
noncomputable def X10_chosen (x1 : Int32) (x2 : Int32) (σ : PS) : Option (Int32) :=
  X10_chosen_l5 σ (fun v3 => X10_chosen_c105 σ v3) fuel x1 x2 (-1 : Int32) (0 : Int32)
-- X10_tellRow
noncomputable def X10_tellRow_c62  (kr4 : Int32 → Int32 → Int32 → PS → Option (Int32 × PS)) (kx4 : Int32 → PS → Option (Int32 × PS)) (v1 : Int32) (v2 : Int32) (v3 : Int32) (w0 : Int32) (w1 : Int32) (σ : PS) : Option (Int32 × PS) :=
  gd (ib w1 2) (nm (sI σ 532 0 (ix w1) w0) (fun σ4 => gd (ib v3 2) (if (gI σ4 525 0 (ix v3)) < 0 then gd (ib v3 2) (nm (sL σ4 533 0 (ix v3) (0 : Int64)) (fun σ7 => kr4 v1 v2 (v3 + (1 : Int32)) σ7)) else gd (ib v3 2) (gd (ib (gI σ4 525 0 (ix v3)) 300) (gd (ib v3 2) (nm (sL σ4 533 0 (ix v3) (gI σ4 508 0 (ix (gI σ4 525 0 (ix v3)))).toInt64) (fun σ11 => kr4 v1 v2 (v3 + (1 : Int32)) σ11)))))))
noncomputable def X10_tellRow_c32  (kr4 : Int32 → Int32 → Int32 → PS → Option (Int32 × PS)) (kx4 : Int32 → PS → Option (Int32 × PS)) (v1 : Int32) (v3 : Int32) (w0 : Int32) (σ : PS) : Option (Int32 × PS) :=
  gd (ib v3 2) (if (gI σ 525 0 (ix v3)) < 0 then X10_tellRow_c62  kr4 kx4  v1 w0 v3 (0 : Int32) v3 σ else gd (ib v3 2) (gd (ib (gI σ 525 0 (ix v3)) 300) (X10_tellRow_c62  kr4 kx4  v1 w0 v3 (gI σ 507 0 (ix (gI σ 525 0 (ix v3)))) v3 σ)))
noncomputable def X10_tellRow_c31  (kr4 : Int32 → Int32 → Int32 → PS → Option (Int32 × PS)) (kx4 : Int32 → PS → Option (Int32 × PS)) (v1 : Int32) (v3 : Int32) (σ : PS) : Option (Int32 × PS) :=
  X10_tellRow_c32  kr4 kx4  v1 v3 (0 : Int32) σ
noncomputable def X10_tellRow_l4  (kx4 : Int32 → PS → Option (Int32 × PS)) : Nat → Int32 → Int32 → Int32 → PS → Option (Int32 × PS)
  | 0, _, _, _, _ => none
  | n4 + 1, v1, v2, v3, σ =>
    gd (ib v1 4) (if (gI σ 510 0 (ix v1)) ≤ v3 then kx4 v2 σ else if v2 = 0 then X10_tellRow_c31  (X10_tellRow_l4  kx4 n4) kx4  v1 v3 σ else gd (ib v3 2) (if (gI σ 525 0 (ix v3)) < 0 then X10_tellRow_c31  (X10_tellRow_l4  kx4 n4) kx4  v1 v3 σ else X10_tellRow_c32  (X10_tellRow_l4  kx4 n4) kx4  v1 v3 (1 : Int32) σ))
noncomputable def X10_tellRow_c100  (v2 : Int32) (σ : PS) : Option (Int32 × PS) :=
  gd (isB v2) (some (v2, σ))
noncomputable def X10_tellRow (x1 : Int32) (σ : PS) : Option (Int32 × PS) :=
  X10_tellRow_l4  (fun v2 σ => X10_tellRow_c100  v2 σ) fuel x1 (1 : Int32) (0 : Int32) σ
-- X10_piece
noncomputable def X10_piece_c81 (σ : PS) (kr7 : Int32 → Int32 → Int64 → Int32 → Option (Int64)) (kx7 : Int64 → Option (Int64)) (v1 : Int32) (v2 : Int32) (v5 : Int32) (v8 : Int64) (w0 : Int64) : Option (Int64) :=
  gd (ib v2 2) (if (lg_cmp v8 (gL σ 533 0 (ix v2))) ≤ 0 then kr7 v1 v2 w0 (v5 + (1 : Int32)) else if 0 ≤ (lg_cmp v8 w0) then kr7 v1 v2 w0 (v5 + (1 : Int32)) else kr7 v1 v2 v8 (v5 + (1 : Int32)))
noncomputable def X10_piece_c80 (σ : PS) (kr7 : Int32 → Int32 → Int64 → Int32 → Option (Int64)) (kx7 : Int64 → Option (Int64)) (v1 : Int32) (v2 : Int32) (v3 : Int64) (v5 : Int32) (v8 : Int64) : Option (Int64) :=
  X10_piece_c81 σ kr7 kx7  v1 v2 v5 v8 v3
noncomputable def X10_piece_l7 (σ : PS) (kx7 : Int64 → Option (Int64)) : Nat → Int32 → Int32 → Int64 → Int32 → Option (Int64)
  | 0, _, _, _, _ => none
  | n7 + 1, v1, v2, v3, v5 =>
    if (gI σ 500 0 14) ≤ v5 then kx7 v3 else (X10_isLaid v5 v1 σ).bind (fun r1 => if r1 = 0 then (X10_piece_l7 σ kx7 n7) v1 v2 v3 (v5 + (1 : Int32)) else gd (ib (((2 : Int32) * v5) + v2) 80) (nm (gI σ 522 0 (ix (((2 : Int32) * v5) + v2))).toInt64 (fun y3 => gd (ib (((2 : Int32) * v5) + v2) 80) (nm ((gI σ 523 0 (ix (((2 : Int32) * v5) + v2))).toInt64 + (1 : Int64)) (fun y5 => gd (ib v2 2) (if (lg_cmp y3 (gL σ 533 0 (ix v2))) ≤ 0 then X10_piece_c80 σ (X10_piece_l7 σ kx7 n7) kx7  v1 v2 v3 v5 y5 else if 0 ≤ (lg_cmp y3 v3) then X10_piece_c80 σ (X10_piece_l7 σ kx7 n7) kx7  v1 v2 v3 v5 y5 else X10_piece_c81 σ (X10_piece_l7 σ kx7 n7) kx7  v1 v2 v5 y5 y3))))))
noncomputable def X10_piece_c114 (σ : PS) (v3 : Int64) : Option (Int64) :=
  some v3
noncomputable def X10_piece (x1 : Int32) (x2 : Int32) (σ : PS) : Option (Int64) :=
  X10_piece_l7 σ (fun v3 => X10_piece_c114 σ v3) fuel x1 x2 (2147483648 : Int64) (0 : Int32)
-- X10_remember
noncomputable def X10_remember_l70  (kx70 : Int32 → Int64 → Int64 → Int64 → Int64 → Int32 → Int32 → PS → Option (PS)) : Nat → Int32 → Int64 → Int64 → Int64 → Int64 → Int32 → Int32 → PS → Option (PS)
  | 0, _, _, _, _, _, _, _, _ => none
  | n70 + 1, v1, v2, v4, v6, v8, v10, v11, σ =>
    gd (ib v1 4) (if (gI σ 514 0 (ix v1)) ≤ v11 then kx70 v1 v2 v4 v6 v8 v10 v11 σ else gd (ib (v10 + ((4 : Int32) * v11)) 256) (if (lg_cmp (gL σ 513 0 (ix (v10 + ((4 : Int32) * v11)))) v2) = 0 then gd (ib ((v10 + ((4 : Int32) * v11)) + (1 : Int32)) 256) (if (lg_cmp (gL σ 513 0 (ix ((v10 + ((4 : Int32) * v11)) + (1 : Int32)))) v4) = 0 then gd (ib ((v10 + ((4 : Int32) * v11)) + (2 : Int32)) 256) (if (lg_cmp (gL σ 513 0 (ix ((v10 + ((4 : Int32) * v11)) + (2 : Int32)))) v6) = 0 then gd (ib ((v10 + ((4 : Int32) * v11)) + (3 : Int32)) 256) (if (lg_cmp (gL σ 513 0 (ix ((v10 + ((4 : Int32) * v11)) + (3 : Int32)))) v8) = 0 then kx70 v1 v2 v4 v6 v8 v10 v11 σ else (X10_remember_l70  kx70 n70) v1 v2 v4 v6 v8 v10 (v11 + (1 : Int32)) σ) else (X10_remember_l70  kx70 n70) v1 v2 v4 v6 v8 v10 (v11 + (1 : Int32)) σ) else (X10_remember_l70  kx70 n70) v1 v2 v4 v6 v8 v10 (v11 + (1 : Int32)) σ) else (X10_remember_l70  kx70 n70) v1 v2 v4 v6 v8 v10 (v11 + (1 : Int32)) σ))
noncomputable def X10_remember_l262  (kx262 : Int32 → Int64 → Int64 → Int64 → Int64 → Int32 → PS → Option (PS)) : Nat → Int32 → Int64 → Int64 → Int64 → Int64 → Int32 → Int32 → PS → Option (PS)
  | 0, _, _, _, _, _, _, _, _ => none
  | n262 + 1, v1, v2, v4, v6, v8, v10, v13, σ =>
    gd (ib v1 4) (if ((v10 + ((4 : Int32) * (gI σ 514 0 (ix v1)))) - (4 : Int32)) ≤ v13 then kx262 v1 v2 v4 v6 v8 v10 σ else gd (ib (v13 + (4 : Int32)) 256) (gd (ib v13 256) (nm (sL σ 513 0 (ix v13) (gL σ 513 0 (ix (v13 + (4 : Int32))))) (fun σ27 => (X10_remember_l262  kx262 n262) v1 v2 v4 v6 v8 v10 (v13 + (1 : Int32)) σ27))))
noncomputable def X10_remember_c302  (v1 : Int32) (v2 : Int64) (v4 : Int64) (v6 : Int64) (v8 : Int64) (v10 : Int32) (σ : PS) : Option (PS) :=
  gd (ib v1 4) (nm ((v10 + ((4 : Int32) * (gI σ 514 0 (ix v1)))) - (4 : Int32)) (fun y29 => gd (ib y29 256) (nm (sL σ 513 0 (ix y29) v2) (fun σ31 => gd (ib (y29 + (1 : Int32)) 256) (nm (sL σ31 513 0 (ix (y29 + (1 : Int32))) v4) (fun σ33 => gd (ib (y29 + (2 : Int32)) 256) (nm (sL σ33 513 0 (ix (y29 + (2 : Int32))) v6) (fun σ35 => gd (ib (y29 + (3 : Int32)) 256) (nm (sL σ35 513 0 (ix (y29 + (3 : Int32))) v8) (fun σ37 => some σ37))))))))))
noncomputable def X10_remember_c251  (v1 : Int32) (v2 : Int64) (v4 : Int64) (v6 : Int64) (v8 : Int64) (v10 : Int32) (v12 : Int32) (w0 : Int32) (w1 : Int32) (w2 : Int32) (σ : PS) : Option (PS) :=
  gd (ib w2 4) (nm (sI σ 514 0 (ix w2) (w1 + w0)) (fun σ22 => nm (v10 + ((4 : Int32) * v12)) (fun y23 => X10_remember_l262  (fun v1 v2 v4 v6 v8 v10 σ => X10_remember_c302  v1 v2 v4 v6 v8 v10 σ) fuel v1 v2 v4 v6 v8 v10 y23 σ22)))
noncomputable def X10_remember_c226  (v1 : Int32) (v2 : Int64) (v4 : Int64) (v6 : Int64) (v8 : Int64) (v10 : Int32) (w0 : Int32) (σ : PS) : Option (PS) :=
  gd (ib v1 4) (gd (ib v1 4) (if w0 = (gI σ 514 0 (ix v1)) then X10_remember_c251   v1 v2 v4 v6 v8 v10 w0 (1 : Int32) (gI σ 514 0 (ix v1)) v1 σ else X10_remember_c251   v1 v2 v4 v6 v8 v10 w0 (0 : Int32) (gI σ 514 0 (ix v1)) v1 σ))
noncomputable def X10_remember_c187  (v1 : Int32) (v2 : Int64) (v4 : Int64) (v6 : Int64) (v8 : Int64) (v10 : Int32) (v11 : Int32) (w0 : Int32) (w1 : Int32) (w2 : Int32) (σ : PS) : Option (PS) :=
  gd (ib w2 4) (nm (sI σ 512 0 (ix w2) (w1 + w0)) (fun σ15 => gd (ib v1 4) (if (gI σ15 514 0 (ix v1)) ≤ v11 then gd (ib v1 4) (if (gI σ15 514 0 (ix v1)) = (16 : Int32) then X10_remember_c226   v1 v2 v4 v6 v8 v10 (0 : Int32) σ15 else gd (ib v1 4) (X10_remember_c226   v1 v2 v4 v6 v8 v10 (gI σ15 514 0 (ix v1)) σ15)) else X10_remember_c226   v1 v2 v4 v6 v8 v10 v11 σ15)))
noncomputable def X10_remember_c164  (v1 : Int32) (v2 : Int64) (v4 : Int64) (v6 : Int64) (v8 : Int64) (v10 : Int32) (v11 : Int32) (σ : PS) : Option (PS) :=
  gd (ib v1 4) (gd (ib v1 4) (if (gI σ 514 0 (ix v1)) ≤ v11 then X10_remember_c187   v1 v2 v4 v6 v8 v10 v11 (0 : Int32) (gI σ 512 0 (ix v1)) v1 σ else X10_remember_c187   v1 v2 v4 v6 v8 v10 v11 (1 : Int32) (gI σ 512 0 (ix v1)) v1 σ))
noncomputable def X10_remember_c59  (v1 : Int32) (v2 : Int64) (v4 : Int64) (v6 : Int64) (w0 : Int64) (σ : PS) : Option (PS) :=
  nm ((64 : Int32) * v1) (fun y6 => X10_remember_l70  (fun v1 v2 v4 v6 v8 v10 v11 σ => X10_remember_c164  v1 v2 v4 v6 v8 v10 v11 σ) fuel v1 v2 v4 v6 w0 y6 (0 : Int32) σ)
noncomputable def X10_remember_c37  (v1 : Int32) (v2 : Int64) (v4 : Int64) (w0 : Int64) (σ : PS) : Option (PS) :=
  gd (ib v1 4) (if (gI σ 510 0 (ix v1)) = (2 : Int32) then (X10_piece v1 (1 : Int32) σ).bind (fun r38 => X10_remember_c59   v1 v2 v4 w0 r38 σ) else X10_remember_c59   v1 v2 v4 w0 (0 : Int64) σ)
noncomputable def X10_remember (x1 : Int32) (σ : PS) : Option (PS) :=
  gd (ib (0 : Int32) 2) (nm (gI σ 532 0 (ix (0 : Int32))).toInt64 (fun y2 => (X10_piece x1 (0 : Int32) σ).bind (fun r3 => gd (ib x1 4) (if (gI σ 510 0 (ix x1)) = (2 : Int32) then gd (ib (1 : Int32) 2) (X10_remember_c37   x1 y2 r3 (gI σ 532 0 (ix (1 : Int32))).toInt64 σ) else X10_remember_c37   x1 y2 r3 (0 : Int64) σ))))
-- X10_arg
noncomputable def X10_arg (x1 : Int32) (x2 : Int32) (σ : PS) : Option (Int32 × PS) :=
  if x1 < 0 then some ((-2 : Int32), σ) else if (1 : Int32) < x1 then some ((-2 : Int32), σ) else if x2 < 0 then some ((-2 : Int32), σ) else if x2 < (gI σ 500 0 5) then gd (ib x1 2) (nm (sI σ 525 0 (ix x1) x2) (fun σ2 => some ((1 : Int32), σ2))) else some ((-2 : Int32), σ)
-- X10_note
noncomputable def X10_note (x1 : Int32) (σ : PS) : Option (PS) :=
  if (1000 : Int32) ≤ (gI σ 500 0 29) then nm (sI σ 500 0 29 ((gI σ 500 0 29) + (1 : Int32))) (fun σ1 => some σ1) else gd (ib (gI σ 500 0 29) 1000) (nm (sI σ 529 0 (ix (gI σ 500 0 29)) x1) (fun σ3 => nm (sI σ3 500 0 29 ((gI σ3 500 0 29) + (1 : Int32))) (fun σ4 => some σ4)))
-- X10_weight
noncomputable def X10_weight (x1 : Int32) (σ : PS) : Option (Int64) :=
  gd (ib (0 : Int32) 2) (gd (ib x1 4) (if (gI σ 510 0 (ix x1)) = (2 : Int32) then gd (ib (1 : Int32) 2) (some ((gL σ 533 0 (ix (0 : Int32))) + (gL σ 533 0 (ix (1 : Int32))))) else some ((gL σ 533 0 (ix (0 : Int32))) + (0 : Int64))))
-- X10_isBarred
noncomputable def X10_isBarred_l8  (kx8 : PS → Option (Int32 × PS)) : Nat → Int32 → Int32 → Int32 → PS → Option (Int32 × PS)
  | 0, _, _, _, _ => none
  | n8 + 1, v1, v2, v3, σ =>
    if v2 ≤ v3 then kx8 σ else bp (X10_inOrder v1 v3 σ) (fun r2 σ2 => gd (ib r2 40) (if (gI σ2 519 0 (ix r2)) = 0 then (X10_isBarred_l8  kx8 n8) v1 v2 (v3 + (1 : Int32)) σ2 else (X10_takes r2 σ2).bind (fun r4 => if r4 = 0 then (X10_isBarred_l8  kx8 n8) v1 v2 (v3 + (1 : Int32)) σ2 else (X10_note r2 σ2).bind (fun σ5 => (X10_weight v1 σ5).bind (fun r6 => gd (ib r2 40) (if 0 ≤ (lg_cmp r6 (gI σ5 518 0 (ix r2)).toInt64) then (X10_isBarred_l8  kx8 n8) v1 v2 (v3 + (1 : Int32)) σ5 else some ((1 : Int32), σ5)))))))
noncomputable def X10_isBarred_c71  (σ : PS) : Option (Int32 × PS) :=
  some ((0 : Int32), σ)
noncomputable def X10_isBarred (x1 : Int32) (σ : PS) : Option (Int32 × PS) :=
  (X10_laid x1 σ).bind (fun r1 => X10_isBarred_l8  (fun σ => X10_isBarred_c71  σ) fuel x1 r1 (0 : Int32) σ)
-- X10_choose
noncomputable def X10_choose (x1 : Int32) (x2 : Int32) (σ : PS) : Option (Int32) :=
  (X10_offered x1 x2 σ).bind (fun r1 => if r1 = 0 then some (-3 : Int32) else (X10_chosen x1 x2 σ).bind (fun r2 => if 0 ≤ r2 then some r2 else some (-4 : Int32)))
-- X10_begin
noncomputable def X10_begin (x1 : Int32) (σ : PS) : Option (Int32 × PS) :=
  if (gI σ 500 0 30) = (12 : Int32) then some ((-6 : Int32), σ) else nm (sI σ 500 0 30 ((gI σ 500 0 30) + (1 : Int32))) (fun σ1 => bp (X10_isBarred x1 σ1) (fun r2 σ2 => if r2 = 0 then (X10_remember x1 σ2).bind (fun σ3 => (X10_choose x1 (-1 : Int32) σ3).bind (fun r4 => some (r4, σ3))) else some ((-7 : Int32), σ2)))
-- X10_fail
noncomputable def X10_fail (x1 : Int32) (σ : PS) : Option (Int32 × PS) :=
  nm (sI σ 500 0 27 x1) (fun σ1 => some ((-5 : Int32), σ1))
-- X10_end
noncomputable def X10_end (x1 : Int64) (σ : PS) : Option (Int32 × PS) :=
  nm (sL σ 500 0 26 ((gL σ 500 0 26) + x1)) (fun σ1 => some ((-2 : Int32), σ1))
-- X10_turn
noncomputable def X10_turn (σ : PS) : Option (PS) :=
  gd (ib (0 : Int32) 2) (nm (gI σ 532 0 (ix (0 : Int32))) (fun y2 => gd (ib (0 : Int32) 2) (nm (gL σ 533 0 (ix (0 : Int32))) (fun y4 => gd (ib (1 : Int32) 2) (gd (ib (0 : Int32) 2) (nm (sI σ 532 0 (ix (0 : Int32)) (gI σ 532 0 (ix (1 : Int32)))) (fun σ7 => gd (ib (1 : Int32) 2) (gd (ib (0 : Int32) 2) (nm (sL σ7 533 0 (ix (0 : Int32)) (gL σ7 533 0 (ix (1 : Int32)))) (fun σ10 => gd (ib (1 : Int32) 2) (nm (sI σ10 532 0 (ix (1 : Int32)) y2) (fun σ12 => gd (ib (1 : Int32) 2) (nm (sL σ12 533 0 (ix (1 : Int32)) y4) (fun σ14 => some σ14))))))))))))))
-- X10_rest
noncomputable def X10_rest (x0 : Int32) (x1 : Int32) (σ : PS) : Option (Int32) :=
  gd (decide (¬ x1 = 0)) (nm (x0 - x0 / x1 * x1) (fun y2 => if 0 ≤ y2 then some y2 else some (y2 + x1)))
-- X10_callOn
noncomputable def X10_callOn (x1 : Int32) (x2 : Int32) (σ : PS) : Option (Int32 × PS) :=
  gd (ib x2 40) ((X10_rest (gI σ 518 0 (ix x2)) (4 : Int32) σ).bind (fun r2 => (X10_isFunction r2 σ).bind (fun r3 => if r3 = 0 then bp (X10_fail (-2 : Int32) σ) (fun r4 σ4 => some (r4, σ4)) else gd (ib r2 4) (gd (ib x1 4) (if (gI σ 510 0 (ix r2)) = (gI σ 510 0 (ix x1)) then gd (ib x2 40) (if (gI σ 517 0 (ix x2)) = (7 : Int32) then gd (ib x1 4) (if (gI σ 510 0 (ix x1)) = (2 : Int32) then (X10_turn  σ).bind (fun σ13 => nm (sL σ13 500 0 26 ((gL σ13 500 0 26) + (1 : Int64))) (fun σ14 => bp (X10_begin r2 σ14) (fun r15 σ15 => some (r15, σ15)))) else nm (sL σ 500 0 26 ((gL σ 500 0 26) + (1 : Int64))) (fun σ11 => bp (X10_begin r2 σ11) (fun r12 σ12 => some (r12, σ12)))) else nm (sL σ 500 0 26 ((gL σ 500 0 26) + (1 : Int64))) (fun σ8 => bp (X10_begin r2 σ8) (fun r9 σ9 => some (r9, σ9)))) else bp (X10_fail (-2 : Int32) σ) (fun r16 σ16 => some (r16, σ16)))))))
-- X10_grow
noncomputable def X10_grow (x1 : Int32) (σ : PS) : Option (Int32 × PS) :=
  if (gI σ 500 0 5) = (300 : Int32) then bp (X10_fail (-1 : Int32) σ) (fun r9 σ9 => some (r9, σ9)) else gd (ib (0 : Int32) 2) (gd (ib (gI σ 500 0 5) 300) (nm (sI σ 507 0 (ix (gI σ 500 0 5)) (gI σ 532 0 (ix (0 : Int32)))) (fun σ3 => gd (ib (0 : Int32) 2) (gd (ib (gI σ3 500 0 5) 300) (nm (sI σ3 508 0 (ix (gI σ3 500 0 5)) ((gL σ3 533 0 (ix (0 : Int32))) + x1.toInt64).toInt32) (fun σ6 => nm (sI σ6 500 0 5 ((gI σ6 500 0 5) + (1 : Int32))) (fun σ7 => bp (X10_end ((gI σ7 500 0 5) - (1 : Int32)).toInt64 σ7) (fun r8 σ8 => some (r8, σ8)))))))))
-- X10_run
noncomputable def X10_run (x1 : Int32) (x2 : Int32) (σ : PS) : Option (Int32 × PS) :=
  gd (ib x2 40) (nm (gI σ 518 0 (ix x2)) (fun y2 => (X10_note x2 σ).bind (fun σ3 => gd (ib x2 40) (if (gI σ3 517 0 (ix x2)) = (0 : Int32) then bp (X10_end y2.toInt64 σ3) (fun r5 σ5 => some (r5, σ5)) else if (gI σ3 517 0 (ix x2)) = (1 : Int32) then (X10_weight x1 σ3).bind (fun r6 => bp (X10_end (r6 + y2.toInt64) σ3) (fun r7 σ7 => some (r7, σ7))) else if (gI σ3 517 0 (ix x2)) = (2 : Int32) then (X10_offered x1 x2 σ3).bind (fun r8 => if r8 = 0 then bp (X10_end y2.toInt64 σ3) (fun r11 σ11 => some (r11, σ11)) else nm (sL σ3 500 0 26 ((gL σ3 500 0 26) + y2.toInt64)) (fun σ9 => (X10_choose x1 x2 σ9).bind (fun r10 => some (r10, σ9)))) else if (gI σ3 517 0 (ix x2)) = (3 : Int32) then bp (X10_fail y2 σ3) (fun r12 σ12 => some (r12, σ12)) else if (gI σ3 517 0 (ix x2)) = (4 : Int32) then (X10_rest y2 (8 : Int32) σ3).bind (fun r13 => gd (ib r13 8) (gd (ib r13 8) (nm (sI σ3 524 0 (ix r13) ((gI σ3 524 0 (ix r13)) + (1 : Int32))) (fun σ16 => gd (ib r13 8) (bp (X10_end (gI σ16 524 0 (ix r13)).toInt64 σ16) (fun r18 σ18 => some (r18, σ18))))))) else if (gI σ3 517 0 (ix x2)) = (5 : Int32) then bp (X10_grow y2 σ3) (fun r19 σ19 => some (r19, σ19)) else bp (X10_callOn x1 x2 σ3) (fun r20 σ20 => some (r20, σ20))))))
-- X10_call
noncomputable def X10_call_l48  (kx48 : Int32 → PS → Option (Int32 × PS)) : Nat → Int32 → PS → Option (Int32 × PS)
  | 0, _, _ => none
  | n48 + 1, v2, σ =>
    if v2 < 0 then kx48 v2 σ else gd (ib v2 40) (bp (X10_run (gI σ 516 0 (ix v2)) v2 σ) (fun r9 σ9 => (X10_call_l48  kx48 n48) r9 σ9))
noncomputable def X10_call_c67  (v2 : Int32) (σ : PS) : Option (Int32 × PS) :=
  nm (sI σ 500 0 25 ((-2 : Int32) - v2)) (fun σ10 => some ((gI σ10 500 0 25), σ10))
noncomputable def X10_call (x1 : Int32) (σ : PS) : Option (Int32 × PS) :=
  (X10_isFunction x1 σ).bind (fun r1 => if r1 = 0 then some ((-2 : Int32), σ) else bp (X10_tellRow x1 σ) (fun r2 σ2 => if r2 = 0 then some ((-3 : Int32), σ2) else nm (sI σ2 500 0 29 (0 : Int32)) (fun σ3 => nm (sI σ3 500 0 30 (0 : Int32)) (fun σ4 => nm (sL σ4 500 0 26 (0 : Int64)) (fun σ5 => nm (sI σ5 500 0 27 (0 : Int32)) (fun σ6 => bp (X10_begin x1 σ6) (fun r7 σ7 => X10_call_l48  (fun v2 σ => X10_call_c67  v2 σ) fuel r7 σ7)))))))
-- X10_value
noncomputable def X10_value (σ : PS) : Option (Int64) :=
  if (gI σ 500 0 25) = 0 then some (gL σ 500 0 26) else some (0 : Int64)
-- X10_failure
noncomputable def X10_failure (σ : PS) : Option (Int32) :=
  if (gI σ 500 0 25) = (3 : Int32) then some (gI σ 500 0 27) else some (0 : Int32)
-- X10_step
noncomputable def X10_step (x1 : Int32) (σ : PS) : Option (Int32) :=
  if x1 < 0 then some (-1 : Int32) else if (gI σ 500 0 29) ≤ x1 then some (-1 : Int32) else if x1 < (1000 : Int32) then gd (ib x1 1000) (some (gI σ 529 0 (ix x1))) else some (-1 : Int32)
-- X10_counter
noncomputable def X10_counter (x1 : Int32) (σ : PS) : Option (Int32) :=
  if x1 < 0 then some (-1 : Int32) else if x1 ≤ (7 : Int32) then gd (ib x1 8) (some (gI σ 524 0 (ix x1))) else some (-1 : Int32)
-- X10_applicable
noncomputable def X10_applicable_l26  (kx26 : Int32 → PS → Option (Int32 × PS)) : Nat → Int32 → Int32 → Int32 → Int32 → Int32 → PS → Option (Int32 × PS)
  | 0, _, _, _, _, _, _ => none
  | n26 + 1, v1, v2, v3, v4, v5, σ =>
    if (gI σ 500 0 14) ≤ v5 then kx26 v4 σ else (X10_isOffered v5 v1 (-1 : Int32) σ).bind (fun r3 => if r3 = 0 then (X10_applicable_l26  kx26 n26) v1 v2 v3 v4 (v5 + (1 : Int32)) σ else if v3 = v2 then (X10_applicable_l26  kx26 n26) v1 v2 (v3 + (1 : Int32)) v5 (v5 + (1 : Int32)) σ else (X10_applicable_l26  kx26 n26) v1 v2 (v3 + (1 : Int32)) v4 (v5 + (1 : Int32)) σ)
noncomputable def X10_applicable_c69  (v4 : Int32) (σ : PS) : Option (Int32 × PS) :=
  some (v4, σ)
noncomputable def X10_applicable (x1 : Int32) (x2 : Int32) (σ : PS) : Option (Int32 × PS) :=
  (X10_isFunction x1 σ).bind (fun r1 => if r1 = 0 then some ((-1 : Int32), σ) else bp (X10_tellRow x1 σ) (fun r2 σ2 => if r2 = 0 then some ((-1 : Int32), σ2) else X10_applicable_l26  (fun v4 σ => X10_applicable_c69  v4 σ) fuel x1 x2 (0 : Int32) (-1 : Int32) (0 : Int32) σ2))
-- X10_most
noncomputable def X10_most (x1 : Int32) (σ : PS) : Option (Int32 × PS) :=
  (X10_isFunction x1 σ).bind (fun r1 => if r1 = 0 then some ((-1 : Int32), σ) else bp (X10_tellRow x1 σ) (fun r2 σ2 => if r2 = 0 then some ((-1 : Int32), σ2) else (X10_chosen x1 (-1 : Int32) σ2).bind (fun r3 => some (r3, σ2))))
-- X10_moreThan
noncomputable def X10_moreThan_l10 (σ : PS) (kx10 : Int32 → Option (Int32)) : Nat → Int32 → Int32 → Int32 → Int32 → Option (Int32)
  | 0, _, _, _, _ => none
  | n10 + 1, v1, v2, v3, v4 =>
    if v4 < 0 then kx10 v3 else (X10_isOffered v4 v1 (-1 : Int32) σ).bind (fun r2 => if r2 = 0 then (X10_moreThan_l10 σ kx10 n10) v1 v2 v3 (v4 + (-1 : Int32)) else (X10_isMore v4 v2 σ).bind (fun r3 => if r3 = 0 then (X10_moreThan_l10 σ kx10 n10) v1 v2 v3 (v4 + (-1 : Int32)) else (X10_moreThan_l10 σ kx10 n10) v1 v2 v4 (v4 + (-1 : Int32))))
noncomputable def X10_moreThan_c49 (σ : PS) (v3 : Int32) : Option (Int32) :=
  some v3
noncomputable def X10_moreThan (x1 : Int32) (x2 : Int32) (σ : PS) : Option (Int32) :=
  nm ((gI σ 500 0 14) - (1 : Int32)) (fun y1 => X10_moreThan_l10 σ (fun v3 => X10_moreThan_c49 σ v3) fuel x1 x2 (-1 : Int32) y1)
-- X10_explain
noncomputable def X10_explain_l145  (kx145 : PS → Option (Int32 × PS)) : Nat → Int32 → Int32 → Int32 → PS → Option (Int32 × PS)
  | 0, _, _, _, _ => none
  | n145 + 1, v1, v2, v3, σ =>
    if v3 < 0 then kx145 σ else if v3 = v1 then nm (sI σ 500 0 33 (gI σ 500 0 33)) (fun σ14 => (X10_explain_l145  kx145 n145) v1 v2 (v3 + (-1 : Int32)) σ14) else (X10_isOffered v3 v2 (-1 : Int32) σ).bind (fun r15 => if r15 = 0 then nm (sI σ 500 0 33 (gI σ 500 0 33)) (fun σ16 => (X10_explain_l145  kx145 n145) v1 v2 (v3 + (-1 : Int32)) σ16) else (X10_isMore v1 v3 σ).bind (fun r17 => if r17 = 0 then nm (sI σ 500 0 33 v3) (fun σ19 => (X10_explain_l145  kx145 n145) v1 v2 (v3 + (-1 : Int32)) σ19) else nm (sI σ 500 0 33 (gI σ 500 0 33)) (fun σ18 => (X10_explain_l145  kx145 n145) v1 v2 (v3 + (-1 : Int32)) σ18)))
noncomputable def X10_explain_c191  (σ : PS) : Option (Int32 × PS) :=
  some ((5 : Int32), σ)
noncomputable def X10_explain_c56  (v1 : Int32) (v2 : Int32) (σ : PS) : Option (Int32 × PS) :=
  gd (ib v1 40) (if (gI σ 520 0 (ix v1)) = (1 : Int32) then gd (ib v1 40) (if (gI σ 519 0 (ix v1)) = 0 then (X10_takes v1 σ).bind (fun r10 => if r10 = 0 then (X10_takesAt v1 (0 : Int32) σ).bind (fun r20 => if r20 = 0 then nm (sI σ 500 0 33 (0 : Int32)) (fun σ21 => some ((3 : Int32), σ21)) else nm (sI σ 500 0 33 (1 : Int32)) (fun σ22 => some ((3 : Int32), σ22))) else (X10_moreThan v2 v1 σ).bind (fun r11 => nm (sI σ 500 0 33 r11) (fun σ12 => if (gI σ12 500 0 33) < 0 then nm ((gI σ12 500 0 14) - (1 : Int32)) (fun y13 => X10_explain_l145  (fun σ => X10_explain_c191  σ) fuel v1 v2 y13 σ12) else some ((4 : Int32), σ12)))) else gd (ib v1 40) (if (gI σ 520 0 (ix v1)) = (1 : Int32) then some ((2 : Int32), σ) else some ((1 : Int32), σ))) else gd (ib v1 40) (if (gI σ 520 0 (ix v1)) = (1 : Int32) then some ((2 : Int32), σ) else some ((1 : Int32), σ)))
noncomputable def X10_explain (x1 : Int32) (σ : PS) : Option (Int32 × PS) :=
  (X10_isHandler x1 σ).bind (fun r1 => if r1 = 0 then some ((-2 : Int32), σ) else gd (ib x1 40) (nm (gI σ 516 0 (ix x1)) (fun y3 => bp (X10_tellRow y3 σ) (fun r4 σ4 => if r4 = 0 then some ((-3 : Int32), σ4) else nm (sI σ4 500 0 33 (-1 : Int32)) (fun σ5 => (X10_isOffered x1 y3 (-1 : Int32) σ5).bind (fun r6 => if r6 = 0 then X10_explain_c56   x1 y3 σ5 else (X10_chosen y3 (-1 : Int32) σ5).bind (fun r24 => if r24 = x1 then some ((0 : Int32), σ5) else X10_explain_c56   x1 y3 σ5)))))))
-- X10_where
noncomputable def X10_where (σ : PS) : Option (Int32) :=
  some (gI σ 500 0 33)
-- X10_countAll
noncomputable def X10_countAll (x1 : Int32) (σ : PS) : Option (Int32) :=
  if x1 = (0 : Int32) then some (gI σ 500 0 8) else if x1 = (1 : Int32) then some (gI σ 500 0 14) else if x1 = (2 : Int32) then if (gI σ 500 0 4) = 0 then some (0 : Int32) else some (1 : Int32) else if x1 = (3 : Int32) then some (gI σ 500 0 29) else if x1 = (4 : Int32) then some (gI σ 500 0 30) else some (-2 : Int32)
-- X10_count
noncomputable def X10_count (x1 : Int32) (x2 : Int32) (σ : PS) : Option (Int32) :=
  if x1 = (-1 : Int32) then (X10_countAll x2 σ).bind (fun r7 => some r7) else (X10_isFunction x1 σ).bind (fun r1 => if r1 = 0 then some (-2 : Int32) else if x2 < 0 then some (-2 : Int32) else if x2 ≤ (4 : Int32) then if x2 = 0 then gd (ib x1 4) (some (gI σ 510 0 (ix x1))) else if x2 = (1 : Int32) then (X10_laid x1 σ).bind (fun r5 => some r5) else if x2 = (2 : Int32) then gd (ib x1 4) (if (gI σ 511 0 (ix x1)) = 0 then some (0 : Int32) else some (1 : Int32)) else if x2 = (3 : Int32) then gd (ib x1 4) (some (gI σ 512 0 (ix x1))) else gd (ib x1 4) (some (gI σ 514 0 (ix x1))) else some (-2 : Int32))
-- X10_findEdges
noncomputable def X10_findEdges_c107  (kr35 : Int32 → Int32 → Int32 → Int64 → Int64 → Int32 → PS → Option (PS)) (kx35 : Int32 → Int32 → Int32 → Int64 → Int64 → PS → Option (PS)) (v1 : Int32) (v2 : Int32) (v3 : Int32) (v4 : Int64) (v9 : Int32) (v12 : Int64) (w0 : Int64) (σ : PS) : Option (PS) :=
  if (lg_cmp v12 v4) ≤ 0 then kr35 v1 v2 v3 v4 w0 (v9 + (1 : Int32)) σ else if 0 ≤ (lg_cmp v12 w0) then kr35 v1 v2 v3 v4 w0 (v9 + (1 : Int32)) σ else kr35 v1 v2 v3 v4 v12 (v9 + (1 : Int32)) σ
noncomputable def X10_findEdges_c105  (kr35 : Int32 → Int32 → Int32 → Int64 → Int64 → Int32 → PS → Option (PS)) (kx35 : Int32 → Int32 → Int32 → Int64 → Int64 → PS → Option (PS)) (v1 : Int32) (v2 : Int32) (v3 : Int32) (v4 : Int64) (v7 : Int64) (v9 : Int32) (v12 : Int64) (σ : PS) : Option (PS) :=
  X10_findEdges_c107  kr35 kx35  v1 v2 v3 v4 v9 v12 v7 σ
noncomputable def X10_findEdges_l35  (kx35 : Int32 → Int32 → Int32 → Int64 → Int64 → PS → Option (PS)) : Nat → Int32 → Int32 → Int32 → Int64 → Int64 → Int32 → PS → Option (PS)
  | 0, _, _, _, _, _, _, _ => none
  | n35 + 1, v1, v2, v3, v4, v7, v9, σ =>
    if (gI σ 500 0 14) ≤ v9 then kx35 v1 v2 v3 v4 v7 σ else (X10_isLaid v9 v1 σ).bind (fun r3 => if r3 = 0 then (X10_findEdges_l35  kx35 n35) v1 v2 v3 v4 v7 (v9 + (1 : Int32)) σ else gd (ib (((2 : Int32) * v9) + v2) 80) (nm (gI σ 522 0 (ix (((2 : Int32) * v9) + v2))).toInt64 (fun y5 => gd (ib (((2 : Int32) * v9) + v2) 80) (nm ((gI σ 523 0 (ix (((2 : Int32) * v9) + v2))).toInt64 + (1 : Int64)) (fun y7 => if (lg_cmp y5 v4) ≤ 0 then X10_findEdges_c105  (X10_findEdges_l35  kx35 n35) kx35  v1 v2 v3 v4 v7 v9 y7 σ else if 0 ≤ (lg_cmp y5 v7) then X10_findEdges_c105  (X10_findEdges_l35  kx35 n35) kx35  v1 v2 v3 v4 v7 v9 y7 σ else X10_findEdges_c107  (X10_findEdges_l35  kx35 n35) kx35  v1 v2 v3 v4 v9 y7 y5 σ)))))
noncomputable def X10_findEdges_c154  (kr22 : Int32 → Int32 → Int32 → Int64 → Int32 → PS → Option (PS)) (kx22 : Int32 → Int32 → PS → Option (PS)) (v1 : Int32) (v2 : Int32) (v3 : Int32) (v4 : Int64) (v7 : Int64) (w0 : Int32) (σ : PS) : Option (PS) :=
  if w0 = 0 then kr22 v1 v2 v3 v4 w0 σ else gd (ib (((34 : Int32) * v2) + v3) 68) (nm (sL σ 536 0 (ix (((34 : Int32) * v2) + v3)) v7) (fun σ9 => kr22 v1 v2 (v3 + (1 : Int32)) v7 w0 σ9))
noncomputable def X10_findEdges_c140  (kr22 : Int32 → Int32 → Int32 → Int64 → Int32 → PS → Option (PS)) (kx22 : Int32 → Int32 → PS → Option (PS)) (v1 : Int32) (v2 : Int32) (v3 : Int32) (v4 : Int64) (v7 : Int64) (σ : PS) : Option (PS) :=
  if 0 ≤ (lg_cmp v7 (2147483648 : Int64)) then X10_findEdges_c154  kr22 kx22  v1 v2 v3 v4 v7 (0 : Int32) σ else X10_findEdges_c154  kr22 kx22  v1 v2 v3 v4 v7 (1 : Int32) σ
noncomputable def X10_findEdges_l22  (kx22 : Int32 → Int32 → PS → Option (PS)) : Nat → Int32 → Int32 → Int32 → Int64 → Int32 → PS → Option (PS)
  | 0, _, _, _, _, _, _ => none
  | n22 + 1, v1, v2, v3, v4, v6, σ =>
    if v6 = 0 then kx22 v2 v3 σ else X10_findEdges_l35  (fun v1 v2 v3 v4 v7 σ => X10_findEdges_c140  (X10_findEdges_l22  kx22 n22) kx22 v1 v2 v3 v4 v7 σ) fuel v1 v2 v3 v4 (2147483648 : Int64) (0 : Int32) σ
noncomputable def X10_findEdges_c184  (v2 : Int32) (v3 : Int32) (σ : PS) : Option (PS) :=
  gd (ib v2 2) (nm (sI σ 537 0 (ix v2) v3) (fun σ11 => some σ11))
noncomputable def X10_findEdges (x1 : Int32) (x2 : Int32) (σ : PS) : Option (PS) :=
  gd (ib ((34 : Int32) * x2) 68) (nm (sL σ 536 0 (ix ((34 : Int32) * x2)) (-2147483648 : Int64)) (fun σ2 => X10_findEdges_l22  (fun v2 v3 σ => X10_findEdges_c184  v2 v3 σ) fuel x1 x2 (1 : Int32) (-2147483648 : Int64) (1 : Int32) σ2))
-- X10_nextClass
noncomputable def X10_nextClass_l2 (σ : PS) (kx2 : Int32 → Option (Int32)) : Nat → Int32 → Option (Int32)
  | 0, _ => none
  | n2 + 1, v2 =>
    if (12 : Int32) ≤ v2 then kx2 v2 else gd (ib v2 12) (if (gI σ 504 0 (ix v2)) = 0 then kx2 v2 else (X10_nextClass_l2 σ kx2 n2) (v2 + (1 : Int32)))
noncomputable def X10_nextClass_c23 (σ : PS) (v2 : Int32) : Option (Int32) :=
  some v2
noncomputable def X10_nextClass (x1 : Int32) (σ : PS) : Option (Int32) :=
  X10_nextClass_l2 σ (fun v2 => X10_nextClass_c23 σ v2) fuel x1
-- X10_firstTuple
noncomputable def X10_firstTuple_c54  (kr2 : Int32 → Int32 → PS → Option (Int32 × PS)) (kx2 : PS → Option (Int32 × PS)) (v1 : Int32) (v2 : Int32) (w0 : Int64) (w1 : Int32) (σ : PS) : Option (Int32 × PS) :=
  gd (ib w1 2) (nm (sL σ 533 0 (ix w1) w0) (fun σ6 => gd (ib v2 2) (nm (sI σ6 538 0 (ix v2) (0 : Int32)) (fun σ8 => gd (ib v1 4) (if (gI σ8 510 0 (ix v1)) ≤ v2 then kr2 v1 (v2 + (1 : Int32)) σ8 else (X10_findEdges v1 v2 σ8).bind (fun σ10 => kr2 v1 (v2 + (1 : Int32)) σ10))))))
noncomputable def X10_firstTuple_c31  (kr2 : Int32 → Int32 → PS → Option (Int32 × PS)) (kx2 : PS → Option (Int32 × PS)) (v1 : Int32) (v2 : Int32) (w0 : Int32) (w1 : Int32) (σ : PS) : Option (Int32 × PS) :=
  gd (ib w1 2) (nm (sI σ 532 0 (ix w1) w0) (fun σ3 => gd (ib v1 4) (if (gI σ3 510 0 (ix v1)) ≤ v2 then X10_firstTuple_c54  kr2 kx2  v1 v2 (0 : Int64) v2 σ3 else X10_firstTuple_c54  kr2 kx2  v1 v2 (-2147483648 : Int64) v2 σ3)))
noncomputable def X10_firstTuple_l2  (kx2 : PS → Option (Int32 × PS)) : Nat → Int32 → Int32 → PS → Option (Int32 × PS)
  | 0, _, _, _ => none
  | n2 + 1, v1, v2, σ =>
    if (2 : Int32) ≤ v2 then kx2 σ else gd (ib v1 4) (if (gI σ 510 0 (ix v1)) ≤ v2 then X10_firstTuple_c31  (X10_firstTuple_l2  kx2 n2) kx2  v1 v2 (0 : Int32) v2 σ else (X10_nextClass (0 : Int32) σ).bind (fun r11 => X10_firstTuple_c31  (X10_firstTuple_l2  kx2 n2) kx2  v1 v2 r11 v2 σ))
noncomputable def X10_firstTuple_c84  (σ : PS) : Option (Int32 × PS) :=
  (X10_nextClass (0 : Int32) σ).bind (fun r12 => if (12 : Int32) ≤ r12 then some ((0 : Int32), σ) else some ((1 : Int32), σ))
noncomputable def X10_firstTuple (x1 : Int32) (σ : PS) : Option (Int32 × PS) :=
  X10_firstTuple_l2  (fun σ => X10_firstTuple_c84  σ) fuel x1 (0 : Int32) σ
-- X10_nextAt
noncomputable def X10_nextAt_l9  (kx9 : Int32 → PS → Option (Int32 × PS)) : Nat → Int32 → Int32 → PS → Option (Int32 × PS)
  | 0, _, _, _ => none
  | n9 + 1, v2, v3, σ =>
    if v3 ≤ v2 then kx9 v2 σ else (X10_nextClass (0 : Int32) σ).bind (fun r3 => gd (ib v3 2) (nm (sI σ 532 0 (ix v3) r3) (fun σ5 => gd (ib v3 2) (nm (sL σ5 533 0 (ix v3) (-2147483648 : Int64)) (fun σ7 => gd (ib v3 2) (nm (sI σ7 538 0 (ix v3) (0 : Int32)) (fun σ9 => (X10_nextAt_l9  kx9 n9) v2 (v3 + (-1 : Int32)) σ9)))))))
noncomputable def X10_nextAt_l49  (kx49 : PS → Option (Int32 × PS)) : Nat → Int32 → PS → Option (Int32 × PS)
  | 0, _, _ => none
  | n49 + 1, v3, σ =>
    if v3 < 0 then kx49 σ else gd (ib v3 2) (gd (ib v3 2) (nm (sI σ 538 0 (ix v3) ((gI σ 538 0 (ix v3)) + (1 : Int32))) (fun σ12 => gd (ib v3 2) (gd (ib v3 2) (if (gI σ12 537 0 (ix v3)) ≤ (gI σ12 538 0 (ix v3)) then gd (ib v3 2) (nm (sI σ12 538 0 (ix v3) (0 : Int32)) (fun σ16 => gd (ib v3 2) (nm (sL σ16 533 0 (ix v3) (-2147483648 : Int64)) (fun σ18 => gd (ib v3 2) ((X10_nextClass ((gI σ18 532 0 (ix v3)) + (1 : Int32)) σ18).bind (fun r20 => gd (ib v3 2) (nm (sI σ18 532 0 (ix v3) r20) (fun σ22 => gd (ib v3 2) (if (12 : Int32) ≤ (gI σ22 532 0 (ix v3)) then (X10_nextClass (0 : Int32) σ22).bind (fun r24 => gd (ib v3 2) (nm (sI σ22 532 0 (ix v3) r24) (fun σ26 => (X10_nextAt_l49  kx49 n49) (v3 + (-1 : Int32)) σ26))) else some ((1 : Int32), σ22)))))))))) else gd (ib v3 2) (gd (ib (((34 : Int32) * v3) + (gI σ12 538 0 (ix v3))) 68) (gd (ib v3 2) (nm (sL σ12 533 0 (ix v3) (gL σ12 536 0 (ix (((34 : Int32) * v3) + (gI σ12 538 0 (ix v3)))))) (fun σ30 => some ((1 : Int32), σ30))))))))))
noncomputable def X10_nextAt_c166  (σ : PS) : Option (Int32 × PS) :=
  some ((0 : Int32), σ)
noncomputable def X10_nextAt_c47  (v2 : Int32) (σ : PS) : Option (Int32 × PS) :=
  X10_nextAt_l49  (fun σ => X10_nextAt_c166  σ) fuel v2 σ
noncomputable def X10_nextAt (x1 : Int32) (x2 : Int32) (σ : PS) : Option (Int32 × PS) :=
  gd (ib x1 4) (nm ((gI σ 510 0 (ix x1)) - (1 : Int32)) (fun y2 => X10_nextAt_l9  (fun v2 σ => X10_nextAt_c47  v2 σ) fuel x2 y2 σ))
-- X10_nextTuple
noncomputable def X10_nextTuple (x1 : Int32) (σ : PS) : Option (Int32 × PS) :=
  gd (ib x1 4) (bp (X10_nextAt x1 ((gI σ 510 0 (ix x1)) - (1 : Int32)) σ) (fun r2 σ2 => gd (isB r2) (some (r2, σ2))))
-- X10_keepTuple
noncomputable def X10_keepTuple_c33  (kr2 : Int32 → Int32 → PS → Option (PS)) (kx2 : PS → Option (PS)) (v1 : Int32) (v2 : Int32) (w0 : Int64) (w1 : Int32) (σ : PS) : Option (PS) :=
  gd (ib w1 4) (nm (sL σ 539 0 (ix w1) w0) (fun σ3 => gd (ib v1 4) (if (gI σ3 510 0 (ix v1)) ≤ v2 then gd (ib ((2 : Int32) + v2) 4) (nm (sL σ3 539 0 (ix ((2 : Int32) + v2)) (0 : Int64)) (fun σ6 => kr2 v1 (v2 + (1 : Int32)) σ6)) else gd (ib v2 2) (gd (ib ((2 : Int32) + v2) 4) (nm (sL σ3 539 0 (ix ((2 : Int32) + v2)) (gL σ3 533 0 (ix v2))) (fun σ9 => kr2 v1 (v2 + (1 : Int32)) σ9))))))
noncomputable def X10_keepTuple_l2  (kx2 : PS → Option (PS)) : Nat → Int32 → Int32 → PS → Option (PS)
  | 0, _, _, _ => none
  | n2 + 1, v1, v2, σ =>
    if (2 : Int32) ≤ v2 then kx2 σ else gd (ib v1 4) (if (gI σ 510 0 (ix v1)) ≤ v2 then X10_keepTuple_c33  (X10_keepTuple_l2  kx2 n2) kx2  v1 v2 (0 : Int64) v2 σ else gd (ib v2 2) (X10_keepTuple_c33  (X10_keepTuple_l2  kx2 n2) kx2  v1 v2 (gI σ 532 0 (ix v2)).toInt64 v2 σ))
noncomputable def X10_keepTuple_c68  (σ : PS) : Option (PS) :=
  some σ
noncomputable def X10_keepTuple (x1 : Int32) (σ : PS) : Option (PS) :=
  X10_keepTuple_l2  (fun σ => X10_keepTuple_c68  σ) fuel x1 (0 : Int32) σ
-- X10_findHole
noncomputable def X10_findHole_l6  (kx6 : Int32 → Int32 → PS → Option (Int32 × PS)) : Nat → Int32 → Int32 → PS → Option (Int32 × PS)
  | 0, _, _, _ => none
  | n6 + 1, v1, v2, σ =>
    if v2 = 0 then kx6 v1 v2 σ else (X10_chosen v1 (-1 : Int32) σ).bind (fun r2 => if r2 < 0 then kx6 v1 v2 σ else bp (X10_nextTuple v1 σ) (fun r3 σ3 => (X10_findHole_l6  kx6 n6) v1 r3 σ3))
noncomputable def X10_findHole_c28  (v1 : Int32) (v2 : Int32) (σ : PS) : Option (Int32 × PS) :=
  (X10_keepTuple v1 σ).bind (fun σ4 => gd (isB v2) (some (v2, σ4)))
noncomputable def X10_findHole (x1 : Int32) (σ : PS) : Option (Int32 × PS) :=
  bp (X10_firstTuple x1 σ) (fun r1 σ1 => X10_findHole_l6  (fun v1 v2 σ => X10_findHole_c28  v1 v2 σ) fuel x1 r1 σ1)
-- X10_covered
noncomputable def X10_covered (x1 : Int32) (σ : PS) : Option (Int32 × PS) :=
  (X10_isFunction x1 σ).bind (fun r1 => if r1 = 0 then some ((-2 : Int32), σ) else bp (X10_findHole x1 σ) (fun r2 σ2 => if r2 = 0 then some ((1 : Int32), σ2) else some ((0 : Int32), σ2)))
-- X10_hole
noncomputable def X10_hole (x1 : Int32) (x2 : Int32) (σ : PS) : Option (Int64 × PS) :=
  (X10_isFunction x1 σ).bind (fun r1 => if r1 = 0 then some ((1099511627776 : Int64), σ) else if x2 < 0 then some ((1099511627776 : Int64), σ) else if (4 : Int32) ≤ x2 then some ((1099511627776 : Int64), σ) else bp (X10_findHole x1 σ) (fun r2 σ2 => if r2 = 0 then some ((1099511627776 : Int64), σ2) else gd (ib x2 4) (some ((gL σ2 539 0 (ix x2)), σ2))))
-- X10_areInDoubt
noncomputable def X10_areInDoubt_l24 (σ : PS) (kx24 : Int32 → Option (Int32)) : Nat → Int32 → Int32 → Int32 → Int32 → Int32 → Option (Int32)
  | 0, _, _, _, _, _ => none
  | n24 + 1, v1, v2, v3, v4, v5 =>
    if (gI σ 500 0 14) ≤ v5 then kx24 v4 else if v4 = 0 then (X10_areInDoubt_l24 σ kx24 n24) v1 v2 v3 (0 : Int32) (v5 + (1 : Int32)) else (X10_isOffered v5 v1 (-1 : Int32) σ).bind (fun r3 => if r3 = 0 then (X10_areInDoubt_l24 σ kx24 n24) v1 v2 v3 (1 : Int32) (v5 + (1 : Int32)) else (X10_isMore v5 v2 σ).bind (fun r4 => if r4 = 0 then (X10_areInDoubt_l24 σ kx24 n24) v1 v2 v3 (1 : Int32) (v5 + (1 : Int32)) else (X10_isMore v5 v3 σ).bind (fun r5 => if r5 = 0 then (X10_areInDoubt_l24 σ kx24 n24) v1 v2 v3 (1 : Int32) (v5 + (1 : Int32)) else (X10_areInDoubt_l24 σ kx24 n24) v1 v2 v3 (0 : Int32) (v5 + (1 : Int32)))))
noncomputable def X10_areInDoubt_c82 (σ : PS) (v4 : Int32) : Option (Int32) :=
  gd (isB v4) (some v4)
noncomputable def X10_areInDoubt (x1 : Int32) (x2 : Int32) (x3 : Int32) (σ : PS) : Option (Int32) :=
  (X10_takes x2 σ).bind (fun r1 => if r1 = 0 then some (0 : Int32) else (X10_takes x3 σ).bind (fun r2 => if r2 = 0 then some (0 : Int32) else X10_areInDoubt_l24 σ (fun v4 => X10_areInDoubt_c82 σ v4) fuel x1 x2 x3 (1 : Int32) (0 : Int32)))
-- X10_findDoubt
noncomputable def X10_findDoubt_c85  (kr30 : Int32 → Int32 → Int32 → Int32 → Int32 → PS → Option (Int32 × PS)) (kx30 : Int32 → Int32 → PS → Option (Int32 × PS)) (v1 : Int32) (v2 : Int32) (v3 : Int32) (v4 : Int32) (v6 : Int32) (w0 : Int32) (σ : PS) : Option (Int32 × PS) :=
  if w0 = 0 then if v6 = 0 then bp (X10_nextAt v1 (0 : Int32) σ) (fun r5 σ5 => kr30 v1 v2 v3 r5 w0 σ5) else bp (X10_nextTuple v1 σ) (fun r6 σ6 => kr30 v1 v2 v3 r6 w0 σ6) else kr30 v1 v2 v3 v4 w0 σ
noncomputable def X10_findDoubt_c84  (kr30 : Int32 → Int32 → Int32 → Int32 → Int32 → PS → Option (Int32 × PS)) (kx30 : Int32 → Int32 → PS → Option (Int32 × PS)) (v1 : Int32) (v2 : Int32) (v3 : Int32) (v4 : Int32) (v6 : Int32) (σ : PS) : Option (Int32 × PS) :=
  X10_findDoubt_c85  kr30 kx30  v1 v2 v3 v4 v6 (0 : Int32) σ
noncomputable def X10_findDoubt_c63  (kr30 : Int32 → Int32 → Int32 → Int32 → Int32 → PS → Option (Int32 × PS)) (kx30 : Int32 → Int32 → PS → Option (Int32 × PS)) (v1 : Int32) (v2 : Int32) (v3 : Int32) (v4 : Int32) (w0 : Int32) (σ : PS) : Option (Int32 × PS) :=
  if w0 = 0 then X10_findDoubt_c84  kr30 kx30  v1 v2 v3 v4 w0 σ else (X10_areInDoubt v1 v2 v3 σ).bind (fun r7 => if r7 = 0 then X10_findDoubt_c84  kr30 kx30  v1 v2 v3 v4 w0 σ else X10_findDoubt_c85  kr30 kx30  v1 v2 v3 v4 w0 (1 : Int32) σ)
noncomputable def X10_findDoubt_c62  (kr30 : Int32 → Int32 → Int32 → Int32 → Int32 → PS → Option (Int32 × PS)) (kx30 : Int32 → Int32 → PS → Option (Int32 × PS)) (v1 : Int32) (v2 : Int32) (v3 : Int32) (v4 : Int32) (σ : PS) : Option (Int32 × PS) :=
  X10_findDoubt_c63  kr30 kx30  v1 v2 v3 v4 (0 : Int32) σ
noncomputable def X10_findDoubt_l30  (kx30 : Int32 → Int32 → PS → Option (Int32 × PS)) : Nat → Int32 → Int32 → Int32 → Int32 → Int32 → PS → Option (Int32 × PS)
  | 0, _, _, _, _, _, _ => none
  | n30 + 1, v1, v2, v3, v4, v5, σ =>
    if v4 = 0 then kx30 v1 v4 σ else if v5 = 0 then (X10_takesAt v2 (0 : Int32) σ).bind (fun r4 => if r4 = 0 then X10_findDoubt_c62  (X10_findDoubt_l30  kx30 n30) kx30  v1 v2 v3 v4 σ else (X10_takesAt v3 (0 : Int32) σ).bind (fun r8 => if r8 = 0 then X10_findDoubt_c62  (X10_findDoubt_l30  kx30 n30) kx30  v1 v2 v3 v4 σ else X10_findDoubt_c63  (X10_findDoubt_l30  kx30 n30) kx30  v1 v2 v3 v4 (1 : Int32) σ)) else kx30 v1 v4 σ
noncomputable def X10_findDoubt_c116  (v1 : Int32) (v4 : Int32) (σ : PS) : Option (Int32 × PS) :=
  (X10_keepTuple v1 σ).bind (fun σ9 => gd (isB v4) (some (v4, σ9)))
noncomputable def X10_findDoubt (x1 : Int32) (x2 : Int32) (x3 : Int32) (σ : PS) : Option (Int32 × PS) :=
  (X10_isMore x2 x3 σ).bind (fun r1 => if r1 = 0 then (X10_isMore x3 x2 σ).bind (fun r2 => if r2 = 0 then bp (X10_firstTuple x1 σ) (fun r3 σ3 => X10_findDoubt_l30  (fun v1 v4 σ => X10_findDoubt_c116  v1 v4 σ) fuel x1 x2 x3 r3 (0 : Int32) σ3) else some ((0 : Int32), σ)) else some ((0 : Int32), σ))
-- X10_doubt
noncomputable def X10_doubt_c100  (kr46 : Int32 → Int32 → Int32 → Int32 → Int32 → Int32 → PS → Option (Int64 × PS)) (kx46 : Int32 → Int32 → Int32 → Int32 → Int32 → PS → Option (Int64 × PS)) (v1 : Int32) (v2 : Int32) (v3 : Int32) (v4 : Int32) (v5 : Int32) (v6 : Int32) (w0 : Int32) (σ : PS) : Option (Int64 × PS) :=
  if w0 = 0 then kr46 v1 v2 v3 v4 v5 (v6 + (1 : Int32)) σ else bp (X10_findDoubt v1 v5 v6 σ) (fun r4 σ4 => if r4 = 0 then kr46 v1 v2 v3 v4 v5 (v6 + (1 : Int32)) σ4 else if v4 = v2 then if v3 = 0 then some (v5.toInt64, σ4) else if v3 = (1 : Int32) then some (v6.toInt64, σ4) else gd (ib (v3 - (2 : Int32)) 4) (some ((gL σ4 539 0 (ix (v3 - (2 : Int32)))), σ4)) else kr46 v1 v2 v3 (v4 + (1 : Int32)) v5 (v6 + (1 : Int32)) σ4)
noncomputable def X10_doubt_c99  (kr46 : Int32 → Int32 → Int32 → Int32 → Int32 → Int32 → PS → Option (Int64 × PS)) (kx46 : Int32 → Int32 → Int32 → Int32 → Int32 → PS → Option (Int64 × PS)) (v1 : Int32) (v2 : Int32) (v3 : Int32) (v4 : Int32) (v5 : Int32) (v6 : Int32) (σ : PS) : Option (Int64 × PS) :=
  X10_doubt_c100  kr46 kx46  v1 v2 v3 v4 v5 v6 (0 : Int32) σ
noncomputable def X10_doubt_l46  (kx46 : Int32 → Int32 → Int32 → Int32 → Int32 → PS → Option (Int64 × PS)) : Nat → Int32 → Int32 → Int32 → Int32 → Int32 → Int32 → PS → Option (Int64 × PS)
  | 0, _, _, _, _, _, _, _ => none
  | n46 + 1, v1, v2, v3, v4, v5, v6, σ =>
    if (gI σ 500 0 14) ≤ v6 then kx46 v1 v2 v3 v4 v5 σ else (X10_isLaid v5 v1 σ).bind (fun r3 => if r3 = 0 then X10_doubt_c99  (X10_doubt_l46  kx46 n46) kx46  v1 v2 v3 v4 v5 v6 σ else (X10_isLaid v6 v1 σ).bind (fun r6 => if r6 = 0 then X10_doubt_c99  (X10_doubt_l46  kx46 n46) kx46  v1 v2 v3 v4 v5 v6 σ else gd (ib v5 40) (if (gI σ 519 0 (ix v5)) = 0 then gd (ib v6 40) (if (gI σ 519 0 (ix v6)) = 0 then X10_doubt_c100  (X10_doubt_l46  kx46 n46) kx46  v1 v2 v3 v4 v5 v6 (1 : Int32) σ else X10_doubt_c99  (X10_doubt_l46  kx46 n46) kx46  v1 v2 v3 v4 v5 v6 σ) else X10_doubt_c99  (X10_doubt_l46  kx46 n46) kx46  v1 v2 v3 v4 v5 v6 σ)))
noncomputable def X10_doubt_c164  (kr31 : Int32 → Int32 → Int32 → Int32 → Int32 → PS → Option (Int64 × PS)) (kx31 : PS → Option (Int64 × PS)) (v1 : Int32) (v2 : Int32) (v3 : Int32) (v4 : Int32) (v5 : Int32) (σ : PS) : Option (Int64 × PS) :=
  kr31 v1 v2 v3 v4 (v5 + (1 : Int32)) σ
noncomputable def X10_doubt_l31  (kx31 : PS → Option (Int64 × PS)) : Nat → Int32 → Int32 → Int32 → Int32 → Int32 → PS → Option (Int64 × PS)
  | 0, _, _, _, _, _, _ => none
  | n31 + 1, v1, v2, v3, v4, v5, σ =>
    if (gI σ 500 0 14) ≤ v5 then kx31 σ else nm (v5 + (1 : Int32)) (fun y2 => X10_doubt_l46  (fun v1 v2 v3 v4 v5 σ => X10_doubt_c164  (X10_doubt_l31  kx31 n31) kx31 v1 v2 v3 v4 v5 σ) fuel v1 v2 v3 v4 v5 y2 σ)
noncomputable def X10_doubt_c170  (σ : PS) : Option (Int64 × PS) :=
  some ((1099511627776 : Int64), σ)
noncomputable def X10_doubt (x1 : Int32) (x2 : Int32) (x3 : Int32) (σ : PS) : Option (Int64 × PS) :=
  (X10_isFunction x1 σ).bind (fun r1 => if r1 = 0 then some ((1099511627776 : Int64), σ) else if x2 < 0 then some ((1099511627776 : Int64), σ) else if x3 < 0 then some ((1099511627776 : Int64), σ) else if x3 ≤ (5 : Int32) then X10_doubt_l31  (fun σ => X10_doubt_c170  σ) fuel x1 x2 x3 (0 : Int32) (0 : Int32) σ else some ((1099511627776 : Int64), σ))

/-! ===== the methods as functions over a heap of whole numbers (own work, by program: wip/p2/dec.py) ===== -/
noncomputable def fM_write (g : gH) (v0 : Int) (v1 : Int) : Option (Int × gH) :=
  if kd (g v0 22) = 20 ∧ (0 : Int) ≤ (g v0 23) ∧ (g v0 23) < sz (g v0 22) then bnd (pU g (g v0 22) (g v0 23) v1) (fun g4 => bnd (pU g4 v0 23 (w32 ((g4 v0 23) + 1))) (fun g7 => some (0, g7))) else none
noncomputable def bM_writeNumber_18 (v0 : Int) (v1 : Int) (X18 : Int → gH → Option (Int × gH)) (v2 : Int) (g : gH) : Option (Int × gH) :=
  if 0 < v2 then (if (1 : Int) ≤ v2 ∧ v2 < (2147483648 : Int) ∧ (0 : Int) ≤ v1 ∧ v1 < 2147483648 then if (1 : Int) ≤ 10 ∧ 10 < (2147483648 : Int) ∧ (0 : Int) ≤ (v1 / v2) ∧ (v1 / v2) < 2147483648 then bdN (fM_write g v0 (w32 (48 + ((v1 / v2) % 10)))) (fun y8 g10 => if (1 : Int) ≤ 10 ∧ 10 < (2147483648 : Int) ∧ (0 : Int) ≤ v2 ∧ v2 < 2147483648 then X18 (v2 / 10) g10 else none) else none else none) else (some (0, g))
noncomputable def lM_writeNumber_18 (v0 : Int) (v1 : Int) (n : Nat) : Int → gH → Option (Int × gH) := Nat.rec (motive := fun _ => Int → gH → Option (Int × gH)) (fun _ _ => none) (fun _ ih => bM_writeNumber_18 v0 v1 ih) n
noncomputable def bM_writeNumber_2 (g : gH) (v0 : Int) (v1 : Int) (X2 : Int → Option (Int × gH)) (v2 : Int) : Option (Int × gH) :=
  if (1 : Int) ≤ v2 ∧ v2 < (2147483648 : Int) ∧ (0 : Int) ≤ v1 ∧ v1 < 2147483648 then if 9 < (v1 / v2) then (X2 (opI 0 v2 10)) else (lM_writeNumber_18 v0 v1 fu v2 g) else none
noncomputable def lM_writeNumber_2 (g : gH) (v0 : Int) (v1 : Int) (n : Nat) : Int → Option (Int × gH) := Nat.rec (motive := fun _ => Int → Option (Int × gH)) (fun _ => none) (fun _ ih => bM_writeNumber_2 g v0 v1 ih) n
noncomputable def fM_writeNumber (g : gH) (v0 : Int) (v1 : Int) : Option (Int × gH) :=
  lM_writeNumber_2 g v0 v1 fu 1
noncomputable def bM_onPath_2 (g : gH) (v0 : Int) (v2 : Int) (X2 : Int → Option Int) (v3 : Int) : Option Int :=
  bdP (fM_deep g v0 v3) (fun y1 => if v2 < y1 then (if kd (g v0 0) = 20 ∧ (0 : Int) ≤ (w32 (60 + v3)) ∧ (w32 (60 + v3)) < sz (g v0 0) then X2 (g (g v0 0) (w32 (60 + v3))) else none) else (some v3))
noncomputable def lM_onPath_2 (g : gH) (v0 : Int) (v2 : Int) (n : Nat) : Int → Option Int := Nat.rec (motive := fun _ => Int → Option Int) (fun _ => none) (fun _ ih => bM_onPath_2 g v0 v2 ih) n
noncomputable def fM_onPath (g : gH) (v0 : Int) (v1 : Int) (v2 : Int) : Option Int :=
  lM_onPath_2 g v0 v2 fu v1
noncomputable def fM_writeBetween (g : gH) (v0 : Int) (v1 : Int) : Option (Int × gH) :=
  if 0 < (g v0 23) then (bdN (fM_write g v0 v1) (fun y4 g6 => some (0, g6))) else (some (0, g))
noncomputable def bM_writePath_2 (v0 : Int) (v1 : Int) (X2 : Int → gH → Option (Int × gH)) (v2 : Int) (g : gH) : Option (Int × gH) :=
  bdP (fM_deep g v0 v1) (fun y1 => if y1 < v2 then (some (0, g)) else (bdN (fM_writeBetween g v0 47) (fun y7 g9 => bdP (fM_onPath g9 v0 v1 v2) (fun y11 => bdN (fM_writeNumber g9 v0 y11) (fun y15 g17 => X2 (w32 (v2 + 1)) g17)))))
noncomputable def lM_writePath_2 (v0 : Int) (v1 : Int) (n : Nat) : Int → gH → Option (Int × gH) := Nat.rec (motive := fun _ => Int → gH → Option (Int × gH)) (fun _ _ => none) (fun _ ih => bM_writePath_2 v0 v1 ih) n
noncomputable def fM_writePath (g : gH) (v0 : Int) (v1 : Int) : Option (Int × gH) :=
  lM_writePath_2 v0 v1 fu 0 g
noncomputable def bM_writeChildren_7 (v0 : Int) (v1 : Int) (X7 : Int → gH → Option (Int × gH)) (v2 : Int) (g : gH) : Option (Int × gH) :=
  if v2 = (-1) then (some (0, g)) else (bdN (fM_writeBetween g v0 44) (fun y7 g9 => bdN (fM_writeNumber g9 v0 v2) (fun y11 g13 => bdP (fM_nextChild g13 v0 v1 (w32 (v2 + 1))) (fun y15 => X7 y15 g13))))
noncomputable def lM_writeChildren_7 (v0 : Int) (v1 : Int) (n : Nat) : Int → gH → Option (Int × gH) := Nat.rec (motive := fun _ => Int → gH → Option (Int × gH)) (fun _ _ => none) (fun _ ih => bM_writeChildren_7 v0 v1 ih) n
noncomputable def fM_writeChildren (g : gH) (v0 : Int) (v1 : Int) : Option (Int × gH) :=
  bdP (fM_nextChild g v0 v1 0) (fun y1 => lM_writeChildren_7 v0 v1 fu y1 g)
noncomputable def jM_writeTree_42 (R : gH → Int → Int → Option (Int × gH)) (X26 : Int → gH → Option (Int × gH)) (g : gH) (v0 : Int) (v1 : Int) (v2 : Int) (v3 : Int) : Option (Int × gH) :=
  bdN (R g v0 v3) (fun y27 g29 => bdP (fM_nextChild g29 v0 v1 (w32 (v3 + 1))) (fun y31 => X26 y31 g29))
noncomputable def bM_writeTree_26 (R : gH → Int → Int → Option (Int × gH)) (v0 : Int) (v1 : Int) (v2 : Int) (X26 : Int → gH → Option (Int × gH)) (v3 : Int) (g : gH) : Option (Int × gH) :=
  if v3 = (-1) then (bdN (fM_write g v0 41) (fun y17 g19 => some (0, g19))) else (if v3 = v2 then (jM_writeTree_42 R X26 g v0 v1 v2 v3) else (bdN (fM_write g v0 32) (fun y23 g25 => jM_writeTree_42 R X26 g25 v0 v1 v2 v3)))
noncomputable def lM_writeTree_26 (R : gH → Int → Int → Option (Int × gH)) (v0 : Int) (v1 : Int) (v2 : Int) (n : Nat) : Int → gH → Option (Int × gH) := Nat.rec (motive := fun _ => Int → gH → Option (Int × gH)) (fun _ _ => none) (fun _ ih => bM_writeTree_26 R v0 v1 v2 ih) n
noncomputable def fbM_writeTree (R : gH → Int → Int → Option (Int × gH)) (g : gH) (v0 : Int) (v1 : Int) : Option (Int × gH) :=
  bdN (fM_writeNumber g v0 v1) (fun y1 g3 => bdP (fM_nextChild g3 v0 v1 0) (fun y5 => if y5 = (-1) then (some (0, g3)) else (bdN (fM_write g3 v0 40) (fun y11 g13 => lM_writeTree_26 R v0 v1 y5 fu y5 g13))))
noncomputable def fM_writeTree (n : Nat) : gH → Int → Int → Option (Int × gH) := Nat.rec (motive := fun _ => gH → Int → Int → Option (Int × gH)) (fun _ _ _ => none) (fun _ ih => fbM_writeTree ih) n
noncomputable def bM_writeZombies_2 (v0 : Int) (v1 : Int) (X2 : Int → gH → Option (Int × gH)) (v2 : Int) (g : gH) : Option (Int × gH) :=
  if kd (g v0 0) = 20 ∧ (0 : Int) ≤ 1 ∧ 1 < sz (g v0 0) then if v2 < (g (g v0 0) 1) then (if kd (g v0 0) = 20 ∧ (0 : Int) ≤ (w32 (19 + v2)) ∧ (w32 (19 + v2)) < sz (g v0 0) then bdP (fM_isChild g v0 (g (g v0 0) (w32 (19 + v2))) v1 1) (fun y9 => if y9 = 0 then (X2 (w32 (v2 + 1)) g) else (bdN (fM_writeBetween g v0 44) (fun y15 g17 => bdN (fM_writeNumber g17 v0 (g (g v0 0) (w32 (19 + v2)))) (fun y19 g21 => bdN (fM_write g21 v0 58) (fun y23 g25 => if kd (g25 v0 0) = 20 ∧ (0 : Int) ≤ (w32 (300 + (g (g v0 0) (w32 (19 + v2))))) ∧ (w32 (300 + (g (g v0 0) (w32 (19 + v2))))) < sz (g25 v0 0) then bdN (fM_writeNumber g25 v0 (g25 (g25 v0 0) (w32 (300 + (g (g v0 0) (w32 (19 + v2))))))) (fun y30 g32 => X2 (w32 (v2 + 1)) g32) else none))))) else none) else (some (0, g)) else none
noncomputable def lM_writeZombies_2 (v0 : Int) (v1 : Int) (n : Nat) : Int → gH → Option (Int × gH) := Nat.rec (motive := fun _ => Int → gH → Option (Int × gH)) (fun _ _ => none) (fun _ ih => bM_writeZombies_2 v0 v1 ih) n
noncomputable def fM_writeZombies (g : gH) (v0 : Int) (v1 : Int) : Option (Int × gH) :=
  lM_writeZombies_2 v0 v1 fu 0 g
noncomputable def jM_print_126 (g : gH) (v0 : Int) : Option (Int × gH) :=
  if (g v0 23) = 0 then (bdN (fM_write g v0 45) (fun y72 g74 => some ((g74 v0 23), g74))) else (some ((g v0 23), g))
noncomputable def jM_print_116 (g : gH) (v0 : Int) (v1 : Int) (v2 : Int) : Option (Int × gH) :=
  if v2 = 4 then (bdN (fM_writeZombies g v0 v1) (fun y65 g67 => jM_print_126 g67 v0)) else (jM_print_126 g v0)
noncomputable def bM_print_81 (v0 : Int) (v1 : Int) (v2 : Int) (X81 : Int → gH → Option (Int × gH)) (v3 : Int) (g : gH) : Option (Int × gH) :=
  if v3 < 8 then (if v2 = 3 then (if kd (g v0 0) = 20 ∧ (0 : Int) ≤ (w32 (11 + v3)) ∧ (w32 (11 + v3)) < sz (g v0 0) then if (g (g v0 0) (w32 (11 + v3))) = v1 then (bdN (fM_writeNumber g v0 v3) (fun y59 g61 => X81 (w32 (v3 + 1)) g61)) else (X81 (w32 (v3 + 1)) g) else none) else (jM_print_116 g v0 v1 v2)) else (jM_print_116 g v0 v1 v2)
noncomputable def lM_print_81 (v0 : Int) (v1 : Int) (v2 : Int) (n : Nat) : Int → gH → Option (Int × gH) := Nat.rec (motive := fun _ => Int → gH → Option (Int × gH)) (fun _ _ => none) (fun _ ih => bM_print_81 v0 v1 v2 ih) n
noncomputable def jM_print_69 (g : gH) (v0 : Int) (v1 : Int) (v2 : Int) : Option (Int × gH) :=
  if v2 = 2 then (bdN (fM_writeTree fr g v0 v1) (fun y46 g48 => lM_print_81 v0 v1 v2 fu 0 g48)) else (lM_print_81 v0 v1 v2 fu 0 g)
noncomputable def jM_print_59 (g : gH) (v0 : Int) (v1 : Int) (v2 : Int) : Option (Int × gH) :=
  if v2 = 1 then (bdN (fM_writeChildren g v0 v1) (fun y40 g42 => jM_print_69 g42 v0 v1 v2)) else (jM_print_69 g v0 v1 v2)
noncomputable def jM_print_23 (g : gH) (v0 : Int) (v1 : Int) (v2 : Int) (s0 : Int) (s1 : Int) : Option (Int × gH) :=
  if kd s0 = 7 then bdN (fM_fails g s0 s1 2) (fun y14 g16 => if y14 = 0 then (bdP (fM_isGone g16 v0 v1) (fun y20 => bdN (fM_fails g16 v0 y20 3) (fun y24 g26 => if y24 = 0 then (bnd (pU g26 v0 23 0) (fun g30 => if v2 = 0 then (bdN (fM_writePath g30 v0 v1) (fun y34 g36 => jM_print_59 g36 v0 v1 v2)) else (jM_print_59 g30 v0 v1 v2))) else (some (0, g26))))) else (some (0, g16))) else none
noncomputable def fM_print (g : gH) (v0 : Int) (v1 : Int) (v2 : Int) : Option (Int × gH) :=
  bdN (fM_noProcess g v0 v1) (fun y1 g3 => if y1 = 0 then (bdP (fM_inRange g3 v2 0 4) (fun y7 => if y7 = 0 then (jM_print_23 g3 v0 v1 v2 v0 1) else (jM_print_23 g3 v0 v1 v2 v0 0))) else (some (0, g3)))
noncomputable def fM_outputByte (g : gH) (v0 : Int) (v1 : Int) : Option (Int × gH) :=
  bnd (pU g v0 8 0) (fun g1 => bdP (fM_inRange g1 v1 0 (w32 ((g1 v0 23) - 1))) (fun y4 => if y4 = 0 then (some ((-1), g1)) else (if kd (g1 v0 22) = 20 ∧ (0 : Int) ≤ v1 ∧ v1 < sz (g1 v0 22) then some ((g1 (g1 v0 22) v1), g1) else none)))
noncomputable def fM_undo (g : gH) (v0 : Int) : Option (Int × gH) :=
  bnd (pU g v0 8 0) (fun g1 => if (g1 v0 6) = 0 then (some ((-1), g1)) else (bnd (pU g1 v0 6 (w32 ((g1 v0 6) - 1))) (fun g7 => bdN (fM_copies g7 (g7 v0 4) (opI 0 780 (g7 v0 6)) (g7 v0 0) 0 780) (fun y12 g14 => some ((g14 v0 6), g14)))))
noncomputable def fM_saveState (g : gH) (v0 : Int) : Option (Int × gH) :=
  bnd (pU g v0 8 0) (fun g1 => bdN (fM_copies g1 (g1 v0 0) 0 (g1 v0 3) 0 780) (fun y5 g7 => bnd (pU g7 v0 7 1) (fun g9 => bdP (fM_runningMany g9 v0) (fun y11 => some (y11, g9)))))
noncomputable def jM_restoreState_18 (g : gH) (v0 : Int) (s0 : Int) (s1 : Int) : Option (Int × gH) :=
  if kd s0 = 7 then bdN (fM_fails g s0 s1 1) (fun y7 g9 => if y7 = 0 then (bdN (fM_copies g9 (g9 v0 3) 0 (g9 v0 0) 0 780) (fun y15 g17 => bnd (pU g17 v0 6 0) (fun g19 => bdP (fM_runningMany g19 v0) (fun y21 => some (y21, g19))))) else (some (0, g9))) else none
noncomputable def fM_restoreState (g : gH) (v0 : Int) : Option (Int × gH) :=
  bnd (pU g v0 8 0) (fun g1 => if (g1 v0 7) = 0 then (jM_restoreState_18 g1 v0 v0 1) else (jM_restoreState_18 g1 v0 v0 0))
noncomputable def bT_dutiesOf_4 (g : gH) (v0 : Int) (v1 : Int) (X4 : Int → Int → Option Int) (v2 : Int) (v3 : Int) : Option Int :=
  if v3 < 8 then (if kd (g v0 2) = 20 ∧ (0 : Int) ≤ v3 ∧ v3 < sz (g v0 2) then if kd v1 = 3 then if (g (g v0 2) v3) = (g v1 0) then (X4 (opI 2 v2 (opI 4 1 v3)) (w32 (v3 + 1))) else (X4 v2 (w32 (v3 + 1))) else none else none) else (some v2)
noncomputable def lT_dutiesOf_4 (g : gH) (v0 : Int) (v1 : Int) (n : Nat) : Int → Int → Option Int := Nat.rec (motive := fun _ => Int → Int → Option Int) (fun _ _ => none) (fun _ ih => bT_dutiesOf_4 g v0 v1 ih) n
noncomputable def fT_dutiesOf (g : gH) (v0 : Int) (v1 : Int) : Option Int :=
  lT_dutiesOf_4 g v0 v1 fu 0 0
noncomputable def fC_count (g : gH) (v0 : Int) (v1 : Int) : Option (Nat × Int) :=
  if v1 = 0 then (if kd (g v0 0) = 5 then some (0, (g (g v0 0) 5)) else none) else if v1 = 1 then (if kd (g v0 0) = 5 then bdP (fT_countInState g (g v0 0) 0) (fun y10 => some (0, y10)) else none) else if v1 = 2 then (if kd (g v0 0) = 5 then bdP (fT_countInState g (g v0 0) 1) (fun y18 => some (0, y18)) else none) else if v1 = 3 then (if kd (g v0 0) = 5 then bdP (fT_countInState g (g v0 0) 2) (fun y26 => some (0, y26)) else none) else if v1 = 4 then (if kd (g v0 0) = 5 then some (0, (g (g v0 0) 6)) else none) else if v1 = 5 then (if kd (g v0 0) = 5 then some (0, (g (g v0 0) 7)) else none) else if v1 = 6 then (if kd (g v0 0) = 5 then some (0, (g (g v0 0) 8)) else none) else if v1 = 7 then (if kd (g v0 0) = 5 then some (0, (g (g v0 0) 9)) else none) else if v1 = 8 then (if kd (g v0 0) = 5 then bdP (fT_dutiesOf g (g v0 0) (g (g v0 0) 0)) (fun y56 => bdP (fJ_bitCount g y56) (fun y60 => some (0, y60))) else none) else if v1 = 9 then (if kd (g v0 3) = 0 then some (0, (g (g v0 3) 1)) else none) else if v1 = 10 then (if kd (g v0 0) = 5 then some (0, (g (g v0 0) 4)) else none) else (some (1, 0))
noncomputable def fW_count (g : gH) (v0 : Int) (v1 : Int) (v2 : Int) : Option (Int × gH) :=
  if kd v0 = 6 then bdQ (fC_count g v0 v1) (fun y2 => if kd v2 = 23 ∧ (0 : Int) ≤ 0 ∧ 0 < sz v2 then bnd (pU g v2 0 y2) (fun g9 => some (0, g9)) else none) (fun E7 => if E7 = 0 then (some (1, g)) else none) else none
noncomputable def fC_named (g : gH) (v0 : Int) (v1 : Int) : Option (Nat × Int) :=
  if kd (g v0 0) = 5 then bdP (fT_at g (g v0 0) v1) (fun y3 => if y3 < 0 then (some (3, 0)) else (some (0, y3))) else none
noncomputable def fC_numberOf (g : gH) (v0 : Int) : Option Int :=
  if v0 < 0 then (some (-1)) else (if kd v0 = 3 then some (g v0 0) else none)
noncomputable def bP_willMask_4 (g : gH) (v0 : Int) (X4 : Int → Int → Option Int) (v1 : Int) (v2 : Int) : Option Int :=
  if v2 < 8 then (bdP (fP_willFor g v0 v2) (fun y3 => if y3 = (-1) then (X4 v1 (w32 (v2 + 1))) else (X4 (opI 2 v1 (opI 4 1 v2)) (w32 (v2 + 1))))) else (some v1)
noncomputable def lP_willMask_4 (g : gH) (v0 : Int) (n : Nat) : Int → Int → Option Int := Nat.rec (motive := fun _ => Int → Int → Option Int) (fun _ _ => none) (fun _ ih => bP_willMask_4 g v0 ih) n
noncomputable def fP_willMask (g : gH) (v0 : Int) : Option Int :=
  lP_willMask_4 g v0 fu 0 0
noncomputable def fP_isZombieOf (g : gH) (v0 : Int) (v1 : Int) : Option Int :=
  if (g v0 1) = 1 then (if (g v0 2) = v1 then (some 1) else (some 0)) else (some 0)
noncomputable def bT_countZombiesOf_14 (g : gH) (v1 : Int) (v3 : Int) (v4 : Int) (X14 : Int → Int → Option Int) (v2 : Int) (v5 : Int) : Option Int :=
  if v5 < v4 then (if kd v3 = 24 ∧ (0 : Int) ≤ v5 ∧ v5 < sz v3 then if kd (g v3 v5) = 3 then bdP (fP_isZombieOf g (g v3 v5) v1) (fun y9 => if y9 = 0 then (X14 v2 (w32 (v5 + 1))) else (X14 (w32 (v2 + 1)) (w32 (v5 + 1)))) else none else none) else (some v2)
noncomputable def lT_countZombiesOf_14 (g : gH) (v1 : Int) (v3 : Int) (v4 : Int) (n : Nat) : Int → Int → Option Int := Nat.rec (motive := fun _ => Int → Int → Option Int) (fun _ _ => none) (fun _ ih => bT_countZombiesOf_14 g v1 v3 v4 ih) n
noncomputable def fT_countZombiesOf (g : gH) (v0 : Int) (v1 : Int) : Option Int :=
  if kd (g v0 1) = 24 then lT_countZombiesOf_14 g v1 (g v0 1) (sz (g v0 1)) fu 0 0 else none
noncomputable def fC_process (g : gH) (v0 : Int) (v1 : Int) (v2 : Int) : Option (Nat × Int) :=
  bdQ (fC_named g v0 v1) (fun y1 => if v2 = 0 then (if kd y1 = 3 then bdP (fC_numberOf g (g y1 2)) (fun y11 => some (0, y11)) else none) else if v2 = 1 then (if kd y1 = 3 then some (0, (g y1 4)) else none) else if v2 = 2 then (if kd y1 = 3 then bdP (fP_room g y1) (fun y22 => some (0, y22)) else none) else if v2 = 3 then (if kd y1 = 3 then some (0, (g y1 3)) else none) else if v2 = 4 then (if kd (g v0 0) = 5 then bdP (fT_countZombiesOf g (g v0 0) y1) (fun y34 => some (0, y34)) else none) else if v2 = 5 then (if kd y1 = 3 then some (0, (g y1 1)) else none) else if v2 = 6 then (if kd y1 = 3 then some (0, (g y1 5)) else none) else if v2 = 7 then (if kd y1 = 3 then some (0, (g y1 6)) else none) else if v2 = 8 then (if kd y1 = 3 then some (0, (g y1 7)) else none) else if v2 = 9 then (if kd (g v0 0) = 5 then bdP (fT_dutiesOf g (g v0 0) y1) (fun y58 => some (0, y58)) else none) else if v2 = 10 then (if kd y1 = 3 then some (0, (g y1 9)) else none) else if v2 = 11 then (if kd y1 = 3 then some (0, (g y1 8)) else none) else if v2 = 12 then (if kd y1 = 3 then some (0, (g y1 11)) else none) else if v2 = 13 then (if kd y1 = 3 then some (0, (g y1 12)) else none) else if v2 = 14 then (if kd y1 = 3 then bdP (fP_willMask g y1) (fun y81 => some (0, y81)) else none) else (some (1, 0))) (fun E6 => some (E6 + 1, 0))
noncomputable def fW_process (g : gH) (v0 : Int) (v1 : Int) (v2 : Int) (v3 : Int) : Option (Int × gH) :=
  if kd v0 = 6 then bdQ (fC_process g v0 v1 v2) (fun y2 => if kd v3 = 23 ∧ (0 : Int) ≤ 0 ∧ 0 < sz v3 then bnd (pU g v3 0 y2) (fun g9 => some (0, g9)) else none) (fun E7 => if E7 = 2 then (some (1, g)) else if E7 = 0 then (some (2, g)) else none) else none
noncomputable def fC_checkRange (g : gH) (v0 : Int) (v1 : Int) : Option (Nat × Int) :=
  if v0 < 0 then (some (1, 0)) else (if v1 < v0 then (some (1, 0)) else (some (0, 0)))
noncomputable def jT_holderOf_24 (g : gH) (v0 : Int) (s0 : Int) : Option Int :=
  if s0 < 0 then (some (g v0 0)) else (some s0)
noncomputable def jT_holderOf_10 (g : gH) (v0 : Int) : Option Int :=
  jT_holderOf_24 g v0 (-1)
noncomputable def fT_holderOf (g : gH) (v0 : Int) (v1 : Int) : Option Int :=
  if v1 < 0 then (jT_holderOf_10 g v0) else (if v1 < 8 then (if kd (g v0 2) = 20 ∧ (0 : Int) ≤ v1 ∧ v1 < sz (g v0 2) then bdP (fT_at g v0 (g (g v0 2) v1)) (fun y8 => jT_holderOf_24 g v0 y8) else none) else (jT_holderOf_10 g v0))
noncomputable def fC_holder (g : gH) (v0 : Int) (v1 : Int) : Option (Nat × Int) :=
  bdQ (fC_checkRange g v1 7) (fun y1 => if kd (g v0 0) = 5 then bdP (fT_holderOf g (g v0 0) v1) (fun y9 => if kd y9 = 3 then some (0, (g y9 0)) else none) else none) (fun E6 => some (E6 + 1, 0))
noncomputable def fW_holder (g : gH) (v0 : Int) (v1 : Int) (v2 : Int) : Option (Int × gH) :=
  if kd v0 = 6 then bdQ (fC_holder g v0 v1) (fun y2 => if kd v2 = 23 ∧ (0 : Int) ≤ 0 ∧ 0 < sz v2 then bnd (pU g v2 0 y2) (fun g9 => some (0, g9)) else none) (fun E7 => if E7 = 0 then (some (1, g)) else none) else none
noncomputable def fC_checkState (g : gH) (v0 : Int) : Option (Nat × Int) :=
  if v0 = 0 then (some (2, 0)) else (some (0, 0))
noncomputable def fC_depth (g : gH) (v0 : Int) (v1 : Int) : Option (Nat × Int) :=
  bdQ (fC_named g v0 v1) (fun y1 => if kd y1 = 3 then if (g y1 1) = 2 then (bdQ (fC_checkState g 0) (fun y11 => bdP (fP_countAbove g y1) (fun y17 => some (0, y17))) (fun E16 => some (E16 + 1, 0))) else (bdQ (fC_checkState g 1) (fun y21 => bdP (fP_countAbove g y1) (fun y27 => some (0, y27))) (fun E26 => some (E26 + 1, 0))) else none) (fun E6 => some (E6 + 1, 0))
noncomputable def fW_depth (g : gH) (v0 : Int) (v1 : Int) (v2 : Int) : Option (Int × gH) :=
  if kd v0 = 6 then bdQ (fC_depth g v0 v1) (fun y2 => if kd v2 = 23 ∧ (0 : Int) ≤ 0 ∧ 0 < sz v2 then bnd (pU g v2 0 y2) (fun g9 => some (0, g9)) else none) (fun E7 => if E7 = 2 then (some (1, g)) else if E7 = 1 then (some (2, g)) else none) else none
noncomputable def bP_isOver_5 (g : gH) (v0 : Int) (X5 : Int → Option Int) (v2 : Int) : Option Int :=
  if v2 < 0 then (some 0) else (if v2 = v0 then (some 1) else (if kd v2 = 3 then X5 (g v2 2) else none))
noncomputable def lP_isOver_5 (g : gH) (v0 : Int) (n : Nat) : Int → Option Int := Nat.rec (motive := fun _ => Int → Option Int) (fun _ => none) (fun _ ih => bP_isOver_5 g v0 ih) n
noncomputable def fP_isOver (g : gH) (v0 : Int) (v1 : Int) : Option Int :=
  if kd v1 = 3 then lP_isOver_5 g v0 fu (g v1 2) else none
noncomputable def fC_isAbove (g : gH) (v0 : Int) (v1 : Int) (v2 : Int) : Option (Nat × Int) :=
  bdQ (fC_named g v0 v1) (fun y1 => bdQ (fC_named g v0 v2) (fun y7 => if kd y1 = 3 then if (g y1 1) = 2 then (some (0, 0)) else (if kd y7 = 3 then if (g y7 1) = 2 then (some (0, 0)) else (bdP (fP_isOver g y1 y7) (fun y21 => if y21 = 0 then (some (0, 0)) else (some (0, 1)))) else none) else none) (fun E12 => some (E12 + 1, 0))) (fun E6 => some (E6 + 1, 0))
noncomputable def fW_isAbove (g : gH) (v0 : Int) (v1 : Int) (v2 : Int) (v3 : Int) : Option (Int × gH) :=
  if kd v0 = 6 then bdQ (fC_isAbove g v0 v1 v2) (fun y2 => if y2 = 0 then (if kd v3 = 23 ∧ (0 : Int) ≤ 0 ∧ 0 < sz v3 then bnd (pU g v3 0 0) (fun g11 => some (0, g11)) else none) else (if kd v3 = 23 ∧ (0 : Int) ≤ 0 ∧ 0 < sz v3 then bnd (pU g v3 0 1) (fun g14 => some (0, g14)) else none)) (fun E7 => if E7 = 2 then (some (1, g)) else none) else none
noncomputable def bT_lowestOver_2 (g : gH) (v0 : Int) (v2 : Int) (X2 : Int → Option Int) (v3 : Int) : Option Int :=
  if v3 < 0 then (some (g v0 0)) else (if v3 = v2 then (some v3) else (if kd v3 = 3 then bdP (fP_isOver g v3 v2) (fun y7 => if y7 = 0 then (X2 (g v3 2)) else (some v3)) else none))
noncomputable def lT_lowestOver_2 (g : gH) (v0 : Int) (v2 : Int) (n : Nat) : Int → Option Int := Nat.rec (motive := fun _ => Int → Option Int) (fun _ => none) (fun _ ih => bT_lowestOver_2 g v0 v2 ih) n
noncomputable def fT_lowestOver (g : gH) (v0 : Int) (v1 : Int) (v2 : Int) : Option Int :=
  lT_lowestOver_2 g v0 v2 fu v1
noncomputable def fC_meet (g : gH) (v0 : Int) (v1 : Int) (v2 : Int) : Option (Nat × Int) :=
  bdQ (fC_named g v0 v1) (fun y1 => bdQ (fC_named g v0 v2) (fun y7 => if kd y1 = 3 then if (g y1 1) = 2 then (bdQ (fC_checkState g 0) (fun y17 => if kd (g v0 0) = 5 then bdP (fT_lowestOver g (g v0 0) y1 y7) (fun y25 => if kd y25 = 3 then some (0, (g y25 0)) else none) else none) (fun E22 => some (E22 + 1, 0))) else (if kd y7 = 3 then if (g y7 1) = 2 then (bdQ (fC_checkState g 0) (fun y35 => if kd (g v0 0) = 5 then bdP (fT_lowestOver g (g v0 0) y1 y7) (fun y43 => if kd y43 = 3 then some (0, (g y43 0)) else none) else none) (fun E40 => some (E40 + 1, 0))) else (bdQ (fC_checkState g 1) (fun y49 => if kd (g v0 0) = 5 then bdP (fT_lowestOver g (g v0 0) y1 y7) (fun y57 => if kd y57 = 3 then some (0, (g y57 0)) else none) else none) (fun E54 => some (E54 + 1, 0))) else none) else none) (fun E12 => some (E12 + 1, 0))) (fun E6 => some (E6 + 1, 0))
noncomputable def fW_meet (g : gH) (v0 : Int) (v1 : Int) (v2 : Int) (v3 : Int) : Option (Int × gH) :=
  if kd v0 = 6 then bdQ (fC_meet g v0 v1 v2) (fun y2 => if kd v3 = 23 ∧ (0 : Int) ≤ 0 ∧ 0 < sz v3 then bnd (pU g v3 0 y2) (fun g9 => some (0, g9)) else none) (fun E7 => if E7 = 2 then (some (1, g)) else if E7 = 1 then (some (2, g)) else none) else none
noncomputable def bT_countBelow_16 (g : gH) (v1 : Int) (v2 : Int) (v4 : Int) (v5 : Int) (X16 : Int → Int → Option Int) (v3 : Int) (v6 : Int) : Option Int :=
  if v6 < v5 then (if kd v4 = 24 ∧ (0 : Int) ≤ v6 ∧ v6 < sz v4 then if kd (g v4 v6) = 3 then if (g (g v4 v6) 1) = v2 then (if kd v1 = 3 then bdP (fP_isOver g v1 (g v4 v6)) (fun y13 => if y13 = 0 then (X16 v3 (w32 (v6 + 1))) else (X16 (w32 (v3 + 1)) (w32 (v6 + 1)))) else none) else (X16 v3 (w32 (v6 + 1))) else none else none) else (some v3)
noncomputable def lT_countBelow_16 (g : gH) (v1 : Int) (v2 : Int) (v4 : Int) (v5 : Int) (n : Nat) : Int → Int → Option Int := Nat.rec (motive := fun _ => Int → Int → Option Int) (fun _ _ => none) (fun _ ih => bT_countBelow_16 g v1 v2 v4 v5 ih) n
noncomputable def fT_countBelow (g : gH) (v0 : Int) (v1 : Int) (v2 : Int) : Option Int :=
  if kd (g v0 1) = 24 then lT_countBelow_16 g v1 v2 (g v0 1) (sz (g v0 1)) fu 0 0 else none
noncomputable def fC_below (g : gH) (v0 : Int) (v1 : Int) : Option (Nat × Int) :=
  bdQ (fC_named g v0 v1) (fun y2 => if kd (g v0 0) = 5 then bdP (fT_countBelow g (g v0 0) y2 0) (fun y9 => some (0, y9)) else none) (fun E7 => some (E7 + 1, 0))
noncomputable def fW_below (g : gH) (v0 : Int) (v1 : Int) (v2 : Int) : Option (Int × gH) :=
  if kd v0 = 6 then bdQ (fC_below g v0 v1) (fun y2 => if kd v2 = 23 ∧ (0 : Int) ≤ 0 ∧ 0 < sz v2 then bnd (pU g v2 0 y2) (fun g9 => some (0, g9)) else none) (fun E7 => if E7 = 2 then (some (1, g)) else none) else none
noncomputable def fP_isRunningChildOf (g : gH) (v0 : Int) (v1 : Int) : Option Int :=
  if (g v0 1) = 0 then (if (g v0 2) = v1 then (some 1) else (some 0)) else (some 0)
noncomputable def bT_childBehind_12 (g : gH) (v1 : Int) (v2 : Int) (v3 : Int) (v4 : Int) (X12 : Int → Option Int) (v5 : Int) : Option Int :=
  if v5 < v4 then (if kd v3 = 24 ∧ (0 : Int) ≤ v5 ∧ v5 < sz v3 then if kd (g v3 v5) = 3 then if v2 < (g (g v3 v5) 0) then (bdP (fP_isRunningChildOf g (g v3 v5) v1) (fun y12 => if y12 = 0 then (X12 (w32 (v5 + 1))) else (some (g v3 v5)))) else (X12 (w32 (v5 + 1))) else none else none) else (some (-1))
noncomputable def lT_childBehind_12 (g : gH) (v1 : Int) (v2 : Int) (v3 : Int) (v4 : Int) (n : Nat) : Int → Option Int := Nat.rec (motive := fun _ => Int → Option Int) (fun _ => none) (fun _ ih => bT_childBehind_12 g v1 v2 v3 v4 ih) n
noncomputable def fT_childBehind (g : gH) (v0 : Int) (v1 : Int) (v2 : Int) : Option Int :=
  if kd (g v0 1) = 24 then lT_childBehind_12 g v1 v2 (g v0 1) (sz (g v0 1)) fu 0 else none
noncomputable def bT_nextOfWalk_9 (g : gH) (v0 : Int) (X9 : Int → Int → Option Int) (v2 : Int) (v3 : Int) : Option Int :=
  if v2 < 0 then (if kd v3 = 3 then if (g v3 2) < 0 then (some v2) else (bdP (fT_childBehind g v0 (g v3 2) (g v3 0)) (fun y13 => X9 y13 (g v3 2))) else none) else (some v2)
noncomputable def lT_nextOfWalk_9 (g : gH) (v0 : Int) (n : Nat) : Int → Int → Option Int := Nat.rec (motive := fun _ => Int → Int → Option Int) (fun _ _ => none) (fun _ ih => bT_nextOfWalk_9 g v0 ih) n
noncomputable def fT_nextOfWalk (g : gH) (v0 : Int) (v1 : Int) : Option Int :=
  bdP (fT_childBehind g v0 v1 (-1)) (fun y1 => lT_nextOfWalk_9 g v0 fu y1 v1)
noncomputable def jC_walked_48 (g : gH) (v2 : Int) : Option (Nat × Int) :=
  if v2 < 0 then (some (4, 0)) else (if kd v2 = 3 then some (0, (g v2 0)) else none)
noncomputable def bC_walked_24 (g : gH) (v0 : Int) (v1 : Int) (X24 : Int → Int → Option (Nat × Int)) (v2 : Int) (v3 : Int) : Option (Nat × Int) :=
  if v3 < v1 then (if v2 < 0 then (jC_walked_48 g v2) else (if kd (g v0 0) = 5 then bdP (fT_nextOfWalk g (g v0 0) v2) (fun y14 => X24 y14 (w32 (v3 + 1))) else none)) else (jC_walked_48 g v2)
noncomputable def lC_walked_24 (g : gH) (v0 : Int) (v1 : Int) (n : Nat) : Int → Int → Option (Nat × Int) := Nat.rec (motive := fun _ => Int → Int → Option (Nat × Int)) (fun _ _ => none) (fun _ ih => bC_walked_24 g v0 v1 ih) n
noncomputable def fC_walked (g : gH) (v0 : Int) (v1 : Int) : Option (Nat × Int) :=
  if v1 < 0 then (lC_walked_24 g v0 v1 fu (-1) 0) else (if v1 < 40 then (if kd (g v0 0) = 5 then lC_walked_24 g v0 v1 fu (g (g v0 0) 0) 0 else none) else (lC_walked_24 g v0 v1 fu (-1) 0))
noncomputable def fW_walked (g : gH) (v0 : Int) (v1 : Int) (v2 : Int) : Option (Int × gH) :=
  if kd v0 = 6 then bdQ (fC_walked g v0 v1) (fun y2 => if kd v2 = 23 ∧ (0 : Int) ≤ 0 ∧ 0 < sz v2 then bnd (pU g v2 0 y2) (fun g9 => some (0, g9)) else none) (fun E7 => if E7 = 3 then (some (1, g)) else none) else none
noncomputable def jH_push_21 (g : gH) (v0 : Int) (v1 : Int) : Option (Int × gH) :=
  if kd (g v0 0) = 25 ∧ (0 : Int) ≤ (g v0 2) ∧ (g v0 2) < sz (g v0 0) then if kd (g (g v0 0) (g v0 2)) = 5 then bdN (fT_take g (g (g v0 0) (g v0 2)) v1) (fun y14 g16 => bnd (pU g16 v0 2 (w32 ((g16 v0 2) + 1))) (fun g19 => if (g19 v0 1) < 10 then (bnd (pU g19 v0 1 (w32 ((g19 v0 1) + 1))) (fun g25 => some (0, g25))) else (some (0, g19)))) else none else none
noncomputable def jH_push_16 (g : gH) (v0 : Int) (v1 : Int) : Option (Int × gH) :=
  bnd (pU g v0 2 0) (fun g7 => jH_push_21 g7 v0 v1)
noncomputable def fH_push (g : gH) (v0 : Int) (v1 : Int) : Option (Int × gH) :=
  if (g v0 2) < 0 then (jH_push_16 g v0 v1) else (if (g v0 2) < 10 then (jH_push_21 g v0 v1) else (jH_push_16 g v0 v1))
noncomputable def jC_spawn_51 (g : gH) (v0 : Int) (v2 : Int) (v3 : Int) (v4 : Int) (v5 : Int) (s0 : Int) : Option (Nat × (Int × gH)) :=
  bdQ (fC_checkState g s0) (fun y37 => if kd (g v0 3) = 0 then bdN (fH_push g (g v0 3) (g v0 0)) (fun y46 g48 => if kd (g48 v0 0) = 5 then bdN (fT_arrive g48 (g48 v0 0) v5 v2 v3 v4) (fun y52 g54 => bdP (fC_numberOf g54 y52) (fun y56 => some (0, (y56, g54)))) else none) else none) (fun E42 => some (E42 + 1, (0, g)))
noncomputable def jC_spawn_50 (g : gH) (v0 : Int) (v2 : Int) (v3 : Int) (v4 : Int) (v5 : Int) : Option (Nat × (Int × gH)) :=
  jC_spawn_51 g v0 v2 v3 v4 v5 0
noncomputable def fC_spawn (g : gH) (v0 : Int) (v1 : Int) (v2 : Int) (v3 : Int) (v4 : Int) : Option (Nat × (Int × gH)) :=
  bdQ (fC_named g v0 v1) (fun y1 => bdQ (fC_checkRange g v2 9) (fun y7 => bdQ (fC_checkRange g v3 9) (fun y13 => bdQ (fC_checkRange g v4 9) (fun y19 => if kd y1 = 3 then bdP (fP_room g y1) (fun y26 => if 0 < y26 then (if kd (g v0 0) = 5 then if (g (g v0 0) 5) < 40 then (jC_spawn_51 g v0 v2 v3 v4 y1 1) else (jC_spawn_50 g v0 v2 v3 v4 y1) else none) else (jC_spawn_50 g v0 v2 v3 v4 y1)) else none) (fun E24 => some (E24 + 1, (0, g)))) (fun E18 => some (E18 + 1, (0, g)))) (fun E12 => some (E12 + 1, (0, g)))) (fun E6 => some (E6 + 1, (0, g)))
noncomputable def fW_spawn (g : gH) (v0 : Int) (v1 : Int) (v2 : Int) (v3 : Int) (v4 : Int) (v5 : Int) : Option (Int × gH) :=
  if kd v0 = 6 then bdT (fC_spawn g v0 v1 v2 v3 v4) (fun y2 g4 => if kd v5 = 23 ∧ (0 : Int) ≤ 0 ∧ 0 < sz v5 then bnd (pU g4 v5 0 y2) (fun g9 => some (0, g9)) else none) (fun E7 g4 => if E7 = 2 then (some (1, g4)) else if E7 = 0 then (some (2, g4)) else if E7 = 1 then (some (3, g4)) else none) else none
noncomputable def fP_isMortal (g : gH) (v0 : Int) : Option Int :=
  if (g v0 1) = 0 then (if (g v0 2) < 0 then (some 0) else (some 1)) else (some 0)
noncomputable def fC_namedForExit (g : gH) (v0 : Int) (v1 : Int) (v2 : Int) : Option (Nat × Int) :=
  bdQ (fC_named g v0 v1) (fun y1 => bdQ (fC_checkRange g v2 255) (fun y7 => if kd y1 = 3 then bdP (fP_isMortal g y1) (fun y14 => bdQ (fC_checkState g y14) (fun y18 => some (0, y1)) (fun E23 => some (E23 + 1, 0))) else none) (fun E12 => some (E12 + 1, 0))) (fun E6 => some (E6 + 1, 0))
noncomputable def fT_replace (g : gH) (v0 : Int) (v1 : Int) (v2 : Int) : Option (Int × gH) :=
  if kd v2 = 3 then if (g v2 13) = 0 then (if 0 < (g v2 6) then (if kd v1 = 3 then bdN (fT_arrive g v0 v2 (g v1 4) (g v1 5) (g v1 6)) (fun y12 g14 => if y12 < 0 then (some (y12, g14)) else (bnd (pU g14 v2 6 (w32 ((g14 v2 6) - 1))) (fun g19 => if kd y12 = 3 then bnd (pU g19 v1 12 (g19 y12 0)) (fun g23 => bnd (pU g23 v0 9 (w32 ((g23 v0 9) + 1))) (fun g26 => some (y12, g26))) else none))) else none) else (some ((-1), g))) else (some ((-1), g)) else none
noncomputable def fP_canInherit (g : gH) (v0 : Int) : Option Int :=
  if (g v0 1) = 0 then (if (g v0 13) = 0 then (some 1) else (some 0)) else (some 0)
noncomputable def jT_heirOf_73 (g : gH) (v0 : Int) (v1 : Int) : Option Int :=
  if kd v1 = 3 then if (g v1 2) < 0 then (some (g v0 0)) else (some (g v1 2)) else none
noncomputable def bT_heirOf_34 (g : gH) (v0 : Int) (v1 : Int) (v3 : Int) (v4 : Int) (X34 : Int → Option Int) (v5 : Int) : Option Int :=
  if v5 < v4 then (if kd v3 = 24 ∧ (0 : Int) ≤ v5 ∧ v5 < sz v3 then if kd (g v3 v5) = 3 then bdP (fP_isRunningChildOf g (g v3 v5) v1) (fun y27 => if y27 = 0 then (X34 (w32 (v5 + 1))) else (bdP (fP_canInherit g (g v3 v5)) (fun y33 => if y33 = 0 then (X34 (w32 (v5 + 1))) else (some (g v3 v5))))) else none else none) else (jT_heirOf_73 g v0 v1)
noncomputable def lT_heirOf_34 (g : gH) (v0 : Int) (v1 : Int) (v3 : Int) (v4 : Int) (n : Nat) : Int → Option Int := Nat.rec (motive := fun _ => Int → Option Int) (fun _ => none) (fun _ ih => bT_heirOf_34 g v0 v1 v3 v4 ih) n
noncomputable def fT_heirOf (g : gH) (v0 : Int) (v1 : Int) : Option Int :=
  if kd v1 = 3 then bdP (fT_at g v0 (g v1 7)) (fun y3 => if y3 < 0 then (if kd (g v0 1) = 24 then lT_heirOf_34 g v0 v1 (g v0 1) (sz (g v0 1)) fu 0 else none) else (if kd y3 = 3 then bdP (fP_canInherit g y3) (fun y13 => if y13 = 0 then (if kd (g v0 1) = 24 then lT_heirOf_34 g v0 v1 (g v0 1) (sz (g v0 1)) fu 0 else none) else (some y3)) else none)) else none
noncomputable def fT_inheritorOf (g : gH) (v0 : Int) (v1 : Int) (v2 : Int) : Option Int :=
  if kd v1 = 3 then bdP (fP_willFor g v1 v2) (fun y2 => bdP (fT_at g v0 y2) (fun y6 => if y6 < 0 then (bdP (fT_heirOf g v0 v1) (fun y12 => some y12)) else (if kd y6 = 3 then bdP (fP_canInherit g y6) (fun y17 => if y17 = 0 then (bdP (fT_heirOf g v0 v1) (fun y23 => some y23)) else (some y6)) else none))) else none
noncomputable def bT_passDuties_2 (v0 : Int) (v1 : Int) (v2 : Int) (X2 : Int → gH → Option (Int × gH)) (v3 : Int) (g : gH) : Option (Int × gH) :=
  if v3 < 8 then (if kd (g v0 2) = 20 ∧ (0 : Int) ≤ v3 ∧ v3 < sz (g v0 2) then if kd v1 = 3 then if (g (g v0 2) v3) = (g v1 0) then (if v2 < 0 then (bdP (fT_inheritorOf g v0 v1 v3) (fun y12 => if kd y12 = 3 then if kd (g v0 2) = 20 ∧ (0 : Int) ≤ v3 ∧ v3 < sz (g v0 2) then bnd (pU g (g v0 2) v3 (g y12 0)) (fun g20 => X2 (w32 (v3 + 1)) g20) else none else none)) else (if kd v2 = 3 then if kd (g v0 2) = 20 ∧ (0 : Int) ≤ v3 ∧ v3 < sz (g v0 2) then bnd (pU g (g v0 2) v3 (g v2 0)) (fun g26 => X2 (w32 (v3 + 1)) g26) else none else none)) else (X2 (w32 (v3 + 1)) g) else none else none) else (some (0, g))
noncomputable def lT_passDuties_2 (v0 : Int) (v1 : Int) (v2 : Int) (n : Nat) : Int → gH → Option (Int × gH) := Nat.rec (motive := fun _ => Int → gH → Option (Int × gH)) (fun _ _ => none) (fun _ ih => bT_passDuties_2 v0 v1 v2 ih) n
noncomputable def fT_passDuties (g : gH) (v0 : Int) (v1 : Int) (v2 : Int) : Option (Int × gH) :=
  lT_passDuties_2 v0 v1 v2 fu 0 g
noncomputable def fT_adopt (g : gH) (v0 : Int) (v1 : Int) (v2 : Int) : Option (Int × gH) :=
  if kd v1 = 3 then bdN (fP_putUnder g v1 v2) (fun y2 g4 => bnd (pU g4 v1 11 (w32 ((g4 v1 11) + 1))) (fun g7 => bnd (pU g7 v0 7 (w32 ((g7 v0 7) + 1))) (fun g10 => if v2 = (g10 v0 0) then (bnd (pU g10 v0 8 (w32 ((g10 v0 8) + 1))) (fun g16 => some (0, g16))) else (some (0, g10))))) else none
noncomputable def fT_canAdopt (g : gH) (v0 : Int) (v1 : Int) (v2 : Int) : Option Int :=
  if kd v1 = 3 then bdP (fP_isMortal g v1) (fun y2 => if y2 = 0 then (some 0) else (if (g v1 13) = 0 then (if v1 = v2 then (some 0) else (if kd v2 = 3 then bdP (fP_refuses g v1 (g v2 5)) (fun y15 => if y15 = 0 then (bdP (fP_room g v1) (fun y21 => if y21 = 0 then (some 0) else (bdP (fP_countAbove g v1) (fun y27 => if y27 < (g v0 4) then (bdP (fP_isOver g v2 v1) (fun y34 => if y34 = 0 then (some 1) else (some 0))) else (some 0))))) else (some 0)) else none)) else (some 0))) else none
noncomputable def bT_nearest_5 (g : gH) (v0 : Int) (v1 : Int) (X5 : Int → Option Int) (v3 : Int) : Option Int :=
  if v3 < 0 then (some (-1)) else (bdP (fT_canAdopt g v0 v3 v1) (fun y5 => if y5 = 0 then (if kd v3 = 3 then X5 (g v3 2) else none) else (some v3)))
noncomputable def lT_nearest_5 (g : gH) (v0 : Int) (v1 : Int) (n : Nat) : Int → Option Int := Nat.rec (motive := fun _ => Int → Option Int) (fun _ => none) (fun _ ih => bT_nearest_5 g v0 v1 ih) n
noncomputable def fT_nearest (g : gH) (v0 : Int) (v1 : Int) (v2 : Int) : Option Int :=
  if kd v2 = 3 then lT_nearest_5 g v0 v1 fu (g v2 2) else none
noncomputable def jT_roomiestFor_83 (X17 : Int → Int → Option Int) (g : gH) (v0 : Int) (v1 : Int) (v2 : Int) (v3 : Int) (v4 : Int) (v5 : Int) (v6 : Int) (v7 : Int) (v8 : Int) (v9 : Int) (s0 : Int) : Option Int :=
  if v9 = 0 then (X17 v4 (w32 (v7 + 1))) else (if s0 = 0 then (X17 v4 (w32 (v7 + 1))) else (bdP (fT_canAdopt g v0 v8 v1) (fun y36 => if y36 = 0 then (X17 v4 (w32 (v7 + 1))) else (X17 v8 (w32 (v7 + 1))))))
noncomputable def jT_roomiestFor_78 (X17 : Int → Int → Option Int) (g : gH) (v0 : Int) (v1 : Int) (v2 : Int) (v3 : Int) (v4 : Int) (v5 : Int) (v6 : Int) (v7 : Int) (v8 : Int) (v9 : Int) : Option Int :=
  jT_roomiestFor_83 X17 g v0 v1 v2 v3 v4 v5 v6 v7 v8 v9 1
noncomputable def jT_roomiestFor_58 (X17 : Int → Int → Option Int) (g : gH) (v0 : Int) (v1 : Int) (v2 : Int) (v3 : Int) (v4 : Int) (v5 : Int) (v6 : Int) (v7 : Int) (v8 : Int) (s0 : Int) : Option Int :=
  if v4 < 0 then (jT_roomiestFor_78 X17 g v0 v1 v2 v3 v4 v5 v6 v7 v8 s0) else (if kd v8 = 3 then bdP (fP_room g v8) (fun y21 => if kd v4 = 3 then bdP (fP_room g v4) (fun y26 => if y26 < y21 then (jT_roomiestFor_78 X17 g v0 v1 v2 v3 v4 v5 v6 v7 v8 s0) else (jT_roomiestFor_83 X17 g v0 v1 v2 v3 v4 v5 v6 v7 v8 s0 0)) else none) else none)
noncomputable def jT_roomiestFor_57 (X17 : Int → Int → Option Int) (g : gH) (v0 : Int) (v1 : Int) (v2 : Int) (v3 : Int) (v4 : Int) (v5 : Int) (v6 : Int) (v7 : Int) (v8 : Int) : Option Int :=
  jT_roomiestFor_58 X17 g v0 v1 v2 v3 v4 v5 v6 v7 v8 0
noncomputable def jT_roomiestFor_53 (X17 : Int → Int → Option Int) (g : gH) (v0 : Int) (v1 : Int) (v2 : Int) (v3 : Int) (v4 : Int) (v5 : Int) (v6 : Int) (v7 : Int) (v8 : Int) : Option Int :=
  jT_roomiestFor_58 X17 g v0 v1 v2 v3 v4 v5 v6 v7 v8 1
noncomputable def bT_roomiestFor_17 (g : gH) (v0 : Int) (v1 : Int) (v2 : Int) (v3 : Int) (v5 : Int) (v6 : Int) (X17 : Int → Int → Option Int) (v4 : Int) (v7 : Int) : Option Int :=
  if v7 < v6 then (if kd v5 = 24 ∧ (0 : Int) ≤ v7 ∧ v7 < sz v5 then if (g v5 v7) = v2 then (jT_roomiestFor_57 X17 g v0 v1 v2 v3 v4 v5 v6 v7 (g v5 v7)) else (if v3 = 0 then (jT_roomiestFor_53 X17 g v0 v1 v2 v3 v4 v5 v6 v7 (g v5 v7)) else (if kd (g v5 v7) = 3 then if kd v1 = 3 then if (g (g v5 v7) 5) = (g v1 5) then (jT_roomiestFor_53 X17 g v0 v1 v2 v3 v4 v5 v6 v7 (g v5 v7)) else (jT_roomiestFor_57 X17 g v0 v1 v2 v3 v4 v5 v6 v7 (g v5 v7)) else none else none)) else none) else (some v4)
noncomputable def lT_roomiestFor_17 (g : gH) (v0 : Int) (v1 : Int) (v2 : Int) (v3 : Int) (v5 : Int) (v6 : Int) (n : Nat) : Int → Int → Option Int := Nat.rec (motive := fun _ => Int → Int → Option Int) (fun _ _ => none) (fun _ ih => bT_roomiestFor_17 g v0 v1 v2 v3 v5 v6 ih) n
noncomputable def fT_roomiestFor (g : gH) (v0 : Int) (v1 : Int) (v2 : Int) (v3 : Int) : Option Int :=
  if kd (g v0 1) = 24 then lT_roomiestFor_17 g v0 v1 v2 v3 (g v0 1) (sz (g v0 1)) fu (-1) 0 else none
noncomputable def bT_firstKin_19 (g : gH) (v0 : Int) (v1 : Int) (v2 : Int) (v3 : Int) (v4 : Int) (v5 : Int) (X19 : Int → Option Int) (v6 : Int) : Option Int :=
  if v6 < v5 then (if kd v4 = 24 ∧ (0 : Int) ≤ v6 ∧ v6 < sz v4 then if v3 < 0 then (X19 (w32 (v6 + 1))) else (if (g v4 v6) = v2 then (X19 (w32 (v6 + 1))) else (if kd (g v4 v6) = 3 then bdP (fP_isRunningChildOf g (g v4 v6) v3) (fun y15 => if y15 = 0 then (X19 (w32 (v6 + 1))) else (bdP (fT_canAdopt g v0 (g v4 v6) v1) (fun y21 => if y21 = 0 then (X19 (w32 (v6 + 1))) else (some (g v4 v6))))) else none)) else none) else (some (-1))
noncomputable def lT_firstKin_19 (g : gH) (v0 : Int) (v1 : Int) (v2 : Int) (v3 : Int) (v4 : Int) (v5 : Int) (n : Nat) : Int → Option Int := Nat.rec (motive := fun _ => Int → Option Int) (fun _ => none) (fun _ ih => bT_firstKin_19 g v0 v1 v2 v3 v4 v5 ih) n
noncomputable def fT_firstKin (g : gH) (v0 : Int) (v1 : Int) (v2 : Int) : Option Int :=
  if kd v2 = 3 then if kd (g v0 1) = 24 then lT_firstKin_19 g v0 v1 v2 (g v2 2) (g v0 1) (sz (g v0 1)) fu 0 else none else none
noncomputable def bT_oldest_12 (g : gH) (v0 : Int) (v1 : Int) (v2 : Int) (v3 : Int) (v4 : Int) (X12 : Int → Option Int) (v5 : Int) : Option Int :=
  if v5 < v4 then (if kd v3 = 24 ∧ (0 : Int) ≤ v5 ∧ v5 < sz v3 then if (g v3 v5) = v2 then (X12 (w32 (v5 + 1))) else (bdP (fT_canAdopt g v0 (g v3 v5) v1) (fun y10 => if y10 = 0 then (X12 (w32 (v5 + 1))) else (some (g v3 v5)))) else none) else (some (-1))
noncomputable def lT_oldest_12 (g : gH) (v0 : Int) (v1 : Int) (v2 : Int) (v3 : Int) (v4 : Int) (n : Nat) : Int → Option Int := Nat.rec (motive := fun _ => Int → Option Int) (fun _ => none) (fun _ ih => bT_oldest_12 g v0 v1 v2 v3 v4 ih) n
noncomputable def fT_oldest (g : gH) (v0 : Int) (v1 : Int) (v2 : Int) : Option Int :=
  if kd (g v0 1) = 24 then lT_oldest_12 g v0 v1 v2 (g v0 1) (sz (g v0 1)) fu 0 else none
noncomputable def jT_adopterOf_130 (g : gH) (v0 : Int) (v3 : Int) : Option Int :=
  if v3 < 0 then (some (g v0 0)) else (some v3)
noncomputable def bT_adopterOf_19 (g : gH) (v0 : Int) (v1 : Int) (v2 : Int) (X19 : Int → Int → Option Int) (v3 : Int) (v4 : Int) : Option Int :=
  if v4 < 5 then (if v3 < 0 then (if kd (g v0 3) = 20 ∧ (0 : Int) ≤ v4 ∧ v4 < sz (g v0 3) then if (g (g v0 3) v4) = 0 then (bdP (fT_nearest g v0 v1 v2) (fun y15 => X19 y15 (w32 (v4 + 1)))) else if (g (g v0 3) v4) = 1 then (bdP (fT_roomiestFor g v0 v1 v2 1) (fun y21 => X19 y21 (w32 (v4 + 1)))) else if (g (g v0 3) v4) = 2 then (bdP (fT_roomiestFor g v0 v1 v2 0) (fun y27 => X19 y27 (w32 (v4 + 1)))) else if (g (g v0 3) v4) = 3 then (bdP (fT_firstKin g v0 v1 v2) (fun y33 => X19 y33 (w32 (v4 + 1)))) else if (g (g v0 3) v4) = 4 then (bdP (fT_oldest g v0 v1 v2) (fun y39 => X19 y39 (w32 (v4 + 1)))) else (X19 v3 (w32 (v4 + 1))) else none) else (jT_adopterOf_130 g v0 v3)) else (jT_adopterOf_130 g v0 v3)
noncomputable def lT_adopterOf_19 (g : gH) (v0 : Int) (v1 : Int) (v2 : Int) (n : Nat) : Int → Int → Option Int := Nat.rec (motive := fun _ => Int → Int → Option Int) (fun _ _ => none) (fun _ ih => bT_adopterOf_19 g v0 v1 v2 ih) n
noncomputable def fT_adopterOf (g : gH) (v0 : Int) (v1 : Int) : Option Int :=
  if kd v1 = 3 then if (g v1 2) < 0 then (some (g v0 0)) else (lT_adopterOf_19 g v0 v1 (g v1 2) fu (-1) 0) else none
noncomputable def bT_readZombiesOf_14 (v1 : Int) (v3 : Int) (v4 : Int) (X14 : Int → Int → gH → Option (Int × gH)) (v2 : Int) (v5 : Int) (g : gH) : Option (Int × gH) :=
  if v5 < v4 then (if kd v3 = 24 ∧ (0 : Int) ≤ v5 ∧ v5 < sz v3 then if kd (g v3 v5) = 3 then bdP (fP_isZombieOf g (g v3 v5) v1) (fun y9 => if y9 = 0 then (X14 v2 (w32 (v5 + 1)) g) else (bnd (pU g (g v3 v5) 1 2) (fun g15 => X14 (w32 (v2 + (g15 (g v3 v5) 9))) (w32 (v5 + 1)) g15))) else none else none) else (some (v2, g))
noncomputable def lT_readZombiesOf_14 (v1 : Int) (v3 : Int) (v4 : Int) (n : Nat) : Int → Int → gH → Option (Int × gH) := Nat.rec (motive := fun _ => Int → Int → gH → Option (Int × gH)) (fun _ _ _ => none) (fun _ ih => bT_readZombiesOf_14 v1 v3 v4 ih) n
noncomputable def fT_readZombiesOf (g : gH) (v0 : Int) (v1 : Int) : Option (Int × gH) :=
  if kd (g v0 1) = 24 then lT_readZombiesOf_14 v1 (g v0 1) (sz (g v0 1)) fu 0 0 g else none
noncomputable def jT_letExit_133 (X92 : Int → gH → Option (Int × gH)) (g : gH) (v0 : Int) (v1 : Int) (v3 : Int) (v4 : Int) (v5 : Int) (v6 : Int) (v7 : Int) (v8 : Int) (v9 : Int) (s0 : Int) : Option (Int × gH) :=
  if s0 = 0 then (bdP (fT_adopterOf g v0 v9) (fun y55 => bdN (fT_adopt g v0 v9 y55) (fun y59 g61 => X92 (w32 (v8 + 1)) g61))) else (bdN (fT_adopt g v0 v9 v5) (fun y63 g65 => X92 (w32 (v8 + 1)) g65))
noncomputable def jT_letExit_132 (X92 : Int → gH → Option (Int × gH)) (g : gH) (v0 : Int) (v1 : Int) (v3 : Int) (v4 : Int) (v5 : Int) (v6 : Int) (v7 : Int) (v8 : Int) (v9 : Int) : Option (Int × gH) :=
  jT_letExit_133 X92 g v0 v1 v3 v4 v5 v6 v7 v8 v9 0
noncomputable def jT_letExit_212 (g : gH) (v0 : Int) (v3 : Int) (v4 : Int) : Option (Int × gH) :=
  if v3 = (g v0 0) then (bdN (fT_readZombiesOf g v0 (g v0 0)) (fun y87 g89 => some ((w32 ((g89 v0 8) - v4)), g89))) else (some ((w32 ((g v0 8) - v4)), g))
noncomputable def bT_letExit_177 (v0 : Int) (v1 : Int) (v3 : Int) (v4 : Int) (v6 : Int) (v7 : Int) (X177 : Int → gH → Option (Int × gH)) (v8 : Int) (g : gH) : Option (Int × gH) :=
  if v8 < v7 then (if kd v6 = 24 ∧ (0 : Int) ≤ v8 ∧ v8 < sz v6 then if kd (g v6 v8) = 3 then bdP (fP_isZombieOf g (g v6 v8) v1) (fun y75 => if y75 = 0 then (X177 (w32 (v8 + 1)) g) else (bnd (pU g (g v6 v8) 2 v3) (fun g81 => X177 (w32 (v8 + 1)) g81))) else none else none) else (jT_letExit_212 g v0 v3 v4)
noncomputable def lT_letExit_177 (v0 : Int) (v1 : Int) (v3 : Int) (v4 : Int) (v6 : Int) (v7 : Int) (n : Nat) : Int → gH → Option (Int × gH) := Nat.rec (motive := fun _ => Int → gH → Option (Int × gH)) (fun _ _ => none) (fun _ ih => bT_letExit_177 v0 v1 v3 v4 v6 v7 ih) n
noncomputable def jT_letExit_163 (g : gH) (v0 : Int) (v1 : Int) (v3 : Int) (v4 : Int) : Option (Int × gH) :=
  if kd (g v0 1) = 24 then lT_letExit_177 v0 v1 v3 v4 (g v0 1) (sz (g v0 1)) fu 0 g else none
noncomputable def bT_letExit_92 (v0 : Int) (v1 : Int) (v3 : Int) (v4 : Int) (v5 : Int) (v6 : Int) (v7 : Int) (X92 : Int → gH → Option (Int × gH)) (v8 : Int) (g : gH) : Option (Int × gH) :=
  if v8 < v7 then (if kd v6 = 24 ∧ (0 : Int) ≤ v8 ∧ v8 < sz v6 then if kd (g v6 v8) = 3 then bdP (fP_isRunningChildOf g (g v6 v8) v1) (fun y38 => if y38 = 0 then (X92 (w32 (v8 + 1)) g) else (if v5 < 0 then (jT_letExit_132 X92 g v0 v1 v3 v4 v5 v6 v7 v8 (g v6 v8)) else (if kd v5 = 3 then bdP (fP_room g v5) (fun y47 => if 0 < y47 then (jT_letExit_133 X92 g v0 v1 v3 v4 v5 v6 v7 v8 (g v6 v8) 1) else (jT_letExit_132 X92 g v0 v1 v3 v4 v5 v6 v7 v8 (g v6 v8))) else none))) else none else none) else (jT_letExit_163 g v0 v1 v3 v4)
noncomputable def lT_letExit_92 (v0 : Int) (v1 : Int) (v3 : Int) (v4 : Int) (v5 : Int) (v6 : Int) (v7 : Int) (n : Nat) : Int → gH → Option (Int × gH) := Nat.rec (motive := fun _ => Int → gH → Option (Int × gH)) (fun _ _ => none) (fun _ ih => bT_letExit_92 v0 v1 v3 v4 v5 v6 v7 ih) n
noncomputable def jT_letExit_69 (g : gH) (v0 : Int) (v1 : Int) (v3 : Int) (v4 : Int) (s0 : Int) : Option (Int × gH) :=
  bdN (fT_passDuties g v0 v1 s0) (fun y26 g28 => if kd (g28 v0 1) = 24 then lT_letExit_92 v0 v1 v3 v4 s0 (g28 v0 1) (sz (g28 v0 1)) fu 0 g28 else none)
noncomputable def fT_letExit (g : gH) (v0 : Int) (v1 : Int) (v2 : Int) : Option (Int × gH) :=
  if kd v1 = 3 then if (g v1 2) < 0 then (some (0, g)) else (bnd (pU g v1 1 1) (fun g6 => bnd (pU g6 v1 9 v2) (fun g8 => bnd (pU g8 v1 10 (g8 v0 6)) (fun g11 => bnd (pU g11 v0 6 (w32 ((g11 v0 6) + 1))) (fun g14 => if kd (g v1 2) = 3 then bnd (pU g14 (g v1 2) 3 (w32 ((g14 (g v1 2) 3) - 1))) (fun g18 => if v2 = 0 then (jT_letExit_69 g18 v0 v1 (g v1 2) (g v0 8) (-1)) else (bdN (fT_replace g18 v0 v1 (g v1 2)) (fun y22 g24 => jT_letExit_69 g24 v0 v1 (g v1 2) (g v0 8) y22))) else none))))) else none
noncomputable def fC_exit (g : gH) (v0 : Int) (v1 : Int) (v2 : Int) : Option (Nat × (Int × gH)) :=
  bdQ (fC_namedForExit g v0 v1 v2) (fun y1 => if kd (g v0 3) = 0 then bdN (fH_push g (g v0 3) (g v0 0)) (fun y10 g12 => if kd (g12 v0 0) = 5 then bdN (fT_letExit g12 (g12 v0 0) y1 v2) (fun y16 g18 => some (0, (y16, g18))) else none) else none) (fun E6 => some (E6 + 1, (0, g)))
noncomputable def fW_exit (g : gH) (v0 : Int) (v1 : Int) (v2 : Int) (v3 : Int) : Option (Int × gH) :=
  if kd v0 = 6 then bdT (fC_exit g v0 v1 v2) (fun y2 g4 => if kd v3 = 23 ∧ (0 : Int) ≤ 0 ∧ 0 < sz v3 then bnd (pU g4 v3 0 y2) (fun g9 => some (0, g9)) else none) (fun E7 g4 => if E7 = 2 then (some (1, g4)) else if E7 = 0 then (some (2, g4)) else if E7 = 1 then (some (3, g4)) else none) else none
noncomputable def fC_checkKill (g : gH) (v0 : Int) (v1 : Int) : Option (Nat × Int) :=
  bdQ (fC_checkRange g v0 9) (fun y1 => bdQ (fC_checkRange g v1 255) (fun y7 => some (0, 0)) (fun E12 => some (E12 + 1, 0))) (fun E6 => some (E6 + 1, 0))
noncomputable def bT_killGroup_127 (v3 : Int) (v4 : Int) (v5 : Int) (X127 : Int → gH → Option (Int × gH)) (v6 : Int) (g : gH) : Option (Int × gH) :=
  if v6 < v5 then (if kd v4 = 24 ∧ (0 : Int) ≤ v6 ∧ v6 < sz v4 then if kd (g v4 v6) = 3 then bnd (pU g (g v4 v6) 13 0) (fun g47 => X127 (w32 (v6 + 1)) g47) else none else none) else (some (v3, g))
noncomputable def lT_killGroup_127 (v3 : Int) (v4 : Int) (v5 : Int) (n : Nat) : Int → gH → Option (Int × gH) := Nat.rec (motive := fun _ => Int → gH → Option (Int × gH)) (fun _ _ => none) (fun _ ih => bT_killGroup_127 v3 v4 v5 ih) n
noncomputable def jT_killGroup_113 (g : gH) (v0 : Int) (v3 : Int) : Option (Int × gH) :=
  if kd (g v0 1) = 24 then lT_killGroup_127 v3 (g v0 1) (sz (g v0 1)) fu 0 g else none
noncomputable def bT_killGroup_74 (v0 : Int) (v2 : Int) (v4 : Int) (v5 : Int) (X74 : Int → Int → gH → Option (Int × gH)) (v3 : Int) (v6 : Int) (g : gH) : Option (Int × gH) :=
  if v6 < v5 then (if kd v4 = 24 ∧ (0 : Int) ≤ v6 ∧ v6 < sz v4 then if kd (g v4 v6) = 3 then if (g (g v4 v6) 13) = 0 then (X74 v3 (w32 (v6 + 1)) g) else (bdN (fT_letExit g v0 (g v4 v6) v2) (fun y35 g37 => X74 (w32 (v3 + 1)) (w32 (v6 + 1)) g37)) else none else none) else (jT_killGroup_113 g v0 v3)
noncomputable def lT_killGroup_74 (v0 : Int) (v2 : Int) (v4 : Int) (v5 : Int) (n : Nat) : Int → Int → gH → Option (Int × gH) := Nat.rec (motive := fun _ => Int → Int → gH → Option (Int × gH)) (fun _ _ _ => none) (fun _ ih => bT_killGroup_74 v0 v2 v4 v5 ih) n
noncomputable def jT_killGroup_58 (g : gH) (v0 : Int) (v2 : Int) : Option (Int × gH) :=
  if kd (g v0 1) = 24 then lT_killGroup_74 v0 v2 (g v0 1) (sz (g v0 1)) fu 0 0 g else none
noncomputable def bT_killGroup_12 (v0 : Int) (v1 : Int) (v2 : Int) (v3 : Int) (v4 : Int) (X12 : Int → gH → Option (Int × gH)) (v5 : Int) (g : gH) : Option (Int × gH) :=
  if v5 < v4 then (if kd v3 = 24 ∧ (0 : Int) ≤ v5 ∧ v5 < sz v3 then if kd (g v3 v5) = 3 then bdP (fP_isMortal g (g v3 v5)) (fun y9 => if y9 = 0 then (bnd (pU g (g v3 v5) 13 0) (fun g15 => X12 (w32 (v5 + 1)) g15)) else (if (g (g v3 v5) 5) = v1 then (bnd (pU g (g v3 v5) 13 1) (fun g20 => X12 (w32 (v5 + 1)) g20)) else (bnd (pU g (g v3 v5) 13 0) (fun g22 => X12 (w32 (v5 + 1)) g22)))) else none else none) else (jT_killGroup_58 g v0 v2)
noncomputable def lT_killGroup_12 (v0 : Int) (v1 : Int) (v2 : Int) (v3 : Int) (v4 : Int) (n : Nat) : Int → gH → Option (Int × gH) := Nat.rec (motive := fun _ => Int → gH → Option (Int × gH)) (fun _ _ => none) (fun _ ih => bT_killGroup_12 v0 v1 v2 v3 v4 ih) n
noncomputable def fT_killGroup (g : gH) (v0 : Int) (v1 : Int) (v2 : Int) : Option (Int × gH) :=
  if kd (g v0 1) = 24 then lT_killGroup_12 v0 v1 v2 (g v0 1) (sz (g v0 1)) fu 0 g else none
noncomputable def fC_kill (g : gH) (v0 : Int) (v1 : Int) (v2 : Int) : Option (Nat × (Int × gH)) :=
  bdQ (fC_checkKill g v1 v2) (fun y1 => if kd (g v0 3) = 0 then bdN (fH_push g (g v0 3) (g v0 0)) (fun y10 g12 => if kd (g12 v0 0) = 5 then bdN (fT_killGroup g12 (g12 v0 0) v1 v2) (fun y16 g18 => some (0, (y16, g18))) else none) else none) (fun E6 => some (E6 + 1, (0, g)))
noncomputable def fW_kill (g : gH) (v0 : Int) (v1 : Int) (v2 : Int) (v3 : Int) : Option (Int × gH) :=
  if kd v0 = 6 then bdT (fC_kill g v0 v1 v2) (fun y2 g4 => if kd v3 = 23 ∧ (0 : Int) ≤ 0 ∧ 0 < sz v3 then bnd (pU g4 v3 0 y2) (fun g9 => some (0, g9)) else none) (fun E7 g4 => if E7 = 0 then (some (1, g4)) else none) else none
noncomputable def bT_zombieBehind_16 (g : gH) (v1 : Int) (v2 : Int) (v4 : Int) (v5 : Int) (X16 : Int → Int → Option Int) (v3 : Int) (v6 : Int) : Option Int :=
  if v6 < v5 then (if kd v4 = 24 ∧ (0 : Int) ≤ v6 ∧ v6 < sz v4 then if kd (g v4 v6) = 3 then bdP (fP_isZombieOf g (g v4 v6) v1) (fun y9 => if y9 = 0 then (X16 v3 (w32 (v6 + 1))) else (if v2 < (g (g v4 v6) 10) then (if v3 < 0 then (X16 (g v4 v6) (w32 (v6 + 1))) else (if kd v3 = 3 then if (g (g v4 v6) 10) < (g v3 10) then (X16 (g v4 v6) (w32 (v6 + 1))) else (X16 v3 (w32 (v6 + 1))) else none)) else (X16 v3 (w32 (v6 + 1))))) else none else none) else (some v3)
noncomputable def lT_zombieBehind_16 (g : gH) (v1 : Int) (v2 : Int) (v4 : Int) (v5 : Int) (n : Nat) : Int → Int → Option Int := Nat.rec (motive := fun _ => Int → Int → Option Int) (fun _ _ => none) (fun _ ih => bT_zombieBehind_16 g v1 v2 v4 v5 ih) n
noncomputable def fT_zombieBehind (g : gH) (v0 : Int) (v1 : Int) (v2 : Int) : Option Int :=
  if kd (g v0 1) = 24 then lT_zombieBehind_16 g v1 v2 (g v0 1) (sz (g v0 1)) fu (-1) 0 else none
noncomputable def fC_read (g : gH) (v0 : Int) (v1 : Int) : Option (Nat × (Int × gH)) :=
  bdQ (fC_named g v0 v1) (fun y1 => if kd y1 = 3 then bdP (fP_isRunning g y1) (fun y8 => bdQ (fC_checkState g y8) (fun y12 => if kd (g v0 0) = 5 then bdP (fT_zombieBehind g (g v0 0) y1 (-1)) (fun y20 => if y20 < 0 then (some (4, (0, g))) else (if kd (g v0 3) = 0 then bdN (fH_push g (g v0 3) (g v0 0)) (fun y29 g31 => if kd y20 = 3 then bnd (pU g31 y20 1 2) (fun g34 => some (0, ((w32 ((opI 0 1000 (g34 y20 0)) + (g34 y20 9))), g34))) else none) else none)) else none) (fun E17 => some (E17 + 1, (0, g)))) else none) (fun E6 => some (E6 + 1, (0, g)))
noncomputable def fW_read (g : gH) (v0 : Int) (v1 : Int) (v2 : Int) : Option (Int × gH) :=
  if kd v0 = 6 then bdT (fC_read g v0 v1) (fun y2 g4 => if kd v2 = 23 ∧ (0 : Int) ≤ 0 ∧ 0 < sz v2 then bnd (pU g4 v2 0 y2) (fun g9 => some (0, g9)) else none) (fun E7 g4 => if E7 = 2 then (some (1, g4)) else if E7 = 1 then (some (2, g4)) else if E7 = 3 then (some (3, g4)) else none) else none
noncomputable def bT_loseGroup_16 (v0 : Int) (v1 : Int) (v2 : Int) (v4 : Int) (v5 : Int) (X16 : Int → Int → gH → Option (Int × gH)) (v3 : Int) (v6 : Int) (g : gH) : Option (Int × gH) :=
  if v6 < v5 then (if kd v4 = 24 ∧ (0 : Int) ≤ v6 ∧ v6 < sz v4 then if kd (g v4 v6) = 3 then bdP (fP_isRunningChildOf g (g v4 v6) v1) (fun y9 => if y9 = 0 then (X16 v3 (w32 (v6 + 1)) g) else (if (g (g v4 v6) 5) = v2 then (bdP (fT_adopterOf g v0 (g v4 v6)) (fun y18 => bdN (fT_adopt g v0 (g v4 v6) y18) (fun y22 g24 => X16 (w32 (v3 + 1)) (w32 (v6 + 1)) g24))) else (X16 v3 (w32 (v6 + 1)) g))) else none else none) else (some (v3, g))
noncomputable def lT_loseGroup_16 (v0 : Int) (v1 : Int) (v2 : Int) (v4 : Int) (v5 : Int) (n : Nat) : Int → Int → gH → Option (Int × gH) := Nat.rec (motive := fun _ => Int → Int → gH → Option (Int × gH)) (fun _ _ _ => none) (fun _ ih => bT_loseGroup_16 v0 v1 v2 v4 v5 ih) n
noncomputable def fT_loseGroup (g : gH) (v0 : Int) (v1 : Int) (v2 : Int) : Option (Int × gH) :=
  if kd (g v0 1) = 24 then lT_loseGroup_16 v0 v1 v2 (g v0 1) (sz (g v0 1)) fu 0 0 g else none
noncomputable def fC_refuse (g : gH) (v0 : Int) (v1 : Int) (v2 : Int) : Option (Nat × (Int × gH)) :=
  bdQ (fC_named g v0 v1) (fun y1 => bdQ (fC_checkRange g v2 9) (fun y7 => if kd y1 = 3 then bdP (fP_isMortal g y1) (fun y14 => bdQ (fC_checkState g y14) (fun y18 => if kd (g v0 3) = 0 then bdN (fH_push g (g v0 3) (g v0 0)) (fun y27 g29 => bnd (pU g29 y1 8 (opI 2 (g29 y1 8) (opI 4 1 v2))) (fun g32 => if kd (g32 v0 0) = 5 then bdN (fT_loseGroup g32 (g32 v0 0) y1 v2) (fun y36 g38 => some (0, (y36, g38))) else none)) else none) (fun E23 => some (E23 + 1, (0, g)))) else none) (fun E12 => some (E12 + 1, (0, g)))) (fun E6 => some (E6 + 1, (0, g)))
noncomputable def fW_refuse (g : gH) (v0 : Int) (v1 : Int) (v2 : Int) (v3 : Int) : Option (Int × gH) :=
  if kd v0 = 6 then bdT (fC_refuse g v0 v1 v2) (fun y2 g4 => if kd v3 = 23 ∧ (0 : Int) ≤ 0 ∧ 0 < sz v3 then bnd (pU g4 v3 0 y2) (fun g9 => some (0, g9)) else none) (fun E7 g4 => if E7 = 2 then (some (1, g4)) else if E7 = 0 then (some (2, g4)) else if E7 = 1 then (some (3, g4)) else none) else none
noncomputable def fC_accept (g : gH) (v0 : Int) (v1 : Int) (v2 : Int) : Option (Nat × (Int × gH)) :=
  bdQ (fC_named g v0 v1) (fun y1 => bdQ (fC_checkRange g v2 9) (fun y7 => if kd y1 = 3 then bdP (fP_isRunning g y1) (fun y14 => bdQ (fC_checkState g y14) (fun y18 => if kd (g v0 3) = 0 then bdN (fH_push g (g v0 3) (g v0 0)) (fun y27 g29 => bdP (fP_refuses g29 y1 v2) (fun y31 => bnd (pU g29 y1 8 (opI 1 (g29 y1 8) (opI 3 (opI 4 1 v2) (-1)))) (fun g36 => some (0, (y31, g36))))) else none) (fun E23 => some (E23 + 1, (0, g)))) else none) (fun E12 => some (E12 + 1, (0, g)))) (fun E6 => some (E6 + 1, (0, g)))
noncomputable def fW_accept (g : gH) (v0 : Int) (v1 : Int) (v2 : Int) (v3 : Int) : Option (Int × gH) :=
  if kd v0 = 6 then bdT (fC_accept g v0 v1 v2) (fun y2 g4 => if y2 = 0 then (if kd v3 = 23 ∧ (0 : Int) ≤ 0 ∧ 0 < sz v3 then bnd (pU g4 v3 0 0) (fun g11 => some (0, g11)) else none) else (if kd v3 = 23 ∧ (0 : Int) ≤ 0 ∧ 0 < sz v3 then bnd (pU g4 v3 0 1) (fun g14 => some (0, g14)) else none)) (fun E7 g4 => if E7 = 2 then (some (1, g4)) else if E7 = 0 then (some (2, g4)) else if E7 = 1 then (some (3, g4)) else none) else none
noncomputable def jC_move_60 (g : gH) (v0 : Int) (v3 : Int) (v4 : Int) (s0 : Int) : Option (Nat × (Int × gH)) :=
  bdQ (fC_checkState g s0) (fun y42 => if kd (g v0 3) = 0 then bdN (fH_push g (g v0 3) (g v0 0)) (fun y51 g53 => if kd v3 = 3 then bdP (fC_numberOf g53 (g53 v3 2)) (fun y57 => bdN (fP_putUnder g53 v3 v4) (fun y61 g63 => some (0, (y57, g63)))) else none) else none) (fun E47 => some (E47 + 1, (0, g)))
noncomputable def jC_move_59 (g : gH) (v0 : Int) (v3 : Int) (v4 : Int) : Option (Nat × (Int × gH)) :=
  jC_move_60 g v0 v3 v4 0
noncomputable def fC_move (g : gH) (v0 : Int) (v1 : Int) (v2 : Int) : Option (Nat × (Int × gH)) :=
  bdQ (fC_named g v0 v1) (fun y1 => bdQ (fC_named g v0 v2) (fun y7 => if kd y1 = 3 then bdP (fP_isMortal g y1) (fun y14 => if y14 = 0 then (jC_move_59 g v0 y1 y7) else (if kd y7 = 3 then bdP (fP_room g y7) (fun y21 => if 0 < y21 then (if y7 = y1 then (jC_move_59 g v0 y1 y7) else (bdP (fP_isOver g y1 y7) (fun y29 => if y29 = 0 then (bdP (fP_refuses g y7 (g y1 5)) (fun y36 => if y36 = 0 then (jC_move_60 g v0 y1 y7 1) else (jC_move_59 g v0 y1 y7))) else (jC_move_59 g v0 y1 y7)))) else (jC_move_59 g v0 y1 y7)) else none)) else none) (fun E12 => some (E12 + 1, (0, g)))) (fun E6 => some (E6 + 1, (0, g)))
noncomputable def fW_move (g : gH) (v0 : Int) (v1 : Int) (v2 : Int) (v3 : Int) : Option (Int × gH) :=
  if kd v0 = 6 then bdT (fC_move g v0 v1 v2) (fun y2 g4 => if kd v3 = 23 ∧ (0 : Int) ≤ 0 ∧ 0 < sz v3 then bnd (pU g4 v3 0 y2) (fun g9 => some (0, g9)) else none) (fun E7 g4 => if E7 = 2 then (some (1, g4)) else if E7 = 1 then (some (2, g4)) else none) else none
noncomputable def fC_setCapacity (g : gH) (v0 : Int) (v1 : Int) (v2 : Int) : Option (Nat × (Int × gH)) :=
  bdQ (fC_named g v0 v1) (fun y1 => bdQ (fC_checkRange g v2 9) (fun y7 => if kd y1 = 3 then bdP (fP_isRunning g y1) (fun y14 => bdQ (fC_checkState g y14) (fun y18 => if kd (g v0 3) = 0 then bdN (fH_push g (g v0 3) (g v0 0)) (fun y27 g29 => bnd (pU g29 y1 4 v2) (fun g32 => some (0, ((g29 y1 4), g32)))) else none) (fun E23 => some (E23 + 1, (0, g)))) else none) (fun E12 => some (E12 + 1, (0, g)))) (fun E6 => some (E6 + 1, (0, g)))
noncomputable def fW_setCapacity (g : gH) (v0 : Int) (v1 : Int) (v2 : Int) (v3 : Int) : Option (Int × gH) :=
  if kd v0 = 6 then bdT (fC_setCapacity g v0 v1 v2) (fun y2 g4 => if kd v3 = 23 ∧ (0 : Int) ≤ 0 ∧ 0 < sz v3 then bnd (pU g4 v3 0 y2) (fun g9 => some (0, g9)) else none) (fun E7 g4 => if E7 = 2 then (some (1, g4)) else if E7 = 0 then (some (2, g4)) else if E7 = 1 then (some (3, g4)) else none) else none
noncomputable def fC_setBudget (g : gH) (v0 : Int) (v1 : Int) (v2 : Int) : Option (Nat × (Int × gH)) :=
  bdQ (fC_named g v0 v1) (fun y1 => bdQ (fC_checkRange g v2 9) (fun y7 => if kd y1 = 3 then bdP (fP_isRunning g y1) (fun y14 => bdQ (fC_checkState g y14) (fun y18 => if kd (g v0 3) = 0 then bdN (fH_push g (g v0 3) (g v0 0)) (fun y27 g29 => bnd (pU g29 y1 6 v2) (fun g32 => some (0, ((g29 y1 6), g32)))) else none) (fun E23 => some (E23 + 1, (0, g)))) else none) (fun E12 => some (E12 + 1, (0, g)))) (fun E6 => some (E6 + 1, (0, g)))
noncomputable def fW_setBudget (g : gH) (v0 : Int) (v1 : Int) (v2 : Int) (v3 : Int) : Option (Int × gH) :=
  if kd v0 = 6 then bdT (fC_setBudget g v0 v1 v2) (fun y2 g4 => if kd v3 = 23 ∧ (0 : Int) ≤ 0 ∧ 0 < sz v3 then bnd (pU g4 v3 0 y2) (fun g9 => some (0, g9)) else none) (fun E7 g4 => if E7 = 2 then (some (1, g4)) else if E7 = 0 then (some (2, g4)) else if E7 = 1 then (some (3, g4)) else none) else none
noncomputable def fC_setHeir (g : gH) (v0 : Int) (v1 : Int) (v2 : Int) : Option (Nat × (Int × gH)) :=
  bdQ (fC_named g v0 v1) (fun y1 => if v2 = (-1) then (if kd y1 = 3 then bdP (fP_isMortal g y1) (fun y10 => bdQ (fC_checkState g y10) (fun y14 => if kd (g v0 3) = 0 then bdN (fH_push g (g v0 3) (g v0 0)) (fun y23 g25 => bnd (pU g25 y1 7 v2) (fun g28 => some (0, ((g25 y1 7), g28)))) else none) (fun E19 => some (E19 + 1, (0, g)))) else none) else (bdQ (fC_named g v0 v2) (fun y30 => if y30 = y1 then (some (1, (0, g))) else (if kd y1 = 3 then bdP (fP_isMortal g y1) (fun y39 => bdQ (fC_checkState g y39) (fun y43 => if kd (g v0 3) = 0 then bdN (fH_push g (g v0 3) (g v0 0)) (fun y52 g54 => bnd (pU g54 y1 7 v2) (fun g57 => some (0, ((g54 y1 7), g57)))) else none) (fun E48 => some (E48 + 1, (0, g)))) else none)) (fun E35 => some (E35 + 1, (0, g))))) (fun E6 => some (E6 + 1, (0, g)))
noncomputable def fW_setHeir (g : gH) (v0 : Int) (v1 : Int) (v2 : Int) (v3 : Int) : Option (Int × gH) :=
  if kd v0 = 6 then bdT (fC_setHeir g v0 v1 v2) (fun y2 g4 => if kd v3 = 23 ∧ (0 : Int) ≤ 0 ∧ 0 < sz v3 then bnd (pU g4 v3 0 y2) (fun g9 => some (0, g9)) else none) (fun E7 g4 => if E7 = 2 then (some (1, g4)) else if E7 = 0 then (some (2, g4)) else if E7 = 1 then (some (3, g4)) else none) else none
noncomputable def fC_give (g : gH) (v0 : Int) (v1 : Int) (v2 : Int) : Option (Nat × (Int × gH)) :=
  bdQ (fC_checkRange g v1 7) (fun y1 => bdQ (fC_named g v0 v2) (fun y7 => if kd y7 = 3 then bdP (fP_isRunning g y7) (fun y14 => bdQ (fC_checkState g y14) (fun y18 => if kd (g v0 3) = 0 then bdN (fH_push g (g v0 3) (g v0 0)) (fun y27 g29 => if kd (g29 v0 0) = 5 then bdP (fT_holderOf g29 (g29 v0 0) v1) (fun y33 => if kd y33 = 3 then bdN (fT_giveDuty g29 (g29 v0 0) v1 y7) (fun y40 g42 => some (0, ((g29 y33 0), g42))) else none) else none) else none) (fun E23 => some (E23 + 1, (0, g)))) else none) (fun E12 => some (E12 + 1, (0, g)))) (fun E6 => some (E6 + 1, (0, g)))
noncomputable def fW_give (g : gH) (v0 : Int) (v1 : Int) (v2 : Int) (v3 : Int) : Option (Int × gH) :=
  if kd v0 = 6 then bdT (fC_give g v0 v1 v2) (fun y2 g4 => if kd v3 = 23 ∧ (0 : Int) ≤ 0 ∧ 0 < sz v3 then bnd (pU g4 v3 0 y2) (fun g9 => some (0, g9)) else none) (fun E7 g4 => if E7 = 0 then (some (1, g4)) else if E7 = 2 then (some (2, g4)) else if E7 = 1 then (some (3, g4)) else none) else none
noncomputable def fC_adopter (g : gH) (v0 : Int) (v1 : Int) : Option (Nat × Int) :=
  bdQ (fC_named g v0 v1) (fun y1 => if kd y1 = 3 then bdP (fP_isMortal g y1) (fun y8 => bdQ (fC_checkState g y8) (fun y12 => if kd (g v0 0) = 5 then bdP (fT_adopterOf g (g v0 0) y1) (fun y20 => if kd y20 = 3 then some (0, (g y20 0)) else none) else none) (fun E17 => some (E17 + 1, 0))) else none) (fun E6 => some (E6 + 1, 0))
noncomputable def fW_adopter (g : gH) (v0 : Int) (v1 : Int) (v2 : Int) : Option (Int × gH) :=
  if kd v0 = 6 then bdQ (fC_adopter g v0 v1) (fun y2 => if kd v2 = 23 ∧ (0 : Int) ≤ 0 ∧ 0 < sz v2 then bnd (pU g v2 0 y2) (fun g9 => some (0, g9)) else none) (fun E7 => if E7 = 2 then (some (1, g)) else if E7 = 1 then (some (2, g)) else none) else none
noncomputable def fC_heirNow (g : gH) (v0 : Int) (v1 : Int) : Option (Nat × Int) :=
  bdQ (fC_named g v0 v1) (fun y1 => if kd y1 = 3 then bdP (fP_isMortal g y1) (fun y8 => bdQ (fC_checkState g y8) (fun y12 => if kd (g v0 0) = 5 then bdP (fT_heirOf g (g v0 0) y1) (fun y20 => if kd y20 = 3 then some (0, (g y20 0)) else none) else none) (fun E17 => some (E17 + 1, 0))) else none) (fun E6 => some (E6 + 1, 0))
noncomputable def fW_heirNow (g : gH) (v0 : Int) (v1 : Int) (v2 : Int) : Option (Int × gH) :=
  if kd v0 = 6 then bdQ (fC_heirNow g v0 v1) (fun y2 => if kd v2 = 23 ∧ (0 : Int) ≤ 0 ∧ 0 < sz v2 then bnd (pU g v2 0 y2) (fun g9 => some (0, g9)) else none) (fun E7 => if E7 = 2 then (some (1, g)) else if E7 = 1 then (some (2, g)) else none) else none
noncomputable def fC_exitOfCopy (g : gH) (v0 : Int) (v1 : Int) (v2 : Int) : Option (Int × gH) :=
  if kd (g v0 1) = 5 then bdN (fT_take g (g v0 1) (g v0 0)) (fun y4 g6 => if kd (g6 v0 1) = 5 then bdP (fT_at g6 (g6 v0 1) v1) (fun y10 => if y10 < 0 then (some (0, g6)) else (bdN (fT_letExit g6 (g6 v0 1) y10 v2) (fun y17 g19 => some (y17, g19)))) else none) else none
noncomputable def fC_wouldFall (g : gH) (v0 : Int) (v1 : Int) (v2 : Int) : Option (Nat × (Int × gH)) :=
  bdQ (fC_namedForExit g v0 v1 v2) (fun y1 => bdN (fC_exitOfCopy g v0 v1 v2) (fun y7 g9 => some (0, (y7, g9)))) (fun E6 => some (E6 + 1, (0, g)))
noncomputable def fW_wouldFall (g : gH) (v0 : Int) (v1 : Int) (v2 : Int) (v3 : Int) : Option (Int × gH) :=
  if kd v0 = 6 then bdT (fC_wouldFall g v0 v1 v2) (fun y2 g4 => if kd v3 = 23 ∧ (0 : Int) ≤ 0 ∧ 0 < sz v3 then bnd (pU g4 v3 0 y2) (fun g9 => some (0, g9)) else none) (fun E7 g4 => if E7 = 2 then (some (1, g4)) else if E7 = 0 then (some (2, g4)) else if E7 = 1 then (some (3, g4)) else none) else none
noncomputable def fC_wouldStand (g : gH) (v0 : Int) (v1 : Int) (v2 : Int) : Option (Nat × (Int × gH)) :=
  bdQ (fC_namedForExit g v0 v1 v2) (fun y1 => bdN (fC_exitOfCopy g v0 v1 v2) (fun y7 g9 => if kd (g9 v0 1) = 5 then bdP (fT_greatestDepth g9 (g9 v0 1)) (fun y13 => some (0, (y13, g9))) else none)) (fun E6 => some (E6 + 1, (0, g)))
noncomputable def fW_wouldStand (g : gH) (v0 : Int) (v1 : Int) (v2 : Int) (v3 : Int) : Option (Int × gH) :=
  if kd v0 = 6 then bdT (fC_wouldStand g v0 v1 v2) (fun y2 g4 => if kd v3 = 23 ∧ (0 : Int) ≤ 0 ∧ 0 < sz v3 then bnd (pU g4 v3 0 y2) (fun g9 => some (0, g9)) else none) (fun E7 g4 => if E7 = 2 then (some (1, g4)) else if E7 = 0 then (some (2, g4)) else if E7 = 1 then (some (3, g4)) else none) else none
noncomputable def fC_wouldHave (g : gH) (v0 : Int) (v1 : Int) (v2 : Int) (v3 : Int) : Option (Nat × (Int × gH)) :=
  bdQ (fC_named g v0 v1) (fun y1 => bdQ (fC_namedForExit g v0 v2 v3) (fun y7 => bdN (fC_exitOfCopy g v0 v2 v3) (fun y13 g15 => if kd (g15 v0 1) = 5 then bdP (fT_at g15 (g15 v0 1) v1) (fun y19 => if y19 < 0 then (some (0, ((-1), g15))) else (if kd y19 = 3 then bdP (fC_numberOf g15 (g15 y19 2)) (fun y27 => some (0, (y27, g15))) else none)) else none)) (fun E12 => some (E12 + 1, (0, g)))) (fun E6 => some (E6 + 1, (0, g)))
noncomputable def fW_wouldHave (g : gH) (v0 : Int) (v1 : Int) (v2 : Int) (v3 : Int) (v4 : Int) : Option (Int × gH) :=
  if kd v0 = 6 then bdT (fC_wouldHave g v0 v1 v2 v3) (fun y2 g4 => if kd v4 = 23 ∧ (0 : Int) ≤ 0 ∧ 0 < sz v4 then bnd (pU g4 v4 0 y2) (fun g9 => some (0, g9)) else none) (fun E7 g4 => if E7 = 2 then (some (1, g4)) else if E7 = 0 then (some (2, g4)) else if E7 = 1 then (some (3, g4)) else none) else none
noncomputable def fC_wouldFallBy (g : gH) (v0 : Int) (v1 : Int) (v2 : Int) : Option (Nat × (Int × gH)) :=
  bdQ (fC_checkKill g v1 v2) (fun y1 => if kd (g v0 1) = 5 then bdN (fT_take g (g v0 1) (g v0 0)) (fun y10 g12 => if kd (g12 v0 1) = 5 then bdN (fT_killGroup g12 (g12 v0 1) v1 v2) (fun y16 g18 => if kd (g18 v0 1) = 5 then if kd (g18 v0 0) = 5 then some (0, ((w32 ((g18 (g18 v0 1) 8) - (g18 (g18 v0 0) 8))), g18)) else none else none) else none) else none) (fun E6 => some (E6 + 1, (0, g)))
noncomputable def fW_wouldFallBy (g : gH) (v0 : Int) (v1 : Int) (v2 : Int) (v3 : Int) : Option (Int × gH) :=
  if kd v0 = 6 then bdT (fC_wouldFallBy g v0 v1 v2) (fun y2 g4 => if kd v3 = 23 ∧ (0 : Int) ≤ 0 ∧ 0 < sz v3 then bnd (pU g4 v3 0 y2) (fun g9 => some (0, g9)) else none) (fun E7 g4 => if E7 = 0 then (some (1, g4)) else none) else none
noncomputable def jC_weakest_64 (X28 : Int → Int → Int → gH → Option (Nat × (Int × gH))) (g : gH) (v0 : Int) (v1 : Int) (v2 : Int) (v3 : Int) (v4 : Int) (v5 : Int) (v6 : Int) (v7 : Int) (s0 : Int) : Option (Nat × (Int × gH)) :=
  if v3 < s0 then (if kd v7 = 3 then X28 (g v7 0) s0 (w32 (v6 + 1)) g else none) else (X28 v2 v3 (w32 (v6 + 1)) g)
noncomputable def bC_weakest_28 (v0 : Int) (v1 : Int) (v4 : Int) (v5 : Int) (X28 : Int → Int → Int → gH → Option (Nat × (Int × gH))) (v2 : Int) (v3 : Int) (v6 : Int) (g : gH) : Option (Nat × (Int × gH)) :=
  if v6 < v5 then (if kd v4 = 24 ∧ (0 : Int) ≤ v6 ∧ v6 < sz v4 then if kd (g v4 v6) = 3 then bdP (fP_isMortal g (g v4 v6)) (fun y17 => if y17 = 0 then (jC_weakest_64 X28 g v0 v1 v2 v3 v4 v5 v6 (g v4 v6) (-1)) else (bdN (fC_exitOfCopy g v0 (g (g v4 v6) 0) v1) (fun y24 g26 => jC_weakest_64 X28 g26 v0 v1 v2 v3 v4 v5 v6 (g v4 v6) y24))) else none else none) else (some (0, (v2, g)))
noncomputable def lC_weakest_28 (v0 : Int) (v1 : Int) (v4 : Int) (v5 : Int) (n : Nat) : Int → Int → Int → gH → Option (Nat × (Int × gH)) := Nat.rec (motive := fun _ => Int → Int → Int → gH → Option (Nat × (Int × gH))) (fun _ _ _ _ => none) (fun _ ih => bC_weakest_28 v0 v1 v4 v5 ih) n
noncomputable def fC_weakest (g : gH) (v0 : Int) (v1 : Int) : Option (Nat × (Int × gH)) :=
  bdQ (fC_checkRange g v1 255) (fun y1 => if kd (g v0 0) = 5 then if kd (g (g v0 0) 1) = 24 then lC_weakest_28 v0 v1 (g (g v0 0) 1) (sz (g (g v0 0) 1)) fu (-1) (-1) 0 g else none else none) (fun E6 => some (E6 + 1, (0, g)))
noncomputable def fW_weakest (g : gH) (v0 : Int) (v1 : Int) (v2 : Int) : Option (Int × gH) :=
  if kd v0 = 6 then bdT (fC_weakest g v0 v1) (fun y2 g4 => if kd v2 = 23 ∧ (0 : Int) ≤ 0 ∧ 0 < sz v2 then bnd (pU g4 v2 0 y2) (fun g9 => some (0, g9)) else none) (fun E7 g4 => if E7 = 0 then (some (1, g4)) else none) else none
noncomputable def bC_roomiest_27 (g : gH) (v1 : Int) (v4 : Int) (v5 : Int) (X27 : Int → Int → Int → Option (Nat × Int)) (v2 : Int) (v3 : Int) (v6 : Int) : Option (Nat × Int) :=
  if v6 < v5 then (if kd v4 = 24 ∧ (0 : Int) ≤ v6 ∧ v6 < sz v4 then if kd (g v4 v6) = 3 then bdP (fP_isMortal g (g v4 v6)) (fun y17 => if y17 = 0 then (X27 v2 v3 (w32 (v6 + 1))) else (bdP (fP_refuses g (g v4 v6) v1) (fun y23 => if y23 = 0 then (bdP (fP_room g (g v4 v6)) (fun y29 => if v3 < y29 then (bdP (fP_room g (g v4 v6)) (fun y36 => X27 (g (g v4 v6) 0) y36 (w32 (v6 + 1)))) else (X27 v2 v3 (w32 (v6 + 1))))) else (X27 v2 v3 (w32 (v6 + 1)))))) else none else none) else (some (0, v2))
noncomputable def lC_roomiest_27 (g : gH) (v1 : Int) (v4 : Int) (v5 : Int) (n : Nat) : Int → Int → Int → Option (Nat × Int) := Nat.rec (motive := fun _ => Int → Int → Int → Option (Nat × Int)) (fun _ _ _ => none) (fun _ ih => bC_roomiest_27 g v1 v4 v5 ih) n
noncomputable def fC_roomiest (g : gH) (v0 : Int) (v1 : Int) : Option (Nat × Int) :=
  bdQ (fC_checkRange g v1 9) (fun y1 => if kd (g v0 0) = 5 then if kd (g (g v0 0) 1) = 24 then lC_roomiest_27 g v1 (g (g v0 0) 1) (sz (g (g v0 0) 1)) fu (-1) 0 0 else none else none) (fun E6 => some (E6 + 1, 0))
noncomputable def fW_roomiest (g : gH) (v0 : Int) (v1 : Int) (v2 : Int) : Option (Int × gH) :=
  if kd v0 = 6 then bdQ (fC_roomiest g v0 v1) (fun y2 => if kd v2 = 23 ∧ (0 : Int) ≤ 0 ∧ 0 < sz v2 then bnd (pU g v2 0 y2) (fun g9 => some (0, g9)) else none) (fun E7 => if E7 = 0 then (some (1, g)) else none) else none
noncomputable def bC_ofGroup_23 (g : gH) (v1 : Int) (v3 : Int) (v4 : Int) (X23 : Int → Int → Option (Nat × Int)) (v2 : Int) (v5 : Int) : Option (Nat × Int) :=
  if v5 < v4 then (if kd v3 = 24 ∧ (0 : Int) ≤ v5 ∧ v5 < sz v3 then if kd (g v3 v5) = 3 then bdP (fP_isRunning g (g v3 v5)) (fun y17 => if y17 = 0 then (X23 v2 (w32 (v5 + 1))) else (if (g (g v3 v5) 5) = v1 then (X23 (w32 (v2 + 1)) (w32 (v5 + 1))) else (X23 v2 (w32 (v5 + 1))))) else none else none) else (some (0, v2))
noncomputable def lC_ofGroup_23 (g : gH) (v1 : Int) (v3 : Int) (v4 : Int) (n : Nat) : Int → Int → Option (Nat × Int) := Nat.rec (motive := fun _ => Int → Int → Option (Nat × Int)) (fun _ _ => none) (fun _ ih => bC_ofGroup_23 g v1 v3 v4 ih) n
noncomputable def fC_ofGroup (g : gH) (v0 : Int) (v1 : Int) : Option (Nat × Int) :=
  bdQ (fC_checkRange g v1 9) (fun y1 => if kd (g v0 0) = 5 then if kd (g (g v0 0) 1) = 24 then lC_ofGroup_23 g v1 (g (g v0 0) 1) (sz (g (g v0 0) 1)) fu 0 0 else none else none) (fun E6 => some (E6 + 1, 0))
noncomputable def fW_ofGroup (g : gH) (v0 : Int) (v1 : Int) (v2 : Int) : Option (Int × gH) :=
  if kd v0 = 6 then bdQ (fC_ofGroup g v0 v1) (fun y2 => if kd v2 = 23 ∧ (0 : Int) ≤ 0 ∧ 0 < sz v2 then bnd (pU g v2 0 y2) (fun g9 => some (0, g9)) else none) (fun E7 => if E7 = 0 then (some (1, g)) else none) else none
noncomputable def fC_nextTestament (g : gH) (v0 : Int) (v1 : Int) : Option (Nat × Int) :=
  bdQ (fC_named g v0 v1) (fun y2 => if kd (g v0 0) = 5 then bdP (fT_zombieBehind g (g v0 0) y2 (-1)) (fun y9 => bdP (fC_numberOf g y9) (fun y13 => some (0, y13))) else none) (fun E7 => some (E7 + 1, 0))
noncomputable def fW_nextTestament (g : gH) (v0 : Int) (v1 : Int) (v2 : Int) : Option (Int × gH) :=
  if kd v0 = 6 then bdQ (fC_nextTestament g v0 v1) (fun y2 => if kd v2 = 23 ∧ (0 : Int) ≤ 0 ∧ 0 < sz v2 then bnd (pU g v2 0 y2) (fun g9 => some (0, g9)) else none) (fun E7 => if E7 = 2 then (some (1, g)) else none) else none
noncomputable def fP_hasExited (g : gH) (v0 : Int) : Option Int :=
  if (g v0 1) = 1 then (some 1) else (if (g v0 1) = 2 then (some 1) else (some 0))
noncomputable def jC_exited_56 (g : gH) (v2 : Int) : Option (Nat × Int) :=
  if v2 < 0 then (some (4, 0)) else (if kd v2 = 3 then some (0, (g v2 0)) else none)
noncomputable def bC_exited_17 (g : gH) (v1 : Int) (v3 : Int) (v4 : Int) (X17 : Int → Int → Option (Nat × Int)) (v2 : Int) (v5 : Int) : Option (Nat × Int) :=
  if v5 < v4 then (if kd v3 = 24 ∧ (0 : Int) ≤ v5 ∧ v5 < sz v3 then if kd (g v3 v5) = 3 then bdP (fP_hasExited g (g v3 v5)) (fun y11 => if y11 = 0 then (X17 v2 (w32 (v5 + 1))) else (if (g (g v3 v5) 10) = v1 then (X17 (g v3 v5) (w32 (v5 + 1))) else (X17 v2 (w32 (v5 + 1))))) else none else none) else (jC_exited_56 g v2)
noncomputable def lC_exited_17 (g : gH) (v1 : Int) (v3 : Int) (v4 : Int) (n : Nat) : Int → Int → Option (Nat × Int) := Nat.rec (motive := fun _ => Int → Int → Option (Nat × Int)) (fun _ _ => none) (fun _ ih => bC_exited_17 g v1 v3 v4 ih) n
noncomputable def fC_exited (g : gH) (v0 : Int) (v1 : Int) : Option (Nat × Int) :=
  if kd (g v0 0) = 5 then if kd (g (g v0 0) 1) = 24 then lC_exited_17 g v1 (g (g v0 0) 1) (sz (g (g v0 0) 1)) fu (-1) 0 else none else none
noncomputable def fW_exited (g : gH) (v0 : Int) (v1 : Int) (v2 : Int) : Option (Int × gH) :=
  if kd v0 = 6 then bdQ (fC_exited g v0 v1) (fun y2 => if kd v2 = 23 ∧ (0 : Int) ≤ 0 ∧ 0 < sz v2 then bnd (pU g v2 0 y2) (fun g9 => some (0, g9)) else none) (fun E7 => if E7 = 3 then (some (1, g)) else none) else none
noncomputable def bT_deepestBelow_14 (g : gH) (v1 : Int) (v3 : Int) (v4 : Int) (X14 : Int → Int → Option Int) (v2 : Int) (v5 : Int) : Option Int :=
  if v5 < v4 then (if kd v3 = 24 ∧ (0 : Int) ≤ v5 ∧ v5 < sz v3 then if kd (g v3 v5) = 3 then bdP (fP_isRunning g (g v3 v5)) (fun y9 => if y9 = 0 then (X14 v2 (w32 (v5 + 1))) else (if kd v1 = 3 then bdP (fP_isOver g v1 (g v3 v5)) (fun y16 => if y16 = 0 then (X14 v2 (w32 (v5 + 1))) else (if v2 < 0 then (X14 (g v3 v5) (w32 (v5 + 1))) else (bdP (fP_countAbove g (g v3 v5)) (fun y24 => if kd v2 = 3 then bdP (fP_countAbove g v2) (fun y29 => if y24 < y29 then (X14 v2 (w32 (v5 + 1))) else (X14 (g v3 v5) (w32 (v5 + 1)))) else none)))) else none)) else none else none) else (some v2)
noncomputable def lT_deepestBelow_14 (g : gH) (v1 : Int) (v3 : Int) (v4 : Int) (n : Nat) : Int → Int → Option Int := Nat.rec (motive := fun _ => Int → Int → Option Int) (fun _ _ => none) (fun _ ih => bT_deepestBelow_14 g v1 v3 v4 ih) n
noncomputable def fT_deepestBelow (g : gH) (v0 : Int) (v1 : Int) : Option Int :=
  if kd (g v0 1) = 24 then lT_deepestBelow_14 g v1 (g v0 1) (sz (g v0 1)) fu (-1) 0 else none
noncomputable def bT_pruneBelow_9 (v0 : Int) (v1 : Int) (v2 : Int) (X9 : Int → Int → gH → Option (Int × gH)) (v3 : Int) (v4 : Int) (g : gH) : Option (Int × gH) :=
  if v4 < 0 then (some (v3, g)) else (if v3 < 40 then (bdN (fT_letExit g v0 v4 v2) (fun y9 g11 => bdP (fT_deepestBelow g11 v0 v1) (fun y13 => X9 (w32 (v3 + 1)) y13 g11))) else (some (v3, g)))
noncomputable def lT_pruneBelow_9 (v0 : Int) (v1 : Int) (v2 : Int) (n : Nat) : Int → Int → gH → Option (Int × gH) := Nat.rec (motive := fun _ => Int → Int → gH → Option (Int × gH)) (fun _ _ _ => none) (fun _ ih => bT_pruneBelow_9 v0 v1 v2 ih) n
noncomputable def fT_pruneBelow (g : gH) (v0 : Int) (v1 : Int) (v2 : Int) : Option (Int × gH) :=
  bdP (fT_deepestBelow g v0 v1) (fun y1 => lT_pruneBelow_9 v0 v1 v2 fu 0 y1 g)
noncomputable def fC_prune (g : gH) (v0 : Int) (v1 : Int) (v2 : Int) : Option (Nat × (Int × gH)) :=
  bdQ (fC_named g v0 v1) (fun y1 => bdQ (fC_checkRange g v2 255) (fun y7 => if kd y1 = 3 then bdP (fP_isRunning g y1) (fun y14 => bdQ (fC_checkState g y14) (fun y18 => if kd (g v0 3) = 0 then bdN (fH_push g (g v0 3) (g v0 0)) (fun y27 g29 => if kd (g29 v0 0) = 5 then bdN (fT_pruneBelow g29 (g29 v0 0) y1 v2) (fun y33 g35 => some (0, (y33, g35))) else none) else none) (fun E23 => some (E23 + 1, (0, g)))) else none) (fun E12 => some (E12 + 1, (0, g)))) (fun E6 => some (E6 + 1, (0, g)))
noncomputable def fW_prune (g : gH) (v0 : Int) (v1 : Int) (v2 : Int) (v3 : Int) : Option (Int × gH) :=
  if kd v0 = 6 then bdT (fC_prune g v0 v1 v2) (fun y2 g4 => if kd v3 = 23 ∧ (0 : Int) ≤ 0 ∧ 0 < sz v3 then bnd (pU g4 v3 0 y2) (fun g9 => some (0, g9)) else none) (fun E7 g4 => if E7 = 2 then (some (1, g4)) else if E7 = 0 then (some (2, g4)) else if E7 = 1 then (some (3, g4)) else none) else none
noncomputable def jC_exchange_88 (g : gH) (v0 : Int) (v3 : Int) (v4 : Int) (s0 : Int) : Option (Nat × (Int × gH)) :=
  if kd (g v0 0) = 5 then bdP (fT_countBelow g (g v0 0) v3 0) (fun y68 => bdP (fT_countBelow g (g v0 0) v4 0) (fun y73 => if kd v3 = 3 then if kd v4 = 3 then bdN (fP_putUnder g v3 (g v4 2)) (fun y81 g83 => bdN (fP_putUnder g83 v4 (g v3 2)) (fun y85 g87 => if s0 = 0 then (some (0, ((w32 ((w32 (2 + y68)) + y73)), g87))) else (some (0, (0, g87))))) else none else none)) else none
noncomputable def jC_exchange_57 (g : gH) (v0 : Int) (v3 : Int) (v4 : Int) (s0 : Int) : Option (Nat × (Int × gH)) :=
  bdQ (fC_checkState g s0) (fun y41 => if kd (g v0 3) = 0 then bdN (fH_push g (g v0 3) (g v0 0)) (fun y50 g52 => if kd v3 = 3 then bdP (fP_countAbove g52 v3) (fun y55 => if kd v4 = 3 then bdP (fP_countAbove g52 v4) (fun y60 => if y55 = y60 then (jC_exchange_88 g52 v0 v3 v4 1) else (jC_exchange_88 g52 v0 v3 v4 0)) else none) else none) else none) (fun E46 => some (E46 + 1, (0, g)))
noncomputable def jC_exchange_56 (g : gH) (v0 : Int) (v3 : Int) (v4 : Int) : Option (Nat × (Int × gH)) :=
  jC_exchange_57 g v0 v3 v4 0
noncomputable def fC_exchange (g : gH) (v0 : Int) (v1 : Int) (v2 : Int) : Option (Nat × (Int × gH)) :=
  bdQ (fC_named g v0 v1) (fun y1 => bdQ (fC_named g v0 v2) (fun y7 => if kd y1 = 3 then bdP (fP_isMortal g y1) (fun y14 => if y14 = 0 then (jC_exchange_56 g v0 y1 y7) else (if kd y7 = 3 then bdP (fP_isMortal g y7) (fun y21 => if y21 = 0 then (jC_exchange_56 g v0 y1 y7) else (if y1 = y7 then (jC_exchange_56 g v0 y1 y7) else (bdP (fP_isOver g y1 y7) (fun y29 => if y29 = 0 then (bdP (fP_isOver g y7 y1) (fun y35 => if y35 = 0 then (jC_exchange_57 g v0 y1 y7 1) else (jC_exchange_56 g v0 y1 y7))) else (jC_exchange_56 g v0 y1 y7))))) else none)) else none) (fun E12 => some (E12 + 1, (0, g)))) (fun E6 => some (E6 + 1, (0, g)))
noncomputable def fW_exchange (g : gH) (v0 : Int) (v1 : Int) (v2 : Int) (v3 : Int) : Option (Int × gH) :=
  if kd v0 = 6 then bdT (fC_exchange g v0 v1 v2) (fun y2 g4 => if kd v3 = 23 ∧ (0 : Int) ≤ 0 ∧ 0 < sz v3 then bnd (pU g4 v3 0 y2) (fun g9 => some (0, g9)) else none) (fun E7 g4 => if E7 = 2 then (some (1, g4)) else if E7 = 1 then (some (2, g4)) else none) else none
noncomputable def fC_readAll (g : gH) (v0 : Int) (v1 : Int) : Option (Nat × (Int × gH)) :=
  bdQ (fC_named g v0 v1) (fun y1 => if kd y1 = 3 then bdP (fP_isRunning g y1) (fun y8 => bdQ (fC_checkState g y8) (fun y12 => if kd (g v0 3) = 0 then bdN (fH_push g (g v0 3) (g v0 0)) (fun y21 g23 => if kd (g23 v0 0) = 5 then bdN (fT_readZombiesOf g23 (g23 v0 0) y1) (fun y27 g29 => some (0, (y27, g29))) else none) else none) (fun E17 => some (E17 + 1, (0, g)))) else none) (fun E6 => some (E6 + 1, (0, g)))
noncomputable def fW_readAll (g : gH) (v0 : Int) (v1 : Int) (v2 : Int) : Option (Int × gH) :=
  if kd v0 = 6 then bdT (fC_readAll g v0 v1) (fun y2 g4 => if kd v2 = 23 ∧ (0 : Int) ≤ 0 ∧ 0 < sz v2 then bnd (pU g4 v2 0 y2) (fun g9 => some (0, g9)) else none) (fun E7 g4 => if E7 = 2 then (some (1, g4)) else if E7 = 1 then (some (2, g4)) else none) else none
noncomputable def fC_testamentsBelow (g : gH) (v0 : Int) (v1 : Int) : Option (Nat × Int) :=
  bdQ (fC_named g v0 v1) (fun y2 => if kd (g v0 0) = 5 then bdP (fT_countBelow g (g v0 0) y2 1) (fun y9 => some (0, y9)) else none) (fun E7 => some (E7 + 1, 0))
noncomputable def fW_testamentsBelow (g : gH) (v0 : Int) (v1 : Int) (v2 : Int) : Option (Int × gH) :=
  if kd v0 = 6 then bdQ (fC_testamentsBelow g v0 v1) (fun y2 => if kd v2 = 23 ∧ (0 : Int) ≤ 0 ∧ 0 < sz v2 then bnd (pU g v2 0 y2) (fun g9 => some (0, g9)) else none) (fun E7 => if E7 = 2 then (some (1, g)) else none) else none
noncomputable def bC_roomBelow_25 (g : gH) (v2 : Int) (v4 : Int) (v5 : Int) (X25 : Int → Int → Option (Nat × Int)) (v3 : Int) (v6 : Int) : Option (Nat × Int) :=
  if v6 < v5 then (if kd v4 = 24 ∧ (0 : Int) ≤ v6 ∧ v6 < sz v4 then if kd (g v4 v6) = 3 then bdP (fP_isRunning g (g v4 v6)) (fun y17 => if y17 = 0 then (X25 v3 (w32 (v6 + 1))) else (if kd v2 = 3 then bdP (fP_isOver g v2 (g v4 v6)) (fun y24 => if y24 = 0 then (X25 v3 (w32 (v6 + 1))) else (bdP (fP_room g (g v4 v6)) (fun y30 => X25 (w32 (v3 + y30)) (w32 (v6 + 1))))) else none)) else none else none) else (some (0, v3))
noncomputable def lC_roomBelow_25 (g : gH) (v2 : Int) (v4 : Int) (v5 : Int) (n : Nat) : Int → Int → Option (Nat × Int) := Nat.rec (motive := fun _ => Int → Int → Option (Nat × Int)) (fun _ _ => none) (fun _ ih => bC_roomBelow_25 g v2 v4 v5 ih) n
noncomputable def fC_roomBelow (g : gH) (v0 : Int) (v1 : Int) : Option (Nat × Int) :=
  bdQ (fC_named g v0 v1) (fun y1 => if kd (g v0 0) = 5 then if kd (g (g v0 0) 1) = 24 then lC_roomBelow_25 g y1 (g (g v0 0) 1) (sz (g (g v0 0) 1)) fu 0 0 else none else none) (fun E6 => some (E6 + 1, 0))
noncomputable def fW_roomBelow (g : gH) (v0 : Int) (v1 : Int) (v2 : Int) : Option (Int × gH) :=
  if kd v0 = 6 then bdQ (fC_roomBelow g v0 v1) (fun y2 => if kd v2 = 23 ∧ (0 : Int) ≤ 0 ∧ 0 < sz v2 then bnd (pU g v2 0 y2) (fun g9 => some (0, g9)) else none) (fun E7 => if E7 = 2 then (some (1, g)) else none) else none
noncomputable def bC_adopters_32 (g : gH) (v0 : Int) (v2 : Int) (v4 : Int) (v5 : Int) (X32 : Int → Int → Option (Nat × Int)) (v3 : Int) (v6 : Int) : Option (Nat × Int) :=
  if v6 < v5 then (if kd v4 = 24 ∧ (0 : Int) ≤ v6 ∧ v6 < sz v4 then if kd (g v0 0) = 5 then bdP (fT_canAdopt g (g v0 0) (g v4 v6) v2) (fun y29 => if y29 = 0 then (X32 v3 (w32 (v6 + 1))) else (X32 (w32 (v3 + 1)) (w32 (v6 + 1)))) else none else none) else (some (0, v3))
noncomputable def lC_adopters_32 (g : gH) (v0 : Int) (v2 : Int) (v4 : Int) (v5 : Int) (n : Nat) : Int → Int → Option (Nat × Int) := Nat.rec (motive := fun _ => Int → Int → Option (Nat × Int)) (fun _ _ => none) (fun _ ih => bC_adopters_32 g v0 v2 v4 v5 ih) n
noncomputable def fC_adopters (g : gH) (v0 : Int) (v1 : Int) : Option (Nat × Int) :=
  bdQ (fC_named g v0 v1) (fun y1 => if kd y1 = 3 then bdP (fP_isMortal g y1) (fun y8 => bdQ (fC_checkState g y8) (fun y12 => if kd (g v0 0) = 5 then if kd (g (g v0 0) 1) = 24 then lC_adopters_32 g v0 y1 (g (g v0 0) 1) (sz (g (g v0 0) 1)) fu 0 0 else none else none) (fun E17 => some (E17 + 1, 0))) else none) (fun E6 => some (E6 + 1, 0))
noncomputable def fW_adopters (g : gH) (v0 : Int) (v1 : Int) (v2 : Int) : Option (Int × gH) :=
  if kd v0 = 6 then bdQ (fC_adopters g v0 v1) (fun y2 => if kd v2 = 23 ∧ (0 : Int) ≤ 0 ∧ 0 < sz v2 then bnd (pU g v2 0 y2) (fun g9 => some (0, g9)) else none) (fun E7 => if E7 = 2 then (some (1, g)) else if E7 = 1 then (some (2, g)) else none) else none
noncomputable def fC_betterCode (g : gH) (v0 : Int) (v1 : Int) : Option (Nat × (Int × gH)) :=
  bdQ (fC_named g v0 v1) (fun y1 => if kd y1 = 3 then bdP (fP_isMortal g y1) (fun y8 => bdQ (fC_checkState g y8) (fun y12 => bdN (fC_exitOfCopy g v0 v1 1) (fun y18 g20 => bdN (fC_exitOfCopy g20 v0 v1 0) (fun y22 g24 => if y18 < y22 then (some (0, (1, g24))) else (some (0, (0, g24)))))) (fun E17 => some (E17 + 1, (0, g)))) else none) (fun E6 => some (E6 + 1, (0, g)))
noncomputable def fW_betterCode (g : gH) (v0 : Int) (v1 : Int) (v2 : Int) : Option (Int × gH) :=
  if kd v0 = 6 then bdT (fC_betterCode g v0 v1) (fun y2 g4 => if kd v2 = 23 ∧ (0 : Int) ≤ 0 ∧ 0 < sz v2 then bnd (pU g4 v2 0 y2) (fun g9 => some (0, g9)) else none) (fun E7 g4 => if E7 = 2 then (some (1, g4)) else if E7 = 1 then (some (2, g4)) else none) else none
noncomputable def fC_wouldRun (g : gH) (v0 : Int) (v1 : Int) (v2 : Int) : Option (Nat × (Int × gH)) :=
  bdQ (fC_checkKill g v1 v2) (fun y1 => if kd (g v0 1) = 5 then bdN (fT_take g (g v0 1) (g v0 0)) (fun y10 g12 => if kd (g12 v0 1) = 5 then bdN (fT_killGroup g12 (g12 v0 1) v1 v2) (fun y16 g18 => if kd (g18 v0 1) = 5 then bdP (fT_countInState g18 (g18 v0 1) 0) (fun y22 => some (0, (y22, g18))) else none) else none) else none) (fun E6 => some (E6 + 1, (0, g)))
noncomputable def fW_wouldRun (g : gH) (v0 : Int) (v1 : Int) (v2 : Int) (v3 : Int) : Option (Int × gH) :=
  if kd v0 = 6 then bdT (fC_wouldRun g v0 v1 v2) (fun y2 g4 => if kd v3 = 23 ∧ (0 : Int) ≤ 0 ∧ 0 < sz v3 then bnd (pU g4 v3 0 y2) (fun g9 => some (0, g9)) else none) (fun E7 g4 => if E7 = 0 then (some (1, g4)) else none) else none
noncomputable def jC_apart_35 (g : gH) (v0 : Int) (v3 : Int) (v4 : Int) (s0 : Int) : Option (Nat × Int) :=
  bdQ (fC_checkState g s0) (fun y21 => if kd v3 = 3 then bdP (fP_countAbove g v3) (fun y28 => if kd v4 = 3 then bdP (fP_countAbove g v4) (fun y33 => if kd (g v0 0) = 5 then bdP (fT_lowestOver g (g v0 0) v3 v4) (fun y39 => if kd y39 = 3 then bdP (fP_countAbove g y39) (fun y44 => some (0, (w32 ((w32 (y28 + y33)) - (opI 0 2 y44))))) else none) else none) else none) else none) (fun E26 => some (E26 + 1, 0))
noncomputable def jC_apart_34 (g : gH) (v0 : Int) (v3 : Int) (v4 : Int) : Option (Nat × Int) :=
  jC_apart_35 g v0 v3 v4 0
noncomputable def fC_apart (g : gH) (v0 : Int) (v1 : Int) (v2 : Int) : Option (Nat × Int) :=
  bdQ (fC_named g v0 v1) (fun y1 => bdQ (fC_named g v0 v2) (fun y7 => if kd y1 = 3 then if (g y1 1) = 2 then (jC_apart_34 g v0 y1 y7) else (if kd y7 = 3 then if (g y7 1) = 2 then (jC_apart_34 g v0 y1 y7) else (jC_apart_35 g v0 y1 y7 1) else none) else none) (fun E12 => some (E12 + 1, 0))) (fun E6 => some (E6 + 1, 0))
noncomputable def fW_apart (g : gH) (v0 : Int) (v1 : Int) (v2 : Int) (v3 : Int) : Option (Int × gH) :=
  if kd v0 = 6 then bdQ (fC_apart g v0 v1 v2) (fun y2 => if kd v3 = 23 ∧ (0 : Int) ≤ 0 ∧ 0 < sz v3 then bnd (pU g v3 0 y2) (fun g9 => some (0, g9)) else none) (fun E7 => if E7 = 2 then (some (1, g)) else if E7 = 1 then (some (2, g)) else none) else none
noncomputable def bT_loseSurplus_5 (v0 : Int) (v1 : Int) (X5 : Int → Int → gH → Option (Int × gH)) (v2 : Int) (v3 : Int) (g : gH) : Option (Int × gH) :=
  if v3 < 0 then (some (v2, g)) else (if kd v1 = 3 then if (g v1 4) < (g v1 3) then (if kd (g v0 1) = 24 ∧ (0 : Int) ≤ v3 ∧ v3 < sz (g v0 1) then if kd (g (g v0 1) v3) = 3 then bdP (fP_isRunningChildOf g (g (g v0 1) v3) v1) (fun y12 => if y12 = 0 then (X5 v2 (w32 (v3 + (-1))) g) else (if kd (g v0 1) = 24 ∧ (0 : Int) ≤ v3 ∧ v3 < sz (g v0 1) then if kd (g v0 1) = 24 ∧ (0 : Int) ≤ v3 ∧ v3 < sz (g v0 1) then bdP (fT_adopterOf g v0 (g (g v0 1) v3)) (fun y24 => bdN (fT_adopt g v0 (g (g v0 1) v3) y24) (fun y28 g30 => X5 (w32 (v2 + 1)) (w32 (v3 + (-1))) g30)) else none else none)) else none else none) else (X5 v2 (w32 (v3 + (-1))) g) else none)
noncomputable def lT_loseSurplus_5 (v0 : Int) (v1 : Int) (n : Nat) : Int → Int → gH → Option (Int × gH) := Nat.rec (motive := fun _ => Int → Int → gH → Option (Int × gH)) (fun _ _ _ => none) (fun _ ih => bT_loseSurplus_5 v0 v1 ih) n
noncomputable def fT_loseSurplus (g : gH) (v0 : Int) (v1 : Int) : Option (Int × gH) :=
  lT_loseSurplus_5 v0 v1 fu 0 39 g
noncomputable def fC_relieve (g : gH) (v0 : Int) (v1 : Int) : Option (Nat × (Int × gH)) :=
  bdQ (fC_named g v0 v1) (fun y1 => if kd y1 = 3 then bdP (fP_isMortal g y1) (fun y8 => bdQ (fC_checkState g y8) (fun y12 => if kd (g v0 3) = 0 then bdN (fH_push g (g v0 3) (g v0 0)) (fun y21 g23 => if kd (g23 v0 0) = 5 then bdN (fT_loseSurplus g23 (g23 v0 0) y1) (fun y27 g29 => some (0, (y27, g29))) else none) else none) (fun E17 => some (E17 + 1, (0, g)))) else none) (fun E6 => some (E6 + 1, (0, g)))
noncomputable def fW_relieve (g : gH) (v0 : Int) (v1 : Int) (v2 : Int) : Option (Int × gH) :=
  if kd v0 = 6 then bdT (fC_relieve g v0 v1) (fun y2 g4 => if kd v2 = 23 ∧ (0 : Int) ≤ 0 ∧ 0 < sz v2 then bnd (pU g4 v2 0 y2) (fun g9 => some (0, g9)) else none) (fun E7 g4 => if E7 = 2 then (some (1, g4)) else if E7 = 1 then (some (2, g4)) else none) else none
noncomputable def fC_wouldHold (g : gH) (v0 : Int) (v1 : Int) (v2 : Int) (v3 : Int) : Option (Nat × (Int × gH)) :=
  bdQ (fC_named g v0 v2) (fun y1 => bdQ (fC_checkRange g v1 7) (fun y7 => bdQ (fC_namedForExit g v0 v2 v3) (fun y13 => bdN (fC_exitOfCopy g v0 v2 v3) (fun y19 g21 => if kd (g21 v0 1) = 5 then bdP (fT_holderOf g21 (g21 v0 1) v1) (fun y25 => if kd y25 = 3 then some (0, ((g21 y25 0), g21)) else none) else none)) (fun E18 => some (E18 + 1, (0, g)))) (fun E12 => some (E12 + 1, (0, g)))) (fun E6 => some (E6 + 1, (0, g)))
noncomputable def fW_wouldHold (g : gH) (v0 : Int) (v1 : Int) (v2 : Int) (v3 : Int) (v4 : Int) : Option (Int × gH) :=
  if kd v0 = 6 then bdT (fC_wouldHold g v0 v1 v2 v3) (fun y2 g4 => if kd v4 = 23 ∧ (0 : Int) ≤ 0 ∧ 0 < sz v4 then bnd (pU g4 v4 0 y2) (fun g9 => some (0, g9)) else none) (fun E7 g4 => if E7 = 2 then (some (1, g4)) else if E7 = 0 then (some (2, g4)) else if E7 = 1 then (some (3, g4)) else none) else none
noncomputable def bC_dutyLife_19 (v0 : Int) (v1 : Int) (X19 : Int → gH → Option (Nat × (Int × gH))) (v2 : Int) (g : gH) : Option (Nat × (Int × gH)) :=
  if v2 < 40 then (if kd (g v0 1) = 5 then bdP (fT_holderOf g (g v0 1) v1) (fun y18 => if y18 = (g (g v0 1) 0) then (some (0, (v2, g))) else (bdP (fT_holderOf g (g v0 1) v1) (fun y28 => bdN (fT_letExit g (g v0 1) y28 0) (fun y32 g34 => X19 (w32 (v2 + 1)) g34)))) else none) else (some (0, (v2, g)))
noncomputable def lC_dutyLife_19 (v0 : Int) (v1 : Int) (n : Nat) : Int → gH → Option (Nat × (Int × gH)) := Nat.rec (motive := fun _ => Int → gH → Option (Nat × (Int × gH))) (fun _ _ => none) (fun _ ih => bC_dutyLife_19 v0 v1 ih) n
noncomputable def fC_dutyLife (g : gH) (v0 : Int) (v1 : Int) : Option (Nat × (Int × gH)) :=
  bdQ (fC_checkRange g v1 7) (fun y1 => if kd (g v0 1) = 5 then bdN (fT_take g (g v0 1) (g v0 0)) (fun y10 g12 => lC_dutyLife_19 v0 v1 fu 0 g12) else none) (fun E6 => some (E6 + 1, (0, g)))
noncomputable def fW_dutyLife (g : gH) (v0 : Int) (v1 : Int) (v2 : Int) : Option (Int × gH) :=
  if kd v0 = 6 then bdT (fC_dutyLife g v0 v1) (fun y2 g4 => if kd v2 = 23 ∧ (0 : Int) ≤ 0 ∧ 0 < sz v2 then bnd (pU g4 v2 0 y2) (fun g9 => some (0, g9)) else none) (fun E7 g4 => if E7 = 0 then (some (1, g4)) else none) else none
noncomputable def jC_heaviest_65 (X28 : Int → Int → Int → Option (Nat × Int)) (g : gH) (v0 : Int) (v2 : Int) (v3 : Int) (v4 : Int) (v5 : Int) (v6 : Int) (v7 : Int) (v8 : Int) (s0 : Int) : Option (Nat × Int) :=
  if v4 < s0 then (if kd v8 = 3 then X28 (g v8 0) s0 (w32 (v7 + 1)) else none) else (X28 v3 v4 (w32 (v7 + 1)))
noncomputable def bC_heaviest_28 (g : gH) (v0 : Int) (v2 : Int) (v5 : Int) (v6 : Int) (X28 : Int → Int → Int → Option (Nat × Int)) (v3 : Int) (v4 : Int) (v7 : Int) : Option (Nat × Int) :=
  if v7 < v6 then (if kd v5 = 24 ∧ (0 : Int) ≤ v7 ∧ v7 < sz v5 then if kd (g v5 v7) = 3 then bdP (fP_isRunningChildOf g (g v5 v7) v2) (fun y17 => if y17 = 0 then (jC_heaviest_65 X28 g v0 v2 v3 v4 v5 v6 v7 (g v5 v7) (-1)) else (if kd (g v0 0) = 5 then bdP (fT_countBelow g (g v0 0) (g v5 v7) 0) (fun y25 => jC_heaviest_65 X28 g v0 v2 v3 v4 v5 v6 v7 (g v5 v7) y25) else none)) else none else none) else (some (0, v3))
noncomputable def lC_heaviest_28 (g : gH) (v0 : Int) (v2 : Int) (v5 : Int) (v6 : Int) (n : Nat) : Int → Int → Int → Option (Nat × Int) := Nat.rec (motive := fun _ => Int → Int → Int → Option (Nat × Int)) (fun _ _ _ => none) (fun _ ih => bC_heaviest_28 g v0 v2 v5 v6 ih) n
noncomputable def fC_heaviest (g : gH) (v0 : Int) (v1 : Int) : Option (Nat × Int) :=
  bdQ (fC_named g v0 v1) (fun y1 => if kd (g v0 0) = 5 then if kd (g (g v0 0) 1) = 24 then lC_heaviest_28 g v0 y1 (g (g v0 0) 1) (sz (g (g v0 0) 1)) fu (-1) (-1) 0 else none else none) (fun E6 => some (E6 + 1, 0))
noncomputable def fW_heaviest (g : gH) (v0 : Int) (v1 : Int) (v2 : Int) : Option (Int × gH) :=
  if kd v0 = 6 then bdQ (fC_heaviest g v0 v1) (fun y2 => if kd v2 = 23 ∧ (0 : Int) ≤ 0 ∧ 0 < sz v2 then bnd (pU g v2 0 y2) (fun g9 => some (0, g9)) else none) (fun E7 => if E7 = 2 then (some (1, g)) else none) else none
noncomputable def bC_groupsBelow_25 (g : gH) (v2 : Int) (v4 : Int) (v5 : Int) (X25 : Int → Int → Option (Nat × Int)) (v3 : Int) (v6 : Int) : Option (Nat × Int) :=
  if v6 < v5 then (if kd v4 = 24 ∧ (0 : Int) ≤ v6 ∧ v6 < sz v4 then if kd (g v4 v6) = 3 then bdP (fP_isRunning g (g v4 v6)) (fun y17 => if y17 = 0 then (X25 v3 (w32 (v6 + 1))) else (if kd v2 = 3 then bdP (fP_isOver g v2 (g v4 v6)) (fun y24 => if y24 = 0 then (X25 v3 (w32 (v6 + 1))) else (X25 (opI 2 v3 (opI 4 1 (g (g v4 v6) 5))) (w32 (v6 + 1)))) else none)) else none else none) else (some (0, v3))
noncomputable def lC_groupsBelow_25 (g : gH) (v2 : Int) (v4 : Int) (v5 : Int) (n : Nat) : Int → Int → Option (Nat × Int) := Nat.rec (motive := fun _ => Int → Int → Option (Nat × Int)) (fun _ _ => none) (fun _ ih => bC_groupsBelow_25 g v2 v4 v5 ih) n
noncomputable def fC_groupsBelow (g : gH) (v0 : Int) (v1 : Int) : Option (Nat × Int) :=
  bdQ (fC_named g v0 v1) (fun y1 => if kd (g v0 0) = 5 then if kd (g (g v0 0) 1) = 24 then lC_groupsBelow_25 g y1 (g (g v0 0) 1) (sz (g (g v0 0) 1)) fu 0 0 else none else none) (fun E6 => some (E6 + 1, 0))
noncomputable def fW_groupsBelow (g : gH) (v0 : Int) (v1 : Int) (v2 : Int) : Option (Int × gH) :=
  if kd v0 = 6 then bdQ (fC_groupsBelow g v0 v1) (fun y2 => if kd v2 = 23 ∧ (0 : Int) ≤ 0 ∧ 0 < sz v2 then bnd (pU g v2 0 y2) (fun g9 => some (0, g9)) else none) (fun E7 => if E7 = 2 then (some (1, g)) else none) else none
noncomputable def bC_strangers_25 (g : gH) (v2 : Int) (v4 : Int) (v5 : Int) (X25 : Int → Int → Option (Nat × Int)) (v3 : Int) (v6 : Int) : Option (Nat × Int) :=
  if v6 < v5 then (if kd v4 = 24 ∧ (0 : Int) ≤ v6 ∧ v6 < sz v4 then if kd (g v4 v6) = 3 then bdP (fP_isRunningChildOf g (g v4 v6) v2) (fun y17 => if y17 = 0 then (X25 v3 (w32 (v6 + 1))) else (if kd v2 = 3 then if (g (g v4 v6) 5) = (g v2 5) then (X25 v3 (w32 (v6 + 1))) else (X25 (w32 (v3 + 1)) (w32 (v6 + 1))) else none)) else none else none) else (some (0, v3))
noncomputable def lC_strangers_25 (g : gH) (v2 : Int) (v4 : Int) (v5 : Int) (n : Nat) : Int → Int → Option (Nat × Int) := Nat.rec (motive := fun _ => Int → Int → Option (Nat × Int)) (fun _ _ => none) (fun _ ih => bC_strangers_25 g v2 v4 v5 ih) n
noncomputable def fC_strangers (g : gH) (v0 : Int) (v1 : Int) : Option (Nat × Int) :=
  bdQ (fC_named g v0 v1) (fun y1 => if kd (g v0 0) = 5 then if kd (g (g v0 0) 1) = 24 then lC_strangers_25 g y1 (g (g v0 0) 1) (sz (g (g v0 0) 1)) fu 0 0 else none else none) (fun E6 => some (E6 + 1, 0))
noncomputable def fW_strangers (g : gH) (v0 : Int) (v1 : Int) (v2 : Int) : Option (Int × gH) :=
  if kd v0 = 6 then bdQ (fC_strangers g v0 v1) (fun y2 => if kd v2 = 23 ∧ (0 : Int) ≤ 0 ∧ 0 < sz v2 then bnd (pU g v2 0 y2) (fun g9 => some (0, g9)) else none) (fun E7 => if E7 = 2 then (some (1, g)) else none) else none
noncomputable def fO_putSign (g : gH) (v0 : Int) (v1 : Int) : Option (Int × gH) :=
  if (g v0 1) < 0 then (some (0, g)) else (if (g v0 1) < 300 then (if kd (g v0 0) = 21 ∧ (0 : Int) ≤ (g v0 1) ∧ (g v0 1) < sz (g v0 0) then bnd (pU g (g v0 0) (g v0 1) (i2b (i2b v1))) (fun g10 => bnd (pU g10 v0 1 (w32 ((g10 v0 1) + 1))) (fun g13 => some (0, g13))) else none) else (some (0, g)))
noncomputable def jO_putNumber_18 (g : gH) (v0 : Int) (v1 : Int) : Option (Int × gH) :=
  if v1 < 10 then (if (1 : Int) ≤ 10 ∧ 10 < (2147483648 : Int) ∧ (0 : Int) ≤ v1 ∧ v1 < 2147483648 then bdN (fO_putSign g v0 ((w32 (48 + (v1 % 10))) % 65536)) (fun y11 g13 => some (0, g13)) else none) else (if (1 : Int) ≤ 10 ∧ 10 < (2147483648 : Int) ∧ (0 : Int) ≤ v1 ∧ v1 < 2147483648 then if (1 : Int) ≤ 10 ∧ 10 < (2147483648 : Int) ∧ (0 : Int) ≤ (v1 / 10) ∧ (v1 / 10) < 2147483648 then bdN (fO_putSign g v0 ((w32 (48 + ((v1 / 10) % 10))) % 65536)) (fun y17 g19 => if (1 : Int) ≤ 10 ∧ 10 < (2147483648 : Int) ∧ (0 : Int) ≤ v1 ∧ v1 < 2147483648 then bdN (fO_putSign g19 v0 ((w32 (48 + (v1 % 10))) % 65536)) (fun y22 g24 => some (0, g24)) else none) else none else none)
noncomputable def fO_putNumber (g : gH) (v0 : Int) (v1 : Int) : Option (Int × gH) :=
  if v1 < 100 then (jO_putNumber_18 g v0 v1) else (if (1 : Int) ≤ 100 ∧ 100 < (2147483648 : Int) ∧ (0 : Int) ≤ v1 ∧ v1 < 2147483648 then bdN (fO_putSign g v0 ((w32 (48 + (v1 / 100))) % 65536)) (fun y4 g6 => jO_putNumber_18 g6 v0 v1) else none)
noncomputable def bC_putBranch_40 (R : gH → Int → Int → Int → Int → Option (Int × gH)) (v0 : Int) (v1 : Int) (v2 : Int) (v3 : Int) (v5 : Int) (v6 : Int) (X40 : Int → Int → gH → Option (Int × gH)) (v4 : Int) (v7 : Int) (g : gH) : Option (Int × gH) :=
  if v7 < v6 then (if kd v5 = 24 ∧ (0 : Int) ≤ v7 ∧ v7 < sz v5 then if kd (g v5 v7) = 3 then bdP (fP_isRunningChildOf g (g v5 v7) v2) (fun y22 => if y22 = 0 then (X40 v4 (w32 (v7 + 1)) g) else (if kd v0 = 2 then bdN (fO_putSign g v0 v4) (fun y29 g31 => bdN (R g31 v0 v1 (g v5 v7) (w32 (v3 + 1))) (fun y33 g35 => X40 32 (w32 (v7 + 1)) g35)) else none)) else none else none) else (if kd v0 = 2 then bdN (fO_putSign g v0 41) (fun y38 g40 => some (0, g40)) else none)
noncomputable def lC_putBranch_40 (R : gH → Int → Int → Int → Int → Option (Int × gH)) (v0 : Int) (v1 : Int) (v2 : Int) (v3 : Int) (v5 : Int) (v6 : Int) (n : Nat) : Int → Int → gH → Option (Int × gH) := Nat.rec (motive := fun _ => Int → Int → gH → Option (Int × gH)) (fun _ _ _ => none) (fun _ ih => bC_putBranch_40 R v0 v1 v2 v3 v5 v6 ih) n
noncomputable def fbC_putBranch (R : gH → Int → Int → Int → Int → Option (Int × gH)) (g : gH) (v0 : Int) (v1 : Int) (v2 : Int) (v3 : Int) : Option (Int × gH) :=
  if kd v2 = 3 then if kd v0 = 2 then bdN (fO_putNumber g v0 (g v2 0)) (fun y4 g6 => if (g6 v2 3) = 0 then (some (0, g6)) else (if v3 < 40 then (if kd v1 = 5 then if kd (g6 v1 1) = 24 then lC_putBranch_40 R v0 v1 v2 v3 (g6 v1 1) (sz (g6 v1 1)) fu 40 0 g6 else none else none) else (some (0, g6)))) else none else none
noncomputable def fC_putBranch (n : Nat) : gH → Int → Int → Int → Int → Option (Int × gH) := Nat.rec (motive := fun _ => gH → Int → Int → Int → Int → Option (Int × gH)) (fun _ _ _ _ _ => none) (fun _ ih => fbC_putBranch ih) n
noncomputable def jO_putPath_38 (X5 : Int → gH → Option (Int × gH)) (g : gH) (v0 : Int) (v1 : Int) (v2 : Int) (v3 : Int) : Option (Int × gH) :=
  if kd v3 = 3 then bdN (fO_putNumber g v0 (g v3 0)) (fun y23 g25 => bdN (fO_putSign g25 v0 47) (fun y27 g29 => X5 (w32 (v2 + (-1))) g29)) else none
noncomputable def bO_putPath_14 (X5 : Int → gH → Option (Int × gH)) (g : gH) (v0 : Int) (v1 : Int) (v2 : Int) (X14 : Int → Int → Option (Int × gH)) (v3 : Int) (v4 : Int) : Option (Int × gH) :=
  if v4 < v2 then (if kd v3 = 3 then if (g v3 2) < 0 then (jO_putPath_38 X5 g v0 v1 v2 v3) else (X14 (g v3 2) (w32 (v4 + 1))) else none) else (jO_putPath_38 X5 g v0 v1 v2 v3)
noncomputable def lO_putPath_14 (X5 : Int → gH → Option (Int × gH)) (g : gH) (v0 : Int) (v1 : Int) (v2 : Int) (n : Nat) : Int → Int → Option (Int × gH) := Nat.rec (motive := fun _ => Int → Int → Option (Int × gH)) (fun _ _ => none) (fun _ ih => bO_putPath_14 X5 g v0 v1 v2 ih) n
noncomputable def bO_putPath_5 (v0 : Int) (v1 : Int) (X5 : Int → gH → Option (Int × gH)) (v2 : Int) (g : gH) : Option (Int × gH) :=
  if 0 < v2 then (lO_putPath_14 X5 g v0 v1 v2 fu v1 0) else (if kd v1 = 3 then bdN (fO_putNumber g v0 (g v1 0)) (fun y10 g12 => some (0, g12)) else none)
noncomputable def lO_putPath_5 (v0 : Int) (v1 : Int) (n : Nat) : Int → gH → Option (Int × gH) := Nat.rec (motive := fun _ => Int → gH → Option (Int × gH)) (fun _ _ => none) (fun _ ih => bO_putPath_5 v0 v1 ih) n
noncomputable def fO_putPath (g : gH) (v0 : Int) (v1 : Int) : Option (Int × gH) :=
  if kd v1 = 3 then bdP (fP_countAbove g v1) (fun y2 => lO_putPath_5 v0 v1 fu y2 g) else none
noncomputable def fO_putComma (g : gH) (v0 : Int) : Option (Int × gH) :=
  if 0 < (g v0 1) then (bdN (fO_putSign g v0 44) (fun y4 g6 => some (0, g6))) else (some (0, g))
noncomputable def bO_putChildren_12 (v0 : Int) (v2 : Int) (v3 : Int) (v4 : Int) (X12 : Int → gH → Option (Int × gH)) (v5 : Int) (g : gH) : Option (Int × gH) :=
  if v5 < v4 then (if kd v3 = 24 ∧ (0 : Int) ≤ v5 ∧ v5 < sz v3 then if kd (g v3 v5) = 3 then bdP (fP_isRunningChildOf g (g v3 v5) v2) (fun y10 => if y10 = 0 then (X12 (w32 (v5 + 1)) g) else (bdN (fO_putComma g v0) (fun y16 g18 => bdN (fO_putNumber g18 v0 (g18 (g v3 v5) 0)) (fun y21 g23 => X12 (w32 (v5 + 1)) g23)))) else none else none) else (some (0, g))
noncomputable def lO_putChildren_12 (v0 : Int) (v2 : Int) (v3 : Int) (v4 : Int) (n : Nat) : Int → gH → Option (Int × gH) := Nat.rec (motive := fun _ => Int → gH → Option (Int × gH)) (fun _ _ => none) (fun _ ih => bO_putChildren_12 v0 v2 v3 v4 ih) n
noncomputable def fO_putChildren (g : gH) (v0 : Int) (v1 : Int) (v2 : Int) : Option (Int × gH) :=
  if kd v1 = 5 then if kd (g v1 1) = 24 then lO_putChildren_12 v0 v2 (g v1 1) (sz (g v1 1)) fu 0 g else none else none
noncomputable def bO_putDuties_9 (v0 : Int) (v3 : Int) (X9 : Int → gH → Option (Int × gH)) (v4 : Int) (g : gH) : Option (Int × gH) :=
  if v4 < 8 then (if (opI 1 (opI 5 v3 v4) 1) = 0 then (X9 (w32 (v4 + 1)) g) else (bdN (fO_putNumber g v0 v4) (fun y10 g12 => X9 (w32 (v4 + 1)) g12))) else (some (0, g))
noncomputable def lO_putDuties_9 (v0 : Int) (v3 : Int) (n : Nat) : Int → gH → Option (Int × gH) := Nat.rec (motive := fun _ => Int → gH → Option (Int × gH)) (fun _ _ => none) (fun _ ih => bO_putDuties_9 v0 v3 ih) n
noncomputable def fO_putDuties (g : gH) (v0 : Int) (v1 : Int) (v2 : Int) : Option (Int × gH) :=
  if kd v1 = 5 then bdP (fT_dutiesOf g v1 v2) (fun y2 => lO_putDuties_9 v0 y2 fu 0 g) else none
noncomputable def bO_putZombies_10 (v0 : Int) (v1 : Int) (v2 : Int) (X10 : Int → Int → gH → Option (Int × gH)) (v3 : Int) (v4 : Int) (g : gH) : Option (Int × gH) :=
  if v4 < 40 then (if v3 < 0 then (some (0, g)) else (bdN (fO_putComma g v0) (fun y10 g12 => if kd v3 = 3 then bdN (fO_putNumber g12 v0 (g12 v3 0)) (fun y16 g18 => bdN (fO_putSign g18 v0 58) (fun y20 g22 => bdN (fO_putNumber g22 v0 (g22 v3 9)) (fun y25 g27 => if kd v1 = 5 then bdP (fT_zombieBehind g27 v1 v2 (g27 v3 10)) (fun y31 => X10 y31 (w32 (v4 + 1)) g27) else none))) else none))) else (some (0, g))
noncomputable def lO_putZombies_10 (v0 : Int) (v1 : Int) (v2 : Int) (n : Nat) : Int → Int → gH → Option (Int × gH) := Nat.rec (motive := fun _ => Int → Int → gH → Option (Int × gH)) (fun _ _ _ => none) (fun _ ih => bO_putZombies_10 v0 v1 v2 ih) n
noncomputable def fO_putZombies (g : gH) (v0 : Int) (v1 : Int) (v2 : Int) : Option (Int × gH) :=
  if kd v1 = 5 then bdP (fT_zombieBehind g v1 v2 (-1)) (fun y2 => lO_putZombies_10 v0 v1 v2 fu y2 0 g) else none
noncomputable def jC_print_137 (g : gH) (v0 : Int) : Option (Nat × (Int × gH)) :=
  if kd (g v0 5) = 2 then if (g (g v0 5) 1) = 0 then (bdN (fO_putSign g (g v0 5) 45) (fun y74 g76 => if kd (g76 v0 5) = 2 then some (0, ((g76 (g76 v0 5) 1), g76)) else none)) else (some (0, ((g (g v0 5) 1), g))) else none
noncomputable def jC_print_24 (g : gH) (v0 : Int) (v2 : Int) (v3 : Int) (s0 : Int) : Option (Nat × (Int × gH)) :=
  bdQ (fC_checkState g s0) (fun y17 => if kd (g v0 5) = 2 then bnd (pU g (g v0 5) 1 0) (fun g25 => if v2 = 0 then (if kd (g25 v0 5) = 2 then bdN (fO_putPath g25 (g25 v0 5) v3) (fun y31 g33 => jC_print_137 g33 v0) else none) else if v2 = 1 then (if kd (g25 v0 5) = 2 then bdN (fO_putChildren g25 (g25 v0 5) (g25 v0 0) v3) (fun y40 g42 => jC_print_137 g42 v0) else none) else if v2 = 2 then (bdN (fC_putBranch fr g25 (g25 v0 5) (g25 v0 0) v3 0) (fun y48 g50 => jC_print_137 g50 v0)) else if v2 = 3 then (if kd (g25 v0 5) = 2 then bdN (fO_putDuties g25 (g25 v0 5) (g25 v0 0) v3) (fun y57 g59 => jC_print_137 g59 v0) else none) else (if kd (g25 v0 5) = 2 then bdN (fO_putZombies g25 (g25 v0 5) (g25 v0 0) v3) (fun y64 g66 => jC_print_137 g66 v0) else none)) else none) (fun E22 => some (E22 + 1, (0, g)))
noncomputable def fC_print (g : gH) (v0 : Int) (v1 : Int) (v2 : Int) : Option (Nat × (Int × gH)) :=
  bdQ (fC_named g v0 v1) (fun y1 => bdQ (fC_checkRange g v2 4) (fun y7 => if kd y1 = 3 then if (g y1 1) = 2 then (jC_print_24 g v0 v2 y1 0) else (jC_print_24 g v0 v2 y1 1) else none) (fun E12 => some (E12 + 1, (0, g)))) (fun E6 => some (E6 + 1, (0, g)))
noncomputable def fW_print (g : gH) (v0 : Int) (v1 : Int) (v2 : Int) (v3 : Int) : Option (Int × gH) :=
  if kd v0 = 6 then bdT (fC_print g v0 v1 v2) (fun y2 g4 => if kd v3 = 23 ∧ (0 : Int) ≤ 0 ∧ 0 < sz v3 then bnd (pU g4 v3 0 y2) (fun g9 => some (0, g9)) else none) (fun E7 g4 => if E7 = 2 then (some (1, g4)) else if E7 = 0 then (some (2, g4)) else if E7 = 1 then (some (3, g4)) else none) else none
noncomputable def fC_restoreState (g : gH) (v0 : Int) : Option (Nat × (Int × gH)) :=
  bdQ (fC_checkState g (g v0 6)) (fun y2 => if kd (g v0 0) = 5 then bdN (fT_take g (g v0 0) (g v0 2)) (fun y11 g13 => if kd (g13 v0 3) = 0 then bnd (pU g13 (g13 v0 3) 1 0) (fun g17 => if kd (g17 v0 0) = 5 then bdP (fT_countInState g17 (g17 v0 0) 0) (fun y21 => some (0, (y21, g17))) else none) else none) else none) (fun E7 => some (E7 + 1, (0, g)))
noncomputable def fW_restoreState (g : gH) (v0 : Int) (v1 : Int) : Option (Int × gH) :=
  if kd v0 = 6 then bdT (fC_restoreState g v0) (fun y2 g4 => if kd v1 = 23 ∧ (0 : Int) ≤ 0 ∧ 0 < sz v1 then bnd (pU g4 v1 0 y2) (fun g9 => some (0, g9)) else none) (fun E7 g4 => if E7 = 1 then (some (1, g4)) else none) else none

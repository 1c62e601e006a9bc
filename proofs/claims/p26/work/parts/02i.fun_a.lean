/-! ===== the methods as functions over a heap of whole numbers (own work, by program: wip/p2/dec.py) ===== -/
noncomputable def bI_append_3 (v0 : Int) (v1 : Int) (X3 : Int → gH → Option (Int × gH)) (v2 : Int) (g : gH) : Option (Int × gH) :=
  if v2 < 0 then (some (0, g)) else (if (g v0 1) < 0 then (X3 (w32 (v2 + (-8))) g) else (if (g v0 1) < 500 then (if kd (g v0 0) = 21 ∧ (0 : Int) ≤ (g v0 1) ∧ (g v0 1) < sz (g v0 0) then bnd (pU g (g v0 0) (g v0 1) (i2b (i2b (opI 5 v1 v2)))) (fun g12 => bnd (pU g12 v0 1 (w32 ((g12 v0 1) + 1))) (fun g15 => X3 (w32 (v2 + (-8))) g15)) else none) else (X3 (w32 (v2 + (-8))) g)))
noncomputable def lI_append_3 (v0 : Int) (v1 : Int) (n : Nat) : Int → gH → Option (Int × gH) := Nat.rec (motive := fun _ => Int → gH → Option (Int × gH)) (fun _ _ => none) (fun _ ih => bI_append_3 v0 v1 ih) n
noncomputable def fI_append (g : gH) (v0 : Int) (v1 : Int) : Option (Int × gH) :=
  lI_append_3 v0 v1 fu 24 g
noncomputable def fC_appendInput (g : gH) (v0 : Int) (v1 : Int) (v2 : Int) (v3 : Int) (v4 : Int) (v5 : Int) : Option (Int × gH) :=
  if kd (g v0 4) = 4 then if kd (g (g v0 4) 0) = 1 then if 500 < (w32 ((g (g (g v0 4) 0) 1) + 20)) then (some ((-1), g)) else (bdN (fI_append g (g (g v0 4) 0) v1) (fun y8 g10 => bdN (fI_append g10 (g (g v0 4) 0) v2) (fun y12 g14 => bdN (fI_append g14 (g (g v0 4) 0) v3) (fun y16 g18 => bdN (fI_append g18 (g (g v0 4) 0) v4) (fun y20 g22 => bdN (fI_append g22 (g (g v0 4) 0) v5) (fun y24 g26 => some ((g26 (g (g v0 4) 0) 1), g26))))))) else none else none
noncomputable def fC_truncateInput (g : gH) (v0 : Int) (v1 : Int) : Option (Int × gH) :=
  if v1 < 0 then (some (0, g)) else (if kd (g v0 4) = 4 then if kd (g (g v0 4) 0) = 1 then if (g (g (g v0 4) 0) 1) < v1 then (some (0, g)) else (bnd (pU g (g (g v0 4) 0) 1 v1) (fun g12 => some (1, g12))) else none else none)
noncomputable def fP_become (g : gH) (v0 : Int) (v1 : Int) (v2 : Int) (v3 : Int) (v4 : Int) : Option (Int × gH) :=
  bnd (pU g v0 1 v1) (fun g1 => bnd (pU g1 v0 2 (-1)) (fun g3 => bnd (pU g3 v0 3 0) (fun g5 => bnd (pU g5 v0 4 v2) (fun g7 => bnd (pU g7 v0 5 v3) (fun g9 => bnd (pU g9 v0 6 v4) (fun g11 => bnd (pU g11 v0 7 (-1)) (fun g13 => bnd (pU g13 v0 8 0) (fun g15 => bnd (pU g15 v0 9 (-1)) (fun g17 => bnd (pU g17 v0 10 (-1)) (fun g19 => bnd (pU g19 v0 11 0) (fun g21 => bnd (pU g21 v0 12 (-1)) (fun g23 => bnd (pU g23 v0 13 0) (fun g25 => bnd (pU g25 v0 14 0) (fun g27 => some (0, g27)))))))))))))))
noncomputable def bT_clearRules_2 (v0 : Int) (X2 : Int → gH → Option (Int × gH)) (v1 : Int) (g : gH) : Option (Int × gH) :=
  if v1 < 5 then (if kd (g v0 3) = 20 ∧ (0 : Int) ≤ v1 ∧ v1 < sz (g v0 3) then bnd (pU g (g v0 3) v1 (-1)) (fun g5 => X2 (w32 (v1 + 1)) g5) else none) else (some (0, g))
noncomputable def lT_clearRules_2 (v0 : Int) (n : Nat) : Int → gH → Option (Int × gH) := Nat.rec (motive := fun _ => Int → gH → Option (Int × gH)) (fun _ _ => none) (fun _ ih => bT_clearRules_2 v0 ih) n
noncomputable def fT_clearRules (g : gH) (v0 : Int) : Option (Int × gH) :=
  lT_clearRules_2 v0 fu 0 g
noncomputable def jT_reset_68 (g : gH) (v0 : Int) : Option (Int × gH) :=
  bdN (fT_clearRules g v0) (fun y25 g27 => if kd (g27 v0 3) = 20 ∧ (0 : Int) ≤ 0 ∧ 0 < sz (g27 v0 3) then bnd (pU g27 (g27 v0 3) 0 0) (fun g31 => if kd (g31 v0 3) = 20 ∧ (0 : Int) ≤ 1 ∧ 1 < sz (g31 v0 3) then bnd (pU g31 (g31 v0 3) 1 1) (fun g35 => if kd (g35 v0 3) = 20 ∧ (0 : Int) ≤ 2 ∧ 2 < sz (g35 v0 3) then bnd (pU g35 (g35 v0 3) 2 2) (fun g39 => bnd (pU g39 v0 4 20) (fun g41 => bnd (pU g41 v0 5 1) (fun g43 => bnd (pU g43 v0 6 0) (fun g45 => bnd (pU g45 v0 7 0) (fun g47 => bnd (pU g47 v0 8 0) (fun g49 => bnd (pU g49 v0 9 0) (fun g51 => some (0, g51)))))))) else none) else none) else none)
noncomputable def bT_reset_49 (v0 : Int) (X49 : Int → gH → Option (Int × gH)) (v1 : Int) (g : gH) : Option (Int × gH) :=
  if v1 < 8 then (if kd (g v0 2) = 20 ∧ (0 : Int) ≤ v1 ∧ v1 < sz (g v0 2) then bnd (pU g (g v0 2) v1 0) (fun g23 => X49 (w32 (v1 + 1)) g23) else none) else (jT_reset_68 g v0)
noncomputable def lT_reset_49 (v0 : Int) (n : Nat) : Int → gH → Option (Int × gH) := Nat.rec (motive := fun _ => Int → gH → Option (Int × gH)) (fun _ _ => none) (fun _ ih => bT_reset_49 v0 ih) n
noncomputable def jT_reset_35 (g : gH) (v0 : Int) : Option (Int × gH) :=
  if kd (g v0 0) = 3 then bdN (fP_become g (g v0 0) 0 9 0 0) (fun y15 g17 => lT_reset_49 v0 fu 0 g17) else none
noncomputable def bT_reset_10 (v0 : Int) (v1 : Int) (v2 : Int) (X10 : Int → gH → Option (Int × gH)) (v3 : Int) (g : gH) : Option (Int × gH) :=
  if v3 < v2 then (if kd v1 = 24 ∧ (0 : Int) ≤ v3 ∧ v3 < sz v1 then if kd (g v1 v3) = 3 then bdN (fP_become g (g v1 v3) 3 0 0 0) (fun y9 g11 => X10 (w32 (v3 + 1)) g11) else none else none) else (jT_reset_35 g v0)
noncomputable def lT_reset_10 (v0 : Int) (v1 : Int) (v2 : Int) (n : Nat) : Int → gH → Option (Int × gH) := Nat.rec (motive := fun _ => Int → gH → Option (Int × gH)) (fun _ _ => none) (fun _ ih => bT_reset_10 v0 v1 v2 ih) n
noncomputable def fT_reset (g : gH) (v0 : Int) : Option (Int × gH) :=
  if kd (g v0 1) = 24 then lT_reset_10 v0 (g v0 1) (sz (g v0 1)) fu 0 g else none
noncomputable def fS_begin (g : gH) (v0 : Int) : Option (Int × gH) :=
  if kd (g v0 1) = 5 then bdN (fT_reset g (g v0 1)) (fun y3 g5 => bnd (pU g5 v0 2 0) (fun g7 => bnd (pU g7 v0 3 (-1)) (fun g9 => bnd (pU g9 v0 8 0) (fun g11 => bnd (pU g11 v0 9 0) (fun g13 => bnd (pU g13 v0 10 0) (fun g15 => bnd (pU g15 v0 6 0) (fun g17 => some (0, g17)))))))) else none
noncomputable def fI_at (g : gH) (v0 : Int) (v1 : Int) : Option Int :=
  if v1 < 0 then (some 0) else (if v1 < (g v0 1) then (if v1 < 500 then (if kd (g v0 0) = 21 ∧ (0 : Int) ≤ v1 ∧ v1 < sz (g v0 0) then some (g (g v0 0) v1) else none) else (some 0)) else (some 0))
noncomputable def bS_isWord_24 (g : gH) (v0 : Int) (v1 : Int) (X24 : Int → Int → Option Int) (v2 : Int) (v3 : Int) : Option Int :=
  if v2 = 0 then (some v2) else (if (2000000 : Int) ≤ v1 ∧ v1 < 2000026 then if v3 < (gtl v1) then (if kd (g v0 0) = 1 then bdP (fI_at g (g v0 0) (w32 ((g v0 5) + v3))) (fun y14 => if ((2000000 : Int) ≤ v1 ∧ v1 < 2000026) ∧ (0 : Int) ≤ v3 ∧ v3 < gtl v1 then if y14 = (gch v1 v3) then (X24 1 (w32 (v3 + 1))) else (X24 0 (w32 (v3 + 1))) else none) else none) else (some v2) else none)
noncomputable def lS_isWord_24 (g : gH) (v0 : Int) (v1 : Int) (n : Nat) : Int → Int → Option Int := Nat.rec (motive := fun _ => Int → Int → Option Int) (fun _ _ => none) (fun _ ih => bS_isWord_24 g v0 v1 ih) n
noncomputable def fS_isWord (g : gH) (v0 : Int) (v1 : Int) : Option Int :=
  if (2000000 : Int) ≤ v1 ∧ v1 < 2000026 then if (w32 ((g v0 6) - (g v0 5))) = (gtl v1) then (lS_isWord_24 g v0 v1 fu 1 0) else (lS_isWord_24 g v0 v1 fu 0 0) else none
noncomputable def fS_ruleOfWord (g : gH) (v0 : Int) : Option Int :=
  bdP (fS_isWord g v0 2000008) (fun y1 => if y1 = 0 then (bdP (fS_isWord g v0 2000009) (fun y7 => if y7 = 0 then (bdP (fS_isWord g v0 2000010) (fun y13 => if y13 = 0 then (bdP (fS_isWord g v0 2000011) (fun y19 => if y19 = 0 then (bdP (fS_isWord g v0 2000012) (fun y25 => if y25 = 0 then (some (-1)) else (some 4))) else (some 3))) else (some 2))) else (some 1))) else (some 0))
noncomputable def fS_fail (g : gH) (v0 : Int) (v1 : Int) : Option (Int × gH) :=
  bnd (pU g v0 2 v1) (fun g1 => bnd (pU g1 v0 3 (g1 v0 5)) (fun g4 => some (0, g4)))
noncomputable def fS_isBlank (g : gH) (v0 : Int) : Option Int :=
  if v0 = 32 then (some 1) else (if v0 = 10 then (some 1) else (some 0))
noncomputable def jS_kindOf_28 (g : gH) (v0 : Int) : Option Int :=
  if v0 = 59 then (some 3) else (some 4)
noncomputable def jS_kindOf_14 (g : gH) (v0 : Int) : Option Int :=
  if v0 < 48 then (jS_kindOf_28 g v0) else (if 57 < v0 then (jS_kindOf_28 g v0) else (some 2))
noncomputable def fS_kindOf (g : gH) (v0 : Int) : Option Int :=
  if v0 < 97 then (jS_kindOf_14 g v0) else (if 122 < v0 then (jS_kindOf_14 g v0) else (some 1))
noncomputable def jS_advance_215 (g : gH) (v0 : Int) : Option (Int × gH) :=
  if (g v0 4) = 2 then (if 2 < (w32 ((g v0 6) - (g v0 5))) then (bnd (pU g v0 4 4) (fun g112 => some (0, g112))) else (some (0, g))) else (some (0, g))
noncomputable def jS_advance_141 (X125 : gH → Option (Int × gH)) (g : gH) (v0 : Int) : Option (Int × gH) :=
  if kd (g v0 0) = 1 then if (g v0 6) < (g (g v0 0) 1) then (bdP (fI_at g (g v0 0) (g v0 6)) (fun y82 => bdP (fS_kindOf g y82) (fun y86 => if y86 = (g v0 4) then (bdP (fI_at g (g v0 0) (g v0 6)) (fun y96 => bnd (pU g v0 7 (w32 ((w32 ((opI 0 10 (g v0 7)) + y96)) - 48))) (fun g100 => bnd (pU g100 v0 6 (w32 ((g100 v0 6) + 1))) (fun g103 => X125 g103)))) else (jS_advance_215 g v0)))) else (jS_advance_215 g v0) else none
noncomputable def bS_advance_125 (v0 : Int) (X125 : gH → Option (Int × gH)) (g : gH) : Option (Int × gH) :=
  if (g v0 4) = 1 then (jS_advance_141 X125 g v0) else (if (g v0 4) = 2 then (jS_advance_141 X125 g v0) else (jS_advance_215 g v0))
noncomputable def lS_advance_125 (v0 : Int) (n : Nat) : gH → Option (Int × gH) := Nat.rec (motive := fun _ => gH → Option (Int × gH)) (fun _ => none) (fun _ ih => bS_advance_125 v0 ih) n
noncomputable def jS_advance_52 (g : gH) (v0 : Int) : Option (Int × gH) :=
  bnd (pU g v0 6 (g v0 5)) (fun g26 => bnd (pU g26 v0 4 0) (fun g28 => if kd (g28 v0 0) = 1 then if (g28 v0 5) < (g28 (g28 v0 0) 1) then (bdP (fI_at g28 (g28 v0 0) (g28 v0 5)) (fun y38 => bdP (fS_kindOf g28 y38) (fun y42 => bnd (pU g28 v0 4 y42) (fun g46 => bnd (pU g46 v0 6 (w32 ((g46 v0 6) + 1))) (fun g49 => if kd (g49 v0 0) = 1 then bdP (fI_at g49 (g49 v0 0) (g49 v0 5)) (fun y54 => bnd (pU g49 v0 7 (w32 (y54 - 48))) (fun g58 => lS_advance_125 v0 fu g58)) else none))))) else (bdP (fI_at g28 (g28 v0 0) (g28 v0 5)) (fun y62 => bnd (pU g28 v0 7 (w32 (y62 - 48))) (fun g66 => lS_advance_125 v0 fu g66))) else none))
noncomputable def bS_advance_8 (v0 : Int) (X8 : gH → Option (Int × gH)) (g : gH) : Option (Int × gH) :=
  if kd (g v0 0) = 1 then if (g v0 5) < (g (g v0 0) 1) then (bdP (fI_at g (g v0 0) (g v0 5)) (fun y12 => bdP (fS_isBlank g y12) (fun y16 => if y16 = 0 then (jS_advance_52 g v0) else (bnd (pU g v0 5 (w32 ((g v0 5) + 1))) (fun g23 => X8 g23))))) else (jS_advance_52 g v0) else none
noncomputable def lS_advance_8 (v0 : Int) (n : Nat) : gH → Option (Int × gH) := Nat.rec (motive := fun _ => gH → Option (Int × gH)) (fun _ => none) (fun _ ih => bS_advance_8 v0 ih) n
noncomputable def fS_advance (g : gH) (v0 : Int) : Option (Int × gH) :=
  bnd (pU g v0 5 (g v0 6)) (fun g2 => lS_advance_8 v0 fu g2)
noncomputable def bT_hasRule_11 (g : gH) (v1 : Int) (v2 : Int) (v3 : Int) (X11 : Int → Option Int) (v4 : Int) : Option Int :=
  if v4 < v3 then (if kd v2 = 20 ∧ (0 : Int) ≤ v4 ∧ v4 < sz v2 then if (g v2 v4) = v1 then (some 1) else (X11 (w32 (v4 + 1))) else none) else (some 0)
noncomputable def lT_hasRule_11 (g : gH) (v1 : Int) (v2 : Int) (v3 : Int) (n : Nat) : Int → Option Int := Nat.rec (motive := fun _ => Int → Option Int) (fun _ => none) (fun _ ih => bT_hasRule_11 g v1 v2 v3 ih) n
noncomputable def fT_hasRule (g : gH) (v0 : Int) (v1 : Int) : Option Int :=
  if kd (g v0 3) = 20 then lT_hasRule_11 g v1 (g v0 3) (sz (g v0 3)) fu 0 else none
noncomputable def jS_takeOrder_119 (g : gH) (s0 : Int) (s1 : Int) : Option (Int × gH) :=
  if kd s0 = 4 then bdN (fS_fail g s0 s1) (fun y66 g68 => if y66 = 0 then (some (0, g68)) else (some (1, g68))) else none
noncomputable def jS_takeOrder_97 (g : gH) (v0 : Int) : Option (Int × gH) :=
  if (g v0 4) = 3 then (some (1, g)) else (bdP (fS_ruleOfWord g v0) (fun y59 => if y59 = (-1) then (jS_takeOrder_119 g v0 1) else (jS_takeOrder_119 g v0 3)))
noncomputable def bS_takeOrder_31 (v0 : Int) (X31 : Int → gH → Option (Int × gH)) (v1 : Int) (g : gH) : Option (Int × gH) :=
  if v1 < 5 then (if (g v0 4) = 1 then (bdP (fS_ruleOfWord g v0) (fun y25 => if y25 = (-1) then (bdN (fS_fail g v0 1) (fun y31 g33 => some (y31, g33))) else (if kd (g v0 1) = 5 then bdP (fT_hasRule g (g v0 1) y25) (fun y37 => if y37 = 0 then (if kd (g (g v0 1) 3) = 20 ∧ (0 : Int) ≤ v1 ∧ v1 < sz (g (g v0 1) 3) then bnd (pU g (g (g v0 1) 3) v1 y25) (fun g46 => bdN (fS_advance g46 v0) (fun y48 g50 => X31 (w32 (v1 + 1)) g50)) else none) else (bdN (fS_fail g v0 3) (fun y52 g54 => some (y52, g54)))) else none))) else (jS_takeOrder_97 g v0)) else (jS_takeOrder_97 g v0)
noncomputable def lS_takeOrder_31 (v0 : Int) (n : Nat) : Int → gH → Option (Int × gH) := Nat.rec (motive := fun _ => Int → gH → Option (Int × gH)) (fun _ _ => none) (fun _ ih => bS_takeOrder_31 v0 ih) n
noncomputable def fS_takeOrder (g : gH) (v0 : Int) : Option (Int × gH) :=
  if (g v0 8) = 0 then (bnd (pU g v0 8 1) (fun g4 => if kd (g4 v0 1) = 5 then bdN (fT_clearRules g4 (g4 v0 1)) (fun y8 g10 => bdN (fS_advance g10 v0) (fun y12 g14 => lS_takeOrder_31 v0 fu 0 g14)) else none)) else (bdN (fS_fail g v0 3) (fun y16 g18 => some (y16, g18)))
noncomputable def jS_takeNumber_34 (g : gH) (v0 : Int) : Option (Int × gH) :=
  bdN (fS_fail g v0 2) (fun y18 g20 => if y18 = 0 then (some (0, g20)) else (some (1, g20)))
noncomputable def fS_takeNumber (g : gH) (v0 : Int) (v1 : Int) (v2 : Int) : Option (Int × gH) :=
  bdN (fS_advance g v0) (fun y1 g3 => if (g3 v0 4) = 2 then (if (g3 v0 7) < v1 then (jS_takeNumber_34 g3 v0) else (if v2 < (g3 v0 7) then (jS_takeNumber_34 g3 v0) else (some (1, g3)))) else (bdN (fS_fail g3 v0 1) (fun y14 g16 => some (y14, g16))))
noncomputable def fS_takeSemicolon (g : gH) (v0 : Int) : Option (Int × gH) :=
  bdN (fS_advance g v0) (fun y1 g3 => if (g3 v0 4) = 3 then (some (1, g3)) else (bdN (fS_fail g3 v0 1) (fun y8 g10 => if y8 = 0 then (some (0, g10)) else (some (1, g10)))))
noncomputable def fS_takeDeep (g : gH) (v0 : Int) : Option (Int × gH) :=
  if (g v0 9) = 0 then (bnd (pU g v0 9 1) (fun g4 => bdN (fS_takeNumber g4 v0 1 20) (fun y6 g8 => if y6 = 0 then (some (0, g8)) else (if kd (g8 v0 1) = 5 then bnd (pU g8 (g8 v0 1) 4 (g8 v0 7)) (fun g15 => bdN (fS_takeSemicolon g15 v0) (fun y17 g19 => some (y17, g19))) else none)))) else (bdN (fS_fail g v0 3) (fun y21 g23 => some (y21, g23)))
noncomputable def fS_takeRoot (g : gH) (v0 : Int) : Option (Int × gH) :=
  if (g v0 10) = 0 then (bnd (pU g v0 10 1) (fun g4 => bdN (fS_takeNumber g4 v0 0 9) (fun y6 g8 => if y6 = 0 then (some (0, g8)) else (if kd (g8 v0 1) = 5 then if kd (g8 (g8 v0 1) 0) = 3 then bnd (pU g8 (g8 (g8 v0 1) 0) 4 (g8 v0 7)) (fun g17 => bdN (fS_takeNumber g17 v0 0 9) (fun y19 g21 => if y19 = 0 then (some (0, g21)) else (if kd (g21 v0 1) = 5 then if kd (g21 (g21 v0 1) 0) = 3 then bnd (pU g21 (g21 (g21 v0 1) 0) 6 (g21 v0 7)) (fun g30 => bdN (fS_takeSemicolon g30 v0) (fun y32 g34 => some (y32, g34))) else none else none))) else none else none)))) else (bdN (fS_fail g v0 3) (fun y36 g38 => some (y36, g38)))
noncomputable def fP_room (g : gH) (v0 : Int) : Option Int :=
  if (g v0 1) = 0 then (if (g v0 3) < (g v0 4) then (some (w32 ((g v0 4) - (g v0 3)))) else (some 0)) else (some 0)
noncomputable def fT_at (g : gH) (v0 : Int) (v1 : Int) : Option Int :=
  if v1 < 0 then (some (-1)) else (if v1 < (g v0 5) then (if v1 < 40 then (if kd (g v0 1) = 24 ∧ (0 : Int) ≤ v1 ∧ v1 < sz (g v0 1) then some (g (g v0 1) v1) else none) else (some (-1))) else (some (-1)))
noncomputable def fS_takeNamed (g : gH) (v0 : Int) (v1 : Int) : Option (Int × gH) :=
  if kd (g v0 1) = 5 then bdN (fS_takeNumber g v0 v1 (w32 ((g (g v0 1) 5) - 1))) (fun y4 g6 => if y4 = 0 then (some ((-1), g6)) else (if kd (g6 v0 1) = 5 then bdP (fT_at g6 (g6 v0 1) (g6 v0 7)) (fun y13 => some (y13, g6)) else none)) else none
noncomputable def fP_putUnder (g : gH) (v0 : Int) (v1 : Int) : Option (Int × gH) :=
  if (g v0 2) < 0 then (bnd (pU g v0 2 v1) (fun g4 => if kd v1 = 3 then bnd (pU g4 v1 3 (w32 ((g4 v1 3) + 1))) (fun g8 => some (0, g8)) else none)) else (if kd (g v0 2) = 3 then bnd (pU g (g v0 2) 3 (w32 ((g (g v0 2) 3) - 1))) (fun g13 => bnd (pU g13 v0 2 v1) (fun g15 => if kd v1 = 3 then bnd (pU g15 v1 3 (w32 ((g15 v1 3) + 1))) (fun g19 => some (0, g19)) else none)) else none)
noncomputable def fT_arrive (g : gH) (v0 : Int) (v1 : Int) (v2 : Int) (v3 : Int) (v4 : Int) : Option (Int × gH) :=
  if (g v0 5) < 0 then (some ((-1), g)) else (if (g v0 5) < 40 then (if kd (g v0 1) = 24 ∧ (0 : Int) ≤ (g v0 5) ∧ (g v0 5) < sz (g v0 1) then bnd (pU g v0 5 (w32 ((g v0 5) + 1))) (fun g12 => if kd (g (g v0 1) (g v0 5)) = 3 then bdN (fP_become g12 (g (g v0 1) (g v0 5)) 0 v2 v3 v4) (fun y15 g17 => bdN (fP_putUnder g17 (g (g v0 1) (g v0 5)) v1) (fun y19 g21 => some ((g (g v0 1) (g v0 5)), g21))) else none) else none) else (some ((-1), g)))
noncomputable def fS_takeProcess (g : gH) (v0 : Int) : Option (Int × gH) :=
  if kd (g v0 1) = 5 then if 24 < (g (g v0 1) 5) then (bdN (fS_fail g v0 4) (fun y6 g8 => some (y6, g8))) else (bdN (fS_takeNamed g v0 0) (fun y10 g12 => if y10 < 0 then (some (0, g12)) else (if kd y10 = 3 then bdP (fP_room g12 y10) (fun y17 => if y17 = 0 then (bdN (fS_fail g12 v0 2) (fun y23 g25 => some (y23, g25))) else (bdN (fS_takeNumber g12 v0 0 9) (fun y27 g29 => if y27 = 0 then (some (0, g29)) else (bdN (fS_takeNumber g29 v0 0 9) (fun y34 g36 => if y34 = 0 then (some (0, g36)) else (bdN (fS_takeNumber g36 v0 0 9) (fun y41 g43 => if y41 = 0 then (some (0, g43)) else (if kd (g43 v0 1) = 5 then bdN (fT_arrive g43 (g43 v0 1) y10 (g29 v0 7) (g36 v0 7) (g43 v0 7)) (fun y50 g52 => bdN (fS_takeSemicolon g52 v0) (fun y54 g56 => some (y54, g56))) else none)))))))) else none))) else none
noncomputable def fS_takeHeir (g : gH) (v0 : Int) : Option (Int × gH) :=
  bdN (fS_takeNamed g v0 1) (fun y1 g3 => if y1 < 0 then (some (0, g3)) else (if kd y1 = 3 then if (g3 y1 7) = (-1) then (bdN (fS_takeNamed g3 v0 0) (fun y11 g13 => if y11 < 0 then (some (0, g13)) else (if y11 = y1 then (bdN (fS_fail g13 v0 2) (fun y19 g21 => some (y19, g21))) else (if kd y11 = 3 then bnd (pU g13 y1 7 (g13 y11 0)) (fun g25 => bdN (fS_takeSemicolon g25 v0) (fun y27 g29 => some (y27, g29))) else none)))) else (bdN (fS_fail g3 v0 3) (fun y31 g33 => some (y31, g33))) else none))
noncomputable def fT_giveDuty (g : gH) (v0 : Int) (v1 : Int) (v2 : Int) : Option (Int × gH) :=
  if v1 < 0 then (some (0, g)) else (if v1 < 8 then (if kd v2 = 3 then if kd (g v0 2) = 20 ∧ (0 : Int) ≤ v1 ∧ v1 < sz (g v0 2) then bnd (pU g (g v0 2) v1 (g v2 0)) (fun g9 => some (0, g9)) else none else none) else (some (0, g)))
noncomputable def fS_takeDuty (g : gH) (v0 : Int) : Option (Int × gH) :=
  bdN (fS_takeNumber g v0 0 7) (fun y1 g3 => if y1 = 0 then (some (0, g3)) else (bdN (fS_takeNamed g3 v0 0) (fun y8 g10 => if y8 < 0 then (some (0, g10)) else (if kd (g10 v0 1) = 5 then bdN (fT_giveDuty g10 (g10 v0 1) (g3 v0 7) y8) (fun y16 g18 => bdN (fS_takeSemicolon g18 v0) (fun y20 g22 => some (y20, g22))) else none))))
noncomputable def fP_refuses (g : gH) (v0 : Int) (v1 : Int) : Option Int :=
  if (opI 1 (opI 5 (g v0 8) v1) 1) = 0 then (some 0) else (some 1)
noncomputable def fS_takeRefusal (g : gH) (v0 : Int) : Option (Int × gH) :=
  bdN (fS_takeNamed g v0 1) (fun y1 g3 => if y1 < 0 then (some (0, g3)) else (bdN (fS_takeNumber g3 v0 0 9) (fun y7 g9 => if y7 = 0 then (some (0, g9)) else (if kd y1 = 3 then bdP (fP_refuses g9 y1 (g9 v0 7)) (fun y15 => if y15 = 0 then (bnd (pU g9 y1 8 (opI 2 (g9 y1 8) (opI 4 1 (g9 v0 7)))) (fun g23 => bdN (fS_takeSemicolon g23 v0) (fun y25 g27 => some (y25, g27)))) else (bdN (fS_fail g9 v0 3) (fun y29 g31 => some (y29, g31)))) else none))))
noncomputable def fP_willFor (g : gH) (v0 : Int) (v1 : Int) : Option Int :=
  some (w32 ((gl2i (opL 0 (opS 0 (g v0 14) (opI 0 8 v1)) 255)) - 1))
noncomputable def fP_addWill (g : gH) (v0 : Int) (v1 : Int) (v2 : Int) : Option (Int × gH) :=
  bnd (pU g v0 14 (opL 1 (g v0 14) (opS 1 (w32 (v2 + 1)) (opI 0 8 v1)))) (fun g2 => some (0, g2))
noncomputable def fS_takeWill (g : gH) (v0 : Int) : Option (Int × gH) :=
  bdN (fS_takeNamed g v0 1) (fun y1 g3 => if y1 < 0 then (some (0, g3)) else (bdN (fS_takeNumber g3 v0 0 7) (fun y7 g9 => if y7 = 0 then (some (0, g9)) else (if kd y1 = 3 then bdP (fP_willFor g9 y1 (g9 v0 7)) (fun y15 => if y15 = (-1) then (bdN (fS_takeNamed g9 v0 0) (fun y21 g23 => if y21 < 0 then (some (0, g23)) else (if y21 = y1 then (bdN (fS_fail g23 v0 2) (fun y29 g31 => some (y29, g31))) else (if kd y21 = 3 then bdN (fP_addWill g23 y1 (g9 v0 7) (g23 y21 0)) (fun y35 g37 => bdN (fS_takeSemicolon g37 v0) (fun y39 g41 => some (y39, g41))) else none)))) else (bdN (fS_fail g9 v0 3) (fun y43 g45 => some (y43, g45)))) else none))))
noncomputable def fS_takeStatement (g : gH) (v0 : Int) : Option (Int × gH) :=
  bdN (fS_advance g v0) (fun y1 g3 => if (g3 v0 4) = 0 then (some (0, g3)) else (bdP (fS_isWord g3 v0 2000000) (fun y8 => if y8 = 0 then (bdP (fS_isWord g3 v0 2000001) (fun y14 => if y14 = 0 then (bdP (fS_isWord g3 v0 2000002) (fun y20 => if y20 = 0 then (bdP (fS_isWord g3 v0 2000003) (fun y26 => if y26 = 0 then (bdP (fS_isWord g3 v0 2000004) (fun y32 => if y32 = 0 then (bdP (fS_isWord g3 v0 2000005) (fun y38 => if y38 = 0 then (bdP (fS_isWord g3 v0 2000006) (fun y44 => if y44 = 0 then (bdP (fS_isWord g3 v0 2000007) (fun y50 => if y50 = 0 then (bdN (fS_fail g3 v0 1) (fun y56 g58 => some (y56, g58))) else (bdN (fS_takeWill g3 v0) (fun y60 g62 => some (y60, g62))))) else (bdN (fS_takeRefusal g3 v0) (fun y64 g66 => some (y64, g66))))) else (bdN (fS_takeDuty g3 v0) (fun y68 g70 => some (y68, g70))))) else (bdN (fS_takeHeir g3 v0) (fun y72 g74 => some (y72, g74))))) else (bdN (fS_takeProcess g3 v0) (fun y76 g78 => some (y76, g78))))) else (bdN (fS_takeRoot g3 v0) (fun y80 g82 => some (y80, g82))))) else (bdN (fS_takeDeep g3 v0) (fun y84 g86 => some (y84, g86))))) else (bdN (fS_takeOrder g3 v0) (fun y88 g90 => some (y88, g90))))))
noncomputable def fP_take (g : gH) (v0 : Int) (v1 : Int) : Option (Int × gH) :=
  if kd v1 = 3 then bnd (pU g v0 1 (g v1 1)) (fun g3 => bnd (pU g3 v0 3 (g3 v1 3)) (fun g6 => bnd (pU g6 v0 4 (g6 v1 4)) (fun g9 => bnd (pU g9 v0 5 (g9 v1 5)) (fun g12 => bnd (pU g12 v0 6 (g12 v1 6)) (fun g15 => bnd (pU g15 v0 7 (g15 v1 7)) (fun g18 => bnd (pU g18 v0 8 (g18 v1 8)) (fun g21 => bnd (pU g21 v0 9 (g21 v1 9)) (fun g24 => bnd (pU g24 v0 10 (g24 v1 10)) (fun g27 => bnd (pU g27 v0 11 (g27 v1 11)) (fun g30 => bnd (pU g30 v0 12 (g30 v1 12)) (fun g33 => bnd (pU g33 v0 13 (g33 v1 13)) (fun g36 => bnd (pU g36 v0 14 (g36 v1 14)) (fun g39 => some (0, g39)))))))))))))) else none
noncomputable def jT_take_70 (g : gH) (v0 : Int) (v1 : Int) : Option (Int × gH) :=
  if kd v1 = 5 then if (kd (g v1 2) = 20 ∧ kd (g v0 2) = 20) ∧ (0 : Int) ≤ 8 ∧ 8 ≤ sz (g v1 2) ∧ 8 ≤ sz (g v0 2) then bnd (cpyG g (g v1 2) (g v0 2) 8) (fun g43 => if (kd (g43 v1 3) = 20 ∧ kd (g43 v0 3) = 20) ∧ (0 : Int) ≤ 5 ∧ 5 ≤ sz (g43 v1 3) ∧ 5 ≤ sz (g43 v0 3) then bnd (cpyG g43 (g43 v1 3) (g43 v0 3) 5) (fun g48 => bnd (pU g48 v0 4 (g48 v1 4)) (fun g51 => bnd (pU g51 v0 6 (g51 v1 6)) (fun g54 => bnd (pU g54 v0 7 (g54 v1 7)) (fun g57 => bnd (pU g57 v0 8 (g57 v1 8)) (fun g60 => bnd (pU g60 v0 9 (g60 v1 9)) (fun g63 => some (0, g63))))))) else none) else none else none
noncomputable def bT_take_10 (v0 : Int) (v1 : Int) (X10 : Int → gH → Option (Int × gH)) (v2 : Int) (g : gH) : Option (Int × gH) :=
  if v2 < 40 then (if kd v1 = 5 then if kd (g v1 1) = 24 ∧ (0 : Int) ≤ v2 ∧ v2 < sz (g v1 1) then if kd (g v0 1) = 24 ∧ (0 : Int) ≤ v2 ∧ v2 < sz (g v0 1) then if kd (g (g v0 1) v2) = 3 then bdN (fP_take g (g (g v0 1) v2) (g (g v1 1) v2)) (fun y15 g17 => if kd (g17 v0 1) = 24 ∧ (0 : Int) ≤ v2 ∧ v2 < sz (g17 v0 1) then if kd (g (g v1 1) v2) = 3 then if (g17 (g (g v1 1) v2) 2) < 0 then (if kd (g17 (g17 v0 1) v2) = 3 then bnd (pU g17 (g17 (g17 v0 1) v2) 2 (-1)) (fun g27 => X10 (w32 (v2 + 1)) g27) else none) else (if kd (g17 (g (g v1 1) v2) 2) = 3 then bdP (fT_at g17 v0 (g17 (g17 (g (g v1 1) v2) 2) 0)) (fun y32 => if kd (g17 (g17 v0 1) v2) = 3 then bnd (pU g17 (g17 (g17 v0 1) v2) 2 y32) (fun g37 => X10 (w32 (v2 + 1)) g37) else none) else none) else none else none) else none else none else none else none) else (jT_take_70 g v0 v1)
noncomputable def lT_take_10 (v0 : Int) (v1 : Int) (n : Nat) : Int → gH → Option (Int × gH) := Nat.rec (motive := fun _ => Int → gH → Option (Int × gH)) (fun _ _ => none) (fun _ ih => bT_take_10 v0 v1 ih) n
noncomputable def fT_take (g : gH) (v0 : Int) (v1 : Int) : Option (Int × gH) :=
  if kd v1 = 5 then bnd (pU g v0 5 (g v1 5)) (fun g3 => lT_take_10 v0 v1 fu 0 g3) else none
noncomputable def jC_loadTree_36 (g : gH) (v0 : Int) : Option (Int × gH) :=
  if kd (g v0 4) = 4 then if kd (g (g v0 4) 0) = 1 then bnd (pU g (g (g v0 4) 0) 1 0) (fun g21 => if kd (g21 v0 4) = 4 then if (g21 (g21 v0 4) 2) = 0 then (if kd (g21 v0 0) = 5 then bdN (fT_take g21 (g21 v0 0) (g21 (g21 v0 4) 1)) (fun y32 g34 => if kd (g34 v0 3) = 0 then bnd (pU g34 (g34 v0 3) 1 0) (fun g38 => bnd (pU g38 v0 6 0) (fun g40 => if kd (g40 v0 5) = 2 then bnd (pU g40 (g40 v0 5) 1 0) (fun g44 => if kd (g44 v0 0) = 5 then some ((g44 (g44 v0 0) 5), g44) else none) else none)) else none) else none) else (some ((-1), g21)) else none) else none else none
noncomputable def bC_loadTree_11 (v0 : Int) (X11 : Int → Int → gH → Option (Int × gH)) (v1 : Int) (v2 : Int) (g : gH) : Option (Int × gH) :=
  if v2 < 500 then (if v1 = 0 then (jC_loadTree_36 g v0) else (if kd (g v0 4) = 4 then bdN (fS_takeStatement g (g v0 4)) (fun y13 g15 => X11 y13 (w32 (v2 + 1)) g15) else none)) else (jC_loadTree_36 g v0)
noncomputable def lC_loadTree_11 (v0 : Int) (n : Nat) : Int → Int → gH → Option (Int × gH) := Nat.rec (motive := fun _ => Int → Int → gH → Option (Int × gH)) (fun _ _ _ => none) (fun _ ih => bC_loadTree_11 v0 ih) n
noncomputable def fC_loadTree (g : gH) (v0 : Int) : Option (Int × gH) :=
  if kd (g v0 4) = 4 then bdN (fS_begin g (g v0 4)) (fun y3 g5 => lC_loadTree_11 v0 fu 1 0 g5) else none
noncomputable def fC_errorCode (g : gH) (v0 : Int) : Option Int :=
  if kd (g v0 4) = 4 then some (g (g v0 4) 2) else none
noncomputable def fC_errorOffset (g : gH) (v0 : Int) : Option Int :=
  if kd (g v0 4) = 4 then some (g (g v0 4) 3) else none
noncomputable def fC_rule (g : gH) (v0 : Int) (v1 : Int) : Option Int :=
  if v1 < 0 then (some (-1)) else (if v1 < 5 then (if kd (g v0 0) = 5 then if kd (g (g v0 0) 3) = 20 ∧ (0 : Int) ≤ v1 ∧ v1 < sz (g (g v0 0) 3) then some (g (g (g v0 0) 3) v1) else none else none) else (some (-1)))
noncomputable def fP_isRunning (g : gH) (v0 : Int) : Option Int :=
  if (g v0 1) = 0 then (some 1) else (some 0)
noncomputable def bP_countAbove_7 (g : gH) (X7 : Int → Int → Option Int) (v1 : Int) (v2 : Int) : Option Int :=
  if v2 < 0 then (some v1) else (if kd v2 = 3 then X7 (w32 (v1 + 1)) (g v2 2) else none)
noncomputable def lP_countAbove_7 (g : gH) (n : Nat) : Int → Int → Option Int := Nat.rec (motive := fun _ => Int → Int → Option Int) (fun _ _ => none) (fun _ ih => bP_countAbove_7 g ih) n
noncomputable def fP_countAbove (g : gH) (v0 : Int) : Option Int :=
  lP_countAbove_7 g fu 0 (g v0 2)
noncomputable def bC_atDepth_17 (g : gH) (v1 : Int) (v3 : Int) (v4 : Int) (X17 : Int → Int → Option Int) (v2 : Int) (v5 : Int) : Option Int :=
  if v5 < v4 then (if kd v3 = 24 ∧ (0 : Int) ≤ v5 ∧ v5 < sz v3 then if kd (g v3 v5) = 3 then bdP (fP_isRunning g (g v3 v5)) (fun y11 => if y11 = 0 then (X17 v2 (w32 (v5 + 1))) else (bdP (fP_countAbove g (g v3 v5)) (fun y17 => if y17 = v1 then (X17 (w32 (v2 + 1)) (w32 (v5 + 1))) else (X17 v2 (w32 (v5 + 1)))))) else none else none) else (some v2)
noncomputable def lC_atDepth_17 (g : gH) (v1 : Int) (v3 : Int) (v4 : Int) (n : Nat) : Int → Int → Option Int := Nat.rec (motive := fun _ => Int → Int → Option Int) (fun _ _ => none) (fun _ ih => bC_atDepth_17 g v1 v3 v4 ih) n
noncomputable def fC_atDepth (g : gH) (v0 : Int) (v1 : Int) : Option Int :=
  if kd (g v0 0) = 5 then if kd (g (g v0 0) 1) = 24 then lC_atDepth_17 g v1 (g (g v0 0) 1) (sz (g (g v0 0) 1)) fu 0 0 else none else none
noncomputable def bT_greatestDepth_13 (g : gH) (v2 : Int) (v3 : Int) (X13 : Int → Int → Option Int) (v1 : Int) (v4 : Int) : Option Int :=
  if v4 < v3 then (if kd v2 = 24 ∧ (0 : Int) ≤ v4 ∧ v4 < sz v2 then if kd (g v2 v4) = 3 then bdP (fP_isRunning g (g v2 v4)) (fun y9 => if y9 = 0 then (X13 v1 (w32 (v4 + 1))) else (bdP (fP_countAbove g (g v2 v4)) (fun y15 => if v1 < y15 then (bdP (fP_countAbove g (g v2 v4)) (fun y21 => X13 y21 (w32 (v4 + 1)))) else (X13 v1 (w32 (v4 + 1)))))) else none else none) else (some v1)
noncomputable def lT_greatestDepth_13 (g : gH) (v2 : Int) (v3 : Int) (n : Nat) : Int → Int → Option Int := Nat.rec (motive := fun _ => Int → Int → Option Int) (fun _ _ => none) (fun _ ih => bT_greatestDepth_13 g v2 v3 ih) n
noncomputable def fT_greatestDepth (g : gH) (v0 : Int) : Option Int :=
  if kd (g v0 1) = 24 then lT_greatestDepth_13 g (g v0 1) (sz (g v0 1)) fu 0 0 else none
noncomputable def fC_height (g : gH) (v0 : Int) : Option Int :=
  if kd (g v0 0) = 5 then bdP (fT_greatestDepth g (g v0 0)) (fun y3 => some y3) else none
noncomputable def bC_allRoom_16 (g : gH) (v2 : Int) (v3 : Int) (X16 : Int → Int → Option Int) (v1 : Int) (v4 : Int) : Option Int :=
  if v4 < v3 then (if kd v2 = 24 ∧ (0 : Int) ≤ v4 ∧ v4 < sz v2 then if kd (g v2 v4) = 3 then bdP (fP_room g (g v2 v4)) (fun y11 => X16 (w32 (v1 + y11)) (w32 (v4 + 1))) else none else none) else (some v1)
noncomputable def lC_allRoom_16 (g : gH) (v2 : Int) (v3 : Int) (n : Nat) : Int → Int → Option Int := Nat.rec (motive := fun _ => Int → Int → Option Int) (fun _ _ => none) (fun _ ih => bC_allRoom_16 g v2 v3 ih) n
noncomputable def fC_allRoom (g : gH) (v0 : Int) : Option Int :=
  if kd (g v0 0) = 5 then if kd (g (g v0 0) 1) = 24 then lC_allRoom_16 g (g (g v0 0) 1) (sz (g (g v0 0) 1)) fu 0 0 else none else none
noncomputable def bC_overfull_16 (g : gH) (v2 : Int) (v3 : Int) (X16 : Int → Int → Option Int) (v1 : Int) (v4 : Int) : Option Int :=
  if v4 < v3 then (if kd v2 = 24 ∧ (0 : Int) ≤ v4 ∧ v4 < sz v2 then if kd (g v2 v4) = 3 then bdP (fP_isRunning g (g v2 v4)) (fun y11 => if y11 = 0 then (X16 v1 (w32 (v4 + 1))) else (if (g (g v2 v4) 4) < (g (g v2 v4) 3) then (X16 (w32 (v1 + 1)) (w32 (v4 + 1))) else (X16 v1 (w32 (v4 + 1))))) else none else none) else (some v1)
noncomputable def lC_overfull_16 (g : gH) (v2 : Int) (v3 : Int) (n : Nat) : Int → Int → Option Int := Nat.rec (motive := fun _ => Int → Int → Option Int) (fun _ _ => none) (fun _ ih => bC_overfull_16 g v2 v3 ih) n
noncomputable def fC_overfull (g : gH) (v0 : Int) : Option Int :=
  if kd (g v0 0) = 5 then if kd (g (g v0 0) 1) = 24 then lC_overfull_16 g (g (g v0 0) 1) (sz (g (g v0 0) 1)) fu 0 0 else none else none
noncomputable def jC_meanDepth_57 (g : gH) (v1 : Int) (v2 : Int) : Option Int :=
  if v2 = 0 then (some 0) else (if okddiv (gi2d v1) (gi2d v2) = true then some (gddiv (gi2d v1) (gi2d v2)) else none)
noncomputable def bC_meanDepth_19 (g : gH) (v3 : Int) (v4 : Int) (X19 : Int → Int → Int → Option Int) (v1 : Int) (v2 : Int) (v5 : Int) : Option Int :=
  if v5 < v4 then (if kd v3 = 24 ∧ (0 : Int) ≤ v5 ∧ v5 < sz v3 then if kd (g v3 v5) = 3 then bdP (fP_isRunning g (g v3 v5)) (fun y11 => if y11 = 0 then (X19 v1 v2 (w32 (v5 + 1))) else (bdP (fP_countAbove g (g v3 v5)) (fun y17 => X19 (w32 (v1 + y17)) (w32 (v2 + 1)) (w32 (v5 + 1))))) else none else none) else (jC_meanDepth_57 g v1 v2)
noncomputable def lC_meanDepth_19 (g : gH) (v3 : Int) (v4 : Int) (n : Nat) : Int → Int → Int → Option Int := Nat.rec (motive := fun _ => Int → Int → Int → Option Int) (fun _ _ _ => none) (fun _ ih => bC_meanDepth_19 g v3 v4 ih) n
noncomputable def fC_meanDepth (g : gH) (v0 : Int) : Option Int :=
  if kd (g v0 0) = 5 then if kd (g (g v0 0) 1) = 24 then lC_meanDepth_19 g (g (g v0 0) 1) (sz (g (g v0 0) 1)) fu 0 0 0 else none else none
noncomputable def fC_rootShare (g : gH) (v0 : Int) : Option Int :=
  if kd (g v0 0) = 5 then if (g (g v0 0) 7) = 0 then (some 0) else (if okfdiv (gi2f (g (g v0 0) 8)) (gi2f (g (g v0 0) 7)) = true then some (gfdiv (gi2f (g (g v0 0) 8)) (gi2f (g (g v0 0) 7))) else none) else none
noncomputable def bC_mostAdopted_19 (g : gH) (v3 : Int) (v4 : Int) (X19 : Int → Int → Int → Option Int) (v1 : Int) (v2 : Int) (v5 : Int) : Option Int :=
  if v5 < v4 then (if kd v3 = 24 ∧ (0 : Int) ≤ v5 ∧ v5 < sz v3 then if kd (g v3 v5) = 3 then bdP (fP_isRunning g (g v3 v5)) (fun y11 => if y11 = 0 then (X19 v1 v2 (w32 (v5 + 1))) else (if v2 < (g (g v3 v5) 11) then (X19 (g (g v3 v5) 0) (g (g v3 v5) 11) (w32 (v5 + 1))) else (X19 v1 v2 (w32 (v5 + 1))))) else none else none) else (some v1)
noncomputable def lC_mostAdopted_19 (g : gH) (v3 : Int) (v4 : Int) (n : Nat) : Int → Int → Int → Option Int := Nat.rec (motive := fun _ => Int → Int → Int → Option Int) (fun _ _ _ => none) (fun _ ih => bC_mostAdopted_19 g v3 v4 ih) n
noncomputable def fC_mostAdopted (g : gH) (v0 : Int) : Option Int :=
  if kd (g v0 0) = 5 then if kd (g (g v0 0) 1) = 24 then lC_mostAdopted_19 g (g (g v0 0) 1) (sz (g (g v0 0) 1)) fu (-1) 0 0 else none else none
noncomputable def bT_countInState_14 (g : gH) (v1 : Int) (v3 : Int) (v4 : Int) (X14 : Int → Int → Option Int) (v2 : Int) (v5 : Int) : Option Int :=
  if v5 < v4 then (if kd v3 = 24 ∧ (0 : Int) ≤ v5 ∧ v5 < sz v3 then if kd (g v3 v5) = 3 then if (g (g v3 v5) 1) = v1 then (X14 (w32 (v2 + 1)) (w32 (v5 + 1))) else (X14 v2 (w32 (v5 + 1))) else none else none) else (some v2)
noncomputable def lT_countInState_14 (g : gH) (v1 : Int) (v3 : Int) (v4 : Int) (n : Nat) : Int → Int → Option Int := Nat.rec (motive := fun _ => Int → Int → Option Int) (fun _ _ => none) (fun _ ih => bT_countInState_14 g v1 v3 v4 ih) n
noncomputable def fT_countInState (g : gH) (v0 : Int) (v1 : Int) : Option Int :=
  if kd (g v0 1) = 24 then lT_countInState_14 g v1 (g v0 1) (sz (g v0 1)) fu 0 0 else none
noncomputable def fC_readShare (g : gH) (v0 : Int) : Option Int :=
  if kd (g v0 0) = 5 then if (g (g v0 0) 6) = 0 then (some 0) else (bdP (fT_countInState g (g v0 0) 2) (fun y7 => if okddiv (gi2d y7) (gi2d (g (g v0 0) 6)) = true then some (gddiv (gi2d y7) (gi2d (g (g v0 0) 6))) else none)) else none
noncomputable def fC_outputByte (g : gH) (v0 : Int) (v1 : Int) : Option Int :=
  if v1 < 0 then (some (-1)) else (if kd (g v0 5) = 2 then if v1 < (g (g v0 5) 1) then (if v1 < 300 then (if kd (g (g v0 5) 0) = 21 ∧ (0 : Int) ≤ v1 ∧ v1 < sz (g (g v0 5) 0) then some (g (g (g v0 5) 0) v1) else none) else (some (-1))) else (some (-1)) else none)
noncomputable def jH_pop_31 (g : gH) (v0 : Int) (v1 : Int) : Option (Int × gH) :=
  bnd (pU g v0 2 (w32 ((g v0 2) - 1))) (fun g13 => bnd (pU g13 v0 1 (w32 ((g13 v0 1) - 1))) (fun g16 => if kd (g16 v0 0) = 25 ∧ (0 : Int) ≤ (g16 v0 2) ∧ (g16 v0 2) < sz (g16 v0 0) then if kd v1 = 5 then bdN (fT_take g16 v1 (g16 (g16 v0 0) (g16 v0 2))) (fun y23 g25 => some (1, g25)) else none else none))
noncomputable def jH_pop_25 (g : gH) (v0 : Int) (v1 : Int) : Option (Int × gH) :=
  bnd (pU g v0 2 10) (fun g10 => jH_pop_31 g10 v0 v1)
noncomputable def fH_pop (g : gH) (v0 : Int) (v1 : Int) : Option (Int × gH) :=
  if (g v0 1) = 0 then (some (0, g)) else (if 0 < (g v0 2) then (if 10 < (g v0 2) then (jH_pop_25 g v0 v1) else (jH_pop_31 g v0 v1)) else (jH_pop_25 g v0 v1))
noncomputable def fC_undo (g : gH) (v0 : Int) : Option (Int × gH) :=
  if kd (g v0 3) = 0 then bdN (fH_pop g (g v0 3) (g v0 0)) (fun y4 g6 => if y4 = 0 then (some ((-1), g6)) else (if kd (g6 v0 3) = 0 then some ((g6 (g6 v0 3) 1), g6) else none)) else none
noncomputable def fC_saveState (g : gH) (v0 : Int) : Option (Int × gH) :=
  if kd (g v0 2) = 5 then bdN (fT_take g (g v0 2) (g v0 0)) (fun y4 g6 => bnd (pU g6 v0 6 1) (fun g8 => if kd (g8 v0 0) = 5 then bdP (fT_countInState g8 (g8 v0 0) 0) (fun y12 => some (y12, g8)) else none)) else none
noncomputable def fM_thrown (g : gH) (v0 : Int) : Option Int :=
  some (g v0 8)
noncomputable def bM_appendWord_3 (v0 : Int) (v1 : Int) (X3 : Int → gH → Option (Int × gH)) (v2 : Int) (g : gH) : Option (Int × gH) :=
  if v2 < 0 then (some (0, g)) else (if kd (g v0 9) = 20 ∧ (0 : Int) ≤ (g v0 10) ∧ (g v0 10) < sz (g v0 9) then bnd (pU g (g v0 9) (g v0 10) (opI 1 (opI 5 v1 v2) 255)) (fun g6 => bnd (pU g6 v0 10 (w32 ((g6 v0 10) + 1))) (fun g9 => X3 (w32 (v2 + (-8))) g9)) else none)
noncomputable def lM_appendWord_3 (v0 : Int) (v1 : Int) (n : Nat) : Int → gH → Option (Int × gH) := Nat.rec (motive := fun _ => Int → gH → Option (Int × gH)) (fun _ _ => none) (fun _ ih => bM_appendWord_3 v0 v1 ih) n
noncomputable def fM_appendWord (g : gH) (v0 : Int) (v1 : Int) : Option (Int × gH) :=
  lM_appendWord_3 v0 v1 fu 24 g
noncomputable def fM_appendInput (g : gH) (v0 : Int) (v1 : Int) (v2 : Int) (v3 : Int) (v4 : Int) (v5 : Int) : Option (Int × gH) :=
  bnd (pU g v0 8 0) (fun g1 => if 500 < (w32 ((g1 v0 10) + 20)) then (some ((-1), g1)) else (bdN (fM_appendWord g1 v0 v1) (fun y6 g8 => bdN (fM_appendWord g8 v0 v2) (fun y10 g12 => bdN (fM_appendWord g12 v0 v3) (fun y14 g16 => bdN (fM_appendWord g16 v0 v4) (fun y18 g20 => bdN (fM_appendWord g20 v0 v5) (fun y22 g24 => some ((g24 v0 10), g24))))))))
noncomputable def fM_inRange (g : gH) (v0 : Int) (v1 : Int) (v2 : Int) : Option Int :=
  if v0 < v1 then (some 0) else (if v2 < v0 then (some 0) else (some 1))
noncomputable def fM_truncateInput (g : gH) (v0 : Int) (v1 : Int) : Option (Int × gH) :=
  bnd (pU g v0 8 0) (fun g1 => bdP (fM_inRange g1 v1 0 (g1 v0 10)) (fun y4 => if y4 = 0 then (some (0, g1)) else (bnd (pU g1 v0 10 v1) (fun g10 => some (1, g10)))))
noncomputable def bM_copies_3 (v0 : Int) (v1 : Int) (v2 : Int) (v3 : Int) (v4 : Int) (X3 : Int → gH → Option (Int × gH)) (v5 : Int) (g : gH) : Option (Int × gH) :=
  if v5 < v4 then (if kd v0 = 20 ∧ (0 : Int) ≤ (w32 (v1 + v5)) ∧ (w32 (v1 + v5)) < sz v0 then if kd v2 = 20 ∧ (0 : Int) ≤ (w32 (v3 + v5)) ∧ (w32 (v3 + v5)) < sz v2 then bnd (pU g v2 (w32 (v3 + v5)) (g v0 (w32 (v1 + v5)))) (fun g6 => X3 (w32 (v5 + 1)) g6) else none else none) else (some (0, g))
noncomputable def lM_copies_3 (v0 : Int) (v1 : Int) (v2 : Int) (v3 : Int) (v4 : Int) (n : Nat) : Int → gH → Option (Int × gH) := Nat.rec (motive := fun _ => Int → gH → Option (Int × gH)) (fun _ _ => none) (fun _ ih => bM_copies_3 v0 v1 v2 v3 v4 ih) n
noncomputable def fM_copies (g : gH) (v0 : Int) (v1 : Int) (v2 : Int) (v3 : Int) (v4 : Int) : Option (Int × gH) :=
  lM_copies_3 v0 v1 v2 v3 v4 fu 0 g
noncomputable def jM_comes_161 (g : gH) (v0 : Int) (v5 : Int) : Option (Int × gH) :=
  if kd (g v0 0) = 20 ∧ (0 : Int) ≤ 0 ∧ 0 < sz (g v0 0) then if kd (g v0 0) = 20 ∧ (0 : Int) ≤ 0 ∧ 0 < sz (g v0 0) then bnd (pU g (g v0 0) 0 (w32 ((g (g v0 0) 0) + 1))) (fun g54 => some (v5, g54)) else none else none
noncomputable def bM_comes_130 (v0 : Int) (v5 : Int) (X130 : Int → gH → Option (Int × gH)) (v6 : Int) (g : gH) : Option (Int × gH) :=
  if v6 < 8 then (if kd (g v0 0) = 20 ∧ (0 : Int) ≤ (w32 ((w32 (460 + (opI 0 8 v5))) + v6)) ∧ (w32 ((w32 (460 + (opI 0 8 v5))) + v6)) < sz (g v0 0) then bnd (pU g (g v0 0) (w32 ((w32 (460 + (opI 0 8 v5))) + v6)) (-1)) (fun g48 => X130 (w32 (v6 + 1)) g48) else none) else (jM_comes_161 g v0 v5)
noncomputable def lM_comes_130 (v0 : Int) (v5 : Int) (n : Nat) : Int → gH → Option (Int × gH) := Nat.rec (motive := fun _ => Int → gH → Option (Int × gH)) (fun _ _ => none) (fun _ ih => bM_comes_130 v0 v5 ih) n
noncomputable def fM_comes (g : gH) (v0 : Int) (v1 : Int) (v2 : Int) (v3 : Int) (v4 : Int) : Option (Int × gH) :=
  if kd (g v0 0) = 20 ∧ (0 : Int) ≤ 0 ∧ 0 < sz (g v0 0) then if kd (g v0 0) = 20 ∧ (0 : Int) ≤ (w32 (60 + (g (g v0 0) 0))) ∧ (w32 (60 + (g (g v0 0) 0))) < sz (g v0 0) then bnd (pU g (g v0 0) (w32 (60 + (g (g v0 0) 0))) v1) (fun g6 => if kd (g6 v0 0) = 20 ∧ (0 : Int) ≤ (w32 (100 + (g (g v0 0) 0))) ∧ (w32 (100 + (g (g v0 0) 0))) < sz (g6 v0 0) then bnd (pU g6 (g6 v0 0) (w32 (100 + (g (g v0 0) 0))) v2) (fun g10 => if kd (g10 v0 0) = 20 ∧ (0 : Int) ≤ (w32 (140 + (g (g v0 0) 0))) ∧ (w32 (140 + (g (g v0 0) 0))) < sz (g10 v0 0) then bnd (pU g10 (g10 v0 0) (w32 (140 + (g (g v0 0) 0))) 0) (fun g14 => if kd (g14 v0 0) = 20 ∧ (0 : Int) ≤ (w32 (180 + (g (g v0 0) 0))) ∧ (w32 (180 + (g (g v0 0) 0))) < sz (g14 v0 0) then bnd (pU g14 (g14 v0 0) (w32 (180 + (g (g v0 0) 0))) v3) (fun g18 => if kd (g18 v0 0) = 20 ∧ (0 : Int) ≤ (w32 (220 + (g (g v0 0) 0))) ∧ (w32 (220 + (g (g v0 0) 0))) < sz (g18 v0 0) then bnd (pU g18 (g18 v0 0) (w32 (220 + (g (g v0 0) 0))) v4) (fun g22 => if kd (g22 v0 0) = 20 ∧ (0 : Int) ≤ (w32 (260 + (g (g v0 0) 0))) ∧ (w32 (260 + (g (g v0 0) 0))) < sz (g22 v0 0) then bnd (pU g22 (g22 v0 0) (w32 (260 + (g (g v0 0) 0))) (-1)) (fun g26 => if kd (g26 v0 0) = 20 ∧ (0 : Int) ≤ (w32 (300 + (g (g v0 0) 0))) ∧ (w32 (300 + (g (g v0 0) 0))) < sz (g26 v0 0) then bnd (pU g26 (g26 v0 0) (w32 (300 + (g (g v0 0) 0))) (-1)) (fun g30 => if kd (g30 v0 0) = 20 ∧ (0 : Int) ≤ (w32 (340 + (g (g v0 0) 0))) ∧ (w32 (340 + (g (g v0 0) 0))) < sz (g30 v0 0) then bnd (pU g30 (g30 v0 0) (w32 (340 + (g (g v0 0) 0))) 0) (fun g34 => if kd (g34 v0 0) = 20 ∧ (0 : Int) ≤ (w32 (380 + (g (g v0 0) 0))) ∧ (w32 (380 + (g (g v0 0) 0))) < sz (g34 v0 0) then bnd (pU g34 (g34 v0 0) (w32 (380 + (g (g v0 0) 0))) 0) (fun g38 => if kd (g38 v0 0) = 20 ∧ (0 : Int) ≤ (w32 (420 + (g (g v0 0) 0))) ∧ (w32 (420 + (g (g v0 0) 0))) < sz (g38 v0 0) then bnd (pU g38 (g38 v0 0) (w32 (420 + (g (g v0 0) 0))) (-1)) (fun g42 => lM_comes_130 v0 (g (g v0 0) 0) fu 0 g42) else none) else none) else none) else none) else none) else none) else none) else none) else none) else none else none
noncomputable def jM_clear_52 (g : gH) (v0 : Int) : Option (Int × gH) :=
  if kd (g v0 0) = 20 ∧ (0 : Int) ≤ 59 ∧ 59 < sz (g v0 0) then bnd (pU g (g v0 0) 59 20) (fun g19 => bdN (fM_comes g19 v0 (-1) 9 0 0) (fun y21 g23 => some (0, g23))) else none
noncomputable def bM_clear_31 (v0 : Int) (X31 : Int → gH → Option (Int × gH)) (v1 : Int) (g : gH) : Option (Int × gH) :=
  if v1 < 3 then (if kd (g v0 0) = 20 ∧ (0 : Int) ≤ (w32 (6 + v1)) ∧ (w32 (6 + v1)) < sz (g v0 0) then bnd (pU g (g v0 0) (w32 (6 + v1)) v1) (fun g15 => X31 (w32 (v1 + 1)) g15) else none) else (jM_clear_52 g v0)
noncomputable def lM_clear_31 (v0 : Int) (n : Nat) : Int → gH → Option (Int × gH) := Nat.rec (motive := fun _ => Int → gH → Option (Int × gH)) (fun _ _ => none) (fun _ ih => bM_clear_31 v0 ih) n
noncomputable def jM_clear_22 (g : gH) (v0 : Int) : Option (Int × gH) :=
  if kd (g v0 0) = 20 ∧ (0 : Int) ≤ 5 ∧ 5 < sz (g v0 0) then bnd (pU g (g v0 0) 5 3) (fun g9 => lM_clear_31 v0 fu 0 g9) else none
noncomputable def bM_clear_2 (v0 : Int) (X2 : Int → gH → Option (Int × gH)) (v1 : Int) (g : gH) : Option (Int × gH) :=
  if v1 < 780 then (if kd (g v0 0) = 20 ∧ (0 : Int) ≤ v1 ∧ v1 < sz (g v0 0) then bnd (pU g (g v0 0) v1 0) (fun g5 => X2 (w32 (v1 + 1)) g5) else none) else (jM_clear_22 g v0)
noncomputable def lM_clear_2 (v0 : Int) (n : Nat) : Int → gH → Option (Int × gH) := Nat.rec (motive := fun _ => Int → gH → Option (Int × gH)) (fun _ _ => none) (fun _ ih => bM_clear_2 v0 ih) n
noncomputable def fM_clear (g : gH) (v0 : Int) : Option (Int × gH) :=
  lM_clear_2 v0 fu 0 g
noncomputable def fM_byteAt (g : gH) (v0 : Int) (v1 : Int) : Option Int :=
  if v1 < (g v0 10) then (if kd (g v0 9) = 20 ∧ (0 : Int) ≤ v1 ∧ v1 < sz (g v0 9) then some (g (g v0 9) v1) else none) else (some (-1))
noncomputable def bM_advanceToken_137 (v0 : Int) (X137 : gH → Option (Int × gH)) (g : gH) : Option (Int × gH) :=
  bdP (fM_byteAt g v0 (g v0 15)) (fun y64 => bdP (fM_inRange g y64 48 57) (fun y68 => if y68 = 0 then (some (0, g)) else (if (w32 ((g v0 15) - (g v0 16))) < 2 then (bdP (fM_byteAt g v0 (g v0 15)) (fun y80 => bnd (pU g v0 17 (w32 ((w32 ((opI 0 10 (g v0 17)) + y80)) - 48))) (fun g84 => bnd (pU g84 v0 15 (w32 ((g84 v0 15) + 1))) (fun g87 => X137 g87)))) else (bnd (pU g v0 15 (w32 ((g v0 15) + 1))) (fun g90 => X137 g90)))))
noncomputable def lM_advanceToken_137 (v0 : Int) (n : Nat) : gH → Option (Int × gH) := Nat.rec (motive := fun _ => gH → Option (Int × gH)) (fun _ => none) (fun _ ih => bM_advanceToken_137 v0 ih) n
noncomputable def bM_advanceToken_90 (v0 : Int) (X90 : gH → Option (Int × gH)) (g : gH) : Option (Int × gH) :=
  bdP (fM_byteAt g v0 (g v0 15)) (fun y93 => bdP (fM_inRange g y93 97 122) (fun y97 => if y97 = 0 then (some (0, g)) else (bnd (pU g v0 15 (w32 ((g v0 15) + 1))) (fun g104 => X90 g104))))
noncomputable def lM_advanceToken_90 (v0 : Int) (n : Nat) : gH → Option (Int × gH) := Nat.rec (motive := fun _ => gH → Option (Int × gH)) (fun _ => none) (fun _ ih => bM_advanceToken_90 v0 ih) n
noncomputable def jM_advanceToken_39 (g : gH) (v0 : Int) : Option (Int × gH) :=
  bnd (pU g v0 16 (g v0 15)) (fun g22 => bdP (fM_byteAt g22 v0 (g22 v0 15)) (fun y25 => bnd (pU g22 v0 17 0) (fun g29 => if y25 = (-1) then (bnd (pU g29 v0 18 0) (fun g33 => some (0, g33))) else (bdP (fM_inRange g29 y25 97 122) (fun y35 => if y35 = 0 then (bdP (fM_inRange g29 y25 48 57) (fun y41 => if y41 = 0 then (if y25 = 59 then (bnd (pU g29 v0 18 3) (fun g49 => bnd (pU g49 v0 15 (w32 ((g49 v0 15) + 1))) (fun g52 => some (0, g52)))) else (bnd (pU g29 v0 18 4) (fun g54 => bnd (pU g54 v0 15 (w32 ((g54 v0 15) + 1))) (fun g57 => some (0, g57))))) else (bnd (pU g29 v0 18 2) (fun g59 => lM_advanceToken_137 v0 fu g59)))) else (bnd (pU g29 v0 18 1) (fun g61 => lM_advanceToken_90 v0 fu g61)))))))
noncomputable def bM_advanceToken_0 (v0 : Int) (X0 : gH → Option (Int × gH)) (g : gH) : Option (Int × gH) :=
  bdP (fM_byteAt g v0 (g v0 15)) (fun y2 => if y2 = 32 then (bnd (pU g v0 15 (w32 ((g v0 15) + 1))) (fun g9 => X0 g9)) else (bdP (fM_byteAt g v0 (g v0 15)) (fun y12 => if y12 = 10 then (bnd (pU g v0 15 (w32 ((g v0 15) + 1))) (fun g19 => X0 g19)) else (jM_advanceToken_39 g v0))))
noncomputable def lM_advanceToken_0 (v0 : Int) (n : Nat) : gH → Option (Int × gH) := Nat.rec (motive := fun _ => gH → Option (Int × gH)) (fun _ => none) (fun _ ih => bM_advanceToken_0 v0 ih) n
noncomputable def fM_advanceToken (g : gH) (v0 : Int) : Option (Int × gH) :=
  lM_advanceToken_0 v0 fu g
noncomputable def fM_failsAt (g : gH) (v0 : Int) (v1 : Int) : Option (Int × gH) :=
  if (g v0 13) = 0 then (bnd (pU g v0 13 v1) (fun g4 => bnd (pU g4 v0 14 (g4 v0 16)) (fun g7 => some (0, g7)))) else (some (0, g))
noncomputable def fM_tokenLength (g : gH) (v0 : Int) : Option Int :=
  some (w32 ((g v0 15) - (g v0 16)))
noncomputable def bM_isWord_23 (g : gH) (v0 : Int) (v1 : Int) (X23 : Int → Option Int) (v2 : Int) : Option Int :=
  if (2000000 : Int) ≤ v1 ∧ v1 < 2000026 then if v2 < (gtl v1) then (if kd (g v0 9) = 20 ∧ (0 : Int) ≤ (w32 ((g v0 16) + v2)) ∧ (w32 ((g v0 16) + v2)) < sz (g v0 9) then if ((2000000 : Int) ≤ v1 ∧ v1 < 2000026) ∧ (0 : Int) ≤ v2 ∧ v2 < gtl v1 then if (g (g v0 9) (w32 ((g v0 16) + v2))) = (gch v1 v2) then (X23 (w32 (v2 + 1))) else (some 0) else none else none) else (some 1) else none
noncomputable def lM_isWord_23 (g : gH) (v0 : Int) (v1 : Int) (n : Nat) : Int → Option Int := Nat.rec (motive := fun _ => Int → Option Int) (fun _ => none) (fun _ ih => bM_isWord_23 g v0 v1 ih) n
noncomputable def fM_isWord (g : gH) (v0 : Int) (v1 : Int) : Option Int :=
  if (g v0 18) = 1 then (bdP (fM_tokenLength g v0) (fun y4 => if (2000000 : Int) ≤ v1 ∧ v1 < 2000026 then if y4 = (gtl v1) then (lM_isWord_23 g v0 v1 fu 0) else (some 0) else none)) else (some 0)
noncomputable def fM_isNumber (g : gH) (v0 : Int) (v1 : Int) (v2 : Int) : Option (Int × gH) :=
  if (g v0 18) = 2 then (bdP (fM_tokenLength g v0) (fun y4 => if 2 < y4 then (bdN (fM_failsAt g v0 1) (fun y10 g12 => some (y10, g12))) else (bdP (fM_inRange g (g v0 17) v1 v2) (fun y15 => if y15 = 0 then (bdN (fM_failsAt g v0 2) (fun y21 g23 => if y21 = 0 then (some (0, g23)) else (some (1, g23)))) else (some (1, g)))))) else (bdN (fM_failsAt g v0 1) (fun y27 g29 => some (y27, g29)))
noncomputable def fM_takes (g : gH) (v0 : Int) (v1 : Int) (v2 : Int) (v3 : Int) : Option (Int × gH) :=
  bdN (fM_isNumber g v0 v2 v3) (fun y1 g3 => if y1 = 0 then (some (0, g3)) else (if kd (g3 v0 20) = 20 ∧ (0 : Int) ≤ v1 ∧ v1 < sz (g3 v0 20) then bnd (pU g3 (g3 v0 20) v1 (g3 v0 17)) (fun g10 => bdN (fM_advanceToken g10 v0) (fun y12 g14 => some (1, g14))) else none))
noncomputable def fM_startsOnce (g : gH) (v0 : Int) (v1 : Int) : Option (Int × gH) :=
  if (opI 1 (g v0 19) v1) = 0 then (bnd (pU g v0 19 (opI 2 (g v0 19) v1)) (fun g5 => bdN (fM_advanceToken g5 v0) (fun y7 g9 => some (1, g9)))) else (bdN (fM_failsAt g v0 3) (fun y11 g13 => some (y11, g13)))
noncomputable def fM_readDeep (g : gH) (v0 : Int) : Option (Int × gH) :=
  bdN (fM_startsOnce g v0 2) (fun y1 g3 => if y1 = 0 then (some (0, g3)) else (bdN (fM_takes g3 v0 0 1 20) (fun y7 g9 => if y7 = 0 then (some (0, g9)) else (if kd (g9 v0 20) = 20 ∧ (0 : Int) ≤ 0 ∧ 0 < sz (g9 v0 20) then if kd (g9 v0 0) = 20 ∧ (0 : Int) ≤ 59 ∧ 59 < sz (g9 v0 0) then bnd (pU g9 (g9 v0 0) 59 (g9 (g9 v0 20) 0)) (fun g18 => some (1, g18)) else none else none))))
noncomputable def fM_readRoot (g : gH) (v0 : Int) : Option (Int × gH) :=
  bdN (fM_startsOnce g v0 4) (fun y1 g3 => if y1 = 0 then (some (0, g3)) else (bdN (fM_takes g3 v0 0 0 9) (fun y7 g9 => if y7 = 0 then (some (0, g9)) else (bdN (fM_takes g9 v0 1 0 9) (fun y13 g15 => if y13 = 0 then (some (0, g15)) else (if kd (g15 v0 20) = 20 ∧ (0 : Int) ≤ 0 ∧ 0 < sz (g15 v0 20) then if kd (g15 v0 0) = 20 ∧ (0 : Int) ≤ 100 ∧ 100 < sz (g15 v0 0) then bnd (pU g15 (g15 v0 0) 100 (g15 (g15 v0 20) 0)) (fun g24 => if kd (g24 v0 20) = 20 ∧ (0 : Int) ≤ 1 ∧ 1 < sz (g24 v0 20) then if kd (g24 v0 0) = 20 ∧ (0 : Int) ≤ 220 ∧ 220 < sz (g24 v0 0) then bnd (pU g24 (g24 v0 0) 220 (g24 (g24 v0 20) 1)) (fun g31 => some (1, g31)) else none else none) else none else none))))))
noncomputable def fM_readWill (g : gH) (v0 : Int) : Option (Int × gH) :=
  bdN (fM_advanceToken g v0) (fun y1 g3 => if kd (g3 v0 0) = 20 ∧ (0 : Int) ≤ 0 ∧ 0 < sz (g3 v0 0) then bdN (fM_takes g3 v0 0 1 (w32 ((g3 (g3 v0 0) 0) - 1))) (fun y8 g10 => if y8 = 0 then (some (0, g10)) else (bdN (fM_isNumber g10 v0 0 7) (fun y14 g16 => if y14 = 0 then (some (0, g16)) else (if kd (g16 v0 20) = 20 ∧ (0 : Int) ≤ 0 ∧ 0 < sz (g16 v0 20) then if kd (g16 v0 0) = 20 ∧ (0 : Int) ≤ (w32 ((w32 (460 + (opI 0 8 (g16 (g16 v0 20) 0)))) + (g16 v0 17))) ∧ (w32 ((w32 (460 + (opI 0 8 (g16 (g16 v0 20) 0)))) + (g16 v0 17))) < sz (g16 v0 0) then if (g16 (g16 v0 0) (w32 ((w32 (460 + (opI 0 8 (g16 (g16 v0 20) 0)))) + (g16 v0 17)))) = (-1) then (bdN (fM_takes g16 v0 1 0 7) (fun y29 g31 => if y29 = 0 then (some (0, g31)) else (if kd (g31 v0 0) = 20 ∧ (0 : Int) ≤ 0 ∧ 0 < sz (g31 v0 0) then bdN (fM_isNumber g31 v0 0 (w32 ((g31 (g31 v0 0) 0) - 1))) (fun y38 g40 => if y38 = 0 then (some (0, g40)) else (if kd (g40 v0 20) = 20 ∧ (0 : Int) ≤ 0 ∧ 0 < sz (g40 v0 20) then if (g40 v0 17) = (g40 (g40 v0 20) 0) then (bdN (fM_failsAt g40 v0 2) (fun y50 g52 => some (y50, g52))) else (if kd (g40 v0 0) = 20 ∧ (0 : Int) ≤ 0 ∧ 0 < sz (g40 v0 0) then bdN (fM_takes g40 v0 2 0 (w32 ((g40 (g40 v0 0) 0) - 1))) (fun y57 g59 => if y57 = 0 then (some (0, g59)) else (if kd (g59 v0 20) = 20 ∧ (0 : Int) ≤ 0 ∧ 0 < sz (g59 v0 20) then if kd (g59 v0 20) = 20 ∧ (0 : Int) ≤ 1 ∧ 1 < sz (g59 v0 20) then if kd (g59 v0 20) = 20 ∧ (0 : Int) ≤ 2 ∧ 2 < sz (g59 v0 20) then if kd (g59 v0 0) = 20 ∧ (0 : Int) ≤ (w32 ((w32 (460 + (opI 0 8 (g59 (g59 v0 20) 0)))) + (g59 (g59 v0 20) 1))) ∧ (w32 ((w32 (460 + (opI 0 8 (g59 (g59 v0 20) 0)))) + (g59 (g59 v0 20) 1))) < sz (g59 v0 0) then bnd (pU g59 (g59 v0 0) (w32 ((w32 (460 + (opI 0 8 (g59 (g59 v0 20) 0)))) + (g59 (g59 v0 20) 1))) (g59 (g59 v0 20) 2)) (fun g74 => some (1, g74)) else none else none else none else none)) else none) else none)) else none))) else (bdN (fM_failsAt g16 v0 3) (fun y76 g78 => some (y76, g78))) else none else none)))) else none)
noncomputable def fM_ruleHere (g : gH) (v0 : Int) : Option Int :=
  bdP (fM_isWord g v0 2000021) (fun y1 => if y1 = 0 then (bdP (fM_isWord g v0 2000022) (fun y7 => if y7 = 0 then (bdP (fM_isWord g v0 2000023) (fun y13 => if y13 = 0 then (bdP (fM_isWord g v0 2000024) (fun y19 => if y19 = 0 then (bdP (fM_isWord g v0 2000025) (fun y25 => if y25 = 0 then (some (-1)) else (some 4))) else (some 3))) else (some 2))) else (some 1))) else (some 0))
noncomputable def bM_readOrder_19 (v0 : Int) (X19 : Int → gH → Option (Int × gH)) (v1 : Int) (g : gH) : Option (Int × gH) :=
  if (g v0 18) = 1 then (bdP (fM_ruleHere g v0) (fun y14 => if y14 = (-1) then (bdN (fM_failsAt g v0 1) (fun y20 g22 => some (y20, g22))) else (if (opI 1 (opI 5 v1 y14) 1) = 1 then (bdN (fM_failsAt g v0 3) (fun y26 g28 => some (y26, g28))) else (if kd (g v0 0) = 20 ∧ (0 : Int) ≤ 5 ∧ 5 < sz (g v0 0) then if kd (g v0 0) = 20 ∧ (0 : Int) ≤ (w32 (6 + (g (g v0 0) 5))) ∧ (w32 (6 + (g (g v0 0) 5))) < sz (g v0 0) then bnd (pU g (g v0 0) (w32 (6 + (g (g v0 0) 5))) y14) (fun g35 => if kd (g35 v0 0) = 20 ∧ (0 : Int) ≤ 5 ∧ 5 < sz (g35 v0 0) then if kd (g35 v0 0) = 20 ∧ (0 : Int) ≤ 5 ∧ 5 < sz (g35 v0 0) then bnd (pU g35 (g35 v0 0) 5 (w32 ((g35 (g35 v0 0) 5) + 1))) (fun g41 => bdN (fM_advanceToken g41 v0) (fun y43 g45 => X19 (opI 2 v1 (opI 4 1 y14)) g45)) else none else none) else none else none)))) else (some (1, g))
noncomputable def lM_readOrder_19 (v0 : Int) (n : Nat) : Int → gH → Option (Int × gH) := Nat.rec (motive := fun _ => Int → gH → Option (Int × gH)) (fun _ _ => none) (fun _ ih => bM_readOrder_19 v0 ih) n
noncomputable def fM_readOrder (g : gH) (v0 : Int) : Option (Int × gH) :=
  bdN (fM_startsOnce g v0 1) (fun y1 g3 => if y1 = 0 then (some (0, g3)) else (if kd (g3 v0 0) = 20 ∧ (0 : Int) ≤ 5 ∧ 5 < sz (g3 v0 0) then bnd (pU g3 (g3 v0 0) 5 0) (fun g9 => lM_readOrder_19 v0 fu 0 g9) else none))
noncomputable def fM_runs (g : gH) (v0 : Int) (v1 : Int) : Option Int :=
  if kd (g v0 0) = 20 ∧ (0 : Int) ≤ (w32 (140 + v1)) ∧ (w32 (140 + v1)) < sz (g v0 0) then if (g (g v0 0) (w32 (140 + v1))) = 0 then (some 1) else (some 0) else none
noncomputable def fM_isChild (g : gH) (v0 : Int) (v1 : Int) (v2 : Int) (v3 : Int) : Option Int :=
  if kd (g v0 0) = 20 ∧ (0 : Int) ≤ (w32 (140 + v1)) ∧ (w32 (140 + v1)) < sz (g v0 0) then if (g (g v0 0) (w32 (140 + v1))) = v3 then (if kd (g v0 0) = 20 ∧ (0 : Int) ≤ (w32 (60 + v1)) ∧ (w32 (60 + v1)) < sz (g v0 0) then if (g (g v0 0) (w32 (60 + v1))) = v2 then (if v1 = 0 then (some 0) else (some 1)) else (some 0) else none) else (some 0) else none
noncomputable def bM_childrenOf_5 (g : gH) (v0 : Int) (v1 : Int) (v2 : Int) (X5 : Int → Int → Option Int) (v3 : Int) (v4 : Int) : Option Int :=
  if kd (g v0 0) = 20 ∧ (0 : Int) ≤ 0 ∧ 0 < sz (g v0 0) then if v4 < (g (g v0 0) 0) then (bdP (fM_isChild g v0 v4 v1 v2) (fun y6 => if y6 = 0 then (X5 (w32 (v3 + 0)) (w32 (v4 + 1))) else (X5 (w32 (v3 + 1)) (w32 (v4 + 1))))) else (some v3) else none
noncomputable def lM_childrenOf_5 (g : gH) (v0 : Int) (v1 : Int) (v2 : Int) (n : Nat) : Int → Int → Option Int := Nat.rec (motive := fun _ => Int → Int → Option Int) (fun _ _ => none) (fun _ ih => bM_childrenOf_5 g v0 v1 v2 ih) n
noncomputable def fM_childrenOf (g : gH) (v0 : Int) (v1 : Int) (v2 : Int) : Option Int :=
  lM_childrenOf_5 g v0 v1 v2 fu 0 0
noncomputable def fM_roomOf (g : gH) (v0 : Int) (v1 : Int) : Option Int :=
  bdP (fM_runs g v0 v1) (fun y1 => if y1 = 0 then (some 0) else (if kd (g v0 0) = 20 ∧ (0 : Int) ≤ (w32 (100 + v1)) ∧ (w32 (100 + v1)) < sz (g v0 0) then bdP (fM_childrenOf g v0 v1 0) (fun y10 => some (gmax 0 (w32 ((g (g v0 0) (w32 (100 + v1))) - y10)))) else none))
noncomputable def fM_readProcess (g : gH) (v0 : Int) : Option (Int × gH) :=
  if kd (g v0 0) = 20 ∧ (0 : Int) ≤ 0 ∧ 0 < sz (g v0 0) then if 24 < (g (g v0 0) 0) then (bdN (fM_failsAt g v0 4) (fun y6 g8 => some (y6, g8))) else (bdN (fM_advanceToken g v0) (fun y10 g12 => if kd (g12 v0 0) = 20 ∧ (0 : Int) ≤ 0 ∧ 0 < sz (g12 v0 0) then bdN (fM_isNumber g12 v0 0 (w32 ((g12 (g12 v0 0) 0) - 1))) (fun y17 g19 => if y17 = 0 then (some (0, g19)) else (bdP (fM_roomOf g19 v0 (g19 v0 17)) (fun y24 => if y24 = 0 then (bdN (fM_failsAt g19 v0 2) (fun y30 g32 => some (y30, g32))) else (if kd (g19 v0 0) = 20 ∧ (0 : Int) ≤ 0 ∧ 0 < sz (g19 v0 0) then bdN (fM_takes g19 v0 0 0 (w32 ((g19 (g19 v0 0) 0) - 1))) (fun y37 g39 => if y37 = 0 then (some (0, g39)) else (bdN (fM_takes g39 v0 1 0 9) (fun y43 g45 => if y43 = 0 then (some (0, g45)) else (bdN (fM_takes g45 v0 2 0 9) (fun y49 g51 => if y49 = 0 then (some (0, g51)) else (bdN (fM_takes g51 v0 3 0 9) (fun y55 g57 => if y55 = 0 then (some (0, g57)) else (if kd (g57 v0 20) = 20 ∧ (0 : Int) ≤ 0 ∧ 0 < sz (g57 v0 20) then if kd (g57 v0 20) = 20 ∧ (0 : Int) ≤ 1 ∧ 1 < sz (g57 v0 20) then if kd (g57 v0 20) = 20 ∧ (0 : Int) ≤ 2 ∧ 2 < sz (g57 v0 20) then if kd (g57 v0 20) = 20 ∧ (0 : Int) ≤ 3 ∧ 3 < sz (g57 v0 20) then bdN (fM_comes g57 v0 (g57 (g57 v0 20) 0) (g57 (g57 v0 20) 1) (g57 (g57 v0 20) 2) (g57 (g57 v0 20) 3)) (fun y73 g75 => some (1, g75)) else none else none else none else none)))))))) else none)))) else none)) else none
noncomputable def fM_readHeir (g : gH) (v0 : Int) : Option (Int × gH) :=
  bdN (fM_advanceToken g v0) (fun y1 g3 => if kd (g3 v0 0) = 20 ∧ (0 : Int) ≤ 0 ∧ 0 < sz (g3 v0 0) then bdN (fM_isNumber g3 v0 1 (w32 ((g3 (g3 v0 0) 0) - 1))) (fun y8 g10 => if y8 = 0 then (some (0, g10)) else (if kd (g10 v0 0) = 20 ∧ (0 : Int) ≤ (w32 (260 + (g10 v0 17))) ∧ (w32 (260 + (g10 v0 17))) < sz (g10 v0 0) then if (g10 (g10 v0 0) (w32 (260 + (g10 v0 17)))) = (-1) then (if kd (g10 v0 0) = 20 ∧ (0 : Int) ≤ 0 ∧ 0 < sz (g10 v0 0) then bdN (fM_takes g10 v0 0 1 (w32 ((g10 (g10 v0 0) 0) - 1))) (fun y23 g25 => if y23 = 0 then (some (0, g25)) else (if kd (g25 v0 0) = 20 ∧ (0 : Int) ≤ 0 ∧ 0 < sz (g25 v0 0) then bdN (fM_isNumber g25 v0 0 (w32 ((g25 (g25 v0 0) 0) - 1))) (fun y32 g34 => if y32 = 0 then (some (0, g34)) else (if kd (g34 v0 20) = 20 ∧ (0 : Int) ≤ 0 ∧ 0 < sz (g34 v0 20) then if (g34 v0 17) = (g34 (g34 v0 20) 0) then (bdN (fM_failsAt g34 v0 2) (fun y44 g46 => some (y44, g46))) else (if kd (g34 v0 0) = 20 ∧ (0 : Int) ≤ 0 ∧ 0 < sz (g34 v0 0) then bdN (fM_takes g34 v0 1 0 (w32 ((g34 (g34 v0 0) 0) - 1))) (fun y51 g53 => if y51 = 0 then (some (0, g53)) else (if kd (g53 v0 20) = 20 ∧ (0 : Int) ≤ 0 ∧ 0 < sz (g53 v0 20) then if kd (g53 v0 20) = 20 ∧ (0 : Int) ≤ 1 ∧ 1 < sz (g53 v0 20) then if kd (g53 v0 0) = 20 ∧ (0 : Int) ≤ (w32 (260 + (g53 (g53 v0 20) 0))) ∧ (w32 (260 + (g53 (g53 v0 20) 0))) < sz (g53 v0 0) then bnd (pU g53 (g53 v0 0) (w32 (260 + (g53 (g53 v0 20) 0))) (g53 (g53 v0 20) 1)) (fun g65 => some (1, g65)) else none else none else none)) else none) else none)) else none)) else none) else (bdN (fM_failsAt g10 v0 3) (fun y67 g69 => some (y67, g69))) else none)) else none)
noncomputable def fM_readDuty (g : gH) (v0 : Int) : Option (Int × gH) :=
  bdN (fM_advanceToken g v0) (fun y1 g3 => bdN (fM_takes g3 v0 0 0 7) (fun y5 g7 => if y5 = 0 then (some (0, g7)) else (if kd (g7 v0 0) = 20 ∧ (0 : Int) ≤ 0 ∧ 0 < sz (g7 v0 0) then bdN (fM_takes g7 v0 1 0 (w32 ((g7 (g7 v0 0) 0) - 1))) (fun y14 g16 => if y14 = 0 then (some (0, g16)) else (if kd (g16 v0 20) = 20 ∧ (0 : Int) ≤ 0 ∧ 0 < sz (g16 v0 20) then if kd (g16 v0 20) = 20 ∧ (0 : Int) ≤ 1 ∧ 1 < sz (g16 v0 20) then if kd (g16 v0 0) = 20 ∧ (0 : Int) ≤ (w32 (11 + (g16 (g16 v0 20) 0))) ∧ (w32 (11 + (g16 (g16 v0 20) 0))) < sz (g16 v0 0) then bnd (pU g16 (g16 v0 0) (w32 (11 + (g16 (g16 v0 20) 0))) (g16 (g16 v0 20) 1)) (fun g28 => some (1, g28)) else none else none else none)) else none)))
noncomputable def fM_refusesGroup (g : gH) (v0 : Int) (v1 : Int) (v2 : Int) : Option Int :=
  if kd (g v0 0) = 20 ∧ (0 : Int) ≤ (w32 (340 + v1)) ∧ (w32 (340 + v1)) < sz (g v0 0) then if (opI 1 (opI 5 (g (g v0 0) (w32 (340 + v1))) v2) 1) = 1 then (some 1) else (some 0) else none
noncomputable def fM_readRefusal (g : gH) (v0 : Int) : Option (Int × gH) :=
  bdN (fM_advanceToken g v0) (fun y1 g3 => if kd (g3 v0 0) = 20 ∧ (0 : Int) ≤ 0 ∧ 0 < sz (g3 v0 0) then bdN (fM_takes g3 v0 0 1 (w32 ((g3 (g3 v0 0) 0) - 1))) (fun y8 g10 => if y8 = 0 then (some (0, g10)) else (bdN (fM_isNumber g10 v0 0 9) (fun y14 g16 => if y14 = 0 then (some (0, g16)) else (if kd (g16 v0 20) = 20 ∧ (0 : Int) ≤ 0 ∧ 0 < sz (g16 v0 20) then bdP (fM_refusesGroup g16 v0 (g16 (g16 v0 20) 0) (g16 v0 17)) (fun y24 => if y24 = 0 then (bdN (fM_takes g16 v0 1 0 9) (fun y30 g32 => if y30 = 0 then (some (0, g32)) else (if kd (g32 v0 20) = 20 ∧ (0 : Int) ≤ 0 ∧ 0 < sz (g32 v0 20) then if kd (g32 v0 0) = 20 ∧ (0 : Int) ≤ (w32 (340 + (g32 (g32 v0 20) 0))) ∧ (w32 (340 + (g32 (g32 v0 20) 0))) < sz (g32 v0 0) then if kd (g32 v0 20) = 20 ∧ (0 : Int) ≤ 1 ∧ 1 < sz (g32 v0 20) then if kd (g32 v0 0) = 20 ∧ (0 : Int) ≤ (w32 (340 + (g32 (g32 v0 20) 0))) ∧ (w32 (340 + (g32 (g32 v0 20) 0))) < sz (g32 v0 0) then bnd (pU g32 (g32 v0 0) (w32 (340 + (g32 (g32 v0 20) 0))) (opI 2 (g32 (g32 v0 0) (w32 (340 + (g32 (g32 v0 20) 0)))) (opI 4 1 (g32 (g32 v0 20) 1)))) (fun g46 => some (1, g46)) else none else none else none else none))) else (bdN (fM_failsAt g16 v0 3) (fun y48 g50 => some (y48, g50)))) else none)))) else none)
noncomputable def fM_readStatement (g : gH) (v0 : Int) : Option (Int × gH) :=
  bdP (fM_isWord g v0 2000013) (fun y1 => if y1 = 0 then (bdP (fM_isWord g v0 2000014) (fun y7 => if y7 = 0 then (bdP (fM_isWord g v0 2000015) (fun y13 => if y13 = 0 then (bdP (fM_isWord g v0 2000020) (fun y19 => if y19 = 0 then (bdP (fM_isWord g v0 2000016) (fun y25 => if y25 = 0 then (bdP (fM_isWord g v0 2000017) (fun y31 => if y31 = 0 then (bdP (fM_isWord g v0 2000018) (fun y37 => if y37 = 0 then (bdP (fM_isWord g v0 2000019) (fun y43 => if y43 = 0 then (bdN (fM_failsAt g v0 1) (fun y49 g51 => some (y49, g51))) else (bdN (fM_readRefusal g v0) (fun y53 g55 => some (y53, g55))))) else (bdN (fM_readDuty g v0) (fun y57 g59 => some (y57, g59))))) else (bdN (fM_readHeir g v0) (fun y61 g63 => some (y61, g63))))) else (bdN (fM_readProcess g v0) (fun y65 g67 => some (y65, g67))))) else (bdN (fM_readWill g v0) (fun y69 g71 => some (y69, g71))))) else (bdN (fM_readRoot g v0) (fun y73 g75 => some (y73, g75))))) else (bdN (fM_readDeep g v0) (fun y77 g79 => some (y77, g79))))) else (bdN (fM_readOrder g v0) (fun y81 g83 => some (y81, g83))))
noncomputable def bM_readText_0 (v0 : Int) (X0 : gH → Option (Int × gH)) (g : gH) : Option (Int × gH) :=
  if (g v0 18) = 0 then (some (1, g)) else (bdN (fM_readStatement g v0) (fun y4 g6 => if y4 = 0 then (some (0, g6)) else (if (g6 v0 18) = 3 then (bdN (fM_advanceToken g6 v0) (fun y13 g15 => X0 g15)) else (bdN (fM_failsAt g6 v0 1) (fun y17 g19 => some (y17, g19))))))
noncomputable def lM_readText_0 (v0 : Int) (n : Nat) : gH → Option (Int × gH) := Nat.rec (motive := fun _ => gH → Option (Int × gH)) (fun _ => none) (fun _ ih => bM_readText_0 v0 ih) n
noncomputable def fM_readText (g : gH) (v0 : Int) : Option (Int × gH) :=
  lM_readText_0 v0 fu g
noncomputable def fM_loadTree (g : gH) (v0 : Int) : Option (Int × gH) :=
  bnd (pU g v0 8 0) (fun g1 => bdN (fM_copies g1 (g1 v0 0) 0 (g1 v0 1) 0 780) (fun y5 g7 => bdN (fM_clear g7 v0) (fun y9 g11 => bnd (pU g11 v0 13 0) (fun g13 => bnd (pU g13 v0 14 (-1)) (fun g15 => bnd (pU g15 v0 15 0) (fun g17 => bnd (pU g17 v0 19 0) (fun g19 => bdN (fM_advanceToken g19 v0) (fun y21 g23 => bdN (fM_readText g23 v0) (fun y25 g27 => bnd (pU g27 v0 10 0) (fun g29 => bnd (pU g29 v0 11 (g29 v0 13)) (fun g32 => bnd (pU g32 v0 12 (g32 v0 14)) (fun g35 => if y25 = 0 then (bdN (fM_copies g35 (g35 v0 1) 0 (g35 v0 0) 0 780) (fun y41 g43 => some ((-1), g43))) else (bnd (pU g35 v0 6 0) (fun g45 => bnd (pU g45 v0 7 0) (fun g47 => if kd (g47 v0 0) = 20 ∧ (0 : Int) ≤ 0 ∧ 0 < sz (g47 v0 0) then some ((g47 (g47 v0 0) 0), g47) else none)))))))))))))))
noncomputable def fM_errorCode (g : gH) (v0 : Int) : Option (Int × gH) :=
  bnd (pU g v0 8 0) (fun g1 => some ((g1 v0 11), g1))
noncomputable def fM_errorOffset (g : gH) (v0 : Int) : Option (Int × gH) :=
  bnd (pU g v0 8 0) (fun g1 => some ((g1 v0 12), g1))
noncomputable def fM_fails (g : gH) (v0 : Int) (v1 : Int) (v2 : Int) : Option (Int × gH) :=
  if v1 = 0 then (some (v1, g)) else (bnd (pU g v0 8 v2) (fun g3 => some (v1, g3)))
noncomputable def bM_inState_4 (g : gH) (v0 : Int) (v1 : Int) (X4 : Int → Int → Option Int) (v2 : Int) (v3 : Int) : Option Int :=
  if kd (g v0 0) = 20 ∧ (0 : Int) ≤ 0 ∧ 0 < sz (g v0 0) then if v3 < (g (g v0 0) 0) then (if kd (g v0 0) = 20 ∧ (0 : Int) ≤ (w32 (140 + v3)) ∧ (w32 (140 + v3)) < sz (g v0 0) then if (g (g v0 0) (w32 (140 + v3))) = v1 then (X4 (w32 (v2 + 1)) (w32 (v3 + 1))) else (X4 (w32 (v2 + 0)) (w32 (v3 + 1))) else none) else (some v2) else none
noncomputable def lM_inState_4 (g : gH) (v0 : Int) (v1 : Int) (n : Nat) : Int → Int → Option Int := Nat.rec (motive := fun _ => Int → Int → Option Int) (fun _ _ => none) (fun _ ih => bM_inState_4 g v0 v1 ih) n
noncomputable def fM_inState (g : gH) (v0 : Int) (v1 : Int) : Option Int :=
  lM_inState_4 g v0 v1 fu 0 0
noncomputable def bM_dutiesOf_4 (g : gH) (v0 : Int) (v1 : Int) (X4 : Int → Int → Option Int) (v2 : Int) (v3 : Int) : Option Int :=
  if v3 < 8 then (if kd (g v0 0) = 20 ∧ (0 : Int) ≤ (w32 (11 + v3)) ∧ (w32 (11 + v3)) < sz (g v0 0) then if (g (g v0 0) (w32 (11 + v3))) = v1 then (X4 (opI 2 v2 (opI 4 1 v3)) (w32 (v3 + 1))) else (X4 (opI 2 v2 0) (w32 (v3 + 1))) else none) else (some v2)
noncomputable def lM_dutiesOf_4 (g : gH) (v0 : Int) (v1 : Int) (n : Nat) : Int → Int → Option Int := Nat.rec (motive := fun _ => Int → Int → Option Int) (fun _ _ => none) (fun _ ih => bM_dutiesOf_4 g v0 v1 ih) n
noncomputable def fM_dutiesOf (g : gH) (v0 : Int) (v1 : Int) : Option Int :=
  lM_dutiesOf_4 g v0 v1 fu 0 0
noncomputable def fJ_bitCount (g : gH) (v0 : Int) : Option Int :=
  some (opI 1 (w32 ((w32 ((opI 1 (w32 ((w32 ((opI 1 (w32 (v0 - (opI 1 (opI 6 v0 1) 1431655765))) 858993459) + (opI 1 (opI 6 (w32 (v0 - (opI 1 (opI 6 v0 1) 1431655765))) 2) 858993459))) + (opI 6 (w32 ((opI 1 (w32 (v0 - (opI 1 (opI 6 v0 1) 1431655765))) 858993459) + (opI 1 (opI 6 (w32 (v0 - (opI 1 (opI 6 v0 1) 1431655765))) 2) 858993459))) 4))) 252645135) + (opI 6 (opI 1 (w32 ((w32 ((opI 1 (w32 (v0 - (opI 1 (opI 6 v0 1) 1431655765))) 858993459) + (opI 1 (opI 6 (w32 (v0 - (opI 1 (opI 6 v0 1) 1431655765))) 2) 858993459))) + (opI 6 (w32 ((opI 1 (w32 (v0 - (opI 1 (opI 6 v0 1) 1431655765))) 858993459) + (opI 1 (opI 6 (w32 (v0 - (opI 1 (opI 6 v0 1) 1431655765))) 2) 858993459))) 4))) 252645135) 8))) + (opI 6 (w32 ((opI 1 (w32 ((w32 ((opI 1 (w32 (v0 - (opI 1 (opI 6 v0 1) 1431655765))) 858993459) + (opI 1 (opI 6 (w32 (v0 - (opI 1 (opI 6 v0 1) 1431655765))) 2) 858993459))) + (opI 6 (w32 ((opI 1 (w32 (v0 - (opI 1 (opI 6 v0 1) 1431655765))) 858993459) + (opI 1 (opI 6 (w32 (v0 - (opI 1 (opI 6 v0 1) 1431655765))) 2) 858993459))) 4))) 252645135) + (opI 6 (opI 1 (w32 ((w32 ((opI 1 (w32 (v0 - (opI 1 (opI 6 v0 1) 1431655765))) 858993459) + (opI 1 (opI 6 (w32 (v0 - (opI 1 (opI 6 v0 1) 1431655765))) 2) 858993459))) + (opI 6 (w32 ((opI 1 (w32 (v0 - (opI 1 (opI 6 v0 1) 1431655765))) 858993459) + (opI 1 (opI 6 (w32 (v0 - (opI 1 (opI 6 v0 1) 1431655765))) 2) 858993459))) 4))) 252645135) 8))) 16))) 63)
noncomputable def jM_count_21 (g : gH) (v0 : Int) (v1 : Int) (s0 : Int) (s1 : Int) : Option (Int × gH) :=
  if kd s0 = 7 then bdN (fM_fails g s0 s1 1) (fun y10 g12 => if y10 = 0 then (if v1 = 0 then (if kd (g12 v0 0) = 20 ∧ (0 : Int) ≤ 0 ∧ 0 < sz (g12 v0 0) then some ((g12 (g12 v0 0) 0), g12) else none) else if v1 = 1 then (bdP (fM_inState g12 v0 (w32 (v1 - 1))) (fun y23 => some (y23, g12))) else if v1 = 2 then (bdP (fM_inState g12 v0 (w32 (v1 - 1))) (fun y29 => some (y29, g12))) else if v1 = 3 then (bdP (fM_inState g12 v0 (w32 (v1 - 1))) (fun y35 => some (y35, g12))) else if v1 = 4 then (if kd (g12 v0 0) = 20 ∧ (0 : Int) ≤ (w32 ((w32 (1 + v1)) - 4)) ∧ (w32 ((w32 (1 + v1)) - 4)) < sz (g12 v0 0) then some ((g12 (g12 v0 0) (w32 ((w32 (1 + v1)) - 4))), g12) else none) else if v1 = 5 then (if kd (g12 v0 0) = 20 ∧ (0 : Int) ≤ (w32 ((w32 (1 + v1)) - 4)) ∧ (w32 ((w32 (1 + v1)) - 4)) < sz (g12 v0 0) then some ((g12 (g12 v0 0) (w32 ((w32 (1 + v1)) - 4))), g12) else none) else if v1 = 6 then (if kd (g12 v0 0) = 20 ∧ (0 : Int) ≤ (w32 ((w32 (1 + v1)) - 4)) ∧ (w32 ((w32 (1 + v1)) - 4)) < sz (g12 v0 0) then some ((g12 (g12 v0 0) (w32 ((w32 (1 + v1)) - 4))), g12) else none) else if v1 = 7 then (if kd (g12 v0 0) = 20 ∧ (0 : Int) ≤ (w32 ((w32 (1 + v1)) - 4)) ∧ (w32 ((w32 (1 + v1)) - 4)) < sz (g12 v0 0) then some ((g12 (g12 v0 0) (w32 ((w32 (1 + v1)) - 4))), g12) else none) else if v1 = 8 then (bdP (fM_dutiesOf g12 v0 0) (fun y61 => bdP (fJ_bitCount g12 y61) (fun y65 => some (y65, g12)))) else if v1 = 9 then (some ((g12 v0 6), g12)) else if v1 = 10 then (if kd (g12 v0 0) = 20 ∧ (0 : Int) ≤ 59 ∧ 59 < sz (g12 v0 0) then some ((g12 (g12 v0 0) 59), g12) else none) else (if kd (g12 v0 0) = 20 ∧ (0 : Int) ≤ (w32 ((w32 (1 + v1)) - 4)) ∧ (w32 ((w32 (1 + v1)) - 4)) < sz (g12 v0 0) then some ((g12 (g12 v0 0) (w32 ((w32 (1 + v1)) - 4))), g12) else none)) else (some (0, g12))) else none
noncomputable def fM_count (g : gH) (v0 : Int) (v1 : Int) : Option (Int × gH) :=
  bnd (pU g v0 8 0) (fun g1 => bdP (fM_inRange g1 v1 0 10) (fun y3 => if y3 = 0 then (jM_count_21 g1 v0 v1 v0 1) else (jM_count_21 g1 v0 v1 v0 0)))
noncomputable def bM_willsOf_4 (g : gH) (v0 : Int) (v1 : Int) (X4 : Int → Int → Option Int) (v2 : Int) (v3 : Int) : Option Int :=
  if v3 < 8 then (if kd (g v0 0) = 20 ∧ (0 : Int) ≤ (w32 ((w32 (460 + (opI 0 8 v1))) + v3)) ∧ (w32 ((w32 (460 + (opI 0 8 v1))) + v3)) < sz (g v0 0) then if (g (g v0 0) (w32 ((w32 (460 + (opI 0 8 v1))) + v3))) = (-1) then (X4 (opI 2 v2 0) (w32 (v3 + 1))) else (X4 (opI 2 v2 (opI 4 1 v3)) (w32 (v3 + 1))) else none) else (some v2)
noncomputable def lM_willsOf_4 (g : gH) (v0 : Int) (v1 : Int) (n : Nat) : Int → Int → Option Int := Nat.rec (motive := fun _ => Int → Int → Option Int) (fun _ _ => none) (fun _ ih => bM_willsOf_4 g v0 v1 ih) n
noncomputable def fM_willsOf (g : gH) (v0 : Int) (v1 : Int) : Option Int :=
  lM_willsOf_4 g v0 v1 fu 0 0
noncomputable def fM_noProcess (g : gH) (v0 : Int) (v1 : Int) : Option (Int × gH) :=
  bnd (pU g v0 8 0) (fun g1 => if kd (g1 v0 0) = 20 ∧ (0 : Int) ≤ 0 ∧ 0 < sz (g1 v0 0) then bdP (fM_inRange g1 v1 0 (w32 ((g1 (g1 v0 0) 0) - 1))) (fun y6 => if y6 = 0 then (bdN (fM_fails g1 v0 1 1) (fun y12 g14 => some (y12, g14))) else (bdN (fM_fails g1 v0 0 1) (fun y16 g18 => some (y16, g18)))) else none)
noncomputable def jM_process_24 (g : gH) (v0 : Int) (v1 : Int) (v2 : Int) (s0 : Int) (s1 : Int) : Option (Int × gH) :=
  if kd s0 = 7 then bdN (fM_fails g s0 s1 2) (fun y14 g16 => if y14 = 0 then (if v2 = 0 then (if kd (g16 v0 0) = 20 ∧ (0 : Int) ≤ (w32 (60 + v1)) ∧ (w32 (60 + v1)) < sz (g16 v0 0) then some ((g16 (g16 v0 0) (w32 (60 + v1))), g16) else none) else if v2 = 1 then (if kd (g16 v0 0) = 20 ∧ (0 : Int) ≤ (w32 (100 + v1)) ∧ (w32 (100 + v1)) < sz (g16 v0 0) then some ((g16 (g16 v0 0) (w32 (100 + v1))), g16) else none) else if v2 = 2 then (bdP (fM_roomOf g16 v0 v1) (fun y32 => some (y32, g16))) else if v2 = 3 then (bdP (fM_childrenOf g16 v0 v1 0) (fun y38 => some (y38, g16))) else if v2 = 4 then (bdP (fM_childrenOf g16 v0 v1 1) (fun y44 => some (y44, g16))) else if v2 = 5 then (if kd (g16 v0 0) = 20 ∧ (0 : Int) ≤ (w32 (140 + v1)) ∧ (w32 (140 + v1)) < sz (g16 v0 0) then some ((g16 (g16 v0 0) (w32 (140 + v1))), g16) else none) else if v2 = 6 then (if kd (g16 v0 0) = 20 ∧ (0 : Int) ≤ (w32 (180 + v1)) ∧ (w32 (180 + v1)) < sz (g16 v0 0) then some ((g16 (g16 v0 0) (w32 (180 + v1))), g16) else none) else if v2 = 7 then (if kd (g16 v0 0) = 20 ∧ (0 : Int) ≤ (w32 (220 + v1)) ∧ (w32 (220 + v1)) < sz (g16 v0 0) then some ((g16 (g16 v0 0) (w32 (220 + v1))), g16) else none) else if v2 = 8 then (if kd (g16 v0 0) = 20 ∧ (0 : Int) ≤ (w32 (260 + v1)) ∧ (w32 (260 + v1)) < sz (g16 v0 0) then some ((g16 (g16 v0 0) (w32 (260 + v1))), g16) else none) else if v2 = 9 then (bdP (fM_dutiesOf g16 v0 v1) (fun y70 => some (y70, g16))) else if v2 = 10 then (if kd (g16 v0 0) = 20 ∧ (0 : Int) ≤ (w32 (300 + v1)) ∧ (w32 (300 + v1)) < sz (g16 v0 0) then some ((g16 (g16 v0 0) (w32 (300 + v1))), g16) else none) else if v2 = 11 then (if kd (g16 v0 0) = 20 ∧ (0 : Int) ≤ (w32 (340 + v1)) ∧ (w32 (340 + v1)) < sz (g16 v0 0) then some ((g16 (g16 v0 0) (w32 (340 + v1))), g16) else none) else if v2 = 12 then (if kd (g16 v0 0) = 20 ∧ (0 : Int) ≤ (w32 (380 + v1)) ∧ (w32 (380 + v1)) < sz (g16 v0 0) then some ((g16 (g16 v0 0) (w32 (380 + v1))), g16) else none) else if v2 = 13 then (if kd (g16 v0 0) = 20 ∧ (0 : Int) ≤ (w32 (420 + v1)) ∧ (w32 (420 + v1)) < sz (g16 v0 0) then some ((g16 (g16 v0 0) (w32 (420 + v1))), g16) else none) else (bdP (fM_willsOf g16 v0 v1) (fun y94 => some (y94, g16)))) else (some (0, g16))) else none
noncomputable def fM_process (g : gH) (v0 : Int) (v1 : Int) (v2 : Int) : Option (Int × gH) :=
  bdN (fM_noProcess g v0 v1) (fun y1 g3 => if y1 = 0 then (bdP (fM_inRange g3 v2 0 14) (fun y7 => if y7 = 0 then (jM_process_24 g3 v0 v1 v2 v0 1) else (jM_process_24 g3 v0 v1 v2 v0 0))) else (some (0, g3)))
noncomputable def fM_noDuty (g : gH) (v0 : Int) (v1 : Int) (v2 : Int) : Option (Int × gH) :=
  bdP (fM_inRange g v1 0 7) (fun y1 => if y1 = 0 then (bdN (fM_fails g v0 1 v2) (fun y7 g9 => some (y7, g9))) else (bdN (fM_fails g v0 0 v2) (fun y11 g13 => some (y11, g13))))
noncomputable def fM_holder (g : gH) (v0 : Int) (v1 : Int) : Option (Int × gH) :=
  bnd (pU g v0 8 0) (fun g1 => bdN (fM_noDuty g1 v0 v1 1) (fun y3 g5 => if y3 = 0 then (if kd (g5 v0 0) = 20 ∧ (0 : Int) ≤ (w32 (11 + v1)) ∧ (w32 (11 + v1)) < sz (g5 v0 0) then some ((g5 (g5 v0 0) (w32 (11 + v1))), g5) else none) else (some (0, g5))))
noncomputable def fM_rule (g : gH) (v0 : Int) (v1 : Int) : Option (Int × gH) :=
  bnd (pU g v0 8 0) (fun g1 => if kd (g1 v0 0) = 20 ∧ (0 : Int) ≤ 5 ∧ 5 < sz (g1 v0 0) then bdP (fM_inRange g1 v1 0 (w32 ((g1 (g1 v0 0) 5) - 1))) (fun y6 => if y6 = 0 then (some ((-1), g1)) else (if kd (g1 v0 0) = 20 ∧ (0 : Int) ≤ (w32 (6 + v1)) ∧ (w32 (6 + v1)) < sz (g1 v0 0) then some ((g1 (g1 v0 0) (w32 (6 + v1))), g1) else none)) else none)
noncomputable def bM_deep_4 (g : gH) (v0 : Int) (X4 : Int → Int → Option Int) (v2 : Int) (v3 : Int) : Option Int :=
  if v3 = 0 then (some v2) else (if kd (g v0 0) = 20 ∧ (0 : Int) ≤ (w32 (60 + v3)) ∧ (w32 (60 + v3)) < sz (g v0 0) then X4 (w32 (v2 + 1)) (g (g v0 0) (w32 (60 + v3))) else none)
noncomputable def lM_deep_4 (g : gH) (v0 : Int) (n : Nat) : Int → Int → Option Int := Nat.rec (motive := fun _ => Int → Int → Option Int) (fun _ _ => none) (fun _ ih => bM_deep_4 g v0 ih) n
noncomputable def fM_deep (g : gH) (v0 : Int) (v1 : Int) : Option Int :=
  lM_deep_4 g v0 fu 0 v1
noncomputable def fM_isGone (g : gH) (v0 : Int) (v1 : Int) : Option Int :=
  if kd (g v0 0) = 20 ∧ (0 : Int) ≤ (w32 (140 + v1)) ∧ (w32 (140 + v1)) < sz (g v0 0) then if (g (g v0 0) (w32 (140 + v1))) = 2 then (some 1) else (some 0) else none
noncomputable def fM_depth (g : gH) (v0 : Int) (v1 : Int) : Option (Int × gH) :=
  bdN (fM_noProcess g v0 v1) (fun y1 g3 => if y1 = 0 then (bdP (fM_isGone g3 v0 v1) (fun y7 => bdN (fM_fails g3 v0 y7 2) (fun y11 g13 => if y11 = 0 then (bdP (fM_deep g13 v0 v1) (fun y17 => some (y17, g13))) else (some (0, g13))))) else (some (0, g3)))
noncomputable def jM_isOver_32 (g : gH) (v3 : Int) : Option Int :=
  if v3 = 0 then (some 0) else (some 1)
noncomputable def bM_isOver_2 (g : gH) (v0 : Int) (v1 : Int) (X2 : Int → Option Int) (v3 : Int) : Option Int :=
  if v3 = 0 then (jM_isOver_32 g v3) else (if kd (g v0 0) = 20 ∧ (0 : Int) ≤ (w32 (60 + v3)) ∧ (w32 (60 + v3)) < sz (g v0 0) then if (g (g v0 0) (w32 (60 + v3))) = v1 then (jM_isOver_32 g v3) else (if kd (g v0 0) = 20 ∧ (0 : Int) ≤ (w32 (60 + v3)) ∧ (w32 (60 + v3)) < sz (g v0 0) then X2 (g (g v0 0) (w32 (60 + v3))) else none) else none)
noncomputable def lM_isOver_2 (g : gH) (v0 : Int) (v1 : Int) (n : Nat) : Int → Option Int := Nat.rec (motive := fun _ => Int → Option Int) (fun _ => none) (fun _ ih => bM_isOver_2 g v0 v1 ih) n
noncomputable def fM_isOver (g : gH) (v0 : Int) (v1 : Int) (v2 : Int) : Option Int :=
  lM_isOver_2 g v0 v1 fu v2
noncomputable def fM_isAbove (g : gH) (v0 : Int) (v1 : Int) (v2 : Int) : Option (Int × gH) :=
  bdN (fM_noProcess g v0 v1) (fun y1 g3 => if y1 = 0 then (bdN (fM_noProcess g3 v0 v2) (fun y7 g9 => if y7 = 0 then (bdP (fM_isGone g9 v0 v1) (fun y13 => if y13 = 0 then (bdP (fM_isGone g9 v0 v2) (fun y19 => if y19 = 0 then (if v1 = v2 then (some (0, g9)) else (bdP (fM_isOver g9 v0 v1 v2) (fun y27 => if y27 = 0 then (some (0, g9)) else (some (1, g9))))) else (some (0, g9)))) else (some (0, g9)))) else (some (0, g9)))) else (some (0, g3)))
noncomputable def bM_meets_2 (g : gH) (v0 : Int) (v2 : Int) (X2 : Int → Option Int) (v3 : Int) : Option Int :=
  if v3 = v2 then (some v3) else (bdP (fM_isOver g v0 v3 v2) (fun y3 => if y3 = 0 then (if kd (g v0 0) = 20 ∧ (0 : Int) ≤ (w32 (60 + v3)) ∧ (w32 (60 + v3)) < sz (g v0 0) then X2 (g (g v0 0) (w32 (60 + v3))) else none) else (some v3)))
noncomputable def lM_meets_2 (g : gH) (v0 : Int) (v2 : Int) (n : Nat) : Int → Option Int := Nat.rec (motive := fun _ => Int → Option Int) (fun _ => none) (fun _ ih => bM_meets_2 g v0 v2 ih) n
noncomputable def fM_meets (g : gH) (v0 : Int) (v1 : Int) (v2 : Int) : Option Int :=
  lM_meets_2 g v0 v2 fu v1
noncomputable def jM_anyGone_38 (g : gH) (s0 : Int) (s1 : Int) : Option (Int × gH) :=
  if kd s0 = 7 then bdN (fM_fails g s0 s1 2) (fun y26 g28 => if y26 = 0 then (some (0, g28)) else (some (1, g28))) else none
noncomputable def jM_anyGone_33 (g : gH) (s0 : Int) : Option (Int × gH) :=
  jM_anyGone_38 g s0 1
noncomputable def fM_anyGone (g : gH) (v0 : Int) (v1 : Int) (v2 : Int) : Option (Int × gH) :=
  bdN (fM_noProcess g v0 v1) (fun y1 g3 => if y1 = 0 then (bdN (fM_noProcess g3 v0 v2) (fun y7 g9 => if y7 = 0 then (bdP (fM_isGone g9 v0 v1) (fun y13 => if y13 = 0 then (bdP (fM_isGone g9 v0 v2) (fun y19 => if y19 = 0 then (jM_anyGone_38 g9 v0 0) else (jM_anyGone_33 g9 v0))) else (jM_anyGone_33 g9 v0))) else (some (1, g9)))) else (some (1, g3)))
noncomputable def fM_meet (g : gH) (v0 : Int) (v1 : Int) (v2 : Int) : Option (Int × gH) :=
  bdN (fM_anyGone g v0 v1 v2) (fun y1 g3 => if y1 = 0 then (bdP (fM_meets g3 v0 v1 v2) (fun y7 => some (y7, g3))) else (some (0, g3)))
noncomputable def fM_apart (g : gH) (v0 : Int) (v1 : Int) (v2 : Int) : Option (Int × gH) :=
  bdN (fM_anyGone g v0 v1 v2) (fun y1 g3 => if y1 = 0 then (bdP (fM_deep g3 v0 v1) (fun y7 => bdP (fM_deep g3 v0 v2) (fun y11 => bdP (fM_meets g3 v0 v1 v2) (fun y15 => bdP (fM_deep g3 v0 y15) (fun y19 => some ((w32 ((w32 (y7 + y11)) - (opI 0 2 y19))), g3)))))) else (some (0, g3)))
noncomputable def bM_belowOf_4 (g : gH) (v0 : Int) (v1 : Int) (X4 : Int → Int → Option Int) (v2 : Int) (v3 : Int) : Option Int :=
  if kd (g v0 0) = 20 ∧ (0 : Int) ≤ 0 ∧ 0 < sz (g v0 0) then if v3 < (g (g v0 0) 0) then (bdP (fM_runs g v0 v3) (fun y6 => if y6 = 0 then (X4 (w32 (v2 + 0)) (w32 (v3 + 1))) else (bdP (fM_isOver g v0 v1 v3) (fun y12 => if y12 = 0 then (X4 (w32 (v2 + 0)) (w32 (v3 + 1))) else (X4 (w32 (v2 + 1)) (w32 (v3 + 1))))))) else (some v2) else none
noncomputable def lM_belowOf_4 (g : gH) (v0 : Int) (v1 : Int) (n : Nat) : Int → Int → Option Int := Nat.rec (motive := fun _ => Int → Int → Option Int) (fun _ _ => none) (fun _ ih => bM_belowOf_4 g v0 v1 ih) n
noncomputable def fM_belowOf (g : gH) (v0 : Int) (v1 : Int) : Option Int :=
  lM_belowOf_4 g v0 v1 fu 0 1
noncomputable def fM_below (g : gH) (v0 : Int) (v1 : Int) : Option (Int × gH) :=
  bdN (fM_noProcess g v0 v1) (fun y1 g3 => if y1 = 0 then (bdP (fM_runs g3 v0 v1) (fun y7 => if y7 = 0 then (some (0, g3)) else (bdP (fM_belowOf g3 v0 v1) (fun y13 => some (y13, g3))))) else (some (0, g3)))
noncomputable def bM_runningMany_4 (g : gH) (v0 : Int) (X4 : Int → Int → Option Int) (v1 : Int) (v2 : Int) : Option Int :=
  if kd (g v0 0) = 20 ∧ (0 : Int) ≤ 0 ∧ 0 < sz (g v0 0) then if v2 < (g (g v0 0) 0) then (bdP (fM_runs g v0 v2) (fun y6 => if y6 = 0 then (X4 (w32 (v1 + 0)) (w32 (v2 + 1))) else (X4 (w32 (v1 + 1)) (w32 (v2 + 1))))) else (some v1) else none
noncomputable def lM_runningMany_4 (g : gH) (v0 : Int) (n : Nat) : Int → Int → Option Int := Nat.rec (motive := fun _ => Int → Int → Option Int) (fun _ _ => none) (fun _ ih => bM_runningMany_4 g v0 ih) n
noncomputable def fM_runningMany (g : gH) (v0 : Int) : Option Int :=
  lM_runningMany_4 g v0 fu 0 0
noncomputable def jM_nextChild_28 (g : gH) (v0 : Int) (v3 : Int) : Option Int :=
  if kd (g v0 0) = 20 ∧ (0 : Int) ≤ 0 ∧ 0 < sz (g v0 0) then if v3 < (g (g v0 0) 0) then (some v3) else (some (-1)) else none
noncomputable def bM_nextChild_2 (g : gH) (v0 : Int) (v1 : Int) (X2 : Int → Option Int) (v3 : Int) : Option Int :=
  if kd (g v0 0) = 20 ∧ (0 : Int) ≤ 0 ∧ 0 < sz (g v0 0) then if v3 < (g (g v0 0) 0) then (bdP (fM_isChild g v0 v3 v1 0) (fun y6 => if y6 = 0 then (X2 (w32 (v3 + 1))) else (jM_nextChild_28 g v0 v3))) else (jM_nextChild_28 g v0 v3) else none
noncomputable def lM_nextChild_2 (g : gH) (v0 : Int) (v1 : Int) (n : Nat) : Int → Option Int := Nat.rec (motive := fun _ => Int → Option Int) (fun _ => none) (fun _ ih => bM_nextChild_2 g v0 v1 ih) n
noncomputable def fM_nextChild (g : gH) (v0 : Int) (v1 : Int) (v2 : Int) : Option Int :=
  lM_nextChild_2 g v0 v1 fu v2
noncomputable def bM_walkOn_9 (g : gH) (v0 : Int) (X9 : Int → Int → Option Int) (v2 : Int) (v3 : Int) : Option Int :=
  if v2 = (-1) then (if v3 = 0 then (some v2) else (if kd (g v0 0) = 20 ∧ (0 : Int) ≤ (w32 (60 + v3)) ∧ (w32 (60 + v3)) < sz (g v0 0) then bdP (fM_nextChild g v0 (g (g v0 0) (w32 (60 + v3))) (w32 (v3 + 1))) (fun y12 => if kd (g v0 0) = 20 ∧ (0 : Int) ≤ (w32 (60 + v3)) ∧ (w32 (60 + v3)) < sz (g v0 0) then X9 y12 (g (g v0 0) (w32 (60 + v3))) else none) else none)) else (some v2)
noncomputable def lM_walkOn_9 (g : gH) (v0 : Int) (n : Nat) : Int → Int → Option Int := Nat.rec (motive := fun _ => Int → Int → Option Int) (fun _ _ => none) (fun _ ih => bM_walkOn_9 g v0 ih) n
noncomputable def fM_walkOn (g : gH) (v0 : Int) (v1 : Int) : Option Int :=
  bdP (fM_nextChild g v0 v1 0) (fun y1 => lM_walkOn_9 g v0 fu y1 v1)
noncomputable def bM_walked_38 (g : gH) (v0 : Int) (v1 : Int) (X38 : Int → Int → Option (Int × gH)) (v2 : Int) (v3 : Int) : Option (Int × gH) :=
  if v3 < v1 then (bdP (fM_walkOn g v0 v2) (fun y22 => X38 y22 (w32 (v3 + 1)))) else (some (v2, g))
noncomputable def lM_walked_38 (g : gH) (v0 : Int) (v1 : Int) (n : Nat) : Int → Int → Option (Int × gH) := Nat.rec (motive := fun _ => Int → Int → Option (Int × gH)) (fun _ _ => none) (fun _ ih => bM_walked_38 g v0 v1 ih) n
noncomputable def jM_walked_25 (g : gH) (v0 : Int) (v1 : Int) (s0 : Int) (s1 : Int) : Option (Int × gH) :=
  if kd s0 = 7 then bdN (fM_fails g s0 s1 1) (fun y14 g16 => if y14 = 0 then (lM_walked_38 g16 v0 v1 fu 0 0) else (some (0, g16))) else none
noncomputable def fM_walked (g : gH) (v0 : Int) (v1 : Int) : Option (Int × gH) :=
  bnd (pU g v0 8 0) (fun g1 => bdP (fM_runningMany g1 v0) (fun y3 => bdP (fM_inRange g1 v1 0 (w32 (y3 - 1))) (fun y7 => if y7 = 0 then (jM_walked_25 g1 v0 v1 v0 1) else (jM_walked_25 g1 v0 v1 v0 0))))
noncomputable def bM_atDepth_9 (g : gH) (v0 : Int) (v1 : Int) (X9 : Int → Int → Option (Int × gH)) (v2 : Int) (v3 : Int) : Option (Int × gH) :=
  if kd (g v0 0) = 20 ∧ (0 : Int) ≤ 0 ∧ 0 < sz (g v0 0) then if v3 < (g (g v0 0) 0) then (bdP (fM_runs g v0 v3) (fun y8 => if y8 = 0 then (X9 (w32 (v2 + 0)) (w32 (v3 + 1))) else (bdP (fM_deep g v0 v3) (fun y14 => if y14 = v1 then (X9 (w32 (v2 + 1)) (w32 (v3 + 1))) else (X9 (w32 (v2 + 0)) (w32 (v3 + 1))))))) else (some (v2, g)) else none
noncomputable def lM_atDepth_9 (g : gH) (v0 : Int) (v1 : Int) (n : Nat) : Int → Int → Option (Int × gH) := Nat.rec (motive := fun _ => Int → Int → Option (Int × gH)) (fun _ _ => none) (fun _ ih => bM_atDepth_9 g v0 v1 ih) n
noncomputable def fM_atDepth (g : gH) (v0 : Int) (v1 : Int) : Option (Int × gH) :=
  bnd (pU g v0 8 0) (fun g1 => lM_atDepth_9 g1 v0 v1 fu 0 0)
noncomputable def bM_highest_4 (g : gH) (v0 : Int) (X4 : Int → Int → Option Int) (v1 : Int) (v2 : Int) : Option Int :=
  if kd (g v0 0) = 20 ∧ (0 : Int) ≤ 0 ∧ 0 < sz (g v0 0) then if v2 < (g (g v0 0) 0) then (bdP (fM_runs g v0 v2) (fun y6 => if y6 = 0 then (X4 v1 (w32 (v2 + 1))) else (bdP (fM_deep g v0 v2) (fun y12 => X4 (gmax v1 y12) (w32 (v2 + 1)))))) else (some v1) else none
noncomputable def lM_highest_4 (g : gH) (v0 : Int) (n : Nat) : Int → Int → Option Int := Nat.rec (motive := fun _ => Int → Int → Option Int) (fun _ _ => none) (fun _ ih => bM_highest_4 g v0 ih) n
noncomputable def fM_highest (g : gH) (v0 : Int) : Option Int :=
  lM_highest_4 g v0 fu 0 0
noncomputable def fM_height (g : gH) (v0 : Int) : Option (Int × gH) :=
  bnd (pU g v0 8 0) (fun g1 => bdP (fM_highest g1 v0) (fun y3 => some (y3, g1)))
noncomputable def jM_remembers_37 (g : gH) (v0 : Int) : Option (Int × gH) :=
  bdN (fM_copies g (g v0 0) 0 (g v0 4) (opI 0 780 (g v0 6)) 780) (fun y16 g18 => bnd (pU g18 v0 6 (w32 ((g18 v0 6) + 1))) (fun g21 => some (0, g21)))
noncomputable def fM_remembers (g : gH) (v0 : Int) : Option (Int × gH) :=
  if (g v0 6) = 10 then (bdN (fM_copies g (g v0 4) 780 (g v0 4) 0 7020) (fun y6 g8 => bnd (pU g8 v0 6 (w32 ((g8 v0 6) - 1))) (fun g11 => jM_remembers_37 g11 v0))) else (jM_remembers_37 g v0)
noncomputable def fM_isSmall (g : gH) (v0 : Int) : Option Int :=
  bdP (fM_inRange g v0 0 9) (fun y1 => some y1)
noncomputable def jM_spawn_70 (g : gH) (v0 : Int) (v1 : Int) (v2 : Int) (v3 : Int) (v4 : Int) (s0 : Int) (s1 : Int) : Option (Int × gH) :=
  if kd s0 = 7 then bdN (fM_fails g s0 s1 3) (fun y44 g46 => if y44 = 0 then (bdN (fM_remembers g46 v0) (fun y50 g52 => bdN (fM_comes g52 v0 v1 v2 v3 v4) (fun y54 g56 => some (y54, g56)))) else (some (0, g46))) else none
noncomputable def jM_spawn_65 (g : gH) (v0 : Int) (v1 : Int) (v2 : Int) (v3 : Int) (v4 : Int) (s0 : Int) : Option (Int × gH) :=
  jM_spawn_70 g v0 v1 v2 v3 v4 s0 1
noncomputable def jM_spawn_36 (g : gH) (v0 : Int) (v1 : Int) (v2 : Int) (v3 : Int) (v4 : Int) (s0 : Int) (s1 : Int) : Option (Int × gH) :=
  if kd s0 = 7 then bdN (fM_fails g s0 s1 2) (fun y26 g28 => if y26 = 0 then (bdP (fM_roomOf g28 v0 v1) (fun y32 => if y32 = 0 then (jM_spawn_65 g28 v0 v1 v2 v3 v4 v0) else (if kd (g28 v0 0) = 20 ∧ (0 : Int) ≤ 0 ∧ 0 < sz (g28 v0 0) then if (g28 (g28 v0 0) 0) = 40 then (jM_spawn_65 g28 v0 v1 v2 v3 v4 v0) else (jM_spawn_70 g28 v0 v1 v2 v3 v4 v0 0) else none))) else (some (0, g28))) else none
noncomputable def jM_spawn_31 (g : gH) (v0 : Int) (v1 : Int) (v2 : Int) (v3 : Int) (v4 : Int) (s0 : Int) : Option (Int × gH) :=
  jM_spawn_36 g v0 v1 v2 v3 v4 s0 1
noncomputable def fM_spawn (g : gH) (v0 : Int) (v1 : Int) (v2 : Int) (v3 : Int) (v4 : Int) : Option (Int × gH) :=
  bdN (fM_noProcess g v0 v1) (fun y1 g3 => if y1 = 0 then (bdP (fM_isSmall g3 v2) (fun y7 => if y7 = 0 then (jM_spawn_31 g3 v0 v1 v2 v3 v4 v0) else (bdP (fM_isSmall g3 v3) (fun y13 => if y13 = 0 then (jM_spawn_31 g3 v0 v1 v2 v3 v4 v0) else (bdP (fM_isSmall g3 v4) (fun y19 => if y19 = 0 then (jM_spawn_31 g3 v0 v1 v2 v3 v4 v0) else (jM_spawn_36 g3 v0 v1 v2 v3 v4 v0 0))))))) else (some (0, g3)))
noncomputable def fM_canAdopt (g : gH) (v0 : Int) (v1 : Int) (v2 : Int) : Option Int :=
  bdP (fM_runs g v0 v1) (fun y1 => if y1 = 0 then (some 0) else (if v1 = v2 then (some 0) else (bdP (fM_isOver g v0 v2 v1) (fun y9 => if y9 = 0 then (if kd (g v0 5) = 22 ∧ (0 : Int) ≤ v1 ∧ v1 < sz (g v0 5) then if (g (g v0 5) v1) = 0 then (bdP (fM_roomOf g v0 v1) (fun y20 => if 0 < y20 then (bdP (fM_deep g v0 v1) (fun y26 => if kd (g v0 0) = 20 ∧ (0 : Int) ≤ 59 ∧ 59 < sz (g v0 0) then if y26 < (g (g v0 0) 59) then (if kd (g v0 0) = 20 ∧ (0 : Int) ≤ (w32 (180 + v2)) ∧ (w32 (180 + v2)) < sz (g v0 0) then bdP (fM_refusesGroup g v0 v1 (g (g v0 0) (w32 (180 + v2)))) (fun y38 => if y38 = 0 then (some 1) else (some 0)) else none) else (some 0) else none)) else (some 0))) else (some 0) else none) else (some 0)))))
noncomputable def bM_nearest_2 (g : gH) (v0 : Int) (v1 : Int) (v2 : Int) (X2 : Int → Option Int) (v3 : Int) : Option Int :=
  if v3 = 0 then (some (-1)) else (if v3 = v2 then (if kd (g v0 0) = 20 ∧ (0 : Int) ≤ (w32 (60 + v3)) ∧ (w32 (60 + v3)) < sz (g v0 0) then X2 (g (g v0 0) (w32 (60 + v3))) else none) else (bdP (fM_canAdopt g v0 v3 v1) (fun y8 => if y8 = 0 then (if kd (g v0 0) = 20 ∧ (0 : Int) ≤ (w32 (60 + v3)) ∧ (w32 (60 + v3)) < sz (g v0 0) then X2 (g (g v0 0) (w32 (60 + v3))) else none) else (some v3))))
noncomputable def lM_nearest_2 (g : gH) (v0 : Int) (v1 : Int) (v2 : Int) (n : Nat) : Int → Option Int := Nat.rec (motive := fun _ => Int → Option Int) (fun _ => none) (fun _ ih => bM_nearest_2 g v0 v1 v2 ih) n
noncomputable def fM_nearest (g : gH) (v0 : Int) (v1 : Int) (v2 : Int) : Option Int :=
  lM_nearest_2 g v0 v1 v2 fu v2
noncomputable def jM_roomiestFor_51 (X6 : Int → Int → Option Int) (g : gH) (v0 : Int) (v1 : Int) (v2 : Int) (v3 : Int) (v4 : Int) (v5 : Int) : Option Int :=
  bdP (fM_canAdopt g v0 v5 v1) (fun y18 => if y18 = 0 then (X6 v4 (w32 (v5 + 1))) else (if v4 = (-1) then (X6 v5 (w32 (v5 + 1))) else (bdP (fM_roomOf g v0 v5) (fun y26 => bdP (fM_roomOf g v0 v4) (fun y30 => if y30 < y26 then (X6 v5 (w32 (v5 + 1))) else (X6 v4 (w32 (v5 + 1))))))))
noncomputable def bM_roomiestFor_6 (g : gH) (v0 : Int) (v1 : Int) (v2 : Int) (v3 : Int) (X6 : Int → Int → Option Int) (v4 : Int) (v5 : Int) : Option Int :=
  if kd (g v0 0) = 20 ∧ (0 : Int) ≤ 0 ∧ 0 < sz (g v0 0) then if v5 < (g (g v0 0) 0) then (if v5 = v2 then (X6 v4 (w32 (v5 + 1))) else (if v3 = 0 then (jM_roomiestFor_51 X6 g v0 v1 v2 v3 v4 v5) else (if kd (g v0 0) = 20 ∧ (0 : Int) ≤ (w32 (180 + v5)) ∧ (w32 (180 + v5)) < sz (g v0 0) then if kd (g v0 0) = 20 ∧ (0 : Int) ≤ (w32 (180 + v1)) ∧ (w32 (180 + v1)) < sz (g v0 0) then if (g (g v0 0) (w32 (180 + v5))) = (g (g v0 0) (w32 (180 + v1))) then (jM_roomiestFor_51 X6 g v0 v1 v2 v3 v4 v5) else (X6 v4 (w32 (v5 + 1))) else none else none))) else (some v4) else none
noncomputable def lM_roomiestFor_6 (g : gH) (v0 : Int) (v1 : Int) (v2 : Int) (v3 : Int) (n : Nat) : Int → Int → Option Int := Nat.rec (motive := fun _ => Int → Int → Option Int) (fun _ _ => none) (fun _ ih => bM_roomiestFor_6 g v0 v1 v2 v3 ih) n
noncomputable def fM_roomiestFor (g : gH) (v0 : Int) (v1 : Int) (v2 : Int) (v3 : Int) : Option Int :=
  lM_roomiestFor_6 g v0 v1 v2 v3 fu (-1) 1
noncomputable def bM_kinOf_8 (g : gH) (v0 : Int) (v1 : Int) (v2 : Int) (X8 : Int → Option Int) (v3 : Int) : Option Int :=
  if kd (g v0 0) = 20 ∧ (0 : Int) ≤ 0 ∧ 0 < sz (g v0 0) then if v3 < (g (g v0 0) 0) then (if v3 = v2 then (X8 (w32 (v3 + 1))) else (if kd (g v0 0) = 20 ∧ (0 : Int) ≤ (w32 (60 + v2)) ∧ (w32 (60 + v2)) < sz (g v0 0) then bdP (fM_isChild g v0 v3 (g (g v0 0) (w32 (60 + v2))) 0) (fun y13 => if y13 = 0 then (X8 (w32 (v3 + 1))) else (bdP (fM_canAdopt g v0 v3 v1) (fun y19 => if y19 = 0 then (X8 (w32 (v3 + 1))) else (some v3)))) else none)) else (some (-1)) else none
noncomputable def lM_kinOf_8 (g : gH) (v0 : Int) (v1 : Int) (v2 : Int) (n : Nat) : Int → Option Int := Nat.rec (motive := fun _ => Int → Option Int) (fun _ => none) (fun _ ih => bM_kinOf_8 g v0 v1 v2 ih) n
noncomputable def fM_kinOf (g : gH) (v0 : Int) (v1 : Int) (v2 : Int) : Option Int :=
  if v2 = 0 then (some (-1)) else (lM_kinOf_8 g v0 v1 v2 fu 1)
noncomputable def bM_oldest_2 (g : gH) (v0 : Int) (v1 : Int) (v2 : Int) (X2 : Int → Option Int) (v3 : Int) : Option Int :=
  if kd (g v0 0) = 20 ∧ (0 : Int) ≤ 0 ∧ 0 < sz (g v0 0) then if v3 < (g (g v0 0) 0) then (if v3 = v2 then (X2 (w32 (v3 + 1))) else (bdP (fM_canAdopt g v0 v3 v1) (fun y8 => if y8 = 0 then (X2 (w32 (v3 + 1))) else (some v3)))) else (some (-1)) else none
noncomputable def lM_oldest_2 (g : gH) (v0 : Int) (v1 : Int) (v2 : Int) (n : Nat) : Int → Option Int := Nat.rec (motive := fun _ => Int → Option Int) (fun _ => none) (fun _ ih => bM_oldest_2 g v0 v1 v2 ih) n
noncomputable def fM_oldest (g : gH) (v0 : Int) (v1 : Int) (v2 : Int) : Option Int :=
  lM_oldest_2 g v0 v1 v2 fu 1
noncomputable def fM_findsBy (g : gH) (v0 : Int) (v1 : Int) (v2 : Int) (v3 : Int) : Option Int :=
  if v1 = 0 then (bdP (fM_nearest g v0 v2 v3) (fun y3 => some y3)) else if v1 = 1 then (bdP (fM_roomiestFor g v0 v2 v3 1) (fun y9 => some y9)) else if v1 = 2 then (bdP (fM_roomiestFor g v0 v2 v3 0) (fun y15 => some y15)) else if v1 = 3 then (bdP (fM_kinOf g v0 v2 v3) (fun y21 => some y21)) else (bdP (fM_oldest g v0 v2 v3) (fun y25 => some y25))
noncomputable def bM_adopterOf_2 (g : gH) (v0 : Int) (v1 : Int) (v2 : Int) (X2 : Int → Option Int) (v3 : Int) : Option Int :=
  if kd (g v0 0) = 20 ∧ (0 : Int) ≤ 5 ∧ 5 < sz (g v0 0) then if v3 < (g (g v0 0) 5) then (if kd (g v0 0) = 20 ∧ (0 : Int) ≤ (w32 (6 + v3)) ∧ (w32 (6 + v3)) < sz (g v0 0) then bdP (fM_findsBy g v0 (g (g v0 0) (w32 (6 + v3))) v1 v2) (fun y9 => if y9 = (-1) then (X2 (w32 (v3 + 1))) else (some y9)) else none) else (some 0) else none
noncomputable def lM_adopterOf_2 (g : gH) (v0 : Int) (v1 : Int) (v2 : Int) (n : Nat) : Int → Option Int := Nat.rec (motive := fun _ => Int → Option Int) (fun _ => none) (fun _ ih => bM_adopterOf_2 g v0 v1 v2 ih) n
noncomputable def fM_adopterOf (g : gH) (v0 : Int) (v1 : Int) (v2 : Int) : Option Int :=
  lM_adopterOf_2 g v0 v1 v2 fu 0
noncomputable def fM_adopts (g : gH) (v0 : Int) (v1 : Int) (v2 : Int) : Option (Int × gH) :=
  if kd (g v0 0) = 20 ∧ (0 : Int) ≤ (w32 (60 + v2)) ∧ (w32 (60 + v2)) < sz (g v0 0) then bnd (pU g (g v0 0) (w32 (60 + v2)) v1) (fun g3 => if kd (g3 v0 0) = 20 ∧ (0 : Int) ≤ (w32 (380 + v2)) ∧ (w32 (380 + v2)) < sz (g3 v0 0) then if kd (g3 v0 0) = 20 ∧ (0 : Int) ≤ (w32 (380 + v2)) ∧ (w32 (380 + v2)) < sz (g3 v0 0) then bnd (pU g3 (g3 v0 0) (w32 (380 + v2)) (w32 ((g3 (g3 v0 0) (w32 (380 + v2))) + 1))) (fun g9 => if kd (g9 v0 0) = 20 ∧ (0 : Int) ≤ 2 ∧ 2 < sz (g9 v0 0) then if kd (g9 v0 0) = 20 ∧ (0 : Int) ≤ 2 ∧ 2 < sz (g9 v0 0) then bnd (pU g9 (g9 v0 0) 2 (w32 ((g9 (g9 v0 0) 2) + 1))) (fun g15 => if kd (g15 v0 0) = 20 ∧ (0 : Int) ≤ 3 ∧ 3 < sz (g15 v0 0) then if v1 = 0 then (if kd (g15 v0 0) = 20 ∧ (0 : Int) ≤ 3 ∧ 3 < sz (g15 v0 0) then bnd (pU g15 (g15 v0 0) 3 (w32 ((g15 (g15 v0 0) 3) + 1))) (fun g23 => some (0, g23)) else none) else (if kd (g15 v0 0) = 20 ∧ (0 : Int) ≤ 3 ∧ 3 < sz (g15 v0 0) then bnd (pU g15 (g15 v0 0) 3 (w32 ((g15 (g15 v0 0) 3) + 0))) (fun g26 => some (0, g26)) else none) else none) else none else none) else none else none) else none
noncomputable def fM_replaces (g : gH) (v0 : Int) (v1 : Int) (v2 : Int) : Option (Int × gH) :=
  if kd (g v0 0) = 20 ∧ (0 : Int) ≤ (w32 (60 + v1)) ∧ (w32 (60 + v1)) < sz (g v0 0) then if v2 = 0 then (some ((-1), g)) else (if kd (g v0 5) = 22 ∧ (0 : Int) ≤ (g (g v0 0) (w32 (60 + v1))) ∧ (g (g v0 0) (w32 (60 + v1))) < sz (g v0 5) then if (g (g v0 5) (g (g v0 0) (w32 (60 + v1)))) = 0 then (if kd (g v0 0) = 20 ∧ (0 : Int) ≤ (w32 (220 + (g (g v0 0) (w32 (60 + v1))))) ∧ (w32 (220 + (g (g v0 0) (w32 (60 + v1))))) < sz (g v0 0) then if (g (g v0 0) (w32 (220 + (g (g v0 0) (w32 (60 + v1)))))) = 0 then (some ((-1), g)) else (if kd (g v0 0) = 20 ∧ (0 : Int) ≤ 0 ∧ 0 < sz (g v0 0) then if (g (g v0 0) 0) = 40 then (some ((-1), g)) else (if kd (g v0 0) = 20 ∧ (0 : Int) ≤ (w32 (220 + (g (g v0 0) (w32 (60 + v1))))) ∧ (w32 (220 + (g (g v0 0) (w32 (60 + v1))))) < sz (g v0 0) then if kd (g v0 0) = 20 ∧ (0 : Int) ≤ (w32 (220 + (g (g v0 0) (w32 (60 + v1))))) ∧ (w32 (220 + (g (g v0 0) (w32 (60 + v1))))) < sz (g v0 0) then bnd (pU g (g v0 0) (w32 (220 + (g (g v0 0) (w32 (60 + v1))))) (w32 ((g (g v0 0) (w32 (220 + (g (g v0 0) (w32 (60 + v1)))))) - 1))) (fun g25 => if kd (g25 v0 0) = 20 ∧ (0 : Int) ≤ 4 ∧ 4 < sz (g25 v0 0) then if kd (g25 v0 0) = 20 ∧ (0 : Int) ≤ 4 ∧ 4 < sz (g25 v0 0) then bnd (pU g25 (g25 v0 0) 4 (w32 ((g25 (g25 v0 0) 4) + 1))) (fun g31 => if kd (g31 v0 0) = 20 ∧ (0 : Int) ≤ (w32 (100 + v1)) ∧ (w32 (100 + v1)) < sz (g31 v0 0) then if kd (g31 v0 0) = 20 ∧ (0 : Int) ≤ (w32 (180 + v1)) ∧ (w32 (180 + v1)) < sz (g31 v0 0) then if kd (g31 v0 0) = 20 ∧ (0 : Int) ≤ (w32 (220 + v1)) ∧ (w32 (220 + v1)) < sz (g31 v0 0) then bdN (fM_comes g31 v0 (g (g v0 0) (w32 (60 + v1))) (g31 (g31 v0 0) (w32 (100 + v1))) (g31 (g31 v0 0) (w32 (180 + v1))) (g31 (g31 v0 0) (w32 (220 + v1)))) (fun y42 g44 => if kd (g44 v0 5) = 22 ∧ (0 : Int) ≤ y42 ∧ y42 < sz (g44 v0 5) then bnd (pU g44 (g44 v0 5) y42 0) (fun g48 => if kd (g48 v0 0) = 20 ∧ (0 : Int) ≤ (w32 (420 + v1)) ∧ (w32 (420 + v1)) < sz (g48 v0 0) then bnd (pU g48 (g48 v0 0) (w32 (420 + v1)) y42) (fun g52 => some (y42, g52)) else none) else none) else none else none else none) else none else none) else none else none) else none) else none) else (some ((-1), g)) else none) else none
noncomputable def bM_inheritor_37 (g : gH) (v0 : Int) (v1 : Int) (X37 : Int → Option Int) (v3 : Int) : Option Int :=
  if kd (g v0 0) = 20 ∧ (0 : Int) ≤ 0 ∧ 0 < sz (g v0 0) then if v3 < (g (g v0 0) 0) then (bdP (fM_isChild g v0 v3 v1 0) (fun y22 => if y22 = 0 then (X37 (w32 (v3 + 1))) else (if kd (g v0 5) = 22 ∧ (0 : Int) ≤ v3 ∧ v3 < sz (g v0 5) then if (g (g v0 5) v3) = 0 then (some v3) else (X37 (w32 (v3 + 1))) else none))) else (if kd (g v0 0) = 20 ∧ (0 : Int) ≤ (w32 (60 + v1)) ∧ (w32 (60 + v1)) < sz (g v0 0) then some (g (g v0 0) (w32 (60 + v1))) else none) else none
noncomputable def lM_inheritor_37 (g : gH) (v0 : Int) (v1 : Int) (n : Nat) : Int → Option Int := Nat.rec (motive := fun _ => Int → Option Int) (fun _ => none) (fun _ ih => bM_inheritor_37 g v0 v1 ih) n
noncomputable def fM_inheritor (g : gH) (v0 : Int) (v1 : Int) : Option Int :=
  if kd (g v0 0) = 20 ∧ (0 : Int) ≤ (w32 (260 + v1)) ∧ (w32 (260 + v1)) < sz (g v0 0) then if (g (g v0 0) (w32 (260 + v1))) = (-1) then (lM_inheritor_37 g v0 v1 fu 0) else (bdP (fM_runs g v0 (g (g v0 0) (w32 (260 + v1)))) (fun y6 => if y6 = 0 then (lM_inheritor_37 g v0 v1 fu 0) else (if kd (g v0 5) = 22 ∧ (0 : Int) ≤ (g (g v0 0) (w32 (260 + v1))) ∧ (g (g v0 0) (w32 (260 + v1))) < sz (g v0 5) then if (g (g v0 5) (g (g v0 0) (w32 (260 + v1)))) = 0 then (some (g (g v0 0) (w32 (260 + v1)))) else (lM_inheritor_37 g v0 v1 fu 0) else none))) else none
noncomputable def fM_heirOf (g : gH) (v0 : Int) (v1 : Int) (v2 : Int) : Option Int :=
  if kd (g v0 0) = 20 ∧ (0 : Int) ≤ (w32 ((w32 (460 + (opI 0 8 v1))) + v2)) ∧ (w32 ((w32 (460 + (opI 0 8 v1))) + v2)) < sz (g v0 0) then if (g (g v0 0) (w32 ((w32 (460 + (opI 0 8 v1))) + v2))) = (-1) then (bdP (fM_inheritor g v0 v1) (fun y6 => some y6)) else (bdP (fM_runs g v0 (g (g v0 0) (w32 ((w32 (460 + (opI 0 8 v1))) + v2)))) (fun y10 => if y10 = 0 then (bdP (fM_inheritor g v0 v1) (fun y16 => some y16)) else (if kd (g v0 5) = 22 ∧ (0 : Int) ≤ (g (g v0 0) (w32 ((w32 (460 + (opI 0 8 v1))) + v2))) ∧ (g (g v0 0) (w32 ((w32 (460 + (opI 0 8 v1))) + v2))) < sz (g v0 5) then if (g (g v0 5) (g (g v0 0) (w32 ((w32 (460 + (opI 0 8 v1))) + v2)))) = 0 then (some (g (g v0 0) (w32 ((w32 (460 + (opI 0 8 v1))) + v2)))) else (bdP (fM_inheritor g v0 v1) (fun y25 => some y25)) else none))) else none
noncomputable def bM_firstZombie_2 (g : gH) (v0 : Int) (v1 : Int) (X2 : Int → Option Int) (v2 : Int) : Option Int :=
  if kd (g v0 0) = 20 ∧ (0 : Int) ≤ 1 ∧ 1 < sz (g v0 0) then if v2 < (g (g v0 0) 1) then (if kd (g v0 0) = 20 ∧ (0 : Int) ≤ (w32 (19 + v2)) ∧ (w32 (19 + v2)) < sz (g v0 0) then bdP (fM_isChild g v0 (g (g v0 0) (w32 (19 + v2))) v1 1) (fun y9 => if y9 = 0 then (X2 (w32 (v2 + 1))) else (if kd (g v0 0) = 20 ∧ (0 : Int) ≤ (w32 (19 + v2)) ∧ (w32 (19 + v2)) < sz (g v0 0) then some (g (g v0 0) (w32 (19 + v2))) else none)) else none) else (some (-1)) else none
noncomputable def lM_firstZombie_2 (g : gH) (v0 : Int) (v1 : Int) (n : Nat) : Int → Option Int := Nat.rec (motive := fun _ => Int → Option Int) (fun _ => none) (fun _ ih => bM_firstZombie_2 g v0 v1 ih) n
noncomputable def fM_firstZombie (g : gH) (v0 : Int) (v1 : Int) : Option Int :=
  lM_firstZombie_2 g v0 v1 fu 0
noncomputable def bM_readsAll_8 (v0 : Int) (v1 : Int) (X8 : Int → Int → gH → Option (Int × gH)) (v2 : Int) (v3 : Int) (g : gH) : Option (Int × gH) :=
  if v3 = (-1) then (some (v2, g)) else (if kd (g v0 0) = 20 ∧ (0 : Int) ≤ (w32 (140 + v3)) ∧ (w32 (140 + v3)) < sz (g v0 0) then bnd (pU g (g v0 0) (w32 (140 + v3)) 2) (fun g9 => if kd (g9 v0 0) = 20 ∧ (0 : Int) ≤ (w32 (300 + v3)) ∧ (w32 (300 + v3)) < sz (g9 v0 0) then bdP (fM_firstZombie g9 v0 v1) (fun y14 => X8 (w32 (v2 + (g9 (g9 v0 0) (w32 (300 + v3))))) y14 g9) else none) else none)
noncomputable def lM_readsAll_8 (v0 : Int) (v1 : Int) (n : Nat) : Int → Int → gH → Option (Int × gH) := Nat.rec (motive := fun _ => Int → Int → gH → Option (Int × gH)) (fun _ _ _ => none) (fun _ ih => bM_readsAll_8 v0 v1 ih) n
noncomputable def fM_readsAll (g : gH) (v0 : Int) (v1 : Int) : Option (Int × gH) :=
  bdP (fM_firstZombie g v0 v1) (fun y1 => lM_readsAll_8 v0 v1 fu 0 y1 g)
noncomputable def jM_exits_253 (g : gH) (v0 : Int) (v4 : Int) (s0 : Int) : Option (Int × gH) :=
  if s0 < 0 then (some ((-1), g)) else (if kd (g v0 0) = 20 ∧ (0 : Int) ≤ 3 ∧ 3 < sz (g v0 0) then some ((w32 ((g (g v0 0) 3) - v4)), g) else none)
noncomputable def jM_exits_240 (g : gH) (v0 : Int) (v3 : Int) (v4 : Int) : Option (Int × gH) :=
  if v3 = 0 then (bdN (fM_readsAll g v0 0) (fun y108 g110 => jM_exits_253 g110 v0 v4 y108)) else (jM_exits_253 g v0 v4 0)
noncomputable def bM_exits_201 (v0 : Int) (v1 : Int) (v3 : Int) (v4 : Int) (X201 : Int → gH → Option (Int × gH)) (v6 : Int) (g : gH) : Option (Int × gH) :=
  if kd (g v0 0) = 20 ∧ (0 : Int) ≤ 0 ∧ 0 < sz (g v0 0) then if v6 < (g (g v0 0) 0) then (bdP (fM_isChild g v0 v6 v1 1) (fun y96 => if y96 = 0 then (X201 (w32 (v6 + 1)) g) else (if kd (g v0 0) = 20 ∧ (0 : Int) ≤ (w32 (60 + v6)) ∧ (w32 (60 + v6)) < sz (g v0 0) then bnd (pU g (g v0 0) (w32 (60 + v6)) v3) (fun g104 => X201 (w32 (v6 + 1)) g104) else none))) else (jM_exits_240 g v0 v3 v4) else none
noncomputable def lM_exits_201 (v0 : Int) (v1 : Int) (v3 : Int) (v4 : Int) (n : Nat) : Int → gH → Option (Int × gH) := Nat.rec (motive := fun _ => Int → gH → Option (Int × gH)) (fun _ _ => none) (fun _ ih => bM_exits_201 v0 v1 v3 v4 ih) n
noncomputable def bM_exits_134 (v0 : Int) (v1 : Int) (v3 : Int) (v4 : Int) (v5 : Int) (X134 : Int → gH → Option (Int × gH)) (v6 : Int) (g : gH) : Option (Int × gH) :=
  if kd (g v0 0) = 20 ∧ (0 : Int) ≤ 0 ∧ 0 < sz (g v0 0) then if v6 < (g (g v0 0) 0) then (bdP (fM_isChild g v0 v6 v1 0) (fun y57 => if y57 = 0 then (X134 (w32 (v6 + 1)) g) else (if v5 = (-1) then (bdP (fM_adopterOf g v0 v6 v1) (fun y65 => bdN (fM_adopts g v0 y65 v6) (fun y69 g71 => X134 (w32 (v6 + 1)) g71))) else (bdP (fM_roomOf g v0 v5) (fun y73 => if 0 < y73 then (bdN (fM_adopts g v0 v5 v6) (fun y79 g81 => X134 (w32 (v6 + 1)) g81)) else (bdP (fM_adopterOf g v0 v6 v1) (fun y83 => bdN (fM_adopts g v0 y83 v6) (fun y87 g89 => X134 (w32 (v6 + 1)) g89)))))))) else (lM_exits_201 v0 v1 v3 v4 fu 1 g) else none
noncomputable def lM_exits_134 (v0 : Int) (v1 : Int) (v3 : Int) (v4 : Int) (v5 : Int) (n : Nat) : Int → gH → Option (Int × gH) := Nat.rec (motive := fun _ => Int → gH → Option (Int × gH)) (fun _ _ => none) (fun _ ih => bM_exits_134 v0 v1 v3 v4 v5 ih) n
noncomputable def bM_exits_76 (v0 : Int) (v1 : Int) (v3 : Int) (v4 : Int) (v5 : Int) (X76 : Int → gH → Option (Int × gH)) (v6 : Int) (g : gH) : Option (Int × gH) :=
  if v6 < 8 then (if kd (g v0 0) = 20 ∧ (0 : Int) ≤ (w32 (11 + v6)) ∧ (w32 (11 + v6)) < sz (g v0 0) then if (g (g v0 0) (w32 (11 + v6))) = v1 then (if v5 = (-1) then (bdP (fM_heirOf g v0 v1 v6) (fun y42 => if kd (g v0 0) = 20 ∧ (0 : Int) ≤ (w32 (11 + v6)) ∧ (w32 (11 + v6)) < sz (g v0 0) then bnd (pU g (g v0 0) (w32 (11 + v6)) y42) (fun g47 => X76 (w32 (v6 + 1)) g47) else none)) else (if kd (g v0 0) = 20 ∧ (0 : Int) ≤ (w32 (11 + v6)) ∧ (w32 (11 + v6)) < sz (g v0 0) then bnd (pU g (g v0 0) (w32 (11 + v6)) v5) (fun g50 => X76 (w32 (v6 + 1)) g50) else none)) else (X76 (w32 (v6 + 1)) g) else none) else (lM_exits_134 v0 v1 v3 v4 v5 fu 1 g)
noncomputable def lM_exits_76 (v0 : Int) (v1 : Int) (v3 : Int) (v4 : Int) (v5 : Int) (n : Nat) : Int → gH → Option (Int × gH) := Nat.rec (motive := fun _ => Int → gH → Option (Int × gH)) (fun _ _ => none) (fun _ ih => bM_exits_76 v0 v1 v3 v4 v5 ih) n
noncomputable def fM_exits (g : gH) (v0 : Int) (v1 : Int) (v2 : Int) : Option (Int × gH) :=
  if kd (g v0 0) = 20 ∧ (0 : Int) ≤ (w32 (60 + v1)) ∧ (w32 (60 + v1)) < sz (g v0 0) then if kd (g v0 0) = 20 ∧ (0 : Int) ≤ 3 ∧ 3 < sz (g v0 0) then if kd (g v0 0) = 20 ∧ (0 : Int) ≤ (w32 (140 + v1)) ∧ (w32 (140 + v1)) < sz (g v0 0) then bnd (pU g (g v0 0) (w32 (140 + v1)) 1) (fun g9 => if kd (g9 v0 0) = 20 ∧ (0 : Int) ≤ (w32 (300 + v1)) ∧ (w32 (300 + v1)) < sz (g9 v0 0) then bnd (pU g9 (g9 v0 0) (w32 (300 + v1)) v2) (fun g13 => if kd (g13 v0 0) = 20 ∧ (0 : Int) ≤ 1 ∧ 1 < sz (g13 v0 0) then if kd (g13 v0 0) = 20 ∧ (0 : Int) ≤ (w32 (19 + (g13 (g13 v0 0) 1))) ∧ (w32 (19 + (g13 (g13 v0 0) 1))) < sz (g13 v0 0) then bnd (pU g13 (g13 v0 0) (w32 (19 + (g13 (g13 v0 0) 1))) v1) (fun g20 => if kd (g20 v0 0) = 20 ∧ (0 : Int) ≤ 1 ∧ 1 < sz (g20 v0 0) then if kd (g20 v0 0) = 20 ∧ (0 : Int) ≤ 1 ∧ 1 < sz (g20 v0 0) then bnd (pU g20 (g20 v0 0) 1 (w32 ((g20 (g20 v0 0) 1) + 1))) (fun g26 => bdN (fM_replaces g26 v0 v1 v2) (fun y28 g30 => lM_exits_76 v0 v1 (g (g v0 0) (w32 (60 + v1))) (g (g v0 0) 3) y28 fu 0 g30)) else none else none) else none else none) else none) else none else none else none
noncomputable def jM_noExit_50 (g : gH) (s0 : Int) (s1 : Int) : Option (Int × gH) :=
  if kd s0 = 7 then bdN (fM_fails g s0 s1 3) (fun y29 g31 => if y29 = 0 then (some (0, g31)) else (some (1, g31))) else none
noncomputable def jM_noExit_45 (g : gH) (s0 : Int) : Option (Int × gH) :=
  jM_noExit_50 g s0 1
noncomputable def jM_noExit_25 (g : gH) (v0 : Int) (v1 : Int) (s0 : Int) (s1 : Int) : Option (Int × gH) :=
  if kd s0 = 7 then bdN (fM_fails g s0 s1 2) (fun y14 g16 => if y14 = 0 then (if v1 = 0 then (jM_noExit_45 g16 v0) else (bdP (fM_runs g16 v0 v1) (fun y22 => if y22 = 0 then (jM_noExit_45 g16 v0) else (jM_noExit_50 g16 v0 0)))) else (some (1, g16))) else none
noncomputable def fM_noExit (g : gH) (v0 : Int) (v1 : Int) (v2 : Int) : Option (Int × gH) :=
  bdN (fM_noProcess g v0 v1) (fun y1 g3 => if y1 = 0 then (bdP (fM_inRange g3 v2 0 255) (fun y7 => if y7 = 0 then (jM_noExit_25 g3 v0 v1 v0 1) else (jM_noExit_25 g3 v0 v1 v0 0))) else (some (1, g3)))
noncomputable def fM_exit (g : gH) (v0 : Int) (v1 : Int) (v2 : Int) : Option (Int × gH) :=
  bdN (fM_noExit g v0 v1 v2) (fun y1 g3 => if y1 = 0 then (bdN (fM_remembers g3 v0) (fun y7 g9 => bdN (fM_exits g9 v0 v1 v2) (fun y11 g13 => some (y11, g13)))) else (some (0, g3)))
noncomputable def bM_kills_128 (v0 : Int) (v4 : Int) (X128 : Int → gH → Option (Int × gH)) (v5 : Int) (g : gH) : Option (Int × gH) :=
  if v5 < 40 then (if kd (g v0 5) = 22 ∧ (0 : Int) ≤ v5 ∧ v5 < sz (g v0 5) then bnd (pU g (g v0 5) v5 0) (fun g54 => X128 (w32 (v5 + 1)) g54) else none) else (some (v4, g))
noncomputable def lM_kills_128 (v0 : Int) (v4 : Int) (n : Nat) : Int → gH → Option (Int × gH) := Nat.rec (motive := fun _ => Int → gH → Option (Int × gH)) (fun _ _ => none) (fun _ ih => bM_kills_128 v0 v4 ih) n
noncomputable def bM_kills_76 (v0 : Int) (v2 : Int) (v3 : Int) (X76 : Int → Int → gH → Option (Int × gH)) (v4 : Int) (v5 : Int) (g : gH) : Option (Int × gH) :=
  if v5 < v3 then (if kd (g v0 5) = 22 ∧ (0 : Int) ≤ v5 ∧ v5 < sz (g v0 5) then if (g (g v0 5) v5) = 0 then (X76 v4 (w32 (v5 + 1)) g) else (bdN (fM_exits g v0 v5 v2) (fun y44 g46 => if y44 < 0 then (X76 (w32 (v4 + 0)) (w32 (v5 + 1)) g46) else (X76 (w32 (v4 + 1)) (w32 (v5 + 1)) g46))) else none) else (lM_kills_128 v0 v4 fu 0 g)
noncomputable def lM_kills_76 (v0 : Int) (v2 : Int) (v3 : Int) (n : Nat) : Int → Int → gH → Option (Int × gH) := Nat.rec (motive := fun _ => Int → Int → gH → Option (Int × gH)) (fun _ _ _ => none) (fun _ ih => bM_kills_76 v0 v2 v3 ih) n
noncomputable def bM_kills_13 (v0 : Int) (v1 : Int) (v2 : Int) (v3 : Int) (v4 : Int) (X13 : Int → gH → Option (Int × gH)) (v5 : Int) (g : gH) : Option (Int × gH) :=
  if v5 < 40 then (if 0 < v5 then (if v5 < v3 then (bdP (fM_runs g v0 v5) (fun y11 => if y11 = 0 then (if kd (g v0 5) = 22 ∧ (0 : Int) ≤ v5 ∧ v5 < sz (g v0 5) then bnd (pU g (g v0 5) v5 0) (fun g18 => X13 (w32 (v5 + 1)) g18) else none) else (if kd (g v0 0) = 20 ∧ (0 : Int) ≤ (w32 (180 + v5)) ∧ (w32 (180 + v5)) < sz (g v0 0) then if (g (g v0 0) (w32 (180 + v5))) = v1 then (if kd (g v0 5) = 22 ∧ (0 : Int) ≤ v5 ∧ v5 < sz (g v0 5) then bnd (pU g (g v0 5) v5 1) (fun g26 => X13 (w32 (v5 + 1)) g26) else none) else (if kd (g v0 5) = 22 ∧ (0 : Int) ≤ v5 ∧ v5 < sz (g v0 5) then bnd (pU g (g v0 5) v5 0) (fun g29 => X13 (w32 (v5 + 1)) g29) else none) else none))) else (if kd (g v0 5) = 22 ∧ (0 : Int) ≤ v5 ∧ v5 < sz (g v0 5) then bnd (pU g (g v0 5) v5 0) (fun g32 => X13 (w32 (v5 + 1)) g32) else none)) else (if kd (g v0 5) = 22 ∧ (0 : Int) ≤ v5 ∧ v5 < sz (g v0 5) then bnd (pU g (g v0 5) v5 0) (fun g35 => X13 (w32 (v5 + 1)) g35) else none)) else (lM_kills_76 v0 v2 v3 fu v4 1 g)
noncomputable def lM_kills_13 (v0 : Int) (v1 : Int) (v2 : Int) (v3 : Int) (v4 : Int) (n : Nat) : Int → gH → Option (Int × gH) := Nat.rec (motive := fun _ => Int → gH → Option (Int × gH)) (fun _ _ => none) (fun _ ih => bM_kills_13 v0 v1 v2 v3 v4 ih) n
noncomputable def fM_kills (g : gH) (v0 : Int) (v1 : Int) (v2 : Int) : Option (Int × gH) :=
  if kd (g v0 0) = 20 ∧ (0 : Int) ≤ 0 ∧ 0 < sz (g v0 0) then lM_kills_13 v0 v1 v2 (g (g v0 0) 0) 0 fu 0 g else none
noncomputable def fM_noKill (g : gH) (v0 : Int) (v1 : Int) (v2 : Int) : Option (Int × gH) :=
  bnd (pU g v0 8 0) (fun g1 => bdP (fM_isSmall g1 v1) (fun y3 => if y3 = 0 then (bdN (fM_fails g1 v0 1 1) (fun y9 g11 => some (y9, g11))) else (bdP (fM_inRange g1 v2 0 255) (fun y13 => if y13 = 0 then (bdN (fM_fails g1 v0 1 1) (fun y19 g21 => some (y19, g21))) else (bdN (fM_fails g1 v0 0 1) (fun y23 g25 => some (y23, g25)))))))
noncomputable def fM_kill (g : gH) (v0 : Int) (v1 : Int) (v2 : Int) : Option (Int × gH) :=
  bdN (fM_noKill g v0 v1 v2) (fun y1 g3 => if y1 = 0 then (bdN (fM_remembers g3 v0) (fun y7 g9 => bdN (fM_kills g9 v0 v1 v2) (fun y11 g13 => some (y11, g13)))) else (some (0, g3)))
noncomputable def jM_notRunning_22 (g : gH) (v2 : Int) (s0 : Int) (s1 : Int) : Option (Int × gH) :=
  if kd s0 = 7 then bdN (fM_fails g s0 s1 v2) (fun y14 g16 => if y14 = 0 then (some (0, g16)) else (some (1, g16))) else none
noncomputable def fM_notRunning (g : gH) (v0 : Int) (v1 : Int) (v2 : Int) : Option (Int × gH) :=
  bdN (fM_noProcess g v0 v1) (fun y1 g3 => if y1 = 0 then (bdP (fM_runs g3 v0 v1) (fun y7 => if y7 = 0 then (jM_notRunning_22 g3 v2 v0 1) else (jM_notRunning_22 g3 v2 v0 0))) else (some (1, g3)))
noncomputable def jM_read_28 (g : gH) (v0 : Int) (v2 : Int) (s0 : Int) (s1 : Int) : Option (Int × gH) :=
  if kd s0 = 7 then bdN (fM_fails g s0 s1 3) (fun y14 g16 => if y14 = 0 then (bdN (fM_remembers g16 v0) (fun y20 g22 => if kd (g22 v0 0) = 20 ∧ (0 : Int) ≤ (w32 (140 + v2)) ∧ (w32 (140 + v2)) < sz (g22 v0 0) then bnd (pU g22 (g22 v0 0) (w32 (140 + v2)) 2) (fun g26 => if kd (g26 v0 0) = 20 ∧ (0 : Int) ≤ (w32 (300 + v2)) ∧ (w32 (300 + v2)) < sz (g26 v0 0) then some ((w32 ((opI 0 1000 v2) + (g26 (g26 v0 0) (w32 (300 + v2))))), g26) else none) else none)) else (some (0, g16))) else none
noncomputable def fM_read (g : gH) (v0 : Int) (v1 : Int) : Option (Int × gH) :=
  bdN (fM_notRunning g v0 v1 2) (fun y1 g3 => if y1 = 0 then (bdP (fM_firstZombie g3 v0 v1) (fun y7 => if y7 = (-1) then (jM_read_28 g3 v0 y7 v0 1) else (jM_read_28 g3 v0 y7 v0 0))) else (some (0, g3)))
noncomputable def fM_readAll (g : gH) (v0 : Int) (v1 : Int) : Option (Int × gH) :=
  bdN (fM_notRunning g v0 v1 2) (fun y1 g3 => if y1 = 0 then (bdN (fM_remembers g3 v0) (fun y7 g9 => bdN (fM_readsAll g9 v0 v1) (fun y11 g13 => some (y11, g13)))) else (some (0, g3)))
noncomputable def bM_refuse_80 (v0 : Int) (v1 : Int) (v2 : Int) (X80 : Int → Int → gH → Option (Int × gH)) (v3 : Int) (v4 : Int) (g : gH) : Option (Int × gH) :=
  if kd (g v0 0) = 20 ∧ (0 : Int) ≤ 0 ∧ 0 < sz (g v0 0) then if v4 < (g (g v0 0) 0) then (bdP (fM_isChild g v0 v4 v1 0) (fun y50 => if y50 = 0 then (X80 v3 (w32 (v4 + 1)) g) else (if kd (g v0 0) = 20 ∧ (0 : Int) ≤ (w32 (180 + v4)) ∧ (w32 (180 + v4)) < sz (g v0 0) then if (g (g v0 0) (w32 (180 + v4))) = v2 then (bdP (fM_adopterOf g v0 v4 v1) (fun y61 => bdN (fM_adopts g v0 y61 v4) (fun y65 g67 => X80 (w32 (v3 + 1)) (w32 (v4 + 1)) g67))) else (X80 v3 (w32 (v4 + 1)) g) else none))) else (some (v3, g)) else none
noncomputable def lM_refuse_80 (v0 : Int) (v1 : Int) (v2 : Int) (n : Nat) : Int → Int → gH → Option (Int × gH) := Nat.rec (motive := fun _ => Int → Int → gH → Option (Int × gH)) (fun _ _ _ => none) (fun _ ih => bM_refuse_80 v0 v1 v2 ih) n
noncomputable def jM_refuse_46 (g : gH) (v0 : Int) (v1 : Int) (v2 : Int) (s0 : Int) (s1 : Int) : Option (Int × gH) :=
  if kd s0 = 7 then bdN (fM_fails g s0 s1 3) (fun y29 g31 => if y29 = 0 then (bdN (fM_remembers g31 v0) (fun y35 g37 => if kd (g37 v0 0) = 20 ∧ (0 : Int) ≤ (w32 (340 + v1)) ∧ (w32 (340 + v1)) < sz (g37 v0 0) then if kd (g37 v0 0) = 20 ∧ (0 : Int) ≤ (w32 (340 + v1)) ∧ (w32 (340 + v1)) < sz (g37 v0 0) then bnd (pU g37 (g37 v0 0) (w32 (340 + v1)) (opI 2 (g37 (g37 v0 0) (w32 (340 + v1))) (opI 4 1 v2))) (fun g43 => lM_refuse_80 v0 v1 v2 fu 0 1 g43) else none else none)) else (some (0, g31))) else none
noncomputable def jM_refuse_41 (g : gH) (v0 : Int) (v1 : Int) (v2 : Int) (s0 : Int) : Option (Int × gH) :=
  jM_refuse_46 g v0 v1 v2 s0 1
noncomputable def jM_refuse_21 (g : gH) (v0 : Int) (v1 : Int) (v2 : Int) (s0 : Int) (s1 : Int) : Option (Int × gH) :=
  if kd s0 = 7 then bdN (fM_fails g s0 s1 2) (fun y14 g16 => if y14 = 0 then (if v1 = 0 then (jM_refuse_41 g16 v0 v1 v2 v0) else (bdP (fM_runs g16 v0 v1) (fun y22 => if y22 = 0 then (jM_refuse_41 g16 v0 v1 v2 v0) else (jM_refuse_46 g16 v0 v1 v2 v0 0)))) else (some (0, g16))) else none
noncomputable def fM_refuse (g : gH) (v0 : Int) (v1 : Int) (v2 : Int) : Option (Int × gH) :=
  bdN (fM_noProcess g v0 v1) (fun y1 g3 => if y1 = 0 then (bdP (fM_isSmall g3 v2) (fun y7 => if y7 = 0 then (jM_refuse_21 g3 v0 v1 v2 v0 1) else (jM_refuse_21 g3 v0 v1 v2 v0 0))) else (some (0, g3)))
noncomputable def jM_accept_42 (g : gH) (v0 : Int) (v1 : Int) (v2 : Int) (s0 : Int) (s1 : Int) : Option (Int × gH) :=
  if kd s0 = 7 then bdN (fM_fails g s0 s1 3) (fun y27 g29 => if y27 = 0 then (bdN (fM_remembers g29 v0) (fun y33 g35 => bdP (fM_refusesGroup g35 v0 v1 v2) (fun y37 => if kd (g35 v0 0) = 20 ∧ (0 : Int) ≤ (w32 (340 + v1)) ∧ (w32 (340 + v1)) < sz (g35 v0 0) then if kd (g35 v0 0) = 20 ∧ (0 : Int) ≤ (w32 (340 + v1)) ∧ (w32 (340 + v1)) < sz (g35 v0 0) then bnd (pU g35 (g35 v0 0) (w32 (340 + v1)) (opI 1 (g35 (g35 v0 0) (w32 (340 + v1))) (opI 3 (opI 4 1 v2) (-1)))) (fun g45 => some (y37, g45)) else none else none))) else (some (0, g29))) else none
noncomputable def jM_accept_21 (g : gH) (v0 : Int) (v1 : Int) (v2 : Int) (s0 : Int) (s1 : Int) : Option (Int × gH) :=
  if kd s0 = 7 then bdN (fM_fails g s0 s1 2) (fun y14 g16 => if y14 = 0 then (bdP (fM_runs g16 v0 v1) (fun y20 => if y20 = 0 then (jM_accept_42 g16 v0 v1 v2 v0 1) else (jM_accept_42 g16 v0 v1 v2 v0 0))) else (some (0, g16))) else none
noncomputable def fM_accept (g : gH) (v0 : Int) (v1 : Int) (v2 : Int) : Option (Int × gH) :=
  bdN (fM_noProcess g v0 v1) (fun y1 g3 => if y1 = 0 then (bdP (fM_isSmall g3 v2) (fun y7 => if y7 = 0 then (jM_accept_21 g3 v0 v1 v2 v0 1) else (jM_accept_21 g3 v0 v1 v2 v0 0))) else (some (0, g3)))
noncomputable def jM_move_84 (g : gH) (v0 : Int) (v1 : Int) (v2 : Int) (s0 : Int) (s1 : Int) : Option (Int × gH) :=
  if kd s0 = 7 then bdN (fM_fails g s0 s1 2) (fun y51 g53 => if y51 = 0 then (bdN (fM_remembers g53 v0) (fun y57 g59 => if kd (g59 v0 0) = 20 ∧ (0 : Int) ≤ (w32 (60 + v1)) ∧ (w32 (60 + v1)) < sz (g59 v0 0) then if kd (g59 v0 0) = 20 ∧ (0 : Int) ≤ (w32 (60 + v1)) ∧ (w32 (60 + v1)) < sz (g59 v0 0) then bnd (pU g59 (g59 v0 0) (w32 (60 + v1)) v2) (fun g66 => some ((g59 (g59 v0 0) (w32 (60 + v1))), g66)) else none else none)) else (some (0, g53))) else none
noncomputable def jM_move_79 (g : gH) (v0 : Int) (v1 : Int) (v2 : Int) (s0 : Int) : Option (Int × gH) :=
  jM_move_84 g v0 v1 v2 s0 1
noncomputable def fM_move (g : gH) (v0 : Int) (v1 : Int) (v2 : Int) : Option (Int × gH) :=
  bdN (fM_noProcess g v0 v1) (fun y1 g3 => if y1 = 0 then (bdN (fM_noProcess g3 v0 v2) (fun y7 g9 => if y7 = 0 then (if v1 = 0 then (jM_move_79 g9 v0 v1 v2 v0) else (bdP (fM_runs g9 v0 v1) (fun y15 => if y15 = 0 then (jM_move_79 g9 v0 v1 v2 v0) else (bdP (fM_runs g9 v0 v2) (fun y21 => if y21 = 0 then (jM_move_79 g9 v0 v1 v2 v0) else (if v1 = v2 then (jM_move_79 g9 v0 v1 v2 v0) else (bdP (fM_isOver g9 v0 v1 v2) (fun y29 => if y29 = 0 then (bdP (fM_roomOf g9 v0 v2) (fun y35 => if y35 = 0 then (jM_move_79 g9 v0 v1 v2 v0) else (if kd (g9 v0 0) = 20 ∧ (0 : Int) ≤ (w32 (180 + v1)) ∧ (w32 (180 + v1)) < sz (g9 v0 0) then bdP (fM_refusesGroup g9 v0 v2 (g9 (g9 v0 0) (w32 (180 + v1)))) (fun y44 => if y44 = 0 then (jM_move_84 g9 v0 v1 v2 v0 0) else (jM_move_79 g9 v0 v1 v2 v0)) else none))) else (jM_move_79 g9 v0 v1 v2 v0))))))))) else (some (0, g9)))) else (some (0, g3)))
noncomputable def jM_sets_42 (g : gH) (v0 : Int) (v1 : Int) (v2 : Int) (v3 : Int) (s0 : Int) (s1 : Int) : Option (Int × gH) :=
  if kd s0 = 7 then bdN (fM_fails g s0 s1 3) (fun y27 g29 => if y27 = 0 then (bdN (fM_remembers g29 v0) (fun y33 g35 => if kd (g35 v0 0) = 20 ∧ (0 : Int) ≤ (w32 (v1 + v2)) ∧ (w32 (v1 + v2)) < sz (g35 v0 0) then if kd (g35 v0 0) = 20 ∧ (0 : Int) ≤ (w32 (v1 + v2)) ∧ (w32 (v1 + v2)) < sz (g35 v0 0) then bnd (pU g35 (g35 v0 0) (w32 (v1 + v2)) v3) (fun g42 => some ((g35 (g35 v0 0) (w32 (v1 + v2))), g42)) else none else none)) else (some (0, g29))) else none
noncomputable def jM_sets_21 (g : gH) (v0 : Int) (v1 : Int) (v2 : Int) (v3 : Int) (s0 : Int) (s1 : Int) : Option (Int × gH) :=
  if kd s0 = 7 then bdN (fM_fails g s0 s1 2) (fun y14 g16 => if y14 = 0 then (bdP (fM_runs g16 v0 v2) (fun y20 => if y20 = 0 then (jM_sets_42 g16 v0 v1 v2 v3 v0 1) else (jM_sets_42 g16 v0 v1 v2 v3 v0 0))) else (some (0, g16))) else none
noncomputable def fM_sets (g : gH) (v0 : Int) (v1 : Int) (v2 : Int) (v3 : Int) : Option (Int × gH) :=
  bdN (fM_noProcess g v0 v2) (fun y1 g3 => if y1 = 0 then (bdP (fM_isSmall g3 v3) (fun y7 => if y7 = 0 then (jM_sets_21 g3 v0 v1 v2 v3 v0 1) else (jM_sets_21 g3 v0 v1 v2 v3 v0 0))) else (some (0, g3)))
noncomputable def fM_setCapacity (g : gH) (v0 : Int) (v1 : Int) (v2 : Int) : Option (Int × gH) :=
  bdN (fM_sets g v0 100 v1 v2) (fun y1 g3 => some (y1, g3))
noncomputable def fM_setBudget (g : gH) (v0 : Int) (v1 : Int) (v2 : Int) : Option (Int × gH) :=
  bdN (fM_sets g v0 220 v1 v2) (fun y1 g3 => some (y1, g3))
noncomputable def jM_setHeir_73 (g : gH) (v0 : Int) (v1 : Int) (v2 : Int) (s0 : Int) (s1 : Int) : Option (Int × gH) :=
  if kd s0 = 7 then bdN (fM_fails g s0 s1 3) (fun y41 g43 => if y41 = 0 then (bdN (fM_remembers g43 v0) (fun y47 g49 => if kd (g49 v0 0) = 20 ∧ (0 : Int) ≤ (w32 (260 + v1)) ∧ (w32 (260 + v1)) < sz (g49 v0 0) then if kd (g49 v0 0) = 20 ∧ (0 : Int) ≤ (w32 (260 + v1)) ∧ (w32 (260 + v1)) < sz (g49 v0 0) then bnd (pU g49 (g49 v0 0) (w32 (260 + v1)) v2) (fun g56 => some ((g49 (g49 v0 0) (w32 (260 + v1))), g56)) else none else none)) else (some (0, g43))) else none
noncomputable def jM_setHeir_68 (g : gH) (v0 : Int) (v1 : Int) (v2 : Int) (s0 : Int) : Option (Int × gH) :=
  jM_setHeir_73 g v0 v1 v2 s0 1
noncomputable def jM_setHeir_48 (g : gH) (v0 : Int) (v1 : Int) (v2 : Int) (s0 : Int) (s1 : Int) : Option (Int × gH) :=
  if kd s0 = 7 then bdN (fM_fails g s0 s1 2) (fun y26 g28 => if y26 = 0 then (if v1 = 0 then (jM_setHeir_68 g28 v0 v1 v2 v0) else (bdP (fM_runs g28 v0 v1) (fun y34 => if y34 = 0 then (jM_setHeir_68 g28 v0 v1 v2 v0) else (jM_setHeir_73 g28 v0 v1 v2 v0 0)))) else (some (0, g28))) else none
noncomputable def jM_setHeir_30 (g : gH) (v0 : Int) (v1 : Int) (v2 : Int) (s0 : Int) (s1 : Int) : Option (Int × gH) :=
  if kd s0 = 7 then bdN (fM_fails g s0 s1 1) (fun y17 g19 => if y17 = 0 then (if v1 = v2 then (jM_setHeir_48 g19 v0 v1 v2 v0 1) else (jM_setHeir_48 g19 v0 v1 v2 v0 0)) else (some (0, g19))) else none
noncomputable def fM_setHeir (g : gH) (v0 : Int) (v1 : Int) (v2 : Int) : Option (Int × gH) :=
  bdN (fM_noProcess g v0 v1) (fun y1 g3 => if y1 = 0 then (if kd (g3 v0 0) = 20 ∧ (0 : Int) ≤ 0 ∧ 0 < sz (g3 v0 0) then bdP (fM_inRange g3 v2 (-1) (w32 ((g3 (g3 v0 0) 0) - 1))) (fun y10 => if y10 = 0 then (jM_setHeir_30 g3 v0 v1 v2 v0 1) else (jM_setHeir_30 g3 v0 v1 v2 v0 0)) else none) else (some (0, g3)))
noncomputable def jM_give_57 (g : gH) (v0 : Int) (v1 : Int) (v2 : Int) (s0 : Int) (s1 : Int) : Option (Int × gH) :=
  if kd s0 = 7 then bdN (fM_fails g s0 s1 3) (fun y32 g34 => if y32 = 0 then (bdN (fM_remembers g34 v0) (fun y38 g40 => if kd (g40 v0 0) = 20 ∧ (0 : Int) ≤ (w32 (11 + v1)) ∧ (w32 (11 + v1)) < sz (g40 v0 0) then if kd (g40 v0 0) = 20 ∧ (0 : Int) ≤ (w32 (11 + v1)) ∧ (w32 (11 + v1)) < sz (g40 v0 0) then bnd (pU g40 (g40 v0 0) (w32 (11 + v1)) v2) (fun g47 => some ((g40 (g40 v0 0) (w32 (11 + v1))), g47)) else none else none)) else (some (0, g34))) else none
noncomputable def jM_give_36 (g : gH) (v0 : Int) (v1 : Int) (v2 : Int) (s0 : Int) (s1 : Int) : Option (Int × gH) :=
  if kd s0 = 7 then bdN (fM_fails g s0 s1 2) (fun y19 g21 => if y19 = 0 then (bdP (fM_runs g21 v0 v2) (fun y25 => if y25 = 0 then (jM_give_57 g21 v0 v1 v2 v0 1) else (jM_give_57 g21 v0 v1 v2 v0 0))) else (some (0, g21))) else none
noncomputable def fM_give (g : gH) (v0 : Int) (v1 : Int) (v2 : Int) : Option (Int × gH) :=
  bnd (pU g v0 8 0) (fun g1 => bdN (fM_noDuty g1 v0 v1 1) (fun y3 g5 => if y3 = 0 then (if kd (g5 v0 0) = 20 ∧ (0 : Int) ≤ 0 ∧ 0 < sz (g5 v0 0) then bdP (fM_inRange g5 v2 0 (w32 ((g5 (g5 v0 0) 0) - 1))) (fun y12 => if y12 = 0 then (jM_give_36 g5 v0 v1 v2 v0 1) else (jM_give_36 g5 v0 v1 v2 v0 0)) else none) else (some (0, g5))))
noncomputable def bM_lowestBelow_4 (g : gH) (v0 : Int) (v1 : Int) (X4 : Int → Int → Option Int) (v2 : Int) (v3 : Int) : Option Int :=
  if kd (g v0 0) = 20 ∧ (0 : Int) ≤ 0 ∧ 0 < sz (g v0 0) then if v3 < (g (g v0 0) 0) then (bdP (fM_runs g v0 v3) (fun y6 => if y6 = 0 then (X4 v2 (w32 (v3 + 1))) else (bdP (fM_isOver g v0 v1 v3) (fun y12 => if y12 = 0 then (X4 v2 (w32 (v3 + 1))) else (if v2 = (-1) then (X4 v3 (w32 (v3 + 1))) else (bdP (fM_deep g v0 v3) (fun y20 => bdP (fM_deep g v0 v2) (fun y24 => if y20 < y24 then (X4 v2 (w32 (v3 + 1))) else (X4 v3 (w32 (v3 + 1))))))))))) else (some v2) else none
noncomputable def lM_lowestBelow_4 (g : gH) (v0 : Int) (v1 : Int) (n : Nat) : Int → Int → Option Int := Nat.rec (motive := fun _ => Int → Int → Option Int) (fun _ _ => none) (fun _ ih => bM_lowestBelow_4 g v0 v1 ih) n
noncomputable def fM_lowestBelow (g : gH) (v0 : Int) (v1 : Int) : Option Int :=
  lM_lowestBelow_4 g v0 v1 fu (-1) 1
noncomputable def bM_prune_68 (v0 : Int) (v1 : Int) (v2 : Int) (X68 : Int → Int → gH → Option (Int × gH)) (v3 : Int) (v4 : Int) (g : gH) : Option (Int × gH) :=
  if v4 = (-1) then (some (v3, g)) else (bdN (fM_exits g v0 v4 v2) (fun y43 g45 => if y43 < 0 then (bdP (fM_lowestBelow g45 v0 v1) (fun y49 => X68 (w32 (v3 + 0)) y49 g45)) else (bdP (fM_lowestBelow g45 v0 v1) (fun y53 => X68 (w32 (v3 + 1)) y53 g45))))
noncomputable def lM_prune_68 (v0 : Int) (v1 : Int) (v2 : Int) (n : Nat) : Int → Int → gH → Option (Int × gH) := Nat.rec (motive := fun _ => Int → Int → gH → Option (Int × gH)) (fun _ _ _ => none) (fun _ ih => bM_prune_68 v0 v1 v2 ih) n
noncomputable def jM_prune_46 (g : gH) (v0 : Int) (v1 : Int) (v2 : Int) (s0 : Int) (s1 : Int) : Option (Int × gH) :=
  if kd s0 = 7 then bdN (fM_fails g s0 s1 3) (fun y27 g29 => if y27 = 0 then (bdN (fM_remembers g29 v0) (fun y33 g35 => bdP (fM_lowestBelow g35 v0 v1) (fun y37 => lM_prune_68 v0 v1 v2 fu 0 y37 g35))) else (some (0, g29))) else none
noncomputable def jM_prune_25 (g : gH) (v0 : Int) (v1 : Int) (v2 : Int) (s0 : Int) (s1 : Int) : Option (Int × gH) :=
  if kd s0 = 7 then bdN (fM_fails g s0 s1 2) (fun y14 g16 => if y14 = 0 then (bdP (fM_runs g16 v0 v1) (fun y20 => if y20 = 0 then (jM_prune_46 g16 v0 v1 v2 v0 1) else (jM_prune_46 g16 v0 v1 v2 v0 0))) else (some (0, g16))) else none
noncomputable def fM_prune (g : gH) (v0 : Int) (v1 : Int) (v2 : Int) : Option (Int × gH) :=
  bdN (fM_noProcess g v0 v1) (fun y1 g3 => if y1 = 0 then (bdP (fM_inRange g3 v2 0 255) (fun y7 => if y7 = 0 then (jM_prune_25 g3 v0 v1 v2 v0 1) else (jM_prune_25 g3 v0 v1 v2 v0 0))) else (some (0, g3)))
noncomputable def bM_exchange_169 (g : gH) (v0 : Int) (X169 : Int → Int → Option (Int × gH)) (v4 : Int) (v5 : Int) : Option (Int × gH) :=
  if kd (g v0 0) = 20 ∧ (0 : Int) ≤ 0 ∧ 0 < sz (g v0 0) then if v5 < (g (g v0 0) 0) then (bdP (fM_runs g v0 v5) (fun y95 => if y95 = 0 then (X169 (w32 (v4 + 0)) (w32 (v5 + 1))) else (bdP (fM_deep g v0 v5) (fun y101 => if kd (g v0 21) = 20 ∧ (0 : Int) ≤ v5 ∧ v5 < sz (g v0 21) then if y101 = (g (g v0 21) v5) then (X169 (w32 (v4 + 0)) (w32 (v5 + 1))) else (X169 (w32 (v4 + 1)) (w32 (v5 + 1))) else none)))) else (some (v4, g)) else none
noncomputable def lM_exchange_169 (g : gH) (v0 : Int) (n : Nat) : Int → Int → Option (Int × gH) := Nat.rec (motive := fun _ => Int → Int → Option (Int × gH)) (fun _ _ => none) (fun _ ih => bM_exchange_169 g v0 ih) n
noncomputable def jM_exchange_125 (g : gH) (v0 : Int) (v1 : Int) (v2 : Int) : Option (Int × gH) :=
  if kd (g v0 0) = 20 ∧ (0 : Int) ≤ (w32 (60 + v1)) ∧ (w32 (60 + v1)) < sz (g v0 0) then if kd (g v0 0) = 20 ∧ (0 : Int) ≤ (w32 (60 + v2)) ∧ (w32 (60 + v2)) < sz (g v0 0) then if kd (g v0 0) = 20 ∧ (0 : Int) ≤ (w32 (60 + v1)) ∧ (w32 (60 + v1)) < sz (g v0 0) then bnd (pU g (g v0 0) (w32 (60 + v1)) (g (g v0 0) (w32 (60 + v2)))) (fun g84 => if kd (g84 v0 0) = 20 ∧ (0 : Int) ≤ (w32 (60 + v2)) ∧ (w32 (60 + v2)) < sz (g84 v0 0) then bnd (pU g84 (g84 v0 0) (w32 (60 + v2)) (g (g v0 0) (w32 (60 + v1)))) (fun g88 => lM_exchange_169 g88 v0 fu 0 0) else none) else none else none else none
noncomputable def bM_exchange_86 (v0 : Int) (v1 : Int) (v2 : Int) (X86 : Int → gH → Option (Int × gH)) (v3 : Int) (g : gH) : Option (Int × gH) :=
  if kd (g v0 0) = 20 ∧ (0 : Int) ≤ 0 ∧ 0 < sz (g v0 0) then if v3 < (g (g v0 0) 0) then (bdP (fM_runs g v0 v3) (fun y60 => if y60 = 0 then (if kd (g v0 21) = 20 ∧ (0 : Int) ≤ v3 ∧ v3 < sz (g v0 21) then bnd (pU g (g v0 21) v3 (-1)) (fun g67 => X86 (w32 (v3 + 1)) g67) else none) else (bdP (fM_deep g v0 v3) (fun y69 => if kd (g v0 21) = 20 ∧ (0 : Int) ≤ v3 ∧ v3 < sz (g v0 21) then bnd (pU g (g v0 21) v3 y69) (fun g74 => X86 (w32 (v3 + 1)) g74) else none)))) else (jM_exchange_125 g v0 v1 v2) else none
noncomputable def lM_exchange_86 (v0 : Int) (v1 : Int) (v2 : Int) (n : Nat) : Int → gH → Option (Int × gH) := Nat.rec (motive := fun _ => Int → gH → Option (Int × gH)) (fun _ _ => none) (fun _ ih => bM_exchange_86 v0 v1 v2 ih) n
noncomputable def jM_exchange_71 (g : gH) (v0 : Int) (v1 : Int) (v2 : Int) (s0 : Int) (s1 : Int) : Option (Int × gH) :=
  if kd s0 = 7 then bdN (fM_fails g s0 s1 2) (fun y44 g46 => if y44 = 0 then (bdN (fM_remembers g46 v0) (fun y50 g52 => lM_exchange_86 v0 v1 v2 fu 0 g52)) else (some (0, g46))) else none
noncomputable def jM_exchange_66 (g : gH) (v0 : Int) (v1 : Int) (v2 : Int) (s0 : Int) : Option (Int × gH) :=
  jM_exchange_71 g v0 v1 v2 s0 1
noncomputable def fM_exchange (g : gH) (v0 : Int) (v1 : Int) (v2 : Int) : Option (Int × gH) :=
  bdN (fM_noProcess g v0 v1) (fun y1 g3 => if y1 = 0 then (bdN (fM_noProcess g3 v0 v2) (fun y7 g9 => if y7 = 0 then (if v1 = 0 then (jM_exchange_66 g9 v0 v1 v2 v0) else (if v2 = 0 then (jM_exchange_66 g9 v0 v1 v2 v0) else (bdP (fM_runs g9 v0 v1) (fun y17 => if y17 = 0 then (jM_exchange_66 g9 v0 v1 v2 v0) else (bdP (fM_runs g9 v0 v2) (fun y23 => if y23 = 0 then (jM_exchange_66 g9 v0 v1 v2 v0) else (if v1 = v2 then (jM_exchange_66 g9 v0 v1 v2 v0) else (bdP (fM_isOver g9 v0 v1 v2) (fun y31 => if y31 = 0 then (bdP (fM_isOver g9 v0 v2 v1) (fun y37 => if y37 = 0 then (jM_exchange_71 g9 v0 v1 v2 v0 0) else (jM_exchange_66 g9 v0 v1 v2 v0))) else (jM_exchange_66 g9 v0 v1 v2 v0)))))))))) else (some (0, g9)))) else (some (0, g3)))
noncomputable def jM_notExiting_26 (g : gH) (v2 : Int) (s0 : Int) (s1 : Int) : Option (Int × gH) :=
  if kd s0 = 7 then bdN (fM_fails g s0 s1 v2) (fun y16 g18 => if y16 = 0 then (some (0, g18)) else (some (1, g18))) else none
noncomputable def jM_notExiting_21 (g : gH) (v2 : Int) (s0 : Int) : Option (Int × gH) :=
  jM_notExiting_26 g v2 s0 1
noncomputable def fM_notExiting (g : gH) (v0 : Int) (v1 : Int) (v2 : Int) : Option (Int × gH) :=
  bdN (fM_noProcess g v0 v1) (fun y1 g3 => if y1 = 0 then (if v1 = 0 then (jM_notExiting_21 g3 v2 v0) else (bdP (fM_runs g3 v0 v1) (fun y9 => if y9 = 0 then (jM_notExiting_21 g3 v2 v0) else (jM_notExiting_26 g3 v2 v0 0)))) else (some (1, g3)))
noncomputable def bM_relieve_26 (v0 : Int) (v1 : Int) (X26 : Int → Int → gH → Option (Int × gH)) (v2 : Int) (v3 : Int) (g : gH) : Option (Int × gH) :=
  if 0 < v3 then (bdP (fM_isChild g v0 v3 v1 0) (fun y16 => if y16 = 0 then (X26 v2 (w32 (v3 + (-1))) g) else (bdP (fM_childrenOf g v0 v1 0) (fun y22 => if kd (g v0 0) = 20 ∧ (0 : Int) ≤ (w32 (100 + v1)) ∧ (w32 (100 + v1)) < sz (g v0 0) then if (g (g v0 0) (w32 (100 + v1))) < y22 then (bdP (fM_adopterOf g v0 v3 v1) (fun y31 => bdN (fM_adopts g v0 y31 v3) (fun y35 g37 => X26 (w32 (v2 + 1)) (w32 (v3 + (-1))) g37))) else (X26 v2 (w32 (v3 + (-1))) g) else none)))) else (some (v2, g))
noncomputable def lM_relieve_26 (v0 : Int) (v1 : Int) (n : Nat) : Int → Int → gH → Option (Int × gH) := Nat.rec (motive := fun _ => Int → Int → gH → Option (Int × gH)) (fun _ _ _ => none) (fun _ ih => bM_relieve_26 v0 v1 ih) n
noncomputable def fM_relieve (g : gH) (v0 : Int) (v1 : Int) : Option (Int × gH) :=
  bdN (fM_notExiting g v0 v1 2) (fun y1 g3 => if y1 = 0 then (bdN (fM_remembers g3 v0) (fun y7 g9 => if kd (g9 v0 0) = 20 ∧ (0 : Int) ≤ 0 ∧ 0 < sz (g9 v0 0) then lM_relieve_26 v0 v1 fu 0 (w32 ((g9 (g9 v0 0) 0) - 1)) g9 else none)) else (some (0, g3)))
noncomputable def fM_adopter (g : gH) (v0 : Int) (v1 : Int) : Option (Int × gH) :=
  bdN (fM_notExiting g v0 v1 2) (fun y1 g3 => if y1 = 0 then (if kd (g3 v0 0) = 20 ∧ (0 : Int) ≤ (w32 (60 + v1)) ∧ (w32 (60 + v1)) < sz (g3 v0 0) then bdP (fM_adopterOf g3 v0 v1 (g3 (g3 v0 0) (w32 (60 + v1)))) (fun y10 => some (y10, g3)) else none) else (some (0, g3)))
noncomputable def bM_adopters_15 (g : gH) (v0 : Int) (v1 : Int) (X15 : Int → Int → Option (Int × gH)) (v2 : Int) (v3 : Int) : Option (Int × gH) :=
  if kd (g v0 0) = 20 ∧ (0 : Int) ≤ 0 ∧ 0 < sz (g v0 0) then if v3 < (g (g v0 0) 0) then (bdP (fM_canAdopt g v0 v3 v1) (fun y12 => if y12 = 0 then (X15 (w32 (v2 + 0)) (w32 (v3 + 1))) else (X15 (w32 (v2 + 1)) (w32 (v3 + 1))))) else (some (v2, g)) else none
noncomputable def lM_adopters_15 (g : gH) (v0 : Int) (v1 : Int) (n : Nat) : Int → Int → Option (Int × gH) := Nat.rec (motive := fun _ => Int → Int → Option (Int × gH)) (fun _ _ => none) (fun _ ih => bM_adopters_15 g v0 v1 ih) n
noncomputable def fM_adopters (g : gH) (v0 : Int) (v1 : Int) : Option (Int × gH) :=
  bdN (fM_notExiting g v0 v1 2) (fun y1 g3 => if y1 = 0 then (lM_adopters_15 g3 v0 v1 fu 0 1) else (some (0, g3)))
noncomputable def fM_heirNow (g : gH) (v0 : Int) (v1 : Int) : Option (Int × gH) :=
  bdN (fM_notExiting g v0 v1 2) (fun y1 g3 => if y1 = 0 then (bdP (fM_inheritor g3 v0 v1) (fun y7 => some (y7, g3))) else (some (0, g3)))
noncomputable def fM_begins (g : gH) (v0 : Int) : Option (Int × gH) :=
  bdN (fM_copies g (g v0 0) 0 (g v0 2) 0 780) (fun y3 g5 => some (0, g5))
noncomputable def fM_ends (g : gH) (v0 : Int) : Option (Int × gH) :=
  bdN (fM_copies g (g v0 2) 0 (g v0 0) 0 780) (fun y3 g5 => some (0, g5))
noncomputable def fM_fallsBy (g : gH) (v0 : Int) (v1 : Int) (v2 : Int) : Option (Int × gH) :=
  bdN (fM_begins g v0) (fun y1 g3 => bdN (fM_exits g3 v0 v1 v2) (fun y5 g7 => bdN (fM_ends g7 v0) (fun y9 g11 => some (y5, g11))))
noncomputable def fM_wouldFall (g : gH) (v0 : Int) (v1 : Int) (v2 : Int) : Option (Int × gH) :=
  bdN (fM_noExit g v0 v1 v2) (fun y1 g3 => if y1 = 0 then (bdN (fM_fallsBy g3 v0 v1 v2) (fun y7 g9 => some (y7, g9))) else (some (0, g3)))
noncomputable def fM_wouldStand (g : gH) (v0 : Int) (v1 : Int) (v2 : Int) : Option (Int × gH) :=
  bdN (fM_noExit g v0 v1 v2) (fun y1 g3 => if y1 = 0 then (bdN (fM_begins g3 v0) (fun y7 g9 => bdN (fM_exits g9 v0 v1 v2) (fun y11 g13 => if y11 < 0 then (bdN (fM_ends g13 v0) (fun y17 g19 => some ((-1), g19))) else (bdP (fM_highest g13 v0) (fun y21 => bdN (fM_ends g13 v0) (fun y25 g27 => some (y21, g27))))))) else (some (0, g3)))
noncomputable def fM_wouldHave (g : gH) (v0 : Int) (v1 : Int) (v2 : Int) (v3 : Int) : Option (Int × gH) :=
  bdN (fM_noProcess g v0 v1) (fun y1 g3 => if y1 = 0 then (bdN (fM_noExit g3 v0 v2 v3) (fun y7 g9 => if y7 = 0 then (bdN (fM_begins g9 v0) (fun y13 g15 => bdN (fM_exits g15 v0 v2 v3) (fun y17 g19 => if y17 < 0 then (bdN (fM_ends g19 v0) (fun y23 g25 => some ((-1), g25))) else (if kd (g19 v0 0) = 20 ∧ (0 : Int) ≤ (w32 (60 + v1)) ∧ (w32 (60 + v1)) < sz (g19 v0 0) then bdN (fM_ends g19 v0) (fun y30 g32 => some ((g19 (g19 v0 0) (w32 (60 + v1))), g32)) else none)))) else (some (0, g9)))) else (some (0, g3)))
noncomputable def fM_wouldHold (g : gH) (v0 : Int) (v1 : Int) (v2 : Int) (v3 : Int) : Option (Int × gH) :=
  bdN (fM_noProcess g v0 v2) (fun y1 g3 => if y1 = 0 then (bdN (fM_noDuty g3 v0 v1 2) (fun y7 g9 => if y7 = 0 then (bdN (fM_noExit g9 v0 v2 v3) (fun y13 g15 => if y13 = 0 then (bdN (fM_begins g15 v0) (fun y19 g21 => bdN (fM_exits g21 v0 v2 v3) (fun y23 g25 => if y23 < 0 then (bdN (fM_ends g25 v0) (fun y29 g31 => some ((-1), g31))) else (if kd (g25 v0 0) = 20 ∧ (0 : Int) ≤ (w32 (11 + v1)) ∧ (w32 (11 + v1)) < sz (g25 v0 0) then bdN (fM_ends g25 v0) (fun y36 g38 => some ((g25 (g25 v0 0) (w32 (11 + v1))), g38)) else none)))) else (some (0, g15)))) else (some (0, g9)))) else (some (0, g3)))
noncomputable def fM_wouldFallBy (g : gH) (v0 : Int) (v1 : Int) (v2 : Int) : Option (Int × gH) :=
  bdN (fM_noKill g v0 v1 v2) (fun y1 g3 => if y1 = 0 then (if kd (g3 v0 0) = 20 ∧ (0 : Int) ≤ 3 ∧ 3 < sz (g3 v0 0) then bdN (fM_begins g3 v0) (fun y10 g12 => bdN (fM_kills g12 v0 v1 v2) (fun y14 g16 => if y14 < 0 then (bdN (fM_ends g16 v0) (fun y20 g22 => some ((-1), g22))) else (if kd (g16 v0 0) = 20 ∧ (0 : Int) ≤ 3 ∧ 3 < sz (g16 v0 0) then bdN (fM_ends g16 v0) (fun y27 g29 => some ((w32 ((g16 (g16 v0 0) 3) - (g3 (g3 v0 0) 3))), g29)) else none))) else none) else (some (0, g3)))
noncomputable def fM_wouldRun (g : gH) (v0 : Int) (v1 : Int) (v2 : Int) : Option (Int × gH) :=
  bdN (fM_noKill g v0 v1 v2) (fun y1 g3 => if y1 = 0 then (bdN (fM_begins g3 v0) (fun y7 g9 => bdN (fM_kills g9 v0 v1 v2) (fun y11 g13 => if y11 < 0 then (bdN (fM_ends g13 v0) (fun y17 g19 => some ((-1), g19))) else (bdP (fM_runningMany g13 v0) (fun y21 => bdN (fM_ends g13 v0) (fun y25 g27 => some (y21, g27))))))) else (some (0, g3)))
noncomputable def jM_weakest_69 (X38 : Int → Int → Int → gH → Option (Int × gH)) (g : gH) (v0 : Int) (v1 : Int) (v2 : Int) (v3 : Int) (v4 : Int) (s0 : Int) : Option (Int × gH) :=
  if v3 < s0 then (X38 v4 (gmax v3 s0) (w32 (v4 + 1)) g) else (X38 v2 (gmax v3 s0) (w32 (v4 + 1)) g)
noncomputable def bM_weakest_38 (v0 : Int) (v1 : Int) (X38 : Int → Int → Int → gH → Option (Int × gH)) (v2 : Int) (v3 : Int) (v4 : Int) (g : gH) : Option (Int × gH) :=
  if kd (g v0 0) = 20 ∧ (0 : Int) ≤ 0 ∧ 0 < sz (g v0 0) then if v4 < (g (g v0 0) 0) then (bdP (fM_runs g v0 v4) (fun y21 => if y21 = 0 then (jM_weakest_69 X38 g v0 v1 v2 v3 v4 (-1)) else (bdN (fM_fallsBy g v0 v4 v1) (fun y27 g29 => jM_weakest_69 X38 g29 v0 v1 v2 v3 v4 y27)))) else (some (v2, g)) else none
noncomputable def lM_weakest_38 (v0 : Int) (v1 : Int) (n : Nat) : Int → Int → Int → gH → Option (Int × gH) := Nat.rec (motive := fun _ => Int → Int → Int → gH → Option (Int × gH)) (fun _ _ _ _ => none) (fun _ ih => bM_weakest_38 v0 v1 ih) n
noncomputable def jM_weakest_22 (g : gH) (v0 : Int) (v1 : Int) (s0 : Int) (s1 : Int) : Option (Int × gH) :=
  if kd s0 = 7 then bdN (fM_fails g s0 s1 1) (fun y10 g12 => if y10 = 0 then (lM_weakest_38 v0 v1 fu (-1) (-1) 1 g12) else (some (0, g12))) else none
noncomputable def fM_weakest (g : gH) (v0 : Int) (v1 : Int) : Option (Int × gH) :=
  bnd (pU g v0 8 0) (fun g1 => bdP (fM_inRange g1 v1 0 255) (fun y3 => if y3 = 0 then (jM_weakest_22 g1 v0 v1 v0 1) else (jM_weakest_22 g1 v0 v1 v0 0)))
noncomputable def fM_betterCode (g : gH) (v0 : Int) (v1 : Int) : Option (Int × gH) :=
  bdN (fM_notExiting g v0 v1 2) (fun y1 g3 => if y1 = 0 then (bdN (fM_fallsBy g3 v0 v1 1) (fun y7 g9 => bdN (fM_fallsBy g9 v0 v1 0) (fun y11 g13 => if y7 < y11 then (some (1, g13)) else (some (0, g13))))) else (some (0, g3)))
noncomputable def bM_dutyLife_22 (v0 : Int) (v1 : Int) (X22 : Int → gH → Option (Int × gH)) (v2 : Int) (g : gH) : Option (Int × gH) :=
  if kd (g v0 0) = 20 ∧ (0 : Int) ≤ (w32 (11 + v1)) ∧ (w32 (11 + v1)) < sz (g v0 0) then if (g (g v0 0) (w32 (11 + v1))) = 0 then (bdN (fM_ends g v0) (fun y18 g20 => some (v2, g20))) else (if kd (g v0 0) = 20 ∧ (0 : Int) ≤ (w32 (11 + v1)) ∧ (w32 (11 + v1)) < sz (g v0 0) then bdN (fM_exits g v0 (g (g v0 0) (w32 (11 + v1))) 0) (fun y25 g27 => if y25 < 0 then (X22 (w32 (v2 + 0)) g27) else (X22 (w32 (v2 + 1)) g27)) else none) else none
noncomputable def lM_dutyLife_22 (v0 : Int) (v1 : Int) (n : Nat) : Int → gH → Option (Int × gH) := Nat.rec (motive := fun _ => Int → gH → Option (Int × gH)) (fun _ _ => none) (fun _ ih => bM_dutyLife_22 v0 v1 ih) n
noncomputable def fM_dutyLife (g : gH) (v0 : Int) (v1 : Int) : Option (Int × gH) :=
  bnd (pU g v0 8 0) (fun g1 => bdN (fM_noDuty g1 v0 v1 1) (fun y3 g5 => if y3 = 0 then (bdN (fM_begins g5 v0) (fun y9 g11 => lM_dutyLife_22 v0 v1 fu 0 g11)) else (some (0, g5))))
noncomputable def bM_roomiest_31 (g : gH) (v0 : Int) (v1 : Int) (X31 : Int → Int → Option (Int × gH)) (v2 : Int) (v3 : Int) : Option (Int × gH) :=
  if kd (g v0 0) = 20 ∧ (0 : Int) ≤ 0 ∧ 0 < sz (g v0 0) then if v3 < (g (g v0 0) 0) then (bdP (fM_roomOf g v0 v3) (fun y21 => if y21 = 0 then (X31 v2 (w32 (v3 + 1))) else (bdP (fM_refusesGroup g v0 v3 v1) (fun y27 => if y27 = 0 then (if v2 = (-1) then (X31 v3 (w32 (v3 + 1))) else (bdP (fM_roomOf g v0 v3) (fun y35 => bdP (fM_roomOf g v0 v2) (fun y39 => if y39 < y35 then (X31 v3 (w32 (v3 + 1))) else (X31 v2 (w32 (v3 + 1))))))) else (X31 v2 (w32 (v3 + 1))))))) else (some (v2, g)) else none
noncomputable def lM_roomiest_31 (g : gH) (v0 : Int) (v1 : Int) (n : Nat) : Int → Int → Option (Int × gH) := Nat.rec (motive := fun _ => Int → Int → Option (Int × gH)) (fun _ _ => none) (fun _ ih => bM_roomiest_31 g v0 v1 ih) n
noncomputable def jM_roomiest_18 (g : gH) (v0 : Int) (v1 : Int) (s0 : Int) (s1 : Int) : Option (Int × gH) :=
  if kd s0 = 7 then bdN (fM_fails g s0 s1 1) (fun y10 g12 => if y10 = 0 then (lM_roomiest_31 g12 v0 v1 fu (-1) 1) else (some (0, g12))) else none
noncomputable def fM_roomiest (g : gH) (v0 : Int) (v1 : Int) : Option (Int × gH) :=
  bnd (pU g v0 8 0) (fun g1 => bdP (fM_isSmall g1 v1) (fun y3 => if y3 = 0 then (jM_roomiest_18 g1 v0 v1 v0 1) else (jM_roomiest_18 g1 v0 v1 v0 0)))
noncomputable def bM_allRoom_9 (g : gH) (v0 : Int) (X9 : Int → Int → Option (Int × gH)) (v1 : Int) (v2 : Int) : Option (Int × gH) :=
  if kd (g v0 0) = 20 ∧ (0 : Int) ≤ 0 ∧ 0 < sz (g v0 0) then if v2 < (g (g v0 0) 0) then (bdP (fM_roomOf g v0 v2) (fun y8 => X9 (w32 (v1 + y8)) (w32 (v2 + 1)))) else (some (v1, g)) else none
noncomputable def lM_allRoom_9 (g : gH) (v0 : Int) (n : Nat) : Int → Int → Option (Int × gH) := Nat.rec (motive := fun _ => Int → Int → Option (Int × gH)) (fun _ _ => none) (fun _ ih => bM_allRoom_9 g v0 ih) n
noncomputable def fM_allRoom (g : gH) (v0 : Int) : Option (Int × gH) :=
  bnd (pU g v0 8 0) (fun g1 => lM_allRoom_9 g1 v0 fu 0 0)
noncomputable def bM_overfull_9 (g : gH) (v0 : Int) (X9 : Int → Int → Option (Int × gH)) (v1 : Int) (v2 : Int) : Option (Int × gH) :=
  if kd (g v0 0) = 20 ∧ (0 : Int) ≤ 0 ∧ 0 < sz (g v0 0) then if v2 < (g (g v0 0) 0) then (bdP (fM_runs g v0 v2) (fun y8 => if y8 = 0 then (X9 (w32 (v1 + 0)) (w32 (v2 + 1))) else (bdP (fM_childrenOf g v0 v2 0) (fun y14 => if kd (g v0 0) = 20 ∧ (0 : Int) ≤ (w32 (100 + v2)) ∧ (w32 (100 + v2)) < sz (g v0 0) then if (g (g v0 0) (w32 (100 + v2))) < y14 then (X9 (w32 (v1 + 1)) (w32 (v2 + 1))) else (X9 (w32 (v1 + 0)) (w32 (v2 + 1))) else none)))) else (some (v1, g)) else none
noncomputable def lM_overfull_9 (g : gH) (v0 : Int) (n : Nat) : Int → Int → Option (Int × gH) := Nat.rec (motive := fun _ => Int → Int → Option (Int × gH)) (fun _ _ => none) (fun _ ih => bM_overfull_9 g v0 ih) n
noncomputable def fM_overfull (g : gH) (v0 : Int) : Option (Int × gH) :=
  bnd (pU g v0 8 0) (fun g1 => lM_overfull_9 g1 v0 fu 0 0)
noncomputable def bM_ofGroup_31 (g : gH) (v0 : Int) (v1 : Int) (X31 : Int → Int → Option (Int × gH)) (v2 : Int) (v3 : Int) : Option (Int × gH) :=
  if kd (g v0 0) = 20 ∧ (0 : Int) ≤ 0 ∧ 0 < sz (g v0 0) then if v3 < (g (g v0 0) 0) then (bdP (fM_runs g v0 v3) (fun y21 => if y21 = 0 then (X31 (w32 (v2 + 0)) (w32 (v3 + 1))) else (if kd (g v0 0) = 20 ∧ (0 : Int) ≤ (w32 (180 + v3)) ∧ (w32 (180 + v3)) < sz (g v0 0) then if (g (g v0 0) (w32 (180 + v3))) = v1 then (X31 (w32 (v2 + 1)) (w32 (v3 + 1))) else (X31 (w32 (v2 + 0)) (w32 (v3 + 1))) else none))) else (some (v2, g)) else none
noncomputable def lM_ofGroup_31 (g : gH) (v0 : Int) (v1 : Int) (n : Nat) : Int → Int → Option (Int × gH) := Nat.rec (motive := fun _ => Int → Int → Option (Int × gH)) (fun _ _ => none) (fun _ ih => bM_ofGroup_31 g v0 v1 ih) n
noncomputable def jM_ofGroup_18 (g : gH) (v0 : Int) (v1 : Int) (s0 : Int) (s1 : Int) : Option (Int × gH) :=
  if kd s0 = 7 then bdN (fM_fails g s0 s1 1) (fun y10 g12 => if y10 = 0 then (lM_ofGroup_31 g12 v0 v1 fu 0 0) else (some (0, g12))) else none
noncomputable def fM_ofGroup (g : gH) (v0 : Int) (v1 : Int) : Option (Int × gH) :=
  bnd (pU g v0 8 0) (fun g1 => bdP (fM_isSmall g1 v1) (fun y3 => if y3 = 0 then (jM_ofGroup_18 g1 v0 v1 v0 1) else (jM_ofGroup_18 g1 v0 v1 v0 0)))
noncomputable def fM_nextTestament (g : gH) (v0 : Int) (v1 : Int) : Option (Int × gH) :=
  bdN (fM_noProcess g v0 v1) (fun y1 g3 => if y1 = 0 then (bdP (fM_firstZombie g3 v0 v1) (fun y7 => some (y7, g3))) else (some (0, g3)))
noncomputable def jM_exited_27 (g : gH) (v0 : Int) (v1 : Int) (s0 : Int) (s1 : Int) : Option (Int × gH) :=
  if kd s0 = 7 then bdN (fM_fails g s0 s1 1) (fun y13 g15 => if y13 = 0 then (if kd (g15 v0 0) = 20 ∧ (0 : Int) ≤ (w32 (19 + v1)) ∧ (w32 (19 + v1)) < sz (g15 v0 0) then some ((g15 (g15 v0 0) (w32 (19 + v1))), g15) else none) else (some (0, g15))) else none
noncomputable def fM_exited (g : gH) (v0 : Int) (v1 : Int) : Option (Int × gH) :=
  bnd (pU g v0 8 0) (fun g1 => if kd (g1 v0 0) = 20 ∧ (0 : Int) ≤ 1 ∧ 1 < sz (g1 v0 0) then bdP (fM_inRange g1 v1 0 (w32 ((g1 (g1 v0 0) 1) - 1))) (fun y6 => if y6 = 0 then (jM_exited_27 g1 v0 v1 v0 1) else (jM_exited_27 g1 v0 v1 v0 0)) else none)
noncomputable def jM_meanDepth_45 (g : gH) (v0 : Int) (v1 : Int) : Option (Int × gH) :=
  bdP (fM_runningMany g v0) (fun y18 => if okddiv (gi2d v1) (gi2d y18) = true then some ((gddiv (gi2d v1) (gi2d y18)), g) else none)
noncomputable def bM_meanDepth_9 (g : gH) (v0 : Int) (X9 : Int → Int → Option (Int × gH)) (v1 : Int) (v2 : Int) : Option (Int × gH) :=
  if kd (g v0 0) = 20 ∧ (0 : Int) ≤ 0 ∧ 0 < sz (g v0 0) then if v2 < (g (g v0 0) 0) then (bdP (fM_runs g v0 v2) (fun y8 => if y8 = 0 then (X9 (w32 (v1 + 0)) (w32 (v2 + 1))) else (bdP (fM_deep g v0 v2) (fun y14 => X9 (w32 (v1 + y14)) (w32 (v2 + 1)))))) else (jM_meanDepth_45 g v0 v1) else none
noncomputable def lM_meanDepth_9 (g : gH) (v0 : Int) (n : Nat) : Int → Int → Option (Int × gH) := Nat.rec (motive := fun _ => Int → Int → Option (Int × gH)) (fun _ _ => none) (fun _ ih => bM_meanDepth_9 g v0 ih) n
noncomputable def fM_meanDepth (g : gH) (v0 : Int) : Option (Int × gH) :=
  bnd (pU g v0 8 0) (fun g1 => lM_meanDepth_9 g1 v0 fu 0 0)
noncomputable def fM_rootShare (g : gH) (v0 : Int) : Option (Int × gH) :=
  bnd (pU g v0 8 0) (fun g1 => if kd (g1 v0 0) = 20 ∧ (0 : Int) ≤ 2 ∧ 2 < sz (g1 v0 0) then if (g1 (g1 v0 0) 2) = 0 then (some (0, g1)) else (if kd (g1 v0 0) = 20 ∧ (0 : Int) ≤ 3 ∧ 3 < sz (g1 v0 0) then if kd (g1 v0 0) = 20 ∧ (0 : Int) ≤ 2 ∧ 2 < sz (g1 v0 0) then if okfdiv (gi2f (g1 (g1 v0 0) 3)) (gi2f (g1 (g1 v0 0) 2)) = true then some ((gfdiv (gi2f (g1 (g1 v0 0) 3)) (gi2f (g1 (g1 v0 0) 2))), g1) else none else none else none) else none)
noncomputable def fM_readShare (g : gH) (v0 : Int) : Option (Int × gH) :=
  bnd (pU g v0 8 0) (fun g1 => if kd (g1 v0 0) = 20 ∧ (0 : Int) ≤ 1 ∧ 1 < sz (g1 v0 0) then if (g1 (g1 v0 0) 1) = 0 then (some (0, g1)) else (bdP (fM_inState g1 v0 2) (fun y8 => if kd (g1 v0 0) = 20 ∧ (0 : Int) ≤ 1 ∧ 1 < sz (g1 v0 0) then if okddiv (gi2d y8) (gi2d (g1 (g1 v0 0) 1)) = true then some ((gddiv (gi2d y8) (gi2d (g1 (g1 v0 0) 1))), g1) else none else none)) else none)
noncomputable def bM_testamentsBelow_22 (g : gH) (v0 : Int) (v1 : Int) (X22 : Int → Int → Option (Int × gH)) (v2 : Int) (v3 : Int) : Option (Int × gH) :=
  if kd (g v0 0) = 20 ∧ (0 : Int) ≤ 0 ∧ 0 < sz (g v0 0) then if v3 < (g (g v0 0) 0) then (if kd (g v0 0) = 20 ∧ (0 : Int) ≤ (w32 (140 + v3)) ∧ (w32 (140 + v3)) < sz (g v0 0) then if (g (g v0 0) (w32 (140 + v3))) = 1 then (bdP (fM_isOver g v0 v1 v3) (fun y23 => if y23 = 0 then (X22 (w32 (v2 + 0)) (w32 (v3 + 1))) else (X22 (w32 (v2 + 1)) (w32 (v3 + 1))))) else (X22 (w32 (v2 + 0)) (w32 (v3 + 1))) else none) else (some (v2, g)) else none
noncomputable def lM_testamentsBelow_22 (g : gH) (v0 : Int) (v1 : Int) (n : Nat) : Int → Int → Option (Int × gH) := Nat.rec (motive := fun _ => Int → Int → Option (Int × gH)) (fun _ _ => none) (fun _ ih => bM_testamentsBelow_22 g v0 v1 ih) n
noncomputable def fM_testamentsBelow (g : gH) (v0 : Int) (v1 : Int) : Option (Int × gH) :=
  bdN (fM_noProcess g v0 v1) (fun y1 g3 => if y1 = 0 then (bdP (fM_runs g3 v0 v1) (fun y7 => if y7 = 0 then (some (0, g3)) else (lM_testamentsBelow_22 g3 v0 v1 fu 0 1))) else (some (0, g3)))
noncomputable def bM_roomBelow_22 (g : gH) (v0 : Int) (v1 : Int) (X22 : Int → Int → Option (Int × gH)) (v2 : Int) (v3 : Int) : Option (Int × gH) :=
  if kd (g v0 0) = 20 ∧ (0 : Int) ≤ 0 ∧ 0 < sz (g v0 0) then if v3 < (g (g v0 0) 0) then (bdP (fM_runs g v0 v3) (fun y18 => if y18 = 0 then (X22 (w32 (v2 + 0)) (w32 (v3 + 1))) else (bdP (fM_isOver g v0 v1 v3) (fun y24 => if y24 = 0 then (X22 (w32 (v2 + 0)) (w32 (v3 + 1))) else (bdP (fM_roomOf g v0 v3) (fun y30 => X22 (w32 (v2 + y30)) (w32 (v3 + 1)))))))) else (some (v2, g)) else none
noncomputable def lM_roomBelow_22 (g : gH) (v0 : Int) (v1 : Int) (n : Nat) : Int → Int → Option (Int × gH) := Nat.rec (motive := fun _ => Int → Int → Option (Int × gH)) (fun _ _ => none) (fun _ ih => bM_roomBelow_22 g v0 v1 ih) n
noncomputable def fM_roomBelow (g : gH) (v0 : Int) (v1 : Int) : Option (Int × gH) :=
  bdN (fM_noProcess g v0 v1) (fun y1 g3 => if y1 = 0 then (bdP (fM_runs g3 v0 v1) (fun y7 => if y7 = 0 then (some (0, g3)) else (lM_roomBelow_22 g3 v0 v1 fu 0 1))) else (some (0, g3)))
noncomputable def jM_mostAdopted_56 (X9 : Int → Int → Option (Int × gH)) (g : gH) (v0 : Int) (v1 : Int) (v2 : Int) (s0 : Int) (s1 : Int) : Option (Int × gH) :=
  if s1 < s0 then (X9 v2 (w32 (v2 + 1))) else (X9 v1 (w32 (v2 + 1)))
noncomputable def bM_mostAdopted_9 (g : gH) (v0 : Int) (X9 : Int → Int → Option (Int × gH)) (v1 : Int) (v2 : Int) : Option (Int × gH) :=
  if kd (g v0 0) = 20 ∧ (0 : Int) ≤ 0 ∧ 0 < sz (g v0 0) then if v2 < (g (g v0 0) 0) then (bdP (fM_runs g v0 v2) (fun y8 => if y8 = 0 then (X9 v1 (w32 (v2 + 1))) else (if kd (g v0 0) = 20 ∧ (0 : Int) ≤ (w32 (380 + v2)) ∧ (w32 (380 + v2)) < sz (g v0 0) then if v1 = (-1) then (jM_mostAdopted_56 X9 g v0 v1 v2 (g (g v0 0) (w32 (380 + v2))) 0) else (if kd (g v0 0) = 20 ∧ (0 : Int) ≤ (w32 (380 + v1)) ∧ (w32 (380 + v1)) < sz (g v0 0) then jM_mostAdopted_56 X9 g v0 v1 v2 (g (g v0 0) (w32 (380 + v2))) (g (g v0 0) (w32 (380 + v1))) else none) else none))) else (some (v1, g)) else none
noncomputable def lM_mostAdopted_9 (g : gH) (v0 : Int) (n : Nat) : Int → Int → Option (Int × gH) := Nat.rec (motive := fun _ => Int → Int → Option (Int × gH)) (fun _ _ => none) (fun _ ih => bM_mostAdopted_9 g v0 ih) n
noncomputable def fM_mostAdopted (g : gH) (v0 : Int) : Option (Int × gH) :=
  bnd (pU g v0 8 0) (fun g1 => lM_mostAdopted_9 g1 v0 fu (-1) 1)
noncomputable def bM_heaviest_14 (g : gH) (v0 : Int) (v1 : Int) (X14 : Int → Int → Option (Int × gH)) (v2 : Int) (v3 : Int) : Option (Int × gH) :=
  if kd (g v0 0) = 20 ∧ (0 : Int) ≤ 0 ∧ 0 < sz (g v0 0) then if v3 < (g (g v0 0) 0) then (bdP (fM_isChild g v0 v3 v1 0) (fun y12 => if y12 = 0 then (X14 v2 (w32 (v3 + 1))) else (if v2 = (-1) then (X14 v3 (w32 (v3 + 1))) else (bdP (fM_belowOf g v0 v3) (fun y20 => bdP (fM_belowOf g v0 v2) (fun y24 => if y24 < y20 then (X14 v3 (w32 (v3 + 1))) else (X14 v2 (w32 (v3 + 1))))))))) else (some (v2, g)) else none
noncomputable def lM_heaviest_14 (g : gH) (v0 : Int) (v1 : Int) (n : Nat) : Int → Int → Option (Int × gH) := Nat.rec (motive := fun _ => Int → Int → Option (Int × gH)) (fun _ _ => none) (fun _ ih => bM_heaviest_14 g v0 v1 ih) n
noncomputable def fM_heaviest (g : gH) (v0 : Int) (v1 : Int) : Option (Int × gH) :=
  bdN (fM_noProcess g v0 v1) (fun y1 g3 => if y1 = 0 then (lM_heaviest_14 g3 v0 v1 fu (-1) 1) else (some (0, g3)))
noncomputable def bM_groupsBelow_22 (g : gH) (v0 : Int) (v1 : Int) (X22 : Int → Int → Option (Int × gH)) (v2 : Int) (v3 : Int) : Option (Int × gH) :=
  if kd (g v0 0) = 20 ∧ (0 : Int) ≤ 0 ∧ 0 < sz (g v0 0) then if v3 < (g (g v0 0) 0) then (bdP (fM_runs g v0 v3) (fun y18 => if y18 = 0 then (X22 (opI 2 v2 0) (w32 (v3 + 1))) else (bdP (fM_isOver g v0 v1 v3) (fun y24 => if y24 = 0 then (X22 (opI 2 v2 0) (w32 (v3 + 1))) else (if kd (g v0 0) = 20 ∧ (0 : Int) ≤ (w32 (180 + v3)) ∧ (w32 (180 + v3)) < sz (g v0 0) then X22 (opI 2 v2 (opI 4 1 (g (g v0 0) (w32 (180 + v3))))) (w32 (v3 + 1)) else none))))) else (some (v2, g)) else none
noncomputable def lM_groupsBelow_22 (g : gH) (v0 : Int) (v1 : Int) (n : Nat) : Int → Int → Option (Int × gH) := Nat.rec (motive := fun _ => Int → Int → Option (Int × gH)) (fun _ _ => none) (fun _ ih => bM_groupsBelow_22 g v0 v1 ih) n
noncomputable def fM_groupsBelow (g : gH) (v0 : Int) (v1 : Int) : Option (Int × gH) :=
  bdN (fM_noProcess g v0 v1) (fun y1 g3 => if y1 = 0 then (bdP (fM_runs g3 v0 v1) (fun y7 => if y7 = 0 then (some (0, g3)) else (lM_groupsBelow_22 g3 v0 v1 fu 0 1))) else (some (0, g3)))
noncomputable def bM_strangers_14 (g : gH) (v0 : Int) (v1 : Int) (X14 : Int → Int → Option (Int × gH)) (v2 : Int) (v3 : Int) : Option (Int × gH) :=
  if kd (g v0 0) = 20 ∧ (0 : Int) ≤ 0 ∧ 0 < sz (g v0 0) then if v3 < (g (g v0 0) 0) then (bdP (fM_isChild g v0 v3 v1 0) (fun y12 => if y12 = 0 then (X14 (w32 (v2 + 0)) (w32 (v3 + 1))) else (if kd (g v0 0) = 20 ∧ (0 : Int) ≤ (w32 (180 + v3)) ∧ (w32 (180 + v3)) < sz (g v0 0) then if kd (g v0 0) = 20 ∧ (0 : Int) ≤ (w32 (180 + v1)) ∧ (w32 (180 + v1)) < sz (g v0 0) then if (g (g v0 0) (w32 (180 + v3))) = (g (g v0 0) (w32 (180 + v1))) then (X14 (w32 (v2 + 0)) (w32 (v3 + 1))) else (X14 (w32 (v2 + 1)) (w32 (v3 + 1))) else none else none))) else (some (v2, g)) else none
noncomputable def lM_strangers_14 (g : gH) (v0 : Int) (v1 : Int) (n : Nat) : Int → Int → Option (Int × gH) := Nat.rec (motive := fun _ => Int → Int → Option (Int × gH)) (fun _ _ => none) (fun _ ih => bM_strangers_14 g v0 v1 ih) n
noncomputable def fM_strangers (g : gH) (v0 : Int) (v1 : Int) : Option (Int × gH) :=
  bdN (fM_noProcess g v0 v1) (fun y1 g3 => if y1 = 0 then (lM_strangers_14 g3 v0 v1 fu 0 1) else (some (0, g3)))
/-! ===== the methods as functions over a heap of whole numbers (own work, by program: wip/p2/dec.py) ===== -/
noncomputable def fM_write (g : gH) (v0 : Int) (v1 : Int) : Option (Int × gH) :=
  if kd (g v0 22) = 20 ∧ (0 : Int) ≤ (g v0 23) ∧ (g v0 23) < sz (g v0 22) then bnd (pU g (g v0 22) (g v0 23) v1) (fun g4 => bnd (pU g4 v0 23 (w32 ((g4 v0 23) + 1))) (fun g7 => some (0, g7))) else none
noncomputable def bM_writeNumber_18 (v0 : Int) (v1 : Int) (X18 : Int → gH → Option (Int × gH)) (v2 : Int) (g : gH) : Option (Int × gH) :=
  if 0 < v2 then (if (1 : Int) ≤ v2 ∧ v2 < (2147483648 : Int) ∧ (0 : Int) ≤ v1 ∧ v1 < 2147483648 then if (1 : Int) ≤ 10 ∧ 10 < (2147483648 : Int) ∧ (0 : Int) ≤ (v1 / v2) ∧ (v1 / v2) < 2147483648 then bdN (fM_write g v0 (w32 (48 + ((v1 / v2) % 10)))) (fun y8 g10 => if (1 : Int) ≤ 10 ∧ 10 < (2147483648 : Int) ∧ (0 : Int) ≤ v2 ∧ v2 < 2147483648 then X18 (v2 / 10) g10 else none) else none else none) else (some (0, g))
noncomputable def lM_writeNumber_18 (v0 : Int) (v1 : Int) (n : Nat) : Int → gH → Option (Int × gH) := Nat.rec (motive := fun _ => Int → gH → Option (Int × gH)) (fun _ _ => none) (fun _ ih => bM_writeNumber_18 v0 v1 ih) n
noncomputable def bM_writeNumber_2 (g : gH) (v0 : Int) (v1 : Int) (X2 : Int → Option (Int × gH)) (v2 : Int) : Option (Int × gH) :=
  if (1 : Int) ≤ v2 ∧ v2 < (2147483648 : Int) ∧ (0 : Int) ≤ v1 ∧ v1 < 2147483648 then if 9 < (v1 / v2) then (X2 (opI 0 v2 10)) else (lM_writeNumber_18 v0 v1 fu v2 g) else none
noncomputable def lM_writeNumber_2 (g : gH) (v0 : Int) (v1 : Int) (n : Nat) : Int → Option (Int × gH) := Nat.rec (motive := fun _ => Int → Option (Int × gH)) (fun _ => none) (fun _ ih => bM_writeNumber_2 g v0 v1 ih) n
noncomputable def fM_writeNumber (g : gH) (v0 : Int) (v1 : Int) : Option (Int × gH) :=
  lM_writeNumber_2 g v0 v1 fu 1
noncomputable def bM_onPath_2 (g : gH) (v0 : Int) (v2 : Int) (X2 : Int → Option Int) (v3 : Int) : Option Int :=
  bdP (fM_deep g v0 v3) (fun y1 => if v2 < y1 then (if kd (g v0 0) = 20 ∧ (0 : Int) ≤ (w32 (60 + v3)) ∧ (w32 (60 + v3)) < sz (g v0 0) then X2 (g (g v0 0) (w32 (60 + v3))) else none) else (some v3))
noncomputable def lM_onPath_2 (g : gH) (v0 : Int) (v2 : Int) (n : Nat) : Int → Option Int := Nat.rec (motive := fun _ => Int → Option Int) (fun _ => none) (fun _ ih => bM_onPath_2 g v0 v2 ih) n
noncomputable def fM_onPath (g : gH) (v0 : Int) (v1 : Int) (v2 : Int) : Option Int :=
  lM_onPath_2 g v0 v2 fu v1
noncomputable def fM_writeBetween (g : gH) (v0 : Int) (v1 : Int) : Option (Int × gH) :=
  if 0 < (g v0 23) then (bdN (fM_write g v0 v1) (fun y4 g6 => some (0, g6))) else (some (0, g))
noncomputable def bM_writePath_2 (v0 : Int) (v1 : Int) (X2 : Int → gH → Option (Int × gH)) (v2 : Int) (g : gH) : Option (Int × gH) :=
  bdP (fM_deep g v0 v1) (fun y1 => if y1 < v2 then (some (0, g)) else (bdN (fM_writeBetween g v0 47) (fun y7 g9 => bdP (fM_onPath g9 v0 v1 v2) (fun y11 => bdN (fM_writeNumber g9 v0 y11) (fun y15 g17 => X2 (w32 (v2 + 1)) g17)))))
noncomputable def lM_writePath_2 (v0 : Int) (v1 : Int) (n : Nat) : Int → gH → Option (Int × gH) := Nat.rec (motive := fun _ => Int → gH → Option (Int × gH)) (fun _ _ => none) (fun _ ih => bM_writePath_2 v0 v1 ih) n
noncomputable def fM_writePath (g : gH) (v0 : Int) (v1 : Int) : Option (Int × gH) :=
  lM_writePath_2 v0 v1 fu 0 g
noncomputable def bM_writeChildren_7 (v0 : Int) (v1 : Int) (X7 : Int → gH → Option (Int × gH)) (v2 : Int) (g : gH) : Option (Int × gH) :=
  if v2 = (-1) then (some (0, g)) else (bdN (fM_writeBetween g v0 44) (fun y7 g9 => bdN (fM_writeNumber g9 v0 v2) (fun y11 g13 => bdP (fM_nextChild g13 v0 v1 (w32 (v2 + 1))) (fun y15 => X7 y15 g13))))
noncomputable def lM_writeChildren_7 (v0 : Int) (v1 : Int) (n : Nat) : Int → gH → Option (Int × gH) := Nat.rec (motive := fun _ => Int → gH → Option (Int × gH)) (fun _ _ => none) (fun _ ih => bM_writeChildren_7 v0 v1 ih) n
noncomputable def fM_writeChildren (g : gH) (v0 : Int) (v1 : Int) : Option (Int × gH) :=
  bdP (fM_nextChild g v0 v1 0) (fun y1 => lM_writeChildren_7 v0 v1 fu y1 g)
noncomputable def jM_writeTree_42 (R : gH → Int → Int → Option (Int × gH)) (X26 : Int → gH → Option (Int × gH)) (g : gH) (v0 : Int) (v1 : Int) (v2 : Int) (v3 : Int) : Option (Int × gH) :=
  bdN (R g v0 v3) (fun y27 g29 => bdP (fM_nextChild g29 v0 v1 (w32 (v3 + 1))) (fun y31 => X26 y31 g29))
noncomputable def bM_writeTree_26 (R : gH → Int → Int → Option (Int × gH)) (v0 : Int) (v1 : Int) (v2 : Int) (X26 : Int → gH → Option (Int × gH)) (v3 : Int) (g : gH) : Option (Int × gH) :=
  if v3 = (-1) then (bdN (fM_write g v0 41) (fun y17 g19 => some (0, g19))) else (if v3 = v2 then (jM_writeTree_42 R X26 g v0 v1 v2 v3) else (bdN (fM_write g v0 32) (fun y23 g25 => jM_writeTree_42 R X26 g25 v0 v1 v2 v3)))
noncomputable def lM_writeTree_26 (R : gH → Int → Int → Option (Int × gH)) (v0 : Int) (v1 : Int) (v2 : Int) (n : Nat) : Int → gH → Option (Int × gH) := Nat.rec (motive := fun _ => Int → gH → Option (Int × gH)) (fun _ _ => none) (fun _ ih => bM_writeTree_26 R v0 v1 v2 ih) n
noncomputable def fbM_writeTree (R : gH → Int → Int → Option (Int × gH)) (g : gH) (v0 : Int) (v1 : Int) : Option (Int × gH) :=
  bdN (fM_writeNumber g v0 v1) (fun y1 g3 => bdP (fM_nextChild g3 v0 v1 0) (fun y5 => if y5 = (-1) then (some (0, g3)) else (bdN (fM_write g3 v0 40) (fun y11 g13 => lM_writeTree_26 R v0 v1 y5 fu y5 g13))))
noncomputable def fM_writeTree (n : Nat) : gH → Int → Int → Option (Int × gH) := Nat.rec (motive := fun _ => gH → Int → Int → Option (Int × gH)) (fun _ _ _ => none) (fun _ ih => fbM_writeTree ih) n
noncomputable def bM_writeZombies_2 (v0 : Int) (v1 : Int) (X2 : Int → gH → Option (Int × gH)) (v2 : Int) (g : gH) : Option (Int × gH) :=
  if kd (g v0 0) = 20 ∧ (0 : Int) ≤ 1 ∧ 1 < sz (g v0 0) then if v2 < (g (g v0 0) 1) then (if kd (g v0 0) = 20 ∧ (0 : Int) ≤ (w32 (19 + v2)) ∧ (w32 (19 + v2)) < sz (g v0 0) then bdP (fM_isChild g v0 (g (g v0 0) (w32 (19 + v2))) v1 1) (fun y9 => if y9 = 0 then (X2 (w32 (v2 + 1)) g) else (bdN (fM_writeBetween g v0 44) (fun y15 g17 => bdN (fM_writeNumber g17 v0 (g (g v0 0) (w32 (19 + v2)))) (fun y19 g21 => bdN (fM_write g21 v0 58) (fun y23 g25 => if kd (g25 v0 0) = 20 ∧ (0 : Int) ≤ (w32 (300 + (g (g v0 0) (w32 (19 + v2))))) ∧ (w32 (300 + (g (g v0 0) (w32 (19 + v2))))) < sz (g25 v0 0) then bdN (fM_writeNumber g25 v0 (g25 (g25 v0 0) (w32 (300 + (g (g v0 0) (w32 (19 + v2))))))) (fun y30 g32 => X2 (w32 (v2 + 1)) g32) else none))))) else none) else (some (0, g)) else none
noncomputable def lM_writeZombies_2 (v0 : Int) (v1 : Int) (n : Nat) : Int → gH → Option (Int × gH) := Nat.rec (motive := fun _ => Int → gH → Option (Int × gH)) (fun _ _ => none) (fun _ ih => bM_writeZombies_2 v0 v1 ih) n
noncomputable def fM_writeZombies (g : gH) (v0 : Int) (v1 : Int) : Option (Int × gH) :=
  lM_writeZombies_2 v0 v1 fu 0 g
noncomputable def jM_print_126 (g : gH) (v0 : Int) : Option (Int × gH) :=
  if (g v0 23) = 0 then (bdN (fM_write g v0 45) (fun y72 g74 => some ((g74 v0 23), g74))) else (some ((g v0 23), g))
noncomputable def jM_print_116 (g : gH) (v0 : Int) (v1 : Int) (v2 : Int) : Option (Int × gH) :=
  if v2 = 4 then (bdN (fM_writeZombies g v0 v1) (fun y65 g67 => jM_print_126 g67 v0)) else (jM_print_126 g v0)
noncomputable def bM_print_81 (v0 : Int) (v1 : Int) (v2 : Int) (X81 : Int → gH → Option (Int × gH)) (v3 : Int) (g : gH) : Option (Int × gH) :=
  if v3 < 8 then (if v2 = 3 then (if kd (g v0 0) = 20 ∧ (0 : Int) ≤ (w32 (11 + v3)) ∧ (w32 (11 + v3)) < sz (g v0 0) then if (g (g v0 0) (w32 (11 + v3))) = v1 then (bdN (fM_writeNumber g v0 v3) (fun y59 g61 => X81 (w32 (v3 + 1)) g61)) else (X81 (w32 (v3 + 1)) g) else none) else (jM_print_116 g v0 v1 v2)) else (jM_print_116 g v0 v1 v2)
noncomputable def lM_print_81 (v0 : Int) (v1 : Int) (v2 : Int) (n : Nat) : Int → gH → Option (Int × gH) := Nat.rec (motive := fun _ => Int → gH → Option (Int × gH)) (fun _ _ => none) (fun _ ih => bM_print_81 v0 v1 v2 ih) n
noncomputable def jM_print_69 (g : gH) (v0 : Int) (v1 : Int) (v2 : Int) : Option (Int × gH) :=
  if v2 = 2 then (bdN (fM_writeTree fr g v0 v1) (fun y46 g48 => lM_print_81 v0 v1 v2 fu 0 g48)) else (lM_print_81 v0 v1 v2 fu 0 g)
noncomputable def jM_print_59 (g : gH) (v0 : Int) (v1 : Int) (v2 : Int) : Option (Int × gH) :=
  if v2 = 1 then (bdN (fM_writeChildren g v0 v1) (fun y40 g42 => jM_print_69 g42 v0 v1 v2)) else (jM_print_69 g v0 v1 v2)
noncomputable def jM_print_23 (g : gH) (v0 : Int) (v1 : Int) (v2 : Int) (s0 : Int) (s1 : Int) : Option (Int × gH) :=
  if kd s0 = 7 then bdN (fM_fails g s0 s1 2) (fun y14 g16 => if y14 = 0 then (bdP (fM_isGone g16 v0 v1) (fun y20 => bdN (fM_fails g16 v0 y20 3) (fun y24 g26 => if y24 = 0 then (bnd (pU g26 v0 23 0) (fun g30 => if v2 = 0 then (bdN (fM_writePath g30 v0 v1) (fun y34 g36 => jM_print_59 g36 v0 v1 v2)) else (jM_print_59 g30 v0 v1 v2))) else (some (0, g26))))) else (some (0, g16))) else none
noncomputable def fM_print (g : gH) (v0 : Int) (v1 : Int) (v2 : Int) : Option (Int × gH) :=
  bdN (fM_noProcess g v0 v1) (fun y1 g3 => if y1 = 0 then (bdP (fM_inRange g3 v2 0 4) (fun y7 => if y7 = 0 then (jM_print_23 g3 v0 v1 v2 v0 1) else (jM_print_23 g3 v0 v1 v2 v0 0))) else (some (0, g3)))
noncomputable def fM_outputByte (g : gH) (v0 : Int) (v1 : Int) : Option (Int × gH) :=
  bnd (pU g v0 8 0) (fun g1 => bdP (fM_inRange g1 v1 0 (w32 ((g1 v0 23) - 1))) (fun y4 => if y4 = 0 then (some ((-1), g1)) else (if kd (g1 v0 22) = 20 ∧ (0 : Int) ≤ v1 ∧ v1 < sz (g1 v0 22) then some ((g1 (g1 v0 22) v1), g1) else none)))
noncomputable def fM_undo (g : gH) (v0 : Int) : Option (Int × gH) :=
  bnd (pU g v0 8 0) (fun g1 => if (g1 v0 6) = 0 then (some ((-1), g1)) else (bnd (pU g1 v0 6 (w32 ((g1 v0 6) - 1))) (fun g7 => bdN (fM_copies g7 (g7 v0 4) (opI 0 780 (g7 v0 6)) (g7 v0 0) 0 780) (fun y12 g14 => some ((g14 v0 6), g14)))))
noncomputable def fM_saveState (g : gH) (v0 : Int) : Option (Int × gH) :=
  bnd (pU g v0 8 0) (fun g1 => bdN (fM_copies g1 (g1 v0 0) 0 (g1 v0 3) 0 780) (fun y5 g7 => bnd (pU g7 v0 7 1) (fun g9 => bdP (fM_runningMany g9 v0) (fun y11 => some (y11, g9)))))
noncomputable def jM_restoreState_18 (g : gH) (v0 : Int) (s0 : Int) (s1 : Int) : Option (Int × gH) :=
  if kd s0 = 7 then bdN (fM_fails g s0 s1 1) (fun y7 g9 => if y7 = 0 then (bdN (fM_copies g9 (g9 v0 3) 0 (g9 v0 0) 0 780) (fun y15 g17 => bnd (pU g17 v0 6 0) (fun g19 => bdP (fM_runningMany g19 v0) (fun y21 => some (y21, g19))))) else (some (0, g9))) else none
noncomputable def fM_restoreState (g : gH) (v0 : Int) : Option (Int × gH) :=
  bnd (pU g v0 8 0) (fun g1 => if (g1 v0 7) = 0 then (jM_restoreState_18 g1 v0 v0 1) else (jM_restoreState_18 g1 v0 v0 0))
noncomputable def bT_dutiesOf_4 (g : gH) (v0 : Int) (v1 : Int) (X4 : Int → Int → Option Int) (v2 : Int) (v3 : Int) : Option Int :=
  if v3 < 8 then (if kd (g v0 2) = 20 ∧ (0 : Int) ≤ v3 ∧ v3 < sz (g v0 2) then if kd v1 = 3 then if (g (g v0 2) v3) = (g v1 0) then (X4 (opI 2 v2 (opI 4 1 v3)) (w32 (v3 + 1))) else (X4 v2 (w32 (v3 + 1))) else none else none) else (some v2)
noncomputable def lT_dutiesOf_4 (g : gH) (v0 : Int) (v1 : Int) (n : Nat) : Int → Int → Option Int := Nat.rec (motive := fun _ => Int → Int → Option Int) (fun _ _ => none) (fun _ ih => bT_dutiesOf_4 g v0 v1 ih) n
noncomputable def fT_dutiesOf (g : gH) (v0 : Int) (v1 : Int) : Option Int :=
  lT_dutiesOf_4 g v0 v1 fu 0 0
noncomputable def fC_count (g : gH) (v0 : Int) (v1 : Int) : Option (Nat × Int) :=
  if v1 = 0 then (if kd (g v0 0) = 5 then some (0, (g (g v0 0) 5)) else none) else if v1 = 1 then (if kd (g v0 0) = 5 then bdP (fT_countInState g (g v0 0) 0) (fun y10 => some (0, y10)) else none) else if v1 = 2 then (if kd (g v0 0) = 5 then bdP (fT_countInState g (g v0 0) 1) (fun y18 => some (0, y18)) else none) else if v1 = 3 then (if kd (g v0 0) = 5 then bdP (fT_countInState g (g v0 0) 2) (fun y26 => some (0, y26)) else none) else if v1 = 4 then (if kd (g v0 0) = 5 then some (0, (g (g v0 0) 6)) else none) else if v1 = 5 then (if kd (g v0 0) = 5 then some (0, (g (g v0 0) 7)) else none) else if v1 = 6 then (if kd (g v0 0) = 5 then some (0, (g (g v0 0) 8)) else none) else if v1 = 7 then (if kd (g v0 0) = 5 then some (0, (g (g v0 0) 9)) else none) else if v1 = 8 then (if kd (g v0 0) = 5 then bdP (fT_dutiesOf g (g v0 0) (g (g v0 0) 0)) (fun y56 => bdP (fJ_bitCount g y56) (fun y60 => some (0, y60))) else none) else if v1 = 9 then (if kd (g v0 3) = 0 then some (0, (g (g v0 3) 1)) else none) else if v1 = 10 then (if kd (g v0 0) = 5 then some (0, (g (g v0 0) 4)) else none) else (some (1, 0))
noncomputable def fW_count (g : gH) (v0 : Int) (v1 : Int) (v2 : Int) : Option (Int × gH) :=
  if kd v0 = 6 then bdQ (fC_count g v0 v1) (fun y2 => if kd v2 = 23 ∧ (0 : Int) ≤ 0 ∧ 0 < sz v2 then bnd (pU g v2 0 y2) (fun g9 => some (0, g9)) else none) (fun E7 => if E7 = 0 then (some (1, g)) else none) else none
noncomputable def fC_named (g : gH) (v0 : Int) (v1 : Int) : Option (Nat × Int) :=
  if kd (g v0 0) = 5 then bdP (fT_at g (g v0 0) v1) (fun y3 => if y3 < 0 then (some (3, 0)) else (some (0, y3))) else none
noncomputable def fC_numberOf (g : gH) (v0 : Int) : Option Int :=
  if v0 < 0 then (some (-1)) else (if kd v0 = 3 then some (g v0 0) else none)
noncomputable def bP_willMask_4 (g : gH) (v0 : Int) (X4 : Int → Int → Option Int) (v1 : Int) (v2 : Int) : Option Int :=
  if v2 < 8 then (bdP (fP_willFor g v0 v2) (fun y3 => if y3 = (-1) then (X4 v1 (w32 (v2 + 1))) else (X4 (opI 2 v1 (opI 4 1 v2)) (w32 (v2 + 1))))) else (some v1)
noncomputable def lP_willMask_4 (g : gH) (v0 : Int) (n : Nat) : Int → Int → Option Int := Nat.rec (motive := fun _ => Int → Int → Option Int) (fun _ _ => none) (fun _ ih => bP_willMask_4 g v0 ih) n
noncomputable def fP_willMask (g : gH) (v0 : Int) : Option Int :=
  lP_willMask_4 g v0 fu 0 0
noncomputable def fP_isZombieOf (g : gH) (v0 : Int) (v1 : Int) : Option Int :=
  if (g v0 1) = 1 then (if (g v0 2) = v1 then (some 1) else (some 0)) else (some 0)
noncomputable def bT_countZombiesOf_14 (g : gH) (v1 : Int) (v3 : Int) (v4 : Int) (X14 : Int → Int → Option Int) (v2 : Int) (v5 : Int) : Option Int :=
  if v5 < v4 then (if kd v3 = 24 ∧ (0 : Int) ≤ v5 ∧ v5 < sz v3 then if kd (g v3 v5) = 3 then bdP (fP_isZombieOf g (g v3 v5) v1) (fun y9 => if y9 = 0 then (X14 v2 (w32 (v5 + 1))) else (X14 (w32 (v2 + 1)) (w32 (v5 + 1)))) else none else none) else (some v2)
noncomputable def lT_countZombiesOf_14 (g : gH) (v1 : Int) (v3 : Int) (v4 : Int) (n : Nat) : Int → Int → Option Int := Nat.rec (motive := fun _ => Int → Int → Option Int) (fun _ _ => none) (fun _ ih => bT_countZombiesOf_14 g v1 v3 v4 ih) n
noncomputable def fT_countZombiesOf (g : gH) (v0 : Int) (v1 : Int) : Option Int :=
  if kd (g v0 1) = 24 then lT_countZombiesOf_14 g v1 (g v0 1) (sz (g v0 1)) fu 0 0 else none
noncomputable def fC_process (g : gH) (v0 : Int) (v1 : Int) (v2 : Int) : Option (Nat × Int) :=
  bdQ (fC_named g v0 v1) (fun y1 => if v2 = 0 then (if kd y1 = 3 then bdP (fC_numberOf g (g y1 2)) (fun y11 => some (0, y11)) else none) else if v2 = 1 then (if kd y1 = 3 then some (0, (g y1 4)) else none) else if v2 = 2 then (if kd y1 = 3 then bdP (fP_room g y1) (fun y22 => some (0, y22)) else none) else if v2 = 3 then (if kd y1 = 3 then some (0, (g y1 3)) else none) else if v2 = 4 then (if kd (g v0 0) = 5 then bdP (fT_countZombiesOf g (g v0 0) y1) (fun y34 => some (0, y34)) else none) else if v2 = 5 then (if kd y1 = 3 then some (0, (g y1 1)) else none) else if v2 = 6 then (if kd y1 = 3 then some (0, (g y1 5)) else none) else if v2 = 7 then (if kd y1 = 3 then some (0, (g y1 6)) else none) else if v2 = 8 then (if kd y1 = 3 then some (0, (g y1 7)) else none) else if v2 = 9 then (if kd (g v0 0) = 5 then bdP (fT_dutiesOf g (g v0 0) y1) (fun y58 => some (0, y58)) else none) else if v2 = 10 then (if kd y1 = 3 then some (0, (g y1 9)) else none) else if v2 = 11 then (if kd y1 = 3 then some (0, (g y1 8)) else none) else if v2 = 12 then (if kd y1 = 3 then some (0, (g y1 11)) else none) else if v2 = 13 then (if kd y1 = 3 then some (0, (g y1 12)) else none) else if v2 = 14 then (if kd y1 = 3 then bdP (fP_willMask g y1) (fun y81 => some (0, y81)) else none) else (some (1, 0))) (fun E6 => some (E6 + 1, 0))
noncomputable def fW_process (g : gH) (v0 : Int) (v1 : Int) (v2 : Int) (v3 : Int) : Option (Int × gH) :=
  if kd v0 = 6 then bdQ (fC_process g v0 v1 v2) (fun y2 => if kd v3 = 23 ∧ (0 : Int) ≤ 0 ∧ 0 < sz v3 then bnd (pU g v3 0 y2) (fun g9 => some (0, g9)) else none) (fun E7 => if E7 = 2 then (some (1, g)) else if E7 = 0 then (some (2, g)) else none) else none
noncomputable def fC_checkRange (g : gH) (v0 : Int) (v1 : Int) : Option (Nat × Int) :=
  if v0 < 0 then (some (1, 0)) else (if v1 < v0 then (some (1, 0)) else (some (0, 0)))
noncomputable def jT_holderOf_24 (g : gH) (v0 : Int) (s0 : Int) : Option Int :=
  if s0 < 0 then (some (g v0 0)) else (some s0)
noncomputable def jT_holderOf_10 (g : gH) (v0 : Int) : Option Int :=
  jT_holderOf_24 g v0 (-1)
noncomputable def fT_holderOf (g : gH) (v0 : Int) (v1 : Int) : Option Int :=
  if v1 < 0 then (jT_holderOf_10 g v0) else (if v1 < 8 then (if kd (g v0 2) = 20 ∧ (0 : Int) ≤ v1 ∧ v1 < sz (g v0 2) then bdP (fT_at g v0 (g (g v0 2) v1)) (fun y8 => jT_holderOf_24 g v0 y8) else none) else (jT_holderOf_10 g v0))
noncomputable def fC_holder (g : gH) (v0 : Int) (v1 : Int) : Option (Nat × Int) :=
  bdQ (fC_checkRange g v1 7) (fun y1 => if kd (g v0 0) = 5 then bdP (fT_holderOf g (g v0 0) v1) (fun y9 => if kd y9 = 3 then some (0, (g y9 0)) else none) else none) (fun E6 => some (E6 + 1, 0))
noncomputable def fW_holder (g : gH) (v0 : Int) (v1 : Int) (v2 : Int) : Option (Int × gH) :=
  if kd v0 = 6 then bdQ (fC_holder g v0 v1) (fun y2 => if kd v2 = 23 ∧ (0 : Int) ≤ 0 ∧ 0 < sz v2 then bnd (pU g v2 0 y2) (fun g9 => some (0, g9)) else none) (fun E7 => if E7 = 0 then (some (1, g)) else none) else none
noncomputable def fC_checkState (g : gH) (v0 : Int) : Option (Nat × Int) :=
  if v0 = 0 then (some (2, 0)) else (some (0, 0))
noncomputable def fC_depth (g : gH) (v0 : Int) (v1 : Int) : Option (Nat × Int) :=
  bdQ (fC_named g v0 v1) (fun y1 => if kd y1 = 3 then if (g y1 1) = 2 then (bdQ (fC_checkState g 0) (fun y11 => bdP (fP_countAbove g y1) (fun y17 => some (0, y17))) (fun E16 => some (E16 + 1, 0))) else (bdQ (fC_checkState g 1) (fun y21 => bdP (fP_countAbove g y1) (fun y27 => some (0, y27))) (fun E26 => some (E26 + 1, 0))) else none) (fun E6 => some (E6 + 1, 0))
noncomputable def fW_depth (g : gH) (v0 : Int) (v1 : Int) (v2 : Int) : Option (Int × gH) :=
  if kd v0 = 6 then bdQ (fC_depth g v0 v1) (fun y2 => if kd v2 = 23 ∧ (0 : Int) ≤ 0 ∧ 0 < sz v2 then bnd (pU g v2 0 y2) (fun g9 => some (0, g9)) else none) (fun E7 => if E7 = 2 then (some (1, g)) else if E7 = 1 then (some (2, g)) else none) else none
noncomputable def bP_isOver_5 (g : gH) (v0 : Int) (X5 : Int → Option Int) (v2 : Int) : Option Int :=
  if v2 < 0 then (some 0) else (if v2 = v0 then (some 1) else (if kd v2 = 3 then X5 (g v2 2) else none))
noncomputable def lP_isOver_5 (g : gH) (v0 : Int) (n : Nat) : Int → Option Int := Nat.rec (motive := fun _ => Int → Option Int) (fun _ => none) (fun _ ih => bP_isOver_5 g v0 ih) n
noncomputable def fP_isOver (g : gH) (v0 : Int) (v1 : Int) : Option Int :=
  if kd v1 = 3 then lP_isOver_5 g v0 fu (g v1 2) else none
noncomputable def fC_isAbove (g : gH) (v0 : Int) (v1 : Int) (v2 : Int) : Option (Nat × Int) :=
  bdQ (fC_named g v0 v1) (fun y1 => bdQ (fC_named g v0 v2) (fun y7 => if kd y1 = 3 then if (g y1 1) = 2 then (some (0, 0)) else (if kd y7 = 3 then if (g y7 1) = 2 then (some (0, 0)) else (bdP (fP_isOver g y1 y7) (fun y21 => if y21 = 0 then (some (0, 0)) else (some (0, 1)))) else none) else none) (fun E12 => some (E12 + 1, 0))) (fun E6 => some (E6 + 1, 0))
noncomputable def fW_isAbove (g : gH) (v0 : Int) (v1 : Int) (v2 : Int) (v3 : Int) : Option (Int × gH) :=
  if kd v0 = 6 then bdQ (fC_isAbove g v0 v1 v2) (fun y2 => if y2 = 0 then (if kd v3 = 23 ∧ (0 : Int) ≤ 0 ∧ 0 < sz v3 then bnd (pU g v3 0 0) (fun g11 => some (0, g11)) else none) else (if kd v3 = 23 ∧ (0 : Int) ≤ 0 ∧ 0 < sz v3 then bnd (pU g v3 0 1) (fun g14 => some (0, g14)) else none)) (fun E7 => if E7 = 2 then (some (1, g)) else none) else none
noncomputable def bT_lowestOver_2 (g : gH) (v0 : Int) (v2 : Int) (X2 : Int → Option Int) (v3 : Int) : Option Int :=
  if v3 < 0 then (some (g v0 0)) else (if v3 = v2 then (some v3) else (if kd v3 = 3 then bdP (fP_isOver g v3 v2) (fun y7 => if y7 = 0 then (X2 (g v3 2)) else (some v3)) else none))
noncomputable def lT_lowestOver_2 (g : gH) (v0 : Int) (v2 : Int) (n : Nat) : Int → Option Int := Nat.rec (motive := fun _ => Int → Option Int) (fun _ => none) (fun _ ih => bT_lowestOver_2 g v0 v2 ih) n
noncomputable def fT_lowestOver (g : gH) (v0 : Int) (v1 : Int) (v2 : Int) : Option Int :=
  lT_lowestOver_2 g v0 v2 fu v1
noncomputable def fC_meet (g : gH) (v0 : Int) (v1 : Int) (v2 : Int) : Option (Nat × Int) :=
  bdQ (fC_named g v0 v1) (fun y1 => bdQ (fC_named g v0 v2) (fun y7 => if kd y1 = 3 then if (g y1 1) = 2 then (bdQ (fC_checkState g 0) (fun y17 => if kd (g v0 0) = 5 then bdP (fT_lowestOver g (g v0 0) y1 y7) (fun y25 => if kd y25 = 3 then some (0, (g y25 0)) else none) else none) (fun E22 => some (E22 + 1, 0))) else (if kd y7 = 3 then if (g y7 1) = 2 then (bdQ (fC_checkState g 0) (fun y35 => if kd (g v0 0) = 5 then bdP (fT_lowestOver g (g v0 0) y1 y7) (fun y43 => if kd y43 = 3 then some (0, (g y43 0)) else none) else none) (fun E40 => some (E40 + 1, 0))) else (bdQ (fC_checkState g 1) (fun y49 => if kd (g v0 0) = 5 then bdP (fT_lowestOver g (g v0 0) y1 y7) (fun y57 => if kd y57 = 3 then some (0, (g y57 0)) else none) else none) (fun E54 => some (E54 + 1, 0))) else none) else none) (fun E12 => some (E12 + 1, 0))) (fun E6 => some (E6 + 1, 0))
noncomputable def fW_meet (g : gH) (v0 : Int) (v1 : Int) (v2 : Int) (v3 : Int) : Option (Int × gH) :=
  if kd v0 = 6 then bdQ (fC_meet g v0 v1 v2) (fun y2 => if kd v3 = 23 ∧ (0 : Int) ≤ 0 ∧ 0 < sz v3 then bnd (pU g v3 0 y2) (fun g9 => some (0, g9)) else none) (fun E7 => if E7 = 2 then (some (1, g)) else if E7 = 1 then (some (2, g)) else none) else none
noncomputable def bT_countBelow_16 (g : gH) (v1 : Int) (v2 : Int) (v4 : Int) (v5 : Int) (X16 : Int → Int → Option Int) (v3 : Int) (v6 : Int) : Option Int :=
  if v6 < v5 then (if kd v4 = 24 ∧ (0 : Int) ≤ v6 ∧ v6 < sz v4 then if kd (g v4 v6) = 3 then if (g (g v4 v6) 1) = v2 then (if kd v1 = 3 then bdP (fP_isOver g v1 (g v4 v6)) (fun y13 => if y13 = 0 then (X16 v3 (w32 (v6 + 1))) else (X16 (w32 (v3 + 1)) (w32 (v6 + 1)))) else none) else (X16 v3 (w32 (v6 + 1))) else none else none) else (some v3)
noncomputable def lT_countBelow_16 (g : gH) (v1 : Int) (v2 : Int) (v4 : Int) (v5 : Int) (n : Nat) : Int → Int → Option Int := Nat.rec (motive := fun _ => Int → Int → Option Int) (fun _ _ => none) (fun _ ih => bT_countBelow_16 g v1 v2 v4 v5 ih) n
noncomputable def fT_countBelow (g : gH) (v0 : Int) (v1 : Int) (v2 : Int) : Option Int :=
  if kd (g v0 1) = 24 then lT_countBelow_16 g v1 v2 (g v0 1) (sz (g v0 1)) fu 0 0 else none
noncomputable def fC_below (g : gH) (v0 : Int) (v1 : Int) : Option (Nat × Int) :=
  bdQ (fC_named g v0 v1) (fun y2 => if kd (g v0 0) = 5 then bdP (fT_countBelow g (g v0 0) y2 0) (fun y9 => some (0, y9)) else none) (fun E7 => some (E7 + 1, 0))
noncomputable def fW_below (g : gH) (v0 : Int) (v1 : Int) (v2 : Int) : Option (Int × gH) :=
  if kd v0 = 6 then bdQ (fC_below g v0 v1) (fun y2 => if kd v2 = 23 ∧ (0 : Int) ≤ 0 ∧ 0 < sz v2 then bnd (pU g v2 0 y2) (fun g9 => some (0, g9)) else none) (fun E7 => if E7 = 2 then (some (1, g)) else none) else none
noncomputable def fP_isRunningChildOf (g : gH) (v0 : Int) (v1 : Int) : Option Int :=
  if (g v0 1) = 0 then (if (g v0 2) = v1 then (some 1) else (some 0)) else (some 0)
noncomputable def bT_childBehind_12 (g : gH) (v1 : Int) (v2 : Int) (v3 : Int) (v4 : Int) (X12 : Int → Option Int) (v5 : Int) : Option Int :=
  if v5 < v4 then (if kd v3 = 24 ∧ (0 : Int) ≤ v5 ∧ v5 < sz v3 then if kd (g v3 v5) = 3 then if v2 < (g (g v3 v5) 0) then (bdP (fP_isRunningChildOf g (g v3 v5) v1) (fun y12 => if y12 = 0 then (X12 (w32 (v5 + 1))) else (some (g v3 v5)))) else (X12 (w32 (v5 + 1))) else none else none) else (some (-1))
noncomputable def lT_childBehind_12 (g : gH) (v1 : Int) (v2 : Int) (v3 : Int) (v4 : Int) (n : Nat) : Int → Option Int := Nat.rec (motive := fun _ => Int → Option Int) (fun _ => none) (fun _ ih => bT_childBehind_12 g v1 v2 v3 v4 ih) n
noncomputable def fT_childBehind (g : gH) (v0 : Int) (v1 : Int) (v2 : Int) : Option Int :=
  if kd (g v0 1) = 24 then lT_childBehind_12 g v1 v2 (g v0 1) (sz (g v0 1)) fu 0 else none
noncomputable def bT_nextOfWalk_9 (g : gH) (v0 : Int) (X9 : Int → Int → Option Int) (v2 : Int) (v3 : Int) : Option Int :=
  if v2 < 0 then (if kd v3 = 3 then if (g v3 2) < 0 then (some v2) else (bdP (fT_childBehind g v0 (g v3 2) (g v3 0)) (fun y13 => X9 y13 (g v3 2))) else none) else (some v2)
noncomputable def lT_nextOfWalk_9 (g : gH) (v0 : Int) (n : Nat) : Int → Int → Option Int := Nat.rec (motive := fun _ => Int → Int → Option Int) (fun _ _ => none) (fun _ ih => bT_nextOfWalk_9 g v0 ih) n
noncomputable def fT_nextOfWalk (g : gH) (v0 : Int) (v1 : Int) : Option Int :=
  bdP (fT_childBehind g v0 v1 (-1)) (fun y1 => lT_nextOfWalk_9 g v0 fu y1 v1)
noncomputable def jC_walked_48 (g : gH) (v2 : Int) : Option (Nat × Int) :=
  if v2 < 0 then (some (4, 0)) else (if kd v2 = 3 then some (0, (g v2 0)) else none)
noncomputable def bC_walked_24 (g : gH) (v0 : Int) (v1 : Int) (X24 : Int → Int → Option (Nat × Int)) (v2 : Int) (v3 : Int) : Option (Nat × Int) :=
  if v3 < v1 then (if v2 < 0 then (jC_walked_48 g v2) else (if kd (g v0 0) = 5 then bdP (fT_nextOfWalk g (g v0 0) v2) (fun y14 => X24 y14 (w32 (v3 + 1))) else none)) else (jC_walked_48 g v2)
noncomputable def lC_walked_24 (g : gH) (v0 : Int) (v1 : Int) (n : Nat) : Int → Int → Option (Nat × Int) := Nat.rec (motive := fun _ => Int → Int → Option (Nat × Int)) (fun _ _ => none) (fun _ ih => bC_walked_24 g v0 v1 ih) n
noncomputable def fC_walked (g : gH) (v0 : Int) (v1 : Int) : Option (Nat × Int) :=
  if v1 < 0 then (lC_walked_24 g v0 v1 fu (-1) 0) else (if v1 < 40 then (if kd (g v0 0) = 5 then lC_walked_24 g v0 v1 fu (g (g v0 0) 0) 0 else none) else (lC_walked_24 g v0 v1 fu (-1) 0))
noncomputable def fW_walked (g : gH) (v0 : Int) (v1 : Int) (v2 : Int) : Option (Int × gH) :=
  if kd v0 = 6 then bdQ (fC_walked g v0 v1) (fun y2 => if kd v2 = 23 ∧ (0 : Int) ≤ 0 ∧ 0 < sz v2 then bnd (pU g v2 0 y2) (fun g9 => some (0, g9)) else none) (fun E7 => if E7 = 3 then (some (1, g)) else none) else none
noncomputable def jH_push_21 (g : gH) (v0 : Int) (v1 : Int) : Option (Int × gH) :=
  if kd (g v0 0) = 25 ∧ (0 : Int) ≤ (g v0 2) ∧ (g v0 2) < sz (g v0 0) then if kd (g (g v0 0) (g v0 2)) = 5 then bdN (fT_take g (g (g v0 0) (g v0 2)) v1) (fun y14 g16 => bnd (pU g16 v0 2 (w32 ((g16 v0 2) + 1))) (fun g19 => if (g19 v0 1) < 10 then (bnd (pU g19 v0 1 (w32 ((g19 v0 1) + 1))) (fun g25 => some (0, g25))) else (some (0, g19)))) else none else none
noncomputable def jH_push_16 (g : gH) (v0 : Int) (v1 : Int) : Option (Int × gH) :=
  bnd (pU g v0 2 0) (fun g7 => jH_push_21 g7 v0 v1)
noncomputable def fH_push (g : gH) (v0 : Int) (v1 : Int) : Option (Int × gH) :=
  if (g v0 2) < 0 then (jH_push_16 g v0 v1) else (if (g v0 2) < 10 then (jH_push_21 g v0 v1) else (jH_push_16 g v0 v1))
noncomputable def jC_spawn_51 (g : gH) (v0 : Int) (v2 : Int) (v3 : Int) (v4 : Int) (v5 : Int) (s0 : Int) : Option (Nat × (Int × gH)) :=
  bdQ (fC_checkState g s0) (fun y37 => if kd (g v0 3) = 0 then bdN (fH_push g (g v0 3) (g v0 0)) (fun y46 g48 => if kd (g48 v0 0) = 5 then bdN (fT_arrive g48 (g48 v0 0) v5 v2 v3 v4) (fun y52 g54 => bdP (fC_numberOf g54 y52) (fun y56 => some (0, (y56, g54)))) else none) else none) (fun E42 => some (E42 + 1, (0, g)))
noncomputable def jC_spawn_50 (g : gH) (v0 : Int) (v2 : Int) (v3 : Int) (v4 : Int) (v5 : Int) : Option (Nat × (Int × gH)) :=
  jC_spawn_51 g v0 v2 v3 v4 v5 0
noncomputable def fC_spawn (g : gH) (v0 : Int) (v1 : Int) (v2 : Int) (v3 : Int) (v4 : Int) : Option (Nat × (Int × gH)) :=
  bdQ (fC_named g v0 v1) (fun y1 => bdQ (fC_checkRange g v2 9) (fun y7 => bdQ (fC_checkRange g v3 9) (fun y13 => bdQ (fC_checkRange g v4 9) (fun y19 => if kd y1 = 3 then bdP (fP_room g y1) (fun y26 => if 0 < y26 then (if kd (g v0 0) = 5 then if (g (g v0 0) 5) < 40 then (jC_spawn_51 g v0 v2 v3 v4 y1 1) else (jC_spawn_50 g v0 v2 v3 v4 y1) else none) else (jC_spawn_50 g v0 v2 v3 v4 y1)) else none) (fun E24 => some (E24 + 1, (0, g)))) (fun E18 => some (E18 + 1, (0, g)))) (fun E12 => some (E12 + 1, (0, g)))) (fun E6 => some (E6 + 1, (0, g)))
noncomputable def fW_spawn (g : gH) (v0 : Int) (v1 : Int) (v2 : Int) (v3 : Int) (v4 : Int) (v5 : Int) : Option (Int × gH) :=
  if kd v0 = 6 then bdT (fC_spawn g v0 v1 v2 v3 v4) (fun y2 g4 => if kd v5 = 23 ∧ (0 : Int) ≤ 0 ∧ 0 < sz v5 then bnd (pU g4 v5 0 y2) (fun g9 => some (0, g9)) else none) (fun E7 g4 => if E7 = 2 then (some (1, g4)) else if E7 = 0 then (some (2, g4)) else if E7 = 1 then (some (3, g4)) else none) else none
noncomputable def fP_isMortal (g : gH) (v0 : Int) : Option Int :=
  if (g v0 1) = 0 then (if (g v0 2) < 0 then (some 0) else (some 1)) else (some 0)
noncomputable def fC_namedForExit (g : gH) (v0 : Int) (v1 : Int) (v2 : Int) : Option (Nat × Int) :=
  bdQ (fC_named g v0 v1) (fun y1 => bdQ (fC_checkRange g v2 255) (fun y7 => if kd y1 = 3 then bdP (fP_isMortal g y1) (fun y14 => bdQ (fC_checkState g y14) (fun y18 => some (0, y1)) (fun E23 => some (E23 + 1, 0))) else none) (fun E12 => some (E12 + 1, 0))) (fun E6 => some (E6 + 1, 0))
noncomputable def fT_replace (g : gH) (v0 : Int) (v1 : Int) (v2 : Int) : Option (Int × gH) :=
  if kd v2 = 3 then if (g v2 13) = 0 then (if 0 < (g v2 6) then (if kd v1 = 3 then bdN (fT_arrive g v0 v2 (g v1 4) (g v1 5) (g v1 6)) (fun y12 g14 => if y12 < 0 then (some (y12, g14)) else (bnd (pU g14 v2 6 (w32 ((g14 v2 6) - 1))) (fun g19 => if kd y12 = 3 then bnd (pU g19 v1 12 (g19 y12 0)) (fun g23 => bnd (pU g23 v0 9 (w32 ((g23 v0 9) + 1))) (fun g26 => some (y12, g26))) else none))) else none) else (some ((-1), g))) else (some ((-1), g)) else none
noncomputable def fP_canInherit (g : gH) (v0 : Int) : Option Int :=
  if (g v0 1) = 0 then (if (g v0 13) = 0 then (some 1) else (some 0)) else (some 0)
noncomputable def jT_heirOf_73 (g : gH) (v0 : Int) (v1 : Int) : Option Int :=
  if kd v1 = 3 then if (g v1 2) < 0 then (some (g v0 0)) else (some (g v1 2)) else none
noncomputable def bT_heirOf_34 (g : gH) (v0 : Int) (v1 : Int) (v3 : Int) (v4 : Int) (X34 : Int → Option Int) (v5 : Int) : Option Int :=
  if v5 < v4 then (if kd v3 = 24 ∧ (0 : Int) ≤ v5 ∧ v5 < sz v3 then if kd (g v3 v5) = 3 then bdP (fP_isRunningChildOf g (g v3 v5) v1) (fun y27 => if y27 = 0 then (X34 (w32 (v5 + 1))) else (bdP (fP_canInherit g (g v3 v5)) (fun y33 => if y33 = 0 then (X34 (w32 (v5 + 1))) else (some (g v3 v5))))) else none else none) else (jT_heirOf_73 g v0 v1)
noncomputable def lT_heirOf_34 (g : gH) (v0 : Int) (v1 : Int) (v3 : Int) (v4 : Int) (n : Nat) : Int → Option Int := Nat.rec (motive := fun _ => Int → Option Int) (fun _ => none) (fun _ ih => bT_heirOf_34 g v0 v1 v3 v4 ih) n
noncomputable def fT_heirOf (g : gH) (v0 : Int) (v1 : Int) : Option Int :=
  if kd v1 = 3 then bdP (fT_at g v0 (g v1 7)) (fun y3 => if y3 < 0 then (if kd (g v0 1) = 24 then lT_heirOf_34 g v0 v1 (g v0 1) (sz (g v0 1)) fu 0 else none) else (if kd y3 = 3 then bdP (fP_canInherit g y3) (fun y13 => if y13 = 0 then (if kd (g v0 1) = 24 then lT_heirOf_34 g v0 v1 (g v0 1) (sz (g v0 1)) fu 0 else none) else (some y3)) else none)) else none
noncomputable def fT_inheritorOf (g : gH) (v0 : Int) (v1 : Int) (v2 : Int) : Option Int :=
  if kd v1 = 3 then bdP (fP_willFor g v1 v2) (fun y2 => bdP (fT_at g v0 y2) (fun y6 => if y6 < 0 then (bdP (fT_heirOf g v0 v1) (fun y12 => some y12)) else (if kd y6 = 3 then bdP (fP_canInherit g y6) (fun y17 => if y17 = 0 then (bdP (fT_heirOf g v0 v1) (fun y23 => some y23)) else (some y6)) else none))) else none
noncomputable def bT_passDuties_2 (v0 : Int) (v1 : Int) (v2 : Int) (X2 : Int → gH → Option (Int × gH)) (v3 : Int) (g : gH) : Option (Int × gH) :=
  if v3 < 8 then (if kd (g v0 2) = 20 ∧ (0 : Int) ≤ v3 ∧ v3 < sz (g v0 2) then if kd v1 = 3 then if (g (g v0 2) v3) = (g v1 0) then (if v2 < 0 then (bdP (fT_inheritorOf g v0 v1 v3) (fun y12 => if kd y12 = 3 then if kd (g v0 2) = 20 ∧ (0 : Int) ≤ v3 ∧ v3 < sz (g v0 2) then bnd (pU g (g v0 2) v3 (g y12 0)) (fun g20 => X2 (w32 (v3 + 1)) g20) else none else none)) else (if kd v2 = 3 then if kd (g v0 2) = 20 ∧ (0 : Int) ≤ v3 ∧ v3 < sz (g v0 2) then bnd (pU g (g v0 2) v3 (g v2 0)) (fun g26 => X2 (w32 (v3 + 1)) g26) else none else none)) else (X2 (w32 (v3 + 1)) g) else none else none) else (some (0, g))
noncomputable def lT_passDuties_2 (v0 : Int) (v1 : Int) (v2 : Int) (n : Nat) : Int → gH → Option (Int × gH) := Nat.rec (motive := fun _ => Int → gH → Option (Int × gH)) (fun _ _ => none) (fun _ ih => bT_passDuties_2 v0 v1 v2 ih) n
noncomputable def fT_passDuties (g : gH) (v0 : Int) (v1 : Int) (v2 : Int) : Option (Int × gH) :=
  lT_passDuties_2 v0 v1 v2 fu 0 g
noncomputable def fT_adopt (g : gH) (v0 : Int) (v1 : Int) (v2 : Int) : Option (Int × gH) :=
  if kd v1 = 3 then bdN (fP_putUnder g v1 v2) (fun y2 g4 => bnd (pU g4 v1 11 (w32 ((g4 v1 11) + 1))) (fun g7 => bnd (pU g7 v0 7 (w32 ((g7 v0 7) + 1))) (fun g10 => if v2 = (g10 v0 0) then (bnd (pU g10 v0 8 (w32 ((g10 v0 8) + 1))) (fun g16 => some (0, g16))) else (some (0, g10))))) else none
noncomputable def fT_canAdopt (g : gH) (v0 : Int) (v1 : Int) (v2 : Int) : Option Int :=
  if kd v1 = 3 then bdP (fP_isMortal g v1) (fun y2 => if y2 = 0 then (some 0) else (if (g v1 13) = 0 then (if v1 = v2 then (some 0) else (if kd v2 = 3 then bdP (fP_refuses g v1 (g v2 5)) (fun y15 => if y15 = 0 then (bdP (fP_room g v1) (fun y21 => if y21 = 0 then (some 0) else (bdP (fP_countAbove g v1) (fun y27 => if y27 < (g v0 4) then (bdP (fP_isOver g v2 v1) (fun y34 => if y34 = 0 then (some 1) else (some 0))) else (some 0))))) else (some 0)) else none)) else (some 0))) else none
noncomputable def bT_nearest_5 (g : gH) (v0 : Int) (v1 : Int) (X5 : Int → Option Int) (v3 : Int) : Option Int :=
  if v3 < 0 then (some (-1)) else (bdP (fT_canAdopt g v0 v3 v1) (fun y5 => if y5 = 0 then (if kd v3 = 3 then X5 (g v3 2) else none) else (some v3)))
noncomputable def lT_nearest_5 (g : gH) (v0 : Int) (v1 : Int) (n : Nat) : Int → Option Int := Nat.rec (motive := fun _ => Int → Option Int) (fun _ => none) (fun _ ih => bT_nearest_5 g v0 v1 ih) n
noncomputable def fT_nearest (g : gH) (v0 : Int) (v1 : Int) (v2 : Int) : Option Int :=
  if kd v2 = 3 then lT_nearest_5 g v0 v1 fu (g v2 2) else none
noncomputable def jT_roomiestFor_83 (X17 : Int → Int → Option Int) (g : gH) (v0 : Int) (v1 : Int) (v2 : Int) (v3 : Int) (v4 : Int) (v5 : Int) (v6 : Int) (v7 : Int) (v8 : Int) (v9 : Int) (s0 : Int) : Option Int :=
  if v9 = 0 then (X17 v4 (w32 (v7 + 1))) else (if s0 = 0 then (X17 v4 (w32 (v7 + 1))) else (bdP (fT_canAdopt g v0 v8 v1) (fun y36 => if y36 = 0 then (X17 v4 (w32 (v7 + 1))) else (X17 v8 (w32 (v7 + 1))))))
noncomputable def jT_roomiestFor_78 (X17 : Int → Int → Option Int) (g : gH) (v0 : Int) (v1 : Int) (v2 : Int) (v3 : Int) (v4 : Int) (v5 : Int) (v6 : Int) (v7 : Int) (v8 : Int) (v9 : Int) : Option Int :=
  jT_roomiestFor_83 X17 g v0 v1 v2 v3 v4 v5 v6 v7 v8 v9 1
noncomputable def jT_roomiestFor_58 (X17 : Int → Int → Option Int) (g : gH) (v0 : Int) (v1 : Int) (v2 : Int) (v3 : Int) (v4 : Int) (v5 : Int) (v6 : Int) (v7 : Int) (v8 : Int) (s0 : Int) : Option Int :=
  if v4 < 0 then (jT_roomiestFor_78 X17 g v0 v1 v2 v3 v4 v5 v6 v7 v8 s0) else (if kd v8 = 3 then bdP (fP_room g v8) (fun y21 => if kd v4 = 3 then bdP (fP_room g v4) (fun y26 => if y26 < y21 then (jT_roomiestFor_78 X17 g v0 v1 v2 v3 v4 v5 v6 v7 v8 s0) else (jT_roomiestFor_83 X17 g v0 v1 v2 v3 v4 v5 v6 v7 v8 s0 0)) else none) else none)
noncomputable def jT_roomiestFor_57 (X17 : Int → Int → Option Int) (g : gH) (v0 : Int) (v1 : Int) (v2 : Int) (v3 : Int) (v4 : Int) (v5 : Int) (v6 : Int) (v7 : Int) (v8 : Int) : Option Int :=
  jT_roomiestFor_58 X17 g v0 v1 v2 v3 v4 v5 v6 v7 v8 0
noncomputable def jT_roomiestFor_53 (X17 : Int → Int → Option Int) (g : gH) (v0 : Int) (v1 : Int) (v2 : Int) (v3 : Int) (v4 : Int) (v5 : Int) (v6 : Int) (v7 : Int) (v8 : Int) : Option Int :=
  jT_roomiestFor_58 X17 g v0 v1 v2 v3 v4 v5 v6 v7 v8 1
noncomputable def bT_roomiestFor_17 (g : gH) (v0 : Int) (v1 : Int) (v2 : Int) (v3 : Int) (v5 : Int) (v6 : Int) (X17 : Int → Int → Option Int) (v4 : Int) (v7 : Int) : Option Int :=
  if v7 < v6 then (if kd v5 = 24 ∧ (0 : Int) ≤ v7 ∧ v7 < sz v5 then if (g v5 v7) = v2 then (jT_roomiestFor_57 X17 g v0 v1 v2 v3 v4 v5 v6 v7 (g v5 v7)) else (if v3 = 0 then (jT_roomiestFor_53 X17 g v0 v1 v2 v3 v4 v5 v6 v7 (g v5 v7)) else (if kd (g v5 v7) = 3 then if kd v1 = 3 then if (g (g v5 v7) 5) = (g v1 5) then (jT_roomiestFor_53 X17 g v0 v1 v2 v3 v4 v5 v6 v7 (g v5 v7)) else (jT_roomiestFor_57 X17 g v0 v1 v2 v3 v4 v5 v6 v7 (g v5 v7)) else none else none)) else none) else (some v4)
noncomputable def lT_roomiestFor_17 (g : gH) (v0 : Int) (v1 : Int) (v2 : Int) (v3 : Int) (v5 : Int) (v6 : Int) (n : Nat) : Int → Int → Option Int := Nat.rec (motive := fun _ => Int → Int → Option Int) (fun _ _ => none) (fun _ ih => bT_roomiestFor_17 g v0 v1 v2 v3 v5 v6 ih) n
noncomputable def fT_roomiestFor (g : gH) (v0 : Int) (v1 : Int) (v2 : Int) (v3 : Int) : Option Int :=
  if kd (g v0 1) = 24 then lT_roomiestFor_17 g v0 v1 v2 v3 (g v0 1) (sz (g v0 1)) fu (-1) 0 else none
noncomputable def bT_firstKin_19 (g : gH) (v0 : Int) (v1 : Int) (v2 : Int) (v3 : Int) (v4 : Int) (v5 : Int) (X19 : Int → Option Int) (v6 : Int) : Option Int :=
  if v6 < v5 then (if kd v4 = 24 ∧ (0 : Int) ≤ v6 ∧ v6 < sz v4 then if v3 < 0 then (X19 (w32 (v6 + 1))) else (if (g v4 v6) = v2 then (X19 (w32 (v6 + 1))) else (if kd (g v4 v6) = 3 then bdP (fP_isRunningChildOf g (g v4 v6) v3) (fun y15 => if y15 = 0 then (X19 (w32 (v6 + 1))) else (bdP (fT_canAdopt g v0 (g v4 v6) v1) (fun y21 => if y21 = 0 then (X19 (w32 (v6 + 1))) else (some (g v4 v6))))) else none)) else none) else (some (-1))
noncomputable def lT_firstKin_19 (g : gH) (v0 : Int) (v1 : Int) (v2 : Int) (v3 : Int) (v4 : Int) (v5 : Int) (n : Nat) : Int → Option Int := Nat.rec (motive := fun _ => Int → Option Int) (fun _ => none) (fun _ ih => bT_firstKin_19 g v0 v1 v2 v3 v4 v5 ih) n
noncomputable def fT_firstKin (g : gH) (v0 : Int) (v1 : Int) (v2 : Int) : Option Int :=
  if kd v2 = 3 then if kd (g v0 1) = 24 then lT_firstKin_19 g v0 v1 v2 (g v2 2) (g v0 1) (sz (g v0 1)) fu 0 else none else none
noncomputable def bT_oldest_12 (g : gH) (v0 : Int) (v1 : Int) (v2 : Int) (v3 : Int) (v4 : Int) (X12 : Int → Option Int) (v5 : Int) : Option Int :=
  if v5 < v4 then (if kd v3 = 24 ∧ (0 : Int) ≤ v5 ∧ v5 < sz v3 then if (g v3 v5) = v2 then (X12 (w32 (v5 + 1))) else (bdP (fT_canAdopt g v0 (g v3 v5) v1) (fun y10 => if y10 = 0 then (X12 (w32 (v5 + 1))) else (some (g v3 v5)))) else none) else (some (-1))
noncomputable def lT_oldest_12 (g : gH) (v0 : Int) (v1 : Int) (v2 : Int) (v3 : Int) (v4 : Int) (n : Nat) : Int → Option Int := Nat.rec (motive := fun _ => Int → Option Int) (fun _ => none) (fun _ ih => bT_oldest_12 g v0 v1 v2 v3 v4 ih) n
noncomputable def fT_oldest (g : gH) (v0 : Int) (v1 : Int) (v2 : Int) : Option Int :=
  if kd (g v0 1) = 24 then lT_oldest_12 g v0 v1 v2 (g v0 1) (sz (g v0 1)) fu 0 else none
noncomputable def jT_adopterOf_130 (g : gH) (v0 : Int) (v3 : Int) : Option Int :=
  if v3 < 0 then (some (g v0 0)) else (some v3)
noncomputable def bT_adopterOf_19 (g : gH) (v0 : Int) (v1 : Int) (v2 : Int) (X19 : Int → Int → Option Int) (v3 : Int) (v4 : Int) : Option Int :=
  if v4 < 5 then (if v3 < 0 then (if kd (g v0 3) = 20 ∧ (0 : Int) ≤ v4 ∧ v4 < sz (g v0 3) then if (g (g v0 3) v4) = 0 then (bdP (fT_nearest g v0 v1 v2) (fun y15 => X19 y15 (w32 (v4 + 1)))) else if (g (g v0 3) v4) = 1 then (bdP (fT_roomiestFor g v0 v1 v2 1) (fun y21 => X19 y21 (w32 (v4 + 1)))) else if (g (g v0 3) v4) = 2 then (bdP (fT_roomiestFor g v0 v1 v2 0) (fun y27 => X19 y27 (w32 (v4 + 1)))) else if (g (g v0 3) v4) = 3 then (bdP (fT_firstKin g v0 v1 v2) (fun y33 => X19 y33 (w32 (v4 + 1)))) else if (g (g v0 3) v4) = 4 then (bdP (fT_oldest g v0 v1 v2) (fun y39 => X19 y39 (w32 (v4 + 1)))) else (X19 v3 (w32 (v4 + 1))) else none) else (jT_adopterOf_130 g v0 v3)) else (jT_adopterOf_130 g v0 v3)
noncomputable def lT_adopterOf_19 (g : gH) (v0 : Int) (v1 : Int) (v2 : Int) (n : Nat) : Int → Int → Option Int := Nat.rec (motive := fun _ => Int → Int → Option Int) (fun _ _ => none) (fun _ ih => bT_adopterOf_19 g v0 v1 v2 ih) n
noncomputable def fT_adopterOf (g : gH) (v0 : Int) (v1 : Int) : Option Int :=
  if kd v1 = 3 then if (g v1 2) < 0 then (some (g v0 0)) else (lT_adopterOf_19 g v0 v1 (g v1 2) fu (-1) 0) else none
noncomputable def bT_readZombiesOf_14 (v1 : Int) (v3 : Int) (v4 : Int) (X14 : Int → Int → gH → Option (Int × gH)) (v2 : Int) (v5 : Int) (g : gH) : Option (Int × gH) :=
  if v5 < v4 then (if kd v3 = 24 ∧ (0 : Int) ≤ v5 ∧ v5 < sz v3 then if kd (g v3 v5) = 3 then bdP (fP_isZombieOf g (g v3 v5) v1) (fun y9 => if y9 = 0 then (X14 v2 (w32 (v5 + 1)) g) else (bnd (pU g (g v3 v5) 1 2) (fun g15 => X14 (w32 (v2 + (g15 (g v3 v5) 9))) (w32 (v5 + 1)) g15))) else none else none) else (some (v2, g))
noncomputable def lT_readZombiesOf_14 (v1 : Int) (v3 : Int) (v4 : Int) (n : Nat) : Int → Int → gH → Option (Int × gH) := Nat.rec (motive := fun _ => Int → Int → gH → Option (Int × gH)) (fun _ _ _ => none) (fun _ ih => bT_readZombiesOf_14 v1 v3 v4 ih) n
noncomputable def fT_readZombiesOf (g : gH) (v0 : Int) (v1 : Int) : Option (Int × gH) :=
  if kd (g v0 1) = 24 then lT_readZombiesOf_14 v1 (g v0 1) (sz (g v0 1)) fu 0 0 g else none
noncomputable def jT_letExit_133 (X92 : Int → gH → Option (Int × gH)) (g : gH) (v0 : Int) (v1 : Int) (v3 : Int) (v4 : Int) (v5 : Int) (v6 : Int) (v7 : Int) (v8 : Int) (v9 : Int) (s0 : Int) : Option (Int × gH) :=
  if s0 = 0 then (bdP (fT_adopterOf g v0 v9) (fun y55 => bdN (fT_adopt g v0 v9 y55) (fun y59 g61 => X92 (w32 (v8 + 1)) g61))) else (bdN (fT_adopt g v0 v9 v5) (fun y63 g65 => X92 (w32 (v8 + 1)) g65))
noncomputable def jT_letExit_132 (X92 : Int → gH → Option (Int × gH)) (g : gH) (v0 : Int) (v1 : Int) (v3 : Int) (v4 : Int) (v5 : Int) (v6 : Int) (v7 : Int) (v8 : Int) (v9 : Int) : Option (Int × gH) :=
  jT_letExit_133 X92 g v0 v1 v3 v4 v5 v6 v7 v8 v9 0
noncomputable def jT_letExit_212 (g : gH) (v0 : Int) (v3 : Int) (v4 : Int) : Option (Int × gH) :=
  if v3 = (g v0 0) then (bdN (fT_readZombiesOf g v0 (g v0 0)) (fun y87 g89 => some ((w32 ((g89 v0 8) - v4)), g89))) else (some ((w32 ((g v0 8) - v4)), g))
noncomputable def bT_letExit_177 (v0 : Int) (v1 : Int) (v3 : Int) (v4 : Int) (v6 : Int) (v7 : Int) (X177 : Int → gH → Option (Int × gH)) (v8 : Int) (g : gH) : Option (Int × gH) :=
  if v8 < v7 then (if kd v6 = 24 ∧ (0 : Int) ≤ v8 ∧ v8 < sz v6 then if kd (g v6 v8) = 3 then bdP (fP_isZombieOf g (g v6 v8) v1) (fun y75 => if y75 = 0 then (X177 (w32 (v8 + 1)) g) else (bnd (pU g (g v6 v8) 2 v3) (fun g81 => X177 (w32 (v8 + 1)) g81))) else none else none) else (jT_letExit_212 g v0 v3 v4)
noncomputable def lT_letExit_177 (v0 : Int) (v1 : Int) (v3 : Int) (v4 : Int) (v6 : Int) (v7 : Int) (n : Nat) : Int → gH → Option (Int × gH) := Nat.rec (motive := fun _ => Int → gH → Option (Int × gH)) (fun _ _ => none) (fun _ ih => bT_letExit_177 v0 v1 v3 v4 v6 v7 ih) n
noncomputable def jT_letExit_163 (g : gH) (v0 : Int) (v1 : Int) (v3 : Int) (v4 : Int) : Option (Int × gH) :=
  if kd (g v0 1) = 24 then lT_letExit_177 v0 v1 v3 v4 (g v0 1) (sz (g v0 1)) fu 0 g else none
noncomputable def bT_letExit_92 (v0 : Int) (v1 : Int) (v3 : Int) (v4 : Int) (v5 : Int) (v6 : Int) (v7 : Int) (X92 : Int → gH → Option (Int × gH)) (v8 : Int) (g : gH) : Option (Int × gH) :=
  if v8 < v7 then (if kd v6 = 24 ∧ (0 : Int) ≤ v8 ∧ v8 < sz v6 then if kd (g v6 v8) = 3 then bdP (fP_isRunningChildOf g (g v6 v8) v1) (fun y38 => if y38 = 0 then (X92 (w32 (v8 + 1)) g) else (if v5 < 0 then (jT_letExit_132 X92 g v0 v1 v3 v4 v5 v6 v7 v8 (g v6 v8)) else (if kd v5 = 3 then bdP (fP_room g v5) (fun y47 => if 0 < y47 then (jT_letExit_133 X92 g v0 v1 v3 v4 v5 v6 v7 v8 (g v6 v8) 1) else (jT_letExit_132 X92 g v0 v1 v3 v4 v5 v6 v7 v8 (g v6 v8))) else none))) else none else none) else (jT_letExit_163 g v0 v1 v3 v4)
noncomputable def lT_letExit_92 (v0 : Int) (v1 : Int) (v3 : Int) (v4 : Int) (v5 : Int) (v6 : Int) (v7 : Int) (n : Nat) : Int → gH → Option (Int × gH) := Nat.rec (motive := fun _ => Int → gH → Option (Int × gH)) (fun _ _ => none) (fun _ ih => bT_letExit_92 v0 v1 v3 v4 v5 v6 v7 ih) n
noncomputable def jT_letExit_69 (g : gH) (v0 : Int) (v1 : Int) (v3 : Int) (v4 : Int) (s0 : Int) : Option (Int × gH) :=
  bdN (fT_passDuties g v0 v1 s0) (fun y26 g28 => if kd (g28 v0 1) = 24 then lT_letExit_92 v0 v1 v3 v4 s0 (g28 v0 1) (sz (g28 v0 1)) fu 0 g28 else none)
noncomputable def fT_letExit (g : gH) (v0 : Int) (v1 : Int) (v2 : Int) : Option (Int × gH) :=
  if kd v1 = 3 then if (g v1 2) < 0 then (some (0, g)) else (bnd (pU g v1 1 1) (fun g6 => bnd (pU g6 v1 9 v2) (fun g8 => bnd (pU g8 v1 10 (g8 v0 6)) (fun g11 => bnd (pU g11 v0 6 (w32 ((g11 v0 6) + 1))) (fun g14 => if kd (g v1 2) = 3 then bnd (pU g14 (g v1 2) 3 (w32 ((g14 (g v1 2) 3) - 1))) (fun g18 => if v2 = 0 then (jT_letExit_69 g18 v0 v1 (g v1 2) (g v0 8) (-1)) else (bdN (fT_replace g18 v0 v1 (g v1 2)) (fun y22 g24 => jT_letExit_69 g24 v0 v1 (g v1 2) (g v0 8) y22))) else none))))) else none
noncomputable def fC_exit (g : gH) (v0 : Int) (v1 : Int) (v2 : Int) : Option (Nat × (Int × gH)) :=
  bdQ (fC_namedForExit g v0 v1 v2) (fun y1 => if kd (g v0 3) = 0 then bdN (fH_push g (g v0 3) (g v0 0)) (fun y10 g12 => if kd (g12 v0 0) = 5 then bdN (fT_letExit g12 (g12 v0 0) y1 v2) (fun y16 g18 => some (0, (y16, g18))) else none) else none) (fun E6 => some (E6 + 1, (0, g)))
noncomputable def fW_exit (g : gH) (v0 : Int) (v1 : Int) (v2 : Int) (v3 : Int) : Option (Int × gH) :=
  if kd v0 = 6 then bdT (fC_exit g v0 v1 v2) (fun y2 g4 => if kd v3 = 23 ∧ (0 : Int) ≤ 0 ∧ 0 < sz v3 then bnd (pU g4 v3 0 y2) (fun g9 => some (0, g9)) else none) (fun E7 g4 => if E7 = 2 then (some (1, g4)) else if E7 = 0 then (some (2, g4)) else if E7 = 1 then (some (3, g4)) else none) else none
noncomputable def fC_checkKill (g : gH) (v0 : Int) (v1 : Int) : Option (Nat × Int) :=
  bdQ (fC_checkRange g v0 9) (fun y1 => bdQ (fC_checkRange g v1 255) (fun y7 => some (0, 0)) (fun E12 => some (E12 + 1, 0))) (fun E6 => some (E6 + 1, 0))
noncomputable def bT_killGroup_127 (v3 : Int) (v4 : Int) (v5 : Int) (X127 : Int → gH → Option (Int × gH)) (v6 : Int) (g : gH) : Option (Int × gH) :=
  if v6 < v5 then (if kd v4 = 24 ∧ (0 : Int) ≤ v6 ∧ v6 < sz v4 then if kd (g v4 v6) = 3 then bnd (pU g (g v4 v6) 13 0) (fun g47 => X127 (w32 (v6 + 1)) g47) else none else none) else (some (v3, g))
noncomputable def lT_killGroup_127 (v3 : Int) (v4 : Int) (v5 : Int) (n : Nat) : Int → gH → Option (Int × gH) := Nat.rec (motive := fun _ => Int → gH → Option (Int × gH)) (fun _ _ => none) (fun _ ih => bT_killGroup_127 v3 v4 v5 ih) n
noncomputable def jT_killGroup_113 (g : gH) (v0 : Int) (v3 : Int) : Option (Int × gH) :=
  if kd (g v0 1) = 24 then lT_killGroup_127 v3 (g v0 1) (sz (g v0 1)) fu 0 g else none
noncomputable def bT_killGroup_74 (v0 : Int) (v2 : Int) (v4 : Int) (v5 : Int) (X74 : Int → Int → gH → Option (Int × gH)) (v3 : Int) (v6 : Int) (g : gH) : Option (Int × gH) :=
  if v6 < v5 then (if kd v4 = 24 ∧ (0 : Int) ≤ v6 ∧ v6 < sz v4 then if kd (g v4 v6) = 3 then if (g (g v4 v6) 13) = 0 then (X74 v3 (w32 (v6 + 1)) g) else (bdN (fT_letExit g v0 (g v4 v6) v2) (fun y35 g37 => X74 (w32 (v3 + 1)) (w32 (v6 + 1)) g37)) else none else none) else (jT_killGroup_113 g v0 v3)
noncomputable def lT_killGroup_74 (v0 : Int) (v2 : Int) (v4 : Int) (v5 : Int) (n : Nat) : Int → Int → gH → Option (Int × gH) := Nat.rec (motive := fun _ => Int → Int → gH → Option (Int × gH)) (fun _ _ _ => none) (fun _ ih => bT_killGroup_74 v0 v2 v4 v5 ih) n
noncomputable def jT_killGroup_58 (g : gH) (v0 : Int) (v2 : Int) : Option (Int × gH) :=
  if kd (g v0 1) = 24 then lT_killGroup_74 v0 v2 (g v0 1) (sz (g v0 1)) fu 0 0 g else none
noncomputable def bT_killGroup_12 (v0 : Int) (v1 : Int) (v2 : Int) (v3 : Int) (v4 : Int) (X12 : Int → gH → Option (Int × gH)) (v5 : Int) (g : gH) : Option (Int × gH) :=
  if v5 < v4 then (if kd v3 = 24 ∧ (0 : Int) ≤ v5 ∧ v5 < sz v3 then if kd (g v3 v5) = 3 then bdP (fP_isMortal g (g v3 v5)) (fun y9 => if y9 = 0 then (bnd (pU g (g v3 v5) 13 0) (fun g15 => X12 (w32 (v5 + 1)) g15)) else (if (g (g v3 v5) 5) = v1 then (bnd (pU g (g v3 v5) 13 1) (fun g20 => X12 (w32 (v5 + 1)) g20)) else (bnd (pU g (g v3 v5) 13 0) (fun g22 => X12 (w32 (v5 + 1)) g22)))) else none else none) else (jT_killGroup_58 g v0 v2)
noncomputable def lT_killGroup_12 (v0 : Int) (v1 : Int) (v2 : Int) (v3 : Int) (v4 : Int) (n : Nat) : Int → gH → Option (Int × gH) := Nat.rec (motive := fun _ => Int → gH → Option (Int × gH)) (fun _ _ => none) (fun _ ih => bT_killGroup_12 v0 v1 v2 v3 v4 ih) n
noncomputable def fT_killGroup (g : gH) (v0 : Int) (v1 : Int) (v2 : Int) : Option (Int × gH) :=
  if kd (g v0 1) = 24 then lT_killGroup_12 v0 v1 v2 (g v0 1) (sz (g v0 1)) fu 0 g else none
noncomputable def fC_kill (g : gH) (v0 : Int) (v1 : Int) (v2 : Int) : Option (Nat × (Int × gH)) :=
  bdQ (fC_checkKill g v1 v2) (fun y1 => if kd (g v0 3) = 0 then bdN (fH_push g (g v0 3) (g v0 0)) (fun y10 g12 => if kd (g12 v0 0) = 5 then bdN (fT_killGroup g12 (g12 v0 0) v1 v2) (fun y16 g18 => some (0, (y16, g18))) else none) else none) (fun E6 => some (E6 + 1, (0, g)))
noncomputable def fW_kill (g : gH) (v0 : Int) (v1 : Int) (v2 : Int) (v3 : Int) : Option (Int × gH) :=
  if kd v0 = 6 then bdT (fC_kill g v0 v1 v2) (fun y2 g4 => if kd v3 = 23 ∧ (0 : Int) ≤ 0 ∧ 0 < sz v3 then bnd (pU g4 v3 0 y2) (fun g9 => some (0, g9)) else none) (fun E7 g4 => if E7 = 0 then (some (1, g4)) else none) else none
noncomputable def bT_zombieBehind_16 (g : gH) (v1 : Int) (v2 : Int) (v4 : Int) (v5 : Int) (X16 : Int → Int → Option Int) (v3 : Int) (v6 : Int) : Option Int :=
  if v6 < v5 then (if kd v4 = 24 ∧ (0 : Int) ≤ v6 ∧ v6 < sz v4 then if kd (g v4 v6) = 3 then bdP (fP_isZombieOf g (g v4 v6) v1) (fun y9 => if y9 = 0 then (X16 v3 (w32 (v6 + 1))) else (if v2 < (g (g v4 v6) 10) then (if v3 < 0 then (X16 (g v4 v6) (w32 (v6 + 1))) else (if kd v3 = 3 then if (g (g v4 v6) 10) < (g v3 10) then (X16 (g v4 v6) (w32 (v6 + 1))) else (X16 v3 (w32 (v6 + 1))) else none)) else (X16 v3 (w32 (v6 + 1))))) else none else none) else (some v3)
noncomputable def lT_zombieBehind_16 (g : gH) (v1 : Int) (v2 : Int) (v4 : Int) (v5 : Int) (n : Nat) : Int → Int → Option Int := Nat.rec (motive := fun _ => Int → Int → Option Int) (fun _ _ => none) (fun _ ih => bT_zombieBehind_16 g v1 v2 v4 v5 ih) n
noncomputable def fT_zombieBehind (g : gH) (v0 : Int) (v1 : Int) (v2 : Int) : Option Int :=
  if kd (g v0 1) = 24 then lT_zombieBehind_16 g v1 v2 (g v0 1) (sz (g v0 1)) fu (-1) 0 else none
noncomputable def fC_read (g : gH) (v0 : Int) (v1 : Int) : Option (Nat × (Int × gH)) :=
  bdQ (fC_named g v0 v1) (fun y1 => if kd y1 = 3 then bdP (fP_isRunning g y1) (fun y8 => bdQ (fC_checkState g y8) (fun y12 => if kd (g v0 0) = 5 then bdP (fT_zombieBehind g (g v0 0) y1 (-1)) (fun y20 => if y20 < 0 then (some (4, (0, g))) else (if kd (g v0 3) = 0 then bdN (fH_push g (g v0 3) (g v0 0)) (fun y29 g31 => if kd y20 = 3 then bnd (pU g31 y20 1 2) (fun g34 => some (0, ((w32 ((opI 0 1000 (g34 y20 0)) + (g34 y20 9))), g34))) else none) else none)) else none) (fun E17 => some (E17 + 1, (0, g)))) else none) (fun E6 => some (E6 + 1, (0, g)))
noncomputable def fW_read (g : gH) (v0 : Int) (v1 : Int) (v2 : Int) : Option (Int × gH) :=
  if kd v0 = 6 then bdT (fC_read g v0 v1) (fun y2 g4 => if kd v2 = 23 ∧ (0 : Int) ≤ 0 ∧ 0 < sz v2 then bnd (pU g4 v2 0 y2) (fun g9 => some (0, g9)) else none) (fun E7 g4 => if E7 = 2 then (some (1, g4)) else if E7 = 1 then (some (2, g4)) else if E7 = 3 then (some (3, g4)) else none) else none
noncomputable def bT_loseGroup_16 (v0 : Int) (v1 : Int) (v2 : Int) (v4 : Int) (v5 : Int) (X16 : Int → Int → gH → Option (Int × gH)) (v3 : Int) (v6 : Int) (g : gH) : Option (Int × gH) :=
  if v6 < v5 then (if kd v4 = 24 ∧ (0 : Int) ≤ v6 ∧ v6 < sz v4 then if kd (g v4 v6) = 3 then bdP (fP_isRunningChildOf g (g v4 v6) v1) (fun y9 => if y9 = 0 then (X16 v3 (w32 (v6 + 1)) g) else (if (g (g v4 v6) 5) = v2 then (bdP (fT_adopterOf g v0 (g v4 v6)) (fun y18 => bdN (fT_adopt g v0 (g v4 v6) y18) (fun y22 g24 => X16 (w32 (v3 + 1)) (w32 (v6 + 1)) g24))) else (X16 v3 (w32 (v6 + 1)) g))) else none else none) else (some (v3, g))
noncomputable def lT_loseGroup_16 (v0 : Int) (v1 : Int) (v2 : Int) (v4 : Int) (v5 : Int) (n : Nat) : Int → Int → gH → Option (Int × gH) := Nat.rec (motive := fun _ => Int → Int → gH → Option (Int × gH)) (fun _ _ _ => none) (fun _ ih => bT_loseGroup_16 v0 v1 v2 v4 v5 ih) n
noncomputable def fT_loseGroup (g : gH) (v0 : Int) (v1 : Int) (v2 : Int) : Option (Int × gH) :=
  if kd (g v0 1) = 24 then lT_loseGroup_16 v0 v1 v2 (g v0 1) (sz (g v0 1)) fu 0 0 g else none
noncomputable def fC_refuse (g : gH) (v0 : Int) (v1 : Int) (v2 : Int) : Option (Nat × (Int × gH)) :=
  bdQ (fC_named g v0 v1) (fun y1 => bdQ (fC_checkRange g v2 9) (fun y7 => if kd y1 = 3 then bdP (fP_isMortal g y1) (fun y14 => bdQ (fC_checkState g y14) (fun y18 => if kd (g v0 3) = 0 then bdN (fH_push g (g v0 3) (g v0 0)) (fun y27 g29 => bnd (pU g29 y1 8 (opI 2 (g29 y1 8) (opI 4 1 v2))) (fun g32 => if kd (g32 v0 0) = 5 then bdN (fT_loseGroup g32 (g32 v0 0) y1 v2) (fun y36 g38 => some (0, (y36, g38))) else none)) else none) (fun E23 => some (E23 + 1, (0, g)))) else none) (fun E12 => some (E12 + 1, (0, g)))) (fun E6 => some (E6 + 1, (0, g)))
noncomputable def fW_refuse (g : gH) (v0 : Int) (v1 : Int) (v2 : Int) (v3 : Int) : Option (Int × gH) :=
  if kd v0 = 6 then bdT (fC_refuse g v0 v1 v2) (fun y2 g4 => if kd v3 = 23 ∧ (0 : Int) ≤ 0 ∧ 0 < sz v3 then bnd (pU g4 v3 0 y2) (fun g9 => some (0, g9)) else none) (fun E7 g4 => if E7 = 2 then (some (1, g4)) else if E7 = 0 then (some (2, g4)) else if E7 = 1 then (some (3, g4)) else none) else none
noncomputable def fC_accept (g : gH) (v0 : Int) (v1 : Int) (v2 : Int) : Option (Nat × (Int × gH)) :=
  bdQ (fC_named g v0 v1) (fun y1 => bdQ (fC_checkRange g v2 9) (fun y7 => if kd y1 = 3 then bdP (fP_isRunning g y1) (fun y14 => bdQ (fC_checkState g y14) (fun y18 => if kd (g v0 3) = 0 then bdN (fH_push g (g v0 3) (g v0 0)) (fun y27 g29 => bdP (fP_refuses g29 y1 v2) (fun y31 => bnd (pU g29 y1 8 (opI 1 (g29 y1 8) (opI 3 (opI 4 1 v2) (-1)))) (fun g36 => some (0, (y31, g36))))) else none) (fun E23 => some (E23 + 1, (0, g)))) else none) (fun E12 => some (E12 + 1, (0, g)))) (fun E6 => some (E6 + 1, (0, g)))
noncomputable def fW_accept (g : gH) (v0 : Int) (v1 : Int) (v2 : Int) (v3 : Int) : Option (Int × gH) :=
  if kd v0 = 6 then bdT (fC_accept g v0 v1 v2) (fun y2 g4 => if y2 = 0 then (if kd v3 = 23 ∧ (0 : Int) ≤ 0 ∧ 0 < sz v3 then bnd (pU g4 v3 0 0) (fun g11 => some (0, g11)) else none) else (if kd v3 = 23 ∧ (0 : Int) ≤ 0 ∧ 0 < sz v3 then bnd (pU g4 v3 0 1) (fun g14 => some (0, g14)) else none)) (fun E7 g4 => if E7 = 2 then (some (1, g4)) else if E7 = 0 then (some (2, g4)) else if E7 = 1 then (some (3, g4)) else none) else none
noncomputable def jC_move_60 (g : gH) (v0 : Int) (v3 : Int) (v4 : Int) (s0 : Int) : Option (Nat × (Int × gH)) :=
  bdQ (fC_checkState g s0) (fun y42 => if kd (g v0 3) = 0 then bdN (fH_push g (g v0 3) (g v0 0)) (fun y51 g53 => if kd v3 = 3 then bdP (fC_numberOf g53 (g53 v3 2)) (fun y57 => bdN (fP_putUnder g53 v3 v4) (fun y61 g63 => some (0, (y57, g63)))) else none) else none) (fun E47 => some (E47 + 1, (0, g)))
noncomputable def jC_move_59 (g : gH) (v0 : Int) (v3 : Int) (v4 : Int) : Option (Nat × (Int × gH)) :=
  jC_move_60 g v0 v3 v4 0
noncomputable def fC_move (g : gH) (v0 : Int) (v1 : Int) (v2 : Int) : Option (Nat × (Int × gH)) :=
  bdQ (fC_named g v0 v1) (fun y1 => bdQ (fC_named g v0 v2) (fun y7 => if kd y1 = 3 then bdP (fP_isMortal g y1) (fun y14 => if y14 = 0 then (jC_move_59 g v0 y1 y7) else (if kd y7 = 3 then bdP (fP_room g y7) (fun y21 => if 0 < y21 then (if y7 = y1 then (jC_move_59 g v0 y1 y7) else (bdP (fP_isOver g y1 y7) (fun y29 => if y29 = 0 then (bdP (fP_refuses g y7 (g y1 5)) (fun y36 => if y36 = 0 then (jC_move_60 g v0 y1 y7 1) else (jC_move_59 g v0 y1 y7))) else (jC_move_59 g v0 y1 y7)))) else (jC_move_59 g v0 y1 y7)) else none)) else none) (fun E12 => some (E12 + 1, (0, g)))) (fun E6 => some (E6 + 1, (0, g)))
noncomputable def fW_move (g : gH) (v0 : Int) (v1 : Int) (v2 : Int) (v3 : Int) : Option (Int × gH) :=
  if kd v0 = 6 then bdT (fC_move g v0 v1 v2) (fun y2 g4 => if kd v3 = 23 ∧ (0 : Int) ≤ 0 ∧ 0 < sz v3 then bnd (pU g4 v3 0 y2) (fun g9 => some (0, g9)) else none) (fun E7 g4 => if E7 = 2 then (some (1, g4)) else if E7 = 1 then (some (2, g4)) else none) else none
noncomputable def fC_setCapacity (g : gH) (v0 : Int) (v1 : Int) (v2 : Int) : Option (Nat × (Int × gH)) :=
  bdQ (fC_named g v0 v1) (fun y1 => bdQ (fC_checkRange g v2 9) (fun y7 => if kd y1 = 3 then bdP (fP_isRunning g y1) (fun y14 => bdQ (fC_checkState g y14) (fun y18 => if kd (g v0 3) = 0 then bdN (fH_push g (g v0 3) (g v0 0)) (fun y27 g29 => bnd (pU g29 y1 4 v2) (fun g32 => some (0, ((g29 y1 4), g32)))) else none) (fun E23 => some (E23 + 1, (0, g)))) else none) (fun E12 => some (E12 + 1, (0, g)))) (fun E6 => some (E6 + 1, (0, g)))
noncomputable def fW_setCapacity (g : gH) (v0 : Int) (v1 : Int) (v2 : Int) (v3 : Int) : Option (Int × gH) :=
  if kd v0 = 6 then bdT (fC_setCapacity g v0 v1 v2) (fun y2 g4 => if kd v3 = 23 ∧ (0 : Int) ≤ 0 ∧ 0 < sz v3 then bnd (pU g4 v3 0 y2) (fun g9 => some (0, g9)) else none) (fun E7 g4 => if E7 = 2 then (some (1, g4)) else if E7 = 0 then (some (2, g4)) else if E7 = 1 then (some (3, g4)) else none) else none
noncomputable def fC_setBudget (g : gH) (v0 : Int) (v1 : Int) (v2 : Int) : Option (Nat × (Int × gH)) :=
  bdQ (fC_named g v0 v1) (fun y1 => bdQ (fC_checkRange g v2 9) (fun y7 => if kd y1 = 3 then bdP (fP_isRunning g y1) (fun y14 => bdQ (fC_checkState g y14) (fun y18 => if kd (g v0 3) = 0 then bdN (fH_push g (g v0 3) (g v0 0)) (fun y27 g29 => bnd (pU g29 y1 6 v2) (fun g32 => some (0, ((g29 y1 6), g32)))) else none) (fun E23 => some (E23 + 1, (0, g)))) else none) (fun E12 => some (E12 + 1, (0, g)))) (fun E6 => some (E6 + 1, (0, g)))
noncomputable def fW_setBudget (g : gH) (v0 : Int) (v1 : Int) (v2 : Int) (v3 : Int) : Option (Int × gH) :=
  if kd v0 = 6 then bdT (fC_setBudget g v0 v1 v2) (fun y2 g4 => if kd v3 = 23 ∧ (0 : Int) ≤ 0 ∧ 0 < sz v3 then bnd (pU g4 v3 0 y2) (fun g9 => some (0, g9)) else none) (fun E7 g4 => if E7 = 2 then (some (1, g4)) else if E7 = 0 then (some (2, g4)) else if E7 = 1 then (some (3, g4)) else none) else none
noncomputable def fC_setHeir (g : gH) (v0 : Int) (v1 : Int) (v2 : Int) : Option (Nat × (Int × gH)) :=
  bdQ (fC_named g v0 v1) (fun y1 => if v2 = (-1) then (if kd y1 = 3 then bdP (fP_isMortal g y1) (fun y10 => bdQ (fC_checkState g y10) (fun y14 => if kd (g v0 3) = 0 then bdN (fH_push g (g v0 3) (g v0 0)) (fun y23 g25 => bnd (pU g25 y1 7 v2) (fun g28 => some (0, ((g25 y1 7), g28)))) else none) (fun E19 => some (E19 + 1, (0, g)))) else none) else (bdQ (fC_named g v0 v2) (fun y30 => if y30 = y1 then (some (1, (0, g))) else (if kd y1 = 3 then bdP (fP_isMortal g y1) (fun y39 => bdQ (fC_checkState g y39) (fun y43 => if kd (g v0 3) = 0 then bdN (fH_push g (g v0 3) (g v0 0)) (fun y52 g54 => bnd (pU g54 y1 7 v2) (fun g57 => some (0, ((g54 y1 7), g57)))) else none) (fun E48 => some (E48 + 1, (0, g)))) else none)) (fun E35 => some (E35 + 1, (0, g))))) (fun E6 => some (E6 + 1, (0, g)))
noncomputable def fW_setHeir (g : gH) (v0 : Int) (v1 : Int) (v2 : Int) (v3 : Int) : Option (Int × gH) :=
  if kd v0 = 6 then bdT (fC_setHeir g v0 v1 v2) (fun y2 g4 => if kd v3 = 23 ∧ (0 : Int) ≤ 0 ∧ 0 < sz v3 then bnd (pU g4 v3 0 y2) (fun g9 => some (0, g9)) else none) (fun E7 g4 => if E7 = 2 then (some (1, g4)) else if E7 = 0 then (some (2, g4)) else if E7 = 1 then (some (3, g4)) else none) else none
noncomputable def fC_give (g : gH) (v0 : Int) (v1 : Int) (v2 : Int) : Option (Nat × (Int × gH)) :=
  bdQ (fC_checkRange g v1 7) (fun y1 => bdQ (fC_named g v0 v2) (fun y7 => if kd y7 = 3 then bdP (fP_isRunning g y7) (fun y14 => bdQ (fC_checkState g y14) (fun y18 => if kd (g v0 3) = 0 then bdN (fH_push g (g v0 3) (g v0 0)) (fun y27 g29 => if kd (g29 v0 0) = 5 then bdP (fT_holderOf g29 (g29 v0 0) v1) (fun y33 => if kd y33 = 3 then bdN (fT_giveDuty g29 (g29 v0 0) v1 y7) (fun y40 g42 => some (0, ((g29 y33 0), g42))) else none) else none) else none) (fun E23 => some (E23 + 1, (0, g)))) else none) (fun E12 => some (E12 + 1, (0, g)))) (fun E6 => some (E6 + 1, (0, g)))
noncomputable def fW_give (g : gH) (v0 : Int) (v1 : Int) (v2 : Int) (v3 : Int) : Option (Int × gH) :=
  if kd v0 = 6 then bdT (fC_give g v0 v1 v2) (fun y2 g4 => if kd v3 = 23 ∧ (0 : Int) ≤ 0 ∧ 0 < sz v3 then bnd (pU g4 v3 0 y2) (fun g9 => some (0, g9)) else none) (fun E7 g4 => if E7 = 0 then (some (1, g4)) else if E7 = 2 then (some (2, g4)) else if E7 = 1 then (some (3, g4)) else none) else none
noncomputable def fC_adopter (g : gH) (v0 : Int) (v1 : Int) : Option (Nat × Int) :=
  bdQ (fC_named g v0 v1) (fun y1 => if kd y1 = 3 then bdP (fP_isMortal g y1) (fun y8 => bdQ (fC_checkState g y8) (fun y12 => if kd (g v0 0) = 5 then bdP (fT_adopterOf g (g v0 0) y1) (fun y20 => if kd y20 = 3 then some (0, (g y20 0)) else none) else none) (fun E17 => some (E17 + 1, 0))) else none) (fun E6 => some (E6 + 1, 0))
noncomputable def fW_adopter (g : gH) (v0 : Int) (v1 : Int) (v2 : Int) : Option (Int × gH) :=
  if kd v0 = 6 then bdQ (fC_adopter g v0 v1) (fun y2 => if kd v2 = 23 ∧ (0 : Int) ≤ 0 ∧ 0 < sz v2 then bnd (pU g v2 0 y2) (fun g9 => some (0, g9)) else none) (fun E7 => if E7 = 2 then (some (1, g)) else if E7 = 1 then (some (2, g)) else none) else none
noncomputable def fC_heirNow (g : gH) (v0 : Int) (v1 : Int) : Option (Nat × Int) :=
  bdQ (fC_named g v0 v1) (fun y1 => if kd y1 = 3 then bdP (fP_isMortal g y1) (fun y8 => bdQ (fC_checkState g y8) (fun y12 => if kd (g v0 0) = 5 then bdP (fT_heirOf g (g v0 0) y1) (fun y20 => if kd y20 = 3 then some (0, (g y20 0)) else none) else none) (fun E17 => some (E17 + 1, 0))) else none) (fun E6 => some (E6 + 1, 0))
noncomputable def fW_heirNow (g : gH) (v0 : Int) (v1 : Int) (v2 : Int) : Option (Int × gH) :=
  if kd v0 = 6 then bdQ (fC_heirNow g v0 v1) (fun y2 => if kd v2 = 23 ∧ (0 : Int) ≤ 0 ∧ 0 < sz v2 then bnd (pU g v2 0 y2) (fun g9 => some (0, g9)) else none) (fun E7 => if E7 = 2 then (some (1, g)) else if E7 = 1 then (some (2, g)) else none) else none
noncomputable def fC_exitOfCopy (g : gH) (v0 : Int) (v1 : Int) (v2 : Int) : Option (Int × gH) :=
  if kd (g v0 1) = 5 then bdN (fT_take g (g v0 1) (g v0 0)) (fun y4 g6 => if kd (g6 v0 1) = 5 then bdP (fT_at g6 (g6 v0 1) v1) (fun y10 => if y10 < 0 then (some (0, g6)) else (bdN (fT_letExit g6 (g6 v0 1) y10 v2) (fun y17 g19 => some (y17, g19)))) else none) else none
noncomputable def fC_wouldFall (g : gH) (v0 : Int) (v1 : Int) (v2 : Int) : Option (Nat × (Int × gH)) :=
  bdQ (fC_namedForExit g v0 v1 v2) (fun y1 => bdN (fC_exitOfCopy g v0 v1 v2) (fun y7 g9 => some (0, (y7, g9)))) (fun E6 => some (E6 + 1, (0, g)))
noncomputable def fW_wouldFall (g : gH) (v0 : Int) (v1 : Int) (v2 : Int) (v3 : Int) : Option (Int × gH) :=
  if kd v0 = 6 then bdT (fC_wouldFall g v0 v1 v2) (fun y2 g4 => if kd v3 = 23 ∧ (0 : Int) ≤ 0 ∧ 0 < sz v3 then bnd (pU g4 v3 0 y2) (fun g9 => some (0, g9)) else none) (fun E7 g4 => if E7 = 2 then (some (1, g4)) else if E7 = 0 then (some (2, g4)) else if E7 = 1 then (some (3, g4)) else none) else none
noncomputable def fC_wouldStand (g : gH) (v0 : Int) (v1 : Int) (v2 : Int) : Option (Nat × (Int × gH)) :=
  bdQ (fC_namedForExit g v0 v1 v2) (fun y1 => bdN (fC_exitOfCopy g v0 v1 v2) (fun y7 g9 => if kd (g9 v0 1) = 5 then bdP (fT_greatestDepth g9 (g9 v0 1)) (fun y13 => some (0, (y13, g9))) else none)) (fun E6 => some (E6 + 1, (0, g)))
noncomputable def fW_wouldStand (g : gH) (v0 : Int) (v1 : Int) (v2 : Int) (v3 : Int) : Option (Int × gH) :=
  if kd v0 = 6 then bdT (fC_wouldStand g v0 v1 v2) (fun y2 g4 => if kd v3 = 23 ∧ (0 : Int) ≤ 0 ∧ 0 < sz v3 then bnd (pU g4 v3 0 y2) (fun g9 => some (0, g9)) else none) (fun E7 g4 => if E7 = 2 then (some (1, g4)) else if E7 = 0 then (some (2, g4)) else if E7 = 1 then (some (3, g4)) else none) else none
noncomputable def fC_wouldHave (g : gH) (v0 : Int) (v1 : Int) (v2 : Int) (v3 : Int) : Option (Nat × (Int × gH)) :=
  bdQ (fC_named g v0 v1) (fun y1 => bdQ (fC_namedForExit g v0 v2 v3) (fun y7 => bdN (fC_exitOfCopy g v0 v2 v3) (fun y13 g15 => if kd (g15 v0 1) = 5 then bdP (fT_at g15 (g15 v0 1) v1) (fun y19 => if y19 < 0 then (some (0, ((-1), g15))) else (if kd y19 = 3 then bdP (fC_numberOf g15 (g15 y19 2)) (fun y27 => some (0, (y27, g15))) else none)) else none)) (fun E12 => some (E12 + 1, (0, g)))) (fun E6 => some (E6 + 1, (0, g)))
noncomputable def fW_wouldHave (g : gH) (v0 : Int) (v1 : Int) (v2 : Int) (v3 : Int) (v4 : Int) : Option (Int × gH) :=
  if kd v0 = 6 then bdT (fC_wouldHave g v0 v1 v2 v3) (fun y2 g4 => if kd v4 = 23 ∧ (0 : Int) ≤ 0 ∧ 0 < sz v4 then bnd (pU g4 v4 0 y2) (fun g9 => some (0, g9)) else none) (fun E7 g4 => if E7 = 2 then (some (1, g4)) else if E7 = 0 then (some (2, g4)) else if E7 = 1 then (some (3, g4)) else none) else none
noncomputable def fC_wouldFallBy (g : gH) (v0 : Int) (v1 : Int) (v2 : Int) : Option (Nat × (Int × gH)) :=
  bdQ (fC_checkKill g v1 v2) (fun y1 => if kd (g v0 1) = 5 then bdN (fT_take g (g v0 1) (g v0 0)) (fun y10 g12 => if kd (g12 v0 1) = 5 then bdN (fT_killGroup g12 (g12 v0 1) v1 v2) (fun y16 g18 => if kd (g18 v0 1) = 5 then if kd (g18 v0 0) = 5 then some (0, ((w32 ((g18 (g18 v0 1) 8) - (g18 (g18 v0 0) 8))), g18)) else none else none) else none) else none) (fun E6 => some (E6 + 1, (0, g)))
noncomputable def fW_wouldFallBy (g : gH) (v0 : Int) (v1 : Int) (v2 : Int) (v3 : Int) : Option (Int × gH) :=
  if kd v0 = 6 then bdT (fC_wouldFallBy g v0 v1 v2) (fun y2 g4 => if kd v3 = 23 ∧ (0 : Int) ≤ 0 ∧ 0 < sz v3 then bnd (pU g4 v3 0 y2) (fun g9 => some (0, g9)) else none) (fun E7 g4 => if E7 = 0 then (some (1, g4)) else none) else none
noncomputable def jC_weakest_64 (X28 : Int → Int → Int → gH → Option (Nat × (Int × gH))) (g : gH) (v0 : Int) (v1 : Int) (v2 : Int) (v3 : Int) (v4 : Int) (v5 : Int) (v6 : Int) (v7 : Int) (s0 : Int) : Option (Nat × (Int × gH)) :=
  if v3 < s0 then (if kd v7 = 3 then X28 (g v7 0) s0 (w32 (v6 + 1)) g else none) else (X28 v2 v3 (w32 (v6 + 1)) g)
noncomputable def bC_weakest_28 (v0 : Int) (v1 : Int) (v4 : Int) (v5 : Int) (X28 : Int → Int → Int → gH → Option (Nat × (Int × gH))) (v2 : Int) (v3 : Int) (v6 : Int) (g : gH) : Option (Nat × (Int × gH)) :=
  if v6 < v5 then (if kd v4 = 24 ∧ (0 : Int) ≤ v6 ∧ v6 < sz v4 then if kd (g v4 v6) = 3 then bdP (fP_isMortal g (g v4 v6)) (fun y17 => if y17 = 0 then (jC_weakest_64 X28 g v0 v1 v2 v3 v4 v5 v6 (g v4 v6) (-1)) else (bdN (fC_exitOfCopy g v0 (g (g v4 v6) 0) v1) (fun y24 g26 => jC_weakest_64 X28 g26 v0 v1 v2 v3 v4 v5 v6 (g v4 v6) y24))) else none else none) else (some (0, (v2, g)))
noncomputable def lC_weakest_28 (v0 : Int) (v1 : Int) (v4 : Int) (v5 : Int) (n : Nat) : Int → Int → Int → gH → Option (Nat × (Int × gH)) := Nat.rec (motive := fun _ => Int → Int → Int → gH → Option (Nat × (Int × gH))) (fun _ _ _ _ => none) (fun _ ih => bC_weakest_28 v0 v1 v4 v5 ih) n
noncomputable def fC_weakest (g : gH) (v0 : Int) (v1 : Int) : Option (Nat × (Int × gH)) :=
  bdQ (fC_checkRange g v1 255) (fun y1 => if kd (g v0 0) = 5 then if kd (g (g v0 0) 1) = 24 then lC_weakest_28 v0 v1 (g (g v0 0) 1) (sz (g (g v0 0) 1)) fu (-1) (-1) 0 g else none else none) (fun E6 => some (E6 + 1, (0, g)))
noncomputable def fW_weakest (g : gH) (v0 : Int) (v1 : Int) (v2 : Int) : Option (Int × gH) :=
  if kd v0 = 6 then bdT (fC_weakest g v0 v1) (fun y2 g4 => if kd v2 = 23 ∧ (0 : Int) ≤ 0 ∧ 0 < sz v2 then bnd (pU g4 v2 0 y2) (fun g9 => some (0, g9)) else none) (fun E7 g4 => if E7 = 0 then (some (1, g4)) else none) else none
noncomputable def bC_roomiest_27 (g : gH) (v1 : Int) (v4 : Int) (v5 : Int) (X27 : Int → Int → Int → Option (Nat × Int)) (v2 : Int) (v3 : Int) (v6 : Int) : Option (Nat × Int) :=
  if v6 < v5 then (if kd v4 = 24 ∧ (0 : Int) ≤ v6 ∧ v6 < sz v4 then if kd (g v4 v6) = 3 then bdP (fP_isMortal g (g v4 v6)) (fun y17 => if y17 = 0 then (X27 v2 v3 (w32 (v6 + 1))) else (bdP (fP_refuses g (g v4 v6) v1) (fun y23 => if y23 = 0 then (bdP (fP_room g (g v4 v6)) (fun y29 => if v3 < y29 then (bdP (fP_room g (g v4 v6)) (fun y36 => X27 (g (g v4 v6) 0) y36 (w32 (v6 + 1)))) else (X27 v2 v3 (w32 (v6 + 1))))) else (X27 v2 v3 (w32 (v6 + 1)))))) else none else none) else (some (0, v2))
noncomputable def lC_roomiest_27 (g : gH) (v1 : Int) (v4 : Int) (v5 : Int) (n : Nat) : Int → Int → Int → Option (Nat × Int) := Nat.rec (motive := fun _ => Int → Int → Int → Option (Nat × Int)) (fun _ _ _ => none) (fun _ ih => bC_roomiest_27 g v1 v4 v5 ih) n
noncomputable def fC_roomiest (g : gH) (v0 : Int) (v1 : Int) : Option (Nat × Int) :=
  bdQ (fC_checkRange g v1 9) (fun y1 => if kd (g v0 0) = 5 then if kd (g (g v0 0) 1) = 24 then lC_roomiest_27 g v1 (g (g v0 0) 1) (sz (g (g v0 0) 1)) fu (-1) 0 0 else none else none) (fun E6 => some (E6 + 1, 0))
noncomputable def fW_roomiest (g : gH) (v0 : Int) (v1 : Int) (v2 : Int) : Option (Int × gH) :=
  if kd v0 = 6 then bdQ (fC_roomiest g v0 v1) (fun y2 => if kd v2 = 23 ∧ (0 : Int) ≤ 0 ∧ 0 < sz v2 then bnd (pU g v2 0 y2) (fun g9 => some (0, g9)) else none) (fun E7 => if E7 = 0 then (some (1, g)) else none) else none
noncomputable def bC_ofGroup_23 (g : gH) (v1 : Int) (v3 : Int) (v4 : Int) (X23 : Int → Int → Option (Nat × Int)) (v2 : Int) (v5 : Int) : Option (Nat × Int) :=
  if v5 < v4 then (if kd v3 = 24 ∧ (0 : Int) ≤ v5 ∧ v5 < sz v3 then if kd (g v3 v5) = 3 then bdP (fP_isRunning g (g v3 v5)) (fun y17 => if y17 = 0 then (X23 v2 (w32 (v5 + 1))) else (if (g (g v3 v5) 5) = v1 then (X23 (w32 (v2 + 1)) (w32 (v5 + 1))) else (X23 v2 (w32 (v5 + 1))))) else none else none) else (some (0, v2))
noncomputable def lC_ofGroup_23 (g : gH) (v1 : Int) (v3 : Int) (v4 : Int) (n : Nat) : Int → Int → Option (Nat × Int) := Nat.rec (motive := fun _ => Int → Int → Option (Nat × Int)) (fun _ _ => none) (fun _ ih => bC_ofGroup_23 g v1 v3 v4 ih) n
noncomputable def fC_ofGroup (g : gH) (v0 : Int) (v1 : Int) : Option (Nat × Int) :=
  bdQ (fC_checkRange g v1 9) (fun y1 => if kd (g v0 0) = 5 then if kd (g (g v0 0) 1) = 24 then lC_ofGroup_23 g v1 (g (g v0 0) 1) (sz (g (g v0 0) 1)) fu 0 0 else none else none) (fun E6 => some (E6 + 1, 0))
noncomputable def fW_ofGroup (g : gH) (v0 : Int) (v1 : Int) (v2 : Int) : Option (Int × gH) :=
  if kd v0 = 6 then bdQ (fC_ofGroup g v0 v1) (fun y2 => if kd v2 = 23 ∧ (0 : Int) ≤ 0 ∧ 0 < sz v2 then bnd (pU g v2 0 y2) (fun g9 => some (0, g9)) else none) (fun E7 => if E7 = 0 then (some (1, g)) else none) else none
noncomputable def fC_nextTestament (g : gH) (v0 : Int) (v1 : Int) : Option (Nat × Int) :=
  bdQ (fC_named g v0 v1) (fun y2 => if kd (g v0 0) = 5 then bdP (fT_zombieBehind g (g v0 0) y2 (-1)) (fun y9 => bdP (fC_numberOf g y9) (fun y13 => some (0, y13))) else none) (fun E7 => some (E7 + 1, 0))
noncomputable def fW_nextTestament (g : gH) (v0 : Int) (v1 : Int) (v2 : Int) : Option (Int × gH) :=
  if kd v0 = 6 then bdQ (fC_nextTestament g v0 v1) (fun y2 => if kd v2 = 23 ∧ (0 : Int) ≤ 0 ∧ 0 < sz v2 then bnd (pU g v2 0 y2) (fun g9 => some (0, g9)) else none) (fun E7 => if E7 = 2 then (some (1, g)) else none) else none
noncomputable def fP_hasExited (g : gH) (v0 : Int) : Option Int :=
  if (g v0 1) = 1 then (some 1) else (if (g v0 1) = 2 then (some 1) else (some 0))
noncomputable def jC_exited_56 (g : gH) (v2 : Int) : Option (Nat × Int) :=
  if v2 < 0 then (some (4, 0)) else (if kd v2 = 3 then some (0, (g v2 0)) else none)
noncomputable def bC_exited_17 (g : gH) (v1 : Int) (v3 : Int) (v4 : Int) (X17 : Int → Int → Option (Nat × Int)) (v2 : Int) (v5 : Int) : Option (Nat × Int) :=
  if v5 < v4 then (if kd v3 = 24 ∧ (0 : Int) ≤ v5 ∧ v5 < sz v3 then if kd (g v3 v5) = 3 then bdP (fP_hasExited g (g v3 v5)) (fun y11 => if y11 = 0 then (X17 v2 (w32 (v5 + 1))) else (if (g (g v3 v5) 10) = v1 then (X17 (g v3 v5) (w32 (v5 + 1))) else (X17 v2 (w32 (v5 + 1))))) else none else none) else (jC_exited_56 g v2)
noncomputable def lC_exited_17 (g : gH) (v1 : Int) (v3 : Int) (v4 : Int) (n : Nat) : Int → Int → Option (Nat × Int) := Nat.rec (motive := fun _ => Int → Int → Option (Nat × Int)) (fun _ _ => none) (fun _ ih => bC_exited_17 g v1 v3 v4 ih) n
noncomputable def fC_exited (g : gH) (v0 : Int) (v1 : Int) : Option (Nat × Int) :=
  if kd (g v0 0) = 5 then if kd (g (g v0 0) 1) = 24 then lC_exited_17 g v1 (g (g v0 0) 1) (sz (g (g v0 0) 1)) fu (-1) 0 else none else none
noncomputable def fW_exited (g : gH) (v0 : Int) (v1 : Int) (v2 : Int) : Option (Int × gH) :=
  if kd v0 = 6 then bdQ (fC_exited g v0 v1) (fun y2 => if kd v2 = 23 ∧ (0 : Int) ≤ 0 ∧ 0 < sz v2 then bnd (pU g v2 0 y2) (fun g9 => some (0, g9)) else none) (fun E7 => if E7 = 3 then (some (1, g)) else none) else none
noncomputable def bT_deepestBelow_14 (g : gH) (v1 : Int) (v3 : Int) (v4 : Int) (X14 : Int → Int → Option Int) (v2 : Int) (v5 : Int) : Option Int :=
  if v5 < v4 then (if kd v3 = 24 ∧ (0 : Int) ≤ v5 ∧ v5 < sz v3 then if kd (g v3 v5) = 3 then bdP (fP_isRunning g (g v3 v5)) (fun y9 => if y9 = 0 then (X14 v2 (w32 (v5 + 1))) else (if kd v1 = 3 then bdP (fP_isOver g v1 (g v3 v5)) (fun y16 => if y16 = 0 then (X14 v2 (w32 (v5 + 1))) else (if v2 < 0 then (X14 (g v3 v5) (w32 (v5 + 1))) else (bdP (fP_countAbove g (g v3 v5)) (fun y24 => if kd v2 = 3 then bdP (fP_countAbove g v2) (fun y29 => if y24 < y29 then (X14 v2 (w32 (v5 + 1))) else (X14 (g v3 v5) (w32 (v5 + 1)))) else none)))) else none)) else none else none) else (some v2)
noncomputable def lT_deepestBelow_14 (g : gH) (v1 : Int) (v3 : Int) (v4 : Int) (n : Nat) : Int → Int → Option Int := Nat.rec (motive := fun _ => Int → Int → Option Int) (fun _ _ => none) (fun _ ih => bT_deepestBelow_14 g v1 v3 v4 ih) n
noncomputable def fT_deepestBelow (g : gH) (v0 : Int) (v1 : Int) : Option Int :=
  if kd (g v0 1) = 24 then lT_deepestBelow_14 g v1 (g v0 1) (sz (g v0 1)) fu (-1) 0 else none
noncomputable def bT_pruneBelow_9 (v0 : Int) (v1 : Int) (v2 : Int) (X9 : Int → Int → gH → Option (Int × gH)) (v3 : Int) (v4 : Int) (g : gH) : Option (Int × gH) :=
  if v4 < 0 then (some (v3, g)) else (if v3 < 40 then (bdN (fT_letExit g v0 v4 v2) (fun y9 g11 => bdP (fT_deepestBelow g11 v0 v1) (fun y13 => X9 (w32 (v3 + 1)) y13 g11))) else (some (v3, g)))
noncomputable def lT_pruneBelow_9 (v0 : Int) (v1 : Int) (v2 : Int) (n : Nat) : Int → Int → gH → Option (Int × gH) := Nat.rec (motive := fun _ => Int → Int → gH → Option (Int × gH)) (fun _ _ _ => none) (fun _ ih => bT_pruneBelow_9 v0 v1 v2 ih) n
noncomputable def fT_pruneBelow (g : gH) (v0 : Int) (v1 : Int) (v2 : Int) : Option (Int × gH) :=
  bdP (fT_deepestBelow g v0 v1) (fun y1 => lT_pruneBelow_9 v0 v1 v2 fu 0 y1 g)
noncomputable def fC_prune (g : gH) (v0 : Int) (v1 : Int) (v2 : Int) : Option (Nat × (Int × gH)) :=
  bdQ (fC_named g v0 v1) (fun y1 => bdQ (fC_checkRange g v2 255) (fun y7 => if kd y1 = 3 then bdP (fP_isRunning g y1) (fun y14 => bdQ (fC_checkState g y14) (fun y18 => if kd (g v0 3) = 0 then bdN (fH_push g (g v0 3) (g v0 0)) (fun y27 g29 => if kd (g29 v0 0) = 5 then bdN (fT_pruneBelow g29 (g29 v0 0) y1 v2) (fun y33 g35 => some (0, (y33, g35))) else none) else none) (fun E23 => some (E23 + 1, (0, g)))) else none) (fun E12 => some (E12 + 1, (0, g)))) (fun E6 => some (E6 + 1, (0, g)))
noncomputable def fW_prune (g : gH) (v0 : Int) (v1 : Int) (v2 : Int) (v3 : Int) : Option (Int × gH) :=
  if kd v0 = 6 then bdT (fC_prune g v0 v1 v2) (fun y2 g4 => if kd v3 = 23 ∧ (0 : Int) ≤ 0 ∧ 0 < sz v3 then bnd (pU g4 v3 0 y2) (fun g9 => some (0, g9)) else none) (fun E7 g4 => if E7 = 2 then (some (1, g4)) else if E7 = 0 then (some (2, g4)) else if E7 = 1 then (some (3, g4)) else none) else none
noncomputable def jC_exchange_88 (g : gH) (v0 : Int) (v3 : Int) (v4 : Int) (s0 : Int) : Option (Nat × (Int × gH)) :=
  if kd (g v0 0) = 5 then bdP (fT_countBelow g (g v0 0) v3 0) (fun y68 => bdP (fT_countBelow g (g v0 0) v4 0) (fun y73 => if kd v3 = 3 then if kd v4 = 3 then bdN (fP_putUnder g v3 (g v4 2)) (fun y81 g83 => bdN (fP_putUnder g83 v4 (g v3 2)) (fun y85 g87 => if s0 = 0 then (some (0, ((w32 ((w32 (2 + y68)) + y73)), g87))) else (some (0, (0, g87))))) else none else none)) else none
noncomputable def jC_exchange_57 (g : gH) (v0 : Int) (v3 : Int) (v4 : Int) (s0 : Int) : Option (Nat × (Int × gH)) :=
  bdQ (fC_checkState g s0) (fun y41 => if kd (g v0 3) = 0 then bdN (fH_push g (g v0 3) (g v0 0)) (fun y50 g52 => if kd v3 = 3 then bdP (fP_countAbove g52 v3) (fun y55 => if kd v4 = 3 then bdP (fP_countAbove g52 v4) (fun y60 => if y55 = y60 then (jC_exchange_88 g52 v0 v3 v4 1) else (jC_exchange_88 g52 v0 v3 v4 0)) else none) else none) else none) (fun E46 => some (E46 + 1, (0, g)))
noncomputable def jC_exchange_56 (g : gH) (v0 : Int) (v3 : Int) (v4 : Int) : Option (Nat × (Int × gH)) :=
  jC_exchange_57 g v0 v3 v4 0
noncomputable def fC_exchange (g : gH) (v0 : Int) (v1 : Int) (v2 : Int) : Option (Nat × (Int × gH)) :=
  bdQ (fC_named g v0 v1) (fun y1 => bdQ (fC_named g v0 v2) (fun y7 => if kd y1 = 3 then bdP (fP_isMortal g y1) (fun y14 => if y14 = 0 then (jC_exchange_56 g v0 y1 y7) else (if kd y7 = 3 then bdP (fP_isMortal g y7) (fun y21 => if y21 = 0 then (jC_exchange_56 g v0 y1 y7) else (if y1 = y7 then (jC_exchange_56 g v0 y1 y7) else (bdP (fP_isOver g y1 y7) (fun y29 => if y29 = 0 then (bdP (fP_isOver g y7 y1) (fun y35 => if y35 = 0 then (jC_exchange_57 g v0 y1 y7 1) else (jC_exchange_56 g v0 y1 y7))) else (jC_exchange_56 g v0 y1 y7))))) else none)) else none) (fun E12 => some (E12 + 1, (0, g)))) (fun E6 => some (E6 + 1, (0, g)))
noncomputable def fW_exchange (g : gH) (v0 : Int) (v1 : Int) (v2 : Int) (v3 : Int) : Option (Int × gH) :=
  if kd v0 = 6 then bdT (fC_exchange g v0 v1 v2) (fun y2 g4 => if kd v3 = 23 ∧ (0 : Int) ≤ 0 ∧ 0 < sz v3 then bnd (pU g4 v3 0 y2) (fun g9 => some (0, g9)) else none) (fun E7 g4 => if E7 = 2 then (some (1, g4)) else if E7 = 1 then (some (2, g4)) else none) else none
noncomputable def fC_readAll (g : gH) (v0 : Int) (v1 : Int) : Option (Nat × (Int × gH)) :=
  bdQ (fC_named g v0 v1) (fun y1 => if kd y1 = 3 then bdP (fP_isRunning g y1) (fun y8 => bdQ (fC_checkState g y8) (fun y12 => if kd (g v0 3) = 0 then bdN (fH_push g (g v0 3) (g v0 0)) (fun y21 g23 => if kd (g23 v0 0) = 5 then bdN (fT_readZombiesOf g23 (g23 v0 0) y1) (fun y27 g29 => some (0, (y27, g29))) else none) else none) (fun E17 => some (E17 + 1, (0, g)))) else none) (fun E6 => some (E6 + 1, (0, g)))
noncomputable def fW_readAll (g : gH) (v0 : Int) (v1 : Int) (v2 : Int) : Option (Int × gH) :=
  if kd v0 = 6 then bdT (fC_readAll g v0 v1) (fun y2 g4 => if kd v2 = 23 ∧ (0 : Int) ≤ 0 ∧ 0 < sz v2 then bnd (pU g4 v2 0 y2) (fun g9 => some (0, g9)) else none) (fun E7 g4 => if E7 = 2 then (some (1, g4)) else if E7 = 1 then (some (2, g4)) else none) else none
noncomputable def fC_testamentsBelow (g : gH) (v0 : Int) (v1 : Int) : Option (Nat × Int) :=
  bdQ (fC_named g v0 v1) (fun y2 => if kd (g v0 0) = 5 then bdP (fT_countBelow g (g v0 0) y2 1) (fun y9 => some (0, y9)) else none) (fun E7 => some (E7 + 1, 0))
noncomputable def fW_testamentsBelow (g : gH) (v0 : Int) (v1 : Int) (v2 : Int) : Option (Int × gH) :=
  if kd v0 = 6 then bdQ (fC_testamentsBelow g v0 v1) (fun y2 => if kd v2 = 23 ∧ (0 : Int) ≤ 0 ∧ 0 < sz v2 then bnd (pU g v2 0 y2) (fun g9 => some (0, g9)) else none) (fun E7 => if E7 = 2 then (some (1, g)) else none) else none
noncomputable def bC_roomBelow_25 (g : gH) (v2 : Int) (v4 : Int) (v5 : Int) (X25 : Int → Int → Option (Nat × Int)) (v3 : Int) (v6 : Int) : Option (Nat × Int) :=
  if v6 < v5 then (if kd v4 = 24 ∧ (0 : Int) ≤ v6 ∧ v6 < sz v4 then if kd (g v4 v6) = 3 then bdP (fP_isRunning g (g v4 v6)) (fun y17 => if y17 = 0 then (X25 v3 (w32 (v6 + 1))) else (if kd v2 = 3 then bdP (fP_isOver g v2 (g v4 v6)) (fun y24 => if y24 = 0 then (X25 v3 (w32 (v6 + 1))) else (bdP (fP_room g (g v4 v6)) (fun y30 => X25 (w32 (v3 + y30)) (w32 (v6 + 1))))) else none)) else none else none) else (some (0, v3))
noncomputable def lC_roomBelow_25 (g : gH) (v2 : Int) (v4 : Int) (v5 : Int) (n : Nat) : Int → Int → Option (Nat × Int) := Nat.rec (motive := fun _ => Int → Int → Option (Nat × Int)) (fun _ _ => none) (fun _ ih => bC_roomBelow_25 g v2 v4 v5 ih) n
noncomputable def fC_roomBelow (g : gH) (v0 : Int) (v1 : Int) : Option (Nat × Int) :=
  bdQ (fC_named g v0 v1) (fun y1 => if kd (g v0 0) = 5 then if kd (g (g v0 0) 1) = 24 then lC_roomBelow_25 g y1 (g (g v0 0) 1) (sz (g (g v0 0) 1)) fu 0 0 else none else none) (fun E6 => some (E6 + 1, 0))
noncomputable def fW_roomBelow (g : gH) (v0 : Int) (v1 : Int) (v2 : Int) : Option (Int × gH) :=
  if kd v0 = 6 then bdQ (fC_roomBelow g v0 v1) (fun y2 => if kd v2 = 23 ∧ (0 : Int) ≤ 0 ∧ 0 < sz v2 then bnd (pU g v2 0 y2) (fun g9 => some (0, g9)) else none) (fun E7 => if E7 = 2 then (some (1, g)) else none) else none
noncomputable def bC_adopters_32 (g : gH) (v0 : Int) (v2 : Int) (v4 : Int) (v5 : Int) (X32 : Int → Int → Option (Nat × Int)) (v3 : Int) (v6 : Int) : Option (Nat × Int) :=
  if v6 < v5 then (if kd v4 = 24 ∧ (0 : Int) ≤ v6 ∧ v6 < sz v4 then if kd (g v0 0) = 5 then bdP (fT_canAdopt g (g v0 0) (g v4 v6) v2) (fun y29 => if y29 = 0 then (X32 v3 (w32 (v6 + 1))) else (X32 (w32 (v3 + 1)) (w32 (v6 + 1)))) else none else none) else (some (0, v3))
noncomputable def lC_adopters_32 (g : gH) (v0 : Int) (v2 : Int) (v4 : Int) (v5 : Int) (n : Nat) : Int → Int → Option (Nat × Int) := Nat.rec (motive := fun _ => Int → Int → Option (Nat × Int)) (fun _ _ => none) (fun _ ih => bC_adopters_32 g v0 v2 v4 v5 ih) n
noncomputable def fC_adopters (g : gH) (v0 : Int) (v1 : Int) : Option (Nat × Int) :=
  bdQ (fC_named g v0 v1) (fun y1 => if kd y1 = 3 then bdP (fP_isMortal g y1) (fun y8 => bdQ (fC_checkState g y8) (fun y12 => if kd (g v0 0) = 5 then if kd (g (g v0 0) 1) = 24 then lC_adopters_32 g v0 y1 (g (g v0 0) 1) (sz (g (g v0 0) 1)) fu 0 0 else none else none) (fun E17 => some (E17 + 1, 0))) else none) (fun E6 => some (E6 + 1, 0))
noncomputable def fW_adopters (g : gH) (v0 : Int) (v1 : Int) (v2 : Int) : Option (Int × gH) :=
  if kd v0 = 6 then bdQ (fC_adopters g v0 v1) (fun y2 => if kd v2 = 23 ∧ (0 : Int) ≤ 0 ∧ 0 < sz v2 then bnd (pU g v2 0 y2) (fun g9 => some (0, g9)) else none) (fun E7 => if E7 = 2 then (some (1, g)) else if E7 = 1 then (some (2, g)) else none) else none
noncomputable def fC_betterCode (g : gH) (v0 : Int) (v1 : Int) : Option (Nat × (Int × gH)) :=
  bdQ (fC_named g v0 v1) (fun y1 => if kd y1 = 3 then bdP (fP_isMortal g y1) (fun y8 => bdQ (fC_checkState g y8) (fun y12 => bdN (fC_exitOfCopy g v0 v1 1) (fun y18 g20 => bdN (fC_exitOfCopy g20 v0 v1 0) (fun y22 g24 => if y18 < y22 then (some (0, (1, g24))) else (some (0, (0, g24)))))) (fun E17 => some (E17 + 1, (0, g)))) else none) (fun E6 => some (E6 + 1, (0, g)))
noncomputable def fW_betterCode (g : gH) (v0 : Int) (v1 : Int) (v2 : Int) : Option (Int × gH) :=
  if kd v0 = 6 then bdT (fC_betterCode g v0 v1) (fun y2 g4 => if kd v2 = 23 ∧ (0 : Int) ≤ 0 ∧ 0 < sz v2 then bnd (pU g4 v2 0 y2) (fun g9 => some (0, g9)) else none) (fun E7 g4 => if E7 = 2 then (some (1, g4)) else if E7 = 1 then (some (2, g4)) else none) else none
noncomputable def fC_wouldRun (g : gH) (v0 : Int) (v1 : Int) (v2 : Int) : Option (Nat × (Int × gH)) :=
  bdQ (fC_checkKill g v1 v2) (fun y1 => if kd (g v0 1) = 5 then bdN (fT_take g (g v0 1) (g v0 0)) (fun y10 g12 => if kd (g12 v0 1) = 5 then bdN (fT_killGroup g12 (g12 v0 1) v1 v2) (fun y16 g18 => if kd (g18 v0 1) = 5 then bdP (fT_countInState g18 (g18 v0 1) 0) (fun y22 => some (0, (y22, g18))) else none) else none) else none) (fun E6 => some (E6 + 1, (0, g)))
noncomputable def fW_wouldRun (g : gH) (v0 : Int) (v1 : Int) (v2 : Int) (v3 : Int) : Option (Int × gH) :=
  if kd v0 = 6 then bdT (fC_wouldRun g v0 v1 v2) (fun y2 g4 => if kd v3 = 23 ∧ (0 : Int) ≤ 0 ∧ 0 < sz v3 then bnd (pU g4 v3 0 y2) (fun g9 => some (0, g9)) else none) (fun E7 g4 => if E7 = 0 then (some (1, g4)) else none) else none
noncomputable def jC_apart_35 (g : gH) (v0 : Int) (v3 : Int) (v4 : Int) (s0 : Int) : Option (Nat × Int) :=
  bdQ (fC_checkState g s0) (fun y21 => if kd v3 = 3 then bdP (fP_countAbove g v3) (fun y28 => if kd v4 = 3 then bdP (fP_countAbove g v4) (fun y33 => if kd (g v0 0) = 5 then bdP (fT_lowestOver g (g v0 0) v3 v4) (fun y39 => if kd y39 = 3 then bdP (fP_countAbove g y39) (fun y44 => some (0, (w32 ((w32 (y28 + y33)) - (opI 0 2 y44))))) else none) else none) else none) else none) (fun E26 => some (E26 + 1, 0))
noncomputable def jC_apart_34 (g : gH) (v0 : Int) (v3 : Int) (v4 : Int) : Option (Nat × Int) :=
  jC_apart_35 g v0 v3 v4 0
noncomputable def fC_apart (g : gH) (v0 : Int) (v1 : Int) (v2 : Int) : Option (Nat × Int) :=
  bdQ (fC_named g v0 v1) (fun y1 => bdQ (fC_named g v0 v2) (fun y7 => if kd y1 = 3 then if (g y1 1) = 2 then (jC_apart_34 g v0 y1 y7) else (if kd y7 = 3 then if (g y7 1) = 2 then (jC_apart_34 g v0 y1 y7) else (jC_apart_35 g v0 y1 y7 1) else none) else none) (fun E12 => some (E12 + 1, 0))) (fun E6 => some (E6 + 1, 0))
noncomputable def fW_apart (g : gH) (v0 : Int) (v1 : Int) (v2 : Int) (v3 : Int) : Option (Int × gH) :=
  if kd v0 = 6 then bdQ (fC_apart g v0 v1 v2) (fun y2 => if kd v3 = 23 ∧ (0 : Int) ≤ 0 ∧ 0 < sz v3 then bnd (pU g v3 0 y2) (fun g9 => some (0, g9)) else none) (fun E7 => if E7 = 2 then (some (1, g)) else if E7 = 1 then (some (2, g)) else none) else none
noncomputable def bT_loseSurplus_5 (v0 : Int) (v1 : Int) (X5 : Int → Int → gH → Option (Int × gH)) (v2 : Int) (v3 : Int) (g : gH) : Option (Int × gH) :=
  if v3 < 0 then (some (v2, g)) else (if kd v1 = 3 then if (g v1 4) < (g v1 3) then (if kd (g v0 1) = 24 ∧ (0 : Int) ≤ v3 ∧ v3 < sz (g v0 1) then if kd (g (g v0 1) v3) = 3 then bdP (fP_isRunningChildOf g (g (g v0 1) v3) v1) (fun y12 => if y12 = 0 then (X5 v2 (w32 (v3 + (-1))) g) else (if kd (g v0 1) = 24 ∧ (0 : Int) ≤ v3 ∧ v3 < sz (g v0 1) then if kd (g v0 1) = 24 ∧ (0 : Int) ≤ v3 ∧ v3 < sz (g v0 1) then bdP (fT_adopterOf g v0 (g (g v0 1) v3)) (fun y24 => bdN (fT_adopt g v0 (g (g v0 1) v3) y24) (fun y28 g30 => X5 (w32 (v2 + 1)) (w32 (v3 + (-1))) g30)) else none else none)) else none else none) else (X5 v2 (w32 (v3 + (-1))) g) else none)
noncomputable def lT_loseSurplus_5 (v0 : Int) (v1 : Int) (n : Nat) : Int → Int → gH → Option (Int × gH) := Nat.rec (motive := fun _ => Int → Int → gH → Option (Int × gH)) (fun _ _ _ => none) (fun _ ih => bT_loseSurplus_5 v0 v1 ih) n
noncomputable def fT_loseSurplus (g : gH) (v0 : Int) (v1 : Int) : Option (Int × gH) :=
  lT_loseSurplus_5 v0 v1 fu 0 39 g
noncomputable def fC_relieve (g : gH) (v0 : Int) (v1 : Int) : Option (Nat × (Int × gH)) :=
  bdQ (fC_named g v0 v1) (fun y1 => if kd y1 = 3 then bdP (fP_isMortal g y1) (fun y8 => bdQ (fC_checkState g y8) (fun y12 => if kd (g v0 3) = 0 then bdN (fH_push g (g v0 3) (g v0 0)) (fun y21 g23 => if kd (g23 v0 0) = 5 then bdN (fT_loseSurplus g23 (g23 v0 0) y1) (fun y27 g29 => some (0, (y27, g29))) else none) else none) (fun E17 => some (E17 + 1, (0, g)))) else none) (fun E6 => some (E6 + 1, (0, g)))
noncomputable def fW_relieve (g : gH) (v0 : Int) (v1 : Int) (v2 : Int) : Option (Int × gH) :=
  if kd v0 = 6 then bdT (fC_relieve g v0 v1) (fun y2 g4 => if kd v2 = 23 ∧ (0 : Int) ≤ 0 ∧ 0 < sz v2 then bnd (pU g4 v2 0 y2) (fun g9 => some (0, g9)) else none) (fun E7 g4 => if E7 = 2 then (some (1, g4)) else if E7 = 1 then (some (2, g4)) else none) else none
noncomputable def fC_wouldHold (g : gH) (v0 : Int) (v1 : Int) (v2 : Int) (v3 : Int) : Option (Nat × (Int × gH)) :=
  bdQ (fC_named g v0 v2) (fun y1 => bdQ (fC_checkRange g v1 7) (fun y7 => bdQ (fC_namedForExit g v0 v2 v3) (fun y13 => bdN (fC_exitOfCopy g v0 v2 v3) (fun y19 g21 => if kd (g21 v0 1) = 5 then bdP (fT_holderOf g21 (g21 v0 1) v1) (fun y25 => if kd y25 = 3 then some (0, ((g21 y25 0), g21)) else none) else none)) (fun E18 => some (E18 + 1, (0, g)))) (fun E12 => some (E12 + 1, (0, g)))) (fun E6 => some (E6 + 1, (0, g)))
noncomputable def fW_wouldHold (g : gH) (v0 : Int) (v1 : Int) (v2 : Int) (v3 : Int) (v4 : Int) : Option (Int × gH) :=
  if kd v0 = 6 then bdT (fC_wouldHold g v0 v1 v2 v3) (fun y2 g4 => if kd v4 = 23 ∧ (0 : Int) ≤ 0 ∧ 0 < sz v4 then bnd (pU g4 v4 0 y2) (fun g9 => some (0, g9)) else none) (fun E7 g4 => if E7 = 2 then (some (1, g4)) else if E7 = 0 then (some (2, g4)) else if E7 = 1 then (some (3, g4)) else none) else none
noncomputable def bC_dutyLife_19 (v0 : Int) (v1 : Int) (X19 : Int → gH → Option (Nat × (Int × gH))) (v2 : Int) (g : gH) : Option (Nat × (Int × gH)) :=
  if v2 < 40 then (if kd (g v0 1) = 5 then bdP (fT_holderOf g (g v0 1) v1) (fun y18 => if y18 = (g (g v0 1) 0) then (some (0, (v2, g))) else (bdP (fT_holderOf g (g v0 1) v1) (fun y28 => bdN (fT_letExit g (g v0 1) y28 0) (fun y32 g34 => X19 (w32 (v2 + 1)) g34)))) else none) else (some (0, (v2, g)))
noncomputable def lC_dutyLife_19 (v0 : Int) (v1 : Int) (n : Nat) : Int → gH → Option (Nat × (Int × gH)) := Nat.rec (motive := fun _ => Int → gH → Option (Nat × (Int × gH))) (fun _ _ => none) (fun _ ih => bC_dutyLife_19 v0 v1 ih) n
noncomputable def fC_dutyLife (g : gH) (v0 : Int) (v1 : Int) : Option (Nat × (Int × gH)) :=
  bdQ (fC_checkRange g v1 7) (fun y1 => if kd (g v0 1) = 5 then bdN (fT_take g (g v0 1) (g v0 0)) (fun y10 g12 => lC_dutyLife_19 v0 v1 fu 0 g12) else none) (fun E6 => some (E6 + 1, (0, g)))
noncomputable def fW_dutyLife (g : gH) (v0 : Int) (v1 : Int) (v2 : Int) : Option (Int × gH) :=
  if kd v0 = 6 then bdT (fC_dutyLife g v0 v1) (fun y2 g4 => if kd v2 = 23 ∧ (0 : Int) ≤ 0 ∧ 0 < sz v2 then bnd (pU g4 v2 0 y2) (fun g9 => some (0, g9)) else none) (fun E7 g4 => if E7 = 0 then (some (1, g4)) else none) else none
noncomputable def jC_heaviest_65 (X28 : Int → Int → Int → Option (Nat × Int)) (g : gH) (v0 : Int) (v2 : Int) (v3 : Int) (v4 : Int) (v5 : Int) (v6 : Int) (v7 : Int) (v8 : Int) (s0 : Int) : Option (Nat × Int) :=
  if v4 < s0 then (if kd v8 = 3 then X28 (g v8 0) s0 (w32 (v7 + 1)) else none) else (X28 v3 v4 (w32 (v7 + 1)))
noncomputable def bC_heaviest_28 (g : gH) (v0 : Int) (v2 : Int) (v5 : Int) (v6 : Int) (X28 : Int → Int → Int → Option (Nat × Int)) (v3 : Int) (v4 : Int) (v7 : Int) : Option (Nat × Int) :=
  if v7 < v6 then (if kd v5 = 24 ∧ (0 : Int) ≤ v7 ∧ v7 < sz v5 then if kd (g v5 v7) = 3 then bdP (fP_isRunningChildOf g (g v5 v7) v2) (fun y17 => if y17 = 0 then (jC_heaviest_65 X28 g v0 v2 v3 v4 v5 v6 v7 (g v5 v7) (-1)) else (if kd (g v0 0) = 5 then bdP (fT_countBelow g (g v0 0) (g v5 v7) 0) (fun y25 => jC_heaviest_65 X28 g v0 v2 v3 v4 v5 v6 v7 (g v5 v7) y25) else none)) else none else none) else (some (0, v3))
noncomputable def lC_heaviest_28 (g : gH) (v0 : Int) (v2 : Int) (v5 : Int) (v6 : Int) (n : Nat) : Int → Int → Int → Option (Nat × Int) := Nat.rec (motive := fun _ => Int → Int → Int → Option (Nat × Int)) (fun _ _ _ => none) (fun _ ih => bC_heaviest_28 g v0 v2 v5 v6 ih) n
noncomputable def fC_heaviest (g : gH) (v0 : Int) (v1 : Int) : Option (Nat × Int) :=
  bdQ (fC_named g v0 v1) (fun y1 => if kd (g v0 0) = 5 then if kd (g (g v0 0) 1) = 24 then lC_heaviest_28 g v0 y1 (g (g v0 0) 1) (sz (g (g v0 0) 1)) fu (-1) (-1) 0 else none else none) (fun E6 => some (E6 + 1, 0))
noncomputable def fW_heaviest (g : gH) (v0 : Int) (v1 : Int) (v2 : Int) : Option (Int × gH) :=
  if kd v0 = 6 then bdQ (fC_heaviest g v0 v1) (fun y2 => if kd v2 = 23 ∧ (0 : Int) ≤ 0 ∧ 0 < sz v2 then bnd (pU g v2 0 y2) (fun g9 => some (0, g9)) else none) (fun E7 => if E7 = 2 then (some (1, g)) else none) else none
noncomputable def bC_groupsBelow_25 (g : gH) (v2 : Int) (v4 : Int) (v5 : Int) (X25 : Int → Int → Option (Nat × Int)) (v3 : Int) (v6 : Int) : Option (Nat × Int) :=
  if v6 < v5 then (if kd v4 = 24 ∧ (0 : Int) ≤ v6 ∧ v6 < sz v4 then if kd (g v4 v6) = 3 then bdP (fP_isRunning g (g v4 v6)) (fun y17 => if y17 = 0 then (X25 v3 (w32 (v6 + 1))) else (if kd v2 = 3 then bdP (fP_isOver g v2 (g v4 v6)) (fun y24 => if y24 = 0 then (X25 v3 (w32 (v6 + 1))) else (X25 (opI 2 v3 (opI 4 1 (g (g v4 v6) 5))) (w32 (v6 + 1)))) else none)) else none else none) else (some (0, v3))
noncomputable def lC_groupsBelow_25 (g : gH) (v2 : Int) (v4 : Int) (v5 : Int) (n : Nat) : Int → Int → Option (Nat × Int) := Nat.rec (motive := fun _ => Int → Int → Option (Nat × Int)) (fun _ _ => none) (fun _ ih => bC_groupsBelow_25 g v2 v4 v5 ih) n
noncomputable def fC_groupsBelow (g : gH) (v0 : Int) (v1 : Int) : Option (Nat × Int) :=
  bdQ (fC_named g v0 v1) (fun y1 => if kd (g v0 0) = 5 then if kd (g (g v0 0) 1) = 24 then lC_groupsBelow_25 g y1 (g (g v0 0) 1) (sz (g (g v0 0) 1)) fu 0 0 else none else none) (fun E6 => some (E6 + 1, 0))
noncomputable def fW_groupsBelow (g : gH) (v0 : Int) (v1 : Int) (v2 : Int) : Option (Int × gH) :=
  if kd v0 = 6 then bdQ (fC_groupsBelow g v0 v1) (fun y2 => if kd v2 = 23 ∧ (0 : Int) ≤ 0 ∧ 0 < sz v2 then bnd (pU g v2 0 y2) (fun g9 => some (0, g9)) else none) (fun E7 => if E7 = 2 then (some (1, g)) else none) else none
noncomputable def bC_strangers_25 (g : gH) (v2 : Int) (v4 : Int) (v5 : Int) (X25 : Int → Int → Option (Nat × Int)) (v3 : Int) (v6 : Int) : Option (Nat × Int) :=
  if v6 < v5 then (if kd v4 = 24 ∧ (0 : Int) ≤ v6 ∧ v6 < sz v4 then if kd (g v4 v6) = 3 then bdP (fP_isRunningChildOf g (g v4 v6) v2) (fun y17 => if y17 = 0 then (X25 v3 (w32 (v6 + 1))) else (if kd v2 = 3 then if (g (g v4 v6) 5) = (g v2 5) then (X25 v3 (w32 (v6 + 1))) else (X25 (w32 (v3 + 1)) (w32 (v6 + 1))) else none)) else none else none) else (some (0, v3))
noncomputable def lC_strangers_25 (g : gH) (v2 : Int) (v4 : Int) (v5 : Int) (n : Nat) : Int → Int → Option (Nat × Int) := Nat.rec (motive := fun _ => Int → Int → Option (Nat × Int)) (fun _ _ => none) (fun _ ih => bC_strangers_25 g v2 v4 v5 ih) n
noncomputable def fC_strangers (g : gH) (v0 : Int) (v1 : Int) : Option (Nat × Int) :=
  bdQ (fC_named g v0 v1) (fun y1 => if kd (g v0 0) = 5 then if kd (g (g v0 0) 1) = 24 then lC_strangers_25 g y1 (g (g v0 0) 1) (sz (g (g v0 0) 1)) fu 0 0 else none else none) (fun E6 => some (E6 + 1, 0))
noncomputable def fW_strangers (g : gH) (v0 : Int) (v1 : Int) (v2 : Int) : Option (Int × gH) :=
  if kd v0 = 6 then bdQ (fC_strangers g v0 v1) (fun y2 => if kd v2 = 23 ∧ (0 : Int) ≤ 0 ∧ 0 < sz v2 then bnd (pU g v2 0 y2) (fun g9 => some (0, g9)) else none) (fun E7 => if E7 = 2 then (some (1, g)) else none) else none
noncomputable def fO_putSign (g : gH) (v0 : Int) (v1 : Int) : Option (Int × gH) :=
  if (g v0 1) < 0 then (some (0, g)) else (if (g v0 1) < 300 then (if kd (g v0 0) = 21 ∧ (0 : Int) ≤ (g v0 1) ∧ (g v0 1) < sz (g v0 0) then bnd (pU g (g v0 0) (g v0 1) (i2b (i2b v1))) (fun g10 => bnd (pU g10 v0 1 (w32 ((g10 v0 1) + 1))) (fun g13 => some (0, g13))) else none) else (some (0, g)))
noncomputable def jO_putNumber_18 (g : gH) (v0 : Int) (v1 : Int) : Option (Int × gH) :=
  if v1 < 10 then (if (1 : Int) ≤ 10 ∧ 10 < (2147483648 : Int) ∧ (0 : Int) ≤ v1 ∧ v1 < 2147483648 then bdN (fO_putSign g v0 ((w32 (48 + (v1 % 10))) % 65536)) (fun y11 g13 => some (0, g13)) else none) else (if (1 : Int) ≤ 10 ∧ 10 < (2147483648 : Int) ∧ (0 : Int) ≤ v1 ∧ v1 < 2147483648 then if (1 : Int) ≤ 10 ∧ 10 < (2147483648 : Int) ∧ (0 : Int) ≤ (v1 / 10) ∧ (v1 / 10) < 2147483648 then bdN (fO_putSign g v0 ((w32 (48 + ((v1 / 10) % 10))) % 65536)) (fun y17 g19 => if (1 : Int) ≤ 10 ∧ 10 < (2147483648 : Int) ∧ (0 : Int) ≤ v1 ∧ v1 < 2147483648 then bdN (fO_putSign g19 v0 ((w32 (48 + (v1 % 10))) % 65536)) (fun y22 g24 => some (0, g24)) else none) else none else none)
noncomputable def fO_putNumber (g : gH) (v0 : Int) (v1 : Int) : Option (Int × gH) :=
  if v1 < 100 then (jO_putNumber_18 g v0 v1) else (if (1 : Int) ≤ 100 ∧ 100 < (2147483648 : Int) ∧ (0 : Int) ≤ v1 ∧ v1 < 2147483648 then bdN (fO_putSign g v0 ((w32 (48 + (v1 / 100))) % 65536)) (fun y4 g6 => jO_putNumber_18 g6 v0 v1) else none)
noncomputable def bC_putBranch_40 (R : gH → Int → Int → Int → Int → Option (Int × gH)) (v0 : Int) (v1 : Int) (v2 : Int) (v3 : Int) (v5 : Int) (v6 : Int) (X40 : Int → Int → gH → Option (Int × gH)) (v4 : Int) (v7 : Int) (g : gH) : Option (Int × gH) :=
  if v7 < v6 then (if kd v5 = 24 ∧ (0 : Int) ≤ v7 ∧ v7 < sz v5 then if kd (g v5 v7) = 3 then bdP (fP_isRunningChildOf g (g v5 v7) v2) (fun y22 => if y22 = 0 then (X40 v4 (w32 (v7 + 1)) g) else (if kd v0 = 2 then bdN (fO_putSign g v0 v4) (fun y29 g31 => bdN (R g31 v0 v1 (g v5 v7) (w32 (v3 + 1))) (fun y33 g35 => X40 32 (w32 (v7 + 1)) g35)) else none)) else none else none) else (if kd v0 = 2 then bdN (fO_putSign g v0 41) (fun y38 g40 => some (0, g40)) else none)
noncomputable def lC_putBranch_40 (R : gH → Int → Int → Int → Int → Option (Int × gH)) (v0 : Int) (v1 : Int) (v2 : Int) (v3 : Int) (v5 : Int) (v6 : Int) (n : Nat) : Int → Int → gH → Option (Int × gH) := Nat.rec (motive := fun _ => Int → Int → gH → Option (Int × gH)) (fun _ _ _ => none) (fun _ ih => bC_putBranch_40 R v0 v1 v2 v3 v5 v6 ih) n
noncomputable def fbC_putBranch (R : gH → Int → Int → Int → Int → Option (Int × gH)) (g : gH) (v0 : Int) (v1 : Int) (v2 : Int) (v3 : Int) : Option (Int × gH) :=
  if kd v2 = 3 then if kd v0 = 2 then bdN (fO_putNumber g v0 (g v2 0)) (fun y4 g6 => if (g6 v2 3) = 0 then (some (0, g6)) else (if v3 < 40 then (if kd v1 = 5 then if kd (g6 v1 1) = 24 then lC_putBranch_40 R v0 v1 v2 v3 (g6 v1 1) (sz (g6 v1 1)) fu 40 0 g6 else none else none) else (some (0, g6)))) else none else none
noncomputable def fC_putBranch (n : Nat) : gH → Int → Int → Int → Int → Option (Int × gH) := Nat.rec (motive := fun _ => gH → Int → Int → Int → Int → Option (Int × gH)) (fun _ _ _ _ _ => none) (fun _ ih => fbC_putBranch ih) n
noncomputable def jO_putPath_38 (X5 : Int → gH → Option (Int × gH)) (g : gH) (v0 : Int) (v1 : Int) (v2 : Int) (v3 : Int) : Option (Int × gH) :=
  if kd v3 = 3 then bdN (fO_putNumber g v0 (g v3 0)) (fun y23 g25 => bdN (fO_putSign g25 v0 47) (fun y27 g29 => X5 (w32 (v2 + (-1))) g29)) else none
noncomputable def bO_putPath_14 (X5 : Int → gH → Option (Int × gH)) (g : gH) (v0 : Int) (v1 : Int) (v2 : Int) (X14 : Int → Int → Option (Int × gH)) (v3 : Int) (v4 : Int) : Option (Int × gH) :=
  if v4 < v2 then (if kd v3 = 3 then if (g v3 2) < 0 then (jO_putPath_38 X5 g v0 v1 v2 v3) else (X14 (g v3 2) (w32 (v4 + 1))) else none) else (jO_putPath_38 X5 g v0 v1 v2 v3)
noncomputable def lO_putPath_14 (X5 : Int → gH → Option (Int × gH)) (g : gH) (v0 : Int) (v1 : Int) (v2 : Int) (n : Nat) : Int → Int → Option (Int × gH) := Nat.rec (motive := fun _ => Int → Int → Option (Int × gH)) (fun _ _ => none) (fun _ ih => bO_putPath_14 X5 g v0 v1 v2 ih) n
noncomputable def bO_putPath_5 (v0 : Int) (v1 : Int) (X5 : Int → gH → Option (Int × gH)) (v2 : Int) (g : gH) : Option (Int × gH) :=
  if 0 < v2 then (lO_putPath_14 X5 g v0 v1 v2 fu v1 0) else (if kd v1 = 3 then bdN (fO_putNumber g v0 (g v1 0)) (fun y10 g12 => some (0, g12)) else none)
noncomputable def lO_putPath_5 (v0 : Int) (v1 : Int) (n : Nat) : Int → gH → Option (Int × gH) := Nat.rec (motive := fun _ => Int → gH → Option (Int × gH)) (fun _ _ => none) (fun _ ih => bO_putPath_5 v0 v1 ih) n
noncomputable def fO_putPath (g : gH) (v0 : Int) (v1 : Int) : Option (Int × gH) :=
  if kd v1 = 3 then bdP (fP_countAbove g v1) (fun y2 => lO_putPath_5 v0 v1 fu y2 g) else none
noncomputable def fO_putComma (g : gH) (v0 : Int) : Option (Int × gH) :=
  if 0 < (g v0 1) then (bdN (fO_putSign g v0 44) (fun y4 g6 => some (0, g6))) else (some (0, g))
noncomputable def bO_putChildren_12 (v0 : Int) (v2 : Int) (v3 : Int) (v4 : Int) (X12 : Int → gH → Option (Int × gH)) (v5 : Int) (g : gH) : Option (Int × gH) :=
  if v5 < v4 then (if kd v3 = 24 ∧ (0 : Int) ≤ v5 ∧ v5 < sz v3 then if kd (g v3 v5) = 3 then bdP (fP_isRunningChildOf g (g v3 v5) v2) (fun y10 => if y10 = 0 then (X12 (w32 (v5 + 1)) g) else (bdN (fO_putComma g v0) (fun y16 g18 => bdN (fO_putNumber g18 v0 (g18 (g v3 v5) 0)) (fun y21 g23 => X12 (w32 (v5 + 1)) g23)))) else none else none) else (some (0, g))
noncomputable def lO_putChildren_12 (v0 : Int) (v2 : Int) (v3 : Int) (v4 : Int) (n : Nat) : Int → gH → Option (Int × gH) := Nat.rec (motive := fun _ => Int → gH → Option (Int × gH)) (fun _ _ => none) (fun _ ih => bO_putChildren_12 v0 v2 v3 v4 ih) n
noncomputable def fO_putChildren (g : gH) (v0 : Int) (v1 : Int) (v2 : Int) : Option (Int × gH) :=
  if kd v1 = 5 then if kd (g v1 1) = 24 then lO_putChildren_12 v0 v2 (g v1 1) (sz (g v1 1)) fu 0 g else none else none
noncomputable def bO_putDuties_9 (v0 : Int) (v3 : Int) (X9 : Int → gH → Option (Int × gH)) (v4 : Int) (g : gH) : Option (Int × gH) :=
  if v4 < 8 then (if (opI 1 (opI 5 v3 v4) 1) = 0 then (X9 (w32 (v4 + 1)) g) else (bdN (fO_putNumber g v0 v4) (fun y10 g12 => X9 (w32 (v4 + 1)) g12))) else (some (0, g))
noncomputable def lO_putDuties_9 (v0 : Int) (v3 : Int) (n : Nat) : Int → gH → Option (Int × gH) := Nat.rec (motive := fun _ => Int → gH → Option (Int × gH)) (fun _ _ => none) (fun _ ih => bO_putDuties_9 v0 v3 ih) n
noncomputable def fO_putDuties (g : gH) (v0 : Int) (v1 : Int) (v2 : Int) : Option (Int × gH) :=
  if kd v1 = 5 then bdP (fT_dutiesOf g v1 v2) (fun y2 => lO_putDuties_9 v0 y2 fu 0 g) else none
noncomputable def bO_putZombies_10 (v0 : Int) (v1 : Int) (v2 : Int) (X10 : Int → Int → gH → Option (Int × gH)) (v3 : Int) (v4 : Int) (g : gH) : Option (Int × gH) :=
  if v4 < 40 then (if v3 < 0 then (some (0, g)) else (bdN (fO_putComma g v0) (fun y10 g12 => if kd v3 = 3 then bdN (fO_putNumber g12 v0 (g12 v3 0)) (fun y16 g18 => bdN (fO_putSign g18 v0 58) (fun y20 g22 => bdN (fO_putNumber g22 v0 (g22 v3 9)) (fun y25 g27 => if kd v1 = 5 then bdP (fT_zombieBehind g27 v1 v2 (g27 v3 10)) (fun y31 => X10 y31 (w32 (v4 + 1)) g27) else none))) else none))) else (some (0, g))
noncomputable def lO_putZombies_10 (v0 : Int) (v1 : Int) (v2 : Int) (n : Nat) : Int → Int → gH → Option (Int × gH) := Nat.rec (motive := fun _ => Int → Int → gH → Option (Int × gH)) (fun _ _ _ => none) (fun _ ih => bO_putZombies_10 v0 v1 v2 ih) n
noncomputable def fO_putZombies (g : gH) (v0 : Int) (v1 : Int) (v2 : Int) : Option (Int × gH) :=
  if kd v1 = 5 then bdP (fT_zombieBehind g v1 v2 (-1)) (fun y2 => lO_putZombies_10 v0 v1 v2 fu y2 0 g) else none
noncomputable def jC_print_137 (g : gH) (v0 : Int) : Option (Nat × (Int × gH)) :=
  if kd (g v0 5) = 2 then if (g (g v0 5) 1) = 0 then (bdN (fO_putSign g (g v0 5) 45) (fun y74 g76 => if kd (g76 v0 5) = 2 then some (0, ((g76 (g76 v0 5) 1), g76)) else none)) else (some (0, ((g (g v0 5) 1), g))) else none
noncomputable def jC_print_24 (g : gH) (v0 : Int) (v2 : Int) (v3 : Int) (s0 : Int) : Option (Nat × (Int × gH)) :=
  bdQ (fC_checkState g s0) (fun y17 => if kd (g v0 5) = 2 then bnd (pU g (g v0 5) 1 0) (fun g25 => if v2 = 0 then (if kd (g25 v0 5) = 2 then bdN (fO_putPath g25 (g25 v0 5) v3) (fun y31 g33 => jC_print_137 g33 v0) else none) else if v2 = 1 then (if kd (g25 v0 5) = 2 then bdN (fO_putChildren g25 (g25 v0 5) (g25 v0 0) v3) (fun y40 g42 => jC_print_137 g42 v0) else none) else if v2 = 2 then (bdN (fC_putBranch fr g25 (g25 v0 5) (g25 v0 0) v3 0) (fun y48 g50 => jC_print_137 g50 v0)) else if v2 = 3 then (if kd (g25 v0 5) = 2 then bdN (fO_putDuties g25 (g25 v0 5) (g25 v0 0) v3) (fun y57 g59 => jC_print_137 g59 v0) else none) else (if kd (g25 v0 5) = 2 then bdN (fO_putZombies g25 (g25 v0 5) (g25 v0 0) v3) (fun y64 g66 => jC_print_137 g66 v0) else none)) else none) (fun E22 => some (E22 + 1, (0, g)))
noncomputable def fC_print (g : gH) (v0 : Int) (v1 : Int) (v2 : Int) : Option (Nat × (Int × gH)) :=
  bdQ (fC_named g v0 v1) (fun y1 => bdQ (fC_checkRange g v2 4) (fun y7 => if kd y1 = 3 then if (g y1 1) = 2 then (jC_print_24 g v0 v2 y1 0) else (jC_print_24 g v0 v2 y1 1) else none) (fun E12 => some (E12 + 1, (0, g)))) (fun E6 => some (E6 + 1, (0, g)))
noncomputable def fW_print (g : gH) (v0 : Int) (v1 : Int) (v2 : Int) (v3 : Int) : Option (Int × gH) :=
  if kd v0 = 6 then bdT (fC_print g v0 v1 v2) (fun y2 g4 => if kd v3 = 23 ∧ (0 : Int) ≤ 0 ∧ 0 < sz v3 then bnd (pU g4 v3 0 y2) (fun g9 => some (0, g9)) else none) (fun E7 g4 => if E7 = 2 then (some (1, g4)) else if E7 = 0 then (some (2, g4)) else if E7 = 1 then (some (3, g4)) else none) else none
noncomputable def fC_restoreState (g : gH) (v0 : Int) : Option (Nat × (Int × gH)) :=
  bdQ (fC_checkState g (g v0 6)) (fun y2 => if kd (g v0 0) = 5 then bdN (fT_take g (g v0 0) (g v0 2)) (fun y11 g13 => if kd (g13 v0 3) = 0 then bnd (pU g13 (g13 v0 3) 1 0) (fun g17 => if kd (g17 v0 0) = 5 then bdP (fT_countInState g17 (g17 v0 0) 0) (fun y21 => some (0, (y21, g17))) else none) else none) else none) (fun E7 => some (E7 + 1, (0, g)))
noncomputable def fW_restoreState (g : gH) (v0 : Int) (v1 : Int) : Option (Int × gH) :=
  if kd v0 = 6 then bdT (fC_restoreState g v0) (fun y2 g4 => if kd v1 = 23 ∧ (0 : Int) ≤ 0 ∧ 0 < sz v1 then bnd (pU g4 v1 0 y2) (fun g9 => some (0, g9)) else none) (fun E7 g4 => if E7 = 1 then (some (1, g4)) else none) else none

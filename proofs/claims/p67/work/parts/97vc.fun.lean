/-! ===== the law's and the JDK's methods as functions, and that the machine comes to what they tell (own work, by program: wip/p67/gen/lawdec.py) ===== -/
noncomputable def j101_403 (X333 : Int → sS → Option (Int × sS)) (v0 : Int) (v1 : Int) (v3 : Int) (v4 : Int) (v5 : Int) (S : sS) : Option (Int × sS) :=
  if sK S v5 = 7 then bdS (q104_room S v0 v5) (fun y343 S344 => if y343 = 0 then (X333 (w32 (v3 + (1 : Int))) S344) else (bnd (sg S344 v0 0) (fun r350 => if sn S344 < 1000000 then bnd (sn S344) (fun p352 => bnd (nS S344 7 13) (fun S353 => bnd (sg S353 v0 0) (fun r359 => if sK S353 r359 = 9 then bdS (q134_size S353 r359) (fun y362 S363 => bdS (q99_bits S363 v4 (4 : Int) (2 : Int)) (fun y367 S368 => bdS (q99_bits S368 v4 (6 : Int) (2 : Int)) (fun y372 S373 => bdS (q99_bits S373 v4 (8 : Int) (2 : Int)) (fun y377 S378 => bdS (q114_init S378 p352 y362 v5 y367 y372 y377) (fun y382 S383 => if sK S383 r350 = 9 then bdS (q129_add S383 r350 p352) (fun y388 S389 => X333 (w32 (v3 + (1 : Int))) S389) else none))))) else none))) else none))) else none
theorem tj101_403 {κ : CX} (hQ : κ.2.2.2.2.2.2.2.2.2 = (ql_I, ql_P)) {n0 s0 : Int} {d : Nat} (hd : 10 ≤ d) {v0 v1 v3 v4 v5 : Int} (h0 : RfO v0) (h1 : RfA v1) (h3 : InR v3) (h4 : InR v4) (h5 : RfO v5) {X333 : Int → sS → Option (Int × sS)} (HX333 : ∀ (v3 : Int) (h3 : InR v3) (S : sS) (hW : WF2 κ S) (hK0 : sK S v0 = 8) (u2 : Option ev_V) (w2 : nwo u2) (u4 : Option ev_V) (w4 : nwo u4) (u5 : Option ev_V) (w5 : nwo u5), G2 κ ql_i101 ql_m101 0 d n0 s0 (X333 v3 S) 333 [some (sR v0), some (sR v1), u2, some (sI v3), u4, u5] [] S) (S : sS) (hW : WF2 κ S) (hK0 : sK S v0 = 8) (u2 : Option ev_V) (w2 : nwo u2) : G2 κ ql_i101 ql_m101 0 d n0 s0 (j101_403 X333 v0 v1 v3 v4 v5 S) 403 [some (sR v0), some (sR v1), u2, some (sI v3), some (sI v4), some (sR v5)] [] S := by
  unfold j101_403
  refine g2_aload qk101_4.1.1.1.2.1.2 rfl ?_
  refine g2_aload qk101_4.1.1.1.2.2.1 rfl ?_
  refine g2_ck (fun q342 => ?_)
  refine g2_kn hK0 (g2_callV (t' := 1) qk101_4.1.1.1.2.2.2 (by decide) (ql_ip104 hQ) (by decide) rfl rfl rfl (by omega) hW (tq104_room hQ (by omega) hW hK0 q342 h0 h5) (fun y343 S344 x345 m346 e347 => ?_))
  refine g2_ifeq qk101_4.1.1.2.1.1.1 x345 (fun c348 => ?_) (fun c349 => ?_)
  · refine g2_goto qk101_4.1.1.2.1.1.2 ?_
    refine g2_iinc qk101_4.2.1.1.1.2.2 rfl w2 (1 : Int) rfl (loc2 := [some (sR v0), some (sR v1), u2, some (sI (w32 (v3 + (1 : Int)))), some (sI v4), some (sR v5)]) rfl ?_
    refine g2_goto qk101_4.2.1.1.2.1.1 ?_
    exact HX333 (w32 (v3 + (1 : Int))) (inR_w32 _) S344 m346 (ek e347 hK0 (by decide)) u2 w2 (some (sI v4)) rfl (some (sR v5)) rfl
  · refine g2_aload qk101_4.1.1.2.1.2.1 rfl ?_
    refine g2_kn (ek e347 hK0 (by decide)) (g2_getR qk101_4.1.1.2.1.2.2 m346 ⟨by decide, by decide, by decide, rfl⟩ (fun r350 x351 => ?_))
    refine g2_ck (fun q358 => ?_)
    refine g2_kn q358 (g2_new qk101_4.1.1.2.2.1.1 m346 ⟨⟨by decide, by decide⟩, rfl, by decide⟩ rfl (fun p352 S353 x354 k355 m356 e357 => ?_))
    refine g2_dupR qk101_4.1.1.2.2.1.2 ?_
    refine g2_aload qk101_4.1.1.2.2.2 rfl ?_
    refine g2_kn (ek e357 (ek e347 hK0 (by decide)) (by decide)) (g2_getR qk101_4.1.2.1.1.1.1 m356 ⟨by decide, by decide, by decide, rfl⟩ (fun r359 x360 => ?_))
    refine g2_ck (fun q361 => ?_)
    refine g2_kn q361 (g2_callF (t' := 1) qk101_4.1.2.1.1.1.2 (by decide) (ql_ip134 hQ) rfl rfl rfl (by omega) m356 (tq134_size hQ (by omega) m356 q361 x360) (fun y362 S363 x364 m365 e366 => ?_))
    refine g2_aload qk101_4.1.2.1.1.2.1 rfl ?_
    refine g2_iload qk101_4.1.2.1.1.2.2 rfl ?_
    refine g2_int qk101_4.1.2.1.2.1.1 (4 : Int) rfl ?_
    refine g2_int qk101_4.1.2.1.2.1.2 (2 : Int) rfl ?_
    refine g2_callS (t' := 1) qk101_4.1.2.1.2.2.1 (by decide) (ql_ip99 hQ) rfl rfl rfl rfl (by omega) (tq99_bits hQ (by omega) m365 h4 (inR_of (by decide)) (inR_of (by decide))) (fun y367 S368 x369 m370 e371 => ?_)
    refine g2_iload qk101_4.1.2.1.2.2.2 rfl ?_
    refine g2_int qk101_4.1.2.2.1.1.1 (6 : Int) rfl ?_
    refine g2_int qk101_4.1.2.2.1.1.2 (2 : Int) rfl ?_
    refine g2_callS (t' := 1) qk101_4.1.2.2.1.2.1 (by decide) (ql_ip99 hQ) rfl rfl rfl rfl (by omega) (tq99_bits hQ (by omega) m370 h4 (inR_of (by decide)) (inR_of (by decide))) (fun y372 S373 x374 m375 e376 => ?_)
    refine g2_iload qk101_4.1.2.2.1.2.2 rfl ?_
    refine g2_int qk101_4.1.2.2.2.1.1 (8 : Int) rfl ?_
    refine g2_int qk101_4.1.2.2.2.1.2 (2 : Int) rfl ?_
    refine g2_callS (t' := 1) qk101_4.1.2.2.2.2 (by decide) (ql_ip99 hQ) rfl rfl rfl rfl (by omega) (tq99_bits hQ (by omega) m375 h4 (inR_of (by decide)) (inR_of (by decide))) (fun y377 S378 x379 m380 e381 => ?_)
    refine g2_kn (kn_pos m380.2.1 (ek e381 (ek e376 (ek e371 (ek e366 k355.1 (by decide)) (by decide)) (by decide)) (by decide)) (by decide)) (g2_callI qk101_4.2.1.1.1.1.1 (by decide) (ql_ip114 hQ) rfl rfl rfl (by omega) ⟨_, qd_101_457⟩ (tq114_init hQ (by omega) m380 (ek e381 (ek e376 (ek e371 (ek e366 k355.1 (by decide)) (by decide)) (by decide)) (by decide)) (rfO_of x354) x364 h5 x369 x374 x379) (fun y382 S383 m385 e386 => ?_))
    refine g2_ck (fun q387 => ?_)
    refine g2_kn q387 (g2_callF (t' := 3) qk101_4.2.1.1.1.1.2 (by decide) (ql_ip129 hQ) rfl rfl rfl (by omega) m385 (tq129_add hQ (by omega) m385 q387 x351 (rfO_of x354)) (fun y388 S389 x390 m391 e392 => ?_))
    refine g2_popI qk101_4.2.1.1.1.2.1 ?_
    refine g2_iinc qk101_4.2.1.1.1.2.2 rfl w2 (1 : Int) rfl (loc2 := [some (sR v0), some (sR v1), u2, some (sI (w32 (v3 + (1 : Int)))), some (sI v4), some (sR v5)]) rfl ?_
    refine g2_goto qk101_4.2.1.1.2.1.1 ?_
    exact HX333 (w32 (v3 + (1 : Int))) (inR_w32 _) S389 m391 (ek e392 (ek e386 (ek e381 (ek e376 (ek e371 (ek e366 (ek e357 (ek e347 hK0 (by decide)) (by decide)) (by decide)) (by decide)) (by decide)) (by decide)) (by decide)) (by decide)) u2 w2 (some (sI v4)) rfl (some (sR v5)) rfl
noncomputable def b101_528 (v0 : Int) (v1 : Int) (X528 : Int → sS → Option (Int × sS)) (v3 : Int) (S : sS) : Option (Int × sS) :=
  if v3 < (4 : Int) then (bnd (sg S v0 0) (fun r432 => bdS (q98_cell S v1 (10 : Int)) (fun y434 S435 => bdS (q99_bits S435 y434 (w32 ((16 : Int) + (opI 0 (2 : Int) v3))) (4 : Int)) (fun y439 S440 => bnd (sg S440 v0 0) (fun r444 => if sK S440 r444 = 9 then bdS (q134_size S440 r444) (fun y447 S448 => if (1 : Int) ≤ y447 ∧ y447 < (2147483648 : Int) ∧ (0 : Int) ≤ y439 ∧ y439 < 2147483648 then if sK S448 r432 = 9 then bdS (q133_get S448 r432 (y439 % y447)) (fun y454 S455 => if y454 = -1 ∨ sK S455 y454 = 7 then bnd (sg S455 v0 0) (fun r460 => bdS (q98_cell S455 v1 (9 : Int)) (fun y462 S463 => bdS (q99_bits S463 y462 (w32 ((12 : Int) + (opI 0 (4 : Int) v3))) (4 : Int)) (fun y467 S468 => bnd (sg S468 v0 0) (fun r472 => if sK S468 r472 = 9 then bdS (q134_size S468 r472) (fun y475 S476 => if (1 : Int) ≤ y475 ∧ y475 < (2147483648 : Int) ∧ (0 : Int) ≤ y467 ∧ y467 < 2147483648 then if sK S476 r460 = 9 then bdS (q133_get S476 r460 (y467 % y475)) (fun y482 S483 => if y482 = -1 ∨ sK S483 y482 = 7 then if y454 = y482 then (X528 (w32 (v3 + (1 : Int))) S483) else (if sK S483 y454 = 7 then bnd (sg S483 y454 0) (fun r491 => if 0 < r491 then (bnd (sg S483 y454 12) (fun r495 => if sK S483 r495 = 27 then if 0 ≤ v3 ∧ v3 < sZ S483 r495 then bnd (uS S483 r495 v3 y482) (fun S499 => X528 (w32 (v3 + (1 : Int))) S499) else none else none)) else (X528 (w32 (v3 + (1 : Int))) S483)) else none) else none) else none else none) else none)))) else none) else none else none) else none))))) else (some (0, S))
noncomputable def l101_528 (v0 : Int) (v1 : Int) (n : Nat) : Int → sS → Option (Int × sS) := Nat.rec (motive := fun _ => Int → sS → Option (Int × sS)) (fun _ _ => none) (fun _ ih => b101_528 v0 v1 ih) n
theorem tb101_528 {κ : CX} (hQ : κ.2.2.2.2.2.2.2.2.2 = (ql_I, ql_P)) {n0 s0 : Int} {d : Nat} (hd : 10 ≤ d) {v0 v1 : Int} (h0 : RfO v0) (h1 : RfA v1) {X528 : Int → sS → Option (Int × sS)} (HX528 : ∀ (v3 : Int) (h3 : InR v3) (S : sS) (hW : WF2 κ S) (hK0 : sK S v0 = 8) (u2 : Option ev_V) (w2 : nwo u2) (u4 : Option ev_V) (w4 : nwo u4) (u5 : Option ev_V) (w5 : nwo u5), G2 κ ql_i101 ql_m101 0 d n0 s0 (X528 v3 S) 528 [some (sR v0), some (sR v1), u2, some (sI v3), u4, u5] [] S) : ∀ (v3 : Int) (h3 : InR v3) (S : sS) (hW : WF2 κ S) (hK0 : sK S v0 = 8) (u2 : Option ev_V) (w2 : nwo u2) (u4 : Option ev_V) (w4 : nwo u4) (u5 : Option ev_V) (w5 : nwo u5), G2 κ ql_i101 ql_m101 0 d n0 s0 (b101_528 v0 v1 X528 v3 S) 528 [some (sR v0), some (sR v1), u2, some (sI v3), u4, u5] [] S := by
  intro v3 h3 S hW hK0 u2 w2 u4 w4 u5 w5
  unfold b101_528
  refine g2_iload qk101_5.1.1.1.2.1.2 rfl ?_
  refine g2_int qk101_5.1.1.1.2.2.1 (4 : Int) rfl ?_
  refine g2_cmlt qk101_5.1.1.1.2.2.2 h3 (inR_of (by decide)) (fun c430 => ?_) (fun c431 => ?_)
  · refine g2_aload qk101_5.1.1.2.1.1.1 rfl ?_
    refine g2_kn hK0 (g2_getR qk101_5.1.1.2.1.1.2 hW ⟨by decide, by decide, by decide, rfl⟩ (fun r432 x433 => ?_))
    refine g2_aload qk101_5.1.1.2.1.2.1 rfl ?_
    refine g2_int qk101_5.1.1.2.1.2.2 (10 : Int) rfl ?_
    refine g2_callS (t' := 1) qk101_5.1.1.2.2.1.1 (by decide) (ql_ip98 hQ) rfl rfl rfl rfl (by omega) (tq98_cell hQ (by omega) hW h1 (inR_of (by decide))) (fun y434 S435 x436 m437 e438 => ?_)
    refine g2_int qk101_5.1.1.2.2.1.2 (16 : Int) rfl ?_
    refine g2_int qk101_5.1.1.2.2.2 (2 : Int) rfl ?_
    refine g2_iload qk101_5.1.2.1.1.1.1 rfl ?_
    refine g2_ibin qk101_5.1.2.1.1.1.2 ?_
    refine g2_iadd qk101_5.1.2.1.1.2.1 ?_
    refine g2_int qk101_5.1.2.1.1.2.2 (4 : Int) rfl ?_
    refine g2_callS (t' := 1) qk101_5.1.2.1.2.1.1 (by decide) (ql_ip99 hQ) rfl rfl rfl rfl (by omega) (tq99_bits hQ (by omega) m437 x436 (inR_w32 _) (inR_of (by decide))) (fun y439 S440 x441 m442 e443 => ?_)
    refine g2_aload qk101_5.1.2.1.2.1.2 rfl ?_
    refine g2_kn (ek e443 (ek e438 hK0 (by decide)) (by decide)) (g2_getR qk101_5.1.2.1.2.2.1 m442 ⟨by decide, by decide, by decide, rfl⟩ (fun r444 x445 => ?_))
    refine g2_ck (fun q446 => ?_)
    refine g2_kn q446 (g2_callF (t' := 1) qk101_5.1.2.1.2.2.2 (by decide) (ql_ip134 hQ) rfl rfl rfl (by omega) m442 (tq134_size hQ (by omega) m442 q446 x445) (fun y447 S448 x449 m450 e451 => ?_))
    refine g2_ck (fun q452 => ?_)
    refine g2_rem qk101_5.1.2.2.1.1.1 q452 ?_
    refine g2_ck (fun q453 => ?_)
    refine g2_kn q453 (g2_callF (t' := 2) qk101_5.1.2.2.1.1.2 (by decide) (ql_ip133 hQ) rfl rfl rfl (by omega) m450 (tq133_get hQ (by omega) m450 q453 x433 (inR_rem q452)) (fun y454 S455 x456 m457 e458 => ?_))
    refine g2_ck (fun q459 => ?_)
    refine g2_kn q459 (g2_cast7 qk101_5.1.2.2.1.2.1 m457 x456 ?_)
    refine g2_astore qk101_5.1.2.2.1.2.2 rfl (loc2 := [some (sR v0), some (sR v1), u2, some (sI v3), some (sR y454), u5]) rfl ?_
    refine g2_aload qk101_5.1.2.2.2.1.1 rfl ?_
    refine g2_kn (ek e458 (ek e451 (ek e443 (ek e438 hK0 (by decide)) (by decide)) (by decide)) (by decide)) (g2_getR qk101_5.1.2.2.2.1.2 m457 ⟨by decide, by decide, by decide, rfl⟩ (fun r460 x461 => ?_))
    refine g2_aload qk101_5.1.2.2.2.2 rfl ?_
    refine g2_int qk101_5.2.1.1.1.1.1 (9 : Int) rfl ?_
    refine g2_callS (t' := 1) qk101_5.2.1.1.1.1.2 (by decide) (ql_ip98 hQ) rfl rfl rfl rfl (by omega) (tq98_cell hQ (by omega) m457 h1 (inR_of (by decide))) (fun y462 S463 x464 m465 e466 => ?_)
    refine g2_int qk101_5.2.1.1.1.2.1 (12 : Int) rfl ?_
    refine g2_int qk101_5.2.1.1.1.2.2 (4 : Int) rfl ?_
    refine g2_iload qk101_5.2.1.1.2.1.1 rfl ?_
    refine g2_ibin qk101_5.2.1.1.2.1.2 ?_
    refine g2_iadd qk101_5.2.1.1.2.2.1 ?_
    refine g2_int qk101_5.2.1.1.2.2.2 (4 : Int) rfl ?_
    refine g2_callS (t' := 1) qk101_5.2.1.2.1.1.1 (by decide) (ql_ip99 hQ) rfl rfl rfl rfl (by omega) (tq99_bits hQ (by omega) m465 x464 (inR_w32 _) (inR_of (by decide))) (fun y467 S468 x469 m470 e471 => ?_)
    refine g2_aload qk101_5.2.1.2.1.1.2 rfl ?_
    refine g2_kn (ek e471 (ek e466 (ek e458 (ek e451 (ek e443 (ek e438 hK0 (by decide)) (by decide)) (by decide)) (by decide)) (by decide)) (by decide)) (g2_getR qk101_5.2.1.2.1.2.1 m470 ⟨by decide, by decide, by decide, rfl⟩ (fun r472 x473 => ?_))
    refine g2_ck (fun q474 => ?_)
    refine g2_kn q474 (g2_callF (t' := 1) qk101_5.2.1.2.1.2.2 (by decide) (ql_ip134 hQ) rfl rfl rfl (by omega) m470 (tq134_size hQ (by omega) m470 q474 x473) (fun y475 S476 x477 m478 e479 => ?_))
    refine g2_ck (fun q480 => ?_)
    refine g2_rem qk101_5.2.1.2.2.1.1 q480 ?_
    refine g2_ck (fun q481 => ?_)
    refine g2_kn q481 (g2_callF (t' := 2) qk101_5.2.1.2.2.1.2 (by decide) (ql_ip133 hQ) rfl rfl rfl (by omega) m478 (tq133_get hQ (by omega) m478 q481 x461 (inR_rem q480)) (fun y482 S483 x484 m485 e486 => ?_))
    refine g2_ck (fun q487 => ?_)
    refine g2_kn q487 (g2_cast7 qk101_5.2.1.2.2.2 m485 x484 ?_)
    refine g2_astore qk101_5.2.2.1.1.1.1 rfl (loc2 := [some (sR v0), some (sR v1), u2, some (sI v3), some (sR y454), some (sR y482)]) rfl ?_
    refine g2_aload qk101_5.2.2.1.1.1.2 rfl ?_
    refine g2_aload qk101_5.2.2.1.1.2.1 rfl ?_
    refine g2_acmp qk101_5.2.2.1.1.2.2 x456 x484 (fun c488 => ?_) (fun c489 => ?_)
    · refine g2_iinc qk101_5.2.2.2.2.1.1 rfl w2 (1 : Int) rfl (loc2 := [some (sR v0), some (sR v1), u2, some (sI (w32 (v3 + (1 : Int)))), some (sR y454), some (sR y482)]) rfl ?_
      refine g2_goto qk101_5.2.2.2.2.1.2 ?_
      exact HX528 (w32 (v3 + (1 : Int))) (inR_w32 _) S483 m485 (ek e486 (ek e479 (ek e471 (ek e466 (ek e458 (ek e451 (ek e443 (ek e438 hK0 (by decide)) (by decide)) (by decide)) (by decide)) (by decide)) (by decide)) (by decide)) (by decide)) u2 w2 (some (sR y454)) rfl (some (sR y482)) rfl
    · refine g2_aload qk101_5.2.2.1.2.1.1 rfl ?_
      refine g2_ck (fun q490 => ?_)
      refine g2_kn q490 (g2_getI qk101_5.2.2.1.2.1.2 m485 ⟨by decide, by decide, by decide, rfl⟩ (fun r491 x492 => ?_))
      refine g2_ifgt qk101_5.2.2.1.2.2.1 x492 (fun c493 => ?_) (fun c494 => ?_)
      · refine g2_aload qk101_5.2.2.1.2.2.2 rfl ?_
        refine g2_kn q490 (g2_getR qk101_5.2.2.2.1.1.1 m485 ⟨by decide, by decide, by decide, rfl⟩ (fun r495 x496 => ?_))
        refine g2_iload qk101_5.2.2.2.1.1.2 rfl ?_
        refine g2_aload qk101_5.2.2.2.1.2.1 rfl ?_
        refine g2_ck (fun q497 => ?_)
        refine g2_ck (fun q498 => ?_)
        refine g2_kn ⟨Or.inr q497, x496.2, q498, q487⟩ (g2_aast qk101_5.2.2.2.1.2.2 m485 x484 (fun S499 m500 e501 => ?_))
        refine g2_iinc qk101_5.2.2.2.2.1.1 rfl w2 (1 : Int) rfl (loc2 := [some (sR v0), some (sR v1), u2, some (sI (w32 (v3 + (1 : Int)))), some (sR y454), some (sR y482)]) rfl ?_
        refine g2_goto qk101_5.2.2.2.2.1.2 ?_
        exact HX528 (w32 (v3 + (1 : Int))) (inR_w32 _) S499 m500 (ek e501 (ek e486 (ek e479 (ek e471 (ek e466 (ek e458 (ek e451 (ek e443 (ek e438 hK0 (by decide)) (by decide)) (by decide)) (by decide)) (by decide)) (by decide)) (by decide)) (by decide)) (by decide)) u2 w2 (some (sR y454)) rfl (some (sR y482)) rfl
      · refine g2_iinc qk101_5.2.2.2.2.1.1 rfl w2 (1 : Int) rfl (loc2 := [some (sR v0), some (sR v1), u2, some (sI (w32 (v3 + (1 : Int)))), some (sR y454), some (sR y482)]) rfl ?_
        refine g2_goto qk101_5.2.2.2.2.1.2 ?_
        exact HX528 (w32 (v3 + (1 : Int))) (inR_w32 _) S483 m485 (ek e486 (ek e479 (ek e471 (ek e466 (ek e458 (ek e451 (ek e443 (ek e438 hK0 (by decide)) (by decide)) (by decide)) (by decide)) (by decide)) (by decide)) (by decide)) (by decide)) u2 w2 (some (sR y454)) rfl (some (sR y482)) rfl
  · exact g2_vret qk101_5.2.2.2.2.2 hW
theorem tl101_528 {κ : CX} (hQ : κ.2.2.2.2.2.2.2.2.2 = (ql_I, ql_P)) {n0 s0 : Int} {d : Nat} (hd : 10 ≤ d) {v0 v1 : Int} (h0 : RfO v0) (h1 : RfA v1) : ∀ n : Nat, ∀ (v3 : Int) (h3 : InR v3) (S : sS) (hW : WF2 κ S) (hK0 : sK S v0 = 8) (u2 : Option ev_V) (w2 : nwo u2) (u4 : Option ev_V) (w4 : nwo u4) (u5 : Option ev_V) (w5 : nwo u5), G2 κ ql_i101 ql_m101 0 d n0 s0 (l101_528 v0 v1 n v3 S) 528 [some (sR v0), some (sR v1), u2, some (sI v3), u4, u5] [] S := by
  intro n
  induction n with
  | zero =>
    intro v3 h3 S hW hK0 u2 w2 u4 w4 u5 w5
    exact g2_none
  | succ n ih =>
    exact tb101_528 hQ hd h0 h1 ih
noncomputable def b101_474 (v0 : Int) (v1 : Int) (X474 : Int → sS → Option (Int × sS)) (v3 : Int) (S : sS) : Option (Int × sS) :=
  if v3 < (4 : Int) then (bnd (sg S v0 2) (fun r395 => bnd (sg S v0 0) (fun r397 => bdS (q98_cell S v1 (10 : Int)) (fun y399 S400 => bdS (q99_bits S400 y399 (opI 0 (4 : Int) v3) (4 : Int)) (fun y404 S405 => bnd (sg S405 v0 0) (fun r409 => if sK S405 r409 = 9 then bdS (q134_size S405 r409) (fun y412 S413 => if (1 : Int) ≤ y412 ∧ y412 < (2147483648 : Int) ∧ (0 : Int) ≤ y404 ∧ y404 < 2147483648 then if sK S413 r397 = 9 then bdS (q133_get S413 r397 (y404 % y412)) (fun y419 S420 => if y419 = -1 ∨ sK S420 y419 = 7 then if sK S420 r395 = 27 then if 0 ≤ v3 ∧ v3 < sZ S420 r395 then bnd (uS S420 r395 v3 y419) (fun S427 => X474 (w32 (v3 + (1 : Int))) S427) else none else none else none) else none else none) else none)))))) else (l101_528 v0 v1 fu (0 : Int) S)
noncomputable def l101_474 (v0 : Int) (v1 : Int) (n : Nat) : Int → sS → Option (Int × sS) := Nat.rec (motive := fun _ => Int → sS → Option (Int × sS)) (fun _ _ => none) (fun _ ih => b101_474 v0 v1 ih) n
theorem tb101_474 {κ : CX} (hQ : κ.2.2.2.2.2.2.2.2.2 = (ql_I, ql_P)) {n0 s0 : Int} {d : Nat} (hd : 10 ≤ d) {v0 v1 : Int} (h0 : RfO v0) (h1 : RfA v1) {X474 : Int → sS → Option (Int × sS)} (HX474 : ∀ (v3 : Int) (h3 : InR v3) (S : sS) (hW : WF2 κ S) (hK0 : sK S v0 = 8) (u2 : Option ev_V) (w2 : nwo u2) (u4 : Option ev_V) (w4 : nwo u4) (u5 : Option ev_V) (w5 : nwo u5), G2 κ ql_i101 ql_m101 0 d n0 s0 (X474 v3 S) 474 [some (sR v0), some (sR v1), u2, some (sI v3), u4, u5] [] S) : ∀ (v3 : Int) (h3 : InR v3) (S : sS) (hW : WF2 κ S) (hK0 : sK S v0 = 8) (u2 : Option ev_V) (w2 : nwo u2) (u4 : Option ev_V) (w4 : nwo u4) (u5 : Option ev_V) (w5 : nwo u5), G2 κ ql_i101 ql_m101 0 d n0 s0 (b101_474 v0 v1 X474 v3 S) 474 [some (sR v0), some (sR v1), u2, some (sI v3), u4, u5] [] S := by
  intro v3 h3 S hW hK0 u2 w2 u4 w4 u5 w5
  unfold b101_474
  refine g2_iload qk101_4.2.1.1.2.2.2 rfl ?_
  refine g2_int qk101_4.2.1.2.1.1.1 (4 : Int) rfl ?_
  refine g2_cmlt qk101_4.2.1.2.1.1.2 h3 (inR_of (by decide)) (fun c393 => ?_) (fun c394 => ?_)
  · refine g2_aload qk101_4.2.1.2.1.2.1 rfl ?_
    refine g2_kn hK0 (g2_getR qk101_4.2.1.2.1.2.2 hW ⟨by decide, by decide, by decide, rfl⟩ (fun r395 x396 => ?_))
    refine g2_iload qk101_4.2.1.2.2.1.1 rfl ?_
    refine g2_aload qk101_4.2.1.2.2.1.2 rfl ?_
    refine g2_kn hK0 (g2_getR qk101_4.2.1.2.2.2 hW ⟨by decide, by decide, by decide, rfl⟩ (fun r397 x398 => ?_))
    refine g2_aload qk101_4.2.2.1.1.1.1 rfl ?_
    refine g2_int qk101_4.2.2.1.1.1.2 (10 : Int) rfl ?_
    refine g2_callS (t' := 1) qk101_4.2.2.1.1.2.1 (by decide) (ql_ip98 hQ) rfl rfl rfl rfl (by omega) (tq98_cell hQ (by omega) hW h1 (inR_of (by decide))) (fun y399 S400 x401 m402 e403 => ?_)
    refine g2_int qk101_4.2.2.1.1.2.2 (4 : Int) rfl ?_
    refine g2_iload qk101_4.2.2.1.2.1.1 rfl ?_
    refine g2_ibin qk101_4.2.2.1.2.1.2 ?_
    refine g2_int qk101_4.2.2.1.2.2 (4 : Int) rfl ?_
    refine g2_callS (t' := 1) qk101_4.2.2.2.1.1.1 (by decide) (ql_ip99 hQ) rfl rfl rfl rfl (by omega) (tq99_bits hQ (by omega) m402 x401 (inR_opI _ _ _) (inR_of (by decide))) (fun y404 S405 x406 m407 e408 => ?_)
    refine g2_aload qk101_4.2.2.2.1.1.2 rfl ?_
    refine g2_kn (ek e408 (ek e403 hK0 (by decide)) (by decide)) (g2_getR qk101_4.2.2.2.1.2.1 m407 ⟨by decide, by decide, by decide, rfl⟩ (fun r409 x410 => ?_))
    refine g2_ck (fun q411 => ?_)
    refine g2_kn q411 (g2_callF (t' := 1) qk101_4.2.2.2.1.2.2 (by decide) (ql_ip134 hQ) rfl rfl rfl (by omega) m407 (tq134_size hQ (by omega) m407 q411 x410) (fun y412 S413 x414 m415 e416 => ?_))
    refine g2_ck (fun q417 => ?_)
    refine g2_rem qk101_4.2.2.2.2.1.1 q417 ?_
    refine g2_ck (fun q418 => ?_)
    refine g2_kn q418 (g2_callF (t' := 2) qk101_4.2.2.2.2.1.2 (by decide) (ql_ip133 hQ) rfl rfl rfl (by omega) m415 (tq133_get hQ (by omega) m415 q418 x398 (inR_rem q417)) (fun y419 S420 x421 m422 e423 => ?_))
    refine g2_ck (fun q424 => ?_)
    refine g2_kn q424 (g2_cast7 qk101_4.2.2.2.2.2 m422 x421 ?_)
    refine g2_ck (fun q425 => ?_)
    refine g2_ck (fun q426 => ?_)
    refine g2_kn ⟨Or.inr q425, x396.2, q426, q424⟩ (g2_aast qk101_5.1.1.1.1.1.1 m422 x421 (fun S427 m428 e429 => ?_))
    refine g2_iinc qk101_5.1.1.1.1.1.2 rfl w2 (1 : Int) rfl (loc2 := [some (sR v0), some (sR v1), u2, some (sI (w32 (v3 + (1 : Int)))), u4, u5]) rfl ?_
    refine g2_goto qk101_5.1.1.1.1.2.1 ?_
    exact HX474 (w32 (v3 + (1 : Int))) (inR_w32 _) S427 m428 (ek e429 (ek e423 (ek e416 (ek e408 (ek e403 hK0 (by decide)) (by decide)) (by decide)) (by decide)) (by decide)) u2 w2 u4 w4 u5 w5
  · refine g2_int qk101_5.1.1.1.1.2.2 (0 : Int) rfl ?_
    refine g2_istore qk101_5.1.1.1.2.1.1 w2 (loc2 := [some (sR v0), some (sR v1), u2, some (sI (0 : Int)), u4, u5]) rfl ?_
    exact tl101_528 hQ hd h0 h1 fu (0 : Int) (inR_b (Or.inl rfl)) S hW hK0 u2 w2 u4 w4 u5 w5
theorem tl101_474 {κ : CX} (hQ : κ.2.2.2.2.2.2.2.2.2 = (ql_I, ql_P)) {n0 s0 : Int} {d : Nat} (hd : 10 ≤ d) {v0 v1 : Int} (h0 : RfO v0) (h1 : RfA v1) : ∀ n : Nat, ∀ (v3 : Int) (h3 : InR v3) (S : sS) (hW : WF2 κ S) (hK0 : sK S v0 = 8) (u2 : Option ev_V) (w2 : nwo u2) (u4 : Option ev_V) (w4 : nwo u4) (u5 : Option ev_V) (w5 : nwo u5), G2 κ ql_i101 ql_m101 0 d n0 s0 (l101_474 v0 v1 n v3 S) 474 [some (sR v0), some (sR v1), u2, some (sI v3), u4, u5] [] S := by
  intro n
  induction n with
  | zero =>
    intro v3 h3 S hW hK0 u2 w2 u4 w4 u5 w5
    exact g2_none
  | succ n ih =>
    exact tb101_474 hQ hd h0 h1 ih
noncomputable def b101_333 (v0 : Int) (v1 : Int) (X333 : Int → sS → Option (Int × sS)) (v3 : Int) (S : sS) : Option (Int × sS) :=
  if v3 < (9 : Int) then (bdS (q98_cell S v1 (w32 ((1 : Int) + v3))) (fun y297 S298 => bnd (sg S298 v0 0) (fun r302 => bdS (q99_bits S298 y297 (0 : Int) (4 : Int)) (fun y304 S305 => bnd (sg S305 v0 0) (fun r309 => if sK S305 r309 = 9 then bdS (q134_size S305 r309) (fun y312 S313 => if (1 : Int) ≤ y312 ∧ y312 < (2147483648 : Int) ∧ (0 : Int) ≤ y304 ∧ y304 < 2147483648 then if sK S313 r302 = 9 then bdS (q133_get S313 r302 (y304 % y312)) (fun y319 S320 => if y319 = -1 ∨ sK S320 y319 = 7 then if sK S320 y319 = 7 then bdS (q104_room S320 v0 y319) (fun y326 S327 => if y326 = 0 then (bnd (sg S327 v0 0) (fun r333 => if sK S327 r333 = 9 then bdS (q133_get S327 r333 (0 : Int)) (fun y336 S337 => if y336 = -1 ∨ sK S337 y336 = 7 then j101_403 X333 v0 v1 v3 y297 y336 S337 else none) else none)) else (j101_403 X333 v0 v1 v3 y297 y319 S327)) else none else none) else none else none) else none))))) else (l101_474 v0 v1 fu (0 : Int) S)
noncomputable def l101_333 (v0 : Int) (v1 : Int) (n : Nat) : Int → sS → Option (Int × sS) := Nat.rec (motive := fun _ => Int → sS → Option (Int × sS)) (fun _ _ => none) (fun _ ih => b101_333 v0 v1 ih) n
theorem tb101_333 {κ : CX} (hQ : κ.2.2.2.2.2.2.2.2.2 = (ql_I, ql_P)) {n0 s0 : Int} {d : Nat} (hd : 10 ≤ d) {v0 v1 : Int} (h0 : RfO v0) (h1 : RfA v1) {X333 : Int → sS → Option (Int × sS)} (HX333 : ∀ (v3 : Int) (h3 : InR v3) (S : sS) (hW : WF2 κ S) (hK0 : sK S v0 = 8) (u2 : Option ev_V) (w2 : nwo u2) (u4 : Option ev_V) (w4 : nwo u4) (u5 : Option ev_V) (w5 : nwo u5), G2 κ ql_i101 ql_m101 0 d n0 s0 (X333 v3 S) 333 [some (sR v0), some (sR v1), u2, some (sI v3), u4, u5] [] S) : ∀ (v3 : Int) (h3 : InR v3) (S : sS) (hW : WF2 κ S) (hK0 : sK S v0 = 8) (u2 : Option ev_V) (w2 : nwo u2) (u4 : Option ev_V) (w4 : nwo u4) (u5 : Option ev_V) (w5 : nwo u5), G2 κ ql_i101 ql_m101 0 d n0 s0 (b101_333 v0 v1 X333 v3 S) 333 [some (sR v0), some (sR v1), u2, some (sI v3), u4, u5] [] S := by
  intro v3 h3 S hW hK0 u2 w2 u4 w4 u5 w5
  unfold b101_333
  refine g2_iload qk101_3.2.1.1.1.2.1 rfl ?_
  refine g2_int qk101_3.2.1.1.1.2.2 (9 : Int) rfl ?_
  refine g2_cmlt qk101_3.2.1.1.2.1.1 h3 (inR_of (by decide)) (fun c295 => ?_) (fun c296 => ?_)
  · refine g2_aload qk101_3.2.1.1.2.1.2 rfl ?_
    refine g2_int qk101_3.2.1.1.2.2.1 (1 : Int) rfl ?_
    refine g2_iload qk101_3.2.1.1.2.2.2 rfl ?_
    refine g2_iadd qk101_3.2.1.2.1.1.1 ?_
    refine g2_callS (t' := 1) qk101_3.2.1.2.1.1.2 (by decide) (ql_ip98 hQ) rfl rfl rfl rfl (by omega) (tq98_cell hQ (by omega) hW h1 (inR_w32 _)) (fun y297 S298 x299 m300 e301 => ?_)
    refine g2_istore qk101_3.2.1.2.1.2.1 rfl (loc2 := [some (sR v0), some (sR v1), u2, some (sI v3), some (sI y297), u5]) rfl ?_
    refine g2_aload qk101_3.2.1.2.1.2.2 rfl ?_
    refine g2_kn (ek e301 hK0 (by decide)) (g2_getR qk101_3.2.1.2.2.1.1 m300 ⟨by decide, by decide, by decide, rfl⟩ (fun r302 x303 => ?_))
    refine g2_iload qk101_3.2.1.2.2.1.2 rfl ?_
    refine g2_int qk101_3.2.1.2.2.2 (0 : Int) rfl ?_
    refine g2_int qk101_3.2.2.1.1.1.1 (4 : Int) rfl ?_
    refine g2_callS (t' := 1) qk101_3.2.2.1.1.1.2 (by decide) (ql_ip99 hQ) rfl rfl rfl rfl (by omega) (tq99_bits hQ (by omega) m300 x299 (inR_b (Or.inl rfl)) (inR_of (by decide))) (fun y304 S305 x306 m307 e308 => ?_)
    refine g2_aload qk101_3.2.2.1.1.2.1 rfl ?_
    refine g2_kn (ek e308 (ek e301 hK0 (by decide)) (by decide)) (g2_getR qk101_3.2.2.1.1.2.2 m307 ⟨by decide, by decide, by decide, rfl⟩ (fun r309 x310 => ?_))
    refine g2_ck (fun q311 => ?_)
    refine g2_kn q311 (g2_callF (t' := 1) qk101_3.2.2.1.2.1.1 (by decide) (ql_ip134 hQ) rfl rfl rfl (by omega) m307 (tq134_size hQ (by omega) m307 q311 x310) (fun y312 S313 x314 m315 e316 => ?_))
    refine g2_ck (fun q317 => ?_)
    refine g2_rem qk101_3.2.2.1.2.1.2 q317 ?_
    refine g2_ck (fun q318 => ?_)
    refine g2_kn q318 (g2_callF (t' := 2) qk101_3.2.2.1.2.2 (by decide) (ql_ip133 hQ) rfl rfl rfl (by omega) m315 (tq133_get hQ (by omega) m315 q318 x303 (inR_rem q317)) (fun y319 S320 x321 m322 e323 => ?_))
    refine g2_ck (fun q324 => ?_)
    refine g2_kn q324 (g2_cast7 qk101_3.2.2.2.1.1.1 m322 x321 ?_)
    refine g2_astore qk101_3.2.2.2.1.1.2 rfl (loc2 := [some (sR v0), some (sR v1), u2, some (sI v3), some (sI y297), some (sR y319)]) rfl ?_
    refine g2_aload qk101_3.2.2.2.1.2.1 rfl ?_
    refine g2_aload qk101_3.2.2.2.1.2.2 rfl ?_
    refine g2_ck (fun q325 => ?_)
    refine g2_kn (ek e323 (ek e316 (ek e308 (ek e301 hK0 (by decide)) (by decide)) (by decide)) (by decide)) (g2_callV (t' := 1) qk101_3.2.2.2.2.1.1 (by decide) (ql_ip104 hQ) (by decide) rfl rfl rfl (by omega) m322 (tq104_room hQ (by omega) m322 (ek e323 (ek e316 (ek e308 (ek e301 hK0 (by decide)) (by decide)) (by decide)) (by decide)) q325 h0 x321) (fun y326 S327 x328 m329 e330 => ?_))
    refine g2_ifeq qk101_3.2.2.2.2.1.2 x328 (fun c331 => ?_) (fun c332 => ?_)
    · refine g2_aload qk101_3.2.2.2.2.2 rfl ?_
      refine g2_kn (ek e330 (ek e323 (ek e316 (ek e308 (ek e301 hK0 (by decide)) (by decide)) (by decide)) (by decide)) (by decide)) (g2_getR qk101_4.1.1.1.1.1.1 m329 ⟨by decide, by decide, by decide, rfl⟩ (fun r333 x334 => ?_))
      refine g2_int qk101_4.1.1.1.1.1.2 (0 : Int) rfl ?_
      refine g2_ck (fun q335 => ?_)
      refine g2_kn q335 (g2_callF (t' := 2) qk101_4.1.1.1.1.2.1 (by decide) (ql_ip133 hQ) rfl rfl rfl (by omega) m329 (tq133_get hQ (by omega) m329 q335 x334 (inR_b (Or.inl rfl))) (fun y336 S337 x338 m339 e340 => ?_))
      refine g2_ck (fun q341 => ?_)
      refine g2_kn q341 (g2_cast7 qk101_4.1.1.1.1.2.2 m339 x338 ?_)
      refine g2_astore qk101_4.1.1.1.2.1.1 rfl (loc2 := [some (sR v0), some (sR v1), u2, some (sI v3), some (sI y297), some (sR y336)]) rfl ?_
      exact tj101_403 hQ hd h0 h1 h3 x299 x338 HX333 S337 m339 (ek e340 (ek e330 (ek e323 (ek e316 (ek e308 (ek e301 hK0 (by decide)) (by decide)) (by decide)) (by decide)) (by decide)) (by decide)) u2 w2
    · exact tj101_403 hQ hd h0 h1 h3 x299 x321 HX333 S327 m329 (ek e330 (ek e323 (ek e316 (ek e308 (ek e301 hK0 (by decide)) (by decide)) (by decide)) (by decide)) (by decide)) u2 w2
  · refine g2_int qk101_4.2.1.1.2.1.2 (0 : Int) rfl ?_
    refine g2_istore qk101_4.2.1.1.2.2.1 w2 (loc2 := [some (sR v0), some (sR v1), u2, some (sI (0 : Int)), u4, u5]) rfl ?_
    exact tl101_474 hQ hd h0 h1 fu (0 : Int) (inR_b (Or.inl rfl)) S hW hK0 u2 w2 u4 w4 u5 w5
theorem tl101_333 {κ : CX} (hQ : κ.2.2.2.2.2.2.2.2.2 = (ql_I, ql_P)) {n0 s0 : Int} {d : Nat} (hd : 10 ≤ d) {v0 v1 : Int} (h0 : RfO v0) (h1 : RfA v1) : ∀ n : Nat, ∀ (v3 : Int) (h3 : InR v3) (S : sS) (hW : WF2 κ S) (hK0 : sK S v0 = 8) (u2 : Option ev_V) (w2 : nwo u2) (u4 : Option ev_V) (w4 : nwo u4) (u5 : Option ev_V) (w5 : nwo u5), G2 κ ql_i101 ql_m101 0 d n0 s0 (l101_333 v0 v1 n v3 S) 333 [some (sR v0), some (sR v1), u2, some (sI v3), u4, u5] [] S := by
  intro n
  induction n with
  | zero =>
    intro v3 h3 S hW hK0 u2 w2 u4 w4 u5 w5
    exact g2_none
  | succ n ih =>
    exact tb101_333 hQ hd h0 h1 ih
noncomputable def j101_268 (v0 : Int) (v1 : Int) (v2 : Int) (a0 : Int) (a1 : Int) (S : sS) : Option (Int × sS) :=
  if sK S a0 = 8 then bnd (uS S a0 3 a1) (fun S248 => bdS (q99_bits S248 v2 (3 : Int) (3 : Int)) (fun y251 S252 => bnd (uS S252 v0 4 (w32 ((1 : Int) + y251))) (fun S256 => bnd (sg S256 v0 0) (fun r259 => if sK S256 r259 = 9 then bdS (q133_get S256 r259 (0 : Int)) (fun y262 S263 => if y262 = -1 ∨ sK S263 y262 = 7 then bdS (q99_bits S263 v2 (6 : Int) (2 : Int)) (fun y268 S269 => if sK S269 y262 = 7 then bnd (uS S269 y262 5 (w32 ((4 : Int) + y268))) (fun S274 => bnd (sg S274 v0 0) (fun r277 => if sK S274 r277 = 9 then bdS (q133_get S274 r277 (0 : Int)) (fun y280 S281 => if y280 = -1 ∨ sK S281 y280 = 7 then bdS (q99_bits S281 v2 (8 : Int) (2 : Int)) (fun y286 S287 => if sK S287 y280 = 7 then bnd (uS S287 y280 6 y286) (fun S292 => l101_333 v0 v1 fu (0 : Int) S292) else none) else none) else none)) else none) else none) else none)))) else none
theorem tj101_268 {κ : CX} (hQ : κ.2.2.2.2.2.2.2.2.2 = (ql_I, ql_P)) {n0 s0 : Int} {d : Nat} (hd : 10 ≤ d) {v0 v1 v2 : Int} {a0 a1 : Int} (h0 : RfO v0) (h1 : RfA v1) (h2 : InR v2) (z0 : RfO a0) (z1 : RfO a1) (S : sS) (hW : WF2 κ S) (hK0 : sK S v0 = 8) (u3 : Option ev_V) (w3 : nwo u3) (u4 : Option ev_V) (w4 : nwo u4) (u5 : Option ev_V) (w5 : nwo u5) : G2 κ ql_i101 ql_m101 0 d n0 s0 (j101_268 v0 v1 v2 a0 a1 S) 268 [some (sR v0), some (sR v1), some (sI v2), u3, u4, u5] [(sR a1), (sR a0)] S := by
  unfold j101_268
  refine g2_ck (fun q247 => ?_)
  refine g2_kn ⟨q247, z0.2⟩ (g2_putR qk101_2.2.2.2.2.2 hW ⟨by decide, by decide, rfl⟩ z1 (fun S248 m249 e250 => ?_))
  refine g2_aload qk101_3.1.1.1.1.1.1 rfl ?_
  refine g2_int qk101_3.1.1.1.1.1.2 (1 : Int) rfl ?_
  refine g2_iload qk101_3.1.1.1.1.2.1 rfl ?_
  refine g2_int qk101_3.1.1.1.1.2.2 (3 : Int) rfl ?_
  refine g2_int qk101_3.1.1.1.2.1.1 (3 : Int) rfl ?_
  refine g2_callS (t' := 1) qk101_3.1.1.1.2.1.2 (by decide) (ql_ip99 hQ) rfl rfl rfl rfl (by omega) (tq99_bits hQ (by omega) m249 h2 (inR_of (by decide)) (inR_of (by decide))) (fun y251 S252 x253 m254 e255 => ?_)
  refine g2_iadd qk101_3.1.1.1.2.2.1 ?_
  refine g2_kn ⟨(ek e255 (ek e250 hK0 (by decide)) (by decide)), h0.2⟩ (g2_putI qk101_3.1.1.1.2.2.2 m254 ⟨by decide, by decide, rfl⟩ (inR_w32 _) (fun S256 m257 e258 => ?_))
  refine g2_aload qk101_3.1.1.2.1.1.1 rfl ?_
  refine g2_kn (ek e258 (ek e255 (ek e250 hK0 (by decide)) (by decide)) (by decide)) (g2_getR qk101_3.1.1.2.1.1.2 m257 ⟨by decide, by decide, by decide, rfl⟩ (fun r259 x260 => ?_))
  refine g2_int qk101_3.1.1.2.1.2.1 (0 : Int) rfl ?_
  refine g2_ck (fun q261 => ?_)
  refine g2_kn q261 (g2_callF (t' := 2) qk101_3.1.1.2.1.2.2 (by decide) (ql_ip133 hQ) rfl rfl rfl (by omega) m257 (tq133_get hQ (by omega) m257 q261 x260 (inR_b (Or.inl rfl))) (fun y262 S263 x264 m265 e266 => ?_))
  refine g2_ck (fun q267 => ?_)
  refine g2_kn q267 (g2_cast7 qk101_3.1.1.2.2.1.1 m265 x264 ?_)
  refine g2_int qk101_3.1.1.2.2.1.2 (4 : Int) rfl ?_
  refine g2_iload qk101_3.1.1.2.2.2 rfl ?_
  refine g2_int qk101_3.1.2.1.1.1.1 (6 : Int) rfl ?_
  refine g2_int qk101_3.1.2.1.1.1.2 (2 : Int) rfl ?_
  refine g2_callS (t' := 1) qk101_3.1.2.1.1.2.1 (by decide) (ql_ip99 hQ) rfl rfl rfl rfl (by omega) (tq99_bits hQ (by omega) m265 h2 (inR_of (by decide)) (inR_of (by decide))) (fun y268 S269 x270 m271 e272 => ?_)
  refine g2_iadd qk101_3.1.2.1.1.2.2 ?_
  refine g2_ck (fun q273 => ?_)
  refine g2_kn ⟨q273, x264.2⟩ (g2_putI qk101_3.1.2.1.2.1.1 m271 ⟨by decide, by decide, rfl⟩ (inR_w32 _) (fun S274 m275 e276 => ?_))
  refine g2_aload qk101_3.1.2.1.2.1.2 rfl ?_
  refine g2_kn (ek e276 (ek e272 (ek e266 (ek e258 (ek e255 (ek e250 hK0 (by decide)) (by decide)) (by decide)) (by decide)) (by decide)) (by decide)) (g2_getR qk101_3.1.2.1.2.2.1 m275 ⟨by decide, by decide, by decide, rfl⟩ (fun r277 x278 => ?_))
  refine g2_int qk101_3.1.2.1.2.2.2 (0 : Int) rfl ?_
  refine g2_ck (fun q279 => ?_)
  refine g2_kn q279 (g2_callF (t' := 2) qk101_3.1.2.2.1.1.1 (by decide) (ql_ip133 hQ) rfl rfl rfl (by omega) m275 (tq133_get hQ (by omega) m275 q279 x278 (inR_b (Or.inl rfl))) (fun y280 S281 x282 m283 e284 => ?_))
  refine g2_ck (fun q285 => ?_)
  refine g2_kn q285 (g2_cast7 qk101_3.1.2.2.1.1.2 m283 x282 ?_)
  refine g2_iload qk101_3.1.2.2.1.2.1 rfl ?_
  refine g2_int qk101_3.1.2.2.1.2.2 (8 : Int) rfl ?_
  refine g2_int qk101_3.1.2.2.2.1.1 (2 : Int) rfl ?_
  refine g2_callS (t' := 1) qk101_3.1.2.2.2.1.2 (by decide) (ql_ip99 hQ) rfl rfl rfl rfl (by omega) (tq99_bits hQ (by omega) m283 h2 (inR_of (by decide)) (inR_of (by decide))) (fun y286 S287 x288 m289 e290 => ?_)
  refine g2_ck (fun q291 => ?_)
  refine g2_kn ⟨q291, x282.2⟩ (g2_putI qk101_3.1.2.2.2.2 m289 ⟨by decide, by decide, rfl⟩ x288 (fun S292 m293 e294 => ?_))
  refine g2_int qk101_3.2.1.1.1.1.1 (0 : Int) rfl ?_
  refine g2_istore qk101_3.2.1.1.1.1.2 rfl (loc2 := [some (sR v0), some (sR v1), some (sI v2), some (sI (0 : Int)), u4, u5]) rfl ?_
  exact tl101_333 hQ hd h0 h1 fu (0 : Int) (inR_b (Or.inl rfl)) S292 m293 (ek e294 (ek e290 (ek e284 (ek e276 (ek e272 (ek e266 (ek e258 (ek e255 (ek e250 hK0 (by decide)) (by decide)) (by decide)) (by decide)) (by decide)) (by decide)) (by decide)) (by decide)) (by decide)) (some (sI v2)) rfl u4 w4 u5 w5
noncomputable def j101_91 (v0 : Int) (v1 : Int) (S : sS) : Option (Int × sS) :=
  bdS (q98_cell S v1 (0 : Int)) (fun y79 S80 => bdS (q99_bits S80 y79 (0 : Int) (3 : Int)) (fun y84 S85 => if y84 = 0 then (if sn S85 < 1000000 ∧ 0 ≤ (3 : Int) ∧ (3 : Int) ≤ 65536 then bnd (sn S85) (fun p91 => bnd (nS S85 20 (3 : Int)) (fun S92 => if 0 ≤ (0 : Int) ∧ (0 : Int) < sZ S92 p91 then bnd (uS S92 p91 (0 : Int) (0 : Int)) (fun S99 => if 0 ≤ (1 : Int) ∧ (1 : Int) < sZ S99 p91 then bnd (uS S99 p91 (1 : Int) (1 : Int)) (fun S103 => if 0 ≤ (2 : Int) ∧ (2 : Int) < sZ S103 p91 then bnd (uS S103 p91 (2 : Int) (2 : Int)) (fun S107 => j101_268 v0 v1 y79 v0 p91 S107) else none) else none) else none)) else none) else (bdS (q99_bits S85 y79 (0 : Int) (3 : Int)) (fun y110 S111 => if y110 = (1 : Int) then (if sn S111 < 1000000 ∧ 0 ≤ (2 : Int) ∧ (2 : Int) ≤ 65536 then bnd (sn S111) (fun p117 => bnd (nS S111 20 (2 : Int)) (fun S118 => if 0 ≤ (0 : Int) ∧ (0 : Int) < sZ S118 p117 then bnd (uS S118 p117 (0 : Int) (2 : Int)) (fun S125 => if 0 ≤ (1 : Int) ∧ (1 : Int) < sZ S125 p117 then bnd (uS S125 p117 (1 : Int) (0 : Int)) (fun S129 => j101_268 v0 v1 y79 v0 p117 S129) else none) else none)) else none) else (bdS (q99_bits S111 y79 (0 : Int) (3 : Int)) (fun y132 S133 => if y132 = (2 : Int) then (if sn S133 < 1000000 ∧ 0 ≤ (1 : Int) ∧ (1 : Int) ≤ 65536 then bnd (sn S133) (fun p139 => bnd (nS S133 20 (1 : Int)) (fun S140 => if 0 ≤ (0 : Int) ∧ (0 : Int) < sZ S140 p139 then bnd (uS S140 p139 (0 : Int) (1 : Int)) (fun S147 => j101_268 v0 v1 y79 v0 p139 S147) else none)) else none) else (bdS (q99_bits S133 y79 (0 : Int) (3 : Int)) (fun y150 S151 => if y150 = (3 : Int) then (if sn S151 < 1000000 ∧ 0 ≤ (3 : Int) ∧ (3 : Int) ≤ 65536 then bnd (sn S151) (fun p157 => bnd (nS S151 20 (3 : Int)) (fun S158 => if 0 ≤ (0 : Int) ∧ (0 : Int) < sZ S158 p157 then bnd (uS S158 p157 (0 : Int) (3 : Int)) (fun S165 => if 0 ≤ (1 : Int) ∧ (1 : Int) < sZ S165 p157 then bnd (uS S165 p157 (1 : Int) (0 : Int)) (fun S169 => if 0 ≤ (2 : Int) ∧ (2 : Int) < sZ S169 p157 then bnd (uS S169 p157 (2 : Int) (1 : Int)) (fun S173 => j101_268 v0 v1 y79 v0 p157 S173) else none) else none) else none)) else none) else (bdS (q99_bits S151 y79 (0 : Int) (3 : Int)) (fun y176 S177 => if y176 = (4 : Int) then (if sn S177 < 1000000 ∧ 0 ≤ (1 : Int) ∧ (1 : Int) ≤ 65536 then bnd (sn S177) (fun p183 => bnd (nS S177 20 (1 : Int)) (fun S184 => if 0 ≤ (0 : Int) ∧ (0 : Int) < sZ S184 p183 then bnd (uS S184 p183 (0 : Int) (4 : Int)) (fun S191 => j101_268 v0 v1 y79 v0 p183 S191) else none)) else none) else (bdS (q99_bits S177 y79 (0 : Int) (3 : Int)) (fun y194 S195 => if y194 = (5 : Int) then (if sn S195 < 1000000 ∧ 0 ≤ (3 : Int) ∧ (3 : Int) ≤ 65536 then bnd (sn S195) (fun p201 => bnd (nS S195 20 (3 : Int)) (fun S202 => if 0 ≤ (0 : Int) ∧ (0 : Int) < sZ S202 p201 then bnd (uS S202 p201 (0 : Int) (3 : Int)) (fun S209 => if 0 ≤ (1 : Int) ∧ (1 : Int) < sZ S209 p201 then bnd (uS S209 p201 (1 : Int) (4 : Int)) (fun S213 => if 0 ≤ (2 : Int) ∧ (2 : Int) < sZ S213 p201 then bnd (uS S213 p201 (2 : Int) (2 : Int)) (fun S217 => j101_268 v0 v1 y79 v0 p201 S217) else none) else none) else none)) else none) else (if sn S195 < 1000000 ∧ 0 ≤ (5 : Int) ∧ (5 : Int) ≤ 65536 then bnd (sn S195) (fun p220 => bnd (nS S195 20 (5 : Int)) (fun S221 => if 0 ≤ (0 : Int) ∧ (0 : Int) < sZ S221 p220 then bnd (uS S221 p220 (0 : Int) (1 : Int)) (fun S228 => if 0 ≤ (1 : Int) ∧ (1 : Int) < sZ S228 p220 then bnd (uS S228 p220 (1 : Int) (3 : Int)) (fun S232 => if 0 ≤ (2 : Int) ∧ (2 : Int) < sZ S232 p220 then bnd (uS S232 p220 (2 : Int) (0 : Int)) (fun S236 => if 0 ≤ (3 : Int) ∧ (3 : Int) < sZ S236 p220 then bnd (uS S236 p220 (3 : Int) (2 : Int)) (fun S240 => if 0 ≤ (4 : Int) ∧ (4 : Int) < sZ S240 p220 then bnd (uS S240 p220 (4 : Int) (4 : Int)) (fun S244 => j101_268 v0 v1 y79 v0 p220 S244) else none) else none) else none) else none) else none)) else none)))))))))))))
theorem tj101_91 {κ : CX} (hQ : κ.2.2.2.2.2.2.2.2.2 = (ql_I, ql_P)) {n0 s0 : Int} {d : Nat} (hd : 10 ≤ d) {v0 v1 : Int} (h0 : RfO v0) (h1 : RfA v1) (S : sS) (hW : WF2 κ S) (hK0 : sK S v0 = 8) (u2 : Option ev_V) (w2 : nwo u2) (u3 : Option ev_V) (w3 : nwo u3) (u4 : Option ev_V) (w4 : nwo u4) (u5 : Option ev_V) (w5 : nwo u5) : G2 κ ql_i101 ql_m101 0 d n0 s0 (j101_91 v0 v1 S) 91 [some (sR v0), some (sR v1), u2, u3, u4, u5] [] S := by
  unfold j101_91
  refine g2_aload qk101_0.2.1.2.2.2 rfl ?_
  refine g2_int qk101_0.2.2.1.1.1.1 (0 : Int) rfl ?_
  refine g2_callS (t' := 1) qk101_0.2.2.1.1.1.2 (by decide) (ql_ip98 hQ) rfl rfl rfl rfl (by omega) (tq98_cell hQ (by omega) hW h1 (inR_b (Or.inl rfl))) (fun y79 S80 x81 m82 e83 => ?_)
  refine g2_istore qk101_0.2.2.1.1.2.1 rfl (loc2 := [some (sR v0), some (sR v1), some (sI y79), u3, u4, u5]) rfl ?_
  refine g2_aload qk101_0.2.2.1.1.2.2 rfl ?_
  refine g2_iload qk101_0.2.2.1.2.1.1 rfl ?_
  refine g2_int qk101_0.2.2.1.2.1.2 (0 : Int) rfl ?_
  refine g2_int qk101_0.2.2.1.2.2 (3 : Int) rfl ?_
  refine g2_callS (t' := 1) qk101_0.2.2.2.1.1.1 (by decide) (ql_ip99 hQ) rfl rfl rfl rfl (by omega) (tq99_bits hQ (by omega) m82 x81 (inR_b (Or.inl rfl)) (inR_of (by decide))) (fun y84 S85 x86 m87 e88 => ?_)
  refine g2_ifeq qk101_0.2.2.2.1.1.2 x86 (fun c89 => ?_) (fun c90 => ?_)
  · refine g2_int qk101_0.2.2.2.1.2.1 (3 : Int) rfl ?_
    refine g2_ck (fun q97 => ?_)
    refine g2_kn q97 (g2_newa qk101_0.2.2.2.1.2.2 m87 ⟨by decide, rfl⟩ (fun p91 S92 x93 k94 m95 e96 => ?_))
    refine g2_dupR qk101_0.2.2.2.2.1.1 ?_
    refine g2_int qk101_0.2.2.2.2.1.2 (0 : Int) rfl ?_
    refine g2_int qk101_0.2.2.2.2.2 (0 : Int) rfl ?_
    refine g2_ck (fun q98 => ?_)
    refine g2_kn ⟨k94.1, (rfO_of x93).2, q98⟩ (g2_iast qk101_1.1.1.1.1.1.1 m95 (inR_b (Or.inl rfl)) (fun S99 m100 e101 => ?_))
    refine g2_dupR qk101_1.1.1.1.1.1.2 ?_
    refine g2_int qk101_1.1.1.1.1.2.1 (1 : Int) rfl ?_
    refine g2_int qk101_1.1.1.1.1.2.2 (1 : Int) rfl ?_
    refine g2_ck (fun q102 => ?_)
    refine g2_kn ⟨(ek e101 k94.1 (by decide)), (rfO_of x93).2, q102⟩ (g2_iast qk101_1.1.1.1.2.1.1 m100 (inR_b (Or.inr rfl)) (fun S103 m104 e105 => ?_))
    refine g2_dupR qk101_1.1.1.1.2.1.2 ?_
    refine g2_int qk101_1.1.1.1.2.2.1 (2 : Int) rfl ?_
    refine g2_int qk101_1.1.1.1.2.2.2 (2 : Int) rfl ?_
    refine g2_ck (fun q106 => ?_)
    refine g2_kn ⟨(ek e105 (ek e101 k94.1 (by decide)) (by decide)), (rfO_of x93).2, q106⟩ (g2_iast qk101_1.1.1.2.1.1.1 m104 (inR_of (by decide)) (fun S107 m108 e109 => ?_))
    refine g2_goto qk101_1.1.1.2.1.1.2 ?_
    exact tj101_268 hQ hd h0 h1 x81 h0 (rfO_of x93) S107 m108 (ek e109 (ek e105 (ek e101 (ek e96 (ek e88 (ek e83 hK0 (by decide)) (by decide)) (by decide)) (by decide)) (by decide)) (by decide)) u3 w3 u4 w4 u5 w5
  · refine g2_iload qk101_1.1.1.2.1.2.1 rfl ?_
    refine g2_int qk101_1.1.1.2.1.2.2 (0 : Int) rfl ?_
    refine g2_int qk101_1.1.1.2.2.1.1 (3 : Int) rfl ?_
    refine g2_callS (t' := 1) qk101_1.1.1.2.2.1.2 (by decide) (ql_ip99 hQ) rfl rfl rfl rfl (by omega) (tq99_bits hQ (by omega) m87 x81 (inR_b (Or.inl rfl)) (inR_of (by decide))) (fun y110 S111 x112 m113 e114 => ?_)
    refine g2_int qk101_1.1.1.2.2.2 (1 : Int) rfl ?_
    refine g2_cmeq qk101_1.1.2.1.1.1.1 x112 (inR_b (Or.inr rfl)) (fun c115 => ?_) (fun c116 => ?_)
    · refine g2_int qk101_1.1.2.1.1.1.2 (2 : Int) rfl ?_
      refine g2_ck (fun q123 => ?_)
      refine g2_kn q123 (g2_newa qk101_1.1.2.1.1.2.1 m113 ⟨by decide, rfl⟩ (fun p117 S118 x119 k120 m121 e122 => ?_))
      refine g2_dupR qk101_1.1.2.1.1.2.2 ?_
      refine g2_int qk101_1.1.2.1.2.1.1 (0 : Int) rfl ?_
      refine g2_int qk101_1.1.2.1.2.1.2 (2 : Int) rfl ?_
      refine g2_ck (fun q124 => ?_)
      refine g2_kn ⟨k120.1, (rfO_of x119).2, q124⟩ (g2_iast qk101_1.1.2.1.2.2.1 m121 (inR_of (by decide)) (fun S125 m126 e127 => ?_))
      refine g2_dupR qk101_1.1.2.1.2.2.2 ?_
      refine g2_int qk101_1.1.2.2.1.1.1 (1 : Int) rfl ?_
      refine g2_int qk101_1.1.2.2.1.1.2 (0 : Int) rfl ?_
      refine g2_ck (fun q128 => ?_)
      refine g2_kn ⟨(ek e127 k120.1 (by decide)), (rfO_of x119).2, q128⟩ (g2_iast qk101_1.1.2.2.1.2.1 m126 (inR_b (Or.inl rfl)) (fun S129 m130 e131 => ?_))
      refine g2_goto qk101_1.1.2.2.1.2.2 ?_
      exact tj101_268 hQ hd h0 h1 x81 h0 (rfO_of x119) S129 m130 (ek e131 (ek e127 (ek e122 (ek e114 (ek e88 (ek e83 hK0 (by decide)) (by decide)) (by decide)) (by decide)) (by decide)) (by decide)) u3 w3 u4 w4 u5 w5
    · refine g2_iload qk101_1.1.2.2.2.1.1 rfl ?_
      refine g2_int qk101_1.1.2.2.2.1.2 (0 : Int) rfl ?_
      refine g2_int qk101_1.1.2.2.2.2 (3 : Int) rfl ?_
      refine g2_callS (t' := 1) qk101_1.2.1.1.1.1.1 (by decide) (ql_ip99 hQ) rfl rfl rfl rfl (by omega) (tq99_bits hQ (by omega) m113 x81 (inR_b (Or.inl rfl)) (inR_of (by decide))) (fun y132 S133 x134 m135 e136 => ?_)
      refine g2_int qk101_1.2.1.1.1.1.2 (2 : Int) rfl ?_
      refine g2_cmeq qk101_1.2.1.1.1.2.1 x134 (inR_of (by decide)) (fun c137 => ?_) (fun c138 => ?_)
      · refine g2_int qk101_1.2.1.1.1.2.2 (1 : Int) rfl ?_
        refine g2_ck (fun q145 => ?_)
        refine g2_kn q145 (g2_newa qk101_1.2.1.1.2.1.1 m135 ⟨by decide, rfl⟩ (fun p139 S140 x141 k142 m143 e144 => ?_))
        refine g2_dupR qk101_1.2.1.1.2.1.2 ?_
        refine g2_int qk101_1.2.1.1.2.2.1 (0 : Int) rfl ?_
        refine g2_int qk101_1.2.1.1.2.2.2 (1 : Int) rfl ?_
        refine g2_ck (fun q146 => ?_)
        refine g2_kn ⟨k142.1, (rfO_of x141).2, q146⟩ (g2_iast qk101_1.2.1.2.1.1.1 m143 (inR_b (Or.inr rfl)) (fun S147 m148 e149 => ?_))
        refine g2_goto qk101_1.2.1.2.1.1.2 ?_
        exact tj101_268 hQ hd h0 h1 x81 h0 (rfO_of x141) S147 m148 (ek e149 (ek e144 (ek e136 (ek e114 (ek e88 (ek e83 hK0 (by decide)) (by decide)) (by decide)) (by decide)) (by decide)) (by decide)) u3 w3 u4 w4 u5 w5
      · refine g2_iload qk101_1.2.1.2.1.2.1 rfl ?_
        refine g2_int qk101_1.2.1.2.1.2.2 (0 : Int) rfl ?_
        refine g2_int qk101_1.2.1.2.2.1.1 (3 : Int) rfl ?_
        refine g2_callS (t' := 1) qk101_1.2.1.2.2.1.2 (by decide) (ql_ip99 hQ) rfl rfl rfl rfl (by omega) (tq99_bits hQ (by omega) m135 x81 (inR_b (Or.inl rfl)) (inR_of (by decide))) (fun y150 S151 x152 m153 e154 => ?_)
        refine g2_int qk101_1.2.1.2.2.2 (3 : Int) rfl ?_
        refine g2_cmeq qk101_1.2.2.1.1.1.1 x152 (inR_of (by decide)) (fun c155 => ?_) (fun c156 => ?_)
        · refine g2_int qk101_1.2.2.1.1.1.2 (3 : Int) rfl ?_
          refine g2_ck (fun q163 => ?_)
          refine g2_kn q163 (g2_newa qk101_1.2.2.1.1.2.1 m153 ⟨by decide, rfl⟩ (fun p157 S158 x159 k160 m161 e162 => ?_))
          refine g2_dupR qk101_1.2.2.1.1.2.2 ?_
          refine g2_int qk101_1.2.2.1.2.1.1 (0 : Int) rfl ?_
          refine g2_int qk101_1.2.2.1.2.1.2 (3 : Int) rfl ?_
          refine g2_ck (fun q164 => ?_)
          refine g2_kn ⟨k160.1, (rfO_of x159).2, q164⟩ (g2_iast qk101_1.2.2.1.2.2 m161 (inR_of (by decide)) (fun S165 m166 e167 => ?_))
          refine g2_dupR qk101_1.2.2.2.1.1.1 ?_
          refine g2_int qk101_1.2.2.2.1.1.2 (1 : Int) rfl ?_
          refine g2_int qk101_1.2.2.2.1.2.1 (0 : Int) rfl ?_
          refine g2_ck (fun q168 => ?_)
          refine g2_kn ⟨(ek e167 k160.1 (by decide)), (rfO_of x159).2, q168⟩ (g2_iast qk101_1.2.2.2.1.2.2 m166 (inR_b (Or.inl rfl)) (fun S169 m170 e171 => ?_))
          refine g2_dupR qk101_1.2.2.2.2.1.1 ?_
          refine g2_int qk101_1.2.2.2.2.1.2 (2 : Int) rfl ?_
          refine g2_int qk101_1.2.2.2.2.2 (1 : Int) rfl ?_
          refine g2_ck (fun q172 => ?_)
          refine g2_kn ⟨(ek e171 (ek e167 k160.1 (by decide)) (by decide)), (rfO_of x159).2, q172⟩ (g2_iast qk101_2.1.1.1.1.1.1 m170 (inR_b (Or.inr rfl)) (fun S173 m174 e175 => ?_))
          refine g2_goto qk101_2.1.1.1.1.1.2 ?_
          exact tj101_268 hQ hd h0 h1 x81 h0 (rfO_of x159) S173 m174 (ek e175 (ek e171 (ek e167 (ek e162 (ek e154 (ek e136 (ek e114 (ek e88 (ek e83 hK0 (by decide)) (by decide)) (by decide)) (by decide)) (by decide)) (by decide)) (by decide)) (by decide)) (by decide)) u3 w3 u4 w4 u5 w5
        · refine g2_iload qk101_2.1.1.1.1.2.1 rfl ?_
          refine g2_int qk101_2.1.1.1.1.2.2 (0 : Int) rfl ?_
          refine g2_int qk101_2.1.1.1.2.1.1 (3 : Int) rfl ?_
          refine g2_callS (t' := 1) qk101_2.1.1.1.2.1.2 (by decide) (ql_ip99 hQ) rfl rfl rfl rfl (by omega) (tq99_bits hQ (by omega) m153 x81 (inR_b (Or.inl rfl)) (inR_of (by decide))) (fun y176 S177 x178 m179 e180 => ?_)
          refine g2_int qk101_2.1.1.1.2.2.1 (4 : Int) rfl ?_
          refine g2_cmeq qk101_2.1.1.1.2.2.2 x178 (inR_of (by decide)) (fun c181 => ?_) (fun c182 => ?_)
          · refine g2_int qk101_2.1.1.2.1.1.1 (1 : Int) rfl ?_
            refine g2_ck (fun q189 => ?_)
            refine g2_kn q189 (g2_newa qk101_2.1.1.2.1.1.2 m179 ⟨by decide, rfl⟩ (fun p183 S184 x185 k186 m187 e188 => ?_))
            refine g2_dupR qk101_2.1.1.2.1.2.1 ?_
            refine g2_int qk101_2.1.1.2.1.2.2 (0 : Int) rfl ?_
            refine g2_int qk101_2.1.1.2.2.1.1 (4 : Int) rfl ?_
            refine g2_ck (fun q190 => ?_)
            refine g2_kn ⟨k186.1, (rfO_of x185).2, q190⟩ (g2_iast qk101_2.1.1.2.2.1.2 m187 (inR_of (by decide)) (fun S191 m192 e193 => ?_))
            refine g2_goto qk101_2.1.1.2.2.2 ?_
            exact tj101_268 hQ hd h0 h1 x81 h0 (rfO_of x185) S191 m192 (ek e193 (ek e188 (ek e180 (ek e154 (ek e136 (ek e114 (ek e88 (ek e83 hK0 (by decide)) (by decide)) (by decide)) (by decide)) (by decide)) (by decide)) (by decide)) (by decide)) u3 w3 u4 w4 u5 w5
          · refine g2_iload qk101_2.1.2.1.1.1.1 rfl ?_
            refine g2_int qk101_2.1.2.1.1.1.2 (0 : Int) rfl ?_
            refine g2_int qk101_2.1.2.1.1.2.1 (3 : Int) rfl ?_
            refine g2_callS (t' := 1) qk101_2.1.2.1.1.2.2 (by decide) (ql_ip99 hQ) rfl rfl rfl rfl (by omega) (tq99_bits hQ (by omega) m179 x81 (inR_b (Or.inl rfl)) (inR_of (by decide))) (fun y194 S195 x196 m197 e198 => ?_)
            refine g2_int qk101_2.1.2.1.2.1.1 (5 : Int) rfl ?_
            refine g2_cmeq qk101_2.1.2.1.2.1.2 x196 (inR_of (by decide)) (fun c199 => ?_) (fun c200 => ?_)
            · refine g2_int qk101_2.1.2.1.2.2.1 (3 : Int) rfl ?_
              refine g2_ck (fun q207 => ?_)
              refine g2_kn q207 (g2_newa qk101_2.1.2.1.2.2.2 m197 ⟨by decide, rfl⟩ (fun p201 S202 x203 k204 m205 e206 => ?_))
              refine g2_dupR qk101_2.1.2.2.1.1.1 ?_
              refine g2_int qk101_2.1.2.2.1.1.2 (0 : Int) rfl ?_
              refine g2_int qk101_2.1.2.2.1.2.1 (3 : Int) rfl ?_
              refine g2_ck (fun q208 => ?_)
              refine g2_kn ⟨k204.1, (rfO_of x203).2, q208⟩ (g2_iast qk101_2.1.2.2.1.2.2 m205 (inR_of (by decide)) (fun S209 m210 e211 => ?_))
              refine g2_dupR qk101_2.1.2.2.2.1.1 ?_
              refine g2_int qk101_2.1.2.2.2.1.2 (1 : Int) rfl ?_
              refine g2_int qk101_2.1.2.2.2.2 (4 : Int) rfl ?_
              refine g2_ck (fun q212 => ?_)
              refine g2_kn ⟨(ek e211 k204.1 (by decide)), (rfO_of x203).2, q212⟩ (g2_iast qk101_2.2.1.1.1.1.1 m210 (inR_of (by decide)) (fun S213 m214 e215 => ?_))
              refine g2_dupR qk101_2.2.1.1.1.1.2 ?_
              refine g2_int qk101_2.2.1.1.1.2.1 (2 : Int) rfl ?_
              refine g2_int qk101_2.2.1.1.1.2.2 (2 : Int) rfl ?_
              refine g2_ck (fun q216 => ?_)
              refine g2_kn ⟨(ek e215 (ek e211 k204.1 (by decide)) (by decide)), (rfO_of x203).2, q216⟩ (g2_iast qk101_2.2.1.1.2.1.1 m214 (inR_of (by decide)) (fun S217 m218 e219 => ?_))
              refine g2_goto qk101_2.2.1.1.2.1.2 ?_
              exact tj101_268 hQ hd h0 h1 x81 h0 (rfO_of x203) S217 m218 (ek e219 (ek e215 (ek e211 (ek e206 (ek e198 (ek e180 (ek e154 (ek e136 (ek e114 (ek e88 (ek e83 hK0 (by decide)) (by decide)) (by decide)) (by decide)) (by decide)) (by decide)) (by decide)) (by decide)) (by decide)) (by decide)) (by decide)) u3 w3 u4 w4 u5 w5
            · refine g2_int qk101_2.2.1.1.2.2.1 (5 : Int) rfl ?_
              refine g2_ck (fun q226 => ?_)
              refine g2_kn q226 (g2_newa qk101_2.2.1.1.2.2.2 m197 ⟨by decide, rfl⟩ (fun p220 S221 x222 k223 m224 e225 => ?_))
              refine g2_dupR qk101_2.2.1.2.1.1.1 ?_
              refine g2_int qk101_2.2.1.2.1.1.2 (0 : Int) rfl ?_
              refine g2_int qk101_2.2.1.2.1.2.1 (1 : Int) rfl ?_
              refine g2_ck (fun q227 => ?_)
              refine g2_kn ⟨k223.1, (rfO_of x222).2, q227⟩ (g2_iast qk101_2.2.1.2.1.2.2 m224 (inR_b (Or.inr rfl)) (fun S228 m229 e230 => ?_))
              refine g2_dupR qk101_2.2.1.2.2.1.1 ?_
              refine g2_int qk101_2.2.1.2.2.1.2 (1 : Int) rfl ?_
              refine g2_int qk101_2.2.1.2.2.2 (3 : Int) rfl ?_
              refine g2_ck (fun q231 => ?_)
              refine g2_kn ⟨(ek e230 k223.1 (by decide)), (rfO_of x222).2, q231⟩ (g2_iast qk101_2.2.2.1.1.1.1 m229 (inR_of (by decide)) (fun S232 m233 e234 => ?_))
              refine g2_dupR qk101_2.2.2.1.1.1.2 ?_
              refine g2_int qk101_2.2.2.1.1.2.1 (2 : Int) rfl ?_
              refine g2_int qk101_2.2.2.1.1.2.2 (0 : Int) rfl ?_
              refine g2_ck (fun q235 => ?_)
              refine g2_kn ⟨(ek e234 (ek e230 k223.1 (by decide)) (by decide)), (rfO_of x222).2, q235⟩ (g2_iast qk101_2.2.2.1.2.1.1 m233 (inR_b (Or.inl rfl)) (fun S236 m237 e238 => ?_))
              refine g2_dupR qk101_2.2.2.1.2.1.2 ?_
              refine g2_int qk101_2.2.2.1.2.2 (3 : Int) rfl ?_
              refine g2_int qk101_2.2.2.2.1.1.1 (2 : Int) rfl ?_
              refine g2_ck (fun q239 => ?_)
              refine g2_kn ⟨(ek e238 (ek e234 (ek e230 k223.1 (by decide)) (by decide)) (by decide)), (rfO_of x222).2, q239⟩ (g2_iast qk101_2.2.2.2.1.1.2 m237 (inR_of (by decide)) (fun S240 m241 e242 => ?_))
              refine g2_dupR qk101_2.2.2.2.1.2.1 ?_
              refine g2_int qk101_2.2.2.2.1.2.2 (4 : Int) rfl ?_
              refine g2_int qk101_2.2.2.2.2.1.1 (4 : Int) rfl ?_
              refine g2_ck (fun q243 => ?_)
              refine g2_kn ⟨(ek e242 (ek e238 (ek e234 (ek e230 k223.1 (by decide)) (by decide)) (by decide)) (by decide)), (rfO_of x222).2, q243⟩ (g2_iast qk101_2.2.2.2.2.1.2 m241 (inR_of (by decide)) (fun S244 m245 e246 => ?_))
              exact tj101_268 hQ hd h0 h1 x81 h0 (rfO_of x222) S244 m245 (ek e246 (ek e242 (ek e238 (ek e234 (ek e230 (ek e225 (ek e198 (ek e180 (ek e154 (ek e136 (ek e114 (ek e88 (ek e83 hK0 (by decide)) (by decide)) (by decide)) (by decide)) (by decide)) (by decide)) (by decide)) (by decide)) (by decide)) (by decide)) (by decide)) (by decide)) (by decide)) u3 w3 u4 w4 u5 w5
noncomputable def b101_60 (v0 : Int) (v1 : Int) (X60 : Int → sS → Option (Int × sS)) (v2 : Int) (S : sS) : Option (Int × sS) :=
  if v2 < (8 : Int) then (bnd (sg S v0 2) (fun r63 => bnd (sg S v0 0) (fun r65 => if sK S r65 = 9 then bdS (q133_get S r65 (0 : Int)) (fun y68 S69 => if y68 = -1 ∨ sK S69 y68 = 7 then if sK S69 r63 = 27 then if 0 ≤ v2 ∧ v2 < sZ S69 r63 then bnd (uS S69 r63 v2 y68) (fun S76 => X60 (w32 (v2 + (1 : Int))) S76) else none else none else none) else none))) else (j101_91 v0 v1 S)
noncomputable def l101_60 (v0 : Int) (v1 : Int) (n : Nat) : Int → sS → Option (Int × sS) := Nat.rec (motive := fun _ => Int → sS → Option (Int × sS)) (fun _ _ => none) (fun _ ih => b101_60 v0 v1 ih) n
theorem tb101_60 {κ : CX} (hQ : κ.2.2.2.2.2.2.2.2.2 = (ql_I, ql_P)) {n0 s0 : Int} {d : Nat} (hd : 10 ≤ d) {v0 v1 : Int} (h0 : RfO v0) (h1 : RfA v1) {X60 : Int → sS → Option (Int × sS)} (HX60 : ∀ (v2 : Int) (h2 : InR v2) (S : sS) (hW : WF2 κ S) (hK0 : sK S v0 = 8) (u3 : Option ev_V) (w3 : nwo u3) (u4 : Option ev_V) (w4 : nwo u4) (u5 : Option ev_V) (w5 : nwo u5), G2 κ ql_i101 ql_m101 0 d n0 s0 (X60 v2 S) 60 [some (sR v0), some (sR v1), some (sI v2), u3, u4, u5] [] S) : ∀ (v2 : Int) (h2 : InR v2) (S : sS) (hW : WF2 κ S) (hK0 : sK S v0 = 8) (u3 : Option ev_V) (w3 : nwo u3) (u4 : Option ev_V) (w4 : nwo u4) (u5 : Option ev_V) (w5 : nwo u5), G2 κ ql_i101 ql_m101 0 d n0 s0 (b101_60 v0 v1 X60 v2 S) 60 [some (sR v0), some (sR v1), some (sI v2), u3, u4, u5] [] S := by
  intro v2 h2 S hW hK0 u3 w3 u4 w4 u5 w5
  unfold b101_60
  refine g2_iload qk101_0.2.1.1.1.1.1 rfl ?_
  refine g2_int qk101_0.2.1.1.1.1.2 (8 : Int) rfl ?_
  refine g2_cmlt qk101_0.2.1.1.1.2.1 h2 (inR_of (by decide)) (fun c61 => ?_) (fun c62 => ?_)
  · refine g2_aload qk101_0.2.1.1.1.2.2 rfl ?_
    refine g2_kn hK0 (g2_getR qk101_0.2.1.1.2.1.1 hW ⟨by decide, by decide, by decide, rfl⟩ (fun r63 x64 => ?_))
    refine g2_iload qk101_0.2.1.1.2.1.2 rfl ?_
    refine g2_aload qk101_0.2.1.1.2.2.1 rfl ?_
    refine g2_kn hK0 (g2_getR qk101_0.2.1.1.2.2.2 hW ⟨by decide, by decide, by decide, rfl⟩ (fun r65 x66 => ?_))
    refine g2_int qk101_0.2.1.2.1.1.1 (0 : Int) rfl ?_
    refine g2_ck (fun q67 => ?_)
    refine g2_kn q67 (g2_callF (t' := 2) qk101_0.2.1.2.1.1.2 (by decide) (ql_ip133 hQ) rfl rfl rfl (by omega) hW (tq133_get hQ (by omega) hW q67 x66 (inR_b (Or.inl rfl))) (fun y68 S69 x70 m71 e72 => ?_))
    refine g2_ck (fun q73 => ?_)
    refine g2_kn q73 (g2_cast7 qk101_0.2.1.2.1.2.1 m71 x70 ?_)
    refine g2_ck (fun q74 => ?_)
    refine g2_ck (fun q75 => ?_)
    refine g2_kn ⟨Or.inr q74, x64.2, q75, q73⟩ (g2_aast qk101_0.2.1.2.1.2.2 m71 x70 (fun S76 m77 e78 => ?_))
    refine g2_iinc qk101_0.2.1.2.2.1.1 rfl rfl (1 : Int) rfl (loc2 := [some (sR v0), some (sR v1), some (sI (w32 (v2 + (1 : Int)))), u3, u4, u5]) rfl ?_
    refine g2_goto qk101_0.2.1.2.2.1.2 ?_
    exact HX60 (w32 (v2 + (1 : Int))) (inR_w32 _) S76 m77 (ek e78 (ek e72 hK0 (by decide)) (by decide)) u3 w3 u4 w4 u5 w5
  · exact tj101_91 hQ hd h0 h1 S hW hK0 (some (sI v2)) rfl u3 w3 u4 w4 u5 w5
theorem tl101_60 {κ : CX} (hQ : κ.2.2.2.2.2.2.2.2.2 = (ql_I, ql_P)) {n0 s0 : Int} {d : Nat} (hd : 10 ≤ d) {v0 v1 : Int} (h0 : RfO v0) (h1 : RfA v1) : ∀ n : Nat, ∀ (v2 : Int) (h2 : InR v2) (S : sS) (hW : WF2 κ S) (hK0 : sK S v0 = 8) (u3 : Option ev_V) (w3 : nwo u3) (u4 : Option ev_V) (w4 : nwo u4) (u5 : Option ev_V) (w5 : nwo u5), G2 κ ql_i101 ql_m101 0 d n0 s0 (l101_60 v0 v1 n v2 S) 60 [some (sR v0), some (sR v1), some (sI v2), u3, u4, u5] [] S := by
  intro n
  induction n with
  | zero =>
    intro v2 h2 S hW hK0 u3 w3 u4 w4 u5 w5
    exact g2_none
  | succ n ih =>
    exact tb101_60 hQ hd h0 h1 ih
noncomputable def q101_init (S : sS) (v0 : Int) (v1 : Int) : Option (Int × sS) :=
  if sn S < 1000000 then bnd (sn S) (fun p1 => bnd (nS S 9 3) (fun S2 => bdS (q120_init S2 p1) (fun y8 S9 => bnd (uS S9 v0 0 p1) (fun S13 => if sn S13 < 1000000 then bnd (sn S13) (fun p16 => bnd (nS S13 9 3) (fun S17 => bdS (q120_init S17 p16) (fun y23 S24 => bnd (uS S24 v0 1 p16) (fun S28 => if sn S28 < 1000000 ∧ 0 ≤ (8 : Int) ∧ (8 : Int) ≤ 65536 then bnd (sn S28) (fun p31 => bnd (nS S28 27 (8 : Int)) (fun S32 => bnd (uS S32 v0 2 p31) (fun S38 => bnd (sg S38 v0 0) (fun r41 => if sn S38 < 1000000 then bnd (sn S38) (fun p43 => bnd (nS S38 7 13) (fun S44 => bdS (q114_init S44 p43 (0 : Int) (-1) (9 : Int) (0 : Int) (0 : Int)) (fun y50 S51 => if sK S51 r41 = 9 then bdS (q129_add S51 r41 p43) (fun y56 S57 => l101_60 v0 v1 fu (0 : Int) S57) else none))) else none)))) else none)))) else none)))) else none
theorem tq101_init {κ : CX} (hQ : κ.2.2.2.2.2.2.2.2.2 = (ql_I, ql_P)) {n0 s0 : Int} {d : Nat} (hd : 10 ≤ d) {S : sS} (hW : WF2 κ S) {v0 v1 : Int} (hK0 : sK S v0 = 8) (h0 : RfO v0) (h1 : RfA v1) : G2 κ ql_i101 ql_m101 0 d n0 s0 (q101_init S v0 v1) 0 (ev_loc ql_m101.1 [(sR v0), (sR v1)]) [] S := by
  unfold q101_init
  refine g2_aload qk101_0.1.1.1.1.1.1 rfl ?_
  refine g2_objinit qk101_0.1.1.1.1.1.2 rfl (kn_pos hW.2.1 hK0 (by decide)) ?_
  refine g2_aload qk101_0.1.1.1.1.2.1 rfl ?_
  refine g2_ck (fun q7 => ?_)
  refine g2_kn q7 (g2_new qk101_0.1.1.1.1.2.2 hW ⟨⟨by decide, by decide⟩, rfl, by decide⟩ rfl (fun p1 S2 x3 k4 m5 e6 => ?_))
  refine g2_dupR qk101_0.1.1.1.2.1.1 ?_
  refine g2_kn (kn_pos m5.2.1 k4.1 (by decide)) (g2_callI qk101_0.1.1.1.2.1.2 (by decide) (ql_ip120 hQ) rfl rfl rfl (by omega) ⟨_, qd_101_9⟩ (tq120_init hQ (by omega) m5 k4.1 (rfO_of x3)) (fun y8 S9 m11 e12 => ?_))
  refine g2_kn ⟨(ek e12 (ek e6 hK0 (by decide)) (by decide)), h0.2⟩ (g2_putR qk101_0.1.1.1.2.2.1 m11 ⟨by decide, by decide, rfl⟩ (rfO_of x3) (fun S13 m14 e15 => ?_))
  refine g2_aload qk101_0.1.1.1.2.2.2 rfl ?_
  refine g2_ck (fun q22 => ?_)
  refine g2_kn q22 (g2_new qk101_0.1.1.2.1.1.1 m14 ⟨⟨by decide, by decide⟩, rfl, by decide⟩ rfl (fun p16 S17 x18 k19 m20 e21 => ?_))
  refine g2_dupR qk101_0.1.1.2.1.1.2 ?_
  refine g2_kn (kn_pos m20.2.1 k19.1 (by decide)) (g2_callI qk101_0.1.1.2.1.2.1 (by decide) (ql_ip120 hQ) rfl rfl rfl (by omega) ⟨_, qd_101_20⟩ (tq120_init hQ (by omega) m20 k19.1 (rfO_of x18)) (fun y23 S24 m26 e27 => ?_))
  refine g2_kn ⟨(ek e27 (ek e21 (ek e15 (ek e12 (ek e6 hK0 (by decide)) (by decide)) (by decide)) (by decide)) (by decide)), h0.2⟩ (g2_putR qk101_0.1.1.2.1.2.2 m26 ⟨by decide, by decide, rfl⟩ (rfO_of x18) (fun S28 m29 e30 => ?_))
  refine g2_aload qk101_0.1.1.2.2.1.1 rfl ?_
  refine g2_int qk101_0.1.1.2.2.1.2 (8 : Int) rfl ?_
  refine g2_ck (fun q37 => ?_)
  refine g2_kn q37 (g2_newa qk101_0.1.1.2.2.2 m29 ⟨by decide, rfl⟩ (fun p31 S32 x33 k34 m35 e36 => ?_))
  refine g2_kn ⟨(ek e36 (ek e30 (ek e27 (ek e21 (ek e15 (ek e12 (ek e6 hK0 (by decide)) (by decide)) (by decide)) (by decide)) (by decide)) (by decide)) (by decide)), h0.2⟩ (g2_putR qk101_0.1.2.1.1.1.1 m35 ⟨by decide, by decide, rfl⟩ (rfO_of x33) (fun S38 m39 e40 => ?_))
  refine g2_aload qk101_0.1.2.1.1.1.2 rfl ?_
  refine g2_kn (ek e40 (ek e36 (ek e30 (ek e27 (ek e21 (ek e15 (ek e12 (ek e6 hK0 (by decide)) (by decide)) (by decide)) (by decide)) (by decide)) (by decide)) (by decide)) (by decide)) (g2_getR qk101_0.1.2.1.1.2.1 m39 ⟨by decide, by decide, by decide, rfl⟩ (fun r41 x42 => ?_))
  refine g2_ck (fun q49 => ?_)
  refine g2_kn q49 (g2_new qk101_0.1.2.1.1.2.2 m39 ⟨⟨by decide, by decide⟩, rfl, by decide⟩ rfl (fun p43 S44 x45 k46 m47 e48 => ?_))
  refine g2_dupR qk101_0.1.2.1.2.1.1 ?_
  refine g2_int qk101_0.1.2.1.2.1.2 (0 : Int) rfl ?_
  refine g2_null qk101_0.1.2.1.2.2.1 ?_
  refine g2_int qk101_0.1.2.1.2.2.2 (9 : Int) rfl ?_
  refine g2_int qk101_0.1.2.2.1.1.1 (0 : Int) rfl ?_
  refine g2_int qk101_0.1.2.2.1.1.2 (0 : Int) rfl ?_
  refine g2_kn (kn_pos m47.2.1 k46.1 (by decide)) (g2_callI qk101_0.1.2.2.1.2.1 (by decide) (ql_ip114 hQ) rfl rfl rfl (by omega) ⟨_, qd_101_49⟩ (tq114_init hQ (by omega) m47 k46.1 (rfO_of x45) (inR_b (Or.inl rfl)) rfO_null (inR_of (by decide)) (inR_b (Or.inl rfl)) (inR_b (Or.inl rfl))) (fun y50 S51 m53 e54 => ?_))
  refine g2_ck (fun q55 => ?_)
  refine g2_kn q55 (g2_callF (t' := 3) qk101_0.1.2.2.1.2.2 (by decide) (ql_ip129 hQ) rfl rfl rfl (by omega) m53 (tq129_add hQ (by omega) m53 q55 x42 (rfO_of x45)) (fun y56 S57 x58 m59 e60 => ?_))
  refine g2_popI qk101_0.1.2.2.2.1.1 ?_
  refine g2_int qk101_0.1.2.2.2.1.2 (0 : Int) rfl ?_
  refine g2_istore qk101_0.1.2.2.2.2 rfl (loc2 := [some (sR v0), some (sR v1), some (sI (0 : Int)), none, none, none]) rfl ?_
  exact tl101_60 hQ hd h0 h1 fu (0 : Int) (inR_b (Or.inl rfl)) S57 m59 (ek e60 (ek e54 (ek e48 (ek e40 (ek e36 (ek e30 (ek e27 (ek e21 (ek e15 (ek e12 (ek e6 hK0 (by decide)) (by decide)) (by decide)) (by decide)) (by decide)) (by decide)) (by decide)) (by decide)) (by decide)) (by decide)) (by decide)) none rfl none rfl none rfl

/-! ===== the law's and the JDK's methods as functions, and that the machine comes to what they tell (own work, by program: wip/p67/gen/lawdec.py) ===== -/
noncomputable def j112_395 (v1 : Int) (v4 : Int) (v6 : Int) (S : sS) : Option (Int × sS) :=
  if v1 = sb S ∧ 0 ≤ v1 then bdC (fT) (fC_kill (sc S) 0 v4 (1 : Int)) (fun y704 c705 => bnd (cS S c705) (fun S706 => if y704 = v6 then (some ((1 : Int), S706)) else (some ((0 : Int), S706)))) else none
theorem tj112_395 {κ : CX} (hQ : κ.2.2.2.2.2.2.2.2.2 = (ql_I, ql_P)) {n0 s0 : Int} {d : Nat} (hd : 70 ≤ d) {v1 v4 v6 : Int} (h1 : RfO v1) (h4 : InR v4) (h6 : InR v6) (S : sS) (hW : WF2 κ S) (u0 : Option ev_V) (w0 : nwo u0) (u2 : Option ev_V) (w2 : nwo u2) (u3 : Option ev_V) (w3 : nwo u3) (u5 : Option ev_V) (w5 : nwo u5) (u7 : Option ev_V) (w7 : nwo u7) (u8 : Option ev_V) (w8 : nwo u8) (u9 : Option ev_V) (w9 : nwo u9) : G2 κ ql_i112 ql_m112 3 d n0 s0 (j112_395 v1 v4 v6 S) 395 [u0, some (sR v1), u2, u3, some (sI v4), u5, some (sI v6), u7, u8, u9] [] S := by
  unfold j112_395
  refine g2_aload qk112_2.1.2.1.2.1.2 rfl ?_
  refine g2_iload qk112_2.1.2.1.2.2 rfl ?_
  refine g2_int qk112_2.1.2.2.1.1.1 (1 : Int) rfl ?_
  refine g2_ck (fun q703 => ?_)
  refine g2_kn q703 (g2_callC (t' := 1) (Is := [v4, (1 : Int)]) qk112_2.1.2.2.1.1.2 (by decide) rfl rfl (by omega) hW (Or.inl rfl) (by decide) ⟨rfl, rfl⟩ (tfC_kill (by omega) hW.1.2 kd_c0 h4 (inR_b (Or.inr rfl))) (fun y704 S706 x707 m708 e709 => ?_))
  refine g2_iload qk112_2.1.2.2.1.2.1 rfl ?_
  refine g2_cmeq qk112_2.1.2.2.1.2.2 x707 h6 (fun c710 => ?_) (fun c711 => ?_)
  · refine g2_int qk112_2.1.2.2.2.1.1 (1 : Int) rfl ?_
    refine g2_goto qk112_2.1.2.2.2.1.2 ?_
    exact g2_zret qk112_2.2.1.1.1.1.1 m708 (Or.inr rfl)
  · refine g2_int qk112_2.1.2.2.2.2 (0 : Int) rfl ?_
    exact g2_zret qk112_2.2.1.1.1.1.1 m708 (Or.inl rfl)
noncomputable def b112_364 (v1 : Int) (v4 : Int) (v6 : Int) (v8 : Int) (X364 : sS → Option (Int × sS)) (S : sS) : Option (Int × sS) :=
  if sK S v8 = 10 then bdS (q137_hasNext S v8) (fun y686 S687 => if y686 = 0 then (j112_395 v1 v4 v6 S687) else (bdS (q139_next S687 v8) (fun y693 S694 => if y693 = -1 ∨ sK S694 y693 = 7 then if sK S694 y693 = 7 then bnd (uS S694 y693 11 (0 : Int)) (fun S700 => X364 S700) else none else none))) else none
noncomputable def l112_364 (v1 : Int) (v4 : Int) (v6 : Int) (v8 : Int) (n : Nat) : sS → Option (Int × sS) := Nat.rec (motive := fun _ => sS → Option (Int × sS)) (fun _ => none) (fun _ ih => b112_364 v1 v4 v6 v8 ih) n
theorem tb112_364 {κ : CX} (hQ : κ.2.2.2.2.2.2.2.2.2 = (ql_I, ql_P)) {n0 s0 : Int} {d : Nat} (hd : 70 ≤ d) {v1 v4 v6 v8 : Int} (h1 : RfO v1) (h4 : InR v4) (h6 : InR v6) (h8 : RfO v8) {X364 : sS → Option (Int × sS)} (HX364 : ∀ (S : sS) (hW : WF2 κ S) (u0 : Option ev_V) (w0 : nwo u0) (u2 : Option ev_V) (w2 : nwo u2) (u3 : Option ev_V) (w3 : nwo u3) (u5 : Option ev_V) (w5 : nwo u5) (u7 : Option ev_V) (w7 : nwo u7) (u9 : Option ev_V) (w9 : nwo u9), G2 κ ql_i112 ql_m112 3 d n0 s0 (X364 S) 364 [u0, some (sR v1), u2, u3, some (sI v4), u5, some (sI v6), u7, some (sR v8), u9] [] S) : ∀ (S : sS) (hW : WF2 κ S) (u0 : Option ev_V) (w0 : nwo u0) (u2 : Option ev_V) (w2 : nwo u2) (u3 : Option ev_V) (w3 : nwo u3) (u5 : Option ev_V) (w5 : nwo u5) (u7 : Option ev_V) (w7 : nwo u7) (u9 : Option ev_V) (w9 : nwo u9), G2 κ ql_i112 ql_m112 3 d n0 s0 (b112_364 v1 v4 v6 v8 X364 S) 364 [u0, some (sR v1), u2, u3, some (sI v4), u5, some (sI v6), u7, some (sR v8), u9] [] S := by
  intro S hW u0 w0 u2 w2 u3 w3 u5 w5 u7 w7 u9 w9
  unfold b112_364
  refine g2_aload qk112_2.1.1.2.1.1.2 rfl ?_
  refine g2_ck (fun q685 => ?_)
  refine g2_kn q685 (g2_callF (t' := 3) qk112_2.1.1.2.1.2.1 (by decide) (ql_ip137 hQ) rfl rfl rfl (by omega) hW (tq137_hasNext hQ (by omega) hW q685 h8) (fun y686 S687 x688 m689 e690 => ?_))
  refine g2_ifeq qk112_2.1.1.2.1.2.2 (inR_b x688) (fun c691 => ?_) (fun c692 => ?_)
  · exact tj112_395 hQ hd h1 h4 h6 S687 m689 u0 w0 u2 w2 u3 w3 u5 w5 u7 w7 (some (sR v8)) rfl u9 w9
  · refine g2_aload qk112_2.1.1.2.2.1.1 rfl ?_
    refine g2_kn (ek e690 q685 (by decide)) (g2_callF (t' := 2) qk112_2.1.1.2.2.1.2 (by decide) (ql_ip139 hQ) rfl rfl rfl (by omega) m689 (tq139_next hQ (by omega) m689 (ek e690 q685 (by decide)) h8) (fun y693 S694 x695 m696 e697 => ?_))
    refine g2_ck (fun q698 => ?_)
    refine g2_kn q698 (g2_cast7 qk112_2.1.1.2.2.2 m696 x695 ?_)
    refine g2_astore qk112_2.1.2.1.1.1.1 rfl (loc2 := [u0, some (sR v1), u2, u3, some (sI v4), u5, some (sI v6), u7, some (sR v8), some (sR y693)]) rfl ?_
    refine g2_aload qk112_2.1.2.1.1.1.2 rfl ?_
    refine g2_int qk112_2.1.2.1.1.2.1 (0 : Int) rfl ?_
    refine g2_ck (fun q699 => ?_)
    refine g2_kn ⟨q699, x695.2⟩ (g2_putB qk112_2.1.2.1.1.2.2 m696 ⟨by decide, by decide, rfl⟩ (Or.inl rfl) (fun S700 m701 e702 => ?_))
    refine g2_goto qk112_2.1.2.1.2.1.1 ?_
    exact HX364 S700 m701 u0 w0 u2 w2 u3 w3 u5 w5 u7 w7 (some (sR y693)) rfl
theorem tl112_364 {κ : CX} (hQ : κ.2.2.2.2.2.2.2.2.2 = (ql_I, ql_P)) {n0 s0 : Int} {d : Nat} (hd : 70 ≤ d) {v1 v4 v6 v8 : Int} (h1 : RfO v1) (h4 : InR v4) (h6 : InR v6) (h8 : RfO v8) : ∀ n : Nat, ∀ (S : sS) (hW : WF2 κ S) (u0 : Option ev_V) (w0 : nwo u0) (u2 : Option ev_V) (w2 : nwo u2) (u3 : Option ev_V) (w3 : nwo u3) (u5 : Option ev_V) (w5 : nwo u5) (u7 : Option ev_V) (w7 : nwo u7) (u9 : Option ev_V) (w9 : nwo u9), G2 κ ql_i112 ql_m112 3 d n0 s0 (l112_364 v1 v4 v6 v8 n S) 364 [u0, some (sR v1), u2, u3, some (sI v4), u5, some (sI v6), u7, some (sR v8), u9] [] S := by
  intro n
  induction n with
  | zero =>
    intro S hW u0 w0 u2 w2 u3 w3 u5 w5 u7 w7 u9 w9
    exact g2_none
  | succ n ih =>
    exact tb112_364 hQ hd h1 h4 h6 h8 ih
noncomputable def b112_310 (v0 : Int) (v1 : Int) (v4 : Int) (v7 : Int) (v8 : Int) (X310 : Int → sS → Option (Int × sS)) (v6 : Int) (S : sS) : Option (Int × sS) :=
  if sK S v8 = 10 then bdS (q137_hasNext S v8) (fun y658 S659 => if y658 = 0 then (if sK S659 v7 = 9 then bdS (q136_iterator S659 v7) (fun y666 S667 => l112_364 v1 v4 v6 y666 fu S667) else none) else (bdS (q139_next S659 v8) (fun y671 S672 => if y671 = -1 ∨ sK S672 y671 = 7 then if sK S672 y671 = 7 then bdS (q110_exit S672 v0 y671 (1 : Int)) (fun y678 S679 => if y678 < 0 then (X310 (w32 (v6 + (0 : Int))) S679) else (X310 (w32 (v6 + (1 : Int))) S679)) else none else none))) else none
noncomputable def l112_310 (v0 : Int) (v1 : Int) (v4 : Int) (v7 : Int) (v8 : Int) (n : Nat) : Int → sS → Option (Int × sS) := Nat.rec (motive := fun _ => Int → sS → Option (Int × sS)) (fun _ _ => none) (fun _ ih => b112_310 v0 v1 v4 v7 v8 ih) n
theorem tb112_310 {κ : CX} (hQ : κ.2.2.2.2.2.2.2.2.2 = (ql_I, ql_P)) {n0 s0 : Int} {d : Nat} (hd : 70 ≤ d) {v0 v1 v4 v7 v8 : Int} (h0 : RfO v0) (h1 : RfO v1) (h4 : InR v4) (h7 : RfO v7) (h8 : RfO v8) {X310 : Int → sS → Option (Int × sS)} (HX310 : ∀ (v6 : Int) (h6 : InR v6) (S : sS) (hW : WF2 κ S) (hK0 : sK S v0 = 8) (u2 : Option ev_V) (w2 : nwo u2) (u3 : Option ev_V) (w3 : nwo u3) (u5 : Option ev_V) (w5 : nwo u5) (u9 : Option ev_V) (w9 : nwo u9), G2 κ ql_i112 ql_m112 3 d n0 s0 (X310 v6 S) 310 [some (sR v0), some (sR v1), u2, u3, some (sI v4), u5, some (sI v6), some (sR v7), some (sR v8), u9] [] S) : ∀ (v6 : Int) (h6 : InR v6) (S : sS) (hW : WF2 κ S) (hK0 : sK S v0 = 8) (u2 : Option ev_V) (w2 : nwo u2) (u3 : Option ev_V) (w3 : nwo u3) (u5 : Option ev_V) (w5 : nwo u5) (u9 : Option ev_V) (w9 : nwo u9), G2 κ ql_i112 ql_m112 3 d n0 s0 (b112_310 v0 v1 v4 v7 v8 X310 v6 S) 310 [some (sR v0), some (sR v1), u2, u3, some (sI v4), u5, some (sI v6), some (sR v7), some (sR v8), u9] [] S := by
  intro v6 h6 S hW hK0 u2 w2 u3 w3 u5 w5 u9 w9
  unfold b112_310
  refine g2_aload qk112_1.2.2.1.1.1.2 rfl ?_
  refine g2_ck (fun q657 => ?_)
  refine g2_kn q657 (g2_callF (t' := 3) qk112_1.2.2.1.1.2.1 (by decide) (ql_ip137 hQ) rfl rfl rfl (by omega) hW (tq137_hasNext hQ (by omega) hW q657 h8) (fun y658 S659 x660 m661 e662 => ?_))
  refine g2_ifeq qk112_1.2.2.1.1.2.2 (inR_b x660) (fun c663 => ?_) (fun c664 => ?_)
  · refine g2_aload qk112_2.1.1.1.2.2.1 rfl ?_
    refine g2_ck (fun q665 => ?_)
    refine g2_kn q665 (g2_callF (t' := 2) qk112_2.1.1.1.2.2.2 (by decide) (ql_ip136 hQ) rfl rfl rfl (by omega) m661 (tq136_iterator hQ (by omega) m661 q665 h7) (fun y666 S667 x668 m669 e670 => ?_))
    refine g2_astore qk112_2.1.1.2.1.1.1 rfl (loc2 := [some (sR v0), some (sR v1), u2, u3, some (sI v4), u5, some (sI v6), some (sR v7), some (sR y666), u9]) rfl ?_
    exact tl112_364 hQ hd h1 h4 h6 x668 fu S667 m669 (some (sR v0)) rfl u2 w2 u3 w3 u5 w5 (some (sR v7)) rfl u9 w9
  · refine g2_aload qk112_1.2.2.1.2.1.1 rfl ?_
    refine g2_kn (ek e662 q657 (by decide)) (g2_callF (t' := 2) qk112_1.2.2.1.2.1.2 (by decide) (ql_ip139 hQ) rfl rfl rfl (by omega) m661 (tq139_next hQ (by omega) m661 (ek e662 q657 (by decide)) h8) (fun y671 S672 x673 m674 e675 => ?_))
    refine g2_ck (fun q676 => ?_)
    refine g2_kn q676 (g2_cast7 qk112_1.2.2.1.2.2 m674 x673 ?_)
    refine g2_astore qk112_1.2.2.2.1.1.1 rfl (loc2 := [some (sR v0), some (sR v1), u2, u3, some (sI v4), u5, some (sI v6), some (sR v7), some (sR v8), some (sR y671)]) rfl ?_
    refine g2_iload qk112_1.2.2.2.1.1.2 rfl ?_
    refine g2_aload qk112_1.2.2.2.1.2.1 rfl ?_
    refine g2_aload qk112_1.2.2.2.1.2.2 rfl ?_
    refine g2_int qk112_1.2.2.2.2.1.1 (1 : Int) rfl ?_
    refine g2_ck (fun q677 => ?_)
    refine g2_kn (ek e675 (ek e662 hK0 (by decide)) (by decide)) (g2_callV (t' := 1) qk112_1.2.2.2.2.1.2 (by decide) (ql_ip110 hQ) (by decide) rfl rfl rfl (by omega) m674 (tq110_exit hQ (by omega) m674 (ek e675 (ek e662 hK0 (by decide)) (by decide)) q677 h0 x673 (inR_b (Or.inr rfl))) (fun y678 S679 x680 m681 e682 => ?_))
    refine g2_iflt qk112_1.2.2.2.2.2 x680 (fun c683 => ?_) (fun c684 => ?_)
    · refine g2_int qk112_2.1.1.1.1.1.1 (0 : Int) rfl ?_
      refine g2_goto qk112_2.1.1.1.1.1.2 ?_
      refine g2_iadd qk112_2.1.1.1.1.2.2 ?_
      refine g2_istore qk112_2.1.1.1.2.1.1 w5 (loc2 := [some (sR v0), some (sR v1), u2, u3, some (sI v4), u5, some (sI (w32 (v6 + (0 : Int)))), some (sR v7), some (sR v8), some (sR y671)]) rfl ?_
      refine g2_goto qk112_2.1.1.1.2.1.2 ?_
      exact HX310 (w32 (v6 + (0 : Int))) (inR_w32 _) S679 m681 (ek e682 (ek e675 (ek e662 hK0 (by decide)) (by decide)) (by decide)) u2 w2 u3 w3 u5 w5 (some (sR y671)) rfl
    · refine g2_int qk112_2.1.1.1.1.2.1 (1 : Int) rfl ?_
      refine g2_iadd qk112_2.1.1.1.1.2.2 ?_
      refine g2_istore qk112_2.1.1.1.2.1.1 w5 (loc2 := [some (sR v0), some (sR v1), u2, u3, some (sI v4), u5, some (sI (w32 (v6 + (1 : Int)))), some (sR v7), some (sR v8), some (sR y671)]) rfl ?_
      refine g2_goto qk112_2.1.1.1.2.1.2 ?_
      exact HX310 (w32 (v6 + (1 : Int))) (inR_w32 _) S679 m681 (ek e682 (ek e675 (ek e662 hK0 (by decide)) (by decide)) (by decide)) u2 w2 u3 w3 u5 w5 (some (sR y671)) rfl
theorem tl112_310 {κ : CX} (hQ : κ.2.2.2.2.2.2.2.2.2 = (ql_I, ql_P)) {n0 s0 : Int} {d : Nat} (hd : 70 ≤ d) {v0 v1 v4 v7 v8 : Int} (h0 : RfO v0) (h1 : RfO v1) (h4 : InR v4) (h7 : RfO v7) (h8 : RfO v8) : ∀ n : Nat, ∀ (v6 : Int) (h6 : InR v6) (S : sS) (hW : WF2 κ S) (hK0 : sK S v0 = 8) (u2 : Option ev_V) (w2 : nwo u2) (u3 : Option ev_V) (w3 : nwo u3) (u5 : Option ev_V) (w5 : nwo u5) (u9 : Option ev_V) (w9 : nwo u9), G2 κ ql_i112 ql_m112 3 d n0 s0 (l112_310 v0 v1 v4 v7 v8 n v6 S) 310 [some (sR v0), some (sR v1), u2, u3, some (sI v4), u5, some (sI v6), some (sR v7), some (sR v8), u9] [] S := by
  intro n
  induction n with
  | zero =>
    intro v6 h6 S hW hK0 u2 w2 u3 w3 u5 w5 u9 w9
    exact g2_none
  | succ n ih =>
    exact tb112_310 hQ hd h0 h1 h4 h7 h8 ih
noncomputable def b112_270 (v0 : Int) (v1 : Int) (v4 : Int) (v6 : Int) (v7 : Int) (v8 : Int) (X270 : sS → Option (Int × sS)) (S : sS) : Option (Int × sS) :=
  if sK S v8 = 10 then bdS (q137_hasNext S v8) (fun y634 S635 => if y634 = 0 then (if sK S635 v7 = 9 then bdS (q136_iterator S635 v7) (fun y642 S643 => l112_310 v0 v1 v4 v7 y642 fu v6 S643) else none) else (bdS (q139_next S635 v8) (fun y647 S648 => if y647 = -1 ∨ sK S648 y647 = 7 then if sK S648 y647 = 7 then bnd (uS S648 y647 11 (1 : Int)) (fun S654 => X270 S654) else none else none))) else none
noncomputable def l112_270 (v0 : Int) (v1 : Int) (v4 : Int) (v6 : Int) (v7 : Int) (v8 : Int) (n : Nat) : sS → Option (Int × sS) := Nat.rec (motive := fun _ => sS → Option (Int × sS)) (fun _ => none) (fun _ ih => b112_270 v0 v1 v4 v6 v7 v8 ih) n
theorem tb112_270 {κ : CX} (hQ : κ.2.2.2.2.2.2.2.2.2 = (ql_I, ql_P)) {n0 s0 : Int} {d : Nat} (hd : 70 ≤ d) {v0 v1 v4 v6 v7 v8 : Int} (h0 : RfO v0) (h1 : RfO v1) (h4 : InR v4) (h6 : B01 v6) (h7 : RfO v7) (h8 : RfO v8) {X270 : sS → Option (Int × sS)} (HX270 : ∀ (S : sS) (hW : WF2 κ S) (hK0 : sK S v0 = 8) (u2 : Option ev_V) (w2 : nwo u2) (u3 : Option ev_V) (w3 : nwo u3) (u5 : Option ev_V) (w5 : nwo u5) (u9 : Option ev_V) (w9 : nwo u9), G2 κ ql_i112 ql_m112 3 d n0 s0 (X270 S) 270 [some (sR v0), some (sR v1), u2, u3, some (sI v4), u5, some (sI v6), some (sR v7), some (sR v8), u9] [] S) : ∀ (S : sS) (hW : WF2 κ S) (hK0 : sK S v0 = 8) (u2 : Option ev_V) (w2 : nwo u2) (u3 : Option ev_V) (w3 : nwo u3) (u5 : Option ev_V) (w5 : nwo u5) (u9 : Option ev_V) (w9 : nwo u9), G2 κ ql_i112 ql_m112 3 d n0 s0 (b112_270 v0 v1 v4 v6 v7 v8 X270 S) 270 [some (sR v0), some (sR v1), u2, u3, some (sI v4), u5, some (sI v6), some (sR v7), some (sR v8), u9] [] S := by
  intro S hW hK0 u2 w2 u3 w3 u5 w5 u9 w9
  unfold b112_270
  refine g2_aload qk112_1.2.1.1.1.2.1 rfl ?_
  refine g2_ck (fun q633 => ?_)
  refine g2_kn q633 (g2_callF (t' := 3) qk112_1.2.1.1.1.2.2 (by decide) (ql_ip137 hQ) rfl rfl rfl (by omega) hW (tq137_hasNext hQ (by omega) hW q633 h8) (fun y634 S635 x636 m637 e638 => ?_))
  refine g2_ifeq qk112_1.2.1.1.2.1.1 (inR_b x636) (fun c639 => ?_) (fun c640 => ?_)
  · refine g2_aload qk112_1.2.1.2.2.1.2 rfl ?_
    refine g2_ck (fun q641 => ?_)
    refine g2_kn q641 (g2_callF (t' := 2) qk112_1.2.1.2.2.2 (by decide) (ql_ip136 hQ) rfl rfl rfl (by omega) m637 (tq136_iterator hQ (by omega) m637 q641 h7) (fun y642 S643 x644 m645 e646 => ?_))
    refine g2_astore qk112_1.2.2.1.1.1.1 rfl (loc2 := [some (sR v0), some (sR v1), u2, u3, some (sI v4), u5, some (sI v6), some (sR v7), some (sR y642), u9]) rfl ?_
    exact tl112_310 hQ hd h0 h1 h4 h7 x644 fu v6 (inR_b h6) S643 m645 (ek e646 (ek e638 hK0 (by decide)) (by decide)) u2 w2 u3 w3 u5 w5 u9 w9
  · refine g2_aload qk112_1.2.1.1.2.1.2 rfl ?_
    refine g2_kn (ek e638 q633 (by decide)) (g2_callF (t' := 2) qk112_1.2.1.1.2.2.1 (by decide) (ql_ip139 hQ) rfl rfl rfl (by omega) m637 (tq139_next hQ (by omega) m637 (ek e638 q633 (by decide)) h8) (fun y647 S648 x649 m650 e651 => ?_))
    refine g2_ck (fun q652 => ?_)
    refine g2_kn q652 (g2_cast7 qk112_1.2.1.1.2.2.2 m650 x649 ?_)
    refine g2_astore qk112_1.2.1.2.1.1.1 rfl (loc2 := [some (sR v0), some (sR v1), u2, u3, some (sI v4), u5, some (sI v6), some (sR v7), some (sR v8), some (sR y647)]) rfl ?_
    refine g2_aload qk112_1.2.1.2.1.1.2 rfl ?_
    refine g2_int qk112_1.2.1.2.1.2.1 (1 : Int) rfl ?_
    refine g2_ck (fun q653 => ?_)
    refine g2_kn ⟨q653, x649.2⟩ (g2_putB qk112_1.2.1.2.1.2.2 m650 ⟨by decide, by decide, rfl⟩ (Or.inr rfl) (fun S654 m655 e656 => ?_))
    refine g2_goto qk112_1.2.1.2.2.1.1 ?_
    exact HX270 S654 m655 (ek e656 (ek e651 (ek e638 hK0 (by decide)) (by decide)) (by decide)) u2 w2 u3 w3 u5 w5 (some (sR y647)) rfl
theorem tl112_270 {κ : CX} (hQ : κ.2.2.2.2.2.2.2.2.2 = (ql_I, ql_P)) {n0 s0 : Int} {d : Nat} (hd : 70 ≤ d) {v0 v1 v4 v6 v7 v8 : Int} (h0 : RfO v0) (h1 : RfO v1) (h4 : InR v4) (h6 : B01 v6) (h7 : RfO v7) (h8 : RfO v8) : ∀ n : Nat, ∀ (S : sS) (hW : WF2 κ S) (hK0 : sK S v0 = 8) (u2 : Option ev_V) (w2 : nwo u2) (u3 : Option ev_V) (w3 : nwo u3) (u5 : Option ev_V) (w5 : nwo u5) (u9 : Option ev_V) (w9 : nwo u9), G2 κ ql_i112 ql_m112 3 d n0 s0 (l112_270 v0 v1 v4 v6 v7 v8 n S) 270 [some (sR v0), some (sR v1), u2, u3, some (sI v4), u5, some (sI v6), some (sR v7), some (sR v8), u9] [] S := by
  intro n
  induction n with
  | zero =>
    intro S hW hK0 u2 w2 u3 w3 u5 w5 u9 w9
    exact g2_none
  | succ n ih =>
    exact tb112_270 hQ hd h0 h1 h4 h6 h7 h8 ih
noncomputable def b112_200 (v0 : Int) (v1 : Int) (v4 : Int) (v6 : Int) (v7 : Int) (v8 : Int) (X200 : sS → Option (Int × sS)) (S : sS) : Option (Int × sS) :=
  if sK S v8 = 10 then bdS (q137_hasNext S v8) (fun y595 S596 => if y595 = 0 then (if sK S596 v7 = 9 then bdS (q136_iterator S596 v7) (fun y603 S604 => l112_270 v0 v1 v4 v6 v7 y603 fu S604) else none) else (bdS (q139_next S596 v8) (fun y608 S609 => if y608 = -1 ∨ sK S609 y608 = 7 then if sK S609 y608 = 7 then bnd (sg S609 y608 7) (fun r615 => if r615 = 0 then (bnd (sg S609 y608 0) (fun r619 => if 0 < r619 then (bnd (sg S609 y608 1) (fun r623 => if r623 = v4 then (if sK S609 v7 = 9 then bdS (q129_add S609 v7 y608) (fun y628 S629 => X200 S629) else none) else (X200 S609))) else (X200 S609))) else (X200 S609)) else none else none))) else none
noncomputable def l112_200 (v0 : Int) (v1 : Int) (v4 : Int) (v6 : Int) (v7 : Int) (v8 : Int) (n : Nat) : sS → Option (Int × sS) := Nat.rec (motive := fun _ => sS → Option (Int × sS)) (fun _ => none) (fun _ ih => b112_200 v0 v1 v4 v6 v7 v8 ih) n
theorem tb112_200 {κ : CX} (hQ : κ.2.2.2.2.2.2.2.2.2 = (ql_I, ql_P)) {n0 s0 : Int} {d : Nat} (hd : 70 ≤ d) {v0 v1 v4 v6 v7 v8 : Int} (h0 : RfO v0) (h1 : RfO v1) (h4 : InR v4) (h6 : B01 v6) (h7 : RfO v7) (h8 : RfO v8) {X200 : sS → Option (Int × sS)} (HX200 : ∀ (S : sS) (hW : WF2 κ S) (hK0 : sK S v0 = 8) (u2 : Option ev_V) (w2 : nwo u2) (u3 : Option ev_V) (w3 : nwo u3) (u5 : Option ev_V) (w5 : nwo u5) (u9 : Option ev_V) (w9 : nwo u9), G2 κ ql_i112 ql_m112 3 d n0 s0 (X200 S) 200 [some (sR v0), some (sR v1), u2, u3, some (sI v4), u5, some (sI v6), some (sR v7), some (sR v8), u9] [] S) : ∀ (S : sS) (hW : WF2 κ S) (hK0 : sK S v0 = 8) (u2 : Option ev_V) (w2 : nwo u2) (u3 : Option ev_V) (w3 : nwo u3) (u5 : Option ev_V) (w5 : nwo u5) (u9 : Option ev_V) (w9 : nwo u9), G2 κ ql_i112 ql_m112 3 d n0 s0 (b112_200 v0 v1 v4 v6 v7 v8 X200 S) 200 [some (sR v0), some (sR v1), u2, u3, some (sI v4), u5, some (sI v6), some (sR v7), some (sR v8), u9] [] S := by
  intro S hW hK0 u2 w2 u3 w3 u5 w5 u9 w9
  unfold b112_200
  refine g2_aload qk112_1.1.1.1.2.2.1 rfl ?_
  refine g2_ck (fun q594 => ?_)
  refine g2_kn q594 (g2_callF (t' := 3) qk112_1.1.1.1.2.2.2 (by decide) (ql_ip137 hQ) rfl rfl rfl (by omega) hW (tq137_hasNext hQ (by omega) hW q594 h8) (fun y595 S596 x597 m598 e599 => ?_))
  refine g2_ifeq qk112_1.1.1.2.1.1.1 (inR_b x597) (fun c600 => ?_) (fun c601 => ?_)
  · refine g2_aload qk112_1.1.2.2.2.2 rfl ?_
    refine g2_ck (fun q602 => ?_)
    refine g2_kn q602 (g2_callF (t' := 2) qk112_1.2.1.1.1.1.1 (by decide) (ql_ip136 hQ) rfl rfl rfl (by omega) m598 (tq136_iterator hQ (by omega) m598 q602 h7) (fun y603 S604 x605 m606 e607 => ?_))
    refine g2_astore qk112_1.2.1.1.1.1.2 rfl (loc2 := [some (sR v0), some (sR v1), u2, u3, some (sI v4), u5, some (sI v6), some (sR v7), some (sR y603), u9]) rfl ?_
    exact tl112_270 hQ hd h0 h1 h4 h6 h7 x605 fu S604 m606 (ek e607 (ek e599 hK0 (by decide)) (by decide)) u2 w2 u3 w3 u5 w5 u9 w9
  · refine g2_aload qk112_1.1.1.2.1.1.2 rfl ?_
    refine g2_kn (ek e599 q594 (by decide)) (g2_callF (t' := 2) qk112_1.1.1.2.1.2.1 (by decide) (ql_ip139 hQ) rfl rfl rfl (by omega) m598 (tq139_next hQ (by omega) m598 (ek e599 q594 (by decide)) h8) (fun y608 S609 x610 m611 e612 => ?_))
    refine g2_ck (fun q613 => ?_)
    refine g2_kn q613 (g2_cast7 qk112_1.1.1.2.1.2.2 m611 x610 ?_)
    refine g2_astore qk112_1.1.1.2.2.1.1 rfl (loc2 := [some (sR v0), some (sR v1), u2, u3, some (sI v4), u5, some (sI v6), some (sR v7), some (sR v8), some (sR y608)]) rfl ?_
    refine g2_aload qk112_1.1.1.2.2.1.2 rfl ?_
    refine g2_ck (fun q614 => ?_)
    refine g2_kn q614 (g2_getI qk112_1.1.1.2.2.2 m611 ⟨by decide, by decide, by decide, rfl⟩ (fun r615 x616 => ?_))
    refine g2_ifeq qk112_1.1.2.1.1.1.1 x616 (fun c617 => ?_) (fun c618 => ?_)
    · refine g2_aload qk112_1.1.2.1.1.1.2 rfl ?_
      refine g2_kn q614 (g2_getI qk112_1.1.2.1.1.2.1 m611 ⟨by decide, by decide, by decide, rfl⟩ (fun r619 x620 => ?_))
      refine g2_ifgt qk112_1.1.2.1.1.2.2 x620 (fun c621 => ?_) (fun c622 => ?_)
      · refine g2_aload qk112_1.1.2.1.2.1.1 rfl ?_
        refine g2_kn q614 (g2_getI qk112_1.1.2.1.2.1.2 m611 ⟨by decide, by decide, by decide, rfl⟩ (fun r623 x624 => ?_))
        refine g2_iload qk112_1.1.2.1.2.2 rfl ?_
        refine g2_cmeq qk112_1.1.2.2.1.1.1 x624 h4 (fun c625 => ?_) (fun c626 => ?_)
        · refine g2_aload qk112_1.1.2.2.1.1.2 rfl ?_
          refine g2_aload qk112_1.1.2.2.1.2.1 rfl ?_
          refine g2_ck (fun q627 => ?_)
          refine g2_kn q627 (g2_callF (t' := 3) qk112_1.1.2.2.1.2.2 (by decide) (ql_ip129 hQ) rfl rfl rfl (by omega) m611 (tq129_add hQ (by omega) m611 q627 h7 x610) (fun y628 S629 x630 m631 e632 => ?_))
          refine g2_popI qk112_1.1.2.2.2.1.1 ?_
          refine g2_goto qk112_1.1.2.2.2.1.2 ?_
          exact HX200 S629 m631 (ek e632 (ek e612 (ek e599 hK0 (by decide)) (by decide)) (by decide)) u2 w2 u3 w3 u5 w5 (some (sR y608)) rfl
        · refine g2_goto qk112_1.1.2.2.2.1.2 ?_
          exact HX200 S609 m611 (ek e612 (ek e599 hK0 (by decide)) (by decide)) u2 w2 u3 w3 u5 w5 (some (sR y608)) rfl
      · refine g2_goto qk112_1.1.2.2.2.1.2 ?_
        exact HX200 S609 m611 (ek e612 (ek e599 hK0 (by decide)) (by decide)) u2 w2 u3 w3 u5 w5 (some (sR y608)) rfl
    · refine g2_goto qk112_1.1.2.2.2.1.2 ?_
      exact HX200 S609 m611 (ek e612 (ek e599 hK0 (by decide)) (by decide)) u2 w2 u3 w3 u5 w5 (some (sR y608)) rfl
theorem tl112_200 {κ : CX} (hQ : κ.2.2.2.2.2.2.2.2.2 = (ql_I, ql_P)) {n0 s0 : Int} {d : Nat} (hd : 70 ≤ d) {v0 v1 v4 v6 v7 v8 : Int} (h0 : RfO v0) (h1 : RfO v1) (h4 : InR v4) (h6 : B01 v6) (h7 : RfO v7) (h8 : RfO v8) : ∀ n : Nat, ∀ (S : sS) (hW : WF2 κ S) (hK0 : sK S v0 = 8) (u2 : Option ev_V) (w2 : nwo u2) (u3 : Option ev_V) (w3 : nwo u3) (u5 : Option ev_V) (w5 : nwo u5) (u9 : Option ev_V) (w9 : nwo u9), G2 κ ql_i112 ql_m112 3 d n0 s0 (l112_200 v0 v1 v4 v6 v7 v8 n S) 200 [some (sR v0), some (sR v1), u2, u3, some (sI v4), u5, some (sI v6), some (sR v7), some (sR v8), u9] [] S := by
  intro n
  induction n with
  | zero =>
    intro S hW hK0 u2 w2 u3 w3 u5 w5 u9 w9
    exact g2_none
  | succ n ih =>
    exact tb112_200 hQ hd h0 h1 h4 h6 h7 h8 ih
noncomputable def j112_602 (v1 : Int) (v3 : Int) (v4 : Int) (v6 : Int) (S : sS) : Option (Int × sS) :=
  if sK S v3 = 7 then bnd (sg S v3 0) (fun r744 => if v1 = sb S ∧ 0 ≤ v1 then bdC (fT) (fC_refuse (sc S) 0 r744 v4) (fun y747 c748 => bnd (cS S c748) (fun S749 => if y747 = v6 then (some ((1 : Int), S749)) else (some ((0 : Int), S749)))) else none) else none
theorem tj112_602 {κ : CX} (hQ : κ.2.2.2.2.2.2.2.2.2 = (ql_I, ql_P)) {n0 s0 : Int} {d : Nat} (hd : 70 ≤ d) {v1 v3 v4 v6 : Int} (h1 : RfO v1) (h3 : RfO v3) (h4 : InR v4) (h6 : InR v6) (S : sS) (hW : WF2 κ S) (u0 : Option ev_V) (w0 : nwo u0) (u2 : Option ev_V) (w2 : nwo u2) (u5 : Option ev_V) (w5 : nwo u5) (u7 : Option ev_V) (w7 : nwo u7) (u8 : Option ev_V) (w8 : nwo u8) (u9 : Option ev_V) (w9 : nwo u9) : G2 κ ql_i112 ql_m112 3 d n0 s0 (j112_602 v1 v3 v4 v6 S) 602 [u0, some (sR v1), u2, some (sR v3), some (sI v4), u5, some (sI v6), u7, u8, u9] [] S := by
  unfold j112_602
  refine g2_aload qk112_4.1.1.1.2.2.1 rfl ?_
  refine g2_aload qk112_4.1.1.1.2.2.2 rfl ?_
  refine g2_ck (fun q743 => ?_)
  refine g2_kn q743 (g2_getI qk112_4.1.1.2.1.1.1 hW ⟨by decide, by decide, by decide, rfl⟩ (fun r744 x745 => ?_))
  refine g2_iload qk112_4.1.1.2.1.1.2 rfl ?_
  refine g2_ck (fun q746 => ?_)
  refine g2_kn q746 (g2_callC (t' := 1) (Is := [r744, v4]) qk112_4.1.1.2.1.2.1 (by decide) rfl rfl (by omega) hW (Or.inl rfl) (by decide) ⟨rfl, rfl⟩ (tfC_refuse (by omega) hW.1.2 kd_c0 x745 h4) (fun y747 S749 x750 m751 e752 => ?_))
  refine g2_iload qk112_4.1.1.2.1.2.2 rfl ?_
  refine g2_cmeq qk112_4.1.1.2.2.1.1 x750 h6 (fun c753 => ?_) (fun c754 => ?_)
  · refine g2_int qk112_4.1.1.2.2.1.2 (1 : Int) rfl ?_
    refine g2_goto qk112_4.1.1.2.2.2 ?_
    exact g2_zret qk112_4.1.2.1.1.1.2 m751 (Or.inr rfl)
  · refine g2_int qk112_4.1.2.1.1.1.1 (0 : Int) rfl ?_
    exact g2_zret qk112_4.1.2.1.1.1.2 m751 (Or.inl rfl)
noncomputable def b112_548 (v0 : Int) (v1 : Int) (v3 : Int) (v4 : Int) (v7 : Int) (X548 : Int → sS → Option (Int × sS)) (v6 : Int) (S : sS) : Option (Int × sS) :=
  if sK S v7 = 10 then bdS (q137_hasNext S v7) (fun y713 S714 => if y713 = 0 then (j112_602 v1 v3 v4 v6 S714) else (bdS (q139_next S714 v7) (fun y720 S721 => if y720 = -1 ∨ sK S721 y720 = 7 then if sK S721 y720 = 7 then bnd (sg S721 y720 1) (fun r727 => if r727 = v4 then (if sK S721 v3 = 7 then bdS (q106_adopter S721 v0 y720 v3) (fun y732 S733 => if sK S733 y732 = 7 then bdS (q107_adopt S733 v0 y732 y720) (fun y738 S739 => X548 (w32 (v6 + (1 : Int))) S739) else none) else none) else (X548 v6 S721)) else none else none))) else none
noncomputable def l112_548 (v0 : Int) (v1 : Int) (v3 : Int) (v4 : Int) (v7 : Int) (n : Nat) : Int → sS → Option (Int × sS) := Nat.rec (motive := fun _ => Int → sS → Option (Int × sS)) (fun _ _ => none) (fun _ ih => b112_548 v0 v1 v3 v4 v7 ih) n
theorem tb112_548 {κ : CX} (hQ : κ.2.2.2.2.2.2.2.2.2 = (ql_I, ql_P)) {n0 s0 : Int} {d : Nat} (hd : 70 ≤ d) {v0 v1 v3 v4 v7 : Int} (h0 : RfO v0) (h1 : RfO v1) (h3 : RfO v3) (h4 : InR v4) (h7 : RfO v7) {X548 : Int → sS → Option (Int × sS)} (HX548 : ∀ (v6 : Int) (h6 : InR v6) (S : sS) (hW : WF2 κ S) (hK0 : sK S v0 = 8) (u2 : Option ev_V) (w2 : nwo u2) (u5 : Option ev_V) (w5 : nwo u5) (u8 : Option ev_V) (w8 : nwo u8) (u9 : Option ev_V) (w9 : nwo u9), G2 κ ql_i112 ql_m112 3 d n0 s0 (X548 v6 S) 548 [some (sR v0), some (sR v1), u2, some (sR v3), some (sI v4), u5, some (sI v6), some (sR v7), u8, u9] [] S) : ∀ (v6 : Int) (h6 : InR v6) (S : sS) (hW : WF2 κ S) (hK0 : sK S v0 = 8) (u2 : Option ev_V) (w2 : nwo u2) (u5 : Option ev_V) (w5 : nwo u5) (u8 : Option ev_V) (w8 : nwo u8) (u9 : Option ev_V) (w9 : nwo u9), G2 κ ql_i112 ql_m112 3 d n0 s0 (b112_548 v0 v1 v3 v4 v7 X548 v6 S) 548 [some (sR v0), some (sR v1), u2, some (sR v3), some (sI v4), u5, some (sI v6), some (sR v7), u8, u9] [] S := by
  intro v6 h6 S hW hK0 u2 w2 u5 w5 u8 w8 u9 w9
  unfold b112_548
  refine g2_aload qk112_3.2.1.2.2.2 rfl ?_
  refine g2_ck (fun q712 => ?_)
  refine g2_kn q712 (g2_callF (t' := 3) qk112_3.2.2.1.1.1.1 (by decide) (ql_ip137 hQ) rfl rfl rfl (by omega) hW (tq137_hasNext hQ (by omega) hW q712 h7) (fun y713 S714 x715 m716 e717 => ?_))
  refine g2_ifeq qk112_3.2.2.1.1.1.2 (inR_b x715) (fun c718 => ?_) (fun c719 => ?_)
  · exact tj112_602 hQ hd h1 h3 h4 h6 S714 m716 (some (sR v0)) rfl u2 w2 u5 w5 (some (sR v7)) rfl u8 w8 u9 w9
  · refine g2_aload qk112_3.2.2.1.1.2.1 rfl ?_
    refine g2_kn (ek e717 q712 (by decide)) (g2_callF (t' := 2) qk112_3.2.2.1.1.2.2 (by decide) (ql_ip139 hQ) rfl rfl rfl (by omega) m716 (tq139_next hQ (by omega) m716 (ek e717 q712 (by decide)) h7) (fun y720 S721 x722 m723 e724 => ?_))
    refine g2_ck (fun q725 => ?_)
    refine g2_kn q725 (g2_cast7 qk112_3.2.2.1.2.1.1 m723 x722 ?_)
    refine g2_astore qk112_3.2.2.1.2.1.2 rfl (loc2 := [some (sR v0), some (sR v1), u2, some (sR v3), some (sI v4), u5, some (sI v6), some (sR v7), some (sR y720), u9]) rfl ?_
    refine g2_aload qk112_3.2.2.1.2.2 rfl ?_
    refine g2_ck (fun q726 => ?_)
    refine g2_kn q726 (g2_getI qk112_3.2.2.2.1.1.1 m723 ⟨by decide, by decide, by decide, rfl⟩ (fun r727 x728 => ?_))
    refine g2_iload qk112_3.2.2.2.1.1.2 rfl ?_
    refine g2_cmeq qk112_3.2.2.2.1.2.1 x728 h4 (fun c729 => ?_) (fun c730 => ?_)
    · refine g2_aload qk112_3.2.2.2.2.1.1 rfl ?_
      refine g2_aload qk112_3.2.2.2.2.1.2 rfl ?_
      refine g2_aload qk112_3.2.2.2.2.2 rfl ?_
      refine g2_aload qk112_4.1.1.1.1.1.1 rfl ?_
      refine g2_ck (fun q731 => ?_)
      refine g2_kn (ek e724 (ek e717 hK0 (by decide)) (by decide)) (g2_callV (t' := 2) qk112_4.1.1.1.1.1.2 (by decide) (ql_ip106 hQ) (by decide) rfl rfl rfl (by omega) m723 (tq106_adopter hQ (by omega) m723 (ek e724 (ek e717 hK0 (by decide)) (by decide)) q726 q731 h0 x722 h3) (fun y732 S733 x734 m735 e736 => ?_))
      refine g2_aload qk112_4.1.1.1.1.2.1 rfl ?_
      refine g2_ck (fun q737 => ?_)
      refine g2_kn (ek e736 (ek e724 (ek e717 hK0 (by decide)) (by decide)) (by decide)) (g2_callV (t' := 0) qk112_4.1.1.1.1.2.2 (by decide) (ql_ip107 hQ) (by decide) rfl rfl rfl (by omega) m735 (tq107_adopt hQ (by omega) m735 (ek e736 (ek e724 (ek e717 hK0 (by decide)) (by decide)) (by decide)) q737 (ek e736 q726 (by decide)) h0 x734 x722) (fun y738 S739 x740 m741 e742 => ?_))
      refine g2_iinc qk112_4.1.1.1.2.1.1 rfl w5 (1 : Int) rfl (loc2 := [some (sR v0), some (sR v1), u2, some (sR v3), some (sI v4), u5, some (sI (w32 (v6 + (1 : Int)))), some (sR v7), some (sR y720), u9]) rfl ?_
      refine g2_goto qk112_4.1.1.1.2.1.2 ?_
      exact HX548 (w32 (v6 + (1 : Int))) (inR_w32 _) S739 m741 (ek e742 (ek e736 (ek e724 (ek e717 hK0 (by decide)) (by decide)) (by decide)) (by decide)) u2 w2 u5 w5 (some (sR y720)) rfl u9 w9
    · refine g2_goto qk112_3.2.2.2.1.2.2 ?_
      exact HX548 v6 h6 S721 m723 (ek e724 (ek e717 hK0 (by decide)) (by decide)) u2 w2 u5 w5 (some (sR y720)) rfl u9 w9
theorem tl112_548 {κ : CX} (hQ : κ.2.2.2.2.2.2.2.2.2 = (ql_I, ql_P)) {n0 s0 : Int} {d : Nat} (hd : 70 ≤ d) {v0 v1 v3 v4 v7 : Int} (h0 : RfO v0) (h1 : RfO v1) (h3 : RfO v3) (h4 : InR v4) (h7 : RfO v7) : ∀ n : Nat, ∀ (v6 : Int) (h6 : InR v6) (S : sS) (hW : WF2 κ S) (hK0 : sK S v0 = 8) (u2 : Option ev_V) (w2 : nwo u2) (u5 : Option ev_V) (w5 : nwo u5) (u8 : Option ev_V) (w8 : nwo u8) (u9 : Option ev_V) (w9 : nwo u9), G2 κ ql_i112 ql_m112 3 d n0 s0 (l112_548 v0 v1 v3 v4 v7 n v6 S) 548 [some (sR v0), some (sR v1), u2, some (sR v3), some (sI v4), u5, some (sI v6), some (sR v7), u8, u9] [] S := by
  intro n
  induction n with
  | zero =>
    intro v6 h6 S hW hK0 u2 w2 u5 w5 u8 w8 u9 w9
    exact g2_none
  | succ n ih =>
    exact tb112_548 hQ hd h0 h1 h3 h4 h7 ih
noncomputable def j112_650 (v1 : Int) (v3 : Int) (v4 : Int) (a0 : Int) (S : sS) : Option (Int × sS) :=
  if sK S v3 = 7 then bnd (sg S v3 9) (fun r756 => bnd (uS S v3 9 (opI 1 r756 (opI 3 (opI 4 (1 : Int) v4) (-1 : Int)))) (fun S758 => bnd (sg S758 v3 0) (fun r761 => if v1 = sb S758 ∧ 0 ≤ v1 then bdC (fT) (fC_accept (sc S758) 0 r761 v4) (fun y764 c765 => bnd (cS S758 c765) (fun S766 => if y764 = a0 then (some ((1 : Int), S766)) else (some ((0 : Int), S766)))) else none))) else none
theorem tj112_650 {κ : CX} (hQ : κ.2.2.2.2.2.2.2.2.2 = (ql_I, ql_P)) {n0 s0 : Int} {d : Nat} (hd : 70 ≤ d) {v1 v3 v4 : Int} {a0 : Int} (h1 : RfO v1) (h3 : RfO v3) (h4 : InR v4) (z0 : B01 a0) (S : sS) (hW : WF2 κ S) (u0 : Option ev_V) (w0 : nwo u0) (u2 : Option ev_V) (w2 : nwo u2) (u5 : Option ev_V) (w5 : nwo u5) (u6 : Option ev_V) (w6 : nwo u6) (u7 : Option ev_V) (w7 : nwo u7) (u8 : Option ev_V) (w8 : nwo u8) (u9 : Option ev_V) (w9 : nwo u9) : G2 κ ql_i112 ql_m112 3 d n0 s0 (j112_650 v1 v3 v4 a0 S) 650 [u0, some (sR v1), u2, some (sR v3), some (sI v4), u5, u6, u7, u8, u9] [(sI a0)] S := by
  unfold j112_650
  refine g2_istore qk112_4.2.1.1.2.1.1 w5 (loc2 := [u0, some (sR v1), u2, some (sR v3), some (sI v4), u5, some (sI a0), u7, u8, u9]) rfl ?_
  refine g2_aload qk112_4.2.1.1.2.1.2 rfl ?_
  refine g2_dupR qk112_4.2.1.1.2.2 ?_
  refine g2_ck (fun q755 => ?_)
  refine g2_kn q755 (g2_getI qk112_4.2.1.2.1.1.1 hW ⟨by decide, by decide, by decide, rfl⟩ (fun r756 x757 => ?_))
  refine g2_int qk112_4.2.1.2.1.1.2 (1 : Int) rfl ?_
  refine g2_iload qk112_4.2.1.2.1.2.1 rfl ?_
  refine g2_ibin qk112_4.2.1.2.1.2.2 ?_
  refine g2_int qk112_4.2.1.2.2.1.1 (-1 : Int) rfl ?_
  refine g2_ibin qk112_4.2.1.2.2.1.2 ?_
  refine g2_ibin qk112_4.2.1.2.2.2 ?_
  refine g2_kn ⟨q755, h3.2⟩ (g2_putI qk112_4.2.2.1.1.1.1 hW ⟨by decide, by decide, rfl⟩ (inR_opI _ _ _) (fun S758 m759 e760 => ?_))
  refine g2_aload qk112_4.2.2.1.1.1.2 rfl ?_
  refine g2_aload qk112_4.2.2.1.1.2.1 rfl ?_
  refine g2_kn (ek e760 q755 (by decide)) (g2_getI qk112_4.2.2.1.1.2.2 m759 ⟨by decide, by decide, by decide, rfl⟩ (fun r761 x762 => ?_))
  refine g2_iload qk112_4.2.2.1.2.1.1 rfl ?_
  refine g2_ck (fun q763 => ?_)
  refine g2_kn q763 (g2_callC (t' := 3) (Is := [r761, v4]) qk112_4.2.2.1.2.1.2 (by decide) rfl rfl (by omega) m759 (Or.inr rfl) (by decide) ⟨rfl, rfl⟩ (tfC_accept (by omega) m759.1.2 kd_c0 x762 h4) (fun y764 S766 x767 m768 e769 => ?_))
  refine g2_iload qk112_4.2.2.1.2.2 rfl ?_
  refine g2_cmeq qk112_4.2.2.2.1.1.1 (inR_b x767) (inR_b z0) (fun c770 => ?_) (fun c771 => ?_)
  · refine g2_int qk112_4.2.2.2.1.1.2 (1 : Int) rfl ?_
    refine g2_goto qk112_4.2.2.2.1.2.1 ?_
    exact g2_zret qk112_4.2.2.2.2.1.1 m768 (Or.inr rfl)
  · refine g2_int qk112_4.2.2.2.1.2.2 (0 : Int) rfl ?_
    exact g2_zret qk112_4.2.2.2.2.1.1 m768 (Or.inl rfl)
noncomputable def j112_829 (v1 : Int) (v3 : Int) (v6 : Int) (a0 : Int) (S : sS) : Option (Int × sS) :=
  if sK S v3 = 7 then bnd (uS S v3 3 v6) (fun S773 => bnd (sg S773 v3 0) (fun r776 => if sK S773 v6 = 7 then bnd (sg S773 v6 0) (fun r779 => if v1 = sb S773 ∧ 0 ≤ v1 then bdC (fT) (fC_setHeir (sc S773) 0 r776 r779) (fun y782 c783 => bnd (cS S773 c783) (fun S784 => if y782 = a0 then (some ((1 : Int), S784)) else (some ((0 : Int), S784)))) else none) else none)) else none
theorem tj112_829 {κ : CX} (hQ : κ.2.2.2.2.2.2.2.2.2 = (ql_I, ql_P)) {n0 s0 : Int} {d : Nat} (hd : 70 ≤ d) {v1 v3 v6 : Int} {a0 : Int} (h1 : RfO v1) (h3 : RfO v3) (h6 : RfO v6) (z0 : InR a0) (S : sS) (hW : WF2 κ S) (u0 : Option ev_V) (w0 : nwo u0) (u2 : Option ev_V) (w2 : nwo u2) (u4 : Option ev_V) (w4 : nwo u4) (u5 : Option ev_V) (w5 : nwo u5) (u7 : Option ev_V) (w7 : nwo u7) (u8 : Option ev_V) (w8 : nwo u8) (u9 : Option ev_V) (w9 : nwo u9) : G2 κ ql_i112 ql_m112 3 d n0 s0 (j112_829 v1 v3 v6 a0 S) 829 [u0, some (sR v1), u2, some (sR v3), u4, u5, some (sR v6), u7, u8, u9] [(sI a0)] S := by
  unfold j112_829
  refine g2_istore qk112_6.1.1.2.1.1.2 rfl (loc2 := [u0, some (sR v1), u2, some (sR v3), u4, u5, some (sR v6), some (sI a0), u8, u9]) rfl ?_
  refine g2_aload qk112_6.1.1.2.1.2.1 rfl ?_
  refine g2_aload qk112_6.1.1.2.1.2.2 rfl ?_
  refine g2_ck (fun q772 => ?_)
  refine g2_kn ⟨q772, h3.2⟩ (g2_putR qk112_6.1.1.2.2.1.1 hW ⟨by decide, by decide, rfl⟩ h6 (fun S773 m774 e775 => ?_))
  refine g2_aload qk112_6.1.1.2.2.1.2 rfl ?_
  refine g2_aload qk112_6.1.1.2.2.2 rfl ?_
  refine g2_kn (ek e775 q772 (by decide)) (g2_getI qk112_6.1.2.1.1.1.1 m774 ⟨by decide, by decide, by decide, rfl⟩ (fun r776 x777 => ?_))
  refine g2_aload qk112_6.1.2.1.1.1.2 rfl ?_
  refine g2_ck (fun q778 => ?_)
  refine g2_kn q778 (g2_getI qk112_6.1.2.1.1.2.1 m774 ⟨by decide, by decide, by decide, rfl⟩ (fun r779 x780 => ?_))
  refine g2_ck (fun q781 => ?_)
  refine g2_kn q781 (g2_callC (t' := 1) (Is := [r776, r779]) qk112_6.1.2.1.1.2.2 (by decide) rfl rfl (by omega) m774 (Or.inl rfl) (by decide) ⟨rfl, rfl⟩ (tfC_setHeir (by omega) m774.1.2 kd_c0 x777 x780) (fun y782 S784 x785 m786 e787 => ?_))
  refine g2_iload qk112_6.1.2.1.2.1.1 rfl ?_
  refine g2_cmeq qk112_6.1.2.1.2.1.2 x785 z0 (fun c788 => ?_) (fun c789 => ?_)
  · refine g2_int qk112_6.1.2.1.2.2 (1 : Int) rfl ?_
    refine g2_goto qk112_6.1.2.2.1.1.1 ?_
    exact g2_zret qk112_6.1.2.2.1.2.1 m786 (Or.inr rfl)
  · refine g2_int qk112_6.1.2.2.1.1.2 (0 : Int) rfl ?_
    exact g2_zret qk112_6.1.2.2.1.2.1 m786 (Or.inl rfl)
noncomputable def j112_1147 (v1 : Int) (v3 : Int) (v6 : Int) (S : sS) : Option (Int × sS) :=
  if sK S v3 = 7 then bnd (sg S v3 0) (fun r824 => if v1 = sb S ∧ 0 ≤ v1 then bdC (fT) (fC_relieve (sc S) 0 r824) (fun y827 c828 => bnd (cS S c828) (fun S829 => if y827 = v6 then (some ((1 : Int), S829)) else (some ((0 : Int), S829)))) else none) else none
theorem tj112_1147 {κ : CX} (hQ : κ.2.2.2.2.2.2.2.2.2 = (ql_I, ql_P)) {n0 s0 : Int} {d : Nat} (hd : 70 ≤ d) {v1 v3 v6 : Int} (h1 : RfO v1) (h3 : RfO v3) (h6 : InR v6) (S : sS) (hW : WF2 κ S) (u0 : Option ev_V) (w0 : nwo u0) (u2 : Option ev_V) (w2 : nwo u2) (u4 : Option ev_V) (w4 : nwo u4) (u5 : Option ev_V) (w5 : nwo u5) (u7 : Option ev_V) (w7 : nwo u7) (u8 : Option ev_V) (w8 : nwo u8) (u9 : Option ev_V) (w9 : nwo u9) : G2 κ ql_i112 ql_m112 3 d n0 s0 (j112_1147 v1 v3 v6 S) 1147 [u0, some (sR v1), u2, some (sR v3), u4, u5, some (sI v6), u7, u8, u9] [] S := by
  unfold j112_1147
  refine g2_aload qk112_8.2.2.1.2.1.1 rfl ?_
  refine g2_aload qk112_8.2.2.1.2.1.2 rfl ?_
  refine g2_ck (fun q823 => ?_)
  refine g2_kn q823 (g2_getI qk112_8.2.2.1.2.2 hW ⟨by decide, by decide, by decide, rfl⟩ (fun r824 x825 => ?_))
  refine g2_ck (fun q826 => ?_)
  refine g2_kn q826 (g2_callC (t' := 1) (Is := [r824]) qk112_8.2.2.2.1.1.1 (by decide) rfl rfl (by omega) hW (Or.inl rfl) (by decide) ⟨rfl, rfl⟩ (tfC_relieve (by omega) hW.1.2 kd_c0 x825) (fun y827 S829 x830 m831 e832 => ?_))
  refine g2_iload qk112_8.2.2.2.1.1.2 rfl ?_
  refine g2_cmeq qk112_8.2.2.2.1.2.1 x830 h6 (fun c833 => ?_) (fun c834 => ?_)
  · refine g2_int qk112_8.2.2.2.1.2.2 (1 : Int) rfl ?_
    refine g2_goto qk112_8.2.2.2.2.1.1 ?_
    exact g2_zret qk112_8.2.2.2.2.2 m831 (Or.inr rfl)
  · refine g2_int qk112_8.2.2.2.2.1.2 (0 : Int) rfl ?_
    exact g2_zret qk112_8.2.2.2.2.2 m831 (Or.inl rfl)
noncomputable def b112_1091 (v0 : Int) (v1 : Int) (v3 : Int) (v7 : Int) (X1091 : Int → Int → sS → Option (Int × sS)) (v6 : Int) (v8 : Int) (S : sS) : Option (Int × sS) :=
  if v8 < 0 then (j112_1147 v1 v3 v6 S) else (if sK S v3 = 7 then bnd (sg S v3 5) (fun r793 => if v8 < r793 then (j112_1147 v1 v3 v6 S) else (if sK S v7 = 9 then bdS (q133_get S v7 v8) (fun y798 S799 => if y798 = -1 ∨ sK S799 y798 = 7 then if sK S799 y798 = 7 then bdS (q106_adopter S799 v0 y798 v3) (fun y805 S806 => bdS (q133_get S806 v7 v8) (fun y810 S811 => if y810 = -1 ∨ sK S811 y810 = 7 then if sK S811 y805 = 7 then if sK S811 y810 = 7 then bdS (q107_adopt S811 v0 y805 y810) (fun y818 S819 => X1091 (w32 (v6 + (1 : Int))) (w32 (v8 + (-1 : Int))) S819) else none else none else none)) else none else none) else none)) else none)
noncomputable def l112_1091 (v0 : Int) (v1 : Int) (v3 : Int) (v7 : Int) (n : Nat) : Int → Int → sS → Option (Int × sS) := Nat.rec (motive := fun _ => Int → Int → sS → Option (Int × sS)) (fun _ _ _ => none) (fun _ ih => b112_1091 v0 v1 v3 v7 ih) n
theorem tb112_1091 {κ : CX} (hQ : κ.2.2.2.2.2.2.2.2.2 = (ql_I, ql_P)) {n0 s0 : Int} {d : Nat} (hd : 70 ≤ d) {v0 v1 v3 v7 : Int} (h0 : RfO v0) (h1 : RfO v1) (h3 : RfO v3) (h7 : RfO v7) {X1091 : Int → Int → sS → Option (Int × sS)} (HX1091 : ∀ (v6 : Int) (h6 : InR v6) (v8 : Int) (h8 : InR v8) (S : sS) (hW : WF2 κ S) (hK0 : sK S v0 = 8) (u2 : Option ev_V) (w2 : nwo u2) (u4 : Option ev_V) (w4 : nwo u4) (u5 : Option ev_V) (w5 : nwo u5) (u9 : Option ev_V) (w9 : nwo u9), G2 κ ql_i112 ql_m112 3 d n0 s0 (X1091 v6 v8 S) 1091 [some (sR v0), some (sR v1), u2, some (sR v3), u4, u5, some (sI v6), some (sR v7), some (sI v8), u9] [] S) : ∀ (v6 : Int) (h6 : InR v6) (v8 : Int) (h8 : InR v8) (S : sS) (hW : WF2 κ S) (hK0 : sK S v0 = 8) (u2 : Option ev_V) (w2 : nwo u2) (u4 : Option ev_V) (w4 : nwo u4) (u5 : Option ev_V) (w5 : nwo u5) (u9 : Option ev_V) (w9 : nwo u9), G2 κ ql_i112 ql_m112 3 d n0 s0 (b112_1091 v0 v1 v3 v7 X1091 v6 v8 S) 1091 [some (sR v0), some (sR v1), u2, some (sR v3), u4, u5, some (sI v6), some (sR v7), some (sI v8), u9] [] S := by
  intro v6 h6 v8 h8 S hW hK0 u2 w2 u4 w4 u5 w5 u9 w9
  unfold b112_1091
  refine g2_iload qk112_8.1.2.2.2.1.1 rfl ?_
  refine g2_iflt qk112_8.1.2.2.2.1.2 h8 (fun c790 => ?_) (fun c791 => ?_)
  · exact tj112_1147 hQ hd h1 h3 h6 S hW (some (sR v0)) rfl u2 w2 u4 w4 u5 w5 (some (sR v7)) rfl (some (sI v8)) rfl u9 w9
  · refine g2_iload qk112_8.1.2.2.2.2 rfl ?_
    refine g2_aload qk112_8.2.1.1.1.1.1 rfl ?_
    refine g2_ck (fun q792 => ?_)
    refine g2_kn q792 (g2_getI qk112_8.2.1.1.1.1.2 hW ⟨by decide, by decide, by decide, rfl⟩ (fun r793 x794 => ?_))
    refine g2_cmlt qk112_8.2.1.1.1.2.1 h8 x794 (fun c795 => ?_) (fun c796 => ?_)
    · exact tj112_1147 hQ hd h1 h3 h6 S hW (some (sR v0)) rfl u2 w2 u4 w4 u5 w5 (some (sR v7)) rfl (some (sI v8)) rfl u9 w9
    · refine g2_aload qk112_8.2.1.1.1.2.2 rfl ?_
      refine g2_aload qk112_8.2.1.1.2.1.1 rfl ?_
      refine g2_aload qk112_8.2.1.1.2.1.2 rfl ?_
      refine g2_iload qk112_8.2.1.1.2.2.1 rfl ?_
      refine g2_ck (fun q797 => ?_)
      refine g2_kn q797 (g2_callF (t' := 2) qk112_8.2.1.1.2.2.2 (by decide) (ql_ip133 hQ) rfl rfl rfl (by omega) hW (tq133_get hQ (by omega) hW q797 h7 h8) (fun y798 S799 x800 m801 e802 => ?_))
      refine g2_ck (fun q803 => ?_)
      refine g2_kn q803 (g2_cast7 qk112_8.2.1.2.1.1.1 m801 x800 ?_)
      refine g2_aload qk112_8.2.1.2.1.1.2 rfl ?_
      refine g2_ck (fun q804 => ?_)
      refine g2_kn (ek e802 hK0 (by decide)) (g2_callV (t' := 2) qk112_8.2.1.2.1.2.1 (by decide) (ql_ip106 hQ) (by decide) rfl rfl rfl (by omega) m801 (tq106_adopter hQ (by omega) m801 (ek e802 hK0 (by decide)) q804 (ek e802 q792 (by decide)) h0 x800 h3) (fun y805 S806 x807 m808 e809 => ?_))
      refine g2_aload qk112_8.2.1.2.1.2.2 rfl ?_
      refine g2_iload qk112_8.2.1.2.2.1.1 rfl ?_
      refine g2_kn (ek e809 (ek e802 q797 (by decide)) (by decide)) (g2_callF (t' := 2) qk112_8.2.1.2.2.1.2 (by decide) (ql_ip133 hQ) rfl rfl rfl (by omega) m808 (tq133_get hQ (by omega) m808 (ek e809 (ek e802 q797 (by decide)) (by decide)) h7 h8) (fun y810 S811 x812 m813 e814 => ?_))
      refine g2_ck (fun q815 => ?_)
      refine g2_kn q815 (g2_cast7 qk112_8.2.1.2.2.2 m813 x812 ?_)
      refine g2_ck (fun q816 => ?_)
      refine g2_ck (fun q817 => ?_)
      refine g2_kn (ek e814 (ek e809 (ek e802 hK0 (by decide)) (by decide)) (by decide)) (g2_callV (t' := 0) qk112_8.2.2.1.1.1.1 (by decide) (ql_ip107 hQ) (by decide) rfl rfl rfl (by omega) m813 (tq107_adopt hQ (by omega) m813 (ek e814 (ek e809 (ek e802 hK0 (by decide)) (by decide)) (by decide)) q816 q817 h0 x807 x812) (fun y818 S819 x820 m821 e822 => ?_))
      refine g2_iinc qk112_8.2.2.1.1.1.2 rfl w5 (1 : Int) rfl (loc2 := [some (sR v0), some (sR v1), u2, some (sR v3), u4, u5, some (sI (w32 (v6 + (1 : Int)))), some (sR v7), some (sI v8), u9]) rfl ?_
      refine g2_iinc qk112_8.2.2.1.1.2.1 rfl rfl (-1 : Int) rfl (loc2 := [some (sR v0), some (sR v1), u2, some (sR v3), u4, u5, some (sI (w32 (v6 + (1 : Int)))), some (sR v7), some (sI (w32 (v8 + (-1 : Int)))), u9]) rfl ?_
      refine g2_goto qk112_8.2.2.1.1.2.2 ?_
      exact HX1091 (w32 (v6 + (1 : Int))) (inR_w32 _) (w32 (v8 + (-1 : Int))) (inR_w32 _) S819 m821 (ek e822 (ek e814 (ek e809 (ek e802 hK0 (by decide)) (by decide)) (by decide)) (by decide)) u2 w2 u4 w4 u5 w5 u9 w9
theorem tl112_1091 {κ : CX} (hQ : κ.2.2.2.2.2.2.2.2.2 = (ql_I, ql_P)) {n0 s0 : Int} {d : Nat} (hd : 70 ≤ d) {v0 v1 v3 v7 : Int} (h0 : RfO v0) (h1 : RfO v1) (h3 : RfO v3) (h7 : RfO v7) : ∀ n : Nat, ∀ (v6 : Int) (h6 : InR v6) (v8 : Int) (h8 : InR v8) (S : sS) (hW : WF2 κ S) (hK0 : sK S v0 = 8) (u2 : Option ev_V) (w2 : nwo u2) (u4 : Option ev_V) (w4 : nwo u4) (u5 : Option ev_V) (w5 : nwo u5) (u9 : Option ev_V) (w9 : nwo u9), G2 κ ql_i112 ql_m112 3 d n0 s0 (l112_1091 v0 v1 v3 v7 n v6 v8 S) 1091 [some (sR v0), some (sR v1), u2, some (sR v3), u4, u5, some (sI v6), some (sR v7), some (sI v8), u9] [] S := by
  intro n
  induction n with
  | zero =>
    intro v6 h6 v8 h8 S hW hK0 u2 w2 u4 w4 u5 w5 u9 w9
    exact g2_none
  | succ n ih =>
    exact tb112_1091 hQ hd h0 h1 h3 h7 ih
noncomputable def j112_57 (v0 : Int) (v1 : Int) (v2 : Int) (v3 : Int) (v4 : Int) (a0 : Int) (S : sS) : Option (Int × sS) :=
  bdS (q99_bits S v2 (0 : Int) (4 : Int)) (fun y38 S39 => if y38 = (0 : Int) then (if a0 = 0 then (if sK S39 v3 = 7 then bdS (q110_exit S39 v0 v3 v4) (fun y48 S49 => bnd (sg S49 v3 0) (fun r53 => if v1 = sb S49 ∧ 0 ≤ v1 then bdC (fT) (fC_exit (sc S49) 0 r53 v4) (fun y56 c57 => bnd (cS S49 c57) (fun S58 => if y56 = y48 then (some ((1 : Int), S58)) else (some ((0 : Int), S58)))) else none)) else none) else (some ((1 : Int), S39))) else if y38 = (1 : Int) then (if a0 = 0 then (if sK S39 v3 = 7 then bdS (q110_exit S39 v0 v3 v4) (fun y69 S70 => bnd (sg S70 v3 0) (fun r74 => if v1 = sb S70 ∧ 0 ≤ v1 then bdC (fT) (fC_exit (sc S70) 0 r74 v4) (fun y77 c78 => bnd (cS S70 c78) (fun S79 => if y77 = y69 then (some ((1 : Int), S79)) else (some ((0 : Int), S79)))) else none)) else none) else (some ((1 : Int), S39))) else if y38 = (2 : Int) then (if a0 = 0 then (if sK S39 v3 = 7 then bdS (q110_exit S39 v0 v3 v4) (fun y90 S91 => bnd (sg S91 v3 0) (fun r95 => if v1 = sb S91 ∧ 0 ≤ v1 then bdC (fT) (fC_exit (sc S91) 0 r95 v4) (fun y98 c99 => bnd (cS S91 c99) (fun S100 => if y98 = y90 then (some ((1 : Int), S100)) else (some ((0 : Int), S100)))) else none)) else none) else (some ((1 : Int), S39))) else if y38 = (3 : Int) then (if sn S39 < 1000000 then bnd (sn S39) (fun p108 => bnd (nS S39 9 3) (fun S109 => bdS (q120_init S109 p108) (fun y115 S116 => bnd (sg S116 v0 0) (fun r120 => if sK S116 r120 = 9 then bdS (q136_iterator S116 r120) (fun y123 S124 => l112_200 v0 v1 v4 (0 : Int) p108 y123 fu S124) else none)))) else none) else if y38 = (4 : Int) then (if sK S39 v3 = 7 then bdS (q104_room S39 v0 v3) (fun y131 S132 => if y131 = 0 then (some ((1 : Int), S132)) else (bnd (sg S132 v0 0) (fun r138 => if sK S132 r138 = 9 then bdS (q134_size S132 r138) (fun y141 S142 => if y141 = (40 : Int) then (some ((1 : Int), S142)) else (bnd (sg S142 v0 0) (fun r148 => if sn S142 < 1000000 then bnd (sn S142) (fun p150 => bnd (nS S142 7 13) (fun S151 => bnd (sg S151 v0 0) (fun r157 => if sK S151 r157 = 9 then bdS (q134_size S151 r157) (fun y160 S161 => if (1 : Int) ≤ (2 : Int) ∧ (2 : Int) < (2147483648 : Int) ∧ (0 : Int) ≤ v4 ∧ v4 < 2147483648 then if (1 : Int) ≤ (3 : Int) ∧ (3 : Int) < (2147483648 : Int) ∧ (0 : Int) ≤ v4 ∧ v4 < 2147483648 then bdS (q114_init S161 p150 y160 v3 v4 (v4 / (2 : Int)) (v4 % (3 : Int))) (fun y167 S168 => if sK S168 r148 = 9 then bdS (q129_add S168 r148 p150) (fun y173 S174 => bnd (sg S174 v3 0) (fun r178 => if (1 : Int) ≤ (2 : Int) ∧ (2 : Int) < (2147483648 : Int) ∧ (0 : Int) ≤ v4 ∧ v4 < 2147483648 then if (1 : Int) ≤ (3 : Int) ∧ (3 : Int) < (2147483648 : Int) ∧ (0 : Int) ≤ v4 ∧ v4 < 2147483648 then if v1 = sb S174 ∧ 0 ≤ v1 then bdC (fT) (fC_spawn (sc S174) 0 r178 v4 (v4 / (2 : Int)) (v4 % (3 : Int))) (fun y183 c184 => bnd (cS S174 c184) (fun S185 => bnd (sg S185 v0 0) (fun r189 => if sK S185 r189 = 9 then bdS (q134_size S185 r189) (fun y192 S193 => if y183 = (w32 (y192 - (1 : Int))) then (some ((1 : Int), S193)) else (some ((0 : Int), S193))) else none))) else none else none else none)) else none) else none else none) else none))) else none))) else none))) else none) else if y38 = (5 : Int) then (if sK S39 v3 = 7 then bdS (q104_room S39 v0 v3) (fun y202 S203 => if y202 = 0 then (some ((1 : Int), S203)) else (bnd (sg S203 v0 0) (fun r209 => if sK S203 r209 = 9 then bdS (q134_size S203 r209) (fun y212 S213 => if y212 = (40 : Int) then (some ((1 : Int), S213)) else (bnd (sg S213 v0 0) (fun r219 => if sn S213 < 1000000 then bnd (sn S213) (fun p221 => bnd (nS S213 7 13) (fun S222 => bnd (sg S222 v0 0) (fun r228 => if sK S222 r228 = 9 then bdS (q134_size S222 r228) (fun y231 S232 => if (1 : Int) ≤ (2 : Int) ∧ (2 : Int) < (2147483648 : Int) ∧ (0 : Int) ≤ v4 ∧ v4 < 2147483648 then if (1 : Int) ≤ (3 : Int) ∧ (3 : Int) < (2147483648 : Int) ∧ (0 : Int) ≤ v4 ∧ v4 < 2147483648 then bdS (q114_init S232 p221 y231 v3 v4 (v4 / (2 : Int)) (v4 % (3 : Int))) (fun y238 S239 => if sK S239 r219 = 9 then bdS (q129_add S239 r219 p221) (fun y244 S245 => bnd (sg S245 v3 0) (fun r249 => if (1 : Int) ≤ (2 : Int) ∧ (2 : Int) < (2147483648 : Int) ∧ (0 : Int) ≤ v4 ∧ v4 < 2147483648 then if (1 : Int) ≤ (3 : Int) ∧ (3 : Int) < (2147483648 : Int) ∧ (0 : Int) ≤ v4 ∧ v4 < 2147483648 then if v1 = sb S245 ∧ 0 ≤ v1 then bdC (fT) (fC_spawn (sc S245) 0 r249 v4 (v4 / (2 : Int)) (v4 % (3 : Int))) (fun y254 c255 => bnd (cS S245 c255) (fun S256 => bnd (sg S256 v0 0) (fun r260 => if sK S256 r260 = 9 then bdS (q134_size S256 r260) (fun y263 S264 => if y254 = (w32 (y263 - (1 : Int))) then (some ((1 : Int), S264)) else (some ((0 : Int), S264))) else none))) else none else none else none)) else none) else none else none) else none))) else none))) else none))) else none) else if y38 = (6 : Int) then (if sK S39 v3 = 7 then bdS (q104_room S39 v0 v3) (fun y273 S274 => if y273 = 0 then (some ((1 : Int), S274)) else (bnd (sg S274 v0 0) (fun r280 => if sK S274 r280 = 9 then bdS (q134_size S274 r280) (fun y283 S284 => if y283 = (40 : Int) then (some ((1 : Int), S284)) else (bnd (sg S284 v0 0) (fun r290 => if sn S284 < 1000000 then bnd (sn S284) (fun p292 => bnd (nS S284 7 13) (fun S293 => bnd (sg S293 v0 0) (fun r299 => if sK S293 r299 = 9 then bdS (q134_size S293 r299) (fun y302 S303 => if (1 : Int) ≤ (2 : Int) ∧ (2 : Int) < (2147483648 : Int) ∧ (0 : Int) ≤ v4 ∧ v4 < 2147483648 then if (1 : Int) ≤ (3 : Int) ∧ (3 : Int) < (2147483648 : Int) ∧ (0 : Int) ≤ v4 ∧ v4 < 2147483648 then bdS (q114_init S303 p292 y302 v3 v4 (v4 / (2 : Int)) (v4 % (3 : Int))) (fun y309 S310 => if sK S310 r290 = 9 then bdS (q129_add S310 r290 p292) (fun y315 S316 => bnd (sg S316 v3 0) (fun r320 => if (1 : Int) ≤ (2 : Int) ∧ (2 : Int) < (2147483648 : Int) ∧ (0 : Int) ≤ v4 ∧ v4 < 2147483648 then if (1 : Int) ≤ (3 : Int) ∧ (3 : Int) < (2147483648 : Int) ∧ (0 : Int) ≤ v4 ∧ v4 < 2147483648 then if v1 = sb S316 ∧ 0 ≤ v1 then bdC (fT) (fC_spawn (sc S316) 0 r320 v4 (v4 / (2 : Int)) (v4 % (3 : Int))) (fun y325 c326 => bnd (cS S316 c326) (fun S327 => bnd (sg S327 v0 0) (fun r331 => if sK S327 r331 = 9 then bdS (q134_size S327 r331) (fun y334 S335 => if y325 = (w32 (y334 - (1 : Int))) then (some ((1 : Int), S335)) else (some ((0 : Int), S335))) else none))) else none else none else none)) else none) else none else none) else none))) else none))) else none))) else none) else if y38 = (7 : Int) then (if a0 = 0 then (if sK S39 v3 = 7 then bnd (sg S39 v3 9) (fun r346 => bnd (uS S39 v3 9 (opI 2 r346 (opI 4 (1 : Int) v4))) (fun S348 => bdS (q103_children S348 v0 v3 (0 : Int)) (fun y351 S352 => if sK S352 y351 = 9 then bdS (q136_iterator S352 y351) (fun y357 S358 => l112_548 v0 v1 v3 v4 y357 fu (0 : Int) S358) else none))) else none) else (some ((1 : Int), S39))) else if y38 = (8 : Int) then (if sK S39 v3 = 7 then bnd (sg S39 v3 7) (fun r365 => if r365 = 0 then (bnd (sg S39 v3 9) (fun r369 => if (opI 1 (opI 5 r369 v4) (1 : Int)) = (1 : Int) then (j112_650 v1 v3 v4 (1 : Int) S39) else (j112_650 v1 v3 v4 (0 : Int) S39))) else (some ((1 : Int), S39))) else none) else if y38 = (9 : Int) then (if sK S39 v3 = 7 then bnd (sg S39 v3 7) (fun r376 => if r376 = 0 then (bnd (sg S39 v3 5) (fun r380 => bnd (uS S39 v3 5 v4) (fun S382 => bnd (sg S382 v3 0) (fun r385 => if v1 = sb S382 ∧ 0 ≤ v1 then bdC (fT) (fC_setCapacity (sc S382) 0 r385 v4) (fun y388 c389 => bnd (cS S382 c389) (fun S390 => if y388 = r380 then (some ((1 : Int), S390)) else (some ((0 : Int), S390)))) else none)))) else (some ((1 : Int), S39))) else none) else if y38 = (10 : Int) then (if sK S39 v3 = 7 then bnd (sg S39 v3 7) (fun r399 => if r399 = 0 then (bnd (sg S39 v3 6) (fun r403 => bnd (uS S39 v3 6 v4) (fun S405 => bnd (sg S405 v3 0) (fun r408 => if v1 = sb S405 ∧ 0 ≤ v1 then bdC (fT) (fC_setBudget (sc S405) 0 r408 v4) (fun y411 c412 => bnd (cS S405 c412) (fun S413 => if y411 = r403 then (some ((1 : Int), S413)) else (some ((0 : Int), S413)))) else none)))) else (some ((1 : Int), S39))) else none) else if y38 = (11 : Int) then (bnd (sg S39 v0 0) (fun r421 => bnd (sg S39 v0 0) (fun r423 => if sK S39 r423 = 9 then bdS (q134_size S39 r423) (fun y426 S427 => if (1 : Int) ≤ y426 ∧ y426 < (2147483648 : Int) ∧ (0 : Int) ≤ v4 ∧ v4 < 2147483648 then if sK S427 r421 = 9 then bdS (q133_get S427 r421 (v4 % y426)) (fun y433 S434 => if y433 = -1 ∨ sK S434 y433 = 7 then if a0 = 0 then (if y433 = v3 then (some ((1 : Int), S434)) else (if sK S434 v3 = 7 then bnd (sg S434 v3 3) (fun r444 => if r444 < 0 then (j112_829 v1 v3 y433 (-1 : Int) S434) else (bnd (sg S434 v3 3) (fun r448 => if sK S434 r448 = 7 then bnd (sg S434 r448 0) (fun r451 => j112_829 v1 v3 y433 r451 S434) else none))) else none)) else (some ((1 : Int), S434)) else none) else none else none) else none))) else if y38 = (12 : Int) then (if sK S39 v3 = 7 then bnd (sg S39 v3 7) (fun r456 => if r456 = 0 then (bnd (sg S39 v0 2) (fun r460 => if sK S39 r460 = 27 then if 0 ≤ v4 ∧ v4 < sZ S39 r460 then bnd (sg S39 r460 v4) (fun r464 => if sK S39 r464 = 7 then bnd (sg S39 r464 0) (fun r467 => bnd (sg S39 v0 2) (fun r469 => if sK S39 r469 = 27 then if 0 ≤ v4 ∧ v4 < sZ S39 r469 then bnd (uS S39 r469 v4 v3) (fun S473 => bnd (sg S473 v3 0) (fun r476 => if v1 = sb S473 ∧ 0 ≤ v1 then bdC (fT) (fC_give (sc S473) 0 v4 r476) (fun y479 c480 => bnd (cS S473 c480) (fun S481 => if y479 = r467 then (some ((1 : Int), S481)) else (some ((0 : Int), S481)))) else none)) else none else none)) else none) else none else none)) else (some ((1 : Int), S39))) else none) else if y38 = (13 : Int) then (if sK S39 v3 = 7 then bnd (sg S39 v3 7) (fun r490 => if r490 = 0 then (bnd (sg S39 v3 0) (fun r494 => if v1 = sb S39 ∧ 0 ≤ v1 then bdC (fT) (fC_readAll (sc S39) 0 r494) (fun y497 c498 => bnd (cS S39 c498) (fun S499 => bdS (q108_readAll S499 v0 v3) (fun y503 S504 => if y497 = y503 then (some ((1 : Int), S504)) else (some ((0 : Int), S504))))) else none)) else (some ((1 : Int), S39))) else none) else if y38 = (14 : Int) then (bnd (sg S39 v0 0) (fun r512 => bnd (sg S39 v0 0) (fun r514 => if sK S39 r514 = 9 then bdS (q134_size S39 r514) (fun y517 S518 => if (1 : Int) ≤ y517 ∧ y517 < (2147483648 : Int) ∧ (0 : Int) ≤ v4 ∧ v4 < 2147483648 then if sK S518 r512 = 9 then bdS (q133_get S518 r512 (v4 % y517)) (fun y524 S525 => if y524 = -1 ∨ sK S525 y524 = 7 then if a0 = 0 then (if sK S525 y524 = 7 then bnd (sg S525 y524 7) (fun r533 => if r533 = 0 then (if y524 = v3 then (some ((1 : Int), S525)) else (bdS (q115_isBelow S525 y524 v3) (fun y539 S540 => if y539 = 0 then (bdS (q104_room S540 v0 y524) (fun y546 S547 => if y546 = 0 then (some ((1 : Int), S547)) else (bnd (sg S547 y524 9) (fun r553 => if sK S547 v3 = 7 then bnd (sg S547 v3 1) (fun r556 => if (opI 1 (opI 5 r553 r556) (1 : Int)) = (1 : Int) then (some ((1 : Int), S547)) else (bnd (sg S547 v3 2) (fun r560 => if sK S547 r560 = 7 then bnd (sg S547 r560 0) (fun r563 => bnd (uS S547 v3 2 y524) (fun S565 => bnd (sg S565 v3 0) (fun r568 => bnd (sg S565 y524 0) (fun r570 => if v1 = sb S565 ∧ 0 ≤ v1 then bdC (fT) (fC_move (sc S565) 0 r568 r570) (fun y573 c574 => bnd (cS S565 c574) (fun S575 => if y573 = r563 then (some ((1 : Int), S575)) else (some ((0 : Int), S575)))) else none)))) else none))) else none)))) else (some ((1 : Int), S540))))) else (some ((1 : Int), S525))) else none) else (some ((1 : Int), S525)) else none) else none else none) else none))) else (if a0 = 0 then (bdS (q103_children S39 v0 v3 (0 : Int)) (fun y583 S584 => if sK S584 y583 = 9 then bdS (q134_size S584 y583) (fun y589 S590 => l112_1091 v0 v1 v3 y583 fu (0 : Int) (w32 (y589 - (1 : Int))) S590) else none)) else (some ((1 : Int), S39))))
theorem tj112_57 {κ : CX} (hQ : κ.2.2.2.2.2.2.2.2.2 = (ql_I, ql_P)) {n0 s0 : Int} {d : Nat} (hd : 70 ≤ d) {v0 v1 v2 v3 v4 : Int} {a0 : Int} (h0 : RfO v0) (h1 : RfO v1) (h2 : InR v2) (h3 : RfO v3) (h4 : InR v4) (z0 : B01 a0) (S : sS) (hW : WF2 κ S) (hK0 : sK S v0 = 8) (u5 : Option ev_V) (w5 : nwo u5) (u6 : Option ev_V) (w6 : nwo u6) (u7 : Option ev_V) (w7 : nwo u7) (u8 : Option ev_V) (w8 : nwo u8) (u9 : Option ev_V) (w9 : nwo u9) : G2 κ ql_i112 ql_m112 3 d n0 s0 (j112_57 v0 v1 v2 v3 v4 a0 S) 57 [some (sR v0), some (sR v1), some (sI v2), some (sR v3), some (sI v4), u5, u6, u7, u8, u9] [(sI a0)] S := by
  unfold j112_57
  refine g2_istore qk112_0.1.2.2.2.1.2 rfl (loc2 := [some (sR v0), some (sR v1), some (sI v2), some (sR v3), some (sI v4), some (sI a0), u6, u7, u8, u9]) rfl ?_
  refine g2_iload qk112_0.1.2.2.2.2 rfl ?_
  refine g2_int qk112_0.2.1.1.1.1.1 (0 : Int) rfl ?_
  refine g2_int qk112_0.2.1.1.1.1.2 (4 : Int) rfl ?_
  refine g2_callS (t' := 1) qk112_0.2.1.1.1.2.1 (by decide) (ql_ip99 hQ) rfl rfl rfl rfl (by omega) (tq99_bits hQ (by omega) hW h2 (inR_b (Or.inl rfl)) (inR_of (by decide))) (fun y38 S39 x40 m41 e42 => ?_)
  refine g2_ite (fun c43 => ?_) (fun c44 => ?_)
  · refine g2_swh (lo := (0 : Int)) (hi := (14 : Int)) (i := 0) qk112_0.2.1.1.1.2.2 rfl rfl (by omega) (by omega) rfl ?_
    refine g2_iload qk112_0.2.1.1.2.1.1 rfl ?_
    refine g2_ifeq qk112_0.2.1.1.2.1.2 (inR_b z0) (fun c45 => ?_) (fun c46 => ?_)
    · refine g2_aload qk112_0.2.1.2.1.1.2 rfl ?_
      refine g2_aload qk112_0.2.1.2.1.2.1 rfl ?_
      refine g2_iload qk112_0.2.1.2.1.2.2 rfl ?_
      refine g2_ck (fun q47 => ?_)
      refine g2_kn (ek e42 hK0 (by decide)) (g2_callV (t' := 1) qk112_0.2.1.2.2.1.1 (by decide) (ql_ip110 hQ) (by decide) rfl rfl rfl (by omega) m41 (tq110_exit hQ (by omega) m41 (ek e42 hK0 (by decide)) q47 h0 h3 h4) (fun y48 S49 x50 m51 e52 => ?_))
      refine g2_istore qk112_0.2.1.2.2.1.2 rfl (loc2 := [some (sR v0), some (sR v1), some (sI v2), some (sR v3), some (sI v4), some (sI a0), some (sI y48), u7, u8, u9]) rfl ?_
      refine g2_aload qk112_0.2.1.2.2.2 rfl ?_
      refine g2_aload qk112_0.2.2.1.1.1.1 rfl ?_
      refine g2_kn (ek e52 q47 (by decide)) (g2_getI qk112_0.2.2.1.1.1.2 m51 ⟨by decide, by decide, by decide, rfl⟩ (fun r53 x54 => ?_))
      refine g2_iload qk112_0.2.2.1.1.2.1 rfl ?_
      refine g2_ck (fun q55 => ?_)
      refine g2_kn q55 (g2_callC (t' := 1) (Is := [r53, v4]) qk112_0.2.2.1.1.2.2 (by decide) rfl rfl (by omega) m51 (Or.inl rfl) (by decide) ⟨rfl, rfl⟩ (tfC_exit (by omega) m51.1.2 kd_c0 x54 h4) (fun y56 S58 x59 m60 e61 => ?_))
      refine g2_iload qk112_0.2.2.1.2.1.1 rfl ?_
      refine g2_cmeq qk112_0.2.2.1.2.1.2 x59 x50 (fun c62 => ?_) (fun c63 => ?_)
      · refine g2_int qk112_0.2.2.1.2.2 (1 : Int) rfl ?_
        refine g2_goto qk112_0.2.2.2.1.1.1 ?_
        exact g2_zret qk112_0.2.2.2.1.2.1 m60 (Or.inr rfl)
      · refine g2_int qk112_0.2.2.2.1.1.2 (0 : Int) rfl ?_
        exact g2_zret qk112_0.2.2.2.1.2.1 m60 (Or.inl rfl)
    · refine g2_int qk112_0.2.1.1.2.2 (1 : Int) rfl ?_
      exact g2_zret qk112_0.2.1.2.1.1.1 m41 (Or.inr rfl)
  refine g2_ite (fun c64 => ?_) (fun c65 => ?_)
  · refine g2_swh (lo := (0 : Int)) (hi := (14 : Int)) (i := 1) qk112_0.2.1.1.1.2.2 rfl rfl (by omega) (by omega) rfl ?_
    refine g2_iload qk112_0.2.1.1.2.1.1 rfl ?_
    refine g2_ifeq qk112_0.2.1.1.2.1.2 (inR_b z0) (fun c66 => ?_) (fun c67 => ?_)
    · refine g2_aload qk112_0.2.1.2.1.1.2 rfl ?_
      refine g2_aload qk112_0.2.1.2.1.2.1 rfl ?_
      refine g2_iload qk112_0.2.1.2.1.2.2 rfl ?_
      refine g2_ck (fun q68 => ?_)
      refine g2_kn (ek e42 hK0 (by decide)) (g2_callV (t' := 1) qk112_0.2.1.2.2.1.1 (by decide) (ql_ip110 hQ) (by decide) rfl rfl rfl (by omega) m41 (tq110_exit hQ (by omega) m41 (ek e42 hK0 (by decide)) q68 h0 h3 h4) (fun y69 S70 x71 m72 e73 => ?_))
      refine g2_istore qk112_0.2.1.2.2.1.2 rfl (loc2 := [some (sR v0), some (sR v1), some (sI v2), some (sR v3), some (sI v4), some (sI a0), some (sI y69), u7, u8, u9]) rfl ?_
      refine g2_aload qk112_0.2.1.2.2.2 rfl ?_
      refine g2_aload qk112_0.2.2.1.1.1.1 rfl ?_
      refine g2_kn (ek e73 q68 (by decide)) (g2_getI qk112_0.2.2.1.1.1.2 m72 ⟨by decide, by decide, by decide, rfl⟩ (fun r74 x75 => ?_))
      refine g2_iload qk112_0.2.2.1.1.2.1 rfl ?_
      refine g2_ck (fun q76 => ?_)
      refine g2_kn q76 (g2_callC (t' := 1) (Is := [r74, v4]) qk112_0.2.2.1.1.2.2 (by decide) rfl rfl (by omega) m72 (Or.inl rfl) (by decide) ⟨rfl, rfl⟩ (tfC_exit (by omega) m72.1.2 kd_c0 x75 h4) (fun y77 S79 x80 m81 e82 => ?_))
      refine g2_iload qk112_0.2.2.1.2.1.1 rfl ?_
      refine g2_cmeq qk112_0.2.2.1.2.1.2 x80 x71 (fun c83 => ?_) (fun c84 => ?_)
      · refine g2_int qk112_0.2.2.1.2.2 (1 : Int) rfl ?_
        refine g2_goto qk112_0.2.2.2.1.1.1 ?_
        exact g2_zret qk112_0.2.2.2.1.2.1 m81 (Or.inr rfl)
      · refine g2_int qk112_0.2.2.2.1.1.2 (0 : Int) rfl ?_
        exact g2_zret qk112_0.2.2.2.1.2.1 m81 (Or.inl rfl)
    · refine g2_int qk112_0.2.1.1.2.2 (1 : Int) rfl ?_
      exact g2_zret qk112_0.2.1.2.1.1.1 m41 (Or.inr rfl)
  refine g2_ite (fun c85 => ?_) (fun c86 => ?_)
  · refine g2_swh (lo := (0 : Int)) (hi := (14 : Int)) (i := 2) qk112_0.2.1.1.1.2.2 rfl rfl (by omega) (by omega) rfl ?_
    refine g2_iload qk112_0.2.1.1.2.1.1 rfl ?_
    refine g2_ifeq qk112_0.2.1.1.2.1.2 (inR_b z0) (fun c87 => ?_) (fun c88 => ?_)
    · refine g2_aload qk112_0.2.1.2.1.1.2 rfl ?_
      refine g2_aload qk112_0.2.1.2.1.2.1 rfl ?_
      refine g2_iload qk112_0.2.1.2.1.2.2 rfl ?_
      refine g2_ck (fun q89 => ?_)
      refine g2_kn (ek e42 hK0 (by decide)) (g2_callV (t' := 1) qk112_0.2.1.2.2.1.1 (by decide) (ql_ip110 hQ) (by decide) rfl rfl rfl (by omega) m41 (tq110_exit hQ (by omega) m41 (ek e42 hK0 (by decide)) q89 h0 h3 h4) (fun y90 S91 x92 m93 e94 => ?_))
      refine g2_istore qk112_0.2.1.2.2.1.2 rfl (loc2 := [some (sR v0), some (sR v1), some (sI v2), some (sR v3), some (sI v4), some (sI a0), some (sI y90), u7, u8, u9]) rfl ?_
      refine g2_aload qk112_0.2.1.2.2.2 rfl ?_
      refine g2_aload qk112_0.2.2.1.1.1.1 rfl ?_
      refine g2_kn (ek e94 q89 (by decide)) (g2_getI qk112_0.2.2.1.1.1.2 m93 ⟨by decide, by decide, by decide, rfl⟩ (fun r95 x96 => ?_))
      refine g2_iload qk112_0.2.2.1.1.2.1 rfl ?_
      refine g2_ck (fun q97 => ?_)
      refine g2_kn q97 (g2_callC (t' := 1) (Is := [r95, v4]) qk112_0.2.2.1.1.2.2 (by decide) rfl rfl (by omega) m93 (Or.inl rfl) (by decide) ⟨rfl, rfl⟩ (tfC_exit (by omega) m93.1.2 kd_c0 x96 h4) (fun y98 S100 x101 m102 e103 => ?_))
      refine g2_iload qk112_0.2.2.1.2.1.1 rfl ?_
      refine g2_cmeq qk112_0.2.2.1.2.1.2 x101 x92 (fun c104 => ?_) (fun c105 => ?_)
      · refine g2_int qk112_0.2.2.1.2.2 (1 : Int) rfl ?_
        refine g2_goto qk112_0.2.2.2.1.1.1 ?_
        exact g2_zret qk112_0.2.2.2.1.2.1 m102 (Or.inr rfl)
      · refine g2_int qk112_0.2.2.2.1.1.2 (0 : Int) rfl ?_
        exact g2_zret qk112_0.2.2.2.1.2.1 m102 (Or.inl rfl)
    · refine g2_int qk112_0.2.1.1.2.2 (1 : Int) rfl ?_
      exact g2_zret qk112_0.2.1.2.1.1.1 m41 (Or.inr rfl)
  refine g2_ite (fun c106 => ?_) (fun c107 => ?_)
  · refine g2_swh (lo := (0 : Int)) (hi := (14 : Int)) (i := 3) qk112_0.2.1.1.1.2.2 rfl rfl (by omega) (by omega) rfl ?_
    refine g2_int qk112_0.2.2.2.1.2.2 (0 : Int) rfl ?_
    refine g2_istore qk112_0.2.2.2.2.1.1 rfl (loc2 := [some (sR v0), some (sR v1), some (sI v2), some (sR v3), some (sI v4), some (sI a0), some (sI (0 : Int)), u7, u8, u9]) rfl ?_
    refine g2_ck (fun q114 => ?_)
    refine g2_kn q114 (g2_new qk112_0.2.2.2.2.1.2 m41 ⟨⟨by decide, by decide⟩, rfl, by decide⟩ rfl (fun p108 S109 x110 k111 m112 e113 => ?_))
    refine g2_dupR qk112_0.2.2.2.2.2 ?_
    refine g2_kn (kn_pos m112.2.1 k111.1 (by decide)) (g2_callI qk112_1.1.1.1.1.1.1 (by decide) (ql_ip120 hQ) rfl rfl rfl (by omega) ⟨_, qd_112_184⟩ (tq120_init hQ (by omega) m112 k111.1 (rfO_of x110)) (fun y115 S116 m118 e119 => ?_))
    refine g2_astore qk112_1.1.1.1.1.1.2 rfl (loc2 := [some (sR v0), some (sR v1), some (sI v2), some (sR v3), some (sI v4), some (sI a0), some (sI (0 : Int)), some (sR p108), u8, u9]) rfl ?_
    refine g2_aload qk112_1.1.1.1.1.2.1 rfl ?_
    refine g2_kn (ek e119 (ek e113 (ek e42 hK0 (by decide)) (by decide)) (by decide)) (g2_getR qk112_1.1.1.1.1.2.2 m118 ⟨by decide, by decide, by decide, rfl⟩ (fun r120 x121 => ?_))
    refine g2_ck (fun q122 => ?_)
    refine g2_kn q122 (g2_callF (t' := 2) qk112_1.1.1.1.2.1.1 (by decide) (ql_ip136 hQ) rfl rfl rfl (by omega) m118 (tq136_iterator hQ (by omega) m118 q122 x121) (fun y123 S124 x125 m126 e127 => ?_))
    refine g2_astore qk112_1.1.1.1.2.1.2 rfl (loc2 := [some (sR v0), some (sR v1), some (sI v2), some (sR v3), some (sI v4), some (sI a0), some (sI (0 : Int)), some (sR p108), some (sR y123), u9]) rfl ?_
    exact tl112_200 hQ hd h0 h1 h4 (Or.inl rfl) (rfO_of x110) x125 fu S124 m126 (ek e127 (ek e119 (ek e113 (ek e42 hK0 (by decide)) (by decide)) (by decide)) (by decide)) (some (sI v2)) rfl (some (sR v3)) rfl (some (sI a0)) rfl u9 w9
  refine g2_ite (fun c128 => ?_) (fun c129 => ?_)
  · refine g2_swh (lo := (0 : Int)) (hi := (14 : Int)) (i := 4) qk112_0.2.1.1.1.2.2 rfl rfl (by omega) (by omega) rfl ?_
    refine g2_aload qk112_2.2.1.1.1.1.2 rfl ?_
    refine g2_aload qk112_2.2.1.1.1.2.1 rfl ?_
    refine g2_ck (fun q130 => ?_)
    refine g2_kn (ek e42 hK0 (by decide)) (g2_callV (t' := 1) qk112_2.2.1.1.1.2.2 (by decide) (ql_ip104 hQ) (by decide) rfl rfl rfl (by omega) m41 (tq104_room hQ (by omega) m41 (ek e42 hK0 (by decide)) q130 h0 h3) (fun y131 S132 x133 m134 e135 => ?_))
    refine g2_ifeq qk112_2.2.1.1.2.1.1 x133 (fun c136 => ?_) (fun c137 => ?_)
    · refine g2_int qk112_2.2.1.2.1.2.2 (1 : Int) rfl ?_
      exact g2_zret qk112_2.2.1.2.2.1.1 m134 (Or.inr rfl)
    · refine g2_aload qk112_2.2.1.1.2.1.2 rfl ?_
      refine g2_kn (ek e135 (ek e42 hK0 (by decide)) (by decide)) (g2_getR qk112_2.2.1.1.2.2 m134 ⟨by decide, by decide, by decide, rfl⟩ (fun r138 x139 => ?_))
      refine g2_ck (fun q140 => ?_)
      refine g2_kn q140 (g2_callF (t' := 1) qk112_2.2.1.2.1.1.1 (by decide) (ql_ip134 hQ) rfl rfl rfl (by omega) m134 (tq134_size hQ (by omega) m134 q140 x139) (fun y141 S142 x143 m144 e145 => ?_))
      refine g2_int qk112_2.2.1.2.1.1.2 (40 : Int) rfl ?_
      refine g2_cmeq qk112_2.2.1.2.1.2.1 x143 (inR_of (by decide)) (fun c146 => ?_) (fun c147 => ?_)
      · refine g2_int qk112_2.2.1.2.1.2.2 (1 : Int) rfl ?_
        exact g2_zret qk112_2.2.1.2.2.1.1 m144 (Or.inr rfl)
      · refine g2_aload qk112_2.2.1.2.2.1.2 rfl ?_
        refine g2_kn (ek e145 (ek e135 (ek e42 hK0 (by decide)) (by decide)) (by decide)) (g2_getR qk112_2.2.1.2.2.2 m144 ⟨by decide, by decide, by decide, rfl⟩ (fun r148 x149 => ?_))
        refine g2_ck (fun q156 => ?_)
        refine g2_kn q156 (g2_new qk112_2.2.2.1.1.1.1 m144 ⟨⟨by decide, by decide⟩, rfl, by decide⟩ rfl (fun p150 S151 x152 k153 m154 e155 => ?_))
        refine g2_dupR qk112_2.2.2.1.1.1.2 ?_
        refine g2_aload qk112_2.2.2.1.1.2.1 rfl ?_
        refine g2_kn (ek e155 (ek e145 (ek e135 (ek e42 hK0 (by decide)) (by decide)) (by decide)) (by decide)) (g2_getR qk112_2.2.2.1.1.2.2 m154 ⟨by decide, by decide, by decide, rfl⟩ (fun r157 x158 => ?_))
        refine g2_ck (fun q159 => ?_)
        refine g2_kn q159 (g2_callF (t' := 1) qk112_2.2.2.1.2.1.1 (by decide) (ql_ip134 hQ) rfl rfl rfl (by omega) m154 (tq134_size hQ (by omega) m154 q159 x158) (fun y160 S161 x162 m163 e164 => ?_))
        refine g2_aload qk112_2.2.2.1.2.1.2 rfl ?_
        refine g2_iload qk112_2.2.2.1.2.2 rfl ?_
        refine g2_iload qk112_2.2.2.2.1.1.1 rfl ?_
        refine g2_int qk112_2.2.2.2.1.1.2 (2 : Int) rfl ?_
        refine g2_ck (fun q165 => ?_)
        refine g2_div qk112_2.2.2.2.1.2.1 q165 ?_
        refine g2_iload qk112_2.2.2.2.1.2.2 rfl ?_
        refine g2_int qk112_2.2.2.2.2.1.1 (3 : Int) rfl ?_
        refine g2_ck (fun q166 => ?_)
        refine g2_rem qk112_2.2.2.2.2.1.2 q166 ?_
        refine g2_kn (kn_pos m163.2.1 (ek e164 k153.1 (by decide)) (by decide)) (g2_callI qk112_2.2.2.2.2.2 (by decide) (ql_ip114 hQ) rfl rfl rfl (by omega) ⟨_, qd_112_465⟩ (tq114_init hQ (by omega) m163 (ek e164 k153.1 (by decide)) (rfO_of x152) x162 h3 h4 (inR_div q165) (inR_rem q166)) (fun y167 S168 m170 e171 => ?_))
        refine g2_ck (fun q172 => ?_)
        refine g2_kn q172 (g2_callF (t' := 3) qk112_3.1.1.1.1.1.1 (by decide) (ql_ip129 hQ) rfl rfl rfl (by omega) m170 (tq129_add hQ (by omega) m170 q172 x149 (rfO_of x152)) (fun y173 S174 x175 m176 e177 => ?_))
        refine g2_popI qk112_3.1.1.1.1.1.2 ?_
        refine g2_aload qk112_3.1.1.1.1.2.1 rfl ?_
        refine g2_aload qk112_3.1.1.1.1.2.2 rfl ?_
        refine g2_kn (ek e177 (ek e171 (ek e164 (ek e155 (ek e145 (ek e135 q130 (by decide)) (by decide)) (by decide)) (by decide)) (by decide)) (by decide)) (g2_getI qk112_3.1.1.1.2.1.1 m176 ⟨by decide, by decide, by decide, rfl⟩ (fun r178 x179 => ?_))
        refine g2_iload qk112_3.1.1.1.2.1.2 rfl ?_
        refine g2_iload qk112_3.1.1.1.2.2.1 rfl ?_
        refine g2_int qk112_3.1.1.1.2.2.2 (2 : Int) rfl ?_
        refine g2_ck (fun q180 => ?_)
        refine g2_div qk112_3.1.1.2.1.1.1 q180 ?_
        refine g2_iload qk112_3.1.1.2.1.1.2 rfl ?_
        refine g2_int qk112_3.1.1.2.1.2.1 (3 : Int) rfl ?_
        refine g2_ck (fun q181 => ?_)
        refine g2_rem qk112_3.1.1.2.1.2.2 q181 ?_
        refine g2_ck (fun q182 => ?_)
        refine g2_kn q182 (g2_callC (t' := 1) (Is := [r178, v4, (v4 / (2 : Int)), (v4 % (3 : Int))]) qk112_3.1.1.2.2.1.1 (by decide) rfl rfl (by omega) m176 (Or.inl rfl) (by decide) ⟨rfl, rfl⟩ (tfC_spawn (by omega) m176.1.2 kd_c0 x179 h4 (inR_div q180) (inR_rem q181)) (fun y183 S185 x186 m187 e188 => ?_))
        refine g2_aload qk112_3.1.1.2.2.1.2 rfl ?_
        refine g2_kn (ek e188 (ek e177 (ek e171 (ek e164 (ek e155 (ek e145 (ek e135 (ek e42 hK0 (by decide)) (by decide)) (by decide)) (by decide)) (by decide)) (by decide)) (by decide)) (by decide)) (g2_getR qk112_3.1.1.2.2.2 m187 ⟨by decide, by decide, by decide, rfl⟩ (fun r189 x190 => ?_))
        refine g2_ck (fun q191 => ?_)
        refine g2_kn q191 (g2_callF (t' := 1) qk112_3.1.2.1.1.1.1 (by decide) (ql_ip134 hQ) rfl rfl rfl (by omega) m187 (tq134_size hQ (by omega) m187 q191 x190) (fun y192 S193 x194 m195 e196 => ?_))
        refine g2_int qk112_3.1.2.1.1.1.2 (1 : Int) rfl ?_
        refine g2_isub qk112_3.1.2.1.1.2.1 ?_
        refine g2_cmeq qk112_3.1.2.1.1.2.2 x186 (inR_w32 _) (fun c197 => ?_) (fun c198 => ?_)
        · refine g2_int qk112_3.1.2.1.2.1.1 (1 : Int) rfl ?_
          refine g2_goto qk112_3.1.2.1.2.1.2 ?_
          exact g2_zret qk112_3.1.2.2.1.1.1 m195 (Or.inr rfl)
        · refine g2_int qk112_3.1.2.1.2.2 (0 : Int) rfl ?_
          exact g2_zret qk112_3.1.2.2.1.1.1 m195 (Or.inl rfl)
  refine g2_ite (fun c199 => ?_) (fun c200 => ?_)
  · refine g2_swh (lo := (0 : Int)) (hi := (14 : Int)) (i := 5) qk112_0.2.1.1.1.2.2 rfl rfl (by omega) (by omega) rfl ?_
    refine g2_aload qk112_2.2.1.1.1.1.2 rfl ?_
    refine g2_aload qk112_2.2.1.1.1.2.1 rfl ?_
    refine g2_ck (fun q201 => ?_)
    refine g2_kn (ek e42 hK0 (by decide)) (g2_callV (t' := 1) qk112_2.2.1.1.1.2.2 (by decide) (ql_ip104 hQ) (by decide) rfl rfl rfl (by omega) m41 (tq104_room hQ (by omega) m41 (ek e42 hK0 (by decide)) q201 h0 h3) (fun y202 S203 x204 m205 e206 => ?_))
    refine g2_ifeq qk112_2.2.1.1.2.1.1 x204 (fun c207 => ?_) (fun c208 => ?_)
    · refine g2_int qk112_2.2.1.2.1.2.2 (1 : Int) rfl ?_
      exact g2_zret qk112_2.2.1.2.2.1.1 m205 (Or.inr rfl)
    · refine g2_aload qk112_2.2.1.1.2.1.2 rfl ?_
      refine g2_kn (ek e206 (ek e42 hK0 (by decide)) (by decide)) (g2_getR qk112_2.2.1.1.2.2 m205 ⟨by decide, by decide, by decide, rfl⟩ (fun r209 x210 => ?_))
      refine g2_ck (fun q211 => ?_)
      refine g2_kn q211 (g2_callF (t' := 1) qk112_2.2.1.2.1.1.1 (by decide) (ql_ip134 hQ) rfl rfl rfl (by omega) m205 (tq134_size hQ (by omega) m205 q211 x210) (fun y212 S213 x214 m215 e216 => ?_))
      refine g2_int qk112_2.2.1.2.1.1.2 (40 : Int) rfl ?_
      refine g2_cmeq qk112_2.2.1.2.1.2.1 x214 (inR_of (by decide)) (fun c217 => ?_) (fun c218 => ?_)
      · refine g2_int qk112_2.2.1.2.1.2.2 (1 : Int) rfl ?_
        exact g2_zret qk112_2.2.1.2.2.1.1 m215 (Or.inr rfl)
      · refine g2_aload qk112_2.2.1.2.2.1.2 rfl ?_
        refine g2_kn (ek e216 (ek e206 (ek e42 hK0 (by decide)) (by decide)) (by decide)) (g2_getR qk112_2.2.1.2.2.2 m215 ⟨by decide, by decide, by decide, rfl⟩ (fun r219 x220 => ?_))
        refine g2_ck (fun q227 => ?_)
        refine g2_kn q227 (g2_new qk112_2.2.2.1.1.1.1 m215 ⟨⟨by decide, by decide⟩, rfl, by decide⟩ rfl (fun p221 S222 x223 k224 m225 e226 => ?_))
        refine g2_dupR qk112_2.2.2.1.1.1.2 ?_
        refine g2_aload qk112_2.2.2.1.1.2.1 rfl ?_
        refine g2_kn (ek e226 (ek e216 (ek e206 (ek e42 hK0 (by decide)) (by decide)) (by decide)) (by decide)) (g2_getR qk112_2.2.2.1.1.2.2 m225 ⟨by decide, by decide, by decide, rfl⟩ (fun r228 x229 => ?_))
        refine g2_ck (fun q230 => ?_)
        refine g2_kn q230 (g2_callF (t' := 1) qk112_2.2.2.1.2.1.1 (by decide) (ql_ip134 hQ) rfl rfl rfl (by omega) m225 (tq134_size hQ (by omega) m225 q230 x229) (fun y231 S232 x233 m234 e235 => ?_))
        refine g2_aload qk112_2.2.2.1.2.1.2 rfl ?_
        refine g2_iload qk112_2.2.2.1.2.2 rfl ?_
        refine g2_iload qk112_2.2.2.2.1.1.1 rfl ?_
        refine g2_int qk112_2.2.2.2.1.1.2 (2 : Int) rfl ?_
        refine g2_ck (fun q236 => ?_)
        refine g2_div qk112_2.2.2.2.1.2.1 q236 ?_
        refine g2_iload qk112_2.2.2.2.1.2.2 rfl ?_
        refine g2_int qk112_2.2.2.2.2.1.1 (3 : Int) rfl ?_
        refine g2_ck (fun q237 => ?_)
        refine g2_rem qk112_2.2.2.2.2.1.2 q237 ?_
        refine g2_kn (kn_pos m234.2.1 (ek e235 k224.1 (by decide)) (by decide)) (g2_callI qk112_2.2.2.2.2.2 (by decide) (ql_ip114 hQ) rfl rfl rfl (by omega) ⟨_, qd_112_465⟩ (tq114_init hQ (by omega) m234 (ek e235 k224.1 (by decide)) (rfO_of x223) x233 h3 h4 (inR_div q236) (inR_rem q237)) (fun y238 S239 m241 e242 => ?_))
        refine g2_ck (fun q243 => ?_)
        refine g2_kn q243 (g2_callF (t' := 3) qk112_3.1.1.1.1.1.1 (by decide) (ql_ip129 hQ) rfl rfl rfl (by omega) m241 (tq129_add hQ (by omega) m241 q243 x220 (rfO_of x223)) (fun y244 S245 x246 m247 e248 => ?_))
        refine g2_popI qk112_3.1.1.1.1.1.2 ?_
        refine g2_aload qk112_3.1.1.1.1.2.1 rfl ?_
        refine g2_aload qk112_3.1.1.1.1.2.2 rfl ?_
        refine g2_kn (ek e248 (ek e242 (ek e235 (ek e226 (ek e216 (ek e206 q201 (by decide)) (by decide)) (by decide)) (by decide)) (by decide)) (by decide)) (g2_getI qk112_3.1.1.1.2.1.1 m247 ⟨by decide, by decide, by decide, rfl⟩ (fun r249 x250 => ?_))
        refine g2_iload qk112_3.1.1.1.2.1.2 rfl ?_
        refine g2_iload qk112_3.1.1.1.2.2.1 rfl ?_
        refine g2_int qk112_3.1.1.1.2.2.2 (2 : Int) rfl ?_
        refine g2_ck (fun q251 => ?_)
        refine g2_div qk112_3.1.1.2.1.1.1 q251 ?_
        refine g2_iload qk112_3.1.1.2.1.1.2 rfl ?_
        refine g2_int qk112_3.1.1.2.1.2.1 (3 : Int) rfl ?_
        refine g2_ck (fun q252 => ?_)
        refine g2_rem qk112_3.1.1.2.1.2.2 q252 ?_
        refine g2_ck (fun q253 => ?_)
        refine g2_kn q253 (g2_callC (t' := 1) (Is := [r249, v4, (v4 / (2 : Int)), (v4 % (3 : Int))]) qk112_3.1.1.2.2.1.1 (by decide) rfl rfl (by omega) m247 (Or.inl rfl) (by decide) ⟨rfl, rfl⟩ (tfC_spawn (by omega) m247.1.2 kd_c0 x250 h4 (inR_div q251) (inR_rem q252)) (fun y254 S256 x257 m258 e259 => ?_))
        refine g2_aload qk112_3.1.1.2.2.1.2 rfl ?_
        refine g2_kn (ek e259 (ek e248 (ek e242 (ek e235 (ek e226 (ek e216 (ek e206 (ek e42 hK0 (by decide)) (by decide)) (by decide)) (by decide)) (by decide)) (by decide)) (by decide)) (by decide)) (g2_getR qk112_3.1.1.2.2.2 m258 ⟨by decide, by decide, by decide, rfl⟩ (fun r260 x261 => ?_))
        refine g2_ck (fun q262 => ?_)
        refine g2_kn q262 (g2_callF (t' := 1) qk112_3.1.2.1.1.1.1 (by decide) (ql_ip134 hQ) rfl rfl rfl (by omega) m258 (tq134_size hQ (by omega) m258 q262 x261) (fun y263 S264 x265 m266 e267 => ?_))
        refine g2_int qk112_3.1.2.1.1.1.2 (1 : Int) rfl ?_
        refine g2_isub qk112_3.1.2.1.1.2.1 ?_
        refine g2_cmeq qk112_3.1.2.1.1.2.2 x257 (inR_w32 _) (fun c268 => ?_) (fun c269 => ?_)
        · refine g2_int qk112_3.1.2.1.2.1.1 (1 : Int) rfl ?_
          refine g2_goto qk112_3.1.2.1.2.1.2 ?_
          exact g2_zret qk112_3.1.2.2.1.1.1 m266 (Or.inr rfl)
        · refine g2_int qk112_3.1.2.1.2.2 (0 : Int) rfl ?_
          exact g2_zret qk112_3.1.2.2.1.1.1 m266 (Or.inl rfl)
  refine g2_ite (fun c270 => ?_) (fun c271 => ?_)
  · refine g2_swh (lo := (0 : Int)) (hi := (14 : Int)) (i := 6) qk112_0.2.1.1.1.2.2 rfl rfl (by omega) (by omega) rfl ?_
    refine g2_aload qk112_2.2.1.1.1.1.2 rfl ?_
    refine g2_aload qk112_2.2.1.1.1.2.1 rfl ?_
    refine g2_ck (fun q272 => ?_)
    refine g2_kn (ek e42 hK0 (by decide)) (g2_callV (t' := 1) qk112_2.2.1.1.1.2.2 (by decide) (ql_ip104 hQ) (by decide) rfl rfl rfl (by omega) m41 (tq104_room hQ (by omega) m41 (ek e42 hK0 (by decide)) q272 h0 h3) (fun y273 S274 x275 m276 e277 => ?_))
    refine g2_ifeq qk112_2.2.1.1.2.1.1 x275 (fun c278 => ?_) (fun c279 => ?_)
    · refine g2_int qk112_2.2.1.2.1.2.2 (1 : Int) rfl ?_
      exact g2_zret qk112_2.2.1.2.2.1.1 m276 (Or.inr rfl)
    · refine g2_aload qk112_2.2.1.1.2.1.2 rfl ?_
      refine g2_kn (ek e277 (ek e42 hK0 (by decide)) (by decide)) (g2_getR qk112_2.2.1.1.2.2 m276 ⟨by decide, by decide, by decide, rfl⟩ (fun r280 x281 => ?_))
      refine g2_ck (fun q282 => ?_)
      refine g2_kn q282 (g2_callF (t' := 1) qk112_2.2.1.2.1.1.1 (by decide) (ql_ip134 hQ) rfl rfl rfl (by omega) m276 (tq134_size hQ (by omega) m276 q282 x281) (fun y283 S284 x285 m286 e287 => ?_))
      refine g2_int qk112_2.2.1.2.1.1.2 (40 : Int) rfl ?_
      refine g2_cmeq qk112_2.2.1.2.1.2.1 x285 (inR_of (by decide)) (fun c288 => ?_) (fun c289 => ?_)
      · refine g2_int qk112_2.2.1.2.1.2.2 (1 : Int) rfl ?_
        exact g2_zret qk112_2.2.1.2.2.1.1 m286 (Or.inr rfl)
      · refine g2_aload qk112_2.2.1.2.2.1.2 rfl ?_
        refine g2_kn (ek e287 (ek e277 (ek e42 hK0 (by decide)) (by decide)) (by decide)) (g2_getR qk112_2.2.1.2.2.2 m286 ⟨by decide, by decide, by decide, rfl⟩ (fun r290 x291 => ?_))
        refine g2_ck (fun q298 => ?_)
        refine g2_kn q298 (g2_new qk112_2.2.2.1.1.1.1 m286 ⟨⟨by decide, by decide⟩, rfl, by decide⟩ rfl (fun p292 S293 x294 k295 m296 e297 => ?_))
        refine g2_dupR qk112_2.2.2.1.1.1.2 ?_
        refine g2_aload qk112_2.2.2.1.1.2.1 rfl ?_
        refine g2_kn (ek e297 (ek e287 (ek e277 (ek e42 hK0 (by decide)) (by decide)) (by decide)) (by decide)) (g2_getR qk112_2.2.2.1.1.2.2 m296 ⟨by decide, by decide, by decide, rfl⟩ (fun r299 x300 => ?_))
        refine g2_ck (fun q301 => ?_)
        refine g2_kn q301 (g2_callF (t' := 1) qk112_2.2.2.1.2.1.1 (by decide) (ql_ip134 hQ) rfl rfl rfl (by omega) m296 (tq134_size hQ (by omega) m296 q301 x300) (fun y302 S303 x304 m305 e306 => ?_))
        refine g2_aload qk112_2.2.2.1.2.1.2 rfl ?_
        refine g2_iload qk112_2.2.2.1.2.2 rfl ?_
        refine g2_iload qk112_2.2.2.2.1.1.1 rfl ?_
        refine g2_int qk112_2.2.2.2.1.1.2 (2 : Int) rfl ?_
        refine g2_ck (fun q307 => ?_)
        refine g2_div qk112_2.2.2.2.1.2.1 q307 ?_
        refine g2_iload qk112_2.2.2.2.1.2.2 rfl ?_
        refine g2_int qk112_2.2.2.2.2.1.1 (3 : Int) rfl ?_
        refine g2_ck (fun q308 => ?_)
        refine g2_rem qk112_2.2.2.2.2.1.2 q308 ?_
        refine g2_kn (kn_pos m305.2.1 (ek e306 k295.1 (by decide)) (by decide)) (g2_callI qk112_2.2.2.2.2.2 (by decide) (ql_ip114 hQ) rfl rfl rfl (by omega) ⟨_, qd_112_465⟩ (tq114_init hQ (by omega) m305 (ek e306 k295.1 (by decide)) (rfO_of x294) x304 h3 h4 (inR_div q307) (inR_rem q308)) (fun y309 S310 m312 e313 => ?_))
        refine g2_ck (fun q314 => ?_)
        refine g2_kn q314 (g2_callF (t' := 3) qk112_3.1.1.1.1.1.1 (by decide) (ql_ip129 hQ) rfl rfl rfl (by omega) m312 (tq129_add hQ (by omega) m312 q314 x291 (rfO_of x294)) (fun y315 S316 x317 m318 e319 => ?_))
        refine g2_popI qk112_3.1.1.1.1.1.2 ?_
        refine g2_aload qk112_3.1.1.1.1.2.1 rfl ?_
        refine g2_aload qk112_3.1.1.1.1.2.2 rfl ?_
        refine g2_kn (ek e319 (ek e313 (ek e306 (ek e297 (ek e287 (ek e277 q272 (by decide)) (by decide)) (by decide)) (by decide)) (by decide)) (by decide)) (g2_getI qk112_3.1.1.1.2.1.1 m318 ⟨by decide, by decide, by decide, rfl⟩ (fun r320 x321 => ?_))
        refine g2_iload qk112_3.1.1.1.2.1.2 rfl ?_
        refine g2_iload qk112_3.1.1.1.2.2.1 rfl ?_
        refine g2_int qk112_3.1.1.1.2.2.2 (2 : Int) rfl ?_
        refine g2_ck (fun q322 => ?_)
        refine g2_div qk112_3.1.1.2.1.1.1 q322 ?_
        refine g2_iload qk112_3.1.1.2.1.1.2 rfl ?_
        refine g2_int qk112_3.1.1.2.1.2.1 (3 : Int) rfl ?_
        refine g2_ck (fun q323 => ?_)
        refine g2_rem qk112_3.1.1.2.1.2.2 q323 ?_
        refine g2_ck (fun q324 => ?_)
        refine g2_kn q324 (g2_callC (t' := 1) (Is := [r320, v4, (v4 / (2 : Int)), (v4 % (3 : Int))]) qk112_3.1.1.2.2.1.1 (by decide) rfl rfl (by omega) m318 (Or.inl rfl) (by decide) ⟨rfl, rfl⟩ (tfC_spawn (by omega) m318.1.2 kd_c0 x321 h4 (inR_div q322) (inR_rem q323)) (fun y325 S327 x328 m329 e330 => ?_))
        refine g2_aload qk112_3.1.1.2.2.1.2 rfl ?_
        refine g2_kn (ek e330 (ek e319 (ek e313 (ek e306 (ek e297 (ek e287 (ek e277 (ek e42 hK0 (by decide)) (by decide)) (by decide)) (by decide)) (by decide)) (by decide)) (by decide)) (by decide)) (g2_getR qk112_3.1.1.2.2.2 m329 ⟨by decide, by decide, by decide, rfl⟩ (fun r331 x332 => ?_))
        refine g2_ck (fun q333 => ?_)
        refine g2_kn q333 (g2_callF (t' := 1) qk112_3.1.2.1.1.1.1 (by decide) (ql_ip134 hQ) rfl rfl rfl (by omega) m329 (tq134_size hQ (by omega) m329 q333 x332) (fun y334 S335 x336 m337 e338 => ?_))
        refine g2_int qk112_3.1.2.1.1.1.2 (1 : Int) rfl ?_
        refine g2_isub qk112_3.1.2.1.1.2.1 ?_
        refine g2_cmeq qk112_3.1.2.1.1.2.2 x328 (inR_w32 _) (fun c339 => ?_) (fun c340 => ?_)
        · refine g2_int qk112_3.1.2.1.2.1.1 (1 : Int) rfl ?_
          refine g2_goto qk112_3.1.2.1.2.1.2 ?_
          exact g2_zret qk112_3.1.2.2.1.1.1 m337 (Or.inr rfl)
        · refine g2_int qk112_3.1.2.1.2.2 (0 : Int) rfl ?_
          exact g2_zret qk112_3.1.2.2.1.1.1 m337 (Or.inl rfl)
  refine g2_ite (fun c341 => ?_) (fun c342 => ?_)
  · refine g2_swh (lo := (0 : Int)) (hi := (14 : Int)) (i := 7) qk112_0.2.1.1.1.2.2 rfl rfl (by omega) (by omega) rfl ?_
    refine g2_iload qk112_3.1.2.2.1.1.2 rfl ?_
    refine g2_ifeq qk112_3.1.2.2.1.2.1 (inR_b z0) (fun c343 => ?_) (fun c344 => ?_)
    · refine g2_aload qk112_3.1.2.2.2.1.2 rfl ?_
      refine g2_dupR qk112_3.1.2.2.2.2 ?_
      refine g2_ck (fun q345 => ?_)
      refine g2_kn q345 (g2_getI qk112_3.2.1.1.1.1.1 m41 ⟨by decide, by decide, by decide, rfl⟩ (fun r346 x347 => ?_))
      refine g2_int qk112_3.2.1.1.1.1.2 (1 : Int) rfl ?_
      refine g2_iload qk112_3.2.1.1.1.2.1 rfl ?_
      refine g2_ibin qk112_3.2.1.1.1.2.2 ?_
      refine g2_ibin qk112_3.2.1.1.2.1.1 ?_
      refine g2_kn ⟨q345, h3.2⟩ (g2_putI qk112_3.2.1.1.2.1.2 m41 ⟨by decide, by decide, rfl⟩ (inR_opI _ _ _) (fun S348 m349 e350 => ?_))
      refine g2_int qk112_3.2.1.1.2.2.1 (0 : Int) rfl ?_
      refine g2_istore qk112_3.2.1.1.2.2.2 rfl (loc2 := [some (sR v0), some (sR v1), some (sI v2), some (sR v3), some (sI v4), some (sI a0), some (sI (0 : Int)), u7, u8, u9]) rfl ?_
      refine g2_aload qk112_3.2.1.2.1.1.1 rfl ?_
      refine g2_aload qk112_3.2.1.2.1.1.2 rfl ?_
      refine g2_int qk112_3.2.1.2.1.2.1 (0 : Int) rfl ?_
      refine g2_kn (ek e350 (ek e42 hK0 (by decide)) (by decide)) (g2_callV (t' := 2) qk112_3.2.1.2.1.2.2 (by decide) (ql_ip103 hQ) (by decide) rfl rfl rfl (by omega) m349 (tq103_children hQ (by omega) m349 (ek e350 (ek e42 hK0 (by decide)) (by decide)) h0 h3 (inR_b (Or.inl rfl))) (fun y351 S352 x353 m354 e355 => ?_))
      refine g2_ck (fun q356 => ?_)
      refine g2_kn q356 (g2_callF (t' := 2) qk112_3.2.1.2.2.1.1 (by decide) (ql_ip136 hQ) rfl rfl rfl (by omega) m354 (tq136_iterator hQ (by omega) m354 q356 x353) (fun y357 S358 x359 m360 e361 => ?_))
      refine g2_astore qk112_3.2.1.2.2.1.2 rfl (loc2 := [some (sR v0), some (sR v1), some (sI v2), some (sR v3), some (sI v4), some (sI a0), some (sI (0 : Int)), some (sR y357), u8, u9]) rfl ?_
      exact tl112_548 hQ hd h0 h1 h3 h4 x359 fu (0 : Int) (inR_b (Or.inl rfl)) S358 m360 (ek e361 (ek e355 (ek e350 (ek e42 hK0 (by decide)) (by decide)) (by decide)) (by decide)) (some (sI v2)) rfl (some (sI a0)) rfl u8 w8 u9 w9
    · refine g2_int qk112_3.1.2.2.1.2.2 (1 : Int) rfl ?_
      exact g2_zret qk112_3.1.2.2.2.1.1 m41 (Or.inr rfl)
  refine g2_ite (fun c362 => ?_) (fun c363 => ?_)
  · refine g2_swh (lo := (0 : Int)) (hi := (14 : Int)) (i := 8) qk112_0.2.1.1.1.2.2 rfl rfl (by omega) (by omega) rfl ?_
    refine g2_aload qk112_4.1.2.1.1.2.1 rfl ?_
    refine g2_ck (fun q364 => ?_)
    refine g2_kn q364 (g2_getI qk112_4.1.2.1.1.2.2 m41 ⟨by decide, by decide, by decide, rfl⟩ (fun r365 x366 => ?_))
    refine g2_ifeq qk112_4.1.2.1.2.1.1 x366 (fun c367 => ?_) (fun c368 => ?_)
    · refine g2_aload qk112_4.1.2.2.1.1.1 rfl ?_
      refine g2_kn q364 (g2_getI qk112_4.1.2.2.1.1.2 m41 ⟨by decide, by decide, by decide, rfl⟩ (fun r369 x370 => ?_))
      refine g2_iload qk112_4.1.2.2.1.2.1 rfl ?_
      refine g2_ibin qk112_4.1.2.2.1.2.2 ?_
      refine g2_int qk112_4.1.2.2.2.1.1 (1 : Int) rfl ?_
      refine g2_ibin qk112_4.1.2.2.2.1.2 ?_
      refine g2_int qk112_4.1.2.2.2.2 (1 : Int) rfl ?_
      refine g2_cmeq qk112_4.2.1.1.1.1.1 (inR_opI _ _ _) (inR_b (Or.inr rfl)) (fun c371 => ?_) (fun c372 => ?_)
      · refine g2_int qk112_4.2.1.1.1.1.2 (1 : Int) rfl ?_
        refine g2_goto qk112_4.2.1.1.1.2.1 ?_
        exact tj112_650 hQ hd h1 h3 h4 (Or.inr rfl) S39 m41 (some (sR v0)) rfl (some (sI v2)) rfl (some (sI a0)) rfl u6 w6 u7 w7 u8 w8 u9 w9
      · refine g2_int qk112_4.2.1.1.1.2.2 (0 : Int) rfl ?_
        exact tj112_650 hQ hd h1 h3 h4 (Or.inl rfl) S39 m41 (some (sR v0)) rfl (some (sI v2)) rfl (some (sI a0)) rfl u6 w6 u7 w7 u8 w8 u9 w9
    · refine g2_int qk112_4.1.2.1.2.1.2 (1 : Int) rfl ?_
      exact g2_zret qk112_4.1.2.1.2.2 m41 (Or.inr rfl)
  refine g2_ite (fun c373 => ?_) (fun c374 => ?_)
  · refine g2_swh (lo := (0 : Int)) (hi := (14 : Int)) (i := 9) qk112_0.2.1.1.1.2.2 rfl rfl (by omega) (by omega) rfl ?_
    refine g2_aload qk112_4.2.2.2.2.1.2 rfl ?_
    refine g2_ck (fun q375 => ?_)
    refine g2_kn q375 (g2_getI qk112_4.2.2.2.2.2 m41 ⟨by decide, by decide, by decide, rfl⟩ (fun r376 x377 => ?_))
    refine g2_ifeq qk112_5.1.1.1.1.1.1 x377 (fun c378 => ?_) (fun c379 => ?_)
    · refine g2_aload qk112_5.1.1.1.1.2.2 rfl ?_
      refine g2_kn q375 (g2_getI qk112_5.1.1.1.2.1.1 m41 ⟨by decide, by decide, by decide, rfl⟩ (fun r380 x381 => ?_))
      refine g2_istore qk112_5.1.1.1.2.1.2 rfl (loc2 := [some (sR v0), some (sR v1), some (sI v2), some (sR v3), some (sI v4), some (sI a0), some (sI r380), u7, u8, u9]) rfl ?_
      refine g2_aload qk112_5.1.1.1.2.2.1 rfl ?_
      refine g2_iload qk112_5.1.1.1.2.2.2 rfl ?_
      refine g2_kn ⟨q375, h3.2⟩ (g2_putI qk112_5.1.1.2.1.1.1 m41 ⟨by decide, by decide, rfl⟩ h4 (fun S382 m383 e384 => ?_))
      refine g2_aload qk112_5.1.1.2.1.1.2 rfl ?_
      refine g2_aload qk112_5.1.1.2.1.2.1 rfl ?_
      refine g2_kn (ek e384 q375 (by decide)) (g2_getI qk112_5.1.1.2.1.2.2 m383 ⟨by decide, by decide, by decide, rfl⟩ (fun r385 x386 => ?_))
      refine g2_iload qk112_5.1.1.2.2.1.1 rfl ?_
      refine g2_ck (fun q387 => ?_)
      refine g2_kn q387 (g2_callC (t' := 1) (Is := [r385, v4]) qk112_5.1.1.2.2.1.2 (by decide) rfl rfl (by omega) m383 (Or.inl rfl) (by decide) ⟨rfl, rfl⟩ (tfC_setCapacity (by omega) m383.1.2 kd_c0 x386 h4) (fun y388 S390 x391 m392 e393 => ?_))
      refine g2_iload qk112_5.1.1.2.2.2 rfl ?_
      refine g2_cmeq qk112_5.1.2.1.1.1.1 x391 x381 (fun c394 => ?_) (fun c395 => ?_)
      · refine g2_int qk112_5.1.2.1.1.1.2 (1 : Int) rfl ?_
        refine g2_goto qk112_5.1.2.1.1.2.1 ?_
        exact g2_zret qk112_5.1.2.1.2.1.1 m392 (Or.inr rfl)
      · refine g2_int qk112_5.1.2.1.1.2.2 (0 : Int) rfl ?_
        exact g2_zret qk112_5.1.2.1.2.1.1 m392 (Or.inl rfl)
    · refine g2_int qk112_5.1.1.1.1.1.2 (1 : Int) rfl ?_
      exact g2_zret qk112_5.1.1.1.1.2.1 m41 (Or.inr rfl)
  refine g2_ite (fun c396 => ?_) (fun c397 => ?_)
  · refine g2_swh (lo := (0 : Int)) (hi := (14 : Int)) (i := 10) qk112_0.2.1.1.1.2.2 rfl rfl (by omega) (by omega) rfl ?_
    refine g2_aload qk112_5.1.2.1.2.1.2 rfl ?_
    refine g2_ck (fun q398 => ?_)
    refine g2_kn q398 (g2_getI qk112_5.1.2.1.2.2 m41 ⟨by decide, by decide, by decide, rfl⟩ (fun r399 x400 => ?_))
    refine g2_ifeq qk112_5.1.2.2.1.1.1 x400 (fun c401 => ?_) (fun c402 => ?_)
    · refine g2_aload qk112_5.1.2.2.1.2.2 rfl ?_
      refine g2_kn q398 (g2_getI qk112_5.1.2.2.2.1.1 m41 ⟨by decide, by decide, by decide, rfl⟩ (fun r403 x404 => ?_))
      refine g2_istore qk112_5.1.2.2.2.1.2 rfl (loc2 := [some (sR v0), some (sR v1), some (sI v2), some (sR v3), some (sI v4), some (sI a0), some (sI r403), u7, u8, u9]) rfl ?_
      refine g2_aload qk112_5.1.2.2.2.2 rfl ?_
      refine g2_iload qk112_5.2.1.1.1.1.1 rfl ?_
      refine g2_kn ⟨q398, h3.2⟩ (g2_putI qk112_5.2.1.1.1.1.2 m41 ⟨by decide, by decide, rfl⟩ h4 (fun S405 m406 e407 => ?_))
      refine g2_aload qk112_5.2.1.1.1.2.1 rfl ?_
      refine g2_aload qk112_5.2.1.1.1.2.2 rfl ?_
      refine g2_kn (ek e407 q398 (by decide)) (g2_getI qk112_5.2.1.1.2.1.1 m406 ⟨by decide, by decide, by decide, rfl⟩ (fun r408 x409 => ?_))
      refine g2_iload qk112_5.2.1.1.2.1.2 rfl ?_
      refine g2_ck (fun q410 => ?_)
      refine g2_kn q410 (g2_callC (t' := 1) (Is := [r408, v4]) qk112_5.2.1.1.2.2.1 (by decide) rfl rfl (by omega) m406 (Or.inl rfl) (by decide) ⟨rfl, rfl⟩ (tfC_setBudget (by omega) m406.1.2 kd_c0 x409 h4) (fun y411 S413 x414 m415 e416 => ?_))
      refine g2_iload qk112_5.2.1.1.2.2.2 rfl ?_
      refine g2_cmeq qk112_5.2.1.2.1.1.1 x414 x404 (fun c417 => ?_) (fun c418 => ?_)
      · refine g2_int qk112_5.2.1.2.1.1.2 (1 : Int) rfl ?_
        refine g2_goto qk112_5.2.1.2.1.2.1 ?_
        exact g2_zret qk112_5.2.1.2.2.1.1 m415 (Or.inr rfl)
      · refine g2_int qk112_5.2.1.2.1.2.2 (0 : Int) rfl ?_
        exact g2_zret qk112_5.2.1.2.2.1.1 m415 (Or.inl rfl)
    · refine g2_int qk112_5.1.2.2.1.1.2 (1 : Int) rfl ?_
      exact g2_zret qk112_5.1.2.2.1.2.1 m41 (Or.inr rfl)
  refine g2_ite (fun c419 => ?_) (fun c420 => ?_)
  · refine g2_swh (lo := (0 : Int)) (hi := (14 : Int)) (i := 11) qk112_0.2.1.1.1.2.2 rfl rfl (by omega) (by omega) rfl ?_
    refine g2_aload qk112_5.2.1.2.2.1.2 rfl ?_
    refine g2_kn (ek e42 hK0 (by decide)) (g2_getR qk112_5.2.1.2.2.2 m41 ⟨by decide, by decide, by decide, rfl⟩ (fun r421 x422 => ?_))
    refine g2_iload qk112_5.2.2.1.1.1.1 rfl ?_
    refine g2_aload qk112_5.2.2.1.1.1.2 rfl ?_
    refine g2_kn (ek e42 hK0 (by decide)) (g2_getR qk112_5.2.2.1.1.2.1 m41 ⟨by decide, by decide, by decide, rfl⟩ (fun r423 x424 => ?_))
    refine g2_ck (fun q425 => ?_)
    refine g2_kn q425 (g2_callF (t' := 1) qk112_5.2.2.1.1.2.2 (by decide) (ql_ip134 hQ) rfl rfl rfl (by omega) m41 (tq134_size hQ (by omega) m41 q425 x424) (fun y426 S427 x428 m429 e430 => ?_))
    refine g2_ck (fun q431 => ?_)
    refine g2_rem qk112_5.2.2.1.2.1.1 q431 ?_
    refine g2_ck (fun q432 => ?_)
    refine g2_kn q432 (g2_callF (t' := 2) qk112_5.2.2.1.2.1.2 (by decide) (ql_ip133 hQ) rfl rfl rfl (by omega) m429 (tq133_get hQ (by omega) m429 q432 x422 (inR_rem q431)) (fun y433 S434 x435 m436 e437 => ?_))
    refine g2_ck (fun q438 => ?_)
    refine g2_kn q438 (g2_cast7 qk112_5.2.2.1.2.2 m436 x435 ?_)
    refine g2_astore qk112_5.2.2.2.1.1.1 rfl (loc2 := [some (sR v0), some (sR v1), some (sI v2), some (sR v3), some (sI v4), some (sI a0), some (sR y433), u7, u8, u9]) rfl ?_
    refine g2_iload qk112_5.2.2.2.1.1.2 rfl ?_
    refine g2_ifeq qk112_5.2.2.2.1.2.1 (inR_b z0) (fun c439 => ?_) (fun c440 => ?_)
    · refine g2_aload qk112_5.2.2.2.1.2.2 rfl ?_
      refine g2_aload qk112_5.2.2.2.2.1.1 rfl ?_
      refine g2_acmp qk112_5.2.2.2.2.1.2 x435 h3 (fun c441 => ?_) (fun c442 => ?_)
      · refine g2_int qk112_5.2.2.2.2.2 (1 : Int) rfl ?_
        exact g2_zret qk112_6.1.1.1.1.1.1 m436 (Or.inr rfl)
      · refine g2_aload qk112_6.1.1.1.1.1.2 rfl ?_
        refine g2_ck (fun q443 => ?_)
        refine g2_kn q443 (g2_getR qk112_6.1.1.1.1.2.1 m436 ⟨by decide, by decide, by decide, rfl⟩ (fun r444 x445 => ?_))
        refine g2_isnull qk112_6.1.1.1.1.2.2 (fun c446 => ?_) (fun c447 => ?_)
        · refine g2_int qk112_6.1.1.1.2.1.1 (-1 : Int) rfl ?_
          refine g2_goto qk112_6.1.1.1.2.1.2 ?_
          exact tj112_829 hQ hd h1 h3 x435 (inR_of (by decide)) S434 m436 (some (sR v0)) rfl (some (sI v2)) rfl (some (sI v4)) rfl (some (sI a0)) rfl u7 w7 u8 w8 u9 w9
        · refine g2_aload qk112_6.1.1.1.2.2.1 rfl ?_
          refine g2_kn q443 (g2_getR qk112_6.1.1.1.2.2.2 m436 ⟨by decide, by decide, by decide, rfl⟩ (fun r448 x449 => ?_))
          refine g2_ck (fun q450 => ?_)
          refine g2_kn q450 (g2_getI qk112_6.1.1.2.1.1.1 m436 ⟨by decide, by decide, by decide, rfl⟩ (fun r451 x452 => ?_))
          exact tj112_829 hQ hd h1 h3 x435 x452 S434 m436 (some (sR v0)) rfl (some (sI v2)) rfl (some (sI v4)) rfl (some (sI a0)) rfl u7 w7 u8 w8 u9 w9
    · refine g2_int qk112_5.2.2.2.2.2 (1 : Int) rfl ?_
      exact g2_zret qk112_6.1.1.1.1.1.1 m436 (Or.inr rfl)
  refine g2_ite (fun c453 => ?_) (fun c454 => ?_)
  · refine g2_swh (lo := (0 : Int)) (hi := (14 : Int)) (i := 12) qk112_0.2.1.1.1.2.2 rfl rfl (by omega) (by omega) rfl ?_
    refine g2_aload qk112_6.1.2.2.1.2.2 rfl ?_
    refine g2_ck (fun q455 => ?_)
    refine g2_kn q455 (g2_getI qk112_6.1.2.2.2.1.1 m41 ⟨by decide, by decide, by decide, rfl⟩ (fun r456 x457 => ?_))
    refine g2_ifeq qk112_6.1.2.2.2.1.2 x457 (fun c458 => ?_) (fun c459 => ?_)
    · refine g2_aload qk112_6.2.1.1.1.1.2 rfl ?_
      refine g2_kn (ek e42 hK0 (by decide)) (g2_getR qk112_6.2.1.1.1.2.1 m41 ⟨by decide, by decide, by decide, rfl⟩ (fun r460 x461 => ?_))
      refine g2_iload qk112_6.2.1.1.1.2.2 rfl ?_
      refine g2_ck (fun q462 => ?_)
      refine g2_ck (fun q463 => ?_)
      refine g2_kn ⟨Or.inr q462, q463⟩ (g2_aald qk112_6.2.1.1.2.1.1 m41 (fun r464 x465 => ?_))
      refine g2_ck (fun q466 => ?_)
      refine g2_kn q466 (g2_getI qk112_6.2.1.1.2.1.2 m41 ⟨by decide, by decide, by decide, rfl⟩ (fun r467 x468 => ?_))
      refine g2_istore qk112_6.2.1.1.2.2 rfl (loc2 := [some (sR v0), some (sR v1), some (sI v2), some (sR v3), some (sI v4), some (sI a0), some (sI r467), u7, u8, u9]) rfl ?_
      refine g2_aload qk112_6.2.1.2.1.1.1 rfl ?_
      refine g2_kn (ek e42 hK0 (by decide)) (g2_getR qk112_6.2.1.2.1.1.2 m41 ⟨by decide, by decide, by decide, rfl⟩ (fun r469 x470 => ?_))
      refine g2_iload qk112_6.2.1.2.1.2.1 rfl ?_
      refine g2_aload qk112_6.2.1.2.1.2.2 rfl ?_
      refine g2_ck (fun q471 => ?_)
      refine g2_ck (fun q472 => ?_)
      refine g2_kn ⟨Or.inr q471, x470.2, q472, (Or.inr q455)⟩ (g2_aast qk112_6.2.1.2.2.1.1 m41 h3 (fun S473 m474 e475 => ?_))
      refine g2_aload qk112_6.2.1.2.2.1.2 rfl ?_
      refine g2_iload qk112_6.2.1.2.2.2 rfl ?_
      refine g2_aload qk112_6.2.2.1.1.1.1 rfl ?_
      refine g2_kn (ek e475 q455 (by decide)) (g2_getI qk112_6.2.2.1.1.1.2 m474 ⟨by decide, by decide, by decide, rfl⟩ (fun r476 x477 => ?_))
      refine g2_ck (fun q478 => ?_)
      refine g2_kn q478 (g2_callC (t' := 1) (Is := [v4, r476]) qk112_6.2.2.1.1.2.1 (by decide) rfl rfl (by omega) m474 (Or.inl rfl) (by decide) ⟨rfl, rfl⟩ (tfC_give (by omega) m474.1.2 kd_c0 h4 x477) (fun y479 S481 x482 m483 e484 => ?_))
      refine g2_iload qk112_6.2.2.1.1.2.2 rfl ?_
      refine g2_cmeq qk112_6.2.2.1.2.1.1 x482 x468 (fun c485 => ?_) (fun c486 => ?_)
      · refine g2_int qk112_6.2.2.1.2.1.2 (1 : Int) rfl ?_
        refine g2_goto qk112_6.2.2.1.2.2 ?_
        exact g2_zret qk112_6.2.2.2.1.1.2 m483 (Or.inr rfl)
      · refine g2_int qk112_6.2.2.2.1.1.1 (0 : Int) rfl ?_
        exact g2_zret qk112_6.2.2.2.1.1.2 m483 (Or.inl rfl)
    · refine g2_int qk112_6.1.2.2.2.2 (1 : Int) rfl ?_
      exact g2_zret qk112_6.2.1.1.1.1.1 m41 (Or.inr rfl)
  refine g2_ite (fun c487 => ?_) (fun c488 => ?_)
  · refine g2_swh (lo := (0 : Int)) (hi := (14 : Int)) (i := 13) qk112_0.2.1.1.1.2.2 rfl rfl (by omega) (by omega) rfl ?_
    refine g2_aload qk112_6.2.2.2.1.2.1 rfl ?_
    refine g2_ck (fun q489 => ?_)
    refine g2_kn q489 (g2_getI qk112_6.2.2.2.1.2.2 m41 ⟨by decide, by decide, by decide, rfl⟩ (fun r490 x491 => ?_))
    refine g2_ifeq qk112_6.2.2.2.2.1.1 x491 (fun c492 => ?_) (fun c493 => ?_)
    · refine g2_aload qk112_7.1.1.1.1.1.1 rfl ?_
      refine g2_aload qk112_7.1.1.1.1.1.2 rfl ?_
      refine g2_kn q489 (g2_getI qk112_7.1.1.1.1.2.1 m41 ⟨by decide, by decide, by decide, rfl⟩ (fun r494 x495 => ?_))
      refine g2_ck (fun q496 => ?_)
      refine g2_kn q496 (g2_callC (t' := 1) (Is := [r494]) qk112_7.1.1.1.1.2.2 (by decide) rfl rfl (by omega) m41 (Or.inl rfl) (by decide) ⟨rfl, rfl⟩ (tfC_readAll (by omega) m41.1.2 kd_c0 x495) (fun y497 S499 x500 m501 e502 => ?_))
      refine g2_aload qk112_7.1.1.1.2.1.1 rfl ?_
      refine g2_aload qk112_7.1.1.1.2.1.2 rfl ?_
      refine g2_kn (ek e502 (ek e42 hK0 (by decide)) (by decide)) (g2_callV (t' := 1) qk112_7.1.1.1.2.2.1 (by decide) (ql_ip108 hQ) (by decide) rfl rfl rfl (by omega) m501 (tq108_readAll hQ (by omega) m501 (ek e502 (ek e42 hK0 (by decide)) (by decide)) h0 h3) (fun y503 S504 x505 m506 e507 => ?_))
      refine g2_cmeq qk112_7.1.1.1.2.2.2 x500 x505 (fun c508 => ?_) (fun c509 => ?_)
      · refine g2_int qk112_7.1.1.2.1.1.1 (1 : Int) rfl ?_
        refine g2_goto qk112_7.1.1.2.1.1.2 ?_
        exact g2_zret qk112_7.1.1.2.1.2.2 m506 (Or.inr rfl)
      · refine g2_int qk112_7.1.1.2.1.2.1 (0 : Int) rfl ?_
        exact g2_zret qk112_7.1.1.2.1.2.2 m506 (Or.inl rfl)
    · refine g2_int qk112_6.2.2.2.2.1.2 (1 : Int) rfl ?_
      exact g2_zret qk112_6.2.2.2.2.2 m41 (Or.inr rfl)
  refine g2_ite (fun c510 => ?_) (fun c511 => ?_)
  · refine g2_swh (lo := (0 : Int)) (hi := (14 : Int)) (i := 14) qk112_0.2.1.1.1.2.2 rfl rfl (by omega) (by omega) rfl ?_
    refine g2_aload qk112_7.1.1.2.2.1.1 rfl ?_
    refine g2_kn (ek e42 hK0 (by decide)) (g2_getR qk112_7.1.1.2.2.1.2 m41 ⟨by decide, by decide, by decide, rfl⟩ (fun r512 x513 => ?_))
    refine g2_iload qk112_7.1.1.2.2.2 rfl ?_
    refine g2_aload qk112_7.1.2.1.1.1.1 rfl ?_
    refine g2_kn (ek e42 hK0 (by decide)) (g2_getR qk112_7.1.2.1.1.1.2 m41 ⟨by decide, by decide, by decide, rfl⟩ (fun r514 x515 => ?_))
    refine g2_ck (fun q516 => ?_)
    refine g2_kn q516 (g2_callF (t' := 1) qk112_7.1.2.1.1.2.1 (by decide) (ql_ip134 hQ) rfl rfl rfl (by omega) m41 (tq134_size hQ (by omega) m41 q516 x515) (fun y517 S518 x519 m520 e521 => ?_))
    refine g2_ck (fun q522 => ?_)
    refine g2_rem qk112_7.1.2.1.1.2.2 q522 ?_
    refine g2_ck (fun q523 => ?_)
    refine g2_kn q523 (g2_callF (t' := 2) qk112_7.1.2.1.2.1.1 (by decide) (ql_ip133 hQ) rfl rfl rfl (by omega) m520 (tq133_get hQ (by omega) m520 q523 x513 (inR_rem q522)) (fun y524 S525 x526 m527 e528 => ?_))
    refine g2_ck (fun q529 => ?_)
    refine g2_kn q529 (g2_cast7 qk112_7.1.2.1.2.1.2 m527 x526 ?_)
    refine g2_astore qk112_7.1.2.1.2.2 rfl (loc2 := [some (sR v0), some (sR v1), some (sI v2), some (sR v3), some (sI v4), some (sI a0), some (sR y524), u7, u8, u9]) rfl ?_
    refine g2_iload qk112_7.1.2.2.1.1.1 rfl ?_
    refine g2_ifeq qk112_7.1.2.2.1.1.2 (inR_b z0) (fun c530 => ?_) (fun c531 => ?_)
    · refine g2_aload qk112_7.1.2.2.1.2.1 rfl ?_
      refine g2_ck (fun q532 => ?_)
      refine g2_kn q532 (g2_getI qk112_7.1.2.2.1.2.2 m527 ⟨by decide, by decide, by decide, rfl⟩ (fun r533 x534 => ?_))
      refine g2_ifeq qk112_7.1.2.2.2.1.1 x534 (fun c535 => ?_) (fun c536 => ?_)
      · refine g2_aload qk112_7.1.2.2.2.1.2 rfl ?_
        refine g2_aload qk112_7.1.2.2.2.2 rfl ?_
        refine g2_acmp qk112_7.2.1.1.1.1.1 x526 h3 (fun c537 => ?_) (fun c538 => ?_)
        · refine g2_int qk112_7.2.2.1.1.2.2 (1 : Int) rfl ?_
          exact g2_zret qk112_7.2.2.1.2.1.1 m527 (Or.inr rfl)
        · refine g2_aload qk112_7.2.1.1.1.1.2 rfl ?_
          refine g2_aload qk112_7.2.1.1.1.2.1 rfl ?_
          refine g2_kn q532 (g2_callV (t' := 3) qk112_7.2.1.1.1.2.2 (by decide) (ql_ip115 hQ) (by decide) rfl rfl rfl (by omega) m527 (tq115_isBelow hQ (by omega) m527 q532 x526 h3) (fun y539 S540 x541 m542 e543 => ?_))
          refine g2_ifeq qk112_7.2.1.1.2.1.1 (inR_b x541) (fun c544 => ?_) (fun c545 => ?_)
          · refine g2_aload qk112_7.2.1.1.2.1.2 rfl ?_
            refine g2_aload qk112_7.2.1.1.2.2.1 rfl ?_
            refine g2_kn (ek e543 (ek e528 (ek e521 (ek e42 hK0 (by decide)) (by decide)) (by decide)) (by decide)) (g2_callV (t' := 1) qk112_7.2.1.1.2.2.2 (by decide) (ql_ip104 hQ) (by decide) rfl rfl rfl (by omega) m542 (tq104_room hQ (by omega) m542 (ek e543 (ek e528 (ek e521 (ek e42 hK0 (by decide)) (by decide)) (by decide)) (by decide)) (ek e543 q532 (by decide)) h0 x526) (fun y546 S547 x548 m549 e550 => ?_))
            refine g2_ifeq qk112_7.2.1.2.1.1.1 x548 (fun c551 => ?_) (fun c552 => ?_)
            · refine g2_int qk112_7.2.2.1.1.2.2 (1 : Int) rfl ?_
              exact g2_zret qk112_7.2.2.1.2.1.1 m549 (Or.inr rfl)
            · refine g2_aload qk112_7.2.1.2.1.1.2 rfl ?_
              refine g2_kn (ek e550 (ek e543 q532 (by decide)) (by decide)) (g2_getI qk112_7.2.1.2.1.2.1 m549 ⟨by decide, by decide, by decide, rfl⟩ (fun r553 x554 => ?_))
              refine g2_aload qk112_7.2.1.2.1.2.2 rfl ?_
              refine g2_ck (fun q555 => ?_)
              refine g2_kn q555 (g2_getI qk112_7.2.1.2.2.1.1 m549 ⟨by decide, by decide, by decide, rfl⟩ (fun r556 x557 => ?_))
              refine g2_ibin qk112_7.2.1.2.2.1.2 ?_
              refine g2_int qk112_7.2.1.2.2.2 (1 : Int) rfl ?_
              refine g2_ibin qk112_7.2.2.1.1.1.1 ?_
              refine g2_int qk112_7.2.2.1.1.1.2 (1 : Int) rfl ?_
              refine g2_cmeq qk112_7.2.2.1.1.2.1 (inR_opI _ _ _) (inR_b (Or.inr rfl)) (fun c558 => ?_) (fun c559 => ?_)
              · refine g2_int qk112_7.2.2.1.1.2.2 (1 : Int) rfl ?_
                exact g2_zret qk112_7.2.2.1.2.1.1 m549 (Or.inr rfl)
              · refine g2_aload qk112_7.2.2.1.2.1.2 rfl ?_
                refine g2_kn q555 (g2_getR qk112_7.2.2.1.2.2 m549 ⟨by decide, by decide, by decide, rfl⟩ (fun r560 x561 => ?_))
                refine g2_ck (fun q562 => ?_)
                refine g2_kn q562 (g2_getI qk112_7.2.2.2.1.1.1 m549 ⟨by decide, by decide, by decide, rfl⟩ (fun r563 x564 => ?_))
                refine g2_istore qk112_7.2.2.2.1.1.2 rfl (loc2 := [some (sR v0), some (sR v1), some (sI v2), some (sR v3), some (sI v4), some (sI a0), some (sR y524), some (sI r563), u8, u9]) rfl ?_
                refine g2_aload qk112_7.2.2.2.1.2.1 rfl ?_
                refine g2_aload qk112_7.2.2.2.1.2.2 rfl ?_
                refine g2_kn ⟨q555, h3.2⟩ (g2_putR qk112_7.2.2.2.2.1.1 m549 ⟨by decide, by decide, rfl⟩ x526 (fun S565 m566 e567 => ?_))
                refine g2_aload qk112_7.2.2.2.2.1.2 rfl ?_
                refine g2_aload qk112_7.2.2.2.2.2 rfl ?_
                refine g2_kn (ek e567 q555 (by decide)) (g2_getI qk112_8.1.1.1.1.1.1 m566 ⟨by decide, by decide, by decide, rfl⟩ (fun r568 x569 => ?_))
                refine g2_aload qk112_8.1.1.1.1.1.2 rfl ?_
                refine g2_kn (ek e567 (ek e550 (ek e543 q532 (by decide)) (by decide)) (by decide)) (g2_getI qk112_8.1.1.1.1.2.1 m566 ⟨by decide, by decide, by decide, rfl⟩ (fun r570 x571 => ?_))
                refine g2_ck (fun q572 => ?_)
                refine g2_kn q572 (g2_callC (t' := 1) (Is := [r568, r570]) qk112_8.1.1.1.1.2.2 (by decide) rfl rfl (by omega) m566 (Or.inl rfl) (by decide) ⟨rfl, rfl⟩ (tfC_move (by omega) m566.1.2 kd_c0 x569 x571) (fun y573 S575 x576 m577 e578 => ?_))
                refine g2_iload qk112_8.1.1.1.2.1.1 rfl ?_
                refine g2_cmeq qk112_8.1.1.1.2.1.2 x576 x564 (fun c579 => ?_) (fun c580 => ?_)
                · refine g2_int qk112_8.1.1.1.2.2.1 (1 : Int) rfl ?_
                  refine g2_goto qk112_8.1.1.1.2.2.2 ?_
                  exact g2_zret qk112_8.1.1.2.1.1.2 m577 (Or.inr rfl)
                · refine g2_int qk112_8.1.1.2.1.1.1 (0 : Int) rfl ?_
                  exact g2_zret qk112_8.1.1.2.1.1.2 m577 (Or.inl rfl)
          · refine g2_int qk112_7.2.2.1.1.2.2 (1 : Int) rfl ?_
            exact g2_zret qk112_7.2.2.1.2.1.1 m542 (Or.inr rfl)
      · refine g2_int qk112_7.2.2.1.1.2.2 (1 : Int) rfl ?_
        exact g2_zret qk112_7.2.2.1.2.1.1 m527 (Or.inr rfl)
    · refine g2_int qk112_7.2.2.1.1.2.2 (1 : Int) rfl ?_
      exact g2_zret qk112_7.2.2.1.2.1.1 m527 (Or.inr rfl)
  refine g2_swd (lo := (0 : Int)) (hi := (14 : Int)) qk112_0.2.1.1.1.2.2 rfl rfl x40 (by omega) (by omega) ?_
  refine g2_iload qk112_8.1.1.2.1.2.1 rfl ?_
  refine g2_ifeq qk112_8.1.1.2.1.2.2 (inR_b z0) (fun c581 => ?_) (fun c582 => ?_)
  · refine g2_int qk112_8.1.1.2.2.2 (0 : Int) rfl ?_
    refine g2_istore qk112_8.1.2.1.1.1.1 rfl (loc2 := [some (sR v0), some (sR v1), some (sI v2), some (sR v3), some (sI v4), some (sI a0), some (sI (0 : Int)), u7, u8, u9]) rfl ?_
    refine g2_aload qk112_8.1.2.1.1.1.2 rfl ?_
    refine g2_aload qk112_8.1.2.1.1.2.1 rfl ?_
    refine g2_int qk112_8.1.2.1.1.2.2 (0 : Int) rfl ?_
    refine g2_kn (ek e42 hK0 (by decide)) (g2_callV (t' := 2) qk112_8.1.2.1.2.1.1 (by decide) (ql_ip103 hQ) (by decide) rfl rfl rfl (by omega) m41 (tq103_children hQ (by omega) m41 (ek e42 hK0 (by decide)) h0 h3 (inR_b (Or.inl rfl))) (fun y583 S584 x585 m586 e587 => ?_))
    refine g2_astore qk112_8.1.2.1.2.1.2 rfl (loc2 := [some (sR v0), some (sR v1), some (sI v2), some (sR v3), some (sI v4), some (sI a0), some (sI (0 : Int)), some (sR y583), u8, u9]) rfl ?_
    refine g2_aload qk112_8.1.2.1.2.2 rfl ?_
    refine g2_ck (fun q588 => ?_)
    refine g2_kn q588 (g2_callF (t' := 1) qk112_8.1.2.2.1.1.1 (by decide) (ql_ip134 hQ) rfl rfl rfl (by omega) m586 (tq134_size hQ (by omega) m586 q588 x585) (fun y589 S590 x591 m592 e593 => ?_))
    refine g2_int qk112_8.1.2.2.1.1.2 (1 : Int) rfl ?_
    refine g2_isub qk112_8.1.2.2.1.2.1 ?_
    refine g2_istore qk112_8.1.2.2.1.2.2 rfl (loc2 := [some (sR v0), some (sR v1), some (sI v2), some (sR v3), some (sI v4), some (sI a0), some (sI (0 : Int)), some (sR y583), some (sI (w32 (y589 - (1 : Int)))), u9]) rfl ?_
    exact tl112_1091 hQ hd h0 h1 h3 x585 fu (0 : Int) (inR_b (Or.inl rfl)) (w32 (y589 - (1 : Int))) (inR_w32 _) S590 m592 (ek e593 (ek e587 (ek e42 hK0 (by decide)) (by decide)) (by decide)) (some (sI v2)) rfl (some (sI v4)) rfl (some (sI a0)) rfl u9 w9
  · refine g2_int qk112_8.1.1.2.2.1.1 (1 : Int) rfl ?_
    exact g2_zret qk112_8.1.1.2.2.1.2 m41 (Or.inr rfl)
noncomputable def j112_52 (v0 : Int) (v1 : Int) (v2 : Int) (v3 : Int) (v4 : Int) (S : sS) : Option (Int × sS) :=
  j112_57 v0 v1 v2 v3 v4 (1 : Int) S
theorem tj112_52 {κ : CX} (hQ : κ.2.2.2.2.2.2.2.2.2 = (ql_I, ql_P)) {n0 s0 : Int} {d : Nat} (hd : 70 ≤ d) {v0 v1 v2 v3 v4 : Int} (h0 : RfO v0) (h1 : RfO v1) (h2 : InR v2) (h3 : RfO v3) (h4 : InR v4) (S : sS) (hW : WF2 κ S) (hK0 : sK S v0 = 8) (u5 : Option ev_V) (w5 : nwo u5) (u6 : Option ev_V) (w6 : nwo u6) (u7 : Option ev_V) (w7 : nwo u7) (u8 : Option ev_V) (w8 : nwo u8) (u9 : Option ev_V) (w9 : nwo u9) : G2 κ ql_i112 ql_m112 3 d n0 s0 (j112_52 v0 v1 v2 v3 v4 S) 52 [some (sR v0), some (sR v1), some (sI v2), some (sR v3), some (sI v4), u5, u6, u7, u8, u9] [] S := by
  unfold j112_52
  refine g2_int qk112_0.1.2.2.1.2.1 (1 : Int) rfl ?_
  refine g2_goto qk112_0.1.2.2.1.2.2 ?_
  exact tj112_57 hQ hd h0 h1 h2 h3 h4 (Or.inr rfl) S hW hK0 u5 w5 u6 w6 u7 w7 u8 w8 u9 w9
noncomputable def q112_act (S : sS) (v0 : Int) (v1 : Int) (v2 : Int) : Option (Int × sS) :=
  bnd (sg S v0 0) (fun r1 => bdS (q99_bits S v2 (4 : Int) (4 : Int)) (fun y3 S4 => bnd (sg S4 v0 0) (fun r8 => if sK S4 r8 = 9 then bdS (q134_size S4 r8) (fun y11 S12 => if (1 : Int) ≤ y11 ∧ y11 < (2147483648 : Int) ∧ (0 : Int) ≤ y3 ∧ y3 < 2147483648 then if sK S12 r1 = 9 then bdS (q133_get S12 r1 (y3 % y11)) (fun y18 S19 => if y18 = -1 ∨ sK S19 y18 = 7 then bdS (q99_bits S19 v2 (8 : Int) (3 : Int)) (fun y24 S25 => if sK S25 y18 = 7 then bnd (sg S25 y18 7) (fun r30 => if r30 = 0 then (bnd (sg S25 y18 0) (fun r34 => if r34 = 0 then (j112_52 v0 v1 v2 y18 y24 S25) else (j112_57 v0 v1 v2 y18 y24 (0 : Int) S25))) else (j112_52 v0 v1 v2 y18 y24 S25)) else none) else none) else none else none) else none)))
theorem tq112_act {κ : CX} (hQ : κ.2.2.2.2.2.2.2.2.2 = (ql_I, ql_P)) {n0 s0 : Int} {d : Nat} (hd : 70 ≤ d) {S : sS} (hW : WF2 κ S) {v0 v1 v2 : Int} (hK0 : sK S v0 = 8) (h0 : RfO v0) (h1 : RfO v1) (h2 : InR v2) : G2 κ ql_i112 ql_m112 3 d n0 s0 (q112_act S v0 v1 v2) 0 (ev_loc ql_m112.1 [(sR v0), (sR v1), (sI v2)]) [] S := by
  unfold q112_act
  refine g2_aload qk112_0.1.1.1.1.1.1 rfl ?_
  refine g2_kn hK0 (g2_getR qk112_0.1.1.1.1.1.2 hW ⟨by decide, by decide, by decide, rfl⟩ (fun r1 x2 => ?_))
  refine g2_iload qk112_0.1.1.1.1.2.1 rfl ?_
  refine g2_int qk112_0.1.1.1.1.2.2 (4 : Int) rfl ?_
  refine g2_int qk112_0.1.1.1.2.1.1 (4 : Int) rfl ?_
  refine g2_callS (t' := 1) qk112_0.1.1.1.2.1.2 (by decide) (ql_ip99 hQ) rfl rfl rfl rfl (by omega) (tq99_bits hQ (by omega) hW h2 (inR_of (by decide)) (inR_of (by decide))) (fun y3 S4 x5 m6 e7 => ?_)
  refine g2_aload qk112_0.1.1.1.2.2.1 rfl ?_
  refine g2_kn (ek e7 hK0 (by decide)) (g2_getR qk112_0.1.1.1.2.2.2 m6 ⟨by decide, by decide, by decide, rfl⟩ (fun r8 x9 => ?_))
  refine g2_ck (fun q10 => ?_)
  refine g2_kn q10 (g2_callF (t' := 1) qk112_0.1.1.2.1.1.1 (by decide) (ql_ip134 hQ) rfl rfl rfl (by omega) m6 (tq134_size hQ (by omega) m6 q10 x9) (fun y11 S12 x13 m14 e15 => ?_))
  refine g2_ck (fun q16 => ?_)
  refine g2_rem qk112_0.1.1.2.1.1.2 q16 ?_
  refine g2_ck (fun q17 => ?_)
  refine g2_kn q17 (g2_callF (t' := 2) qk112_0.1.1.2.1.2.1 (by decide) (ql_ip133 hQ) rfl rfl rfl (by omega) m14 (tq133_get hQ (by omega) m14 q17 x2 (inR_rem q16)) (fun y18 S19 x20 m21 e22 => ?_))
  refine g2_ck (fun q23 => ?_)
  refine g2_kn q23 (g2_cast7 qk112_0.1.1.2.1.2.2 m21 x20 ?_)
  refine g2_astore qk112_0.1.1.2.2.1.1 rfl (loc2 := [some (sR v0), some (sR v1), some (sI v2), some (sR y18), none, none, none, none, none, none]) rfl ?_
  refine g2_iload qk112_0.1.1.2.2.1.2 rfl ?_
  refine g2_int qk112_0.1.1.2.2.2 (8 : Int) rfl ?_
  refine g2_int qk112_0.1.2.1.1.1.1 (3 : Int) rfl ?_
  refine g2_callS (t' := 1) qk112_0.1.2.1.1.1.2 (by decide) (ql_ip99 hQ) rfl rfl rfl rfl (by omega) (tq99_bits hQ (by omega) m21 h2 (inR_of (by decide)) (inR_of (by decide))) (fun y24 S25 x26 m27 e28 => ?_)
  refine g2_istore qk112_0.1.2.1.1.2.1 rfl (loc2 := [some (sR v0), some (sR v1), some (sI v2), some (sR y18), some (sI y24), none, none, none, none, none]) rfl ?_
  refine g2_aload qk112_0.1.2.1.1.2.2 rfl ?_
  refine g2_ck (fun q29 => ?_)
  refine g2_kn q29 (g2_getI qk112_0.1.2.1.2.1.1 m27 ⟨by decide, by decide, by decide, rfl⟩ (fun r30 x31 => ?_))
  refine g2_ifeq qk112_0.1.2.1.2.1.2 x31 (fun c32 => ?_) (fun c33 => ?_)
  · refine g2_aload qk112_0.1.2.1.2.2 rfl ?_
    refine g2_kn q29 (g2_getI qk112_0.1.2.2.1.1.1 m27 ⟨by decide, by decide, by decide, rfl⟩ (fun r34 x35 => ?_))
    refine g2_ifeq qk112_0.1.2.2.1.1.2 x35 (fun c36 => ?_) (fun c37 => ?_)
    · exact tj112_52 hQ hd h0 h1 h2 x20 x26 S25 m27 (ek e28 (ek e22 (ek e15 (ek e7 hK0 (by decide)) (by decide)) (by decide)) (by decide)) none rfl none rfl none rfl none rfl none rfl
    · refine g2_int qk112_0.1.2.2.2.1.1 (0 : Int) rfl ?_
      exact tj112_57 hQ hd h0 h1 h2 x20 x26 (Or.inl rfl) S25 m27 (ek e28 (ek e22 (ek e15 (ek e7 hK0 (by decide)) (by decide)) (by decide)) (by decide)) none rfl none rfl none rfl none rfl none rfl
  · exact tj112_52 hQ hd h0 h1 h2 x20 x26 S25 m27 (ek e28 (ek e22 (ek e15 (ek e7 hK0 (by decide)) (by decide)) (by decide)) (by decide)) none rfl none rfl none rfl none rfl none rfl

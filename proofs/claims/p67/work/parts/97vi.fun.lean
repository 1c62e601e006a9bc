/-! ===== the law's and the JDK's methods as functions, and that the machine comes to what they tell (own work, by program: wip/p67/gen/lawdec.py) ===== -/
noncomputable def j112_395 (v1 : Int) (v4 : Int) (v6 : Int) (S : sS) : Option (Int × sS) :=
  if v1 = sb S ∧ 0 ≤ v1 then bdC (fT) (fC_kill (sc S) 0 v4 1) (fun y704 c705 => bnd (cS S c705) (fun S706 => if y704 = v6 then (some (1, S706)) else (some (0, S706)))) else none
theorem tj112_395 {κ : CX} (hQ : κ.2.2.2.2.2.2.2.2.2 = (ql_I, ql_P)) {n0 s0 : Int} {d : Nat} (hd : 70 ≤ d) {v1 v4 v6 : Int} (h1 : RfO v1) (h4 : InR v4) (h6 : InR v6) (S : sS) (hW : WF2 κ S) (u0 : Option ev_V) (w0 : nwo u0) (u2 : Option ev_V) (w2 : nwo u2) (u3 : Option ev_V) (w3 : nwo u3) (u5 : Option ev_V) (w5 : nwo u5) (u7 : Option ev_V) (w7 : nwo u7) (u8 : Option ev_V) (w8 : nwo u8) (u9 : Option ev_V) (w9 : nwo u9) : G2 κ ql_i112 ql_m112 3 d n0 s0 (j112_395 v1 v4 v6 S) 395 [u0, some (sR v1), u2, u3, some (sI v4), u5, some (sI v6), u7, u8, u9] [] S := by
  unfold j112_395
  refine g2_aload qk112_2.1.2.1.2.1.2 rfl ?_
  refine g2_iload qk112_2.1.2.1.2.2 rfl ?_
  refine g2_int qk112_2.1.2.2.1.1.1 1 rfl ?_
  refine g2_ck (fun q703 => ?_)
  refine g2_kn q703 (g2_callC (t' := 1) (Is := [v4, 1]) qk112_2.1.2.2.1.1.2 (by decide) rfl rfl (by omega) hW (Or.inl rfl) (by decide) ⟨rfl, rfl⟩ (tfC_kill (by omega) hW.1.2 kd_c0 h4 (inR_b (Or.inr rfl))) (fun y704 S706 h707 w708 e709 => ?_))
  refine g2_iload qk112_2.1.2.2.1.2.1 rfl ?_
  refine g2_cmeq qk112_2.1.2.2.1.2.2 h707 h6 (fun c710 => ?_) (fun c711 => ?_)
  · refine g2_int qk112_2.1.2.2.2.1.1 1 rfl ?_
    refine g2_goto qk112_2.1.2.2.2.1.2 ?_
    exact g2_zret qk112_2.2.1.1.1.1.1 w708 (Or.inr rfl)
  · refine g2_int qk112_2.1.2.2.2.2 0 rfl ?_
    exact g2_zret qk112_2.2.1.1.1.1.1 w708 (Or.inl rfl)
noncomputable def b112_364 (v1 : Int) (v4 : Int) (v6 : Int) (v8 : Int) (X364 : sS → Option (Int × sS)) (S : sS) : Option (Int × sS) :=
  if sK S v8 = 10 then bdS (q137_hasNext S v8) (fun y686 S687 => if y686 = 0 then (j112_395 v1 v4 v6 S687) else (bdS (q139_next S687 v8) (fun y693 S694 => if y693 = -1 ∨ sK S694 y693 = 7 then if sK S694 y693 = 7 then bnd (uS S694 y693 11 0) (fun S700 => X364 S700) else none else none))) else none
noncomputable def l112_364 (v1 : Int) (v4 : Int) (v6 : Int) (v8 : Int) (n : Nat) : sS → Option (Int × sS) := Nat.rec (motive := fun _ => sS → Option (Int × sS)) (fun _ => none) (fun _ ih => b112_364 v1 v4 v6 v8 ih) n
theorem tb112_364 {κ : CX} (hQ : κ.2.2.2.2.2.2.2.2.2 = (ql_I, ql_P)) {n0 s0 : Int} {d : Nat} (hd : 70 ≤ d) {v1 v4 v6 v8 : Int} (h1 : RfO v1) (h4 : InR v4) (h6 : InR v6) (h8 : RfO v8) {X364 : sS → Option (Int × sS)} (HX364 : ∀ (S : sS) (hW : WF2 κ S) (u0 : Option ev_V) (w0 : nwo u0) (u2 : Option ev_V) (w2 : nwo u2) (u3 : Option ev_V) (w3 : nwo u3) (u5 : Option ev_V) (w5 : nwo u5) (u7 : Option ev_V) (w7 : nwo u7) (u9 : Option ev_V) (w9 : nwo u9), G2 κ ql_i112 ql_m112 3 d n0 s0 (X364 S) 364 [u0, some (sR v1), u2, u3, some (sI v4), u5, some (sI v6), u7, some (sR v8), u9] [] S) : ∀ (S : sS) (hW : WF2 κ S) (u0 : Option ev_V) (w0 : nwo u0) (u2 : Option ev_V) (w2 : nwo u2) (u3 : Option ev_V) (w3 : nwo u3) (u5 : Option ev_V) (w5 : nwo u5) (u7 : Option ev_V) (w7 : nwo u7) (u9 : Option ev_V) (w9 : nwo u9), G2 κ ql_i112 ql_m112 3 d n0 s0 (b112_364 v1 v4 v6 v8 X364 S) 364 [u0, some (sR v1), u2, u3, some (sI v4), u5, some (sI v6), u7, some (sR v8), u9] [] S := by
  intro S hW u0 w0 u2 w2 u3 w3 u5 w5 u7 w7 u9 w9
  unfold b112_364
  refine g2_aload qk112_2.1.1.2.1.1.2 rfl ?_
  refine g2_ck (fun q685 => ?_)
  refine g2_kn q685 (g2_callF (t' := 3) qk112_2.1.1.2.1.2.1 (by decide) (ql_ip137 hQ) rfl rfl rfl (by omega) hW (tq137_hasNext hQ (by omega) hW q685 h8) (fun y686 S687 h688 w689 e690 => ?_))
  refine g2_ifeq qk112_2.1.1.2.1.2.2 (inR_b h688) (fun c691 => ?_) (fun c692 => ?_)
  · exact tj112_395 hQ hd h1 h4 h6 S687 w689 u0 w0 u2 w2 u3 w3 u5 w5 u7 w7 (some (sR v8)) rfl u9 w9
  · refine g2_aload qk112_2.1.1.2.2.1.1 rfl ?_
    refine g2_kn (ek e690 q685 (by decide)) (g2_callF (t' := 2) qk112_2.1.1.2.2.1.2 (by decide) (ql_ip139 hQ) rfl rfl rfl (by omega) w689 (tq139_next hQ (by omega) w689 (ek e690 q685 (by decide)) h8) (fun y693 S694 h695 w696 e697 => ?_))
    refine g2_ck (fun q698 => ?_)
    refine g2_kn q698 (g2_cast7 qk112_2.1.1.2.2.2 w696 h695 ?_)
    refine g2_astore qk112_2.1.2.1.1.1.1 rfl (loc2 := [u0, some (sR v1), u2, u3, some (sI v4), u5, some (sI v6), u7, some (sR v8), some (sR y693)]) rfl ?_
    refine g2_aload qk112_2.1.2.1.1.1.2 rfl ?_
    refine g2_int qk112_2.1.2.1.1.2.1 0 rfl ?_
    refine g2_ck (fun q699 => ?_)
    refine g2_kn ⟨q699, h695.2⟩ (g2_putB qk112_2.1.2.1.1.2.2 w696 ⟨by decide, by decide, rfl⟩ (Or.inl rfl) (fun S700 w701 e702 => ?_))
    refine g2_goto qk112_2.1.2.1.2.1.1 ?_
    exact HX364 S700 w701 u0 w0 u2 w2 u3 w3 u5 w5 u7 w7 (some (sR y693)) rfl
theorem tl112_364 {κ : CX} (hQ : κ.2.2.2.2.2.2.2.2.2 = (ql_I, ql_P)) {n0 s0 : Int} {d : Nat} (hd : 70 ≤ d) {v1 v4 v6 v8 : Int} (h1 : RfO v1) (h4 : InR v4) (h6 : InR v6) (h8 : RfO v8) : ∀ n : Nat, ∀ (S : sS) (hW : WF2 κ S) (u0 : Option ev_V) (w0 : nwo u0) (u2 : Option ev_V) (w2 : nwo u2) (u3 : Option ev_V) (w3 : nwo u3) (u5 : Option ev_V) (w5 : nwo u5) (u7 : Option ev_V) (w7 : nwo u7) (u9 : Option ev_V) (w9 : nwo u9), G2 κ ql_i112 ql_m112 3 d n0 s0 (l112_364 v1 v4 v6 v8 n S) 364 [u0, some (sR v1), u2, u3, some (sI v4), u5, some (sI v6), u7, some (sR v8), u9] [] S := by
  intro n
  induction n with
  | zero =>
    intro S hW u0 w0 u2 w2 u3 w3 u5 w5 u7 w7 u9 w9
    exact g2_none
  | succ n ih =>
    exact tb112_364 hQ hd h1 h4 h6 h8 ih
noncomputable def b112_310 (v0 : Int) (v1 : Int) (v4 : Int) (v7 : Int) (v8 : Int) (X310 : Int → sS → Option (Int × sS)) (v6 : Int) (S : sS) : Option (Int × sS) :=
  if sK S v8 = 10 then bdS (q137_hasNext S v8) (fun y658 S659 => if y658 = 0 then (if sK S659 v7 = 9 then bdS (q136_iterator S659 v7) (fun y666 S667 => l112_364 v1 v4 v6 y666 fu S667) else none) else (bdS (q139_next S659 v8) (fun y671 S672 => if y671 = -1 ∨ sK S672 y671 = 7 then if sK S672 y671 = 7 then bdS (q110_exit S672 v0 y671 1) (fun y678 S679 => if y678 < 0 then (X310 (w32 (v6 + 0)) S679) else (X310 (w32 (v6 + 1)) S679)) else none else none))) else none
noncomputable def l112_310 (v0 : Int) (v1 : Int) (v4 : Int) (v7 : Int) (v8 : Int) (n : Nat) : Int → sS → Option (Int × sS) := Nat.rec (motive := fun _ => Int → sS → Option (Int × sS)) (fun _ _ => none) (fun _ ih => b112_310 v0 v1 v4 v7 v8 ih) n
theorem tb112_310 {κ : CX} (hQ : κ.2.2.2.2.2.2.2.2.2 = (ql_I, ql_P)) {n0 s0 : Int} {d : Nat} (hd : 70 ≤ d) {v0 v1 v4 v7 v8 : Int} (h0 : RfO v0) (h1 : RfO v1) (h4 : InR v4) (h7 : RfO v7) (h8 : RfO v8) {X310 : Int → sS → Option (Int × sS)} (HX310 : ∀ (v6 : Int) (h6 : InR v6) (S : sS) (hW : WF2 κ S) (hK0 : sK S v0 = 8) (u2 : Option ev_V) (w2 : nwo u2) (u3 : Option ev_V) (w3 : nwo u3) (u5 : Option ev_V) (w5 : nwo u5) (u9 : Option ev_V) (w9 : nwo u9), G2 κ ql_i112 ql_m112 3 d n0 s0 (X310 v6 S) 310 [some (sR v0), some (sR v1), u2, u3, some (sI v4), u5, some (sI v6), some (sR v7), some (sR v8), u9] [] S) : ∀ (v6 : Int) (h6 : InR v6) (S : sS) (hW : WF2 κ S) (hK0 : sK S v0 = 8) (u2 : Option ev_V) (w2 : nwo u2) (u3 : Option ev_V) (w3 : nwo u3) (u5 : Option ev_V) (w5 : nwo u5) (u9 : Option ev_V) (w9 : nwo u9), G2 κ ql_i112 ql_m112 3 d n0 s0 (b112_310 v0 v1 v4 v7 v8 X310 v6 S) 310 [some (sR v0), some (sR v1), u2, u3, some (sI v4), u5, some (sI v6), some (sR v7), some (sR v8), u9] [] S := by
  intro v6 h6 S hW hK0 u2 w2 u3 w3 u5 w5 u9 w9
  unfold b112_310
  refine g2_aload qk112_1.2.2.1.1.1.2 rfl ?_
  refine g2_ck (fun q657 => ?_)
  refine g2_kn q657 (g2_callF (t' := 3) qk112_1.2.2.1.1.2.1 (by decide) (ql_ip137 hQ) rfl rfl rfl (by omega) hW (tq137_hasNext hQ (by omega) hW q657 h8) (fun y658 S659 h660 w661 e662 => ?_))
  refine g2_ifeq qk112_1.2.2.1.1.2.2 (inR_b h660) (fun c663 => ?_) (fun c664 => ?_)
  · refine g2_aload qk112_2.1.1.1.2.2.1 rfl ?_
    refine g2_ck (fun q665 => ?_)
    refine g2_kn q665 (g2_callF (t' := 2) qk112_2.1.1.1.2.2.2 (by decide) (ql_ip136 hQ) rfl rfl rfl (by omega) w661 (tq136_iterator hQ (by omega) w661 q665 h7) (fun y666 S667 h668 w669 e670 => ?_))
    refine g2_astore qk112_2.1.1.2.1.1.1 rfl (loc2 := [some (sR v0), some (sR v1), u2, u3, some (sI v4), u5, some (sI v6), some (sR v7), some (sR y666), u9]) rfl ?_
    exact tl112_364 hQ hd h1 h4 h6 h668 fu S667 w669 (some (sR v0)) rfl u2 w2 u3 w3 u5 w5 (some (sR v7)) rfl u9 w9
  · refine g2_aload qk112_1.2.2.1.2.1.1 rfl ?_
    refine g2_kn (ek e662 q657 (by decide)) (g2_callF (t' := 2) qk112_1.2.2.1.2.1.2 (by decide) (ql_ip139 hQ) rfl rfl rfl (by omega) w661 (tq139_next hQ (by omega) w661 (ek e662 q657 (by decide)) h8) (fun y671 S672 h673 w674 e675 => ?_))
    refine g2_ck (fun q676 => ?_)
    refine g2_kn q676 (g2_cast7 qk112_1.2.2.1.2.2 w674 h673 ?_)
    refine g2_astore qk112_1.2.2.2.1.1.1 rfl (loc2 := [some (sR v0), some (sR v1), u2, u3, some (sI v4), u5, some (sI v6), some (sR v7), some (sR v8), some (sR y671)]) rfl ?_
    refine g2_iload qk112_1.2.2.2.1.1.2 rfl ?_
    refine g2_aload qk112_1.2.2.2.1.2.1 rfl ?_
    refine g2_aload qk112_1.2.2.2.1.2.2 rfl ?_
    refine g2_int qk112_1.2.2.2.2.1.1 1 rfl ?_
    refine g2_ck (fun q677 => ?_)
    refine g2_kn (ek e675 (ek e662 hK0 (by decide)) (by decide)) (g2_callV (t' := 1) qk112_1.2.2.2.2.1.2 (by decide) (ql_ip110 hQ) (by decide) rfl rfl rfl (by omega) w674 (tq110_exit hQ (by omega) w674 (ek e675 (ek e662 hK0 (by decide)) (by decide)) q677 h0 h673 (inR_b (Or.inr rfl))) (fun y678 S679 h680 w681 e682 => ?_))
    refine g2_iflt qk112_1.2.2.2.2.2 h680 (fun c683 => ?_) (fun c684 => ?_)
    · refine g2_int qk112_2.1.1.1.1.1.1 0 rfl ?_
      refine g2_goto qk112_2.1.1.1.1.1.2 ?_
      refine g2_iadd qk112_2.1.1.1.1.2.2 ?_
      refine g2_istore qk112_2.1.1.1.2.1.1 w5 (loc2 := [some (sR v0), some (sR v1), u2, u3, some (sI v4), u5, some (sI (w32 (v6 + 0))), some (sR v7), some (sR v8), some (sR y671)]) rfl ?_
      refine g2_goto qk112_2.1.1.1.2.1.2 ?_
      exact HX310 (w32 (v6 + 0)) (inR_w32 _) S679 w681 (ek e682 (ek e675 (ek e662 hK0 (by decide)) (by decide)) (by decide)) u2 w2 u3 w3 u5 w5 (some (sR y671)) rfl
    · refine g2_int qk112_2.1.1.1.1.2.1 1 rfl ?_
      refine g2_iadd qk112_2.1.1.1.1.2.2 ?_
      refine g2_istore qk112_2.1.1.1.2.1.1 w5 (loc2 := [some (sR v0), some (sR v1), u2, u3, some (sI v4), u5, some (sI (w32 (v6 + 1))), some (sR v7), some (sR v8), some (sR y671)]) rfl ?_
      refine g2_goto qk112_2.1.1.1.2.1.2 ?_
      exact HX310 (w32 (v6 + 1)) (inR_w32 _) S679 w681 (ek e682 (ek e675 (ek e662 hK0 (by decide)) (by decide)) (by decide)) u2 w2 u3 w3 u5 w5 (some (sR y671)) rfl
theorem tl112_310 {κ : CX} (hQ : κ.2.2.2.2.2.2.2.2.2 = (ql_I, ql_P)) {n0 s0 : Int} {d : Nat} (hd : 70 ≤ d) {v0 v1 v4 v7 v8 : Int} (h0 : RfO v0) (h1 : RfO v1) (h4 : InR v4) (h7 : RfO v7) (h8 : RfO v8) : ∀ n : Nat, ∀ (v6 : Int) (h6 : InR v6) (S : sS) (hW : WF2 κ S) (hK0 : sK S v0 = 8) (u2 : Option ev_V) (w2 : nwo u2) (u3 : Option ev_V) (w3 : nwo u3) (u5 : Option ev_V) (w5 : nwo u5) (u9 : Option ev_V) (w9 : nwo u9), G2 κ ql_i112 ql_m112 3 d n0 s0 (l112_310 v0 v1 v4 v7 v8 n v6 S) 310 [some (sR v0), some (sR v1), u2, u3, some (sI v4), u5, some (sI v6), some (sR v7), some (sR v8), u9] [] S := by
  intro n
  induction n with
  | zero =>
    intro v6 h6 S hW hK0 u2 w2 u3 w3 u5 w5 u9 w9
    exact g2_none
  | succ n ih =>
    exact tb112_310 hQ hd h0 h1 h4 h7 h8 ih
noncomputable def b112_270 (v0 : Int) (v1 : Int) (v4 : Int) (v6 : Int) (v7 : Int) (v8 : Int) (X270 : sS → Option (Int × sS)) (S : sS) : Option (Int × sS) :=
  if sK S v8 = 10 then bdS (q137_hasNext S v8) (fun y634 S635 => if y634 = 0 then (if sK S635 v7 = 9 then bdS (q136_iterator S635 v7) (fun y642 S643 => l112_310 v0 v1 v4 v7 y642 fu v6 S643) else none) else (bdS (q139_next S635 v8) (fun y647 S648 => if y647 = -1 ∨ sK S648 y647 = 7 then if sK S648 y647 = 7 then bnd (uS S648 y647 11 1) (fun S654 => X270 S654) else none else none))) else none
noncomputable def l112_270 (v0 : Int) (v1 : Int) (v4 : Int) (v6 : Int) (v7 : Int) (v8 : Int) (n : Nat) : sS → Option (Int × sS) := Nat.rec (motive := fun _ => sS → Option (Int × sS)) (fun _ => none) (fun _ ih => b112_270 v0 v1 v4 v6 v7 v8 ih) n
theorem tb112_270 {κ : CX} (hQ : κ.2.2.2.2.2.2.2.2.2 = (ql_I, ql_P)) {n0 s0 : Int} {d : Nat} (hd : 70 ≤ d) {v0 v1 v4 v6 v7 v8 : Int} (h0 : RfO v0) (h1 : RfO v1) (h4 : InR v4) (h6 : B01 v6) (h7 : RfO v7) (h8 : RfO v8) {X270 : sS → Option (Int × sS)} (HX270 : ∀ (S : sS) (hW : WF2 κ S) (hK0 : sK S v0 = 8) (u2 : Option ev_V) (w2 : nwo u2) (u3 : Option ev_V) (w3 : nwo u3) (u5 : Option ev_V) (w5 : nwo u5) (u9 : Option ev_V) (w9 : nwo u9), G2 κ ql_i112 ql_m112 3 d n0 s0 (X270 S) 270 [some (sR v0), some (sR v1), u2, u3, some (sI v4), u5, some (sI v6), some (sR v7), some (sR v8), u9] [] S) : ∀ (S : sS) (hW : WF2 κ S) (hK0 : sK S v0 = 8) (u2 : Option ev_V) (w2 : nwo u2) (u3 : Option ev_V) (w3 : nwo u3) (u5 : Option ev_V) (w5 : nwo u5) (u9 : Option ev_V) (w9 : nwo u9), G2 κ ql_i112 ql_m112 3 d n0 s0 (b112_270 v0 v1 v4 v6 v7 v8 X270 S) 270 [some (sR v0), some (sR v1), u2, u3, some (sI v4), u5, some (sI v6), some (sR v7), some (sR v8), u9] [] S := by
  intro S hW hK0 u2 w2 u3 w3 u5 w5 u9 w9
  unfold b112_270
  refine g2_aload qk112_1.2.1.1.1.2.1 rfl ?_
  refine g2_ck (fun q633 => ?_)
  refine g2_kn q633 (g2_callF (t' := 3) qk112_1.2.1.1.1.2.2 (by decide) (ql_ip137 hQ) rfl rfl rfl (by omega) hW (tq137_hasNext hQ (by omega) hW q633 h8) (fun y634 S635 h636 w637 e638 => ?_))
  refine g2_ifeq qk112_1.2.1.1.2.1.1 (inR_b h636) (fun c639 => ?_) (fun c640 => ?_)
  · refine g2_aload qk112_1.2.1.2.2.1.2 rfl ?_
    refine g2_ck (fun q641 => ?_)
    refine g2_kn q641 (g2_callF (t' := 2) qk112_1.2.1.2.2.2 (by decide) (ql_ip136 hQ) rfl rfl rfl (by omega) w637 (tq136_iterator hQ (by omega) w637 q641 h7) (fun y642 S643 h644 w645 e646 => ?_))
    refine g2_astore qk112_1.2.2.1.1.1.1 rfl (loc2 := [some (sR v0), some (sR v1), u2, u3, some (sI v4), u5, some (sI v6), some (sR v7), some (sR y642), u9]) rfl ?_
    exact tl112_310 hQ hd h0 h1 h4 h7 h644 fu v6 (inR_b h6) S643 w645 (ek e646 (ek e638 hK0 (by decide)) (by decide)) u2 w2 u3 w3 u5 w5 u9 w9
  · refine g2_aload qk112_1.2.1.1.2.1.2 rfl ?_
    refine g2_kn (ek e638 q633 (by decide)) (g2_callF (t' := 2) qk112_1.2.1.1.2.2.1 (by decide) (ql_ip139 hQ) rfl rfl rfl (by omega) w637 (tq139_next hQ (by omega) w637 (ek e638 q633 (by decide)) h8) (fun y647 S648 h649 w650 e651 => ?_))
    refine g2_ck (fun q652 => ?_)
    refine g2_kn q652 (g2_cast7 qk112_1.2.1.1.2.2.2 w650 h649 ?_)
    refine g2_astore qk112_1.2.1.2.1.1.1 rfl (loc2 := [some (sR v0), some (sR v1), u2, u3, some (sI v4), u5, some (sI v6), some (sR v7), some (sR v8), some (sR y647)]) rfl ?_
    refine g2_aload qk112_1.2.1.2.1.1.2 rfl ?_
    refine g2_int qk112_1.2.1.2.1.2.1 1 rfl ?_
    refine g2_ck (fun q653 => ?_)
    refine g2_kn ⟨q653, h649.2⟩ (g2_putB qk112_1.2.1.2.1.2.2 w650 ⟨by decide, by decide, rfl⟩ (Or.inr rfl) (fun S654 w655 e656 => ?_))
    refine g2_goto qk112_1.2.1.2.2.1.1 ?_
    exact HX270 S654 w655 (ek e656 (ek e651 (ek e638 hK0 (by decide)) (by decide)) (by decide)) u2 w2 u3 w3 u5 w5 (some (sR y647)) rfl
theorem tl112_270 {κ : CX} (hQ : κ.2.2.2.2.2.2.2.2.2 = (ql_I, ql_P)) {n0 s0 : Int} {d : Nat} (hd : 70 ≤ d) {v0 v1 v4 v6 v7 v8 : Int} (h0 : RfO v0) (h1 : RfO v1) (h4 : InR v4) (h6 : B01 v6) (h7 : RfO v7) (h8 : RfO v8) : ∀ n : Nat, ∀ (S : sS) (hW : WF2 κ S) (hK0 : sK S v0 = 8) (u2 : Option ev_V) (w2 : nwo u2) (u3 : Option ev_V) (w3 : nwo u3) (u5 : Option ev_V) (w5 : nwo u5) (u9 : Option ev_V) (w9 : nwo u9), G2 κ ql_i112 ql_m112 3 d n0 s0 (l112_270 v0 v1 v4 v6 v7 v8 n S) 270 [some (sR v0), some (sR v1), u2, u3, some (sI v4), u5, some (sI v6), some (sR v7), some (sR v8), u9] [] S := by
  intro n
  induction n with
  | zero =>
    intro S hW hK0 u2 w2 u3 w3 u5 w5 u9 w9
    exact g2_none
  | succ n ih =>
    exact tb112_270 hQ hd h0 h1 h4 h6 h7 h8 ih
noncomputable def b112_200 (v0 : Int) (v1 : Int) (v4 : Int) (v6 : Int) (v7 : Int) (v8 : Int) (X200 : sS → Option (Int × sS)) (S : sS) : Option (Int × sS) :=
  if sK S v8 = 10 then bdS (q137_hasNext S v8) (fun y595 S596 => if y595 = 0 then (if sK S596 v7 = 9 then bdS (q136_iterator S596 v7) (fun y603 S604 => l112_270 v0 v1 v4 v6 v7 y603 fu S604) else none) else (bdS (q139_next S596 v8) (fun y608 S609 => if y608 = -1 ∨ sK S609 y608 = 7 then if sK S609 y608 = 7 then bnd (sg S609 y608 7) (fun r615 => if r615 = 0 then (bnd (sg S609 y608 0) (fun r619 => if 0 < r619 then (bnd (sg S609 y608 1) (fun r623 => if r623 = v4 then (if sK S609 v7 = 9 then bdS (q129_add S609 v7 y608) (fun y628 S629 => X200 S629) else none) else (X200 S609))) else (X200 S609))) else (X200 S609)) else none else none))) else none
noncomputable def l112_200 (v0 : Int) (v1 : Int) (v4 : Int) (v6 : Int) (v7 : Int) (v8 : Int) (n : Nat) : sS → Option (Int × sS) := Nat.rec (motive := fun _ => sS → Option (Int × sS)) (fun _ => none) (fun _ ih => b112_200 v0 v1 v4 v6 v7 v8 ih) n
theorem tb112_200 {κ : CX} (hQ : κ.2.2.2.2.2.2.2.2.2 = (ql_I, ql_P)) {n0 s0 : Int} {d : Nat} (hd : 70 ≤ d) {v0 v1 v4 v6 v7 v8 : Int} (h0 : RfO v0) (h1 : RfO v1) (h4 : InR v4) (h6 : B01 v6) (h7 : RfO v7) (h8 : RfO v8) {X200 : sS → Option (Int × sS)} (HX200 : ∀ (S : sS) (hW : WF2 κ S) (hK0 : sK S v0 = 8) (u2 : Option ev_V) (w2 : nwo u2) (u3 : Option ev_V) (w3 : nwo u3) (u5 : Option ev_V) (w5 : nwo u5) (u9 : Option ev_V) (w9 : nwo u9), G2 κ ql_i112 ql_m112 3 d n0 s0 (X200 S) 200 [some (sR v0), some (sR v1), u2, u3, some (sI v4), u5, some (sI v6), some (sR v7), some (sR v8), u9] [] S) : ∀ (S : sS) (hW : WF2 κ S) (hK0 : sK S v0 = 8) (u2 : Option ev_V) (w2 : nwo u2) (u3 : Option ev_V) (w3 : nwo u3) (u5 : Option ev_V) (w5 : nwo u5) (u9 : Option ev_V) (w9 : nwo u9), G2 κ ql_i112 ql_m112 3 d n0 s0 (b112_200 v0 v1 v4 v6 v7 v8 X200 S) 200 [some (sR v0), some (sR v1), u2, u3, some (sI v4), u5, some (sI v6), some (sR v7), some (sR v8), u9] [] S := by
  intro S hW hK0 u2 w2 u3 w3 u5 w5 u9 w9
  unfold b112_200
  refine g2_aload qk112_1.1.1.1.2.2.1 rfl ?_
  refine g2_ck (fun q594 => ?_)
  refine g2_kn q594 (g2_callF (t' := 3) qk112_1.1.1.1.2.2.2 (by decide) (ql_ip137 hQ) rfl rfl rfl (by omega) hW (tq137_hasNext hQ (by omega) hW q594 h8) (fun y595 S596 h597 w598 e599 => ?_))
  refine g2_ifeq qk112_1.1.1.2.1.1.1 (inR_b h597) (fun c600 => ?_) (fun c601 => ?_)
  · refine g2_aload qk112_1.1.2.2.2.2 rfl ?_
    refine g2_ck (fun q602 => ?_)
    refine g2_kn q602 (g2_callF (t' := 2) qk112_1.2.1.1.1.1.1 (by decide) (ql_ip136 hQ) rfl rfl rfl (by omega) w598 (tq136_iterator hQ (by omega) w598 q602 h7) (fun y603 S604 h605 w606 e607 => ?_))
    refine g2_astore qk112_1.2.1.1.1.1.2 rfl (loc2 := [some (sR v0), some (sR v1), u2, u3, some (sI v4), u5, some (sI v6), some (sR v7), some (sR y603), u9]) rfl ?_
    exact tl112_270 hQ hd h0 h1 h4 h6 h7 h605 fu S604 w606 (ek e607 (ek e599 hK0 (by decide)) (by decide)) u2 w2 u3 w3 u5 w5 u9 w9
  · refine g2_aload qk112_1.1.1.2.1.1.2 rfl ?_
    refine g2_kn (ek e599 q594 (by decide)) (g2_callF (t' := 2) qk112_1.1.1.2.1.2.1 (by decide) (ql_ip139 hQ) rfl rfl rfl (by omega) w598 (tq139_next hQ (by omega) w598 (ek e599 q594 (by decide)) h8) (fun y608 S609 h610 w611 e612 => ?_))
    refine g2_ck (fun q613 => ?_)
    refine g2_kn q613 (g2_cast7 qk112_1.1.1.2.1.2.2 w611 h610 ?_)
    refine g2_astore qk112_1.1.1.2.2.1.1 rfl (loc2 := [some (sR v0), some (sR v1), u2, u3, some (sI v4), u5, some (sI v6), some (sR v7), some (sR v8), some (sR y608)]) rfl ?_
    refine g2_aload qk112_1.1.1.2.2.1.2 rfl ?_
    refine g2_ck (fun q614 => ?_)
    refine g2_kn q614 (g2_getI qk112_1.1.1.2.2.2 w611 ⟨by decide, by decide, by decide, rfl⟩ (fun r615 h616 => ?_))
    refine g2_ifeq qk112_1.1.2.1.1.1.1 h616 (fun c617 => ?_) (fun c618 => ?_)
    · refine g2_aload qk112_1.1.2.1.1.1.2 rfl ?_
      refine g2_kn q614 (g2_getI qk112_1.1.2.1.1.2.1 w611 ⟨by decide, by decide, by decide, rfl⟩ (fun r619 h620 => ?_))
      refine g2_ifgt qk112_1.1.2.1.1.2.2 h620 (fun c621 => ?_) (fun c622 => ?_)
      · refine g2_aload qk112_1.1.2.1.2.1.1 rfl ?_
        refine g2_kn q614 (g2_getI qk112_1.1.2.1.2.1.2 w611 ⟨by decide, by decide, by decide, rfl⟩ (fun r623 h624 => ?_))
        refine g2_iload qk112_1.1.2.1.2.2 rfl ?_
        refine g2_cmeq qk112_1.1.2.2.1.1.1 h624 h4 (fun c625 => ?_) (fun c626 => ?_)
        · refine g2_aload qk112_1.1.2.2.1.1.2 rfl ?_
          refine g2_aload qk112_1.1.2.2.1.2.1 rfl ?_
          refine g2_ck (fun q627 => ?_)
          refine g2_kn q627 (g2_callF (t' := 3) qk112_1.1.2.2.1.2.2 (by decide) (ql_ip129 hQ) rfl rfl rfl (by omega) w611 (tq129_add hQ (by omega) w611 q627 h7 h610) (fun y628 S629 h630 w631 e632 => ?_))
          refine g2_popI qk112_1.1.2.2.2.1.1 ?_
          refine g2_goto qk112_1.1.2.2.2.1.2 ?_
          exact HX200 S629 w631 (ek e632 (ek e612 (ek e599 hK0 (by decide)) (by decide)) (by decide)) u2 w2 u3 w3 u5 w5 (some (sR y608)) rfl
        · refine g2_goto qk112_1.1.2.2.2.1.2 ?_
          exact HX200 S609 w611 (ek e612 (ek e599 hK0 (by decide)) (by decide)) u2 w2 u3 w3 u5 w5 (some (sR y608)) rfl
      · refine g2_goto qk112_1.1.2.2.2.1.2 ?_
        exact HX200 S609 w611 (ek e612 (ek e599 hK0 (by decide)) (by decide)) u2 w2 u3 w3 u5 w5 (some (sR y608)) rfl
    · refine g2_goto qk112_1.1.2.2.2.1.2 ?_
      exact HX200 S609 w611 (ek e612 (ek e599 hK0 (by decide)) (by decide)) u2 w2 u3 w3 u5 w5 (some (sR y608)) rfl
theorem tl112_200 {κ : CX} (hQ : κ.2.2.2.2.2.2.2.2.2 = (ql_I, ql_P)) {n0 s0 : Int} {d : Nat} (hd : 70 ≤ d) {v0 v1 v4 v6 v7 v8 : Int} (h0 : RfO v0) (h1 : RfO v1) (h4 : InR v4) (h6 : B01 v6) (h7 : RfO v7) (h8 : RfO v8) : ∀ n : Nat, ∀ (S : sS) (hW : WF2 κ S) (hK0 : sK S v0 = 8) (u2 : Option ev_V) (w2 : nwo u2) (u3 : Option ev_V) (w3 : nwo u3) (u5 : Option ev_V) (w5 : nwo u5) (u9 : Option ev_V) (w9 : nwo u9), G2 κ ql_i112 ql_m112 3 d n0 s0 (l112_200 v0 v1 v4 v6 v7 v8 n S) 200 [some (sR v0), some (sR v1), u2, u3, some (sI v4), u5, some (sI v6), some (sR v7), some (sR v8), u9] [] S := by
  intro n
  induction n with
  | zero =>
    intro S hW hK0 u2 w2 u3 w3 u5 w5 u9 w9
    exact g2_none
  | succ n ih =>
    exact tb112_200 hQ hd h0 h1 h4 h6 h7 h8 ih
noncomputable def j112_602 (v1 : Int) (v3 : Int) (v4 : Int) (v6 : Int) (S : sS) : Option (Int × sS) :=
  if sK S v3 = 7 then bnd (sg S v3 0) (fun r744 => if v1 = sb S ∧ 0 ≤ v1 then bdC (fT) (fC_refuse (sc S) 0 r744 v4) (fun y747 c748 => bnd (cS S c748) (fun S749 => if y747 = v6 then (some (1, S749)) else (some (0, S749)))) else none) else none
theorem tj112_602 {κ : CX} (hQ : κ.2.2.2.2.2.2.2.2.2 = (ql_I, ql_P)) {n0 s0 : Int} {d : Nat} (hd : 70 ≤ d) {v1 v3 v4 v6 : Int} (h1 : RfO v1) (h3 : RfO v3) (h4 : InR v4) (h6 : InR v6) (S : sS) (hW : WF2 κ S) (u0 : Option ev_V) (w0 : nwo u0) (u2 : Option ev_V) (w2 : nwo u2) (u5 : Option ev_V) (w5 : nwo u5) (u7 : Option ev_V) (w7 : nwo u7) (u8 : Option ev_V) (w8 : nwo u8) (u9 : Option ev_V) (w9 : nwo u9) : G2 κ ql_i112 ql_m112 3 d n0 s0 (j112_602 v1 v3 v4 v6 S) 602 [u0, some (sR v1), u2, some (sR v3), some (sI v4), u5, some (sI v6), u7, u8, u9] [] S := by
  unfold j112_602
  refine g2_aload qk112_4.1.1.1.2.2.1 rfl ?_
  refine g2_aload qk112_4.1.1.1.2.2.2 rfl ?_
  refine g2_ck (fun q743 => ?_)
  refine g2_kn q743 (g2_getI qk112_4.1.1.2.1.1.1 hW ⟨by decide, by decide, by decide, rfl⟩ (fun r744 h745 => ?_))
  refine g2_iload qk112_4.1.1.2.1.1.2 rfl ?_
  refine g2_ck (fun q746 => ?_)
  refine g2_kn q746 (g2_callC (t' := 1) (Is := [r744, v4]) qk112_4.1.1.2.1.2.1 (by decide) rfl rfl (by omega) hW (Or.inl rfl) (by decide) ⟨rfl, rfl⟩ (tfC_refuse (by omega) hW.1.2 kd_c0 h745 h4) (fun y747 S749 h750 w751 e752 => ?_))
  refine g2_iload qk112_4.1.1.2.1.2.2 rfl ?_
  refine g2_cmeq qk112_4.1.1.2.2.1.1 h750 h6 (fun c753 => ?_) (fun c754 => ?_)
  · refine g2_int qk112_4.1.1.2.2.1.2 1 rfl ?_
    refine g2_goto qk112_4.1.1.2.2.2 ?_
    exact g2_zret qk112_4.1.2.1.1.1.2 w751 (Or.inr rfl)
  · refine g2_int qk112_4.1.2.1.1.1.1 0 rfl ?_
    exact g2_zret qk112_4.1.2.1.1.1.2 w751 (Or.inl rfl)
noncomputable def b112_548 (v0 : Int) (v1 : Int) (v3 : Int) (v4 : Int) (v7 : Int) (X548 : Int → sS → Option (Int × sS)) (v6 : Int) (S : sS) : Option (Int × sS) :=
  if sK S v7 = 10 then bdS (q137_hasNext S v7) (fun y713 S714 => if y713 = 0 then (j112_602 v1 v3 v4 v6 S714) else (bdS (q139_next S714 v7) (fun y720 S721 => if y720 = -1 ∨ sK S721 y720 = 7 then if sK S721 y720 = 7 then bnd (sg S721 y720 1) (fun r727 => if r727 = v4 then (if sK S721 v3 = 7 then bdS (q106_adopter S721 v0 y720 v3) (fun y732 S733 => if sK S733 y732 = 7 then bdS (q107_adopt S733 v0 y732 y720) (fun y738 S739 => X548 (w32 (v6 + 1)) S739) else none) else none) else (X548 v6 S721)) else none else none))) else none
noncomputable def l112_548 (v0 : Int) (v1 : Int) (v3 : Int) (v4 : Int) (v7 : Int) (n : Nat) : Int → sS → Option (Int × sS) := Nat.rec (motive := fun _ => Int → sS → Option (Int × sS)) (fun _ _ => none) (fun _ ih => b112_548 v0 v1 v3 v4 v7 ih) n
theorem tb112_548 {κ : CX} (hQ : κ.2.2.2.2.2.2.2.2.2 = (ql_I, ql_P)) {n0 s0 : Int} {d : Nat} (hd : 70 ≤ d) {v0 v1 v3 v4 v7 : Int} (h0 : RfO v0) (h1 : RfO v1) (h3 : RfO v3) (h4 : InR v4) (h7 : RfO v7) {X548 : Int → sS → Option (Int × sS)} (HX548 : ∀ (v6 : Int) (h6 : InR v6) (S : sS) (hW : WF2 κ S) (hK0 : sK S v0 = 8) (u2 : Option ev_V) (w2 : nwo u2) (u5 : Option ev_V) (w5 : nwo u5) (u8 : Option ev_V) (w8 : nwo u8) (u9 : Option ev_V) (w9 : nwo u9), G2 κ ql_i112 ql_m112 3 d n0 s0 (X548 v6 S) 548 [some (sR v0), some (sR v1), u2, some (sR v3), some (sI v4), u5, some (sI v6), some (sR v7), u8, u9] [] S) : ∀ (v6 : Int) (h6 : InR v6) (S : sS) (hW : WF2 κ S) (hK0 : sK S v0 = 8) (u2 : Option ev_V) (w2 : nwo u2) (u5 : Option ev_V) (w5 : nwo u5) (u8 : Option ev_V) (w8 : nwo u8) (u9 : Option ev_V) (w9 : nwo u9), G2 κ ql_i112 ql_m112 3 d n0 s0 (b112_548 v0 v1 v3 v4 v7 X548 v6 S) 548 [some (sR v0), some (sR v1), u2, some (sR v3), some (sI v4), u5, some (sI v6), some (sR v7), u8, u9] [] S := by
  intro v6 h6 S hW hK0 u2 w2 u5 w5 u8 w8 u9 w9
  unfold b112_548
  refine g2_aload qk112_3.2.1.2.2.2 rfl ?_
  refine g2_ck (fun q712 => ?_)
  refine g2_kn q712 (g2_callF (t' := 3) qk112_3.2.2.1.1.1.1 (by decide) (ql_ip137 hQ) rfl rfl rfl (by omega) hW (tq137_hasNext hQ (by omega) hW q712 h7) (fun y713 S714 h715 w716 e717 => ?_))
  refine g2_ifeq qk112_3.2.2.1.1.1.2 (inR_b h715) (fun c718 => ?_) (fun c719 => ?_)
  · exact tj112_602 hQ hd h1 h3 h4 h6 S714 w716 (some (sR v0)) rfl u2 w2 u5 w5 (some (sR v7)) rfl u8 w8 u9 w9
  · refine g2_aload qk112_3.2.2.1.1.2.1 rfl ?_
    refine g2_kn (ek e717 q712 (by decide)) (g2_callF (t' := 2) qk112_3.2.2.1.1.2.2 (by decide) (ql_ip139 hQ) rfl rfl rfl (by omega) w716 (tq139_next hQ (by omega) w716 (ek e717 q712 (by decide)) h7) (fun y720 S721 h722 w723 e724 => ?_))
    refine g2_ck (fun q725 => ?_)
    refine g2_kn q725 (g2_cast7 qk112_3.2.2.1.2.1.1 w723 h722 ?_)
    refine g2_astore qk112_3.2.2.1.2.1.2 rfl (loc2 := [some (sR v0), some (sR v1), u2, some (sR v3), some (sI v4), u5, some (sI v6), some (sR v7), some (sR y720), u9]) rfl ?_
    refine g2_aload qk112_3.2.2.1.2.2 rfl ?_
    refine g2_ck (fun q726 => ?_)
    refine g2_kn q726 (g2_getI qk112_3.2.2.2.1.1.1 w723 ⟨by decide, by decide, by decide, rfl⟩ (fun r727 h728 => ?_))
    refine g2_iload qk112_3.2.2.2.1.1.2 rfl ?_
    refine g2_cmeq qk112_3.2.2.2.1.2.1 h728 h4 (fun c729 => ?_) (fun c730 => ?_)
    · refine g2_aload qk112_3.2.2.2.2.1.1 rfl ?_
      refine g2_aload qk112_3.2.2.2.2.1.2 rfl ?_
      refine g2_aload qk112_3.2.2.2.2.2 rfl ?_
      refine g2_aload qk112_4.1.1.1.1.1.1 rfl ?_
      refine g2_ck (fun q731 => ?_)
      refine g2_kn (ek e724 (ek e717 hK0 (by decide)) (by decide)) (g2_callV (t' := 2) qk112_4.1.1.1.1.1.2 (by decide) (ql_ip106 hQ) (by decide) rfl rfl rfl (by omega) w723 (tq106_adopter hQ (by omega) w723 (ek e724 (ek e717 hK0 (by decide)) (by decide)) q726 q731 h0 h722 h3) (fun y732 S733 h734 w735 e736 => ?_))
      refine g2_aload qk112_4.1.1.1.1.2.1 rfl ?_
      refine g2_ck (fun q737 => ?_)
      refine g2_kn (ek e736 (ek e724 (ek e717 hK0 (by decide)) (by decide)) (by decide)) (g2_callV (t' := 0) qk112_4.1.1.1.1.2.2 (by decide) (ql_ip107 hQ) (by decide) rfl rfl rfl (by omega) w735 (tq107_adopt hQ (by omega) w735 (ek e736 (ek e724 (ek e717 hK0 (by decide)) (by decide)) (by decide)) q737 (ek e736 q726 (by decide)) h0 h734 h722) (fun y738 S739 h740 w741 e742 => ?_))
      refine g2_iinc qk112_4.1.1.1.2.1.1 rfl w5 1 rfl (loc2 := [some (sR v0), some (sR v1), u2, some (sR v3), some (sI v4), u5, some (sI (w32 (v6 + 1))), some (sR v7), some (sR y720), u9]) rfl ?_
      refine g2_goto qk112_4.1.1.1.2.1.2 ?_
      exact HX548 (w32 (v6 + 1)) (inR_w32 _) S739 w741 (ek e742 (ek e736 (ek e724 (ek e717 hK0 (by decide)) (by decide)) (by decide)) (by decide)) u2 w2 u5 w5 (some (sR y720)) rfl u9 w9
    · refine g2_goto qk112_3.2.2.2.1.2.2 ?_
      exact HX548 v6 h6 S721 w723 (ek e724 (ek e717 hK0 (by decide)) (by decide)) u2 w2 u5 w5 (some (sR y720)) rfl u9 w9
theorem tl112_548 {κ : CX} (hQ : κ.2.2.2.2.2.2.2.2.2 = (ql_I, ql_P)) {n0 s0 : Int} {d : Nat} (hd : 70 ≤ d) {v0 v1 v3 v4 v7 : Int} (h0 : RfO v0) (h1 : RfO v1) (h3 : RfO v3) (h4 : InR v4) (h7 : RfO v7) : ∀ n : Nat, ∀ (v6 : Int) (h6 : InR v6) (S : sS) (hW : WF2 κ S) (hK0 : sK S v0 = 8) (u2 : Option ev_V) (w2 : nwo u2) (u5 : Option ev_V) (w5 : nwo u5) (u8 : Option ev_V) (w8 : nwo u8) (u9 : Option ev_V) (w9 : nwo u9), G2 κ ql_i112 ql_m112 3 d n0 s0 (l112_548 v0 v1 v3 v4 v7 n v6 S) 548 [some (sR v0), some (sR v1), u2, some (sR v3), some (sI v4), u5, some (sI v6), some (sR v7), u8, u9] [] S := by
  intro n
  induction n with
  | zero =>
    intro v6 h6 S hW hK0 u2 w2 u5 w5 u8 w8 u9 w9
    exact g2_none
  | succ n ih =>
    exact tb112_548 hQ hd h0 h1 h3 h4 h7 ih
noncomputable def j112_650 (v1 : Int) (v3 : Int) (v4 : Int) (s0 : Int) (S : sS) : Option (Int × sS) :=
  if sK S v3 = 7 then bnd (sg S v3 9) (fun r756 => bnd (uS S v3 9 (opI 1 r756 (opI 3 (opI 4 1 v4) (-1)))) (fun S758 => bnd (sg S758 v3 0) (fun r761 => if v1 = sb S758 ∧ 0 ≤ v1 then bdC (fT) (fC_accept (sc S758) 0 r761 v4) (fun y764 c765 => bnd (cS S758 c765) (fun S766 => if y764 = s0 then (some (1, S766)) else (some (0, S766)))) else none))) else none
theorem tj112_650 {κ : CX} (hQ : κ.2.2.2.2.2.2.2.2.2 = (ql_I, ql_P)) {n0 s0 : Int} {d : Nat} (hd : 70 ≤ d) {v1 v3 v4 : Int} {s0 : Int} (h1 : RfO v1) (h3 : RfO v3) (h4 : InR v4) (z0 : B01 s0) (S : sS) (hW : WF2 κ S) (u0 : Option ev_V) (w0 : nwo u0) (u2 : Option ev_V) (w2 : nwo u2) (u5 : Option ev_V) (w5 : nwo u5) (u6 : Option ev_V) (w6 : nwo u6) (u7 : Option ev_V) (w7 : nwo u7) (u8 : Option ev_V) (w8 : nwo u8) (u9 : Option ev_V) (w9 : nwo u9) : G2 κ ql_i112 ql_m112 3 d n0 s0 (j112_650 v1 v3 v4 s0 S) 650 [u0, some (sR v1), u2, some (sR v3), some (sI v4), u5, u6, u7, u8, u9] [(sI s0)] S := by
  unfold j112_650
  refine g2_istore qk112_4.2.1.1.2.1.1 w5 (loc2 := [u0, some (sR v1), u2, some (sR v3), some (sI v4), u5, some (sI s0), u7, u8, u9]) rfl ?_
  refine g2_aload qk112_4.2.1.1.2.1.2 rfl ?_
  refine g2_dupR qk112_4.2.1.1.2.2 ?_
  refine g2_ck (fun q755 => ?_)
  refine g2_kn q755 (g2_getI qk112_4.2.1.2.1.1.1 hW ⟨by decide, by decide, by decide, rfl⟩ (fun r756 h757 => ?_))
  refine g2_int qk112_4.2.1.2.1.1.2 1 rfl ?_
  refine g2_iload qk112_4.2.1.2.1.2.1 rfl ?_
  refine g2_ibin qk112_4.2.1.2.1.2.2 ?_
  refine g2_int qk112_4.2.1.2.2.1.1 (-1) rfl ?_
  refine g2_ibin qk112_4.2.1.2.2.1.2 ?_
  refine g2_ibin qk112_4.2.1.2.2.2 ?_
  refine g2_kn ⟨q755, h3.2⟩ (g2_putI qk112_4.2.2.1.1.1.1 hW ⟨by decide, by decide, rfl⟩ (inR_opI _ _ _) (fun S758 w759 e760 => ?_))
  refine g2_aload qk112_4.2.2.1.1.1.2 rfl ?_
  refine g2_aload qk112_4.2.2.1.1.2.1 rfl ?_
  refine g2_kn (ek e760 q755 (by decide)) (g2_getI qk112_4.2.2.1.1.2.2 w759 ⟨by decide, by decide, by decide, rfl⟩ (fun r761 h762 => ?_))
  refine g2_iload qk112_4.2.2.1.2.1.1 rfl ?_
  refine g2_ck (fun q763 => ?_)
  refine g2_kn q763 (g2_callC (t' := 3) (Is := [r761, v4]) qk112_4.2.2.1.2.1.2 (by decide) rfl rfl (by omega) w759 (Or.inr rfl) (by decide) ⟨rfl, rfl⟩ (tfC_accept (by omega) w759.1.2 kd_c0 h762 h4) (fun y764 S766 h767 w768 e769 => ?_))
  refine g2_iload qk112_4.2.2.1.2.2 rfl ?_
  refine g2_cmeq qk112_4.2.2.2.1.1.1 (inR_b h767) (inR_b z0) (fun c770 => ?_) (fun c771 => ?_)
  · refine g2_int qk112_4.2.2.2.1.1.2 1 rfl ?_
    refine g2_goto qk112_4.2.2.2.1.2.1 ?_
    exact g2_zret qk112_4.2.2.2.2.1.1 w768 (Or.inr rfl)
  · refine g2_int qk112_4.2.2.2.1.2.2 0 rfl ?_
    exact g2_zret qk112_4.2.2.2.2.1.1 w768 (Or.inl rfl)
noncomputable def j112_829 (v1 : Int) (v3 : Int) (v6 : Int) (s0 : Int) (S : sS) : Option (Int × sS) :=
  if sK S v3 = 7 then bnd (uS S v3 3 v6) (fun S773 => bnd (sg S773 v3 0) (fun r776 => if sK S773 v6 = 7 then bnd (sg S773 v6 0) (fun r779 => if v1 = sb S773 ∧ 0 ≤ v1 then bdC (fT) (fC_setHeir (sc S773) 0 r776 r779) (fun y782 c783 => bnd (cS S773 c783) (fun S784 => if y782 = s0 then (some (1, S784)) else (some (0, S784)))) else none) else none)) else none
theorem tj112_829 {κ : CX} (hQ : κ.2.2.2.2.2.2.2.2.2 = (ql_I, ql_P)) {n0 s0 : Int} {d : Nat} (hd : 70 ≤ d) {v1 v3 v6 : Int} {s0 : Int} (h1 : RfO v1) (h3 : RfO v3) (h6 : RfO v6) (z0 : InR s0) (S : sS) (hW : WF2 κ S) (u0 : Option ev_V) (w0 : nwo u0) (u2 : Option ev_V) (w2 : nwo u2) (u4 : Option ev_V) (w4 : nwo u4) (u5 : Option ev_V) (w5 : nwo u5) (u7 : Option ev_V) (w7 : nwo u7) (u8 : Option ev_V) (w8 : nwo u8) (u9 : Option ev_V) (w9 : nwo u9) : G2 κ ql_i112 ql_m112 3 d n0 s0 (j112_829 v1 v3 v6 s0 S) 829 [u0, some (sR v1), u2, some (sR v3), u4, u5, some (sR v6), u7, u8, u9] [(sI s0)] S := by
  unfold j112_829
  refine g2_istore qk112_6.1.1.2.1.1.2 rfl (loc2 := [u0, some (sR v1), u2, some (sR v3), u4, u5, some (sR v6), some (sI s0), u8, u9]) rfl ?_
  refine g2_aload qk112_6.1.1.2.1.2.1 rfl ?_
  refine g2_aload qk112_6.1.1.2.1.2.2 rfl ?_
  refine g2_ck (fun q772 => ?_)
  refine g2_kn ⟨q772, h3.2⟩ (g2_putR qk112_6.1.1.2.2.1.1 hW ⟨by decide, by decide, rfl⟩ h6 (fun S773 w774 e775 => ?_))
  refine g2_aload qk112_6.1.1.2.2.1.2 rfl ?_
  refine g2_aload qk112_6.1.1.2.2.2 rfl ?_
  refine g2_kn (ek e775 q772 (by decide)) (g2_getI qk112_6.1.2.1.1.1.1 w774 ⟨by decide, by decide, by decide, rfl⟩ (fun r776 h777 => ?_))
  refine g2_aload qk112_6.1.2.1.1.1.2 rfl ?_
  refine g2_ck (fun q778 => ?_)
  refine g2_kn q778 (g2_getI qk112_6.1.2.1.1.2.1 w774 ⟨by decide, by decide, by decide, rfl⟩ (fun r779 h780 => ?_))
  refine g2_ck (fun q781 => ?_)
  refine g2_kn q781 (g2_callC (t' := 1) (Is := [r776, r779]) qk112_6.1.2.1.1.2.2 (by decide) rfl rfl (by omega) w774 (Or.inl rfl) (by decide) ⟨rfl, rfl⟩ (tfC_setHeir (by omega) w774.1.2 kd_c0 h777 h780) (fun y782 S784 h785 w786 e787 => ?_))
  refine g2_iload qk112_6.1.2.1.2.1.1 rfl ?_
  refine g2_cmeq qk112_6.1.2.1.2.1.2 h785 z0 (fun c788 => ?_) (fun c789 => ?_)
  · refine g2_int qk112_6.1.2.1.2.2 1 rfl ?_
    refine g2_goto qk112_6.1.2.2.1.1.1 ?_
    exact g2_zret qk112_6.1.2.2.1.2.1 w786 (Or.inr rfl)
  · refine g2_int qk112_6.1.2.2.1.1.2 0 rfl ?_
    exact g2_zret qk112_6.1.2.2.1.2.1 w786 (Or.inl rfl)
noncomputable def j112_1147 (v1 : Int) (v3 : Int) (v6 : Int) (S : sS) : Option (Int × sS) :=
  if sK S v3 = 7 then bnd (sg S v3 0) (fun r824 => if v1 = sb S ∧ 0 ≤ v1 then bdC (fT) (fC_relieve (sc S) 0 r824) (fun y827 c828 => bnd (cS S c828) (fun S829 => if y827 = v6 then (some (1, S829)) else (some (0, S829)))) else none) else none
theorem tj112_1147 {κ : CX} (hQ : κ.2.2.2.2.2.2.2.2.2 = (ql_I, ql_P)) {n0 s0 : Int} {d : Nat} (hd : 70 ≤ d) {v1 v3 v6 : Int} (h1 : RfO v1) (h3 : RfO v3) (h6 : InR v6) (S : sS) (hW : WF2 κ S) (u0 : Option ev_V) (w0 : nwo u0) (u2 : Option ev_V) (w2 : nwo u2) (u4 : Option ev_V) (w4 : nwo u4) (u5 : Option ev_V) (w5 : nwo u5) (u7 : Option ev_V) (w7 : nwo u7) (u8 : Option ev_V) (w8 : nwo u8) (u9 : Option ev_V) (w9 : nwo u9) : G2 κ ql_i112 ql_m112 3 d n0 s0 (j112_1147 v1 v3 v6 S) 1147 [u0, some (sR v1), u2, some (sR v3), u4, u5, some (sI v6), u7, u8, u9] [] S := by
  unfold j112_1147
  refine g2_aload qk112_8.2.2.1.2.1.1 rfl ?_
  refine g2_aload qk112_8.2.2.1.2.1.2 rfl ?_
  refine g2_ck (fun q823 => ?_)
  refine g2_kn q823 (g2_getI qk112_8.2.2.1.2.2 hW ⟨by decide, by decide, by decide, rfl⟩ (fun r824 h825 => ?_))
  refine g2_ck (fun q826 => ?_)
  refine g2_kn q826 (g2_callC (t' := 1) (Is := [r824]) qk112_8.2.2.2.1.1.1 (by decide) rfl rfl (by omega) hW (Or.inl rfl) (by decide) ⟨rfl, rfl⟩ (tfC_relieve (by omega) hW.1.2 kd_c0 h825) (fun y827 S829 h830 w831 e832 => ?_))
  refine g2_iload qk112_8.2.2.2.1.1.2 rfl ?_
  refine g2_cmeq qk112_8.2.2.2.1.2.1 h830 h6 (fun c833 => ?_) (fun c834 => ?_)
  · refine g2_int qk112_8.2.2.2.1.2.2 1 rfl ?_
    refine g2_goto qk112_8.2.2.2.2.1.1 ?_
    exact g2_zret qk112_8.2.2.2.2.2 w831 (Or.inr rfl)
  · refine g2_int qk112_8.2.2.2.2.1.2 0 rfl ?_
    exact g2_zret qk112_8.2.2.2.2.2 w831 (Or.inl rfl)
noncomputable def b112_1091 (v0 : Int) (v1 : Int) (v3 : Int) (v7 : Int) (X1091 : Int → Int → sS → Option (Int × sS)) (v6 : Int) (v8 : Int) (S : sS) : Option (Int × sS) :=
  if v8 < 0 then (j112_1147 v1 v3 v6 S) else (if sK S v3 = 7 then bnd (sg S v3 5) (fun r793 => if v8 < r793 then (j112_1147 v1 v3 v6 S) else (if sK S v7 = 9 then bdS (q133_get S v7 v8) (fun y798 S799 => if y798 = -1 ∨ sK S799 y798 = 7 then if sK S799 y798 = 7 then bdS (q106_adopter S799 v0 y798 v3) (fun y805 S806 => bdS (q133_get S806 v7 v8) (fun y810 S811 => if y810 = -1 ∨ sK S811 y810 = 7 then if sK S811 y805 = 7 then if sK S811 y810 = 7 then bdS (q107_adopt S811 v0 y805 y810) (fun y818 S819 => X1091 (w32 (v6 + 1)) (w32 (v8 + (-1))) S819) else none else none else none)) else none else none) else none)) else none)
noncomputable def l112_1091 (v0 : Int) (v1 : Int) (v3 : Int) (v7 : Int) (n : Nat) : Int → Int → sS → Option (Int × sS) := Nat.rec (motive := fun _ => Int → Int → sS → Option (Int × sS)) (fun _ _ _ => none) (fun _ ih => b112_1091 v0 v1 v3 v7 ih) n
theorem tb112_1091 {κ : CX} (hQ : κ.2.2.2.2.2.2.2.2.2 = (ql_I, ql_P)) {n0 s0 : Int} {d : Nat} (hd : 70 ≤ d) {v0 v1 v3 v7 : Int} (h0 : RfO v0) (h1 : RfO v1) (h3 : RfO v3) (h7 : RfO v7) {X1091 : Int → Int → sS → Option (Int × sS)} (HX1091 : ∀ (v6 : Int) (h6 : InR v6) (v8 : Int) (h8 : InR v8) (S : sS) (hW : WF2 κ S) (hK0 : sK S v0 = 8) (u2 : Option ev_V) (w2 : nwo u2) (u4 : Option ev_V) (w4 : nwo u4) (u5 : Option ev_V) (w5 : nwo u5) (u9 : Option ev_V) (w9 : nwo u9), G2 κ ql_i112 ql_m112 3 d n0 s0 (X1091 v6 v8 S) 1091 [some (sR v0), some (sR v1), u2, some (sR v3), u4, u5, some (sI v6), some (sR v7), some (sI v8), u9] [] S) : ∀ (v6 : Int) (h6 : InR v6) (v8 : Int) (h8 : InR v8) (S : sS) (hW : WF2 κ S) (hK0 : sK S v0 = 8) (u2 : Option ev_V) (w2 : nwo u2) (u4 : Option ev_V) (w4 : nwo u4) (u5 : Option ev_V) (w5 : nwo u5) (u9 : Option ev_V) (w9 : nwo u9), G2 κ ql_i112 ql_m112 3 d n0 s0 (b112_1091 v0 v1 v3 v7 X1091 v6 v8 S) 1091 [some (sR v0), some (sR v1), u2, some (sR v3), u4, u5, some (sI v6), some (sR v7), some (sI v8), u9] [] S := by
  intro v6 h6 v8 h8 S hW hK0 u2 w2 u4 w4 u5 w5 u9 w9
  unfold b112_1091
  refine g2_iload qk112_8.1.2.2.2.1.1 rfl ?_
  refine g2_iflt qk112_8.1.2.2.2.1.2 h8 (fun c790 => ?_) (fun c791 => ?_)
  · exact tj112_1147 hQ hd h1 h3 h6 S hW (some (sR v0)) rfl u2 w2 u4 w4 u5 w5 (some (sR v7)) rfl (some (sI v8)) rfl u9 w9
  · refine g2_iload qk112_8.1.2.2.2.2 rfl ?_
    refine g2_aload qk112_8.2.1.1.1.1.1 rfl ?_
    refine g2_ck (fun q792 => ?_)
    refine g2_kn q792 (g2_getI qk112_8.2.1.1.1.1.2 hW ⟨by decide, by decide, by decide, rfl⟩ (fun r793 h794 => ?_))
    refine g2_cmlt qk112_8.2.1.1.1.2.1 h8 h794 (fun c795 => ?_) (fun c796 => ?_)
    · exact tj112_1147 hQ hd h1 h3 h6 S hW (some (sR v0)) rfl u2 w2 u4 w4 u5 w5 (some (sR v7)) rfl (some (sI v8)) rfl u9 w9
    · refine g2_aload qk112_8.2.1.1.1.2.2 rfl ?_
      refine g2_aload qk112_8.2.1.1.2.1.1 rfl ?_
      refine g2_aload qk112_8.2.1.1.2.1.2 rfl ?_
      refine g2_iload qk112_8.2.1.1.2.2.1 rfl ?_
      refine g2_ck (fun q797 => ?_)
      refine g2_kn q797 (g2_callF (t' := 2) qk112_8.2.1.1.2.2.2 (by decide) (ql_ip133 hQ) rfl rfl rfl (by omega) hW (tq133_get hQ (by omega) hW q797 h7 h8) (fun y798 S799 h800 w801 e802 => ?_))
      refine g2_ck (fun q803 => ?_)
      refine g2_kn q803 (g2_cast7 qk112_8.2.1.2.1.1.1 w801 h800 ?_)
      refine g2_aload qk112_8.2.1.2.1.1.2 rfl ?_
      refine g2_ck (fun q804 => ?_)
      refine g2_kn (ek e802 hK0 (by decide)) (g2_callV (t' := 2) qk112_8.2.1.2.1.2.1 (by decide) (ql_ip106 hQ) (by decide) rfl rfl rfl (by omega) w801 (tq106_adopter hQ (by omega) w801 (ek e802 hK0 (by decide)) q804 (ek e802 q792 (by decide)) h0 h800 h3) (fun y805 S806 h807 w808 e809 => ?_))
      refine g2_aload qk112_8.2.1.2.1.2.2 rfl ?_
      refine g2_iload qk112_8.2.1.2.2.1.1 rfl ?_
      refine g2_kn (ek e809 (ek e802 q797 (by decide)) (by decide)) (g2_callF (t' := 2) qk112_8.2.1.2.2.1.2 (by decide) (ql_ip133 hQ) rfl rfl rfl (by omega) w808 (tq133_get hQ (by omega) w808 (ek e809 (ek e802 q797 (by decide)) (by decide)) h7 h8) (fun y810 S811 h812 w813 e814 => ?_))
      refine g2_ck (fun q815 => ?_)
      refine g2_kn q815 (g2_cast7 qk112_8.2.1.2.2.2 w813 h812 ?_)
      refine g2_ck (fun q816 => ?_)
      refine g2_ck (fun q817 => ?_)
      refine g2_kn (ek e814 (ek e809 (ek e802 hK0 (by decide)) (by decide)) (by decide)) (g2_callV (t' := 0) qk112_8.2.2.1.1.1.1 (by decide) (ql_ip107 hQ) (by decide) rfl rfl rfl (by omega) w813 (tq107_adopt hQ (by omega) w813 (ek e814 (ek e809 (ek e802 hK0 (by decide)) (by decide)) (by decide)) q816 q817 h0 h807 h812) (fun y818 S819 h820 w821 e822 => ?_))
      refine g2_iinc qk112_8.2.2.1.1.1.2 rfl w5 1 rfl (loc2 := [some (sR v0), some (sR v1), u2, some (sR v3), u4, u5, some (sI (w32 (v6 + 1))), some (sR v7), some (sI v8), u9]) rfl ?_
      refine g2_iinc qk112_8.2.2.1.1.2.1 rfl rfl (-1) rfl (loc2 := [some (sR v0), some (sR v1), u2, some (sR v3), u4, u5, some (sI (w32 (v6 + 1))), some (sR v7), some (sI (w32 (v8 + (-1)))), u9]) rfl ?_
      refine g2_goto qk112_8.2.2.1.1.2.2 ?_
      exact HX1091 (w32 (v6 + 1)) (inR_w32 _) (w32 (v8 + (-1))) (inR_w32 _) S819 w821 (ek e822 (ek e814 (ek e809 (ek e802 hK0 (by decide)) (by decide)) (by decide)) (by decide)) u2 w2 u4 w4 u5 w5 u9 w9
theorem tl112_1091 {κ : CX} (hQ : κ.2.2.2.2.2.2.2.2.2 = (ql_I, ql_P)) {n0 s0 : Int} {d : Nat} (hd : 70 ≤ d) {v0 v1 v3 v7 : Int} (h0 : RfO v0) (h1 : RfO v1) (h3 : RfO v3) (h7 : RfO v7) : ∀ n : Nat, ∀ (v6 : Int) (h6 : InR v6) (v8 : Int) (h8 : InR v8) (S : sS) (hW : WF2 κ S) (hK0 : sK S v0 = 8) (u2 : Option ev_V) (w2 : nwo u2) (u4 : Option ev_V) (w4 : nwo u4) (u5 : Option ev_V) (w5 : nwo u5) (u9 : Option ev_V) (w9 : nwo u9), G2 κ ql_i112 ql_m112 3 d n0 s0 (l112_1091 v0 v1 v3 v7 n v6 v8 S) 1091 [some (sR v0), some (sR v1), u2, some (sR v3), u4, u5, some (sI v6), some (sR v7), some (sI v8), u9] [] S := by
  intro n
  induction n with
  | zero =>
    intro v6 h6 v8 h8 S hW hK0 u2 w2 u4 w4 u5 w5 u9 w9
    exact g2_none
  | succ n ih =>
    exact tb112_1091 hQ hd h0 h1 h3 h7 ih
noncomputable def j112_57 (v0 : Int) (v1 : Int) (v2 : Int) (v3 : Int) (v4 : Int) (s0 : Int) (S : sS) : Option (Int × sS) :=
  bdS (q99_bits S v2 0 4) (fun y38 S39 => if y38 = 0 then (if s0 = 0 then (if sK S39 v3 = 7 then bdS (q110_exit S39 v0 v3 v4) (fun y48 S49 => bnd (sg S49 v3 0) (fun r53 => if v1 = sb S49 ∧ 0 ≤ v1 then bdC (fT) (fC_exit (sc S49) 0 r53 v4) (fun y56 c57 => bnd (cS S49 c57) (fun S58 => if y56 = y48 then (some (1, S58)) else (some (0, S58)))) else none)) else none) else (some (1, S39))) else if y38 = 1 then (if s0 = 0 then (if sK S39 v3 = 7 then bdS (q110_exit S39 v0 v3 v4) (fun y69 S70 => bnd (sg S70 v3 0) (fun r74 => if v1 = sb S70 ∧ 0 ≤ v1 then bdC (fT) (fC_exit (sc S70) 0 r74 v4) (fun y77 c78 => bnd (cS S70 c78) (fun S79 => if y77 = y69 then (some (1, S79)) else (some (0, S79)))) else none)) else none) else (some (1, S39))) else if y38 = 2 then (if s0 = 0 then (if sK S39 v3 = 7 then bdS (q110_exit S39 v0 v3 v4) (fun y90 S91 => bnd (sg S91 v3 0) (fun r95 => if v1 = sb S91 ∧ 0 ≤ v1 then bdC (fT) (fC_exit (sc S91) 0 r95 v4) (fun y98 c99 => bnd (cS S91 c99) (fun S100 => if y98 = y90 then (some (1, S100)) else (some (0, S100)))) else none)) else none) else (some (1, S39))) else if y38 = 3 then (if sn S39 < 1000000 then bnd (sn S39) (fun p108 => bnd (nS S39 9 3) (fun S109 => bdS (q120_init S109 p108) (fun y115 S116 => bnd (sg S116 v0 0) (fun r120 => if sK S116 r120 = 9 then bdS (q136_iterator S116 r120) (fun y123 S124 => l112_200 v0 v1 v4 0 p108 y123 fu S124) else none)))) else none) else if y38 = 4 then (if sK S39 v3 = 7 then bdS (q104_room S39 v0 v3) (fun y131 S132 => if y131 = 0 then (some (1, S132)) else (bnd (sg S132 v0 0) (fun r138 => if sK S132 r138 = 9 then bdS (q134_size S132 r138) (fun y141 S142 => if y141 = 40 then (some (1, S142)) else (bnd (sg S142 v0 0) (fun r148 => if sn S142 < 1000000 then bnd (sn S142) (fun p150 => bnd (nS S142 7 13) (fun S151 => bnd (sg S151 v0 0) (fun r157 => if sK S151 r157 = 9 then bdS (q134_size S151 r157) (fun y160 S161 => if (1 : Int) ≤ 2 ∧ 2 < (2147483648 : Int) ∧ (0 : Int) ≤ v4 ∧ v4 < 2147483648 then if (1 : Int) ≤ 3 ∧ 3 < (2147483648 : Int) ∧ (0 : Int) ≤ v4 ∧ v4 < 2147483648 then bdS (q114_init S161 p150 y160 v3 v4 (v4 / 2) (v4 % 3)) (fun y167 S168 => if sK S168 r148 = 9 then bdS (q129_add S168 r148 p150) (fun y173 S174 => bnd (sg S174 v3 0) (fun r178 => if (1 : Int) ≤ 2 ∧ 2 < (2147483648 : Int) ∧ (0 : Int) ≤ v4 ∧ v4 < 2147483648 then if (1 : Int) ≤ 3 ∧ 3 < (2147483648 : Int) ∧ (0 : Int) ≤ v4 ∧ v4 < 2147483648 then if v1 = sb S174 ∧ 0 ≤ v1 then bdC (fT) (fC_spawn (sc S174) 0 r178 v4 (v4 / 2) (v4 % 3)) (fun y183 c184 => bnd (cS S174 c184) (fun S185 => bnd (sg S185 v0 0) (fun r189 => if sK S185 r189 = 9 then bdS (q134_size S185 r189) (fun y192 S193 => if y183 = (w32 (y192 - 1)) then (some (1, S193)) else (some (0, S193))) else none))) else none else none else none)) else none) else none else none) else none))) else none))) else none))) else none) else if y38 = 5 then (if sK S39 v3 = 7 then bdS (q104_room S39 v0 v3) (fun y202 S203 => if y202 = 0 then (some (1, S203)) else (bnd (sg S203 v0 0) (fun r209 => if sK S203 r209 = 9 then bdS (q134_size S203 r209) (fun y212 S213 => if y212 = 40 then (some (1, S213)) else (bnd (sg S213 v0 0) (fun r219 => if sn S213 < 1000000 then bnd (sn S213) (fun p221 => bnd (nS S213 7 13) (fun S222 => bnd (sg S222 v0 0) (fun r228 => if sK S222 r228 = 9 then bdS (q134_size S222 r228) (fun y231 S232 => if (1 : Int) ≤ 2 ∧ 2 < (2147483648 : Int) ∧ (0 : Int) ≤ v4 ∧ v4 < 2147483648 then if (1 : Int) ≤ 3 ∧ 3 < (2147483648 : Int) ∧ (0 : Int) ≤ v4 ∧ v4 < 2147483648 then bdS (q114_init S232 p221 y231 v3 v4 (v4 / 2) (v4 % 3)) (fun y238 S239 => if sK S239 r219 = 9 then bdS (q129_add S239 r219 p221) (fun y244 S245 => bnd (sg S245 v3 0) (fun r249 => if (1 : Int) ≤ 2 ∧ 2 < (2147483648 : Int) ∧ (0 : Int) ≤ v4 ∧ v4 < 2147483648 then if (1 : Int) ≤ 3 ∧ 3 < (2147483648 : Int) ∧ (0 : Int) ≤ v4 ∧ v4 < 2147483648 then if v1 = sb S245 ∧ 0 ≤ v1 then bdC (fT) (fC_spawn (sc S245) 0 r249 v4 (v4 / 2) (v4 % 3)) (fun y254 c255 => bnd (cS S245 c255) (fun S256 => bnd (sg S256 v0 0) (fun r260 => if sK S256 r260 = 9 then bdS (q134_size S256 r260) (fun y263 S264 => if y254 = (w32 (y263 - 1)) then (some (1, S264)) else (some (0, S264))) else none))) else none else none else none)) else none) else none else none) else none))) else none))) else none))) else none) else if y38 = 6 then (if sK S39 v3 = 7 then bdS (q104_room S39 v0 v3) (fun y273 S274 => if y273 = 0 then (some (1, S274)) else (bnd (sg S274 v0 0) (fun r280 => if sK S274 r280 = 9 then bdS (q134_size S274 r280) (fun y283 S284 => if y283 = 40 then (some (1, S284)) else (bnd (sg S284 v0 0) (fun r290 => if sn S284 < 1000000 then bnd (sn S284) (fun p292 => bnd (nS S284 7 13) (fun S293 => bnd (sg S293 v0 0) (fun r299 => if sK S293 r299 = 9 then bdS (q134_size S293 r299) (fun y302 S303 => if (1 : Int) ≤ 2 ∧ 2 < (2147483648 : Int) ∧ (0 : Int) ≤ v4 ∧ v4 < 2147483648 then if (1 : Int) ≤ 3 ∧ 3 < (2147483648 : Int) ∧ (0 : Int) ≤ v4 ∧ v4 < 2147483648 then bdS (q114_init S303 p292 y302 v3 v4 (v4 / 2) (v4 % 3)) (fun y309 S310 => if sK S310 r290 = 9 then bdS (q129_add S310 r290 p292) (fun y315 S316 => bnd (sg S316 v3 0) (fun r320 => if (1 : Int) ≤ 2 ∧ 2 < (2147483648 : Int) ∧ (0 : Int) ≤ v4 ∧ v4 < 2147483648 then if (1 : Int) ≤ 3 ∧ 3 < (2147483648 : Int) ∧ (0 : Int) ≤ v4 ∧ v4 < 2147483648 then if v1 = sb S316 ∧ 0 ≤ v1 then bdC (fT) (fC_spawn (sc S316) 0 r320 v4 (v4 / 2) (v4 % 3)) (fun y325 c326 => bnd (cS S316 c326) (fun S327 => bnd (sg S327 v0 0) (fun r331 => if sK S327 r331 = 9 then bdS (q134_size S327 r331) (fun y334 S335 => if y325 = (w32 (y334 - 1)) then (some (1, S335)) else (some (0, S335))) else none))) else none else none else none)) else none) else none else none) else none))) else none))) else none))) else none) else if y38 = 7 then (if s0 = 0 then (if sK S39 v3 = 7 then bnd (sg S39 v3 9) (fun r346 => bnd (uS S39 v3 9 (opI 2 r346 (opI 4 1 v4))) (fun S348 => bdS (q103_children S348 v0 v3 0) (fun y351 S352 => if sK S352 y351 = 9 then bdS (q136_iterator S352 y351) (fun y357 S358 => l112_548 v0 v1 v3 v4 y357 fu 0 S358) else none))) else none) else (some (1, S39))) else if y38 = 8 then (if sK S39 v3 = 7 then bnd (sg S39 v3 7) (fun r365 => if r365 = 0 then (bnd (sg S39 v3 9) (fun r369 => if (opI 1 (opI 5 r369 v4) 1) = 1 then (j112_650 v1 v3 v4 1 S39) else (j112_650 v1 v3 v4 0 S39))) else (some (1, S39))) else none) else if y38 = 9 then (if sK S39 v3 = 7 then bnd (sg S39 v3 7) (fun r376 => if r376 = 0 then (bnd (sg S39 v3 5) (fun r380 => bnd (uS S39 v3 5 v4) (fun S382 => bnd (sg S382 v3 0) (fun r385 => if v1 = sb S382 ∧ 0 ≤ v1 then bdC (fT) (fC_setCapacity (sc S382) 0 r385 v4) (fun y388 c389 => bnd (cS S382 c389) (fun S390 => if y388 = r380 then (some (1, S390)) else (some (0, S390)))) else none)))) else (some (1, S39))) else none) else if y38 = 10 then (if sK S39 v3 = 7 then bnd (sg S39 v3 7) (fun r399 => if r399 = 0 then (bnd (sg S39 v3 6) (fun r403 => bnd (uS S39 v3 6 v4) (fun S405 => bnd (sg S405 v3 0) (fun r408 => if v1 = sb S405 ∧ 0 ≤ v1 then bdC (fT) (fC_setBudget (sc S405) 0 r408 v4) (fun y411 c412 => bnd (cS S405 c412) (fun S413 => if y411 = r403 then (some (1, S413)) else (some (0, S413)))) else none)))) else (some (1, S39))) else none) else if y38 = 11 then (bnd (sg S39 v0 0) (fun r421 => bnd (sg S39 v0 0) (fun r423 => if sK S39 r423 = 9 then bdS (q134_size S39 r423) (fun y426 S427 => if (1 : Int) ≤ y426 ∧ y426 < (2147483648 : Int) ∧ (0 : Int) ≤ v4 ∧ v4 < 2147483648 then if sK S427 r421 = 9 then bdS (q133_get S427 r421 (v4 % y426)) (fun y433 S434 => if y433 = -1 ∨ sK S434 y433 = 7 then if s0 = 0 then (if y433 = v3 then (some (1, S434)) else (if sK S434 v3 = 7 then bnd (sg S434 v3 3) (fun r444 => if r444 < 0 then (j112_829 v1 v3 y433 (-1) S434) else (bnd (sg S434 v3 3) (fun r448 => if sK S434 r448 = 7 then bnd (sg S434 r448 0) (fun r451 => j112_829 v1 v3 y433 r451 S434) else none))) else none)) else (some (1, S434)) else none) else none else none) else none))) else if y38 = 12 then (if sK S39 v3 = 7 then bnd (sg S39 v3 7) (fun r456 => if r456 = 0 then (bnd (sg S39 v0 2) (fun r460 => if sK S39 r460 = 27 then if 0 ≤ v4 ∧ v4 < sZ S39 r460 then bnd (sg S39 r460 v4) (fun r464 => if sK S39 r464 = 7 then bnd (sg S39 r464 0) (fun r467 => bnd (sg S39 v0 2) (fun r469 => if sK S39 r469 = 27 then if 0 ≤ v4 ∧ v4 < sZ S39 r469 then bnd (uS S39 r469 v4 v3) (fun S473 => bnd (sg S473 v3 0) (fun r476 => if v1 = sb S473 ∧ 0 ≤ v1 then bdC (fT) (fC_give (sc S473) 0 v4 r476) (fun y479 c480 => bnd (cS S473 c480) (fun S481 => if y479 = r467 then (some (1, S481)) else (some (0, S481)))) else none)) else none else none)) else none) else none else none)) else (some (1, S39))) else none) else if y38 = 13 then (if sK S39 v3 = 7 then bnd (sg S39 v3 7) (fun r490 => if r490 = 0 then (bnd (sg S39 v3 0) (fun r494 => if v1 = sb S39 ∧ 0 ≤ v1 then bdC (fT) (fC_readAll (sc S39) 0 r494) (fun y497 c498 => bnd (cS S39 c498) (fun S499 => bdS (q108_readAll S499 v0 v3) (fun y503 S504 => if y497 = y503 then (some (1, S504)) else (some (0, S504))))) else none)) else (some (1, S39))) else none) else if y38 = 14 then (bnd (sg S39 v0 0) (fun r512 => bnd (sg S39 v0 0) (fun r514 => if sK S39 r514 = 9 then bdS (q134_size S39 r514) (fun y517 S518 => if (1 : Int) ≤ y517 ∧ y517 < (2147483648 : Int) ∧ (0 : Int) ≤ v4 ∧ v4 < 2147483648 then if sK S518 r512 = 9 then bdS (q133_get S518 r512 (v4 % y517)) (fun y524 S525 => if y524 = -1 ∨ sK S525 y524 = 7 then if s0 = 0 then (if sK S525 y524 = 7 then bnd (sg S525 y524 7) (fun r533 => if r533 = 0 then (if y524 = v3 then (some (1, S525)) else (bdS (q115_isBelow S525 y524 v3) (fun y539 S540 => if y539 = 0 then (bdS (q104_room S540 v0 y524) (fun y546 S547 => if y546 = 0 then (some (1, S547)) else (bnd (sg S547 y524 9) (fun r553 => if sK S547 v3 = 7 then bnd (sg S547 v3 1) (fun r556 => if (opI 1 (opI 5 r553 r556) 1) = 1 then (some (1, S547)) else (bnd (sg S547 v3 2) (fun r560 => if sK S547 r560 = 7 then bnd (sg S547 r560 0) (fun r563 => bnd (uS S547 v3 2 y524) (fun S565 => bnd (sg S565 v3 0) (fun r568 => bnd (sg S565 y524 0) (fun r570 => if v1 = sb S565 ∧ 0 ≤ v1 then bdC (fT) (fC_move (sc S565) 0 r568 r570) (fun y573 c574 => bnd (cS S565 c574) (fun S575 => if y573 = r563 then (some (1, S575)) else (some (0, S575)))) else none)))) else none))) else none)))) else (some (1, S540))))) else (some (1, S525))) else none) else (some (1, S525)) else none) else none else none) else none))) else (if s0 = 0 then (bdS (q103_children S39 v0 v3 0) (fun y583 S584 => if sK S584 y583 = 9 then bdS (q134_size S584 y583) (fun y589 S590 => l112_1091 v0 v1 v3 y583 fu 0 (w32 (y589 - 1)) S590) else none)) else (some (1, S39))))
theorem tj112_57 {κ : CX} (hQ : κ.2.2.2.2.2.2.2.2.2 = (ql_I, ql_P)) {n0 s0 : Int} {d : Nat} (hd : 70 ≤ d) {v0 v1 v2 v3 v4 : Int} {s0 : Int} (h0 : RfO v0) (h1 : RfO v1) (h2 : InR v2) (h3 : RfO v3) (h4 : InR v4) (z0 : B01 s0) (S : sS) (hW : WF2 κ S) (hK0 : sK S v0 = 8) (u5 : Option ev_V) (w5 : nwo u5) (u6 : Option ev_V) (w6 : nwo u6) (u7 : Option ev_V) (w7 : nwo u7) (u8 : Option ev_V) (w8 : nwo u8) (u9 : Option ev_V) (w9 : nwo u9) : G2 κ ql_i112 ql_m112 3 d n0 s0 (j112_57 v0 v1 v2 v3 v4 s0 S) 57 [some (sR v0), some (sR v1), some (sI v2), some (sR v3), some (sI v4), u5, u6, u7, u8, u9] [(sI s0)] S := by
  unfold j112_57
  refine g2_istore qk112_0.1.2.2.2.1.2 rfl (loc2 := [some (sR v0), some (sR v1), some (sI v2), some (sR v3), some (sI v4), some (sI s0), u6, u7, u8, u9]) rfl ?_
  refine g2_iload qk112_0.1.2.2.2.2 rfl ?_
  refine g2_int qk112_0.2.1.1.1.1.1 0 rfl ?_
  refine g2_int qk112_0.2.1.1.1.1.2 4 rfl ?_
  refine g2_callS (t' := 1) qk112_0.2.1.1.1.2.1 (by decide) (ql_ip99 hQ) rfl rfl rfl rfl (by omega) (tq99_bits hQ (by omega) hW h2 (inR_b (Or.inl rfl)) (inR_of (by decide))) (fun y38 S39 h40 w41 e42 => ?_)
  refine g2_ite (fun c43 => ?_) (fun c44 => ?_)
  · refine g2_swh (lo := 0) (hi := 14) (i := 0) qk112_0.2.1.1.1.2.2 rfl rfl (by omega) (by omega) rfl ?_
    refine g2_iload qk112_0.2.1.1.2.1.1 rfl ?_
    refine g2_ifeq qk112_0.2.1.1.2.1.2 (inR_b z0) (fun c45 => ?_) (fun c46 => ?_)
    · refine g2_aload qk112_0.2.1.2.1.1.2 rfl ?_
      refine g2_aload qk112_0.2.1.2.1.2.1 rfl ?_
      refine g2_iload qk112_0.2.1.2.1.2.2 rfl ?_
      refine g2_ck (fun q47 => ?_)
      refine g2_kn (ek e42 hK0 (by decide)) (g2_callV (t' := 1) qk112_0.2.1.2.2.1.1 (by decide) (ql_ip110 hQ) (by decide) rfl rfl rfl (by omega) w41 (tq110_exit hQ (by omega) w41 (ek e42 hK0 (by decide)) q47 h0 h3 h4) (fun y48 S49 h50 w51 e52 => ?_))
      refine g2_istore qk112_0.2.1.2.2.1.2 rfl (loc2 := [some (sR v0), some (sR v1), some (sI v2), some (sR v3), some (sI v4), some (sI s0), some (sI y48), u7, u8, u9]) rfl ?_
      refine g2_aload qk112_0.2.1.2.2.2 rfl ?_
      refine g2_aload qk112_0.2.2.1.1.1.1 rfl ?_
      refine g2_kn (ek e52 q47 (by decide)) (g2_getI qk112_0.2.2.1.1.1.2 w51 ⟨by decide, by decide, by decide, rfl⟩ (fun r53 h54 => ?_))
      refine g2_iload qk112_0.2.2.1.1.2.1 rfl ?_
      refine g2_ck (fun q55 => ?_)
      refine g2_kn q55 (g2_callC (t' := 1) (Is := [r53, v4]) qk112_0.2.2.1.1.2.2 (by decide) rfl rfl (by omega) w51 (Or.inl rfl) (by decide) ⟨rfl, rfl⟩ (tfC_exit (by omega) w51.1.2 kd_c0 h54 h4) (fun y56 S58 h59 w60 e61 => ?_))
      refine g2_iload qk112_0.2.2.1.2.1.1 rfl ?_
      refine g2_cmeq qk112_0.2.2.1.2.1.2 h59 h50 (fun c62 => ?_) (fun c63 => ?_)
      · refine g2_int qk112_0.2.2.1.2.2 1 rfl ?_
        refine g2_goto qk112_0.2.2.2.1.1.1 ?_
        exact g2_zret qk112_0.2.2.2.1.2.1 w60 (Or.inr rfl)
      · refine g2_int qk112_0.2.2.2.1.1.2 0 rfl ?_
        exact g2_zret qk112_0.2.2.2.1.2.1 w60 (Or.inl rfl)
    · refine g2_int qk112_0.2.1.1.2.2 1 rfl ?_
      exact g2_zret qk112_0.2.1.2.1.1.1 w41 (Or.inr rfl)
  refine g2_ite (fun c64 => ?_) (fun c65 => ?_)
  · refine g2_swh (lo := 0) (hi := 14) (i := 1) qk112_0.2.1.1.1.2.2 rfl rfl (by omega) (by omega) rfl ?_
    refine g2_iload qk112_0.2.1.1.2.1.1 rfl ?_
    refine g2_ifeq qk112_0.2.1.1.2.1.2 (inR_b z0) (fun c66 => ?_) (fun c67 => ?_)
    · refine g2_aload qk112_0.2.1.2.1.1.2 rfl ?_
      refine g2_aload qk112_0.2.1.2.1.2.1 rfl ?_
      refine g2_iload qk112_0.2.1.2.1.2.2 rfl ?_
      refine g2_ck (fun q68 => ?_)
      refine g2_kn (ek e42 hK0 (by decide)) (g2_callV (t' := 1) qk112_0.2.1.2.2.1.1 (by decide) (ql_ip110 hQ) (by decide) rfl rfl rfl (by omega) w41 (tq110_exit hQ (by omega) w41 (ek e42 hK0 (by decide)) q68 h0 h3 h4) (fun y69 S70 h71 w72 e73 => ?_))
      refine g2_istore qk112_0.2.1.2.2.1.2 rfl (loc2 := [some (sR v0), some (sR v1), some (sI v2), some (sR v3), some (sI v4), some (sI s0), some (sI y69), u7, u8, u9]) rfl ?_
      refine g2_aload qk112_0.2.1.2.2.2 rfl ?_
      refine g2_aload qk112_0.2.2.1.1.1.1 rfl ?_
      refine g2_kn (ek e73 q68 (by decide)) (g2_getI qk112_0.2.2.1.1.1.2 w72 ⟨by decide, by decide, by decide, rfl⟩ (fun r74 h75 => ?_))
      refine g2_iload qk112_0.2.2.1.1.2.1 rfl ?_
      refine g2_ck (fun q76 => ?_)
      refine g2_kn q76 (g2_callC (t' := 1) (Is := [r74, v4]) qk112_0.2.2.1.1.2.2 (by decide) rfl rfl (by omega) w72 (Or.inl rfl) (by decide) ⟨rfl, rfl⟩ (tfC_exit (by omega) w72.1.2 kd_c0 h75 h4) (fun y77 S79 h80 w81 e82 => ?_))
      refine g2_iload qk112_0.2.2.1.2.1.1 rfl ?_
      refine g2_cmeq qk112_0.2.2.1.2.1.2 h80 h71 (fun c83 => ?_) (fun c84 => ?_)
      · refine g2_int qk112_0.2.2.1.2.2 1 rfl ?_
        refine g2_goto qk112_0.2.2.2.1.1.1 ?_
        exact g2_zret qk112_0.2.2.2.1.2.1 w81 (Or.inr rfl)
      · refine g2_int qk112_0.2.2.2.1.1.2 0 rfl ?_
        exact g2_zret qk112_0.2.2.2.1.2.1 w81 (Or.inl rfl)
    · refine g2_int qk112_0.2.1.1.2.2 1 rfl ?_
      exact g2_zret qk112_0.2.1.2.1.1.1 w41 (Or.inr rfl)
  refine g2_ite (fun c85 => ?_) (fun c86 => ?_)
  · refine g2_swh (lo := 0) (hi := 14) (i := 2) qk112_0.2.1.1.1.2.2 rfl rfl (by omega) (by omega) rfl ?_
    refine g2_iload qk112_0.2.1.1.2.1.1 rfl ?_
    refine g2_ifeq qk112_0.2.1.1.2.1.2 (inR_b z0) (fun c87 => ?_) (fun c88 => ?_)
    · refine g2_aload qk112_0.2.1.2.1.1.2 rfl ?_
      refine g2_aload qk112_0.2.1.2.1.2.1 rfl ?_
      refine g2_iload qk112_0.2.1.2.1.2.2 rfl ?_
      refine g2_ck (fun q89 => ?_)
      refine g2_kn (ek e42 hK0 (by decide)) (g2_callV (t' := 1) qk112_0.2.1.2.2.1.1 (by decide) (ql_ip110 hQ) (by decide) rfl rfl rfl (by omega) w41 (tq110_exit hQ (by omega) w41 (ek e42 hK0 (by decide)) q89 h0 h3 h4) (fun y90 S91 h92 w93 e94 => ?_))
      refine g2_istore qk112_0.2.1.2.2.1.2 rfl (loc2 := [some (sR v0), some (sR v1), some (sI v2), some (sR v3), some (sI v4), some (sI s0), some (sI y90), u7, u8, u9]) rfl ?_
      refine g2_aload qk112_0.2.1.2.2.2 rfl ?_
      refine g2_aload qk112_0.2.2.1.1.1.1 rfl ?_
      refine g2_kn (ek e94 q89 (by decide)) (g2_getI qk112_0.2.2.1.1.1.2 w93 ⟨by decide, by decide, by decide, rfl⟩ (fun r95 h96 => ?_))
      refine g2_iload qk112_0.2.2.1.1.2.1 rfl ?_
      refine g2_ck (fun q97 => ?_)
      refine g2_kn q97 (g2_callC (t' := 1) (Is := [r95, v4]) qk112_0.2.2.1.1.2.2 (by decide) rfl rfl (by omega) w93 (Or.inl rfl) (by decide) ⟨rfl, rfl⟩ (tfC_exit (by omega) w93.1.2 kd_c0 h96 h4) (fun y98 S100 h101 w102 e103 => ?_))
      refine g2_iload qk112_0.2.2.1.2.1.1 rfl ?_
      refine g2_cmeq qk112_0.2.2.1.2.1.2 h101 h92 (fun c104 => ?_) (fun c105 => ?_)
      · refine g2_int qk112_0.2.2.1.2.2 1 rfl ?_
        refine g2_goto qk112_0.2.2.2.1.1.1 ?_
        exact g2_zret qk112_0.2.2.2.1.2.1 w102 (Or.inr rfl)
      · refine g2_int qk112_0.2.2.2.1.1.2 0 rfl ?_
        exact g2_zret qk112_0.2.2.2.1.2.1 w102 (Or.inl rfl)
    · refine g2_int qk112_0.2.1.1.2.2 1 rfl ?_
      exact g2_zret qk112_0.2.1.2.1.1.1 w41 (Or.inr rfl)
  refine g2_ite (fun c106 => ?_) (fun c107 => ?_)
  · refine g2_swh (lo := 0) (hi := 14) (i := 3) qk112_0.2.1.1.1.2.2 rfl rfl (by omega) (by omega) rfl ?_
    refine g2_int qk112_0.2.2.2.1.2.2 0 rfl ?_
    refine g2_istore qk112_0.2.2.2.2.1.1 rfl (loc2 := [some (sR v0), some (sR v1), some (sI v2), some (sR v3), some (sI v4), some (sI s0), some (sI 0), u7, u8, u9]) rfl ?_
    refine g2_ck (fun q114 => ?_)
    refine g2_kn q114 (g2_new qk112_0.2.2.2.2.1.2 w41 ⟨⟨by decide, by decide⟩, rfl, by decide⟩ rfl (fun p108 S109 h110 k111 w112 e113 => ?_))
    refine g2_dupR qk112_0.2.2.2.2.2 ?_
    refine g2_kn (kn_pos w112.2.1 k111.1 (by decide)) (g2_callI qk112_1.1.1.1.1.1.1 (by decide) (ql_ip120 hQ) rfl rfl rfl (by omega) ⟨_, qd_112_184⟩ (tq120_init hQ (by omega) w112 k111.1 (rfO_of h110)) (fun y115 S116 w118 e119 => ?_))
    refine g2_astore qk112_1.1.1.1.1.1.2 rfl (loc2 := [some (sR v0), some (sR v1), some (sI v2), some (sR v3), some (sI v4), some (sI s0), some (sI 0), some (sR p108), u8, u9]) rfl ?_
    refine g2_aload qk112_1.1.1.1.1.2.1 rfl ?_
    refine g2_kn (ek e119 (ek e113 (ek e42 hK0 (by decide)) (by decide)) (by decide)) (g2_getR qk112_1.1.1.1.1.2.2 w118 ⟨by decide, by decide, by decide, rfl⟩ (fun r120 h121 => ?_))
    refine g2_ck (fun q122 => ?_)
    refine g2_kn q122 (g2_callF (t' := 2) qk112_1.1.1.1.2.1.1 (by decide) (ql_ip136 hQ) rfl rfl rfl (by omega) w118 (tq136_iterator hQ (by omega) w118 q122 h121) (fun y123 S124 h125 w126 e127 => ?_))
    refine g2_astore qk112_1.1.1.1.2.1.2 rfl (loc2 := [some (sR v0), some (sR v1), some (sI v2), some (sR v3), some (sI v4), some (sI s0), some (sI 0), some (sR p108), some (sR y123), u9]) rfl ?_
    exact tl112_200 hQ hd h0 h1 h4 (Or.inl rfl) (rfO_of h110) h125 fu S124 w126 (ek e127 (ek e119 (ek e113 (ek e42 hK0 (by decide)) (by decide)) (by decide)) (by decide)) (some (sI v2)) rfl (some (sR v3)) rfl (some (sI s0)) rfl u9 w9
  refine g2_ite (fun c128 => ?_) (fun c129 => ?_)
  · refine g2_swh (lo := 0) (hi := 14) (i := 4) qk112_0.2.1.1.1.2.2 rfl rfl (by omega) (by omega) rfl ?_
    refine g2_aload qk112_2.2.1.1.1.1.2 rfl ?_
    refine g2_aload qk112_2.2.1.1.1.2.1 rfl ?_
    refine g2_ck (fun q130 => ?_)
    refine g2_kn (ek e42 hK0 (by decide)) (g2_callV (t' := 1) qk112_2.2.1.1.1.2.2 (by decide) (ql_ip104 hQ) (by decide) rfl rfl rfl (by omega) w41 (tq104_room hQ (by omega) w41 (ek e42 hK0 (by decide)) q130 h0 h3) (fun y131 S132 h133 w134 e135 => ?_))
    refine g2_ifeq qk112_2.2.1.1.2.1.1 h133 (fun c136 => ?_) (fun c137 => ?_)
    · refine g2_int qk112_2.2.1.2.1.2.2 1 rfl ?_
      exact g2_zret qk112_2.2.1.2.2.1.1 w134 (Or.inr rfl)
    · refine g2_aload qk112_2.2.1.1.2.1.2 rfl ?_
      refine g2_kn (ek e135 (ek e42 hK0 (by decide)) (by decide)) (g2_getR qk112_2.2.1.1.2.2 w134 ⟨by decide, by decide, by decide, rfl⟩ (fun r138 h139 => ?_))
      refine g2_ck (fun q140 => ?_)
      refine g2_kn q140 (g2_callF (t' := 1) qk112_2.2.1.2.1.1.1 (by decide) (ql_ip134 hQ) rfl rfl rfl (by omega) w134 (tq134_size hQ (by omega) w134 q140 h139) (fun y141 S142 h143 w144 e145 => ?_))
      refine g2_int qk112_2.2.1.2.1.1.2 40 rfl ?_
      refine g2_cmeq qk112_2.2.1.2.1.2.1 h143 (inR_of (by decide)) (fun c146 => ?_) (fun c147 => ?_)
      · refine g2_int qk112_2.2.1.2.1.2.2 1 rfl ?_
        exact g2_zret qk112_2.2.1.2.2.1.1 w144 (Or.inr rfl)
      · refine g2_aload qk112_2.2.1.2.2.1.2 rfl ?_
        refine g2_kn (ek e145 (ek e135 (ek e42 hK0 (by decide)) (by decide)) (by decide)) (g2_getR qk112_2.2.1.2.2.2 w144 ⟨by decide, by decide, by decide, rfl⟩ (fun r148 h149 => ?_))
        refine g2_ck (fun q156 => ?_)
        refine g2_kn q156 (g2_new qk112_2.2.2.1.1.1.1 w144 ⟨⟨by decide, by decide⟩, rfl, by decide⟩ rfl (fun p150 S151 h152 k153 w154 e155 => ?_))
        refine g2_dupR qk112_2.2.2.1.1.1.2 ?_
        refine g2_aload qk112_2.2.2.1.1.2.1 rfl ?_
        refine g2_kn (ek e155 (ek e145 (ek e135 (ek e42 hK0 (by decide)) (by decide)) (by decide)) (by decide)) (g2_getR qk112_2.2.2.1.1.2.2 w154 ⟨by decide, by decide, by decide, rfl⟩ (fun r157 h158 => ?_))
        refine g2_ck (fun q159 => ?_)
        refine g2_kn q159 (g2_callF (t' := 1) qk112_2.2.2.1.2.1.1 (by decide) (ql_ip134 hQ) rfl rfl rfl (by omega) w154 (tq134_size hQ (by omega) w154 q159 h158) (fun y160 S161 h162 w163 e164 => ?_))
        refine g2_aload qk112_2.2.2.1.2.1.2 rfl ?_
        refine g2_iload qk112_2.2.2.1.2.2 rfl ?_
        refine g2_iload qk112_2.2.2.2.1.1.1 rfl ?_
        refine g2_int qk112_2.2.2.2.1.1.2 2 rfl ?_
        refine g2_ck (fun q165 => ?_)
        refine g2_div qk112_2.2.2.2.1.2.1 q165 ?_
        refine g2_iload qk112_2.2.2.2.1.2.2 rfl ?_
        refine g2_int qk112_2.2.2.2.2.1.1 3 rfl ?_
        refine g2_ck (fun q166 => ?_)
        refine g2_rem qk112_2.2.2.2.2.1.2 q166 ?_
        refine g2_kn (kn_pos w163.2.1 (ek e164 k153.1 (by decide)) (by decide)) (g2_callI qk112_2.2.2.2.2.2 (by decide) (ql_ip114 hQ) rfl rfl rfl (by omega) ⟨_, qd_112_465⟩ (tq114_init hQ (by omega) w163 (ek e164 k153.1 (by decide)) (rfO_of h152) h162 h3 h4 (inR_div q165) (inR_rem q166)) (fun y167 S168 w170 e171 => ?_))
        refine g2_ck (fun q172 => ?_)
        refine g2_kn q172 (g2_callF (t' := 3) qk112_3.1.1.1.1.1.1 (by decide) (ql_ip129 hQ) rfl rfl rfl (by omega) w170 (tq129_add hQ (by omega) w170 q172 h149 (rfO_of h152)) (fun y173 S174 h175 w176 e177 => ?_))
        refine g2_popI qk112_3.1.1.1.1.1.2 ?_
        refine g2_aload qk112_3.1.1.1.1.2.1 rfl ?_
        refine g2_aload qk112_3.1.1.1.1.2.2 rfl ?_
        refine g2_kn (ek e177 (ek e171 (ek e164 (ek e155 (ek e145 (ek e135 q130 (by decide)) (by decide)) (by decide)) (by decide)) (by decide)) (by decide)) (g2_getI qk112_3.1.1.1.2.1.1 w176 ⟨by decide, by decide, by decide, rfl⟩ (fun r178 h179 => ?_))
        refine g2_iload qk112_3.1.1.1.2.1.2 rfl ?_
        refine g2_iload qk112_3.1.1.1.2.2.1 rfl ?_
        refine g2_int qk112_3.1.1.1.2.2.2 2 rfl ?_
        refine g2_ck (fun q180 => ?_)
        refine g2_div qk112_3.1.1.2.1.1.1 q180 ?_
        refine g2_iload qk112_3.1.1.2.1.1.2 rfl ?_
        refine g2_int qk112_3.1.1.2.1.2.1 3 rfl ?_
        refine g2_ck (fun q181 => ?_)
        refine g2_rem qk112_3.1.1.2.1.2.2 q181 ?_
        refine g2_ck (fun q182 => ?_)
        refine g2_kn q182 (g2_callC (t' := 1) (Is := [r178, v4, (v4 / 2), (v4 % 3)]) qk112_3.1.1.2.2.1.1 (by decide) rfl rfl (by omega) w176 (Or.inl rfl) (by decide) ⟨rfl, rfl⟩ (tfC_spawn (by omega) w176.1.2 kd_c0 h179 h4 (inR_div q180) (inR_rem q181)) (fun y183 S185 h186 w187 e188 => ?_))
        refine g2_aload qk112_3.1.1.2.2.1.2 rfl ?_
        refine g2_kn (ek e188 (ek e177 (ek e171 (ek e164 (ek e155 (ek e145 (ek e135 (ek e42 hK0 (by decide)) (by decide)) (by decide)) (by decide)) (by decide)) (by decide)) (by decide)) (by decide)) (g2_getR qk112_3.1.1.2.2.2 w187 ⟨by decide, by decide, by decide, rfl⟩ (fun r189 h190 => ?_))
        refine g2_ck (fun q191 => ?_)
        refine g2_kn q191 (g2_callF (t' := 1) qk112_3.1.2.1.1.1.1 (by decide) (ql_ip134 hQ) rfl rfl rfl (by omega) w187 (tq134_size hQ (by omega) w187 q191 h190) (fun y192 S193 h194 w195 e196 => ?_))
        refine g2_int qk112_3.1.2.1.1.1.2 1 rfl ?_
        refine g2_isub qk112_3.1.2.1.1.2.1 ?_
        refine g2_cmeq qk112_3.1.2.1.1.2.2 h186 (inR_w32 _) (fun c197 => ?_) (fun c198 => ?_)
        · refine g2_int qk112_3.1.2.1.2.1.1 1 rfl ?_
          refine g2_goto qk112_3.1.2.1.2.1.2 ?_
          exact g2_zret qk112_3.1.2.2.1.1.1 w195 (Or.inr rfl)
        · refine g2_int qk112_3.1.2.1.2.2 0 rfl ?_
          exact g2_zret qk112_3.1.2.2.1.1.1 w195 (Or.inl rfl)
  refine g2_ite (fun c199 => ?_) (fun c200 => ?_)
  · refine g2_swh (lo := 0) (hi := 14) (i := 5) qk112_0.2.1.1.1.2.2 rfl rfl (by omega) (by omega) rfl ?_
    refine g2_aload qk112_2.2.1.1.1.1.2 rfl ?_
    refine g2_aload qk112_2.2.1.1.1.2.1 rfl ?_
    refine g2_ck (fun q201 => ?_)
    refine g2_kn (ek e42 hK0 (by decide)) (g2_callV (t' := 1) qk112_2.2.1.1.1.2.2 (by decide) (ql_ip104 hQ) (by decide) rfl rfl rfl (by omega) w41 (tq104_room hQ (by omega) w41 (ek e42 hK0 (by decide)) q201 h0 h3) (fun y202 S203 h204 w205 e206 => ?_))
    refine g2_ifeq qk112_2.2.1.1.2.1.1 h204 (fun c207 => ?_) (fun c208 => ?_)
    · refine g2_int qk112_2.2.1.2.1.2.2 1 rfl ?_
      exact g2_zret qk112_2.2.1.2.2.1.1 w205 (Or.inr rfl)
    · refine g2_aload qk112_2.2.1.1.2.1.2 rfl ?_
      refine g2_kn (ek e206 (ek e42 hK0 (by decide)) (by decide)) (g2_getR qk112_2.2.1.1.2.2 w205 ⟨by decide, by decide, by decide, rfl⟩ (fun r209 h210 => ?_))
      refine g2_ck (fun q211 => ?_)
      refine g2_kn q211 (g2_callF (t' := 1) qk112_2.2.1.2.1.1.1 (by decide) (ql_ip134 hQ) rfl rfl rfl (by omega) w205 (tq134_size hQ (by omega) w205 q211 h210) (fun y212 S213 h214 w215 e216 => ?_))
      refine g2_int qk112_2.2.1.2.1.1.2 40 rfl ?_
      refine g2_cmeq qk112_2.2.1.2.1.2.1 h214 (inR_of (by decide)) (fun c217 => ?_) (fun c218 => ?_)
      · refine g2_int qk112_2.2.1.2.1.2.2 1 rfl ?_
        exact g2_zret qk112_2.2.1.2.2.1.1 w215 (Or.inr rfl)
      · refine g2_aload qk112_2.2.1.2.2.1.2 rfl ?_
        refine g2_kn (ek e216 (ek e206 (ek e42 hK0 (by decide)) (by decide)) (by decide)) (g2_getR qk112_2.2.1.2.2.2 w215 ⟨by decide, by decide, by decide, rfl⟩ (fun r219 h220 => ?_))
        refine g2_ck (fun q227 => ?_)
        refine g2_kn q227 (g2_new qk112_2.2.2.1.1.1.1 w215 ⟨⟨by decide, by decide⟩, rfl, by decide⟩ rfl (fun p221 S222 h223 k224 w225 e226 => ?_))
        refine g2_dupR qk112_2.2.2.1.1.1.2 ?_
        refine g2_aload qk112_2.2.2.1.1.2.1 rfl ?_
        refine g2_kn (ek e226 (ek e216 (ek e206 (ek e42 hK0 (by decide)) (by decide)) (by decide)) (by decide)) (g2_getR qk112_2.2.2.1.1.2.2 w225 ⟨by decide, by decide, by decide, rfl⟩ (fun r228 h229 => ?_))
        refine g2_ck (fun q230 => ?_)
        refine g2_kn q230 (g2_callF (t' := 1) qk112_2.2.2.1.2.1.1 (by decide) (ql_ip134 hQ) rfl rfl rfl (by omega) w225 (tq134_size hQ (by omega) w225 q230 h229) (fun y231 S232 h233 w234 e235 => ?_))
        refine g2_aload qk112_2.2.2.1.2.1.2 rfl ?_
        refine g2_iload qk112_2.2.2.1.2.2 rfl ?_
        refine g2_iload qk112_2.2.2.2.1.1.1 rfl ?_
        refine g2_int qk112_2.2.2.2.1.1.2 2 rfl ?_
        refine g2_ck (fun q236 => ?_)
        refine g2_div qk112_2.2.2.2.1.2.1 q236 ?_
        refine g2_iload qk112_2.2.2.2.1.2.2 rfl ?_
        refine g2_int qk112_2.2.2.2.2.1.1 3 rfl ?_
        refine g2_ck (fun q237 => ?_)
        refine g2_rem qk112_2.2.2.2.2.1.2 q237 ?_
        refine g2_kn (kn_pos w234.2.1 (ek e235 k224.1 (by decide)) (by decide)) (g2_callI qk112_2.2.2.2.2.2 (by decide) (ql_ip114 hQ) rfl rfl rfl (by omega) ⟨_, qd_112_465⟩ (tq114_init hQ (by omega) w234 (ek e235 k224.1 (by decide)) (rfO_of h223) h233 h3 h4 (inR_div q236) (inR_rem q237)) (fun y238 S239 w241 e242 => ?_))
        refine g2_ck (fun q243 => ?_)
        refine g2_kn q243 (g2_callF (t' := 3) qk112_3.1.1.1.1.1.1 (by decide) (ql_ip129 hQ) rfl rfl rfl (by omega) w241 (tq129_add hQ (by omega) w241 q243 h220 (rfO_of h223)) (fun y244 S245 h246 w247 e248 => ?_))
        refine g2_popI qk112_3.1.1.1.1.1.2 ?_
        refine g2_aload qk112_3.1.1.1.1.2.1 rfl ?_
        refine g2_aload qk112_3.1.1.1.1.2.2 rfl ?_
        refine g2_kn (ek e248 (ek e242 (ek e235 (ek e226 (ek e216 (ek e206 q201 (by decide)) (by decide)) (by decide)) (by decide)) (by decide)) (by decide)) (g2_getI qk112_3.1.1.1.2.1.1 w247 ⟨by decide, by decide, by decide, rfl⟩ (fun r249 h250 => ?_))
        refine g2_iload qk112_3.1.1.1.2.1.2 rfl ?_
        refine g2_iload qk112_3.1.1.1.2.2.1 rfl ?_
        refine g2_int qk112_3.1.1.1.2.2.2 2 rfl ?_
        refine g2_ck (fun q251 => ?_)
        refine g2_div qk112_3.1.1.2.1.1.1 q251 ?_
        refine g2_iload qk112_3.1.1.2.1.1.2 rfl ?_
        refine g2_int qk112_3.1.1.2.1.2.1 3 rfl ?_
        refine g2_ck (fun q252 => ?_)
        refine g2_rem qk112_3.1.1.2.1.2.2 q252 ?_
        refine g2_ck (fun q253 => ?_)
        refine g2_kn q253 (g2_callC (t' := 1) (Is := [r249, v4, (v4 / 2), (v4 % 3)]) qk112_3.1.1.2.2.1.1 (by decide) rfl rfl (by omega) w247 (Or.inl rfl) (by decide) ⟨rfl, rfl⟩ (tfC_spawn (by omega) w247.1.2 kd_c0 h250 h4 (inR_div q251) (inR_rem q252)) (fun y254 S256 h257 w258 e259 => ?_))
        refine g2_aload qk112_3.1.1.2.2.1.2 rfl ?_
        refine g2_kn (ek e259 (ek e248 (ek e242 (ek e235 (ek e226 (ek e216 (ek e206 (ek e42 hK0 (by decide)) (by decide)) (by decide)) (by decide)) (by decide)) (by decide)) (by decide)) (by decide)) (g2_getR qk112_3.1.1.2.2.2 w258 ⟨by decide, by decide, by decide, rfl⟩ (fun r260 h261 => ?_))
        refine g2_ck (fun q262 => ?_)
        refine g2_kn q262 (g2_callF (t' := 1) qk112_3.1.2.1.1.1.1 (by decide) (ql_ip134 hQ) rfl rfl rfl (by omega) w258 (tq134_size hQ (by omega) w258 q262 h261) (fun y263 S264 h265 w266 e267 => ?_))
        refine g2_int qk112_3.1.2.1.1.1.2 1 rfl ?_
        refine g2_isub qk112_3.1.2.1.1.2.1 ?_
        refine g2_cmeq qk112_3.1.2.1.1.2.2 h257 (inR_w32 _) (fun c268 => ?_) (fun c269 => ?_)
        · refine g2_int qk112_3.1.2.1.2.1.1 1 rfl ?_
          refine g2_goto qk112_3.1.2.1.2.1.2 ?_
          exact g2_zret qk112_3.1.2.2.1.1.1 w266 (Or.inr rfl)
        · refine g2_int qk112_3.1.2.1.2.2 0 rfl ?_
          exact g2_zret qk112_3.1.2.2.1.1.1 w266 (Or.inl rfl)
  refine g2_ite (fun c270 => ?_) (fun c271 => ?_)
  · refine g2_swh (lo := 0) (hi := 14) (i := 6) qk112_0.2.1.1.1.2.2 rfl rfl (by omega) (by omega) rfl ?_
    refine g2_aload qk112_2.2.1.1.1.1.2 rfl ?_
    refine g2_aload qk112_2.2.1.1.1.2.1 rfl ?_
    refine g2_ck (fun q272 => ?_)
    refine g2_kn (ek e42 hK0 (by decide)) (g2_callV (t' := 1) qk112_2.2.1.1.1.2.2 (by decide) (ql_ip104 hQ) (by decide) rfl rfl rfl (by omega) w41 (tq104_room hQ (by omega) w41 (ek e42 hK0 (by decide)) q272 h0 h3) (fun y273 S274 h275 w276 e277 => ?_))
    refine g2_ifeq qk112_2.2.1.1.2.1.1 h275 (fun c278 => ?_) (fun c279 => ?_)
    · refine g2_int qk112_2.2.1.2.1.2.2 1 rfl ?_
      exact g2_zret qk112_2.2.1.2.2.1.1 w276 (Or.inr rfl)
    · refine g2_aload qk112_2.2.1.1.2.1.2 rfl ?_
      refine g2_kn (ek e277 (ek e42 hK0 (by decide)) (by decide)) (g2_getR qk112_2.2.1.1.2.2 w276 ⟨by decide, by decide, by decide, rfl⟩ (fun r280 h281 => ?_))
      refine g2_ck (fun q282 => ?_)
      refine g2_kn q282 (g2_callF (t' := 1) qk112_2.2.1.2.1.1.1 (by decide) (ql_ip134 hQ) rfl rfl rfl (by omega) w276 (tq134_size hQ (by omega) w276 q282 h281) (fun y283 S284 h285 w286 e287 => ?_))
      refine g2_int qk112_2.2.1.2.1.1.2 40 rfl ?_
      refine g2_cmeq qk112_2.2.1.2.1.2.1 h285 (inR_of (by decide)) (fun c288 => ?_) (fun c289 => ?_)
      · refine g2_int qk112_2.2.1.2.1.2.2 1 rfl ?_
        exact g2_zret qk112_2.2.1.2.2.1.1 w286 (Or.inr rfl)
      · refine g2_aload qk112_2.2.1.2.2.1.2 rfl ?_
        refine g2_kn (ek e287 (ek e277 (ek e42 hK0 (by decide)) (by decide)) (by decide)) (g2_getR qk112_2.2.1.2.2.2 w286 ⟨by decide, by decide, by decide, rfl⟩ (fun r290 h291 => ?_))
        refine g2_ck (fun q298 => ?_)
        refine g2_kn q298 (g2_new qk112_2.2.2.1.1.1.1 w286 ⟨⟨by decide, by decide⟩, rfl, by decide⟩ rfl (fun p292 S293 h294 k295 w296 e297 => ?_))
        refine g2_dupR qk112_2.2.2.1.1.1.2 ?_
        refine g2_aload qk112_2.2.2.1.1.2.1 rfl ?_
        refine g2_kn (ek e297 (ek e287 (ek e277 (ek e42 hK0 (by decide)) (by decide)) (by decide)) (by decide)) (g2_getR qk112_2.2.2.1.1.2.2 w296 ⟨by decide, by decide, by decide, rfl⟩ (fun r299 h300 => ?_))
        refine g2_ck (fun q301 => ?_)
        refine g2_kn q301 (g2_callF (t' := 1) qk112_2.2.2.1.2.1.1 (by decide) (ql_ip134 hQ) rfl rfl rfl (by omega) w296 (tq134_size hQ (by omega) w296 q301 h300) (fun y302 S303 h304 w305 e306 => ?_))
        refine g2_aload qk112_2.2.2.1.2.1.2 rfl ?_
        refine g2_iload qk112_2.2.2.1.2.2 rfl ?_
        refine g2_iload qk112_2.2.2.2.1.1.1 rfl ?_
        refine g2_int qk112_2.2.2.2.1.1.2 2 rfl ?_
        refine g2_ck (fun q307 => ?_)
        refine g2_div qk112_2.2.2.2.1.2.1 q307 ?_
        refine g2_iload qk112_2.2.2.2.1.2.2 rfl ?_
        refine g2_int qk112_2.2.2.2.2.1.1 3 rfl ?_
        refine g2_ck (fun q308 => ?_)
        refine g2_rem qk112_2.2.2.2.2.1.2 q308 ?_
        refine g2_kn (kn_pos w305.2.1 (ek e306 k295.1 (by decide)) (by decide)) (g2_callI qk112_2.2.2.2.2.2 (by decide) (ql_ip114 hQ) rfl rfl rfl (by omega) ⟨_, qd_112_465⟩ (tq114_init hQ (by omega) w305 (ek e306 k295.1 (by decide)) (rfO_of h294) h304 h3 h4 (inR_div q307) (inR_rem q308)) (fun y309 S310 w312 e313 => ?_))
        refine g2_ck (fun q314 => ?_)
        refine g2_kn q314 (g2_callF (t' := 3) qk112_3.1.1.1.1.1.1 (by decide) (ql_ip129 hQ) rfl rfl rfl (by omega) w312 (tq129_add hQ (by omega) w312 q314 h291 (rfO_of h294)) (fun y315 S316 h317 w318 e319 => ?_))
        refine g2_popI qk112_3.1.1.1.1.1.2 ?_
        refine g2_aload qk112_3.1.1.1.1.2.1 rfl ?_
        refine g2_aload qk112_3.1.1.1.1.2.2 rfl ?_
        refine g2_kn (ek e319 (ek e313 (ek e306 (ek e297 (ek e287 (ek e277 q272 (by decide)) (by decide)) (by decide)) (by decide)) (by decide)) (by decide)) (g2_getI qk112_3.1.1.1.2.1.1 w318 ⟨by decide, by decide, by decide, rfl⟩ (fun r320 h321 => ?_))
        refine g2_iload qk112_3.1.1.1.2.1.2 rfl ?_
        refine g2_iload qk112_3.1.1.1.2.2.1 rfl ?_
        refine g2_int qk112_3.1.1.1.2.2.2 2 rfl ?_
        refine g2_ck (fun q322 => ?_)
        refine g2_div qk112_3.1.1.2.1.1.1 q322 ?_
        refine g2_iload qk112_3.1.1.2.1.1.2 rfl ?_
        refine g2_int qk112_3.1.1.2.1.2.1 3 rfl ?_
        refine g2_ck (fun q323 => ?_)
        refine g2_rem qk112_3.1.1.2.1.2.2 q323 ?_
        refine g2_ck (fun q324 => ?_)
        refine g2_kn q324 (g2_callC (t' := 1) (Is := [r320, v4, (v4 / 2), (v4 % 3)]) qk112_3.1.1.2.2.1.1 (by decide) rfl rfl (by omega) w318 (Or.inl rfl) (by decide) ⟨rfl, rfl⟩ (tfC_spawn (by omega) w318.1.2 kd_c0 h321 h4 (inR_div q322) (inR_rem q323)) (fun y325 S327 h328 w329 e330 => ?_))
        refine g2_aload qk112_3.1.1.2.2.1.2 rfl ?_
        refine g2_kn (ek e330 (ek e319 (ek e313 (ek e306 (ek e297 (ek e287 (ek e277 (ek e42 hK0 (by decide)) (by decide)) (by decide)) (by decide)) (by decide)) (by decide)) (by decide)) (by decide)) (g2_getR qk112_3.1.1.2.2.2 w329 ⟨by decide, by decide, by decide, rfl⟩ (fun r331 h332 => ?_))
        refine g2_ck (fun q333 => ?_)
        refine g2_kn q333 (g2_callF (t' := 1) qk112_3.1.2.1.1.1.1 (by decide) (ql_ip134 hQ) rfl rfl rfl (by omega) w329 (tq134_size hQ (by omega) w329 q333 h332) (fun y334 S335 h336 w337 e338 => ?_))
        refine g2_int qk112_3.1.2.1.1.1.2 1 rfl ?_
        refine g2_isub qk112_3.1.2.1.1.2.1 ?_
        refine g2_cmeq qk112_3.1.2.1.1.2.2 h328 (inR_w32 _) (fun c339 => ?_) (fun c340 => ?_)
        · refine g2_int qk112_3.1.2.1.2.1.1 1 rfl ?_
          refine g2_goto qk112_3.1.2.1.2.1.2 ?_
          exact g2_zret qk112_3.1.2.2.1.1.1 w337 (Or.inr rfl)
        · refine g2_int qk112_3.1.2.1.2.2 0 rfl ?_
          exact g2_zret qk112_3.1.2.2.1.1.1 w337 (Or.inl rfl)
  refine g2_ite (fun c341 => ?_) (fun c342 => ?_)
  · refine g2_swh (lo := 0) (hi := 14) (i := 7) qk112_0.2.1.1.1.2.2 rfl rfl (by omega) (by omega) rfl ?_
    refine g2_iload qk112_3.1.2.2.1.1.2 rfl ?_
    refine g2_ifeq qk112_3.1.2.2.1.2.1 (inR_b z0) (fun c343 => ?_) (fun c344 => ?_)
    · refine g2_aload qk112_3.1.2.2.2.1.2 rfl ?_
      refine g2_dupR qk112_3.1.2.2.2.2 ?_
      refine g2_ck (fun q345 => ?_)
      refine g2_kn q345 (g2_getI qk112_3.2.1.1.1.1.1 w41 ⟨by decide, by decide, by decide, rfl⟩ (fun r346 h347 => ?_))
      refine g2_int qk112_3.2.1.1.1.1.2 1 rfl ?_
      refine g2_iload qk112_3.2.1.1.1.2.1 rfl ?_
      refine g2_ibin qk112_3.2.1.1.1.2.2 ?_
      refine g2_ibin qk112_3.2.1.1.2.1.1 ?_
      refine g2_kn ⟨q345, h3.2⟩ (g2_putI qk112_3.2.1.1.2.1.2 w41 ⟨by decide, by decide, rfl⟩ (inR_opI _ _ _) (fun S348 w349 e350 => ?_))
      refine g2_int qk112_3.2.1.1.2.2.1 0 rfl ?_
      refine g2_istore qk112_3.2.1.1.2.2.2 rfl (loc2 := [some (sR v0), some (sR v1), some (sI v2), some (sR v3), some (sI v4), some (sI s0), some (sI 0), u7, u8, u9]) rfl ?_
      refine g2_aload qk112_3.2.1.2.1.1.1 rfl ?_
      refine g2_aload qk112_3.2.1.2.1.1.2 rfl ?_
      refine g2_int qk112_3.2.1.2.1.2.1 0 rfl ?_
      refine g2_kn (ek e350 (ek e42 hK0 (by decide)) (by decide)) (g2_callV (t' := 2) qk112_3.2.1.2.1.2.2 (by decide) (ql_ip103 hQ) (by decide) rfl rfl rfl (by omega) w349 (tq103_children hQ (by omega) w349 (ek e350 (ek e42 hK0 (by decide)) (by decide)) h0 h3 (inR_b (Or.inl rfl))) (fun y351 S352 h353 w354 e355 => ?_))
      refine g2_ck (fun q356 => ?_)
      refine g2_kn q356 (g2_callF (t' := 2) qk112_3.2.1.2.2.1.1 (by decide) (ql_ip136 hQ) rfl rfl rfl (by omega) w354 (tq136_iterator hQ (by omega) w354 q356 h353) (fun y357 S358 h359 w360 e361 => ?_))
      refine g2_astore qk112_3.2.1.2.2.1.2 rfl (loc2 := [some (sR v0), some (sR v1), some (sI v2), some (sR v3), some (sI v4), some (sI s0), some (sI 0), some (sR y357), u8, u9]) rfl ?_
      exact tl112_548 hQ hd h0 h1 h3 h4 h359 fu 0 (inR_b (Or.inl rfl)) S358 w360 (ek e361 (ek e355 (ek e350 (ek e42 hK0 (by decide)) (by decide)) (by decide)) (by decide)) (some (sI v2)) rfl (some (sI s0)) rfl u8 w8 u9 w9
    · refine g2_int qk112_3.1.2.2.1.2.2 1 rfl ?_
      exact g2_zret qk112_3.1.2.2.2.1.1 w41 (Or.inr rfl)
  refine g2_ite (fun c362 => ?_) (fun c363 => ?_)
  · refine g2_swh (lo := 0) (hi := 14) (i := 8) qk112_0.2.1.1.1.2.2 rfl rfl (by omega) (by omega) rfl ?_
    refine g2_aload qk112_4.1.2.1.1.2.1 rfl ?_
    refine g2_ck (fun q364 => ?_)
    refine g2_kn q364 (g2_getI qk112_4.1.2.1.1.2.2 w41 ⟨by decide, by decide, by decide, rfl⟩ (fun r365 h366 => ?_))
    refine g2_ifeq qk112_4.1.2.1.2.1.1 h366 (fun c367 => ?_) (fun c368 => ?_)
    · refine g2_aload qk112_4.1.2.2.1.1.1 rfl ?_
      refine g2_kn q364 (g2_getI qk112_4.1.2.2.1.1.2 w41 ⟨by decide, by decide, by decide, rfl⟩ (fun r369 h370 => ?_))
      refine g2_iload qk112_4.1.2.2.1.2.1 rfl ?_
      refine g2_ibin qk112_4.1.2.2.1.2.2 ?_
      refine g2_int qk112_4.1.2.2.2.1.1 1 rfl ?_
      refine g2_ibin qk112_4.1.2.2.2.1.2 ?_
      refine g2_int qk112_4.1.2.2.2.2 1 rfl ?_
      refine g2_cmeq qk112_4.2.1.1.1.1.1 (inR_opI _ _ _) (inR_b (Or.inr rfl)) (fun c371 => ?_) (fun c372 => ?_)
      · refine g2_int qk112_4.2.1.1.1.1.2 1 rfl ?_
        refine g2_goto qk112_4.2.1.1.1.2.1 ?_
        exact tj112_650 hQ hd h1 h3 h4 (Or.inr rfl) S39 w41 (some (sR v0)) rfl (some (sI v2)) rfl (some (sI s0)) rfl u6 w6 u7 w7 u8 w8 u9 w9
      · refine g2_int qk112_4.2.1.1.1.2.2 0 rfl ?_
        exact tj112_650 hQ hd h1 h3 h4 (Or.inl rfl) S39 w41 (some (sR v0)) rfl (some (sI v2)) rfl (some (sI s0)) rfl u6 w6 u7 w7 u8 w8 u9 w9
    · refine g2_int qk112_4.1.2.1.2.1.2 1 rfl ?_
      exact g2_zret qk112_4.1.2.1.2.2 w41 (Or.inr rfl)
  refine g2_ite (fun c373 => ?_) (fun c374 => ?_)
  · refine g2_swh (lo := 0) (hi := 14) (i := 9) qk112_0.2.1.1.1.2.2 rfl rfl (by omega) (by omega) rfl ?_
    refine g2_aload qk112_4.2.2.2.2.1.2 rfl ?_
    refine g2_ck (fun q375 => ?_)
    refine g2_kn q375 (g2_getI qk112_4.2.2.2.2.2 w41 ⟨by decide, by decide, by decide, rfl⟩ (fun r376 h377 => ?_))
    refine g2_ifeq qk112_5.1.1.1.1.1.1 h377 (fun c378 => ?_) (fun c379 => ?_)
    · refine g2_aload qk112_5.1.1.1.1.2.2 rfl ?_
      refine g2_kn q375 (g2_getI qk112_5.1.1.1.2.1.1 w41 ⟨by decide, by decide, by decide, rfl⟩ (fun r380 h381 => ?_))
      refine g2_istore qk112_5.1.1.1.2.1.2 rfl (loc2 := [some (sR v0), some (sR v1), some (sI v2), some (sR v3), some (sI v4), some (sI s0), some (sI r380), u7, u8, u9]) rfl ?_
      refine g2_aload qk112_5.1.1.1.2.2.1 rfl ?_
      refine g2_iload qk112_5.1.1.1.2.2.2 rfl ?_
      refine g2_kn ⟨q375, h3.2⟩ (g2_putI qk112_5.1.1.2.1.1.1 w41 ⟨by decide, by decide, rfl⟩ h4 (fun S382 w383 e384 => ?_))
      refine g2_aload qk112_5.1.1.2.1.1.2 rfl ?_
      refine g2_aload qk112_5.1.1.2.1.2.1 rfl ?_
      refine g2_kn (ek e384 q375 (by decide)) (g2_getI qk112_5.1.1.2.1.2.2 w383 ⟨by decide, by decide, by decide, rfl⟩ (fun r385 h386 => ?_))
      refine g2_iload qk112_5.1.1.2.2.1.1 rfl ?_
      refine g2_ck (fun q387 => ?_)
      refine g2_kn q387 (g2_callC (t' := 1) (Is := [r385, v4]) qk112_5.1.1.2.2.1.2 (by decide) rfl rfl (by omega) w383 (Or.inl rfl) (by decide) ⟨rfl, rfl⟩ (tfC_setCapacity (by omega) w383.1.2 kd_c0 h386 h4) (fun y388 S390 h391 w392 e393 => ?_))
      refine g2_iload qk112_5.1.1.2.2.2 rfl ?_
      refine g2_cmeq qk112_5.1.2.1.1.1.1 h391 h381 (fun c394 => ?_) (fun c395 => ?_)
      · refine g2_int qk112_5.1.2.1.1.1.2 1 rfl ?_
        refine g2_goto qk112_5.1.2.1.1.2.1 ?_
        exact g2_zret qk112_5.1.2.1.2.1.1 w392 (Or.inr rfl)
      · refine g2_int qk112_5.1.2.1.1.2.2 0 rfl ?_
        exact g2_zret qk112_5.1.2.1.2.1.1 w392 (Or.inl rfl)
    · refine g2_int qk112_5.1.1.1.1.1.2 1 rfl ?_
      exact g2_zret qk112_5.1.1.1.1.2.1 w41 (Or.inr rfl)
  refine g2_ite (fun c396 => ?_) (fun c397 => ?_)
  · refine g2_swh (lo := 0) (hi := 14) (i := 10) qk112_0.2.1.1.1.2.2 rfl rfl (by omega) (by omega) rfl ?_
    refine g2_aload qk112_5.1.2.1.2.1.2 rfl ?_
    refine g2_ck (fun q398 => ?_)
    refine g2_kn q398 (g2_getI qk112_5.1.2.1.2.2 w41 ⟨by decide, by decide, by decide, rfl⟩ (fun r399 h400 => ?_))
    refine g2_ifeq qk112_5.1.2.2.1.1.1 h400 (fun c401 => ?_) (fun c402 => ?_)
    · refine g2_aload qk112_5.1.2.2.1.2.2 rfl ?_
      refine g2_kn q398 (g2_getI qk112_5.1.2.2.2.1.1 w41 ⟨by decide, by decide, by decide, rfl⟩ (fun r403 h404 => ?_))
      refine g2_istore qk112_5.1.2.2.2.1.2 rfl (loc2 := [some (sR v0), some (sR v1), some (sI v2), some (sR v3), some (sI v4), some (sI s0), some (sI r403), u7, u8, u9]) rfl ?_
      refine g2_aload qk112_5.1.2.2.2.2 rfl ?_
      refine g2_iload qk112_5.2.1.1.1.1.1 rfl ?_
      refine g2_kn ⟨q398, h3.2⟩ (g2_putI qk112_5.2.1.1.1.1.2 w41 ⟨by decide, by decide, rfl⟩ h4 (fun S405 w406 e407 => ?_))
      refine g2_aload qk112_5.2.1.1.1.2.1 rfl ?_
      refine g2_aload qk112_5.2.1.1.1.2.2 rfl ?_
      refine g2_kn (ek e407 q398 (by decide)) (g2_getI qk112_5.2.1.1.2.1.1 w406 ⟨by decide, by decide, by decide, rfl⟩ (fun r408 h409 => ?_))
      refine g2_iload qk112_5.2.1.1.2.1.2 rfl ?_
      refine g2_ck (fun q410 => ?_)
      refine g2_kn q410 (g2_callC (t' := 1) (Is := [r408, v4]) qk112_5.2.1.1.2.2.1 (by decide) rfl rfl (by omega) w406 (Or.inl rfl) (by decide) ⟨rfl, rfl⟩ (tfC_setBudget (by omega) w406.1.2 kd_c0 h409 h4) (fun y411 S413 h414 w415 e416 => ?_))
      refine g2_iload qk112_5.2.1.1.2.2.2 rfl ?_
      refine g2_cmeq qk112_5.2.1.2.1.1.1 h414 h404 (fun c417 => ?_) (fun c418 => ?_)
      · refine g2_int qk112_5.2.1.2.1.1.2 1 rfl ?_
        refine g2_goto qk112_5.2.1.2.1.2.1 ?_
        exact g2_zret qk112_5.2.1.2.2.1.1 w415 (Or.inr rfl)
      · refine g2_int qk112_5.2.1.2.1.2.2 0 rfl ?_
        exact g2_zret qk112_5.2.1.2.2.1.1 w415 (Or.inl rfl)
    · refine g2_int qk112_5.1.2.2.1.1.2 1 rfl ?_
      exact g2_zret qk112_5.1.2.2.1.2.1 w41 (Or.inr rfl)
  refine g2_ite (fun c419 => ?_) (fun c420 => ?_)
  · refine g2_swh (lo := 0) (hi := 14) (i := 11) qk112_0.2.1.1.1.2.2 rfl rfl (by omega) (by omega) rfl ?_
    refine g2_aload qk112_5.2.1.2.2.1.2 rfl ?_
    refine g2_kn (ek e42 hK0 (by decide)) (g2_getR qk112_5.2.1.2.2.2 w41 ⟨by decide, by decide, by decide, rfl⟩ (fun r421 h422 => ?_))
    refine g2_iload qk112_5.2.2.1.1.1.1 rfl ?_
    refine g2_aload qk112_5.2.2.1.1.1.2 rfl ?_
    refine g2_kn (ek e42 hK0 (by decide)) (g2_getR qk112_5.2.2.1.1.2.1 w41 ⟨by decide, by decide, by decide, rfl⟩ (fun r423 h424 => ?_))
    refine g2_ck (fun q425 => ?_)
    refine g2_kn q425 (g2_callF (t' := 1) qk112_5.2.2.1.1.2.2 (by decide) (ql_ip134 hQ) rfl rfl rfl (by omega) w41 (tq134_size hQ (by omega) w41 q425 h424) (fun y426 S427 h428 w429 e430 => ?_))
    refine g2_ck (fun q431 => ?_)
    refine g2_rem qk112_5.2.2.1.2.1.1 q431 ?_
    refine g2_ck (fun q432 => ?_)
    refine g2_kn q432 (g2_callF (t' := 2) qk112_5.2.2.1.2.1.2 (by decide) (ql_ip133 hQ) rfl rfl rfl (by omega) w429 (tq133_get hQ (by omega) w429 q432 h422 (inR_rem q431)) (fun y433 S434 h435 w436 e437 => ?_))
    refine g2_ck (fun q438 => ?_)
    refine g2_kn q438 (g2_cast7 qk112_5.2.2.1.2.2 w436 h435 ?_)
    refine g2_astore qk112_5.2.2.2.1.1.1 rfl (loc2 := [some (sR v0), some (sR v1), some (sI v2), some (sR v3), some (sI v4), some (sI s0), some (sR y433), u7, u8, u9]) rfl ?_
    refine g2_iload qk112_5.2.2.2.1.1.2 rfl ?_
    refine g2_ifeq qk112_5.2.2.2.1.2.1 (inR_b z0) (fun c439 => ?_) (fun c440 => ?_)
    · refine g2_aload qk112_5.2.2.2.1.2.2 rfl ?_
      refine g2_aload qk112_5.2.2.2.2.1.1 rfl ?_
      refine g2_acmp qk112_5.2.2.2.2.1.2 h435 h3 (fun c441 => ?_) (fun c442 => ?_)
      · refine g2_int qk112_5.2.2.2.2.2 1 rfl ?_
        exact g2_zret qk112_6.1.1.1.1.1.1 w436 (Or.inr rfl)
      · refine g2_aload qk112_6.1.1.1.1.1.2 rfl ?_
        refine g2_ck (fun q443 => ?_)
        refine g2_kn q443 (g2_getR qk112_6.1.1.1.1.2.1 w436 ⟨by decide, by decide, by decide, rfl⟩ (fun r444 h445 => ?_))
        refine g2_isnull qk112_6.1.1.1.1.2.2 (fun c446 => ?_) (fun c447 => ?_)
        · refine g2_int qk112_6.1.1.1.2.1.1 (-1) rfl ?_
          refine g2_goto qk112_6.1.1.1.2.1.2 ?_
          exact tj112_829 hQ hd h1 h3 h435 (inR_of (by decide)) S434 w436 (some (sR v0)) rfl (some (sI v2)) rfl (some (sI v4)) rfl (some (sI s0)) rfl u7 w7 u8 w8 u9 w9
        · refine g2_aload qk112_6.1.1.1.2.2.1 rfl ?_
          refine g2_kn q443 (g2_getR qk112_6.1.1.1.2.2.2 w436 ⟨by decide, by decide, by decide, rfl⟩ (fun r448 h449 => ?_))
          refine g2_ck (fun q450 => ?_)
          refine g2_kn q450 (g2_getI qk112_6.1.1.2.1.1.1 w436 ⟨by decide, by decide, by decide, rfl⟩ (fun r451 h452 => ?_))
          exact tj112_829 hQ hd h1 h3 h435 h452 S434 w436 (some (sR v0)) rfl (some (sI v2)) rfl (some (sI v4)) rfl (some (sI s0)) rfl u7 w7 u8 w8 u9 w9
    · refine g2_int qk112_5.2.2.2.2.2 1 rfl ?_
      exact g2_zret qk112_6.1.1.1.1.1.1 w436 (Or.inr rfl)
  refine g2_ite (fun c453 => ?_) (fun c454 => ?_)
  · refine g2_swh (lo := 0) (hi := 14) (i := 12) qk112_0.2.1.1.1.2.2 rfl rfl (by omega) (by omega) rfl ?_
    refine g2_aload qk112_6.1.2.2.1.2.2 rfl ?_
    refine g2_ck (fun q455 => ?_)
    refine g2_kn q455 (g2_getI qk112_6.1.2.2.2.1.1 w41 ⟨by decide, by decide, by decide, rfl⟩ (fun r456 h457 => ?_))
    refine g2_ifeq qk112_6.1.2.2.2.1.2 h457 (fun c458 => ?_) (fun c459 => ?_)
    · refine g2_aload qk112_6.2.1.1.1.1.2 rfl ?_
      refine g2_kn (ek e42 hK0 (by decide)) (g2_getR qk112_6.2.1.1.1.2.1 w41 ⟨by decide, by decide, by decide, rfl⟩ (fun r460 h461 => ?_))
      refine g2_iload qk112_6.2.1.1.1.2.2 rfl ?_
      refine g2_ck (fun q462 => ?_)
      refine g2_ck (fun q463 => ?_)
      refine g2_kn ⟨Or.inr q462, q463⟩ (g2_aald qk112_6.2.1.1.2.1.1 w41 (fun r464 h465 => ?_))
      refine g2_ck (fun q466 => ?_)
      refine g2_kn q466 (g2_getI qk112_6.2.1.1.2.1.2 w41 ⟨by decide, by decide, by decide, rfl⟩ (fun r467 h468 => ?_))
      refine g2_istore qk112_6.2.1.1.2.2 rfl (loc2 := [some (sR v0), some (sR v1), some (sI v2), some (sR v3), some (sI v4), some (sI s0), some (sI r467), u7, u8, u9]) rfl ?_
      refine g2_aload qk112_6.2.1.2.1.1.1 rfl ?_
      refine g2_kn (ek e42 hK0 (by decide)) (g2_getR qk112_6.2.1.2.1.1.2 w41 ⟨by decide, by decide, by decide, rfl⟩ (fun r469 h470 => ?_))
      refine g2_iload qk112_6.2.1.2.1.2.1 rfl ?_
      refine g2_aload qk112_6.2.1.2.1.2.2 rfl ?_
      refine g2_ck (fun q471 => ?_)
      refine g2_ck (fun q472 => ?_)
      refine g2_kn ⟨Or.inr q471, h470.2, q472, (Or.inr q455)⟩ (g2_aast qk112_6.2.1.2.2.1.1 w41 h3 (fun S473 w474 e475 => ?_))
      refine g2_aload qk112_6.2.1.2.2.1.2 rfl ?_
      refine g2_iload qk112_6.2.1.2.2.2 rfl ?_
      refine g2_aload qk112_6.2.2.1.1.1.1 rfl ?_
      refine g2_kn (ek e475 q455 (by decide)) (g2_getI qk112_6.2.2.1.1.1.2 w474 ⟨by decide, by decide, by decide, rfl⟩ (fun r476 h477 => ?_))
      refine g2_ck (fun q478 => ?_)
      refine g2_kn q478 (g2_callC (t' := 1) (Is := [v4, r476]) qk112_6.2.2.1.1.2.1 (by decide) rfl rfl (by omega) w474 (Or.inl rfl) (by decide) ⟨rfl, rfl⟩ (tfC_give (by omega) w474.1.2 kd_c0 h4 h477) (fun y479 S481 h482 w483 e484 => ?_))
      refine g2_iload qk112_6.2.2.1.1.2.2 rfl ?_
      refine g2_cmeq qk112_6.2.2.1.2.1.1 h482 h468 (fun c485 => ?_) (fun c486 => ?_)
      · refine g2_int qk112_6.2.2.1.2.1.2 1 rfl ?_
        refine g2_goto qk112_6.2.2.1.2.2 ?_
        exact g2_zret qk112_6.2.2.2.1.1.2 w483 (Or.inr rfl)
      · refine g2_int qk112_6.2.2.2.1.1.1 0 rfl ?_
        exact g2_zret qk112_6.2.2.2.1.1.2 w483 (Or.inl rfl)
    · refine g2_int qk112_6.1.2.2.2.2 1 rfl ?_
      exact g2_zret qk112_6.2.1.1.1.1.1 w41 (Or.inr rfl)
  refine g2_ite (fun c487 => ?_) (fun c488 => ?_)
  · refine g2_swh (lo := 0) (hi := 14) (i := 13) qk112_0.2.1.1.1.2.2 rfl rfl (by omega) (by omega) rfl ?_
    refine g2_aload qk112_6.2.2.2.1.2.1 rfl ?_
    refine g2_ck (fun q489 => ?_)
    refine g2_kn q489 (g2_getI qk112_6.2.2.2.1.2.2 w41 ⟨by decide, by decide, by decide, rfl⟩ (fun r490 h491 => ?_))
    refine g2_ifeq qk112_6.2.2.2.2.1.1 h491 (fun c492 => ?_) (fun c493 => ?_)
    · refine g2_aload qk112_7.1.1.1.1.1.1 rfl ?_
      refine g2_aload qk112_7.1.1.1.1.1.2 rfl ?_
      refine g2_kn q489 (g2_getI qk112_7.1.1.1.1.2.1 w41 ⟨by decide, by decide, by decide, rfl⟩ (fun r494 h495 => ?_))
      refine g2_ck (fun q496 => ?_)
      refine g2_kn q496 (g2_callC (t' := 1) (Is := [r494]) qk112_7.1.1.1.1.2.2 (by decide) rfl rfl (by omega) w41 (Or.inl rfl) (by decide) ⟨rfl, rfl⟩ (tfC_readAll (by omega) w41.1.2 kd_c0 h495) (fun y497 S499 h500 w501 e502 => ?_))
      refine g2_aload qk112_7.1.1.1.2.1.1 rfl ?_
      refine g2_aload qk112_7.1.1.1.2.1.2 rfl ?_
      refine g2_kn (ek e502 (ek e42 hK0 (by decide)) (by decide)) (g2_callV (t' := 1) qk112_7.1.1.1.2.2.1 (by decide) (ql_ip108 hQ) (by decide) rfl rfl rfl (by omega) w501 (tq108_readAll hQ (by omega) w501 (ek e502 (ek e42 hK0 (by decide)) (by decide)) h0 h3) (fun y503 S504 h505 w506 e507 => ?_))
      refine g2_cmeq qk112_7.1.1.1.2.2.2 h500 h505 (fun c508 => ?_) (fun c509 => ?_)
      · refine g2_int qk112_7.1.1.2.1.1.1 1 rfl ?_
        refine g2_goto qk112_7.1.1.2.1.1.2 ?_
        exact g2_zret qk112_7.1.1.2.1.2.2 w506 (Or.inr rfl)
      · refine g2_int qk112_7.1.1.2.1.2.1 0 rfl ?_
        exact g2_zret qk112_7.1.1.2.1.2.2 w506 (Or.inl rfl)
    · refine g2_int qk112_6.2.2.2.2.1.2 1 rfl ?_
      exact g2_zret qk112_6.2.2.2.2.2 w41 (Or.inr rfl)
  refine g2_ite (fun c510 => ?_) (fun c511 => ?_)
  · refine g2_swh (lo := 0) (hi := 14) (i := 14) qk112_0.2.1.1.1.2.2 rfl rfl (by omega) (by omega) rfl ?_
    refine g2_aload qk112_7.1.1.2.2.1.1 rfl ?_
    refine g2_kn (ek e42 hK0 (by decide)) (g2_getR qk112_7.1.1.2.2.1.2 w41 ⟨by decide, by decide, by decide, rfl⟩ (fun r512 h513 => ?_))
    refine g2_iload qk112_7.1.1.2.2.2 rfl ?_
    refine g2_aload qk112_7.1.2.1.1.1.1 rfl ?_
    refine g2_kn (ek e42 hK0 (by decide)) (g2_getR qk112_7.1.2.1.1.1.2 w41 ⟨by decide, by decide, by decide, rfl⟩ (fun r514 h515 => ?_))
    refine g2_ck (fun q516 => ?_)
    refine g2_kn q516 (g2_callF (t' := 1) qk112_7.1.2.1.1.2.1 (by decide) (ql_ip134 hQ) rfl rfl rfl (by omega) w41 (tq134_size hQ (by omega) w41 q516 h515) (fun y517 S518 h519 w520 e521 => ?_))
    refine g2_ck (fun q522 => ?_)
    refine g2_rem qk112_7.1.2.1.1.2.2 q522 ?_
    refine g2_ck (fun q523 => ?_)
    refine g2_kn q523 (g2_callF (t' := 2) qk112_7.1.2.1.2.1.1 (by decide) (ql_ip133 hQ) rfl rfl rfl (by omega) w520 (tq133_get hQ (by omega) w520 q523 h513 (inR_rem q522)) (fun y524 S525 h526 w527 e528 => ?_))
    refine g2_ck (fun q529 => ?_)
    refine g2_kn q529 (g2_cast7 qk112_7.1.2.1.2.1.2 w527 h526 ?_)
    refine g2_astore qk112_7.1.2.1.2.2 rfl (loc2 := [some (sR v0), some (sR v1), some (sI v2), some (sR v3), some (sI v4), some (sI s0), some (sR y524), u7, u8, u9]) rfl ?_
    refine g2_iload qk112_7.1.2.2.1.1.1 rfl ?_
    refine g2_ifeq qk112_7.1.2.2.1.1.2 (inR_b z0) (fun c530 => ?_) (fun c531 => ?_)
    · refine g2_aload qk112_7.1.2.2.1.2.1 rfl ?_
      refine g2_ck (fun q532 => ?_)
      refine g2_kn q532 (g2_getI qk112_7.1.2.2.1.2.2 w527 ⟨by decide, by decide, by decide, rfl⟩ (fun r533 h534 => ?_))
      refine g2_ifeq qk112_7.1.2.2.2.1.1 h534 (fun c535 => ?_) (fun c536 => ?_)
      · refine g2_aload qk112_7.1.2.2.2.1.2 rfl ?_
        refine g2_aload qk112_7.1.2.2.2.2 rfl ?_
        refine g2_acmp qk112_7.2.1.1.1.1.1 h526 h3 (fun c537 => ?_) (fun c538 => ?_)
        · refine g2_int qk112_7.2.2.1.1.2.2 1 rfl ?_
          exact g2_zret qk112_7.2.2.1.2.1.1 w527 (Or.inr rfl)
        · refine g2_aload qk112_7.2.1.1.1.1.2 rfl ?_
          refine g2_aload qk112_7.2.1.1.1.2.1 rfl ?_
          refine g2_kn q532 (g2_callV (t' := 3) qk112_7.2.1.1.1.2.2 (by decide) (ql_ip115 hQ) (by decide) rfl rfl rfl (by omega) w527 (tq115_isBelow hQ (by omega) w527 q532 h526 h3) (fun y539 S540 h541 w542 e543 => ?_))
          refine g2_ifeq qk112_7.2.1.1.2.1.1 (inR_b h541) (fun c544 => ?_) (fun c545 => ?_)
          · refine g2_aload qk112_7.2.1.1.2.1.2 rfl ?_
            refine g2_aload qk112_7.2.1.1.2.2.1 rfl ?_
            refine g2_kn (ek e543 (ek e528 (ek e521 (ek e42 hK0 (by decide)) (by decide)) (by decide)) (by decide)) (g2_callV (t' := 1) qk112_7.2.1.1.2.2.2 (by decide) (ql_ip104 hQ) (by decide) rfl rfl rfl (by omega) w542 (tq104_room hQ (by omega) w542 (ek e543 (ek e528 (ek e521 (ek e42 hK0 (by decide)) (by decide)) (by decide)) (by decide)) (ek e543 q532 (by decide)) h0 h526) (fun y546 S547 h548 w549 e550 => ?_))
            refine g2_ifeq qk112_7.2.1.2.1.1.1 h548 (fun c551 => ?_) (fun c552 => ?_)
            · refine g2_int qk112_7.2.2.1.1.2.2 1 rfl ?_
              exact g2_zret qk112_7.2.2.1.2.1.1 w549 (Or.inr rfl)
            · refine g2_aload qk112_7.2.1.2.1.1.2 rfl ?_
              refine g2_kn (ek e550 (ek e543 q532 (by decide)) (by decide)) (g2_getI qk112_7.2.1.2.1.2.1 w549 ⟨by decide, by decide, by decide, rfl⟩ (fun r553 h554 => ?_))
              refine g2_aload qk112_7.2.1.2.1.2.2 rfl ?_
              refine g2_ck (fun q555 => ?_)
              refine g2_kn q555 (g2_getI qk112_7.2.1.2.2.1.1 w549 ⟨by decide, by decide, by decide, rfl⟩ (fun r556 h557 => ?_))
              refine g2_ibin qk112_7.2.1.2.2.1.2 ?_
              refine g2_int qk112_7.2.1.2.2.2 1 rfl ?_
              refine g2_ibin qk112_7.2.2.1.1.1.1 ?_
              refine g2_int qk112_7.2.2.1.1.1.2 1 rfl ?_
              refine g2_cmeq qk112_7.2.2.1.1.2.1 (inR_opI _ _ _) (inR_b (Or.inr rfl)) (fun c558 => ?_) (fun c559 => ?_)
              · refine g2_int qk112_7.2.2.1.1.2.2 1 rfl ?_
                exact g2_zret qk112_7.2.2.1.2.1.1 w549 (Or.inr rfl)
              · refine g2_aload qk112_7.2.2.1.2.1.2 rfl ?_
                refine g2_kn q555 (g2_getR qk112_7.2.2.1.2.2 w549 ⟨by decide, by decide, by decide, rfl⟩ (fun r560 h561 => ?_))
                refine g2_ck (fun q562 => ?_)
                refine g2_kn q562 (g2_getI qk112_7.2.2.2.1.1.1 w549 ⟨by decide, by decide, by decide, rfl⟩ (fun r563 h564 => ?_))
                refine g2_istore qk112_7.2.2.2.1.1.2 rfl (loc2 := [some (sR v0), some (sR v1), some (sI v2), some (sR v3), some (sI v4), some (sI s0), some (sR y524), some (sI r563), u8, u9]) rfl ?_
                refine g2_aload qk112_7.2.2.2.1.2.1 rfl ?_
                refine g2_aload qk112_7.2.2.2.1.2.2 rfl ?_
                refine g2_kn ⟨q555, h3.2⟩ (g2_putR qk112_7.2.2.2.2.1.1 w549 ⟨by decide, by decide, rfl⟩ h526 (fun S565 w566 e567 => ?_))
                refine g2_aload qk112_7.2.2.2.2.1.2 rfl ?_
                refine g2_aload qk112_7.2.2.2.2.2 rfl ?_
                refine g2_kn (ek e567 q555 (by decide)) (g2_getI qk112_8.1.1.1.1.1.1 w566 ⟨by decide, by decide, by decide, rfl⟩ (fun r568 h569 => ?_))
                refine g2_aload qk112_8.1.1.1.1.1.2 rfl ?_
                refine g2_kn (ek e567 (ek e550 (ek e543 q532 (by decide)) (by decide)) (by decide)) (g2_getI qk112_8.1.1.1.1.2.1 w566 ⟨by decide, by decide, by decide, rfl⟩ (fun r570 h571 => ?_))
                refine g2_ck (fun q572 => ?_)
                refine g2_kn q572 (g2_callC (t' := 1) (Is := [r568, r570]) qk112_8.1.1.1.1.2.2 (by decide) rfl rfl (by omega) w566 (Or.inl rfl) (by decide) ⟨rfl, rfl⟩ (tfC_move (by omega) w566.1.2 kd_c0 h569 h571) (fun y573 S575 h576 w577 e578 => ?_))
                refine g2_iload qk112_8.1.1.1.2.1.1 rfl ?_
                refine g2_cmeq qk112_8.1.1.1.2.1.2 h576 h564 (fun c579 => ?_) (fun c580 => ?_)
                · refine g2_int qk112_8.1.1.1.2.2.1 1 rfl ?_
                  refine g2_goto qk112_8.1.1.1.2.2.2 ?_
                  exact g2_zret qk112_8.1.1.2.1.1.2 w577 (Or.inr rfl)
                · refine g2_int qk112_8.1.1.2.1.1.1 0 rfl ?_
                  exact g2_zret qk112_8.1.1.2.1.1.2 w577 (Or.inl rfl)
          · refine g2_int qk112_7.2.2.1.1.2.2 1 rfl ?_
            exact g2_zret qk112_7.2.2.1.2.1.1 w542 (Or.inr rfl)
      · refine g2_int qk112_7.2.2.1.1.2.2 1 rfl ?_
        exact g2_zret qk112_7.2.2.1.2.1.1 w527 (Or.inr rfl)
    · refine g2_int qk112_7.2.2.1.1.2.2 1 rfl ?_
      exact g2_zret qk112_7.2.2.1.2.1.1 w527 (Or.inr rfl)
  refine g2_swd (lo := 0) (hi := 14) qk112_0.2.1.1.1.2.2 rfl rfl h40 (by omega) (by omega) ?_
  refine g2_iload qk112_8.1.1.2.1.2.1 rfl ?_
  refine g2_ifeq qk112_8.1.1.2.1.2.2 (inR_b z0) (fun c581 => ?_) (fun c582 => ?_)
  · refine g2_int qk112_8.1.1.2.2.2 0 rfl ?_
    refine g2_istore qk112_8.1.2.1.1.1.1 rfl (loc2 := [some (sR v0), some (sR v1), some (sI v2), some (sR v3), some (sI v4), some (sI s0), some (sI 0), u7, u8, u9]) rfl ?_
    refine g2_aload qk112_8.1.2.1.1.1.2 rfl ?_
    refine g2_aload qk112_8.1.2.1.1.2.1 rfl ?_
    refine g2_int qk112_8.1.2.1.1.2.2 0 rfl ?_
    refine g2_kn (ek e42 hK0 (by decide)) (g2_callV (t' := 2) qk112_8.1.2.1.2.1.1 (by decide) (ql_ip103 hQ) (by decide) rfl rfl rfl (by omega) w41 (tq103_children hQ (by omega) w41 (ek e42 hK0 (by decide)) h0 h3 (inR_b (Or.inl rfl))) (fun y583 S584 h585 w586 e587 => ?_))
    refine g2_astore qk112_8.1.2.1.2.1.2 rfl (loc2 := [some (sR v0), some (sR v1), some (sI v2), some (sR v3), some (sI v4), some (sI s0), some (sI 0), some (sR y583), u8, u9]) rfl ?_
    refine g2_aload qk112_8.1.2.1.2.2 rfl ?_
    refine g2_ck (fun q588 => ?_)
    refine g2_kn q588 (g2_callF (t' := 1) qk112_8.1.2.2.1.1.1 (by decide) (ql_ip134 hQ) rfl rfl rfl (by omega) w586 (tq134_size hQ (by omega) w586 q588 h585) (fun y589 S590 h591 w592 e593 => ?_))
    refine g2_int qk112_8.1.2.2.1.1.2 1 rfl ?_
    refine g2_isub qk112_8.1.2.2.1.2.1 ?_
    refine g2_istore qk112_8.1.2.2.1.2.2 rfl (loc2 := [some (sR v0), some (sR v1), some (sI v2), some (sR v3), some (sI v4), some (sI s0), some (sI 0), some (sR y583), some (sI (w32 (y589 - 1))), u9]) rfl ?_
    exact tl112_1091 hQ hd h0 h1 h3 h585 fu 0 (inR_b (Or.inl rfl)) (w32 (y589 - 1)) (inR_w32 _) S590 w592 (ek e593 (ek e587 (ek e42 hK0 (by decide)) (by decide)) (by decide)) (some (sI v2)) rfl (some (sI v4)) rfl (some (sI s0)) rfl u9 w9
  · refine g2_int qk112_8.1.1.2.2.1.1 1 rfl ?_
    exact g2_zret qk112_8.1.1.2.2.1.2 w41 (Or.inr rfl)
noncomputable def j112_52 (v0 : Int) (v1 : Int) (v2 : Int) (v3 : Int) (v4 : Int) (S : sS) : Option (Int × sS) :=
  j112_57 v0 v1 v2 v3 v4 1 S
theorem tj112_52 {κ : CX} (hQ : κ.2.2.2.2.2.2.2.2.2 = (ql_I, ql_P)) {n0 s0 : Int} {d : Nat} (hd : 70 ≤ d) {v0 v1 v2 v3 v4 : Int} (h0 : RfO v0) (h1 : RfO v1) (h2 : InR v2) (h3 : RfO v3) (h4 : InR v4) (S : sS) (hW : WF2 κ S) (hK0 : sK S v0 = 8) (u5 : Option ev_V) (w5 : nwo u5) (u6 : Option ev_V) (w6 : nwo u6) (u7 : Option ev_V) (w7 : nwo u7) (u8 : Option ev_V) (w8 : nwo u8) (u9 : Option ev_V) (w9 : nwo u9) : G2 κ ql_i112 ql_m112 3 d n0 s0 (j112_52 v0 v1 v2 v3 v4 S) 52 [some (sR v0), some (sR v1), some (sI v2), some (sR v3), some (sI v4), u5, u6, u7, u8, u9] [] S := by
  unfold j112_52
  refine g2_int qk112_0.1.2.2.1.2.1 1 rfl ?_
  refine g2_goto qk112_0.1.2.2.1.2.2 ?_
  exact tj112_57 hQ hd h0 h1 h2 h3 h4 (Or.inr rfl) S hW hK0 u5 w5 u6 w6 u7 w7 u8 w8 u9 w9
noncomputable def q112_act (S : sS) (v0 : Int) (v1 : Int) (v2 : Int) : Option (Int × sS) :=
  bnd (sg S v0 0) (fun r1 => bdS (q99_bits S v2 4 4) (fun y3 S4 => bnd (sg S4 v0 0) (fun r8 => if sK S4 r8 = 9 then bdS (q134_size S4 r8) (fun y11 S12 => if (1 : Int) ≤ y11 ∧ y11 < (2147483648 : Int) ∧ (0 : Int) ≤ y3 ∧ y3 < 2147483648 then if sK S12 r1 = 9 then bdS (q133_get S12 r1 (y3 % y11)) (fun y18 S19 => if y18 = -1 ∨ sK S19 y18 = 7 then bdS (q99_bits S19 v2 8 3) (fun y24 S25 => if sK S25 y18 = 7 then bnd (sg S25 y18 7) (fun r30 => if r30 = 0 then (bnd (sg S25 y18 0) (fun r34 => if r34 = 0 then (j112_52 v0 v1 v2 y18 y24 S25) else (j112_57 v0 v1 v2 y18 y24 0 S25))) else (j112_52 v0 v1 v2 y18 y24 S25)) else none) else none) else none else none) else none)))
theorem tq112_act {κ : CX} (hQ : κ.2.2.2.2.2.2.2.2.2 = (ql_I, ql_P)) {n0 s0 : Int} {d : Nat} (hd : 70 ≤ d) {S : sS} (hW : WF2 κ S) {v0 v1 v2 : Int} (hK0 : sK S v0 = 8) (h0 : RfO v0) (h1 : RfO v1) (h2 : InR v2) : G2 κ ql_i112 ql_m112 3 d n0 s0 (q112_act S v0 v1 v2) 0 (ev_loc ql_m112.1 [(sR v0), (sR v1), (sI v2)]) [] S := by
  unfold q112_act
  refine g2_aload qk112_0.1.1.1.1.1.1 rfl ?_
  refine g2_kn hK0 (g2_getR qk112_0.1.1.1.1.1.2 hW ⟨by decide, by decide, by decide, rfl⟩ (fun r1 h2 => ?_))
  refine g2_iload qk112_0.1.1.1.1.2.1 rfl ?_
  refine g2_int qk112_0.1.1.1.1.2.2 4 rfl ?_
  refine g2_int qk112_0.1.1.1.2.1.1 4 rfl ?_
  refine g2_callS (t' := 1) qk112_0.1.1.1.2.1.2 (by decide) (ql_ip99 hQ) rfl rfl rfl rfl (by omega) (tq99_bits hQ (by omega) hW h2 (inR_of (by decide)) (inR_of (by decide))) (fun y3 S4 h5 w6 e7 => ?_)
  refine g2_aload qk112_0.1.1.1.2.2.1 rfl ?_
  refine g2_kn (ek e7 hK0 (by decide)) (g2_getR qk112_0.1.1.1.2.2.2 w6 ⟨by decide, by decide, by decide, rfl⟩ (fun r8 h9 => ?_))
  refine g2_ck (fun q10 => ?_)
  refine g2_kn q10 (g2_callF (t' := 1) qk112_0.1.1.2.1.1.1 (by decide) (ql_ip134 hQ) rfl rfl rfl (by omega) w6 (tq134_size hQ (by omega) w6 q10 h9) (fun y11 S12 h13 w14 e15 => ?_))
  refine g2_ck (fun q16 => ?_)
  refine g2_rem qk112_0.1.1.2.1.1.2 q16 ?_
  refine g2_ck (fun q17 => ?_)
  refine g2_kn q17 (g2_callF (t' := 2) qk112_0.1.1.2.1.2.1 (by decide) (ql_ip133 hQ) rfl rfl rfl (by omega) w14 (tq133_get hQ (by omega) w14 q17 h2 (inR_rem q16)) (fun y18 S19 h20 w21 e22 => ?_))
  refine g2_ck (fun q23 => ?_)
  refine g2_kn q23 (g2_cast7 qk112_0.1.1.2.1.2.2 w21 h20 ?_)
  refine g2_astore qk112_0.1.1.2.2.1.1 rfl (loc2 := [some (sR v0), some (sR v1), some (sI v2), some (sR y18), none, none, none, none, none, none]) rfl ?_
  refine g2_iload qk112_0.1.1.2.2.1.2 rfl ?_
  refine g2_int qk112_0.1.1.2.2.2 8 rfl ?_
  refine g2_int qk112_0.1.2.1.1.1.1 3 rfl ?_
  refine g2_callS (t' := 1) qk112_0.1.2.1.1.1.2 (by decide) (ql_ip99 hQ) rfl rfl rfl rfl (by omega) (tq99_bits hQ (by omega) w21 h2 (inR_of (by decide)) (inR_of (by decide))) (fun y24 S25 h26 w27 e28 => ?_)
  refine g2_istore qk112_0.1.2.1.1.2.1 rfl (loc2 := [some (sR v0), some (sR v1), some (sI v2), some (sR y18), some (sI y24), none, none, none, none, none]) rfl ?_
  refine g2_aload qk112_0.1.2.1.1.2.2 rfl ?_
  refine g2_ck (fun q29 => ?_)
  refine g2_kn q29 (g2_getI qk112_0.1.2.1.2.1.1 w27 ⟨by decide, by decide, by decide, rfl⟩ (fun r30 h31 => ?_))
  refine g2_ifeq qk112_0.1.2.1.2.1.2 h31 (fun c32 => ?_) (fun c33 => ?_)
  · refine g2_aload qk112_0.1.2.1.2.2 rfl ?_
    refine g2_kn q29 (g2_getI qk112_0.1.2.2.1.1.1 w27 ⟨by decide, by decide, by decide, rfl⟩ (fun r34 h35 => ?_))
    refine g2_ifeq qk112_0.1.2.2.1.1.2 h35 (fun c36 => ?_) (fun c37 => ?_)
    · exact tj112_52 hQ hd h0 h1 h2 h20 h26 S25 w27 (ek e28 (ek e22 (ek e15 (ek e7 hK0 (by decide)) (by decide)) (by decide)) (by decide)) none rfl none rfl none rfl none rfl none rfl
    · refine g2_int qk112_0.1.2.2.2.1.1 0 rfl ?_
      exact tj112_57 hQ hd h0 h1 h2 h20 h26 (Or.inl rfl) S25 w27 (ek e28 (ek e22 (ek e15 (ek e7 hK0 (by decide)) (by decide)) (by decide)) (by decide)) none rfl none rfl none rfl none rfl none rfl
  · exact tj112_52 hQ hd h0 h1 h2 h20 h26 S25 w27 (ek e28 (ek e22 (ek e15 (ek e7 hK0 (by decide)) (by decide)) (by decide)) (by decide)) none rfl none rfl none rfl none rfl none rfl

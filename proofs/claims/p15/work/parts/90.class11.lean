/-! ===== the class's questions (own work, by program: wip/p2/gen_cls2.py) ===== -/
section CLS11
variable {g g' G H K : gH} {T S j k a b c v w d o p q s m x y : Int}
theorem HR_T (h : HR g) (hT : isT T) (hk : k = 6 ∨ k = 7) : InR (g T k) := by
  have := h T k
  rw [kdT hT] at this
  rcases hk with rfl | rfl <;> exact this
theorem kd_575 : kd 575 = 4 := by decide +kernel
theorem zb_ : ∀ c, (c = -1 ∨ (Pa T c ∧ g c 1 = 1)) → (c = -1 ∨ Pa T c) := by
  intro c h
  rcases h with e | e
  · exact Or.inl e
  · exact Or.inr e.1
theorem ex_ (hT : isT T) (hv : c = -1 ∨ Pa T c) : WQ (fun _ => True) (fun e => e = 3) (if c < 0 then some (4, 0) else if kd c = 3 then some (0, g c 0) else none) := by
  refine W_ite (fun _ => WQ_e rfl) (fun hn => ?_)
  rcases hv with e | e
  · exact absurd (by omega) hn
  · rw [if_pos (Pa_kd hT e)]; exact WQ_i trivial
theorem CI_T (h : CInv g) : ∃ T, isT T ∧ g 0 0 = T ∧ TI g T ∧ g 0 3 = 133 ∧ g 0 5 = 622 := ⟨1, T1, h.1.1.1, h.2.1 1 T1, h.1.1.2.2.2.1, h.1.1.2.2.2.2.2⟩
theorem tC_named (e0 : g 0 0 = T) (hT : isT T) (ht : TI g T) : WQ (Pa T) (fun e => e = 2) (fC_named g 0 v) := by
  rw [fC_named, e0, if_pos (kdT hT)]
  refine W_bdP (tT_at ht hT) (fun y hy => W_ite (fun _ => WQ_e rfl) (fun hn => WQ_i ?_))
  rcases hy with e | e
  · exact absurd (by omega) hn
  · exact Pn_a ht e
theorem tC_checkRange : WQ (fun _ => 0 ≤ v ∧ v ≤ w) (fun e => e = 0) (fC_checkRange g v w) := by
  rw [fC_checkRange]
  exact W_ite (fun _ => WQ_e rfl) (fun _ => W_ite (fun _ => WQ_e rfl) (fun _ => WQ_i (by omega)))
theorem tC_checkState : WQ (fun _ => ¬ v = 0) (fun e => e = 1) (fC_checkState g v) := by
  rw [fC_checkState]
  exact W_ite (fun _ => WQ_e rfl) (fun h => WQ_i h)
theorem tC_numberOf (hT : isT T) (hc : c = -1 ∨ Pa T c) : WP (fun _ => True) (fC_numberOf g c) := by
  rw [fC_numberOf]
  refine W_ite (fun _ => WP_i trivial) (fun hn => ?_)
  rcases hc with e | e
  · exact absurd (by omega) hn
  · rw [if_pos (Pa_kd hT e)]; exact WP_i trivial
theorem tT_adopterOf1 (h : TI g T) (hT : isT T) (ho : Pa T o) : WP (Pa T) (fT_adopterOf g T o) := WP_m (tT_adopterOf h hT ho) (fun _ hv => ADc_a h hv)
theorem tT_canAdopt1 (h : TI g T) (hT : isT T) (hp : Pa T c) (ho : Pa T o) : WP (fun _ => True) (fT_canAdopt g T c o) := WP_m (tT_canAdopt h hT hp ho) (fun _ _ => trivial)
theorem tJ_bitCount : WP (fun _ => True) (fJ_bitCount g v) := ⟨_, rfl, trivial⟩
theorem tC_errorCode (h : CInv g) : WP (fun _ => True) (fC_errorCode g 0) := by
  rw [fC_errorCode, h.1.1.2.2.2.2.1, if_pos kd_575]; exact WP_i trivial
theorem tC_errorOffset (h : CInv g) : WP (fun _ => True) (fC_errorOffset g 0) := by
  rw [fC_errorOffset, h.1.1.2.2.2.2.1, if_pos kd_575]; exact WP_i trivial
theorem tC_rule (h : CInv g) : WP (fun _ => True) (fC_rule g 0 v) := by
  obtain ⟨T, hT, e0, ht, e3, e5⟩ := CI_T h
  rw [fC_rule, e0, if_pos (kdT hT), TS_3 ht.1]
  refine W_ite (fun _ => WP_i trivial) (fun _ => W_ite (fun _ => ?_) (fun _ => WP_i trivial))
  rw [if_pos ⟨kdT4 hT, by omega, by rw [szT4 hT]; omega⟩]
  exact WP_i trivial
theorem tC_outputByte (h : CInv g) : WP (fun _ => True) (fC_outputByte g 0 v) := by
  rw [fC_outputByte, h.1.1.2.2.2.2.2, if_pos kd_622, h.1.2.2.2.2.2.2]
  refine W_ite (fun _ => WP_i trivial) (fun _ => W_ite (fun _ => W_ite (fun _ => ?_) (fun _ => WP_i trivial)) (fun _ => WP_i trivial))
  rw [if_pos ⟨kd_623, by omega, by rw [sz_623]; omega⟩]
  exact WP_i trivial
theorem tC_height (h : CInv g) : WP (fun _ => True) (fC_height g 0) := by
  obtain ⟨T, hT, e0, ht, e3, e5⟩ := CI_T h
  rw [fC_height]
  try simp only [e0, e3]
  repeat' first | exact WQ_i trivial | exact WQ_e rfl | exact WQ_e (Or.inr rfl) | exact WP_i trivial | exact nx _ | exact nx _ _ | refine W_bdP (tT_greatestDepth ht hT) (fun _ _ => ?_) | refine W_g (Pa_kd hT (by assumption)) ?_ | refine W_g (kdT hT) ?_ | refine W_g kd_133 ?_ | refine W_ite (fun _ => ?_) (fun _ => ?_)
theorem tC_atDepth (h : CInv g) : WP (fun _ => True) (fC_atDepth g 0 w) := by
  obtain ⟨T, hT, e0, ht, e3, e5⟩ := CI_T h
  have hs := ht.1
  have hf := fu_ge
  rw [fC_atDepth]
  simp only [e0, e3, kdT hT, TS_1 hs, kdT2 hT, szT2 hT, if_true]
  refine W_loop (W := WP (fun _ => True)) (fun n (a : Int × Int) => lC_atDepth_17 g w (T + 2) 40 n a.1 a.2) (fun a => (40 - a.2).toNat) (fun a => (0 ≤ a.2 ∧ a.2 ≤ 40) ∧ True) ?_ fu (0, 0) ⟨⟨by show (0 : Int) ≤ 0; omega, by show (0 : Int) ≤ 40; omega⟩, trivial⟩ (by show (40 - (0 : Int)).toNat < fu; omega)
  rintro n ⟨x, i⟩ hI ih
  have i0 : 0 ≤ i := hI.1.1
  show WP (fun _ => True) (bC_atDepth_17 g w (T + 2) 40 (lC_atDepth_17 g w (T + 2) 40 n) x i)
  rw [bC_atDepth_17]
  refine W_ite (fun hi => ?_) (fun _ => ?_)
  case' refine_2 => exact WP_i trivial
  have hi : 0 ≤ i ∧ i < 40 := ⟨i0, hi⟩
  have pa : Pa T (pc T i) := ⟨i, hi, rfl⟩
  have nx : ∀ x', WP (fun _ => True) (lC_atDepth_17 g w (T + 2) 40 n x' (w32 (i + 1))) := fun x' => by rw [w32_r (by omega)]; exact ih (x', i + 1) ⟨by dsimp only; omega, trivial⟩ (by dsimp only; omega)
  simp only [e0, kdT hT, TS_p hs hi, TS_n hs hi, kdp hT hi, kdT2 hT, szT2 hT, hi.1, hi.2, if_true, true_and, and_self]
  repeat' first | exact WQ_i trivial | exact WQ_e rfl | exact WQ_e (Or.inr rfl) | exact WP_i trivial | exact nx _ | exact nx _ _ | refine W_bdP tP_isRunning (fun _ _ => ?_) | refine W_bdP (tP_countAbove ht hT (by assumption)) (fun _ _ => ?_) | refine W_g (Pa_kd hT (by assumption)) ?_ | refine W_g (kdT hT) ?_ | refine W_g kd_133 ?_ | refine W_ite (fun _ => ?_) (fun _ => ?_)
theorem tC_allRoom (h : CInv g) : WP (fun _ => True) (fC_allRoom g 0) := by
  obtain ⟨T, hT, e0, ht, e3, e5⟩ := CI_T h
  have hs := ht.1
  have hf := fu_ge
  rw [fC_allRoom]
  simp only [e0, e3, kdT hT, TS_1 hs, kdT2 hT, szT2 hT, if_true]
  refine W_loop (W := WP (fun _ => True)) (fun n (a : Int × Int) => lC_allRoom_16 g (T + 2) 40 n a.1 a.2) (fun a => (40 - a.2).toNat) (fun a => (0 ≤ a.2 ∧ a.2 ≤ 40) ∧ True) ?_ fu (0, 0) ⟨⟨by show (0 : Int) ≤ 0; omega, by show (0 : Int) ≤ 40; omega⟩, trivial⟩ (by show (40 - (0 : Int)).toNat < fu; omega)
  rintro n ⟨x, i⟩ hI ih
  have i0 : 0 ≤ i := hI.1.1
  show WP (fun _ => True) (bC_allRoom_16 g (T + 2) 40 (lC_allRoom_16 g (T + 2) 40 n) x i)
  rw [bC_allRoom_16]
  refine W_ite (fun hi => ?_) (fun _ => ?_)
  case' refine_2 => exact WP_i trivial
  have hi : 0 ≤ i ∧ i < 40 := ⟨i0, hi⟩
  have pa : Pa T (pc T i) := ⟨i, hi, rfl⟩
  have nx : ∀ x', WP (fun _ => True) (lC_allRoom_16 g (T + 2) 40 n x' (w32 (i + 1))) := fun x' => by rw [w32_r (by omega)]; exact ih (x', i + 1) ⟨by dsimp only; omega, trivial⟩ (by dsimp only; omega)
  simp only [e0, kdT hT, TS_p hs hi, TS_n hs hi, kdp hT hi, kdT2 hT, szT2 hT, hi.1, hi.2, if_true, true_and, and_self]
  repeat' first | exact WQ_i trivial | exact WQ_e rfl | exact WQ_e (Or.inr rfl) | exact WP_i trivial | exact nx _ | exact nx _ _ | refine W_bdP tP_room (fun _ _ => ?_) | refine W_g (Pa_kd hT (by assumption)) ?_ | refine W_g (kdT hT) ?_ | refine W_g kd_133 ?_ | refine W_ite (fun _ => ?_) (fun _ => ?_)
theorem tC_overfull (h : CInv g) : WP (fun _ => True) (fC_overfull g 0) := by
  obtain ⟨T, hT, e0, ht, e3, e5⟩ := CI_T h
  have hs := ht.1
  have hf := fu_ge
  rw [fC_overfull]
  simp only [e0, e3, kdT hT, TS_1 hs, kdT2 hT, szT2 hT, if_true]
  refine W_loop (W := WP (fun _ => True)) (fun n (a : Int × Int) => lC_overfull_16 g (T + 2) 40 n a.1 a.2) (fun a => (40 - a.2).toNat) (fun a => (0 ≤ a.2 ∧ a.2 ≤ 40) ∧ True) ?_ fu (0, 0) ⟨⟨by show (0 : Int) ≤ 0; omega, by show (0 : Int) ≤ 40; omega⟩, trivial⟩ (by show (40 - (0 : Int)).toNat < fu; omega)
  rintro n ⟨x, i⟩ hI ih
  have i0 : 0 ≤ i := hI.1.1
  show WP (fun _ => True) (bC_overfull_16 g (T + 2) 40 (lC_overfull_16 g (T + 2) 40 n) x i)
  rw [bC_overfull_16]
  refine W_ite (fun hi => ?_) (fun _ => ?_)
  case' refine_2 => exact WP_i trivial
  have hi : 0 ≤ i ∧ i < 40 := ⟨i0, hi⟩
  have pa : Pa T (pc T i) := ⟨i, hi, rfl⟩
  have nx : ∀ x', WP (fun _ => True) (lC_overfull_16 g (T + 2) 40 n x' (w32 (i + 1))) := fun x' => by rw [w32_r (by omega)]; exact ih (x', i + 1) ⟨by dsimp only; omega, trivial⟩ (by dsimp only; omega)
  simp only [e0, kdT hT, TS_p hs hi, TS_n hs hi, kdp hT hi, kdT2 hT, szT2 hT, hi.1, hi.2, if_true, true_and, and_self]
  repeat' first | exact WQ_i trivial | exact WQ_e rfl | exact WQ_e (Or.inr rfl) | exact WP_i trivial | exact nx _ | exact nx _ _ | refine W_bdP tP_isRunning (fun _ _ => ?_) | refine W_g (Pa_kd hT (by assumption)) ?_ | refine W_g (kdT hT) ?_ | refine W_g kd_133 ?_ | refine W_ite (fun _ => ?_) (fun _ => ?_)
theorem tC_mostAdopted (h : CInv g) : WP (fun _ => True) (fC_mostAdopted g 0) := by
  obtain ⟨T, hT, e0, ht, e3, e5⟩ := CI_T h
  have hs := ht.1
  have hf := fu_ge
  rw [fC_mostAdopted]
  simp only [e0, e3, kdT hT, TS_1 hs, kdT2 hT, szT2 hT, if_true]
  refine W_loop (W := WP (fun _ => True)) (fun n (a : Int × Int × Int) => lC_mostAdopted_19 g (T + 2) 40 n a.1 a.2.1 a.2.2) (fun a => (40 - a.2.2).toNat) (fun a => (0 ≤ a.2.2 ∧ a.2.2 ≤ 40) ∧ True) ?_ fu (-1, 0, 0) ⟨⟨by show (0 : Int) ≤ 0; omega, by show (0 : Int) ≤ 40; omega⟩, trivial⟩ (by show (40 - (0 : Int)).toNat < fu; omega)
  rintro n ⟨x, y, i⟩ hI ih
  have i0 : 0 ≤ i := hI.1.1
  show WP (fun _ => True) (bC_mostAdopted_19 g (T + 2) 40 (lC_mostAdopted_19 g (T + 2) 40 n) x y i)
  rw [bC_mostAdopted_19]
  refine W_ite (fun hi => ?_) (fun _ => ?_)
  case' refine_2 => exact WP_i trivial
  have hi : 0 ≤ i ∧ i < 40 := ⟨i0, hi⟩
  have pa : Pa T (pc T i) := ⟨i, hi, rfl⟩
  have nx : ∀ x' y', WP (fun _ => True) (lC_mostAdopted_19 g (T + 2) 40 n x' y' (w32 (i + 1))) := fun x' y' => by rw [w32_r (by omega)]; exact ih (x', y', i + 1) ⟨by dsimp only; omega, trivial⟩ (by dsimp only; omega)
  simp only [e0, kdT hT, TS_p hs hi, TS_n hs hi, kdp hT hi, kdT2 hT, szT2 hT, hi.1, hi.2, if_true, true_and, and_self]
  repeat' first | exact WQ_i trivial | exact WQ_e rfl | exact WQ_e (Or.inr rfl) | exact WP_i trivial | exact nx _ | exact nx _ _ | refine W_bdP tP_isRunning (fun _ _ => ?_) | refine W_g (Pa_kd hT (by assumption)) ?_ | refine W_g (kdT hT) ?_ | refine W_g kd_133 ?_ | refine W_ite (fun _ => ?_) (fun _ => ?_)
theorem tC_meanDepth (h : CInv g) : WP (fun _ => True) (fC_meanDepth g 0) := by
  obtain ⟨T, hT, e0, ht, e3, e5⟩ := CI_T h
  have hs := ht.1
  have hf := fu_ge
  rw [fC_meanDepth]
  simp only [e0, e3, kdT hT, TS_1 hs, kdT2 hT, szT2 hT, if_true]
  refine W_loop (W := WP (fun _ => True)) (fun n (a : Int × Int × Int) => lC_meanDepth_19 g (T + 2) 40 n a.1 a.2.1 a.2.2) (fun a => (40 - a.2.2).toNat) (fun a => (0 ≤ a.2.2 ∧ a.2.2 ≤ 40) ∧ InR a.2.1) ?_ fu (0, 0, 0) ⟨⟨by show (0 : Int) ≤ 0; omega, by show (0 : Int) ≤ 40; omega⟩, (by show InR 0; unfold InR; omega)⟩ (by show (40 - (0 : Int)).toNat < fu; omega)
  rintro n ⟨x, y, i⟩ hI ih
  have i0 : 0 ≤ i := hI.1.1
  have hv : InR y := hI.2
  show WP (fun _ => True) (bC_meanDepth_19 g (T + 2) 40 (lC_meanDepth_19 g (T + 2) 40 n) x y i)
  rw [bC_meanDepth_19]
  refine W_ite (fun hi => ?_) (fun _ => ?_)
  case' refine_2 => (rw [jC_meanDepth_57]; exact W_ite (fun _ => WP_i trivial) (fun hz => W_g (okd (toI_ne hv hz)) (WP_i trivial)))
  have hi : 0 ≤ i ∧ i < 40 := ⟨i0, hi⟩
  have pa : Pa T (pc T i) := ⟨i, hi, rfl⟩
  have nx : ∀ x' y', InR y' → WP (fun _ => True) (lC_meanDepth_19 g (T + 2) 40 n x' y' (w32 (i + 1))) := fun x' y' hv' => by rw [w32_r (by omega)]; exact ih (x', y', i + 1) ⟨by dsimp only; omega, hv'⟩ (by dsimp only; omega)
  simp only [e0, kdT hT, TS_p hs hi, TS_n hs hi, kdp hT hi, kdT2 hT, szT2 hT, hi.1, hi.2, if_true, true_and, and_self]
  exact W_bdP tP_isRunning (fun _ _ => W_ite (fun _ => nx x y hv) (fun _ => W_bdP (tP_countAbove ht hT pa) (fun _ _ => nx _ _ (inR_w32 _))))
theorem tC_rootShare (h : CInv g) (hr : HR g) : WP (fun _ => True) (fC_rootShare g 0) := by
  obtain ⟨T, hT, e0, ht, e3, e5⟩ := CI_T h
  rw [fC_rootShare, e0, if_pos (kdT hT)]
  exact W_ite (fun _ => WP_i trivial) (fun hz => W_g (okf (toI_ne (HR_T hr hT (by omega)) hz)) (WP_i trivial))
theorem tC_readShare (h : CInv g) (hr : HR g) : WP (fun _ => True) (fC_readShare g 0) := by
  obtain ⟨T, hT, e0, ht, e3, e5⟩ := CI_T h
  rw [fC_readShare, e0, if_pos (kdT hT)]
  exact W_ite (fun _ => WP_i trivial) (fun hz => W_bdP (tT_countInState ht hT) (fun _ _ => W_g (okd (toI_ne (HR_T hr hT (by omega)) hz)) (WP_i trivial)))
theorem tC_count (h : CInv g) : WQ (fun _ => True) (fun e => e = 0) (fC_count g 0 v) := by
  obtain ⟨T, hT, e0, ht, e3, e5⟩ := CI_T h
  rw [fC_count]
  try simp only [e0, e3]
  repeat' first | exact WQ_i trivial | exact WQ_e rfl | exact WQ_e (Or.inr rfl) | exact WP_i trivial | exact nx _ | exact nx _ _ | refine W_bdP (tT_dutiesOf ht hT (by rw [TS_0 ht.1]; exact Pn_a ht (Pn_0 ht))) (fun _ _ => W_bdP tJ_bitCount (fun _ _ => ?_)) | refine W_bdP (tT_countInState ht hT) (fun _ _ => ?_) | refine W_bdP (tT_dutiesOf ht hT (by assumption)) (fun _ _ => ?_) | refine W_g (Pa_kd hT (by assumption)) ?_ | refine W_g (kdT hT) ?_ | refine W_g kd_133 ?_ | refine W_ite (fun _ => ?_) (fun _ => ?_)
theorem tC_process (h : CInv g) : WQ (fun _ => True) (fun e => e = 2 ∨ e = 0) (fC_process g 0 v w) := by
  obtain ⟨T, hT, e0, ht, e3, e5⟩ := CI_T h
  rw [fC_process]
  try simp only [e0, e3]
  repeat' first | exact WQ_i trivial | exact WQ_e rfl | exact WQ_e (Or.inr rfl) | exact WP_i trivial | exact nx _ | exact nx _ _ | refine W_bdQ (tC_named e0 hT ht) (fun _ _ => ?_) (fun _ he => WQ_e (by subst he; simp)) | refine W_bdP tP_room (fun _ _ => ?_) | refine W_bdP tP_willMask (fun _ _ => ?_) | refine W_bdP (tT_countZombiesOf ht hT) (fun _ _ => ?_) | refine W_bdP (tT_dutiesOf ht hT (by assumption)) (fun _ _ => ?_) | refine W_bdP (tC_numberOf hT (sup_a ht (by assumption))) (fun _ _ => ?_) | refine W_g (Pa_kd hT (by assumption)) ?_ | refine W_g (kdT hT) ?_ | refine W_g kd_133 ?_ | refine W_ite (fun _ => ?_) (fun _ => ?_)
theorem tC_holder (h : CInv g) : WQ (fun _ => True) (fun e => e = 0) (fC_holder g 0 v) := by
  obtain ⟨T, hT, e0, ht, e3, e5⟩ := CI_T h
  rw [fC_holder]
  try simp only [e0, e3]
  repeat' first | exact WQ_i trivial | exact WQ_e rfl | exact WQ_e (Or.inr rfl) | exact WP_i trivial | exact nx _ | exact nx _ _ | refine W_bdQ tC_checkRange (fun _ _ => ?_) (fun _ he => WQ_e (by subst he; simp)) | refine W_bdP (tT_holderOf ht hT) (fun _ _ => ?_) | refine W_g (Pa_kd hT (by assumption)) ?_ | refine W_g (kdT hT) ?_ | refine W_g kd_133 ?_ | refine W_ite (fun _ => ?_) (fun _ => ?_)
theorem tC_depth (h : CInv g) : WQ (fun _ => True) (fun e => e = 2 ∨ e = 1) (fC_depth g 0 v) := by
  obtain ⟨T, hT, e0, ht, e3, e5⟩ := CI_T h
  rw [fC_depth]
  try simp only [e0, e3]
  repeat' first | exact WQ_i trivial | exact WQ_e rfl | exact WQ_e (Or.inr rfl) | exact WP_i trivial | exact nx _ | exact nx _ _ | refine W_bdQ (tC_named e0 hT ht) (fun _ _ => ?_) (fun _ he => WQ_e (by subst he; simp)) | refine W_bdQ tC_checkState (fun _ _ => ?_) (fun _ he => WQ_e (by subst he; simp)) | refine W_bdP (tP_countAbove ht hT (by assumption)) (fun _ _ => ?_) | refine W_g (Pa_kd hT (by assumption)) ?_ | refine W_g (kdT hT) ?_ | refine W_g kd_133 ?_ | refine W_ite (fun _ => ?_) (fun _ => ?_)
theorem tC_isAbove (h : CInv g) : WQ (fun _ => True) (fun e => e = 2) (fC_isAbove g 0 v w) := by
  obtain ⟨T, hT, e0, ht, e3, e5⟩ := CI_T h
  rw [fC_isAbove]
  try simp only [e0, e3]
  repeat' first | exact WQ_i trivial | exact WQ_e rfl | exact WQ_e (Or.inr rfl) | exact WP_i trivial | exact nx _ | exact nx _ _ | refine W_bdQ (tC_named e0 hT ht) (fun _ _ => ?_) (fun _ he => WQ_e (by subst he; simp)) | refine W_bdP (tP_isOver ht hT (by assumption) (by assumption)) (fun _ _ => ?_) | refine W_g (Pa_kd hT (by assumption)) ?_ | refine W_g (kdT hT) ?_ | refine W_g kd_133 ?_ | refine W_ite (fun _ => ?_) (fun _ => ?_)
theorem tC_meet (h : CInv g) : WQ (fun _ => True) (fun e => e = 2 ∨ e = 1) (fC_meet g 0 v w) := by
  obtain ⟨T, hT, e0, ht, e3, e5⟩ := CI_T h
  rw [fC_meet]
  try simp only [e0, e3]
  repeat' first | exact WQ_i trivial | exact WQ_e rfl | exact WQ_e (Or.inr rfl) | exact WP_i trivial | exact nx _ | exact nx _ _ | refine W_bdQ (tC_named e0 hT ht) (fun _ _ => ?_) (fun _ he => WQ_e (by subst he; simp)) | refine W_bdQ tC_checkState (fun _ _ => ?_) (fun _ he => WQ_e (by subst he; simp)) | refine W_bdP (tT_lowestOver ht hT (by assumption) (by assumption)) (fun _ _ => ?_) | refine W_g (Pa_kd hT (by assumption)) ?_ | refine W_g (kdT hT) ?_ | refine W_g kd_133 ?_ | refine W_ite (fun _ => ?_) (fun _ => ?_)
theorem tC_below (h : CInv g) : WQ (fun _ => True) (fun e => e = 2) (fC_below g 0 v) := by
  obtain ⟨T, hT, e0, ht, e3, e5⟩ := CI_T h
  rw [fC_below]
  try simp only [e0, e3]
  exact W_bdQ (tC_named e0 hT ht) (fun c hc => W_g (kdT hT) (W_bdP (tT_countBelow ht hT hc) (fun _ _ => WQ_i trivial))) (fun _ he => WQ_e (by subst he; simp))
theorem tC_nextTestament (h : CInv g) : WQ (fun _ => True) (fun e => e = 2) (fC_nextTestament g 0 v) := by
  obtain ⟨T, hT, e0, ht, e3, e5⟩ := CI_T h
  rw [fC_nextTestament]
  try simp only [e0, e3]
  repeat' first | exact WQ_i trivial | exact WQ_e rfl | exact WQ_e (Or.inr rfl) | exact WP_i trivial | exact nx _ | exact nx _ _ | refine W_bdQ (tC_named e0 hT ht) (fun _ _ => ?_) (fun _ he => WQ_e (by subst he; simp)) | refine W_bdP (WP_m (tT_zombieBehind ht hT) zb_) (fun _ hz => W_bdP (tC_numberOf hT hz) (fun _ _ => ?_)) | refine W_bdP (tC_numberOf hT (sup_a ht (by assumption))) (fun _ _ => ?_) | refine W_g (Pa_kd hT (by assumption)) ?_ | refine W_g (kdT hT) ?_ | refine W_g kd_133 ?_ | refine W_ite (fun _ => ?_) (fun _ => ?_)
theorem tC_testamentsBelow (h : CInv g) : WQ (fun _ => True) (fun e => e = 2) (fC_testamentsBelow g 0 v) := by
  obtain ⟨T, hT, e0, ht, e3, e5⟩ := CI_T h
  rw [fC_testamentsBelow]
  try simp only [e0, e3]
  exact W_bdQ (tC_named e0 hT ht) (fun c hc => W_g (kdT hT) (W_bdP (tT_countBelow ht hT hc) (fun _ _ => WQ_i trivial))) (fun _ he => WQ_e (by subst he; simp))
theorem tC_adopter (h : CInv g) : WQ (fun _ => True) (fun e => e = 2 ∨ e = 1) (fC_adopter g 0 v) := by
  obtain ⟨T, hT, e0, ht, e3, e5⟩ := CI_T h
  rw [fC_adopter]
  try simp only [e0, e3]
  repeat' first | exact WQ_i trivial | exact WQ_e rfl | exact WQ_e (Or.inr rfl) | exact WP_i trivial | exact nx _ | exact nx _ _ | refine W_bdQ (tC_named e0 hT ht) (fun _ _ => ?_) (fun _ he => WQ_e (by subst he; simp)) | refine W_bdQ tC_checkState (fun _ _ => ?_) (fun _ he => WQ_e (by subst he; simp)) | refine W_bdP tP_isMortal (fun _ _ => ?_) | refine W_bdP (tT_adopterOf1 ht hT (by assumption)) (fun _ _ => ?_) | refine W_g (Pa_kd hT (by assumption)) ?_ | refine W_g (kdT hT) ?_ | refine W_g kd_133 ?_ | refine W_ite (fun _ => ?_) (fun _ => ?_)
theorem tC_heirNow (h : CInv g) : WQ (fun _ => True) (fun e => e = 2 ∨ e = 1) (fC_heirNow g 0 v) := by
  obtain ⟨T, hT, e0, ht, e3, e5⟩ := CI_T h
  rw [fC_heirNow]
  try simp only [e0, e3]
  repeat' first | exact WQ_i trivial | exact WQ_e rfl | exact WQ_e (Or.inr rfl) | exact WP_i trivial | exact nx _ | exact nx _ _ | refine W_bdQ (tC_named e0 hT ht) (fun _ _ => ?_) (fun _ he => WQ_e (by subst he; simp)) | refine W_bdQ tC_checkState (fun _ _ => ?_) (fun _ he => WQ_e (by subst he; simp)) | refine W_bdP tP_isMortal (fun _ _ => ?_) | refine W_bdP (tT_heirOf ht hT (by assumption)) (fun _ _ => ?_) | refine W_g (Pa_kd hT (by assumption)) ?_ | refine W_g (kdT hT) ?_ | refine W_g kd_133 ?_ | refine W_ite (fun _ => ?_) (fun _ => ?_)
theorem tC_apart (h : CInv g) : WQ (fun _ => True) (fun e => e = 2 ∨ e = 1) (fC_apart g 0 v w) := by
  obtain ⟨T, hT, e0, ht, e3, e5⟩ := CI_T h
  rw [fC_apart]
  simp only [jC_apart_34, jC_apart_35]
  try simp only [e0, e3]
  repeat' first | exact WQ_i trivial | exact WQ_e rfl | exact WQ_e (Or.inr rfl) | exact WP_i trivial | exact nx _ | exact nx _ _ | refine W_bdQ (tC_named e0 hT ht) (fun _ _ => ?_) (fun _ he => WQ_e (by subst he; simp)) | refine W_bdQ tC_checkState (fun _ _ => ?_) (fun _ he => WQ_e (by subst he; simp)) | refine W_bdP (tP_countAbove ht hT (by assumption)) (fun _ _ => ?_) | refine W_bdP (tT_lowestOver ht hT (by assumption) (by assumption)) (fun _ _ => ?_) | refine W_g (Pa_kd hT (by assumption)) ?_ | refine W_g (kdT hT) ?_ | refine W_g kd_133 ?_ | refine W_ite (fun _ => ?_) (fun _ => ?_)
theorem tC_roomiest (h : CInv g) : WQ (fun _ => True) (fun e => e = 0) (fC_roomiest g 0 w) := by
  obtain ⟨T, hT, e0, ht, e3, e5⟩ := CI_T h
  have hs := ht.1
  have hf := fu_ge
  rw [fC_roomiest]
  simp only [e0, e3, kdT hT, TS_1 hs, kdT2 hT, szT2 hT, if_true]
  refine W_bdQ tC_checkRange (fun _ _ => ?_) (fun _ he => WQ_e (by subst he; simp))
  refine W_loop (W := WQ (fun _ => True) (fun e => e = 0)) (fun n (a : Int × Int × Int) => lC_roomiest_27 g w (T + 2) 40 n a.1 a.2.1 a.2.2) (fun a => (40 - a.2.2).toNat) (fun a => (0 ≤ a.2.2 ∧ a.2.2 ≤ 40) ∧ True) ?_ fu (-1, 0, 0) ⟨⟨by show (0 : Int) ≤ 0; omega, by show (0 : Int) ≤ 40; omega⟩, trivial⟩ (by show (40 - (0 : Int)).toNat < fu; omega)
  rintro n ⟨x, y, i⟩ hI ih
  have i0 : 0 ≤ i := hI.1.1
  show WQ (fun _ => True) (fun e => e = 0) (bC_roomiest_27 g w (T + 2) 40 (lC_roomiest_27 g w (T + 2) 40 n) x y i)
  rw [bC_roomiest_27]
  refine W_ite (fun hi => ?_) (fun _ => ?_)
  case' refine_2 => exact WQ_i trivial
  have hi : 0 ≤ i ∧ i < 40 := ⟨i0, hi⟩
  have pa : Pa T (pc T i) := ⟨i, hi, rfl⟩
  have nx : ∀ x' y', WQ (fun _ => True) (fun e => e = 0) (lC_roomiest_27 g w (T + 2) 40 n x' y' (w32 (i + 1))) := fun x' y' => by rw [w32_r (by omega)]; exact ih (x', y', i + 1) ⟨by dsimp only; omega, trivial⟩ (by dsimp only; omega)
  simp only [e0, kdT hT, TS_p hs hi, TS_n hs hi, kdp hT hi, kdT2 hT, szT2 hT, hi.1, hi.2, if_true, true_and, and_self]
  repeat' first | exact WQ_i trivial | exact WQ_e rfl | exact WQ_e (Or.inr rfl) | exact WP_i trivial | exact nx _ | exact nx _ _ | refine W_bdQ tC_checkRange (fun _ _ => ?_) (fun _ he => WQ_e (by subst he; simp)) | refine W_bdP tP_room (fun _ _ => ?_) | refine W_bdP tP_isMortal (fun _ _ => ?_) | refine W_bdP tP_refuses (fun _ _ => ?_) | refine W_g (Pa_kd hT (by assumption)) ?_ | refine W_g (kdT hT) ?_ | refine W_g kd_133 ?_ | refine W_ite (fun _ => ?_) (fun _ => ?_)
theorem tC_ofGroup (h : CInv g) : WQ (fun _ => True) (fun e => e = 0) (fC_ofGroup g 0 w) := by
  obtain ⟨T, hT, e0, ht, e3, e5⟩ := CI_T h
  have hs := ht.1
  have hf := fu_ge
  rw [fC_ofGroup]
  simp only [e0, e3, kdT hT, TS_1 hs, kdT2 hT, szT2 hT, if_true]
  refine W_bdQ tC_checkRange (fun _ _ => ?_) (fun _ he => WQ_e (by subst he; simp))
  refine W_loop (W := WQ (fun _ => True) (fun e => e = 0)) (fun n (a : Int × Int) => lC_ofGroup_23 g w (T + 2) 40 n a.1 a.2) (fun a => (40 - a.2).toNat) (fun a => (0 ≤ a.2 ∧ a.2 ≤ 40) ∧ True) ?_ fu (0, 0) ⟨⟨by show (0 : Int) ≤ 0; omega, by show (0 : Int) ≤ 40; omega⟩, trivial⟩ (by show (40 - (0 : Int)).toNat < fu; omega)
  rintro n ⟨x, i⟩ hI ih
  have i0 : 0 ≤ i := hI.1.1
  show WQ (fun _ => True) (fun e => e = 0) (bC_ofGroup_23 g w (T + 2) 40 (lC_ofGroup_23 g w (T + 2) 40 n) x i)
  rw [bC_ofGroup_23]
  refine W_ite (fun hi => ?_) (fun _ => ?_)
  case' refine_2 => exact WQ_i trivial
  have hi : 0 ≤ i ∧ i < 40 := ⟨i0, hi⟩
  have pa : Pa T (pc T i) := ⟨i, hi, rfl⟩
  have nx : ∀ x', WQ (fun _ => True) (fun e => e = 0) (lC_ofGroup_23 g w (T + 2) 40 n x' (w32 (i + 1))) := fun x' => by rw [w32_r (by omega)]; exact ih (x', i + 1) ⟨by dsimp only; omega, trivial⟩ (by dsimp only; omega)
  simp only [e0, kdT hT, TS_p hs hi, TS_n hs hi, kdp hT hi, kdT2 hT, szT2 hT, hi.1, hi.2, if_true, true_and, and_self]
  repeat' first | exact WQ_i trivial | exact WQ_e rfl | exact WQ_e (Or.inr rfl) | exact WP_i trivial | exact nx _ | exact nx _ _ | refine W_bdQ tC_checkRange (fun _ _ => ?_) (fun _ he => WQ_e (by subst he; simp)) | refine W_bdP tP_isRunning (fun _ _ => ?_) | refine W_g (Pa_kd hT (by assumption)) ?_ | refine W_g (kdT hT) ?_ | refine W_g kd_133 ?_ | refine W_ite (fun _ => ?_) (fun _ => ?_)
theorem tC_exited (h : CInv g) : WQ (fun _ => True) (fun e => e = 3) (fC_exited g 0 w) := by
  obtain ⟨T, hT, e0, ht, e3, e5⟩ := CI_T h
  have hs := ht.1
  have hf := fu_ge
  rw [fC_exited]
  simp only [e0, e3, kdT hT, TS_1 hs, kdT2 hT, szT2 hT, if_true]
  refine W_loop (W := WQ (fun _ => True) (fun e => e = 3)) (fun n (a : Int × Int) => lC_exited_17 g w (T + 2) 40 n a.1 a.2) (fun a => (40 - a.2).toNat) (fun a => (0 ≤ a.2 ∧ a.2 ≤ 40) ∧ (a.1 = -1 ∨ Pa T a.1)) ?_ fu (-1, 0) ⟨⟨by show (0 : Int) ≤ 0; omega, by show (0 : Int) ≤ 40; omega⟩, Or.inl rfl⟩ (by show (40 - (0 : Int)).toNat < fu; omega)
  rintro n ⟨x, i⟩ hI ih
  have i0 : 0 ≤ i := hI.1.1
  have hv : (x = -1 ∨ Pa T x) := hI.2
  show WQ (fun _ => True) (fun e => e = 3) (bC_exited_17 g w (T + 2) 40 (lC_exited_17 g w (T + 2) 40 n) x i)
  rw [bC_exited_17]
  refine W_ite (fun hi => ?_) (fun _ => ?_)
  case' refine_2 => (rw [jC_exited_56]; exact ex_ hT hv)
  have hi : 0 ≤ i ∧ i < 40 := ⟨i0, hi⟩
  have pa : Pa T (pc T i) := ⟨i, hi, rfl⟩
  have nx : ∀ x', (x' = -1 ∨ Pa T x') → WQ (fun _ => True) (fun e => e = 3) (lC_exited_17 g w (T + 2) 40 n x' (w32 (i + 1))) := fun x' hv' => by rw [w32_r (by omega)]; exact ih (x', i + 1) ⟨by dsimp only; omega, hv'⟩ (by dsimp only; omega)
  simp only [e0, kdT hT, TS_p hs hi, TS_n hs hi, kdp hT hi, kdT2 hT, szT2 hT, hi.1, hi.2, if_true, true_and, and_self]
  exact W_bdP tP_hasExited (fun _ _ => W_ite (fun _ => nx x hv) (fun _ => W_ite (fun _ => nx _ (Or.inr pa)) (fun _ => nx x hv)))
theorem tC_roomBelow (h : CInv g) : WQ (fun _ => True) (fun e => e = 2) (fC_roomBelow g 0 w) := by
  obtain ⟨T, hT, e0, ht, e3, e5⟩ := CI_T h
  have hs := ht.1
  have hf := fu_ge
  rw [fC_roomBelow]
  simp only [e0, e3, kdT hT, TS_1 hs, kdT2 hT, szT2 hT, if_true]
  refine W_bdQ (tC_named e0 hT ht) (fun c hc => ?_) (fun _ he => WQ_e (by subst he; simp))
  refine W_loop (W := WQ (fun _ => True) (fun e => e = 2)) (fun n (a : Int × Int) => lC_roomBelow_25 g c (T + 2) 40 n a.1 a.2) (fun a => (40 - a.2).toNat) (fun a => (0 ≤ a.2 ∧ a.2 ≤ 40) ∧ True) ?_ fu (0, 0) ⟨⟨by show (0 : Int) ≤ 0; omega, by show (0 : Int) ≤ 40; omega⟩, trivial⟩ (by show (40 - (0 : Int)).toNat < fu; omega)
  rintro n ⟨x, i⟩ hI ih
  have i0 : 0 ≤ i := hI.1.1
  show WQ (fun _ => True) (fun e => e = 2) (bC_roomBelow_25 g c (T + 2) 40 (lC_roomBelow_25 g c (T + 2) 40 n) x i)
  rw [bC_roomBelow_25]
  refine W_ite (fun hi => ?_) (fun _ => ?_)
  case' refine_2 => exact WQ_i trivial
  have hi : 0 ≤ i ∧ i < 40 := ⟨i0, hi⟩
  have pa : Pa T (pc T i) := ⟨i, hi, rfl⟩
  have nx : ∀ x', WQ (fun _ => True) (fun e => e = 2) (lC_roomBelow_25 g c (T + 2) 40 n x' (w32 (i + 1))) := fun x' => by rw [w32_r (by omega)]; exact ih (x', i + 1) ⟨by dsimp only; omega, trivial⟩ (by dsimp only; omega)
  simp only [e0, kdT hT, TS_p hs hi, TS_n hs hi, kdp hT hi, kdT2 hT, szT2 hT, hi.1, hi.2, if_true, true_and, and_self]
  repeat' first | exact WQ_i trivial | exact WQ_e rfl | exact WQ_e (Or.inr rfl) | exact WP_i trivial | exact nx _ | exact nx _ _ | refine W_bdQ (tC_named e0 hT ht) (fun _ _ => ?_) (fun _ he => WQ_e (by subst he; simp)) | refine W_bdP tP_room (fun _ _ => ?_) | refine W_bdP tP_isRunning (fun _ _ => ?_) | refine W_bdP (tP_isOver ht hT (by assumption) (by assumption)) (fun _ _ => ?_) | refine W_g (Pa_kd hT (by assumption)) ?_ | refine W_g (kdT hT) ?_ | refine W_g kd_133 ?_ | refine W_ite (fun _ => ?_) (fun _ => ?_)
theorem tC_adopters (h : CInv g) : WQ (fun _ => True) (fun e => e = 2 ∨ e = 1) (fC_adopters g 0 w) := by
  obtain ⟨T, hT, e0, ht, e3, e5⟩ := CI_T h
  have hs := ht.1
  have hf := fu_ge
  rw [fC_adopters]
  simp only [e0, e3, kdT hT, TS_1 hs, kdT2 hT, szT2 hT, if_true]
  refine W_bdQ (tC_named e0 hT ht) (fun c hc => ?_) (fun _ he => WQ_e (by subst he; simp))
  refine W_g (Pa_kd hT hc) ?_
  refine W_bdP tP_isMortal (fun _ _ => W_bdQ tC_checkState (fun _ _ => ?_) (fun _ he => WQ_e (by subst he; simp)))
  refine W_loop (W := WQ (fun _ => True) (fun e => e = 2 ∨ e = 1)) (fun n (a : Int × Int) => lC_adopters_32 g 0 c (T + 2) 40 n a.1 a.2) (fun a => (40 - a.2).toNat) (fun a => (0 ≤ a.2 ∧ a.2 ≤ 40) ∧ True) ?_ fu (0, 0) ⟨⟨by show (0 : Int) ≤ 0; omega, by show (0 : Int) ≤ 40; omega⟩, trivial⟩ (by show (40 - (0 : Int)).toNat < fu; omega)
  rintro n ⟨x, i⟩ hI ih
  have i0 : 0 ≤ i := hI.1.1
  show WQ (fun _ => True) (fun e => e = 2 ∨ e = 1) (bC_adopters_32 g 0 c (T + 2) 40 (lC_adopters_32 g 0 c (T + 2) 40 n) x i)
  rw [bC_adopters_32]
  refine W_ite (fun hi => ?_) (fun _ => ?_)
  case' refine_2 => exact WQ_i trivial
  have hi : 0 ≤ i ∧ i < 40 := ⟨i0, hi⟩
  have pa : Pa T (pc T i) := ⟨i, hi, rfl⟩
  have nx : ∀ x', WQ (fun _ => True) (fun e => e = 2 ∨ e = 1) (lC_adopters_32 g 0 c (T + 2) 40 n x' (w32 (i + 1))) := fun x' => by rw [w32_r (by omega)]; exact ih (x', i + 1) ⟨by dsimp only; omega, trivial⟩ (by dsimp only; omega)
  simp only [e0, kdT hT, TS_p hs hi, TS_n hs hi, kdp hT hi, kdT2 hT, szT2 hT, hi.1, hi.2, if_true, true_and, and_self]
  repeat' first | exact WQ_i trivial | exact WQ_e rfl | exact WQ_e (Or.inr rfl) | exact WP_i trivial | exact nx _ | exact nx _ _ | refine W_bdQ (tC_named e0 hT ht) (fun _ _ => ?_) (fun _ he => WQ_e (by subst he; simp)) | refine W_bdQ tC_checkState (fun _ _ => ?_) (fun _ he => WQ_e (by subst he; simp)) | refine W_bdP tP_isMortal (fun _ _ => ?_) | refine W_bdP (tT_canAdopt1 ht hT (by assumption) (by assumption)) (fun _ _ => ?_) | refine W_g (Pa_kd hT (by assumption)) ?_ | refine W_g (kdT hT) ?_ | refine W_g kd_133 ?_ | refine W_ite (fun _ => ?_) (fun _ => ?_)
theorem tC_heaviest (h : CInv g) : WQ (fun _ => True) (fun e => e = 2) (fC_heaviest g 0 w) := by
  obtain ⟨T, hT, e0, ht, e3, e5⟩ := CI_T h
  have hs := ht.1
  have hf := fu_ge
  rw [fC_heaviest]
  simp only [e0, e3, kdT hT, TS_1 hs, kdT2 hT, szT2 hT, if_true]
  refine W_bdQ (tC_named e0 hT ht) (fun c hc => ?_) (fun _ he => WQ_e (by subst he; simp))
  refine W_loop (W := WQ (fun _ => True) (fun e => e = 2)) (fun n (a : Int × Int × Int) => lC_heaviest_28 g 0 c (T + 2) 40 n a.1 a.2.1 a.2.2) (fun a => (40 - a.2.2).toNat) (fun a => (0 ≤ a.2.2 ∧ a.2.2 ≤ 40) ∧ True) ?_ fu (-1, -1, 0) ⟨⟨by show (0 : Int) ≤ 0; omega, by show (0 : Int) ≤ 40; omega⟩, trivial⟩ (by show (40 - (0 : Int)).toNat < fu; omega)
  rintro n ⟨x, y, i⟩ hI ih
  have i0 : 0 ≤ i := hI.1.1
  show WQ (fun _ => True) (fun e => e = 2) (bC_heaviest_28 g 0 c (T + 2) 40 (lC_heaviest_28 g 0 c (T + 2) 40 n) x y i)
  rw [bC_heaviest_28]
  refine W_ite (fun hi => ?_) (fun _ => ?_)
  case' refine_2 => exact WQ_i trivial
  have hi : 0 ≤ i ∧ i < 40 := ⟨i0, hi⟩
  have pa : Pa T (pc T i) := ⟨i, hi, rfl⟩
  have nx : ∀ x' y', WQ (fun _ => True) (fun e => e = 2) (lC_heaviest_28 g 0 c (T + 2) 40 n x' y' (w32 (i + 1))) := fun x' y' => by rw [w32_r (by omega)]; exact ih (x', y', i + 1) ⟨by dsimp only; omega, trivial⟩ (by dsimp only; omega)
  simp only [e0, kdT hT, TS_p hs hi, TS_n hs hi, kdp hT hi, kdT2 hT, szT2 hT, hi.1, hi.2, if_true, true_and, and_self]
  have j65 : ∀ s, WQ (fun _ => True) (fun e => e = 2) (jC_heaviest_65 (lC_heaviest_28 g 0 c (T + 2) 40 n) g 0 c x y (T + 2) 40 i (pc T i) s) := by
    intro s
    rw [jC_heaviest_65]
    exact W_ite (fun _ => W_g (kdp hT hi) (nx _ _)) (fun _ => nx _ _)
  exact W_bdP tP_isRunningChildOf (fun _ _ => W_ite (fun _ => j65 _) (fun _ => W_bdP (tT_countBelow ht hT pa) (fun _ _ => j65 _)))
theorem tC_groupsBelow (h : CInv g) : WQ (fun _ => True) (fun e => e = 2) (fC_groupsBelow g 0 w) := by
  obtain ⟨T, hT, e0, ht, e3, e5⟩ := CI_T h
  have hs := ht.1
  have hf := fu_ge
  rw [fC_groupsBelow]
  simp only [e0, e3, kdT hT, TS_1 hs, kdT2 hT, szT2 hT, if_true]
  refine W_bdQ (tC_named e0 hT ht) (fun c hc => ?_) (fun _ he => WQ_e (by subst he; simp))
  refine W_loop (W := WQ (fun _ => True) (fun e => e = 2)) (fun n (a : Int × Int) => lC_groupsBelow_25 g c (T + 2) 40 n a.1 a.2) (fun a => (40 - a.2).toNat) (fun a => (0 ≤ a.2 ∧ a.2 ≤ 40) ∧ True) ?_ fu (0, 0) ⟨⟨by show (0 : Int) ≤ 0; omega, by show (0 : Int) ≤ 40; omega⟩, trivial⟩ (by show (40 - (0 : Int)).toNat < fu; omega)
  rintro n ⟨x, i⟩ hI ih
  have i0 : 0 ≤ i := hI.1.1
  show WQ (fun _ => True) (fun e => e = 2) (bC_groupsBelow_25 g c (T + 2) 40 (lC_groupsBelow_25 g c (T + 2) 40 n) x i)
  rw [bC_groupsBelow_25]
  refine W_ite (fun hi => ?_) (fun _ => ?_)
  case' refine_2 => exact WQ_i trivial
  have hi : 0 ≤ i ∧ i < 40 := ⟨i0, hi⟩
  have pa : Pa T (pc T i) := ⟨i, hi, rfl⟩
  have nx : ∀ x', WQ (fun _ => True) (fun e => e = 2) (lC_groupsBelow_25 g c (T + 2) 40 n x' (w32 (i + 1))) := fun x' => by rw [w32_r (by omega)]; exact ih (x', i + 1) ⟨by dsimp only; omega, trivial⟩ (by dsimp only; omega)
  simp only [e0, kdT hT, TS_p hs hi, TS_n hs hi, kdp hT hi, kdT2 hT, szT2 hT, hi.1, hi.2, if_true, true_and, and_self]
  repeat' first | exact WQ_i trivial | exact WQ_e rfl | exact WQ_e (Or.inr rfl) | exact WP_i trivial | exact nx _ | exact nx _ _ | refine W_bdQ (tC_named e0 hT ht) (fun _ _ => ?_) (fun _ he => WQ_e (by subst he; simp)) | refine W_bdP tP_isRunning (fun _ _ => ?_) | refine W_bdP (tP_isOver ht hT (by assumption) (by assumption)) (fun _ _ => ?_) | refine W_g (Pa_kd hT (by assumption)) ?_ | refine W_g (kdT hT) ?_ | refine W_g kd_133 ?_ | refine W_ite (fun _ => ?_) (fun _ => ?_)
theorem tC_strangers (h : CInv g) : WQ (fun _ => True) (fun e => e = 2) (fC_strangers g 0 w) := by
  obtain ⟨T, hT, e0, ht, e3, e5⟩ := CI_T h
  have hs := ht.1
  have hf := fu_ge
  rw [fC_strangers]
  simp only [e0, e3, kdT hT, TS_1 hs, kdT2 hT, szT2 hT, if_true]
  refine W_bdQ (tC_named e0 hT ht) (fun c hc => ?_) (fun _ he => WQ_e (by subst he; simp))
  refine W_loop (W := WQ (fun _ => True) (fun e => e = 2)) (fun n (a : Int × Int) => lC_strangers_25 g c (T + 2) 40 n a.1 a.2) (fun a => (40 - a.2).toNat) (fun a => (0 ≤ a.2 ∧ a.2 ≤ 40) ∧ True) ?_ fu (0, 0) ⟨⟨by show (0 : Int) ≤ 0; omega, by show (0 : Int) ≤ 40; omega⟩, trivial⟩ (by show (40 - (0 : Int)).toNat < fu; omega)
  rintro n ⟨x, i⟩ hI ih
  have i0 : 0 ≤ i := hI.1.1
  show WQ (fun _ => True) (fun e => e = 2) (bC_strangers_25 g c (T + 2) 40 (lC_strangers_25 g c (T + 2) 40 n) x i)
  rw [bC_strangers_25]
  refine W_ite (fun hi => ?_) (fun _ => ?_)
  case' refine_2 => exact WQ_i trivial
  have hi : 0 ≤ i ∧ i < 40 := ⟨i0, hi⟩
  have pa : Pa T (pc T i) := ⟨i, hi, rfl⟩
  have nx : ∀ x', WQ (fun _ => True) (fun e => e = 2) (lC_strangers_25 g c (T + 2) 40 n x' (w32 (i + 1))) := fun x' => by rw [w32_r (by omega)]; exact ih (x', i + 1) ⟨by dsimp only; omega, trivial⟩ (by dsimp only; omega)
  simp only [e0, kdT hT, TS_p hs hi, TS_n hs hi, kdp hT hi, kdT2 hT, szT2 hT, hi.1, hi.2, if_true, true_and, and_self]
  repeat' first | exact WQ_i trivial | exact WQ_e rfl | exact WQ_e (Or.inr rfl) | exact WP_i trivial | exact nx _ | exact nx _ _ | refine W_bdQ (tC_named e0 hT ht) (fun _ _ => ?_) (fun _ he => WQ_e (by subst he; simp)) | refine W_bdP tP_isRunningChildOf (fun _ _ => ?_) | refine W_g (Pa_kd hT (by assumption)) ?_ | refine W_g (kdT hT) ?_ | refine W_g kd_133 ?_ | refine W_ite (fun _ => ?_) (fun _ => ?_)
theorem tC_walked (h : CInv g) : WQ (fun _ => True) (fun e => e = 3) (fC_walked g 0 v) := by
  obtain ⟨T, hT, e0, ht, e3, e5⟩ := CI_T h
  have hf := fu_ge
  have lw : ∀ c, (c = -1 ∨ Pa T c) → v < 40 ∨ c = -1 → WQ (fun _ => True) (fun e => e = 3) (lC_walked_24 g 0 v fu c 0) := by
    intro c hc hv
    refine W_loop (W := WQ (fun _ => True) (fun e => e = 3)) (fun n (a : Int × Int) => lC_walked_24 g 0 v n a.1 a.2) (fun a => (41 - a.2).toNat) (fun a => (0 ≤ a.2 ∧ (a.2 ≤ 40)) ∧ (a.1 = -1 ∨ Pa T a.1) ∧ (v < 40 ∨ a.1 = -1)) ?_ fu (c, 0) ⟨by dsimp only; omega, hc, hv⟩ (by dsimp only; omega)
    rintro n ⟨x, i⟩ hI ih
    have i0 : 0 ≤ i := hI.1.1
    have i1 : i ≤ 40 := hI.1.2
    have hx : x = -1 ∨ Pa T x := hI.2.1
    have hv : v < 40 ∨ x = -1 := hI.2.2
    show WQ _ _ (bC_walked_24 g 0 v (lC_walked_24 g 0 v n) x i)
    rw [bC_walked_24, e0, if_pos (kdT hT), jC_walked_48]
    refine W_ite (fun hi => W_ite (fun _ => ex_ hT hx) (fun hn => ?_)) (fun _ => ex_ hT hx)
    have px : Pa T x := by
      rcases hx with e | e
      · exact absurd (by omega) hn
      · exact e
    have hv : v < 40 := by
      rcases hv with e | e
      · exact e
      · exact absurd (by omega) hn
    refine W_bdP (tT_nextOfWalk ht hT px) (fun y hy => ?_)
    rw [w32_r (by omega)]
    exact ih (y, i + 1) ⟨by dsimp only; omega, hy, Or.inl hv⟩ (by dsimp only; omega)
  rw [fC_walked, e0, if_pos (kdT hT), TS_0 ht.1]
  exact W_ite (fun _ => lw _ (Or.inl rfl) (Or.inr rfl)) (fun _ => W_ite (fun h4 => lw _ (Or.inr (Pn_a ht (Pn_0 ht))) (Or.inl h4)) (fun _ => lw _ (Or.inl rfl) (Or.inr rfl)))
end CLS11

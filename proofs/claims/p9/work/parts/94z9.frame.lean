/-! ===== the reference's questions leave all but the mark of a throw (own work, by program: wip/p7/gen_q8.py) ===== -/
section PAR36
variable {g0 : gH}
/-- all but the mark is as it was -/
def E8 (g0 g : gH) : Prop := (∀ x, ¬ x = 624 → g x = g0 x) ∧ ∀ k, ¬ k = 8 → g 624 k = g0 624 k
theorem E8_r : E8 g0 g0 := ⟨fun _ _ => rfl, fun _ _ => rfl⟩
/-- so far as it ends -/
def Q8 (g0 : gH) (X : Option (Int × gH)) : Prop := ∀ w H, X = some (w, H) → E8 g0 H
theorem Q8_n : Q8 g0 none := fun _ _ e => by cases e
theorem Q8_i {g : gH} {v : Int} (h : E8 g0 g) : Q8 g0 (some (v, g)) := fun _ _ e => by cases e; exact h
theorem Q8_ite {c : Prop} [Decidable c] {A B : Option (Int × gH)} (h1 : Q8 g0 A) (h2 : Q8 g0 B) : Q8 g0 (if c then A else B) := by
  split
  · exact h1
  · exact h2
theorem Q8_bdP {X : Option Int} {k : Int → Option (Int × gH)} (h : ∀ v, Q8 g0 (k v)) : Q8 g0 (bdP X k) := by
  cases X with
  | none => exact Q8_n
  | some v => exact h v
theorem Q8_bdN {X : Option (Int × gH)} {k : Int → gH → Option (Int × gH)} (hX : Q8 g0 X) (h : ∀ v g, E8 g0 g → Q8 g0 (k v g)) : Q8 g0 (bdN X k) := by
  cases X with
  | none => exact Q8_n
  | some z => exact h z.1 z.2 (hX z.1 z.2 rfl)
theorem Q8_bnd8 {g : gH} {v : Int} {k : gH → Option (Int × gH)} (h : E8 g0 g) (hk : ∀ g', E8 g0 g' → Q8 g0 (k g')) : Q8 g0 (bnd (pU g 624 8 v) k) := by
  rw [bnd_s]
  exact hk _ ⟨fun x hx => (pU_n hx).trans (h.1 x hx), fun y hy => (pU_y hy).trans (h.2 y hy)⟩
theorem q8_fM_fails {g : gH} {v1 : Int} {v2 : Int} (h : E8 g0 g) : Q8 g0 (fM_fails g 624 v1 v2) := by
  rw [fM_fails]
  exact (Q8_ite (Q8_i h) (Q8_bnd8 h (fun _ h1 => (Q8_i h1))))
theorem q8_jM_count_21 {g : gH} {v1 : Int} {s1 : Int} (h : E8 g0 g) : Q8 g0 (jM_count_21 g 624 v1 624 s1) := by
  rw [jM_count_21]
  exact (Q8_ite (Q8_bdN (q8_fM_fails h) (fun _ _ h2 => (Q8_ite (Q8_ite (Q8_ite (Q8_i h2) Q8_n) (Q8_ite (Q8_bdP (fun _ => (Q8_i h2))) (Q8_ite (Q8_bdP (fun _ => (Q8_i h2))) (Q8_ite (Q8_bdP (fun _ => (Q8_i h2))) (Q8_ite (Q8_ite (Q8_i h2) Q8_n) (Q8_ite (Q8_ite (Q8_i h2) Q8_n) (Q8_ite (Q8_ite (Q8_i h2) Q8_n) (Q8_ite (Q8_ite (Q8_i h2) Q8_n) (Q8_ite (Q8_bdP (fun _ => (Q8_bdP (fun _ => (Q8_i h2))))) (Q8_ite (Q8_i h2) (Q8_ite (Q8_ite (Q8_i h2) Q8_n) (Q8_ite (Q8_i h2) Q8_n)))))))))))) (Q8_i h2)))) Q8_n)
theorem q8_fM_count {g : gH} {v1 : Int} (h : E8 g0 g) : Q8 g0 (fM_count g 624 v1) := by
  rw [fM_count]
  exact (Q8_bnd8 h (fun _ h3 => (Q8_bdP (fun _ => (Q8_ite (q8_jM_count_21 h3) (q8_jM_count_21 h3))))))
theorem q8_fM_noProcess {g : gH} {v1 : Int} (h : E8 g0 g) : Q8 g0 (fM_noProcess g 624 v1) := by
  rw [fM_noProcess]
  exact (Q8_bnd8 h (fun _ h4 => (Q8_ite (Q8_bdP (fun _ => (Q8_ite (Q8_bdN (q8_fM_fails h4) (fun _ _ h5 => (Q8_i h5))) (Q8_bdN (q8_fM_fails h4) (fun _ _ h6 => (Q8_i h6)))))) Q8_n)))
theorem q8_jM_process_24 {g : gH} {v1 : Int} {v2 : Int} {s1 : Int} (h : E8 g0 g) : Q8 g0 (jM_process_24 g 624 v1 v2 624 s1) := by
  rw [jM_process_24]
  exact (Q8_ite (Q8_bdN (q8_fM_fails h) (fun _ _ h7 => (Q8_ite (Q8_ite (Q8_ite (Q8_i h7) Q8_n) (Q8_ite (Q8_ite (Q8_i h7) Q8_n) (Q8_ite (Q8_bdP (fun _ => (Q8_i h7))) (Q8_ite (Q8_bdP (fun _ => (Q8_i h7))) (Q8_ite (Q8_bdP (fun _ => (Q8_i h7))) (Q8_ite (Q8_ite (Q8_i h7) Q8_n) (Q8_ite (Q8_ite (Q8_i h7) Q8_n) (Q8_ite (Q8_ite (Q8_i h7) Q8_n) (Q8_ite (Q8_ite (Q8_i h7) Q8_n) (Q8_ite (Q8_bdP (fun _ => (Q8_i h7))) (Q8_ite (Q8_ite (Q8_i h7) Q8_n) (Q8_ite (Q8_ite (Q8_i h7) Q8_n) (Q8_ite (Q8_ite (Q8_i h7) Q8_n) (Q8_ite (Q8_ite (Q8_i h7) Q8_n) (Q8_bdP (fun _ => (Q8_i h7))))))))))))))))) (Q8_i h7)))) Q8_n)
theorem q8_fM_process {g : gH} {v1 : Int} {v2 : Int} (h : E8 g0 g) : Q8 g0 (fM_process g 624 v1 v2) := by
  rw [fM_process]
  exact (Q8_bdN (q8_fM_noProcess h) (fun _ _ h8 => (Q8_ite (Q8_bdP (fun _ => (Q8_ite (q8_jM_process_24 h8) (q8_jM_process_24 h8)))) (Q8_i h8))))
theorem q8_fM_noDuty {g : gH} {v1 : Int} {v2 : Int} (h : E8 g0 g) : Q8 g0 (fM_noDuty g 624 v1 v2) := by
  rw [fM_noDuty]
  exact (Q8_bdP (fun _ => (Q8_ite (Q8_bdN (q8_fM_fails h) (fun _ _ h9 => (Q8_i h9))) (Q8_bdN (q8_fM_fails h) (fun _ _ h10 => (Q8_i h10))))))
theorem q8_fM_holder {g : gH} {v1 : Int} (h : E8 g0 g) : Q8 g0 (fM_holder g 624 v1) := by
  rw [fM_holder]
  exact (Q8_bnd8 h (fun _ h11 => (Q8_bdN (q8_fM_noDuty h11) (fun _ _ h12 => (Q8_ite (Q8_ite (Q8_i h12) Q8_n) (Q8_i h12))))))
theorem q8_fM_rule {g : gH} {v1 : Int} (h : E8 g0 g) : Q8 g0 (fM_rule g 624 v1) := by
  rw [fM_rule]
  exact (Q8_bnd8 h (fun _ h13 => (Q8_ite (Q8_bdP (fun _ => (Q8_ite (Q8_i h13) (Q8_ite (Q8_i h13) Q8_n)))) Q8_n)))
theorem q8_fM_depth {g : gH} {v1 : Int} (h : E8 g0 g) : Q8 g0 (fM_depth g 624 v1) := by
  rw [fM_depth]
  exact (Q8_bdN (q8_fM_noProcess h) (fun _ _ h14 => (Q8_ite (Q8_bdP (fun _ => (Q8_bdN (q8_fM_fails h14) (fun _ _ h15 => (Q8_ite (Q8_bdP (fun _ => (Q8_i h15))) (Q8_i h15)))))) (Q8_i h14))))
theorem q8_fM_isAbove {g : gH} {v1 : Int} {v2 : Int} (h : E8 g0 g) : Q8 g0 (fM_isAbove g 624 v1 v2) := by
  rw [fM_isAbove]
  exact (Q8_bdN (q8_fM_noProcess h) (fun _ _ h16 => (Q8_ite (Q8_bdN (q8_fM_noProcess h16) (fun _ _ h17 => (Q8_ite (Q8_bdP (fun _ => (Q8_ite (Q8_bdP (fun _ => (Q8_ite (Q8_ite (Q8_i h17) (Q8_bdP (fun _ => (Q8_ite (Q8_i h17) (Q8_i h17))))) (Q8_i h17)))) (Q8_i h17)))) (Q8_i h17)))) (Q8_i h16))))
theorem q8_jM_anyGone_38 {g : gH} {s1 : Int} (h : E8 g0 g) : Q8 g0 (jM_anyGone_38 g 624 s1) := by
  rw [jM_anyGone_38]
  exact (Q8_ite (Q8_bdN (q8_fM_fails h) (fun _ _ h18 => (Q8_ite (Q8_i h18) (Q8_i h18)))) Q8_n)
theorem q8_jM_anyGone_33 {g : gH} (h : E8 g0 g) : Q8 g0 (jM_anyGone_33 g 624) := by
  rw [jM_anyGone_33]
  exact (q8_jM_anyGone_38 h)
theorem q8_fM_anyGone {g : gH} {v1 : Int} {v2 : Int} (h : E8 g0 g) : Q8 g0 (fM_anyGone g 624 v1 v2) := by
  rw [fM_anyGone]
  exact (Q8_bdN (q8_fM_noProcess h) (fun _ _ h19 => (Q8_ite (Q8_bdN (q8_fM_noProcess h19) (fun _ _ h20 => (Q8_ite (Q8_bdP (fun _ => (Q8_ite (Q8_bdP (fun _ => (Q8_ite (q8_jM_anyGone_38 h20) (q8_jM_anyGone_33 h20)))) (q8_jM_anyGone_33 h20)))) (Q8_i h20)))) (Q8_i h19))))
theorem q8_fM_meet {g : gH} {v1 : Int} {v2 : Int} (h : E8 g0 g) : Q8 g0 (fM_meet g 624 v1 v2) := by
  rw [fM_meet]
  exact (Q8_bdN (q8_fM_anyGone h) (fun _ _ h21 => (Q8_ite (Q8_bdP (fun _ => (Q8_i h21))) (Q8_i h21))))
theorem q8_fM_below {g : gH} {v1 : Int} (h : E8 g0 g) : Q8 g0 (fM_below g 624 v1) := by
  rw [fM_below]
  exact (Q8_bdN (q8_fM_noProcess h) (fun _ _ h22 => (Q8_ite (Q8_bdP (fun _ => (Q8_ite (Q8_i h22) (Q8_bdP (fun _ => (Q8_i h22)))))) (Q8_i h22))))
theorem q8_lM_walked_38_ (g : gH) (v1 : Int) (h : E8 g0 g) : ∀ (n : Nat) (s0 : Int) (s1 : Int), Q8 g0 (lM_walked_38 g 624 v1 n s0 s1) := by
  intro n
  induction n with
  | zero => intros; exact Q8_n
  | succ n ih =>
    intro s0 s1
    show Q8 g0 (bM_walked_38 g 624 v1 (lM_walked_38 g 624 v1 n) s0 s1)
    rw [bM_walked_38]
    exact (Q8_ite (Q8_bdP (fun _ => (ih _ _))) (Q8_i h))
theorem q8_lM_walked_38 {g : gH} {v1 : Int} {n : Nat} {s0 : Int} {s1 : Int} (h : E8 g0 g) : Q8 g0 (lM_walked_38 g 624 v1 n s0 s1) := q8_lM_walked_38_ g v1 h n s0 s1
theorem q8_jM_walked_25 {g : gH} {v1 : Int} {s1 : Int} (h : E8 g0 g) : Q8 g0 (jM_walked_25 g 624 v1 624 s1) := by
  rw [jM_walked_25]
  exact (Q8_ite (Q8_bdN (q8_fM_fails h) (fun _ _ h23 => (Q8_ite (q8_lM_walked_38 h23) (Q8_i h23)))) Q8_n)
theorem q8_fM_walked {g : gH} {v1 : Int} (h : E8 g0 g) : Q8 g0 (fM_walked g 624 v1) := by
  rw [fM_walked]
  exact (Q8_bnd8 h (fun _ h24 => (Q8_bdP (fun _ => (Q8_bdP (fun _ => (Q8_ite (q8_jM_walked_25 h24) (q8_jM_walked_25 h24))))))))
theorem q8_lM_atDepth_9_ (g : gH) (v1 : Int) (h : E8 g0 g) : ∀ (n : Nat) (s0 : Int) (s1 : Int), Q8 g0 (lM_atDepth_9 g 624 v1 n s0 s1) := by
  intro n
  induction n with
  | zero => intros; exact Q8_n
  | succ n ih =>
    intro s0 s1
    show Q8 g0 (bM_atDepth_9 g 624 v1 (lM_atDepth_9 g 624 v1 n) s0 s1)
    rw [bM_atDepth_9]
    exact (Q8_ite (Q8_ite (Q8_bdP (fun _ => (Q8_ite (ih _ _) (Q8_bdP (fun _ => (Q8_ite (ih _ _) (ih _ _))))))) (Q8_i h)) Q8_n)
theorem q8_lM_atDepth_9 {g : gH} {v1 : Int} {n : Nat} {s0 : Int} {s1 : Int} (h : E8 g0 g) : Q8 g0 (lM_atDepth_9 g 624 v1 n s0 s1) := q8_lM_atDepth_9_ g v1 h n s0 s1
theorem q8_fM_atDepth {g : gH} {v1 : Int} (h : E8 g0 g) : Q8 g0 (fM_atDepth g 624 v1) := by
  rw [fM_atDepth]
  exact (Q8_bnd8 h (fun _ h25 => (q8_lM_atDepth_9 h25)))
theorem q8_fM_height {g : gH} (h : E8 g0 g) : Q8 g0 (fM_height g 624) := by
  rw [fM_height]
  exact (Q8_bnd8 h (fun _ h26 => (Q8_bdP (fun _ => (Q8_i h26)))))
theorem q8_jM_notExiting_26 {g : gH} {v2 : Int} {s1 : Int} (h : E8 g0 g) : Q8 g0 (jM_notExiting_26 g v2 624 s1) := by
  rw [jM_notExiting_26]
  exact (Q8_ite (Q8_bdN (q8_fM_fails h) (fun _ _ h27 => (Q8_ite (Q8_i h27) (Q8_i h27)))) Q8_n)
theorem q8_jM_notExiting_21 {g : gH} {v2 : Int} (h : E8 g0 g) : Q8 g0 (jM_notExiting_21 g v2 624) := by
  rw [jM_notExiting_21]
  exact (q8_jM_notExiting_26 h)
theorem q8_fM_notExiting {g : gH} {v1 : Int} {v2 : Int} (h : E8 g0 g) : Q8 g0 (fM_notExiting g 624 v1 v2) := by
  rw [fM_notExiting]
  exact (Q8_bdN (q8_fM_noProcess h) (fun _ _ h28 => (Q8_ite (Q8_ite (q8_jM_notExiting_21 h28) (Q8_bdP (fun _ => (Q8_ite (q8_jM_notExiting_21 h28) (q8_jM_notExiting_26 h28))))) (Q8_i h28))))
theorem q8_fM_adopter {g : gH} {v1 : Int} (h : E8 g0 g) : Q8 g0 (fM_adopter g 624 v1) := by
  rw [fM_adopter]
  exact (Q8_bdN (q8_fM_notExiting h) (fun _ _ h29 => (Q8_ite (Q8_ite (Q8_bdP (fun _ => (Q8_i h29))) Q8_n) (Q8_i h29))))
theorem q8_fM_heirNow {g : gH} {v1 : Int} (h : E8 g0 g) : Q8 g0 (fM_heirNow g 624 v1) := by
  rw [fM_heirNow]
  exact (Q8_bdN (q8_fM_notExiting h) (fun _ _ h30 => (Q8_ite (Q8_bdP (fun _ => (Q8_i h30))) (Q8_i h30))))
theorem q8_lM_roomiest_31_ (g : gH) (v1 : Int) (h : E8 g0 g) : ∀ (n : Nat) (s0 : Int) (s1 : Int), Q8 g0 (lM_roomiest_31 g 624 v1 n s0 s1) := by
  intro n
  induction n with
  | zero => intros; exact Q8_n
  | succ n ih =>
    intro s0 s1
    show Q8 g0 (bM_roomiest_31 g 624 v1 (lM_roomiest_31 g 624 v1 n) s0 s1)
    rw [bM_roomiest_31]
    exact (Q8_ite (Q8_ite (Q8_bdP (fun _ => (Q8_ite (ih _ _) (Q8_bdP (fun _ => (Q8_ite (Q8_ite (ih _ _) (Q8_bdP (fun _ => (Q8_bdP (fun _ => (Q8_ite (ih _ _) (ih _ _))))))) (ih _ _))))))) (Q8_i h)) Q8_n)
theorem q8_lM_roomiest_31 {g : gH} {v1 : Int} {n : Nat} {s0 : Int} {s1 : Int} (h : E8 g0 g) : Q8 g0 (lM_roomiest_31 g 624 v1 n s0 s1) := q8_lM_roomiest_31_ g v1 h n s0 s1
theorem q8_jM_roomiest_18 {g : gH} {v1 : Int} {s1 : Int} (h : E8 g0 g) : Q8 g0 (jM_roomiest_18 g 624 v1 624 s1) := by
  rw [jM_roomiest_18]
  exact (Q8_ite (Q8_bdN (q8_fM_fails h) (fun _ _ h31 => (Q8_ite (q8_lM_roomiest_31 h31) (Q8_i h31)))) Q8_n)
theorem q8_fM_roomiest {g : gH} {v1 : Int} (h : E8 g0 g) : Q8 g0 (fM_roomiest g 624 v1) := by
  rw [fM_roomiest]
  exact (Q8_bnd8 h (fun _ h32 => (Q8_bdP (fun _ => (Q8_ite (q8_jM_roomiest_18 h32) (q8_jM_roomiest_18 h32))))))
theorem q8_lM_allRoom_9_ (g : gH) (h : E8 g0 g) : ∀ (n : Nat) (s0 : Int) (s1 : Int), Q8 g0 (lM_allRoom_9 g 624 n s0 s1) := by
  intro n
  induction n with
  | zero => intros; exact Q8_n
  | succ n ih =>
    intro s0 s1
    show Q8 g0 (bM_allRoom_9 g 624 (lM_allRoom_9 g 624 n) s0 s1)
    rw [bM_allRoom_9]
    exact (Q8_ite (Q8_ite (Q8_bdP (fun _ => (ih _ _))) (Q8_i h)) Q8_n)
theorem q8_lM_allRoom_9 {g : gH} {n : Nat} {s0 : Int} {s1 : Int} (h : E8 g0 g) : Q8 g0 (lM_allRoom_9 g 624 n s0 s1) := q8_lM_allRoom_9_ g h n s0 s1
theorem q8_fM_allRoom {g : gH} (h : E8 g0 g) : Q8 g0 (fM_allRoom g 624) := by
  rw [fM_allRoom]
  exact (Q8_bnd8 h (fun _ h33 => (q8_lM_allRoom_9 h33)))
theorem q8_lM_overfull_9_ (g : gH) (h : E8 g0 g) : ∀ (n : Nat) (s0 : Int) (s1 : Int), Q8 g0 (lM_overfull_9 g 624 n s0 s1) := by
  intro n
  induction n with
  | zero => intros; exact Q8_n
  | succ n ih =>
    intro s0 s1
    show Q8 g0 (bM_overfull_9 g 624 (lM_overfull_9 g 624 n) s0 s1)
    rw [bM_overfull_9]
    exact (Q8_ite (Q8_ite (Q8_bdP (fun _ => (Q8_ite (ih _ _) (Q8_bdP (fun _ => (Q8_ite (Q8_ite (ih _ _) (ih _ _)) Q8_n)))))) (Q8_i h)) Q8_n)
theorem q8_lM_overfull_9 {g : gH} {n : Nat} {s0 : Int} {s1 : Int} (h : E8 g0 g) : Q8 g0 (lM_overfull_9 g 624 n s0 s1) := q8_lM_overfull_9_ g h n s0 s1
theorem q8_fM_overfull {g : gH} (h : E8 g0 g) : Q8 g0 (fM_overfull g 624) := by
  rw [fM_overfull]
  exact (Q8_bnd8 h (fun _ h34 => (q8_lM_overfull_9 h34)))
theorem q8_lM_ofGroup_31_ (g : gH) (v1 : Int) (h : E8 g0 g) : ∀ (n : Nat) (s0 : Int) (s1 : Int), Q8 g0 (lM_ofGroup_31 g 624 v1 n s0 s1) := by
  intro n
  induction n with
  | zero => intros; exact Q8_n
  | succ n ih =>
    intro s0 s1
    show Q8 g0 (bM_ofGroup_31 g 624 v1 (lM_ofGroup_31 g 624 v1 n) s0 s1)
    rw [bM_ofGroup_31]
    exact (Q8_ite (Q8_ite (Q8_bdP (fun _ => (Q8_ite (ih _ _) (Q8_ite (Q8_ite (ih _ _) (ih _ _)) Q8_n)))) (Q8_i h)) Q8_n)
theorem q8_lM_ofGroup_31 {g : gH} {v1 : Int} {n : Nat} {s0 : Int} {s1 : Int} (h : E8 g0 g) : Q8 g0 (lM_ofGroup_31 g 624 v1 n s0 s1) := q8_lM_ofGroup_31_ g v1 h n s0 s1
theorem q8_jM_ofGroup_18 {g : gH} {v1 : Int} {s1 : Int} (h : E8 g0 g) : Q8 g0 (jM_ofGroup_18 g 624 v1 624 s1) := by
  rw [jM_ofGroup_18]
  exact (Q8_ite (Q8_bdN (q8_fM_fails h) (fun _ _ h35 => (Q8_ite (q8_lM_ofGroup_31 h35) (Q8_i h35)))) Q8_n)
theorem q8_fM_ofGroup {g : gH} {v1 : Int} (h : E8 g0 g) : Q8 g0 (fM_ofGroup g 624 v1) := by
  rw [fM_ofGroup]
  exact (Q8_bnd8 h (fun _ h36 => (Q8_bdP (fun _ => (Q8_ite (q8_jM_ofGroup_18 h36) (q8_jM_ofGroup_18 h36))))))
theorem q8_fM_nextTestament {g : gH} {v1 : Int} (h : E8 g0 g) : Q8 g0 (fM_nextTestament g 624 v1) := by
  rw [fM_nextTestament]
  exact (Q8_bdN (q8_fM_noProcess h) (fun _ _ h37 => (Q8_ite (Q8_bdP (fun _ => (Q8_i h37))) (Q8_i h37))))
theorem q8_jM_exited_27 {g : gH} {v1 : Int} {s1 : Int} (h : E8 g0 g) : Q8 g0 (jM_exited_27 g 624 v1 624 s1) := by
  rw [jM_exited_27]
  exact (Q8_ite (Q8_bdN (q8_fM_fails h) (fun _ _ h38 => (Q8_ite (Q8_ite (Q8_i h38) Q8_n) (Q8_i h38)))) Q8_n)
theorem q8_fM_exited {g : gH} {v1 : Int} (h : E8 g0 g) : Q8 g0 (fM_exited g 624 v1) := by
  rw [fM_exited]
  exact (Q8_bnd8 h (fun _ h39 => (Q8_ite (Q8_bdP (fun _ => (Q8_ite (q8_jM_exited_27 h39) (q8_jM_exited_27 h39)))) Q8_n)))
theorem q8_jM_meanDepth_45 {g : gH} {v1 : Int} (h : E8 g0 g) : Q8 g0 (jM_meanDepth_45 g 624 v1) := by
  rw [jM_meanDepth_45]
  exact (Q8_bdP (fun _ => (Q8_ite (Q8_i h) Q8_n)))
theorem q8_lM_meanDepth_9_ (g : gH) (h : E8 g0 g) : ∀ (n : Nat) (s0 : Int) (s1 : Int), Q8 g0 (lM_meanDepth_9 g 624 n s0 s1) := by
  intro n
  induction n with
  | zero => intros; exact Q8_n
  | succ n ih =>
    intro s0 s1
    show Q8 g0 (bM_meanDepth_9 g 624 (lM_meanDepth_9 g 624 n) s0 s1)
    rw [bM_meanDepth_9]
    exact (Q8_ite (Q8_ite (Q8_bdP (fun _ => (Q8_ite (ih _ _) (Q8_bdP (fun _ => (ih _ _)))))) (q8_jM_meanDepth_45 h)) Q8_n)
theorem q8_lM_meanDepth_9 {g : gH} {n : Nat} {s0 : Int} {s1 : Int} (h : E8 g0 g) : Q8 g0 (lM_meanDepth_9 g 624 n s0 s1) := q8_lM_meanDepth_9_ g h n s0 s1
theorem q8_fM_meanDepth {g : gH} (h : E8 g0 g) : Q8 g0 (fM_meanDepth g 624) := by
  rw [fM_meanDepth]
  exact (Q8_bnd8 h (fun _ h40 => (q8_lM_meanDepth_9 h40)))
theorem q8_fM_rootShare {g : gH} (h : E8 g0 g) : Q8 g0 (fM_rootShare g 624) := by
  rw [fM_rootShare]
  exact (Q8_bnd8 h (fun _ h41 => (Q8_ite (Q8_ite (Q8_i h41) (Q8_ite (Q8_ite (Q8_ite (Q8_i h41) Q8_n) Q8_n) Q8_n)) Q8_n)))
theorem q8_lM_testamentsBelow_22_ (g : gH) (v1 : Int) (h : E8 g0 g) : ∀ (n : Nat) (s0 : Int) (s1 : Int), Q8 g0 (lM_testamentsBelow_22 g 624 v1 n s0 s1) := by
  intro n
  induction n with
  | zero => intros; exact Q8_n
  | succ n ih =>
    intro s0 s1
    show Q8 g0 (bM_testamentsBelow_22 g 624 v1 (lM_testamentsBelow_22 g 624 v1 n) s0 s1)
    rw [bM_testamentsBelow_22]
    exact (Q8_ite (Q8_ite (Q8_ite (Q8_ite (Q8_bdP (fun _ => (Q8_ite (ih _ _) (ih _ _)))) (ih _ _)) Q8_n) (Q8_i h)) Q8_n)
theorem q8_lM_testamentsBelow_22 {g : gH} {v1 : Int} {n : Nat} {s0 : Int} {s1 : Int} (h : E8 g0 g) : Q8 g0 (lM_testamentsBelow_22 g 624 v1 n s0 s1) := q8_lM_testamentsBelow_22_ g v1 h n s0 s1
theorem q8_fM_testamentsBelow {g : gH} {v1 : Int} (h : E8 g0 g) : Q8 g0 (fM_testamentsBelow g 624 v1) := by
  rw [fM_testamentsBelow]
  exact (Q8_bdN (q8_fM_noProcess h) (fun _ _ h42 => (Q8_ite (Q8_bdP (fun _ => (Q8_ite (Q8_i h42) (q8_lM_testamentsBelow_22 h42)))) (Q8_i h42))))
theorem q8_lM_roomBelow_22_ (g : gH) (v1 : Int) (h : E8 g0 g) : ∀ (n : Nat) (s0 : Int) (s1 : Int), Q8 g0 (lM_roomBelow_22 g 624 v1 n s0 s1) := by
  intro n
  induction n with
  | zero => intros; exact Q8_n
  | succ n ih =>
    intro s0 s1
    show Q8 g0 (bM_roomBelow_22 g 624 v1 (lM_roomBelow_22 g 624 v1 n) s0 s1)
    rw [bM_roomBelow_22]
    exact (Q8_ite (Q8_ite (Q8_bdP (fun _ => (Q8_ite (ih _ _) (Q8_bdP (fun _ => (Q8_ite (ih _ _) (Q8_bdP (fun _ => (ih _ _))))))))) (Q8_i h)) Q8_n)
theorem q8_lM_roomBelow_22 {g : gH} {v1 : Int} {n : Nat} {s0 : Int} {s1 : Int} (h : E8 g0 g) : Q8 g0 (lM_roomBelow_22 g 624 v1 n s0 s1) := q8_lM_roomBelow_22_ g v1 h n s0 s1
theorem q8_fM_roomBelow {g : gH} {v1 : Int} (h : E8 g0 g) : Q8 g0 (fM_roomBelow g 624 v1) := by
  rw [fM_roomBelow]
  exact (Q8_bdN (q8_fM_noProcess h) (fun _ _ h43 => (Q8_ite (Q8_bdP (fun _ => (Q8_ite (Q8_i h43) (q8_lM_roomBelow_22 h43)))) (Q8_i h43))))
theorem q8_jM_mostAdopted_56 {X9 : Int → Int → Option (Int × gH)} {g : gH} {v1 : Int} {v2 : Int} {s0 : Int} {s1 : Int} (h : E8 g0 g) (hX : ∀ y0 y1 : Int, Q8 g0 (X9 y0 y1)) : Q8 g0 (jM_mostAdopted_56 X9 g 624 v1 v2 s0 s1) := by
  rw [jM_mostAdopted_56]
  exact (Q8_ite (hX _ _) (hX _ _))
theorem q8_lM_mostAdopted_9_ (g : gH) (h : E8 g0 g) : ∀ (n : Nat) (s0 : Int) (s1 : Int), Q8 g0 (lM_mostAdopted_9 g 624 n s0 s1) := by
  intro n
  induction n with
  | zero => intros; exact Q8_n
  | succ n ih =>
    intro s0 s1
    show Q8 g0 (bM_mostAdopted_9 g 624 (lM_mostAdopted_9 g 624 n) s0 s1)
    rw [bM_mostAdopted_9]
    exact (Q8_ite (Q8_ite (Q8_bdP (fun _ => (Q8_ite (ih _ _) (Q8_ite (Q8_ite (q8_jM_mostAdopted_56 h ih) (Q8_ite (q8_jM_mostAdopted_56 h ih) Q8_n)) Q8_n)))) (Q8_i h)) Q8_n)
theorem q8_lM_mostAdopted_9 {g : gH} {n : Nat} {s0 : Int} {s1 : Int} (h : E8 g0 g) : Q8 g0 (lM_mostAdopted_9 g 624 n s0 s1) := q8_lM_mostAdopted_9_ g h n s0 s1
theorem q8_fM_mostAdopted {g : gH} (h : E8 g0 g) : Q8 g0 (fM_mostAdopted g 624) := by
  rw [fM_mostAdopted]
  exact (Q8_bnd8 h (fun _ h44 => (q8_lM_mostAdopted_9 h44)))
theorem q8_lM_adopters_15_ (g : gH) (v1 : Int) (h : E8 g0 g) : ∀ (n : Nat) (s0 : Int) (s1 : Int), Q8 g0 (lM_adopters_15 g 624 v1 n s0 s1) := by
  intro n
  induction n with
  | zero => intros; exact Q8_n
  | succ n ih =>
    intro s0 s1
    show Q8 g0 (bM_adopters_15 g 624 v1 (lM_adopters_15 g 624 v1 n) s0 s1)
    rw [bM_adopters_15]
    exact (Q8_ite (Q8_ite (Q8_bdP (fun _ => (Q8_ite (ih _ _) (ih _ _)))) (Q8_i h)) Q8_n)
theorem q8_lM_adopters_15 {g : gH} {v1 : Int} {n : Nat} {s0 : Int} {s1 : Int} (h : E8 g0 g) : Q8 g0 (lM_adopters_15 g 624 v1 n s0 s1) := q8_lM_adopters_15_ g v1 h n s0 s1
theorem q8_fM_adopters {g : gH} {v1 : Int} (h : E8 g0 g) : Q8 g0 (fM_adopters g 624 v1) := by
  rw [fM_adopters]
  exact (Q8_bdN (q8_fM_notExiting h) (fun _ _ h45 => (Q8_ite (q8_lM_adopters_15 h45) (Q8_i h45))))
theorem q8_fM_readShare {g : gH} (h : E8 g0 g) : Q8 g0 (fM_readShare g 624) := by
  rw [fM_readShare]
  exact (Q8_bnd8 h (fun _ h46 => (Q8_ite (Q8_ite (Q8_i h46) (Q8_bdP (fun _ => (Q8_ite (Q8_ite (Q8_i h46) Q8_n) Q8_n)))) Q8_n)))
theorem q8_fM_apart {g : gH} {v1 : Int} {v2 : Int} (h : E8 g0 g) : Q8 g0 (fM_apart g 624 v1 v2) := by
  rw [fM_apart]
  exact (Q8_bdN (q8_fM_anyGone h) (fun _ _ h47 => (Q8_ite (Q8_bdP (fun _ => (Q8_bdP (fun _ => (Q8_bdP (fun _ => (Q8_bdP (fun _ => (Q8_i h47))))))))) (Q8_i h47))))
theorem q8_lM_heaviest_14_ (g : gH) (v1 : Int) (h : E8 g0 g) : ∀ (n : Nat) (s0 : Int) (s1 : Int), Q8 g0 (lM_heaviest_14 g 624 v1 n s0 s1) := by
  intro n
  induction n with
  | zero => intros; exact Q8_n
  | succ n ih =>
    intro s0 s1
    show Q8 g0 (bM_heaviest_14 g 624 v1 (lM_heaviest_14 g 624 v1 n) s0 s1)
    rw [bM_heaviest_14]
    exact (Q8_ite (Q8_ite (Q8_bdP (fun _ => (Q8_ite (ih _ _) (Q8_ite (ih _ _) (Q8_bdP (fun _ => (Q8_bdP (fun _ => (Q8_ite (ih _ _) (ih _ _)))))))))) (Q8_i h)) Q8_n)
theorem q8_lM_heaviest_14 {g : gH} {v1 : Int} {n : Nat} {s0 : Int} {s1 : Int} (h : E8 g0 g) : Q8 g0 (lM_heaviest_14 g 624 v1 n s0 s1) := q8_lM_heaviest_14_ g v1 h n s0 s1
theorem q8_fM_heaviest {g : gH} {v1 : Int} (h : E8 g0 g) : Q8 g0 (fM_heaviest g 624 v1) := by
  rw [fM_heaviest]
  exact (Q8_bdN (q8_fM_noProcess h) (fun _ _ h48 => (Q8_ite (q8_lM_heaviest_14 h48) (Q8_i h48))))
theorem q8_lM_groupsBelow_22_ (g : gH) (v1 : Int) (h : E8 g0 g) : ∀ (n : Nat) (s0 : Int) (s1 : Int), Q8 g0 (lM_groupsBelow_22 g 624 v1 n s0 s1) := by
  intro n
  induction n with
  | zero => intros; exact Q8_n
  | succ n ih =>
    intro s0 s1
    show Q8 g0 (bM_groupsBelow_22 g 624 v1 (lM_groupsBelow_22 g 624 v1 n) s0 s1)
    rw [bM_groupsBelow_22]
    exact (Q8_ite (Q8_ite (Q8_bdP (fun _ => (Q8_ite (ih _ _) (Q8_bdP (fun _ => (Q8_ite (ih _ _) (Q8_ite (ih _ _) Q8_n))))))) (Q8_i h)) Q8_n)
theorem q8_lM_groupsBelow_22 {g : gH} {v1 : Int} {n : Nat} {s0 : Int} {s1 : Int} (h : E8 g0 g) : Q8 g0 (lM_groupsBelow_22 g 624 v1 n s0 s1) := q8_lM_groupsBelow_22_ g v1 h n s0 s1
theorem q8_fM_groupsBelow {g : gH} {v1 : Int} (h : E8 g0 g) : Q8 g0 (fM_groupsBelow g 624 v1) := by
  rw [fM_groupsBelow]
  exact (Q8_bdN (q8_fM_noProcess h) (fun _ _ h49 => (Q8_ite (Q8_bdP (fun _ => (Q8_ite (Q8_i h49) (q8_lM_groupsBelow_22 h49)))) (Q8_i h49))))
theorem q8_lM_strangers_14_ (g : gH) (v1 : Int) (h : E8 g0 g) : ∀ (n : Nat) (s0 : Int) (s1 : Int), Q8 g0 (lM_strangers_14 g 624 v1 n s0 s1) := by
  intro n
  induction n with
  | zero => intros; exact Q8_n
  | succ n ih =>
    intro s0 s1
    show Q8 g0 (bM_strangers_14 g 624 v1 (lM_strangers_14 g 624 v1 n) s0 s1)
    rw [bM_strangers_14]
    exact (Q8_ite (Q8_ite (Q8_bdP (fun _ => (Q8_ite (ih _ _) (Q8_ite (Q8_ite (Q8_ite (ih _ _) (ih _ _)) Q8_n) Q8_n)))) (Q8_i h)) Q8_n)
theorem q8_lM_strangers_14 {g : gH} {v1 : Int} {n : Nat} {s0 : Int} {s1 : Int} (h : E8 g0 g) : Q8 g0 (lM_strangers_14 g 624 v1 n s0 s1) := q8_lM_strangers_14_ g v1 h n s0 s1
theorem q8_fM_strangers {g : gH} {v1 : Int} (h : E8 g0 g) : Q8 g0 (fM_strangers g 624 v1) := by
  rw [fM_strangers]
  exact (Q8_bdN (q8_fM_noProcess h) (fun _ _ h50 => (Q8_ite (q8_lM_strangers_14 h50) (Q8_i h50))))
theorem q8_fM_outputByte {g : gH} {v1 : Int} (h : E8 g0 g) : Q8 g0 (fM_outputByte g 624 v1) := by
  rw [fM_outputByte]
  exact (Q8_bnd8 h (fun _ h51 => (Q8_bdP (fun _ => (Q8_ite (Q8_i h51) (Q8_ite (Q8_i h51) Q8_n))))))
theorem q8_fM_errorCode {g : gH} (h : E8 g0 g) : Q8 g0 (fM_errorCode g 624) := by
  rw [fM_errorCode]
  exact (Q8_bnd8 h (fun _ h52 => (Q8_i h52)))
theorem q8_fM_errorOffset {g : gH} (h : E8 g0 g) : Q8 g0 (fM_errorOffset g 624) := by
  rw [fM_errorOffset]
  exact (Q8_bnd8 h (fun _ h53 => (Q8_i h53)))
/-- all but the mark and the output is as it was -/
def E9 (g0 g : gH) : Prop := g0 624 22 = 634 ∧ (∀ x, ¬ x = 624 → ¬ x = 634 → g x = g0 x) ∧ ∀ k, ¬ k = 8 → ¬ k = 23 → g 624 k = g0 624 k
theorem E9_r (h : g0 624 22 = 634) : E9 g0 g0 := ⟨h, fun _ _ _ => rfl, fun _ _ _ => rfl⟩
def Q9 (g0 : gH) (X : Option (Int × gH)) : Prop := ∀ w H, X = some (w, H) → E9 g0 H
theorem Q9_n : Q9 g0 none := fun _ _ e => by cases e
theorem Q9_i {g : gH} {v : Int} (h : E9 g0 g) : Q9 g0 (some (v, g)) := fun _ _ e => by cases e; exact h
theorem Q9_ite {c : Prop} [Decidable c] {A B : Option (Int × gH)} (h1 : Q9 g0 A) (h2 : Q9 g0 B) : Q9 g0 (if c then A else B) := by
  split
  · exact h1
  · exact h2
theorem Q9_bdP {X : Option Int} {k : Int → Option (Int × gH)} (h : ∀ v, Q9 g0 (k v)) : Q9 g0 (bdP X k) := by
  cases X with
  | none => exact Q9_n
  | some v => exact h v
theorem Q9_bdN {X : Option (Int × gH)} {k : Int → gH → Option (Int × gH)} (hX : Q9 g0 X) (h : ∀ v g, E9 g0 g → Q9 g0 (k v g)) : Q9 g0 (bdN X k) := by
  cases X with
  | none => exact Q9_n
  | some z => exact h z.1 z.2 (hX z.1 z.2 rfl)
theorem Q9_bnd8 {g : gH} {v : Int} {k : gH → Option (Int × gH)} (h : E9 g0 g) (hk : ∀ g', E9 g0 g' → Q9 g0 (k g')) : Q9 g0 (bnd (pU g 624 8 v) k) := by
  rw [bnd_s]
  exact hk _ ⟨h.1, fun x hx h2 => (pU_n hx).trans (h.2.1 x hx h2), fun y hy h2 => (pU_y hy).trans (h.2.2 y hy h2)⟩
theorem Q9_bnd23 {g : gH} {v : Int} {k : gH → Option (Int × gH)} (h : E9 g0 g) (hk : ∀ g', E9 g0 g' → Q9 g0 (k g')) : Q9 g0 (bnd (pU g 624 23 v) k) := by
  rw [bnd_s]
  exact hk _ ⟨h.1, fun x hx h2 => (pU_n hx).trans (h.2.1 x hx h2), fun y hy h2 => (pU_y h2).trans (h.2.2 y hy h2)⟩
theorem Q9_bndo {g : gH} {a v : Int} {k : gH → Option (Int × gH)} (h : E9 g0 g) (hk : ∀ g', E9 g0 g' → Q9 g0 (k g')) : Q9 g0 (bnd (pU g (g 624 22) a v) k) := by
  have e : g 624 22 = 634 := (h.2.2 22 (by omega) (by omega)).trans h.1
  rw [bnd_s, e]
  exact hk _ ⟨h.1, fun x hx h2 => (pU_n h2).trans (h.2.1 x hx h2), fun y hy h2 => by rw [pU_n (by omega)]; exact h.2.2 y hy h2⟩
theorem q9_fM_fails {g : gH} {v1 : Int} {v2 : Int} (h : E9 g0 g) : Q9 g0 (fM_fails g 624 v1 v2) := by
  rw [fM_fails]
  exact (Q9_ite (Q9_i h) (Q9_bnd8 h (fun _ h1 => (Q9_i h1))))
theorem q9_fM_noProcess {g : gH} {v1 : Int} (h : E9 g0 g) : Q9 g0 (fM_noProcess g 624 v1) := by
  rw [fM_noProcess]
  exact (Q9_bnd8 h (fun _ h2 => (Q9_ite (Q9_bdP (fun _ => (Q9_ite (Q9_bdN (q9_fM_fails h2) (fun _ _ h3 => (Q9_i h3))) (Q9_bdN (q9_fM_fails h2) (fun _ _ h4 => (Q9_i h4)))))) Q9_n)))
theorem q9_fM_write {g : gH} {v1 : Int} (h : E9 g0 g) : Q9 g0 (fM_write g 624 v1) := by
  rw [fM_write]
  exact (Q9_ite (Q9_bndo h (fun _ h5 => (Q9_bnd23 h5 (fun _ h6 => (Q9_i h6))))) Q9_n)
theorem q9_fM_writeBetween {g : gH} {v1 : Int} (h : E9 g0 g) : Q9 g0 (fM_writeBetween g 624 v1) := by
  rw [fM_writeBetween]
  exact (Q9_ite (Q9_bdN (q9_fM_write h) (fun _ _ h7 => (Q9_i h7))) (Q9_i h))
theorem q9_lM_writeNumber_18_ (v1 : Int) : ∀ (n : Nat) (s0 : Int) (G : gH), E9 g0 G → Q9 g0 (lM_writeNumber_18 624 v1 n s0 G) := by
  intro n
  induction n with
  | zero => intros; exact Q9_n
  | succ n ih =>
    intro s0 G h
    show Q9 g0 (bM_writeNumber_18 624 v1 (lM_writeNumber_18 624 v1 n) s0 G)
    rw [bM_writeNumber_18]
    exact (Q9_ite (Q9_ite (Q9_ite (Q9_bdN (q9_fM_write h) (fun _ _ h8 => (Q9_ite (ih _ _ h8) Q9_n))) Q9_n) Q9_n) (Q9_i h))
theorem q9_lM_writeNumber_18 {v1 : Int} {n : Nat} {s0 : Int} {G : gH} (h : E9 g0 G) : Q9 g0 (lM_writeNumber_18 624 v1 n s0 G) := q9_lM_writeNumber_18_ v1 n s0 G h
theorem q9_lM_writeNumber_2_ (g : gH) (v1 : Int) (h : E9 g0 g) : ∀ (n : Nat) (s0 : Int), Q9 g0 (lM_writeNumber_2 g 624 v1 n s0) := by
  intro n
  induction n with
  | zero => intros; exact Q9_n
  | succ n ih =>
    intro s0
    show Q9 g0 (bM_writeNumber_2 g 624 v1 (lM_writeNumber_2 g 624 v1 n) s0)
    rw [bM_writeNumber_2]
    exact (Q9_ite (Q9_ite (ih _) (q9_lM_writeNumber_18 h)) Q9_n)
theorem q9_lM_writeNumber_2 {g : gH} {v1 : Int} {n : Nat} {s0 : Int} (h : E9 g0 g) : Q9 g0 (lM_writeNumber_2 g 624 v1 n s0) := q9_lM_writeNumber_2_ g v1 h n s0
theorem q9_fM_writeNumber {g : gH} {v1 : Int} (h : E9 g0 g) : Q9 g0 (fM_writeNumber g 624 v1) := by
  rw [fM_writeNumber]
  exact (q9_lM_writeNumber_2 h)
theorem q9_lM_writePath_2_ (v1 : Int) : ∀ (n : Nat) (s0 : Int) (G : gH), E9 g0 G → Q9 g0 (lM_writePath_2 624 v1 n s0 G) := by
  intro n
  induction n with
  | zero => intros; exact Q9_n
  | succ n ih =>
    intro s0 G h
    show Q9 g0 (bM_writePath_2 624 v1 (lM_writePath_2 624 v1 n) s0 G)
    rw [bM_writePath_2]
    exact (Q9_bdP (fun _ => (Q9_ite (Q9_i h) (Q9_bdN (q9_fM_writeBetween h) (fun _ _ h9 => (Q9_bdP (fun _ => (Q9_bdN (q9_fM_writeNumber h9) (fun _ _ h10 => (ih _ _ h10))))))))))
theorem q9_lM_writePath_2 {v1 : Int} {n : Nat} {s0 : Int} {G : gH} (h : E9 g0 G) : Q9 g0 (lM_writePath_2 624 v1 n s0 G) := q9_lM_writePath_2_ v1 n s0 G h
theorem q9_fM_writePath {g : gH} {v1 : Int} (h : E9 g0 g) : Q9 g0 (fM_writePath g 624 v1) := by
  rw [fM_writePath]
  exact (q9_lM_writePath_2 h)
theorem q9_lM_writeChildren_7_ (v1 : Int) : ∀ (n : Nat) (s0 : Int) (G : gH), E9 g0 G → Q9 g0 (lM_writeChildren_7 624 v1 n s0 G) := by
  intro n
  induction n with
  | zero => intros; exact Q9_n
  | succ n ih =>
    intro s0 G h
    show Q9 g0 (bM_writeChildren_7 624 v1 (lM_writeChildren_7 624 v1 n) s0 G)
    rw [bM_writeChildren_7]
    exact (Q9_ite (Q9_i h) (Q9_bdN (q9_fM_writeBetween h) (fun _ _ h11 => (Q9_bdN (q9_fM_writeNumber h11) (fun _ _ h12 => (Q9_bdP (fun _ => (ih _ _ h12))))))))
theorem q9_lM_writeChildren_7 {v1 : Int} {n : Nat} {s0 : Int} {G : gH} (h : E9 g0 G) : Q9 g0 (lM_writeChildren_7 624 v1 n s0 G) := q9_lM_writeChildren_7_ v1 n s0 G h
theorem q9_fM_writeChildren {g : gH} {v1 : Int} (h : E9 g0 g) : Q9 g0 (fM_writeChildren g 624 v1) := by
  rw [fM_writeChildren]
  exact (Q9_bdP (fun _ => (q9_lM_writeChildren_7 h)))
theorem q9_jM_writeTree_42 {R : gH → Int → Int → Option (Int × gH)} {X26 : Int → gH → Option (Int × gH)} {g : gH} {v1 v2 v3 : Int} (hR : ∀ g v, E9 g0 g → Q9 g0 (R g 624 v)) (hX : ∀ v g, E9 g0 g → Q9 g0 (X26 v g)) (h : E9 g0 g) : Q9 g0 (jM_writeTree_42 R X26 g 624 v1 v2 v3) := by
  rw [jM_writeTree_42]
  exact Q9_bdN (hR _ _ h) (fun _ _ h2 => Q9_bdP (fun _ => hX _ _ h2))
theorem q9_lM_writeTree_26 {R : gH → Int → Int → Option (Int × gH)} {v1 v2 : Int} (hR : ∀ g v, E9 g0 g → Q9 g0 (R g 624 v)) : ∀ (n : Nat) (v3 : Int) (g : gH), E9 g0 g → Q9 g0 (lM_writeTree_26 R 624 v1 v2 n v3 g) := by
  intro n
  induction n with
  | zero => intros; exact Q9_n
  | succ n ih =>
    intro v3 g h
    show Q9 g0 (bM_writeTree_26 R 624 v1 v2 (lM_writeTree_26 R 624 v1 v2 n) v3 g)
    rw [bM_writeTree_26]
    exact Q9_ite (Q9_bdN (q9_fM_write h) (fun _ _ h2 => Q9_i h2)) (Q9_ite (q9_jM_writeTree_42 hR ih h) (Q9_bdN (q9_fM_write h) (fun _ _ h2 => q9_jM_writeTree_42 hR ih h2)))
theorem q9_fM_writeTree : ∀ (n : Nat) (g : gH) (v : Int), E9 g0 g → Q9 g0 (fM_writeTree n g 624 v) := by
  intro n
  induction n with
  | zero => intros; exact Q9_n
  | succ n ih =>
    intro g v h
    show Q9 g0 (fbM_writeTree (fM_writeTree n) g 624 v)
    rw [fbM_writeTree]
    exact Q9_bdN (q9_fM_writeNumber h) (fun _ _ h2 => Q9_bdP (fun _ => Q9_ite (Q9_i h2) (Q9_bdN (q9_fM_write h2) (fun _ _ h3 => q9_lM_writeTree_26 ih _ _ _ h3))))
theorem q9_lM_writeZombies_2_ (v1 : Int) : ∀ (n : Nat) (s0 : Int) (G : gH), E9 g0 G → Q9 g0 (lM_writeZombies_2 624 v1 n s0 G) := by
  intro n
  induction n with
  | zero => intros; exact Q9_n
  | succ n ih =>
    intro s0 G h
    show Q9 g0 (bM_writeZombies_2 624 v1 (lM_writeZombies_2 624 v1 n) s0 G)
    rw [bM_writeZombies_2]
    exact (Q9_ite (Q9_ite (Q9_ite (Q9_bdP (fun _ => (Q9_ite (ih _ _ h) (Q9_bdN (q9_fM_writeBetween h) (fun _ _ h13 => (Q9_bdN (q9_fM_writeNumber h13) (fun _ _ h14 => (Q9_bdN (q9_fM_write h14) (fun _ _ h15 => (Q9_ite (Q9_bdN (q9_fM_writeNumber h15) (fun _ _ h16 => (ih _ _ h16))) Q9_n)))))))))) Q9_n) (Q9_i h)) Q9_n)
theorem q9_lM_writeZombies_2 {v1 : Int} {n : Nat} {s0 : Int} {G : gH} (h : E9 g0 G) : Q9 g0 (lM_writeZombies_2 624 v1 n s0 G) := q9_lM_writeZombies_2_ v1 n s0 G h
theorem q9_fM_writeZombies {g : gH} {v1 : Int} (h : E9 g0 g) : Q9 g0 (fM_writeZombies g 624 v1) := by
  rw [fM_writeZombies]
  exact (q9_lM_writeZombies_2 h)
theorem q9_jM_print_126 {g : gH} (h : E9 g0 g) : Q9 g0 (jM_print_126 g 624) := by
  rw [jM_print_126]
  exact (Q9_ite (Q9_bdN (q9_fM_write h) (fun _ _ h17 => (Q9_i h17))) (Q9_i h))
theorem q9_jM_print_116 {g : gH} {v1 : Int} {v2 : Int} (h : E9 g0 g) : Q9 g0 (jM_print_116 g 624 v1 v2) := by
  rw [jM_print_116]
  exact (Q9_ite (Q9_bdN (q9_fM_writeZombies h) (fun _ _ h18 => (q9_jM_print_126 h18))) (q9_jM_print_126 h))
theorem q9_lM_print_81_ (v1 : Int) (v2 : Int) : ∀ (n : Nat) (s0 : Int) (G : gH), E9 g0 G → Q9 g0 (lM_print_81 624 v1 v2 n s0 G) := by
  intro n
  induction n with
  | zero => intros; exact Q9_n
  | succ n ih =>
    intro s0 G h
    show Q9 g0 (bM_print_81 624 v1 v2 (lM_print_81 624 v1 v2 n) s0 G)
    rw [bM_print_81]
    exact (Q9_ite (Q9_ite (Q9_ite (Q9_ite (Q9_bdN (q9_fM_writeNumber h) (fun _ _ h19 => (ih _ _ h19))) (ih _ _ h)) Q9_n) (q9_jM_print_116 h)) (q9_jM_print_116 h))
theorem q9_lM_print_81 {v1 : Int} {v2 : Int} {n : Nat} {s0 : Int} {G : gH} (h : E9 g0 G) : Q9 g0 (lM_print_81 624 v1 v2 n s0 G) := q9_lM_print_81_ v1 v2 n s0 G h
theorem q9_jM_print_69 {g : gH} {v1 : Int} {v2 : Int} (h : E9 g0 g) : Q9 g0 (jM_print_69 g 624 v1 v2) := by
  rw [jM_print_69]
  exact (Q9_ite (Q9_bdN (q9_fM_writeTree _ _ _ h) (fun _ _ h20 => (q9_lM_print_81 h20))) (q9_lM_print_81 h))
theorem q9_jM_print_59 {g : gH} {v1 : Int} {v2 : Int} (h : E9 g0 g) : Q9 g0 (jM_print_59 g 624 v1 v2) := by
  rw [jM_print_59]
  exact (Q9_ite (Q9_bdN (q9_fM_writeChildren h) (fun _ _ h21 => (q9_jM_print_69 h21))) (q9_jM_print_69 h))
theorem q9_jM_print_23 {g : gH} {v1 : Int} {v2 : Int} {s1 : Int} (h : E9 g0 g) : Q9 g0 (jM_print_23 g 624 v1 v2 624 s1) := by
  rw [jM_print_23]
  exact (Q9_ite (Q9_bdN (q9_fM_fails h) (fun _ _ h22 => (Q9_ite (Q9_bdP (fun _ => (Q9_bdN (q9_fM_fails h22) (fun _ _ h23 => (Q9_ite (Q9_bnd23 h23 (fun _ h24 => (Q9_ite (Q9_bdN (q9_fM_writePath h24) (fun _ _ h25 => (q9_jM_print_59 h25))) (q9_jM_print_59 h24)))) (Q9_i h23)))))) (Q9_i h22)))) Q9_n)
theorem q9_fM_print {g : gH} {v1 : Int} {v2 : Int} (h : E9 g0 g) : Q9 g0 (fM_print g 624 v1 v2) := by
  rw [fM_print]
  exact (Q9_bdN (q9_fM_noProcess h) (fun _ _ h26 => (Q9_ite (Q9_bdP (fun _ => (Q9_ite (q9_jM_print_23 h26) (q9_jM_print_23 h26)))) (Q9_i h26))))
end PAR36

/-! ===== the reference reads testaments (own work) ===== -/
def sm (P : Int → Bool) (v : Int → Int) : Nat → Int → Int
  | 0, _ => 0
  | m + 1, k => (if P k = true then v k else 0) + sm P v m (k + 1)
theorem sm_z {P : Int → Bool} {v : Int → Int} : ∀ (m : Nat) (k : Int), (∀ j, k ≤ j → j < k + m → P j = false) → sm P v m k = 0 := by
  intro m
  induction m with
  | zero => intro k _; rfl
  | succ m ih =>
    intro k h
    show (if P k = true then v k else 0) + sm P v m (k + 1) = 0
    rw [h k (by omega) (by omega), ih (k + 1) (fun j h1 h2 => h j (by omega) (by omega))]
    simp
theorem sm_bd {P : Int → Bool} {v : Int → Int} {B : Int} : ∀ (m : Nat) (k : Int), (∀ j, k ≤ j → j < k + m → P j = true → 0 ≤ v j ∧ v j ≤ B) → 0 ≤ B → 0 ≤ sm P v m k ∧ sm P v m k ≤ m * B := by
  intro m
  induction m with
  | zero => intro k _ hB; exact ⟨Int.le_refl _, by simp [sm]⟩
  | succ m ih =>
    intro k h hB
    have h1 := ih (k + 1) (fun j h1 h2 => h j (by omega) (by omega)) hB
    have h2 := h k (by omega) (by omega)
    have e : ((m + 1 : Nat) : Int) * B = m * B + B := by rw [Int.natCast_add, Int.add_mul]; simp
    show 0 ≤ (if P k = true then v k else 0) + sm P v m (k + 1) ∧ (if P k = true then v k else 0) + sm P v m (k + 1) ≤ ((m + 1 : Nat) : Int) * B
    rw [e]
    split
    · next hp => have := h2 hp; omega
    · omega
theorem sm_dn {P Q : Int → Bool} {v w : Int → Int} {p : Int} (hP : P p = true) (hQ : Q p = false) (h : ∀ j, j ≠ p → P j = Q j) (hv : ∀ j, v j = w j) : ∀ (m : Nat) (k : Int), sm P v m k = sm Q w m k + if k ≤ p ∧ p < k + m then v p else 0 := by
  intro m
  induction m with
  | zero => intro k; rw [if_neg (by omega)]; rfl
  | succ m ih =>
    intro k
    show (if P k = true then v k else 0) + sm P v m (k + 1) = (if Q k = true then w k else 0) + sm Q w m (k + 1) + _
    rw [ih (k + 1)]
    by_cases e : k = p
    · subst e
      have e1 : ¬ (k + 1 ≤ k ∧ k < k + 1 + (m : Int)) := by omega
      have e2 : k ≤ k ∧ k < k + ((m + 1 : Nat) : Int) := by omega
      rw [hP, hQ, if_neg e1, if_pos e2]
      simp
      omega
    · rw [h k e, hv k]
      by_cases h2 : k + 1 ≤ p ∧ p < k + 1 + m
      · have e2 : k ≤ p ∧ p < k + ((m + 1 : Nat) : Int) := by omega
        rw [if_pos h2, if_pos e2]
        omega
      · have e2 : ¬ (k ≤ p ∧ p < k + ((m + 1 : Nat) : Int)) := by omega
        rw [if_neg h2, if_neg e2]
        omega
/-- every one that has exited is in the list of exits -/
def EXL (r : Int → Int) : Prop := ∀ i, 0 ≤ i → i < r 0 → ¬ r (140 + i) = 0 → ∃ k, 0 ≤ k ∧ k < r 1 ∧ r (19 + k) = i
def SZ (r : Int → Int) (p : Int) : Int := sm (fun c => ic r c p 1) (fun c => r (300 + c)) (r 0).toNat 0
def rdR (r : Int → Int) (p : Int) : Int → Int := fun k => if 140 ≤ k ∧ k < 140 + r 0 ∧ ic r (k - 140) p 1 = true then 2 else r k
/-- codes of zombies -/
def CD (r : Int → Int) : Prop := ∀ i, 0 ≤ i → i < r 0 → r (140 + i) = 1 → 0 ≤ r (300 + i) ∧ r (300 + i) ≤ 255
theorem ic_u {r : Int → Int} {z c p : Int} (hc : 0 ≤ c ∧ c < 40) (hz : 0 ≤ z ∧ z < 40) : ic (u1 r (140 + z) 2) c p 1 = if c = z then false else ic r c p 1 := by
  unfold ic
  by_cases h : c = z
  · subst h
    rw [if_pos rfl, u1_s]
    simp
  · rw [if_neg h, u1_n (by omega), u1_n (by omega)]
section MODEL4
variable {g : gH} {p : Int}
theorem vM_reads_l (hs : MS g) : ∀ (m n : Nat) (r : Int → Int) (acc : Int), (1 ≤ r 0 ∧ r 0 ≤ 40) → EX r → EXL r → CD r → cn (fun c => ic r c p 1) (r 0).toNat 0 = m → m < n → 0 ≤ acc → acc + SZ r p ≤ 1000000 →
    lM_readsAll_8 624 p n acc (FZ r p) (sw g r) = some (acc + SZ r p, sw g (rdR r p)) := by
  have h0 := hs.1
  intro m
  induction m with
  | zero =>
    intro n r acc hM he hel hcd hm hn ha hab
    obtain ⟨n, rfl⟩ : ∃ k, n = k + 1 := ⟨n - 1, by omega⟩
    have hno : ∀ c, 0 ≤ c → c < r 0 → ic r c p 1 = false := by
      intro c c0 c1
      cases hc : ic r c p 1 with
      | false => rfl
      | true =>
        have := cn_lt (P := fun _ => false) (Q := fun c => ic r c p 1) (fun j z => by cases z) (p := c) rfl hc (r 0).toNat 0 (by omega) (by omega)
        have hb := (cn_bd (fun _ => false) (r 0).toNat 0).1
        omega
    have hz : FZ r p = -1 := by
      rcases FZ_f (p := p) he with h | ⟨h1, h2, h3⟩
      · exact h
      · rw [hno _ h1 h2] at h3; cases h3
    have hsz : SZ r p = 0 := sm_z _ _ (fun j h1 h2 => hno j h1 (by omega))
    have hrd : rdR r p = r := by
      funext k
      unfold rdR
      split
      · next h => rw [hno _ (by omega) (by omega)] at h; exact absurd h.2.2 (by simp)
      · rfl
    show bM_readsAll_8 624 p (lM_readsAll_8 624 p n) acc (FZ r p) (sw g r) = _
    rw [bM_readsAll_8, hz, hsz, hrd, if_pos rfl, Int.add_zero]
  | succ m ih =>
    intro n r acc hM he hel hcd hm hn ha hab
    obtain ⟨n, rfl⟩ : ∃ k, n = k + 1 := ⟨n - 1, by omega⟩
    rcases FZ_f (p := p) he with hz | ⟨z0, z1, z2⟩
    · exfalso
      have hno : ∀ c, 0 ≤ c → c < r 0 → ic r c p 1 = false := by
        intro c c0 c1
        cases hc : ic r c p 1 with
        | false => rfl
        | true =>
          exfalso
          have hst : ¬ r (140 + c) = 0 := by
            unfold ic at hc
            simp only [decide_eq_true_eq] at hc
            omega
          obtain ⟨k, k0, k1, k2⟩ := hel c c0 c1 hst
          unfold FZ at hz
          rcases ff_spec (fun k => ic r (r (19 + k)) p 1) (r 1).toNat 0 with ⟨f1, f2⟩ | ⟨f1, f2, f3, -⟩
          · have := f2 k k0 (by omega)
            simp only [k2] at this
            rw [hc] at this
            cases this
          · rw [if_neg (by omega)] at hz
            have := he.2 _ f1 (by omega)
            omega
      have h9 : cn (fun c => ic r c p 1) (r 0).toNat 0 = cn (fun _ => false) (r 0).toNat 0 := cn_congr _ _ (fun j j0 j1 => hno j j0 (by omega))
      have h8 : ∀ (q : Nat) (k : Int), cn (fun _ => false) q k = 0 := by
        intro q
        induction q with
        | zero => intro k; rfl
        | succ q ihq => intro k; rw [cn_s, ihq]; simp
      rw [h8] at h9
      omega
    · generalize FZ r p = z at z0 z1 z2 ⊢
      have hst : r (140 + z) = 1 := by
        unfold ic at z2
        simp only [decide_eq_true_eq] at z2
        exact z2.1
      have hcz := hcd z z0 z1 hst
      have hr0 : u1 r (140 + z) 2 0 = r 0 := u1_n (by omega)
      have hr1 : u1 r (140 + z) 2 1 = r 1 := u1_n (by omega)
      have hsm : SZ r p = SZ (u1 r (140 + z) 2) p + r (300 + z) := by
        unfold SZ
        rw [hr0]
        have := sm_dn (P := fun c => ic r c p 1) (Q := fun c => if c = z then false else ic r c p 1) (v := fun c => r (300 + c)) (w := fun c => r (300 + c)) (p := z) z2 (if_pos rfl) (fun j hj => (if_neg hj).symm) (fun j => rfl) (r 0).toNat 0
        rw [if_pos (by omega)] at this
        rw [this]
        congr 1
        have hg : ∀ (q : Nat) (k : Int), 0 ≤ k → k + q ≤ 40 → sm (fun c => if c = z then false else ic r c p 1) (fun c => r (300 + c)) q k = sm (fun c => ic (u1 r (140 + z) 2) c p 1) (fun c => u1 r (140 + z) 2 (300 + c)) q k := by
          intro q
          induction q with
          | zero => intro k _ _; rfl
          | succ q ihq =>
            intro k k0 k1
            show (if (if k = z then false else ic r k p 1) = true then r (300 + k) else 0) + _ = (if ic (u1 r (140 + z) 2) k p 1 = true then u1 r (140 + z) 2 (300 + k) else 0) + _
            rw [ihq (k + 1) (by omega) (by omega), ic_u (by omega) (by omega), u1_n (by omega)]
        exact hg _ _ (by omega) (by omega)
      have hcn : cn (fun c => ic (u1 r (140 + z) 2) c p 1) (r 0).toNat 0 = m := by
        have h1 : cn (fun c => ic (u1 r (140 + z) 2) c p 1) (r 0).toNat 0 = cn (fun c => if c = z then false else ic r c p 1) (r 0).toNat 0 := cn_congr _ _ (fun j j0 j1 => ic_u (by omega) (by omega))
        have h2 := cn_up (P := fun c => if c = z then false else ic r c p 1) (Q := fun c => ic r c p 1) (p := z) (if_pos rfl) z2 (fun j hj => if_neg hj) (r 0).toNat 0
        rw [if_pos (by omega)] at h2
        omega
      have hex : EX (u1 r (140 + z) 2) := by
        refine ⟨by rw [hr1]; exact he.1, fun k k0 k1 => ?_⟩
        rw [hr1] at k1
        rw [u1_n (by have := he.1; omega), hr0]
        exact he.2 k k0 k1
      have hel' : EXL (u1 r (140 + z) 2) := by
        intro i i0 i1 i2
        rw [hr0] at i1
        have : ¬ r (140 + i) = 0 := by
          by_cases e : i = z
          · rw [e, hst]; omega
          · rw [u1_n (by omega)] at i2; exact i2
        obtain ⟨k, k0, k1, k2⟩ := hel i i0 i1 this
        exact ⟨k, k0, by rw [hr1]; exact k1, by rw [u1_n (by have := he.1; omega)]; exact k2⟩
      have hcd' : CD (u1 r (140 + z) 2) := by
        intro i i0 i1 i2
        rw [hr0] at i1
        by_cases e : i = z
        · subst e
          rw [u1_s] at i2
          omega
        · rw [u1_n (by omega)] at i2
          rw [u1_n (by omega)]
          exact hcd i i0 i1 i2
      have hfz := vM_firstZombie (g := sw g (u1 r (140 + z) 2)) (p := p) (MS_sw hs) (by rw [sw_s, hr0]; omega) (by rw [sw_s]; exact hex)
      rw [sw_s] at hfz
      have hsz0 := sm_bd (P := fun c => ic (u1 r (140 + z) 2) c p 1) (v := fun c => u1 r (140 + z) 2 (300 + c)) (B := 255) (r 0).toNat 0 (fun j j0 j1 j2 => by
        have j3 : (ic (u1 r (140 + z) 2) j p 1) = true := j2
        unfold ic at j3
        simp only [decide_eq_true_eq] at j3
        exact hcd' j j0 (by omega) j3.1) (by omega)
      have hsz0 : 0 ≤ SZ (u1 r (140 + z) 2) p := by
        unfold SZ
        rw [hr0]
        exact hsz0.1
      have ih' := ih n (u1 r (140 + z) 2) (acc + r (300 + z)) (by rw [hr0]; exact hM) hex hel' hcd' (by rw [hr0]; exact hcn) (by omega) (by omega) (by omega)
      show bM_readsAll_8 624 p (lM_readsAll_8 624 p n) acc z (sw g r) = _
      rw [bM_readsAll_8]
      simp (disch := omega) only [eq_f, ↓reduceIte, sw_n, h0, kd_625, sz_625, w32_r, true_and, le_t, lt_t, and_true, ↓bnd_s, pU_sw, hfz, bdP_s, sw_s, u1_n]
      rw [ih']
      congr 2
      · omega
      · congr 1
        funext k
        unfold rdR
        rw [hr0]
        by_cases hk : 140 ≤ k ∧ k < 140 + r 0
        · rw [ic_u (c := k - 140) (by omega) (by omega)]
          by_cases e : k = 140 + z
          · subst e
            have e2 : 140 + z - 140 = z := by omega
            rw [e2, u1_s, z2]
            simp
            intro h9
            have := h9 (by omega)
            omega
          · rw [u1_n e, if_neg (show ¬ k - 140 = z by omega)]
        · rw [if_neg (fun h => hk ⟨h.1, h.2.1⟩), if_neg (fun h => hk ⟨h.1, h.2.1⟩), u1_n (by omega)]
theorem vM_readsAll {r : Int → Int} (hs : MS g) (hM : 1 ≤ r 0 ∧ r 0 ≤ 40) (he : EX r) (hel : EXL r) (hcd : CD r) : fM_readsAll (sw g r) 624 p = some (SZ r p, sw g (rdR r p)) ∧ 0 ≤ SZ r p ∧ SZ r p ≤ 10200 := by
  have hsz0 := sm_bd (P := fun c => ic r c p 1) (v := fun c => r (300 + c)) (B := 255) (r 0).toNat 0 (fun j j0 j1 j2 => by
    have j3 : (ic r j p 1) = true := j2
    unfold ic at j3
    simp only [decide_eq_true_eq] at j3
    exact hcd j j0 (by omega) j3.1) (by omega)
  have hsz0 : 0 ≤ SZ r p ∧ SZ r p ≤ ((r 0).toNat : Int) * 255 := hsz0
  have hb : ((r 0).toNat : Int) * 255 ≤ 10200 := by omega
  refine ⟨?_, hsz0.1, by omega⟩
  have hfz := vM_firstZombie (g := sw g r) (p := p) (MS_sw hs) (by rw [sw_s]; omega) (by rw [sw_s]; exact he)
  rw [sw_s] at hfz
  have hc := cn_bd (fun c => ic r c p 1) (r 0).toNat 0
  have := vM_reads_l (p := p) hs (cn (fun c => ic r c p 1) (r 0).toNat 0).toNat fu r 0 hM he hel hcd (by omega) (by have := fu_ge; omega) (by omega) (by omega)
  rw [fM_readsAll, hfz, bdP_s, this, Int.zero_add]
end MODEL4

/-! ===== entries of the program, one lemma a kind (own work) ===== -/
def pr_E (Ts : List Cond) (y : MethodName) (cc : ByteArray) (ret : Option FieldType) (nL : Nat) (pc : Nat) (x : ev_E) : Prop :=
  ev_eok pr_I pr_P pr_S Ts y cc ret nL pc x.1 x.2.1 x.2.2.1 x.2.2.2.1 x.2.2.2.2.1 x.2.2.2.2.2
theorem ev_uwat {x : Cond} (i : Nat) (h : lw_tbl[i]? = some x) (hg : goodWord x = true) : x ∈ ev_UW := List.mem_filter.mpr ⟨List.mem_of_getElem? h, hg⟩
theorem ev_twat {x : Cond} (i : Nat) (h : lw_tbl[i]? = some x) : x ∈ lw_tbl := List.mem_of_getElem? h
section ENT
variable {y : MethodName} {cc : ByteArray} {ret : Option FieldType} {nL pc nx a b c : Nat} {tg : List Nat} {im : ev_Im} {ml : Nat}
theorem en_0 {Ts : List Cond} : ∀ pc, pr_E Ts y cc ret nL pc pr_e0 := fun _ => trivial
theorem en_ct {E : Nat → ev_E → Prop} {n : Nat} {f g : Nat → ev_E} (hf : ∀ pc, E pc (f pc)) (hg : ∀ pc, E pc (g pc)) : ∀ pc, E pc (ev_ct n f g pc) := by
  intro pc
  unfold ev_ct
  cases Nat.ble pc n
  · exact hg pc
  · exact hf pc
theorem en_q {Ts : List Cond} {n : Nat} {x : ev_E} (h : pr_E Ts y cc ret nL n x) : ∀ pc, pr_E Ts y cc ret nL pc (pr_q n x pc) := by
  intro pc
  unfold pr_q
  cases e : Nat.beq pc n with
  | false => exact en_0 pc
  | true =>
    have := Nat.eq_of_beq_eq_true e
    subst this
    exact h
local_e
end ENT

/-! ===== one instruction: no call, no end (own work, by program out of 97j: wip/p67/mkone.py) ===== -/
def ev_op1 : List Nat := [1, 2, 6, 7, 9, 10, 12, 13, 14, 15, 16, 17, 18, 19, 20, 21, 22, 23, 24, 25, 26, 27, 28, 29, 30, 33, 34, 36, 42, 43, 47]
section ONE
variable {D : va_G} {aC : Nat → ClassId} {b : ev_B} {B0 L : Nat} {σ : Nat → Int32}
variable {Φ : ev_P} {Sg : List (String × (Nat × String))} {I : Nat → ev_Im} {P : Nat → ev_M} {l : Launch}
variable {p : Program} {e : Env} {R : Room} {s : State} {m : MethodId} {args : Array Value} {below : List Frame} {meth : Method} {c : Code} {Q : State → Prop}
variable {cc : ByteArray} {nL : Nat} {Ts : List Cond} {y : MethodName} {ret : Option FieldType}
variable {M : ev_M} {k : ev_N} {cl : ev_F} {op nx a b' c' pc : Nat} {tg : List Nat} {loc : ev_L} {st : List ev_V} {w : ev_W} {r : ev_S}
theorem ev_one (hΦ : ev_FO Φ σ) (hL : Φ.1 ≤ 5000 → Φ.1 = L) (hF : ev_Fx D aC b B0 L σ p s m args meth c cc nL Ts y.cls Sg) (hname : meth.name = y.name) (hMR : M.2.1 ≤ R.cells ∧ M.2.2.1 ≤ R.slots) (hR1 : 1 ≤ R.frames ∧ 100 ≤ R.locals)
    (hk : ∀ pc loc st w, k pc loc st w = some r → ev_Go D aC b B0 σ p l e R s m args below meth c Q nL pc loc st w) (hop : op ∈ ev_op1) (hok : ev_eok I P Sg Ts y cc ret nL pc op nx a b' c' tg) (h : ev_sel op Φ M k cl nx a b' c' tg pc loc st w = some r) : ev_Go D aC b B0 σ p l e R s m args below meth c Q nL pc loc st w := by
  unfold ev_op1 at hop
  simp only [List.mem_cons, List.not_mem_nil, or_false] at hop
  rcases hop with rfl | rfl | rfl | rfl | rfl | rfl | rfl | rfl | rfl | rfl | rfl | rfl | rfl | rfl | rfl | rfl | rfl | rfl | rfl | rfl | rfl | rfl | rfl | rfl | rfl | rfl | rfl | rfl | rfl | rfl | rfl
  · exact ev_o_int hF hk (show ev_h_int Φ M k cl nx a b' c' tg pc loc st w = some r from h) hok
  · exact ev_o_null hF hk (show ev_h_null Φ M k cl nx a b' c' tg pc loc st w = some r from h) hok
  · exact ev_o_iload hF hk (show ev_h_iload Φ M k cl nx a b' c' tg pc loc st w = some r from h) hok
  · exact ev_o_aload hF hk (show ev_h_aload Φ M k cl nx a b' c' tg pc loc st w = some r from h) hok
  · exact ev_o_istore hF hk (show ev_h_istore Φ M k cl nx a b' c' tg pc loc st w = some r from h) hok
  · exact ev_o_astore hF hk (show ev_h_astore Φ M k cl nx a b' c' tg pc loc st w = some r from h) hok
  · exact ev_o_iinc hF hk (show ev_h_iinc Φ M k cl nx a b' c' tg pc loc st w = some r from h) hok
  · exact ev_o_iadd hF hk (show ev_h_iadd Φ M k cl nx a b' c' tg pc loc st w = some r from h) hok
  · exact ev_o_isub hF hk (show ev_h_isub Φ M k cl nx a b' c' tg pc loc st w = some r from h) hok
  · exact ev_o_ibin hF hk (show ev_h_ibin Φ M k cl nx a b' c' tg pc loc st w = some r from h) hok
  · exact ev_o_if0 hF hΦ hk (show ev_h_if0 Φ M k cl nx a b' c' tg pc loc st w = some r from h) hok
  · exact ev_o_icmp hF hΦ hk (show ev_h_icmp Φ M k cl nx a b' c' tg pc loc st w = some r from h) hok
  · exact ev_o_acmp hF hk (show ev_h_acmp Φ M k cl nx a b' c' tg pc loc st w = some r from h) hok
  · exact ev_o_isnull hF hk (show ev_h_isnull Φ M k cl nx a b' c' tg pc loc st w = some r from h) hok
  · exact ev_o_goto hF hk (show ev_h_goto Φ M k cl nx a b' c' tg pc loc st w = some r from h) hok
  · exact ev_o_dup hF hk (show ev_h_dup Φ M k cl nx a b' c' tg pc loc st w = some r from h) hok
  · exact ev_o_dup2 hF hk (show ev_h_dup2 Φ M k cl nx a b' c' tg pc loc st w = some r from h) hok
  · exact ev_o_pop hF hk (show ev_h_pop Φ M k cl nx a b' c' tg pc loc st w = some r from h) hok
  · exact ev_o_getf hF hk (show ev_h_getf Φ M k cl nx a b' c' tg pc loc st w = some r from h) hok
  · refine ev_o_putf hF hk (show ev_h_putf Φ M k cl nx a b' c' tg pc loc st w = some r from h) ?_
    rw [hname]
    exact hok
  · exact ev_o_alen hF hL hk (show ev_h_alen Φ M k cl nx a b' c' tg pc loc st w = some r from h) hok
  · exact ev_o_iald hF hL hΦ hk (show ev_h_iald Φ M k cl nx a b' c' tg pc loc st w = some r from h) hok
  · exact ev_o_iast hF hk (show ev_h_iast Φ M k cl nx a b' c' tg pc loc st w = some r from h) hok
  · exact ev_o_ald hF hk (show ev_h_ald Φ M k cl nx a b' c' tg pc loc st w = some r from h) hok
  · exact ev_o_bast hF hk (show ev_h_bast Φ M k cl nx a b' c' tg pc loc st w = some r from h) hok
  · exact ev_o_new hF hMR hk (show ev_h_new Φ M k cl nx a b' c' tg pc loc st w = some r from h) hok
  · exact ev_o_newa hF hMR hk (show ev_h_newa Φ M k cl nx a b' c' tg pc loc st w = some r from h) hok
  · exact ev_o_objinit hF hR1 hk (show ev_h_objinit Φ M k cl nx a b' c' tg pc loc st w = some r from h) hok
  · exact ev_o_switch hF hΦ hk (show ev_h_switch Φ M k cl nx a b' c' tg pc loc st w = some r from h) hok
  · exact ev_o_cv hF hk (show ev_h_cv Φ M k cl nx a b' c' tg pc loc st w = some r from h) hok
  · exact ev_o_idiv hF hk (show ev_h_idiv Φ M k cl nx a b' c' tg pc loc st w = some r from h) hok
end ONE

/-! ===== calls that change the tree, in both, more (own work) ===== -/
section PAR30
variable {g g' G G' H H' K : gH} {r r' d d' dm : Int → Int} {a b c e i j k l m n o p q s t u v w x y z S T gp code : Int}
theorem jo_setCapacity (h : JA G H) : JO t3 True (fC_setCapacity G 0 p c) (fM_setCapacity H 624 p c) := jo_sets (f := 4) (k := 100) h (Or.inl ⟨rfl, rfl⟩) rfl
end PAR30

section
theorem tt_test : True := trivial
theorem tt_ra : (Lean.RArray.branch 5 (.leaf 3) (.leaf 4)).get 7 = 4 := rfl
example : Lean.Grind.CommRing.Expr := .num 3
end

/-! LAYER B: judged, fails -/
section FA
variable {w v z0 : jW} {A : Nat → Int32} {c ci : Nat → Nat} {K : Nat}
theorem c_begin : f_Judge_begin w = some (jup w.1 86 0 (-1), w.2) := by rw [f_Judge_begin, jlw_e]
theorem begin_Sq : Sq (jup w.1 86 0 (-1), w.2) w := Sq_jup (by decide) (Or.inl (by omega))
end FA


/-! LAYER B: calls that change one table -/
section Q1
variable {w v : jW} {A : Nat → Int32} {c ci : Nat → Nat} {K : Nat}

theorem vb_rle {y x : Int32} {n : Nat} (e : y = x) (hn : n < 2 ^ 31) (t : ¬ x < 0 ∧ x ≤ nI n) : vb y 0 n := by
  obtain ⟨i, h1, h2⟩ := rngle hn t
  exact ⟨i, e.trans h2, Nat.zero_le _, h1⟩
theorem vb_r1 {y x : Int32} {n : Nat} (e : y = x) (hn : n < 2 ^ 31) (t : ¬ x < 1 ∧ x ≤ nI n) : vb y 1 n := by
  obtain ⟨i, h1, h2⟩ := rngle hn ⟨fun z => t.1 (Int32.lt_of_lt_of_le z (by decide)), t.2⟩
  refine ⟨i, e.trans h2, ?_, h1⟩
  have := t.1
  rw [h2, show (1 : Int32) = nI 1 from rfl, ii_lt (by omega) (by omega)] at this
  omega

end Q1


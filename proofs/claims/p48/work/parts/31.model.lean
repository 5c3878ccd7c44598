/-! LAYER B: the reference's small readers -/
theorem nI_m1 {n : Nat} (h : n < 2 ^ 31) : (nI n - 1).toInt = (n : Int) - 1 := by
  cases n with
  | zero => decide
  | succ n => rw [nI_pred, nI_toInt (by omega)]; omega
theorem le_m1 {x : Int32} {n : Nat} (h : n < 2 ^ 31) : (x ≤ nI n - 1) = (x < nI n) := by
  rw [Int32.le_iff_toInt_le, Int32.lt_iff_toInt_lt, nI_m1 h, nI_toInt h]
  exact propext ⟨fun q => by omega, fun q => by omega⟩
theorem lt_p1 {x : Int32} {n : Nat} (h : n + 1 < 2 ^ 31) : (x < nI (n + 1)) = (x ≤ nI n) := by
  rw [Int32.le_iff_toInt_le, Int32.lt_iff_toInt_lt, nI_toInt h, nI_toInt (by omega)]
  exact propext ⟨fun q => by omega, fun q => by omega⟩
/-- an argument that is in a range is a number -/
theorem rng {x : Int32} {n : Nat} (hn : n < 2 ^ 31) (h : ¬ x < 0 ∧ x < nI n) : ∃ i, i < n ∧ x = nI i := by
  obtain ⟨j, hj, rfl⟩ := nI_of h.1
  exact ⟨j, (nI_ltI hj hn).mp h.2, rfl⟩
theorem rngle {x : Int32} {n : Nat} (hn : n < 2 ^ 31) (h : ¬ x < 0 ∧ x ≤ nI n) : ∃ i, i ≤ n ∧ x = nI i := by
  obtain ⟨j, hj, rfl⟩ := nI_of h.1
  exact ⟨j, (nI_leI hj hn).mp h.2, rfl⟩
theorem in_rng {i n : Nat} (hi : i < n) (hn : n < 2 ^ 31) : ¬ nI i < 0 ∧ nI i < nI n := ⟨nI_pos (by omega), nI_lt hi hn⟩
section MB
variable {w : jW}
end MB
/-! where a thing is on a day, out of the reference's array -/
/-- the place after the moves k .. k + m - 1 -/
def msc (A : Nat → Int32) (t : Nat) (d : Int32) : Nat → Nat → Int32 → Int32
  | 0, _, at_ => at_
  | m + 1, k, at_ => msc A t d m (k + 1) (if A (720 + 8 * k) = nI t ∧ A (720 + 8 * k + 1) ≤ d then (if d < A (720 + 8 * k + 4) then 100 else A (720 + 8 * k + 3)) else at_)
def mwh (A : Nat → Int32) (nm t : Nat) (d : Int32) : Int32 :=
  if d < A (240 + 12 * t + 4) then 102
  else if ¬ A (240 + 12 * t + 7) < 0 ∧ ¬ d < A (240 + 12 * t + 7) then 101
  else msc A t d nm 0 (A (240 + 12 * t + 5))

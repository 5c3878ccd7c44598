/-! LAYER B: both sides' kinds of a token -/
section AG
variable {w v z0 : jW} {P : Nat → Int32} {n : Nat}
theorem c_splitA (hP : ∀ k, k < n → vb (P k) 0 255) {r0 : Nat} (ht : Tc w P n) (h : JR w 81 3 301 r0) : ∃ (v : jW) (R : Nat), f_Tokens_split w = some v ∧ JR v 81 3 301 (R + 1) ∧ (∀ i, i ≤ R → Trw v P n i (tkS P n i)) ∧ (∀ i, i < R → ¬ svF P n (tkS P n i) < 0) ∧ svF P n (tkS P n R) < 0 ∧ Xs v w := by
  have h3 := ht.1.2.2.1
  obtain ⟨w1, hw1⟩ : ∃ w1 : jW, w1 = (jup (jup w.1 81 2 (nI 0)) 78 2 (nI 0), w.2) := ⟨_, rfl⟩
  have x1 : Xs w1 w := by
    refine ⟨fun b q1 q2 _ => ?_, fun j q => ?_, ?_⟩
    · rw [hw1]; dsimp only; rw [jup_fn q1, jup_fn q2]
    · rw [hw1]; dsimp only; rw [jup_k q, jup_ne (by omega)]
    · rw [hw1]
  have j1 : JR w1 81 3 301 0 := by
    refine ⟨?_, ?_, by omega, h.2.2.2⟩
    · rw [hw1]; dsimp only; rw [jup_ne (by omega), jup_k (by omega)]; exact h.1
    · rw [hw1]; dsimp only; rw [jup_ne (by omega), jup_eq]
  obtain ⟨v, R, r1, r2, r3, r4, r5, r6⟩ := c_split hP n 0 0 jfu 0 w1 (by omega) (by omega) (by omega) (by omega) (by unfold jfu; omega) (Xs_Tc x1 ht) j1 (by rw [hw1]; dsimp only; rw [jup_eq]) rfl (fun i hi => absurd hi (Nat.not_lt_zero i))
  refine ⟨v, R, ?_, r2, r3, r4, r5, Xs_t r6 x1⟩
  rw [f_Tokens_split, show f_Rows_cut 81 0 w = _ from c_cut h (m := 0) (by omega), ob, jlw_e]
  dsimp only
  exact (congrArg (f_Tokens_split_h15 jfu 0) hw1.symm).trans r1
end AG

/-! LAYER B: more calls that only look -/
section LO
variable {w v : jW} {A : Nat → Int32} {c ci : Nat → Nat} {K : Nat}
theorem nle {x : Int32} {n : Nat} (h : ¬ x ≤ nI n) (hn : n < 2 ^ 31) : x < 0 ∨ ¬ x < nI (n + 1) := by
  by_cases q : x < 0
  · exact Or.inl q
  · refine Or.inr (fun z => h ?_)
    rw [Int32.le_iff_toInt_le, nI_toInt hn]
    rw [Int32.lt_iff_toInt_lt] at z
    by_cases e : n + 1 < 2 ^ 31
    · rw [nI_toInt e] at z; omega
    · have := Int32.toInt_lt x
      omega
/-- a thing's numbers as they are asked -/
def vth (A : Nat → Int32) (c : Nat → Nat) (t j : Nat) : Int32 := if j ≤ 4 then A (240 + 12 * t + j) else if j = 5 then A (240 + 12 * t + 6) else nI (cmv A t (c 4))
theorem c_thcol (H : RA w 3 A c K) {t j : Nat} (ht : t < c 3) (hj : j ≤ 6) : f_Rows_at 10 (nI t) (nI j) w = some (vth A c t j, w) := by
  rcases (show j = 0 ∨ j = 1 ∨ j = 2 ∨ j = 3 ∨ j = 4 ∨ j = 5 ∨ j = 6 by omega) with q | q | q | q | q | q | q <;> subst q
  · exact a_th0 H ht
  · exact a_th1 H ht
  · exact a_th2 H ht
  · exact a_th3 H ht
  · exact a_th4 H ht
  · exact a_th5 H ht
  · obtain ⟨nt, nm, g1, g2, g3, g4, g5, g6⟩ := p_Rchain H
    have l3 := l_3 H
    have l4 := l_4 H
    have e2 : nm = c 4 := (nI_eq (by omega) (by omega)).mp (g2.symm.trans (h_4 H))
    have e3 : nt = c 3 := (nI_eq (by omega) (by omega)).mp (g1.symm.trans (h_3 H))
    subst e2; subst e3
    exact (a_th6 H ht).trans (congrArg (fun z => some (z, w)) (g5 t ht).2)
def vvi (A : Nat → Int32) (i j : Nat) : Int32 := if j ≤ 4 then A (11280 + 12 * i + 3 + j) else if j = 5 then A (11280 + 12 * i + 8) else A (11280 + 12 * i + 2)
theorem c_vicol (H : RA w 3 A c K) {i j : Nat} (hi : i < c 8) (hj : j ≤ 6) : f_Rows_at 26 (nI i) (nI j) w = some (vvi A i j, w) := by
  rcases (show j = 0 ∨ j = 1 ∨ j = 2 ∨ j = 3 ∨ j = 4 ∨ j = 5 ∨ j = 6 by omega) with q | q | q | q | q | q | q <;> subst q
  · exact a_vi0 H hi
  · exact a_vi1 H hi
  · exact a_vi2 H hi
  · exact a_vi3 H hi
  · exact a_vi4 H hi
  · exact a_vi5 H hi
  · exact a_vi6 H hi
theorem rng_n {x : Int32} {n : Nat} (g : ¬ (¬ x < 0 ∧ x < nI n)) : x < 0 ∨ ¬ x < nI n := by
  by_cases z : x < 0
  · exact Or.inl z
  · exact Or.inr (fun z2 => g ⟨z, z2⟩)
def vac (A : Nat → Int32) (i j : Nat) : Int32 := if j ≤ 2 then A (13080 + 8 * i + j) else aof A (A (13080 + 8 * i)).toNatClampNeg (A (13080 + 8 * i + 3)).toNatClampNeg
theorem act_un (H : RA w 3 A c K) {i : Nat} (hi : i < c 11) : ∃ k d o, A (13080 + 8 * i) = nI k ∧ A (13080 + 8 * i + 1) = nI d ∧ A (13080 + 8 * i + 3) = nI o ∧ k ≤ 6 ∧ d ≤ c 0 ∧ vb (A (13080 + 8 * i + 2)) 0 1 ∧ o < kof k c ∧ o < 200 ∧ (k = 2 → A (13080 + 8 * i + 4) = -1 ∨ vb (A (13080 + 8 * i + 4)) 0 d) ∧ w.1 33 (i * 5 + 3) = aof A k o ∧ w.1 33 (i * 5 + 4) = if k = 2 then A (13080 + 8 * i + 4) else nI o := by
  obtain ⟨k, d, o, h1, h2, h3, h4, h5, h6, h7, h8, h9⟩ := p_Iact H i hi
  have l3 := l_3 H
  have l4 := l_4 H
  have l7 := l_7 H
  have l8 := l_8 H
  have l10 := l_10 H
  have ho : o < 200 := by
    unfold kof at h7
    repeat' split at h7
    all_goals omega
  obtain ⟨q1, q2⟩ := p_Ract2 H i k o hi h1 h4 h3 (by omega)
  exact ⟨k, d, o, h1, h2, h3, h4, h5, h6, h7, ho, h8, q1, q2⟩
theorem c_accol (H : RA w 3 A c K) {i j : Nat} (hi : i < c 11) (hj : j ≤ 3) : f_Rows_at 32 (nI i) (nI j) w = some (vac A i j, w) := by
  rcases (show j = 0 ∨ j = 1 ∨ j = 2 ∨ j = 3 by omega) with q | q | q | q <;> subst q
  · exact a_ac0 H hi
  · exact a_ac1 H hi
  · exact a_ac2 H hi
  · obtain ⟨k, d, o, h1, h2, h3, h4, h5, h6, h7, ho, h8, q1, q2⟩ := act_un H hi
    refine (a_ac3 H hi).trans (congrArg (fun z => some (z, w)) ?_)
    rw [vac, if_neg (by omega), h1, h3, nI_clamp (by omega), nI_clamp (by omega)]
    exact q1
end LO


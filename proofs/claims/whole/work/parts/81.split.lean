/-! LAYER B: the class's table of tokens -/
section SP
variable {w v z0 : jW} {P : Nat → Int32} {n : Nat}
/-- the class's kind of the token that starts at s -/
def ckF (P : Nat → Int32) (n s : Nat) : Int32 := if svF P n s < 0 then 28 else if dgB (svF P n s) = true then 27 else if ltB (svF P n s) = true then ixF (ltF P n (n - s) s) wls 0 else sgF P n s
/-- where the i-th token starts -/
def tkS (P : Nat → Int32) (n : Nat) : Nat → Nat
  | 0 => rn blB P n 0
  | i + 1 => rn blB P n (nxF P n (tkS P n i))
def Trw (v : jW) (P : Nat → Int32) (n i s : Nat) : Prop := v.1 82 (i * 3) = ckF P n s ∧ v.1 82 (i * 3 + 1) = nI s ∧ (ckF P n s = 27 → v.1 82 (i * 3 + 2) = nI (min 10000 (nuF P n (n - s) s 0)))
/-- only the tokens' table and the place differ -/
def Xs (v w : jW) : Prop := (∀ b, b ≠ 78 → b ≠ 81 → b ≠ 82 → v.1 b = w.1 b) ∧ (∀ j, j ≠ 2 → v.1 78 j = w.1 78 j) ∧ v.2 = w.2
theorem Xs_t {u : jW} (h : Xs u v) (g : Xs v w) : Xs u w := ⟨fun b q1 q2 q3 => (h.1 b q1 q2 q3).trans (g.1 b q1 q2 q3), fun j q => (h.2.1 j q).trans (g.2.1 j q), h.2.2.trans g.2.2⟩
theorem Xs_c (h : Xc v w) : Xs v w := ⟨fun b q1 _ _ => h.1 b q1, h.2.1, h.2.2⟩
theorem Xs_Tc (h : Xs v w) (ht : Tc w P n) : Tc v P n := ⟨JR_eq ht.1 (h.1 79 (by omega) (by omega) (by omega)), fun k hk => by rw [h.1 80 (by omega) (by omega) (by omega)]; exact ht.2 k hk⟩
theorem nx_gt {s : Nat} (hs : s < n) (h0 : ¬ svF P n s < 0) : s < nxF P n s ∧ nxF P n s ≤ n ∨ s < nxF P n s ∧ nxF P n s = s + 2 ∧ svF P n (s + 1) = 61 := by
  unfold nxF
  rw [if_neg h0]
  by_cases g2 : dgB (svF P n s) = true
  · rw [if_pos g2, rn_s g2 hs]
    have := rn_b (g := dgB) (P := P) (n := n) (p := s + 1) (by omega)
    exact Or.inl ⟨by omega, by omega⟩
  by_cases g3 : ltB (svF P n s) = true
  · rw [if_neg g2, if_pos g3, rn_s g3 hs]
    have := rn_b (g := ltB) (P := P) (n := n) (p := s + 1) (by omega)
    exact Or.inl ⟨by omega, by omega⟩
  rw [if_neg g2, if_neg g3]
  split
  · rename_i q; exact Or.inr ⟨by omega, rfl, q.2⟩
  · exact Or.inl ⟨by omega, by omega⟩
theorem nx_le {s : Nat} (hs : s < n) (h0 : ¬ svF P n s < 0) : s < nxF P n s ∧ nxF P n s ≤ n := by
  rcases nx_gt hs h0 with h | ⟨h1, h2, h3⟩
  · exact h
  · refine ⟨h1, ?_⟩
    by_cases z : s + 1 < n
    · omega
    · rw [svF_n (by omega)] at h3; exact absurd h3 (by decide)
theorem tkS_le : ∀ i, tkS P n i ≤ n := by
  intro i
  induction i with
  | zero => exact (rn_b (Nat.zero_le n)).2
  | succ i ih =>
    rw [tkS]
    by_cases h0 : svF P n (tkS P n i) < 0
    · have : nxF P n (tkS P n i) = tkS P n i := by unfold nxF; rw [if_pos h0]
      rw [this]; exact (rn_b ih).2
    · have hs : tkS P n i < n := by
        by_cases z : tkS P n i < n
        · exact z
        · rw [svF_n (by omega)] at h0; exact absurd (by decide) h0
      exact (rn_b (nx_le hs h0).2).2
end SP

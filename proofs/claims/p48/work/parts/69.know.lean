/-! LAYER B: what a side may know of a site: fits, quiet, the portal -/
section KN
variable {w v z0 : jW} {A : Nat → Int32} {c ci : Nat → Nat} {K : Nat}
def fitF (A : Nat → Int32) (s t : Nat) : Int32 := if A (240 + 12 * t + 1) + A 14 < A (20 + 4 * s) then 0 else if A (240 + 12 * t + 1) - A 14 ≤ A (20 + 4 * s + 1) then (if A (240 + 12 * t + 2) + A 15 < A (20 + 4 * s + 2) then 0 else if A (240 + 12 * t + 2) - A 15 ≤ A (20 + 4 * s + 3) then 1 else 0) else 0
theorem c_fits (H : RA w 3 A c K) {t s : Nat} (ht : t < c 3) (hs : s < 4) : f_Knowing_fits (nI t) (nI s) w = some (fitF A s t, w) := by
  obtain ⟨k0, k1, k2, k3, k4⟩ := p_Rscal H
  simp (disch := omega) only [f_Knowing_fits, a_th1 H ht, a_th2 H ht, a_so0 H hs, a_so1 H hs, a_so2 H hs, a_so3 H hs, ob, k1, k2]
  unfold fitF
  by_cases g1 : A (240 + 12 * t + 1) + A 14 < A (20 + 4 * s)
  · simp only [if_pos g1]
  by_cases g2 : A (240 + 12 * t + 1) - A 14 ≤ A (20 + 4 * s + 1)
  rotate_left
  · simp only [if_neg g1, if_neg g2]
  by_cases g3 : A (240 + 12 * t + 2) + A 15 < A (20 + 4 * s + 2)
  · simp only [if_neg g1, if_pos g2, if_pos g3]
  by_cases g4 : A (240 + 12 * t + 2) - A 15 ≤ A (20 + 4 * s + 3)
  · simp only [if_neg g1, if_pos g2, if_neg g3, if_pos g4]
  · simp only [if_neg g1, if_pos g2, if_neg g3, if_neg g4]
theorem fit01 (s t : Nat) : fitF A s t = 0 ∨ fitF A s t = 1 := by
  unfold fitF
  split
  · exact Or.inl rfl
  · split
    · split
      · exact Or.inl rfl
      · split
        · exact Or.inr rfl
        · exact Or.inl rfl
    · exact Or.inl rfl
/-- a quiet site by the m visits from the k-th on -/
def qtF (A : Nat → Int32) (x d kn : Int32) : Nat → Nat → Int32
  | 0, _ => 0
  | m + 1, k => if A (11280 + 12 * k + 1) = x ∧ ¬ A (11280 + 12 * k + 2) ≤ d ∧ A (11280 + 12 * k + 2) ≤ kn ∧ A (11280 + 12 * k + 8) = 1 ∧ A (1520 + 4 * (A (11280 + 12 * k + 9)).toNatClampNeg + 1) < d then 1 else qtF A x d kn m (k + 1)
theorem c_quiet (H : RA w 3 A c K) {x kn d : Int32} : ∀ m k f, k + m = c 8 → m < f → f_Knowing_isQuiet_h3 f x d kn (nI k) w = some (qtF A x d kn m k, w) := by
  have l8 := l_8 H
  have l5 := l_5 H
  intro m
  induction m with
  | zero =>
    intro k f hk hf
    obtain ⟨f, rfl⟩ : ∃ j, f = j + 1 := ⟨f - 1, by omega⟩
    rw [f_Knowing_isQuiet_h3, n_vi H, ob]
    dsimp only
    rw [if_neg (nI_nlt (by omega) (by omega))]; rfl
  | succ m ih =>
    intro k f hk hf
    obtain ⟨f, rfl⟩ : ∃ j, f = j + 1 := ⟨f - 1, by omega⟩
    have hk8 : k < c 8 := by omega
    obtain ⟨s, v, e1, e2, e3, e4, e5, e6, e7, e8, e9⟩ := p_Ivis H k hk8
    have iH := ih (k + 1) f (by omega) (by omega)
    simp (disch := omega) only [f_Knowing_isQuiet_h3, ia_1, ia_2, ia_3, ia_4, ia_5, ia_6, ia_7, ia_8, ia_9, ia_20, ia_40, ia_120, ia_140, ia_240, ia_720, ia_1520, ia_1680, ia_9680, ia_11280, ia_12480, ia_12880, ia_13080, ia_20760, ia_20880, ip_0, ip_1, ip_2, ip_3, ip_4, ip_5, ip_6, ip_7, ip_8, ip_9, ip_140, im_2, im_4, im_8, im_12, im_800, nI_clamp, jin_nI, jal_c, jal_n, Bool.and_true, if_true, ob, jlw_e, jk_0, jk_1, jk_2, jk_3, jk_4, jk_5, jk_6, jk_7, jk_8, jk_9, jk_10, jk_11, jk_12, jk_13, jk_14, jk_15, jk_16, jk_17, jk_18, jk_19, jg_0, jg_1, jg_2, jg_3, jg_4, jg_5, jg_6, jg_7, jg_8, jg_9, jg_10, jg_11, jg_12, jg_13, jg_14, jg_15, jg_16, jg_17, jg_18, jg_19, n_vi H, a_vi0 H, a_vi1 H, a_vi2 H, a_vi3 H, a_vi4 H, a_vi5 H, a_vi6 H, a_vi7 H, a_vi8 H, a_vi9 H, ii_lt]
    rw [if_pos hk8, qtF]
    by_cases g1 : A (11280 + 12 * k + 1) = x
    rotate_left
    · rw [if_neg g1, if_neg (fun z => g1 z.1)]; exact iH
    rw [if_pos g1]
    by_cases g3 : A (11280 + 12 * k + 8) = 1
    rotate_left
    · rw [if_neg g3, if_neg (fun z => g3 z.2.2.2.1)]; exact iH
    obtain ⟨l, hl, hl9⟩ := e9 g3
    rw [if_pos g3, p_Rvis2 H k hk8 g3 l hl9 hl]
    simp (disch := omega) only [hl9, ia_1, ia_2, ia_3, ia_4, ia_5, ia_6, ia_7, ia_8, ia_9, ia_20, ia_40, ia_120, ia_140, ia_240, ia_720, ia_1520, ia_1680, ia_9680, ia_11280, ia_12480, ia_12880, ia_13080, ia_20760, ia_20880, ip_0, ip_1, ip_2, ip_3, ip_4, ip_5, ip_6, ip_7, ip_8, ip_9, ip_140, im_2, im_4, im_8, im_12, im_800, nI_clamp, jin_nI, jal_c, jal_n, Bool.and_true, if_true, ob, jlw_e, jk_0, jk_1, jk_2, jk_3, jk_4, jk_5, jk_6, jk_7, jk_8, jk_9, jk_10, jk_11, jk_12, jk_13, jk_14, jk_15, jk_16, jk_17, jk_18, jk_19, jg_0, jg_1, jg_2, jg_3, jg_4, jg_5, jg_6, jg_7, jg_8, jg_9, jg_10, jg_11, jg_12, jg_13, jg_14, jg_15, jg_16, jg_17, jg_18, jg_19]
    by_cases g2 : A (11280 + 12 * k + 2) ≤ d
    · rw [if_pos g2, if_neg (fun z => z.2.1 g2)]; exact iH
    rw [if_neg g2]
    by_cases g5 : A (11280 + 12 * k + 2) ≤ kn
    rotate_left
    · rw [if_neg g5, if_neg (fun z => g5 z.2.2.1)]; exact iH
    rw [if_pos g5]
    by_cases g4 : A (1520 + 4 * l + 1) < d
    · rw [if_pos g4, if_pos ⟨g1, g2, g5, g3, g4⟩]
    · rw [if_neg g4, if_neg (fun z => g4 z.2.2.2.2)]; exact iH
theorem qt_1 {x d kn : Int32} : ∀ m k, qtF A x d kn m k ≠ 0 → ∃ j, k ≤ j ∧ j < k + m ∧ A (11280 + 12 * j + 1) = x ∧ ¬ A (11280 + 12 * j + 2) ≤ d ∧ A (11280 + 12 * j + 2) ≤ kn ∧ A (11280 + 12 * j + 8) = 1 ∧ A (1520 + 4 * (A (11280 + 12 * j + 9)).toNatClampNeg + 1) < d := by
  intro m
  induction m with
  | zero => intro k h; exact absurd rfl h
  | succ m ih =>
    intro k h
    rw [qtF] at h
    split at h
    · rename_i q; exact ⟨k, by omega, by omega, q⟩
    · obtain ⟨j, h1, h2, h3⟩ := ih (k + 1) h
      exact ⟨j, by omega, by omega, h3⟩
theorem qt_2 {x d kn : Int32} : ∀ m k j, k ≤ j → j < k + m → A (11280 + 12 * j + 1) = x → ¬ A (11280 + 12 * j + 2) ≤ d → A (11280 + 12 * j + 2) ≤ kn → A (11280 + 12 * j + 8) = 1 → A (1520 + 4 * (A (11280 + 12 * j + 9)).toNatClampNeg + 1) < d → qtF A x d kn m k ≠ 0 := by
  intro m
  induction m with
  | zero => intro k j h1 h2; omega
  | succ m ih =>
    intro k j h1 h2 q1 q2 q3 q4 q5
    rw [qtF]
    by_cases z : k = j
    · rw [z, if_pos ⟨q1, q2, q3, q4, q5⟩]; exact one_ne
    · split
      · exact one_ne
      · exact ih (k + 1) j (by omega) (by omega) q1 q2 q3 q4 q5
end KN


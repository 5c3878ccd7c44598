/-! LAYER B of p48: calls that are refused -/
section S3
variable {w v : jW} {A : Nat → Int32} {c : Nat → Nat} {K : Nat}
theorem s_make_to (H : RA w 3 A c K) {s : Nat} {so le we : Int32} (hs : s < c 1) (t1 : ¬ so < 0 ∧ so ≤ 3) (t6 : ¬ c 3 = 40) (t2 : ¬ le < 1) (t3 : le ≤ 200) (t4 : ¬ we < 1) (t5 : we ≤ 500) : f_Count_make (nI s) so le we w = if nI (c 0) ≤ 0 ∨ A (40 + 8 * s + 1) = 1 then f_Count_make_j92 (nI s) so le we w else some (-1, w) := by
  have l1 := l_1 H
  have t0 := in_rng hs (show c 1 < 2 ^ 31 by omega)
  rw [f_Count_make, s_si H, ob]
  dsimp only
  rw [b2_p t0, if_neg one_ne, c_isSort, ob]
  dsimp only
  rw [b2_p t1, if_neg one_ne, u_th H, ob]
  dsimp only
  rw [b2_n t6, if_pos rfl, if_neg t2, if_pos t3, if_neg t4, if_pos t5, rs_0 H]
  by_cases z : nI (c 0) ≤ 0
  · rw [if_pos z, if_pos (Or.inl z)]
  · rw [if_neg z, a_si1 H hs, ob]
    dsimp only
    by_cases y : A (40 + 8 * s + 1) = 1
    · rw [if_pos y, if_pos (Or.inr y)]
    · rw [if_neg y, if_neg (fun u => u.elim z y)]
theorem s_moveN (H : RA w 3 A c K) {t s : Nat} (ht : t < c 3) (hs : s < c 1) (h : ∀ p, mwh A (c 4) t (nI (c 0)) = nI p → p < c 1 → p = s ∨ Dis A (c 2) p s (-1)) : f_Count_move (nI t) (nI s) w = some (-1, w) := by
  have l0 := l_0 H
  have l1 := l_1 H
  have l3 := l_3 H
  have l4 := l_4 H
  have t0 := in_rng ht (show c 3 < 2 ^ 31 by omega)
  obtain ⟨p, hp, hp2⟩ := mwh_c (d := nI (c 0)) H ht
  obtain ⟨zw, ew, hzw⟩ := c_way H (nI p) (nI s)
  have hz : zw < 1 := by
    rcases hzw with ⟨i, j, hi, hj, e1, e2, D⟩ | ⟨-, e⟩
    · have e3 := (nI_eq (by omega) (by omega)).mp e1
      have e4 := (nI_eq (by omega) (by omega)).mp e2
      rw [← e3, ← e4] at D
      rcases h p hp (by omega) with q | q
      · rw [q] at D
        rw [Dis_self D]; decide
      · rw [Dis_un D q]; decide
    · rw [e]; decide
  rw [f_Count_move, s_th H, ob]
  dsimp only
  rw [b2_p t0, if_neg one_ne, u_mv H, ob]
  dsimp only
  by_cases z : c 4 = 100
  · rw [b2_p z, if_neg one_ne]
  · rw [b2_n z, if_pos rfl, rs_0 H, c_pl H ht, ob]
    dsimp only
    rw [hp, ew, ob]
    dsimp only
    rw [if_pos hz]
theorem s_stepN (H : RA w 3 A c K) {t : Nat} (ht : t < c 3) (h : ∀ p, mwh A (c 4) t (nI (c 0)) = nI p → p < c 1 → A (40 + 8 * p + 1) = 3 → A (240 + 12 * t + 8) = nI (c 0)) : f_Count_step (nI t) w = some (-1, w) := by
  have l0 := l_0 H
  have l1 := l_1 H
  have l3 := l_3 H
  have l4 := l_4 H
  have t0 := in_rng ht (show c 3 < 2 ^ 31 by omega)
  obtain ⟨p, hp, hp2⟩ := mwh_c (d := nI (c 0)) H ht
  rw [f_Count_step, s_th H, ob]
  dsimp only
  rw [b2_p t0, if_neg one_ne, rs_0 H, c_pl H ht, ob]
  dsimp only
  rw [a_th9 H ht, ob]
  dsimp only
  by_cases hpc : p < c 1
  · rw [hp, a_si1 H hpc, ob]
    dsimp only
    by_cases t2 : A (40 + 8 * p + 1) = 3
    · rw [if_pos t2, rs_0 H, if_pos (h p hp hpc t2)]
    · rw [if_neg t2]
  · rw [hp, x_si H (Or.inr (nI_nlt (by omega) (by omega))), ob]
    dsimp only
    rw [if_neg (by decide)]
theorem s_sealN (H : RA w 3 A c K) {s : Nat} (hs : s < c 1) (h : isl A c (nI s) = true) : f_Count_seal (nI s) w = some (-1, w) := by
  have l1 := l_1 H
  have t0 := in_rng hs (show c 1 < 2 ^ 31 by omega)
  rw [f_Count_seal, s_si H, ob]
  dsimp only
  rw [b2_p t0, if_neg one_ne, u_sl H, ob]
  dsimp only
  by_cases z : c 5 = 40
  · rw [b2_p z, if_neg one_ne]
  · rw [b2_n z, if_pos rfl, c_sealed H, ob]
    dsimp only
    rw [h, bz_t, if_neg one_ne]
theorem s_visitN (H : RA w 3 A c K) {l s : Nat} (hl : l ≤ 1) (hs : s < c 1) (t2 : ¬ A (40 + 8 * s) = nI l) (h0 : c 0 = 0) : f_Count_visit (nI l) (nI s) w = some (-1, w) := by
  have l1 := l_1 H
  have t0 : ¬ nI l < 0 ∧ nI l ≤ 1 := ⟨nI_pos (by omega), nI_le (b := 1) hl (by omega)⟩
  have t1 := in_rng hs (show c 1 < 2 ^ 31 by omega)
  rw [f_Count_visit, f_Count_isAbroad, c_isLand, ob]
  dsimp only
  rw [b2_p t0, if_neg one_ne, s_si H, ob]
  dsimp only
  rw [b2_p t1, if_neg one_ne, a_si0 H hs, ob]
  dsimp only
  rw [if_neg t2, ob, if_neg one_ne, rs_0 H, if_pos (by rw [h0]; rfl)]
theorem s_pictureN (H : RA w 3 A c K) {s : Nat} (hs : s < c 1) (h : c 0 = 0 ∨ c 9 = 100 ∨ A (40 + 8 * s + 3) = 1 ∨ spt A 20760 (nI s) (nI (c 0)) (c 12) 0 = true) : ∃ x, f_Count_picture (nI s) w = some (x, w) := by
  have l0 := l_0 H
  have l1 := l_1 H
  have l12 := l_12 H
  have t0 := in_rng hs (show c 1 < 2 ^ 31 by omega)
  rw [f_Count_picture, s_si H, ob]
  dsimp only
  rw [b2_p t0, if_neg one_ne, rs_0 H]
  by_cases z0 : nI (c 0) = 0
  · rw [if_pos z0]; exact ⟨_, rfl⟩
  rw [if_neg z0, u_pc H, ob]
  dsimp only
  by_cases z1 : c 9 = 100
  · rw [b2_p z1, if_neg one_ne]; exact ⟨_, rfl⟩
  rw [b2_n z1, if_pos rfl, a_si3 H hs, ob]
  dsimp only
  by_cases z2 : A (40 + 8 * s + 3) = 1
  · rw [if_pos z2]; exact ⟨_, rfl⟩
  rw [if_neg z2, c_spot (p_Rcld H) (h_12 H) l12, ob]
  dsimp only
  have z3 : spt A 20760 (nI s) (nI (c 0)) (c 12) 0 = true := by
    rcases h with h | h | h | h
    · exact absurd (by rw [h]; rfl) z0
    · exact absurd h z1
    · exact absurd h z2
    · exact h
  rw [rs_0 H, z3, bz_t, if_neg one_ne]
  exact ⟨_, rfl⟩
theorem s_roadN (H : RA w 3 A c K) {i j : Nat} {d : Int32} (hi : i < c 1) (hj : j < c 1) (h : i = j) : f_Count_road (nI i) (nI j) d w = some (-1, w) := by
  have l1 := l_1 H
  have t0 := in_rng hi (show c 1 < 2 ^ 31 by omega)
  have t1 := in_rng hj (show c 1 < 2 ^ 31 by omega)
  rw [f_Count_road, s_si H, ob]
  dsimp only
  rw [b2_p t0, if_neg one_ne, s_si H, ob]
  dsimp only
  rw [b2_p t1, if_neg one_ne, if_pos (congrArg nI h)]
theorem sys_3 {d : Int32} (h6 : c 6 = 0) : sys A c d 3 = 3 := by
  unfold sys
  rw [h6]; rfl
theorem spt_0 {b : Nat} {x y : Int32} {k : Nat} : spt A b x y 0 k = false := rfl
end S3

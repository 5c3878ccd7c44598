/-! LAYER B: calls that change one table -/
section Q1
variable {w v : jW} {A : Nat → Int32} {c ci : Nat → Nat} {K : Nat}

theorem vb_rle {y x : Int32} {n : Nat} (e : y = x) (hn : n < 2 ^ 31) (t : ¬ x < 0 ∧ x ≤ nI n) : vb y 0 n := by
  obtain ⟨i, h1, h2⟩ := rngle hn t
  exact ⟨i, e.trans h2, Nat.zero_le _, h1⟩
theorem vb_r1 {y x : Int32} {n : Nat} (e : y = x) (hn : n < 2 ^ 31) (t : ¬ x < 1 ∧ x ≤ nI n) : vb y 1 n := by
  obtain ⟨i, h1, h2⟩ := rngle hn ⟨fun z => t.1 (Int32.lt_of_lt_of_le z (by decide)), t.2⟩
  refine ⟨i, e.trans h2, ?_, h1⟩
  have := t.1
  rw [h2, show (1 : Int32) = nI 1 from rfl, ii_lt (by omega) (by omega)] at this
  omega

theorem q_cloud (h : Inv w c ci K) (hK : K < 512) (x : Int32) (d : Int32) : Cal w (K + 1) (f_Count_cloud x d) (f_Model_cloud x d) := by
  have H := h.1
  have lK := l_K H
  have l0 := l_0 H
  have l1 := l_1 H
  have l2 := l_2 H
  have l3 := l_3 H
  have l4 := l_4 H
  have l5 := l_5 H
  have l6 := l_6 H
  have l7 := l_7 H
  have l8 := l_8 H
  have l9 := l_9 H
  have l10 := l_10 H
  have l11 := l_11 H
  have l12 := l_12 H
  have l13 := l_13 H
  by_cases t0 : ¬ x < 0 ∧ x < nI (c 1)
  rotate_left
  · exact Cal_f (x := -1) h hK (by simp (disch := omega) only [f_Count_cloud, ob, b2_0, bz_0, ↓reduceIte, ite_self, not_true_eq_false, not_false_eq_true, and_true, true_and, and_self, jlw_e, one_ne, Bool.true_eq_false, Bool.false_eq_true, false_and, and_false, s_si H, c_isDay, u_cl H, c_spot (p_Rcld H) (h_12 H) l12, t0]) (by simp (disch := omega) only [f_Model_cloud, ob, b2_0, bz_0, ↓reduceIte, ite_self, not_true_eq_false, not_false_eq_true, and_true, true_and, and_self, jlw_e, one_ne, Bool.true_eq_false, Bool.false_eq_true, false_and, and_false, ia_1, ia_2, ia_3, ia_4, ia_5, ia_6, ia_7, ia_8, ia_9, ia_20, ia_40, ia_120, ia_140, ia_240, ia_720, ia_1520, ia_1680, ia_9680, ia_11280, ia_12480, ia_12880, ia_13080, ia_20760, ia_20880, ip_0, ip_1, ip_2, ip_3, ip_4, ip_5, ip_6, ip_7, ip_8, ip_9, ip_140, im_2, im_4, im_8, im_12, im_800, nI_clamp, jin_nI, jal_c, jal_n, Bool.and_true, if_true, ob, jlw_e, jk_0, jk_1, jk_2, jk_3, jk_4, jk_5, jk_6, jk_7, jk_8, jk_9, jk_10, jk_11, jk_12, jk_13, jk_14, jk_15, jk_16, jk_17, jk_18, jk_19, jg_0, jg_1, jg_2, jg_3, jg_4, jg_5, jg_6, jg_7, jg_8, jg_9, jg_10, jg_11, jg_12, jg_13, jg_14, jg_15, jg_16, jg_17, jg_18, jg_19, mi_site H, m_isDay, m_cloudy (h_12 H) l12, h_12 H, show (nI (c 12) = 60) = (c 12 = 60) from ii_eq (b := 60) (by omega) (by omega), t0])
  obtain ⟨s, hs, rfl⟩ := rng (by omega) t0
  by_cases t1 : ¬ d < 0 ∧ d ≤ 1999
  rotate_left
  · exact Cal_f (x := -1) h hK (by simp (disch := omega) only [f_Count_cloud, ob, b2_0, bz_0, ↓reduceIte, ite_self, not_true_eq_false, not_false_eq_true, and_true, true_and, and_self, jlw_e, one_ne, Bool.true_eq_false, Bool.false_eq_true, false_and, and_false, s_si H, c_isDay, u_cl H, c_spot (p_Rcld H) (h_12 H) l12, t0, t1]) (by simp (disch := omega) only [f_Model_cloud, ob, b2_0, bz_0, ↓reduceIte, ite_self, not_true_eq_false, not_false_eq_true, and_true, true_and, and_self, jlw_e, one_ne, Bool.true_eq_false, Bool.false_eq_true, false_and, and_false, ia_1, ia_2, ia_3, ia_4, ia_5, ia_6, ia_7, ia_8, ia_9, ia_20, ia_40, ia_120, ia_140, ia_240, ia_720, ia_1520, ia_1680, ia_9680, ia_11280, ia_12480, ia_12880, ia_13080, ia_20760, ia_20880, ip_0, ip_1, ip_2, ip_3, ip_4, ip_5, ip_6, ip_7, ip_8, ip_9, ip_140, im_2, im_4, im_8, im_12, im_800, nI_clamp, jin_nI, jal_c, jal_n, Bool.and_true, if_true, ob, jlw_e, jk_0, jk_1, jk_2, jk_3, jk_4, jk_5, jk_6, jk_7, jk_8, jk_9, jk_10, jk_11, jk_12, jk_13, jk_14, jk_15, jk_16, jk_17, jk_18, jk_19, jg_0, jg_1, jg_2, jg_3, jg_4, jg_5, jg_6, jg_7, jg_8, jg_9, jg_10, jg_11, jg_12, jg_13, jg_14, jg_15, jg_16, jg_17, jg_18, jg_19, mi_site H, m_isDay, m_cloudy (h_12 H) l12, h_12 H, show (nI (c 12) = 60) = (c 12 = 60) from ii_eq (b := 60) (by omega) (by omega), t0, t1])
  obtain ⟨dn, hd, rfl⟩ := rngle (n := 1999) (by omega) t1
  by_cases t2 : c 12 = 60
  · exact Cal_f (x := -1) h hK (by simp (disch := omega) only [f_Count_cloud, ob, b2_0, bz_0, ↓reduceIte, ite_self, not_true_eq_false, not_false_eq_true, and_true, true_and, and_self, jlw_e, one_ne, Bool.true_eq_false, Bool.false_eq_true, false_and, and_false, s_si H, c_isDay, u_cl H, c_spot (p_Rcld H) (h_12 H) l12, t0, t1, eq_true t2]) (by simp (disch := omega) only [f_Model_cloud, ob, b2_0, bz_0, ↓reduceIte, ite_self, not_true_eq_false, not_false_eq_true, and_true, true_and, and_self, jlw_e, one_ne, Bool.true_eq_false, Bool.false_eq_true, false_and, and_false, ia_1, ia_2, ia_3, ia_4, ia_5, ia_6, ia_7, ia_8, ia_9, ia_20, ia_40, ia_120, ia_140, ia_240, ia_720, ia_1520, ia_1680, ia_9680, ia_11280, ia_12480, ia_12880, ia_13080, ia_20760, ia_20880, ip_0, ip_1, ip_2, ip_3, ip_4, ip_5, ip_6, ip_7, ip_8, ip_9, ip_140, im_2, im_4, im_8, im_12, im_800, nI_clamp, jin_nI, jal_c, jal_n, Bool.and_true, if_true, ob, jlw_e, jk_0, jk_1, jk_2, jk_3, jk_4, jk_5, jk_6, jk_7, jk_8, jk_9, jk_10, jk_11, jk_12, jk_13, jk_14, jk_15, jk_16, jk_17, jk_18, jk_19, jg_0, jg_1, jg_2, jg_3, jg_4, jg_5, jg_6, jg_7, jg_8, jg_9, jg_10, jg_11, jg_12, jg_13, jg_14, jg_15, jg_16, jg_17, jg_18, jg_19, mi_site H, m_isDay, m_cloudy (h_12 H) l12, h_12 H, show (nI (c 12) = 60) = (c 12 = 60) from ii_eq (b := 60) (by omega) (by omega), t0, t1, eq_true t2])
  by_cases t3 : spt (w.1 94) 20760 (nI s) (nI dn) (c 12) 0 = true
  · exact Cal_f (x := -1) h hK (by simp (disch := omega) only [f_Count_cloud, ob, b2_0, bz_0, ↓reduceIte, ite_self, not_true_eq_false, not_false_eq_true, and_true, true_and, and_self, jlw_e, one_ne, Bool.true_eq_false, Bool.false_eq_true, false_and, and_false, s_si H, c_isDay, u_cl H, c_spot (p_Rcld H) (h_12 H) l12, t0, t1, t2, t3]) (by simp (disch := omega) only [f_Model_cloud, ob, b2_0, bz_0, ↓reduceIte, ite_self, not_true_eq_false, not_false_eq_true, and_true, true_and, and_self, jlw_e, one_ne, Bool.true_eq_false, Bool.false_eq_true, false_and, and_false, ia_1, ia_2, ia_3, ia_4, ia_5, ia_6, ia_7, ia_8, ia_9, ia_20, ia_40, ia_120, ia_140, ia_240, ia_720, ia_1520, ia_1680, ia_9680, ia_11280, ia_12480, ia_12880, ia_13080, ia_20760, ia_20880, ip_0, ip_1, ip_2, ip_3, ip_4, ip_5, ip_6, ip_7, ip_8, ip_9, ip_140, im_2, im_4, im_8, im_12, im_800, nI_clamp, jin_nI, jal_c, jal_n, Bool.and_true, if_true, ob, jlw_e, jk_0, jk_1, jk_2, jk_3, jk_4, jk_5, jk_6, jk_7, jk_8, jk_9, jk_10, jk_11, jk_12, jk_13, jk_14, jk_15, jk_16, jk_17, jk_18, jk_19, jg_0, jg_1, jg_2, jg_3, jg_4, jg_5, jg_6, jg_7, jg_8, jg_9, jg_10, jg_11, jg_12, jg_13, jg_14, jg_15, jg_16, jg_17, jg_18, jg_19, mi_site H, m_isDay, m_cloudy (h_12 H) l12, h_12 H, show (nI (c 12) = 60) = (c 12 = 60) from ii_eq (b := 60) (by omega) (by omega), t0, t1, t2, t3])
  have t3 := Bool.eq_false_iff.mpr t3
  obtain ⟨v1, e1, a1, J1⟩ := ap_open (j_cl H) (by omega) (nI s)
  obtain ⟨v2, e2, a2, J2⟩ := ap_put a1 J1 (j := 1) (by omega) (y := 1) rfl (nI dn)
  have eS : f_State_addSpot 34 (nI s) (nI dn) w = some (nI (c 12), v2) := by rw [f_State_addSpot, e1, ob]; dsimp only; rw [e2, ob]
  have eC : f_Count_cloud (nI s) (nI dn) w = some (nI (c 12 + 1), v2) := by simp (disch := omega) only [f_Count_cloud, ob, b2_0, bz_0, ↓reduceIte, ite_self, not_true_eq_false, not_false_eq_true, and_true, true_and, and_self, jlw_e, one_ne, Bool.true_eq_false, Bool.false_eq_true, false_and, and_false, s_si H, c_isDay, u_cl H, c_spot (p_Rcld H) (h_12 H) l12, t0, t1, t2, t3, rs_0 H, eS, ip_1]
  have e94 : v2.1 94 = w.1 94 := Ap_fn a2 (by omega) (by omega)
  have H' : RA w 3 (v2.1 94) c K := by rw [e94]; exact H
  obtain ⟨W, hW⟩ : ∃ W : jW, W = ((jup (jup (jup v2.1 94 (20760 + 2 * c 12) (nI s)) 94 (20760 + 2 * c 12 + 1) (nI dn)) 94 (12) (nI (c 12 + 1))), v2.2) := ⟨_, rfl⟩
  have f94 : ∀ b, b ≠ 94 → W.1 b = v2.1 b := fun b hb => by rw [hW]; dsimp only; rw [jup_fn hb, jup_fn hb, jup_fn hb]
  have g0 : W.1 94 (20760 + 2 * c 12) = nI s := by rw [hW]; simp (disch := omega) only [jup_k, jup_eq]
  have g1 : W.1 94 (20760 + 2 * c 12 + 1) = nI dn := by rw [hW]; simp (disch := omega) only [jup_k, jup_eq]
  have g2 : W.1 94 (12) = nI (c 12 + 1) := by rw [hW]; simp (disch := omega) only [jup_k, jup_eq]
  have eM : f_Model_cloud (nI s) (nI dn) v2 = some (nI (c 12 + 1), W) := by
    rw [hW]
    simp (disch := omega) only [f_Model_cloud, ob, b2_0, bz_0, ↓reduceIte, ite_self, not_true_eq_false, not_false_eq_true, and_true, true_and, and_self, jlw_e, one_ne, Bool.true_eq_false, Bool.false_eq_true, false_and, and_false, ia_1, ia_2, ia_3, ia_4, ia_5, ia_6, ia_7, ia_8, ia_9, ia_20, ia_40, ia_120, ia_140, ia_240, ia_720, ia_1520, ia_1680, ia_9680, ia_11280, ia_12480, ia_12880, ia_13080, ia_20760, ia_20880, ip_0, ip_1, ip_2, ip_3, ip_4, ip_5, ip_6, ip_7, ip_8, ip_9, ip_140, im_2, im_4, im_8, im_12, im_800, nI_clamp, jin_nI, jal_c, jal_n, Bool.and_true, if_true, ob, jlw_e, jk_0, jk_1, jk_2, jk_3, jk_4, jk_5, jk_6, jk_7, jk_8, jk_9, jk_10, jk_11, jk_12, jk_13, jk_14, jk_15, jk_16, jk_17, jk_18, jk_19, jg_0, jg_1, jg_2, jg_3, jg_4, jg_5, jg_6, jg_7, jg_8, jg_9, jg_10, jg_11, jg_12, jg_13, jg_14, jg_15, jg_16, jg_17, jg_18, jg_19, mi_site H', m_isDay, m_cloudy (h_12 H') l12, h_12 H', show (nI (c 12) = 60) = (c 12 = 60) from ii_eq (b := 60) (by omega) (by omega), t0, t1, t2, t3, e94, h_12 H, h_0 H, nI_pred, jup_eq, jup_k, jup_ne]
  have fA : ∀ k, k < 21000 → ¬ (k = 12 ∨ k = 20760 + 2 * c 12 ∨ k = 20760 + 2 * c 12 + 1) → W.1 94 k = w.1 94 k := fun k _ hE => by rw [hW]; dsimp only; rw [jup_k (by omega), jup_k (by omega), jup_k (by omega), e94]
  have hv : ∀ j, j < 2 → id j < 2 → W.1 35 (c 12 * 2 + j) = W.1 94 (20760 + 2 * c 12 + id j) := fun j hj _ => by
    rw [f94 35 (by omega), a2.2.1 j hj]
    rcases (show j = 0 ∨ j = 1 by omega) with z | z <;> subst z
    · exact g0.symm
    · exact g1.symm
  have ha : W.1 34 2 = nI (c 12 + 1) := by rw [f94 34 (by omega)]; exact a2.1
  have hw : ∀ b j, 3 ≤ b → b < 38 → ¬ (b = 34 ∧ j = 2 ∨ b = 35 ∧ c 12 * 2 ≤ j ∧ j < c 12 * 2 + 2) → W.1 b j = w.1 b j := fun b j q1 q2 q3 => by
    rw [f94 b (by omega)]; exact a2.2.2 b j q3
  have HR := P_cloud H (s := s) (d := dn) hs hd (by omega) ha g2 hv g0 g1 hw fA
  exact ⟨_, v2, W, _, ci, eC, eM, Inv_K (Inv_of h (Nat.le_refl _) (fun b q1 q2 => by rw [f94 b q2]; exact Ap_fn a2 (by omega) (by omega)) HR) (by omega) (by omega)⟩

theorem q_watch (h : Inv w c ci K) (hK : K < 512) (x : Int32) (d : Int32) : Cal w (K + 1) (f_Count_watch x d) (f_Model_watch x d) := by
  have H := h.1
  have lK := l_K H
  have l0 := l_0 H
  have l1 := l_1 H
  have l2 := l_2 H
  have l3 := l_3 H
  have l4 := l_4 H
  have l5 := l_5 H
  have l6 := l_6 H
  have l7 := l_7 H
  have l8 := l_8 H
  have l9 := l_9 H
  have l10 := l_10 H
  have l11 := l_11 H
  have l12 := l_12 H
  have l13 := l_13 H
  by_cases t0 : ¬ x < 0 ∧ x < nI (c 1)
  rotate_left
  · exact Cal_f (x := -1) h hK (by simp (disch := omega) only [f_Count_watch, ob, b2_0, bz_0, ↓reduceIte, ite_self, not_true_eq_false, not_false_eq_true, and_true, true_and, and_self, jlw_e, one_ne, Bool.true_eq_false, Bool.false_eq_true, false_and, and_false, s_si H, rs_0 H, u_wa H, c_spot (p_Rwat H) (h_13 H) l13, t0]) (by simp (disch := omega) only [f_Model_watch, ob, b2_0, bz_0, ↓reduceIte, ite_self, not_true_eq_false, not_false_eq_true, and_true, true_and, and_self, jlw_e, one_ne, Bool.true_eq_false, Bool.false_eq_true, false_and, and_false, ia_1, ia_2, ia_3, ia_4, ia_5, ia_6, ia_7, ia_8, ia_9, ia_20, ia_40, ia_120, ia_140, ia_240, ia_720, ia_1520, ia_1680, ia_9680, ia_11280, ia_12480, ia_12880, ia_13080, ia_20760, ia_20880, ip_0, ip_1, ip_2, ip_3, ip_4, ip_5, ip_6, ip_7, ip_8, ip_9, ip_140, im_2, im_4, im_8, im_12, im_800, nI_clamp, jin_nI, jal_c, jal_n, Bool.and_true, if_true, ob, jlw_e, jk_0, jk_1, jk_2, jk_3, jk_4, jk_5, jk_6, jk_7, jk_8, jk_9, jk_10, jk_11, jk_12, jk_13, jk_14, jk_15, jk_16, jk_17, jk_18, jk_19, jg_0, jg_1, jg_2, jg_3, jg_4, jg_5, jg_6, jg_7, jg_8, jg_9, jg_10, jg_11, jg_12, jg_13, jg_14, jg_15, jg_16, jg_17, jg_18, jg_19, mi_site H, m_isIn, h_0 H, m_told (h_13 H) l13, h_13 H, show (nI (c 13) = 60) = (c 13 = 60) from ii_eq (b := 60) (by omega) (by omega), t0])
  obtain ⟨s, hs, rfl⟩ := rng (by omega) t0
  by_cases t1 : d < nI (c 0)
  · exact Cal_f (x := -1) h hK (by simp (disch := omega) only [f_Count_watch, ob, b2_0, bz_0, ↓reduceIte, ite_self, not_true_eq_false, not_false_eq_true, and_true, true_and, and_self, jlw_e, one_ne, Bool.true_eq_false, Bool.false_eq_true, false_and, and_false, s_si H, rs_0 H, u_wa H, c_spot (p_Rwat H) (h_13 H) l13, t0, eq_true t1]) (by simp (disch := omega) only [f_Model_watch, ob, b2_0, bz_0, ↓reduceIte, ite_self, not_true_eq_false, not_false_eq_true, and_true, true_and, and_self, jlw_e, one_ne, Bool.true_eq_false, Bool.false_eq_true, false_and, and_false, ia_1, ia_2, ia_3, ia_4, ia_5, ia_6, ia_7, ia_8, ia_9, ia_20, ia_40, ia_120, ia_140, ia_240, ia_720, ia_1520, ia_1680, ia_9680, ia_11280, ia_12480, ia_12880, ia_13080, ia_20760, ia_20880, ip_0, ip_1, ip_2, ip_3, ip_4, ip_5, ip_6, ip_7, ip_8, ip_9, ip_140, im_2, im_4, im_8, im_12, im_800, nI_clamp, jin_nI, jal_c, jal_n, Bool.and_true, if_true, ob, jlw_e, jk_0, jk_1, jk_2, jk_3, jk_4, jk_5, jk_6, jk_7, jk_8, jk_9, jk_10, jk_11, jk_12, jk_13, jk_14, jk_15, jk_16, jk_17, jk_18, jk_19, jg_0, jg_1, jg_2, jg_3, jg_4, jg_5, jg_6, jg_7, jg_8, jg_9, jg_10, jg_11, jg_12, jg_13, jg_14, jg_15, jg_16, jg_17, jg_18, jg_19, mi_site H, m_isIn, h_0 H, m_told (h_13 H) l13, h_13 H, show (nI (c 13) = 60) = (c 13 = 60) from ii_eq (b := 60) (by omega) (by omega), t0, eq_true t1])
  by_cases t2 : d ≤ 1999
  rotate_left
  · exact Cal_f (x := -1) h hK (by simp (disch := omega) only [f_Count_watch, ob, b2_0, bz_0, ↓reduceIte, ite_self, not_true_eq_false, not_false_eq_true, and_true, true_and, and_self, jlw_e, one_ne, Bool.true_eq_false, Bool.false_eq_true, false_and, and_false, s_si H, rs_0 H, u_wa H, c_spot (p_Rwat H) (h_13 H) l13, t0, t1, t2]) (by simp (disch := omega) only [f_Model_watch, ob, b2_0, bz_0, ↓reduceIte, ite_self, not_true_eq_false, not_false_eq_true, and_true, true_and, and_self, jlw_e, one_ne, Bool.true_eq_false, Bool.false_eq_true, false_and, and_false, ia_1, ia_2, ia_3, ia_4, ia_5, ia_6, ia_7, ia_8, ia_9, ia_20, ia_40, ia_120, ia_140, ia_240, ia_720, ia_1520, ia_1680, ia_9680, ia_11280, ia_12480, ia_12880, ia_13080, ia_20760, ia_20880, ip_0, ip_1, ip_2, ip_3, ip_4, ip_5, ip_6, ip_7, ip_8, ip_9, ip_140, im_2, im_4, im_8, im_12, im_800, nI_clamp, jin_nI, jal_c, jal_n, Bool.and_true, if_true, ob, jlw_e, jk_0, jk_1, jk_2, jk_3, jk_4, jk_5, jk_6, jk_7, jk_8, jk_9, jk_10, jk_11, jk_12, jk_13, jk_14, jk_15, jk_16, jk_17, jk_18, jk_19, jg_0, jg_1, jg_2, jg_3, jg_4, jg_5, jg_6, jg_7, jg_8, jg_9, jg_10, jg_11, jg_12, jg_13, jg_14, jg_15, jg_16, jg_17, jg_18, jg_19, mi_site H, m_isIn, h_0 H, m_told (h_13 H) l13, h_13 H, show (nI (c 13) = 60) = (c 13 = 60) from ii_eq (b := 60) (by omega) (by omega), t0, t1, t2])
  obtain ⟨dn, hd, rfl⟩ := rngle (x := d) (n := 1999) (by omega) ⟨fun z => t1 (Int32.lt_of_lt_of_le z (nI_pos' (by omega))), t2⟩
  by_cases t3 : c 13 = 60
  · exact Cal_f (x := -1) h hK (by simp (disch := omega) only [f_Count_watch, ob, b2_0, bz_0, ↓reduceIte, ite_self, not_true_eq_false, not_false_eq_true, and_true, true_and, and_self, jlw_e, one_ne, Bool.true_eq_false, Bool.false_eq_true, false_and, and_false, s_si H, rs_0 H, u_wa H, c_spot (p_Rwat H) (h_13 H) l13, t0, t1, t2, eq_true t3]) (by simp (disch := omega) only [f_Model_watch, ob, b2_0, bz_0, ↓reduceIte, ite_self, not_true_eq_false, not_false_eq_true, and_true, true_and, and_self, jlw_e, one_ne, Bool.true_eq_false, Bool.false_eq_true, false_and, and_false, ia_1, ia_2, ia_3, ia_4, ia_5, ia_6, ia_7, ia_8, ia_9, ia_20, ia_40, ia_120, ia_140, ia_240, ia_720, ia_1520, ia_1680, ia_9680, ia_11280, ia_12480, ia_12880, ia_13080, ia_20760, ia_20880, ip_0, ip_1, ip_2, ip_3, ip_4, ip_5, ip_6, ip_7, ip_8, ip_9, ip_140, im_2, im_4, im_8, im_12, im_800, nI_clamp, jin_nI, jal_c, jal_n, Bool.and_true, if_true, ob, jlw_e, jk_0, jk_1, jk_2, jk_3, jk_4, jk_5, jk_6, jk_7, jk_8, jk_9, jk_10, jk_11, jk_12, jk_13, jk_14, jk_15, jk_16, jk_17, jk_18, jk_19, jg_0, jg_1, jg_2, jg_3, jg_4, jg_5, jg_6, jg_7, jg_8, jg_9, jg_10, jg_11, jg_12, jg_13, jg_14, jg_15, jg_16, jg_17, jg_18, jg_19, mi_site H, m_isIn, h_0 H, m_told (h_13 H) l13, h_13 H, show (nI (c 13) = 60) = (c 13 = 60) from ii_eq (b := 60) (by omega) (by omega), t0, t1, t2, eq_true t3])
  by_cases t4 : spt (w.1 94) 20880 (nI s) (nI dn) (c 13) 0 = true
  · exact Cal_f (x := -1) h hK (by simp (disch := omega) only [f_Count_watch, ob, b2_0, bz_0, ↓reduceIte, ite_self, not_true_eq_false, not_false_eq_true, and_true, true_and, and_self, jlw_e, one_ne, Bool.true_eq_false, Bool.false_eq_true, false_and, and_false, s_si H, rs_0 H, u_wa H, c_spot (p_Rwat H) (h_13 H) l13, t0, t1, t2, t3, t4]) (by simp (disch := omega) only [f_Model_watch, ob, b2_0, bz_0, ↓reduceIte, ite_self, not_true_eq_false, not_false_eq_true, and_true, true_and, and_self, jlw_e, one_ne, Bool.true_eq_false, Bool.false_eq_true, false_and, and_false, ia_1, ia_2, ia_3, ia_4, ia_5, ia_6, ia_7, ia_8, ia_9, ia_20, ia_40, ia_120, ia_140, ia_240, ia_720, ia_1520, ia_1680, ia_9680, ia_11280, ia_12480, ia_12880, ia_13080, ia_20760, ia_20880, ip_0, ip_1, ip_2, ip_3, ip_4, ip_5, ip_6, ip_7, ip_8, ip_9, ip_140, im_2, im_4, im_8, im_12, im_800, nI_clamp, jin_nI, jal_c, jal_n, Bool.and_true, if_true, ob, jlw_e, jk_0, jk_1, jk_2, jk_3, jk_4, jk_5, jk_6, jk_7, jk_8, jk_9, jk_10, jk_11, jk_12, jk_13, jk_14, jk_15, jk_16, jk_17, jk_18, jk_19, jg_0, jg_1, jg_2, jg_3, jg_4, jg_5, jg_6, jg_7, jg_8, jg_9, jg_10, jg_11, jg_12, jg_13, jg_14, jg_15, jg_16, jg_17, jg_18, jg_19, mi_site H, m_isIn, h_0 H, m_told (h_13 H) l13, h_13 H, show (nI (c 13) = 60) = (c 13 = 60) from ii_eq (b := 60) (by omega) (by omega), t0, t1, t2, t3, t4])
  have t4 := Bool.eq_false_iff.mpr t4
  obtain ⟨v1, e1, a1, J1⟩ := ap_open (j_wa H) (by omega) (nI s)
  obtain ⟨v2, e2, a2, J2⟩ := ap_put a1 J1 (j := 1) (by omega) (y := 1) rfl (nI dn)
  have eS : f_State_addSpot 36 (nI s) (nI dn) w = some (nI (c 13), v2) := by rw [f_State_addSpot, e1, ob]; dsimp only; rw [e2, ob]
  have eC : f_Count_watch (nI s) (nI dn) w = some (nI (c 13 + 1), v2) := by simp (disch := omega) only [f_Count_watch, ob, b2_0, bz_0, ↓reduceIte, ite_self, not_true_eq_false, not_false_eq_true, and_true, true_and, and_self, jlw_e, one_ne, Bool.true_eq_false, Bool.false_eq_true, false_and, and_false, s_si H, rs_0 H, u_wa H, c_spot (p_Rwat H) (h_13 H) l13, t0, t1, t2, t3, t4, rs_0 H, eS, ip_1]
  have e94 : v2.1 94 = w.1 94 := Ap_fn a2 (by omega) (by omega)
  have H' : RA w 3 (v2.1 94) c K := by rw [e94]; exact H
  obtain ⟨W, hW⟩ : ∃ W : jW, W = ((jup (jup (jup v2.1 94 (20880 + 2 * c 13) (nI s)) 94 (20880 + 2 * c 13 + 1) (nI dn)) 94 (13) (nI (c 13 + 1))), v2.2) := ⟨_, rfl⟩
  have f94 : ∀ b, b ≠ 94 → W.1 b = v2.1 b := fun b hb => by rw [hW]; dsimp only; rw [jup_fn hb, jup_fn hb, jup_fn hb]
  have g0 : W.1 94 (20880 + 2 * c 13) = nI s := by rw [hW]; simp (disch := omega) only [jup_k, jup_eq]
  have g1 : W.1 94 (20880 + 2 * c 13 + 1) = nI dn := by rw [hW]; simp (disch := omega) only [jup_k, jup_eq]
  have g2 : W.1 94 (13) = nI (c 13 + 1) := by rw [hW]; simp (disch := omega) only [jup_k, jup_eq]
  have eM : f_Model_watch (nI s) (nI dn) v2 = some (nI (c 13 + 1), W) := by
    rw [hW]
    simp (disch := omega) only [f_Model_watch, ob, b2_0, bz_0, ↓reduceIte, ite_self, not_true_eq_false, not_false_eq_true, and_true, true_and, and_self, jlw_e, one_ne, Bool.true_eq_false, Bool.false_eq_true, false_and, and_false, ia_1, ia_2, ia_3, ia_4, ia_5, ia_6, ia_7, ia_8, ia_9, ia_20, ia_40, ia_120, ia_140, ia_240, ia_720, ia_1520, ia_1680, ia_9680, ia_11280, ia_12480, ia_12880, ia_13080, ia_20760, ia_20880, ip_0, ip_1, ip_2, ip_3, ip_4, ip_5, ip_6, ip_7, ip_8, ip_9, ip_140, im_2, im_4, im_8, im_12, im_800, nI_clamp, jin_nI, jal_c, jal_n, Bool.and_true, if_true, ob, jlw_e, jk_0, jk_1, jk_2, jk_3, jk_4, jk_5, jk_6, jk_7, jk_8, jk_9, jk_10, jk_11, jk_12, jk_13, jk_14, jk_15, jk_16, jk_17, jk_18, jk_19, jg_0, jg_1, jg_2, jg_3, jg_4, jg_5, jg_6, jg_7, jg_8, jg_9, jg_10, jg_11, jg_12, jg_13, jg_14, jg_15, jg_16, jg_17, jg_18, jg_19, mi_site H', m_isIn, h_0 H', m_told (h_13 H') l13, h_13 H', show (nI (c 13) = 60) = (c 13 = 60) from ii_eq (b := 60) (by omega) (by omega), t0, t1, t2, t3, t4, e94, h_13 H, h_0 H, nI_pred, jup_eq, jup_k, jup_ne]
  have fA : ∀ k, k < 21000 → ¬ (k = 13 ∨ k = 20880 + 2 * c 13 ∨ k = 20880 + 2 * c 13 + 1) → W.1 94 k = w.1 94 k := fun k _ hE => by rw [hW]; dsimp only; rw [jup_k (by omega), jup_k (by omega), jup_k (by omega), e94]
  have hv : ∀ j, j < 2 → id j < 2 → W.1 37 (c 13 * 2 + j) = W.1 94 (20880 + 2 * c 13 + id j) := fun j hj _ => by
    rw [f94 37 (by omega), a2.2.1 j hj]
    rcases (show j = 0 ∨ j = 1 by omega) with z | z <;> subst z
    · exact g0.symm
    · exact g1.symm
  have ha : W.1 36 2 = nI (c 13 + 1) := by rw [f94 36 (by omega)]; exact a2.1
  have hw : ∀ b j, 3 ≤ b → b < 38 → ¬ (b = 36 ∧ j = 2 ∨ b = 37 ∧ c 13 * 2 ≤ j ∧ j < c 13 * 2 + 2) → W.1 b j = w.1 b j := fun b j q1 q2 q3 => by
    rw [f94 b (by omega)]; exact a2.2.2 b j q3
  have HR := P_watch H (s := s) (d := dn) hs hd (by omega) ha g2 hv g0 g1 hw fA
  exact ⟨_, v2, W, _, ci, eC, eM, Inv_K (Inv_of h (Nat.le_refl _) (fun b q1 q2 => by rw [f94 b q2]; exact Ap_fn a2 (by omega) (by omega)) HR) (by omega) (by omega)⟩

theorem q_seal (h : Inv w c ci K) (hK : K < 512) (x : Int32) : Cal w (K + 1) (f_Count_seal x) (f_Model_seal x) := by
  have H := h.1
  have lK := l_K H
  have l0 := l_0 H
  have l1 := l_1 H
  have l2 := l_2 H
  have l3 := l_3 H
  have l4 := l_4 H
  have l5 := l_5 H
  have l6 := l_6 H
  have l7 := l_7 H
  have l8 := l_8 H
  have l9 := l_9 H
  have l10 := l_10 H
  have l11 := l_11 H
  have l12 := l_12 H
  have l13 := l_13 H
  by_cases t0 : ¬ x < 0 ∧ x < nI (c 1)
  rotate_left
  · exact Cal_f (x := -1) h hK (by simp (disch := omega) only [f_Count_seal, ob, b2_0, bz_0, ↓reduceIte, ite_self, not_true_eq_false, not_false_eq_true, and_true, true_and, and_self, jlw_e, one_ne, Bool.true_eq_false, Bool.false_eq_true, false_and, and_false, s_si H, u_sl H, c_sealed H, rs_0 H, t0]) (by simp (disch := omega) only [f_Model_seal, ob, b2_0, bz_0, ↓reduceIte, ite_self, not_true_eq_false, not_false_eq_true, and_true, true_and, and_self, jlw_e, one_ne, Bool.true_eq_false, Bool.false_eq_true, false_and, and_false, ia_1, ia_2, ia_3, ia_4, ia_5, ia_6, ia_7, ia_8, ia_9, ia_20, ia_40, ia_120, ia_140, ia_240, ia_720, ia_1520, ia_1680, ia_9680, ia_11280, ia_12480, ia_12880, ia_13080, ia_20760, ia_20880, ip_0, ip_1, ip_2, ip_3, ip_4, ip_5, ip_6, ip_7, ip_8, ip_9, ip_140, im_2, im_4, im_8, im_12, im_800, nI_clamp, jin_nI, jal_c, jal_n, Bool.and_true, if_true, ob, jlw_e, jk_0, jk_1, jk_2, jk_3, jk_4, jk_5, jk_6, jk_7, jk_8, jk_9, jk_10, jk_11, jk_12, jk_13, jk_14, jk_15, jk_16, jk_17, jk_18, jk_19, jg_0, jg_1, jg_2, jg_3, jg_4, jg_5, jg_6, jg_7, jg_8, jg_9, jg_10, jg_11, jg_12, jg_13, jg_14, jg_15, jg_16, jg_17, jg_18, jg_19, mi_site H, m_sealed H, h_5 H, show (nI (c 5) = 40) = (c 5 = 40) from ii_eq (b := 40) (by omega) (by omega), t0])
  obtain ⟨s, hs, rfl⟩ := rng (by omega) t0
  by_cases t1 : c 5 = 40
  · exact Cal_f (x := -1) h hK (by simp (disch := omega) only [f_Count_seal, ob, b2_0, bz_0, ↓reduceIte, ite_self, not_true_eq_false, not_false_eq_true, and_true, true_and, and_self, jlw_e, one_ne, Bool.true_eq_false, Bool.false_eq_true, false_and, and_false, s_si H, u_sl H, c_sealed H, rs_0 H, t0, eq_true t1]) (by simp (disch := omega) only [f_Model_seal, ob, b2_0, bz_0, ↓reduceIte, ite_self, not_true_eq_false, not_false_eq_true, and_true, true_and, and_self, jlw_e, one_ne, Bool.true_eq_false, Bool.false_eq_true, false_and, and_false, ia_1, ia_2, ia_3, ia_4, ia_5, ia_6, ia_7, ia_8, ia_9, ia_20, ia_40, ia_120, ia_140, ia_240, ia_720, ia_1520, ia_1680, ia_9680, ia_11280, ia_12480, ia_12880, ia_13080, ia_20760, ia_20880, ip_0, ip_1, ip_2, ip_3, ip_4, ip_5, ip_6, ip_7, ip_8, ip_9, ip_140, im_2, im_4, im_8, im_12, im_800, nI_clamp, jin_nI, jal_c, jal_n, Bool.and_true, if_true, ob, jlw_e, jk_0, jk_1, jk_2, jk_3, jk_4, jk_5, jk_6, jk_7, jk_8, jk_9, jk_10, jk_11, jk_12, jk_13, jk_14, jk_15, jk_16, jk_17, jk_18, jk_19, jg_0, jg_1, jg_2, jg_3, jg_4, jg_5, jg_6, jg_7, jg_8, jg_9, jg_10, jg_11, jg_12, jg_13, jg_14, jg_15, jg_16, jg_17, jg_18, jg_19, mi_site H, m_sealed H, h_5 H, show (nI (c 5) = 40) = (c 5 = 40) from ii_eq (b := 40) (by omega) (by omega), t0, eq_true t1])
  by_cases t2 : isl (w.1 94) c (nI s) = true
  · exact Cal_f (x := -1) h hK (by simp (disch := omega) only [f_Count_seal, ob, b2_0, bz_0, ↓reduceIte, ite_self, not_true_eq_false, not_false_eq_true, and_true, true_and, and_self, jlw_e, one_ne, Bool.true_eq_false, Bool.false_eq_true, false_and, and_false, s_si H, u_sl H, c_sealed H, rs_0 H, t0, t1, t2]) (by simp (disch := omega) only [f_Model_seal, ob, b2_0, bz_0, ↓reduceIte, ite_self, not_true_eq_false, not_false_eq_true, and_true, true_and, and_self, jlw_e, one_ne, Bool.true_eq_false, Bool.false_eq_true, false_and, and_false, ia_1, ia_2, ia_3, ia_4, ia_5, ia_6, ia_7, ia_8, ia_9, ia_20, ia_40, ia_120, ia_140, ia_240, ia_720, ia_1520, ia_1680, ia_9680, ia_11280, ia_12480, ia_12880, ia_13080, ia_20760, ia_20880, ip_0, ip_1, ip_2, ip_3, ip_4, ip_5, ip_6, ip_7, ip_8, ip_9, ip_140, im_2, im_4, im_8, im_12, im_800, nI_clamp, jin_nI, jal_c, jal_n, Bool.and_true, if_true, ob, jlw_e, jk_0, jk_1, jk_2, jk_3, jk_4, jk_5, jk_6, jk_7, jk_8, jk_9, jk_10, jk_11, jk_12, jk_13, jk_14, jk_15, jk_16, jk_17, jk_18, jk_19, jg_0, jg_1, jg_2, jg_3, jg_4, jg_5, jg_6, jg_7, jg_8, jg_9, jg_10, jg_11, jg_12, jg_13, jg_14, jg_15, jg_16, jg_17, jg_18, jg_19, mi_site H, m_sealed H, h_5 H, show (nI (c 5) = 40) = (c 5 = 40) from ii_eq (b := 40) (by omega) (by omega), t0, t1, t2])
  have t2 := Bool.eq_false_iff.mpr t2
  obtain ⟨v1, e1, a1, J1⟩ := ap_open (j_sl H) (by omega) (nI s)
  obtain ⟨v2, e2, a2, J2⟩ := ap_put a1 J1 (j := 1) (by omega) (y := 1) rfl (nI (c 0))
  have eS : f_State_addSpot 14 (nI s) (nI (c 0)) w = some (nI (c 5), v2) := by rw [f_State_addSpot, e1, ob]; dsimp only; rw [e2, ob]
  have eC : f_Count_seal (nI s) w = some (nI (c 5), v2) := by simp (disch := omega) only [f_Count_seal, ob, b2_0, bz_0, ↓reduceIte, ite_self, not_true_eq_false, not_false_eq_true, and_true, true_and, and_self, jlw_e, one_ne, Bool.true_eq_false, Bool.false_eq_true, false_and, and_false, s_si H, u_sl H, c_sealed H, rs_0 H, t0, t1, t2, rs_0 H, eS, ip_1]
  have e94 : v2.1 94 = w.1 94 := Ap_fn a2 (by omega) (by omega)
  have H' : RA w 3 (v2.1 94) c K := by rw [e94]; exact H
  obtain ⟨W, hW⟩ : ∃ W : jW, W = ((jup (jup (jup v2.1 94 (1520 + 4 * c 5) (nI s)) 94 (1520 + 4 * c 5 + 1) (nI (c 0))) 94 (5) (nI (c 5 + 1))), v2.2) := ⟨_, rfl⟩
  have f94 : ∀ b, b ≠ 94 → W.1 b = v2.1 b := fun b hb => by rw [hW]; dsimp only; rw [jup_fn hb, jup_fn hb, jup_fn hb]
  have g0 : W.1 94 (1520 + 4 * c 5) = nI s := by rw [hW]; simp (disch := omega) only [jup_k, jup_eq]
  have g1 : W.1 94 (1520 + 4 * c 5 + 1) = nI (c 0) := by rw [hW]; simp (disch := omega) only [jup_k, jup_eq]
  have g2 : W.1 94 (5) = nI (c 5 + 1) := by rw [hW]; simp (disch := omega) only [jup_k, jup_eq]
  have eM : f_Model_seal (nI s) v2 = some (nI (c 5), W) := by
    rw [hW]
    simp (disch := omega) only [f_Model_seal, ob, b2_0, bz_0, ↓reduceIte, ite_self, not_true_eq_false, not_false_eq_true, and_true, true_and, and_self, jlw_e, one_ne, Bool.true_eq_false, Bool.false_eq_true, false_and, and_false, ia_1, ia_2, ia_3, ia_4, ia_5, ia_6, ia_7, ia_8, ia_9, ia_20, ia_40, ia_120, ia_140, ia_240, ia_720, ia_1520, ia_1680, ia_9680, ia_11280, ia_12480, ia_12880, ia_13080, ia_20760, ia_20880, ip_0, ip_1, ip_2, ip_3, ip_4, ip_5, ip_6, ip_7, ip_8, ip_9, ip_140, im_2, im_4, im_8, im_12, im_800, nI_clamp, jin_nI, jal_c, jal_n, Bool.and_true, if_true, ob, jlw_e, jk_0, jk_1, jk_2, jk_3, jk_4, jk_5, jk_6, jk_7, jk_8, jk_9, jk_10, jk_11, jk_12, jk_13, jk_14, jk_15, jk_16, jk_17, jk_18, jk_19, jg_0, jg_1, jg_2, jg_3, jg_4, jg_5, jg_6, jg_7, jg_8, jg_9, jg_10, jg_11, jg_12, jg_13, jg_14, jg_15, jg_16, jg_17, jg_18, jg_19, mi_site H', m_sealed H', h_5 H', show (nI (c 5) = 40) = (c 5 = 40) from ii_eq (b := 40) (by omega) (by omega), t0, t1, t2, e94, h_5 H, h_0 H, nI_pred, jup_eq, jup_k, jup_ne]
  have fA : ∀ k, k < 21000 → ¬ (k = 5 ∨ k = 1520 + 4 * c 5 ∨ k = 1520 + 4 * c 5 + 1) → W.1 94 k = w.1 94 k := fun k _ hE => by rw [hW]; dsimp only; rw [jup_k (by omega), jup_k (by omega), jup_k (by omega), e94]
  have hv : ∀ j, j < 2 → id j < 4 → W.1 15 (c 5 * 2 + j) = W.1 94 (1520 + 4 * c 5 + id j) := fun j hj _ => by
    rw [f94 15 (by omega), a2.2.1 j hj]
    rcases (show j = 0 ∨ j = 1 by omega) with z | z <;> subst z
    · exact g0.symm
    · exact g1.symm
  have ha : W.1 14 2 = nI (c 5 + 1) := by rw [f94 14 (by omega)]; exact a2.1
  have hw : ∀ b j, 3 ≤ b → b < 38 → ¬ (b = 14 ∧ j = 2 ∨ b = 15 ∧ c 5 * 2 ≤ j ∧ j < c 5 * 2 + 2) → W.1 b j = w.1 b j := fun b j q1 q2 q3 => by
    rw [f94 b (by omega)]; exact a2.2.2 b j q3
  have HR := P_seal H (s := s) hs (by omega) ha g2 hv g0 g1 hw fA
  exact ⟨_, v2, W, _, ci, eC, eM, Inv_K (Inv_of h (Nat.le_refl _) (fun b q1 q2 => by rw [f94 b q2]; exact Ap_fn a2 (by omega) (by omega)) HR) (by omega) (by omega)⟩

theorem q_chance (h : Inv w c ci K) (hK : K < 512) (x : Int32) (d : Int32) : Cal w (K + 1) (f_Count_chance x d) (f_Model_chance x d) := by
  have H := h.1
  have lK := l_K H
  have l0 := l_0 H
  have l1 := l_1 H
  have l2 := l_2 H
  have l3 := l_3 H
  have l4 := l_4 H
  have l5 := l_5 H
  have l6 := l_6 H
  have l7 := l_7 H
  have l8 := l_8 H
  have l9 := l_9 H
  have l10 := l_10 H
  have l11 := l_11 H
  have l12 := l_12 H
  have l13 := l_13 H
  by_cases t0 : ¬ x < 0 ∧ x < nI (c 1)
  rotate_left
  · exact Cal_f (x := 0) h hK (by simp (disch := omega) only [f_Count_chance, ob, b2_0, bz_0, ↓reduceIte, ite_self, not_true_eq_false, not_false_eq_true, and_true, true_and, and_self, jlw_e, one_ne, Bool.true_eq_false, Bool.false_eq_true, false_and, and_false, s_si H, t0]) (by simp (disch := omega) only [f_Model_chance, ob, b2_0, bz_0, ↓reduceIte, ite_self, not_true_eq_false, not_false_eq_true, and_true, true_and, and_self, jlw_e, one_ne, Bool.true_eq_false, Bool.false_eq_true, false_and, and_false, ia_1, ia_2, ia_3, ia_4, ia_5, ia_6, ia_7, ia_8, ia_9, ia_20, ia_40, ia_120, ia_140, ia_240, ia_720, ia_1520, ia_1680, ia_9680, ia_11280, ia_12480, ia_12880, ia_13080, ia_20760, ia_20880, ip_0, ip_1, ip_2, ip_3, ip_4, ip_5, ip_6, ip_7, ip_8, ip_9, ip_140, im_2, im_4, im_8, im_12, im_800, nI_clamp, jin_nI, jal_c, jal_n, Bool.and_true, if_true, ob, jlw_e, jk_0, jk_1, jk_2, jk_3, jk_4, jk_5, jk_6, jk_7, jk_8, jk_9, jk_10, jk_11, jk_12, jk_13, jk_14, jk_15, jk_16, jk_17, jk_18, jk_19, jg_0, jg_1, jg_2, jg_3, jg_4, jg_5, jg_6, jg_7, jg_8, jg_9, jg_10, jg_11, jg_12, jg_13, jg_14, jg_15, jg_16, jg_17, jg_18, jg_19, mi_site H, m_isIn, t0])
  obtain ⟨s, hs, rfl⟩ := rng (by omega) t0
  by_cases t1 : d < 1
  · exact Cal_f (x := 0) h hK (by simp (disch := omega) only [f_Count_chance, ob, b2_0, bz_0, ↓reduceIte, ite_self, not_true_eq_false, not_false_eq_true, and_true, true_and, and_self, jlw_e, one_ne, Bool.true_eq_false, Bool.false_eq_true, false_and, and_false, s_si H, t0, eq_true t1]) (by simp (disch := omega) only [f_Model_chance, ob, b2_0, bz_0, ↓reduceIte, ite_self, not_true_eq_false, not_false_eq_true, and_true, true_and, and_self, jlw_e, one_ne, Bool.true_eq_false, Bool.false_eq_true, false_and, and_false, ia_1, ia_2, ia_3, ia_4, ia_5, ia_6, ia_7, ia_8, ia_9, ia_20, ia_40, ia_120, ia_140, ia_240, ia_720, ia_1520, ia_1680, ia_9680, ia_11280, ia_12480, ia_12880, ia_13080, ia_20760, ia_20880, ip_0, ip_1, ip_2, ip_3, ip_4, ip_5, ip_6, ip_7, ip_8, ip_9, ip_140, im_2, im_4, im_8, im_12, im_800, nI_clamp, jin_nI, jal_c, jal_n, Bool.and_true, if_true, ob, jlw_e, jk_0, jk_1, jk_2, jk_3, jk_4, jk_5, jk_6, jk_7, jk_8, jk_9, jk_10, jk_11, jk_12, jk_13, jk_14, jk_15, jk_16, jk_17, jk_18, jk_19, jg_0, jg_1, jg_2, jg_3, jg_4, jg_5, jg_6, jg_7, jg_8, jg_9, jg_10, jg_11, jg_12, jg_13, jg_14, jg_15, jg_16, jg_17, jg_18, jg_19, mi_site H, m_isIn, t0, eq_true t1])
  by_cases t2 : d ≤ 50
  rotate_left
  · exact Cal_f (x := 0) h hK (by simp (disch := omega) only [f_Count_chance, ob, b2_0, bz_0, ↓reduceIte, ite_self, not_true_eq_false, not_false_eq_true, and_true, true_and, and_self, jlw_e, one_ne, Bool.true_eq_false, Bool.false_eq_true, false_and, and_false, s_si H, t0, t1, t2]) (by simp (disch := omega) only [f_Model_chance, ob, b2_0, bz_0, ↓reduceIte, ite_self, not_true_eq_false, not_false_eq_true, and_true, true_and, and_self, jlw_e, one_ne, Bool.true_eq_false, Bool.false_eq_true, false_and, and_false, ia_1, ia_2, ia_3, ia_4, ia_5, ia_6, ia_7, ia_8, ia_9, ia_20, ia_40, ia_120, ia_140, ia_240, ia_720, ia_1520, ia_1680, ia_9680, ia_11280, ia_12480, ia_12880, ia_13080, ia_20760, ia_20880, ip_0, ip_1, ip_2, ip_3, ip_4, ip_5, ip_6, ip_7, ip_8, ip_9, ip_140, im_2, im_4, im_8, im_12, im_800, nI_clamp, jin_nI, jal_c, jal_n, Bool.and_true, if_true, ob, jlw_e, jk_0, jk_1, jk_2, jk_3, jk_4, jk_5, jk_6, jk_7, jk_8, jk_9, jk_10, jk_11, jk_12, jk_13, jk_14, jk_15, jk_16, jk_17, jk_18, jk_19, jg_0, jg_1, jg_2, jg_3, jg_4, jg_5, jg_6, jg_7, jg_8, jg_9, jg_10, jg_11, jg_12, jg_13, jg_14, jg_15, jg_16, jg_17, jg_18, jg_19, mi_site H, m_isIn, t0, t1, t2])
  obtain ⟨d1, hd2, rfl⟩ := rngle (x := d) (n := 50) (by omega) ⟨fun z => t1 (Int32.lt_of_lt_of_le z (by decide)), t2⟩
  have hd1 : 1 ≤ d1 := by
    have := t1
    rw [show (1 : Int32) = nI 1 from rfl, ii_lt (by omega) (by omega)] at this
    omega
  have eP := r_put (j_si H) hs (j := 4) (by omega) (nI d1)
  obtain ⟨v2, hv2⟩ : ∃ v : jW, v = (jup w.1 7 (s * 5 + 4) (nI d1), w.2) := ⟨_, rfl⟩
  have eP' : f_Rows_put 6 (nI s) 4 (nI d1) w = some v2 := by rw [hv2]; exact eP
  have eC : f_Count_chance (nI s) (nI d1) w = some (1, v2) := by simp (disch := omega) only [f_Count_chance, ob, b2_0, bz_0, ↓reduceIte, ite_self, not_true_eq_false, not_false_eq_true, and_true, true_and, and_self, jlw_e, one_ne, Bool.true_eq_false, Bool.false_eq_true, false_and, and_false, s_si H, t0, t1, t2, eP']
  have e94 : v2.1 94 = w.1 94 := by rw [hv2]; dsimp only; rw [jup_fn (by omega)]
  have H' : RA w 3 (v2.1 94) c K := by rw [e94]; exact H
  obtain ⟨W, hW⟩ : ∃ W : jW, W = ((jup v2.1 94 (40 + 8 * s + 4) (nI d1)), v2.2) := ⟨_, rfl⟩
  have f94 : ∀ b, b ≠ 94 → W.1 b = v2.1 b := fun b hb => by rw [hW]; dsimp only; rw [jup_fn hb]
  have g0 : W.1 94 (40 + 8 * s + 4) = nI d1 := by rw [hW]; simp (disch := omega) only [jup_k, jup_eq]
  have eM : f_Model_chance (nI s) (nI d1) v2 = some (1, W) := by
    rw [hW]
    simp (disch := omega) only [f_Model_chance, ob, b2_0, bz_0, ↓reduceIte, ite_self, not_true_eq_false, not_false_eq_true, and_true, true_and, and_self, jlw_e, one_ne, Bool.true_eq_false, Bool.false_eq_true, false_and, and_false, ia_1, ia_2, ia_3, ia_4, ia_5, ia_6, ia_7, ia_8, ia_9, ia_20, ia_40, ia_120, ia_140, ia_240, ia_720, ia_1520, ia_1680, ia_9680, ia_11280, ia_12480, ia_12880, ia_13080, ia_20760, ia_20880, ip_0, ip_1, ip_2, ip_3, ip_4, ip_5, ip_6, ip_7, ip_8, ip_9, ip_140, im_2, im_4, im_8, im_12, im_800, nI_clamp, jin_nI, jal_c, jal_n, Bool.and_true, if_true, ob, jlw_e, jk_0, jk_1, jk_2, jk_3, jk_4, jk_5, jk_6, jk_7, jk_8, jk_9, jk_10, jk_11, jk_12, jk_13, jk_14, jk_15, jk_16, jk_17, jk_18, jk_19, jg_0, jg_1, jg_2, jg_3, jg_4, jg_5, jg_6, jg_7, jg_8, jg_9, jg_10, jg_11, jg_12, jg_13, jg_14, jg_15, jg_16, jg_17, jg_18, jg_19, mi_site H', m_isIn, t0, t1, t2]
  have fA : ∀ k, k < 21000 → ¬ (k = 40 + 8 * s + 4) → W.1 94 k = w.1 94 k := fun k _ hE => by rw [hW]; dsimp only; rw [jup_k (by omega), e94]
  have hw : ∀ b j, 3 ≤ b → b < 38 → ¬ (b = 7 ∧ j = s * 5 + 4) → W.1 b j = w.1 b j := fun b j q1 q2 q3 => by
    rw [f94 b (by omega), hv2]; dsimp only; rw [jup_ap, if_neg q3]
  have HR := P_chance H hs (by rw [g0]; exact ⟨d1, rfl, hd1, hd2⟩) (by rw [f94 7 (by omega), hv2, g0]; exact jup_eq) hw fA
  exact ⟨_, v2, W, _, ci, eC, eM, Inv_K (Inv_of h (Nat.le_refl _) (fun b q1 q2 => by rw [f94 b q2, hv2]; dsimp only; rw [jup_fn (by omega)]) HR) (by omega) (by omega)⟩

theorem q_days (h : Inv w c ci K) (hK : K < 512) (x : Int32) : Cal w (K + 1) (f_Count_days x) (f_Model_days x) := by
  have H := h.1
  have lK := l_K H
  have l0 := l_0 H
  have l1 := l_1 H
  have l2 := l_2 H
  have l3 := l_3 H
  have l4 := l_4 H
  have l5 := l_5 H
  have l6 := l_6 H
  have l7 := l_7 H
  have l8 := l_8 H
  have l9 := l_9 H
  have l10 := l_10 H
  have l11 := l_11 H
  have l12 := l_12 H
  have l13 := l_13 H
  by_cases t0 : x < 1
  · exact Cal_f (x := -1) h hK (by simp (disch := omega) only [f_Count_days, ob, b2_0, bz_0, ↓reduceIte, ite_self, not_true_eq_false, not_false_eq_true, and_true, true_and, and_self, jlw_e, one_ne, Bool.true_eq_false, Bool.false_eq_true, false_and, and_false, rs_0 H, nI_add, show ∀ d, c 0 + d < 2 ^ 31 → (nI (c 0 + d) ≤ 1999) = (c 0 + d ≤ 1999) from fun d hd => ii_le (b := 1999) hd (by omega), eq_true t0]) (by simp (disch := omega) only [f_Model_days, ob, b2_0, bz_0, ↓reduceIte, ite_self, not_true_eq_false, not_false_eq_true, and_true, true_and, and_self, jlw_e, one_ne, Bool.true_eq_false, Bool.false_eq_true, false_and, and_false, ia_1, ia_2, ia_3, ia_4, ia_5, ia_6, ia_7, ia_8, ia_9, ia_20, ia_40, ia_120, ia_140, ia_240, ia_720, ia_1520, ia_1680, ia_9680, ia_11280, ia_12480, ia_12880, ia_13080, ia_20760, ia_20880, ip_0, ip_1, ip_2, ip_3, ip_4, ip_5, ip_6, ip_7, ip_8, ip_9, ip_140, im_2, im_4, im_8, im_12, im_800, nI_clamp, jin_nI, jal_c, jal_n, Bool.and_true, if_true, ob, jlw_e, jk_0, jk_1, jk_2, jk_3, jk_4, jk_5, jk_6, jk_7, jk_8, jk_9, jk_10, jk_11, jk_12, jk_13, jk_14, jk_15, jk_16, jk_17, jk_18, jk_19, jg_0, jg_1, jg_2, jg_3, jg_4, jg_5, jg_6, jg_7, jg_8, jg_9, jg_10, jg_11, jg_12, jg_13, jg_14, jg_15, jg_16, jg_17, jg_18, jg_19, m_isIn, h_0 H, nI_add, show ∀ d, c 0 + d < 2 ^ 31 → (nI (c 0 + d) ≤ 1999) = (c 0 + d ≤ 1999) from fun d hd => ii_le (b := 1999) hd (by omega), eq_true t0])
  by_cases t1 : x ≤ 400
  rotate_left
  · exact Cal_f (x := -1) h hK (by simp (disch := omega) only [f_Count_days, ob, b2_0, bz_0, ↓reduceIte, ite_self, not_true_eq_false, not_false_eq_true, and_true, true_and, and_self, jlw_e, one_ne, Bool.true_eq_false, Bool.false_eq_true, false_and, and_false, rs_0 H, nI_add, show ∀ d, c 0 + d < 2 ^ 31 → (nI (c 0 + d) ≤ 1999) = (c 0 + d ≤ 1999) from fun d hd => ii_le (b := 1999) hd (by omega), t0, t1]) (by simp (disch := omega) only [f_Model_days, ob, b2_0, bz_0, ↓reduceIte, ite_self, not_true_eq_false, not_false_eq_true, and_true, true_and, and_self, jlw_e, one_ne, Bool.true_eq_false, Bool.false_eq_true, false_and, and_false, ia_1, ia_2, ia_3, ia_4, ia_5, ia_6, ia_7, ia_8, ia_9, ia_20, ia_40, ia_120, ia_140, ia_240, ia_720, ia_1520, ia_1680, ia_9680, ia_11280, ia_12480, ia_12880, ia_13080, ia_20760, ia_20880, ip_0, ip_1, ip_2, ip_3, ip_4, ip_5, ip_6, ip_7, ip_8, ip_9, ip_140, im_2, im_4, im_8, im_12, im_800, nI_clamp, jin_nI, jal_c, jal_n, Bool.and_true, if_true, ob, jlw_e, jk_0, jk_1, jk_2, jk_3, jk_4, jk_5, jk_6, jk_7, jk_8, jk_9, jk_10, jk_11, jk_12, jk_13, jk_14, jk_15, jk_16, jk_17, jk_18, jk_19, jg_0, jg_1, jg_2, jg_3, jg_4, jg_5, jg_6, jg_7, jg_8, jg_9, jg_10, jg_11, jg_12, jg_13, jg_14, jg_15, jg_16, jg_17, jg_18, jg_19, m_isIn, h_0 H, nI_add, show ∀ d, c 0 + d < 2 ^ 31 → (nI (c 0 + d) ≤ 1999) = (c 0 + d ≤ 1999) from fun d hd => ii_le (b := 1999) hd (by omega), t0, t1])
  obtain ⟨d, hd2, rfl⟩ := rngle (x := x) (n := 400) (by omega) ⟨fun z => t0 (Int32.lt_of_lt_of_le z (by decide)), t1⟩
  by_cases t2 : c 0 + d ≤ 1999
  rotate_left
  · exact Cal_f (x := -1) h hK (by simp (disch := omega) only [f_Count_days, ob, b2_0, bz_0, ↓reduceIte, ite_self, not_true_eq_false, not_false_eq_true, and_true, true_and, and_self, jlw_e, one_ne, Bool.true_eq_false, Bool.false_eq_true, false_and, and_false, rs_0 H, nI_add, show ∀ d, c 0 + d < 2 ^ 31 → (nI (c 0 + d) ≤ 1999) = (c 0 + d ≤ 1999) from fun d hd => ii_le (b := 1999) hd (by omega), t0, t1, t2]) (by simp (disch := omega) only [f_Model_days, ob, b2_0, bz_0, ↓reduceIte, ite_self, not_true_eq_false, not_false_eq_true, and_true, true_and, and_self, jlw_e, one_ne, Bool.true_eq_false, Bool.false_eq_true, false_and, and_false, ia_1, ia_2, ia_3, ia_4, ia_5, ia_6, ia_7, ia_8, ia_9, ia_20, ia_40, ia_120, ia_140, ia_240, ia_720, ia_1520, ia_1680, ia_9680, ia_11280, ia_12480, ia_12880, ia_13080, ia_20760, ia_20880, ip_0, ip_1, ip_2, ip_3, ip_4, ip_5, ip_6, ip_7, ip_8, ip_9, ip_140, im_2, im_4, im_8, im_12, im_800, nI_clamp, jin_nI, jal_c, jal_n, Bool.and_true, if_true, ob, jlw_e, jk_0, jk_1, jk_2, jk_3, jk_4, jk_5, jk_6, jk_7, jk_8, jk_9, jk_10, jk_11, jk_12, jk_13, jk_14, jk_15, jk_16, jk_17, jk_18, jk_19, jg_0, jg_1, jg_2, jg_3, jg_4, jg_5, jg_6, jg_7, jg_8, jg_9, jg_10, jg_11, jg_12, jg_13, jg_14, jg_15, jg_16, jg_17, jg_18, jg_19, m_isIn, h_0 H, nI_add, show ∀ d, c 0 + d < 2 ^ 31 → (nI (c 0 + d) ≤ 1999) = (c 0 + d ≤ 1999) from fun d hd => ii_le (b := 1999) hd (by omega), t0, t1, t2])
  obtain ⟨v2, hv2⟩ : ∃ v : jW, v = (jup w.1 3 0 (nI (c 0 + d)), w.2) := ⟨_, rfl⟩
  have eC : f_Count_days (nI d) w = some (nI (c 0 + d), v2) := by
    rw [hv2]
    simp (disch := omega) only [f_Count_days, ob, b2_0, bz_0, ↓reduceIte, ite_self, not_true_eq_false, not_false_eq_true, and_true, true_and, and_self, jlw_e, one_ne, Bool.true_eq_false, Bool.false_eq_true, false_and, and_false, rs_0 H, nI_add, show ∀ d, c 0 + d < 2 ^ 31 → (nI (c 0 + d) ≤ 1999) = (c 0 + d ≤ 1999) from fun d hd => ii_le (b := 1999) hd (by omega), t0, t1, t2, jup_eq]
  have e94 : v2.1 94 = w.1 94 := by rw [hv2]; dsimp only; rw [jup_fn (by omega)]
  have H' : RA w 3 (v2.1 94) c K := by rw [e94]; exact H
  obtain ⟨W, hW⟩ : ∃ W : jW, W = ((jup v2.1 94 (0) (nI (c 0 + d))), v2.2) := ⟨_, rfl⟩
  have f94 : ∀ b, b ≠ 94 → W.1 b = v2.1 b := fun b hb => by rw [hW]; dsimp only; rw [jup_fn hb]
  have g0 : W.1 94 (0) = nI (c 0 + d) := by rw [hW]; simp (disch := omega) only [jup_k, jup_eq]
  have eM : f_Model_days (nI d) v2 = some (nI (c 0 + d), W) := by
    rw [hW]
    simp (disch := omega) only [f_Model_days, ob, b2_0, bz_0, ↓reduceIte, ite_self, not_true_eq_false, not_false_eq_true, and_true, true_and, and_self, jlw_e, one_ne, Bool.true_eq_false, Bool.false_eq_true, false_and, and_false, ia_1, ia_2, ia_3, ia_4, ia_5, ia_6, ia_7, ia_8, ia_9, ia_20, ia_40, ia_120, ia_140, ia_240, ia_720, ia_1520, ia_1680, ia_9680, ia_11280, ia_12480, ia_12880, ia_13080, ia_20760, ia_20880, ip_0, ip_1, ip_2, ip_3, ip_4, ip_5, ip_6, ip_7, ip_8, ip_9, ip_140, im_2, im_4, im_8, im_12, im_800, nI_clamp, jin_nI, jal_c, jal_n, Bool.and_true, if_true, ob, jlw_e, jk_0, jk_1, jk_2, jk_3, jk_4, jk_5, jk_6, jk_7, jk_8, jk_9, jk_10, jk_11, jk_12, jk_13, jk_14, jk_15, jk_16, jk_17, jk_18, jk_19, jg_0, jg_1, jg_2, jg_3, jg_4, jg_5, jg_6, jg_7, jg_8, jg_9, jg_10, jg_11, jg_12, jg_13, jg_14, jg_15, jg_16, jg_17, jg_18, jg_19, m_isIn, h_0 H', nI_add, show ∀ d, c 0 + d < 2 ^ 31 → (nI (c 0 + d) ≤ 1999) = (c 0 + d ≤ 1999) from fun d hd => ii_le (b := 1999) hd (by omega), t0, t1, t2, jup_eq]
  have fA : ∀ k, k < 21000 → ¬ (k = 0) → W.1 94 k = w.1 94 k := fun k _ hE => by rw [hW]; dsimp only; rw [jup_k (by omega), e94]
  have hw : ∀ b j, 3 ≤ b → b < 38 → ¬ (b = 3 ∧ j = 0) → W.1 b j = w.1 b j := fun b j q1 q2 q3 => by
    rw [f94 b (by omega), hv2]; dsimp only; rw [jup_ap, if_neg q3]
  have HR := P_days H (d := c 0 + d) (by omega) t2 g0 (by rw [f94 3 (by omega), hv2]; dsimp only; exact jup_eq) hw fA
  exact ⟨_, v2, W, _, ci, eC, eM, Inv_K (Inv_of h (Nat.le_refl _) (fun b q1 q2 => by rw [f94 b q2, hv2]; dsimp only; rw [jup_fn (by omega)]) HR) (by omega) (by omega)⟩

theorem q_rules (h : Inv w c ci K) (hK : K < 512) (x : Int32) (y : Int32) (z : Int32) : Cal w (K + 1) (f_Count_rules x y z) (f_Model_rules x y z) := by
  have H := h.1
  have lK := l_K H
  have l0 := l_0 H
  have l1 := l_1 H
  have l2 := l_2 H
  have l3 := l_3 H
  have l4 := l_4 H
  have l5 := l_5 H
  have l6 := l_6 H
  have l7 := l_7 H
  have l8 := l_8 H
  have l9 := l_9 H
  have l10 := l_10 H
  have l11 := l_11 H
  have l12 := l_12 H
  have l13 := l_13 H
  by_cases t0 : x < 0
  · exact Cal_f (x := 0) h hK (by simp (disch := omega) only [f_Count_rules, ob, b2_0, bz_0, ↓reduceIte, ite_self, not_true_eq_false, not_false_eq_true, and_true, true_and, and_self, jlw_e, one_ne, Bool.true_eq_false, Bool.false_eq_true, false_and, and_false, n_th H, eq_true t0]) (by simp (disch := omega) only [f_Model_rules, ob, b2_0, bz_0, ↓reduceIte, ite_self, not_true_eq_false, not_false_eq_true, and_true, true_and, and_self, jlw_e, one_ne, Bool.true_eq_false, Bool.false_eq_true, false_and, and_false, ia_1, ia_2, ia_3, ia_4, ia_5, ia_6, ia_7, ia_8, ia_9, ia_20, ia_40, ia_120, ia_140, ia_240, ia_720, ia_1520, ia_1680, ia_9680, ia_11280, ia_12480, ia_12880, ia_13080, ia_20760, ia_20880, ip_0, ip_1, ip_2, ip_3, ip_4, ip_5, ip_6, ip_7, ip_8, ip_9, ip_140, im_2, im_4, im_8, im_12, im_800, nI_clamp, jin_nI, jal_c, jal_n, Bool.and_true, if_true, ob, jlw_e, jk_0, jk_1, jk_2, jk_3, jk_4, jk_5, jk_6, jk_7, jk_8, jk_9, jk_10, jk_11, jk_12, jk_13, jk_14, jk_15, jk_16, jk_17, jk_18, jk_19, jg_0, jg_1, jg_2, jg_3, jg_4, jg_5, jg_6, jg_7, jg_8, jg_9, jg_10, jg_11, jg_12, jg_13, jg_14, jg_15, jg_16, jg_17, jg_18, jg_19, m_isIn, h_3 H, eq_true t0])
  by_cases t1 : x ≤ 50
  rotate_left
  · exact Cal_f (x := 0) h hK (by simp (disch := omega) only [f_Count_rules, ob, b2_0, bz_0, ↓reduceIte, ite_self, not_true_eq_false, not_false_eq_true, and_true, true_and, and_self, jlw_e, one_ne, Bool.true_eq_false, Bool.false_eq_true, false_and, and_false, n_th H, t0, t1]) (by simp (disch := omega) only [f_Model_rules, ob, b2_0, bz_0, ↓reduceIte, ite_self, not_true_eq_false, not_false_eq_true, and_true, true_and, and_self, jlw_e, one_ne, Bool.true_eq_false, Bool.false_eq_true, false_and, and_false, ia_1, ia_2, ia_3, ia_4, ia_5, ia_6, ia_7, ia_8, ia_9, ia_20, ia_40, ia_120, ia_140, ia_240, ia_720, ia_1520, ia_1680, ia_9680, ia_11280, ia_12480, ia_12880, ia_13080, ia_20760, ia_20880, ip_0, ip_1, ip_2, ip_3, ip_4, ip_5, ip_6, ip_7, ip_8, ip_9, ip_140, im_2, im_4, im_8, im_12, im_800, nI_clamp, jin_nI, jal_c, jal_n, Bool.and_true, if_true, ob, jlw_e, jk_0, jk_1, jk_2, jk_3, jk_4, jk_5, jk_6, jk_7, jk_8, jk_9, jk_10, jk_11, jk_12, jk_13, jk_14, jk_15, jk_16, jk_17, jk_18, jk_19, jg_0, jg_1, jg_2, jg_3, jg_4, jg_5, jg_6, jg_7, jg_8, jg_9, jg_10, jg_11, jg_12, jg_13, jg_14, jg_15, jg_16, jg_17, jg_18, jg_19, m_isIn, h_3 H, t0, t1])
  by_cases t2 : y < 0
  · exact Cal_f (x := 0) h hK (by simp (disch := omega) only [f_Count_rules, ob, b2_0, bz_0, ↓reduceIte, ite_self, not_true_eq_false, not_false_eq_true, and_true, true_and, and_self, jlw_e, one_ne, Bool.true_eq_false, Bool.false_eq_true, false_and, and_false, n_th H, t0, t1, eq_true t2]) (by simp (disch := omega) only [f_Model_rules, ob, b2_0, bz_0, ↓reduceIte, ite_self, not_true_eq_false, not_false_eq_true, and_true, true_and, and_self, jlw_e, one_ne, Bool.true_eq_false, Bool.false_eq_true, false_and, and_false, ia_1, ia_2, ia_3, ia_4, ia_5, ia_6, ia_7, ia_8, ia_9, ia_20, ia_40, ia_120, ia_140, ia_240, ia_720, ia_1520, ia_1680, ia_9680, ia_11280, ia_12480, ia_12880, ia_13080, ia_20760, ia_20880, ip_0, ip_1, ip_2, ip_3, ip_4, ip_5, ip_6, ip_7, ip_8, ip_9, ip_140, im_2, im_4, im_8, im_12, im_800, nI_clamp, jin_nI, jal_c, jal_n, Bool.and_true, if_true, ob, jlw_e, jk_0, jk_1, jk_2, jk_3, jk_4, jk_5, jk_6, jk_7, jk_8, jk_9, jk_10, jk_11, jk_12, jk_13, jk_14, jk_15, jk_16, jk_17, jk_18, jk_19, jg_0, jg_1, jg_2, jg_3, jg_4, jg_5, jg_6, jg_7, jg_8, jg_9, jg_10, jg_11, jg_12, jg_13, jg_14, jg_15, jg_16, jg_17, jg_18, jg_19, m_isIn, h_3 H, t0, t1, eq_true t2])
  by_cases t3 : y ≤ 50
  rotate_left
  · exact Cal_f (x := 0) h hK (by simp (disch := omega) only [f_Count_rules, ob, b2_0, bz_0, ↓reduceIte, ite_self, not_true_eq_false, not_false_eq_true, and_true, true_and, and_self, jlw_e, one_ne, Bool.true_eq_false, Bool.false_eq_true, false_and, and_false, n_th H, t0, t1, t2, t3]) (by simp (disch := omega) only [f_Model_rules, ob, b2_0, bz_0, ↓reduceIte, ite_self, not_true_eq_false, not_false_eq_true, and_true, true_and, and_self, jlw_e, one_ne, Bool.true_eq_false, Bool.false_eq_true, false_and, and_false, ia_1, ia_2, ia_3, ia_4, ia_5, ia_6, ia_7, ia_8, ia_9, ia_20, ia_40, ia_120, ia_140, ia_240, ia_720, ia_1520, ia_1680, ia_9680, ia_11280, ia_12480, ia_12880, ia_13080, ia_20760, ia_20880, ip_0, ip_1, ip_2, ip_3, ip_4, ip_5, ip_6, ip_7, ip_8, ip_9, ip_140, im_2, im_4, im_8, im_12, im_800, nI_clamp, jin_nI, jal_c, jal_n, Bool.and_true, if_true, ob, jlw_e, jk_0, jk_1, jk_2, jk_3, jk_4, jk_5, jk_6, jk_7, jk_8, jk_9, jk_10, jk_11, jk_12, jk_13, jk_14, jk_15, jk_16, jk_17, jk_18, jk_19, jg_0, jg_1, jg_2, jg_3, jg_4, jg_5, jg_6, jg_7, jg_8, jg_9, jg_10, jg_11, jg_12, jg_13, jg_14, jg_15, jg_16, jg_17, jg_18, jg_19, m_isIn, h_3 H, t0, t1, t2, t3])
  by_cases t4 : z < 1
  · exact Cal_f (x := 0) h hK (by simp (disch := omega) only [f_Count_rules, ob, b2_0, bz_0, ↓reduceIte, ite_self, not_true_eq_false, not_false_eq_true, and_true, true_and, and_self, jlw_e, one_ne, Bool.true_eq_false, Bool.false_eq_true, false_and, and_false, n_th H, t0, t1, t2, t3, eq_true t4]) (by simp (disch := omega) only [f_Model_rules, ob, b2_0, bz_0, ↓reduceIte, ite_self, not_true_eq_false, not_false_eq_true, and_true, true_and, and_self, jlw_e, one_ne, Bool.true_eq_false, Bool.false_eq_true, false_and, and_false, ia_1, ia_2, ia_3, ia_4, ia_5, ia_6, ia_7, ia_8, ia_9, ia_20, ia_40, ia_120, ia_140, ia_240, ia_720, ia_1520, ia_1680, ia_9680, ia_11280, ia_12480, ia_12880, ia_13080, ia_20760, ia_20880, ip_0, ip_1, ip_2, ip_3, ip_4, ip_5, ip_6, ip_7, ip_8, ip_9, ip_140, im_2, im_4, im_8, im_12, im_800, nI_clamp, jin_nI, jal_c, jal_n, Bool.and_true, if_true, ob, jlw_e, jk_0, jk_1, jk_2, jk_3, jk_4, jk_5, jk_6, jk_7, jk_8, jk_9, jk_10, jk_11, jk_12, jk_13, jk_14, jk_15, jk_16, jk_17, jk_18, jk_19, jg_0, jg_1, jg_2, jg_3, jg_4, jg_5, jg_6, jg_7, jg_8, jg_9, jg_10, jg_11, jg_12, jg_13, jg_14, jg_15, jg_16, jg_17, jg_18, jg_19, m_isIn, h_3 H, t0, t1, t2, t3, eq_true t4])
  by_cases t5 : z ≤ 200
  rotate_left
  · exact Cal_f (x := 0) h hK (by simp (disch := omega) only [f_Count_rules, ob, b2_0, bz_0, ↓reduceIte, ite_self, not_true_eq_false, not_false_eq_true, and_true, true_and, and_self, jlw_e, one_ne, Bool.true_eq_false, Bool.false_eq_true, false_and, and_false, n_th H, t0, t1, t2, t3, t4, t5]) (by simp (disch := omega) only [f_Model_rules, ob, b2_0, bz_0, ↓reduceIte, ite_self, not_true_eq_false, not_false_eq_true, and_true, true_and, and_self, jlw_e, one_ne, Bool.true_eq_false, Bool.false_eq_true, false_and, and_false, ia_1, ia_2, ia_3, ia_4, ia_5, ia_6, ia_7, ia_8, ia_9, ia_20, ia_40, ia_120, ia_140, ia_240, ia_720, ia_1520, ia_1680, ia_9680, ia_11280, ia_12480, ia_12880, ia_13080, ia_20760, ia_20880, ip_0, ip_1, ip_2, ip_3, ip_4, ip_5, ip_6, ip_7, ip_8, ip_9, ip_140, im_2, im_4, im_8, im_12, im_800, nI_clamp, jin_nI, jal_c, jal_n, Bool.and_true, if_true, ob, jlw_e, jk_0, jk_1, jk_2, jk_3, jk_4, jk_5, jk_6, jk_7, jk_8, jk_9, jk_10, jk_11, jk_12, jk_13, jk_14, jk_15, jk_16, jk_17, jk_18, jk_19, jg_0, jg_1, jg_2, jg_3, jg_4, jg_5, jg_6, jg_7, jg_8, jg_9, jg_10, jg_11, jg_12, jg_13, jg_14, jg_15, jg_16, jg_17, jg_18, jg_19, m_isIn, h_3 H, t0, t1, t2, t3, t4, t5])
  by_cases t6 : nI (c 3) ≤ 0
  rotate_left
  · exact Cal_f (x := 0) h hK (by simp (disch := omega) only [f_Count_rules, ob, b2_0, bz_0, ↓reduceIte, ite_self, not_true_eq_false, not_false_eq_true, and_true, true_and, and_self, jlw_e, one_ne, Bool.true_eq_false, Bool.false_eq_true, false_and, and_false, n_th H, t0, t1, t2, t3, t4, t5, t6]) (by simp (disch := omega) only [f_Model_rules, ob, b2_0, bz_0, ↓reduceIte, ite_self, not_true_eq_false, not_false_eq_true, and_true, true_and, and_self, jlw_e, one_ne, Bool.true_eq_false, Bool.false_eq_true, false_and, and_false, ia_1, ia_2, ia_3, ia_4, ia_5, ia_6, ia_7, ia_8, ia_9, ia_20, ia_40, ia_120, ia_140, ia_240, ia_720, ia_1520, ia_1680, ia_9680, ia_11280, ia_12480, ia_12880, ia_13080, ia_20760, ia_20880, ip_0, ip_1, ip_2, ip_3, ip_4, ip_5, ip_6, ip_7, ip_8, ip_9, ip_140, im_2, im_4, im_8, im_12, im_800, nI_clamp, jin_nI, jal_c, jal_n, Bool.and_true, if_true, ob, jlw_e, jk_0, jk_1, jk_2, jk_3, jk_4, jk_5, jk_6, jk_7, jk_8, jk_9, jk_10, jk_11, jk_12, jk_13, jk_14, jk_15, jk_16, jk_17, jk_18, jk_19, jg_0, jg_1, jg_2, jg_3, jg_4, jg_5, jg_6, jg_7, jg_8, jg_9, jg_10, jg_11, jg_12, jg_13, jg_14, jg_15, jg_16, jg_17, jg_18, jg_19, m_isIn, h_3 H, t0, t1, t2, t3, t4, t5, t6])
  obtain ⟨v2, hv2⟩ : ∃ v : jW, v = (jup (jup (jup w.1 3 1 x) 3 2 y) 3 3 z, w.2) := ⟨_, rfl⟩
  have eC : f_Count_rules x y z w = some (1, v2) := by
    rw [hv2]
    simp (disch := omega) only [f_Count_rules, ob, b2_0, bz_0, ↓reduceIte, ite_self, not_true_eq_false, not_false_eq_true, and_true, true_and, and_self, jlw_e, one_ne, Bool.true_eq_false, Bool.false_eq_true, false_and, and_false, n_th H, t0, t1, t2, t3, t4, t5, t6]
  have e94 : v2.1 94 = w.1 94 := by rw [hv2]; dsimp only; rw [jup_fn (by omega), jup_fn (by omega), jup_fn (by omega)]
  have H' : RA w 3 (v2.1 94) c K := by rw [e94]; exact H
  obtain ⟨W, hW⟩ : ∃ W : jW, W = ((jup (jup (jup v2.1 94 (14) (x)) 94 (15) (y)) 94 (16) (z)), v2.2) := ⟨_, rfl⟩
  have f94 : ∀ b, b ≠ 94 → W.1 b = v2.1 b := fun b hb => by rw [hW]; dsimp only; rw [jup_fn hb, jup_fn hb, jup_fn hb]
  have g0 : W.1 94 (14) = x := by rw [hW]; simp (disch := omega) only [jup_k, jup_eq]
  have g1 : W.1 94 (15) = y := by rw [hW]; simp (disch := omega) only [jup_k, jup_eq]
  have g2 : W.1 94 (16) = z := by rw [hW]; simp (disch := omega) only [jup_k, jup_eq]
  have eM : f_Model_rules x y z v2 = some (1, W) := by
    rw [hW]
    simp (disch := omega) only [f_Model_rules, ob, b2_0, bz_0, ↓reduceIte, ite_self, not_true_eq_false, not_false_eq_true, and_true, true_and, and_self, jlw_e, one_ne, Bool.true_eq_false, Bool.false_eq_true, false_and, and_false, ia_1, ia_2, ia_3, ia_4, ia_5, ia_6, ia_7, ia_8, ia_9, ia_20, ia_40, ia_120, ia_140, ia_240, ia_720, ia_1520, ia_1680, ia_9680, ia_11280, ia_12480, ia_12880, ia_13080, ia_20760, ia_20880, ip_0, ip_1, ip_2, ip_3, ip_4, ip_5, ip_6, ip_7, ip_8, ip_9, ip_140, im_2, im_4, im_8, im_12, im_800, nI_clamp, jin_nI, jal_c, jal_n, Bool.and_true, if_true, ob, jlw_e, jk_0, jk_1, jk_2, jk_3, jk_4, jk_5, jk_6, jk_7, jk_8, jk_9, jk_10, jk_11, jk_12, jk_13, jk_14, jk_15, jk_16, jk_17, jk_18, jk_19, jg_0, jg_1, jg_2, jg_3, jg_4, jg_5, jg_6, jg_7, jg_8, jg_9, jg_10, jg_11, jg_12, jg_13, jg_14, jg_15, jg_16, jg_17, jg_18, jg_19, m_isIn, h_3 H', t0, t1, t2, t3, t4, t5, t6]
  have fA : ∀ k, k < 21000 → ¬ (14 ≤ k ∧ k < 17) → W.1 94 k = w.1 94 k := fun k _ hE => by rw [hW]; dsimp only; rw [jup_k (by omega), jup_k (by omega), jup_k (by omega), e94]
  have hw : ∀ b j, 3 ≤ b → b < 38 → ¬ (b = 3 ∧ (j = 1 ∨ j = 2 ∨ j = 3)) → W.1 b j = w.1 b j := fun b j q1 q2 q3 => by
    rw [f94 b (by omega), hv2]; dsimp only; rw [jup_ap, if_neg (by omega), jup_ap, if_neg (by omega), jup_ap, if_neg (by omega)]
  have HR := P_rules H (vb_rle (n := 50) g0 (by omega) ⟨t0, t1⟩) (vb_rle (n := 50) g1 (by omega) ⟨t2, t3⟩) (vb_r1 (n := 200) g2 (by omega) ⟨t4, t5⟩) (by rw [f94 3 (by omega), hv2, g0]; simp (disch := omega) only [jup_k, jup_eq]) (by rw [f94 3 (by omega), hv2, g1]; simp (disch := omega) only [jup_k, jup_eq]) (by rw [f94 3 (by omega), hv2, g2]; simp (disch := omega) only [jup_k, jup_eq]) hw fA
  exact ⟨_, v2, W, _, ci, eC, eM, Inv_K (Inv_of h (Nat.le_refl _) (fun b q1 q2 => by rw [f94 b q2, hv2]; dsimp only; rw [jup_fn (by omega), jup_fn (by omega), jup_fn (by omega)]) HR) (by omega) (by omega)⟩

theorem q_sort (h : Inv w c ci K) (hK : K < 512) (x : Int32) (x2 : Int32) (x3 : Int32) (x4 : Int32) (x5 : Int32) : Cal w (K + 1) (f_Count_sort x x2 x3 x4 x5) (f_Model_sort x x2 x3 x4 x5) := by
  have H := h.1
  have lK := l_K H
  have l0 := l_0 H
  have l1 := l_1 H
  have l2 := l_2 H
  have l3 := l_3 H
  have l4 := l_4 H
  have l5 := l_5 H
  have l6 := l_6 H
  have l7 := l_7 H
  have l8 := l_8 H
  have l9 := l_9 H
  have l10 := l_10 H
  have l11 := l_11 H
  have l12 := l_12 H
  have l13 := l_13 H
  by_cases t0 : ¬ x < 0 ∧ x ≤ 3
  rotate_left
  · exact Cal_f (x := 0) h hK (by simp (disch := omega) only [f_Count_sort, ob, b2_0, bz_0, ↓reduceIte, ite_self, not_true_eq_false, not_false_eq_true, and_true, true_and, and_self, jlw_e, one_ne, Bool.true_eq_false, Bool.false_eq_true, false_and, and_false, n_th H, c_isSort, t0]) (by rw [f_Model_sort, m_isIn, ob]; dsimp only; rw [m_isIn, ob]; dsimp only; rw [m_isIn, ob]; dsimp only; rw [m_isIn, ob]; dsimp only; rw [m_isIn, ob]; dsimp only; simp (disch := omega) only [ob, b2_0, bz_0, ↓reduceIte, ite_self, not_true_eq_false, not_false_eq_true, and_true, true_and, and_self, jlw_e, one_ne, Bool.true_eq_false, Bool.false_eq_true, false_and, and_false, ia_1, ia_2, ia_3, ia_4, ia_5, ia_6, ia_7, ia_8, ia_9, ia_20, ia_40, ia_120, ia_140, ia_240, ia_720, ia_1520, ia_1680, ia_9680, ia_11280, ia_12480, ia_12880, ia_13080, ia_20760, ia_20880, ip_0, ip_1, ip_2, ip_3, ip_4, ip_5, ip_6, ip_7, ip_8, ip_9, ip_140, im_2, im_4, im_8, im_12, im_800, nI_clamp, jin_nI, jal_c, jal_n, Bool.and_true, if_true, ob, jlw_e, jk_0, jk_1, jk_2, jk_3, jk_4, jk_5, jk_6, jk_7, jk_8, jk_9, jk_10, jk_11, jk_12, jk_13, jk_14, jk_15, jk_16, jk_17, jk_18, jk_19, jg_0, jg_1, jg_2, jg_3, jg_4, jg_5, jg_6, jg_7, jg_8, jg_9, jg_10, jg_11, jg_12, jg_13, jg_14, jg_15, jg_16, jg_17, jg_18, jg_19, m_isIn, h_3 H, t0])
  obtain ⟨s, hs, rfl⟩ := rngle (n := 3) (by omega) t0
  by_cases t1 : x2 < 1
  · exact Cal_f (x := 0) h hK (by simp (disch := omega) only [f_Count_sort, ob, b2_0, bz_0, ↓reduceIte, ite_self, not_true_eq_false, not_false_eq_true, and_true, true_and, and_self, jlw_e, one_ne, Bool.true_eq_false, Bool.false_eq_true, false_and, and_false, n_th H, c_isSort, t0, eq_true t1]) (by rw [f_Model_sort, m_isIn, ob]; dsimp only; rw [m_isIn, ob]; dsimp only; rw [m_isIn, ob]; dsimp only; rw [m_isIn, ob]; dsimp only; rw [m_isIn, ob]; dsimp only; simp (disch := omega) only [ob, b2_0, bz_0, ↓reduceIte, ite_self, not_true_eq_false, not_false_eq_true, and_true, true_and, and_self, jlw_e, one_ne, Bool.true_eq_false, Bool.false_eq_true, false_and, and_false, ia_1, ia_2, ia_3, ia_4, ia_5, ia_6, ia_7, ia_8, ia_9, ia_20, ia_40, ia_120, ia_140, ia_240, ia_720, ia_1520, ia_1680, ia_9680, ia_11280, ia_12480, ia_12880, ia_13080, ia_20760, ia_20880, ip_0, ip_1, ip_2, ip_3, ip_4, ip_5, ip_6, ip_7, ip_8, ip_9, ip_140, im_2, im_4, im_8, im_12, im_800, nI_clamp, jin_nI, jal_c, jal_n, Bool.and_true, if_true, ob, jlw_e, jk_0, jk_1, jk_2, jk_3, jk_4, jk_5, jk_6, jk_7, jk_8, jk_9, jk_10, jk_11, jk_12, jk_13, jk_14, jk_15, jk_16, jk_17, jk_18, jk_19, jg_0, jg_1, jg_2, jg_3, jg_4, jg_5, jg_6, jg_7, jg_8, jg_9, jg_10, jg_11, jg_12, jg_13, jg_14, jg_15, jg_16, jg_17, jg_18, jg_19, m_isIn, h_3 H, t0, eq_true t1])
  by_cases t2 : x3 < x2
  · exact Cal_f (x := 0) h hK (by simp (disch := omega) only [f_Count_sort, ob, b2_0, bz_0, ↓reduceIte, ite_self, not_true_eq_false, not_false_eq_true, and_true, true_and, and_self, jlw_e, one_ne, Bool.true_eq_false, Bool.false_eq_true, false_and, and_false, n_th H, c_isSort, t0, t1, eq_true t2]) (by rw [f_Model_sort, m_isIn, ob]; dsimp only; rw [m_isIn, ob]; dsimp only; rw [m_isIn, ob]; dsimp only; rw [m_isIn, ob]; dsimp only; rw [m_isIn, ob]; dsimp only; simp (disch := omega) only [ob, b2_0, bz_0, ↓reduceIte, ite_self, not_true_eq_false, not_false_eq_true, and_true, true_and, and_self, jlw_e, one_ne, Bool.true_eq_false, Bool.false_eq_true, false_and, and_false, ia_1, ia_2, ia_3, ia_4, ia_5, ia_6, ia_7, ia_8, ia_9, ia_20, ia_40, ia_120, ia_140, ia_240, ia_720, ia_1520, ia_1680, ia_9680, ia_11280, ia_12480, ia_12880, ia_13080, ia_20760, ia_20880, ip_0, ip_1, ip_2, ip_3, ip_4, ip_5, ip_6, ip_7, ip_8, ip_9, ip_140, im_2, im_4, im_8, im_12, im_800, nI_clamp, jin_nI, jal_c, jal_n, Bool.and_true, if_true, ob, jlw_e, jk_0, jk_1, jk_2, jk_3, jk_4, jk_5, jk_6, jk_7, jk_8, jk_9, jk_10, jk_11, jk_12, jk_13, jk_14, jk_15, jk_16, jk_17, jk_18, jk_19, jg_0, jg_1, jg_2, jg_3, jg_4, jg_5, jg_6, jg_7, jg_8, jg_9, jg_10, jg_11, jg_12, jg_13, jg_14, jg_15, jg_16, jg_17, jg_18, jg_19, m_isIn, h_3 H, t0, t1, eq_true t2])
  by_cases t3 : x3 ≤ 200
  rotate_left
  · exact Cal_f (x := 0) h hK (by simp (disch := omega) only [f_Count_sort, ob, b2_0, bz_0, ↓reduceIte, ite_self, not_true_eq_false, not_false_eq_true, and_true, true_and, and_self, jlw_e, one_ne, Bool.true_eq_false, Bool.false_eq_true, false_and, and_false, n_th H, c_isSort, t0, t1, t2, t3]) (by rw [f_Model_sort, m_isIn, ob]; dsimp only; rw [m_isIn, ob]; dsimp only; rw [m_isIn, ob]; dsimp only; rw [m_isIn, ob]; dsimp only; rw [m_isIn, ob]; dsimp only; simp (disch := omega) only [ob, b2_0, bz_0, ↓reduceIte, ite_self, not_true_eq_false, not_false_eq_true, and_true, true_and, and_self, jlw_e, one_ne, Bool.true_eq_false, Bool.false_eq_true, false_and, and_false, ia_1, ia_2, ia_3, ia_4, ia_5, ia_6, ia_7, ia_8, ia_9, ia_20, ia_40, ia_120, ia_140, ia_240, ia_720, ia_1520, ia_1680, ia_9680, ia_11280, ia_12480, ia_12880, ia_13080, ia_20760, ia_20880, ip_0, ip_1, ip_2, ip_3, ip_4, ip_5, ip_6, ip_7, ip_8, ip_9, ip_140, im_2, im_4, im_8, im_12, im_800, nI_clamp, jin_nI, jal_c, jal_n, Bool.and_true, if_true, ob, jlw_e, jk_0, jk_1, jk_2, jk_3, jk_4, jk_5, jk_6, jk_7, jk_8, jk_9, jk_10, jk_11, jk_12, jk_13, jk_14, jk_15, jk_16, jk_17, jk_18, jk_19, jg_0, jg_1, jg_2, jg_3, jg_4, jg_5, jg_6, jg_7, jg_8, jg_9, jg_10, jg_11, jg_12, jg_13, jg_14, jg_15, jg_16, jg_17, jg_18, jg_19, m_isIn, h_3 H, t0, t1, t2, t3])
  by_cases t4 : x4 < 1
  · exact Cal_f (x := 0) h hK (by simp (disch := omega) only [f_Count_sort, ob, b2_0, bz_0, ↓reduceIte, ite_self, not_true_eq_false, not_false_eq_true, and_true, true_and, and_self, jlw_e, one_ne, Bool.true_eq_false, Bool.false_eq_true, false_and, and_false, n_th H, c_isSort, t0, t1, t2, t3, eq_true t4]) (by rw [f_Model_sort, m_isIn, ob]; dsimp only; rw [m_isIn, ob]; dsimp only; rw [m_isIn, ob]; dsimp only; rw [m_isIn, ob]; dsimp only; rw [m_isIn, ob]; dsimp only; simp (disch := omega) only [ob, b2_0, bz_0, ↓reduceIte, ite_self, not_true_eq_false, not_false_eq_true, and_true, true_and, and_self, jlw_e, one_ne, Bool.true_eq_false, Bool.false_eq_true, false_and, and_false, ia_1, ia_2, ia_3, ia_4, ia_5, ia_6, ia_7, ia_8, ia_9, ia_20, ia_40, ia_120, ia_140, ia_240, ia_720, ia_1520, ia_1680, ia_9680, ia_11280, ia_12480, ia_12880, ia_13080, ia_20760, ia_20880, ip_0, ip_1, ip_2, ip_3, ip_4, ip_5, ip_6, ip_7, ip_8, ip_9, ip_140, im_2, im_4, im_8, im_12, im_800, nI_clamp, jin_nI, jal_c, jal_n, Bool.and_true, if_true, ob, jlw_e, jk_0, jk_1, jk_2, jk_3, jk_4, jk_5, jk_6, jk_7, jk_8, jk_9, jk_10, jk_11, jk_12, jk_13, jk_14, jk_15, jk_16, jk_17, jk_18, jk_19, jg_0, jg_1, jg_2, jg_3, jg_4, jg_5, jg_6, jg_7, jg_8, jg_9, jg_10, jg_11, jg_12, jg_13, jg_14, jg_15, jg_16, jg_17, jg_18, jg_19, m_isIn, h_3 H, t0, t1, t2, t3, eq_true t4])
  by_cases t5 : x5 < x4
  · exact Cal_f (x := 0) h hK (by simp (disch := omega) only [f_Count_sort, ob, b2_0, bz_0, ↓reduceIte, ite_self, not_true_eq_false, not_false_eq_true, and_true, true_and, and_self, jlw_e, one_ne, Bool.true_eq_false, Bool.false_eq_true, false_and, and_false, n_th H, c_isSort, t0, t1, t2, t3, t4, eq_true t5]) (by rw [f_Model_sort, m_isIn, ob]; dsimp only; rw [m_isIn, ob]; dsimp only; rw [m_isIn, ob]; dsimp only; rw [m_isIn, ob]; dsimp only; rw [m_isIn, ob]; dsimp only; simp (disch := omega) only [ob, b2_0, bz_0, ↓reduceIte, ite_self, not_true_eq_false, not_false_eq_true, and_true, true_and, and_self, jlw_e, one_ne, Bool.true_eq_false, Bool.false_eq_true, false_and, and_false, ia_1, ia_2, ia_3, ia_4, ia_5, ia_6, ia_7, ia_8, ia_9, ia_20, ia_40, ia_120, ia_140, ia_240, ia_720, ia_1520, ia_1680, ia_9680, ia_11280, ia_12480, ia_12880, ia_13080, ia_20760, ia_20880, ip_0, ip_1, ip_2, ip_3, ip_4, ip_5, ip_6, ip_7, ip_8, ip_9, ip_140, im_2, im_4, im_8, im_12, im_800, nI_clamp, jin_nI, jal_c, jal_n, Bool.and_true, if_true, ob, jlw_e, jk_0, jk_1, jk_2, jk_3, jk_4, jk_5, jk_6, jk_7, jk_8, jk_9, jk_10, jk_11, jk_12, jk_13, jk_14, jk_15, jk_16, jk_17, jk_18, jk_19, jg_0, jg_1, jg_2, jg_3, jg_4, jg_5, jg_6, jg_7, jg_8, jg_9, jg_10, jg_11, jg_12, jg_13, jg_14, jg_15, jg_16, jg_17, jg_18, jg_19, m_isIn, h_3 H, t0, t1, t2, t3, t4, eq_true t5])
  by_cases t6 : x5 ≤ 500
  rotate_left
  · exact Cal_f (x := 0) h hK (by simp (disch := omega) only [f_Count_sort, ob, b2_0, bz_0, ↓reduceIte, ite_self, not_true_eq_false, not_false_eq_true, and_true, true_and, and_self, jlw_e, one_ne, Bool.true_eq_false, Bool.false_eq_true, false_and, and_false, n_th H, c_isSort, t0, t1, t2, t3, t4, t5, t6]) (by rw [f_Model_sort, m_isIn, ob]; dsimp only; rw [m_isIn, ob]; dsimp only; rw [m_isIn, ob]; dsimp only; rw [m_isIn, ob]; dsimp only; rw [m_isIn, ob]; dsimp only; simp (disch := omega) only [ob, b2_0, bz_0, ↓reduceIte, ite_self, not_true_eq_false, not_false_eq_true, and_true, true_and, and_self, jlw_e, one_ne, Bool.true_eq_false, Bool.false_eq_true, false_and, and_false, ia_1, ia_2, ia_3, ia_4, ia_5, ia_6, ia_7, ia_8, ia_9, ia_20, ia_40, ia_120, ia_140, ia_240, ia_720, ia_1520, ia_1680, ia_9680, ia_11280, ia_12480, ia_12880, ia_13080, ia_20760, ia_20880, ip_0, ip_1, ip_2, ip_3, ip_4, ip_5, ip_6, ip_7, ip_8, ip_9, ip_140, im_2, im_4, im_8, im_12, im_800, nI_clamp, jin_nI, jal_c, jal_n, Bool.and_true, if_true, ob, jlw_e, jk_0, jk_1, jk_2, jk_3, jk_4, jk_5, jk_6, jk_7, jk_8, jk_9, jk_10, jk_11, jk_12, jk_13, jk_14, jk_15, jk_16, jk_17, jk_18, jk_19, jg_0, jg_1, jg_2, jg_3, jg_4, jg_5, jg_6, jg_7, jg_8, jg_9, jg_10, jg_11, jg_12, jg_13, jg_14, jg_15, jg_16, jg_17, jg_18, jg_19, m_isIn, h_3 H, t0, t1, t2, t3, t4, t5, t6])
  have t9 : x2 ≤ 200 := Int32.le_trans (Int32.not_lt.mp t2) t3
  have t8 : x4 ≤ 500 := Int32.le_trans (Int32.not_lt.mp t5) t6
  by_cases t7 : nI (c 3) ≤ 0
  rotate_left
  · exact Cal_f (x := 0) h hK (by simp (disch := omega) only [f_Count_sort, ob, b2_0, bz_0, ↓reduceIte, ite_self, not_true_eq_false, not_false_eq_true, and_true, true_and, and_self, jlw_e, one_ne, Bool.true_eq_false, Bool.false_eq_true, false_and, and_false, n_th H, c_isSort, t0, t1, t2, t3, t4, t5, t6, t7]) (by rw [f_Model_sort, m_isIn, ob]; dsimp only; rw [m_isIn, ob]; dsimp only; rw [m_isIn, ob]; dsimp only; rw [m_isIn, ob]; dsimp only; rw [m_isIn, ob]; dsimp only; simp (disch := omega) only [ob, b2_0, bz_0, ↓reduceIte, ite_self, not_true_eq_false, not_false_eq_true, and_true, true_and, and_self, jlw_e, one_ne, Bool.true_eq_false, Bool.false_eq_true, false_and, and_false, ia_1, ia_2, ia_3, ia_4, ia_5, ia_6, ia_7, ia_8, ia_9, ia_20, ia_40, ia_120, ia_140, ia_240, ia_720, ia_1520, ia_1680, ia_9680, ia_11280, ia_12480, ia_12880, ia_13080, ia_20760, ia_20880, ip_0, ip_1, ip_2, ip_3, ip_4, ip_5, ip_6, ip_7, ip_8, ip_9, ip_140, im_2, im_4, im_8, im_12, im_800, nI_clamp, jin_nI, jal_c, jal_n, Bool.and_true, if_true, ob, jlw_e, jk_0, jk_1, jk_2, jk_3, jk_4, jk_5, jk_6, jk_7, jk_8, jk_9, jk_10, jk_11, jk_12, jk_13, jk_14, jk_15, jk_16, jk_17, jk_18, jk_19, jg_0, jg_1, jg_2, jg_3, jg_4, jg_5, jg_6, jg_7, jg_8, jg_9, jg_10, jg_11, jg_12, jg_13, jg_14, jg_15, jg_16, jg_17, jg_18, jg_19, m_isIn, h_3 H, t0, t1, t2, t3, t4, t5, t6, t7])
  have hs4 : s < 4 := by omega
  have J := (p_Rsort H).1
  obtain ⟨v2, hv2⟩ : ∃ v : jW, v = (jup (jup (jup (jup w.1 5 (s * 4 + 0) x2) 5 (s * 4 + 1) x3) 5 (s * 4 + 2) x4) 5 (s * 4 + 3) x5, w.2) := ⟨_, rfl⟩
  have p0 : f_Rows_put 4 (nI s) 0 x2 w = some (jup w.1 5 (s * 4 + 0) x2, w.2) := r_put (j := 0) J hs4 (by omega) x2
  have J1 : JR (jup w.1 5 (s * 4 + 0) x2, w.2) 4 4 4 4 := JR_eq J (by dsimp only; rw [jup_fn (by omega)])
  have p1 : f_Rows_put 4 (nI s) 1 x3 (jup w.1 5 (s * 4 + 0) x2, w.2) = _ := r_put (j := 1) J1 hs4 (by omega) x3
  have J2 : JR (jup (jup w.1 5 (s * 4 + 0) x2) 5 (s * 4 + 1) x3, w.2) 4 4 4 4 := JR_eq J1 (by dsimp only; rw [jup_fn (by omega)])
  have p2 : f_Rows_put 4 (nI s) 2 x4 (jup (jup w.1 5 (s * 4 + 0) x2) 5 (s * 4 + 1) x3, w.2) = _ := r_put (j := 2) J2 hs4 (by omega) x4
  have J3 : JR (jup (jup (jup w.1 5 (s * 4 + 0) x2) 5 (s * 4 + 1) x3) 5 (s * 4 + 2) x4, w.2) 4 4 4 4 := JR_eq J2 (by dsimp only; rw [jup_fn (by omega)])
  have p3 : f_Rows_put 4 (nI s) 3 x5 (jup (jup (jup w.1 5 (s * 4 + 0) x2) 5 (s * 4 + 1) x3) 5 (s * 4 + 2) x4, w.2) = some v2 := by rw [hv2]; exact r_put (j := 3) J3 hs4 (by omega) x5
  have eC : f_Count_sort (nI s) x2 x3 x4 x5 w = some (1, v2) := by
    simp (disch := omega) only [f_Count_sort, ob, b2_0, bz_0, ↓reduceIte, ite_self, not_true_eq_false, not_false_eq_true, and_true, true_and, and_self, jlw_e, one_ne, Bool.true_eq_false, Bool.false_eq_true, false_and, and_false, n_th H, c_isSort, t0, t1, t2, t3, t4, t5, t6, t7, p0, p1, p2, p3]
  have e94 : v2.1 94 = w.1 94 := by rw [hv2]; dsimp only; rw [jup_fn (by omega), jup_fn (by omega), jup_fn (by omega), jup_fn (by omega)]
  have H' : RA w 3 (v2.1 94) c K := by rw [e94]; exact H
  obtain ⟨W, hW⟩ : ∃ W : jW, W = ((jup (jup (jup (jup v2.1 94 (20 + 4 * s) (x2)) 94 (20 + 4 * s + 1) (x3)) 94 (20 + 4 * s + 2) (x4)) 94 (20 + 4 * s + 3) (x5)), v2.2) := ⟨_, rfl⟩
  have f94 : ∀ b, b ≠ 94 → W.1 b = v2.1 b := fun b hb => by rw [hW]; dsimp only; rw [jup_fn hb, jup_fn hb, jup_fn hb, jup_fn hb]
  have g0 : W.1 94 (20 + 4 * s) = x2 := by rw [hW]; simp (disch := omega) only [jup_k, jup_eq]
  have g1 : W.1 94 (20 + 4 * s + 1) = x3 := by rw [hW]; simp (disch := omega) only [jup_k, jup_eq]
  have g2 : W.1 94 (20 + 4 * s + 2) = x4 := by rw [hW]; simp (disch := omega) only [jup_k, jup_eq]
  have g3 : W.1 94 (20 + 4 * s + 3) = x5 := by rw [hW]; simp (disch := omega) only [jup_k, jup_eq]
  have eM : f_Model_sort (nI s) x2 x3 x4 x5 v2 = some (1, W) := by
    rw [hW]
    simp (disch := omega) only [f_Model_sort, ob, b2_0, bz_0, ↓reduceIte, ite_self, not_true_eq_false, not_false_eq_true, and_true, true_and, and_self, jlw_e, one_ne, Bool.true_eq_false, Bool.false_eq_true, false_and, and_false, ia_1, ia_2, ia_3, ia_4, ia_5, ia_6, ia_7, ia_8, ia_9, ia_20, ia_40, ia_120, ia_140, ia_240, ia_720, ia_1520, ia_1680, ia_9680, ia_11280, ia_12480, ia_12880, ia_13080, ia_20760, ia_20880, ip_0, ip_1, ip_2, ip_3, ip_4, ip_5, ip_6, ip_7, ip_8, ip_9, ip_140, im_2, im_4, im_8, im_12, im_800, nI_clamp, jin_nI, jal_c, jal_n, Bool.and_true, if_true, ob, jlw_e, jk_0, jk_1, jk_2, jk_3, jk_4, jk_5, jk_6, jk_7, jk_8, jk_9, jk_10, jk_11, jk_12, jk_13, jk_14, jk_15, jk_16, jk_17, jk_18, jk_19, jg_0, jg_1, jg_2, jg_3, jg_4, jg_5, jg_6, jg_7, jg_8, jg_9, jg_10, jg_11, jg_12, jg_13, jg_14, jg_15, jg_16, jg_17, jg_18, jg_19, m_isIn, h_3 H', t0, t1, t2, t3, t4, t5, t6, t7, t8, t9]
  have fA : ∀ k, k < 21000 → ¬ (20 + 4 * s ≤ k ∧ k < 20 + 4 * s + 4) → W.1 94 k = w.1 94 k := fun k _ hE => by rw [hW]; dsimp only; rw [jup_k (by omega), jup_k (by omega), jup_k (by omega), jup_k (by omega), e94]
  have hw : ∀ b j, 3 ≤ b → b < 38 → ¬ (b = 5 ∧ s * 4 ≤ j ∧ j < s * 4 + 4) → W.1 b j = w.1 b j := fun b j q1 q2 q3 => by
    rw [f94 b (by omega), hv2]; dsimp only; rw [jup_ap, if_neg (by omega), jup_ap, if_neg (by omega), jup_ap, if_neg (by omega), jup_ap, if_neg (by omega)]
  have k1 : ¬ x3 < 1 := fun z => t2 (Int32.lt_of_lt_of_le z (Int32.not_lt.mp t1))
  have k2 : ¬ x5 < 1 := fun z => t5 (Int32.lt_of_lt_of_le z (Int32.not_lt.mp t4))
  have hv : ∀ j, j < 4 → W.1 5 (s * 4 + j) = W.1 94 (20 + 4 * s + j) := fun j hj => by
    rcases (show j = 0 ∨ j = 1 ∨ j = 2 ∨ j = 3 by omega) with q | q | q | q <;> subst q
    · rw [f94 5 (by omega), hv2, Nat.add_zero (20 + 4 * s), g0]; simp (disch := omega) only [jup_k, jup_eq]
    · rw [f94 5 (by omega), hv2, g1]; simp (disch := omega) only [jup_k, jup_eq]
    · rw [f94 5 (by omega), hv2, g2]; simp (disch := omega) only [jup_k, jup_eq]
    · rw [f94 5 (by omega), hv2, g3]; simp (disch := omega) only [jup_k, jup_eq]
  have HR := P_sort H hs4 (vb_r1 (n := 200) g0 (by omega) ⟨t1, t9⟩) (vb_r1 (n := 200) g1 (by omega) ⟨k1, t3⟩) (vb_r1 (n := 500) g2 (by omega) ⟨t4, t8⟩) (vb_r1 (n := 500) g3 (by omega) ⟨k2, t6⟩) hv hw fA
  exact ⟨_, v2, W, _, ci, eC, eM, Inv_K (Inv_of h (Nat.le_refl _) (fun b q1 q2 => by rw [f94 b q2, hv2]; dsimp only; rw [jup_fn (by omega), jup_fn (by omega), jup_fn (by omega), jup_fn (by omega)]) HR) (by omega) (by omega)⟩

end Q1

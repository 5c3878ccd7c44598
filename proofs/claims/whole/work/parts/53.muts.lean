/-! LAYER B: more calls that end in an act; pictures -/
section Q3
variable {w v : jW} {A : Nat → Int32} {c ci : Nat → Nat} {K : Nat}

set_option maxHeartbeats 8000000 in
theorem q_ask (h : Inv w c ci K) (hK : K < 512) (x : Int32) (y : Int32) : Cal w (K + 1) (f_Count_ask x y) (f_Model_ask x y) := by
  have H := h.1
  have lK := l_K H
  have l0 := l_0 H
  have l1 := l_1 H
  have l2 := l_2 H
  have l3 := l_3 H
  have l4 := l_4 H
  have l5 := l_5 H
  have l6 := l_6 H
  have l7 := l_7 H
  have l8 := l_8 H
  have l9 := l_9 H
  have l10 := l_10 H
  have l11 := l_11 H
  have l12 := l_12 H
  have l13 := l_13 H
  by_cases t0 : ¬ x < 0 ∧ x ≤ 1
  rotate_left
  · refine Cal_f (x := -1) h hK ?_ ?_
    · simp (disch := omega) only [f_Count_ask, f_Count_isAbroad, ob, b2_0, bz_0, ↓reduceIte, ite_self, not_true_eq_false, not_false_eq_true, and_true, true_and, and_self, ↓jlw_e, ↓ob, one_ne, Bool.true_eq_false, Bool.false_eq_true, false_and, and_false, c_isLand, s_si H, a_si0 H, u_qu H, rs_0 H, t0]
    · rw [f_Model_ask]
      rw [m_isIn, ob]
      dsimp only
      rw [b2_n t0, if_pos rfl]
  obtain ⟨l, hl, rfl⟩ := rngle (n := 1) (by omega) t0
  by_cases t1 : ¬ y < 0 ∧ y < nI (c 1)
  rotate_left
  · refine Cal_f (x := -1) h hK ?_ ?_
    · simp (disch := omega) only [f_Count_ask, f_Count_isAbroad, ob, b2_0, bz_0, ↓reduceIte, ite_self, not_true_eq_false, not_false_eq_true, and_true, true_and, and_self, ↓jlw_e, ↓ob, one_ne, Bool.true_eq_false, Bool.false_eq_true, false_and, and_false, c_isLand, s_si H, a_si0 H, u_qu H, rs_0 H, t0, t1]
    · rw [f_Model_ask]
      rw [m_isIn, ob]
      dsimp only
      rw [b2_p t0, if_neg one_ne]
      rw [mi_site H, ob]
      dsimp only
      rw [b2_n t1, if_pos rfl]
  obtain ⟨s, hs, rfl⟩ := rng (by omega) t1
  by_cases t2 : w.1 94 (40 + 8 * s) = nI l
  · refine Cal_f (x := -1) h hK ?_ ?_
    · simp (disch := omega) only [f_Count_ask, f_Count_isAbroad, ob, b2_0, bz_0, ↓reduceIte, ite_self, not_true_eq_false, not_false_eq_true, and_true, true_and, and_self, ↓jlw_e, ↓ob, one_ne, Bool.true_eq_false, Bool.false_eq_true, false_and, and_false, c_isLand, s_si H, a_si0 H, u_qu H, rs_0 H, t0, t1, eq_true t2]
    · rw [f_Model_ask]
      rw [m_isIn, ob]
      dsimp only
      rw [b2_p t0, if_neg one_ne]
      rw [mi_site H, ob]
      dsimp only
      rw [b2_p t1, if_neg one_ne]
      rw [ms_0 (by omega), ob]
      dsimp only
      rw [if_pos t2]
  by_cases t3 : c 10 = 50
  · refine Cal_f (x := -1) h hK ?_ ?_
    · simp (disch := omega) only [f_Count_ask, f_Count_isAbroad, ob, b2_0, bz_0, ↓reduceIte, ite_self, not_true_eq_false, not_false_eq_true, and_true, true_and, and_self, ↓jlw_e, ↓ob, one_ne, Bool.true_eq_false, Bool.false_eq_true, false_and, and_false, c_isLand, s_si H, a_si0 H, u_qu H, rs_0 H, t0, t1, t2, eq_true t3]
    · rw [f_Model_ask]
      rw [m_isIn, ob]
      dsimp only
      rw [b2_p t0, if_neg one_ne]
      rw [mi_site H, ob]
      dsimp only
      rw [b2_p t1, if_neg one_ne]
      rw [ms_0 (by omega), ob]
      dsimp only
      rw [if_neg t2]
      rw [if_pos (by decide), jk_10, h_10 H]
      rw [if_pos (show nI (c 10) = 50 by rw [t3]; rfl)]
  have hls : w.1 94 (40 + 8 * s) = nI (1 - l) := by
    obtain ⟨n, n1, n2, n3⟩ := (p_Isite H s hs).1
    have : n ≠ l := fun z => t2 (by rw [n1, z])
    rw [n1, show n = 1 - l by omega]
  obtain ⟨u1, eo, ao, Jo⟩ := ap_open (j_qu H) (by omega) (nI l)
  obtain ⟨u2, ep1, ap1, Jp1⟩ := ap_put ao Jo (j := 1) (by omega) (y := 1) rfl (nI (c 0))
  obtain ⟨v2, ep3, ap3, Jp3⟩ := ap_put ap1 Jp1 (j := 2) (by omega) (y := 2) rfl (-1)
  have z1 : u1.1 3 0 = nI (c 0) := (ao.2.2 3 0 (by omega)).trans (rs_0 H)
  have fr : ∀ b j, b ≠ 30 ∧ b ≠ 31 → v2.1 b j = w.1 b j := fun b j q => ap3.2.2 b j (by omega)
  have JA : JR v2 32 5 512 (c 11) := JR_eq (j_ac H) (funext fun j => fr 32 j (by omega))
  have z0 : v2.1 3 0 = nI (c 0) := (fr 3 0 (by omega)).trans (rs_0 H)
  obtain ⟨v3, e3, a3⟩ := c_act JA (by omega) z0 5 (nI l) (nI s) (nI (c 10))
  have eC : f_Count_ask (nI l) (nI s) w = some (nI (c 10), v3) := by
    simp (disch := omega) only [f_Count_ask, f_Count_isAbroad, ob, b2_0, bz_0, ↓reduceIte, ite_self, not_true_eq_false, not_false_eq_true, and_true, true_and, and_self, ↓jlw_e, ↓ob, one_ne, Bool.true_eq_false, Bool.false_eq_true, false_and, and_false, c_isLand, s_si H, a_si0 H, u_qu H, rs_0 H, t0, t1, t2, t3, eo, ep1, z1, ep3, e3, ip_1]
  have e94 : v3.1 94 = w.1 94 := (Ap_fn a3 (by omega) (by omega)).trans (funext fun j => fr 94 j (by omega))
  have H' : RA w 3 (v3.1 94) c K := by rw [e94]; exact H
  obtain ⟨W, hW⟩ : ∃ W : jW, W = ((jup (jup (jup (jup (jup (jup (jup (jup (jup (jup (jup v3.1 94 (12880 + 4 * c 10) (nI l)) 94 (12880 + 4 * c 10 + 1) (nI s)) 94 (12880 + 4 * c 10 + 2) (nI (c 0))) 94 (12880 + 4 * c 10 + 3) (-1)) 94 (13080 + 8 * c 11) (5)) 94 (13080 + 8 * c 11 + 1) (nI (c 0))) 94 (13080 + 8 * c 11 + 2) (nI l)) 94 (13080 + 8 * c 11 + 3) (nI (c 10))) 94 (13080 + 8 * c 11 + 4) (0)) 94 (11) (nI (c 11 + 1))) 94 (10) (nI (c 10 + 1))), v3.2) := ⟨_, rfl⟩
  have f94 : ∀ b, b ≠ 94 → W.1 b = v3.1 b := fun b hb => by rw [hW]; dsimp only; rw [jup_fn hb, jup_fn hb, jup_fn hb, jup_fn hb, jup_fn hb, jup_fn hb, jup_fn hb, jup_fn hb, jup_fn hb, jup_fn hb, jup_fn hb]
  have g0 : W.1 94 (12880 + 4 * c 10) = nI l := by rw [hW]; simp (disch := omega) only [jup_k, jup_eq]
  have g1 : W.1 94 (12880 + 4 * c 10 + 1) = nI s := by rw [hW]; simp (disch := omega) only [jup_k, jup_eq]
  have g2 : W.1 94 (12880 + 4 * c 10 + 2) = nI (c 0) := by rw [hW]; simp (disch := omega) only [jup_k, jup_eq]
  have g3 : W.1 94 (12880 + 4 * c 10 + 3) = -1 := by rw [hW]; simp (disch := omega) only [jup_k, jup_eq]
  have g4 : W.1 94 (13080 + 8 * c 11) = 5 := by rw [hW]; simp (disch := omega) only [jup_k, jup_eq]
  have g5 : W.1 94 (13080 + 8 * c 11 + 1) = nI (c 0) := by rw [hW]; simp (disch := omega) only [jup_k, jup_eq]
  have g6 : W.1 94 (13080 + 8 * c 11 + 2) = nI l := by rw [hW]; simp (disch := omega) only [jup_k, jup_eq]
  have g7 : W.1 94 (13080 + 8 * c 11 + 3) = nI (c 10) := by rw [hW]; simp (disch := omega) only [jup_k, jup_eq]
  have g8 : W.1 94 (13080 + 8 * c 11 + 4) = 0 := by rw [hW]; simp (disch := omega) only [jup_k, jup_eq]
  have g9 : W.1 94 (11) = nI (c 11 + 1) := by rw [hW]; simp (disch := omega) only [jup_k, jup_eq]
  have g10 : W.1 94 (10) = nI (c 10 + 1) := by rw [hW]; simp (disch := omega) only [jup_k, jup_eq]
  have eN : f_Model_noted 5 (nI l) (nI (c 10)) (0) ((jup (jup (jup (jup v3.1 94 (12880 + 4 * c 10) (nI l)) 94 (12880 + 4 * c 10 + 1) (nI s)) 94 (12880 + 4 * c 10 + 2) (nI (c 0))) 94 (12880 + 4 * c 10 + 3) (-1)), v3.2) = some (ntw ((jup (jup (jup (jup v3.1 94 (12880 + 4 * c 10) (nI l)) 94 (12880 + 4 * c 10 + 1) (nI s)) 94 (12880 + 4 * c 10 + 2) (nI (c 0))) 94 (12880 + 4 * c 10 + 3) (-1)), v3.2) (c 11) (nI (c 0)) 5 (nI l) (nI (c 10)) (0)) := m_noted (by simp (disch := omega) only [jup_k, jup_eq, e94, h_11 H]) (by omega) (by simp (disch := omega) only [jup_k, jup_eq, e94, h_0 H]) _ _ _ _
  have eM : f_Model_ask (nI l) (nI s) v3 = some (nI (c 10), W) := by
    rw [hW]
    rw [f_Model_ask, m_isIn, ob]
    dsimp only
    rw [b2_p t0, if_neg one_ne, mi_site H', ob]
    dsimp only
    rw [b2_p t1, if_neg one_ne, ms_0 (by omega), ob]
    dsimp only
    rw [e94, if_neg t2]
    simp (disch := omega) only [jg_0, ob, b2_0, bz_0, ↓reduceIte, ite_self, not_true_eq_false, not_false_eq_true, and_true, true_and, and_self, ↓jlw_e, ↓ob, one_ne, Bool.true_eq_false, Bool.false_eq_true, false_and, and_false, ia_1, ia_2, ia_3, ia_4, ia_5, ia_6, ia_7, ia_8, ia_9, ia_20, ia_40, ia_120, ia_140, ia_240, ia_720, ia_1520, ia_1680, ia_9680, ia_11280, ia_12480, ia_12880, ia_13080, ia_20760, ia_20880, ip_0, ip_1, ip_2, ip_3, ip_4, ip_5, ip_6, ip_7, ip_8, ip_9, ip_140, im_2, im_4, im_8, im_12, im_800, nI_clamp, jin_nI, jal_c, jal_n, Bool.and_true, if_true, ob, jlw_e, jk_0, jk_1, jk_2, jk_3, jk_4, jk_5, jk_6, jk_7, jk_8, jk_9, jk_10, jk_11, jk_12, jk_13, jk_14, jk_15, jk_16, jk_17, jk_18, jk_19, jg_0, jg_1, jg_2, jg_3, jg_4, jg_5, jg_6, jg_7, jg_8, jg_9, jg_10, jg_11, jg_12, jg_13, jg_14, jg_15, jg_16, jg_17, jg_18, jg_19, ms_0, ms_1, ms_2, ms_3, ms_4, mt_0, mt_1, mt_2, mt_3, mt_4, mt_5, mt_6, mt_7, mt_8, mm_0, mm_1, mm_2, mm_3, mm_4, m_isIn, mi_site H', show (nI (c 10) = 50) = (c 10 = 50) from ii_eq (b := 50) (by omega) (by omega), t0, t1, t2, t3, e94, h_10 H, h_0 H, h_11 H, nI_pred, jup_eq, jup_k, jup_ne, eN, ntw]
  obtain ⟨B, hB⟩ : ∃ B : Nat → Int32, B = fun k => if k = 11 ∨ k = 13080 + 8 * c 11 ∨ k = 13080 + 8 * c 11 + 1 ∨ k = 13080 + 8 * c 11 + 2 ∨ k = 13080 + 8 * c 11 + 3 ∨ k = 13080 + 8 * c 11 + 4 then w.1 94 k else W.1 94 k := ⟨_, rfl⟩
  have b1 : ∀ k, ¬ (k = 11 ∨ k = 13080 + 8 * c 11 ∨ k = 13080 + 8 * c 11 + 1 ∨ k = 13080 + 8 * c 11 + 2 ∨ k = 13080 + 8 * c 11 + 3 ∨ k = 13080 + 8 * c 11 + 4) → B k = W.1 94 k := fun k q => by rw [hB]; exact if_neg q
  have fB : ∀ k, k < 21000 → ¬ (k = 10 ∨ k = 12880 + 4 * c 10 ∨ k = 12880 + 4 * c 10 + 1 ∨ k = 12880 + 4 * c 10 + 2 ∨ k = 12880 + 4 * c 10 + 3) → B k = w.1 94 k := fun k _ hE => by
    rw [hB]; dsimp only
    by_cases q : k = 11 ∨ k = 13080 + 8 * c 11 ∨ k = 13080 + 8 * c 11 + 1 ∨ k = 13080 + 8 * c 11 + 2 ∨ k = 13080 + 8 * c 11 + 3 ∨ k = 13080 + 8 * c 11 + 4
    · rw [if_pos q]
    · rw [if_neg q, hW]; dsimp only; rw [jup_k (by omega), jup_k (by omega), jup_k (by omega), jup_k (by omega), jup_k (by omega), jup_k (by omega), jup_k (by omega), jup_k (by omega), jup_k (by omega), jup_k (by omega), jup_k (by omega), e94]
  have k0 : B (12880 + 4 * c 10) = nI l := (b1 _ (by omega)).trans g0
  have k1 : B (12880 + 4 * c 10 + 1) = nI s := (b1 _ (by omega)).trans g1
  have k2 : B (12880 + 4 * c 10 + 2) = nI (c 0) := (b1 _ (by omega)).trans g2
  have k3 : B (12880 + 4 * c 10 + 3) = -1 := (b1 _ (by omega)).trans g3
  have k10 : B (10) = nI (c 10 + 1) := (b1 _ (by omega)).trans g10
  have ha1 : v2.1 30 2 = nI (c 10 + 1) := ap3.1
  have hv1 : ∀ j, j < 3 → cmQ j < 4 → v2.1 31 (c 10 * 3 + j) = B (12880 + 4 * c 10 + cmQ j) := fun j hj _ => by
    rw [ap3.2.1 j hj]
    rcases (show j = 0 ∨ j = 1 ∨ j = 2 by omega) with z | z | z <;> subst z
    · exact k0.symm
    · exact k2.symm
    · exact k3.symm
  have hw1 : ∀ b j, 3 ≤ b → b < 38 → ¬ (b = 30 ∧ j = 2 ∨ b = 31 ∧ c 10 * 3 ≤ j ∧ j < c 10 * 3 + 3) → v2.1 b j = w.1 b j := fun b j _ _ q3 => ap3.2.2 b j q3
  have H1 : RA v2 3 B (cup c 10 (c 10 + 1)) K := P_que H hl hs hls (by omega) ha1 k10 hv1 k0 k1 k2 k3 hw1 fB
  have hw2 : ∀ b j, 3 ≤ b → b < 38 → ¬ (b = 32 ∧ j = 2 ∨ b = 33 ∧ c 11 * 5 ≤ j ∧ j < c 11 * 5 + 5) → W.1 b j = v2.1 b j := fun b j q1 q2 q3 => by
    rw [f94 b (by omega)]; exact a3.2.2 b j q3
  have hv2 : ∀ j, j < 5 → cmA j < 8 → W.1 33 (c 11 * 5 + j) = W.1 94 (13080 + 8 * c 11 + cmA j) := fun j hj hc => by
    rw [f94 33 (by omega), a3.2.1 j hj]
    rcases (show j = 0 ∨ j = 1 ∨ j = 2 ∨ j = 3 ∨ j = 4 by omega) with z | z | z | z | z <;> subst z
    · exact g4.symm
    · exact g5.symm
    · exact g6.symm
    · exact absurd hc (by decide)
    · exact absurd hc (by decide)
  have hA2 : ∀ k, k < 21000 → ¬ (k = 11 ∨ k = 13080 + 8 * c 11 ∨ k = 13080 + 8 * c 11 + 1 ∨ k = 13080 + 8 * c 11 + 2 ∨ k = 13080 + 8 * c 11 + 3 ∨ k = 13080 + 8 * c 11 + 4) → W.1 94 k = B k := fun k _ q => (b1 k q).symm
  have ha2 : W.1 32 2 = nI (c 11 + 1) := by rw [f94 32 (by omega)]; exact a3.1
  have hv3 : W.1 33 (c 11 * 5 + 3) = nI s := by rw [f94 33 (by omega), a3.2.1 3 (by omega)]; rfl
  have hv4 : W.1 33 (c 11 * 5 + 4) = nI (c 10) := by rw [f94 33 (by omega), a3.2.1 4 (by omega)]; rfl

  have HR := P_act (c := (cup c 10 (c 10 + 1))) H1 hK (k := 5) (o := (c 10)) (by omega) (show _ from (show c 10 < c 10 + 1 from Nat.lt_succ_self _)) (show c 11 < 512 by omega) ha2 g9 hv2 g4 g5 (show vb (W.1 94 (13080 + 8 * c 11 + 2)) 0 1 by rw [g6]; exact vb_k rfl (Nat.zero_le _) hl) g7 (fun z => absurd z (by decide)) (hv3.trans ((show nI s = B (12880 + 4 * c 10 + 1) from k1.symm))) (hv4.trans (rfl))  hw2 hA2
  exact ⟨_, v3, W, _, ci, eC, eM, Inv_of h (Nat.le_succ _) (fun b q1 q2 => by rw [f94 b q2, Ap_fn a3 (by omega) (by omega)]; exact funext fun j => fr b j (by omega)) HR⟩

set_option maxHeartbeats 8000000 in
theorem q_answer (h : Inv w c ci K) (hK : K < 512) (x : Int32) : Cal w (K + 1) (f_Count_answer x) (f_Model_answer x) := by
  have H := h.1
  have lK := l_K H
  have l0 := l_0 H
  have l1 := l_1 H
  have l2 := l_2 H
  have l3 := l_3 H
  have l4 := l_4 H
  have l5 := l_5 H
  have l6 := l_6 H
  have l7 := l_7 H
  have l8 := l_8 H
  have l9 := l_9 H
  have l10 := l_10 H
  have l11 := l_11 H
  have l12 := l_12 H
  have l13 := l_13 H
  by_cases t0 : ¬ x < 0 ∧ x < nI (c 10)
  rotate_left
  · exact Cal_f (x := 0) h hK (by simp (disch := omega) only [f_Count_answer, ob, b2_0, bz_0, ↓reduceIte, ite_self, not_true_eq_false, not_false_eq_true, and_true, true_and, and_self, ↓jlw_e, ↓ob, one_ne, Bool.true_eq_false, Bool.false_eq_true, false_and, and_false, s_qu H, a_qu2 H, rs_0 H, t0]) (by simp (disch := omega) only [f_Model_answer, ob, b2_0, bz_0, ↓reduceIte, ite_self, not_true_eq_false, not_false_eq_true, and_true, true_and, and_self, ↓jlw_e, ↓ob, one_ne, Bool.true_eq_false, Bool.false_eq_true, false_and, and_false, ia_1, ia_2, ia_3, ia_4, ia_5, ia_6, ia_7, ia_8, ia_9, ia_20, ia_40, ia_120, ia_140, ia_240, ia_720, ia_1520, ia_1680, ia_9680, ia_11280, ia_12480, ia_12880, ia_13080, ia_20760, ia_20880, ip_0, ip_1, ip_2, ip_3, ip_4, ip_5, ip_6, ip_7, ip_8, ip_9, ip_140, im_2, im_4, im_8, im_12, im_800, nI_clamp, jin_nI, jal_c, jal_n, Bool.and_true, if_true, ob, jlw_e, jk_0, jk_1, jk_2, jk_3, jk_4, jk_5, jk_6, jk_7, jk_8, jk_9, jk_10, jk_11, jk_12, jk_13, jk_14, jk_15, jk_16, jk_17, jk_18, jk_19, jg_0, jg_1, jg_2, jg_3, jg_4, jg_5, jg_6, jg_7, jg_8, jg_9, jg_10, jg_11, jg_12, jg_13, jg_14, jg_15, jg_16, jg_17, jg_18, jg_19, m_inM, h_10 H, t0])
  obtain ⟨q, hq, rfl⟩ := rng (by omega) t0
  by_cases t1 : w.1 94 (12880 + 4 * q + 3) = -1
  rotate_left
  · obtain ⟨l, sq, dq, g1', g2', g3', hl, hsq, hdq, hls, han⟩ := p_Ique H q hq
    have hk : ¬ w.1 94 (12880 + 4 * q + 3) < 0 := by
      rcases han with e | ⟨n, n1, n2, n3⟩
      · exact absurd e t1
      · rw [n1]; exact nI_pos (by omega)
    refine Cal_f (x := 0) h hK ?_ ?_
    · rw [f_Count_answer, s_qu H, ob]
      dsimp only
      rw [b2_p t0, if_neg one_ne, a_qu2 H hq, ob]
      dsimp only
      rw [if_neg t1]
    · rw [f_Model_answer, if_pos (by decide), jk_10, h_10 H, m_inM (by omega), ob]
      dsimp only
      rw [b2_p t0, if_neg one_ne]
      have i3 : (12880 + 4 * nI q + 3 : Int32) = nI (12880 + 4 * q + 3) := by rw [im_4, ia_12880, ip_3]
      have j3 : jal [jin (nI (12880 + 4 * q + 3)) 21000] = true := by rw [jal_c, jin_nI (by omega) (by omega)]; rfl
      rw [i3, j3, nI_clamp (by omega), if_pos rfl, if_neg hk]
  obtain ⟨l, sq, dq, g1', g2', g3', hl, hsq, hdq, hls, han⟩ := p_Ique H q hq
  obtain ⟨v2, hv2'⟩ : ∃ v : jW, v = (jup w.1 31 (q * 3 + 2) (nI (c 0)), w.2) := ⟨_, rfl⟩
  have ep : f_Rows_put 30 (nI q) 2 (nI (c 0)) w = some v2 := by rw [hv2']; exact r_put (j := 2) (j_qu H) hq (by omega) _
  have Jv : JR v2 30 3 50 (c 10) := JR_eq (j_qu H) (by rw [hv2']; dsimp only; rw [jup_fn (by omega)])
  have c0' : w.1 31 (q * 3 + 0) = nI l := by
    have a := a_qu0 H hq
    have b := r_at (j_qu H) hq (j := 0) (by omega)
    rw [g1'] at a
    exact (congrArg Prod.fst (Option.some.inj (b.symm.trans a)))
  have ea : f_Rows_at 30 (nI q) 0 v2 = some (nI l, v2) := by
    have b := r_at Jv hq (j := 0) (by omega)
    rw [hv2'] at b ⊢
    dsimp only at b
    rw [jup_k (by omega), c0'] at b
    exact b
  have esub : (1 : Int32) - nI l = nI (1 - l) := nI_sub (b := l) (a := 1) hl
  have fr : ∀ b j, b ≠ 31 → v2.1 b j = w.1 b j := fun b j q => by rw [hv2']; dsimp only; rw [jup_ne q]
  have JA : JR v2 32 5 512 (c 11) := JR_eq (j_ac H) (funext fun j => fr 32 j (by omega))
  have z0 : v2.1 3 0 = nI (c 0) := (fr 3 0 (by omega)).trans (rs_0 H)
  obtain ⟨v3, e3, a3⟩ := c_act JA (by omega) z0 6 (nI (1 - l)) (nI q) (nI q)
  have eC : f_Count_answer (nI q) w = some (1, v3) := by
    simp (disch := omega) only [f_Count_answer, ob, b2_0, bz_0, ↓reduceIte, ite_self, not_true_eq_false, not_false_eq_true, and_true, true_and, and_self, ↓jlw_e, ↓ob, one_ne, Bool.true_eq_false, Bool.false_eq_true, false_and, and_false, s_qu H, a_qu2 H, rs_0 H, t0, t1, ep, ea, esub, e3, ip_1]
  have e94 : v3.1 94 = w.1 94 := (Ap_fn a3 (by omega) (by omega)).trans (funext fun j => fr 94 j (by omega))
  have H' : RA w 3 (v3.1 94) c K := by rw [e94]; exact H
  obtain ⟨W, hW⟩ : ∃ W : jW, W = ((jup (jup (jup (jup (jup (jup (jup v3.1 94 (12880 + 4 * q + 3) (nI (c 0))) 94 (13080 + 8 * c 11) (6)) 94 (13080 + 8 * c 11 + 1) (nI (c 0))) 94 (13080 + 8 * c 11 + 2) (nI (1 - l))) 94 (13080 + 8 * c 11 + 3) (nI q)) 94 (13080 + 8 * c 11 + 4) (0)) 94 (11) (nI (c 11 + 1))), v3.2) := ⟨_, rfl⟩
  have f94 : ∀ b, b ≠ 94 → W.1 b = v3.1 b := fun b hb => by rw [hW]; dsimp only; rw [jup_fn hb, jup_fn hb, jup_fn hb, jup_fn hb, jup_fn hb, jup_fn hb, jup_fn hb]
  have g0 : W.1 94 (12880 + 4 * q + 3) = nI (c 0) := by rw [hW]; simp (disch := omega) only [jup_k, jup_eq]
  have g1 : W.1 94 (13080 + 8 * c 11) = 6 := by rw [hW]; simp (disch := omega) only [jup_k, jup_eq]
  have g2 : W.1 94 (13080 + 8 * c 11 + 1) = nI (c 0) := by rw [hW]; simp (disch := omega) only [jup_k, jup_eq]
  have g3 : W.1 94 (13080 + 8 * c 11 + 2) = nI (1 - l) := by rw [hW]; simp (disch := omega) only [jup_k, jup_eq]
  have g4 : W.1 94 (13080 + 8 * c 11 + 3) = nI q := by rw [hW]; simp (disch := omega) only [jup_k, jup_eq]
  have g5 : W.1 94 (13080 + 8 * c 11 + 4) = 0 := by rw [hW]; simp (disch := omega) only [jup_k, jup_eq]
  have g6 : W.1 94 (11) = nI (c 11 + 1) := by rw [hW]; simp (disch := omega) only [jup_k, jup_eq]
  have eN : f_Model_noted 6 (nI (1 - l)) (nI q) (0) ((jup v3.1 94 (12880 + 4 * q + 3) (nI (c 0))), v3.2) = some (ntw ((jup v3.1 94 (12880 + 4 * q + 3) (nI (c 0))), v3.2) (c 11) (nI (c 0)) 6 (nI (1 - l)) (nI q) (0)) := m_noted (by simp (disch := omega) only [jup_k, jup_eq, e94, h_11 H]) (by omega) (by simp (disch := omega) only [jup_k, jup_eq, e94, h_0 H]) _ _ _ _
  have eM : f_Model_answer (nI q) v3 = some (1, W) := by
    rw [hW]
    rw [f_Model_answer, if_pos (by decide), jk_10, e94, h_10 H, m_inM (by omega), ob]
    dsimp only
    rw [b2_p t0, if_neg one_ne]
    have i3 : (12880 + 4 * nI q + 3 : Int32) = nI (12880 + 4 * q + 3) := by rw [im_4, ia_12880, ip_3]
    have i1 : (12880 + 4 * nI q + 1 : Int32) = nI (12880 + 4 * q + 1) := by rw [im_4, ia_12880, ip_1]
    have j3 : jin (nI (12880 + 4 * q + 3)) 21000 = true := jin_nI (by omega) (by omega)
    have j1 : jin (nI (12880 + 4 * q + 1)) 21000 = true := jin_nI (by omega) (by omega)
    have s1 : f_Model_siteAt (nI sq) 0 (jup v3.1 94 (12880 + 4 * q + 3) (nI (c 0)), v3.2) = some (nI (1 - l), (jup v3.1 94 (12880 + 4 * q + 3) (nI (c 0)), v3.2)) := by
      rw [ms_0 (by omega)]
      dsimp only
      rw [jup_k (by omega), e94, hls]
    rw [i3, i1, j3, j1, nI_clamp (by omega), nI_clamp (by omega)]
    have t1' : v3.1 94 (12880 + 4 * q + 3) = -1 := by rw [e94]; exact t1
    rw [t1']
    simp (disch := omega) only [s1, g2', ob, b2_0, bz_0, ↓reduceIte, ite_self, not_true_eq_false, not_false_eq_true, and_true, true_and, and_self, ↓jlw_e, ↓ob, one_ne, Bool.true_eq_false, Bool.false_eq_true, false_and, and_false, ia_1, ia_2, ia_3, ia_4, ia_5, ia_6, ia_7, ia_8, ia_9, ia_20, ia_40, ia_120, ia_140, ia_240, ia_720, ia_1520, ia_1680, ia_9680, ia_11280, ia_12480, ia_12880, ia_13080, ia_20760, ia_20880, ip_0, ip_1, ip_2, ip_3, ip_4, ip_5, ip_6, ip_7, ip_8, ip_9, ip_140, im_2, im_4, im_8, im_12, im_800, nI_clamp, jin_nI, jal_c, jal_n, Bool.and_true, if_true, ob, jlw_e, jk_0, jk_1, jk_2, jk_3, jk_4, jk_5, jk_6, jk_7, jk_8, jk_9, jk_10, jk_11, jk_12, jk_13, jk_14, jk_15, jk_16, jk_17, jk_18, jk_19, jg_0, jg_1, jg_2, jg_3, jg_4, jg_5, jg_6, jg_7, jg_8, jg_9, jg_10, jg_11, jg_12, jg_13, jg_14, jg_15, jg_16, jg_17, jg_18, jg_19, ms_0, ms_1, ms_2, ms_3, ms_4, mt_0, mt_1, mt_2, mt_3, mt_4, mt_5, mt_6, mt_7, mt_8, mm_0, mm_1, mm_2, mm_3, mm_4, m_inM, h_10 H', t0, t1, e94, h_10 H, h_0 H, h_11 H, nI_pred, im1_0, jup_eq, jup_k, jup_ne, eN, ntw]
  obtain ⟨B, hB⟩ : ∃ B : Nat → Int32, B = fun k => if k = 11 ∨ k = 13080 + 8 * c 11 ∨ k = 13080 + 8 * c 11 + 1 ∨ k = 13080 + 8 * c 11 + 2 ∨ k = 13080 + 8 * c 11 + 3 ∨ k = 13080 + 8 * c 11 + 4 then w.1 94 k else W.1 94 k := ⟨_, rfl⟩
  have b1 : ∀ k, ¬ (k = 11 ∨ k = 13080 + 8 * c 11 ∨ k = 13080 + 8 * c 11 + 1 ∨ k = 13080 + 8 * c 11 + 2 ∨ k = 13080 + 8 * c 11 + 3 ∨ k = 13080 + 8 * c 11 + 4) → B k = W.1 94 k := fun k q => by rw [hB]; exact if_neg q
  have fB : ∀ k, k < 21000 → ¬ (k = 12880 + 4 * q + 3) → B k = w.1 94 k := fun k _ hE => by
    rw [hB]; dsimp only
    by_cases q : k = 11 ∨ k = 13080 + 8 * c 11 ∨ k = 13080 + 8 * c 11 + 1 ∨ k = 13080 + 8 * c 11 + 2 ∨ k = 13080 + 8 * c 11 + 3 ∨ k = 13080 + 8 * c 11 + 4
    · rw [if_pos q]
    · rw [if_neg q, hW]; dsimp only; rw [jup_k (by omega), jup_k (by omega), jup_k (by omega), jup_k (by omega), jup_k (by omega), jup_k (by omega), jup_k (by omega), e94]
  have k0 : B (12880 + 4 * q + 3) = nI (c 0) := (b1 _ (by omega)).trans g0
  have hv1 : v2.1 31 (q * 3 + 2) = nI (c 0) := by rw [hv2']; exact jup_eq
  have hw1 : ∀ b j, 3 ≤ b → b < 38 → ¬ (b = 31 ∧ j = q * 3 + 2) → v2.1 b j = w.1 b j := fun b j _ _ q3 => by rw [hv2']; dsimp only; rw [jup_ap, if_neg q3]
  have H1 : RA v2 3 B c K := P_ans H hq k0 hv1 hw1 fB
  have hw2 : ∀ b j, 3 ≤ b → b < 38 → ¬ (b = 32 ∧ j = 2 ∨ b = 33 ∧ c 11 * 5 ≤ j ∧ j < c 11 * 5 + 5) → W.1 b j = v2.1 b j := fun b j q1 q2 q3 => by
    rw [f94 b (by omega)]; exact a3.2.2 b j q3
  have hv2 : ∀ j, j < 5 → cmA j < 8 → W.1 33 (c 11 * 5 + j) = W.1 94 (13080 + 8 * c 11 + cmA j) := fun j hj hc => by
    rw [f94 33 (by omega), a3.2.1 j hj]
    rcases (show j = 0 ∨ j = 1 ∨ j = 2 ∨ j = 3 ∨ j = 4 by omega) with z | z | z | z | z <;> subst z
    · exact g1.symm
    · exact g2.symm
    · exact g3.symm
    · exact absurd hc (by decide)
    · exact absurd hc (by decide)
  have hA2 : ∀ k, k < 21000 → ¬ (k = 11 ∨ k = 13080 + 8 * c 11 ∨ k = 13080 + 8 * c 11 + 1 ∨ k = 13080 + 8 * c 11 + 2 ∨ k = 13080 + 8 * c 11 + 3 ∨ k = 13080 + 8 * c 11 + 4) → W.1 94 k = B k := fun k _ q => (b1 k q).symm
  have ha2 : W.1 32 2 = nI (c 11 + 1) := by rw [f94 32 (by omega)]; exact a3.1
  have hv3 : W.1 33 (c 11 * 5 + 3) = nI q := by rw [f94 33 (by omega), a3.2.1 3 (by omega)]; rfl
  have hv4 : W.1 33 (c 11 * 5 + 4) = nI q := by rw [f94 33 (by omega), a3.2.1 4 (by omega)]; rfl

  have HR := P_act (c := c) H1 hK (k := 6) (o := q) (by omega) (show _ from hq) (show c 11 < 512 by omega) ha2 g6 hv2 g1 g2 (show vb (W.1 94 (13080 + 8 * c 11 + 2)) 0 1 by rw [g3]; exact vb_k rfl (Nat.zero_le _) (by omega)) g4 (fun z => absurd z (by decide)) (hv3.trans (rfl)) (hv4.trans (rfl))  hw2 hA2
  exact ⟨_, v3, W, _, ci, eC, eM, Inv_of h (Nat.le_succ _) (fun b q1 q2 => by rw [f94 b q2, Ap_fn a3 (by omega) (by omega)]; exact funext fun j => fr b j (by omega)) HR⟩

end Q3

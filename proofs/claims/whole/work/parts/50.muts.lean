/-! LAYER B: calls that end in an act -/
section Q2
variable {w v : jW} {A : Nat → Int32} {c ci : Nat → Nat} {K : Nat}

set_option maxHeartbeats 8000000 in
theorem q_tell (h : Inv w c ci K) (hK : K < 512) (x : Int32) (y : Int32) (d : Int32) : Cal w (K + 1) (f_Count_tell x y d) (f_Model_tell x y d) := by
  have H := h.1
  have lK := l_K H
  have l0 := l_0 H
  have l1 := l_1 H
  have l2 := l_2 H
  have l3 := l_3 H
  have l4 := l_4 H
  have l5 := l_5 H
  have l6 := l_6 H
  have l7 := l_7 H
  have l8 := l_8 H
  have l9 := l_9 H
  have l10 := l_10 H
  have l11 := l_11 H
  have l12 := l_12 H
  have l13 := l_13 H
  by_cases y1 : y = -1
  · subst y1
    by_cases t0 : ¬ x < 0 ∧ x < nI (c 3)
    rotate_left
    · exact Cal_f (x := -1) h hK (by simp (disch := omega) only [f_Count_tell, ob, b2_0, bz_0, ↓reduceIte, ite_self, not_true_eq_false, not_false_eq_true, and_true, true_and, and_self, ↓jlw_e, ↓ob, one_ne, Bool.true_eq_false, Bool.false_eq_true, false_and, and_false, s_th H, rs_0 H, u_to H, a_th3 H, t0]) (by simp (disch := omega) only [f_Model_tell, f_Model_tell_j36, ob, b2_0, bz_0, ↓reduceIte, ite_self, not_true_eq_false, not_false_eq_true, and_true, true_and, and_self, ↓jlw_e, ↓ob, one_ne, Bool.true_eq_false, Bool.false_eq_true, false_and, and_false, ia_1, ia_2, ia_3, ia_4, ia_5, ia_6, ia_7, ia_8, ia_9, ia_20, ia_40, ia_120, ia_140, ia_240, ia_720, ia_1520, ia_1680, ia_9680, ia_11280, ia_12480, ia_12880, ia_13080, ia_20760, ia_20880, ip_0, ip_1, ip_2, ip_3, ip_4, ip_5, ip_6, ip_7, ip_8, ip_9, ip_140, im_2, im_4, im_8, im_12, im_800, nI_clamp, jin_nI, jal_c, jal_n, Bool.and_true, if_true, ob, jlw_e, jk_0, jk_1, jk_2, jk_3, jk_4, jk_5, jk_6, jk_7, jk_8, jk_9, jk_10, jk_11, jk_12, jk_13, jk_14, jk_15, jk_16, jk_17, jk_18, jk_19, jg_0, jg_1, jg_2, jg_3, jg_4, jg_5, jg_6, jg_7, jg_8, jg_9, jg_10, jg_11, jg_12, jg_13, jg_14, jg_15, jg_16, jg_17, jg_18, jg_19, mi_thing H, mi_site H, m_isIn, h_0 H, h_7 H, show (nI (c 7) = 200) = (c 7 = 200) from ii_eq (b := 200) (by omega) (by omega), mt_3 (w := w), ms_0 (w := w), t0])
    obtain ⟨t, ht, rfl⟩ := rng (by omega) t0
    obtain ⟨sx, th1, th2, th3, th4, th5, th6, hla, th8, th9, th10⟩ := (p_Ithing H).1 t ht
    by_cases t1 : d < 0
    · exact Cal_f (x := -1) h hK (by simp (disch := omega) only [f_Count_tell, ob, b2_0, bz_0, ↓reduceIte, ite_self, not_true_eq_false, not_false_eq_true, and_true, true_and, and_self, ↓jlw_e, ↓ob, one_ne, Bool.true_eq_false, Bool.false_eq_true, false_and, and_false, s_th H, rs_0 H, u_to H, a_th3 H, t0, eq_true t1]) (by simp (disch := omega) only [f_Model_tell, f_Model_tell_j36, ob, b2_0, bz_0, ↓reduceIte, ite_self, not_true_eq_false, not_false_eq_true, and_true, true_and, and_self, ↓jlw_e, ↓ob, one_ne, Bool.true_eq_false, Bool.false_eq_true, false_and, and_false, ia_1, ia_2, ia_3, ia_4, ia_5, ia_6, ia_7, ia_8, ia_9, ia_20, ia_40, ia_120, ia_140, ia_240, ia_720, ia_1520, ia_1680, ia_9680, ia_11280, ia_12480, ia_12880, ia_13080, ia_20760, ia_20880, ip_0, ip_1, ip_2, ip_3, ip_4, ip_5, ip_6, ip_7, ip_8, ip_9, ip_140, im_2, im_4, im_8, im_12, im_800, nI_clamp, jin_nI, jal_c, jal_n, Bool.and_true, if_true, ob, jlw_e, jk_0, jk_1, jk_2, jk_3, jk_4, jk_5, jk_6, jk_7, jk_8, jk_9, jk_10, jk_11, jk_12, jk_13, jk_14, jk_15, jk_16, jk_17, jk_18, jk_19, jg_0, jg_1, jg_2, jg_3, jg_4, jg_5, jg_6, jg_7, jg_8, jg_9, jg_10, jg_11, jg_12, jg_13, jg_14, jg_15, jg_16, jg_17, jg_18, jg_19, mi_thing H, mi_site H, m_isIn, h_0 H, h_7 H, show (nI (c 7) = 200) = (c 7 = 200) from ii_eq (b := 200) (by omega) (by omega), mt_3 (w := w), ms_0 (w := w), t0, eq_true t1])
    by_cases t2 : d ≤ nI (c 0)
    rotate_left
    · exact Cal_f (x := -1) h hK (by simp (disch := omega) only [f_Count_tell, ob, b2_0, bz_0, ↓reduceIte, ite_self, not_true_eq_false, not_false_eq_true, and_true, true_and, and_self, ↓jlw_e, ↓ob, one_ne, Bool.true_eq_false, Bool.false_eq_true, false_and, and_false, s_th H, rs_0 H, u_to H, a_th3 H, t0, t1, t2]) (by simp (disch := omega) only [f_Model_tell, f_Model_tell_j36, ob, b2_0, bz_0, ↓reduceIte, ite_self, not_true_eq_false, not_false_eq_true, and_true, true_and, and_self, ↓jlw_e, ↓ob, one_ne, Bool.true_eq_false, Bool.false_eq_true, false_and, and_false, ia_1, ia_2, ia_3, ia_4, ia_5, ia_6, ia_7, ia_8, ia_9, ia_20, ia_40, ia_120, ia_140, ia_240, ia_720, ia_1520, ia_1680, ia_9680, ia_11280, ia_12480, ia_12880, ia_13080, ia_20760, ia_20880, ip_0, ip_1, ip_2, ip_3, ip_4, ip_5, ip_6, ip_7, ip_8, ip_9, ip_140, im_2, im_4, im_8, im_12, im_800, nI_clamp, jin_nI, jal_c, jal_n, Bool.and_true, if_true, ob, jlw_e, jk_0, jk_1, jk_2, jk_3, jk_4, jk_5, jk_6, jk_7, jk_8, jk_9, jk_10, jk_11, jk_12, jk_13, jk_14, jk_15, jk_16, jk_17, jk_18, jk_19, jg_0, jg_1, jg_2, jg_3, jg_4, jg_5, jg_6, jg_7, jg_8, jg_9, jg_10, jg_11, jg_12, jg_13, jg_14, jg_15, jg_16, jg_17, jg_18, jg_19, mi_thing H, mi_site H, m_isIn, h_0 H, h_7 H, show (nI (c 7) = 200) = (c 7 = 200) from ii_eq (b := 200) (by omega) (by omega), mt_3 (w := w), ms_0 (w := w), t0, t1, t2])
    obtain ⟨dn, hd, rfl⟩ := rngle (n := c 0) (by omega) ⟨t1, t2⟩
    by_cases t3 : c 7 = 200
    · exact Cal_f (x := -1) h hK (by simp (disch := omega) only [f_Count_tell, ob, b2_0, bz_0, ↓reduceIte, ite_self, not_true_eq_false, not_false_eq_true, and_true, true_and, and_self, ↓jlw_e, ↓ob, one_ne, Bool.true_eq_false, Bool.false_eq_true, false_and, and_false, s_th H, rs_0 H, u_to H, a_th3 H, t0, t1, t2, eq_true t3]) (by simp (disch := omega) only [f_Model_tell, f_Model_tell_j36, ob, b2_0, bz_0, ↓reduceIte, ite_self, not_true_eq_false, not_false_eq_true, and_true, true_and, and_self, ↓jlw_e, ↓ob, one_ne, Bool.true_eq_false, Bool.false_eq_true, false_and, and_false, ia_1, ia_2, ia_3, ia_4, ia_5, ia_6, ia_7, ia_8, ia_9, ia_20, ia_40, ia_120, ia_140, ia_240, ia_720, ia_1520, ia_1680, ia_9680, ia_11280, ia_12480, ia_12880, ia_13080, ia_20760, ia_20880, ip_0, ip_1, ip_2, ip_3, ip_4, ip_5, ip_6, ip_7, ip_8, ip_9, ip_140, im_2, im_4, im_8, im_12, im_800, nI_clamp, jin_nI, jal_c, jal_n, Bool.and_true, if_true, ob, jlw_e, jk_0, jk_1, jk_2, jk_3, jk_4, jk_5, jk_6, jk_7, jk_8, jk_9, jk_10, jk_11, jk_12, jk_13, jk_14, jk_15, jk_16, jk_17, jk_18, jk_19, jg_0, jg_1, jg_2, jg_3, jg_4, jg_5, jg_6, jg_7, jg_8, jg_9, jg_10, jg_11, jg_12, jg_13, jg_14, jg_15, jg_16, jg_17, jg_18, jg_19, mi_thing H, mi_site H, m_isIn, h_0 H, h_7 H, show (nI (c 7) = 200) = (c 7 = 200) from ii_eq (b := 200) (by omega) (by omega), mt_3 (w := w), ms_0 (w := w), t0, t1, t2, eq_true t3])
    obtain ⟨u1, eo, ao, Jo⟩ := ap_open (j_to H) (by omega) (nI t)
    obtain ⟨u2, ep1, ap1, Jp1⟩ := ap_put ao Jo (j := 1) (by omega) (y := 1) rfl (101)
    obtain ⟨u3, ep2, ap2, Jp2⟩ := ap_put ap1 Jp1 (j := 2) (by omega) (y := 2) rfl (nI dn)
    obtain ⟨v2, ep3, ap3, Jp3⟩ := ap_put ap2 Jp2 (j := 3) (by omega) (y := 3) rfl (nI (c 0))
    have z1 : u3.1 3 0 = nI (c 0) := (ap2.2.2 3 0 (by omega)).trans (rs_0 H)
    have fr : ∀ b j, b ≠ 24 ∧ b ≠ 25 → v2.1 b j = w.1 b j := fun b j q => ap3.2.2 b j (by omega)
    have JA : JR v2 32 5 512 (c 11) := JR_eq (j_ac H) (funext fun j => fr 32 j (by omega))
    have z0 : v2.1 3 0 = nI (c 0) := (fr 3 0 (by omega)).trans (rs_0 H)
    obtain ⟨v3, e3, a3⟩ := c_act JA (by omega) z0 3 (w.1 94 (240 + 12 * t + 3)) (nI t) (nI (c 7))
    have eC : f_Count_tell (nI t) (-1) (nI dn) w = some (nI (c 7), v3) := by
      simp (disch := omega) only [f_Count_tell, f_Count_tell_j82, f_Count_tell_j116, ob, b2_0, bz_0, ↓reduceIte, ite_self, not_true_eq_false, not_false_eq_true, and_true, true_and, and_self, ↓jlw_e, ↓ob, one_ne, Bool.true_eq_false, Bool.false_eq_true, false_and, and_false, s_th H, rs_0 H, u_to H, a_th3 H, t0, t1, t2, t3, eo, ep1, ep2, z1, ep3, e3, ip_1]
    have e94 : v3.1 94 = w.1 94 := (Ap_fn a3 (by omega) (by omega)).trans (funext fun j => fr 94 j (by omega))
    have H' : RA w 3 (v3.1 94) c K := by rw [e94]; exact H
    obtain ⟨W, hW⟩ : ∃ W : jW, W = ((jup (jup (jup (jup (jup (jup (jup (jup (jup (jup (jup v3.1 94 (9680 + 8 * c 7) (nI t)) 94 (9680 + 8 * c 7 + 1) (101)) 94 (9680 + 8 * c 7 + 2) (nI dn)) 94 (9680 + 8 * c 7 + 3) (nI (c 0))) 94 (13080 + 8 * c 11) (3)) 94 (13080 + 8 * c 11 + 1) (nI (c 0))) 94 (13080 + 8 * c 11 + 2) (w.1 94 (240 + 12 * t + 3))) 94 (13080 + 8 * c 11 + 3) (nI (c 7))) 94 (13080 + 8 * c 11 + 4) (0)) 94 (11) (nI (c 11 + 1))) 94 (7) (nI (c 7 + 1))), v3.2) := ⟨_, rfl⟩
    have f94 : ∀ b, b ≠ 94 → W.1 b = v3.1 b := fun b hb => by rw [hW]; dsimp only; rw [jup_fn hb, jup_fn hb, jup_fn hb, jup_fn hb, jup_fn hb, jup_fn hb, jup_fn hb, jup_fn hb, jup_fn hb, jup_fn hb, jup_fn hb]
    have g0 : W.1 94 (9680 + 8 * c 7) = nI t := by rw [hW]; simp (disch := omega) only [jup_k, jup_eq]
    have g1 : W.1 94 (9680 + 8 * c 7 + 1) = 101 := by rw [hW]; simp (disch := omega) only [jup_k, jup_eq]
    have g2 : W.1 94 (9680 + 8 * c 7 + 2) = nI dn := by rw [hW]; simp (disch := omega) only [jup_k, jup_eq]
    have g3 : W.1 94 (9680 + 8 * c 7 + 3) = nI (c 0) := by rw [hW]; simp (disch := omega) only [jup_k, jup_eq]
    have g4 : W.1 94 (13080 + 8 * c 11) = 3 := by rw [hW]; simp (disch := omega) only [jup_k, jup_eq]
    have g5 : W.1 94 (13080 + 8 * c 11 + 1) = nI (c 0) := by rw [hW]; simp (disch := omega) only [jup_k, jup_eq]
    have g6 : W.1 94 (13080 + 8 * c 11 + 2) = w.1 94 (240 + 12 * t + 3) := by rw [hW]; simp (disch := omega) only [jup_k, jup_eq]
    have g7 : W.1 94 (13080 + 8 * c 11 + 3) = nI (c 7) := by rw [hW]; simp (disch := omega) only [jup_k, jup_eq]
    have g8 : W.1 94 (13080 + 8 * c 11 + 4) = 0 := by rw [hW]; simp (disch := omega) only [jup_k, jup_eq]
    have g9 : W.1 94 (11) = nI (c 11 + 1) := by rw [hW]; simp (disch := omega) only [jup_k, jup_eq]
    have g10 : W.1 94 (7) = nI (c 7 + 1) := by rw [hW]; simp (disch := omega) only [jup_k, jup_eq]
    have eN : f_Model_noted 3 (w.1 94 (240 + 12 * t + 3)) (nI (c 7)) (0) ((jup (jup (jup (jup v3.1 94 (9680 + 8 * c 7) (nI t)) 94 (9680 + 8 * c 7 + 1) (101)) 94 (9680 + 8 * c 7 + 2) (nI dn)) 94 (9680 + 8 * c 7 + 3) (nI (c 0))), v3.2) = some (ntw ((jup (jup (jup (jup v3.1 94 (9680 + 8 * c 7) (nI t)) 94 (9680 + 8 * c 7 + 1) (101)) 94 (9680 + 8 * c 7 + 2) (nI dn)) 94 (9680 + 8 * c 7 + 3) (nI (c 0))), v3.2) (c 11) (nI (c 0)) 3 (w.1 94 (240 + 12 * t + 3)) (nI (c 7)) (0)) := m_noted (by simp (disch := omega) only [jup_k, jup_eq, e94, h_11 H]) (by omega) (by simp (disch := omega) only [jup_k, jup_eq, e94, h_0 H]) _ _ _ _
    have eM : f_Model_tell (nI t) (-1) (nI dn) v3 = some (nI (c 7), W) := by
      rw [hW]
      simp (disch := omega) only [f_Model_tell, f_Model_tell_j36, f_Model_tell_j108, ob, b2_0, bz_0, ↓reduceIte, ite_self, not_true_eq_false, not_false_eq_true, and_true, true_and, and_self, ↓jlw_e, ↓ob, one_ne, Bool.true_eq_false, Bool.false_eq_true, false_and, and_false, ia_1, ia_2, ia_3, ia_4, ia_5, ia_6, ia_7, ia_8, ia_9, ia_20, ia_40, ia_120, ia_140, ia_240, ia_720, ia_1520, ia_1680, ia_9680, ia_11280, ia_12480, ia_12880, ia_13080, ia_20760, ia_20880, ip_0, ip_1, ip_2, ip_3, ip_4, ip_5, ip_6, ip_7, ip_8, ip_9, ip_140, im_2, im_4, im_8, im_12, im_800, nI_clamp, jin_nI, jal_c, jal_n, Bool.and_true, if_true, ob, jlw_e, jk_0, jk_1, jk_2, jk_3, jk_4, jk_5, jk_6, jk_7, jk_8, jk_9, jk_10, jk_11, jk_12, jk_13, jk_14, jk_15, jk_16, jk_17, jk_18, jk_19, jg_0, jg_1, jg_2, jg_3, jg_4, jg_5, jg_6, jg_7, jg_8, jg_9, jg_10, jg_11, jg_12, jg_13, jg_14, jg_15, jg_16, jg_17, jg_18, jg_19, ms_0, ms_1, ms_2, ms_3, ms_4, mt_0, mt_1, mt_2, mt_3, mt_4, mt_5, mt_6, mt_7, mt_8, mm_0, mm_1, mm_2, mm_3, mm_4, mi_thing H', mi_site H', m_isIn, show (nI (c 7) = 200) = (c 7 = 200) from ii_eq (b := 200) (by omega) (by omega), t0, t1, t2, t3, e94, h_7 H, h_0 H, h_11 H, nI_pred, jup_eq, jup_k, jup_ne, eN, ntw]
    obtain ⟨B, hB⟩ : ∃ B : Nat → Int32, B = fun k => if k = 11 ∨ k = 13080 + 8 * c 11 ∨ k = 13080 + 8 * c 11 + 1 ∨ k = 13080 + 8 * c 11 + 2 ∨ k = 13080 + 8 * c 11 + 3 ∨ k = 13080 + 8 * c 11 + 4 then w.1 94 k else W.1 94 k := ⟨_, rfl⟩
    have b1 : ∀ k, ¬ (k = 11 ∨ k = 13080 + 8 * c 11 ∨ k = 13080 + 8 * c 11 + 1 ∨ k = 13080 + 8 * c 11 + 2 ∨ k = 13080 + 8 * c 11 + 3 ∨ k = 13080 + 8 * c 11 + 4) → B k = W.1 94 k := fun k q => by rw [hB]; exact if_neg q
    have fB : ∀ k, k < 21000 → ¬ (k = 7 ∨ k = 9680 + 8 * c 7 ∨ k = 9680 + 8 * c 7 + 1 ∨ k = 9680 + 8 * c 7 + 2 ∨ k = 9680 + 8 * c 7 + 3) → B k = w.1 94 k := fun k _ hE => by
      rw [hB]; dsimp only
      by_cases q : k = 11 ∨ k = 13080 + 8 * c 11 ∨ k = 13080 + 8 * c 11 + 1 ∨ k = 13080 + 8 * c 11 + 2 ∨ k = 13080 + 8 * c 11 + 3 ∨ k = 13080 + 8 * c 11 + 4
      · rw [if_pos q]
      · rw [if_neg q, hW]; dsimp only; rw [jup_k (by omega), jup_k (by omega), jup_k (by omega), jup_k (by omega), jup_k (by omega), jup_k (by omega), jup_k (by omega), jup_k (by omega), jup_k (by omega), jup_k (by omega), jup_k (by omega), e94]
    have k0 : B (9680 + 8 * c 7) = nI t := (b1 _ (by omega)).trans g0
    have k1 : B (9680 + 8 * c 7 + 1) = 101 := (b1 _ (by omega)).trans g1
    have k2 : B (9680 + 8 * c 7 + 2) = nI dn := (b1 _ (by omega)).trans g2
    have k3 : B (9680 + 8 * c 7 + 3) = nI (c 0) := (b1 _ (by omega)).trans g3
    have k10 : B (7) = nI (c 7 + 1) := (b1 _ (by omega)).trans g10
    have ha1 : v2.1 24 2 = nI (c 7 + 1) := ap3.1
    have hv1 : ∀ j, j < 4 → id j < 8 → v2.1 25 (c 7 * 4 + j) = B (9680 + 8 * c 7 + id j) := fun j hj _ => by
      rw [ap3.2.1 j hj]
      rcases (show j = 0 ∨ j = 1 ∨ j = 2 ∨ j = 3 by omega) with z | z | z | z <;> subst z
      · exact k0.symm
      · exact k1.symm
      · exact k2.symm
      · exact k3.symm
    have hw1 : ∀ b j, 3 ≤ b → b < 38 → ¬ (b = 24 ∧ j = 2 ∨ b = 25 ∧ c 7 * 4 ≤ j ∧ j < c 7 * 4 + 4) → v2.1 b j = w.1 b j := fun b j _ _ q3 => ap3.2.2 b j q3
    have H1 : RA v2 3 B (cup c 7 (c 7 + 1)) K := P_told H ht (p := 101) (Or.inr rfl) hd (by omega) ha1 k10 hv1 k0 k1 k2 k3 hw1 fB
    have hw2 : ∀ b j, 3 ≤ b → b < 38 → ¬ (b = 32 ∧ j = 2 ∨ b = 33 ∧ c 11 * 5 ≤ j ∧ j < c 11 * 5 + 5) → W.1 b j = v2.1 b j := fun b j q1 q2 q3 => by
      rw [f94 b (by omega)]; exact a3.2.2 b j q3
    have hv2 : ∀ j, j < 5 → cmA j < 8 → W.1 33 (c 11 * 5 + j) = W.1 94 (13080 + 8 * c 11 + cmA j) := fun j hj hc => by
      rw [f94 33 (by omega), a3.2.1 j hj]
      rcases (show j = 0 ∨ j = 1 ∨ j = 2 ∨ j = 3 ∨ j = 4 by omega) with z | z | z | z | z <;> subst z
      · exact g4.symm
      · exact g5.symm
      · exact g6.symm
      · exact absurd hc (by decide)
      · exact absurd hc (by decide)
    have hA2 : ∀ k, k < 21000 → ¬ (k = 11 ∨ k = 13080 + 8 * c 11 ∨ k = 13080 + 8 * c 11 + 1 ∨ k = 13080 + 8 * c 11 + 2 ∨ k = 13080 + 8 * c 11 + 3 ∨ k = 13080 + 8 * c 11 + 4) → W.1 94 k = B k := fun k _ q => (b1 k q).symm
    have ha2 : W.1 32 2 = nI (c 11 + 1) := by rw [f94 32 (by omega)]; exact a3.1
    have hv3 : W.1 33 (c 11 * 5 + 3) = nI t := by rw [f94 33 (by omega), a3.2.1 3 (by omega)]; rfl
    have hv4 : W.1 33 (c 11 * 5 + 4) = nI (c 7) := by rw [f94 33 (by omega), a3.2.1 4 (by omega)]; rfl

    have HR := P_act (c := (cup c 7 (c 7 + 1))) H1 hK (k := 3) (o := (c 7)) (by omega) (show _ from (show c 7 < c 7 + 1 from Nat.lt_succ_self _)) (show c 11 < 512 by omega) ha2 g9 hv2 g4 g5 (show vb (W.1 94 (13080 + 8 * c 11 + 2)) 0 1 by rw [g6]; exact hla) g7 (fun z => absurd z (by decide)) (hv3.trans ((show nI t = B (9680 + 8 * c 7) from k0.symm))) (hv4.trans (rfl))  hw2 hA2
    exact ⟨_, v3, W, _, ci, eC, eM, Inv_of h (Nat.le_succ _) (fun b q1 q2 => by rw [f94 b q2, Ap_fn a3 (by omega) (by omega)]; exact funext fun j => fr b j (by omega)) HR⟩
  have y2 : (y = -1) = False := eq_false y1
  by_cases y3 : ¬ y < 0 ∧ y < nI (c 1)
  · obtain ⟨p, hp, rfl⟩ := rng (by omega) y3
    by_cases t0 : ¬ x < 0 ∧ x < nI (c 3)
    rotate_left
    · exact Cal_f (x := -1) h hK (by simp (disch := omega) only [f_Count_tell, ob, b2_0, bz_0, ↓reduceIte, ite_self, not_true_eq_false, not_false_eq_true, and_true, true_and, and_self, ↓jlw_e, ↓ob, one_ne, Bool.true_eq_false, Bool.false_eq_true, false_and, and_false, s_th H, rs_0 H, u_to H, a_th3 H, y2, a_si0 H, y3, t0]) (by simp (disch := omega) only [f_Model_tell, f_Model_tell_j36, ob, b2_0, bz_0, ↓reduceIte, ite_self, not_true_eq_false, not_false_eq_true, and_true, true_and, and_self, ↓jlw_e, ↓ob, one_ne, Bool.true_eq_false, Bool.false_eq_true, false_and, and_false, ia_1, ia_2, ia_3, ia_4, ia_5, ia_6, ia_7, ia_8, ia_9, ia_20, ia_40, ia_120, ia_140, ia_240, ia_720, ia_1520, ia_1680, ia_9680, ia_11280, ia_12480, ia_12880, ia_13080, ia_20760, ia_20880, ip_0, ip_1, ip_2, ip_3, ip_4, ip_5, ip_6, ip_7, ip_8, ip_9, ip_140, im_2, im_4, im_8, im_12, im_800, nI_clamp, jin_nI, jal_c, jal_n, Bool.and_true, if_true, ob, jlw_e, jk_0, jk_1, jk_2, jk_3, jk_4, jk_5, jk_6, jk_7, jk_8, jk_9, jk_10, jk_11, jk_12, jk_13, jk_14, jk_15, jk_16, jk_17, jk_18, jk_19, jg_0, jg_1, jg_2, jg_3, jg_4, jg_5, jg_6, jg_7, jg_8, jg_9, jg_10, jg_11, jg_12, jg_13, jg_14, jg_15, jg_16, jg_17, jg_18, jg_19, mi_thing H, mi_site H, m_isIn, h_0 H, h_7 H, show (nI (c 7) = 200) = (c 7 = 200) from ii_eq (b := 200) (by omega) (by omega), mt_3 (w := w), ms_0 (w := w), y2, y3, t0])
    obtain ⟨t, ht, rfl⟩ := rng (by omega) t0
    obtain ⟨sx, th1, th2, th3, th4, th5, th6, hla, th8, th9, th10⟩ := (p_Ithing H).1 t ht
    by_cases t1 : d < 0
    · exact Cal_f (x := -1) h hK (by simp (disch := omega) only [f_Count_tell, ob, b2_0, bz_0, ↓reduceIte, ite_self, not_true_eq_false, not_false_eq_true, and_true, true_and, and_self, ↓jlw_e, ↓ob, one_ne, Bool.true_eq_false, Bool.false_eq_true, false_and, and_false, s_th H, rs_0 H, u_to H, a_th3 H, y2, a_si0 H, y3, t0, eq_true t1]) (by simp (disch := omega) only [f_Model_tell, f_Model_tell_j36, ob, b2_0, bz_0, ↓reduceIte, ite_self, not_true_eq_false, not_false_eq_true, and_true, true_and, and_self, ↓jlw_e, ↓ob, one_ne, Bool.true_eq_false, Bool.false_eq_true, false_and, and_false, ia_1, ia_2, ia_3, ia_4, ia_5, ia_6, ia_7, ia_8, ia_9, ia_20, ia_40, ia_120, ia_140, ia_240, ia_720, ia_1520, ia_1680, ia_9680, ia_11280, ia_12480, ia_12880, ia_13080, ia_20760, ia_20880, ip_0, ip_1, ip_2, ip_3, ip_4, ip_5, ip_6, ip_7, ip_8, ip_9, ip_140, im_2, im_4, im_8, im_12, im_800, nI_clamp, jin_nI, jal_c, jal_n, Bool.and_true, if_true, ob, jlw_e, jk_0, jk_1, jk_2, jk_3, jk_4, jk_5, jk_6, jk_7, jk_8, jk_9, jk_10, jk_11, jk_12, jk_13, jk_14, jk_15, jk_16, jk_17, jk_18, jk_19, jg_0, jg_1, jg_2, jg_3, jg_4, jg_5, jg_6, jg_7, jg_8, jg_9, jg_10, jg_11, jg_12, jg_13, jg_14, jg_15, jg_16, jg_17, jg_18, jg_19, mi_thing H, mi_site H, m_isIn, h_0 H, h_7 H, show (nI (c 7) = 200) = (c 7 = 200) from ii_eq (b := 200) (by omega) (by omega), mt_3 (w := w), ms_0 (w := w), y2, y3, t0, eq_true t1])
    by_cases t2 : d ≤ nI (c 0)
    rotate_left
    · exact Cal_f (x := -1) h hK (by simp (disch := omega) only [f_Count_tell, ob, b2_0, bz_0, ↓reduceIte, ite_self, not_true_eq_false, not_false_eq_true, and_true, true_and, and_self, ↓jlw_e, ↓ob, one_ne, Bool.true_eq_false, Bool.false_eq_true, false_and, and_false, s_th H, rs_0 H, u_to H, a_th3 H, y2, a_si0 H, y3, t0, t1, t2]) (by simp (disch := omega) only [f_Model_tell, f_Model_tell_j36, ob, b2_0, bz_0, ↓reduceIte, ite_self, not_true_eq_false, not_false_eq_true, and_true, true_and, and_self, ↓jlw_e, ↓ob, one_ne, Bool.true_eq_false, Bool.false_eq_true, false_and, and_false, ia_1, ia_2, ia_3, ia_4, ia_5, ia_6, ia_7, ia_8, ia_9, ia_20, ia_40, ia_120, ia_140, ia_240, ia_720, ia_1520, ia_1680, ia_9680, ia_11280, ia_12480, ia_12880, ia_13080, ia_20760, ia_20880, ip_0, ip_1, ip_2, ip_3, ip_4, ip_5, ip_6, ip_7, ip_8, ip_9, ip_140, im_2, im_4, im_8, im_12, im_800, nI_clamp, jin_nI, jal_c, jal_n, Bool.and_true, if_true, ob, jlw_e, jk_0, jk_1, jk_2, jk_3, jk_4, jk_5, jk_6, jk_7, jk_8, jk_9, jk_10, jk_11, jk_12, jk_13, jk_14, jk_15, jk_16, jk_17, jk_18, jk_19, jg_0, jg_1, jg_2, jg_3, jg_4, jg_5, jg_6, jg_7, jg_8, jg_9, jg_10, jg_11, jg_12, jg_13, jg_14, jg_15, jg_16, jg_17, jg_18, jg_19, mi_thing H, mi_site H, m_isIn, h_0 H, h_7 H, show (nI (c 7) = 200) = (c 7 = 200) from ii_eq (b := 200) (by omega) (by omega), mt_3 (w := w), ms_0 (w := w), y2, y3, t0, t1, t2])
    obtain ⟨dn, hd, rfl⟩ := rngle (n := c 0) (by omega) ⟨t1, t2⟩
    by_cases t3 : c 7 = 200
    · exact Cal_f (x := -1) h hK (by simp (disch := omega) only [f_Count_tell, ob, b2_0, bz_0, ↓reduceIte, ite_self, not_true_eq_false, not_false_eq_true, and_true, true_and, and_self, ↓jlw_e, ↓ob, one_ne, Bool.true_eq_false, Bool.false_eq_true, false_and, and_false, s_th H, rs_0 H, u_to H, a_th3 H, y2, a_si0 H, y3, t0, t1, t2, eq_true t3]) (by simp (disch := omega) only [f_Model_tell, f_Model_tell_j36, ob, b2_0, bz_0, ↓reduceIte, ite_self, not_true_eq_false, not_false_eq_true, and_true, true_and, and_self, ↓jlw_e, ↓ob, one_ne, Bool.true_eq_false, Bool.false_eq_true, false_and, and_false, ia_1, ia_2, ia_3, ia_4, ia_5, ia_6, ia_7, ia_8, ia_9, ia_20, ia_40, ia_120, ia_140, ia_240, ia_720, ia_1520, ia_1680, ia_9680, ia_11280, ia_12480, ia_12880, ia_13080, ia_20760, ia_20880, ip_0, ip_1, ip_2, ip_3, ip_4, ip_5, ip_6, ip_7, ip_8, ip_9, ip_140, im_2, im_4, im_8, im_12, im_800, nI_clamp, jin_nI, jal_c, jal_n, Bool.and_true, if_true, ob, jlw_e, jk_0, jk_1, jk_2, jk_3, jk_4, jk_5, jk_6, jk_7, jk_8, jk_9, jk_10, jk_11, jk_12, jk_13, jk_14, jk_15, jk_16, jk_17, jk_18, jk_19, jg_0, jg_1, jg_2, jg_3, jg_4, jg_5, jg_6, jg_7, jg_8, jg_9, jg_10, jg_11, jg_12, jg_13, jg_14, jg_15, jg_16, jg_17, jg_18, jg_19, mi_thing H, mi_site H, m_isIn, h_0 H, h_7 H, show (nI (c 7) = 200) = (c 7 = 200) from ii_eq (b := 200) (by omega) (by omega), mt_3 (w := w), ms_0 (w := w), y2, y3, t0, t1, t2, eq_true t3])
    by_cases t4 : w.1 94 (40 + 8 * p) = w.1 94 (240 + 12 * t + 3)
    rotate_left
    · exact Cal_f (x := -1) h hK (by simp (disch := omega) only [f_Count_tell, ob, b2_0, bz_0, ↓reduceIte, ite_self, not_true_eq_false, not_false_eq_true, and_true, true_and, and_self, ↓jlw_e, ↓ob, one_ne, Bool.true_eq_false, Bool.false_eq_true, false_and, and_false, s_th H, rs_0 H, u_to H, a_th3 H, y2, a_si0 H, y3, t0, t1, t2, t3, t4]) (by simp (disch := omega) only [f_Model_tell, f_Model_tell_j36, ob, b2_0, bz_0, ↓reduceIte, ite_self, not_true_eq_false, not_false_eq_true, and_true, true_and, and_self, ↓jlw_e, ↓ob, one_ne, Bool.true_eq_false, Bool.false_eq_true, false_and, and_false, ia_1, ia_2, ia_3, ia_4, ia_5, ia_6, ia_7, ia_8, ia_9, ia_20, ia_40, ia_120, ia_140, ia_240, ia_720, ia_1520, ia_1680, ia_9680, ia_11280, ia_12480, ia_12880, ia_13080, ia_20760, ia_20880, ip_0, ip_1, ip_2, ip_3, ip_4, ip_5, ip_6, ip_7, ip_8, ip_9, ip_140, im_2, im_4, im_8, im_12, im_800, nI_clamp, jin_nI, jal_c, jal_n, Bool.and_true, if_true, ob, jlw_e, jk_0, jk_1, jk_2, jk_3, jk_4, jk_5, jk_6, jk_7, jk_8, jk_9, jk_10, jk_11, jk_12, jk_13, jk_14, jk_15, jk_16, jk_17, jk_18, jk_19, jg_0, jg_1, jg_2, jg_3, jg_4, jg_5, jg_6, jg_7, jg_8, jg_9, jg_10, jg_11, jg_12, jg_13, jg_14, jg_15, jg_16, jg_17, jg_18, jg_19, mi_thing H, mi_site H, m_isIn, h_0 H, h_7 H, show (nI (c 7) = 200) = (c 7 = 200) from ii_eq (b := 200) (by omega) (by omega), mt_3 (w := w), ms_0 (w := w), y2, y3, t0, t1, t2, t3, t4])
    obtain ⟨u1, eo, ao, Jo⟩ := ap_open (j_to H) (by omega) (nI t)
    obtain ⟨u2, ep1, ap1, Jp1⟩ := ap_put ao Jo (j := 1) (by omega) (y := 1) rfl (nI p)
    obtain ⟨u3, ep2, ap2, Jp2⟩ := ap_put ap1 Jp1 (j := 2) (by omega) (y := 2) rfl (nI dn)
    obtain ⟨v2, ep3, ap3, Jp3⟩ := ap_put ap2 Jp2 (j := 3) (by omega) (y := 3) rfl (nI (c 0))
    have z1 : u3.1 3 0 = nI (c 0) := (ap2.2.2 3 0 (by omega)).trans (rs_0 H)
    have fr : ∀ b j, b ≠ 24 ∧ b ≠ 25 → v2.1 b j = w.1 b j := fun b j q => ap3.2.2 b j (by omega)
    have JA : JR v2 32 5 512 (c 11) := JR_eq (j_ac H) (funext fun j => fr 32 j (by omega))
    have z0 : v2.1 3 0 = nI (c 0) := (fr 3 0 (by omega)).trans (rs_0 H)
    obtain ⟨v3, e3, a3⟩ := c_act JA (by omega) z0 3 (w.1 94 (240 + 12 * t + 3)) (nI t) (nI (c 7))
    have eC : f_Count_tell (nI t) (nI p) (nI dn) w = some (nI (c 7), v3) := by
      simp (disch := omega) only [f_Count_tell, f_Count_tell_j82, f_Count_tell_j116, ob, b2_0, bz_0, ↓reduceIte, ite_self, not_true_eq_false, not_false_eq_true, and_true, true_and, and_self, ↓jlw_e, ↓ob, one_ne, Bool.true_eq_false, Bool.false_eq_true, false_and, and_false, s_th H, rs_0 H, u_to H, a_th3 H, y2, a_si0 H, y3, t0, t1, t2, t3, t4, eo, ep1, ep2, z1, ep3, e3, ip_1]
    have e94 : v3.1 94 = w.1 94 := (Ap_fn a3 (by omega) (by omega)).trans (funext fun j => fr 94 j (by omega))
    have H' : RA w 3 (v3.1 94) c K := by rw [e94]; exact H
    obtain ⟨W, hW⟩ : ∃ W : jW, W = ((jup (jup (jup (jup (jup (jup (jup (jup (jup (jup (jup v3.1 94 (9680 + 8 * c 7) (nI t)) 94 (9680 + 8 * c 7 + 1) (nI p)) 94 (9680 + 8 * c 7 + 2) (nI dn)) 94 (9680 + 8 * c 7 + 3) (nI (c 0))) 94 (13080 + 8 * c 11) (3)) 94 (13080 + 8 * c 11 + 1) (nI (c 0))) 94 (13080 + 8 * c 11 + 2) (w.1 94 (240 + 12 * t + 3))) 94 (13080 + 8 * c 11 + 3) (nI (c 7))) 94 (13080 + 8 * c 11 + 4) (0)) 94 (11) (nI (c 11 + 1))) 94 (7) (nI (c 7 + 1))), v3.2) := ⟨_, rfl⟩
    have f94 : ∀ b, b ≠ 94 → W.1 b = v3.1 b := fun b hb => by rw [hW]; dsimp only; rw [jup_fn hb, jup_fn hb, jup_fn hb, jup_fn hb, jup_fn hb, jup_fn hb, jup_fn hb, jup_fn hb, jup_fn hb, jup_fn hb, jup_fn hb]
    have g0 : W.1 94 (9680 + 8 * c 7) = nI t := by rw [hW]; simp (disch := omega) only [jup_k, jup_eq]
    have g1 : W.1 94 (9680 + 8 * c 7 + 1) = nI p := by rw [hW]; simp (disch := omega) only [jup_k, jup_eq]
    have g2 : W.1 94 (9680 + 8 * c 7 + 2) = nI dn := by rw [hW]; simp (disch := omega) only [jup_k, jup_eq]
    have g3 : W.1 94 (9680 + 8 * c 7 + 3) = nI (c 0) := by rw [hW]; simp (disch := omega) only [jup_k, jup_eq]
    have g4 : W.1 94 (13080 + 8 * c 11) = 3 := by rw [hW]; simp (disch := omega) only [jup_k, jup_eq]
    have g5 : W.1 94 (13080 + 8 * c 11 + 1) = nI (c 0) := by rw [hW]; simp (disch := omega) only [jup_k, jup_eq]
    have g6 : W.1 94 (13080 + 8 * c 11 + 2) = w.1 94 (240 + 12 * t + 3) := by rw [hW]; simp (disch := omega) only [jup_k, jup_eq]
    have g7 : W.1 94 (13080 + 8 * c 11 + 3) = nI (c 7) := by rw [hW]; simp (disch := omega) only [jup_k, jup_eq]
    have g8 : W.1 94 (13080 + 8 * c 11 + 4) = 0 := by rw [hW]; simp (disch := omega) only [jup_k, jup_eq]
    have g9 : W.1 94 (11) = nI (c 11 + 1) := by rw [hW]; simp (disch := omega) only [jup_k, jup_eq]
    have g10 : W.1 94 (7) = nI (c 7 + 1) := by rw [hW]; simp (disch := omega) only [jup_k, jup_eq]
    have eN : f_Model_noted 3 (w.1 94 (240 + 12 * t + 3)) (nI (c 7)) (0) ((jup (jup (jup (jup v3.1 94 (9680 + 8 * c 7) (nI t)) 94 (9680 + 8 * c 7 + 1) (nI p)) 94 (9680 + 8 * c 7 + 2) (nI dn)) 94 (9680 + 8 * c 7 + 3) (nI (c 0))), v3.2) = some (ntw ((jup (jup (jup (jup v3.1 94 (9680 + 8 * c 7) (nI t)) 94 (9680 + 8 * c 7 + 1) (nI p)) 94 (9680 + 8 * c 7 + 2) (nI dn)) 94 (9680 + 8 * c 7 + 3) (nI (c 0))), v3.2) (c 11) (nI (c 0)) 3 (w.1 94 (240 + 12 * t + 3)) (nI (c 7)) (0)) := m_noted (by simp (disch := omega) only [jup_k, jup_eq, e94, h_11 H]) (by omega) (by simp (disch := omega) only [jup_k, jup_eq, e94, h_0 H]) _ _ _ _
    have eM : f_Model_tell (nI t) (nI p) (nI dn) v3 = some (nI (c 7), W) := by
      rw [hW]
      rw [f_Model_tell, mi_thing H', ob]
      dsimp only
      rw [b2_p t0, if_neg one_ne, if_neg y1, mi_site H', ob]
      dsimp only
      rw [b2_p y3, if_neg one_ne, ms_0 (by omega), ob]
      dsimp only
      rw [mt_3 (by omega), ob]
      dsimp only
      rw [e94, if_pos t4]
      simp (disch := omega) only [f_Model_tell_j36, f_Model_tell_j108, ob, b2_0, bz_0, ↓reduceIte, ite_self, not_true_eq_false, not_false_eq_true, and_true, true_and, and_self, ↓jlw_e, ↓ob, one_ne, Bool.true_eq_false, Bool.false_eq_true, false_and, and_false, ia_1, ia_2, ia_3, ia_4, ia_5, ia_6, ia_7, ia_8, ia_9, ia_20, ia_40, ia_120, ia_140, ia_240, ia_720, ia_1520, ia_1680, ia_9680, ia_11280, ia_12480, ia_12880, ia_13080, ia_20760, ia_20880, ip_0, ip_1, ip_2, ip_3, ip_4, ip_5, ip_6, ip_7, ip_8, ip_9, ip_140, im_2, im_4, im_8, im_12, im_800, nI_clamp, jin_nI, jal_c, jal_n, Bool.and_true, if_true, ob, jlw_e, jk_0, jk_1, jk_2, jk_3, jk_4, jk_5, jk_6, jk_7, jk_8, jk_9, jk_10, jk_11, jk_12, jk_13, jk_14, jk_15, jk_16, jk_17, jk_18, jk_19, jg_0, jg_1, jg_2, jg_3, jg_4, jg_5, jg_6, jg_7, jg_8, jg_9, jg_10, jg_11, jg_12, jg_13, jg_14, jg_15, jg_16, jg_17, jg_18, jg_19, ms_0, ms_1, ms_2, ms_3, ms_4, mt_0, mt_1, mt_2, mt_3, mt_4, mt_5, mt_6, mt_7, mt_8, mm_0, mm_1, mm_2, mm_3, mm_4, y2, mi_thing H', mi_site H', m_isIn, show (nI (c 7) = 200) = (c 7 = 200) from ii_eq (b := 200) (by omega) (by omega), t0, t1, t2, t3, t4, e94, h_7 H, h_0 H, h_11 H, nI_pred, jup_eq, jup_k, jup_ne, eN, ntw]
    obtain ⟨B, hB⟩ : ∃ B : Nat → Int32, B = fun k => if k = 11 ∨ k = 13080 + 8 * c 11 ∨ k = 13080 + 8 * c 11 + 1 ∨ k = 13080 + 8 * c 11 + 2 ∨ k = 13080 + 8 * c 11 + 3 ∨ k = 13080 + 8 * c 11 + 4 then w.1 94 k else W.1 94 k := ⟨_, rfl⟩
    have b1 : ∀ k, ¬ (k = 11 ∨ k = 13080 + 8 * c 11 ∨ k = 13080 + 8 * c 11 + 1 ∨ k = 13080 + 8 * c 11 + 2 ∨ k = 13080 + 8 * c 11 + 3 ∨ k = 13080 + 8 * c 11 + 4) → B k = W.1 94 k := fun k q => by rw [hB]; exact if_neg q
    have fB : ∀ k, k < 21000 → ¬ (k = 7 ∨ k = 9680 + 8 * c 7 ∨ k = 9680 + 8 * c 7 + 1 ∨ k = 9680 + 8 * c 7 + 2 ∨ k = 9680 + 8 * c 7 + 3) → B k = w.1 94 k := fun k _ hE => by
      rw [hB]; dsimp only
      by_cases q : k = 11 ∨ k = 13080 + 8 * c 11 ∨ k = 13080 + 8 * c 11 + 1 ∨ k = 13080 + 8 * c 11 + 2 ∨ k = 13080 + 8 * c 11 + 3 ∨ k = 13080 + 8 * c 11 + 4
      · rw [if_pos q]
      · rw [if_neg q, hW]; dsimp only; rw [jup_k (by omega), jup_k (by omega), jup_k (by omega), jup_k (by omega), jup_k (by omega), jup_k (by omega), jup_k (by omega), jup_k (by omega), jup_k (by omega), jup_k (by omega), jup_k (by omega), e94]
    have k0 : B (9680 + 8 * c 7) = nI t := (b1 _ (by omega)).trans g0
    have k1 : B (9680 + 8 * c 7 + 1) = nI p := (b1 _ (by omega)).trans g1
    have k2 : B (9680 + 8 * c 7 + 2) = nI dn := (b1 _ (by omega)).trans g2
    have k3 : B (9680 + 8 * c 7 + 3) = nI (c 0) := (b1 _ (by omega)).trans g3
    have k10 : B (7) = nI (c 7 + 1) := (b1 _ (by omega)).trans g10
    have ha1 : v2.1 24 2 = nI (c 7 + 1) := ap3.1
    have hv1 : ∀ j, j < 4 → id j < 8 → v2.1 25 (c 7 * 4 + j) = B (9680 + 8 * c 7 + id j) := fun j hj _ => by
      rw [ap3.2.1 j hj]
      rcases (show j = 0 ∨ j = 1 ∨ j = 2 ∨ j = 3 by omega) with z | z | z | z <;> subst z
      · exact k0.symm
      · exact k1.symm
      · exact k2.symm
      · exact k3.symm
    have hw1 : ∀ b j, 3 ≤ b → b < 38 → ¬ (b = 24 ∧ j = 2 ∨ b = 25 ∧ c 7 * 4 ≤ j ∧ j < c 7 * 4 + 4) → v2.1 b j = w.1 b j := fun b j _ _ q3 => ap3.2.2 b j q3
    have H1 : RA v2 3 B (cup c 7 (c 7 + 1)) K := P_told H ht (Or.inl hp) hd (by omega) ha1 k10 hv1 k0 k1 k2 k3 hw1 fB
    have hw2 : ∀ b j, 3 ≤ b → b < 38 → ¬ (b = 32 ∧ j = 2 ∨ b = 33 ∧ c 11 * 5 ≤ j ∧ j < c 11 * 5 + 5) → W.1 b j = v2.1 b j := fun b j q1 q2 q3 => by
      rw [f94 b (by omega)]; exact a3.2.2 b j q3
    have hv2 : ∀ j, j < 5 → cmA j < 8 → W.1 33 (c 11 * 5 + j) = W.1 94 (13080 + 8 * c 11 + cmA j) := fun j hj hc => by
      rw [f94 33 (by omega), a3.2.1 j hj]
      rcases (show j = 0 ∨ j = 1 ∨ j = 2 ∨ j = 3 ∨ j = 4 by omega) with z | z | z | z | z <;> subst z
      · exact g4.symm
      · exact g5.symm
      · exact g6.symm
      · exact absurd hc (by decide)
      · exact absurd hc (by decide)
    have hA2 : ∀ k, k < 21000 → ¬ (k = 11 ∨ k = 13080 + 8 * c 11 ∨ k = 13080 + 8 * c 11 + 1 ∨ k = 13080 + 8 * c 11 + 2 ∨ k = 13080 + 8 * c 11 + 3 ∨ k = 13080 + 8 * c 11 + 4) → W.1 94 k = B k := fun k _ q => (b1 k q).symm
    have ha2 : W.1 32 2 = nI (c 11 + 1) := by rw [f94 32 (by omega)]; exact a3.1
    have hv3 : W.1 33 (c 11 * 5 + 3) = nI t := by rw [f94 33 (by omega), a3.2.1 3 (by omega)]; rfl
    have hv4 : W.1 33 (c 11 * 5 + 4) = nI (c 7) := by rw [f94 33 (by omega), a3.2.1 4 (by omega)]; rfl

    have HR := P_act (c := (cup c 7 (c 7 + 1))) H1 hK (k := 3) (o := (c 7)) (by omega) (show _ from (show c 7 < c 7 + 1 from Nat.lt_succ_self _)) (show c 11 < 512 by omega) ha2 g9 hv2 g4 g5 (show vb (W.1 94 (13080 + 8 * c 11 + 2)) 0 1 by rw [g6]; exact hla) g7 (fun z => absurd z (by decide)) (hv3.trans ((show nI t = B (9680 + 8 * c 7) from k0.symm))) (hv4.trans (rfl))  hw2 hA2
    exact ⟨_, v3, W, _, ci, eC, eM, Inv_of h (Nat.le_succ _) (fun b q1 q2 => by rw [f94 b q2, Ap_fn a3 (by omega) (by omega)]; exact funext fun j => fr b j (by omega)) HR⟩
  · have x1 := x_si H (y := 0) (rng_n y3)
    by_cases t0 : ¬ x < 0 ∧ x < nI (c 3)
    rotate_left
    · exact Cal_f (x := -1) h hK (by simp (disch := omega) only [f_Count_tell, ob, b2_0, bz_0, ↓reduceIte, ite_self, not_true_eq_false, not_false_eq_true, and_true, true_and, and_self, ↓jlw_e, ↓ob, one_ne, Bool.true_eq_false, Bool.false_eq_true, false_and, and_false, s_th H, rs_0 H, u_to H, a_th3 H, y2, x1, t0]) (by simp (disch := omega) only [f_Model_tell, f_Model_tell_j36, ob, b2_0, bz_0, ↓reduceIte, ite_self, not_true_eq_false, not_false_eq_true, and_true, true_and, and_self, ↓jlw_e, ↓ob, one_ne, Bool.true_eq_false, Bool.false_eq_true, false_and, and_false, ia_1, ia_2, ia_3, ia_4, ia_5, ia_6, ia_7, ia_8, ia_9, ia_20, ia_40, ia_120, ia_140, ia_240, ia_720, ia_1520, ia_1680, ia_9680, ia_11280, ia_12480, ia_12880, ia_13080, ia_20760, ia_20880, ip_0, ip_1, ip_2, ip_3, ip_4, ip_5, ip_6, ip_7, ip_8, ip_9, ip_140, im_2, im_4, im_8, im_12, im_800, nI_clamp, jin_nI, jal_c, jal_n, Bool.and_true, if_true, ob, jlw_e, jk_0, jk_1, jk_2, jk_3, jk_4, jk_5, jk_6, jk_7, jk_8, jk_9, jk_10, jk_11, jk_12, jk_13, jk_14, jk_15, jk_16, jk_17, jk_18, jk_19, jg_0, jg_1, jg_2, jg_3, jg_4, jg_5, jg_6, jg_7, jg_8, jg_9, jg_10, jg_11, jg_12, jg_13, jg_14, jg_15, jg_16, jg_17, jg_18, jg_19, mi_thing H, mi_site H, m_isIn, h_0 H, h_7 H, show (nI (c 7) = 200) = (c 7 = 200) from ii_eq (b := 200) (by omega) (by omega), mt_3 (w := w), ms_0 (w := w), y2, y3, t0])
    obtain ⟨t, ht, rfl⟩ := rng (by omega) t0
    have hne : ¬ -1 = w.1 94 (240 + 12 * t + 3) := by
      obtain ⟨sx, th1, th2, th3, th4, th5, th6, ⟨q, q1, q2, q3⟩, th8, th9, th10⟩ := (p_Ithing H).1 t ht
      rw [q1]; exact fun z => nI_ne_m1 (by omega) z.symm
    obtain ⟨sx, th1, th2, th3, th4, th5, th6, hla, th8, th9, th10⟩ := (p_Ithing H).1 t ht
    exact Cal_f (x := -1) h hK (by simp (disch := omega) only [f_Count_tell, ob, b2_0, bz_0, ↓reduceIte, ite_self, not_true_eq_false, not_false_eq_true, and_true, true_and, and_self, ↓jlw_e, ↓ob, one_ne, Bool.true_eq_false, Bool.false_eq_true, false_and, and_false, s_th H, rs_0 H, u_to H, a_th3 H, y2, x1, (eq_false hne : (-1 = w.1 94 (240 + 12 * t + 3)) = False), t0]) (by simp (disch := omega) only [f_Model_tell, f_Model_tell_j36, ob, b2_0, bz_0, ↓reduceIte, ite_self, not_true_eq_false, not_false_eq_true, and_true, true_and, and_self, ↓jlw_e, ↓ob, one_ne, Bool.true_eq_false, Bool.false_eq_true, false_and, and_false, ia_1, ia_2, ia_3, ia_4, ia_5, ia_6, ia_7, ia_8, ia_9, ia_20, ia_40, ia_120, ia_140, ia_240, ia_720, ia_1520, ia_1680, ia_9680, ia_11280, ia_12480, ia_12880, ia_13080, ia_20760, ia_20880, ip_0, ip_1, ip_2, ip_3, ip_4, ip_5, ip_6, ip_7, ip_8, ip_9, ip_140, im_2, im_4, im_8, im_12, im_800, nI_clamp, jin_nI, jal_c, jal_n, Bool.and_true, if_true, ob, jlw_e, jk_0, jk_1, jk_2, jk_3, jk_4, jk_5, jk_6, jk_7, jk_8, jk_9, jk_10, jk_11, jk_12, jk_13, jk_14, jk_15, jk_16, jk_17, jk_18, jk_19, jg_0, jg_1, jg_2, jg_3, jg_4, jg_5, jg_6, jg_7, jg_8, jg_9, jg_10, jg_11, jg_12, jg_13, jg_14, jg_15, jg_16, jg_17, jg_18, jg_19, mi_thing H, mi_site H, m_isIn, h_0 H, h_7 H, show (nI (c 7) = 200) = (c 7 = 200) from ii_eq (b := 200) (by omega) (by omega), mt_3 (w := w), ms_0 (w := w), y2, y3, t0])
end Q2

/-! LAYER B: pictures; things made -/
section Q4
variable {w v : jW} {A : Nat → Int32} {c ci : Nat → Nat} {K : Nat}

/-- how many of the first n things are at x and long enough to be seen -/
def nlg (A : Nat → Int32) (c : Nat → Nat) (x d : Int32) : Nat → Nat
  | 0 => 0
  | n + 1 => nlg A c x d n + if mwh A (c 4) n d = x ∧ ¬ A (240 + 12 * n + 1) < A 16 then 1 else 0
theorem nlg_le {x d : Int32} : ∀ n, nlg A c x d n ≤ n := by
  intro n
  induction n with
  | zero => exact Nat.le_refl _
  | succ n ih => rw [nlg]; split <;> omega
theorem c_large_h (H : RA w 3 A c K) {x d : Int32} : ∀ (m k f : Nat), k + m = c 3 → m < f → f_State_numberLarge_h5 f x d (nI (nlg A c x d k)) (nI k) w = some (nI (nlg A c x d (c 3)), w) := by
  have l3 := l_3 H
  have es : w.1 3 3 = A 16 := (p_Rscal H).2.2.2.1
  intro m
  induction m with
  | zero =>
    intro k f hk hf
    obtain ⟨f, rfl⟩ : ∃ j, f = j + 1 := ⟨f - 1, by omega⟩
    rw [f_State_numberLarge_h5, n_th H, ob]
    dsimp only
    rw [if_neg (nI_nlt (by omega) (by omega)), show k = c 3 by omega]
  | succ m ih =>
    intro k f hk hf
    obtain ⟨f, rfl⟩ : ∃ j, f = j + 1 := ⟨f - 1, by omega⟩
    have ih' := ih (k + 1) f (by omega) (by omega)
    rw [nlg] at ih'
    rw [f_State_numberLarge_h5, n_th H, ob]
    dsimp only
    rw [if_pos (nI_lt (by omega) (by omega)), a_th1 H (by omega), ob]
    dsimp only
    rw [es, ip_1, ip_1]
    by_cases q1 : A (240 + 12 * k + 1) < A 16
    · rw [if_neg (fun z => z.2 q1)] at ih'
      rw [if_pos q1]; exact ih'
    · rw [if_neg q1, c_pl H (by omega), ob]
      dsimp only
      by_cases q2 : mwh A (c 4) k d = x
      · rw [if_pos ⟨q2, q1⟩] at ih'
        rw [if_pos q2]; exact ih'
      · rw [if_neg (fun z => q2 z.1)] at ih'
        rw [if_neg q2]; exact ih'
theorem c_large (H : RA w 3 A c K) {x d : Int32} : f_State_numberLarge x d w = some (nI (nlg A c x d (c 3)), w) := by
  rw [f_State_numberLarge]
  exact c_large_h H (c 3) 0 jfu (by omega) (by have := l_3 H; unfold jfu; omega)
/-- the reference's picture behind its count -/
def pcw (w : jW) (n : Nat) (x y z : Int32) : jW := (jup (jup (jup (jup w.1 94 (12480 + 4 * n) x) 94 (12480 + 4 * n + 1) y) 94 (12480 + 4 * n + 2) z) 94 9 (nI (n + 1)), w.2)
theorem m_pic_h {z0 : jW} (H : RA z0 3 (w.1 94) c K) (h9 : c 9 < 100) {x : Int32} : ∀ (m k f : Nat), k + m = c 3 → m < f → f_Model_picture_h59 f x (nI (nlg (w.1 94) c x (nI (c 0) - 1) k)) (nI k) w = some (nI (nlg (w.1 94) c x (nI (c 0) - 1) (c 3)), pcw w (c 9) x (nI (c 0)) (nI (nlg (w.1 94) c x (nI (c 0) - 1) (c 3)))) := by
  have l3 := l_3 H
  intro m
  induction m with
  | zero =>
    intro k f hk hf
    obtain ⟨f, rfl⟩ : ∃ j, f = j + 1 := ⟨f - 1, by omega⟩
    rw [f_Model_picture_h59, if_pos (by decide), jk_3, h_3 H, if_neg (nI_nlt (by omega) (by omega)), show k = c 3 by omega]
    simp (disch := omega) only [↓jlw_e, ia_1, ia_2, ia_3, ia_4, ia_5, ia_6, ia_7, ia_8, ia_9, ia_20, ia_40, ia_120, ia_140, ia_240, ia_720, ia_1520, ia_1680, ia_9680, ia_11280, ia_12480, ia_12880, ia_13080, ia_20760, ia_20880, ip_0, ip_1, ip_2, ip_3, ip_4, ip_5, ip_6, ip_7, ip_8, ip_9, ip_140, im_2, im_4, im_8, im_12, im_800, nI_clamp, jin_nI, jal_c, jal_n, Bool.and_true, if_true, ob, jlw_e, jk_0, jk_1, jk_2, jk_3, jk_4, jk_5, jk_6, jk_7, jk_8, jk_9, jk_10, jk_11, jk_12, jk_13, jk_14, jk_15, jk_16, jk_17, jk_18, jk_19, jg_0, jg_1, jg_2, jg_3, jg_4, jg_5, jg_6, jg_7, jg_8, jg_9, jg_10, jg_11, jg_12, jg_13, jg_14, jg_15, jg_16, jg_17, jg_18, jg_19, h_9 H, h_0 H, jup_k, jup_eq]
    rfl
  | succ m ih =>
    intro k f hk hf
    obtain ⟨f, rfl⟩ : ∃ j, f = j + 1 := ⟨f - 1, by omega⟩
    have ih' := ih (k + 1) f (by omega) (by omega)
    rw [nlg] at ih'
    rw [f_Model_picture_h59, if_pos (by decide), jk_3, h_3 H, if_pos (nI_lt (by omega) (by omega)), if_pos (by decide), jk_0, h_0 H, m_pl H (by omega), ob]
    dsimp only
    rw [ip_1, ip_1, ip_0]
    by_cases q2 : mwh (w.1 94) (c 4) k (nI (c 0) - 1) = x
    · rw [if_pos q2, mt_1 (by omega), ob]
      dsimp only
      rw [if_pos (by decide), jk_16]
      by_cases q1 : w.1 94 (240 + 12 * k + 1) < w.1 94 16
      · rw [if_neg (fun z => z.2 q1)] at ih'
        rw [if_pos q1]; exact ih'
      · rw [if_pos ⟨q2, q1⟩] at ih'
        rw [if_neg q1]; exact ih'
    · rw [if_neg (fun z => q2 z.1)] at ih'
      rw [if_neg q2]; exact ih'

set_option maxHeartbeats 8000000 in
theorem q_picture (h : Inv w c ci K) (hK : K < 512) (x : Int32) : Cal w (K + 1) (f_Count_picture x) (f_Model_picture x) := by
  have H := h.1
  have lK := l_K H
  have l0 := l_0 H
  have l1 := l_1 H
  have l2 := l_2 H
  have l3 := l_3 H
  have l4 := l_4 H
  have l5 := l_5 H
  have l6 := l_6 H
  have l7 := l_7 H
  have l8 := l_8 H
  have l9 := l_9 H
  have l10 := l_10 H
  have l11 := l_11 H
  have l12 := l_12 H
  have l13 := l_13 H
  by_cases t0 : ¬ x < 0 ∧ x < nI (c 1)
  rotate_left
  · exact Cal_f (x := -1) h hK (by simp (disch := omega) only [f_Count_picture, ob, b2_0, bz_0, ↓reduceIte, ite_self, not_true_eq_false, not_false_eq_true, and_true, true_and, and_self, ↓jlw_e, ↓ob, one_ne, Bool.true_eq_false, Bool.false_eq_true, false_and, and_false, s_si H, rs_0 H, u_pc H, a_si3 H, c_spot (p_Rcld H) (h_12 H) l12, t0]) (by simp (disch := omega) only [f_Model_picture, ob, b2_0, bz_0, ↓reduceIte, ite_self, not_true_eq_false, not_false_eq_true, and_true, true_and, and_self, ↓jlw_e, ↓ob, one_ne, Bool.true_eq_false, Bool.false_eq_true, false_and, and_false, ia_1, ia_2, ia_3, ia_4, ia_5, ia_6, ia_7, ia_8, ia_9, ia_20, ia_40, ia_120, ia_140, ia_240, ia_720, ia_1520, ia_1680, ia_9680, ia_11280, ia_12480, ia_12880, ia_13080, ia_20760, ia_20880, ip_0, ip_1, ip_2, ip_3, ip_4, ip_5, ip_6, ip_7, ip_8, ip_9, ip_140, im_2, im_4, im_8, im_12, im_800, nI_clamp, jin_nI, jal_c, jal_n, Bool.and_true, if_true, ob, jlw_e, jk_0, jk_1, jk_2, jk_3, jk_4, jk_5, jk_6, jk_7, jk_8, jk_9, jk_10, jk_11, jk_12, jk_13, jk_14, jk_15, jk_16, jk_17, jk_18, jk_19, jg_0, jg_1, jg_2, jg_3, jg_4, jg_5, jg_6, jg_7, jg_8, jg_9, jg_10, jg_11, jg_12, jg_13, jg_14, jg_15, jg_16, jg_17, jg_18, jg_19, mi_site H, ms_3 (w := w), h_0 H, h_9 H, m_cloudy (h_12 H) l12, show (nI (c 9) = 100) = (c 9 = 100) from ii_eq (b := 100) (by omega) (by omega), t0])
  obtain ⟨s, hs, rfl⟩ := rng (by omega) t0
  by_cases t1 : nI (c 0) = 0
  · exact Cal_f (x := -1) h hK (by simp (disch := omega) only [f_Count_picture, ob, b2_0, bz_0, ↓reduceIte, ite_self, not_true_eq_false, not_false_eq_true, and_true, true_and, and_self, ↓jlw_e, ↓ob, one_ne, Bool.true_eq_false, Bool.false_eq_true, false_and, and_false, s_si H, rs_0 H, u_pc H, a_si3 H, c_spot (p_Rcld H) (h_12 H) l12, t0, eq_true t1]) (by simp (disch := omega) only [f_Model_picture, ob, b2_0, bz_0, ↓reduceIte, ite_self, not_true_eq_false, not_false_eq_true, and_true, true_and, and_self, ↓jlw_e, ↓ob, one_ne, Bool.true_eq_false, Bool.false_eq_true, false_and, and_false, ia_1, ia_2, ia_3, ia_4, ia_5, ia_6, ia_7, ia_8, ia_9, ia_20, ia_40, ia_120, ia_140, ia_240, ia_720, ia_1520, ia_1680, ia_9680, ia_11280, ia_12480, ia_12880, ia_13080, ia_20760, ia_20880, ip_0, ip_1, ip_2, ip_3, ip_4, ip_5, ip_6, ip_7, ip_8, ip_9, ip_140, im_2, im_4, im_8, im_12, im_800, nI_clamp, jin_nI, jal_c, jal_n, Bool.and_true, if_true, ob, jlw_e, jk_0, jk_1, jk_2, jk_3, jk_4, jk_5, jk_6, jk_7, jk_8, jk_9, jk_10, jk_11, jk_12, jk_13, jk_14, jk_15, jk_16, jk_17, jk_18, jk_19, jg_0, jg_1, jg_2, jg_3, jg_4, jg_5, jg_6, jg_7, jg_8, jg_9, jg_10, jg_11, jg_12, jg_13, jg_14, jg_15, jg_16, jg_17, jg_18, jg_19, mi_site H, ms_3 (w := w), h_0 H, h_9 H, m_cloudy (h_12 H) l12, show (nI (c 9) = 100) = (c 9 = 100) from ii_eq (b := 100) (by omega) (by omega), t0, eq_true t1])
  by_cases t2 : w.1 94 (40 + 8 * s + 3) = 1
  · exact Cal_f (x := -1) h hK (by simp (disch := omega) only [f_Count_picture, ob, b2_0, bz_0, ↓reduceIte, ite_self, not_true_eq_false, not_false_eq_true, and_true, true_and, and_self, ↓jlw_e, ↓ob, one_ne, Bool.true_eq_false, Bool.false_eq_true, false_and, and_false, s_si H, rs_0 H, u_pc H, a_si3 H, c_spot (p_Rcld H) (h_12 H) l12, t0, t1, eq_true t2]) (by simp (disch := omega) only [f_Model_picture, ob, b2_0, bz_0, ↓reduceIte, ite_self, not_true_eq_false, not_false_eq_true, and_true, true_and, and_self, ↓jlw_e, ↓ob, one_ne, Bool.true_eq_false, Bool.false_eq_true, false_and, and_false, ia_1, ia_2, ia_3, ia_4, ia_5, ia_6, ia_7, ia_8, ia_9, ia_20, ia_40, ia_120, ia_140, ia_240, ia_720, ia_1520, ia_1680, ia_9680, ia_11280, ia_12480, ia_12880, ia_13080, ia_20760, ia_20880, ip_0, ip_1, ip_2, ip_3, ip_4, ip_5, ip_6, ip_7, ip_8, ip_9, ip_140, im_2, im_4, im_8, im_12, im_800, nI_clamp, jin_nI, jal_c, jal_n, Bool.and_true, if_true, ob, jlw_e, jk_0, jk_1, jk_2, jk_3, jk_4, jk_5, jk_6, jk_7, jk_8, jk_9, jk_10, jk_11, jk_12, jk_13, jk_14, jk_15, jk_16, jk_17, jk_18, jk_19, jg_0, jg_1, jg_2, jg_3, jg_4, jg_5, jg_6, jg_7, jg_8, jg_9, jg_10, jg_11, jg_12, jg_13, jg_14, jg_15, jg_16, jg_17, jg_18, jg_19, mi_site H, ms_3 (w := w), h_0 H, h_9 H, m_cloudy (h_12 H) l12, show (nI (c 9) = 100) = (c 9 = 100) from ii_eq (b := 100) (by omega) (by omega), t0, t1, eq_true t2])
  by_cases t3 : spt (w.1 94) 20760 (nI s) (nI (c 0)) (c 12) 0 = true
  · exact Cal_f (x := -1) h hK (by simp (disch := omega) only [f_Count_picture, ob, b2_0, bz_0, ↓reduceIte, ite_self, not_true_eq_false, not_false_eq_true, and_true, true_and, and_self, ↓jlw_e, ↓ob, one_ne, Bool.true_eq_false, Bool.false_eq_true, false_and, and_false, s_si H, rs_0 H, u_pc H, a_si3 H, c_spot (p_Rcld H) (h_12 H) l12, t0, t1, t2, t3]) (by simp (disch := omega) only [f_Model_picture, ob, b2_0, bz_0, ↓reduceIte, ite_self, not_true_eq_false, not_false_eq_true, and_true, true_and, and_self, ↓jlw_e, ↓ob, one_ne, Bool.true_eq_false, Bool.false_eq_true, false_and, and_false, ia_1, ia_2, ia_3, ia_4, ia_5, ia_6, ia_7, ia_8, ia_9, ia_20, ia_40, ia_120, ia_140, ia_240, ia_720, ia_1520, ia_1680, ia_9680, ia_11280, ia_12480, ia_12880, ia_13080, ia_20760, ia_20880, ip_0, ip_1, ip_2, ip_3, ip_4, ip_5, ip_6, ip_7, ip_8, ip_9, ip_140, im_2, im_4, im_8, im_12, im_800, nI_clamp, jin_nI, jal_c, jal_n, Bool.and_true, if_true, ob, jlw_e, jk_0, jk_1, jk_2, jk_3, jk_4, jk_5, jk_6, jk_7, jk_8, jk_9, jk_10, jk_11, jk_12, jk_13, jk_14, jk_15, jk_16, jk_17, jk_18, jk_19, jg_0, jg_1, jg_2, jg_3, jg_4, jg_5, jg_6, jg_7, jg_8, jg_9, jg_10, jg_11, jg_12, jg_13, jg_14, jg_15, jg_16, jg_17, jg_18, jg_19, mi_site H, ms_3 (w := w), h_0 H, h_9 H, m_cloudy (h_12 H) l12, show (nI (c 9) = 100) = (c 9 = 100) from ii_eq (b := 100) (by omega) (by omega), t0, t1, t2, t3])
  have t3' := Bool.eq_false_iff.mpr t3
  by_cases t4 : c 9 = 100
  · exact Cal_f (x := -1) h hK (by simp (disch := omega) only [f_Count_picture, ob, b2_0, bz_0, ↓reduceIte, ite_self, not_true_eq_false, not_false_eq_true, and_true, true_and, and_self, ↓jlw_e, ↓ob, one_ne, Bool.true_eq_false, Bool.false_eq_true, false_and, and_false, s_si H, rs_0 H, u_pc H, a_si3 H, c_spot (p_Rcld H) (h_12 H) l12, t0, t1, t2, t3, eq_true t4]) (by simp (disch := omega) only [f_Model_picture, ob, b2_0, bz_0, ↓reduceIte, ite_self, not_true_eq_false, not_false_eq_true, and_true, true_and, and_self, ↓jlw_e, ↓ob, one_ne, Bool.true_eq_false, Bool.false_eq_true, false_and, and_false, ia_1, ia_2, ia_3, ia_4, ia_5, ia_6, ia_7, ia_8, ia_9, ia_20, ia_40, ia_120, ia_140, ia_240, ia_720, ia_1520, ia_1680, ia_9680, ia_11280, ia_12480, ia_12880, ia_13080, ia_20760, ia_20880, ip_0, ip_1, ip_2, ip_3, ip_4, ip_5, ip_6, ip_7, ip_8, ip_9, ip_140, im_2, im_4, im_8, im_12, im_800, nI_clamp, jin_nI, jal_c, jal_n, Bool.and_true, if_true, ob, jlw_e, jk_0, jk_1, jk_2, jk_3, jk_4, jk_5, jk_6, jk_7, jk_8, jk_9, jk_10, jk_11, jk_12, jk_13, jk_14, jk_15, jk_16, jk_17, jk_18, jk_19, jg_0, jg_1, jg_2, jg_3, jg_4, jg_5, jg_6, jg_7, jg_8, jg_9, jg_10, jg_11, jg_12, jg_13, jg_14, jg_15, jg_16, jg_17, jg_18, jg_19, mi_site H, ms_3 (w := w), h_0 H, h_9 H, m_cloudy (h_12 H) l12, show (nI (c 9) = 100) = (c 9 = 100) from ii_eq (b := 100) (by omega) (by omega), t0, t1, t2, t3, eq_true t4])
  have hc1 : 1 ≤ c 0 := by
    by_cases z : c 0 = 0
    · exact absurd (by rw [z]; rfl) t1
    · omega
  obtain ⟨N, hN⟩ : ∃ N, N = nlg (w.1 94) c (nI s) (nI (c 0) - 1) (c 3) := ⟨_, rfl⟩
  have hN40 : N ≤ 40 := by rw [hN]; have := nlg_le (A := w.1 94) (c := c) (x := nI s) (d := nI (c 0) - 1) (c 3); omega
  obtain ⟨u1, e1, a1, J1⟩ := ap_open (j_pc H) (by omega) (nI s)
  obtain ⟨u2, e2, a2, J2⟩ := ap_put a1 J1 (j := 1) (by omega) (y := 1) rfl (nI (c 0))
  obtain ⟨v2, e3, a3, J3⟩ := ap_put a2 J2 (j := 2) (by omega) (y := 2) rfl (nI N)
  have eS : f_State_addSpot 28 (nI s) (nI (c 0)) w = some (nI (c 9), u2) := by rw [f_State_addSpot, e1, ob]; dsimp only; rw [e2, ob]
  have eL : f_State_numberLarge (nI s) (nI (c 0) - 1) w = some (nI N, w) := by rw [hN]; exact c_large H
  have eC : f_Count_picture (nI s) w = some (nI N, v2) := by
    rw [f_Count_picture, s_si H, ob]
    dsimp only
    rw [b2_p t0, if_neg one_ne, rs_0 H, if_neg t1, u_pc H, ob]
    dsimp only
    rw [b2_n t4, if_pos rfl, a_si3 H hs, ob]
    dsimp only
    rw [if_neg t2, c_spot (p_Rcld H) (h_12 H) l12, ob]
    dsimp only
    rw [rs_0 H, t3', bz_f, if_pos rfl, eL, ob]
    dsimp only
    rw [rs_0 H, eS, ob]
    dsimp only
    rw [e3, ob]
  have e94 : v2.1 94 = w.1 94 := Ap_fn a3 (by omega) (by omega)
  have H' : RA w 3 (v2.1 94) c K := by rw [e94]; exact H
  obtain ⟨W, hW⟩ : ∃ W : jW, W = pcw v2 (c 9) (nI s) (nI (c 0)) (nI N) := ⟨_, rfl⟩
  have f94 : ∀ b, b ≠ 94 → W.1 b = v2.1 b := fun b hb => by rw [hW, pcw]; dsimp only; rw [jup_fn hb, jup_fn hb, jup_fn hb, jup_fn hb]
  have g0 : W.1 94 (12480 + 4 * c 9) = nI s := by rw [hW, pcw]; simp (disch := omega) only [jup_k, jup_eq]
  have g1 : W.1 94 (12480 + 4 * c 9 + 1) = nI (c 0) := by rw [hW, pcw]; simp (disch := omega) only [jup_k, jup_eq]
  have g2 : W.1 94 (12480 + 4 * c 9 + 2) = nI N := by rw [hW, pcw]; simp (disch := omega) only [jup_k, jup_eq]
  have g3 : W.1 94 9 = nI (c 9 + 1) := by rw [hW, pcw]; simp (disch := omega) only [jup_k, jup_eq]
  have eM : f_Model_picture (nI s) v2 = some (nI N, W) := by
    have k := m_pic_h H' (by omega) (x := nI s) (c 3) 0 jfu (by omega) (by unfold jfu; omega)
    rw [e94, ← hN, ← hW] at k
    have t3'' : spt (v2.1 94) 20760 (nI s) (nI (c 0)) (c 12) 0 = false := by rw [e94]; exact t3'
    rw [f_Model_picture, mi_site H', ob]
    dsimp only
    rw [b2_p t0, if_neg one_ne, ms_3 (by omega), ob]
    dsimp only
    rw [e94, if_neg t2, if_pos (by decide), jk_0, h_0 H, if_neg t1, if_pos (by decide), m_cloudy (h_12 H') l12, ob]
    dsimp only
    rw [t3'', bz_f, if_pos rfl, if_pos (by decide), jk_9, e94, h_9 H, if_neg (show ¬ nI (c 9) = 100 from fun z => t4 ((nI_eq (b := 100) (by omega) (by omega)).mp z))]
    exact k
  have fA : ∀ k, k < 21000 → ¬ (k = 9 ∨ k = 12480 + 4 * c 9 ∨ k = 12480 + 4 * c 9 + 1 ∨ k = 12480 + 4 * c 9 + 2) → W.1 94 k = w.1 94 k := fun k _ hE => by rw [hW, pcw]; dsimp only; rw [jup_k (by omega), jup_k (by omega), jup_k (by omega), jup_k (by omega), e94]
  have hv : ∀ j, j < 3 → id j < 4 → W.1 29 (c 9 * 3 + j) = W.1 94 (12480 + 4 * c 9 + id j) := fun j hj _ => by
    rw [f94 29 (by omega), a3.2.1 j hj]
    rcases (show j = 0 ∨ j = 1 ∨ j = 2 by omega) with z | z | z <;> subst z
    · exact g0.symm
    · exact g1.symm
    · exact g2.symm
  have ha : W.1 28 2 = nI (c 9 + 1) := by rw [f94 28 (by omega)]; exact a3.1
  have hw : ∀ b j, 3 ≤ b → b < 38 → ¬ (b = 28 ∧ j = 2 ∨ b = 29 ∧ c 9 * 3 ≤ j ∧ j < c 9 * 3 + 3) → W.1 b j = w.1 b j := fun b j q1 q2 q3 => by
    rw [f94 b (by omega)]; exact a3.2.2 b j q3
  have HR := P_pic H hs hc1 hN40 (by omega) ha g3 hv g0 g1 g2 hw fA
  exact ⟨_, v2, W, _, ci, eC, eM, Inv_K (Inv_of h (Nat.le_refl _) (fun b q1 q2 => by rw [f94 b q2]; exact Ap_fn a3 (by omega) (by omega)) HR) (by omega) (by omega)⟩

/-- a call on both sides, what the class does leaves the reference's array -/
def Cal2 {α : Type} (w : jW) (K : Nat) (C M : jW → Option (α × jW)) : Prop := ∃ x w1 w2 c ci, C w = some (x, w1) ∧ M w1 = some (x, w2) ∧ Inv w2 c ci K ∧ w1.1 94 = w.1 94
theorem Cal_of2 {α : Type} {C M C' M' : jW → Option (α × jW)} (h : Cal2 w K C' M') (hC : C w = C' w) (hM : ∀ v, v.1 94 = w.1 94 → M v = M' v) : Cal w K C M := by
  obtain ⟨x, w1, w2, c, ci, h1, h2, h3, h4⟩ := h
  exact ⟨x, w1, w2, c, ci, hC.trans h1, (hM w1 h4).trans h2, h3⟩
set_option maxHeartbeats 8000000 in
theorem s_make (h : Inv w c ci K) (hK : K < 512) {s : Nat} (hs : s < c 1) (hn : c 3 < 40) {so le we : Int32} (hso : vb so 0 3) (hle : vb le 1 200) (hwe : vb we 1 500) : Cal2 w (K + 1) (f_Count_make_j92 (nI s) so le we) (f_Model_make_j72 (nI s) so le we) := by
  have H := h.1
  have lK := l_K H
  have l0 := l_0 H
  have l1 := l_1 H
  have l2 := l_2 H
  have l3 := l_3 H
  have l4 := l_4 H
  have l5 := l_5 H
  have l6 := l_6 H
  have l7 := l_7 H
  have l8 := l_8 H
  have l9 := l_9 H
  have l10 := l_10 H
  have l11 := l_11 H
  have l12 := l_12 H
  have l13 := l_13 H
  obtain ⟨u1, eo, ao, Jo⟩ := ap_open (j_th H) (by omega) so
  obtain ⟨u2, ep1, ap1, Jp1⟩ := ap_put ao Jo (j := 1) (by omega) (y := 1) rfl le
  obtain ⟨u3, ep2, ap2, Jp2⟩ := ap_put ap1 Jp1 (j := 2) (by omega) (y := 2) rfl we
  have es1 : f_Rows_at 6 (nI s) 0 u3 = some (w.1 94 (40 + 8 * s), u3) := si_fr (fun b hb => Ap_fn ap2 (by omega) (by omega)) (a_si0 H hs)
  obtain ⟨u4, ep3, ap3, Jp3⟩ := ap_put ap2 Jp2 (j := 3) (by omega) (y := 3) rfl (w.1 94 (40 + 8 * s))
  have z1 : u4.1 3 0 = nI (c 0) := (ap3.2.2 3 0 (by omega)).trans (rs_0 H)
  obtain ⟨u5, ep4, ap4, Jp4⟩ := ap_put ap3 Jp3 (j := 4) (by omega) (y := 4) rfl (nI (c 0))
  obtain ⟨u6, ep5, ap5, Jp5⟩ := ap_put ap4 Jp4 (j := 7) (by omega) (y := 7) rfl (nI s)
  obtain ⟨u7, ep6, ap6, Jp6⟩ := ap_put ap5 Jp5 (j := 8) (by omega) (y := 8) rfl (-1)
  obtain ⟨u8, ep7, ap7, Jp7⟩ := ap_put ap6 Jp6 (j := 9) (by omega) (y := 9) rfl (-1)
  obtain ⟨v2, ep8, ap8, Jp8⟩ := ap_put ap7 Jp7 (j := 10) (by omega) (y := 10) rfl (-1)
  have es2 : f_Rows_at 6 (nI s) 0 v2 = some (w.1 94 (40 + 8 * s), v2) := si_fr (fun b hb => Ap_fn ap8 (by omega) (by omega)) (a_si0 H hs)
  have fr : ∀ b j, b ≠ 10 ∧ b ≠ 11 → v2.1 b j = w.1 b j := fun b j q => ap8.2.2 b j (by omega)
  have JA : JR v2 32 5 512 (c 11) := JR_eq (j_ac H) (funext fun j => fr 32 j (by omega))
  have z0 : v2.1 3 0 = nI (c 0) := (fr 3 0 (by omega)).trans (rs_0 H)
  obtain ⟨v3, e3, a3⟩ := c_act JA (by omega) z0 0 (w.1 94 (40 + 8 * s)) (nI (c 3)) (nI (c 3))
  have eC : f_Count_make_j92 (nI s) so le we w = some (nI (c 3), v3) := by
    rw [f_Count_make_j92, eo, ob]
    try dsimp only
    rw [ep1, ob]
    try dsimp only
    rw [ep2, ob]
    try dsimp only
    rw [es1, ob]
    try dsimp only
    rw [ep3, ob]
    try dsimp only
    rw [z1, ep4, ob]
    try dsimp only
    rw [ep5, ob]
    try dsimp only
    rw [ep6, ob]
    try dsimp only
    rw [ep7, ob]
    try dsimp only
    rw [ep8, ob]
    try dsimp only
    rw [es2, ob]
    try dsimp only
    rw [e3, ob]
    try dsimp only
  have e94 : v3.1 94 = w.1 94 := (Ap_fn a3 (by omega) (by omega)).trans (funext fun j => fr 94 j (by omega))
  have H' : RA w 3 (v3.1 94) c K := by rw [e94]; exact H
  obtain ⟨W, hW⟩ : ∃ W : jW, W = ((jup (jup (jup (jup (jup (jup (jup (jup (jup (jup (jup (jup (jup (jup (jup v3.1 94 (240 + 12 * c 3) (so)) 94 (240 + 12 * c 3 + 1) (le)) 94 (240 + 12 * c 3 + 2) (we)) 94 (240 + 12 * c 3 + 3) (w.1 94 (40 + 8 * s))) 94 (240 + 12 * c 3 + 4) (nI (c 0))) 94 (240 + 12 * c 3 + 5) (nI s)) 94 (240 + 12 * c 3 + 7) (-1)) 94 (240 + 12 * c 3 + 8) (-1)) 94 (13080 + 8 * c 11) (0)) 94 (13080 + 8 * c 11 + 1) (nI (c 0))) 94 (13080 + 8 * c 11 + 2) (w.1 94 (40 + 8 * s))) 94 (13080 + 8 * c 11 + 3) (nI (c 3))) 94 (13080 + 8 * c 11 + 4) (0)) 94 (11) (nI (c 11 + 1))) 94 (3) (nI (c 3 + 1))), v3.2) := ⟨_, rfl⟩
  have f94 : ∀ b, b ≠ 94 → W.1 b = v3.1 b := fun b hb => by rw [hW]; dsimp only; rw [jup_fn hb, jup_fn hb, jup_fn hb, jup_fn hb, jup_fn hb, jup_fn hb, jup_fn hb, jup_fn hb, jup_fn hb, jup_fn hb, jup_fn hb, jup_fn hb, jup_fn hb, jup_fn hb, jup_fn hb]
  have g0 : W.1 94 (240 + 12 * c 3) = so := by rw [hW]; simp (disch := omega) only [jup_k, jup_eq]
  have g1 : W.1 94 (240 + 12 * c 3 + 1) = le := by rw [hW]; simp (disch := omega) only [jup_k, jup_eq]
  have g2 : W.1 94 (240 + 12 * c 3 + 2) = we := by rw [hW]; simp (disch := omega) only [jup_k, jup_eq]
  have g3 : W.1 94 (240 + 12 * c 3 + 3) = w.1 94 (40 + 8 * s) := by rw [hW]; simp (disch := omega) only [jup_k, jup_eq]
  have g4 : W.1 94 (240 + 12 * c 3 + 4) = nI (c 0) := by rw [hW]; simp (disch := omega) only [jup_k, jup_eq]
  have g5 : W.1 94 (240 + 12 * c 3 + 5) = nI s := by rw [hW]; simp (disch := omega) only [jup_k, jup_eq]
  have g6 : W.1 94 (240 + 12 * c 3 + 7) = -1 := by rw [hW]; simp (disch := omega) only [jup_k, jup_eq]
  have g7 : W.1 94 (240 + 12 * c 3 + 8) = -1 := by rw [hW]; simp (disch := omega) only [jup_k, jup_eq]
  have g8 : W.1 94 (13080 + 8 * c 11) = 0 := by rw [hW]; simp (disch := omega) only [jup_k, jup_eq]
  have g9 : W.1 94 (13080 + 8 * c 11 + 1) = nI (c 0) := by rw [hW]; simp (disch := omega) only [jup_k, jup_eq]
  have g10 : W.1 94 (13080 + 8 * c 11 + 2) = w.1 94 (40 + 8 * s) := by rw [hW]; simp (disch := omega) only [jup_k, jup_eq]
  have g11 : W.1 94 (13080 + 8 * c 11 + 3) = nI (c 3) := by rw [hW]; simp (disch := omega) only [jup_k, jup_eq]
  have g12 : W.1 94 (13080 + 8 * c 11 + 4) = 0 := by rw [hW]; simp (disch := omega) only [jup_k, jup_eq]
  have g13 : W.1 94 (11) = nI (c 11 + 1) := by rw [hW]; simp (disch := omega) only [jup_k, jup_eq]
  have g14 : W.1 94 (3) = nI (c 3 + 1) := by rw [hW]; simp (disch := omega) only [jup_k, jup_eq]
  have eN : f_Model_noted 0 (w.1 94 (40 + 8 * s)) (nI (c 3)) (0) ((jup (jup (jup (jup (jup (jup (jup (jup v3.1 94 (240 + 12 * c 3) (so)) 94 (240 + 12 * c 3 + 1) (le)) 94 (240 + 12 * c 3 + 2) (we)) 94 (240 + 12 * c 3 + 3) (w.1 94 (40 + 8 * s))) 94 (240 + 12 * c 3 + 4) (nI (c 0))) 94 (240 + 12 * c 3 + 5) (nI s)) 94 (240 + 12 * c 3 + 7) (-1)) 94 (240 + 12 * c 3 + 8) (-1)), v3.2) = some (ntw ((jup (jup (jup (jup (jup (jup (jup (jup v3.1 94 (240 + 12 * c 3) (so)) 94 (240 + 12 * c 3 + 1) (le)) 94 (240 + 12 * c 3 + 2) (we)) 94 (240 + 12 * c 3 + 3) (w.1 94 (40 + 8 * s))) 94 (240 + 12 * c 3 + 4) (nI (c 0))) 94 (240 + 12 * c 3 + 5) (nI s)) 94 (240 + 12 * c 3 + 7) (-1)) 94 (240 + 12 * c 3 + 8) (-1)), v3.2) (c 11) (nI (c 0)) 0 (w.1 94 (40 + 8 * s)) (nI (c 3)) (0)) := m_noted (by simp (disch := omega) only [jup_k, jup_eq, e94, h_11 H]) (by omega) (by simp (disch := omega) only [jup_k, jup_eq, e94, h_0 H]) _ _ _ _
  have eM : f_Model_make_j72 (nI s) so le we v3 = some (nI (c 3), W) := by
    rw [hW]
    rw [f_Model_make_j72, e94, jk_3, h_3 H]
    have sA : ∀ v : jW, v.1 94 (40 + 8 * s) = w.1 94 (40 + 8 * s) → f_Model_siteAt (nI s) 0 v = some (w.1 94 (40 + 8 * s), v) := fun v q => by rw [ms_0 (by omega), q]
    simp (disch := omega) only [ms_0, ob, b2_0, bz_0, ↓reduceIte, ite_self, not_true_eq_false, not_false_eq_true, and_true, true_and, and_self, ↓jlw_e, ↓ob, one_ne, Bool.true_eq_false, Bool.false_eq_true, false_and, and_false, ia_1, ia_2, ia_3, ia_4, ia_5, ia_6, ia_7, ia_8, ia_9, ia_20, ia_40, ia_120, ia_140, ia_240, ia_720, ia_1520, ia_1680, ia_9680, ia_11280, ia_12480, ia_12880, ia_13080, ia_20760, ia_20880, ip_0, ip_1, ip_2, ip_3, ip_4, ip_5, ip_6, ip_7, ip_8, ip_9, ip_140, im_2, im_4, im_8, im_12, im_800, nI_clamp, jin_nI, jal_c, jal_n, Bool.and_true, if_true, ob, jlw_e, jk_0, jk_1, jk_2, jk_3, jk_4, jk_5, jk_6, jk_7, jk_8, jk_9, jk_10, jk_11, jk_12, jk_13, jk_14, jk_15, jk_16, jk_17, jk_18, jk_19, jg_0, jg_1, jg_2, jg_3, jg_4, jg_5, jg_6, jg_7, jg_8, jg_9, jg_10, jg_11, jg_12, jg_13, jg_14, jg_15, jg_16, jg_17, jg_18, jg_19, ms_0, ms_1, ms_2, ms_3, ms_4, mt_0, mt_1, mt_2, mt_3, mt_4, mt_5, mt_6, mt_7, mt_8, mm_0, mm_1, mm_2, mm_3, mm_4, h_3 H', hs, e94, h_3 H, h_0 H, h_11 H, nI_pred, jup_eq, jup_k, jup_ne, eN, ntw]
  obtain ⟨B, hB⟩ : ∃ B : Nat → Int32, B = fun k => if k = 11 ∨ k = 13080 + 8 * c 11 ∨ k = 13080 + 8 * c 11 + 1 ∨ k = 13080 + 8 * c 11 + 2 ∨ k = 13080 + 8 * c 11 + 3 ∨ k = 13080 + 8 * c 11 + 4 then w.1 94 k else W.1 94 k := ⟨_, rfl⟩
  have b1 : ∀ k, ¬ (k = 11 ∨ k = 13080 + 8 * c 11 ∨ k = 13080 + 8 * c 11 + 1 ∨ k = 13080 + 8 * c 11 + 2 ∨ k = 13080 + 8 * c 11 + 3 ∨ k = 13080 + 8 * c 11 + 4) → B k = W.1 94 k := fun k q => by rw [hB]; exact if_neg q
  have fB : ∀ k, k < 21000 → ¬ (k = 3 ∨ k = 240 + 12 * c 3 ∨ k = 240 + 12 * c 3 + 1 ∨ k = 240 + 12 * c 3 + 2 ∨ k = 240 + 12 * c 3 + 3 ∨ k = 240 + 12 * c 3 + 4 ∨ k = 240 + 12 * c 3 + 5 ∨ k = 240 + 12 * c 3 + 7 ∨ k = 240 + 12 * c 3 + 8) → B k = w.1 94 k := fun k _ hE => by
    rw [hB]; dsimp only
    by_cases q : k = 11 ∨ k = 13080 + 8 * c 11 ∨ k = 13080 + 8 * c 11 + 1 ∨ k = 13080 + 8 * c 11 + 2 ∨ k = 13080 + 8 * c 11 + 3 ∨ k = 13080 + 8 * c 11 + 4
    · rw [if_pos q]
    · rw [if_neg q, hW]; dsimp only; rw [jup_k (by omega), jup_k (by omega), jup_k (by omega), jup_k (by omega), jup_k (by omega), jup_k (by omega), jup_k (by omega), jup_k (by omega), jup_k (by omega), jup_k (by omega), jup_k (by omega), jup_k (by omega), jup_k (by omega), jup_k (by omega), jup_k (by omega), e94]
  have k0 : B (240 + 12 * c 3) = so := (b1 _ (by omega)).trans g0
  have k1 : B (240 + 12 * c 3 + 1) = le := (b1 _ (by omega)).trans g1
  have k2 : B (240 + 12 * c 3 + 2) = we := (b1 _ (by omega)).trans g2
  have k3 : B (240 + 12 * c 3 + 3) = w.1 94 (40 + 8 * s) := (b1 _ (by omega)).trans g3
  have k4 : B (240 + 12 * c 3 + 4) = nI (c 0) := (b1 _ (by omega)).trans g4
  have k5 : B (240 + 12 * c 3 + 5) = nI s := (b1 _ (by omega)).trans g5
  have k6 : B (240 + 12 * c 3 + 7) = -1 := (b1 _ (by omega)).trans g6
  have k7 : B (240 + 12 * c 3 + 8) = -1 := (b1 _ (by omega)).trans g7
  have k14 : B (3) = nI (c 3 + 1) := (b1 _ (by omega)).trans g14
  have ha1 : v2.1 10 2 = nI (c 3 + 1) := ap8.1
  have hv8 : v2.1 11 (c 3 * 11 + 8) = -1 := by rw [ap8.2.1 8 (by omega)]; rfl
  have hv6 : v2.1 11 (c 3 * 11 + 6) = 0 := by rw [ap8.2.1 6 (by omega)]; rfl
  have k9' : B (240 + 12 * c 3 + 6) = 0 := by
    rw [b1 _ (by omega), hW]
    simp (disch := omega) only [jup_k, e94]
    exact (p_Ithing H).2 (c 3) (Nat.le_refl _) (by omega)
  have hv1 : ∀ j, j < 11 → cmT j < 12 → v2.1 11 (c 3 * 11 + j) = B (240 + 12 * c 3 + cmT j) := fun j hj hc => by
    rw [ap8.2.1 j hj]
    rcases (show j = 0 ∨ j = 1 ∨ j = 2 ∨ j = 3 ∨ j = 4 ∨ j = 5 ∨ j = 6 ∨ j = 7 ∨ j = 8 ∨ j = 9 ∨ j = 10 by omega) with z | z | z | z | z | z | z | z | z | z | z <;> subst z
    · exact k0.symm
    · exact k1.symm
    · exact k2.symm
    · exact k3.symm
    · exact k4.symm
    · exact k9'.symm
    · exact absurd hc (by decide)
    · exact k5.symm
    · exact absurd hc (by decide)
    · exact k7.symm
    · exact k6.symm
  have hw1 : ∀ b j, 3 ≤ b → b < 38 → ¬ (b = 10 ∧ j = 2 ∨ b = 11 ∧ c 3 * 11 ≤ j ∧ j < c 3 * 11 + 11) → v2.1 b j = w.1 b j := fun b j _ _ q3 => ap8.2.2 b j q3
  have H1 : RA v2 3 B (cup c 3 (c 3 + 1)) K := P_thing H hs (by omega) ha1 k14 hv1 k5 (by rw [k0]; exact hso) (by rw [k1]; exact hle) (by rw [k2]; exact hwe) k3 k4 k6 k7 hv8 hv6 hw1 fB
  have hw2 : ∀ b j, 3 ≤ b → b < 38 → ¬ (b = 32 ∧ j = 2 ∨ b = 33 ∧ c 11 * 5 ≤ j ∧ j < c 11 * 5 + 5) → W.1 b j = v2.1 b j := fun b j q1 q2 q3 => by
    rw [f94 b (by omega)]; exact a3.2.2 b j q3
  have hv2 : ∀ j, j < 5 → cmA j < 8 → W.1 33 (c 11 * 5 + j) = W.1 94 (13080 + 8 * c 11 + cmA j) := fun j hj hc => by
    rw [f94 33 (by omega), a3.2.1 j hj]
    rcases (show j = 0 ∨ j = 1 ∨ j = 2 ∨ j = 3 ∨ j = 4 by omega) with z | z | z | z | z <;> subst z
    · exact g8.symm
    · exact g9.symm
    · exact g10.symm
    · exact absurd hc (by decide)
    · exact absurd hc (by decide)
  have hA2 : ∀ k, k < 21000 → ¬ (k = 11 ∨ k = 13080 + 8 * c 11 ∨ k = 13080 + 8 * c 11 + 1 ∨ k = 13080 + 8 * c 11 + 2 ∨ k = 13080 + 8 * c 11 + 3 ∨ k = 13080 + 8 * c 11 + 4) → W.1 94 k = B k := fun k _ q => (b1 k q).symm
  have ha2 : W.1 32 2 = nI (c 11 + 1) := by rw [f94 32 (by omega)]; exact a3.1
  have hv3 : W.1 33 (c 11 * 5 + 3) = nI (c 3) := by rw [f94 33 (by omega), a3.2.1 3 (by omega)]; rfl
  have hv4 : W.1 33 (c 11 * 5 + 4) = nI (c 3) := by rw [f94 33 (by omega), a3.2.1 4 (by omega)]; rfl

  have HR := P_act (c := (cup c 3 (c 3 + 1))) H1 hK (k := 0) (o := (c 3)) (by omega) (show _ from (show c 3 < c 3 + 1 from Nat.lt_succ_self _)) (show c 11 < 512 by omega) ha2 g13 hv2 g8 g9 (show vb (W.1 94 (13080 + 8 * c 11 + 2)) 0 1 by rw [g10]; exact (p_Isite H s hs).1) g11 (fun z => absurd z (by decide)) (hv3.trans (rfl)) (hv4.trans (rfl))  hw2 hA2
  exact ⟨_, v3, W, _, ci, eC, eM, Inv_of h (Nat.le_succ _) (fun b q1 q2 => by rw [f94 b q2, Ap_fn a3 (by omega) (by omega)]; exact funext fun j => fr b j (by omega)) HR, e94⟩

set_option maxHeartbeats 8000000 in
theorem q_make (h : Inv w c ci K) (hK : K < 512) (x : Int32) (so : Int32) (le : Int32) (we : Int32) : Cal w (K + 1) (f_Count_make x so le we) (f_Model_make x so le we) := by
  have H := h.1
  have lK := l_K H
  have l0 := l_0 H
  have l1 := l_1 H
  have l2 := l_2 H
  have l3 := l_3 H
  have l4 := l_4 H
  have l5 := l_5 H
  have l6 := l_6 H
  have l7 := l_7 H
  have l8 := l_8 H
  have l9 := l_9 H
  have l10 := l_10 H
  have l11 := l_11 H
  have l12 := l_12 H
  have l13 := l_13 H
  by_cases t0 : ¬ x < 0 ∧ x < nI (c 1)
  rotate_left
  · exact Cal_f (x := -1) h hK (by simp (disch := omega) only [f_Count_make, ob, b2_0, bz_0, ↓reduceIte, ite_self, not_true_eq_false, not_false_eq_true, and_true, true_and, and_self, ↓jlw_e, ↓ob, one_ne, Bool.true_eq_false, Bool.false_eq_true, false_and, and_false, s_si H, c_isSort, u_th H, rs_0 H, a_si1 H, t0]) (by simp (disch := omega) only [f_Model_make, ob, b2_0, bz_0, ↓reduceIte, ite_self, not_true_eq_false, not_false_eq_true, and_true, true_and, and_self, ↓jlw_e, ↓ob, one_ne, Bool.true_eq_false, Bool.false_eq_true, false_and, and_false, ia_1, ia_2, ia_3, ia_4, ia_5, ia_6, ia_7, ia_8, ia_9, ia_20, ia_40, ia_120, ia_140, ia_240, ia_720, ia_1520, ia_1680, ia_9680, ia_11280, ia_12480, ia_12880, ia_13080, ia_20760, ia_20880, ip_0, ip_1, ip_2, ip_3, ip_4, ip_5, ip_6, ip_7, ip_8, ip_9, ip_140, im_2, im_4, im_8, im_12, im_800, nI_clamp, jin_nI, jal_c, jal_n, Bool.and_true, if_true, ob, jlw_e, jk_0, jk_1, jk_2, jk_3, jk_4, jk_5, jk_6, jk_7, jk_8, jk_9, jk_10, jk_11, jk_12, jk_13, jk_14, jk_15, jk_16, jk_17, jk_18, jk_19, jg_0, jg_1, jg_2, jg_3, jg_4, jg_5, jg_6, jg_7, jg_8, jg_9, jg_10, jg_11, jg_12, jg_13, jg_14, jg_15, jg_16, jg_17, jg_18, jg_19, m_isIn, mi_site H, h_3 H, h_0 H, ms_1 (w := w), show (nI (c 3) = 40) = (c 3 = 40) from ii_eq (b := 40) (by omega) (by omega), t0])
  obtain ⟨s, hs, rfl⟩ := rng (by omega) t0
  by_cases t1 : ¬ so < 0 ∧ so ≤ 3
  rotate_left
  · exact Cal_f (x := -1) h hK (by simp (disch := omega) only [f_Count_make, ob, b2_0, bz_0, ↓reduceIte, ite_self, not_true_eq_false, not_false_eq_true, and_true, true_and, and_self, ↓jlw_e, ↓ob, one_ne, Bool.true_eq_false, Bool.false_eq_true, false_and, and_false, s_si H, c_isSort, u_th H, rs_0 H, a_si1 H, t0, t1]) (by simp (disch := omega) only [f_Model_make, ob, b2_0, bz_0, ↓reduceIte, ite_self, not_true_eq_false, not_false_eq_true, and_true, true_and, and_self, ↓jlw_e, ↓ob, one_ne, Bool.true_eq_false, Bool.false_eq_true, false_and, and_false, ia_1, ia_2, ia_3, ia_4, ia_5, ia_6, ia_7, ia_8, ia_9, ia_20, ia_40, ia_120, ia_140, ia_240, ia_720, ia_1520, ia_1680, ia_9680, ia_11280, ia_12480, ia_12880, ia_13080, ia_20760, ia_20880, ip_0, ip_1, ip_2, ip_3, ip_4, ip_5, ip_6, ip_7, ip_8, ip_9, ip_140, im_2, im_4, im_8, im_12, im_800, nI_clamp, jin_nI, jal_c, jal_n, Bool.and_true, if_true, ob, jlw_e, jk_0, jk_1, jk_2, jk_3, jk_4, jk_5, jk_6, jk_7, jk_8, jk_9, jk_10, jk_11, jk_12, jk_13, jk_14, jk_15, jk_16, jk_17, jk_18, jk_19, jg_0, jg_1, jg_2, jg_3, jg_4, jg_5, jg_6, jg_7, jg_8, jg_9, jg_10, jg_11, jg_12, jg_13, jg_14, jg_15, jg_16, jg_17, jg_18, jg_19, m_isIn, mi_site H, h_3 H, h_0 H, ms_1 (w := w), show (nI (c 3) = 40) = (c 3 = 40) from ii_eq (b := 40) (by omega) (by omega), t0, t1])
  by_cases t2 : le < 1
  · exact Cal_f (x := -1) h hK (by simp (disch := omega) only [f_Count_make, ob, b2_0, bz_0, ↓reduceIte, ite_self, not_true_eq_false, not_false_eq_true, and_true, true_and, and_self, ↓jlw_e, ↓ob, one_ne, Bool.true_eq_false, Bool.false_eq_true, false_and, and_false, s_si H, c_isSort, u_th H, rs_0 H, a_si1 H, t0, t1, eq_true t2]) (by simp (disch := omega) only [f_Model_make, ob, b2_0, bz_0, ↓reduceIte, ite_self, not_true_eq_false, not_false_eq_true, and_true, true_and, and_self, ↓jlw_e, ↓ob, one_ne, Bool.true_eq_false, Bool.false_eq_true, false_and, and_false, ia_1, ia_2, ia_3, ia_4, ia_5, ia_6, ia_7, ia_8, ia_9, ia_20, ia_40, ia_120, ia_140, ia_240, ia_720, ia_1520, ia_1680, ia_9680, ia_11280, ia_12480, ia_12880, ia_13080, ia_20760, ia_20880, ip_0, ip_1, ip_2, ip_3, ip_4, ip_5, ip_6, ip_7, ip_8, ip_9, ip_140, im_2, im_4, im_8, im_12, im_800, nI_clamp, jin_nI, jal_c, jal_n, Bool.and_true, if_true, ob, jlw_e, jk_0, jk_1, jk_2, jk_3, jk_4, jk_5, jk_6, jk_7, jk_8, jk_9, jk_10, jk_11, jk_12, jk_13, jk_14, jk_15, jk_16, jk_17, jk_18, jk_19, jg_0, jg_1, jg_2, jg_3, jg_4, jg_5, jg_6, jg_7, jg_8, jg_9, jg_10, jg_11, jg_12, jg_13, jg_14, jg_15, jg_16, jg_17, jg_18, jg_19, m_isIn, mi_site H, h_3 H, h_0 H, ms_1 (w := w), show (nI (c 3) = 40) = (c 3 = 40) from ii_eq (b := 40) (by omega) (by omega), t0, t1, eq_true t2])
  by_cases t3 : le ≤ 200
  rotate_left
  · exact Cal_f (x := -1) h hK (by simp (disch := omega) only [f_Count_make, ob, b2_0, bz_0, ↓reduceIte, ite_self, not_true_eq_false, not_false_eq_true, and_true, true_and, and_self, ↓jlw_e, ↓ob, one_ne, Bool.true_eq_false, Bool.false_eq_true, false_and, and_false, s_si H, c_isSort, u_th H, rs_0 H, a_si1 H, t0, t1, t2, t3]) (by simp (disch := omega) only [f_Model_make, ob, b2_0, bz_0, ↓reduceIte, ite_self, not_true_eq_false, not_false_eq_true, and_true, true_and, and_self, ↓jlw_e, ↓ob, one_ne, Bool.true_eq_false, Bool.false_eq_true, false_and, and_false, ia_1, ia_2, ia_3, ia_4, ia_5, ia_6, ia_7, ia_8, ia_9, ia_20, ia_40, ia_120, ia_140, ia_240, ia_720, ia_1520, ia_1680, ia_9680, ia_11280, ia_12480, ia_12880, ia_13080, ia_20760, ia_20880, ip_0, ip_1, ip_2, ip_3, ip_4, ip_5, ip_6, ip_7, ip_8, ip_9, ip_140, im_2, im_4, im_8, im_12, im_800, nI_clamp, jin_nI, jal_c, jal_n, Bool.and_true, if_true, ob, jlw_e, jk_0, jk_1, jk_2, jk_3, jk_4, jk_5, jk_6, jk_7, jk_8, jk_9, jk_10, jk_11, jk_12, jk_13, jk_14, jk_15, jk_16, jk_17, jk_18, jk_19, jg_0, jg_1, jg_2, jg_3, jg_4, jg_5, jg_6, jg_7, jg_8, jg_9, jg_10, jg_11, jg_12, jg_13, jg_14, jg_15, jg_16, jg_17, jg_18, jg_19, m_isIn, mi_site H, h_3 H, h_0 H, ms_1 (w := w), show (nI (c 3) = 40) = (c 3 = 40) from ii_eq (b := 40) (by omega) (by omega), t0, t1, t2, t3])
  by_cases t4 : we < 1
  · exact Cal_f (x := -1) h hK (by simp (disch := omega) only [f_Count_make, ob, b2_0, bz_0, ↓reduceIte, ite_self, not_true_eq_false, not_false_eq_true, and_true, true_and, and_self, ↓jlw_e, ↓ob, one_ne, Bool.true_eq_false, Bool.false_eq_true, false_and, and_false, s_si H, c_isSort, u_th H, rs_0 H, a_si1 H, t0, t1, t2, t3, eq_true t4]) (by simp (disch := omega) only [f_Model_make, ob, b2_0, bz_0, ↓reduceIte, ite_self, not_true_eq_false, not_false_eq_true, and_true, true_and, and_self, ↓jlw_e, ↓ob, one_ne, Bool.true_eq_false, Bool.false_eq_true, false_and, and_false, ia_1, ia_2, ia_3, ia_4, ia_5, ia_6, ia_7, ia_8, ia_9, ia_20, ia_40, ia_120, ia_140, ia_240, ia_720, ia_1520, ia_1680, ia_9680, ia_11280, ia_12480, ia_12880, ia_13080, ia_20760, ia_20880, ip_0, ip_1, ip_2, ip_3, ip_4, ip_5, ip_6, ip_7, ip_8, ip_9, ip_140, im_2, im_4, im_8, im_12, im_800, nI_clamp, jin_nI, jal_c, jal_n, Bool.and_true, if_true, ob, jlw_e, jk_0, jk_1, jk_2, jk_3, jk_4, jk_5, jk_6, jk_7, jk_8, jk_9, jk_10, jk_11, jk_12, jk_13, jk_14, jk_15, jk_16, jk_17, jk_18, jk_19, jg_0, jg_1, jg_2, jg_3, jg_4, jg_5, jg_6, jg_7, jg_8, jg_9, jg_10, jg_11, jg_12, jg_13, jg_14, jg_15, jg_16, jg_17, jg_18, jg_19, m_isIn, mi_site H, h_3 H, h_0 H, ms_1 (w := w), show (nI (c 3) = 40) = (c 3 = 40) from ii_eq (b := 40) (by omega) (by omega), t0, t1, t2, t3, eq_true t4])
  by_cases t5 : we ≤ 500
  rotate_left
  · exact Cal_f (x := -1) h hK (by simp (disch := omega) only [f_Count_make, ob, b2_0, bz_0, ↓reduceIte, ite_self, not_true_eq_false, not_false_eq_true, and_true, true_and, and_self, ↓jlw_e, ↓ob, one_ne, Bool.true_eq_false, Bool.false_eq_true, false_and, and_false, s_si H, c_isSort, u_th H, rs_0 H, a_si1 H, t0, t1, t2, t3, t4, t5]) (by simp (disch := omega) only [f_Model_make, ob, b2_0, bz_0, ↓reduceIte, ite_self, not_true_eq_false, not_false_eq_true, and_true, true_and, and_self, ↓jlw_e, ↓ob, one_ne, Bool.true_eq_false, Bool.false_eq_true, false_and, and_false, ia_1, ia_2, ia_3, ia_4, ia_5, ia_6, ia_7, ia_8, ia_9, ia_20, ia_40, ia_120, ia_140, ia_240, ia_720, ia_1520, ia_1680, ia_9680, ia_11280, ia_12480, ia_12880, ia_13080, ia_20760, ia_20880, ip_0, ip_1, ip_2, ip_3, ip_4, ip_5, ip_6, ip_7, ip_8, ip_9, ip_140, im_2, im_4, im_8, im_12, im_800, nI_clamp, jin_nI, jal_c, jal_n, Bool.and_true, if_true, ob, jlw_e, jk_0, jk_1, jk_2, jk_3, jk_4, jk_5, jk_6, jk_7, jk_8, jk_9, jk_10, jk_11, jk_12, jk_13, jk_14, jk_15, jk_16, jk_17, jk_18, jk_19, jg_0, jg_1, jg_2, jg_3, jg_4, jg_5, jg_6, jg_7, jg_8, jg_9, jg_10, jg_11, jg_12, jg_13, jg_14, jg_15, jg_16, jg_17, jg_18, jg_19, m_isIn, mi_site H, h_3 H, h_0 H, ms_1 (w := w), show (nI (c 3) = 40) = (c 3 = 40) from ii_eq (b := 40) (by omega) (by omega), t0, t1, t2, t3, t4, t5])
  by_cases t6 : c 3 = 40
  · exact Cal_f (x := -1) h hK (by simp (disch := omega) only [f_Count_make, ob, b2_0, bz_0, ↓reduceIte, ite_self, not_true_eq_false, not_false_eq_true, and_true, true_and, and_self, ↓jlw_e, ↓ob, one_ne, Bool.true_eq_false, Bool.false_eq_true, false_and, and_false, s_si H, c_isSort, u_th H, rs_0 H, a_si1 H, t0, t1, t2, t3, t4, t5, eq_true t6]) (by simp (disch := omega) only [f_Model_make, ob, b2_0, bz_0, ↓reduceIte, ite_self, not_true_eq_false, not_false_eq_true, and_true, true_and, and_self, ↓jlw_e, ↓ob, one_ne, Bool.true_eq_false, Bool.false_eq_true, false_and, and_false, ia_1, ia_2, ia_3, ia_4, ia_5, ia_6, ia_7, ia_8, ia_9, ia_20, ia_40, ia_120, ia_140, ia_240, ia_720, ia_1520, ia_1680, ia_9680, ia_11280, ia_12480, ia_12880, ia_13080, ia_20760, ia_20880, ip_0, ip_1, ip_2, ip_3, ip_4, ip_5, ip_6, ip_7, ip_8, ip_9, ip_140, im_2, im_4, im_8, im_12, im_800, nI_clamp, jin_nI, jal_c, jal_n, Bool.and_true, if_true, ob, jlw_e, jk_0, jk_1, jk_2, jk_3, jk_4, jk_5, jk_6, jk_7, jk_8, jk_9, jk_10, jk_11, jk_12, jk_13, jk_14, jk_15, jk_16, jk_17, jk_18, jk_19, jg_0, jg_1, jg_2, jg_3, jg_4, jg_5, jg_6, jg_7, jg_8, jg_9, jg_10, jg_11, jg_12, jg_13, jg_14, jg_15, jg_16, jg_17, jg_18, jg_19, m_isIn, mi_site H, h_3 H, h_0 H, ms_1 (w := w), show (nI (c 3) = 40) = (c 3 = 40) from ii_eq (b := 40) (by omega) (by omega), t0, t1, t2, t3, t4, t5, eq_true t6])
  by_cases t7 : nI (c 0) ≤ 0 ∨ w.1 94 (40 + 8 * s + 1) = 1
  rotate_left
  · exact Cal_f (x := -1) h hK (by simp (disch := omega) only [f_Count_make, ob, b2_0, bz_0, ↓reduceIte, ite_self, not_true_eq_false, not_false_eq_true, and_true, true_and, and_self, ↓jlw_e, ↓ob, one_ne, Bool.true_eq_false, Bool.false_eq_true, false_and, and_false, s_si H, c_isSort, u_th H, rs_0 H, a_si1 H, t0, t1, t2, t3, t4, t5, t6, not_or.mp t7]) (by simp (disch := omega) only [f_Model_make, ob, b2_0, bz_0, ↓reduceIte, ite_self, not_true_eq_false, not_false_eq_true, and_true, true_and, and_self, ↓jlw_e, ↓ob, one_ne, Bool.true_eq_false, Bool.false_eq_true, false_and, and_false, ia_1, ia_2, ia_3, ia_4, ia_5, ia_6, ia_7, ia_8, ia_9, ia_20, ia_40, ia_120, ia_140, ia_240, ia_720, ia_1520, ia_1680, ia_9680, ia_11280, ia_12480, ia_12880, ia_13080, ia_20760, ia_20880, ip_0, ip_1, ip_2, ip_3, ip_4, ip_5, ip_6, ip_7, ip_8, ip_9, ip_140, im_2, im_4, im_8, im_12, im_800, nI_clamp, jin_nI, jal_c, jal_n, Bool.and_true, if_true, ob, jlw_e, jk_0, jk_1, jk_2, jk_3, jk_4, jk_5, jk_6, jk_7, jk_8, jk_9, jk_10, jk_11, jk_12, jk_13, jk_14, jk_15, jk_16, jk_17, jk_18, jk_19, jg_0, jg_1, jg_2, jg_3, jg_4, jg_5, jg_6, jg_7, jg_8, jg_9, jg_10, jg_11, jg_12, jg_13, jg_14, jg_15, jg_16, jg_17, jg_18, jg_19, m_isIn, mi_site H, h_3 H, h_0 H, ms_1 (w := w), show (nI (c 3) = 40) = (c 3 = 40) from ii_eq (b := 40) (by omega) (by omega), t0, t1, t2, t3, t4, t5, t6, not_or.mp t7])
  refine Cal_of2 (s_make h hK (s := s) (so := so) (le := le) (we := we) hs (by omega) (vb_rle (n := 3) rfl (by omega) t1) (vb_r1 (n := 200) rfl (by omega) ⟨t2, t3⟩) (vb_r1 (n := 500) rfl (by omega) ⟨t4, t5⟩)) ?_ (fun v e94 => ?_)
  · rw [f_Count_make, s_si H, ob]
    dsimp only
    rw [b2_p t0, if_neg one_ne, c_isSort, ob]
    dsimp only
    rw [b2_p t1, if_neg one_ne, u_th H, ob]
    dsimp only
    rw [b2_n t6, if_pos rfl, if_neg t2, if_pos t3, if_neg t4, if_pos t5, rs_0 H]
    by_cases z : nI (c 0) ≤ 0
    · rw [if_pos z]
    · rw [if_neg z, a_si1 H hs, ob]
      dsimp only
      rw [if_pos (t7.resolve_left z)]
  · have H' : RA w 3 (v.1 94) c K := by rw [e94]; exact H
    rw [f_Model_make, mi_site H', ob]
    dsimp only
    rw [b2_p t0, if_neg one_ne, m_isIn, ob]
    dsimp only
    rw [b2_p t1, if_neg one_ne, m_isIn, ob]
    dsimp only
    rw [b2_p ⟨t2, t3⟩, if_neg one_ne, m_isIn, ob]
    dsimp only
    rw [b2_p ⟨t4, t5⟩, if_neg one_ne, if_pos (by decide), jk_3, h_3 H', if_neg (show ¬ nI (c 3) = 40 from fun z => t6 ((nI_eq (b := 40) (by omega) (by omega)).mp z)), if_pos (by decide), jk_0, h_0 H']
    by_cases z : nI (c 0) ≤ 0
    · rw [if_pos z]
    · rw [if_neg z, ms_1 (by omega), ob]
      dsimp only
      rw [e94, if_pos (t7.resolve_left z)]

end Q4

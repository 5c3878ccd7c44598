/-! LAYER B: sites; what tells of counts; feed, end -/
section Q7
variable {w v : jW} {A : Nat → Int32} {c ci : Nat → Nat} {K : Nat}

theorem c_openWays_h {n : Nat} (hn : n < 10) : ∀ (m k f : Nat) (v : jW) (r : Nat → Int32), Ap v w 8 10 n r → JR v 8 10 10 (n + 1) → k + m = 10 → m < f → (∀ j, j < k → r j = if j = n then 0 else -1) → ∃ v' r', f_State_openWays_h11 f (nI n) (nI k) v = some v' ∧ Ap v' w 8 10 n r' ∧ ∀ j, j < 10 → r' j = if j = n then 0 else -1 := by
  intro m
  induction m with
  | zero =>
    intro k f v r a J hk hf hr
    obtain ⟨f, rfl⟩ : ∃ j, f = j + 1 := ⟨f - 1, by omega⟩
    refine ⟨v, r, ?_, a, fun j hj => hr j (by omega)⟩
    rw [f_State_openWays_h11, if_neg (show ¬ nI k < 10 from nI_nlt (a := k) (b := 10) (by omega) (by omega))]
  | succ m ih =>
    intro k f v r a J hk hf hr
    obtain ⟨f, rfl⟩ : ∃ j, f = j + 1 := ⟨f - 1, by omega⟩
    obtain ⟨v1, e1, a1, J1⟩ := ap_put a J (j := k) (by omega) (y := nI k) rfl (if k = n then 0 else -1)
    obtain ⟨v2, r2, s1, s2, s3⟩ := ih (k + 1) f v1 _ a1 J1 (by omega) (by omega) (fun j hj => by
      by_cases q : j = k
      · rw [if_pos q, q]
      · rw [if_neg q]; exact hr j (by omega))
    refine ⟨v2, r2, ?_, s2, s3⟩
    rw [f_State_openWays_h11, if_pos (show nI k < 10 from nI_lt (b := 10) (by omega) (by omega))]
    by_cases q : k = n
    · rw [if_pos q] at e1
      rw [if_pos (congrArg nI q), f_State_openWays_j33]
      have e : f_Rows_put 8 (nI n) (nI k) 0 v = some v1 := e1
      rw [e, ob, ip_1]; exact s1
    · rw [if_neg q] at e1
      rw [if_neg (fun z => q ((nI_eq (by omega) (by omega)).mp z)), f_State_openWays_j33]
      have e : f_Rows_put 8 (nI n) (nI k) (-1) v = some v1 := e1
      rw [e, ob, ip_1]; exact s1
theorem c_openWays {n : Nat} (J : JR w 8 10 10 n) (hn : n < 10) : ∃ v r, f_State_openWays (nI n) w = some v ∧ Ap v w 8 10 n r ∧ ∀ j, j < 10 → r j = if j = n then 0 else -1 := by
  obtain ⟨v1, e1, a1, J1⟩ := ap_open J hn (-1)
  obtain ⟨v2, r, s1, s2, s3⟩ := c_openWays_h hn 10 0 jfu v1 _ a1 J1 rfl (by unfold jfu; omega) (fun j hj => absurd hj (by omega))
  refine ⟨v2, r, ?_, s2, s3⟩
  rw [f_State_openWays, e1, ob]
  exact s1
def bv (x : Int32) : Int32 := if x = 0 then 0 else 1
theorem bv_v {x : Int32} : vb (bv x) 0 1 := by
  unfold bv
  split
  · exact ⟨0, rfl, by omega, by omega⟩
  · exact ⟨1, rfl, by omega, by omega⟩

set_option maxHeartbeats 4000000 in
theorem q_site (h : Inv w c ci K) (hK : K < 512) (x : Int32) (y : Int32) (z : Int32) (u : Int32) : Cal w (K + 1) (f_Count_site x y z u) (f_Model_site x y z u) := by
  have H := h.1
  have lK := l_K H
  have l0 := l_0 H
  have l1 := l_1 H
  have l2 := l_2 H
  have l3 := l_3 H
  have l4 := l_4 H
  have l5 := l_5 H
  have l6 := l_6 H
  have l7 := l_7 H
  have l8 := l_8 H
  have l9 := l_9 H
  have l10 := l_10 H
  have l11 := l_11 H
  have l12 := l_12 H
  have l13 := l_13 H
  by_cases t0 : ¬ x < 0 ∧ x ≤ 1
  rotate_left
  · refine Cal_f (x := -1) h hK ?_ ?_
    · rw [f_Count_site]
      rw [c_isLand, ob]
      dsimp only
      rw [b2_n t0, if_pos rfl]
    · rw [f_Model_site]
      rw [m_isIn, ob]
      dsimp only
      rw [b2_n t0, if_pos rfl]
  obtain ⟨l, hl, rfl⟩ := rngle (n := 1) (by omega) t0
  by_cases t1 : y < 0
  · refine Cal_f (x := -1) h hK ?_ ?_
    · rw [f_Count_site]
      rw [c_isLand, ob]
      dsimp only
      rw [b2_p t0, if_neg one_ne]
      rw [if_pos t1]
    · rw [f_Model_site]
      rw [m_isIn, ob]
      dsimp only
      rw [b2_p t0, if_neg one_ne]
      rw [m_isIn, ob]
      dsimp only
      rw [b2_n (fun z => z.1 t1), if_pos rfl]
  by_cases t2 : y ≤ 3
  rotate_left
  · refine Cal_f (x := -1) h hK ?_ ?_
    · rw [f_Count_site]
      rw [c_isLand, ob]
      dsimp only
      rw [b2_p t0, if_neg one_ne]
      rw [if_neg t1]
      rw [if_neg t2]
    · rw [f_Model_site]
      rw [m_isIn, ob]
      dsimp only
      rw [b2_p t0, if_neg one_ne]
      rw [m_isIn, ob]
      dsimp only
      
      rw [b2_n (fun z => t2 z.2), if_pos rfl]
  obtain ⟨kl, hkl, rfl⟩ := rngle (n := 3) (x := y) (by omega) ⟨t1, t2⟩
  by_cases t3 : c 1 = 10
  · refine Cal_f (x := -1) h hK ?_ ?_
    · rw [f_Count_site]
      rw [c_isLand, ob]
      dsimp only
      rw [b2_p t0, if_neg one_ne]
      rw [if_neg t1]
      rw [if_pos t2]
      rw [u_si H, ob]
      dsimp only
      rw [b2_p t3, if_neg one_ne]
    · rw [f_Model_site]
      rw [m_isIn, ob]
      dsimp only
      rw [b2_p t0, if_neg one_ne]
      rw [m_isIn, ob]
      dsimp only
      
      rw [b2_p ⟨t1, t2⟩, if_neg one_ne]
      rw [if_pos (by decide), jk_1, h_1 H]
      rw [if_pos (show nI (c 1) = 10 by rw [t3]; rfl)]
  obtain ⟨u1, e1, a1, J1⟩ := ap_open (j_si H) (by omega) (nI l)
  obtain ⟨u2, e2, a2, J2⟩ := ap_put a1 J1 (j := 1) (by omega) (y := 1) rfl (nI kl)
  obtain ⟨u3, e3, a3, J3⟩ := ap_put a2 J2 (j := 2) (by omega) (y := 2) rfl (bv z)
  obtain ⟨u4, e4, a4, J4⟩ := ap_put a3 J3 (j := 3) (by omega) (y := 3) rfl (bv u)
  obtain ⟨u5, e5, a5, J5⟩ := ap_put a4 J4 (j := 4) (by omega) (y := 4) rfl 10
  have Jw : JR u5 8 10 10 (c 1) := JR_eq (p_Rway H).1 (Ap_fn a5 (by omega) (by omega))
  obtain ⟨v2, r, e6, a6, hr⟩ := c_openWays Jw (by omega)
  have k4 : f_Count_site_j100 (nI (c 1)) (bv u) 3 (nI (c 1)) u3 = some (nI (c 1), v2) := by rw [f_Count_site_j100, e4, ob, e5, ob, e6, ob]
  have k3 : f_Count_site_j77 u (nI (c 1)) (bv z) 2 (nI (c 1)) u2 = some (nI (c 1), v2) := by
    rw [f_Count_site_j77, e3, ob]
    by_cases b : u = 0
    · have k4' := k4
      rw [bv, if_pos b] at k4'
      rw [if_pos b]; exact k4'
    · have k4' := k4
      rw [bv, if_neg b] at k4'
      rw [if_neg b]; exact k4'
  have eC : f_Count_site (nI l) (nI kl) z u w = some (nI (c 1), v2) := by
    rw [f_Count_site, c_isLand, ob]
    dsimp only
    rw [b2_p t0, if_neg one_ne, if_neg t1, if_pos t2, u_si H, ob]
    dsimp only
    rw [b2_n t3, if_pos rfl, e1, ob]
    dsimp only
    rw [e2, ob]
    by_cases b : z = 0
    · have k3' := k3
      rw [bv, if_pos b] at k3'
      rw [if_pos b]; exact k3'
    · have k3' := k3
      rw [bv, if_neg b] at k3'
      rw [if_neg b]; exact k3'
  have fr : ∀ b j, b ≠ 6 ∧ b ≠ 7 ∧ b ≠ 8 ∧ b ≠ 9 → v2.1 b j = w.1 b j := fun b j q => (a6.2.2 b j (by omega)).trans (a5.2.2 b j (by omega))
  have e94 : v2.1 94 = w.1 94 := funext fun j => fr 94 j (by omega)
  have H' : RA w 3 (v2.1 94) c K := by rw [e94]; exact H
  obtain ⟨W, hW⟩ : ∃ W : jW, W = ((jup (jup (jup (jup (jup (jup v2.1 94 (40 + 8 * c 1) (nI l)) 94 (40 + 8 * c 1 + 1) (nI kl)) 94 (40 + 8 * c 1 + 2) (bv z)) 94 (40 + 8 * c 1 + 3) (bv u)) 94 (40 + 8 * c 1 + 4) (10)) 94 (1) (nI (c 1 + 1))), v2.2) := ⟨_, rfl⟩
  have f94 : ∀ b, b ≠ 94 → W.1 b = v2.1 b := fun b hb => by rw [hW]; dsimp only; rw [jup_fn hb, jup_fn hb, jup_fn hb, jup_fn hb, jup_fn hb, jup_fn hb]
  have g0 : W.1 94 (40 + 8 * c 1) = nI l := by rw [hW]; simp (disch := omega) only [jup_k, jup_eq]
  have g1 : W.1 94 (40 + 8 * c 1 + 1) = nI kl := by rw [hW]; simp (disch := omega) only [jup_k, jup_eq]
  have g2 : W.1 94 (40 + 8 * c 1 + 2) = bv z := by rw [hW]; simp (disch := omega) only [jup_k, jup_eq]
  have g3 : W.1 94 (40 + 8 * c 1 + 3) = bv u := by rw [hW]; simp (disch := omega) only [jup_k, jup_eq]
  have g4 : W.1 94 (40 + 8 * c 1 + 4) = 10 := by rw [hW]; simp (disch := omega) only [jup_k, jup_eq]
  have g5 : W.1 94 (1) = nI (c 1 + 1) := by rw [hW]; simp (disch := omega) only [jup_k, jup_eq]
  have m4 : f_Model_site_j101 (nI (40 + 8 * c 1)) (bv u) (nI (40 + 8 * c 1 + 3)) ((jup (jup (jup v2.1 94 (40 + 8 * c 1) (nI l)) 94 (40 + 8 * c 1 + 1) (nI kl)) 94 (40 + 8 * c 1 + 2) (bv z)), v2.2) = some (nI (c 1), W) := by
    rw [hW, f_Model_site_j101]
    simp (disch := omega) only [↓jlw_e, ↓reduceIte, ia_1, ia_2, ia_3, ia_4, ia_5, ia_6, ia_7, ia_8, ia_9, ia_20, ia_40, ia_120, ia_140, ia_240, ia_720, ia_1520, ia_1680, ia_9680, ia_11280, ia_12480, ia_12880, ia_13080, ia_20760, ia_20880, ip_0, ip_1, ip_2, ip_3, ip_4, ip_5, ip_6, ip_7, ip_8, ip_9, ip_140, im_2, im_4, im_8, im_12, im_800, nI_clamp, jin_nI, jal_c, jal_n, Bool.and_true, if_true, ob, jlw_e, jk_0, jk_1, jk_2, jk_3, jk_4, jk_5, jk_6, jk_7, jk_8, jk_9, jk_10, jk_11, jk_12, jk_13, jk_14, jk_15, jk_16, jk_17, jk_18, jk_19, jg_0, jg_1, jg_2, jg_3, jg_4, jg_5, jg_6, jg_7, jg_8, jg_9, jg_10, jg_11, jg_12, jg_13, jg_14, jg_15, jg_16, jg_17, jg_18, jg_19, e94, h_1 H, nI_pred, jup_eq, jup_k, jup_ne]
  have m3 : f_Model_site_j82 u (nI (40 + 8 * c 1)) (bv z) (nI (40 + 8 * c 1 + 2)) ((jup (jup v2.1 94 (40 + 8 * c 1) (nI l)) 94 (40 + 8 * c 1 + 1) (nI kl)), v2.2) = some (nI (c 1), W) := by
    rw [f_Model_site_j82]
    simp (disch := omega) only [↓jlw_e, ↓reduceIte, ia_1, ia_2, ia_3, ia_4, ia_5, ia_6, ia_7, ia_8, ia_9, ia_20, ia_40, ia_120, ia_140, ia_240, ia_720, ia_1520, ia_1680, ia_9680, ia_11280, ia_12480, ia_12880, ia_13080, ia_20760, ia_20880, ip_0, ip_1, ip_2, ip_3, ip_4, ip_5, ip_6, ip_7, ip_8, ip_9, ip_140, im_2, im_4, im_8, im_12, im_800, nI_clamp, jin_nI, jal_c, jal_n, Bool.and_true, if_true, ob, jlw_e, jk_0, jk_1, jk_2, jk_3, jk_4, jk_5, jk_6, jk_7, jk_8, jk_9, jk_10, jk_11, jk_12, jk_13, jk_14, jk_15, jk_16, jk_17, jk_18, jk_19, jg_0, jg_1, jg_2, jg_3, jg_4, jg_5, jg_6, jg_7, jg_8, jg_9, jg_10, jg_11, jg_12, jg_13, jg_14, jg_15, jg_16, jg_17, jg_18, jg_19]
    by_cases b : u = 0
    · have m4' := m4
      rw [bv, if_pos b] at m4'
      rw [if_pos b]; exact m4'
    · have m4' := m4
      rw [bv, if_neg b] at m4'
      rw [if_neg b]; exact m4'
  have eM : f_Model_site (nI l) (nI kl) z u v2 = some (nI (c 1), W) := by
    rw [f_Model_site, m_isIn, ob]
    dsimp only
    rw [b2_p t0, if_neg one_ne, m_isIn, ob]
    dsimp only
    rw [b2_p ⟨t1, t2⟩, if_neg one_ne, if_pos (by decide), jk_1, e94, h_1 H, if_neg (show ¬ nI (c 1) = 10 from fun z => t3 ((nI_eq (b := 10) (by omega) (by omega)).mp z))]
    simp (disch := omega) only [↓jlw_e, ↓reduceIte, ia_1, ia_2, ia_3, ia_4, ia_5, ia_6, ia_7, ia_8, ia_9, ia_20, ia_40, ia_120, ia_140, ia_240, ia_720, ia_1520, ia_1680, ia_9680, ia_11280, ia_12480, ia_12880, ia_13080, ia_20760, ia_20880, ip_0, ip_1, ip_2, ip_3, ip_4, ip_5, ip_6, ip_7, ip_8, ip_9, ip_140, im_2, im_4, im_8, im_12, im_800, nI_clamp, jin_nI, jal_c, jal_n, Bool.and_true, if_true, ob, jlw_e, jk_0, jk_1, jk_2, jk_3, jk_4, jk_5, jk_6, jk_7, jk_8, jk_9, jk_10, jk_11, jk_12, jk_13, jk_14, jk_15, jk_16, jk_17, jk_18, jk_19, jg_0, jg_1, jg_2, jg_3, jg_4, jg_5, jg_6, jg_7, jg_8, jg_9, jg_10, jg_11, jg_12, jg_13, jg_14, jg_15, jg_16, jg_17, jg_18, jg_19]
    by_cases b : z = 0
    · have m3' := m3
      rw [bv, if_pos b] at m3'
      rw [if_pos b]; exact m3'
    · have m3' := m3
      rw [bv, if_neg b] at m3'
      rw [if_neg b]; exact m3'
  have fA : ∀ k, k < 21000 → ¬ (k = 1 ∨ k = 40 + 8 * c 1 ∨ k = 40 + 8 * c 1 + 1 ∨ k = 40 + 8 * c 1 + 2 ∨ k = 40 + 8 * c 1 + 3 ∨ k = 40 + 8 * c 1 + 4) → W.1 94 k = w.1 94 k := fun k _ hE => by rw [hW]; dsimp only; rw [jup_k (by omega), jup_k (by omega), jup_k (by omega), jup_k (by omega), jup_k (by omega), jup_k (by omega), e94]
  have hv : ∀ j, j < 5 → id j < 8 → W.1 7 (c 1 * 5 + j) = W.1 94 (40 + 8 * c 1 + id j) := fun j hj _ => by
    rw [f94 7 (by omega), a6.2.2 7 _ (by omega), a5.2.1 j hj]
    rcases (show j = 0 ∨ j = 1 ∨ j = 2 ∨ j = 3 ∨ j = 4 by omega) with z | z | z | z | z <;> subst z
    · exact g0.symm
    · exact g1.symm
    · exact g2.symm
    · exact g3.symm
    · exact g4.symm
  have ha : W.1 6 2 = nI (c 1 + 1) := by rw [f94 6 (by omega), a6.2.2 6 2 (by omega)]; exact a5.1
  have ha2 : W.1 8 2 = nI (c 1 + 1) := by rw [f94 8 (by omega)]; exact a6.1
  have wv : ∀ j, j < 10 → W.1 9 (c 1 * 10 + j) = if j = c 1 then 0 else -1 := fun j hj => by
    rw [f94 9 (by omega), a6.2.1 j hj]; exact hr j hj
  have hw : ∀ b j, 3 ≤ b → b < 38 → ¬ (b = 6 ∧ j = 2 ∨ b = 7 ∧ c 1 * 5 ≤ j ∧ j < c 1 * 5 + 5 ∨ b = 8 ∧ j = 2 ∨ b = 9 ∧ c 1 * 10 ≤ j ∧ j < c 1 * 10 + 10) → W.1 b j = w.1 b j := fun b j q1 q2 q3 => by
    rw [f94 b (by omega), a6.2.2 b j (by omega)]; exact a5.2.2 b j (by omega)
  have HR := P_site H (by omega) ha g5 hv (by rw [g0]; exact vb_k rfl (Nat.zero_le _) hl) (by rw [g1]; exact vb_k rfl (Nat.zero_le _) hkl) (by rw [g2]; exact bv_v) (by rw [g3]; exact bv_v) (by rw [g4]; exact ⟨10, rfl, by omega, by omega⟩) ha2 wv hw fA
  exact ⟨_, v2, W, _, ci, eC, eM, Inv_K (Inv_of h (Nat.le_refl _) (fun b q1 q2 => by rw [f94 b q2]; exact funext fun j => fr b j (by omega)) HR) (by omega) (by omega)⟩

theorem q_about (h : Inv w c ci K) (hK : K < 512) (x : Int32) : Cal w (K + 1) (f_Count_about x) (f_Model_about x) := by
  have H := h.1
  have l0 := l_0 H
  have l1 := l_1 H
  have l2 := l_2 H
  have l3 := l_3 H
  have l4 := l_4 H
  have l5 := l_5 H
  have l6 := l_6 H
  have l7 := l_7 H
  have l8 := l_8 H
  have l9 := l_9 H
  have l10 := l_10 H
  have l11 := l_11 H
  have l12 := l_12 H
  have l13 := l_13 H
  obtain ⟨n, m1, m2, m3, t1, t2, t3, t4, t5, t6⟩ := h.2.2.1
  have s0 := p_Rscal H
  have mi : f_Model_isIn x 20 (19 + (w.1 94 1)) w = some (b2 (¬ x < 20 ∧ x ≤ nI (19 + c 1)), w) := by
    rw [m_isIn, h_1 H, show (19 : Int32) = nI 19 from rfl, nI_add]
  have lit : ∀ (k : Nat) (z : Int32), x = z → z = nI k → k < 20 → ¬ (¬ x < 20 ∧ x ≤ nI (19 + c 1)) := fun k z e1 e2 hk q => q.1 (by rw [e1, e2]; exact nI_lt (b := 20) hk (by omega))
  have c12 : f_Rows_count 79 w = some (nI n, w) := r_count t1
  have small : ∀ (k : Nat), x = nI k → k < 12 → f_Model_about x w = some (nI (c k), w) := fun k e hk => by
    rw [f_Model_about, if_pos (by decide), jk_1, mi, ob]
    dsimp only
    rw [b2_n (lit k x rfl e (by omega)), if_pos rfl, e, if_neg (show ¬ nI k = 12 from fun z => by have := (nI_eq (b := 12) (by omega) (by omega)).mp z; omega), if_neg (show ¬ nI k = 13 from fun z => by have := (nI_eq (b := 13) (by omega) (by omega)).mp z; omega), if_neg (show ¬ nI k = 14 from fun z => by have := (nI_eq (b := 14) (by omega) (by omega)).mp z; omega), if_neg (show ¬ nI k = 15 from fun z => by have := (nI_eq (b := 15) (by omega) (by omega)).mp z; omega), m_isIn, ob]
    dsimp only
    rw [b2_p ⟨nI_pos (by omega), nI_le (b := 11) (by omega) (by omega)⟩, if_neg one_ne, jal_c, jin_nI (by omega) (by omega), if_pos (show (true && jal []) = true from rfl), nI_clamp (by omega), p_I0 H k (by omega)]
  have fin : ∀ (z : Int32), f_Count_about x w = some (z, w) → f_Model_about x w = some (z, w) → Cal w (K + 1) (f_Count_about x) (f_Model_about x) := fun z q1 q2 => Cal_f h hK q1 q2
  by_cases g0 : x = 0
  · refine fin (nI (c 0)) ?_ (small 0 g0 (by omega))
    rw [f_Count_about, if_pos g0, rs_0 H]
  by_cases g1 : x = 1
  · refine fin (nI (c 1)) ?_ (small 1 g1 (by omega))
    rw [f_Count_about, if_neg g0, if_pos g1, n_si H, ob]
  by_cases g2 : x = 2
  · refine fin (nI (c 2)) ?_ (small 2 g2 (by omega))
    rw [f_Count_about, if_neg g0, if_neg g1, if_pos g2, s0.2.2.2.2, h_2 H]
  by_cases g3 : x = 3
  · refine fin (nI (c 3)) ?_ (small 3 g3 (by omega))
    rw [f_Count_about, if_neg g0, if_neg g1, if_neg g2, if_pos g3, n_th H, ob]
  by_cases g4 : x = 4
  · refine fin (nI (c 4)) ?_ (small 4 g4 (by omega))
    rw [f_Count_about, if_neg g0, if_neg g1, if_neg g2, if_neg g3, if_pos g4, n_mv H, ob]
  by_cases g5 : x = 5
  · refine fin (nI (c 5)) ?_ (small 5 g5 (by omega))
    rw [f_Count_about, if_neg g0, if_neg g1, if_neg g2, if_neg g3, if_neg g4, if_pos g5, n_sl H, ob]
  by_cases g6 : x = 6
  · refine fin (nI (c 6)) ?_ (small 6 g6 (by omega))
    rw [f_Count_about, if_neg g0, if_neg g1, if_neg g2, if_neg g3, if_neg g4, if_neg g5, if_pos g6, n_tx H, ob]
  by_cases g7 : x = 7
  · refine fin (nI (c 7)) ?_ (small 7 g7 (by omega))
    rw [f_Count_about, if_neg g0, if_neg g1, if_neg g2, if_neg g3, if_neg g4, if_neg g5, if_neg g6, if_pos g7, n_to H, ob]
  by_cases g8 : x = 8
  · refine fin (nI (c 8)) ?_ (small 8 g8 (by omega))
    rw [f_Count_about, if_neg g0, if_neg g1, if_neg g2, if_neg g3, if_neg g4, if_neg g5, if_neg g6, if_neg g7, if_pos g8, n_vi H, ob]
  by_cases g9 : x = 9
  · refine fin (nI (c 9)) ?_ (small 9 g9 (by omega))
    rw [f_Count_about, if_neg g0, if_neg g1, if_neg g2, if_neg g3, if_neg g4, if_neg g5, if_neg g6, if_neg g7, if_neg g8, if_pos g9, n_pc H, ob]
  by_cases g10 : x = 10
  · refine fin (nI (c 10)) ?_ (small 10 g10 (by omega))
    rw [f_Count_about, if_neg g0, if_neg g1, if_neg g2, if_neg g3, if_neg g4, if_neg g5, if_neg g6, if_neg g7, if_neg g8, if_neg g9, if_pos g10, n_qu H, ob]
  by_cases g11 : x = 11
  · refine fin (nI (c 11)) ?_ (small 11 g11 (by omega))
    rw [f_Count_about, if_neg g0, if_neg g1, if_neg g2, if_neg g3, if_neg g4, if_neg g5, if_neg g6, if_neg g7, if_neg g8, if_neg g9, if_neg g10, if_pos g11, n_ac H, ob]
  by_cases g12 : x = 12
  · refine fin (nI n) ?_ ?_
    · rw [f_Count_about, if_neg g0, if_neg g1, if_neg g2, if_neg g3, if_neg g4, if_neg g5, if_neg g6, if_neg g7, if_neg g8, if_neg g9, if_neg g10, if_neg g11, if_pos g12, c12, ob]
    · rw [f_Model_about, if_pos (by decide), jk_1, mi, ob]
      dsimp only
      rw [b2_n (lit 12 12 g12 rfl (by omega)), if_pos rfl, if_pos g12, t5]
  by_cases g13 : x = 13
  · refine fin (nI (c 12)) ?_ ?_
    · rw [f_Count_about, if_neg g0, if_neg g1, if_neg g2, if_neg g3, if_neg g4, if_neg g5, if_neg g6, if_neg g7, if_neg g8, if_neg g9, if_neg g10, if_neg g11, if_neg g12, if_pos g13, n_cl H, ob]
    · rw [f_Model_about, if_pos (by decide), jk_1, mi, ob]
      dsimp only
      rw [b2_n (lit 13 13 g13 rfl (by omega)), if_pos rfl, if_neg g12, if_pos g13, if_pos (by decide), jk_12, h_12 H]
  by_cases g14 : x = 14
  · refine fin (nI (c 13)) ?_ ?_
    · rw [f_Count_about, if_neg g0, if_neg g1, if_neg g2, if_neg g3, if_neg g4, if_neg g5, if_neg g6, if_neg g7, if_neg g8, if_neg g9, if_neg g10, if_neg g11, if_neg g12, if_neg g13, if_pos g14, n_wa H, ob]
    · rw [f_Model_about, if_pos (by decide), jk_1, mi, ob]
      dsimp only
      rw [b2_n (lit 14 14 g14 rfl (by omega)), if_pos rfl, if_neg g12, if_neg g13, if_pos g14, if_pos (by decide), jk_13, h_13 H]
  by_cases g15 : x = 15
  · refine fin (w.1 94 16) ?_ ?_
    · rw [f_Count_about, if_neg g0, if_neg g1, if_neg g2, if_neg g3, if_neg g4, if_neg g5, if_neg g6, if_neg g7, if_neg g8, if_neg g9, if_neg g10, if_neg g11, if_neg g12, if_neg g13, if_neg g14, if_pos g15, s0.2.2.2.1]
    · rw [f_Model_about, if_pos (by decide), jk_1, mi, ob]
      dsimp only
      rw [b2_n (lit 15 15 g15 rfl (by omega)), if_pos rfl, if_neg g12, if_neg g13, if_neg g14, if_pos g15, if_pos (by decide), jk_16]

  have cb : f_Count_about x w = if x < 20 then some (-1, w) else Option.bind (f_Rows_at 6 (x - 20) 4 w) fun q1 => some (q1.1, q1.2) := by
    rw [f_Count_about, if_neg g0, if_neg g1, if_neg g2, if_neg g3, if_neg g4, if_neg g5, if_neg g6, if_neg g7, if_neg g8, if_neg g9, if_neg g10, if_neg g11, if_neg g12, if_neg g13, if_neg g14, if_neg g15]
  have mb : ¬ (¬ x < 20 ∧ x ≤ nI (19 + c 1)) → f_Model_about x w = some (-1, w) := fun q => by
    rw [f_Model_about, if_pos (by decide), jk_1, mi, ob]
    dsimp only
    rw [b2_n q, if_pos rfl, if_neg g12, if_neg g13, if_neg g14, if_neg g15, m_isIn, ob]
    dsimp only
    rw [b2_n (fun z => ?_), if_pos rfl]
    obtain ⟨k, hk, e⟩ := rngle (n := 11) (by omega) z
    rcases (show k = 0 ∨ k = 1 ∨ k = 2 ∨ k = 3 ∨ k = 4 ∨ k = 5 ∨ k = 6 ∨ k = 7 ∨ k = 8 ∨ k = 9 ∨ k = 10 ∨ k = 11 by omega) with q | q | q | q | q | q | q | q | q | q | q | q <;> subst q
    · exact g0 e
    · exact g1 e
    · exact g2 e
    · exact g3 e
    · exact g4 e
    · exact g5 e
    · exact g6 e
    · exact g7 e
    · exact g8 e
    · exact g9 e
    · exact g10 e
    · exact g11 e
  by_cases g : ¬ x < 20 ∧ x ≤ nI (19 + c 1)
  · obtain ⟨k, hk, e⟩ := rngle (n := 19 + c 1) (x := x) (by omega) ⟨fun z => g.1 (Int32.lt_of_lt_of_le z (by decide)), g.2⟩
    have hk2 : 20 ≤ k := by
      have := g.1
      rw [e, show (20 : Int32) = nI 20 from rfl, ii_lt (by omega) (by omega)] at this
      omega
    have es : x - 20 = nI (k - 20) := by rw [e]; exact nI_sub (b := 20) hk2
    refine fin (w.1 94 (40 + 8 * (k - 20) + 4)) ?_ ?_
    · rw [cb, if_neg g.1, es, a_si4 H (by omega), ob]
    · rw [f_Model_about, if_pos (by decide), jk_1, mi, ob]
      dsimp only
      rw [b2_p g, if_neg one_ne, es, ms_4 (by omega), ob]
  · refine fin (-1) ?_ (mb g)
    rw [cb]
    by_cases q : x < 20
    · rw [if_pos q]
    · rw [if_neg q, x_si H ?_, ob]
      refine Or.inr (fun z => g ⟨q, ?_⟩)
      rw [Int32.lt_iff_toInt_lt, nI_toInt (by omega)] at z
      rw [Int32.lt_iff_toInt_lt] at q
      have e20 : (20 : Int32).toInt = 20 := by decide
      have hx := Int32.toInt_lt x
      have es : (x - 20).toInt = x.toInt - 20 := by
        rw [Int32.toInt_sub, e20]
        exact Int.bmod_eq_of_le (by omega) (by omega)
      rw [Int32.le_iff_toInt_le, nI_toInt (by omega)]
      omega

theorem JR_cut {R W cap n m : Nat} {v : jW} (h : JR w R W cap n) (h0 : v.1 R 0 = w.1 R 0) (h2 : v.1 R 2 = nI m) (hm : m ≤ cap) : JR v R W cap m := ⟨h0.trans h.1, h2, hm, h.2.2.2⟩
theorem c_cut {R W cap n m : Nat} (h : JR w R W cap n) (hm : m ≤ n) : f_Rows_cut R (nI m) w = some (jup w.1 R 2 (nI m), w.2) := by
  have hc := h.2.2.1
  have h3 := h.2.2.2.2.2.2.2.1
  rw [f_Rows_cut, h.2.1, jlw_e]
  by_cases q : n < m
  · omega
  · rw [if_neg (nI_nlt (by omega) (by omega))]
    by_cases z : m = 0
    · rw [z, if_neg (show ¬ (0 : Int32) < nI 0 by decide)]; rfl
    · rw [if_pos (show (0 : Int32) < nI m from nI_lt (a := 0) (by omega) (by omega))]
theorem q_end (h : Inv w c ci K) (hK : K < 512) (x : Int32) : Cal w (K + 1) (f_Count_end x) (f_Model_end x) := by
  have hi := Inv_K h (Nat.le_succ K) (by omega)
  obtain ⟨n, m1, m2, m3, t1, t2, t3, t4, t5, t6⟩ := id h.2.2.1
  have hn := t1.2.2.1
  by_cases g0 : x < 0
  · refine Cal_f (x := -1) h hK ?_ ?_
    · rw [f_Count_end, if_pos g0]
    · rw [f_Model_end, m_isIn, ob]
      dsimp only
      rw [b2_n (fun z => z.1 g0), if_pos rfl]
  by_cases g1 : x ≤ nI n
  rotate_left
  · refine Cal_f (x := -1) h hK ?_ ?_
    · rw [f_Count_end, if_neg g0, r_count t1, ob]
      dsimp only
      rw [if_neg g1]
    · rw [f_Model_end, m_isIn, ob]
      dsimp only
      rw [t5, b2_n (fun z => g1 z.2), if_pos rfl]
  obtain ⟨m, hm, rfl⟩ := rngle (n := n) (by omega) ⟨g0, g1⟩
  obtain ⟨v, hv⟩ : ∃ v : jW, v = (jup w.1 79 2 (nI m), w.2) := ⟨_, rfl⟩
  obtain ⟨W, hW⟩ : ∃ v' : jW, v' = (jup v.1 93 4 (nI m), v.2) := ⟨_, rfl⟩
  have fW : ∀ b, b ≠ 79 → b ≠ 93 → W.1 b = w.1 b := fun b q1 q2 => by rw [hW]; dsimp only; rw [jup_fn q2, hv]; dsimp only; rw [jup_fn q1]
  have e79 : W.1 79 = v.1 79 := by rw [hW]; dsimp only; rw [jup_fn (by omega)]
  refine ⟨nI m, v, W, c, ci, ?_, ?_, ?_⟩
  · rw [f_Count_end, if_neg g0, r_count t1, ob]
    dsimp only
    rw [if_pos g1, c_cut t1 hm, ob, hv]
  · rw [f_Model_end, m_isIn, ob]
    dsimp only
    have e4 : v.1 93 4 = nI n := by rw [hv]; dsimp only; rw [jup_ne (by omega)]; exact t5
    rw [e4, b2_p ⟨g0, g1⟩, if_neg one_ne, jlw_e, hW]
  · obtain ⟨i1, i2, i3, i4⟩ := hi
    refine ⟨?_, ?_, ⟨m, m1, m2, m3, ?_, ?_, ?_, ?_, ?_, ?_⟩, ?_⟩
    · rw [fW 94 (by omega) (by omega)]; exact RA_fr i1 (fun b q1 q2 _ => fW b (by omega) (by omega))
    · rw [fW 95 (by omega) (by omega)]; exact RA_38 i2 (fun b q1 q2 => fW b (by omega) (by omega))
    · refine JR_cut t1 ?_ ?_ (by omega)
      · rw [e79, hv]; dsimp only; rw [jup_k (by omega)]
      · rw [e79, hv]; dsimp only; exact jup_eq
    · exact JR_eq t2 (fW 74 (by omega) (by omega))
    · exact JR_eq t3 (fW 76 (by omega) (by omega))
    · exact JR_eq t4 (fW 81 (by omega) (by omega))
    · rw [hW]; dsimp only; exact jup_eq
    · intro k hk
      rw [fW 80 (by omega) (by omega), fW 97 (by omega) (by omega)]; exact t6 k (by omega)
    · refine Rft_fr i4 (fW 73 (by omega) (by omega)) ?_ ?_
      · rw [hW]; dsimp only; rw [jup_k (by omega), hv]; dsimp only; rw [jup_ne (by omega)]
      · rw [hW]; dsimp only; rw [jup_k (by omega), hv]; dsimp only; rw [jup_ne (by omega)]

end Q7

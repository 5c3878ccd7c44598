/-! LAYER B: more calls that only look -/
section LO
variable {w v : jW} {A : Nat → Int32} {c ci : Nat → Nat} {K : Nat}
theorem nle {x : Int32} {n : Nat} (h : ¬ x ≤ nI n) (hn : n < 2 ^ 31) : x < 0 ∨ ¬ x < nI (n + 1) := by
  by_cases q : x < 0
  · exact Or.inl q
  · refine Or.inr (fun z => h ?_)
    rw [Int32.le_iff_toInt_le, nI_toInt hn]
    rw [Int32.lt_iff_toInt_lt] at z
    by_cases e : n + 1 < 2 ^ 31
    · rw [nI_toInt e] at z; omega
    · have := Int32.toInt_lt x
      omega
/-- a thing's numbers as they are asked -/
def vth (A : Nat → Int32) (c : Nat → Nat) (t j : Nat) : Int32 := if j ≤ 4 then A (240 + 12 * t + j) else if j = 5 then A (240 + 12 * t + 6) else nI (cmv A t (c 4))
theorem c_thcol (H : RA w 3 A c K) {t j : Nat} (ht : t < c 3) (hj : j ≤ 6) : f_Rows_at 10 (nI t) (nI j) w = some (vth A c t j, w) := by
  rcases (show j = 0 ∨ j = 1 ∨ j = 2 ∨ j = 3 ∨ j = 4 ∨ j = 5 ∨ j = 6 by omega) with q | q | q | q | q | q | q <;> subst q
  · exact a_th0 H ht
  · exact a_th1 H ht
  · exact a_th2 H ht
  · exact a_th3 H ht
  · exact a_th4 H ht
  · exact a_th5 H ht
  · obtain ⟨nt, nm, g1, g2, g3, g4, g5, g6⟩ := p_Rchain H
    have l3 := l_3 H
    have l4 := l_4 H
    have e2 : nm = c 4 := (nI_eq (by omega) (by omega)).mp (g2.symm.trans (h_4 H))
    have e3 : nt = c 3 := (nI_eq (by omega) (by omega)).mp (g1.symm.trans (h_3 H))
    subst e2; subst e3
    exact (a_th6 H ht).trans (congrArg (fun z => some (z, w)) (g5 t ht).2)
theorem m_thing_h {z0 : jW} (H : RA z0 3 (w.1 94) c K) {t : Nat} {x : Int32} (ht : t < c 3) : ∀ (m k f : Nat), k + m = c 4 → m < f → f_Model_thing_h15 f (nI t) x (nI (cmv (w.1 94) t k)) (nI k) w = some (if ¬ x < 0 ∧ x ≤ 6 then vth (w.1 94) c t x.toNatClampNeg else -1, w) := by
  have l4 := l_4 H
  have l3 := l_3 H
  intro m
  induction m with
  | zero =>
    intro k f hk hf
    obtain ⟨f, rfl⟩ : ∃ j, f = j + 1 := ⟨f - 1, by omega⟩
    rw [f_Model_thing_h15, if_pos (by decide), jk_4, h_4 H, if_neg (nI_nlt (by omega) (by omega)), m_isIn, ob]
    dsimp only
    by_cases g1 : ¬ x < 0 ∧ x ≤ 6
    · obtain ⟨j, hj, rfl⟩ := rngle (n := 6) (by omega) g1
      rw [if_pos g1, nI_clamp (by omega), vth]
      by_cases g2 : j ≤ 4
      · have g3 : ¬ nI j < 0 ∧ nI j ≤ 4 := ⟨nI_pos (by omega), (nI_leI (b := 4) (by omega) (by omega)).mpr g2⟩
        rw [b2_p g3, if_neg one_ne, if_pos g2, m_thingAt (by omega) (by omega)]; rfl
      · have g3 : ¬ (¬ nI j < 0 ∧ nI j ≤ 4) := fun z => g2 ((nI_leI (b := 4) (by omega) (by omega)).mp z.2)
        rw [b2_n g3, if_pos rfl, if_neg g2]
        rcases (show j = 5 ∨ j = 6 by omega) with q | q <;> subst q
        · rw [if_pos (show nI 5 = 5 from rfl), mt_6 (by omega), if_pos rfl]; rfl
        · rw [if_neg (show ¬ nI 6 = 5 by decide), if_pos (show nI 6 = 6 from rfl), if_neg (by omega), show k = c 4 by omega]
    · have g3 : ¬ (¬ x < 0 ∧ x ≤ 4) := fun z => g1 ⟨z.1, Int32.le_trans z.2 (by decide)⟩
      have g5 : ¬ x = 5 := fun z => g1 (by rw [z]; decide)
      have g6 : ¬ x = 6 := fun z => g1 (by rw [z]; decide)
      rw [b2_n g3, if_pos rfl, if_neg g5, if_neg g6, if_neg g1]
  | succ m ih =>
    intro k f hk hf
    obtain ⟨f, rfl⟩ : ∃ j, f = j + 1 := ⟨f - 1, by omega⟩
    have ih' := ih (k + 1) f (by omega) (by omega)
    rw [cmv] at ih'
    rw [f_Model_thing_h15, if_pos (by decide), jk_4, h_4 H, if_pos (nI_lt (by omega) (by omega)), mm_0 (by omega), ob, ip_1, ip_1, ip_0]
    dsimp only
    by_cases q : w.1 94 (720 + 8 * k) = nI t
    · rw [if_pos q] at ih' ⊢; exact ih'
    · rw [if_neg q] at ih' ⊢; exact ih'
theorem q_thing (h : Inv w c ci K) (hK : K < 512) (x y : Int32) : Cal w (K + 1) (f_Count_thing x y) (f_Model_thing x y) := by
  have l3 := l_3 h.1
  refine Cal_v (V := fun A => if ¬ x < 0 ∧ x < nI (c 3) then (if ¬ y < 0 ∧ y ≤ 6 then vth A c x.toNatClampNeg y.toNatClampNeg else -1) else -1) h hK (fun u hu => ⟨u, ?_, Sq_r⟩) (fun u hu => ⟨u, ?_, Sq_r⟩)
  · have H := hu.1
    rw [f_Count_thing]
    by_cases g1 : ¬ x < 0 ∧ x < nI (c 3)
    · rw [if_pos g1]
      obtain ⟨t, ht, rfl⟩ := rng (by omega) g1
      by_cases g2 : ¬ y < 0 ∧ y ≤ 6
      · rw [if_pos g2.2, if_pos g2]
        obtain ⟨j, hj, rfl⟩ := rngle (n := 6) (by omega) g2
        rw [c_thcol H ht hj, ob, nI_clamp (by omega), nI_clamp (by omega)]
      · rw [if_neg g2]
        by_cases g3 : y ≤ 6
        · have g4 : y < 0 := by
            by_cases z : y < 0
            · exact z
            · exact absurd ⟨z, g3⟩ g2
          rw [if_pos g3, y_th H (Or.inl g4), ob]
        · rw [if_neg g3]
    · rw [if_neg g1]
      split
      · rw [x_th H (by
          by_cases z : x < 0
          · exact Or.inl z
          · exact Or.inr (fun z2 => g1 ⟨z, z2⟩)), ob]
      · rfl
  · have H := hu.1
    rw [f_Model_thing, mi_thing H, ob]
    dsimp only
    by_cases g1 : ¬ x < 0 ∧ x < nI (c 3)
    · rw [b2_p g1, if_neg one_ne, if_pos g1]
      obtain ⟨t, ht, rfl⟩ := rng (by omega) g1
      rw [nI_clamp (n := t) (by omega)]
      exact m_thing_h H ht (c 4) 0 jfu (by omega) (by have := l_4 H; unfold jfu; omega)
    · rw [b2_n g1, if_pos rfl, if_neg g1]
def vvi (A : Nat → Int32) (i j : Nat) : Int32 := if j ≤ 4 then A (11280 + 12 * i + 3 + j) else if j = 5 then A (11280 + 12 * i + 8) else A (11280 + 12 * i + 2)
theorem c_vicol (H : RA w 3 A c K) {i j : Nat} (hi : i < c 8) (hj : j ≤ 6) : f_Rows_at 26 (nI i) (nI j) w = some (vvi A i j, w) := by
  rcases (show j = 0 ∨ j = 1 ∨ j = 2 ∨ j = 3 ∨ j = 4 ∨ j = 5 ∨ j = 6 by omega) with q | q | q | q | q | q | q <;> subst q
  · exact a_vi0 H hi
  · exact a_vi1 H hi
  · exact a_vi2 H hi
  · exact a_vi3 H hi
  · exact a_vi4 H hi
  · exact a_vi5 H hi
  · exact a_vi6 H hi
theorem rng_n {x : Int32} {n : Nat} (g : ¬ (¬ x < 0 ∧ x < nI n)) : x < 0 ∨ ¬ x < nI n := by
  by_cases z : x < 0
  · exact Or.inl z
  · exact Or.inr (fun z2 => g ⟨z, z2⟩)
theorem q_saw (h : Inv w c ci K) (hK : K < 512) (x y : Int32) : Cal w (K + 1) (f_Count_saw x y) (f_Model_saw x y) := by
  have l8 := l_8 h.1
  refine Cal_v (V := fun A => if ¬ x < 0 ∧ x < nI (c 8) then (if ¬ y < 0 ∧ y ≤ 6 then vvi A x.toNatClampNeg y.toNatClampNeg else -1) else -1) h hK (fun u hu => ⟨u, ?_, Sq_r⟩) (fun u hu => ⟨u, ?_, Sq_r⟩)
  · have H := hu.1
    rw [f_Count_saw]
    by_cases g1 : ¬ x < 0 ∧ x < nI (c 8)
    · rw [if_pos g1]
      obtain ⟨t, ht, rfl⟩ := rng (by omega) g1
      by_cases g2 : ¬ y < 0 ∧ y ≤ 6
      · rw [if_pos g2.2, if_pos g2]
        obtain ⟨j, hj, rfl⟩ := rngle (n := 6) (by omega) g2
        rw [c_vicol H ht hj, ob, nI_clamp (by omega), nI_clamp (by omega)]
      · rw [if_neg g2]
        by_cases g3 : y ≤ 6
        · have g4 : y < 0 := by
            by_cases z : y < 0
            · exact z
            · exact absurd ⟨z, g3⟩ g2
          rw [if_pos g3, y_vi H (Or.inl g4), ob]
        · rw [if_neg g3]
    · rw [if_neg g1]
      split
      · rw [x_vi H (rng_n g1), ob]
      · rfl
  · have H := hu.1
    rw [f_Model_saw, if_pos (by decide), jk_8, h_8 H, m_inM (by omega), ob]
    dsimp only
    by_cases g1 : ¬ x < 0 ∧ x < nI (c 8)
    · rw [b2_p g1, if_neg one_ne, if_pos g1]
      obtain ⟨i, hi, rfl⟩ := rng (by omega) g1
      rw [nI_clamp (n := i) (by omega), m_isIn, ob]
      dsimp only
      by_cases g2 : ¬ y < 0 ∧ y ≤ 6
      · rw [if_pos g2]
        obtain ⟨j, hj, rfl⟩ := rngle (n := 6) (by omega) g2
        rw [nI_clamp (n := j) (by omega), vvi]
        by_cases g3 : j ≤ 4
        · have g4 : ¬ nI j < 0 ∧ nI j ≤ 4 := ⟨nI_pos (by omega), (nI_leI (b := 4) (by omega) (by omega)).mpr g3⟩
          rw [b2_p g4, if_neg one_ne, if_pos g3]
          simp (disch := omega) only [ia_1, ia_2, ia_3, ia_4, ia_5, ia_6, ia_7, ia_8, ia_9, ia_20, ia_40, ia_120, ia_140, ia_240, ia_720, ia_1520, ia_1680, ia_9680, ia_11280, ia_12480, ia_12880, ia_13080, ia_20760, ia_20880, ip_0, ip_1, ip_2, ip_3, ip_4, ip_5, ip_6, ip_7, ip_8, ip_9, ip_140, im_2, im_4, im_8, im_12, im_800, nI_clamp, jin_nI, jal_c, jal_n, Bool.and_true, if_true, ob, jlw_e, jk_0, jk_1, jk_2, jk_3, jk_4, jk_5, jk_6, jk_7, jk_8, jk_9, jk_10, jk_11, jk_12, jk_13, jk_14, jk_15, jk_16, jk_17, jk_18, jk_19, jg_0, jg_1, jg_2, jg_3, jg_4, jg_5, jg_6, jg_7, jg_8, jg_9, jg_10, jg_11, jg_12, jg_13, jg_14, jg_15, jg_16, jg_17, jg_18, jg_19, nI_add]
        · have g4 : ¬ (¬ nI j < 0 ∧ nI j ≤ 4) := fun z => g3 ((nI_leI (b := 4) (by omega) (by omega)).mp z.2)
          rw [b2_n g4, if_pos rfl, if_neg g3]
          rcases (show j = 5 ∨ j = 6 by omega) with q | q <;> subst q
          · rw [if_pos (show nI 5 = 5 from rfl), if_pos rfl]
            simp (disch := omega) only [ia_1, ia_2, ia_3, ia_4, ia_5, ia_6, ia_7, ia_8, ia_9, ia_20, ia_40, ia_120, ia_140, ia_240, ia_720, ia_1520, ia_1680, ia_9680, ia_11280, ia_12480, ia_12880, ia_13080, ia_20760, ia_20880, ip_0, ip_1, ip_2, ip_3, ip_4, ip_5, ip_6, ip_7, ip_8, ip_9, ip_140, im_2, im_4, im_8, im_12, im_800, nI_clamp, jin_nI, jal_c, jal_n, Bool.and_true, if_true, ob, jlw_e, jk_0, jk_1, jk_2, jk_3, jk_4, jk_5, jk_6, jk_7, jk_8, jk_9, jk_10, jk_11, jk_12, jk_13, jk_14, jk_15, jk_16, jk_17, jk_18, jk_19, jg_0, jg_1, jg_2, jg_3, jg_4, jg_5, jg_6, jg_7, jg_8, jg_9, jg_10, jg_11, jg_12, jg_13, jg_14, jg_15, jg_16, jg_17, jg_18, jg_19]
          · rw [if_neg (show ¬ nI 6 = 5 by decide), if_pos (show nI 6 = 6 from rfl), if_neg (show ¬ (6 : Nat) = 5 by decide)]
            simp (disch := omega) only [ia_1, ia_2, ia_3, ia_4, ia_5, ia_6, ia_7, ia_8, ia_9, ia_20, ia_40, ia_120, ia_140, ia_240, ia_720, ia_1520, ia_1680, ia_9680, ia_11280, ia_12480, ia_12880, ia_13080, ia_20760, ia_20880, ip_0, ip_1, ip_2, ip_3, ip_4, ip_5, ip_6, ip_7, ip_8, ip_9, ip_140, im_2, im_4, im_8, im_12, im_800, nI_clamp, jin_nI, jal_c, jal_n, Bool.and_true, if_true, ob, jlw_e, jk_0, jk_1, jk_2, jk_3, jk_4, jk_5, jk_6, jk_7, jk_8, jk_9, jk_10, jk_11, jk_12, jk_13, jk_14, jk_15, jk_16, jk_17, jk_18, jk_19, jg_0, jg_1, jg_2, jg_3, jg_4, jg_5, jg_6, jg_7, jg_8, jg_9, jg_10, jg_11, jg_12, jg_13, jg_14, jg_15, jg_16, jg_17, jg_18, jg_19]
      · have g3 : ¬ (¬ y < 0 ∧ y ≤ 4) := fun z => g2 ⟨z.1, Int32.le_trans z.2 (by decide)⟩
        have g5 : ¬ y = 5 := fun z => g2 (by rw [z]; decide)
        have g6 : ¬ y = 6 := fun z => g2 (by rw [z]; decide)
        rw [b2_n g3, if_pos rfl, if_neg g5, if_neg g6, if_neg g2]
    · rw [b2_n g1, if_pos rfl, if_neg g1]
def vac (A : Nat → Int32) (i j : Nat) : Int32 := if j ≤ 2 then A (13080 + 8 * i + j) else aof A (A (13080 + 8 * i)).toNatClampNeg (A (13080 + 8 * i + 3)).toNatClampNeg
theorem act_un (H : RA w 3 A c K) {i : Nat} (hi : i < c 11) : ∃ k d o, A (13080 + 8 * i) = nI k ∧ A (13080 + 8 * i + 1) = nI d ∧ A (13080 + 8 * i + 3) = nI o ∧ k ≤ 6 ∧ d ≤ c 0 ∧ vb (A (13080 + 8 * i + 2)) 0 1 ∧ o < kof k c ∧ o < 200 ∧ (k = 2 → A (13080 + 8 * i + 4) = -1 ∨ vb (A (13080 + 8 * i + 4)) 0 d) ∧ w.1 33 (i * 5 + 3) = aof A k o ∧ w.1 33 (i * 5 + 4) = if k = 2 then A (13080 + 8 * i + 4) else nI o := by
  obtain ⟨k, d, o, h1, h2, h3, h4, h5, h6, h7, h8, h9⟩ := p_Iact H i hi
  have l3 := l_3 H
  have l4 := l_4 H
  have l7 := l_7 H
  have l8 := l_8 H
  have l10 := l_10 H
  have ho : o < 200 := by
    unfold kof at h7
    repeat' split at h7
    all_goals omega
  obtain ⟨q1, q2⟩ := p_Ract2 H i k o hi h1 h4 h3 (by omega)
  exact ⟨k, d, o, h1, h2, h3, h4, h5, h6, h7, ho, h8, q1, q2⟩
theorem c_accol (H : RA w 3 A c K) {i j : Nat} (hi : i < c 11) (hj : j ≤ 3) : f_Rows_at 32 (nI i) (nI j) w = some (vac A i j, w) := by
  rcases (show j = 0 ∨ j = 1 ∨ j = 2 ∨ j = 3 by omega) with q | q | q | q <;> subst q
  · exact a_ac0 H hi
  · exact a_ac1 H hi
  · exact a_ac2 H hi
  · obtain ⟨k, d, o, h1, h2, h3, h4, h5, h6, h7, ho, h8, q1, q2⟩ := act_un H hi
    refine (a_ac3 H hi).trans (congrArg (fun z => some (z, w)) ?_)
    rw [vac, if_neg (by omega), h1, h3, nI_clamp (by omega), nI_clamp (by omega)]
    exact q1
theorem q_act (h : Inv w c ci K) (hK : K < 512) (x y : Int32) : Cal w (K + 1) (f_Count_act x y) (f_Model_act x y) := by
  have l11 := l_11 h.1
  refine Cal_v (V := fun A => if ¬ x < 0 ∧ x < nI (c 11) then (if ¬ y < 0 ∧ y ≤ 3 then vac A x.toNatClampNeg y.toNatClampNeg else -1) else -1) h hK (fun u hu => ⟨u, ?_, Sq_r⟩) (fun u hu => ⟨u, ?_, Sq_r⟩)
  · have H := hu.1
    rw [f_Count_act]
    by_cases g1 : ¬ x < 0 ∧ x < nI (c 11)
    · rw [if_pos g1]
      obtain ⟨t, ht, rfl⟩ := rng (by omega) g1
      by_cases g2 : ¬ y < 0 ∧ y ≤ 3
      · rw [if_pos g2.2, if_pos g2]
        obtain ⟨j, hj, rfl⟩ := rngle (n := 3) (by omega) g2
        rw [c_accol H ht hj, ob, nI_clamp (by omega), nI_clamp (by omega)]
      · rw [if_neg g2]
        by_cases g3 : y ≤ 3
        · have g4 : y < 0 := by
            by_cases z : y < 0
            · exact z
            · exact absurd ⟨z, g3⟩ g2
          rw [if_pos g3, y_ac H (Or.inl g4), ob]
        · rw [if_neg g3]
    · rw [if_neg g1]
      split
      · rw [x_ac H (rng_n g1), ob]
      · rfl
  · have H := hu.1
    rw [f_Model_act, if_pos (by decide), jk_11, h_11 H, m_inM (by omega), ob]
    dsimp only
    by_cases g1 : ¬ x < 0 ∧ x < nI (c 11)
    · rw [b2_p g1, if_neg one_ne, if_pos g1]
      obtain ⟨i, hi, rfl⟩ := rng (by omega) g1
      rw [nI_clamp (n := i) (by omega), m_isIn, ob]
      dsimp only
      by_cases g2 : ¬ y < 0 ∧ y ≤ 3
      · rw [if_pos g2]
        obtain ⟨j, hj, rfl⟩ := rngle (n := 3) (by omega) g2
        rw [nI_clamp (n := j) (by omega), vac]
        by_cases g3 : j ≤ 2
        · have g4 : ¬ nI j < 0 ∧ nI j ≤ 2 := ⟨nI_pos (by omega), (nI_leI (b := 2) (by omega) (by omega)).mpr g3⟩
          rw [b2_p g4, if_neg one_ne, if_pos g3]
          simp (disch := omega) only [ia_1, ia_2, ia_3, ia_4, ia_5, ia_6, ia_7, ia_8, ia_9, ia_20, ia_40, ia_120, ia_140, ia_240, ia_720, ia_1520, ia_1680, ia_9680, ia_11280, ia_12480, ia_12880, ia_13080, ia_20760, ia_20880, ip_0, ip_1, ip_2, ip_3, ip_4, ip_5, ip_6, ip_7, ip_8, ip_9, ip_140, im_2, im_4, im_8, im_12, im_800, nI_clamp, jin_nI, jal_c, jal_n, Bool.and_true, if_true, ob, jlw_e, jk_0, jk_1, jk_2, jk_3, jk_4, jk_5, jk_6, jk_7, jk_8, jk_9, jk_10, jk_11, jk_12, jk_13, jk_14, jk_15, jk_16, jk_17, jk_18, jk_19, jg_0, jg_1, jg_2, jg_3, jg_4, jg_5, jg_6, jg_7, jg_8, jg_9, jg_10, jg_11, jg_12, jg_13, jg_14, jg_15, jg_16, jg_17, jg_18, jg_19, nI_add]
        · have g4 : ¬ (¬ nI j < 0 ∧ nI j ≤ 2) := fun z => g3 ((nI_leI (b := 2) (by omega) (by omega)).mp z.2)
          have ej : j = 3 := by omega
          subst ej
          obtain ⟨k, d, o, h1, h2, h3, h4, h5, h6, h7, ho, -⟩ := act_un H hi
          rw [b2_n g4, if_pos rfl, if_neg g3, if_pos (show nI 3 = 3 from rfl), h1, h3, nI_clamp (n := k) (by omega), nI_clamp (n := o) (by omega)]
          simp (disch := omega) only [ia_1, ia_2, ia_3, ia_4, ia_5, ia_6, ia_7, ia_8, ia_9, ia_20, ia_40, ia_120, ia_140, ia_240, ia_720, ia_1520, ia_1680, ia_9680, ia_11280, ia_12480, ia_12880, ia_13080, ia_20760, ia_20880, ip_0, ip_1, ip_2, ip_3, ip_4, ip_5, ip_6, ip_7, ip_8, ip_9, ip_140, im_2, im_4, im_8, im_12, im_800, nI_clamp, jin_nI, jal_c, jal_n, Bool.and_true, if_true, ob, jlw_e, jk_0, jk_1, jk_2, jk_3, jk_4, jk_5, jk_6, jk_7, jk_8, jk_9, jk_10, jk_11, jk_12, jk_13, jk_14, jk_15, jk_16, jk_17, jk_18, jk_19, jg_0, jg_1, jg_2, jg_3, jg_4, jg_5, jg_6, jg_7, jg_8, jg_9, jg_10, jg_11, jg_12, jg_13, jg_14, jg_15, jg_16, jg_17, jg_18, jg_19, ms_0, ms_1, ms_2, ms_3, ms_4, mt_0, mt_1, mt_2, mt_3, mt_4, mt_5, mt_6, mt_7, mt_8, mm_0, mm_1, mm_2, mm_3, mm_4, h1, h3]
          rw [aof]
          have l4 := l_4 H
          rcases (show k = 0 ∨ k = 1 ∨ k = 2 ∨ k = 3 ∨ k = 4 ∨ k = 5 ∨ k = 6 by omega) with q | q | q | q | q | q | q <;> subst q
          · rfl
          · have h7' : o < c 4 := h7
            rw [if_pos (show nI 1 = 1 from rfl), mm_0 (by omega)]; rfl
          · rfl
          · rfl
          · rfl
          · rfl
          · rfl
      · have g3 : ¬ (¬ y < 0 ∧ y ≤ 2) := fun z => g2 ⟨z.1, Int32.le_trans z.2 (by decide)⟩
        have g5 : ¬ y = 3 := fun z => g2 (by rw [z]; decide)
        rw [b2_n g3, if_pos rfl, if_neg g5, if_neg g2]
    · rw [b2_n g1, if_pos rfl, if_neg g1]
end LO

/-! LAYER B: judged, fails -/
section FA
variable {w v z0 : jW} {A : Nat → Int32} {c ci : Nat → Nat} {K : Nat}
def vjd (A : Nat → Int32) (c : Nat → Nat) (i : Nat) (kn : Int32) : Int32 := jdg A c i (A (13080 + 8 * i)).toNatClampNeg (A (13080 + 8 * i + 3)).toNatClampNeg kn
theorem c_jd (H : RA w 3 A c K) (hJ : JC w A c) {i : Nat} {kn : Int32} (hi : i < c 11) : ∃ v, f_Judge_judge (nI i) kn w = some (vjd A c i kn, v) ∧ Sq v w ∧ JC v A c := by
  obtain ⟨k, d, o, h1, h2, h3, h4, h5, h6, h7, ho, h8, q1, q2⟩ := act_un H hi
  have := c_judge (kn := kn) H hJ hi h1 h3 h4 h7
  rw [vjd, h1, h3, nI_clamp (by omega), nI_clamp (by omega)]
  exact this
theorem m_jd (H : RA z0 3 (w.1 94) c K) {i : Nat} {kn : Int32} (hi : i < c 11) : ∃ v, f_Model_judgedOf (nI i) kn w = some (vjd (w.1 94) c i kn, v) ∧ X9 v w := by
  obtain ⟨k, d, o, h1, h2, h3, h4, h5, h6, h7, ho, h8, q1, q2⟩ := act_un H hi
  have := m_judge (kn := kn) H hi h1 h3 h4 h7
  rw [vjd, h1, h3, nI_clamp (by omega), nI_clamp (by omega)]
  exact this
theorem c_begin : f_Judge_begin w = some (jup w.1 86 0 (-1), w.2) := by rw [f_Judge_begin, jlw_e]
theorem begin_Sq : Sq (jup w.1 86 0 (-1), w.2) w := Sq_jup (by decide) (Or.inl (by omega))
theorem begin_JC : JC (jup w.1 86 0 (-1), w.2) A c := Or.inl (show jup w.1 86 0 (-1) 86 0 = -1 from jup_eq)
theorem q_judged (h : Inv w c ci K) (hK : K < 512) (x y : Int32) : Cal w (K + 1) (f_Count_judged x y) (f_Model_judged x y) := by
  have l11 := l_11 h.1
  have l0 := l_0 h.1
  refine Cal_v (V := fun A => if ¬ x < 0 ∧ x < nI (c 11) then (if ¬ y < A (13080 + 8 * x.toNatClampNeg + 1) ∧ y ≤ 1999 then vjd A c x.toNatClampNeg y else -1) else -1) h hK (fun u hu => ?_) (fun u hu => ?_)
  · have H := hu.1
    rw [f_Count_judged, s_ac H, ob]
    dsimp only
    by_cases g1 : ¬ x < 0 ∧ x < nI (c 11)
    · obtain ⟨i, hi, rfl⟩ := rng (by omega) g1
      rw [b2_p g1, if_neg one_ne, if_pos g1, a_ac1 H hi, ob, nI_clamp (by omega)]
      dsimp only
      by_cases g2 : y < u.1 94 (13080 + 8 * i + 1)
      · rw [if_pos g2, if_neg (fun z => z.1 g2)]; exact ⟨u, rfl, Sq_r⟩
      · rw [if_neg g2]
        by_cases g3 : y ≤ 1999
        · rw [if_pos g3, if_pos ⟨g2, g3⟩, c_begin, ob]
          obtain ⟨v, e1, e2, e3⟩ := c_jd (kn := y) (Sq_RA begin_Sq H) begin_JC hi
          rw [e1, ob]
          exact ⟨v, rfl, Sq_t e2 begin_Sq⟩
        · rw [if_neg g3, if_neg (fun z => g3 z.2)]; exact ⟨u, rfl, Sq_r⟩
    · rw [b2_n g1, if_pos rfl, if_neg g1]; exact ⟨u, rfl, Sq_r⟩
  · have H := hu.1
    rw [f_Model_judged, if_pos (by decide), jk_11, h_11 H, m_inM (by omega), ob]
    dsimp only
    by_cases g1 : ¬ x < 0 ∧ x < nI (c 11)
    · obtain ⟨i, hi, rfl⟩ := rng (by omega) g1
      have i0 : (13080 + 8 * nI i : Int32) = nI (13080 + 8 * i) := by rw [im_8, ia_13080]
      rw [b2_p g1, if_neg one_ne, if_pos g1, i0, ip_1, jal_c, jin_nI (by omega) (by omega), if_pos (show (true && jal []) = true from rfl), nI_clamp (n := 13080 + 8 * i + 1) (by omega), m_isIn, ob, nI_clamp (by omega)]
      dsimp only
      by_cases g2 : ¬ y < u.1 94 (13080 + 8 * i + 1) ∧ y ≤ 1999
      · obtain ⟨v, e1, e2⟩ := m_jd (kn := y) H hi
        rw [b2_p g2, if_neg one_ne, if_pos g2, e1, ob]
        exact ⟨v, rfl, X9_Sq e2⟩
      · rw [b2_n g2, if_pos rfl, if_neg g2]; exact ⟨u, rfl, Sq_r⟩
    · rw [b2_n g1, if_pos rfl, if_neg g1]; exact ⟨u, rfl, Sq_r⟩
/-- the acts from the k-th on, m of them: the one that is wanted, when t more must be met ahead -/
def ffl (A : Nat → Int32) (c : Nat → Nat) (x kn : Int32) : Nat → Nat → Nat → Int32
  | 0, _, _ => -1
  | m + 1, k, t => if A (13080 + 8 * k + 1) ≤ kn then (if vjd A c k kn = x then (if t = 0 then nI k else ffl A c x kn m (k + 1) (t - 1)) else ffl A c x kn m (k + 1) t) else -1
theorem c_fails_h (H : RA w 3 A c K) {x kn : Int32} {I : Nat} (hI : I < 2 ^ 31) : ∀ (m k t f : Nat) (v : jW), Sq v w → JC v A c → k + m = c 11 → t ≤ I → m < f → ∃ v', f_Count_fails_h37 f x kn (nI I) (nI (I - t)) (nI k) v = some (ffl A c x kn m k t, v') ∧ Sq v' w := by
  have l11 := l_11 H
  intro m
  induction m with
  | zero =>
    intro k t f v hv hJ hk ht hf
    obtain ⟨f, rfl⟩ : ∃ j, f = j + 1 := ⟨f - 1, by omega⟩
    refine ⟨v, ?_, hv⟩
    rw [f_Count_fails_h37, n_ac (Sq_RA hv H), ob]
    dsimp only
    rw [if_neg (nI_nlt (by omega) (by omega))]; rfl
  | succ m ih =>
    intro k t f v hv hJ hk ht hf
    obtain ⟨f, rfl⟩ : ∃ j, f = j + 1 := ⟨f - 1, by omega⟩
    have G := Sq_RA hv H
    have hk11 : k < c 11 := by omega
    rw [f_Count_fails_h37, n_ac G, ob]
    dsimp only
    rw [if_pos (nI_lt (by omega) (by omega)), a_ac1 G hk11, ob, ffl]
    dsimp only
    by_cases q1 : A (13080 + 8 * k + 1) ≤ kn
    · obtain ⟨v1, e1, e2, e3⟩ := c_jd (kn := kn) G hJ hk11
      rw [if_pos q1, if_pos q1, e1, ob]
      dsimp only
      rw [ip_1]
      by_cases q2 : vjd A c k kn = x
      · rw [if_pos q2, if_pos q2]
        by_cases q3 : t = 0
        · rw [if_pos q3, if_pos (show nI (I - t) = nI I by rw [q3]; rfl)]
          exact ⟨v1, rfl, Sq_t e2 hv⟩
        · rw [if_neg q3, if_neg (fun z => q3 (by have := (nI_eq (by omega) (by omega)).mp z; omega)), ip_1, show I - t + 1 = I - (t - 1) by omega]
          exact ih (k + 1) (t - 1) f v1 (Sq_t e2 hv) e3 (by omega) (by omega) (by omega)
      · rw [if_neg q2, if_neg q2, ip_1]
        exact ih (k + 1) t f v1 (Sq_t e2 hv) e3 (by omega) ht (by omega)
    · rw [if_neg q1, if_neg q1]
      exact ⟨v, rfl, hv⟩
/-- the reference goes on where the class stops: in vain -/
theorem m_fails_0 (H : RA z0 3 A c K) {x kn : Int32} : ∀ (m k f : Nat) (t : Int32) (v : jW), v.1 94 = A → k + m = c 11 → m < f → (∀ j, k ≤ j → j < c 11 → ¬ A (13080 + 8 * j + 1) ≤ kn) → f_Model_fails_h29 f x kn t (nI k) v = some (-1, v) := by
  have l11 := l_11 H
  intro m
  induction m with
  | zero =>
    intro k f t v hA hk hf h
    obtain ⟨f, rfl⟩ : ∃ j, f = j + 1 := ⟨f - 1, by omega⟩
    rw [f_Model_fails_h29, if_pos (by decide), jk_11, hA, h_11 H, if_neg (nI_nlt (by omega) (by omega))]
  | succ m ih =>
    intro k f t v hA hk hf h
    obtain ⟨f, rfl⟩ : ∃ j, f = j + 1 := ⟨f - 1, by omega⟩
    have i0 : (13080 + 8 * nI k : Int32) = nI (13080 + 8 * k) := by rw [im_8, ia_13080]
    rw [f_Model_fails_h29, if_pos (by decide), jk_11, hA, h_11 H, if_pos (nI_lt (by omega) (by omega)), i0, ip_1, ip_1, jal_c, jin_nI (by omega) (by omega), if_pos (show (true && jal []) = true from rfl), nI_clamp (by omega), if_neg (h k (Nat.le_refl _) (by omega))]
    exact ih (k + 1) f t v hA (by omega) (by omega) (fun j h1 h2 => h j (by omega) h2)
theorem m_fails_h (H : RA z0 3 A c K) {x kn : Int32} {I : Nat} (hI : I < 2 ^ 31) : ∀ (m k t f : Nat) (v : jW), v.1 94 = A → k + m = c 11 → t ≤ I → m < f → ∃ v', f_Model_fails_h29 f x kn (nI t) (nI k) v = some (ffl A c x kn m k t, v') ∧ X9 v' v := by
  have l11 := l_11 H
  have l0 := l_0 H
  intro m
  induction m with
  | zero =>
    intro k t f v hA hk ht hf
    obtain ⟨f, rfl⟩ : ∃ j, f = j + 1 := ⟨f - 1, by omega⟩
    refine ⟨v, ?_, fun _ _ _ => rfl⟩
    rw [f_Model_fails_h29, if_pos (by decide), jk_11, hA, h_11 H, if_neg (nI_nlt (by omega) (by omega))]; rfl
  | succ m ih =>
    intro k t f v hA hk ht hf
    obtain ⟨f, rfl⟩ : ∃ j, f = j + 1 := ⟨f - 1, by omega⟩
    have hk11 : k < c 11 := by omega
    have G : RA z0 3 (v.1 94) c K := by rw [hA]; exact H
    have i0 : (13080 + 8 * nI k : Int32) = nI (13080 + 8 * k) := by rw [im_8, ia_13080]
    by_cases q1 : A (13080 + 8 * k + 1) ≤ kn
    · obtain ⟨v1, e1, e2⟩ := m_jd (kn := kn) G hk11
      rw [hA] at e1
      have hA1 : v1.1 94 = A := (e2 94 (by omega) (by omega)).trans hA
      rw [f_Model_fails_h29, if_pos (by decide), jk_11, hA, h_11 H, if_pos (nI_lt (by omega) (by omega)), i0, ip_1, ip_1, jal_c, jin_nI (by omega) (by omega), if_pos (show (true && jal []) = true from rfl), nI_clamp (by omega), if_pos q1, e1, ob, ffl, if_pos q1]
      dsimp only
      by_cases q2 : vjd A c k kn = x
      · rw [if_pos q2, if_pos q2]
        by_cases q3 : t = 0
        · rw [if_pos q3, if_pos (show nI t = 0 by rw [q3]; rfl)]
          exact ⟨v1, rfl, e2⟩
        · obtain ⟨t, rfl⟩ : ∃ j, t = j + 1 := ⟨t - 1, by omega⟩
          rw [if_neg q3, if_neg (nI_ne0 (by omega) (by omega)), m1_add, Nat.add_sub_cancel]
          obtain ⟨v', k1, k2⟩ := ih (k + 1) t f v1 hA1 (by omega) (by omega) (by omega)
          exact ⟨v', k1, X9_t k2 e2⟩
      · rw [if_neg q2, if_neg q2]
        obtain ⟨v', k1, k2⟩ := ih (k + 1) t f v1 hA1 (by omega) ht (by omega)
        exact ⟨v', k1, X9_t k2 e2⟩
    · refine ⟨v, ?_, fun _ _ _ => rfl⟩
      rw [ffl, if_neg q1]
      refine m_fails_0 H (m + 1) k (f + 1) (nI t) v hA hk hf (fun j h1 h2 z => ?_)
      obtain ⟨k', d', o', g1, g2, g3, g4, g5, g6, g7, g8, g9⟩ := p_Iact H j h2
      obtain ⟨k2, d2, o2, y1, y2, y3, y4, y5, y6, y7, y8, y9⟩ := p_Iact H k hk11
      by_cases e : j = k
      · rw [e] at z; exact q1 z
      · have := g9 k d2 (by omega) y2 (by omega)
        rw [g2] at z
        rw [y2] at q1
        exact q1 (Int32.le_trans (nI_le this (by omega)) z)
theorem q_fails (h : Inv w c ci K) (hK : K < 512) (x y z : Int32) : Cal w (K + 1) (f_Count_fails x y z) (f_Model_fails x y z) := by
  have l11 := l_11 h.1
  refine Cal_v (V := fun A => if ¬ x < 1 ∧ x ≤ 7 then (if ¬ y < 0 ∧ y ≤ 1999 then (if z < 0 then -1 else ffl A c x y (c 11) 0 z.toNatClampNeg) else -1) else -1) h hK (fun u hu => ?_) (fun u hu => ?_)
  · have H := hu.1
    rw [f_Count_fails]
    by_cases g1 : x < 1
    · rw [if_pos g1, if_neg (fun q => q.1 g1)]; exact ⟨u, rfl, Sq_r⟩
    rw [if_neg g1]
    by_cases g2 : x ≤ 7
    rotate_left
    · rw [if_neg g2, if_neg (fun q => g2 q.2)]; exact ⟨u, rfl, Sq_r⟩
    rw [if_pos g2, if_pos ⟨g1, g2⟩, c_isDay, ob]
    dsimp only
    by_cases g3 : ¬ y < 0 ∧ y ≤ 1999
    rotate_left
    · rw [b2_n g3, if_pos rfl, if_neg g3]; exact ⟨u, rfl, Sq_r⟩
    rw [b2_p g3, if_neg one_ne, if_pos g3]
    by_cases g4 : z < 0
    · rw [if_pos g4, if_pos g4]; exact ⟨u, rfl, Sq_r⟩
    obtain ⟨I, hI, rfl⟩ := nI_of g4
    rw [if_neg g4, if_neg g4, c_begin, ob, nI_clamp hI]
    have k := c_fails_h (x := x) (kn := y) H hI (c 11) 0 I jfu _ begin_Sq begin_JC (by omega) (Nat.le_refl _) (by unfold jfu; omega)
    rw [Nat.sub_self] at k
    exact k
  · have H := hu.1
    rw [f_Model_fails, m_isIn, ob]
    dsimp only
    by_cases g1 : ¬ x < 1 ∧ x ≤ 7
    rotate_left
    · rw [b2_n g1, if_pos rfl, if_neg g1]; exact ⟨u, rfl, Sq_r⟩
    rw [b2_p g1, if_neg one_ne, if_pos g1, m_isDay, ob]
    dsimp only
    by_cases g3 : ¬ y < 0 ∧ y ≤ 1999
    rotate_left
    · rw [b2_n g3, if_pos rfl, if_neg g3]; exact ⟨u, rfl, Sq_r⟩
    rw [b2_p g3, if_neg one_ne, if_pos g3]
    by_cases g4 : z < 0
    · rw [if_pos g4, if_pos g4]; exact ⟨u, rfl, Sq_r⟩
    obtain ⟨I, hI, rfl⟩ := nI_of g4
    rw [if_neg g4, if_neg g4, nI_clamp hI]
    obtain ⟨v, e1, e2⟩ := m_fails_h (x := x) (kn := y) H hI (c 11) 0 I jfu u rfl (by omega) (Nat.le_refl _) (by unfold jfu; omega)
    exact ⟨v, e1, X9_Sq e2⟩
end FA

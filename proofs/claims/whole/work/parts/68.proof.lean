/-! LAYER B: value, share, proof -/
section PF
variable {w v z0 : jW} {A : Nat → Int32} {c ci : Nat → Nat} {K : Nat}
theorem Cal_s {α : Type} {x : α} {w1 w2 : jW} {C M : jW → Option (α × jW)} (h : Inv w c ci K) (hK : K < 512) (hC : C w = some (x, w1)) (s1 : Sq w1 w) (hM : M w1 = some (x, w2)) (s2 : Sq w2 w1) : Cal w (K + 1) C M :=
  ⟨x, w1, w2, c, ci, hC, hM, Inv_K (Inv_sq (Inv_sq h s1) s2) (by omega) (by omega)⟩
/-- both sides agree on what is a set -/
theorem set_ag (h : Inv w c ci K) (x q : Int32) : (∃ v, f_Shares_take x q w = some (0, v) ∧ Sq v w ∧ f_Model_isSet x q v = some (0, v)) ∨ ∃ v σ n, x = nI σ ∧ q = nI n ∧ σ < 1024 ∧ 1 ≤ n ∧ n ≤ (chl (w.1 94) σ (c 1) 0).length ∧ (chl (w.1 94) σ (c 1) 0).length ≤ 5 ∧ f_Shares_take x q w = some (1, v) ∧ X88 v w ∧ Csh v (chl (w.1 94) σ (c 1) 0) ∧ v.1 87 3 = q ∧ v.2 87 4 = lN (nume (w.1 94) c σ n / Nat.gcd (nume (w.1 94) c σ n) (deno (w.1 94) c σ n)) ∧ v.2 87 5 = lN (deno (w.1 94) c σ n / Nat.gcd (nume (w.1 94) c σ n) (deno (w.1 94) c σ n)) ∧ (∀ u : jW, u.1 94 = w.1 94 → f_Model_isSet x q u = some (1, u)) ∧ σ < 2 ^ c 1 := by
  have H := h.1
  have l1 := l_1 H
  have p10 : (2 : Nat) ^ c 1 ≤ 2 ^ 10 := Nat.pow_le_pow_right (by omega) l1
  rcases c_take H x q with ⟨v, k1, k2, k3⟩ | ⟨v, σ, n, r1, r2, r3, r4, r5, r6, r7, r8, r9, r10, r11⟩
  · have e94 := Sq_94 k2
    have H' : RA w 3 (v.1 94) c K := by rw [e94]; exact H
    rcases m_isSet H' x q with ⟨m1, m2⟩ | ⟨σ, n, m1, m2, m3, m4, m5, m6⟩
    · exact Or.inl ⟨v, k1, k2, m1⟩
    · rw [e94] at m5
      have s2 := m5.2.1
      exact absurd m5 (k3 σ m1 (by omega))
  · have s2 := r5.2.1
    refine Or.inr ⟨v, σ, n, r1, r2, by omega, r3, r4, r5.2.2.1, r6, r7, r8, r9, r10, r11, fun u hu => ?_, s2⟩
    have H' : RA w 3 (u.1 94) c K := by rw [hu]; exact H
    rcases m_isSet H' x q with ⟨m1, m2⟩ | ⟨σ', n', m1, m2, m3, m4, m5, m6⟩
    · rw [hu] at m2
      exact absurd r5 (m2 σ r1 (by omega))
    · exact m6
theorem q_value (h : Inv w c ci K) (hK : K < 512) (x q y : Int32) : Cal w (K + 1) (f_Count_value x q y) (f_Model_value x q y) := by
  have H := h.1
  rcases set_ag h x q with ⟨v, k1, k2, k3⟩ | ⟨v, σ, n, r1, r2, r3, r4, r5, r6, r7, r8, r9, r10, r11, r12, r13, r14⟩
  · refine Cal_s (x := -1) (w1 := v) (w2 := v) h hK ?_ k2 ?_ Sq_r
    · rw [f_Count_value, k1, ob, if_pos rfl]
    · rw [f_Model_value, k3, ob, if_pos rfl]
  · have e94 : v.1 94 = w.1 94 := r8 94 (by omega) (by omega)
    have H' : RA w 3 (v.1 94) c K := by rw [e94]; exact H
    obtain ⟨u, y1, y2, y3, y4⟩ := m_valueOf (w := v) (q := n) H' r3 (by rw [e94]; exact ⟨r4, r5⟩) (by rw [e94]; exact r6)
    rw [e94] at y3 y4
    subst r1; subst r2
    by_cases z : y = 0
    · refine Cal_s (x := v.2 87 4) (w1 := v) (w2 := u) h hK ?_ (X88_Sq r8) ?_ (X93l_Sq y2)
      · rw [f_Count_value, r7, ob, if_neg one_ne, if_pos z]
      · rw [f_Model_value, r13 v e94, ob, if_neg one_ne, y1, ob, if_pos z, y3, r11]
    · refine Cal_s (x := v.2 87 5) (w1 := v) (w2 := u) h hK ?_ (X88_Sq r8) ?_ (X93l_Sq y2)
      · rw [f_Count_value, r7, ob, if_neg one_ne, if_neg z]
      · rw [f_Model_value, r13 v e94, ob, if_neg one_ne, y1, ob, if_neg z, y4, r12]
theorem low_b {a b : Nat} (ha : 1 ≤ a) (hb : 1 ≤ b) : 1 ≤ a / Nat.gcd a b ∧ a / Nat.gcd a b ≤ a ∧ 1 ≤ b / Nat.gcd a b ∧ b / Nat.gcd a b ≤ b := by
  have g0 : 0 < Nat.gcd a b := Nat.gcd_pos_of_pos_right _ hb
  refine ⟨Nat.div_pos (Nat.le_of_dvd ha (Nat.gcd_dvd_left a b)) g0, Nat.div_le_self _ _, Nat.div_pos (Nat.le_of_dvd hb (Nat.gcd_dvd_right a b)) g0, Nat.div_le_self _ _⟩
theorem q_share (h : Inv w c ci K) (hK : K < 512) (x q s y : Int32) : Cal w (K + 1) (f_Count_share x q s y) (f_Model_share x q s y) := by
  have H := h.1
  have l1 := l_1 H
  rcases set_ag h x q with ⟨v, k1, k2, k3⟩ | ⟨v, σ, n, r1, r2, r3, r4, r5, r6, r7, r8, r9, r10, r11, r12, r13, r14⟩
  · refine Cal_s (x := -1) (w1 := v) (w2 := v) h hK ?_ k2 ?_ Sq_r
    · rw [f_Count_share, k1, ob, if_pos rfl]
    · rw [f_Model_share, k3, ob, if_pos rfl]
  · have e94 : v.1 94 = w.1 94 := r8 94 (by omega) (by omega)
    have H' : RA w 3 (v.1 94) c K := by rw [e94]; exact H
    have Gv : RA v 3 (w.1 94) c K := RA_fr H (fun b _ _ _ => r8 b (by omega) (by omega))
    subst r1; subst r2
    by_cases g1 : ¬ s < 0 ∧ s < nI (c 1)
    rotate_left
    · refine Cal_s (x := -1) (w1 := v) (w2 := v) h hK ?_ (X88_Sq r8) ?_ Sq_r
      · rw [f_Count_share, r7, ob, if_neg one_ne, s_si Gv, ob]
        dsimp only
        rw [b2_n g1, if_pos rfl]
      · rw [f_Model_share, r13 v e94, ob, if_neg one_ne, mi_site H', ob]
        dsimp only
        rw [b2_n g1, if_pos rfl]
    by_cases g2 : (nI σ >>> (s &&& 31)) &&& 1 = 0
    · refine Cal_s (x := -1) (w1 := v) (w2 := v) h hK ?_ (X88_Sq r8) ?_ Sq_r
      · rw [f_Count_share, r7, ob, if_neg one_ne, s_si Gv, ob]
        dsimp only
        rw [b2_p g1, if_neg one_ne, if_pos g2]
      · rw [f_Model_share, r13 v e94, ob, if_neg one_ne, mi_site H', ob]
        dsimp only
        rw [b2_p g1, if_neg one_ne, if_pos g2]
    obtain ⟨i, hi, rfl⟩ := rng (by omega) g1
    obtain ⟨x1, x2, x3⟩ := chv_e H hi
    obtain ⟨d1, d2, d3, d4⟩ := nume_b H (q := n) ⟨r4, r5⟩ r6
    obtain ⟨f1, f2, f3, f4⟩ := low_b d1 d3
    obtain ⟨u, y1, y2, y3, y4⟩ := m_valueOf (w := v) (q := n) H' r3 (by rw [e94]; exact ⟨r4, r5⟩) (by rw [e94]; exact r6)
    rw [e94] at y3 y4
    generalize nume (w.1 94) c σ n / Nat.gcd (nume (w.1 94) c σ n) (deno (w.1 94) c σ n) = U at *
    generalize deno (w.1 94) c σ n / Nat.gcd (nume (w.1 94) c σ n) (deno (w.1 94) c σ n) = L at *
    generalize chv (w.1 94) i = p at *
    have b1 : L * p ≤ 4294967296 * 50 := Nat.mul_le_mul (by omega) x3
    have b2 : 1 ≤ L * p := Nat.mul_pos f3 x2
    have ed : f_Shares_divide (w.1 94 (40 + 8 * i + 4)) v = some (rdw v U (L * p)) := by
      rw [f_Shares_divide, r11, r12, x1, nI_l (by omega), lN_mul, c_reduce (by omega) (by omega) (Or.inr (by omega)), ob]
    have g0 : 0 < Nat.gcd U (L * p) := Nat.gcd_pos_of_pos_right _ b2
    have gl : Nat.gcd U (L * p) ≤ L * p := Nat.le_of_dvd b2 (Nat.gcd_dvd_right _ _)
    have u94 : u.1 94 = w.1 94 := by rw [y2]; exact e94
    have es : f_Model_siteAt (nI i) 4 u = some (nI p, u) := by rw [ms_4 (by omega), u94, x1]
    have eC : f_Count_share (nI σ) (nI n) (nI i) y w = if y = 0 then some ((rdw v U (L * p)).2 87 4, rdw v U (L * p)) else some ((rdw v U (L * p)).2 87 5, rdw v U (L * p)) := by
      rw [f_Count_share, r7, ob, if_neg one_ne, s_si Gv, ob]
      dsimp only
      rw [b2_p g1, if_neg one_ne, if_neg g2, a_si4 Gv hi, ob]
      dsimp only
      rw [ed, ob]
    have S1 : Sq (rdw v U (L * p)) w := Sq_t Sq_2 (X88_Sq r8)
    obtain ⟨vr, hvr⟩ : ∃ vr, vr = rdw v U (L * p) := ⟨_, rfl⟩
    have er : vr.1 = v.1 := by rw [hvr]; rfl
    -- the reference on the class's last world
    have er94 : vr.1 94 = w.1 94 := by rw [er]; exact e94
    have H2 : RA w 3 (vr.1 94) c K := by rw [er94]; exact H
    obtain ⟨u', z1, z2, z3, z4⟩ := m_valueOf (w := vr) (q := n) H2 r3 (by rw [er94]; exact ⟨r4, r5⟩) (by rw [er94]; exact r6)
    sorry
end PF

/-! LAYER B: ways told, sites, moves -/
section Q5
variable {w v : jW} {A : Nat → Int32} {c ci : Nat → Nat} {K : Nat}

theorem Inv_of2 {w' : jW} {c' : Nat → Nat} {K' : Nat} (h : Inv w c ci K) (hKK : K ≤ K') (he : ∀ b, 38 ≤ b → b ≠ 94 → sc b = false → w'.1 b = w.1 b) (h93 : ∀ j, j = 4 ∨ j = 5 ∨ j = 6 → w'.1 93 j = w.1 93 j) (H : RA w' 3 (w'.1 94) c' K') : Inv w' c' ci K' := by
  obtain ⟨h1, h2, h3, h4⟩ := h
  have ns : ∀ b, (38 ≤ b ∧ b < 83) ∨ b = 95 ∨ b = 97 → w'.1 b = w.1 b := fun b hb => he b (by omega) (by omega) (by unfold sc; simp; omega)
  refine ⟨H, ?_, Rtp_fr h3 (fun b _ _ => ns b (by omega)) (h93 4 (by omega)) (ns 97 (by omega)), Rft_fr h4 (ns 73 (by omega)) (h93 5 (by omega)) (h93 6 (by omega))⟩
  rw [ns 95 (by omega)]
  exact RA_38 (RA_K h2 (Or.inr rfl) hKK (l_K H).2) (fun b _ _ => ns b (by omega))
theorem Cal_g {α : Type} {x : α} {C M : jW → Option (α × jW)} (h : Inv w c ci K) (hK : K < 512) (hC : C w = some (x, w)) (hM : ∃ v, M w = some (x, v) ∧ Sq v w) : Cal w (K + 1) C M := by
  obtain ⟨v, h1, h2⟩ := hM
  exact ⟨x, w, v, c, ci, hC, h1, Inv_K (Inv_sq h h2) (by omega) (by omega)⟩
theorem Wk_0 {nr i : Nat} : ∀ n y l, Wk A nr i n y l → n ≤ l := by
  intro n
  induction n with
  | zero => intro y l _; exact Nat.zero_le _
  | succ n ih =>
    rintro y l ⟨x, r, d, l', h1, h2, h3, h4, h5, h6, h7, h8⟩
    have := ih x l' h8
    omega
theorem Dis_self {nr i : Nat} {x : Int32} (h : Dis A nr i i x) : x = 0 := by
  rcases h with ⟨h1, h2⟩ | ⟨l, h1, h2, h3, h4⟩
  · exact absurd ⟨rfl, rfl⟩ (h2 0 0)
  · have := h4 0 0 ⟨rfl, rfl⟩
    rw [h1, show l = 0 by omega]; rfl
theorem Dis_pos {nr i j : Nat} {x : Int32} (h : Dis A nr i j x) (hij : j ≠ i) : x = -1 ∨ ∃ l, 1 ≤ l ∧ l ≤ 540 ∧ x = nI l := by
  rcases h with ⟨h1, h2⟩ | ⟨l, h1, h2, ⟨n, h3⟩, h4⟩
  · exact Or.inl h1
  · refine Or.inr ⟨l, ?_, h2, h1⟩
    cases n with
    | zero => exact absurd h3.1 hij
    | succ n => have := Wk_0 _ _ _ h3; omega
theorem Dis_un {nr i j : Nat} {x x' : Int32} (h : Dis A nr i j x) (h' : Dis A nr i j x') : x = x' := Dq_un (Dis_q.mp h) (Dis_q.mp h')
theorem Dis_far {nr ns i j : Nat} {x : Int32} (hr : Iroad A nr ns) (hns : ns ≤ 10) (hi : i < ns) (hj : ns ≤ j) (h : Dis A nr i j x) : x = -1 := by
  rcases h with ⟨h1, h2⟩ | ⟨l, h1, h2, ⟨n, h3⟩, h4⟩
  · exact h1
  · cases n with
    | zero => have := h3.1; omega
    | succ n => have := Wk_new hr hns n l h3; omega
theorem Wk_land {nr ns i : Nat} (hr : Iroad A nr ns) (hns : ns ≤ 10) (hi : i < 10) : ∀ n y l, Wk A nr i n y l → A (40 + 8 * y) = A (40 + 8 * i) := by
  intro n
  induction n with
  | zero => intro y l h; rw [h.1]
  | succ n ih =>
    rintro y l ⟨x, r, d, l', h1, h2, h3, h4, h5, h6, h7, h8⟩
    rw [← ih x l' h8]
    obtain ⟨x1, y1, d1, g1, g2, g3, g4, g5, g6, g7, g8, g9⟩ := hr r h1
    rcases h6.2 with ⟨q1, q2⟩ | ⟨q1, q2⟩
    · have e1 := (nI_eq (by omega) (by omega)).mp (g1.symm.trans q1)
      have e2 := (nI_eq (by omega) (by omega)).mp (g2.symm.trans q2)
      rw [← e1, ← e2]; exact g9.symm
    · have e1 := (nI_eq (by omega) (by omega)).mp (g1.symm.trans q1)
      have e2 := (nI_eq (by omega) (by omega)).mp (g2.symm.trans q2)
      rw [← e1, ← e2]; exact g9
theorem msc_land (H : RA w 3 A c K) {t : Nat} {d : Int32} (ht : t < c 3) : ∀ m k at_, k + m ≤ c 4 → (∀ p, p < c 1 → at_ = nI p → A (40 + 8 * p) = A (240 + 12 * t + 3)) → ∀ p, p < c 1 → msc A t d m k at_ = nI p → A (40 + 8 * p) = A (240 + 12 * t + 3) := by
  have l1 := l_1 H
  have l3 := l_3 H
  intro m
  induction m with
  | zero => intro k at_ _ h p hp e; exact h p hp e
  | succ m ih =>
    intro k at_ hk h p hp e
    rw [msc] at e
    refine ih (k + 1) _ (by omega) (fun p' hp' e' => ?_) p hp e
    by_cases q : A (720 + 8 * k) = nI t ∧ A (720 + 8 * k + 1) ≤ d
    · rw [if_pos q] at e'
      by_cases q2 : d < A (720 + 8 * k + 4)
      · rw [if_pos q2] at e'
        have := (nI_eq (a := 100) (by omega) (by omega)).mp e'
        omega
      · rw [if_neg q2] at e'
        obtain ⟨t1, x, y, d1, e1, h1, h2, h3, h4, h5, h6, h7, h8, h9, h10, h11, h12⟩ := p_Imove H k (by omega)
        have a1 := (nI_eq (by omega) (by omega)).mp (h1.symm.trans q.1)
        have a2 := (nI_eq (by omega) (by omega)).mp (h4.symm.trans e')
        subst a1; subst a2
        exact h12
    · rw [if_neg q] at e'
      exact h p' hp' e'
theorem mwh_land (H : RA w 3 A c K) {t p : Nat} {d : Int32} (ht : t < c 3) (e : mwh A (c 4) t d = nI p) (hp : p < c 1) : A (40 + 8 * p) = A (240 + 12 * t + 3) := by
  have l1 := l_1 H
  obtain ⟨sx, th1, th2, th3, -⟩ := (p_Ithing H).1 t ht
  rw [mwh] at e
  split at e
  · have := (nI_eq (a := 102) (by omega) (by omega)).mp e
    omega
  · split at e
    · have := (nI_eq (a := 101) (by omega) (by omega)).mp e
      omega
    · refine msc_land H ht (c 4) 0 _ (by omega) (fun p' hp' e' => ?_) p hp e
      have := (nI_eq (by omega) (by omega)).mp (th1.symm.trans e')
      subst this
      exact th3.symm
/-- what the class has as the way between any two -/
theorem c_way (H : RA w 3 A c K) (x y : Int32) : ∃ z, f_Rows_at 8 x y w = some (z, w) ∧ ((∃ i j, i < c 1 ∧ j < c 1 ∧ x = nI i ∧ y = nI j ∧ Dis A (c 2) i j z) ∨ (¬ ((¬ x < 0 ∧ x < nI (c 1)) ∧ (¬ y < 0 ∧ y < nI (c 1))) ∧ z = -1)) := by
  have l1 := l_1 H
  have J := (p_Rway H).1
  by_cases g1 : ¬ x < 0 ∧ x < nI (c 1)
  · obtain ⟨i, hi, rfl⟩ := rng (by omega) g1
    by_cases g2 : ¬ y < 0 ∧ y < nI 10
    · obtain ⟨j, hj, rfl⟩ := rng (by omega) g2
      have D := (p_Rway H).2 i j hi hj
      refine ⟨_, r_at J hi hj, ?_⟩
      by_cases g3 : j < c 1
      · exact Or.inl ⟨i, j, hi, g3, rfl, rfl, D⟩
      · refine Or.inr ⟨fun z => g3 ((nI_ltI (by omega) (by omega)).mp z.2.2), ?_⟩
        exact Dis_far (p_Iroad H) l1 hi (by omega) D
    · refine ⟨-1, r_at_col J (rng_n g2), Or.inr ⟨fun z => g2 ⟨z.2.1, Int32.lt_of_lt_of_le z.2.2 (nI_le (by omega) (by omega))⟩, rfl⟩⟩
  · exact ⟨-1, r_at_row J (rng_n g1), Or.inr ⟨fun z => g1 z.1, rfl⟩⟩
theorem q_way (h : Inv w c ci K) (hK : K < 512) (x y : Int32) : Cal w (K + 1) (f_Count_way x y) (f_Model_way x y) := by
  have H := h.1
  have l1 := l_1 H
  obtain ⟨z, e, hz⟩ := c_way H x y
  have eC : f_Count_way x y w = some (z, w) := by rw [f_Count_way, e, ob]
  rcases hz with ⟨i, j, hi, hj, rfl, rfl, D⟩ | ⟨hz, rfl⟩
  · obtain ⟨x, v, k1, k2, k3⟩ := m_wayOf H (i := i) (j := j) (by omega) (by omega)
    refine Cal_g (x := z) h hK eC ⟨v, ?_, X96_Sq k3⟩
    rw [f_Model_way, mi_site H, ob]
    dsimp only
    rw [b2_p (in_rng hi (by omega)), if_neg one_ne, mi_site H, ob]
    dsimp only
    rw [b2_p (in_rng hj (by omega)), if_neg one_ne, k1, ob, Dis_un k2 D]
  · refine Cal_f (x := -1) h hK eC ?_
    rw [f_Model_way, mi_site H, ob]
    dsimp only
    by_cases g1 : ¬ x < 0 ∧ x < nI (c 1)
    · rw [b2_p g1, if_neg one_ne, mi_site H, ob]
      dsimp only
      rw [b2_n (fun g => hz ⟨g1, g⟩), if_pos rfl]
    · rw [b2_n g1, if_pos rfl]

theorem Wq_cg {E E' : Nat → Nat → Nat → Prop} {i : Nat} (h : ∀ x y d, E x y d ↔ E' x y d) (n y l : Nat) : Wq E i n y l ↔ Wq E' i n y l := ⟨Wq_mono (fun x y d q => (h x y d).mp q) n y l, Wq_mono (fun x y d q => (h x y d).mpr q) n y l⟩
theorem Dq_cg {E E' : Nat → Nat → Nat → Prop} {i y : Nat} {x : Int32} (h : ∀ x y d, E x y d ↔ E' x y d) (g : Dq E i y x) : Dq E' i y x := by
  unfold Dq at *
  simp only [Wq_cg h] at g
  exact g

set_option maxHeartbeats 8000000 in
theorem q_road (h : Inv w c ci K) (hK : K < 512) (x : Int32) (y : Int32) (d : Int32) : Cal w (K + 1) (f_Count_road x y d) (f_Model_road x y d) := by
  have H := h.1
  have lK := l_K H
  have l0 := l_0 H
  have l1 := l_1 H
  have l2 := l_2 H
  have l3 := l_3 H
  have l4 := l_4 H
  have l5 := l_5 H
  have l6 := l_6 H
  have l7 := l_7 H
  have l8 := l_8 H
  have l9 := l_9 H
  have l10 := l_10 H
  have l11 := l_11 H
  have l12 := l_12 H
  have l13 := l_13 H
  by_cases t0 : ¬ x < 0 ∧ x < nI (c 1)
  rotate_left
  · refine Cal_f (x := -1) h hK ?_ ?_
    · rw [f_Count_road]
      rw [s_si H, ob]
      dsimp only
      rw [b2_n t0, if_pos rfl]
    · rw [f_Model_road]
      rw [mi_site H, ob]
      dsimp only
      rw [b2_n t0, if_pos rfl]
  obtain ⟨i, hi, rfl⟩ := rng (by omega) t0
  by_cases t1 : ¬ y < 0 ∧ y < nI (c 1)
  rotate_left
  · refine Cal_f (x := -1) h hK ?_ ?_
    · rw [f_Count_road]
      rw [s_si H, ob]
      dsimp only
      rw [b2_p t0, if_neg one_ne]
      rw [s_si H, ob]
      dsimp only
      rw [b2_n t1, if_pos rfl]
    · rw [f_Model_road]
      rw [mi_site H, ob]
      dsimp only
      rw [b2_p t0, if_neg one_ne]
      rw [mi_site H, ob]
      dsimp only
      rw [b2_n t1, if_pos rfl]
  obtain ⟨j, hj, rfl⟩ := rng (by omega) t1
  by_cases t2 : i = j
  · refine Cal_f (x := -1) h hK ?_ ?_
    · rw [f_Count_road]
      rw [s_si H, ob]
      dsimp only
      rw [b2_p t0, if_neg one_ne]
      rw [s_si H, ob]
      dsimp only
      rw [b2_p t1, if_neg one_ne]
      rw [if_pos (congrArg nI t2)]
    · rw [f_Model_road]
      rw [mi_site H, ob]
      dsimp only
      rw [b2_p t0, if_neg one_ne]
      rw [mi_site H, ob]
      dsimp only
      rw [b2_p t1, if_neg one_ne]
      rw [if_pos (congrArg nI t2)]
  by_cases t3 : d < 1
  · refine Cal_f (x := -1) h hK ?_ ?_
    · rw [f_Count_road]
      rw [s_si H, ob]
      dsimp only
      rw [b2_p t0, if_neg one_ne]
      rw [s_si H, ob]
      dsimp only
      rw [b2_p t1, if_neg one_ne]
      rw [if_neg (show ¬ nI i = nI j from fun z => t2 ((nI_eq (by omega) (by omega)).mp z))]
      rw [if_pos t3]
    · rw [f_Model_road]
      rw [mi_site H, ob]
      dsimp only
      rw [b2_p t0, if_neg one_ne]
      rw [mi_site H, ob]
      dsimp only
      rw [b2_p t1, if_neg one_ne]
      rw [if_neg (show ¬ nI i = nI j from fun z => t2 ((nI_eq (by omega) (by omega)).mp z))]
      rw [ms_0 (by omega), ob]
      dsimp only
      rw [ms_0 (by omega), ob]
      dsimp only
      by_cases z5 : w.1 94 (40 + 8 * i) = w.1 94 (40 + 8 * j)
      rotate_left
      · rw [if_neg z5]
      rw [if_pos z5]
      rw [m_isIn, ob]
      dsimp only
      rw [b2_n (fun z => z.1 t3), if_pos rfl]
  by_cases t4 : d ≤ 60
  rotate_left
  · refine Cal_f (x := -1) h hK ?_ ?_
    · rw [f_Count_road]
      rw [s_si H, ob]
      dsimp only
      rw [b2_p t0, if_neg one_ne]
      rw [s_si H, ob]
      dsimp only
      rw [b2_p t1, if_neg one_ne]
      rw [if_neg (show ¬ nI i = nI j from fun z => t2 ((nI_eq (by omega) (by omega)).mp z))]
      rw [if_neg t3]
      rw [if_neg t4]
    · rw [f_Model_road]
      rw [mi_site H, ob]
      dsimp only
      rw [b2_p t0, if_neg one_ne]
      rw [mi_site H, ob]
      dsimp only
      rw [b2_p t1, if_neg one_ne]
      rw [if_neg (show ¬ nI i = nI j from fun z => t2 ((nI_eq (by omega) (by omega)).mp z))]
      rw [ms_0 (by omega), ob]
      dsimp only
      rw [ms_0 (by omega), ob]
      dsimp only
      by_cases z5 : w.1 94 (40 + 8 * i) = w.1 94 (40 + 8 * j)
      rotate_left
      · rw [if_neg z5]
      rw [if_pos z5]
      rw [m_isIn, ob]
      dsimp only
      
      rw [b2_n (fun z => t4 z.2), if_pos rfl]
  obtain ⟨dn, hd2, rfl⟩ := rngle (x := d) (n := 60) (by omega) ⟨fun z => t3 (Int32.lt_of_lt_of_le z (by decide)), t4⟩
  have hd1 : 1 ≤ dn := by
    have := t3
    rw [show (1 : Int32) = nI 1 from rfl, ii_lt (by omega) (by omega)] at this
    omega
  by_cases t5 : w.1 94 (40 + 8 * i) = w.1 94 (40 + 8 * j)
  rotate_left
  · refine Cal_f (x := -1) h hK ?_ ?_
    · rw [f_Count_road]
      rw [s_si H, ob]
      dsimp only
      rw [b2_p t0, if_neg one_ne]
      rw [s_si H, ob]
      dsimp only
      rw [b2_p t1, if_neg one_ne]
      rw [if_neg (show ¬ nI i = nI j from fun z => t2 ((nI_eq (by omega) (by omega)).mp z))]
      rw [if_neg t3]
      rw [if_pos t4]
      rw [a_si0 H hi, ob]
      dsimp only
      rw [a_si0 H hj, ob]
      dsimp only
      rw [if_neg t5]
    · rw [f_Model_road]
      rw [mi_site H, ob]
      dsimp only
      rw [b2_p t0, if_neg one_ne]
      rw [mi_site H, ob]
      dsimp only
      rw [b2_p t1, if_neg one_ne]
      rw [if_neg (show ¬ nI i = nI j from fun z => t2 ((nI_eq (by omega) (by omega)).mp z))]
      rw [ms_0 (by omega), ob]
      dsimp only
      rw [ms_0 (by omega), ob]
      dsimp only
      rw [if_neg t5]
  by_cases t6 : c 2 = 30
  · refine Cal_f (x := -1) h hK ?_ ?_
    · rw [f_Count_road]
      rw [s_si H, ob]
      dsimp only
      rw [b2_p t0, if_neg one_ne]
      rw [s_si H, ob]
      dsimp only
      rw [b2_p t1, if_neg one_ne]
      rw [if_neg (show ¬ nI i = nI j from fun z => t2 ((nI_eq (by omega) (by omega)).mp z))]
      rw [if_neg t3]
      rw [if_pos t4]
      rw [a_si0 H hi, ob]
      dsimp only
      rw [a_si0 H hj, ob]
      dsimp only
      rw [if_pos t5]
      rw [(p_Rscal H).2.2.2.2, h_2 H]
      rw [if_neg (show ¬ nI (c 2) < 30 by rw [t6]; decide)]
    · rw [f_Model_road]
      rw [mi_site H, ob]
      dsimp only
      rw [b2_p t0, if_neg one_ne]
      rw [mi_site H, ob]
      dsimp only
      rw [b2_p t1, if_neg one_ne]
      rw [if_neg (show ¬ nI i = nI j from fun z => t2 ((nI_eq (by omega) (by omega)).mp z))]
      rw [ms_0 (by omega), ob]
      dsimp only
      rw [ms_0 (by omega), ob]
      dsimp only
      rw [if_pos t5]
      rw [m_isIn, ob]
      dsimp only
      
      rw [b2_p ⟨t3, t4⟩, if_neg one_ne]
      rw [if_pos (by decide), jk_2, h_2 H]
      rw [if_pos (show nI (c 2) = 30 by rw [t6]; rfl)]
  obtain ⟨u, e1, a1, a2⟩ := c_shortenWays H (a := i) (b := j) (d := dn) t2 hi hj hd1 hd2
  obtain ⟨v2, hv2⟩ : ∃ v : jW, v = (jup u.1 3 4 (nI (c 2 + 1)), u.2) := ⟨_, rfl⟩
  have e34 : u.1 3 4 = nI (c 2) := by rw [a1 3 (by omega), (p_Rscal H).2.2.2.2]; exact h_2 H
  have eC : f_Count_road (nI i) (nI j) (nI dn) w = some (nI (c 2), v2) := by
    rw [f_Count_road, s_si H, ob]
    dsimp only
    rw [b2_p t0, if_neg one_ne, s_si H, ob]
    dsimp only
    rw [b2_p t1, if_neg one_ne, if_neg (show ¬ nI i = nI j from fun z => t2 ((nI_eq (by omega) (by omega)).mp z)), if_neg t3, if_pos t4, a_si0 H hi, ob]
    dsimp only
    rw [a_si0 H hj, ob]
    dsimp only
    rw [if_pos t5, (p_Rscal H).2.2.2.2, h_2 H, if_pos (show nI (c 2) < 30 from nI_lt (b := 30) (by omega) (by omega)), e1, ob]
    dsimp only [jlw]
    rw [e34, ip_1, hv2, jup_eq, nI_pred]
  have e94 : v2.1 94 = w.1 94 := by rw [hv2]; dsimp only; rw [jup_fn (by omega)]; exact a1 94 (by omega)
  have H' : RA w 3 (v2.1 94) c K := by rw [e94]; exact H
  obtain ⟨W, hW⟩ : ∃ W : jW, W = ((jup (jup (jup (jup v2.1 94 (120 + 4 * c 2) (nI i)) 94 (120 + 4 * c 2 + 1) (nI j)) 94 (120 + 4 * c 2 + 2) (nI dn)) 94 (2) (nI (c 2 + 1))), v2.2) := ⟨_, rfl⟩
  have f94 : ∀ b, b ≠ 94 → W.1 b = v2.1 b := fun b hb => by rw [hW]; dsimp only; rw [jup_fn hb, jup_fn hb, jup_fn hb, jup_fn hb]
  have g0 : W.1 94 (120 + 4 * c 2) = nI i := by rw [hW]; simp (disch := omega) only [jup_k, jup_eq]
  have g1 : W.1 94 (120 + 4 * c 2 + 1) = nI j := by rw [hW]; simp (disch := omega) only [jup_k, jup_eq]
  have g2 : W.1 94 (120 + 4 * c 2 + 2) = nI dn := by rw [hW]; simp (disch := omega) only [jup_k, jup_eq]
  have g3 : W.1 94 (2) = nI (c 2 + 1) := by rw [hW]; simp (disch := omega) only [jup_k, jup_eq]
  have eM : f_Model_road (nI i) (nI j) (nI dn) v2 = some (nI (c 2), W) := by
    rw [hW]
    rw [f_Model_road, mi_site H', ob]
    dsimp only
    rw [b2_p t0, if_neg one_ne, mi_site H', ob]
    dsimp only
    rw [b2_p t1, if_neg one_ne, if_neg (show ¬ nI i = nI j from fun z => t2 ((nI_eq (by omega) (by omega)).mp z)), ms_0 (by omega), ob]
    dsimp only
    rw [ms_0 (by omega), ob]
    dsimp only
    rw [e94, if_pos t5, m_isIn, ob]
    dsimp only
    rw [b2_p ⟨t3, t4⟩, if_neg one_ne, if_pos (by decide), jk_2, e94, h_2 H, if_neg (show ¬ nI (c 2) = 30 from fun z => t6 ((nI_eq (b := 30) (by omega) (by omega)).mp z))]
    simp (disch := omega) only [↓jlw_e, ↓reduceIte, ia_1, ia_2, ia_3, ia_4, ia_5, ia_6, ia_7, ia_8, ia_9, ia_20, ia_40, ia_120, ia_140, ia_240, ia_720, ia_1520, ia_1680, ia_9680, ia_11280, ia_12480, ia_12880, ia_13080, ia_20760, ia_20880, ip_0, ip_1, ip_2, ip_3, ip_4, ip_5, ip_6, ip_7, ip_8, ip_9, ip_140, im_2, im_4, im_8, im_12, im_800, nI_clamp, jin_nI, jal_c, jal_n, Bool.and_true, if_true, ob, jlw_e, jk_0, jk_1, jk_2, jk_3, jk_4, jk_5, jk_6, jk_7, jk_8, jk_9, jk_10, jk_11, jk_12, jk_13, jk_14, jk_15, jk_16, jk_17, jk_18, jk_19, jg_0, jg_1, jg_2, jg_3, jg_4, jg_5, jg_6, jg_7, jg_8, jg_9, jg_10, jg_11, jg_12, jg_13, jg_14, jg_15, jg_16, jg_17, jg_18, jg_19, e94, h_2 H, nI_pred, jup_eq, jup_k, jup_ne]
  have fA : ∀ k, k < 21000 → ¬ (k = 2 ∨ k = 120 + 4 * c 2 ∨ k = 120 + 4 * c 2 + 1 ∨ k = 120 + 4 * c 2 + 2) → W.1 94 k = w.1 94 k := fun k _ hE => by rw [hW]; dsimp only; rw [jup_k (by omega), jup_k (by omega), jup_k (by omega), jup_k (by omega), e94]
  have hw : ∀ b j, 3 ≤ b → b < 38 → ¬ (b = 3 ∧ j = 4 ∨ b = 9) → W.1 b j = w.1 b j := fun b k q1 q2 q3 => by
    rw [f94 b (by omega), hv2]; dsimp only; rw [jup_ap, if_neg (by omega), a1 b (by omega)]
  have wv : ∀ x y, x < c 1 → y < 10 → Dis (W.1 94) (c 2 + 1) x y (W.1 9 (x * 10 + y)) := fun x y hx hy => by
    rw [f94 9 (by omega), hv2]
    dsimp only
    rw [jup_fn (by omega)]
    refine Dis_q.mpr (Dq_cg (fun a b e => ?_) (a2 x y hx hy))
    constructor
    · rintro (⟨r, k1, k2, k3, k4, k5, k6⟩ | ⟨k1, rfl⟩)
      · refine ⟨r, by omega, k2, k3, k4, k5, ?_⟩
        unfold jnd
        rw [fA _ (by omega) (by omega), fA _ (by omega) (by omega), fA _ (by omega) (by omega)]
        exact k6
      · refine ⟨c 2, by omega, by omega, by omega, hd1, hd2, g2, ?_⟩
        rcases k1 with ⟨rfl, rfl⟩ | ⟨rfl, rfl⟩
        · exact Or.inl ⟨g0, g1⟩
        · exact Or.inr ⟨g0, g1⟩
    · rintro ⟨r, k1, k2, k3, k4, k5, k6⟩
      by_cases q : r < c 2
      · refine Or.inl ⟨r, q, k2, k3, k4, k5, ?_⟩
        unfold jnd at k6 ⊢
        rw [fA _ (by omega) (by omega), fA _ (by omega) (by omega), fA _ (by omega) (by omega)] at k6
        exact k6
      · have er : r = c 2 := by omega
        subst er
        obtain ⟨k7, k8⟩ := k6
        refine Or.inr ⟨?_, (nI_eq (by omega) (by omega)).mp (k7.symm.trans g2)⟩
        rcases k8 with ⟨k8, k9⟩ | ⟨k8, k9⟩
        · exact Or.inl ⟨(nI_eq (by omega) (by omega)).mp (k8.symm.trans g0), (nI_eq (by omega) (by omega)).mp (k9.symm.trans g1)⟩
        · exact Or.inr ⟨(nI_eq (by omega) (by omega)).mp (k9.symm.trans g1), (nI_eq (by omega) (by omega)).mp (k8.symm.trans g0)⟩
  have HR := P_road H hi hj t2 hd1 hd2 t5 (by omega) g3 g0 g1 g2 (by rw [f94 3 (by omega), hv2]; dsimp only; exact jup_eq) wv hw fA
  exact ⟨_, v2, W, _, ci, eC, eM, Inv_K (Inv_of h (Nat.le_refl _) (fun b q1 q2 => by rw [f94 b q2, hv2]; dsimp only; rw [jup_fn (by omega), a1 b (by omega)]) HR) (by omega) (by omega)⟩

set_option maxHeartbeats 8000000 in
theorem q_move (h : Inv w c ci K) (hK : K < 512) (x y : Int32) : Cal w (K + 1) (f_Count_move x y) (f_Model_move x y) := by
  have H := h.1
  have lK := l_K H
  have l0 := l_0 H
  have l1 := l_1 H
  have l2 := l_2 H
  have l3 := l_3 H
  have l4 := l_4 H
  have l5 := l_5 H
  have l6 := l_6 H
  have l7 := l_7 H
  have l8 := l_8 H
  have l9 := l_9 H
  have l10 := l_10 H
  have l11 := l_11 H
  have l12 := l_12 H
  have l13 := l_13 H
  by_cases t0 : ¬ x < 0 ∧ x < nI (c 3)
  rotate_left
  · refine Cal_f (x := -1) h hK ?_ ?_
    · rw [f_Count_move, s_th H, ob]
      dsimp only
      rw [b2_n t0, if_pos rfl]
    · rw [f_Model_move, mi_thing H, ob]
      dsimp only
      rw [b2_n t0, if_pos rfl]
  obtain ⟨t, ht, rfl⟩ := rng (by omega) t0
  obtain ⟨sx, th1, th2, th3, th4, th5, th6, hla, th8, th9, th10⟩ := (p_Ithing H).1 t ht
  obtain ⟨p, hp, hp2⟩ := mwh_c (d := nI (c 0)) H ht
  obtain ⟨zw, ew, hzw⟩ := c_way H (nI p) y
  have cf : c 4 = 100 ∨ zw < 1 ∨ ¬ nI (c 0) + zw ≤ 1999 → f_Count_move (nI t) y w = some (-1, w) := fun q => by
    rw [f_Count_move, s_th H, ob]
    dsimp only
    rw [b2_p t0, if_neg one_ne, u_mv H, ob]
    dsimp only
    by_cases z : c 4 = 100
    · rw [b2_p z, if_neg one_ne]
    · rw [b2_n z, if_pos rfl, rs_0 H, c_pl H ht, ob]
      dsimp only
      rw [hp, ew, ob]
      dsimp only
      by_cases z1 : zw < 1
      · rw [if_pos z1]
      · rw [if_neg z1, rs_0 H, if_neg ((q.resolve_left z).resolve_left z1)]
  by_cases t1 : ¬ y < 0 ∧ y < nI (c 1)
  rotate_left
  · have hz : zw = -1 := by
      rcases hzw with ⟨i, j, hi, hj, e1, e2, D⟩ | ⟨-, e⟩
      · exact absurd (e2 ▸ in_rng hj (by omega)) t1
      · exact e
    refine Cal_f (x := -1) h hK (cf (Or.inr (Or.inl (by rw [hz]; decide)))) ?_
    rw [f_Model_move, mi_thing H, ob]
    dsimp only
    rw [b2_p t0, if_neg one_ne, mi_site H, ob]
    dsimp only
    rw [b2_n t1, if_pos rfl]
  obtain ⟨s, hs, rfl⟩ := rng (by omega) t1
  by_cases t2 : c 4 = 100
  · refine Cal_f (x := -1) h hK (cf (Or.inl t2)) ?_
    rw [f_Model_move, mi_thing H, ob]
    dsimp only
    rw [b2_p t0, if_neg one_ne, mi_site H, ob]
    dsimp only
    rw [b2_p t1, if_neg one_ne, if_pos (by decide), jk_4, h_4 H, if_pos (show nI (c 4) = 100 by rw [t2]; rfl)]
  have n4 : ¬ nI (c 4) = 100 := fun z => t2 ((nI_eq (b := 100) (by omega) (by omega)).mp z)
  by_cases t3 : p < c 1
  rotate_left
  · have hz : zw = -1 := by
      rcases hzw with ⟨i, j, hi, hj, e1, e2, D⟩ | ⟨-, e⟩
      · have := (nI_eq (by omega) (by omega)).mp e1
        omega
      · exact e
    clear hzw
    refine Cal_f (x := -1) h hK (cf (Or.inr (Or.inl (by rw [hz]; decide)))) ?_
    rw [f_Model_move, mi_thing H, ob]
    dsimp only
    rw [b2_p t0, if_neg one_ne, mi_site H, ob]
    dsimp only
    rw [b2_p t1, if_neg one_ne, if_pos (by decide), jk_4, h_4 H, if_neg n4, if_pos (by decide), jk_0, h_0 H, m_pl H ht, ob]
    dsimp only
    rw [hp, if_neg (show ¬ nI p < 100 from nI_nlt (a := p) (b := 100) (by omega) (by omega))]
  have D : Dis (w.1 94) (c 2) p s zw := by
    rcases hzw with ⟨i, j, hi, hj, e1, e2, D⟩ | ⟨q, -⟩
    · have e3 := (nI_eq (by omega) (by omega)).mp e1
      have e4 := (nI_eq (by omega) (by omega)).mp e2
      rw [e3, e4]; exact D
    · exact absurd ⟨in_rng t3 (by omega), in_rng hs (by omega)⟩ q
  have mp : f_Model_move (nI t) (nI s) w = _ := rfl
  have p100 : nI p < 100 := nI_lt (b := 100) (by omega) (by omega)
  by_cases t4 : p = s
  · have hz : zw = 0 := Dis_self (t4 ▸ D)
    refine Cal_f (x := -1) h hK (cf (Or.inr (Or.inl (by rw [hz]; decide)))) ?_
    rw [f_Model_move, mi_thing H, ob]
    dsimp only
    rw [b2_p t0, if_neg one_ne, mi_site H, ob]
    dsimp only
    rw [b2_p t1, if_neg one_ne, if_pos (by decide), jk_4, h_4 H, if_neg n4, if_pos (by decide), jk_0, h_0 H, m_pl H ht, ob]
    dsimp only
    rw [hp, if_pos p100, if_pos (congrArg nI t4)]
  have mf : (zw < 0 ∨ ¬ nI (c 0) + zw ≤ 1999) → ∃ v, f_Model_move (nI t) (nI s) w = some (-1, v) ∧ Sq v w := fun q => by
    obtain ⟨xw, u, kw1, kw2, kw3⟩ := m_wayOf (w := w) H (i := p) (j := s) (by omega) (by omega)
    have exw : xw = zw := Dis_un kw2 D
    refine ⟨u, ?_, X96_Sq kw3⟩
    rw [f_Model_move, mi_thing H, ob]
    dsimp only
    rw [b2_p t0, if_neg one_ne, mi_site H, ob]
    dsimp only
    rw [b2_p t1, if_neg one_ne, if_pos (by decide), jk_4, h_4 H, if_neg n4, if_pos (by decide), jk_0, h_0 H, m_pl H ht, ob]
    dsimp only
    rw [hp, if_pos p100, if_neg (show ¬ nI p = nI s from fun z => t4 ((nI_eq (by omega) (by omega)).mp z)), kw1, ob]
    dsimp only
    rw [exw]
    by_cases z : zw < 0
    · rw [if_pos z]
    · rw [if_neg z, if_pos (by decide), kw3 94 (by omega), h_0 H, if_neg (q.resolve_left z)]
  rcases Dis_pos D (Ne.symm t4) with hz | ⟨l, t6, t7, hl⟩
  · exact Cal_g (x := -1) h hK (cf (Or.inr (Or.inl (by rw [hz]; decide)))) (mf (Or.inl (by rw [hz]; decide)))
  have hl1 : ¬ nI l < 1 := nI_nlt (a := l) (b := 1) (by omega) (by omega)
  have e1999 : (nI (c 0) + zw ≤ 1999) = (c 0 + l ≤ 1999) := by rw [hl, nI_add]; exact ii_le (b := 1999) (by omega) (by omega)
  by_cases t8 : c 0 + l ≤ 1999
  rotate_left
  · exact Cal_g (x := -1) h hK (cf (Or.inr (Or.inr (by rw [e1999]; exact t8)))) (mf (Or.inr (by rw [e1999]; exact t8)))
  have hl2 : nI (c 0 + l) ≤ 1999 := nI_le (b := 1999) t8 (by omega)
  rw [hl] at ew
  have hpc := t3
  have hln : c 0 + l ≤ 1999 := t8
  have D' := D
  obtain ⟨nt, nm, rc1, rc2, rc3, rc4, rc5, rc6⟩ := p_Rchain H
  have rce3 : nt = c 3 := (nI_eq (by omega) (by omega)).mp (rc1.symm.trans (h_3 H))
  have rce4 : nm = c 4 := (nI_eq (by omega) (by omega)).mp (rc2.symm.trans (h_4 H))
  subst rce3; subst rce4
  obtain ⟨rc7, rc8⟩ := rc5 t ht
  obtain ⟨u1, eo, ao, Jo⟩ := ap_open (j_mv H) (by omega) (nI t)
  obtain ⟨u2, ep1, ap1, Jp1⟩ := ap_put ao Jo (j := 1) (by omega) (y := 1) rfl (nI p)
  obtain ⟨u3, ep2, ap2, Jp2⟩ := ap_put ap1 Jp1 (j := 2) (by omega) (y := 2) rfl (nI s)
  have z1 : u3.1 3 0 = nI (c 0) := (ap2.2.2 3 0 (by omega)).trans (rs_0 H)
  obtain ⟨u4, ep3, ap3, Jp3⟩ := ap_put ap2 Jp2 (j := 3) (by omega) (y := 3) rfl (nI (c 0))
  have z2 : u4.1 3 0 = nI (c 0) := (ap3.2.2 3 0 (by omega)).trans (rs_0 H)
  obtain ⟨u5, ep4, ap4, Jp4⟩ := ap_put ap3 Jp3 (j := 4) (by omega) (y := 4) rfl (nI (c 0 + l))
  have J5 : JR u5 10 11 40 (c 3) := JR_eq (j_th H) (Ap_fn ap4 (by omega) (by omega))
  have c11 : u5.1 11 = w.1 11 := Ap_fn ap4 (by omega) (by omega)
  have r8 : f_Rows_at 10 (nI t) 8 u5 = some (lmv (w.1 94) t (c 4), u5) := by
    have := r_at J5 ht (j := 8) (by omega)
    rw [c11] at this
    exact this.trans (congrArg (fun z => some (z, u5)) rc7)
  obtain ⟨u6, ep5, ap5, Jp5⟩ := ap_put ap4 Jp4 (j := 5) (by omega) (y := 5) rfl (lmv (w.1 94) t (c 4))
  have J6 : JR u6 10 11 40 (c 3) := JR_eq (j_th H) (Ap_fn ap5 (by omega) (by omega))
  have c11' : u6.1 11 = w.1 11 := Ap_fn ap5 (by omega) (by omega)
  obtain ⟨u7, hu7⟩ : ∃ v : jW, v = (jup u6.1 11 (t * 11 + 8) (nI (c 4)), u6.2) := ⟨_, rfl⟩
  have ep6 : f_Rows_put 10 (nI t) 8 (nI (c 4)) u6 = some u7 := by rw [hu7]; exact r_put (j := 8) J6 ht (by omega) _
  have J7 : JR u7 10 11 40 (c 3) := JR_eq J6 (by rw [hu7]; dsimp only; rw [jup_fn (by omega)])
  have r6 : f_Rows_at 10 (nI t) 6 u7 = some (nI (cmv (w.1 94) t (c 4)), u7) := by
    have := r_at J7 ht (j := 6) (by omega)
    rw [hu7] at this ⊢
    dsimp only at this
    rw [jup_k (by omega), c11'] at this
    exact this.trans (congrArg (fun z => some (z, _)) rc8)
  obtain ⟨v2, hv2'⟩ : ∃ v : jW, v = (jup u7.1 11 (t * 11 + 6) (nI (cmv (w.1 94) t (c 4) + 1)), u7.2) := ⟨_, rfl⟩
  have ep7 : f_Rows_put 10 (nI t) 6 (nI (cmv (w.1 94) t (c 4) + 1)) u7 = some v2 := by rw [hv2']; exact r_put (j := 6) J7 ht (by omega) _
  have J8 : JR v2 10 11 40 (c 3) := JR_eq J7 (by rw [hv2']; dsimp only; rw [jup_fn (by omega)])
  have hv2b : ∀ b j, ¬ (b = 11 ∧ (j = t * 11 + 8 ∨ j = t * 11 + 6)) → v2.1 b j = u6.1 b j := fun b j q => by
    rw [hv2']; dsimp only; rw [jup_ap, if_neg (by omega), hu7]; dsimp only; rw [jup_ap, if_neg (by omega)]
  have r3 : f_Rows_at 10 (nI t) 3 v2 = some (w.1 94 (240 + 12 * t + 3), v2) := by
    have a := a_th3 H ht
    have b := r_at (j_th H) ht (j := 3) (by omega)
    have e := congrArg Prod.fst (Option.some.inj (b.symm.trans a))
    dsimp only at e
    have := r_at J8 ht (j := 3) (by omega)
    rw [hv2b 11 (t * 11 + 3) (by omega), c11', e] at this
    exact this
  have fr : ∀ b j, b ≠ 10 ∧ b ≠ 11 ∧ b ≠ 12 ∧ b ≠ 13 → v2.1 b j = w.1 b j := fun b j q => (hv2b b j (by omega)).trans (ap5.2.2 b j (by omega))
  have JA : JR v2 32 5 512 (c 11) := JR_eq (j_ac H) (funext fun j => fr 32 j (by omega))
  have z0 : v2.1 3 0 = nI (c 0) := (fr 3 0 (by omega)).trans (rs_0 H)
  obtain ⟨v3, e3, a3⟩ := c_act JA (by omega) z0 1 (w.1 94 (240 + 12 * t + 3)) (nI t) (nI (c 4))
  have eC : f_Count_move (nI t) (nI s) w = some (nI (c 4), v3) := by
    rw [f_Count_move, s_th H, ob]
    try dsimp only
    rw [b2_p t0, if_neg one_ne, u_mv H, ob]
    try dsimp only
    rw [b2_n t2, if_pos rfl, rs_0 H, c_pl H ht, ob]
    try dsimp only
    rw [hp, ew, ob]
    try dsimp only
    rw [rs_0 H, if_neg hl1, nI_add, if_pos hl2, eo, ob]
    try dsimp only
    rw [ep1, ob]
    try dsimp only
    rw [ep2, ob]
    try dsimp only
    rw [z1, ep3, ob]
    try dsimp only
    rw [z2, nI_add, ep4, ob]
    try dsimp only
    rw [r8, ob]
    try dsimp only
    rw [ep5, ob]
    try dsimp only
    rw [ep6, ob]
    try dsimp only
    rw [r6, ob]
    try dsimp only
    rw [ip_1, ep7, ob]
    try dsimp only
    rw [r3, ob]
    try dsimp only
    rw [e3, ob]
    try dsimp only
  have e94 : v3.1 94 = w.1 94 := (Ap_fn a3 (by omega) (by omega)).trans (funext fun j => fr 94 j (by omega))
  have H' : RA w 3 (v3.1 94) c K := by rw [e94]; exact H
  obtain ⟨xw, u3', kw1, kw2, kw3⟩ := m_wayOf (w := v3) H' (i := p) (j := s) (by omega) (by omega)
  rw [e94] at kw2
  have exw : xw = nI l := (Dis_un kw2 D).trans hl
  have e94' : u3'.1 94 = w.1 94 := (kw3 94 (by omega)).trans e94
  obtain ⟨W, hW⟩ : ∃ W : jW, W = ((jup (jup (jup (jup (jup (jup (jup (jup (jup (jup (jup (jup u3'.1 94 (720 + 8 * c 4) (nI t)) 94 (720 + 8 * c 4 + 1) (nI (c 0))) 94 (720 + 8 * c 4 + 2) (nI p)) 94 (720 + 8 * c 4 + 3) (nI s)) 94 (720 + 8 * c 4 + 4) (nI (c 0 + l))) 94 (13080 + 8 * c 11) (1)) 94 (13080 + 8 * c 11 + 1) (nI (c 0))) 94 (13080 + 8 * c 11 + 2) (w.1 94 (240 + 12 * t + 3))) 94 (13080 + 8 * c 11 + 3) (nI (c 4))) 94 (13080 + 8 * c 11 + 4) (0)) 94 (11) (nI (c 11 + 1))) 94 (4) (nI (c 4 + 1))), u3'.2) := ⟨_, rfl⟩
  have f94 : ∀ b, b ≠ 94 → W.1 b = u3'.1 b := fun b hb => by rw [hW]; dsimp only; rw [jup_fn hb, jup_fn hb, jup_fn hb, jup_fn hb, jup_fn hb, jup_fn hb, jup_fn hb, jup_fn hb, jup_fn hb, jup_fn hb, jup_fn hb, jup_fn hb]
  have g0 : W.1 94 (720 + 8 * c 4) = nI t := by rw [hW]; simp (disch := omega) only [jup_k, jup_eq]
  have g1 : W.1 94 (720 + 8 * c 4 + 1) = nI (c 0) := by rw [hW]; simp (disch := omega) only [jup_k, jup_eq]
  have g2 : W.1 94 (720 + 8 * c 4 + 2) = nI p := by rw [hW]; simp (disch := omega) only [jup_k, jup_eq]
  have g3 : W.1 94 (720 + 8 * c 4 + 3) = nI s := by rw [hW]; simp (disch := omega) only [jup_k, jup_eq]
  have g4 : W.1 94 (720 + 8 * c 4 + 4) = nI (c 0 + l) := by rw [hW]; simp (disch := omega) only [jup_k, jup_eq]
  have g5 : W.1 94 (13080 + 8 * c 11) = 1 := by rw [hW]; simp (disch := omega) only [jup_k, jup_eq]
  have g6 : W.1 94 (13080 + 8 * c 11 + 1) = nI (c 0) := by rw [hW]; simp (disch := omega) only [jup_k, jup_eq]
  have g7 : W.1 94 (13080 + 8 * c 11 + 2) = w.1 94 (240 + 12 * t + 3) := by rw [hW]; simp (disch := omega) only [jup_k, jup_eq]
  have g8 : W.1 94 (13080 + 8 * c 11 + 3) = nI (c 4) := by rw [hW]; simp (disch := omega) only [jup_k, jup_eq]
  have g9 : W.1 94 (13080 + 8 * c 11 + 4) = 0 := by rw [hW]; simp (disch := omega) only [jup_k, jup_eq]
  have g10 : W.1 94 (11) = nI (c 11 + 1) := by rw [hW]; simp (disch := omega) only [jup_k, jup_eq]
  have g11 : W.1 94 (4) = nI (c 4 + 1) := by rw [hW]; simp (disch := omega) only [jup_k, jup_eq]
  have eN : f_Model_noted 1 (w.1 94 (240 + 12 * t + 3)) (nI (c 4)) (0) ((jup (jup (jup (jup (jup u3'.1 94 (720 + 8 * c 4) (nI t)) 94 (720 + 8 * c 4 + 1) (nI (c 0))) 94 (720 + 8 * c 4 + 2) (nI p)) 94 (720 + 8 * c 4 + 3) (nI s)) 94 (720 + 8 * c 4 + 4) (nI (c 0 + l))), u3'.2) = some (ntw ((jup (jup (jup (jup (jup u3'.1 94 (720 + 8 * c 4) (nI t)) 94 (720 + 8 * c 4 + 1) (nI (c 0))) 94 (720 + 8 * c 4 + 2) (nI p)) 94 (720 + 8 * c 4 + 3) (nI s)) 94 (720 + 8 * c 4 + 4) (nI (c 0 + l))), u3'.2) (c 11) (nI (c 0)) 1 (w.1 94 (240 + 12 * t + 3)) (nI (c 4)) (0)) := m_noted (by simp (disch := omega) only [jup_k, jup_eq, e94', h_11 H]) (by omega) (by simp (disch := omega) only [jup_k, jup_eq, e94', h_0 H]) _ _ _ _
  have eM : f_Model_move (nI t) (nI s) v3 = some (nI (c 4), W) := by
    rw [hW]
    rw [f_Model_move, mi_thing H', ob]
    dsimp only
    rw [b2_p t0, if_neg one_ne, mi_site H', ob]
    dsimp only
    rw [b2_p t1, if_neg one_ne, if_pos (by decide), jk_4, e94, h_4 H, if_neg (show ¬ nI (c 4) = 100 from fun z => t2 ((nI_eq (b := 100) (by omega) (by omega)).mp z)), if_pos (by decide), jk_0, h_0 H, m_pl H' ht, ob]
    dsimp only
    rw [e94, hp, if_pos (show nI p < 100 from nI_lt (b := 100) (by omega) (by omega)), if_neg (show ¬ nI p = nI s from fun z => t4 ((nI_eq (by omega) (by omega)).mp z)), kw1, ob]
    dsimp only
    rw [exw, if_neg (nI_pos (by omega)), if_pos (by decide), e94', h_0 H, nI_add, if_pos hl2]
    simp (disch := omega) only [↓jlw_e, ↓reduceIte, ia_1, ia_2, ia_3, ia_4, ia_5, ia_6, ia_7, ia_8, ia_9, ia_20, ia_40, ia_120, ia_140, ia_240, ia_720, ia_1520, ia_1680, ia_9680, ia_11280, ia_12480, ia_12880, ia_13080, ia_20760, ia_20880, ip_0, ip_1, ip_2, ip_3, ip_4, ip_5, ip_6, ip_7, ip_8, ip_9, ip_140, im_2, im_4, im_8, im_12, im_800, nI_clamp, jin_nI, jal_c, jal_n, Bool.and_true, if_true, ob, jlw_e, jk_0, jk_1, jk_2, jk_3, jk_4, jk_5, jk_6, jk_7, jk_8, jk_9, jk_10, jk_11, jk_12, jk_13, jk_14, jk_15, jk_16, jk_17, jk_18, jk_19, jg_0, jg_1, jg_2, jg_3, jg_4, jg_5, jg_6, jg_7, jg_8, jg_9, jg_10, jg_11, jg_12, jg_13, jg_14, jg_15, jg_16, jg_17, jg_18, jg_19, mt_3, e94', h_4 H, h_0 H, h_11 H, nI_add, nI_pred, jup_eq, jup_k, jup_ne, ob, eN, ntw]
  obtain ⟨B, hB⟩ : ∃ B : Nat → Int32, B = fun k => if k = 11 ∨ k = 13080 + 8 * c 11 ∨ k = 13080 + 8 * c 11 + 1 ∨ k = 13080 + 8 * c 11 + 2 ∨ k = 13080 + 8 * c 11 + 3 ∨ k = 13080 + 8 * c 11 + 4 then w.1 94 k else W.1 94 k := ⟨_, rfl⟩
  have b1 : ∀ k, ¬ (k = 11 ∨ k = 13080 + 8 * c 11 ∨ k = 13080 + 8 * c 11 + 1 ∨ k = 13080 + 8 * c 11 + 2 ∨ k = 13080 + 8 * c 11 + 3 ∨ k = 13080 + 8 * c 11 + 4) → B k = W.1 94 k := fun k q => by rw [hB]; exact if_neg q
  have fB : ∀ k, k < 21000 → ¬ (k = 4 ∨ k = 720 + 8 * c 4 ∨ k = 720 + 8 * c 4 + 1 ∨ k = 720 + 8 * c 4 + 2 ∨ k = 720 + 8 * c 4 + 3 ∨ k = 720 + 8 * c 4 + 4) → B k = w.1 94 k := fun k _ hE => by
    rw [hB]; dsimp only
    by_cases q : k = 11 ∨ k = 13080 + 8 * c 11 ∨ k = 13080 + 8 * c 11 + 1 ∨ k = 13080 + 8 * c 11 + 2 ∨ k = 13080 + 8 * c 11 + 3 ∨ k = 13080 + 8 * c 11 + 4
    · rw [if_pos q]
    · rw [if_neg q, hW]; dsimp only; rw [jup_k (by omega), jup_k (by omega), jup_k (by omega), jup_k (by omega), jup_k (by omega), jup_k (by omega), jup_k (by omega), jup_k (by omega), jup_k (by omega), jup_k (by omega), jup_k (by omega), jup_k (by omega), e94']
  have k0 : B (720 + 8 * c 4) = nI t := (b1 _ (by omega)).trans g0
  have k1 : B (720 + 8 * c 4 + 1) = nI (c 0) := (b1 _ (by omega)).trans g1
  have k2 : B (720 + 8 * c 4 + 2) = nI p := (b1 _ (by omega)).trans g2
  have k3 : B (720 + 8 * c 4 + 3) = nI s := (b1 _ (by omega)).trans g3
  have k4 : B (720 + 8 * c 4 + 4) = nI (c 0 + l) := (b1 _ (by omega)).trans g4
  have k11 : B (4) = nI (c 4 + 1) := (b1 _ (by omega)).trans g11
  have ha1 : v2.1 12 2 = nI (c 4 + 1) := (hv2b 12 2 (by omega)).trans ap5.1
  have hv13 : ∀ j, v2.1 13 j = u6.1 13 j := fun j => hv2b 13 j (by omega)
  have hv5 : v2.1 13 (c 4 * 6 + 5) = lmv (w.1 94) t (c 4) := by rw [hv13, ap5.2.1 5 (by omega)]; rfl
  have hv8 : v2.1 11 (t * 11 + 8) = nI (c 4) := by rw [hv2']; dsimp only; rw [jup_k (by omega), hu7]; exact jup_eq
  have hv6 : v2.1 11 (t * 11 + 6) = nI (cmv (w.1 94) t (c 4) + 1) := by rw [hv2']; exact jup_eq
  have hv1 : ∀ j, j < 6 → cmM j < 8 → v2.1 13 (c 4 * 6 + j) = B (720 + 8 * c 4 + cmM j) := fun j hj hc => by
    rw [hv13, ap5.2.1 j hj]
    rcases (show j = 0 ∨ j = 1 ∨ j = 2 ∨ j = 3 ∨ j = 4 ∨ j = 5 by omega) with z | z | z | z | z | z <;> subst z
    · exact k0.symm
    · exact k2.symm
    · exact k3.symm
    · exact k1.symm
    · exact k4.symm
    · exact absurd hc (by decide)
  have hll : w.1 94 (40 + 8 * s) = w.1 94 (240 + 12 * t + 3) := by
    rw [← mwh_land H ht hp t3]
    rcases D with ⟨h1, h2⟩ | ⟨l', h1, h2, ⟨n', h3⟩, h4⟩
    · rw [h1] at hl
      exact absurd hl.symm (nI_ne_m1 (by omega))
    · exact Wk_land (p_Iroad H) (by omega) (by omega) n' s l' h3
  have hw1 : ∀ b j, 3 ≤ b → b < 38 → ¬ (b = 12 ∧ j = 2 ∨ b = 13 ∧ c 4 * 6 ≤ j ∧ j < c 4 * 6 + 6 ∨ b = 11 ∧ (j = t * 11 + 8 ∨ j = t * 11 + 6)) → v2.1 b j = w.1 b j := fun b j _ _ q3 => (hv2b b j (by omega)).trans (ap5.2.2 b j (by omega))
  have H1 : RA v2 3 B (cup c 4 (c 4 + 1)) K := P_move H ht hpc hs (e := c 0 + l) (by omega) hln hll (by omega) ha1 k11 hv1 k0 k1 k2 k3 k4 hv5 hv8 hv6 hw1 fB
  have hw2 : ∀ b j, 3 ≤ b → b < 38 → ¬ (b = 32 ∧ j = 2 ∨ b = 33 ∧ c 11 * 5 ≤ j ∧ j < c 11 * 5 + 5) → W.1 b j = v2.1 b j := fun b j q1 q2 q3 => by
    rw [f94 b (by omega), kw3 b (by omega)]; exact a3.2.2 b j q3
  have hv2 : ∀ j, j < 5 → cmA j < 8 → W.1 33 (c 11 * 5 + j) = W.1 94 (13080 + 8 * c 11 + cmA j) := fun j hj hc => by
    rw [f94 33 (by omega), kw3 33 (by omega), a3.2.1 j hj]
    rcases (show j = 0 ∨ j = 1 ∨ j = 2 ∨ j = 3 ∨ j = 4 by omega) with z | z | z | z | z <;> subst z
    · exact g5.symm
    · exact g6.symm
    · exact g7.symm
    · exact absurd hc (by decide)
    · exact absurd hc (by decide)
  have hA2 : ∀ k, k < 21000 → ¬ (k = 11 ∨ k = 13080 + 8 * c 11 ∨ k = 13080 + 8 * c 11 + 1 ∨ k = 13080 + 8 * c 11 + 2 ∨ k = 13080 + 8 * c 11 + 3 ∨ k = 13080 + 8 * c 11 + 4) → W.1 94 k = B k := fun k _ q => (b1 k q).symm
  have ha2 : W.1 32 2 = nI (c 11 + 1) := by rw [f94 32 (by omega), kw3 32 (by omega)]; exact a3.1
  have hv3 : W.1 33 (c 11 * 5 + 3) = nI t := by rw [f94 33 (by omega), kw3 33 (by omega), a3.2.1 3 (by omega)]; rfl
  have hv4 : W.1 33 (c 11 * 5 + 4) = nI (c 4) := by rw [f94 33 (by omega), kw3 33 (by omega), a3.2.1 4 (by omega)]; rfl

  have HR := P_act (c := (cup c 4 (c 4 + 1))) H1 hK (k := 1) (o := (c 4)) (by omega) (show _ from (show c 4 < c 4 + 1 from Nat.lt_succ_self _)) (show c 11 < 512 by omega) ha2 g10 hv2 g5 g6 (show vb (W.1 94 (13080 + 8 * c 11 + 2)) 0 1 by rw [g7]; exact hla) g8 (fun z => absurd z (by decide)) (hv3.trans ((show nI t = B (720 + 8 * c 4) from k0.symm))) (hv4.trans (rfl))  hw2 hA2
  have fz : ∀ b, 38 ≤ b → b ≠ 94 → b ≠ 96 → W.1 b = w.1 b := fun b q1 q2 q3 => by
    rw [f94 b q2, kw3 b q3, Ap_fn a3 (by omega) (by omega)]; exact funext fun j => fr b j (by omega)
  exact ⟨_, v3, W, _, ci, eC, eM, Inv_of2 h (Nat.le_succ _) (fun b q1 q2 q3 => fz b q1 q2 (fun z => by rw [z] at q3; exact absurd q3 (by decide))) (fun j _ => congrFun (fz 93 (by omega) (by omega) (by omega)) j) HR⟩

end Q5

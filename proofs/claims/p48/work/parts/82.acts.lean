/-! LAYER B of p48: the class's calls that change something; A is a ghost -/
def up1 (A : Nat → Int32) (k : Nat) (x : Int32) : Nat → Int32 := fun i => if i = k then x else A i
def Kp (v w : jW) : Prop := ∀ b, 93 ≤ b → v.1 b = w.1 b
section S1
variable {w v : jW} {A : Nat → Int32} {c : Nat → Nat} {K : Nat}
theorem up_eq {k : Nat} {x : Int32} : up1 A k x k = x := if_pos rfl
theorem up_k {i k : Nat} {x : Int32} (h : i ≠ k) : up1 A k x i = A i := if_neg h

set_option maxHeartbeats 8000000 in
theorem s_days (H : RA w 3 A c K) (hK : K < 512) {d : Nat} (hd : 1 ≤ d) (hd2 : d ≤ 400) (t2 : c 0 + d ≤ 1999) : ∃ v B, f_Count_days (nI d) w = some (nI (c 0 + d), v) ∧ Kp v w ∧ RA v 3 B (cup c 0 (c 0 + d)) (K + 1) ∧ B (0) = nI (c 0 + d) ∧ ∀ k, k < 21000 → ¬ (k = 0) → B k = A k := by
  have lK := l_K H
  have l0 := l_0 H
  have l1 := l_1 H
  have l2 := l_2 H
  have l3 := l_3 H
  have l4 := l_4 H
  have l5 := l_5 H
  have l6 := l_6 H
  have l7 := l_7 H
  have l8 := l_8 H
  have l9 := l_9 H
  have l10 := l_10 H
  have l11 := l_11 H
  have l12 := l_12 H
  have l13 := l_13 H
  have t0 : ¬ nI d < 1 := nI_nlt (a := d) (b := 1) (by omega) (by omega)
  have t1 : nI d ≤ 400 := nI_le (b := 400) hd2 (by omega)
  obtain ⟨v2, hv2⟩ : ∃ v : jW, v = (jup w.1 3 0 (nI (c 0 + d)), w.2) := ⟨_, rfl⟩
  have eC : f_Count_days (nI d) w = some (nI (c 0 + d), v2) := by
    rw [hv2]
    simp (disch := omega) only [f_Count_days, ob, b2_0, bz_0, ↓reduceIte, ite_self, not_true_eq_false, not_false_eq_true, and_true, true_and, and_self, jlw_e, one_ne, Bool.true_eq_false, Bool.false_eq_true, false_and, and_false, rs_0 H, nI_add, show ∀ d, c 0 + d < 2 ^ 31 → (nI (c 0 + d) ≤ 1999) = (c 0 + d ≤ 1999) from fun d hd => ii_le (b := 1999) hd (by omega), t0, t1, t2, jup_eq]
  obtain ⟨WA, hW⟩ : ∃ WA : Nat → Int32, WA = (up1 A (0) (nI (c 0 + d))) := ⟨_, rfl⟩
  have g0 : WA (0) = nI (c 0 + d) := by rw [hW]; simp (disch := omega) only [up_k, up_eq]
  have fA : ∀ k, k < 21000 → ¬ (k = 0) → WA k = A k := fun k _ hE => by rw [hW]; rw [up_k (by omega)]
  have hw : ∀ b j, 3 ≤ b → b < 38 → ¬ (b = 3 ∧ j = 0) → v2.1 b j = w.1 b j := fun b j q1 q2 q3 => by
    rw [hv2]; dsimp only; rw [jup_ap, if_neg q3]
  have HR := P_days H (d := c 0 + d) (by omega) t2 g0 (by rw [hv2]; dsimp only; exact jup_eq) hw fA
  exact ⟨v2, WA, eC, fun b q => by rw [hv2]; dsimp only; rw [jup_fn (by omega)], RA_K HR (Or.inl rfl) (Nat.le_succ _) (by omega), g0, fA⟩

set_option maxHeartbeats 8000000 in
theorem s_chance (H : RA w 3 A c K) (hK : K < 512) {s d1 : Nat} (hs : s < c 1) (hd1 : 1 ≤ d1) (hd2 : d1 ≤ 50) : ∃ v B, f_Count_chance (nI s) (nI d1) w = some (1, v) ∧ Kp v w ∧ RA v 3 B c (K + 1) ∧ B (40 + 8 * s + 4) = nI d1 ∧ ∀ k, k < 21000 → ¬ (k = 40 + 8 * s + 4) → B k = A k := by
  have lK := l_K H
  have l0 := l_0 H
  have l1 := l_1 H
  have l2 := l_2 H
  have l3 := l_3 H
  have l4 := l_4 H
  have l5 := l_5 H
  have l6 := l_6 H
  have l7 := l_7 H
  have l8 := l_8 H
  have l9 := l_9 H
  have l10 := l_10 H
  have l11 := l_11 H
  have l12 := l_12 H
  have l13 := l_13 H
  have t0 := in_rng hs (show c 1 < 2 ^ 31 by omega)
  have t1 : ¬ nI d1 < 1 := nI_nlt (a := d1) (b := 1) (by omega) (by omega)
  have t2 : nI d1 ≤ 50 := nI_le (b := 50) hd2 (by omega)
  have eP := r_put (j_si H) hs (j := 4) (by omega) (nI d1)
  obtain ⟨v2, hv2⟩ : ∃ v : jW, v = (jup w.1 7 (s * 5 + 4) (nI d1), w.2) := ⟨_, rfl⟩
  have eP' : f_Rows_put 6 (nI s) 4 (nI d1) w = some v2 := by rw [hv2]; exact eP
  have eC : f_Count_chance (nI s) (nI d1) w = some (1, v2) := by simp (disch := omega) only [f_Count_chance, ob, b2_0, bz_0, ↓reduceIte, ite_self, not_true_eq_false, not_false_eq_true, and_true, true_and, and_self, jlw_e, one_ne, Bool.true_eq_false, Bool.false_eq_true, false_and, and_false, s_si H, t0, t1, t2, eP']
  obtain ⟨WA, hW⟩ : ∃ WA : Nat → Int32, WA = (up1 A (40 + 8 * s + 4) (nI d1)) := ⟨_, rfl⟩
  have g0 : WA (40 + 8 * s + 4) = nI d1 := by rw [hW]; simp (disch := omega) only [up_k, up_eq]
  have fA : ∀ k, k < 21000 → ¬ (k = 40 + 8 * s + 4) → WA k = A k := fun k _ hE => by rw [hW]; rw [up_k (by omega)]
  have hw : ∀ b j, 3 ≤ b → b < 38 → ¬ (b = 7 ∧ j = s * 5 + 4) → v2.1 b j = w.1 b j := fun b j q1 q2 q3 => by
    rw [hv2]; dsimp only; rw [jup_ap, if_neg q3]
  have HR := P_chance H hs (by rw [g0]; exact ⟨d1, rfl, hd1, hd2⟩) (by rw [hv2, g0]; exact jup_eq) hw fA
  exact ⟨v2, WA, eC, fun b q => by rw [hv2]; dsimp only; rw [jup_fn (by omega)], RA_K HR (Or.inl rfl) (Nat.le_succ _) (by omega), g0, fA⟩

set_option maxHeartbeats 8000000 in
theorem s_sort (H : RA w 3 A c K) (hK : K < 512) {s : Nat} {x2 x3 x4 x5 : Int32} (hs4 : s < 4) (t1 : ¬ x2 < 1) (t2 : ¬ x3 < x2) (t3 : x3 ≤ 200) (t4 : ¬ x4 < 1) (t5 : ¬ x5 < x4) (t6 : x5 ≤ 500) (t7 : nI (c 3) ≤ 0) : ∃ v B, f_Count_sort (nI s) x2 x3 x4 x5 w = some (1, v) ∧ Kp v w ∧ RA v 3 B c (K + 1) ∧ B (20 + 4 * s) = x2 ∧ B (20 + 4 * s + 1) = x3 ∧ B (20 + 4 * s + 2) = x4 ∧ B (20 + 4 * s + 3) = x5 ∧ ∀ k, k < 21000 → ¬ (20 + 4 * s ≤ k ∧ k < 20 + 4 * s + 4) → B k = A k := by
  have lK := l_K H
  have l0 := l_0 H
  have l1 := l_1 H
  have l2 := l_2 H
  have l3 := l_3 H
  have l4 := l_4 H
  have l5 := l_5 H
  have l6 := l_6 H
  have l7 := l_7 H
  have l8 := l_8 H
  have l9 := l_9 H
  have l10 := l_10 H
  have l11 := l_11 H
  have l12 := l_12 H
  have l13 := l_13 H
  have t0 : ¬ nI s < 0 ∧ nI s ≤ 3 := ⟨nI_pos (by omega), nI_le (b := 3) (by omega) (by omega)⟩
  have t9 : x2 ≤ 200 := Int32.le_trans (Int32.not_lt.mp t2) t3
  have t8 : x4 ≤ 500 := Int32.le_trans (Int32.not_lt.mp t5) t6
  have J := (p_Rsort H).1
  obtain ⟨v2, hv2⟩ : ∃ v : jW, v = (jup (jup (jup (jup w.1 5 (s * 4 + 0) x2) 5 (s * 4 + 1) x3) 5 (s * 4 + 2) x4) 5 (s * 4 + 3) x5, w.2) := ⟨_, rfl⟩
  have p0 : f_Rows_put 4 (nI s) 0 x2 w = some (jup w.1 5 (s * 4 + 0) x2, w.2) := r_put (j := 0) J hs4 (by omega) x2
  have J1 : JR (jup w.1 5 (s * 4 + 0) x2, w.2) 4 4 4 4 := JR_eq J (by dsimp only; rw [jup_fn (by omega)])
  have p1 : f_Rows_put 4 (nI s) 1 x3 (jup w.1 5 (s * 4 + 0) x2, w.2) = _ := r_put (j := 1) J1 hs4 (by omega) x3
  have J2 : JR (jup (jup w.1 5 (s * 4 + 0) x2) 5 (s * 4 + 1) x3, w.2) 4 4 4 4 := JR_eq J1 (by dsimp only; rw [jup_fn (by omega)])
  have p2 : f_Rows_put 4 (nI s) 2 x4 (jup (jup w.1 5 (s * 4 + 0) x2) 5 (s * 4 + 1) x3, w.2) = _ := r_put (j := 2) J2 hs4 (by omega) x4
  have J3 : JR (jup (jup (jup w.1 5 (s * 4 + 0) x2) 5 (s * 4 + 1) x3) 5 (s * 4 + 2) x4, w.2) 4 4 4 4 := JR_eq J2 (by dsimp only; rw [jup_fn (by omega)])
  have p3 : f_Rows_put 4 (nI s) 3 x5 (jup (jup (jup w.1 5 (s * 4 + 0) x2) 5 (s * 4 + 1) x3) 5 (s * 4 + 2) x4, w.2) = some v2 := by rw [hv2]; exact r_put (j := 3) J3 hs4 (by omega) x5
  have eC : f_Count_sort (nI s) x2 x3 x4 x5 w = some (1, v2) := by
    simp (disch := omega) only [f_Count_sort, ob, b2_0, bz_0, ↓reduceIte, ite_self, not_true_eq_false, not_false_eq_true, and_true, true_and, and_self, jlw_e, one_ne, Bool.true_eq_false, Bool.false_eq_true, false_and, and_false, n_th H, c_isSort, t0, t1, t2, t3, t4, t5, t6, t7, p0, p1, p2, p3]
  obtain ⟨WA, hW⟩ : ∃ WA : Nat → Int32, WA = (up1 (up1 (up1 (up1 A (20 + 4 * s) (x2)) (20 + 4 * s + 1) (x3)) (20 + 4 * s + 2) (x4)) (20 + 4 * s + 3) (x5)) := ⟨_, rfl⟩
  have g0 : WA (20 + 4 * s) = x2 := by rw [hW]; simp (disch := omega) only [up_k, up_eq]
  have g1 : WA (20 + 4 * s + 1) = x3 := by rw [hW]; simp (disch := omega) only [up_k, up_eq]
  have g2 : WA (20 + 4 * s + 2) = x4 := by rw [hW]; simp (disch := omega) only [up_k, up_eq]
  have g3 : WA (20 + 4 * s + 3) = x5 := by rw [hW]; simp (disch := omega) only [up_k, up_eq]
  have fA : ∀ k, k < 21000 → ¬ (20 + 4 * s ≤ k ∧ k < 20 + 4 * s + 4) → WA k = A k := fun k _ hE => by rw [hW]; rw [up_k (by omega), up_k (by omega), up_k (by omega), up_k (by omega)]
  have hw : ∀ b j, 3 ≤ b → b < 38 → ¬ (b = 5 ∧ s * 4 ≤ j ∧ j < s * 4 + 4) → v2.1 b j = w.1 b j := fun b j q1 q2 q3 => by
    rw [hv2]; dsimp only; rw [jup_ap, if_neg (by omega), jup_ap, if_neg (by omega), jup_ap, if_neg (by omega), jup_ap, if_neg (by omega)]
  have k1 : ¬ x3 < 1 := fun z => t2 (Int32.lt_of_lt_of_le z (Int32.not_lt.mp t1))
  have k2 : ¬ x5 < 1 := fun z => t5 (Int32.lt_of_lt_of_le z (Int32.not_lt.mp t4))
  have hv : ∀ j, j < 4 → v2.1 5 (s * 4 + j) = WA (20 + 4 * s + j) := fun j hj => by
    rcases (show j = 0 ∨ j = 1 ∨ j = 2 ∨ j = 3 by omega) with q | q | q | q <;> subst q
    · rw [hv2, Nat.add_zero (20 + 4 * s), g0]; simp (disch := omega) only [jup_k, jup_eq]
    · rw [hv2, g1]; simp (disch := omega) only [jup_k, jup_eq]
    · rw [hv2, g2]; simp (disch := omega) only [jup_k, jup_eq]
    · rw [hv2, g3]; simp (disch := omega) only [jup_k, jup_eq]
  have HR := P_sort H hs4 (vb_r1 (n := 200) g0 (by omega) ⟨t1, t9⟩) (vb_r1 (n := 200) g1 (by omega) ⟨k1, t3⟩) (vb_r1 (n := 500) g2 (by omega) ⟨t4, t8⟩) (vb_r1 (n := 500) g3 (by omega) ⟨k2, t6⟩) hv hw fA
  exact ⟨v2, WA, eC, fun b q => by rw [hv2]; dsimp only; rw [jup_fn (by omega), jup_fn (by omega), jup_fn (by omega), jup_fn (by omega)], RA_K HR (Or.inl rfl) (Nat.le_succ _) (by omega), g0, g1, g2, g3, fA⟩

set_option maxHeartbeats 8000000 in
theorem s_seal (H : RA w 3 A c K) (hK : K < 512) {s : Nat} (hs : s < c 1) (t1 : ¬ c 5 = 40) (t2 : isl A c (nI s) = false) : ∃ v B, f_Count_seal (nI s) w = some (nI (c 5), v) ∧ Kp v w ∧ RA v 3 B (cup c 5 (c 5 + 1)) (K + 1) ∧ B (1520 + 4 * c 5) = nI s ∧ B (1520 + 4 * c 5 + 1) = nI (c 0) ∧ ∀ k, k < 21000 → ¬ (k = 5 ∨ k = 1520 + 4 * c 5 ∨ k = 1520 + 4 * c 5 + 1) → B k = A k := by
  have lK := l_K H
  have l0 := l_0 H
  have l1 := l_1 H
  have l2 := l_2 H
  have l3 := l_3 H
  have l4 := l_4 H
  have l5 := l_5 H
  have l6 := l_6 H
  have l7 := l_7 H
  have l8 := l_8 H
  have l9 := l_9 H
  have l10 := l_10 H
  have l11 := l_11 H
  have l12 := l_12 H
  have l13 := l_13 H
  have t0 := in_rng hs (show c 1 < 2 ^ 31 by omega)
  obtain ⟨v1, e1, a1, J1⟩ := ap_open (j_sl H) (by omega) (nI s)
  obtain ⟨v2, e2, a2, J2⟩ := ap_put a1 J1 (j := 1) (by omega) (y := 1) rfl (nI (c 0))
  have eS : f_State_addSpot 14 (nI s) (nI (c 0)) w = some (nI (c 5), v2) := by rw [f_State_addSpot, e1, ob]; dsimp only; rw [e2, ob]
  have eC : f_Count_seal (nI s) w = some (nI (c 5), v2) := by simp (disch := omega) only [f_Count_seal, ob, b2_0, bz_0, ↓reduceIte, ite_self, not_true_eq_false, not_false_eq_true, and_true, true_and, and_self, jlw_e, one_ne, Bool.true_eq_false, Bool.false_eq_true, false_and, and_false, s_si H, u_sl H, c_sealed H, rs_0 H, t0, t1, t2, rs_0 H, eS, ip_1]
  obtain ⟨WA, hW⟩ : ∃ WA : Nat → Int32, WA = (up1 (up1 (up1 A (1520 + 4 * c 5) (nI s)) (1520 + 4 * c 5 + 1) (nI (c 0))) (5) (nI (c 5 + 1))) := ⟨_, rfl⟩
  have g0 : WA (1520 + 4 * c 5) = nI s := by rw [hW]; simp (disch := omega) only [up_k, up_eq]
  have g1 : WA (1520 + 4 * c 5 + 1) = nI (c 0) := by rw [hW]; simp (disch := omega) only [up_k, up_eq]
  have g2 : WA (5) = nI (c 5 + 1) := by rw [hW]; simp (disch := omega) only [up_k, up_eq]
  have fA : ∀ k, k < 21000 → ¬ (k = 5 ∨ k = 1520 + 4 * c 5 ∨ k = 1520 + 4 * c 5 + 1) → WA k = A k := fun k _ hE => by rw [hW]; rw [up_k (by omega), up_k (by omega), up_k (by omega)]
  have hv : ∀ j, j < 2 → id j < 4 → v2.1 15 (c 5 * 2 + j) = WA (1520 + 4 * c 5 + id j) := fun j hj _ => by
    rw [a2.2.1 j hj]
    rcases (show j = 0 ∨ j = 1 by omega) with z | z <;> subst z
    · exact g0.symm
    · exact g1.symm
  have ha : v2.1 14 2 = nI (c 5 + 1) := by exact a2.1
  have hw : ∀ b j, 3 ≤ b → b < 38 → ¬ (b = 14 ∧ j = 2 ∨ b = 15 ∧ c 5 * 2 ≤ j ∧ j < c 5 * 2 + 2) → v2.1 b j = w.1 b j := fun b j q1 q2 q3 => by
    exact a2.2.2 b j q3
  have HR := P_seal H (s := s) hs (by omega) ha g2 hv g0 g1 hw fA
  exact ⟨v2, WA, eC, fun b q => Ap_fn a2 (by omega) (by omega), RA_K HR (Or.inl rfl) (Nat.le_succ _) (by omega), g0, g1, fA⟩

set_option maxHeartbeats 8000000 in
theorem s_picture (H : RA w 3 A c K) (hK : K < 512) {s : Nat} (hs : s < c 1) (hc1 : 1 ≤ c 0) (t2 : ¬ A (40 + 8 * s + 3) = 1) (t3 : spt A 20760 (nI s) (nI (c 0)) (c 12) 0 = false) (t4 : ¬ c 9 = 100) : ∃ v B, f_Count_picture (nI s) w = some (nI (nlg A c (nI s) (nI (c 0) - 1) (c 3)), v) ∧ Kp v w ∧ RA v 3 B (cup c 9 (c 9 + 1)) (K + 1) ∧ B (12480 + 4 * c 9) = nI s ∧ B (12480 + 4 * c 9 + 1) = nI (c 0) ∧ B (12480 + 4 * c 9 + 2) = nI (nlg A c (nI s) (nI (c 0) - 1) (c 3)) ∧ ∀ k, k < 21000 → ¬ (k = 9 ∨ k = 12480 + 4 * c 9 ∨ k = 12480 + 4 * c 9 + 1 ∨ k = 12480 + 4 * c 9 + 2) → B k = A k := by
  have lK := l_K H
  have l0 := l_0 H
  have l1 := l_1 H
  have l2 := l_2 H
  have l3 := l_3 H
  have l4 := l_4 H
  have l5 := l_5 H
  have l6 := l_6 H
  have l7 := l_7 H
  have l8 := l_8 H
  have l9 := l_9 H
  have l10 := l_10 H
  have l11 := l_11 H
  have l12 := l_12 H
  have l13 := l_13 H
  have t0 := in_rng hs (show c 1 < 2 ^ 31 by omega)
  have t1 : ¬ nI (c 0) = 0 := nI_ne' (b := 0) (by omega) (by omega) (by omega)
  have t3' := t3
  obtain ⟨N, hN⟩ : ∃ N, N = nlg (A) c (nI s) (nI (c 0) - 1) (c 3) := ⟨_, rfl⟩
  have hN40 : N ≤ 40 := by rw [hN]; have := nlg_le (A := A) (c := c) (x := nI s) (d := nI (c 0) - 1) (c 3); omega
  obtain ⟨u1, e1, a1, J1⟩ := ap_open (j_pc H) (by omega) (nI s)
  obtain ⟨u2, e2, a2, J2⟩ := ap_put a1 J1 (j := 1) (by omega) (y := 1) rfl (nI (c 0))
  obtain ⟨v2, e3, a3, J3⟩ := ap_put a2 J2 (j := 2) (by omega) (y := 2) rfl (nI N)
  have eS : f_State_addSpot 28 (nI s) (nI (c 0)) w = some (nI (c 9), u2) := by rw [f_State_addSpot, e1, ob]; dsimp only; rw [e2, ob]
  have eL : f_State_numberLarge (nI s) (nI (c 0) - 1) w = some (nI N, w) := by rw [hN]; exact c_large H
  have eC : f_Count_picture (nI s) w = some (nI N, v2) := by
    rw [f_Count_picture, s_si H, ob]
    dsimp only
    rw [b2_p t0, if_neg one_ne, rs_0 H, if_neg t1, u_pc H, ob]
    dsimp only
    rw [b2_n t4, if_pos rfl, a_si3 H hs, ob]
    dsimp only
    rw [if_neg t2, c_spot (p_Rcld H) (h_12 H) l12, ob]
    dsimp only
    rw [rs_0 H, t3', bz_f, if_pos rfl, eL, ob]
    dsimp only
    rw [rs_0 H, eS, ob]
    dsimp only
    rw [e3, ob]
  obtain ⟨WA, hW⟩ : ∃ WA : Nat → Int32, WA = up1 (up1 (up1 (up1 A (12480 + 4 * c 9) (nI s)) (12480 + 4 * c 9 + 1) (nI (c 0))) (12480 + 4 * c 9 + 2) (nI N)) 9 (nI (c 9 + 1)) := ⟨_, rfl⟩
  have g0 : WA (12480 + 4 * c 9) = nI s := by rw [hW]; simp (disch := omega) only [up_k, up_eq]
  have g1 : WA (12480 + 4 * c 9 + 1) = nI (c 0) := by rw [hW]; simp (disch := omega) only [up_k, up_eq]
  have g2 : WA (12480 + 4 * c 9 + 2) = nI N := by rw [hW]; simp (disch := omega) only [up_k, up_eq]
  have g3 : WA 9 = nI (c 9 + 1) := by rw [hW]; simp (disch := omega) only [up_k, up_eq]
  have fA : ∀ k, k < 21000 → ¬ (k = 9 ∨ k = 12480 + 4 * c 9 ∨ k = 12480 + 4 * c 9 + 1 ∨ k = 12480 + 4 * c 9 + 2) → WA k = A k := fun k _ hE => by rw [hW]; rw [up_k (by omega), up_k (by omega), up_k (by omega), up_k (by omega)]
  have hv : ∀ j, j < 3 → id j < 4 → v2.1 29 (c 9 * 3 + j) = WA (12480 + 4 * c 9 + id j) := fun j hj _ => by
    rw [a3.2.1 j hj]
    rcases (show j = 0 ∨ j = 1 ∨ j = 2 by omega) with z | z | z <;> subst z
    · exact g0.symm
    · exact g1.symm
    · exact g2.symm
  have ha : v2.1 28 2 = nI (c 9 + 1) := by exact a3.1
  have hw : ∀ b j, 3 ≤ b → b < 38 → ¬ (b = 28 ∧ j = 2 ∨ b = 29 ∧ c 9 * 3 ≤ j ∧ j < c 9 * 3 + 3) → v2.1 b j = w.1 b j := fun b j q1 q2 q3 => by
    exact a3.2.2 b j q3
  have HR := P_pic H hs hc1 hN40 (by omega) ha g3 hv g0 g1 g2 hw fA
  rw [hN] at eC g2
  exact ⟨v2, WA, eC, fun b q => Ap_fn a3 (by omega) (by omega), RA_K HR (Or.inl rfl) (Nat.le_succ _) (by omega), g0, g1, g2, fA⟩

set_option maxHeartbeats 8000000 in
theorem s_road (H : RA w 3 A c K) (hK : K < 512) {i j dn : Nat} (hi : i < c 1) (hj : j < c 1) (t2 : ¬ i = j) (hd1 : 1 ≤ dn) (hd2 : dn ≤ 60) (t5 : A (40 + 8 * i) = A (40 + 8 * j)) (t6 : c 2 < 30) : ∃ v B, f_Count_road (nI i) (nI j) (nI dn) w = some (nI (c 2), v) ∧ Kp v w ∧ RA v 3 B (cup c 2 (c 2 + 1)) (K + 1) ∧ B (120 + 4 * c 2) = nI i ∧ B (120 + 4 * c 2 + 1) = nI j ∧ B (120 + 4 * c 2 + 2) = nI dn ∧ ∀ k, k < 21000 → ¬ (k = 2 ∨ k = 120 + 4 * c 2 ∨ k = 120 + 4 * c 2 + 1 ∨ k = 120 + 4 * c 2 + 2) → B k = A k := by
  have lK := l_K H
  have l0 := l_0 H
  have l1 := l_1 H
  have l2 := l_2 H
  have l3 := l_3 H
  have l4 := l_4 H
  have l5 := l_5 H
  have l6 := l_6 H
  have l7 := l_7 H
  have l8 := l_8 H
  have l9 := l_9 H
  have l10 := l_10 H
  have l11 := l_11 H
  have l12 := l_12 H
  have l13 := l_13 H
  have t0 := in_rng hi (show c 1 < 2 ^ 31 by omega)
  have t1 := in_rng hj (show c 1 < 2 ^ 31 by omega)
  have t3 : ¬ nI dn < 1 := nI_nlt (a := dn) (b := 1) (by omega) (by omega)
  have t4 : nI dn ≤ 60 := nI_le (b := 60) hd2 (by omega)
  obtain ⟨u, e1, a1, a2⟩ := c_shortenWays H (a := i) (b := j) (d := dn) t2 hi hj hd1 hd2
  obtain ⟨v2, hv2⟩ : ∃ v : jW, v = (jup u.1 3 4 (nI (c 2 + 1)), u.2) := ⟨_, rfl⟩
  have e34 : u.1 3 4 = nI (c 2) := by rw [a1 3 (by omega), (p_Rscal H).2.2.2.2]; exact h_2 H
  have eC : f_Count_road (nI i) (nI j) (nI dn) w = some (nI (c 2), v2) := by
    rw [f_Count_road, s_si H, ob]
    dsimp only
    rw [b2_p t0, if_neg one_ne, s_si H, ob]
    dsimp only
    rw [b2_p t1, if_neg one_ne, if_neg (show ¬ nI i = nI j from fun z => t2 ((nI_eq (by omega) (by omega)).mp z)), if_neg t3, if_pos t4, a_si0 H hi, ob]
    dsimp only
    rw [a_si0 H hj, ob]
    dsimp only
    rw [if_pos t5, (p_Rscal H).2.2.2.2, h_2 H, if_pos (show nI (c 2) < 30 from nI_lt (b := 30) (by omega) (by omega)), e1, ob]
    dsimp only [jlw]
    rw [e34, ip_1, hv2, jup_eq, nI_pred]
  obtain ⟨WA, hW⟩ : ∃ WA : Nat → Int32, WA = (up1 (up1 (up1 (up1 A (120 + 4 * c 2) (nI i)) (120 + 4 * c 2 + 1) (nI j)) (120 + 4 * c 2 + 2) (nI dn)) (2) (nI (c 2 + 1))) := ⟨_, rfl⟩
  have g0 : WA (120 + 4 * c 2) = nI i := by rw [hW]; simp (disch := omega) only [up_k, up_eq]
  have g1 : WA (120 + 4 * c 2 + 1) = nI j := by rw [hW]; simp (disch := omega) only [up_k, up_eq]
  have g2 : WA (120 + 4 * c 2 + 2) = nI dn := by rw [hW]; simp (disch := omega) only [up_k, up_eq]
  have g3 : WA (2) = nI (c 2 + 1) := by rw [hW]; simp (disch := omega) only [up_k, up_eq]
  have fA : ∀ k, k < 21000 → ¬ (k = 2 ∨ k = 120 + 4 * c 2 ∨ k = 120 + 4 * c 2 + 1 ∨ k = 120 + 4 * c 2 + 2) → WA k = A k := fun k _ hE => by rw [hW]; rw [up_k (by omega), up_k (by omega), up_k (by omega), up_k (by omega)]
  have hw : ∀ b j, 3 ≤ b → b < 38 → ¬ (b = 3 ∧ j = 4 ∨ b = 9) → v2.1 b j = w.1 b j := fun b k q1 q2 q3 => by
    rw [hv2]; dsimp only; rw [jup_ap, if_neg (by omega), a1 b (by omega)]
  have wv : ∀ x y, x < c 1 → y < 10 → Dis (WA) (c 2 + 1) x y (v2.1 9 (x * 10 + y)) := fun x y hx hy => by
    rw [hv2]
    dsimp only
    rw [jup_fn (by omega)]
    refine Dis_q.mpr (Dq_cg (fun a b e => ?_) (a2 x y hx hy))
    constructor
    · rintro (⟨r, k1, k2, k3, k4, k5, k6⟩ | ⟨k1, rfl⟩)
      · refine ⟨r, by omega, k2, k3, k4, k5, ?_⟩
        unfold jnd
        rw [fA _ (by omega) (by omega), fA _ (by omega) (by omega), fA _ (by omega) (by omega)]
        exact k6
      · refine ⟨c 2, by omega, by omega, by omega, hd1, hd2, g2, ?_⟩
        rcases k1 with ⟨rfl, rfl⟩ | ⟨rfl, rfl⟩
        · exact Or.inl ⟨g0, g1⟩
        · exact Or.inr ⟨g0, g1⟩
    · rintro ⟨r, k1, k2, k3, k4, k5, k6⟩
      by_cases q : r < c 2
      · refine Or.inl ⟨r, q, k2, k3, k4, k5, ?_⟩
        unfold jnd at k6 ⊢
        rw [fA _ (by omega) (by omega), fA _ (by omega) (by omega), fA _ (by omega) (by omega)] at k6
        exact k6
      · have er : r = c 2 := by omega
        subst er
        obtain ⟨k7, k8⟩ := k6
        refine Or.inr ⟨?_, (nI_eq (by omega) (by omega)).mp (k7.symm.trans g2)⟩
        rcases k8 with ⟨k8, k9⟩ | ⟨k8, k9⟩
        · exact Or.inl ⟨(nI_eq (by omega) (by omega)).mp (k8.symm.trans g0), (nI_eq (by omega) (by omega)).mp (k9.symm.trans g1)⟩
        · exact Or.inr ⟨(nI_eq (by omega) (by omega)).mp (k9.symm.trans g1), (nI_eq (by omega) (by omega)).mp (k8.symm.trans g0)⟩
  have HR := P_road H hi hj t2 hd1 hd2 t5 (by omega) g3 g0 g1 g2 (by rw [hv2]; dsimp only; exact jup_eq) wv hw fA
  exact ⟨v2, WA, eC, fun b q => by rw [hv2]; dsimp only; rw [jup_fn (by omega), a1 b (by omega)], RA_K HR (Or.inl rfl) (Nat.le_succ _) (by omega), g0, g1, g2, fA⟩

set_option maxHeartbeats 8000000 in
theorem s_site (H : RA w 3 A c K) (hK : K < 512) {l kl : Nat} {z u : Int32} (hl : l ≤ 1) (hkl : kl ≤ 3) (t3 : ¬ c 1 = 10) : ∃ v B, f_Count_site (nI l) (nI kl) z u w = some (nI (c 1), v) ∧ Kp v w ∧ RA v 3 B (cup c 1 (c 1 + 1)) (K + 1) ∧ B (40 + 8 * c 1) = nI l ∧ B (40 + 8 * c 1 + 1) = nI kl ∧ B (40 + 8 * c 1 + 2) = bv z ∧ B (40 + 8 * c 1 + 3) = bv u ∧ B (40 + 8 * c 1 + 4) = 10 ∧ ∀ k, k < 21000 → ¬ (k = 1 ∨ k = 40 + 8 * c 1 ∨ k = 40 + 8 * c 1 + 1 ∨ k = 40 + 8 * c 1 + 2 ∨ k = 40 + 8 * c 1 + 3 ∨ k = 40 + 8 * c 1 + 4) → B k = A k := by
  have lK := l_K H
  have l0 := l_0 H
  have l1 := l_1 H
  have l2 := l_2 H
  have l3 := l_3 H
  have l4 := l_4 H
  have l5 := l_5 H
  have l6 := l_6 H
  have l7 := l_7 H
  have l8 := l_8 H
  have l9 := l_9 H
  have l10 := l_10 H
  have l11 := l_11 H
  have l12 := l_12 H
  have l13 := l_13 H
  have t0 : ¬ nI l < 0 ∧ nI l ≤ 1 := ⟨nI_pos (by omega), nI_le (b := 1) hl (by omega)⟩
  have t1 : ¬ nI kl < 0 := nI_pos (by omega)
  have t2 : nI kl ≤ 3 := nI_le (b := 3) hkl (by omega)
  obtain ⟨u1, e1, a1, J1⟩ := ap_open (j_si H) (by omega) (nI l)
  obtain ⟨u2, e2, a2, J2⟩ := ap_put a1 J1 (j := 1) (by omega) (y := 1) rfl (nI kl)
  obtain ⟨u3, e3, a3, J3⟩ := ap_put a2 J2 (j := 2) (by omega) (y := 2) rfl (bv z)
  obtain ⟨u4, e4, a4, J4⟩ := ap_put a3 J3 (j := 3) (by omega) (y := 3) rfl (bv u)
  obtain ⟨u5, e5, a5, J5⟩ := ap_put a4 J4 (j := 4) (by omega) (y := 4) rfl 10
  have Jw : JR u5 8 10 10 (c 1) := JR_eq (p_Rway H).1 (Ap_fn a5 (by omega) (by omega))
  obtain ⟨v2, r, e6, a6, hr⟩ := c_openWays Jw (by omega)
  have k4 : f_Count_site_j100 (nI (c 1)) (bv u) 3 (nI (c 1)) u3 = some (nI (c 1), v2) := by rw [f_Count_site_j100, e4, ob, e5, ob, e6, ob]
  have k3 : f_Count_site_j77 u (nI (c 1)) (bv z) 2 (nI (c 1)) u2 = some (nI (c 1), v2) := by
    rw [f_Count_site_j77, e3, ob]
    by_cases b : u = 0
    · have k4' := k4
      rw [bv, if_pos b] at k4'
      rw [if_pos b]; exact k4'
    · have k4' := k4
      rw [bv, if_neg b] at k4'
      rw [if_neg b]; exact k4'
  have eC : f_Count_site (nI l) (nI kl) z u w = some (nI (c 1), v2) := by
    rw [f_Count_site, c_isLand, ob]
    dsimp only
    rw [b2_p t0, if_neg one_ne, if_neg t1, if_pos t2, u_si H, ob]
    dsimp only
    rw [b2_n t3, if_pos rfl, e1, ob]
    dsimp only
    rw [e2, ob]
    by_cases b : z = 0
    · have k3' := k3
      rw [bv, if_pos b] at k3'
      rw [if_pos b]; exact k3'
    · have k3' := k3
      rw [bv, if_neg b] at k3'
      rw [if_neg b]; exact k3'
  have fr : ∀ b j, b ≠ 6 ∧ b ≠ 7 ∧ b ≠ 8 ∧ b ≠ 9 → v2.1 b j = w.1 b j := fun b j q => (a6.2.2 b j (by omega)).trans (a5.2.2 b j (by omega))
  obtain ⟨WA, hW⟩ : ∃ WA : Nat → Int32, WA = (up1 (up1 (up1 (up1 (up1 (up1 A (40 + 8 * c 1) (nI l)) (40 + 8 * c 1 + 1) (nI kl)) (40 + 8 * c 1 + 2) (bv z)) (40 + 8 * c 1 + 3) (bv u)) (40 + 8 * c 1 + 4) (10)) (1) (nI (c 1 + 1))) := ⟨_, rfl⟩
  have g0 : WA (40 + 8 * c 1) = nI l := by rw [hW]; simp (disch := omega) only [up_k, up_eq]
  have g1 : WA (40 + 8 * c 1 + 1) = nI kl := by rw [hW]; simp (disch := omega) only [up_k, up_eq]
  have g2 : WA (40 + 8 * c 1 + 2) = bv z := by rw [hW]; simp (disch := omega) only [up_k, up_eq]
  have g3 : WA (40 + 8 * c 1 + 3) = bv u := by rw [hW]; simp (disch := omega) only [up_k, up_eq]
  have g4 : WA (40 + 8 * c 1 + 4) = 10 := by rw [hW]; simp (disch := omega) only [up_k, up_eq]
  have g5 : WA (1) = nI (c 1 + 1) := by rw [hW]; simp (disch := omega) only [up_k, up_eq]
  have fA : ∀ k, k < 21000 → ¬ (k = 1 ∨ k = 40 + 8 * c 1 ∨ k = 40 + 8 * c 1 + 1 ∨ k = 40 + 8 * c 1 + 2 ∨ k = 40 + 8 * c 1 + 3 ∨ k = 40 + 8 * c 1 + 4) → WA k = A k := fun k _ hE => by rw [hW]; rw [up_k (by omega), up_k (by omega), up_k (by omega), up_k (by omega), up_k (by omega), up_k (by omega)]
  have hv : ∀ j, j < 5 → id j < 8 → v2.1 7 (c 1 * 5 + j) = WA (40 + 8 * c 1 + id j) := fun j hj _ => by
    rw [a6.2.2 7 _ (by omega), a5.2.1 j hj]
    rcases (show j = 0 ∨ j = 1 ∨ j = 2 ∨ j = 3 ∨ j = 4 by omega) with z | z | z | z | z <;> subst z
    · exact g0.symm
    · exact g1.symm
    · exact g2.symm
    · exact g3.symm
    · exact g4.symm
  have ha : v2.1 6 2 = nI (c 1 + 1) := by rw [a6.2.2 6 2 (by omega)]; exact a5.1
  have ha2 : v2.1 8 2 = nI (c 1 + 1) := by exact a6.1
  have wv : ∀ j, j < 10 → v2.1 9 (c 1 * 10 + j) = if j = c 1 then 0 else -1 := fun j hj => by
    rw [a6.2.1 j hj]; exact hr j hj
  have hw : ∀ b j, 3 ≤ b → b < 38 → ¬ (b = 6 ∧ j = 2 ∨ b = 7 ∧ c 1 * 5 ≤ j ∧ j < c 1 * 5 + 5 ∨ b = 8 ∧ j = 2 ∨ b = 9 ∧ c 1 * 10 ≤ j ∧ j < c 1 * 10 + 10) → v2.1 b j = w.1 b j := fun b j q1 q2 q3 => by
    rw [a6.2.2 b j (by omega)]; exact a5.2.2 b j (by omega)
  have HR := P_site H (by omega) ha g5 hv (by rw [g0]; exact vb_k rfl (Nat.zero_le _) hl) (by rw [g1]; exact vb_k rfl (Nat.zero_le _) hkl) (by rw [g2]; exact bv_v) (by rw [g3]; exact bv_v) (by rw [g4]; exact ⟨10, rfl, by omega, by omega⟩) ha2 wv hw fA
  exact ⟨v2, WA, eC, fun b q => funext fun j => fr b j (by omega), RA_K HR (Or.inl rfl) (Nat.le_succ _) (by omega), g0, g1, g2, g3, g4, fA⟩

set_option maxHeartbeats 8000000 in
theorem s_tell (H : RA w 3 A c K) (hK : K < 512) {t p dn : Nat} (ht : t < c 3) (hp : p < c 1) (hd : dn ≤ c 0) (t3 : ¬ c 7 = 200) (t4 : A (40 + 8 * p) = A (240 + 12 * t + 3)) : ∃ v B, f_Count_tell (nI t) (nI p) (nI dn) w = some (nI (c 7), v) ∧ Kp v w ∧ RA v 3 B (cup (cup c 7 (c 7 + 1)) 11 (c 11 + 1)) (K + 1) ∧ B (9680 + 8 * c 7) = nI t ∧ B (9680 + 8 * c 7 + 1) = nI p ∧ B (9680 + 8 * c 7 + 2) = nI dn ∧ B (9680 + 8 * c 7 + 3) = nI (c 0) ∧ ∀ k, k < 21000 → ¬ (k = 7 ∨ k = 9680 + 8 * c 7 ∨ k = 9680 + 8 * c 7 + 1 ∨ k = 9680 + 8 * c 7 + 2 ∨ k = 9680 + 8 * c 7 + 3 ∨ k = 11 ∨ k = 13080 + 8 * c 11 ∨ k = 13080 + 8 * c 11 + 1 ∨ k = 13080 + 8 * c 11 + 2 ∨ k = 13080 + 8 * c 11 + 3 ∨ k = 13080 + 8 * c 11 + 4) → B k = A k := by
  have lK := l_K H
  have l0 := l_0 H
  have l1 := l_1 H
  have l2 := l_2 H
  have l3 := l_3 H
  have l4 := l_4 H
  have l5 := l_5 H
  have l6 := l_6 H
  have l7 := l_7 H
  have l8 := l_8 H
  have l9 := l_9 H
  have l10 := l_10 H
  have l11 := l_11 H
  have l12 := l_12 H
  have l13 := l_13 H
  have y1 : ¬ nI p = -1 := nI_ne_m1 (by omega)
  have y2 : (nI p = -1) = False := eq_false y1
  have y3 := in_rng hp (show c 1 < 2 ^ 31 by omega)
  have t0 := in_rng ht (show c 3 < 2 ^ 31 by omega)
  have t1 : ¬ nI dn < 0 := nI_pos (by omega)
  have t2 : nI dn ≤ nI (c 0) := nI_le hd (by omega)
  obtain ⟨sx, th1, th2, th3, th4, th5, th6, hla, th8, th9, th10⟩ := (p_Ithing H).1 t ht
  obtain ⟨u1, eo, ao, Jo⟩ := ap_open (j_to H) (by omega) (nI t)
  obtain ⟨u2, ep1, ap1, Jp1⟩ := ap_put ao Jo (j := 1) (by omega) (y := 1) rfl (nI p)
  obtain ⟨u3, ep2, ap2, Jp2⟩ := ap_put ap1 Jp1 (j := 2) (by omega) (y := 2) rfl (nI dn)
  obtain ⟨v2, ep3, ap3, Jp3⟩ := ap_put ap2 Jp2 (j := 3) (by omega) (y := 3) rfl (nI (c 0))
  have z1 : u3.1 3 0 = nI (c 0) := (ap2.2.2 3 0 (by omega)).trans (rs_0 H)
  have fr : ∀ b j, b ≠ 24 ∧ b ≠ 25 → v2.1 b j = w.1 b j := fun b j q => ap3.2.2 b j (by omega)
  have JA : JR v2 32 5 512 (c 11) := JR_eq (j_ac H) (funext fun j => fr 32 j (by omega))
  have z0 : v2.1 3 0 = nI (c 0) := (fr 3 0 (by omega)).trans (rs_0 H)
  obtain ⟨v3, e3, a3⟩ := c_act JA (by omega) z0 3 (A (240 + 12 * t + 3)) (nI t) (nI (c 7))
  have eC : f_Count_tell (nI t) (nI p) (nI dn) w = some (nI (c 7), v3) := by
    simp (disch := omega) only [f_Count_tell, f_Count_tell_j82, f_Count_tell_j116, ob, b2_0, bz_0, ↓reduceIte, ite_self, not_true_eq_false, not_false_eq_true, and_true, true_and, and_self, ↓jlw_e, ↓ob, one_ne, Bool.true_eq_false, Bool.false_eq_true, false_and, and_false, s_th H, rs_0 H, u_to H, a_th3 H, y2, a_si0 H, y3, t0, t1, t2, t3, t4, eo, ep1, ep2, z1, ep3, e3, ip_1]
  obtain ⟨WA, hW⟩ : ∃ WA : Nat → Int32, WA = (up1 (up1 (up1 (up1 (up1 (up1 (up1 (up1 (up1 (up1 (up1 A (9680 + 8 * c 7) (nI t)) (9680 + 8 * c 7 + 1) (nI p)) (9680 + 8 * c 7 + 2) (nI dn)) (9680 + 8 * c 7 + 3) (nI (c 0))) (13080 + 8 * c 11) (3)) (13080 + 8 * c 11 + 1) (nI (c 0))) (13080 + 8 * c 11 + 2) (A (240 + 12 * t + 3))) (13080 + 8 * c 11 + 3) (nI (c 7))) (13080 + 8 * c 11 + 4) (0)) (11) (nI (c 11 + 1))) (7) (nI (c 7 + 1))) := ⟨_, rfl⟩
  have g0 : WA (9680 + 8 * c 7) = nI t := by rw [hW]; simp (disch := omega) only [up_k, up_eq]
  have g1 : WA (9680 + 8 * c 7 + 1) = nI p := by rw [hW]; simp (disch := omega) only [up_k, up_eq]
  have g2 : WA (9680 + 8 * c 7 + 2) = nI dn := by rw [hW]; simp (disch := omega) only [up_k, up_eq]
  have g3 : WA (9680 + 8 * c 7 + 3) = nI (c 0) := by rw [hW]; simp (disch := omega) only [up_k, up_eq]
  have g4 : WA (13080 + 8 * c 11) = 3 := by rw [hW]; simp (disch := omega) only [up_k, up_eq]
  have g5 : WA (13080 + 8 * c 11 + 1) = nI (c 0) := by rw [hW]; simp (disch := omega) only [up_k, up_eq]
  have g6 : WA (13080 + 8 * c 11 + 2) = A (240 + 12 * t + 3) := by rw [hW]; simp (disch := omega) only [up_k, up_eq]
  have g7 : WA (13080 + 8 * c 11 + 3) = nI (c 7) := by rw [hW]; simp (disch := omega) only [up_k, up_eq]
  have g8 : WA (13080 + 8 * c 11 + 4) = 0 := by rw [hW]; simp (disch := omega) only [up_k, up_eq]
  have g9 : WA (11) = nI (c 11 + 1) := by rw [hW]; simp (disch := omega) only [up_k, up_eq]
  have g10 : WA (7) = nI (c 7 + 1) := by rw [hW]; simp (disch := omega) only [up_k, up_eq]
  obtain ⟨B, hB⟩ : ∃ B : Nat → Int32, B = fun k => if k = 11 ∨ k = 13080 + 8 * c 11 ∨ k = 13080 + 8 * c 11 + 1 ∨ k = 13080 + 8 * c 11 + 2 ∨ k = 13080 + 8 * c 11 + 3 ∨ k = 13080 + 8 * c 11 + 4 then A k else WA k := ⟨_, rfl⟩
  have b1 : ∀ k, ¬ (k = 11 ∨ k = 13080 + 8 * c 11 ∨ k = 13080 + 8 * c 11 + 1 ∨ k = 13080 + 8 * c 11 + 2 ∨ k = 13080 + 8 * c 11 + 3 ∨ k = 13080 + 8 * c 11 + 4) → B k = WA k := fun k q => by rw [hB]; exact if_neg q
  have fB : ∀ k, k < 21000 → ¬ (k = 7 ∨ k = 9680 + 8 * c 7 ∨ k = 9680 + 8 * c 7 + 1 ∨ k = 9680 + 8 * c 7 + 2 ∨ k = 9680 + 8 * c 7 + 3) → B k = A k := fun k _ hE => by
    rw [hB]; dsimp only
    by_cases q : k = 11 ∨ k = 13080 + 8 * c 11 ∨ k = 13080 + 8 * c 11 + 1 ∨ k = 13080 + 8 * c 11 + 2 ∨ k = 13080 + 8 * c 11 + 3 ∨ k = 13080 + 8 * c 11 + 4
    · rw [if_pos q]
    · rw [if_neg q, hW]; rw [up_k (by omega), up_k (by omega), up_k (by omega), up_k (by omega), up_k (by omega), up_k (by omega), up_k (by omega), up_k (by omega), up_k (by omega), up_k (by omega), up_k (by omega)]
  have k0 : B (9680 + 8 * c 7) = nI t := (b1 _ (by omega)).trans g0
  have k1 : B (9680 + 8 * c 7 + 1) = nI p := (b1 _ (by omega)).trans g1
  have k2 : B (9680 + 8 * c 7 + 2) = nI dn := (b1 _ (by omega)).trans g2
  have k3 : B (9680 + 8 * c 7 + 3) = nI (c 0) := (b1 _ (by omega)).trans g3
  have k10 : B (7) = nI (c 7 + 1) := (b1 _ (by omega)).trans g10
  have ha1 : v2.1 24 2 = nI (c 7 + 1) := ap3.1
  have hv1 : ∀ j, j < 4 → id j < 8 → v2.1 25 (c 7 * 4 + j) = B (9680 + 8 * c 7 + id j) := fun j hj _ => by
    rw [ap3.2.1 j hj]
    rcases (show j = 0 ∨ j = 1 ∨ j = 2 ∨ j = 3 by omega) with z | z | z | z <;> subst z
    · exact k0.symm
    · exact k1.symm
    · exact k2.symm
    · exact k3.symm
  have hw1 : ∀ b j, 3 ≤ b → b < 38 → ¬ (b = 24 ∧ j = 2 ∨ b = 25 ∧ c 7 * 4 ≤ j ∧ j < c 7 * 4 + 4) → v2.1 b j = w.1 b j := fun b j _ _ q3 => ap3.2.2 b j q3
  have H1 : RA v2 3 B (cup c 7 (c 7 + 1)) K := P_told H ht (Or.inl hp) hd (by omega) ha1 k10 hv1 k0 k1 k2 k3 hw1 fB
  have hw2 : ∀ b j, 3 ≤ b → b < 38 → ¬ (b = 32 ∧ j = 2 ∨ b = 33 ∧ c 11 * 5 ≤ j ∧ j < c 11 * 5 + 5) → v3.1 b j = v2.1 b j := fun b j q1 q2 q3 => by
    exact a3.2.2 b j q3
  have hv2 : ∀ j, j < 5 → cmA j < 8 → v3.1 33 (c 11 * 5 + j) = WA (13080 + 8 * c 11 + cmA j) := fun j hj hc => by
    rw [a3.2.1 j hj]
    rcases (show j = 0 ∨ j = 1 ∨ j = 2 ∨ j = 3 ∨ j = 4 by omega) with z | z | z | z | z <;> subst z
    · exact g4.symm
    · exact g5.symm
    · exact g6.symm
    · exact absurd hc (by decide)
    · exact absurd hc (by decide)
  have hA2 : ∀ k, k < 21000 → ¬ (k = 11 ∨ k = 13080 + 8 * c 11 ∨ k = 13080 + 8 * c 11 + 1 ∨ k = 13080 + 8 * c 11 + 2 ∨ k = 13080 + 8 * c 11 + 3 ∨ k = 13080 + 8 * c 11 + 4) → WA k = B k := fun k _ q => (b1 k q).symm
  have ha2 : v3.1 32 2 = nI (c 11 + 1) := by exact a3.1
  have hv3 : v3.1 33 (c 11 * 5 + 3) = nI t := by rw [a3.2.1 3 (by omega)]; rfl
  have hv4 : v3.1 33 (c 11 * 5 + 4) = nI (c 7) := by rw [a3.2.1 4 (by omega)]; rfl
  have HR := P_act (c := (cup c 7 (c 7 + 1))) H1 hK (k := 3) (o := (c 7)) (by omega) (show _ from (show c 7 < c 7 + 1 from Nat.lt_succ_self _)) (show c 11 < 512 by omega) ha2 g9 hv2 g4 g5 (show vb (WA (13080 + 8 * c 11 + 2)) 0 1 by rw [g6]; exact hla) g7 (fun z => absurd z (by decide)) (hv3.trans ((show nI t = B (9680 + 8 * c 7) from k0.symm))) (hv4.trans (rfl))  hw2 hA2
  exact ⟨v3, WA, eC, fun b q => (Ap_fn a3 (by omega) (by omega)).trans (funext fun j => fr b j (by omega)), HR, g0, g1, g2, g3, (fun k hk q => (hA2 k hk (by omega)).trans (fB k hk (by omega)))⟩

set_option maxHeartbeats 8000000 in
theorem s_makeT (H : RA w 3 A c K) (hK : K < 512) {s : Nat} (hs : s < c 1) (hn : c 3 < 40) {so le we : Int32} (hso : vb so 0 3) (hle : vb le 1 200) (hwe : vb we 1 500) : ∃ v B, f_Count_make_j92 (nI s) so le we w = some (nI (c 3), v) ∧ Kp v w ∧ RA v 3 B (cup (cup c 3 (c 3 + 1)) 11 (c 11 + 1)) (K + 1) ∧ B (240 + 12 * c 3) = so ∧ B (240 + 12 * c 3 + 1) = le ∧ B (240 + 12 * c 3 + 2) = we ∧ B (240 + 12 * c 3 + 3) = A (40 + 8 * s) ∧ B (240 + 12 * c 3 + 4) = nI (c 0) ∧ B (240 + 12 * c 3 + 5) = nI s ∧ B (240 + 12 * c 3 + 6) = 0 ∧ B (240 + 12 * c 3 + 7) = -1 ∧ B (240 + 12 * c 3 + 8) = -1 ∧ ∀ k, k < 21000 → ¬ (k = 3 ∨ 240 + 12 * c 3 ≤ k ∧ k < 240 + 12 * c 3 + 9 ∨ k = 11 ∨ k = 13080 + 8 * c 11 ∨ k = 13080 + 8 * c 11 + 1 ∨ k = 13080 + 8 * c 11 + 2 ∨ k = 13080 + 8 * c 11 + 3 ∨ k = 13080 + 8 * c 11 + 4) → B k = A k := by
  have lK := l_K H
  have l0 := l_0 H
  have l1 := l_1 H
  have l2 := l_2 H
  have l3 := l_3 H
  have l4 := l_4 H
  have l5 := l_5 H
  have l6 := l_6 H
  have l7 := l_7 H
  have l8 := l_8 H
  have l9 := l_9 H
  have l10 := l_10 H
  have l11 := l_11 H
  have l12 := l_12 H
  have l13 := l_13 H
  obtain ⟨u1, eo, ao, Jo⟩ := ap_open (j_th H) (by omega) so
  obtain ⟨u2, ep1, ap1, Jp1⟩ := ap_put ao Jo (j := 1) (by omega) (y := 1) rfl le
  obtain ⟨u3, ep2, ap2, Jp2⟩ := ap_put ap1 Jp1 (j := 2) (by omega) (y := 2) rfl we
  have es1 : f_Rows_at 6 (nI s) 0 u3 = some (A (40 + 8 * s), u3) := si_fr (fun b hb => Ap_fn ap2 (by omega) (by omega)) (a_si0 H hs)
  obtain ⟨u4, ep3, ap3, Jp3⟩ := ap_put ap2 Jp2 (j := 3) (by omega) (y := 3) rfl (A (40 + 8 * s))
  have z1 : u4.1 3 0 = nI (c 0) := (ap3.2.2 3 0 (by omega)).trans (rs_0 H)
  obtain ⟨u5, ep4, ap4, Jp4⟩ := ap_put ap3 Jp3 (j := 4) (by omega) (y := 4) rfl (nI (c 0))
  obtain ⟨u6, ep5, ap5, Jp5⟩ := ap_put ap4 Jp4 (j := 7) (by omega) (y := 7) rfl (nI s)
  obtain ⟨u7, ep6, ap6, Jp6⟩ := ap_put ap5 Jp5 (j := 8) (by omega) (y := 8) rfl (-1)
  obtain ⟨u8, ep7, ap7, Jp7⟩ := ap_put ap6 Jp6 (j := 9) (by omega) (y := 9) rfl (-1)
  obtain ⟨v2, ep8, ap8, Jp8⟩ := ap_put ap7 Jp7 (j := 10) (by omega) (y := 10) rfl (-1)
  have es2 : f_Rows_at 6 (nI s) 0 v2 = some (A (40 + 8 * s), v2) := si_fr (fun b hb => Ap_fn ap8 (by omega) (by omega)) (a_si0 H hs)
  have fr : ∀ b j, b ≠ 10 ∧ b ≠ 11 → v2.1 b j = w.1 b j := fun b j q => ap8.2.2 b j (by omega)
  have JA : JR v2 32 5 512 (c 11) := JR_eq (j_ac H) (funext fun j => fr 32 j (by omega))
  have z0 : v2.1 3 0 = nI (c 0) := (fr 3 0 (by omega)).trans (rs_0 H)
  obtain ⟨v3, e3, a3⟩ := c_act JA (by omega) z0 0 (A (40 + 8 * s)) (nI (c 3)) (nI (c 3))
  have eC : f_Count_make_j92 (nI s) so le we w = some (nI (c 3), v3) := by
    rw [f_Count_make_j92, eo, ob]
    try dsimp only
    rw [ep1, ob]
    try dsimp only
    rw [ep2, ob]
    try dsimp only
    rw [es1, ob]
    try dsimp only
    rw [ep3, ob]
    try dsimp only
    rw [z1, ep4, ob]
    try dsimp only
    rw [ep5, ob]
    try dsimp only
    rw [ep6, ob]
    try dsimp only
    rw [ep7, ob]
    try dsimp only
    rw [ep8, ob]
    try dsimp only
    rw [es2, ob]
    try dsimp only
    rw [e3, ob]
    try dsimp only
  obtain ⟨WA, hW⟩ : ∃ WA : Nat → Int32, WA = (up1 (up1 (up1 (up1 (up1 (up1 (up1 (up1 (up1 (up1 (up1 (up1 (up1 (up1 (up1 A (240 + 12 * c 3) (so)) (240 + 12 * c 3 + 1) (le)) (240 + 12 * c 3 + 2) (we)) (240 + 12 * c 3 + 3) (A (40 + 8 * s))) (240 + 12 * c 3 + 4) (nI (c 0))) (240 + 12 * c 3 + 5) (nI s)) (240 + 12 * c 3 + 7) (-1)) (240 + 12 * c 3 + 8) (-1)) (13080 + 8 * c 11) (0)) (13080 + 8 * c 11 + 1) (nI (c 0))) (13080 + 8 * c 11 + 2) (A (40 + 8 * s))) (13080 + 8 * c 11 + 3) (nI (c 3))) (13080 + 8 * c 11 + 4) (0)) (11) (nI (c 11 + 1))) (3) (nI (c 3 + 1))) := ⟨_, rfl⟩
  have g0 : WA (240 + 12 * c 3) = so := by rw [hW]; simp (disch := omega) only [up_k, up_eq]
  have g1 : WA (240 + 12 * c 3 + 1) = le := by rw [hW]; simp (disch := omega) only [up_k, up_eq]
  have g2 : WA (240 + 12 * c 3 + 2) = we := by rw [hW]; simp (disch := omega) only [up_k, up_eq]
  have g3 : WA (240 + 12 * c 3 + 3) = A (40 + 8 * s) := by rw [hW]; simp (disch := omega) only [up_k, up_eq]
  have g4 : WA (240 + 12 * c 3 + 4) = nI (c 0) := by rw [hW]; simp (disch := omega) only [up_k, up_eq]
  have g5 : WA (240 + 12 * c 3 + 5) = nI s := by rw [hW]; simp (disch := omega) only [up_k, up_eq]
  have g6 : WA (240 + 12 * c 3 + 7) = -1 := by rw [hW]; simp (disch := omega) only [up_k, up_eq]
  have g7 : WA (240 + 12 * c 3 + 8) = -1 := by rw [hW]; simp (disch := omega) only [up_k, up_eq]
  have g8 : WA (13080 + 8 * c 11) = 0 := by rw [hW]; simp (disch := omega) only [up_k, up_eq]
  have g9 : WA (13080 + 8 * c 11 + 1) = nI (c 0) := by rw [hW]; simp (disch := omega) only [up_k, up_eq]
  have g10 : WA (13080 + 8 * c 11 + 2) = A (40 + 8 * s) := by rw [hW]; simp (disch := omega) only [up_k, up_eq]
  have g11 : WA (13080 + 8 * c 11 + 3) = nI (c 3) := by rw [hW]; simp (disch := omega) only [up_k, up_eq]
  have g12 : WA (13080 + 8 * c 11 + 4) = 0 := by rw [hW]; simp (disch := omega) only [up_k, up_eq]
  have g13 : WA (11) = nI (c 11 + 1) := by rw [hW]; simp (disch := omega) only [up_k, up_eq]
  have g14 : WA (3) = nI (c 3 + 1) := by rw [hW]; simp (disch := omega) only [up_k, up_eq]
  obtain ⟨B, hB⟩ : ∃ B : Nat → Int32, B = fun k => if k = 11 ∨ k = 13080 + 8 * c 11 ∨ k = 13080 + 8 * c 11 + 1 ∨ k = 13080 + 8 * c 11 + 2 ∨ k = 13080 + 8 * c 11 + 3 ∨ k = 13080 + 8 * c 11 + 4 then A k else WA k := ⟨_, rfl⟩
  have b1 : ∀ k, ¬ (k = 11 ∨ k = 13080 + 8 * c 11 ∨ k = 13080 + 8 * c 11 + 1 ∨ k = 13080 + 8 * c 11 + 2 ∨ k = 13080 + 8 * c 11 + 3 ∨ k = 13080 + 8 * c 11 + 4) → B k = WA k := fun k q => by rw [hB]; exact if_neg q
  have fB : ∀ k, k < 21000 → ¬ (k = 3 ∨ k = 240 + 12 * c 3 ∨ k = 240 + 12 * c 3 + 1 ∨ k = 240 + 12 * c 3 + 2 ∨ k = 240 + 12 * c 3 + 3 ∨ k = 240 + 12 * c 3 + 4 ∨ k = 240 + 12 * c 3 + 5 ∨ k = 240 + 12 * c 3 + 7 ∨ k = 240 + 12 * c 3 + 8) → B k = A k := fun k _ hE => by
    rw [hB]; dsimp only
    by_cases q : k = 11 ∨ k = 13080 + 8 * c 11 ∨ k = 13080 + 8 * c 11 + 1 ∨ k = 13080 + 8 * c 11 + 2 ∨ k = 13080 + 8 * c 11 + 3 ∨ k = 13080 + 8 * c 11 + 4
    · rw [if_pos q]
    · rw [if_neg q, hW]; rw [up_k (by omega), up_k (by omega), up_k (by omega), up_k (by omega), up_k (by omega), up_k (by omega), up_k (by omega), up_k (by omega), up_k (by omega), up_k (by omega), up_k (by omega), up_k (by omega), up_k (by omega), up_k (by omega), up_k (by omega)]
  have k0 : B (240 + 12 * c 3) = so := (b1 _ (by omega)).trans g0
  have k1 : B (240 + 12 * c 3 + 1) = le := (b1 _ (by omega)).trans g1
  have k2 : B (240 + 12 * c 3 + 2) = we := (b1 _ (by omega)).trans g2
  have k3 : B (240 + 12 * c 3 + 3) = A (40 + 8 * s) := (b1 _ (by omega)).trans g3
  have k4 : B (240 + 12 * c 3 + 4) = nI (c 0) := (b1 _ (by omega)).trans g4
  have k5 : B (240 + 12 * c 3 + 5) = nI s := (b1 _ (by omega)).trans g5
  have k6 : B (240 + 12 * c 3 + 7) = -1 := (b1 _ (by omega)).trans g6
  have k7 : B (240 + 12 * c 3 + 8) = -1 := (b1 _ (by omega)).trans g7
  have k14 : B (3) = nI (c 3 + 1) := (b1 _ (by omega)).trans g14
  have ha1 : v2.1 10 2 = nI (c 3 + 1) := ap8.1
  have hv8 : v2.1 11 (c 3 * 11 + 8) = -1 := by rw [ap8.2.1 8 (by omega)]; rfl
  have hv6 : v2.1 11 (c 3 * 11 + 6) = 0 := by rw [ap8.2.1 6 (by omega)]; rfl
  have k9' : B (240 + 12 * c 3 + 6) = 0 := by
    rw [b1 _ (by omega), hW]
    simp (disch := omega) only [up_k]
    exact (p_Ithing H).2 (c 3) (Nat.le_refl _) (by omega)
  have hv1 : ∀ j, j < 11 → cmT j < 12 → v2.1 11 (c 3 * 11 + j) = B (240 + 12 * c 3 + cmT j) := fun j hj hc => by
    rw [ap8.2.1 j hj]
    rcases (show j = 0 ∨ j = 1 ∨ j = 2 ∨ j = 3 ∨ j = 4 ∨ j = 5 ∨ j = 6 ∨ j = 7 ∨ j = 8 ∨ j = 9 ∨ j = 10 by omega) with z | z | z | z | z | z | z | z | z | z | z <;> subst z
    · exact k0.symm
    · exact k1.symm
    · exact k2.symm
    · exact k3.symm
    · exact k4.symm
    · exact k9'.symm
    · exact absurd hc (by decide)
    · exact k5.symm
    · exact absurd hc (by decide)
    · exact k7.symm
    · exact k6.symm
  have hw1 : ∀ b j, 3 ≤ b → b < 38 → ¬ (b = 10 ∧ j = 2 ∨ b = 11 ∧ c 3 * 11 ≤ j ∧ j < c 3 * 11 + 11) → v2.1 b j = w.1 b j := fun b j _ _ q3 => ap8.2.2 b j q3
  have H1 : RA v2 3 B (cup c 3 (c 3 + 1)) K := P_thing H hs (by omega) ha1 k14 hv1 k5 (by rw [k0]; exact hso) (by rw [k1]; exact hle) (by rw [k2]; exact hwe) k3 k4 k6 k7 hv8 hv6 hw1 fB
  have hw2 : ∀ b j, 3 ≤ b → b < 38 → ¬ (b = 32 ∧ j = 2 ∨ b = 33 ∧ c 11 * 5 ≤ j ∧ j < c 11 * 5 + 5) → v3.1 b j = v2.1 b j := fun b j q1 q2 q3 => by
    exact a3.2.2 b j q3
  have hv2 : ∀ j, j < 5 → cmA j < 8 → v3.1 33 (c 11 * 5 + j) = WA (13080 + 8 * c 11 + cmA j) := fun j hj hc => by
    rw [a3.2.1 j hj]
    rcases (show j = 0 ∨ j = 1 ∨ j = 2 ∨ j = 3 ∨ j = 4 by omega) with z | z | z | z | z <;> subst z
    · exact g8.symm
    · exact g9.symm
    · exact g10.symm
    · exact absurd hc (by decide)
    · exact absurd hc (by decide)
  have hA2 : ∀ k, k < 21000 → ¬ (k = 11 ∨ k = 13080 + 8 * c 11 ∨ k = 13080 + 8 * c 11 + 1 ∨ k = 13080 + 8 * c 11 + 2 ∨ k = 13080 + 8 * c 11 + 3 ∨ k = 13080 + 8 * c 11 + 4) → WA k = B k := fun k _ q => (b1 k q).symm
  have ha2 : v3.1 32 2 = nI (c 11 + 1) := by exact a3.1
  have hv3 : v3.1 33 (c 11 * 5 + 3) = nI (c 3) := by rw [a3.2.1 3 (by omega)]; rfl
  have hv4 : v3.1 33 (c 11 * 5 + 4) = nI (c 3) := by rw [a3.2.1 4 (by omega)]; rfl
  have HR := P_act (c := (cup c 3 (c 3 + 1))) H1 hK (k := 0) (o := (c 3)) (by omega) (show _ from (show c 3 < c 3 + 1 from Nat.lt_succ_self _)) (show c 11 < 512 by omega) ha2 g13 hv2 g8 g9 (show vb (WA (13080 + 8 * c 11 + 2)) 0 1 by rw [g10]; exact (p_Isite H s hs).1) g11 (fun z => absurd z (by decide)) (hv3.trans (rfl)) (hv4.trans (rfl))  hw2 hA2
  have g9' : WA (240 + 12 * c 3 + 6) = 0 := by rw [hW]; simp (disch := omega) only [up_k]; exact (p_Ithing H).2 (c 3) (Nat.le_refl _) (by omega)
  exact ⟨v3, WA, eC, fun b q => (Ap_fn a3 (by omega) (by omega)).trans (funext fun j => fr b j (by omega)), HR, g0, g1, g2, g3, g4, g5, g9', g6, g7, (fun k hk q => (hA2 k hk (by omega)).trans (fB k hk (by omega)))⟩

set_option maxHeartbeats 8000000 in
theorem s_move (H : RA w 3 A c K) (hK : K < 512) {t s p l : Nat} (ht : t < c 3) (hs : s < c 1) (hp : mwh A (c 4) t (nI (c 0)) = nI p) (t3 : p < c 1) (t2 : ¬ c 4 = 100) (D : Dis A (c 2) p s (nI l)) (t4 : ¬ p = s) (t6 : 1 ≤ l) (t7 : l ≤ 540) (t8 : c 0 + l ≤ 1999) : ∃ v B, f_Count_move (nI t) (nI s) w = some (nI (c 4), v) ∧ Kp v w ∧ RA v 3 B (cup (cup c 4 (c 4 + 1)) 11 (c 11 + 1)) (K + 1) ∧ B (720 + 8 * c 4) = nI t ∧ B (720 + 8 * c 4 + 1) = nI (c 0) ∧ B (720 + 8 * c 4 + 2) = nI p ∧ B (720 + 8 * c 4 + 3) = nI s ∧ B (720 + 8 * c 4 + 4) = nI (c 0 + l) ∧ ∀ k, k < 21000 → ¬ (k = 4 ∨ k = 720 + 8 * c 4 ∨ k = 720 + 8 * c 4 + 1 ∨ k = 720 + 8 * c 4 + 2 ∨ k = 720 + 8 * c 4 + 3 ∨ k = 720 + 8 * c 4 + 4 ∨ k = 11 ∨ k = 13080 + 8 * c 11 ∨ k = 13080 + 8 * c 11 + 1 ∨ k = 13080 + 8 * c 11 + 2 ∨ k = 13080 + 8 * c 11 + 3 ∨ k = 13080 + 8 * c 11 + 4) → B k = A k := by
  have lK := l_K H
  have l0 := l_0 H
  have l1 := l_1 H
  have l2 := l_2 H
  have l3 := l_3 H
  have l4 := l_4 H
  have l5 := l_5 H
  have l6 := l_6 H
  have l7 := l_7 H
  have l8 := l_8 H
  have l9 := l_9 H
  have l10 := l_10 H
  have l11 := l_11 H
  have l12 := l_12 H
  have l13 := l_13 H
  have t0 := in_rng ht (show c 3 < 2 ^ 31 by omega)
  have t1 := in_rng hs (show c 1 < 2 ^ 31 by omega)
  obtain ⟨sx, th1, th2, th3, th4, th5, th6, hla, th8, th9, th10⟩ := (p_Ithing H).1 t ht
  obtain ⟨zw, ew, hzw⟩ := c_way H (nI p) (nI s)
  have ezw : zw = nI l := by
    rcases hzw with ⟨i, j, hi, hj, e1, e2, D2⟩ | ⟨q, -⟩
    · have e3 := (nI_eq (by omega) (by omega)).mp e1
      have e4 := (nI_eq (by omega) (by omega)).mp e2
      rw [← e3, ← e4] at D2
      exact Dis_un D2 D
    · exact absurd ⟨in_rng t3 (by omega), in_rng hs (by omega)⟩ q
  clear hzw
  have hl1 : ¬ nI l < 1 := nI_nlt (a := l) (b := 1) (by omega) (by omega)
  have hl2 : nI (c 0 + l) ≤ 1999 := nI_le (b := 1999) t8 (by omega)
  rw [ezw] at ew
  have hpc := t3
  have hln : c 0 + l ≤ 1999 := t8
  obtain ⟨nt, nm, rc1, rc2, rc3, rc4, rc5, rc6⟩ := p_Rchain H
  have rce3 : nt = c 3 := (nI_eq (by omega) (by omega)).mp (rc1.symm.trans (h_3 H))
  have rce4 : nm = c 4 := (nI_eq (by omega) (by omega)).mp (rc2.symm.trans (h_4 H))
  subst rce3; subst rce4
  obtain ⟨rc7, rc8⟩ := rc5 t ht
  obtain ⟨u1, eo, ao, Jo⟩ := ap_open (j_mv H) (by omega) (nI t)
  obtain ⟨u2, ep1, ap1, Jp1⟩ := ap_put ao Jo (j := 1) (by omega) (y := 1) rfl (nI p)
  obtain ⟨u3, ep2, ap2, Jp2⟩ := ap_put ap1 Jp1 (j := 2) (by omega) (y := 2) rfl (nI s)
  have z1 : u3.1 3 0 = nI (c 0) := (ap2.2.2 3 0 (by omega)).trans (rs_0 H)
  obtain ⟨u4, ep3, ap3, Jp3⟩ := ap_put ap2 Jp2 (j := 3) (by omega) (y := 3) rfl (nI (c 0))
  have z2 : u4.1 3 0 = nI (c 0) := (ap3.2.2 3 0 (by omega)).trans (rs_0 H)
  obtain ⟨u5, ep4, ap4, Jp4⟩ := ap_put ap3 Jp3 (j := 4) (by omega) (y := 4) rfl (nI (c 0 + l))
  have J5 : JR u5 10 11 40 (c 3) := JR_eq (j_th H) (Ap_fn ap4 (by omega) (by omega))
  have c11 : u5.1 11 = w.1 11 := Ap_fn ap4 (by omega) (by omega)
  have r8 : f_Rows_at 10 (nI t) 8 u5 = some (lmv (A) t (c 4), u5) := by
    have := r_at J5 ht (j := 8) (by omega)
    rw [c11] at this
    exact this.trans (congrArg (fun z => some (z, u5)) rc7)
  obtain ⟨u6, ep5, ap5, Jp5⟩ := ap_put ap4 Jp4 (j := 5) (by omega) (y := 5) rfl (lmv (A) t (c 4))
  have J6 : JR u6 10 11 40 (c 3) := JR_eq (j_th H) (Ap_fn ap5 (by omega) (by omega))
  have c11' : u6.1 11 = w.1 11 := Ap_fn ap5 (by omega) (by omega)
  obtain ⟨u7, hu7⟩ : ∃ v : jW, v = (jup u6.1 11 (t * 11 + 8) (nI (c 4)), u6.2) := ⟨_, rfl⟩
  have ep6 : f_Rows_put 10 (nI t) 8 (nI (c 4)) u6 = some u7 := by rw [hu7]; exact r_put (j := 8) J6 ht (by omega) _
  have J7 : JR u7 10 11 40 (c 3) := JR_eq J6 (by rw [hu7]; dsimp only; rw [jup_fn (by omega)])
  have r6 : f_Rows_at 10 (nI t) 6 u7 = some (nI (cmv (A) t (c 4)), u7) := by
    have := r_at J7 ht (j := 6) (by omega)
    rw [hu7] at this ⊢
    dsimp only at this
    rw [jup_k (by omega), c11'] at this
    exact this.trans (congrArg (fun z => some (z, _)) rc8)
  obtain ⟨v2, hv2'⟩ : ∃ v : jW, v = (jup u7.1 11 (t * 11 + 6) (nI (cmv (A) t (c 4) + 1)), u7.2) := ⟨_, rfl⟩
  have ep7 : f_Rows_put 10 (nI t) 6 (nI (cmv (A) t (c 4) + 1)) u7 = some v2 := by rw [hv2']; exact r_put (j := 6) J7 ht (by omega) _
  have J8 : JR v2 10 11 40 (c 3) := JR_eq J7 (by rw [hv2']; dsimp only; rw [jup_fn (by omega)])
  have hv2b : ∀ b j, ¬ (b = 11 ∧ (j = t * 11 + 8 ∨ j = t * 11 + 6)) → v2.1 b j = u6.1 b j := fun b j q => by
    rw [hv2']; dsimp only; rw [jup_ap, if_neg (by omega), hu7]; dsimp only; rw [jup_ap, if_neg (by omega)]
  have r3 : f_Rows_at 10 (nI t) 3 v2 = some (A (240 + 12 * t + 3), v2) := by
    have a := a_th3 H ht
    have b := r_at (j_th H) ht (j := 3) (by omega)
    have e := congrArg Prod.fst (Option.some.inj (b.symm.trans a))
    dsimp only at e
    have := r_at J8 ht (j := 3) (by omega)
    rw [hv2b 11 (t * 11 + 3) (by omega), c11', e] at this
    exact this
  have fr : ∀ b j, b ≠ 10 ∧ b ≠ 11 ∧ b ≠ 12 ∧ b ≠ 13 → v2.1 b j = w.1 b j := fun b j q => (hv2b b j (by omega)).trans (ap5.2.2 b j (by omega))
  have JA : JR v2 32 5 512 (c 11) := JR_eq (j_ac H) (funext fun j => fr 32 j (by omega))
  have z0 : v2.1 3 0 = nI (c 0) := (fr 3 0 (by omega)).trans (rs_0 H)
  obtain ⟨v3, e3, a3⟩ := c_act JA (by omega) z0 1 (A (240 + 12 * t + 3)) (nI t) (nI (c 4))
  have eC : f_Count_move (nI t) (nI s) w = some (nI (c 4), v3) := by
    rw [f_Count_move, s_th H, ob]
    try dsimp only
    rw [b2_p t0, if_neg one_ne, u_mv H, ob]
    try dsimp only
    rw [b2_n t2, if_pos rfl, rs_0 H, c_pl H ht, ob]
    try dsimp only
    rw [hp, ew, ob]
    try dsimp only
    rw [rs_0 H, if_neg hl1, nI_add, if_pos hl2, eo, ob]
    try dsimp only
    rw [ep1, ob]
    try dsimp only
    rw [ep2, ob]
    try dsimp only
    rw [z1, ep3, ob]
    try dsimp only
    rw [z2, nI_add, ep4, ob]
    try dsimp only
    rw [r8, ob]
    try dsimp only
    rw [ep5, ob]
    try dsimp only
    rw [ep6, ob]
    try dsimp only
    rw [r6, ob]
    try dsimp only
    rw [ip_1, ep7, ob]
    try dsimp only
    rw [r3, ob]
    try dsimp only
    rw [e3, ob]
    try dsimp only
  obtain ⟨WA, hW⟩ : ∃ WA : Nat → Int32, WA = (up1 (up1 (up1 (up1 (up1 (up1 (up1 (up1 (up1 (up1 (up1 (up1 A (720 + 8 * c 4) (nI t)) (720 + 8 * c 4 + 1) (nI (c 0))) (720 + 8 * c 4 + 2) (nI p)) (720 + 8 * c 4 + 3) (nI s)) (720 + 8 * c 4 + 4) (nI (c 0 + l))) (13080 + 8 * c 11) (1)) (13080 + 8 * c 11 + 1) (nI (c 0))) (13080 + 8 * c 11 + 2) (A (240 + 12 * t + 3))) (13080 + 8 * c 11 + 3) (nI (c 4))) (13080 + 8 * c 11 + 4) (0)) (11) (nI (c 11 + 1))) (4) (nI (c 4 + 1))) := ⟨_, rfl⟩
  have g0 : WA (720 + 8 * c 4) = nI t := by rw [hW]; simp (disch := omega) only [up_k, up_eq]
  have g1 : WA (720 + 8 * c 4 + 1) = nI (c 0) := by rw [hW]; simp (disch := omega) only [up_k, up_eq]
  have g2 : WA (720 + 8 * c 4 + 2) = nI p := by rw [hW]; simp (disch := omega) only [up_k, up_eq]
  have g3 : WA (720 + 8 * c 4 + 3) = nI s := by rw [hW]; simp (disch := omega) only [up_k, up_eq]
  have g4 : WA (720 + 8 * c 4 + 4) = nI (c 0 + l) := by rw [hW]; simp (disch := omega) only [up_k, up_eq]
  have g5 : WA (13080 + 8 * c 11) = 1 := by rw [hW]; simp (disch := omega) only [up_k, up_eq]
  have g6 : WA (13080 + 8 * c 11 + 1) = nI (c 0) := by rw [hW]; simp (disch := omega) only [up_k, up_eq]
  have g7 : WA (13080 + 8 * c 11 + 2) = A (240 + 12 * t + 3) := by rw [hW]; simp (disch := omega) only [up_k, up_eq]
  have g8 : WA (13080 + 8 * c 11 + 3) = nI (c 4) := by rw [hW]; simp (disch := omega) only [up_k, up_eq]
  have g9 : WA (13080 + 8 * c 11 + 4) = 0 := by rw [hW]; simp (disch := omega) only [up_k, up_eq]
  have g10 : WA (11) = nI (c 11 + 1) := by rw [hW]; simp (disch := omega) only [up_k, up_eq]
  have g11 : WA (4) = nI (c 4 + 1) := by rw [hW]; simp (disch := omega) only [up_k, up_eq]
  obtain ⟨B, hB⟩ : ∃ B : Nat → Int32, B = fun k => if k = 11 ∨ k = 13080 + 8 * c 11 ∨ k = 13080 + 8 * c 11 + 1 ∨ k = 13080 + 8 * c 11 + 2 ∨ k = 13080 + 8 * c 11 + 3 ∨ k = 13080 + 8 * c 11 + 4 then A k else WA k := ⟨_, rfl⟩
  have b1 : ∀ k, ¬ (k = 11 ∨ k = 13080 + 8 * c 11 ∨ k = 13080 + 8 * c 11 + 1 ∨ k = 13080 + 8 * c 11 + 2 ∨ k = 13080 + 8 * c 11 + 3 ∨ k = 13080 + 8 * c 11 + 4) → B k = WA k := fun k q => by rw [hB]; exact if_neg q
  have fB : ∀ k, k < 21000 → ¬ (k = 4 ∨ k = 720 + 8 * c 4 ∨ k = 720 + 8 * c 4 + 1 ∨ k = 720 + 8 * c 4 + 2 ∨ k = 720 + 8 * c 4 + 3 ∨ k = 720 + 8 * c 4 + 4) → B k = A k := fun k _ hE => by
    rw [hB]; dsimp only
    by_cases q : k = 11 ∨ k = 13080 + 8 * c 11 ∨ k = 13080 + 8 * c 11 + 1 ∨ k = 13080 + 8 * c 11 + 2 ∨ k = 13080 + 8 * c 11 + 3 ∨ k = 13080 + 8 * c 11 + 4
    · rw [if_pos q]
    · rw [if_neg q, hW]; rw [up_k (by omega), up_k (by omega), up_k (by omega), up_k (by omega), up_k (by omega), up_k (by omega), up_k (by omega), up_k (by omega), up_k (by omega), up_k (by omega), up_k (by omega), up_k (by omega)]
  have k0 : B (720 + 8 * c 4) = nI t := (b1 _ (by omega)).trans g0
  have k1 : B (720 + 8 * c 4 + 1) = nI (c 0) := (b1 _ (by omega)).trans g1
  have k2 : B (720 + 8 * c 4 + 2) = nI p := (b1 _ (by omega)).trans g2
  have k3 : B (720 + 8 * c 4 + 3) = nI s := (b1 _ (by omega)).trans g3
  have k4 : B (720 + 8 * c 4 + 4) = nI (c 0 + l) := (b1 _ (by omega)).trans g4
  have k11 : B (4) = nI (c 4 + 1) := (b1 _ (by omega)).trans g11
  have ha1 : v2.1 12 2 = nI (c 4 + 1) := (hv2b 12 2 (by omega)).trans ap5.1
  have hv13 : ∀ j, v2.1 13 j = u6.1 13 j := fun j => hv2b 13 j (by omega)
  have hv5 : v2.1 13 (c 4 * 6 + 5) = lmv (A) t (c 4) := by rw [hv13, ap5.2.1 5 (by omega)]; rfl
  have hv8 : v2.1 11 (t * 11 + 8) = nI (c 4) := by rw [hv2']; dsimp only; rw [jup_k (by omega), hu7]; exact jup_eq
  have hv6 : v2.1 11 (t * 11 + 6) = nI (cmv (A) t (c 4) + 1) := by rw [hv2']; exact jup_eq
  have hv1 : ∀ j, j < 6 → cmM j < 8 → v2.1 13 (c 4 * 6 + j) = B (720 + 8 * c 4 + cmM j) := fun j hj hc => by
    rw [hv13, ap5.2.1 j hj]
    rcases (show j = 0 ∨ j = 1 ∨ j = 2 ∨ j = 3 ∨ j = 4 ∨ j = 5 by omega) with z | z | z | z | z | z <;> subst z
    · exact k0.symm
    · exact k2.symm
    · exact k3.symm
    · exact k1.symm
    · exact k4.symm
    · exact absurd hc (by decide)
  have hll : A (40 + 8 * s) = A (240 + 12 * t + 3) := by
    rw [← mwh_land H ht hp t3]
    rcases D with ⟨h1, h2⟩ | ⟨l', h1, h2, ⟨n', h3⟩, h4⟩
    · exact absurd h1 (nI_ne_m1 (by omega))
    · exact Wk_land (p_Iroad H) (by omega) (by omega) n' s l' h3
  have hw1 : ∀ b j, 3 ≤ b → b < 38 → ¬ (b = 12 ∧ j = 2 ∨ b = 13 ∧ c 4 * 6 ≤ j ∧ j < c 4 * 6 + 6 ∨ b = 11 ∧ (j = t * 11 + 8 ∨ j = t * 11 + 6)) → v2.1 b j = w.1 b j := fun b j _ _ q3 => (hv2b b j (by omega)).trans (ap5.2.2 b j (by omega))
  have H1 : RA v2 3 B (cup c 4 (c 4 + 1)) K := P_move H ht hpc hs (e := c 0 + l) (by omega) hln hll (by omega) ha1 k11 hv1 k0 k1 k2 k3 k4 hv5 hv8 hv6 hw1 fB
  have hw2 : ∀ b j, 3 ≤ b → b < 38 → ¬ (b = 32 ∧ j = 2 ∨ b = 33 ∧ c 11 * 5 ≤ j ∧ j < c 11 * 5 + 5) → v3.1 b j = v2.1 b j := fun b j q1 q2 q3 => by
    exact a3.2.2 b j q3
  have hv2 : ∀ j, j < 5 → cmA j < 8 → v3.1 33 (c 11 * 5 + j) = WA (13080 + 8 * c 11 + cmA j) := fun j hj hc => by
    rw [a3.2.1 j hj]
    rcases (show j = 0 ∨ j = 1 ∨ j = 2 ∨ j = 3 ∨ j = 4 by omega) with z | z | z | z | z <;> subst z
    · exact g5.symm
    · exact g6.symm
    · exact g7.symm
    · exact absurd hc (by decide)
    · exact absurd hc (by decide)
  have hA2 : ∀ k, k < 21000 → ¬ (k = 11 ∨ k = 13080 + 8 * c 11 ∨ k = 13080 + 8 * c 11 + 1 ∨ k = 13080 + 8 * c 11 + 2 ∨ k = 13080 + 8 * c 11 + 3 ∨ k = 13080 + 8 * c 11 + 4) → WA k = B k := fun k _ q => (b1 k q).symm
  have ha2 : v3.1 32 2 = nI (c 11 + 1) := by exact a3.1
  have hv3 : v3.1 33 (c 11 * 5 + 3) = nI t := by rw [a3.2.1 3 (by omega)]; rfl
  have hv4 : v3.1 33 (c 11 * 5 + 4) = nI (c 4) := by rw [a3.2.1 4 (by omega)]; rfl
  have HR := P_act (c := (cup c 4 (c 4 + 1))) H1 hK (k := 1) (o := (c 4)) (by omega) (show _ from (show c 4 < c 4 + 1 from Nat.lt_succ_self _)) (show c 11 < 512 by omega) ha2 g10 hv2 g5 g6 (show vb (WA (13080 + 8 * c 11 + 2)) 0 1 by rw [g7]; exact hla) g8 (fun z => absurd z (by decide)) (hv3.trans ((show nI t = B (720 + 8 * c 4) from k0.symm))) (hv4.trans (rfl))  hw2 hA2
  exact ⟨v3, WA, eC, fun b q => (Ap_fn a3 (by omega) (by omega)).trans (funext fun j => fr b j (by omega)), HR, g0, g1, g2, g3, g4, (fun k hk q => (hA2 k hk (by omega)).trans (fB k hk (by omega)))⟩

set_option maxHeartbeats 8000000 in
theorem s_step1 (H : RA w 3 A c K) (hK : K < 512) {t p : Nat} (ht : t < c 3) (hp : mwh A (c 4) t (nI (c 0)) = nI p) (hpc : p < c 1) (t2 : A (40 + 8 * p + 1) = 3) (t3 : ¬ A (240 + 12 * t + 8) = nI (c 0)) (t4 : A (240 + 12 * t + 6) + 1 < sys A c (nI (c 0)) 3) : ∃ v B, f_Count_step (nI t) w = some (A (240 + 12 * t + 6) + 1, v) ∧ Kp v w ∧ RA v 3 B (cup c 11 (c 11 + 1)) (K + 1) ∧ B (240 + 12 * t + 6) = A (240 + 12 * t + 6) + 1 ∧ B (240 + 12 * t + 7) = A (240 + 12 * t + 7) ∧ B (240 + 12 * t + 8) = nI (c 0) ∧ ∀ k, k < 21000 → ¬ (k = 240 + 12 * t + 6 ∨ k = 240 + 12 * t + 7 ∨ k = 240 + 12 * t + 8 ∨ k = 11 ∨ k = 13080 + 8 * c 11 ∨ k = 13080 + 8 * c 11 + 1 ∨ k = 13080 + 8 * c 11 + 2 ∨ k = 13080 + 8 * c 11 + 3 ∨ k = 13080 + 8 * c 11 + 4) → B k = A k := by
  have lK := l_K H
  have l0 := l_0 H
  have l1 := l_1 H
  have l2 := l_2 H
  have l3 := l_3 H
  have l4 := l_4 H
  have l5 := l_5 H
  have l6 := l_6 H
  have l7 := l_7 H
  have l8 := l_8 H
  have l9 := l_9 H
  have l10 := l_10 H
  have l11 := l_11 H
  have l12 := l_12 H
  have l13 := l_13 H
  have t0 := in_rng ht (show c 3 < 2 ^ 31 by omega)
  obtain ⟨sx, th1, th2, th3, th4, th5, th6, hla, th8, th9, th10⟩ := (p_Ithing H).1 t ht
  obtain ⟨v1, hv1'⟩ : ∃ v : jW, v = (jup w.1 11 (t * 11 + 5) (A (240 + 12 * t + 6) + 1), w.2) := ⟨_, rfl⟩
  have ep1 : f_Rows_put 10 (nI t) 5 (A (240 + 12 * t + 6) + 1) w = some v1 := by rw [hv1']; exact r_put (j := 5) (j_th H) ht (by omega) _
  have J1 : JR v1 10 11 40 (c 3) := JR_eq (j_th H) (by rw [hv1']; dsimp only; rw [jup_fn (by omega)])
  have z1 : v1.1 3 0 = nI (c 0) := by rw [hv1']; dsimp only; rw [jup_ne (by omega)]; exact rs_0 H
  obtain ⟨vm2, hvm2⟩ : ∃ v : jW, v = (jup v1.1 11 (t * 11 + 9) (nI (c 0)), v1.2) := ⟨_, rfl⟩
  have ep2 : f_Rows_put 10 (nI t) 9 (nI (c 0)) v1 = some vm2 := by rw [hvm2]; exact r_put (j := 9) J1 ht (by omega) _
  have J2 : JR vm2 10 11 40 (c 3) := JR_eq J1 (by rw [hvm2]; dsimp only; rw [jup_fn (by omega)])
  have z2 : vm2.1 3 0 = nI (c 0) := by rw [hvm2]; dsimp only; rw [jup_ne (by omega)]; exact z1
  obtain ⟨Bm, hBm⟩ : ∃ B : Nat → Int32, B = fun k => if k = 240 + 12 * t + 6 then A (240 + 12 * t + 6) + 1 else if k = 240 + 12 * t + 8 then nI (c 0) else A k := ⟨_, rfl⟩
  have c10 : w.1 11 (t * 11 + 10) = A (240 + 12 * t + 7) := by
    have a := a_th10 H ht
    have b := r_at (j_th H) ht (j := 10) (by omega)
    exact congrArg Prod.fst (Option.some.inj (b.symm.trans a))
  have m7 : Bm (240 + 12 * t + 7) = A (240 + 12 * t + 7) := by rw [hBm]; dsimp only; rw [if_neg (by omega), if_neg (by omega)]
  have m8 : Bm (240 + 12 * t + 8) = nI (c 0) := by rw [hBm]; dsimp only; rw [if_neg (by omega), if_pos rfl]
  have m6 : Bm (240 + 12 * t + 6) = A (240 + 12 * t + 6) + 1 := by rw [hBm]; exact if_pos rfl
  have Hm : RA vm2 3 Bm c K := P_steps H ht (by rw [m7]; exact th9) (by rw [m8]; exact Or.inr (vb_k rfl (Nat.zero_le _) (Nat.le_refl _))) (by rw [m6, hvm2]; dsimp only; rw [jup_k (by omega), hv1']; exact jup_eq) (by rw [m8, hvm2]; exact jup_eq) (by rw [m7, hvm2]; dsimp only; rw [jup_k (by omega), hv1']; dsimp only; rw [jup_k (by omega)]; exact c10) (fun b j _ _ q => by
    rw [hvm2]; dsimp only; rw [jup_ap, if_neg (by omega), hv1']; dsimp only; rw [jup_ap, if_neg (by omega)]) (fun k _ q => by rw [hBm]; dsimp only; rw [if_neg (by omega), if_neg (by omega)])
  have eT : f_Treaty_tells 3 (nI (c 0)) vm2 = some (sys (A) c (nI (c 0)) 3, vm2) := by
    have k := c_tells (w := vm2) (d := nI (c 0)) Hm (wh := 3) (by omega)
    have hAt : At Bm (A) := fun k h1 h2 => by rw [hBm]; dsimp only; rw [if_neg (by omega), if_neg (by omega)]
    rw [sys_cg H hAt rfl] at k
    exact k
  obtain ⟨v2, hv2'⟩ : ∃ v : jW, v = vm2 := ⟨_, rfl⟩
  have J3 : JR v2 10 11 40 (c 3) := by rw [hv2']; exact J2
  have fr0 : ∀ b j, ¬ (b = 11 ∧ (j = t * 11 + 5 ∨ j = t * 11 + 9 ∨ j = t * 11 + 10)) → v2.1 b j = w.1 b j := fun b j q => by
    rw [hv2', hvm2]; dsimp only; rw [jup_ap, if_neg (by omega), hv1']; dsimp only; rw [jup_ap, if_neg (by omega)]
  have fr : ∀ b j, b ≠ 10 ∧ b ≠ 11 → v2.1 b j = w.1 b j := fun b j q => fr0 b j (by omega)
  have r3 : f_Rows_at 10 (nI t) 3 v2 = some (A (240 + 12 * t + 3), v2) := by
    have a := a_th3 H ht
    have b := r_at (j_th H) ht (j := 3) (by omega)
    have e := congrArg Prod.fst (Option.some.inj (b.symm.trans a))
    dsimp only at e
    have := r_at J3 ht (j := 3) (by omega)
    rw [fr0 11 (t * 11 + 3) (by omega), e] at this
    exact this
  have JA : JR v2 32 5 512 (c 11) := JR_eq (j_ac H) (funext fun j => fr 32 j (by omega))
  have z0 : v2.1 3 0 = nI (c 0) := (fr 3 0 (by omega)).trans (rs_0 H)
  obtain ⟨v3, e3, a3⟩ := c_act JA (by omega) z0 2 (A (240 + 12 * t + 3)) (nI t) (A (240 + 12 * t + 8))
  have eC : f_Count_step (nI t) w = some (A (240 + 12 * t + 6) + 1, v3) := by
    rw [f_Count_step, s_th H, ob]
    try dsimp only
    rw [b2_p t0, if_neg one_ne, rs_0 H, c_pl H ht, ob]
    try dsimp only
    rw [hp, a_th9 H ht, ob]
    try dsimp only
    rw [a_si1 H hpc, ob]
    try dsimp only
    rw [if_pos t2, rs_0 H, if_neg t3, a_th5 H ht, ob]
    try dsimp only
    rw [ep1, ob]
    try dsimp only
    rw [z1, ep2, ob]
    try dsimp only
    rw [z2, eT, ob]
    try dsimp only
    rw [if_pos t4, ← hv2']
    try dsimp only
    rw [f_Count_step_j168, r3, ob]
    try dsimp only
    rw [e3, ob]
    try dsimp only
  obtain ⟨WA, hW⟩ : ∃ WA : Nat → Int32, WA = (up1 (up1 (up1 (up1 (up1 (up1 (up1 (up1 A (13080 + 8 * c 11) (2)) (13080 + 8 * c 11 + 1) (nI (c 0))) (13080 + 8 * c 11 + 2) (A (240 + 12 * t + 3))) (13080 + 8 * c 11 + 3) (nI t)) (13080 + 8 * c 11 + 4) (A (240 + 12 * t + 8))) (11) (nI (c 11 + 1))) (240 + 12 * t + 6) (A (240 + 12 * t + 6) + 1)) (240 + 12 * t + 8) (nI (c 0))) := ⟨_, rfl⟩
  have g0 : WA (13080 + 8 * c 11) = 2 := by rw [hW]; simp (disch := omega) only [up_k, up_eq]
  have g1 : WA (13080 + 8 * c 11 + 1) = nI (c 0) := by rw [hW]; simp (disch := omega) only [up_k, up_eq]
  have g2 : WA (13080 + 8 * c 11 + 2) = A (240 + 12 * t + 3) := by rw [hW]; simp (disch := omega) only [up_k, up_eq]
  have g3 : WA (13080 + 8 * c 11 + 3) = nI t := by rw [hW]; simp (disch := omega) only [up_k, up_eq]
  have g4 : WA (13080 + 8 * c 11 + 4) = A (240 + 12 * t + 8) := by rw [hW]; simp (disch := omega) only [up_k, up_eq]
  have g5 : WA (11) = nI (c 11 + 1) := by rw [hW]; simp (disch := omega) only [up_k, up_eq]
  have g6 : WA (240 + 12 * t + 6) = A (240 + 12 * t + 6) + 1 := by rw [hW]; simp (disch := omega) only [up_k, up_eq]
  have g7 : WA (240 + 12 * t + 8) = nI (c 0) := by rw [hW]; simp (disch := omega) only [up_k, up_eq]
  obtain ⟨B, hB⟩ : ∃ B : Nat → Int32, B = fun k => if k = 11 ∨ k = 13080 + 8 * c 11 ∨ k = 13080 + 8 * c 11 + 1 ∨ k = 13080 + 8 * c 11 + 2 ∨ k = 13080 + 8 * c 11 + 3 ∨ k = 13080 + 8 * c 11 + 4 then A k else WA k := ⟨_, rfl⟩
  have b1 : ∀ k, ¬ (k = 11 ∨ k = 13080 + 8 * c 11 ∨ k = 13080 + 8 * c 11 + 1 ∨ k = 13080 + 8 * c 11 + 2 ∨ k = 13080 + 8 * c 11 + 3 ∨ k = 13080 + 8 * c 11 + 4) → B k = WA k := fun k q => by rw [hB]; exact if_neg q
  have fB : ∀ k, k < 21000 → ¬ (k = 240 + 12 * t + 6 ∨ k = 240 + 12 * t + 7 ∨ k = 240 + 12 * t + 8) → B k = A k := fun k _ hE => by
    rw [hB]; dsimp only
    by_cases q : k = 11 ∨ k = 13080 + 8 * c 11 ∨ k = 13080 + 8 * c 11 + 1 ∨ k = 13080 + 8 * c 11 + 2 ∨ k = 13080 + 8 * c 11 + 3 ∨ k = 13080 + 8 * c 11 + 4
    · rw [if_pos q]
    · rw [if_neg q, hW]; rw [up_k (by omega), up_k (by omega), up_k (by omega), up_k (by omega), up_k (by omega), up_k (by omega), up_k (by omega), up_k (by omega)]
  have k6 : B (240 + 12 * t + 6) = A (240 + 12 * t + 6) + 1 := (b1 _ (by omega)).trans g6
  have k7 : B (240 + 12 * t + 8) = nI (c 0) := (b1 _ (by omega)).trans g7
  have q5 : v2.1 11 (t * 11 + 5) = A (240 + 12 * t + 6) + 1 := by rw [hv2', hvm2]; dsimp only; rw [jup_k (by omega), hv1']; exact jup_eq
  have q9 : v2.1 11 (t * 11 + 9) = nI (c 0) := by rw [hv2', hvm2]; exact jup_eq
  have kb7 : B (240 + 12 * t + 7) = A (240 + 12 * t + 7) := by rw [b1 _ (by omega), hW]; simp (disch := omega) only [up_k]
  have q10 : v2.1 11 (t * 11 + 10) = B (240 + 12 * t + 7) := by rw [kb7, hv2', hvm2]; dsimp only; rw [jup_k (by omega), hv1']; dsimp only; rw [jup_k (by omega)]; exact c10
  have q7 : vm (B (240 + 12 * t + 7)) (c 0) := by rw [kb7]; exact th9
  have hw1 : ∀ b j, 3 ≤ b → b < 38 → ¬ (b = 11 ∧ (j = t * 11 + 5 ∨ j = t * 11 + 9 ∨ j = t * 11 + 10)) → v2.1 b j = w.1 b j := fun b j _ _ q3 => fr0 b j q3
  have H1 : RA v2 3 B c K := P_steps H ht q7 (by rw [k7]; exact Or.inr (vb_k rfl (Nat.zero_le _) (Nat.le_refl _))) (q5.trans k6.symm) (q9.trans k7.symm) q10 hw1 fB
  have hw2 : ∀ b j, 3 ≤ b → b < 38 → ¬ (b = 32 ∧ j = 2 ∨ b = 33 ∧ c 11 * 5 ≤ j ∧ j < c 11 * 5 + 5) → v3.1 b j = v2.1 b j := fun b j q1 q2 q3 => by
    exact a3.2.2 b j q3
  have hv2 : ∀ j, j < 5 → cmA j < 8 → v3.1 33 (c 11 * 5 + j) = WA (13080 + 8 * c 11 + cmA j) := fun j hj hc => by
    rw [a3.2.1 j hj]
    rcases (show j = 0 ∨ j = 1 ∨ j = 2 ∨ j = 3 ∨ j = 4 by omega) with z | z | z | z | z <;> subst z
    · exact g0.symm
    · exact g1.symm
    · exact g2.symm
    · exact absurd hc (by decide)
    · exact absurd hc (by decide)
  have hA2 : ∀ k, k < 21000 → ¬ (k = 11 ∨ k = 13080 + 8 * c 11 ∨ k = 13080 + 8 * c 11 + 1 ∨ k = 13080 + 8 * c 11 + 2 ∨ k = 13080 + 8 * c 11 + 3 ∨ k = 13080 + 8 * c 11 + 4) → WA k = B k := fun k _ q => (b1 k q).symm
  have ha2 : v3.1 32 2 = nI (c 11 + 1) := by exact a3.1
  have hv3 : v3.1 33 (c 11 * 5 + 3) = nI t := by rw [a3.2.1 3 (by omega)]; rfl
  have hv4 : v3.1 33 (c 11 * 5 + 4) = A (240 + 12 * t + 8) := by rw [a3.2.1 4 (by omega)]; rfl
  have HR := P_act (c := c) H1 hK (k := 2) (o := t) (by omega) (show _ from ht) (show c 11 < 512 by omega) ha2 g5 hv2 g0 g1 (show vb (WA (13080 + 8 * c 11 + 2)) 0 1 by rw [g2]; exact hla) g3 (fun _ => show WA (13080 + 8 * c 11 + 4) = -1 ∨ vb (WA (13080 + 8 * c 11 + 4)) 0 (c 0) by rw [g4]; exact th10) (hv3.trans (rfl)) (hv4.trans ((show A (240 + 12 * t + 8) = if (2 : Nat) = 2 then WA (13080 + 8 * c 11 + 4) else nI t by rw [if_pos rfl, g4])))  hw2 hA2
  exact ⟨v3, WA, eC, fun b q => (Ap_fn a3 (by omega) (by omega)).trans (funext fun j => fr b j (by omega)), HR, g6, (by rw [hW]; simp (disch := omega) only [up_k]), g7, (fun k hk q => (hA2 k hk (by omega)).trans (fB k hk (by omega)))⟩

set_option maxHeartbeats 8000000 in
theorem s_step2 (H : RA w 3 A c K) (hK : K < 512) {t p : Nat} (ht : t < c 3) (hp : mwh A (c 4) t (nI (c 0)) = nI p) (hpc : p < c 1) (t2 : A (40 + 8 * p + 1) = 3) (t3 : ¬ A (240 + 12 * t + 8) = nI (c 0)) (t4 : ¬ A (240 + 12 * t + 6) + 1 < sys A c (nI (c 0)) 3) : ∃ v B, f_Count_step (nI t) w = some (A (240 + 12 * t + 6) + 1, v) ∧ Kp v w ∧ RA v 3 B (cup c 11 (c 11 + 1)) (K + 1) ∧ B (240 + 12 * t + 6) = A (240 + 12 * t + 6) + 1 ∧ B (240 + 12 * t + 7) = nI (c 0) ∧ B (240 + 12 * t + 8) = nI (c 0) ∧ ∀ k, k < 21000 → ¬ (k = 240 + 12 * t + 6 ∨ k = 240 + 12 * t + 7 ∨ k = 240 + 12 * t + 8 ∨ k = 11 ∨ k = 13080 + 8 * c 11 ∨ k = 13080 + 8 * c 11 + 1 ∨ k = 13080 + 8 * c 11 + 2 ∨ k = 13080 + 8 * c 11 + 3 ∨ k = 13080 + 8 * c 11 + 4) → B k = A k := by
  have lK := l_K H
  have l0 := l_0 H
  have l1 := l_1 H
  have l2 := l_2 H
  have l3 := l_3 H
  have l4 := l_4 H
  have l5 := l_5 H
  have l6 := l_6 H
  have l7 := l_7 H
  have l8 := l_8 H
  have l9 := l_9 H
  have l10 := l_10 H
  have l11 := l_11 H
  have l12 := l_12 H
  have l13 := l_13 H
  have t0 := in_rng ht (show c 3 < 2 ^ 31 by omega)
  obtain ⟨sx, th1, th2, th3, th4, th5, th6, hla, th8, th9, th10⟩ := (p_Ithing H).1 t ht
  obtain ⟨v1, hv1'⟩ : ∃ v : jW, v = (jup w.1 11 (t * 11 + 5) (A (240 + 12 * t + 6) + 1), w.2) := ⟨_, rfl⟩
  have ep1 : f_Rows_put 10 (nI t) 5 (A (240 + 12 * t + 6) + 1) w = some v1 := by rw [hv1']; exact r_put (j := 5) (j_th H) ht (by omega) _
  have J1 : JR v1 10 11 40 (c 3) := JR_eq (j_th H) (by rw [hv1']; dsimp only; rw [jup_fn (by omega)])
  have z1 : v1.1 3 0 = nI (c 0) := by rw [hv1']; dsimp only; rw [jup_ne (by omega)]; exact rs_0 H
  obtain ⟨vm2, hvm2⟩ : ∃ v : jW, v = (jup v1.1 11 (t * 11 + 9) (nI (c 0)), v1.2) := ⟨_, rfl⟩
  have ep2 : f_Rows_put 10 (nI t) 9 (nI (c 0)) v1 = some vm2 := by rw [hvm2]; exact r_put (j := 9) J1 ht (by omega) _
  have J2 : JR vm2 10 11 40 (c 3) := JR_eq J1 (by rw [hvm2]; dsimp only; rw [jup_fn (by omega)])
  have z2 : vm2.1 3 0 = nI (c 0) := by rw [hvm2]; dsimp only; rw [jup_ne (by omega)]; exact z1
  obtain ⟨Bm, hBm⟩ : ∃ B : Nat → Int32, B = fun k => if k = 240 + 12 * t + 6 then A (240 + 12 * t + 6) + 1 else if k = 240 + 12 * t + 8 then nI (c 0) else A k := ⟨_, rfl⟩
  have c10 : w.1 11 (t * 11 + 10) = A (240 + 12 * t + 7) := by
    have a := a_th10 H ht
    have b := r_at (j_th H) ht (j := 10) (by omega)
    exact congrArg Prod.fst (Option.some.inj (b.symm.trans a))
  have m7 : Bm (240 + 12 * t + 7) = A (240 + 12 * t + 7) := by rw [hBm]; dsimp only; rw [if_neg (by omega), if_neg (by omega)]
  have m8 : Bm (240 + 12 * t + 8) = nI (c 0) := by rw [hBm]; dsimp only; rw [if_neg (by omega), if_pos rfl]
  have m6 : Bm (240 + 12 * t + 6) = A (240 + 12 * t + 6) + 1 := by rw [hBm]; exact if_pos rfl
  have Hm : RA vm2 3 Bm c K := P_steps H ht (by rw [m7]; exact th9) (by rw [m8]; exact Or.inr (vb_k rfl (Nat.zero_le _) (Nat.le_refl _))) (by rw [m6, hvm2]; dsimp only; rw [jup_k (by omega), hv1']; exact jup_eq) (by rw [m8, hvm2]; exact jup_eq) (by rw [m7, hvm2]; dsimp only; rw [jup_k (by omega), hv1']; dsimp only; rw [jup_k (by omega)]; exact c10) (fun b j _ _ q => by
    rw [hvm2]; dsimp only; rw [jup_ap, if_neg (by omega), hv1']; dsimp only; rw [jup_ap, if_neg (by omega)]) (fun k _ q => by rw [hBm]; dsimp only; rw [if_neg (by omega), if_neg (by omega)])
  have eT : f_Treaty_tells 3 (nI (c 0)) vm2 = some (sys (A) c (nI (c 0)) 3, vm2) := by
    have k := c_tells (w := vm2) (d := nI (c 0)) Hm (wh := 3) (by omega)
    have hAt : At Bm (A) := fun k h1 h2 => by rw [hBm]; dsimp only; rw [if_neg (by omega), if_neg (by omega)]
    rw [sys_cg H hAt rfl] at k
    exact k
  obtain ⟨v2, hv2'⟩ : ∃ v : jW, v = (jup vm2.1 11 (t * 11 + 10) (nI (c 0)), vm2.2) := ⟨_, rfl⟩
  have ep3 : f_Rows_put 10 (nI t) 10 (nI (c 0)) vm2 = some v2 := by rw [hv2']; exact r_put (j := 10) J2 ht (by omega) _
  have J3 : JR v2 10 11 40 (c 3) := JR_eq J2 (by rw [hv2']; dsimp only; rw [jup_fn (by omega)])
  have fr0 : ∀ b j, ¬ (b = 11 ∧ (j = t * 11 + 5 ∨ j = t * 11 + 9 ∨ j = t * 11 + 10)) → v2.1 b j = w.1 b j := fun b j q => by
    rw [hv2']; dsimp only; rw [jup_ap, if_neg (by omega), hvm2]; dsimp only; rw [jup_ap, if_neg (by omega), hv1']; dsimp only; rw [jup_ap, if_neg (by omega)]
  have fr : ∀ b j, b ≠ 10 ∧ b ≠ 11 → v2.1 b j = w.1 b j := fun b j q => fr0 b j (by omega)
  have r3 : f_Rows_at 10 (nI t) 3 v2 = some (A (240 + 12 * t + 3), v2) := by
    have a := a_th3 H ht
    have b := r_at (j_th H) ht (j := 3) (by omega)
    have e := congrArg Prod.fst (Option.some.inj (b.symm.trans a))
    dsimp only at e
    have := r_at J3 ht (j := 3) (by omega)
    rw [fr0 11 (t * 11 + 3) (by omega), e] at this
    exact this
  have JA : JR v2 32 5 512 (c 11) := JR_eq (j_ac H) (funext fun j => fr 32 j (by omega))
  have z0 : v2.1 3 0 = nI (c 0) := (fr 3 0 (by omega)).trans (rs_0 H)
  obtain ⟨v3, e3, a3⟩ := c_act JA (by omega) z0 2 (A (240 + 12 * t + 3)) (nI t) (A (240 + 12 * t + 8))
  have eC : f_Count_step (nI t) w = some (A (240 + 12 * t + 6) + 1, v3) := by
    rw [f_Count_step, s_th H, ob]
    try dsimp only
    rw [b2_p t0, if_neg one_ne, rs_0 H, c_pl H ht, ob]
    try dsimp only
    rw [hp, a_th9 H ht, ob]
    try dsimp only
    rw [a_si1 H hpc, ob]
    try dsimp only
    rw [if_pos t2, rs_0 H, if_neg t3, a_th5 H ht, ob]
    try dsimp only
    rw [ep1, ob]
    try dsimp only
    rw [z1, ep2, ob]
    try dsimp only
    rw [z2, eT, ob]
    try dsimp only
    rw [if_neg t4, z2, ep3, ob]
    try dsimp only
    rw [f_Count_step_j168, r3, ob]
    try dsimp only
    rw [e3, ob]
    try dsimp only
  obtain ⟨WA, hW⟩ : ∃ WA : Nat → Int32, WA = (up1 (up1 (up1 (up1 (up1 (up1 (up1 (up1 (up1 A (13080 + 8 * c 11) (2)) (13080 + 8 * c 11 + 1) (nI (c 0))) (13080 + 8 * c 11 + 2) (A (240 + 12 * t + 3))) (13080 + 8 * c 11 + 3) (nI t)) (13080 + 8 * c 11 + 4) (A (240 + 12 * t + 8))) (11) (nI (c 11 + 1))) (240 + 12 * t + 6) (A (240 + 12 * t + 6) + 1)) (240 + 12 * t + 8) (nI (c 0))) (240 + 12 * t + 7) (nI (c 0))) := ⟨_, rfl⟩
  have g0 : WA (13080 + 8 * c 11) = 2 := by rw [hW]; simp (disch := omega) only [up_k, up_eq]
  have g1 : WA (13080 + 8 * c 11 + 1) = nI (c 0) := by rw [hW]; simp (disch := omega) only [up_k, up_eq]
  have g2 : WA (13080 + 8 * c 11 + 2) = A (240 + 12 * t + 3) := by rw [hW]; simp (disch := omega) only [up_k, up_eq]
  have g3 : WA (13080 + 8 * c 11 + 3) = nI t := by rw [hW]; simp (disch := omega) only [up_k, up_eq]
  have g4 : WA (13080 + 8 * c 11 + 4) = A (240 + 12 * t + 8) := by rw [hW]; simp (disch := omega) only [up_k, up_eq]
  have g5 : WA (11) = nI (c 11 + 1) := by rw [hW]; simp (disch := omega) only [up_k, up_eq]
  have g6 : WA (240 + 12 * t + 6) = A (240 + 12 * t + 6) + 1 := by rw [hW]; simp (disch := omega) only [up_k, up_eq]
  have g7 : WA (240 + 12 * t + 8) = nI (c 0) := by rw [hW]; simp (disch := omega) only [up_k, up_eq]
  have g8 : WA (240 + 12 * t + 7) = nI (c 0) := by rw [hW]; simp (disch := omega) only [up_k, up_eq]
  obtain ⟨B, hB⟩ : ∃ B : Nat → Int32, B = fun k => if k = 11 ∨ k = 13080 + 8 * c 11 ∨ k = 13080 + 8 * c 11 + 1 ∨ k = 13080 + 8 * c 11 + 2 ∨ k = 13080 + 8 * c 11 + 3 ∨ k = 13080 + 8 * c 11 + 4 then A k else WA k := ⟨_, rfl⟩
  have b1 : ∀ k, ¬ (k = 11 ∨ k = 13080 + 8 * c 11 ∨ k = 13080 + 8 * c 11 + 1 ∨ k = 13080 + 8 * c 11 + 2 ∨ k = 13080 + 8 * c 11 + 3 ∨ k = 13080 + 8 * c 11 + 4) → B k = WA k := fun k q => by rw [hB]; exact if_neg q
  have fB : ∀ k, k < 21000 → ¬ (k = 240 + 12 * t + 6 ∨ k = 240 + 12 * t + 7 ∨ k = 240 + 12 * t + 8) → B k = A k := fun k _ hE => by
    rw [hB]; dsimp only
    by_cases q : k = 11 ∨ k = 13080 + 8 * c 11 ∨ k = 13080 + 8 * c 11 + 1 ∨ k = 13080 + 8 * c 11 + 2 ∨ k = 13080 + 8 * c 11 + 3 ∨ k = 13080 + 8 * c 11 + 4
    · rw [if_pos q]
    · rw [if_neg q, hW]; rw [up_k (by omega), up_k (by omega), up_k (by omega), up_k (by omega), up_k (by omega), up_k (by omega), up_k (by omega), up_k (by omega), up_k (by omega)]
  have k6 : B (240 + 12 * t + 6) = A (240 + 12 * t + 6) + 1 := (b1 _ (by omega)).trans g6
  have k7 : B (240 + 12 * t + 8) = nI (c 0) := (b1 _ (by omega)).trans g7
  have k8 : B (240 + 12 * t + 7) = nI (c 0) := (b1 _ (by omega)).trans g8
  have q5 : v2.1 11 (t * 11 + 5) = A (240 + 12 * t + 6) + 1 := by rw [hv2']; dsimp only; rw [jup_k (by omega), hvm2]; dsimp only; rw [jup_k (by omega), hv1']; exact jup_eq
  have q9 : v2.1 11 (t * 11 + 9) = nI (c 0) := by rw [hv2']; dsimp only; rw [jup_k (by omega), hvm2]; exact jup_eq
  have q10 : v2.1 11 (t * 11 + 10) = B (240 + 12 * t + 7) := by rw [k8, hv2']; exact jup_eq
  have q7 : vm (B (240 + 12 * t + 7)) (c 0) := by rw [k8]; exact Or.inr (vb_k rfl (Nat.zero_le _) (Nat.le_refl _))
  have hw1 : ∀ b j, 3 ≤ b → b < 38 → ¬ (b = 11 ∧ (j = t * 11 + 5 ∨ j = t * 11 + 9 ∨ j = t * 11 + 10)) → v2.1 b j = w.1 b j := fun b j _ _ q3 => fr0 b j q3
  have H1 : RA v2 3 B c K := P_steps H ht q7 (by rw [k7]; exact Or.inr (vb_k rfl (Nat.zero_le _) (Nat.le_refl _))) (q5.trans k6.symm) (q9.trans k7.symm) q10 hw1 fB
  have hw2 : ∀ b j, 3 ≤ b → b < 38 → ¬ (b = 32 ∧ j = 2 ∨ b = 33 ∧ c 11 * 5 ≤ j ∧ j < c 11 * 5 + 5) → v3.1 b j = v2.1 b j := fun b j q1 q2 q3 => by
    exact a3.2.2 b j q3
  have hv2 : ∀ j, j < 5 → cmA j < 8 → v3.1 33 (c 11 * 5 + j) = WA (13080 + 8 * c 11 + cmA j) := fun j hj hc => by
    rw [a3.2.1 j hj]
    rcases (show j = 0 ∨ j = 1 ∨ j = 2 ∨ j = 3 ∨ j = 4 by omega) with z | z | z | z | z <;> subst z
    · exact g0.symm
    · exact g1.symm
    · exact g2.symm
    · exact absurd hc (by decide)
    · exact absurd hc (by decide)
  have hA2 : ∀ k, k < 21000 → ¬ (k = 11 ∨ k = 13080 + 8 * c 11 ∨ k = 13080 + 8 * c 11 + 1 ∨ k = 13080 + 8 * c 11 + 2 ∨ k = 13080 + 8 * c 11 + 3 ∨ k = 13080 + 8 * c 11 + 4) → WA k = B k := fun k _ q => (b1 k q).symm
  have ha2 : v3.1 32 2 = nI (c 11 + 1) := by exact a3.1
  have hv3 : v3.1 33 (c 11 * 5 + 3) = nI t := by rw [a3.2.1 3 (by omega)]; rfl
  have hv4 : v3.1 33 (c 11 * 5 + 4) = A (240 + 12 * t + 8) := by rw [a3.2.1 4 (by omega)]; rfl
  have HR := P_act (c := c) H1 hK (k := 2) (o := t) (by omega) (show _ from ht) (show c 11 < 512 by omega) ha2 g5 hv2 g0 g1 (show vb (WA (13080 + 8 * c 11 + 2)) 0 1 by rw [g2]; exact hla) g3 (fun _ => show WA (13080 + 8 * c 11 + 4) = -1 ∨ vb (WA (13080 + 8 * c 11 + 4)) 0 (c 0) by rw [g4]; exact th10) (hv3.trans (rfl)) (hv4.trans ((show A (240 + 12 * t + 8) = if (2 : Nat) = 2 then WA (13080 + 8 * c 11 + 4) else nI t by rw [if_pos rfl, g4])))  hw2 hA2
  exact ⟨v3, WA, eC, fun b q => (Ap_fn a3 (by omega) (by omega)).trans (funext fun j => fr b j (by omega)), HR, g6, g8, g7, (fun k hk q => (hA2 k hk (by omega)).trans (fB k hk (by omega)))⟩

set_option maxHeartbeats 8000000 in
theorem s_visit (H : RA w 3 A c K) (hK : K < 512) (h6 : c 6 = 0) {l s : Nat} (hl : l ≤ 1) (hs : s < c 1) (t2 : ¬ A (40 + 8 * s) = nI l) (h0 : 1 ≤ c 0) (h8 : c 8 < 100) : ∃ v B, f_Count_visit (nI l) (nI s) w = some (nI (c 8), v) ∧ Kp v w ∧ RA v 3 B (cup (cup c 8 (c 8 + 1)) 11 (c 11 + 1)) (K + 1) ∧ B (11280 + 12 * c 8) = nI l ∧ B (11280 + 12 * c 8 + 1) = nI s ∧ B (11280 + 12 * c 8 + 2) = nI (c 0) ∧ (∀ j, j < 5 → B (11280 + 12 * c 8 + 3 + j) = nI (vct A c s j (c 3))) ∧ B (11280 + 12 * c 8 + 8) = vsw A c s ∧ B (11280 + 12 * c 8 + 9) = vsl A c s ∧ ∀ k, k < 21000 → ¬ (k = 8 ∨ 11280 + 12 * c 8 ≤ k ∧ k < 11280 + 12 * c 8 + 10 ∨ k = 11 ∨ k = 13080 + 8 * c 11 ∨ k = 13080 + 8 * c 11 + 1 ∨ k = 13080 + 8 * c 11 + 2 ∨ k = 13080 + 8 * c 11 + 3 ∨ k = 13080 + 8 * c 11 + 4) → B k = A k := by
  have lK := l_K H
  have l0 := l_0 H
  have l1 := l_1 H
  have l2 := l_2 H
  have l3 := l_3 H
  have l4 := l_4 H
  have l5 := l_5 H
  have l6 := l_6 H
  have l7 := l_7 H
  have l8 := l_8 H
  have l9 := l_9 H
  have l10 := l_10 H
  have l11 := l_11 H
  have l12 := l_12 H
  have l13 := l_13 H
  have t0 : ¬ nI l < 0 ∧ nI l ≤ 1 := ⟨nI_pos (by omega), nI_le (b := 1) hl (by omega)⟩
  have t1 := in_rng hs (show c 1 < 2 ^ 31 by omega)
  have t3 : ¬ nI (c 0) = 0 := nI_ne' (b := 0) (by omega) (by omega) (by omega)
  have t4 : ¬ c 8 = 100 := by omega
  obtain ⟨u1, e1, a1, J1⟩ := ap_open (j_vi H) h8 0
  obtain ⟨u2, e2, a2, J2⟩ := ap_put a1 J1 (j := 6) (by omega) (y := 6) rfl (nI (c 0))
  obtain ⟨u3, e3, a3, J3⟩ := ap_put a2 J2 (j := 7) (by omega) (y := 7) rfl (nI l)
  obtain ⟨u4, e4, a4, J4⟩ := ap_put a3 J3 (j := 8) (by omega) (y := 8) rfl (nI s)
  have V4 : Vst u4 w (A) c l s 0 := by
    refine ⟨J4, fun j hj => ?_, fun b j _ q => a4.2.2 b j q⟩
    rw [a4.2.1 j hj]
    rcases (show j = 0 ∨ j = 1 ∨ j = 2 ∨ j = 3 ∨ j = 4 ∨ j = 5 ∨ j = 6 ∨ j = 7 ∨ j = 8 ∨ j = 9 by omega) with z | z | z | z | z | z | z | z | z | z <;> subst z <;> rfl
  have G4 := Vst_RA H h8 hl hs h0 (Nat.zero_le _) V4
  have z1 : u1.1 3 0 = nI (c 0) := (a1.2.2 3 0 (by omega)).trans (rs_0 H)
  have z4 : u4.1 3 0 = nI (c 0) := (a4.2.2 3 0 (by omega)).trans (rs_0 H)
  have eT : f_Treaty_textFor 4 (nI (c 0)) u4 = some (oi (tf (A) 4 (nI (c 0)) (c 6)), u4) := by
    have q := c_textFor (k := 4) (d := nI (c 0)) G4 (by omega)
    rw [show (cup c 8 (c 8 + 1)) 6 = c 6 from rfl, tf_cgH H vra_At] at q
    exact q
  have eK : f_Rows_at 6 (nI s) 1 u4 = some (A (40 + 8 * s + 1), u4) := si_fr (fun b hb => Ap_fn a4 (by omega) (by omega)) (a_si1 H hs)
  obtain ⟨u5, e5, V5⟩ := c_vis_h H h6 h8 hl hs h0 (c 3) 0 jfu u4 (by omega) (by unfold jfu; omega) V4
  have eL : f_State_lookAround (nI (c 8)) (nI s) (nI (c 0)) u4 = some u5 := by rw [f_State_lookAround, eT, ob]; dsimp only; rw [eK, ob]; exact e5
  have z5 : u5.1 3 0 = nI (c 0) := (V5.2.2 3 0 (by omega) (by omega)).trans (rs_0 H)
  obtain ⟨v2, e6, J6, s5, s9, sr, sf⟩ := c_vseal H h8 hl hs h0 V5
  have z6 : v2.1 3 0 = nI (c 0) := (sf 3 0 (by omega) (by omega)).trans (rs_0 H)
  have JA : JR v2 32 5 512 (c 11) := JR_eq (j_ac H) (funext fun j => sf 32 j (by omega) (by omega))
  obtain ⟨v3, e7, a7⟩ := c_act JA (by omega) z6 4 (nI l) (nI s) (nI (c 8))
  have eC : f_Count_visit (nI l) (nI s) w = some (nI (c 8), v3) := by
    rw [f_Count_visit, f_Count_isAbroad, c_isLand, ob]
    dsimp only
    rw [b2_p t0, if_neg one_ne, s_si H, ob]
    dsimp only
    rw [b2_p t1, if_neg one_ne, a_si0 H hs, ob]
    dsimp only
    rw [if_neg t2, ob, if_neg one_ne, rs_0 H, if_neg t3, u_vi H, ob]
    dsimp only
    rw [b2_n t4, if_pos rfl, e1, ob]
    dsimp only
    rw [z1, e2, ob, e3, ob, e4, ob, z4, eL, ob, z5, e6, ob, e7, ob]
  have x94 : ∀ i, ¬ (11280 + 12 * c 8 ≤ i ∧ i < 11280 + 12 * c 8 + 8) → mra A c l s (c 3) i = A i := fun i q => mra_A q
  obtain ⟨WA, hW⟩ : ∃ WA : Nat → Int32, WA = (up1 (up1 (up1 (up1 (up1 (up1 (up1 (up1 (up1 (mra A c l s (c 3)) (11280 + 12 * c 8 + 8) (vsw (A) c s)) (11280 + 12 * c 8 + 9) (vsl A c s)) (13080 + 8 * c 11) (4)) (13080 + 8 * c 11 + 1) (nI (c 0))) (13080 + 8 * c 11 + 2) (nI l)) (13080 + 8 * c 11 + 3) (nI (c 8))) (13080 + 8 * c 11 + 4) (0)) (11) (nI (c 11 + 1))) (8) (nI (c 8 + 1))) := ⟨_, rfl⟩
  have g0 : WA (11280 + 12 * c 8 + 8) = vsw (A) c s := by rw [hW]; simp (disch := omega) only [up_k, up_eq]
  have g1 : WA (11280 + 12 * c 8 + 9) = vsl A c s := by rw [hW]; simp (disch := omega) only [up_k, up_eq]
  have g2 : WA (13080 + 8 * c 11) = 4 := by rw [hW]; simp (disch := omega) only [up_k, up_eq]
  have g3 : WA (13080 + 8 * c 11 + 1) = nI (c 0) := by rw [hW]; simp (disch := omega) only [up_k, up_eq]
  have g4 : WA (13080 + 8 * c 11 + 2) = nI l := by rw [hW]; simp (disch := omega) only [up_k, up_eq]
  have g5 : WA (13080 + 8 * c 11 + 3) = nI (c 8) := by rw [hW]; simp (disch := omega) only [up_k, up_eq]
  have g6 : WA (13080 + 8 * c 11 + 4) = 0 := by rw [hW]; simp (disch := omega) only [up_k, up_eq]
  have g7 : WA (11) = nI (c 11 + 1) := by rw [hW]; simp (disch := omega) only [up_k, up_eq]
  have g8 : WA (8) = nI (c 8 + 1) := by rw [hW]; simp (disch := omega) only [up_k, up_eq]
  obtain ⟨B, hB⟩ : ∃ B : Nat → Int32, B = fun k => if k = 11 ∨ k = 13080 + 8 * c 11 ∨ k = 13080 + 8 * c 11 + 1 ∨ k = 13080 + 8 * c 11 + 2 ∨ k = 13080 + 8 * c 11 + 3 ∨ k = 13080 + 8 * c 11 + 4 then A k else WA k := ⟨_, rfl⟩
  have b1 : ∀ k, ¬ (k = 11 ∨ k = 13080 + 8 * c 11 ∨ k = 13080 + 8 * c 11 + 1 ∨ k = 13080 + 8 * c 11 + 2 ∨ k = 13080 + 8 * c 11 + 3 ∨ k = 13080 + 8 * c 11 + 4) → B k = WA k := fun k q => by rw [hB]; exact if_neg q
  have wx : ∀ k, ¬ (k = 8 ∨ k = 11280 + 12 * c 8 + 8 ∨ k = 11280 + 12 * c 8 + 9 ∨ k = 11 ∨ k = 13080 + 8 * c 11 ∨ k = 13080 + 8 * c 11 + 1 ∨ k = 13080 + 8 * c 11 + 2 ∨ k = 13080 + 8 * c 11 + 3 ∨ k = 13080 + 8 * c 11 + 4) → WA k = mra A c l s (c 3) k := fun k hE => by rw [hW]; rw [up_k (by omega), up_k (by omega), up_k (by omega), up_k (by omega), up_k (by omega), up_k (by omega), up_k (by omega), up_k (by omega), up_k (by omega)]
  have fB : ∀ k, k < 21000 → ¬ (k = 8 ∨ k = 11280 + 12 * c 8 ∨ k = 11280 + 12 * c 8 + 1 ∨ k = 11280 + 12 * c 8 + 2 ∨ k = 11280 + 12 * c 8 + 3 ∨ k = 11280 + 12 * c 8 + 4 ∨ k = 11280 + 12 * c 8 + 5 ∨ k = 11280 + 12 * c 8 + 6 ∨ k = 11280 + 12 * c 8 + 7 ∨ k = 11280 + 12 * c 8 + 8 ∨ k = 11280 + 12 * c 8 + 9) → B k = A k := fun k _ hE => by
    rw [hB]; dsimp only
    by_cases q : k = 11 ∨ k = 13080 + 8 * c 11 ∨ k = 13080 + 8 * c 11 + 1 ∨ k = 13080 + 8 * c 11 + 2 ∨ k = 13080 + 8 * c 11 + 3 ∨ k = 13080 + 8 * c 11 + 4
    · rw [if_pos q]
    · rw [if_neg q, wx k (by omega)]; exact x94 k (by omega)
  have k0 : B (11280 + 12 * c 8) = nI l := by rw [b1 _ (by omega), wx _ (by omega)]; unfold mra; rw [if_pos rfl]
  have k1 : B (11280 + 12 * c 8 + 1) = nI s := by rw [b1 _ (by omega), wx _ (by omega)]; unfold mra; rw [if_neg (by omega), if_pos rfl]
  have k2 : B (11280 + 12 * c 8 + 2) = nI (c 0) := by rw [b1 _ (by omega), wx _ (by omega)]; unfold mra; rw [if_neg (by omega), if_neg (by omega), if_pos rfl]
  have k3 : ∀ j, j < 5 → B (11280 + 12 * c 8 + 3 + j) = nI (vct (A) c s j (c 3)) := fun j hj => by
    rw [b1 _ (by omega), wx _ (by omega)]
    unfold mra
    rw [if_neg (by omega), if_neg (by omega), if_neg (by omega), if_pos (by omega), show 11280 + 12 * c 8 + 3 + j - (11280 + 12 * c 8 + 3) = j by omega]
  have k8 : B (11280 + 12 * c 8 + 8) = vsw (A) c s := (b1 _ (by omega)).trans g0
  have k9 : B (11280 + 12 * c 8 + 9) = vsl A c s := (b1 _ (by omega)).trans g1
  have kc : B 8 = nI (c 8 + 1) := (b1 _ (by omega)).trans g8
  obtain ⟨y2, hy⟩ : ∃ y2 : jW, y2 = (fun b j => if b = 23 then w.1 b j else v2.1 b j, v2.2) := ⟨_, rfl⟩
  have yn : ∀ b, b ≠ 23 → y2.1 b = v2.1 b := fun b q => by rw [hy]; exact funext fun j => if_neg q
  have hw1 : ∀ b j, 3 ≤ b → b < 38 → ¬ (b = 26 ∧ j = 2 ∨ b = 27 ∧ c 8 * 10 ≤ j ∧ j < c 8 * 10 + 10) → y2.1 b j = w.1 b j := fun b j _ _ q => by
    by_cases z : b = 23
    · rw [hy]; exact if_pos z
    · rw [yn b z]; exact sf b j z q
  have hv1 : ∀ j, j < 10 → cmV j < 12 → y2.1 27 (c 8 * 10 + j) = B (11280 + 12 * c 8 + cmV j) := fun j hj hc => by
    rw [yn 27 (by omega)]
    rcases (show j < 5 ∨ j = 5 ∨ j = 6 ∨ j = 7 ∨ j = 8 ∨ j = 9 by omega) with z | z | z | z | z | z
    · rw [sr j (by omega) (by omega), show cmV j = j + 3 by unfold cmV; rw [if_pos (by omega)], vrw, if_pos z, show 11280 + 12 * c 8 + (j + 3) = 11280 + 12 * c 8 + 3 + j by omega, k3 j z]
    · subst z; exact s5.trans k8.symm
    · subst z; exact (sr 6 (by omega) (by omega)).trans k2.symm
    · subst z; exact (sr 7 (by omega) (by omega)).trans k0.symm
    · subst z; exact (sr 8 (by omega) (by omega)).trans k1.symm
    · subst z; exact absurd hc (by decide)
  have hsw : vsw (A) c s = -1 ∨ vb (vsw (A) c s) 0 1 := by
    unfold vsw
    split
    · exact Or.inl rfl
    · cases brk (A) (nI s) (sdy (A) (vsl A c s).toNatClampNeg) (nI (c 0) - 1) (c 4) 0
      · exact Or.inr ⟨1, rfl, by omega, by omega⟩
      · exact Or.inr ⟨0, rfl, by omega, by omega⟩
  have Hy : RA y2 3 B (cup c 8 (c 8 + 1)) K := P_vis H hs h0 h8 (by rw [yn 26 (by omega)]; exact J6.2.1) kc hv1 k1 k2 (by rw [k0]; exact vb_k rfl (Nat.zero_le _) hl) (fun j hj => by rw [k3 j hj]; exact vb_k rfl (Nat.zero_le _) (by have := vct_le (A := A) (c := c) (s := s) (j := j) (c 3); omega)) (by rw [k8]; exact hsw) (fun z => by
    rw [k8] at z
    rcases vsl_c (A) c s with e | ⟨i, i1, i2, i3⟩
    · unfold vsw at z
      rw [e, if_pos rfl] at z
      exact absurd z (by decide)
    · exact ⟨i, i1, k9.trans i2, by rw [yn 27 (by omega)]; exact s9 i i2 i1⟩) hw1 fB
  have H1 : RA v2 3 B (cup c 8 (c 8 + 1)) K := RA_fr Hy (fun b q1 q2 q3 => (yn b q3).symm)
  have hw2 : ∀ b j, 3 ≤ b → b < 38 → ¬ (b = 32 ∧ j = 2 ∨ b = 33 ∧ c 11 * 5 ≤ j ∧ j < c 11 * 5 + 5) → v3.1 b j = v2.1 b j := fun b j q1 q2 q3 => by
    exact a7.2.2 b j q3
  have hv2 : ∀ j, j < 5 → cmA j < 8 → v3.1 33 (c 11 * 5 + j) = WA (13080 + 8 * c 11 + cmA j) := fun j hj hc => by
    rw [a7.2.1 j hj]
    rcases (show j = 0 ∨ j = 1 ∨ j = 2 ∨ j = 3 ∨ j = 4 by omega) with z | z | z | z | z <;> subst z
    · exact g2.symm
    · exact g3.symm
    · exact g4.symm
    · exact absurd hc (by decide)
    · exact absurd hc (by decide)
  have hA2 : ∀ k, k < 21000 → ¬ (k = 11 ∨ k = 13080 + 8 * c 11 ∨ k = 13080 + 8 * c 11 + 1 ∨ k = 13080 + 8 * c 11 + 2 ∨ k = 13080 + 8 * c 11 + 3 ∨ k = 13080 + 8 * c 11 + 4) → WA k = B k := fun k _ q => (b1 k q).symm
  have ha2 : v3.1 32 2 = nI (c 11 + 1) := by exact a7.1
  have hv3 : v3.1 33 (c 11 * 5 + 3) = nI s := by rw [a7.2.1 3 (by omega)]; rfl
  have hv4 : v3.1 33 (c 11 * 5 + 4) = nI (c 8) := by rw [a7.2.1 4 (by omega)]; rfl
  have HR := P_act (c := cup c 8 (c 8 + 1)) H1 hK (k := 4) (o := c 8) (by omega) (show c 8 < c 8 + 1 from Nat.lt_succ_self _) (show c 11 < 512 by omega) ha2 g7 hv2 g2 g3 (show vb (WA (13080 + 8 * c 11 + 2)) 0 1 by rw [g4]; exact vb_k rfl (Nat.zero_le _) hl) g5 (fun z => absurd z (by decide)) (hv3.trans (show nI s = B (11280 + 12 * c 8 + 1) from k1.symm)) (hv4.trans rfl) hw2 hA2

  have kx : ∀ k, k < 13080 ∧ k ≠ 11 → WA k = B k := fun k q => (b1 k (by omega)).symm
  exact ⟨v3, WA, eC, fun b q => (Ap_fn a7 (by omega) (by omega)).trans (funext fun j => sf b j (by omega) (by omega)), HR, (kx _ (by omega)).trans k0, (kx _ (by omega)).trans k1, (kx _ (by omega)).trans k2, fun j hj => (kx _ (by omega)).trans (k3 j hj), g0, g1, (fun k hk q => (hA2 k hk (by omega)).trans (fB k hk (by omega)))⟩

end S1
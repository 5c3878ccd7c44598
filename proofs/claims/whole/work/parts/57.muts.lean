/-! LAYER B: steps of things, sites -/
section Q6
variable {w v : jW} {A : Nat → Int32} {c ci : Nat → Nat} {K : Nat}

/-- what the treaty says of steps isn't changed by a step and its act -/
theorem says_step (H : RA w 3 A c K) (hK : K < 512) {t : Nat} (ht : t < c 3) {v6 : Int32} {u : jW} (a0 : u.1 94 (13080 + 8 * c 11) = 2) (a1 : u.1 94 (13080 + 8 * c 11 + 1) = nI (c 0)) (a2 : u.1 94 (13080 + 8 * c 11 + 2) = A (240 + 12 * t + 3)) (a3 : u.1 94 (13080 + 8 * c 11 + 3) = nI t) (a4 : u.1 94 (13080 + 8 * c 11 + 4) = A (240 + 12 * t + 8)) (a5 : u.1 94 11 = nI (c 11 + 1)) (a6 : u.1 94 (240 + 12 * t + 6) = v6) (a8 : u.1 94 (240 + 12 * t + 8) = nI (c 0)) (fU : ∀ k, k < 21000 → ¬ (k = 240 + 12 * t + 6 ∨ k = 240 + 12 * t + 8 ∨ k = 11 ∨ k = 13080 + 8 * c 11 ∨ k = 13080 + 8 * c 11 + 1 ∨ k = 13080 + 8 * c 11 + 2 ∨ k = 13080 + 8 * c 11 + 3 ∨ k = 13080 + 8 * c 11 + 4) → u.1 94 k = A k) : f_Model_saysOf (nI (c 0)) (nI 3) u = some (sys A c (nI (c 0)) 3, u) := by
  have lK := l_K H
  have l0 := l_0 H
  have l3 := l_3 H
  have l6 := l_6 H
  have l11 := l_11 H
  obtain ⟨sx, th1, th2, th3, th4, th5, th6, hla, th8, th9, th10⟩ := (p_Ithing H).1 t ht
  obtain ⟨v2, hv2⟩ : ∃ v : jW, v = (jup (jup w.1 11 (t * 11 + 5) v6) 11 (t * 11 + 9) (nI (c 0)), w.2) := ⟨_, rfl⟩
  obtain ⟨B, hB⟩ : ∃ B : Nat → Int32, B = fun k => if k = 11 ∨ k = 13080 + 8 * c 11 ∨ k = 13080 + 8 * c 11 + 1 ∨ k = 13080 + 8 * c 11 + 2 ∨ k = 13080 + 8 * c 11 + 3 ∨ k = 13080 + 8 * c 11 + 4 then A k else u.1 94 k := ⟨_, rfl⟩
  have b1 : ∀ k, ¬ (k = 11 ∨ k = 13080 + 8 * c 11 ∨ k = 13080 + 8 * c 11 + 1 ∨ k = 13080 + 8 * c 11 + 2 ∨ k = 13080 + 8 * c 11 + 3 ∨ k = 13080 + 8 * c 11 + 4) → B k = u.1 94 k := fun k q => by rw [hB]; exact if_neg q
  have fB : ∀ k, k < 21000 → ¬ (k = 240 + 12 * t + 6 ∨ k = 240 + 12 * t + 7 ∨ k = 240 + 12 * t + 8) → B k = A k := fun k hk hE => by
    rw [hB]; dsimp only
    by_cases q : k = 11 ∨ k = 13080 + 8 * c 11 ∨ k = 13080 + 8 * c 11 + 1 ∨ k = 13080 + 8 * c 11 + 2 ∨ k = 13080 + 8 * c 11 + 3 ∨ k = 13080 + 8 * c 11 + 4
    · rw [if_pos q]
    · rw [if_neg q]; exact fU k hk (by omega)
  have b7 : B (240 + 12 * t + 7) = A (240 + 12 * t + 7) := (b1 _ (by omega)).trans (fU _ (by omega) (by omega))
  have hw1 : ∀ b j, 3 ≤ b → b < 38 → ¬ (b = 11 ∧ (j = t * 11 + 5 ∨ j = t * 11 + 9 ∨ j = t * 11 + 10)) → v2.1 b j = w.1 b j := fun b j _ _ q => by
    rw [hv2]; dsimp only; rw [jup_ap, if_neg (by omega), jup_ap, if_neg (by omega)]
  have c10 : w.1 11 (t * 11 + 10) = A (240 + 12 * t + 7) := by
    have a := a_th10 H ht
    have b := r_at (j_th H) ht (j := 10) (by omega)
    exact congrArg Prod.fst (Option.some.inj (b.symm.trans a))
  have H1 : RA v2 3 B c K := P_steps H ht (by rw [b7]; exact th9) (by rw [b1 _ (by omega), a8]; exact Or.inr (vb_k rfl (Nat.zero_le _) (Nat.le_refl _))) (by rw [b1 _ (by omega), a6, hv2]; dsimp only; rw [jup_k (by omega)]; exact jup_eq) (by rw [b1 _ (by omega), a8, hv2]; exact jup_eq) (by rw [b7, hv2]; dsimp only; rw [jup_k (by omega), jup_k (by omega)]; exact c10) hw1 fB
  obtain ⟨v3, e3, x3⟩ := c_act (j_ac H1) (by omega) (rs_0 H1) 2 (A (240 + 12 * t + 3)) (nI t) (A (240 + 12 * t + 8))
  have HR := P_act (w' := v3) (A' := u.1 94) H1 hK (k := 2) (o := t) (by omega) (show t < c 3 from ht) (by omega) x3.1 a5 (fun j hj hc => by
    rw [x3.2.1 j hj]
    rcases (show j = 0 ∨ j = 1 ∨ j = 2 ∨ j = 3 ∨ j = 4 by omega) with z | z | z | z | z <;> subst z
    · exact a0.symm
    · exact a1.symm
    · exact a2.symm
    · exact absurd hc (by decide)
    · exact absurd hc (by decide)) a0 a1 (by rw [a2]; exact hla) a3 (fun _ => by rw [a4]; exact th10) (by rw [x3.2.1 3 (by omega)]; rfl) (by rw [x3.2.1 4 (by omega), a4]; rfl) (fun b j _ _ q => x3.2.2 b j q) (fun k _ q => (b1 k q).symm)
  have k := m_says (w := u) (d := nI (c 0)) HR (wh := 3) (by omega)
  rw [k]
  have hAt : At (u.1 94) A := fun k h1 h2 => fU k (by omega) (by omega)
  exact congrArg (fun z => some (z, u)) (sys_cg H hAt (c' := cup c 11 (c 11 + 1)) rfl)

set_option maxHeartbeats 8000000 in
theorem q_step (h : Inv w c ci K) (hK : K < 512) (x : Int32) : Cal w (K + 1) (f_Count_step x) (f_Model_step x) := by
  have H := h.1
  have lK := l_K H
  have l0 := l_0 H
  have l1 := l_1 H
  have l2 := l_2 H
  have l3 := l_3 H
  have l4 := l_4 H
  have l5 := l_5 H
  have l6 := l_6 H
  have l7 := l_7 H
  have l8 := l_8 H
  have l9 := l_9 H
  have l10 := l_10 H
  have l11 := l_11 H
  have l12 := l_12 H
  have l13 := l_13 H
  by_cases t0 : ¬ x < 0 ∧ x < nI (c 3)
  rotate_left
  · refine Cal_f (x := -1) h hK ?_ ?_
    · rw [f_Count_step, s_th H, ob]
      dsimp only
      rw [b2_n t0, if_pos rfl]
    · rw [f_Model_step, mi_thing H, ob]
      dsimp only
      rw [b2_n t0, if_pos rfl]
  obtain ⟨t, ht, rfl⟩ := rng (by omega) t0
  obtain ⟨sx, th1, th2, th3, th4, th5, th6, hla, th8, th9, th10⟩ := (p_Ithing H).1 t ht
  obtain ⟨p, hp, hp2⟩ := mwh_c (d := nI (c 0)) H ht
  by_cases hpc : p < c 1
  rotate_left
  · refine Cal_f (x := -1) h hK ?_ ?_
    · rw [f_Count_step, s_th H, ob]
      dsimp only
      rw [b2_p t0, if_neg one_ne, rs_0 H, c_pl H ht, ob]
      dsimp only
      rw [a_th9 H ht, ob]
      dsimp only
      rw [hp, x_si H (Or.inr (nI_nlt (by omega) (by omega))), ob]
      dsimp only
      rw [if_neg (by decide)]
    · rw [f_Model_step, mi_thing H, ob]
      dsimp only
      rw [b2_p t0, if_neg one_ne, if_pos (by decide), jk_0, h_0 H, m_pl H ht, ob]
      dsimp only
      rw [hp, if_neg (show ¬ nI p < 100 from nI_nlt (a := p) (b := 100) (by omega) (by omega))]
  have p100 : nI p < 100 := nI_lt (b := 100) (by omega) (by omega)
  by_cases t2 : w.1 94 (40 + 8 * p + 1) = 3
  rotate_left
  · refine Cal_f (x := -1) h hK ?_ ?_
    · rw [f_Count_step, s_th H, ob]
      dsimp only
      rw [b2_p t0, if_neg one_ne, rs_0 H, c_pl H ht, ob]
      dsimp only
      rw [a_th9 H ht, ob]
      dsimp only
      rw [hp, a_si1 H hpc, ob]
      dsimp only
      rw [if_neg t2]
    · rw [f_Model_step, mi_thing H, ob]
      dsimp only
      rw [b2_p t0, if_neg one_ne, if_pos (by decide), jk_0, h_0 H, m_pl H ht, ob]
      dsimp only
      rw [hp, if_pos p100, ms_1 (by omega), ob]
      dsimp only
      rw [if_neg t2]
  by_cases t3 : w.1 94 (240 + 12 * t + 8) = nI (c 0)
  · refine Cal_f (x := -1) h hK ?_ ?_
    · rw [f_Count_step, s_th H, ob]
      dsimp only
      rw [b2_p t0, if_neg one_ne, rs_0 H, c_pl H ht, ob]
      dsimp only
      rw [a_th9 H ht, ob]
      dsimp only
      rw [hp, a_si1 H hpc, ob]
      dsimp only
      rw [if_pos t2, rs_0 H, if_pos t3]
    · rw [f_Model_step, mi_thing H, ob]
      dsimp only
      rw [b2_p t0, if_neg one_ne, if_pos (by decide), jk_0, h_0 H, m_pl H ht, ob]
      dsimp only
      rw [hp, if_pos p100, ms_1 (by omega), ob]
      dsimp only
      rw [if_pos t2, mt_8 (by omega), ob]
      dsimp only
      rw [if_pos (by decide), h_0 H, if_pos t3]
  by_cases t4 : w.1 94 (240 + 12 * t + 6) + 1 < sys (w.1 94) c (nI (c 0)) 3
  · have xx : True := trivial
    obtain ⟨v1, hv1'⟩ : ∃ v : jW, v = (jup w.1 11 (t * 11 + 5) (w.1 94 (240 + 12 * t + 6) + 1), w.2) := ⟨_, rfl⟩
    have ep1 : f_Rows_put 10 (nI t) 5 (w.1 94 (240 + 12 * t + 6) + 1) w = some v1 := by rw [hv1']; exact r_put (j := 5) (j_th H) ht (by omega) _
    have J1 : JR v1 10 11 40 (c 3) := JR_eq (j_th H) (by rw [hv1']; dsimp only; rw [jup_fn (by omega)])
    have z1 : v1.1 3 0 = nI (c 0) := by rw [hv1']; dsimp only; rw [jup_ne (by omega)]; exact rs_0 H
    obtain ⟨vm2, hvm2⟩ : ∃ v : jW, v = (jup v1.1 11 (t * 11 + 9) (nI (c 0)), v1.2) := ⟨_, rfl⟩
    have ep2 : f_Rows_put 10 (nI t) 9 (nI (c 0)) v1 = some vm2 := by rw [hvm2]; exact r_put (j := 9) J1 ht (by omega) _
    have J2 : JR vm2 10 11 40 (c 3) := JR_eq J1 (by rw [hvm2]; dsimp only; rw [jup_fn (by omega)])
    have z2 : vm2.1 3 0 = nI (c 0) := by rw [hvm2]; dsimp only; rw [jup_ne (by omega)]; exact z1
    obtain ⟨Bm, hBm⟩ : ∃ B : Nat → Int32, B = fun k => if k = 240 + 12 * t + 6 then w.1 94 (240 + 12 * t + 6) + 1 else if k = 240 + 12 * t + 8 then nI (c 0) else w.1 94 k := ⟨_, rfl⟩
    have c10 : w.1 11 (t * 11 + 10) = w.1 94 (240 + 12 * t + 7) := by
      have a := a_th10 H ht
      have b := r_at (j_th H) ht (j := 10) (by omega)
      exact congrArg Prod.fst (Option.some.inj (b.symm.trans a))
    have m7 : Bm (240 + 12 * t + 7) = w.1 94 (240 + 12 * t + 7) := by rw [hBm]; dsimp only; rw [if_neg (by omega), if_neg (by omega)]
    have m8 : Bm (240 + 12 * t + 8) = nI (c 0) := by rw [hBm]; dsimp only; rw [if_neg (by omega), if_pos rfl]
    have m6 : Bm (240 + 12 * t + 6) = w.1 94 (240 + 12 * t + 6) + 1 := by rw [hBm]; exact if_pos rfl
    have Hm : RA vm2 3 Bm c K := P_steps H ht (by rw [m7]; exact th9) (by rw [m8]; exact Or.inr (vb_k rfl (Nat.zero_le _) (Nat.le_refl _))) (by rw [m6, hvm2]; dsimp only; rw [jup_k (by omega), hv1']; exact jup_eq) (by rw [m8, hvm2]; exact jup_eq) (by rw [m7, hvm2]; dsimp only; rw [jup_k (by omega), hv1']; dsimp only; rw [jup_k (by omega)]; exact c10) (fun b j _ _ q => by
      rw [hvm2]; dsimp only; rw [jup_ap, if_neg (by omega), hv1']; dsimp only; rw [jup_ap, if_neg (by omega)]) (fun k _ q => by rw [hBm]; dsimp only; rw [if_neg (by omega), if_neg (by omega)])
    have eT : f_Treaty_tells 3 (nI (c 0)) vm2 = some (sys (w.1 94) c (nI (c 0)) 3, vm2) := by
      have k := c_tells (w := vm2) (d := nI (c 0)) Hm (wh := 3) (by omega)
      have hAt : At Bm (w.1 94) := fun k h1 h2 => by rw [hBm]; dsimp only; rw [if_neg (by omega), if_neg (by omega)]
      rw [sys_cg H hAt rfl] at k
      exact k
    obtain ⟨v2, hv2'⟩ : ∃ v : jW, v = vm2 := ⟨_, rfl⟩
    have J3 : JR v2 10 11 40 (c 3) := by rw [hv2']; exact J2
    have fr0 : ∀ b j, ¬ (b = 11 ∧ (j = t * 11 + 5 ∨ j = t * 11 + 9 ∨ j = t * 11 + 10)) → v2.1 b j = w.1 b j := fun b j q => by
      rw [hv2', hvm2]; dsimp only; rw [jup_ap, if_neg (by omega), hv1']; dsimp only; rw [jup_ap, if_neg (by omega)]
    have fr : ∀ b j, b ≠ 10 ∧ b ≠ 11 → v2.1 b j = w.1 b j := fun b j q => fr0 b j (by omega)
    have r3 : f_Rows_at 10 (nI t) 3 v2 = some (w.1 94 (240 + 12 * t + 3), v2) := by
      have a := a_th3 H ht
      have b := r_at (j_th H) ht (j := 3) (by omega)
      have e := congrArg Prod.fst (Option.some.inj (b.symm.trans a))
      dsimp only at e
      have := r_at J3 ht (j := 3) (by omega)
      rw [fr0 11 (t * 11 + 3) (by omega), e] at this
      exact this
    have JA : JR v2 32 5 512 (c 11) := JR_eq (j_ac H) (funext fun j => fr 32 j (by omega))
    have z0 : v2.1 3 0 = nI (c 0) := (fr 3 0 (by omega)).trans (rs_0 H)
    obtain ⟨v3, e3, a3⟩ := c_act JA (by omega) z0 2 (w.1 94 (240 + 12 * t + 3)) (nI t) (w.1 94 (240 + 12 * t + 8))
    have eC : f_Count_step (nI t) w = some (w.1 94 (240 + 12 * t + 6) + 1, v3) := by
      rw [f_Count_step, s_th H, ob]
      try dsimp only
      rw [b2_p t0, if_neg one_ne, rs_0 H, c_pl H ht, ob]
      try dsimp only
      rw [hp, a_th9 H ht, ob]
      try dsimp only
      rw [a_si1 H hpc, ob]
      try dsimp only
      rw [if_pos t2, rs_0 H, if_neg t3, a_th5 H ht, ob]
      try dsimp only
      rw [ep1, ob]
      try dsimp only
      rw [z1, ep2, ob]
      try dsimp only
      rw [z2, eT, ob]
      try dsimp only
      rw [if_pos t4, ← hv2']
      try dsimp only
      rw [f_Count_step_j168, r3, ob]
      try dsimp only
      rw [e3, ob]
      try dsimp only
    have e94 : v3.1 94 = w.1 94 := (Ap_fn a3 (by omega) (by omega)).trans (funext fun j => fr 94 j (by omega))
    have H' : RA w 3 (v3.1 94) c K := by rw [e94]; exact H
    obtain ⟨W, hW⟩ : ∃ W : jW, W = ((jup (jup (jup (jup (jup (jup (jup (jup v3.1 94 (13080 + 8 * c 11) (2)) 94 (13080 + 8 * c 11 + 1) (nI (c 0))) 94 (13080 + 8 * c 11 + 2) (w.1 94 (240 + 12 * t + 3))) 94 (13080 + 8 * c 11 + 3) (nI t)) 94 (13080 + 8 * c 11 + 4) (w.1 94 (240 + 12 * t + 8))) 94 (11) (nI (c 11 + 1))) 94 (240 + 12 * t + 6) (w.1 94 (240 + 12 * t + 6) + 1)) 94 (240 + 12 * t + 8) (nI (c 0))), v3.2) := ⟨_, rfl⟩
    have f94 : ∀ b, b ≠ 94 → W.1 b = v3.1 b := fun b hb => by rw [hW]; dsimp only; rw [jup_fn hb, jup_fn hb, jup_fn hb, jup_fn hb, jup_fn hb, jup_fn hb, jup_fn hb, jup_fn hb]
    have g0 : W.1 94 (13080 + 8 * c 11) = 2 := by rw [hW]; simp (disch := omega) only [jup_k, jup_eq]
    have g1 : W.1 94 (13080 + 8 * c 11 + 1) = nI (c 0) := by rw [hW]; simp (disch := omega) only [jup_k, jup_eq]
    have g2 : W.1 94 (13080 + 8 * c 11 + 2) = w.1 94 (240 + 12 * t + 3) := by rw [hW]; simp (disch := omega) only [jup_k, jup_eq]
    have g3 : W.1 94 (13080 + 8 * c 11 + 3) = nI t := by rw [hW]; simp (disch := omega) only [jup_k, jup_eq]
    have g4 : W.1 94 (13080 + 8 * c 11 + 4) = w.1 94 (240 + 12 * t + 8) := by rw [hW]; simp (disch := omega) only [jup_k, jup_eq]
    have g5 : W.1 94 (11) = nI (c 11 + 1) := by rw [hW]; simp (disch := omega) only [jup_k, jup_eq]
    have g6 : W.1 94 (240 + 12 * t + 6) = w.1 94 (240 + 12 * t + 6) + 1 := by rw [hW]; simp (disch := omega) only [jup_k, jup_eq]
    have g7 : W.1 94 (240 + 12 * t + 8) = nI (c 0) := by rw [hW]; simp (disch := omega) only [jup_k, jup_eq]
    have eN : f_Model_noted 2 (w.1 94 (240 + 12 * t + 3)) (nI t) (w.1 94 (240 + 12 * t + 8)) (v3.1, v3.2) = some (ntw (v3.1, v3.2) (c 11) (nI (c 0)) 2 (w.1 94 (240 + 12 * t + 3)) (nI t) (w.1 94 (240 + 12 * t + 8))) := m_noted (by simp (disch := omega) only [jup_k, jup_eq, e94, h_11 H]) (by omega) (by simp (disch := omega) only [jup_k, jup_eq, e94, h_0 H]) _ _ _ _
    obtain ⟨u, hu⟩ : ∃ u : jW, u = (jup (jup (ntw (v3.1, v3.2) (c 11) (nI (c 0)) 2 (w.1 94 (240 + 12 * t + 3)) (nI t) (w.1 94 (240 + 12 * t + 8))).1 94 (240 + 12 * t + 6) (w.1 94 (240 + 12 * t + 6) + 1)) 94 (240 + 12 * t + 8) (nI (c 0)), v3.2) := ⟨_, rfl⟩
    have uS : f_Model_saysOf (nI (c 0)) 3 u = some (sys (w.1 94) c (nI (c 0)) 3, u) := by
      refine says_step H hK ht (v6 := w.1 94 (240 + 12 * t + 6) + 1) ?_ ?_ ?_ ?_ ?_ ?_ ?_ ?_ ?_
      all_goals rw [hu, ntw]
      all_goals first | (simp (disch := omega) only [jup_k, jup_eq]; done) | skip
      intro k hk hE
      dsimp only
      rw [jup_k (by omega), jup_k (by omega), jup_k (by omega), jup_k (by omega), jup_k (by omega), jup_k (by omega), jup_k (by omega), jup_k (by omega), e94]
    have u6 : u.1 94 (240 + 12 * t + 6) = w.1 94 (240 + 12 * t + 6) + 1 := by rw [hu]; simp (disch := omega) only [jup_k, jup_eq]
    have u0 : u.1 94 0 = nI (c 0) := by rw [hu, ntw]; simp (disch := omega) only [jup_k, e94, h_0 H]
    have i3 : (240 + 12 * nI t + 3 : Int32) = nI (240 + 12 * t + 3) := by rw [im_12, ia_240, ip_3]
    have i6 : (240 + 12 * nI t + 6 : Int32) = nI (240 + 12 * t + 6) := by rw [im_12, ia_240, ip_6]
    have i7 : (240 + 12 * nI t + 7 : Int32) = nI (240 + 12 * t + 7) := by rw [im_12, ia_240, ip_7]
    have i8 : (240 + 12 * nI t + 8 : Int32) = nI (240 + 12 * t + 8) := by rw [im_12, ia_240, ip_8]
    have q3 : jin (nI (240 + 12 * t + 3)) 21000 = true := jin_nI (by omega) (by omega)
    have q6' : jin (nI (240 + 12 * t + 6)) 21000 = true := jin_nI (by omega) (by omega)
    have q7' : jin (nI (240 + 12 * t + 7)) 21000 = true := jin_nI (by omega) (by omega)
    have q8 : jin (nI (240 + 12 * t + 8)) 21000 = true := jin_nI (by omega) (by omega)
    have n6 : (ntw (v3.1, v3.2) (c 11) (nI (c 0)) 2 (w.1 94 (240 + 12 * t + 3)) (nI t) (w.1 94 (240 + 12 * t + 8))).1 94 (240 + 12 * t + 6) = w.1 94 (240 + 12 * t + 6) := by rw [ntw]; simp (disch := omega) only [jup_k, e94]
    have n0 : (ntw (v3.1, v3.2) (c 11) (nI (c 0)) 2 (w.1 94 (240 + 12 * t + 3)) (nI t) (w.1 94 (240 + 12 * t + 8))).1 94 0 = nI (c 0) := by rw [ntw]; simp (disch := omega) only [jup_k, e94, h_0 H]
    have eM : f_Model_step (nI t) v3 = some (w.1 94 (240 + 12 * t + 6) + 1, W) := by
      rw [f_Model_step, mi_thing H', ob]
      dsimp only
      rw [b2_p t0, if_neg one_ne, if_pos (by decide), jk_0, e94, h_0 H, m_pl H' ht, ob]
      dsimp only
      rw [e94, hp, if_pos (show nI p < 100 from nI_lt (b := 100) (by omega) (by omega)), ms_1 (by omega), ob]
      dsimp only
      rw [e94, if_pos t2, mt_8 (by omega), ob]
      dsimp only
      rw [e94, if_pos (by decide), h_0 H, if_neg t3, i3, i6, i7, i8, q3, q6', q7', q8, if_pos (show jal [true, true] = true from rfl), nI_clamp (by omega), nI_clamp (by omega)]
      have eN' : f_Model_noted 2 (w.1 94 (240 + 12 * t + 3)) (nI t) (w.1 94 (240 + 12 * t + 8)) v3 = some (ntw (v3.1, v3.2) (c 11) (nI (c 0)) 2 (w.1 94 (240 + 12 * t + 3)) (nI t) (w.1 94 (240 + 12 * t + 8))) := eN
      rw [eN', ob]
      rw [if_pos (show jal [true, true] = true from rfl), jlw_e, nI_clamp (by omega), n6, if_pos (by decide), jlw_e]
      dsimp only
      have k1 : jup (ntw (v3.1, v3.2) (c 11) (nI (c 0)) 2 (w.1 94 (240 + 12 * t + 3)) (nI t) (w.1 94 (240 + 12 * t + 8))).1 94 (240 + 12 * t + 6) (w.1 94 (240 + 12 * t + 6) + 1) 94 0 = nI (c 0) := by rw [jup_k (by omega), n0]
      have k2 : jup (jup (ntw (v3.1, v3.2) (c 11) (nI (c 0)) 2 (w.1 94 (240 + 12 * t + 3)) (nI t) (w.1 94 (240 + 12 * t + 8))).1 94 (240 + 12 * t + 6) (w.1 94 (240 + 12 * t + 6) + 1)) 94 (240 + 12 * t + 8) (nI (c 0)) 94 0 = nI (c 0) := by rw [jup_k (by omega), k1]
      have k3 : jup (jup (ntw (v3.1, v3.2) (c 11) (nI (c 0)) 2 (w.1 94 (240 + 12 * t + 3)) (nI t) (w.1 94 (240 + 12 * t + 8))).1 94 (240 + 12 * t + 6) (w.1 94 (240 + 12 * t + 6) + 1)) 94 (240 + 12 * t + 8) (nI (c 0)) 94 (240 + 12 * t + 6) = (w.1 94 (240 + 12 * t + 6) + 1) := by rw [jup_k (by omega), jup_eq]
      simp only [k1, k2, k3]
      rw [if_pos (by decide)]
      have ue : (jup (jup (ntw (v3.1, v3.2) (c 11) (nI (c 0)) 2 (w.1 94 (240 + 12 * t + 3)) (nI t) (w.1 94 (240 + 12 * t + 8))).1 94 (240 + 12 * t + 6) (w.1 94 (240 + 12 * t + 6) + 1)) 94 (240 + 12 * t + 8) (nI (c 0)), (ntw (v3.1, v3.2) (c 11) (nI (c 0)) 2 (w.1 94 (240 + 12 * t + 3)) (nI t) (w.1 94 (240 + 12 * t + 8))).2) = u := by rw [hu, ntw]
      rw [show (ntw (v3.1, v3.2) (c 11) (nI (c 0)) 2 (w.1 94 (240 + 12 * t + 3)) (nI t) (w.1 94 (240 + 12 * t + 8))).2 = v3.2 from rfl] at ue ⊢
      rw [ue, uS, ob]
      dsimp only
      rw [if_pos t4, if_pos (by decide), u6, hu, ntw, hW]
    obtain ⟨B, hB⟩ : ∃ B : Nat → Int32, B = fun k => if k = 11 ∨ k = 13080 + 8 * c 11 ∨ k = 13080 + 8 * c 11 + 1 ∨ k = 13080 + 8 * c 11 + 2 ∨ k = 13080 + 8 * c 11 + 3 ∨ k = 13080 + 8 * c 11 + 4 then w.1 94 k else W.1 94 k := ⟨_, rfl⟩
    have b1 : ∀ k, ¬ (k = 11 ∨ k = 13080 + 8 * c 11 ∨ k = 13080 + 8 * c 11 + 1 ∨ k = 13080 + 8 * c 11 + 2 ∨ k = 13080 + 8 * c 11 + 3 ∨ k = 13080 + 8 * c 11 + 4) → B k = W.1 94 k := fun k q => by rw [hB]; exact if_neg q
    have fB : ∀ k, k < 21000 → ¬ (k = 240 + 12 * t + 6 ∨ k = 240 + 12 * t + 7 ∨ k = 240 + 12 * t + 8) → B k = w.1 94 k := fun k _ hE => by
      rw [hB]; dsimp only
      by_cases q : k = 11 ∨ k = 13080 + 8 * c 11 ∨ k = 13080 + 8 * c 11 + 1 ∨ k = 13080 + 8 * c 11 + 2 ∨ k = 13080 + 8 * c 11 + 3 ∨ k = 13080 + 8 * c 11 + 4
      · rw [if_pos q]
      · rw [if_neg q, hW]; dsimp only; rw [jup_k (by omega), jup_k (by omega), jup_k (by omega), jup_k (by omega), jup_k (by omega), jup_k (by omega), jup_k (by omega), jup_k (by omega), e94]
    have k6 : B (240 + 12 * t + 6) = w.1 94 (240 + 12 * t + 6) + 1 := (b1 _ (by omega)).trans g6
    have k7 : B (240 + 12 * t + 8) = nI (c 0) := (b1 _ (by omega)).trans g7
    have q5 : v2.1 11 (t * 11 + 5) = w.1 94 (240 + 12 * t + 6) + 1 := by rw [hv2', hvm2]; dsimp only; rw [jup_k (by omega), hv1']; exact jup_eq
    have q9 : v2.1 11 (t * 11 + 9) = nI (c 0) := by rw [hv2', hvm2]; exact jup_eq
    have kb7 : B (240 + 12 * t + 7) = w.1 94 (240 + 12 * t + 7) := by rw [b1 _ (by omega), hW]; simp (disch := omega) only [jup_k, e94]
    have q10 : v2.1 11 (t * 11 + 10) = B (240 + 12 * t + 7) := by rw [kb7, hv2', hvm2]; dsimp only; rw [jup_k (by omega), hv1']; dsimp only; rw [jup_k (by omega)]; exact c10
    have q7 : vm (B (240 + 12 * t + 7)) (c 0) := by rw [kb7]; exact th9
    have hw1 : ∀ b j, 3 ≤ b → b < 38 → ¬ (b = 11 ∧ (j = t * 11 + 5 ∨ j = t * 11 + 9 ∨ j = t * 11 + 10)) → v2.1 b j = w.1 b j := fun b j _ _ q3 => fr0 b j q3
    have H1 : RA v2 3 B c K := P_steps H ht q7 (by rw [k7]; exact Or.inr (vb_k rfl (Nat.zero_le _) (Nat.le_refl _))) (q5.trans k6.symm) (q9.trans k7.symm) q10 hw1 fB
    have hw2 : ∀ b j, 3 ≤ b → b < 38 → ¬ (b = 32 ∧ j = 2 ∨ b = 33 ∧ c 11 * 5 ≤ j ∧ j < c 11 * 5 + 5) → W.1 b j = v2.1 b j := fun b j q1 q2 q3 => by
      rw [f94 b (by omega)]; exact a3.2.2 b j q3
    have hv2 : ∀ j, j < 5 → cmA j < 8 → W.1 33 (c 11 * 5 + j) = W.1 94 (13080 + 8 * c 11 + cmA j) := fun j hj hc => by
      rw [f94 33 (by omega), a3.2.1 j hj]
      rcases (show j = 0 ∨ j = 1 ∨ j = 2 ∨ j = 3 ∨ j = 4 by omega) with z | z | z | z | z <;> subst z
      · exact g0.symm
      · exact g1.symm
      · exact g2.symm
      · exact absurd hc (by decide)
      · exact absurd hc (by decide)
    have hA2 : ∀ k, k < 21000 → ¬ (k = 11 ∨ k = 13080 + 8 * c 11 ∨ k = 13080 + 8 * c 11 + 1 ∨ k = 13080 + 8 * c 11 + 2 ∨ k = 13080 + 8 * c 11 + 3 ∨ k = 13080 + 8 * c 11 + 4) → W.1 94 k = B k := fun k _ q => (b1 k q).symm
    have ha2 : W.1 32 2 = nI (c 11 + 1) := by rw [f94 32 (by omega)]; exact a3.1
    have hv3 : W.1 33 (c 11 * 5 + 3) = nI t := by rw [f94 33 (by omega), a3.2.1 3 (by omega)]; rfl
    have hv4 : W.1 33 (c 11 * 5 + 4) = w.1 94 (240 + 12 * t + 8) := by rw [f94 33 (by omega), a3.2.1 4 (by omega)]; rfl

    have HR := P_act (c := c) H1 hK (k := 2) (o := t) (by omega) (show _ from ht) (show c 11 < 512 by omega) ha2 g5 hv2 g0 g1 (show vb (W.1 94 (13080 + 8 * c 11 + 2)) 0 1 by rw [g2]; exact hla) g3 (fun _ => show W.1 94 (13080 + 8 * c 11 + 4) = -1 ∨ vb (W.1 94 (13080 + 8 * c 11 + 4)) 0 (c 0) by rw [g4]; exact th10) (hv3.trans (rfl)) (hv4.trans ((show w.1 94 (240 + 12 * t + 8) = if (2 : Nat) = 2 then W.1 94 (13080 + 8 * c 11 + 4) else nI t by rw [if_pos rfl, g4])))  hw2 hA2
    exact ⟨_, v3, W, _, ci, eC, eM, Inv_of h (Nat.le_succ _) (fun b q1 q2 => by rw [f94 b q2, Ap_fn a3 (by omega) (by omega)]; exact funext fun j => fr b j (by omega)) HR⟩
  · have xx : True := trivial
    obtain ⟨v1, hv1'⟩ : ∃ v : jW, v = (jup w.1 11 (t * 11 + 5) (w.1 94 (240 + 12 * t + 6) + 1), w.2) := ⟨_, rfl⟩
    have ep1 : f_Rows_put 10 (nI t) 5 (w.1 94 (240 + 12 * t + 6) + 1) w = some v1 := by rw [hv1']; exact r_put (j := 5) (j_th H) ht (by omega) _
    have J1 : JR v1 10 11 40 (c 3) := JR_eq (j_th H) (by rw [hv1']; dsimp only; rw [jup_fn (by omega)])
    have z1 : v1.1 3 0 = nI (c 0) := by rw [hv1']; dsimp only; rw [jup_ne (by omega)]; exact rs_0 H
    obtain ⟨vm2, hvm2⟩ : ∃ v : jW, v = (jup v1.1 11 (t * 11 + 9) (nI (c 0)), v1.2) := ⟨_, rfl⟩
    have ep2 : f_Rows_put 10 (nI t) 9 (nI (c 0)) v1 = some vm2 := by rw [hvm2]; exact r_put (j := 9) J1 ht (by omega) _
    have J2 : JR vm2 10 11 40 (c 3) := JR_eq J1 (by rw [hvm2]; dsimp only; rw [jup_fn (by omega)])
    have z2 : vm2.1 3 0 = nI (c 0) := by rw [hvm2]; dsimp only; rw [jup_ne (by omega)]; exact z1
    obtain ⟨Bm, hBm⟩ : ∃ B : Nat → Int32, B = fun k => if k = 240 + 12 * t + 6 then w.1 94 (240 + 12 * t + 6) + 1 else if k = 240 + 12 * t + 8 then nI (c 0) else w.1 94 k := ⟨_, rfl⟩
    have c10 : w.1 11 (t * 11 + 10) = w.1 94 (240 + 12 * t + 7) := by
      have a := a_th10 H ht
      have b := r_at (j_th H) ht (j := 10) (by omega)
      exact congrArg Prod.fst (Option.some.inj (b.symm.trans a))
    have m7 : Bm (240 + 12 * t + 7) = w.1 94 (240 + 12 * t + 7) := by rw [hBm]; dsimp only; rw [if_neg (by omega), if_neg (by omega)]
    have m8 : Bm (240 + 12 * t + 8) = nI (c 0) := by rw [hBm]; dsimp only; rw [if_neg (by omega), if_pos rfl]
    have m6 : Bm (240 + 12 * t + 6) = w.1 94 (240 + 12 * t + 6) + 1 := by rw [hBm]; exact if_pos rfl
    have Hm : RA vm2 3 Bm c K := P_steps H ht (by rw [m7]; exact th9) (by rw [m8]; exact Or.inr (vb_k rfl (Nat.zero_le _) (Nat.le_refl _))) (by rw [m6, hvm2]; dsimp only; rw [jup_k (by omega), hv1']; exact jup_eq) (by rw [m8, hvm2]; exact jup_eq) (by rw [m7, hvm2]; dsimp only; rw [jup_k (by omega), hv1']; dsimp only; rw [jup_k (by omega)]; exact c10) (fun b j _ _ q => by
      rw [hvm2]; dsimp only; rw [jup_ap, if_neg (by omega), hv1']; dsimp only; rw [jup_ap, if_neg (by omega)]) (fun k _ q => by rw [hBm]; dsimp only; rw [if_neg (by omega), if_neg (by omega)])
    have eT : f_Treaty_tells 3 (nI (c 0)) vm2 = some (sys (w.1 94) c (nI (c 0)) 3, vm2) := by
      have k := c_tells (w := vm2) (d := nI (c 0)) Hm (wh := 3) (by omega)
      have hAt : At Bm (w.1 94) := fun k h1 h2 => by rw [hBm]; dsimp only; rw [if_neg (by omega), if_neg (by omega)]
      rw [sys_cg H hAt rfl] at k
      exact k
    obtain ⟨v2, hv2'⟩ : ∃ v : jW, v = (jup vm2.1 11 (t * 11 + 10) (nI (c 0)), vm2.2) := ⟨_, rfl⟩
    have ep3 : f_Rows_put 10 (nI t) 10 (nI (c 0)) vm2 = some v2 := by rw [hv2']; exact r_put (j := 10) J2 ht (by omega) _
    have J3 : JR v2 10 11 40 (c 3) := JR_eq J2 (by rw [hv2']; dsimp only; rw [jup_fn (by omega)])
    have fr0 : ∀ b j, ¬ (b = 11 ∧ (j = t * 11 + 5 ∨ j = t * 11 + 9 ∨ j = t * 11 + 10)) → v2.1 b j = w.1 b j := fun b j q => by
      rw [hv2']; dsimp only; rw [jup_ap, if_neg (by omega), hvm2]; dsimp only; rw [jup_ap, if_neg (by omega), hv1']; dsimp only; rw [jup_ap, if_neg (by omega)]
    have fr : ∀ b j, b ≠ 10 ∧ b ≠ 11 → v2.1 b j = w.1 b j := fun b j q => fr0 b j (by omega)
    have r3 : f_Rows_at 10 (nI t) 3 v2 = some (w.1 94 (240 + 12 * t + 3), v2) := by
      have a := a_th3 H ht
      have b := r_at (j_th H) ht (j := 3) (by omega)
      have e := congrArg Prod.fst (Option.some.inj (b.symm.trans a))
      dsimp only at e
      have := r_at J3 ht (j := 3) (by omega)
      rw [fr0 11 (t * 11 + 3) (by omega), e] at this
      exact this
    have JA : JR v2 32 5 512 (c 11) := JR_eq (j_ac H) (funext fun j => fr 32 j (by omega))
    have z0 : v2.1 3 0 = nI (c 0) := (fr 3 0 (by omega)).trans (rs_0 H)
    obtain ⟨v3, e3, a3⟩ := c_act JA (by omega) z0 2 (w.1 94 (240 + 12 * t + 3)) (nI t) (w.1 94 (240 + 12 * t + 8))
    have eC : f_Count_step (nI t) w = some (w.1 94 (240 + 12 * t + 6) + 1, v3) := by
      rw [f_Count_step, s_th H, ob]
      try dsimp only
      rw [b2_p t0, if_neg one_ne, rs_0 H, c_pl H ht, ob]
      try dsimp only
      rw [hp, a_th9 H ht, ob]
      try dsimp only
      rw [a_si1 H hpc, ob]
      try dsimp only
      rw [if_pos t2, rs_0 H, if_neg t3, a_th5 H ht, ob]
      try dsimp only
      rw [ep1, ob]
      try dsimp only
      rw [z1, ep2, ob]
      try dsimp only
      rw [z2, eT, ob]
      try dsimp only
      rw [if_neg t4, z2, ep3, ob]
      try dsimp only
      rw [f_Count_step_j168, r3, ob]
      try dsimp only
      rw [e3, ob]
      try dsimp only
    have e94 : v3.1 94 = w.1 94 := (Ap_fn a3 (by omega) (by omega)).trans (funext fun j => fr 94 j (by omega))
    have H' : RA w 3 (v3.1 94) c K := by rw [e94]; exact H
    obtain ⟨W, hW⟩ : ∃ W : jW, W = ((jup (jup (jup (jup (jup (jup (jup (jup (jup v3.1 94 (13080 + 8 * c 11) (2)) 94 (13080 + 8 * c 11 + 1) (nI (c 0))) 94 (13080 + 8 * c 11 + 2) (w.1 94 (240 + 12 * t + 3))) 94 (13080 + 8 * c 11 + 3) (nI t)) 94 (13080 + 8 * c 11 + 4) (w.1 94 (240 + 12 * t + 8))) 94 (11) (nI (c 11 + 1))) 94 (240 + 12 * t + 6) (w.1 94 (240 + 12 * t + 6) + 1)) 94 (240 + 12 * t + 8) (nI (c 0))) 94 (240 + 12 * t + 7) (nI (c 0))), v3.2) := ⟨_, rfl⟩
    have f94 : ∀ b, b ≠ 94 → W.1 b = v3.1 b := fun b hb => by rw [hW]; dsimp only; rw [jup_fn hb, jup_fn hb, jup_fn hb, jup_fn hb, jup_fn hb, jup_fn hb, jup_fn hb, jup_fn hb, jup_fn hb]
    have g0 : W.1 94 (13080 + 8 * c 11) = 2 := by rw [hW]; simp (disch := omega) only [jup_k, jup_eq]
    have g1 : W.1 94 (13080 + 8 * c 11 + 1) = nI (c 0) := by rw [hW]; simp (disch := omega) only [jup_k, jup_eq]
    have g2 : W.1 94 (13080 + 8 * c 11 + 2) = w.1 94 (240 + 12 * t + 3) := by rw [hW]; simp (disch := omega) only [jup_k, jup_eq]
    have g3 : W.1 94 (13080 + 8 * c 11 + 3) = nI t := by rw [hW]; simp (disch := omega) only [jup_k, jup_eq]
    have g4 : W.1 94 (13080 + 8 * c 11 + 4) = w.1 94 (240 + 12 * t + 8) := by rw [hW]; simp (disch := omega) only [jup_k, jup_eq]
    have g5 : W.1 94 (11) = nI (c 11 + 1) := by rw [hW]; simp (disch := omega) only [jup_k, jup_eq]
    have g6 : W.1 94 (240 + 12 * t + 6) = w.1 94 (240 + 12 * t + 6) + 1 := by rw [hW]; simp (disch := omega) only [jup_k, jup_eq]
    have g7 : W.1 94 (240 + 12 * t + 8) = nI (c 0) := by rw [hW]; simp (disch := omega) only [jup_k, jup_eq]
    have g8 : W.1 94 (240 + 12 * t + 7) = nI (c 0) := by rw [hW]; simp (disch := omega) only [jup_k, jup_eq]
    have eN : f_Model_noted 2 (w.1 94 (240 + 12 * t + 3)) (nI t) (w.1 94 (240 + 12 * t + 8)) (v3.1, v3.2) = some (ntw (v3.1, v3.2) (c 11) (nI (c 0)) 2 (w.1 94 (240 + 12 * t + 3)) (nI t) (w.1 94 (240 + 12 * t + 8))) := m_noted (by simp (disch := omega) only [jup_k, jup_eq, e94, h_11 H]) (by omega) (by simp (disch := omega) only [jup_k, jup_eq, e94, h_0 H]) _ _ _ _
    obtain ⟨u, hu⟩ : ∃ u : jW, u = (jup (jup (ntw (v3.1, v3.2) (c 11) (nI (c 0)) 2 (w.1 94 (240 + 12 * t + 3)) (nI t) (w.1 94 (240 + 12 * t + 8))).1 94 (240 + 12 * t + 6) (w.1 94 (240 + 12 * t + 6) + 1)) 94 (240 + 12 * t + 8) (nI (c 0)), v3.2) := ⟨_, rfl⟩
    have uS : f_Model_saysOf (nI (c 0)) 3 u = some (sys (w.1 94) c (nI (c 0)) 3, u) := by
      refine says_step H hK ht (v6 := w.1 94 (240 + 12 * t + 6) + 1) ?_ ?_ ?_ ?_ ?_ ?_ ?_ ?_ ?_
      all_goals rw [hu, ntw]
      all_goals first | (simp (disch := omega) only [jup_k, jup_eq]; done) | skip
      intro k hk hE
      dsimp only
      rw [jup_k (by omega), jup_k (by omega), jup_k (by omega), jup_k (by omega), jup_k (by omega), jup_k (by omega), jup_k (by omega), jup_k (by omega), e94]
    have u6 : u.1 94 (240 + 12 * t + 6) = w.1 94 (240 + 12 * t + 6) + 1 := by rw [hu]; simp (disch := omega) only [jup_k, jup_eq]
    have u0 : u.1 94 0 = nI (c 0) := by rw [hu, ntw]; simp (disch := omega) only [jup_k, e94, h_0 H]
    have i3 : (240 + 12 * nI t + 3 : Int32) = nI (240 + 12 * t + 3) := by rw [im_12, ia_240, ip_3]
    have i6 : (240 + 12 * nI t + 6 : Int32) = nI (240 + 12 * t + 6) := by rw [im_12, ia_240, ip_6]
    have i7 : (240 + 12 * nI t + 7 : Int32) = nI (240 + 12 * t + 7) := by rw [im_12, ia_240, ip_7]
    have i8 : (240 + 12 * nI t + 8 : Int32) = nI (240 + 12 * t + 8) := by rw [im_12, ia_240, ip_8]
    have q3 : jin (nI (240 + 12 * t + 3)) 21000 = true := jin_nI (by omega) (by omega)
    have q6' : jin (nI (240 + 12 * t + 6)) 21000 = true := jin_nI (by omega) (by omega)
    have q7' : jin (nI (240 + 12 * t + 7)) 21000 = true := jin_nI (by omega) (by omega)
    have q8 : jin (nI (240 + 12 * t + 8)) 21000 = true := jin_nI (by omega) (by omega)
    have n6 : (ntw (v3.1, v3.2) (c 11) (nI (c 0)) 2 (w.1 94 (240 + 12 * t + 3)) (nI t) (w.1 94 (240 + 12 * t + 8))).1 94 (240 + 12 * t + 6) = w.1 94 (240 + 12 * t + 6) := by rw [ntw]; simp (disch := omega) only [jup_k, e94]
    have n0 : (ntw (v3.1, v3.2) (c 11) (nI (c 0)) 2 (w.1 94 (240 + 12 * t + 3)) (nI t) (w.1 94 (240 + 12 * t + 8))).1 94 0 = nI (c 0) := by rw [ntw]; simp (disch := omega) only [jup_k, e94, h_0 H]
    have eM : f_Model_step (nI t) v3 = some (w.1 94 (240 + 12 * t + 6) + 1, W) := by
      rw [f_Model_step, mi_thing H', ob]
      dsimp only
      rw [b2_p t0, if_neg one_ne, if_pos (by decide), jk_0, e94, h_0 H, m_pl H' ht, ob]
      dsimp only
      rw [e94, hp, if_pos (show nI p < 100 from nI_lt (b := 100) (by omega) (by omega)), ms_1 (by omega), ob]
      dsimp only
      rw [e94, if_pos t2, mt_8 (by omega), ob]
      dsimp only
      rw [e94, if_pos (by decide), h_0 H, if_neg t3, i3, i6, i7, i8, q3, q6', q7', q8, if_pos (show jal [true, true] = true from rfl), nI_clamp (by omega), nI_clamp (by omega)]
      have eN' : f_Model_noted 2 (w.1 94 (240 + 12 * t + 3)) (nI t) (w.1 94 (240 + 12 * t + 8)) v3 = some (ntw (v3.1, v3.2) (c 11) (nI (c 0)) 2 (w.1 94 (240 + 12 * t + 3)) (nI t) (w.1 94 (240 + 12 * t + 8))) := eN
      rw [eN', ob]
      rw [if_pos (show jal [true, true] = true from rfl), jlw_e, nI_clamp (by omega), n6, if_pos (by decide), jlw_e]
      dsimp only
      have k1 : jup (ntw (v3.1, v3.2) (c 11) (nI (c 0)) 2 (w.1 94 (240 + 12 * t + 3)) (nI t) (w.1 94 (240 + 12 * t + 8))).1 94 (240 + 12 * t + 6) (w.1 94 (240 + 12 * t + 6) + 1) 94 0 = nI (c 0) := by rw [jup_k (by omega), n0]
      have k2 : jup (jup (ntw (v3.1, v3.2) (c 11) (nI (c 0)) 2 (w.1 94 (240 + 12 * t + 3)) (nI t) (w.1 94 (240 + 12 * t + 8))).1 94 (240 + 12 * t + 6) (w.1 94 (240 + 12 * t + 6) + 1)) 94 (240 + 12 * t + 8) (nI (c 0)) 94 0 = nI (c 0) := by rw [jup_k (by omega), k1]
      have k3 : jup (jup (ntw (v3.1, v3.2) (c 11) (nI (c 0)) 2 (w.1 94 (240 + 12 * t + 3)) (nI t) (w.1 94 (240 + 12 * t + 8))).1 94 (240 + 12 * t + 6) (w.1 94 (240 + 12 * t + 6) + 1)) 94 (240 + 12 * t + 8) (nI (c 0)) 94 (240 + 12 * t + 6) = (w.1 94 (240 + 12 * t + 6) + 1) := by rw [jup_k (by omega), jup_eq]
      simp only [k1, k2, k3]
      rw [if_pos (by decide)]
      have ue : (jup (jup (ntw (v3.1, v3.2) (c 11) (nI (c 0)) 2 (w.1 94 (240 + 12 * t + 3)) (nI t) (w.1 94 (240 + 12 * t + 8))).1 94 (240 + 12 * t + 6) (w.1 94 (240 + 12 * t + 6) + 1)) 94 (240 + 12 * t + 8) (nI (c 0)), (ntw (v3.1, v3.2) (c 11) (nI (c 0)) 2 (w.1 94 (240 + 12 * t + 3)) (nI t) (w.1 94 (240 + 12 * t + 8))).2) = u := by rw [hu, ntw]
      rw [show (ntw (v3.1, v3.2) (c 11) (nI (c 0)) 2 (w.1 94 (240 + 12 * t + 3)) (nI t) (w.1 94 (240 + 12 * t + 8))).2 = v3.2 from rfl] at ue ⊢
      rw [ue, uS, ob]
      dsimp only
      rw [if_neg t4, if_pos (by decide), u0, jlw_e, if_pos (by decide)]
      dsimp only
      rw [nI_clamp (n := 240 + 12 * t + 7) (by omega), jup_k (by omega), u6, hu, ntw, hW]
    obtain ⟨B, hB⟩ : ∃ B : Nat → Int32, B = fun k => if k = 11 ∨ k = 13080 + 8 * c 11 ∨ k = 13080 + 8 * c 11 + 1 ∨ k = 13080 + 8 * c 11 + 2 ∨ k = 13080 + 8 * c 11 + 3 ∨ k = 13080 + 8 * c 11 + 4 then w.1 94 k else W.1 94 k := ⟨_, rfl⟩
    have b1 : ∀ k, ¬ (k = 11 ∨ k = 13080 + 8 * c 11 ∨ k = 13080 + 8 * c 11 + 1 ∨ k = 13080 + 8 * c 11 + 2 ∨ k = 13080 + 8 * c 11 + 3 ∨ k = 13080 + 8 * c 11 + 4) → B k = W.1 94 k := fun k q => by rw [hB]; exact if_neg q
    have fB : ∀ k, k < 21000 → ¬ (k = 240 + 12 * t + 6 ∨ k = 240 + 12 * t + 7 ∨ k = 240 + 12 * t + 8) → B k = w.1 94 k := fun k _ hE => by
      rw [hB]; dsimp only
      by_cases q : k = 11 ∨ k = 13080 + 8 * c 11 ∨ k = 13080 + 8 * c 11 + 1 ∨ k = 13080 + 8 * c 11 + 2 ∨ k = 13080 + 8 * c 11 + 3 ∨ k = 13080 + 8 * c 11 + 4
      · rw [if_pos q]
      · rw [if_neg q, hW]; dsimp only; rw [jup_k (by omega), jup_k (by omega), jup_k (by omega), jup_k (by omega), jup_k (by omega), jup_k (by omega), jup_k (by omega), jup_k (by omega), jup_k (by omega), e94]
    have k6 : B (240 + 12 * t + 6) = w.1 94 (240 + 12 * t + 6) + 1 := (b1 _ (by omega)).trans g6
    have k7 : B (240 + 12 * t + 8) = nI (c 0) := (b1 _ (by omega)).trans g7
    have k8 : B (240 + 12 * t + 7) = nI (c 0) := (b1 _ (by omega)).trans g8
    have q5 : v2.1 11 (t * 11 + 5) = w.1 94 (240 + 12 * t + 6) + 1 := by rw [hv2']; dsimp only; rw [jup_k (by omega), hvm2]; dsimp only; rw [jup_k (by omega), hv1']; exact jup_eq
    have q9 : v2.1 11 (t * 11 + 9) = nI (c 0) := by rw [hv2']; dsimp only; rw [jup_k (by omega), hvm2]; exact jup_eq
    have q10 : v2.1 11 (t * 11 + 10) = B (240 + 12 * t + 7) := by rw [k8, hv2']; exact jup_eq
    have q7 : vm (B (240 + 12 * t + 7)) (c 0) := by rw [k8]; exact Or.inr (vb_k rfl (Nat.zero_le _) (Nat.le_refl _))
    have hw1 : ∀ b j, 3 ≤ b → b < 38 → ¬ (b = 11 ∧ (j = t * 11 + 5 ∨ j = t * 11 + 9 ∨ j = t * 11 + 10)) → v2.1 b j = w.1 b j := fun b j _ _ q3 => fr0 b j q3
    have H1 : RA v2 3 B c K := P_steps H ht q7 (by rw [k7]; exact Or.inr (vb_k rfl (Nat.zero_le _) (Nat.le_refl _))) (q5.trans k6.symm) (q9.trans k7.symm) q10 hw1 fB
    have hw2 : ∀ b j, 3 ≤ b → b < 38 → ¬ (b = 32 ∧ j = 2 ∨ b = 33 ∧ c 11 * 5 ≤ j ∧ j < c 11 * 5 + 5) → W.1 b j = v2.1 b j := fun b j q1 q2 q3 => by
      rw [f94 b (by omega)]; exact a3.2.2 b j q3
    have hv2 : ∀ j, j < 5 → cmA j < 8 → W.1 33 (c 11 * 5 + j) = W.1 94 (13080 + 8 * c 11 + cmA j) := fun j hj hc => by
      rw [f94 33 (by omega), a3.2.1 j hj]
      rcases (show j = 0 ∨ j = 1 ∨ j = 2 ∨ j = 3 ∨ j = 4 by omega) with z | z | z | z | z <;> subst z
      · exact g0.symm
      · exact g1.symm
      · exact g2.symm
      · exact absurd hc (by decide)
      · exact absurd hc (by decide)
    have hA2 : ∀ k, k < 21000 → ¬ (k = 11 ∨ k = 13080 + 8 * c 11 ∨ k = 13080 + 8 * c 11 + 1 ∨ k = 13080 + 8 * c 11 + 2 ∨ k = 13080 + 8 * c 11 + 3 ∨ k = 13080 + 8 * c 11 + 4) → W.1 94 k = B k := fun k _ q => (b1 k q).symm
    have ha2 : W.1 32 2 = nI (c 11 + 1) := by rw [f94 32 (by omega)]; exact a3.1
    have hv3 : W.1 33 (c 11 * 5 + 3) = nI t := by rw [f94 33 (by omega), a3.2.1 3 (by omega)]; rfl
    have hv4 : W.1 33 (c 11 * 5 + 4) = w.1 94 (240 + 12 * t + 8) := by rw [f94 33 (by omega), a3.2.1 4 (by omega)]; rfl

    have HR := P_act (c := c) H1 hK (k := 2) (o := t) (by omega) (show _ from ht) (show c 11 < 512 by omega) ha2 g5 hv2 g0 g1 (show vb (W.1 94 (13080 + 8 * c 11 + 2)) 0 1 by rw [g2]; exact hla) g3 (fun _ => show W.1 94 (13080 + 8 * c 11 + 4) = -1 ∨ vb (W.1 94 (13080 + 8 * c 11 + 4)) 0 (c 0) by rw [g4]; exact th10) (hv3.trans (rfl)) (hv4.trans ((show w.1 94 (240 + 12 * t + 8) = if (2 : Nat) = 2 then W.1 94 (13080 + 8 * c 11 + 4) else nI t by rw [if_pos rfl, g4])))  hw2 hA2
    exact ⟨_, v3, W, _, ci, eC, eM, Inv_of h (Nat.le_succ _) (fun b q1 q2 => by rw [f94 b q2, Ap_fn a3 (by omega) (by omega)]; exact funext fun j => fr b j (by omega)) HR⟩

end Q6

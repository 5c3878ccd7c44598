/-! LAYER C of p48: the acts of the loop: moves, steps, seals -/
section C8
variable {w v : jW} {A B : Nat → Int32} {c c' : Nat → Nat} {K K' k : Nat} {xs : Nat → Int32} {Ls : Nat} {K573 : Int32 → Int32 → Int32 → Int32 → jW → Option (Int32 × jW)}
/-- where a thing may be -/
theorem pl_cases (R : RA w 3 A c K) (hI : HI A c) {t : Nat} (ht : t < c 3) (d : Nat) (hd : d ≤ 1999) : ∃ p, mwh A (c 4) t (nI d) = nI p ∧ (p < 5 ∨ (100 ≤ p ∧ p ≤ 102)) := by
  obtain ⟨B, T, M, G, -⟩ := hI
  rw [mwh_pl B T M G ht hd]
  split
  · exact ⟨102, rfl, by omega⟩
  · split
    · exact ⟨101, rfl, by omega⟩
    · refine ⟨_, rfl, ?_⟩
      have := pl_bd B T M ht (kd d) (c 4) (Nat.le_refl _)
      omega
theorem l_938 (h : LI w A c K k) (hk : k < 40) (C : CT K573 k) {i s p : Nat} (hi : i < c 3) (hs : s < 5) (hp : mwh A (c 4) i (nI (c 0)) = nI p) (h2 : ∀ q, mwh A (c 4) i (nI (c 0)) = nI q → q < c 1 → q = s ∨ Dis A (c 2) q s (-1)) : Fin1 (f_Law_law_j938 xs Ls K573 (nI (c 3)) (nI (c 4)) (nI (c 5)) (nI k) (nI (c 0)) (nI s) (nI i) (nI p) w) := by
  have h0 := h
  obtain ⟨R, ⟨q2, q3⟩, ⟨z1, z6, z7, z10, z12, z13, z0, z3, z4, z5, z8, z9, z2⟩, -⟩ := h
  rw [f_Law_law_j938, f_Law_law_j939, s_moveN R hi (by omega) h2, ob]
  dsimp only
  rw [if_pos rfl, f_Law_law_j960, if_pos rfl, if_pos rfl]
  exact l_skip h0 hk C
theorem l_884 (h : LI w A c K k) (hk : k < 40) (C : CT K573 k) {i s : Nat} (hi : i < c 3) (hs : s < 5) (h4 : ¬ c 4 = 16) (hmk : 0 < c 0 → ¬ A (240 + 12 * i + 4) = nI (c 0)) : Fin1 (f_Law_law_j884 xs Ls K573 (nI (c 3)) (nI (c 4)) (nI (c 5)) (nI k) (nI (c 0)) (nI s) (nI i) w) := by
  have h0 := h
  obtain ⟨R, ⟨q2, q3⟩, ⟨z1, z6, z7, z10, z12, z13, z0, z3, z4, z5, z8, z9, z2⟩, P, S, hST, ⟨W, hW, hD⟩, hLL, hT, hM, hSs, hI, hH⟩ := h
  have w1 := l_where hT hM z3 z4 hi (nI (c 0))
  obtain ⟨p, hp, hp2⟩ := pl_cases R hI hi (c 0) (by omega)
  rw [f_Law_law_j884, w1, ob]
  dsimp only
  rw [hp]
  rcases hp2 with hp2 | hp2
  rotate_left
  · rw [if_neg (show ¬ nI p < 100 from nI_nlt (a := p) (b := 100) (by omega) (by omega))]
    exact l_938 h0 hk C hi hs hp (fun q e1 e2 => by
      have := (nI_eq (by omega) (by omega)).mp (hp.symm.trans e1)
      omega)
  rw [if_pos (show nI p < 100 from nI_lt (b := 100) (by omega) (by omega))]
  have uq : ∀ q, mwh A (c 4) i (nI (c 0)) = nI q → q < c 1 → q = p := fun q e1 e2 => (nI_eq (by omega) (by omega)).mp (e1.symm.trans hp)
  by_cases y : p = s
  · rw [if_pos (congrArg nI y)]
    exact l_938 h0 hk C hi hs hp (fun q e1 e2 => Or.inl ((uq q e1 e2).trans y))
  rw [if_neg (nI_ne' (by omega) (by omega) y)]
  have r100 : nI p - nI p / 100 * 100 = nI p := by
    have q := nI_rem (a := p) (b := 100) (by omega) (by omega)
    rw [show p % 100 = p by omega] at q
    exact q
  have r5 : nI p - nI p / 5 * 5 = nI p := by
    have q := nI_rem (a := p) (b := 5) (by omega) (by omega)
    rw [show p % 5 = p by omega] at q
    exact q
  have g1 : jal [jin (nI (5 * p + s)) 25, !(5 == 0), !(100 == 0)] = true := by
    rw [jal_c, jin_nI (by omega) (by omega)]; decide
  rw [r100, r5, im_5, nI_add, if_pos g1, nI_clamp (by omega), hW p s (by omega) hs]
  rcases hD p s (by omega) hs with ⟨d1, d2⟩ | ⟨d1, d2⟩
  · rw [if_neg (by rw [d1]; decide)]
    exact l_938 h0 hk C hi hs hp (fun q e1 e2 => Or.inr (by rw [uq q e1 e2]; exact d2))
  rw [if_pos (show nI (W p s) < 900 from nI_lt (b := 900) (by omega) (by omega))]
  obtain ⟨l, hl⟩ : ∃ l, l = W p s := ⟨_, rfl⟩
  rw [← hl] at d1 d2
  have l1 : 1 ≤ l := by
    rcases Dis_pos d2 (fun z => y z.symm) with e | ⟨l', e1, e2, e3⟩
    · exact absurd e (nI_ne_m1 (by omega))
    · have := (nI_eq (by omega) (by omega)).mp e3
      omega
  obtain ⟨u, B, a1, kp, a3, b0, b1, b2, b3, b4, fr⟩ := s_move R (by omega) (t := i) (s := s) (p := p) (l := l) hi (by omega) hp (by omega) (by omega) d2 y l1 (by omega) (by omega)
  rw [f_Law_law_j939, a1, ob]
  dsimp only
  rw [if_neg one_ne, f_Law_law_j960, if_pos rfl, if_neg one_ne]
  have u95 : u.1 95 (5 * p + s) = nI l := by rw [kp 95 (by omega), hW p s (by omega) hs, hl]
  simp (disch := omega) only [im_5, ip_1, ip_2, ip_3, ip_4, nI_add, jin_nI, jal_c, jal_n, nI_clamp, Bool.and_true, if_true, jlw_e, jup_ne, u95]
  obtain ⟨v, hv⟩ : ∃ v : jW, v = (jup (jup (jup (jup (jup u.1 99 (5 * c 4) (nI i)) 99 (5 * c 4 + 1) (nI p)) 99 (5 * c 4 + 2) (nI s)) 99 (5 * c 4 + 3) (nI (c 0))) 99 (5 * c 4 + 4) (nI (c 0 + l)), u.2) := ⟨_, rfl⟩
  rw [← hv]
  have ne : ∀ q, q ≠ 99 → v.1 q = u.1 q := fun q hq => by rw [hv]; dsimp only; rw [jup_fn hq, jup_fn hq, jup_fn hq, jup_fn hq, jup_fn hq]
  have hi2 : HI B (cup (cup c 4 (c 4 + 1)) 11 (c 11 + 1)) := HI_move hI (by omega) hi hp2 hs (by omega) (by omega) hp hmk b0 b1 b2 b3 b4 fr
  refine C v B (cup (cup c 4 (c 4 + 1)) 11 (c 11 + 1)) (K + 1) (LI_of h0 hk (RA_hi a3 (fun q hq => ne q (by omega))) (Nat.le_refl _) ⟨z1, z6, z7, z10, z12, z13, by show c 0 ≤ _; omega, z3, by show c 4 + 1 ≤ 16; omega, z5, by show c 8 ≤ _; omega, by show c 9 ≤ _; omega, z2⟩ (fun q hq => (ne q (by omega)).trans (kp q (by omega))) rfl (fun i q1 q2 => fr i (by omega) (by omega)) (SYt_k hT ((ne 98 (by omega)).trans (kp 98 (by omega))) rfl (fun t ht j hj _ => fr _ (by omega) (by omega))) (fun t ht => ?_) (SYs_k hSs ((ne 100 (by omega)).trans (kp 100 (by omega))) rfl (fun t ht j hj => fr _ (by omega) (by omega))) hi2 (HSt_k hH rfl (fun t ht => ⟨fr _ (by omega) (by omega), fr _ (by omega) (by omega)⟩)))
  have ht' : t < c 4 + 1 := ht
  by_cases z : t < c 4
  · obtain ⟨s0, s1, s2, s3, s4⟩ := hM t z
    have old : ∀ j, j < 5 * c 4 → v.1 99 j = w.1 99 j := fun j hj => by
      rw [hv]; dsimp only
      rw [jup_k (by omega), jup_k (by omega), jup_k (by omega), jup_k (by omega), jup_k (by omega), kp 99 (by omega)]
    rw [old _ (by omega), old _ (by omega), old _ (by omega), old _ (by omega), old _ (by omega), fr _ (by omega) (by omega), fr _ (by omega) (by omega), fr _ (by omega) (by omega), fr _ (by omega) (by omega), fr _ (by omega) (by omega)]
    exact ⟨s0, s1, s2, s3, s4⟩
  · obtain rfl : t = c 4 := by omega
    rw [b0, b1, b2, b3, b4, hv]
    dsimp only
    refine ⟨?_, ?_, ?_, ?_, ?_⟩
    · rw [jup_k (by omega), jup_k (by omega), jup_k (by omega), jup_k (by omega), jup_eq]
    · rw [jup_k (by omega), jup_k (by omega), jup_k (by omega), jup_eq]
    · rw [jup_k (by omega), jup_k (by omega), jup_eq]
    · rw [jup_k (by omega), jup_eq]
    · rw [jup_eq]
/-- move -/
theorem l_move (h : LI w A c K k) (hk : k < 40) (C : CT K573 k) {i s : Nat} (hi : c 3 = 0 ∧ i = 0 ∨ i < c 3) (hs : s < 5) : Fin1 (if nI (c 3) = 0 then K573 (nI (c 3)) (nI (c 4)) (nI (c 5)) (nI k + 1) w else if nI (c 4) = 16 then K573 (nI (c 3)) (nI (c 4)) (nI (c 5)) (nI k + 1) w else if nI (c 0) ≤ 0 then f_Law_law_j884 xs Ls K573 (nI (c 3)) (nI (c 4)) (nI (c 5)) (nI k) (nI (c 0)) (nI s) (nI i) w else if jal [jin ((4 * nI i) + 1) 32] = true then if w.1 98 (Int32.toNatClampNeg ((4 * nI i) + 1)) = nI (c 0) then K573 (nI (c 3)) (nI (c 4)) (nI (c 5)) (nI k + 1) w else f_Law_law_j884 xs Ls K573 (nI (c 3)) (nI (c 4)) (nI (c 5)) (nI k) (nI (c 0)) (nI s) (nI i) w else none) := by
  have h0 := h
  obtain ⟨R, ⟨q2, q3⟩, ⟨z1, z6, z7, z10, z12, z13, z0, z3, z4, z5, z8, z9, z2⟩, P, S, hST, hWY, hLL, hT, hM, hSs, hI, hH⟩ := h
  by_cases y : c 3 = 0
  · rw [if_pos (show nI (c 3) = 0 by rw [y]; rfl)]
    exact l_skip h0 hk C
  have hi' : i < c 3 := by omega
  rw [if_neg (show ¬ nI (c 3) = 0 from nI_ne' (b := 0) (by omega) (by omega) y)]
  by_cases y1 : c 4 = 16
  · rw [if_pos (show nI (c 4) = 16 by rw [y1]; rfl)]
    exact l_skip h0 hk C
  rw [if_neg (show ¬ nI (c 4) = 16 from nI_ne' (b := 16) (by omega) (by omega) y1)]
  by_cases y2 : c 0 = 0
  · rw [if_pos (show nI (c 0) ≤ 0 by rw [y2]; decide)]
    exact l_884 h0 hk C hi' hs y1 (fun u => by omega)
  rw [if_neg (show ¬ nI (c 0) ≤ 0 from nI_ge (a := 0) (by omega) (by omega)), im_4, ip_1, jal_c, jal_n, jin_nI (by omega) (by omega), if_pos (show (true && true) = true from rfl), nI_clamp (by omega), (hT i hi').2.1]
  by_cases y3 : A (240 + 12 * i + 4) = nI (c 0)
  · rw [if_pos y3]
    exact l_skip h0 hk C
  · rw [if_neg y3]
    exact l_884 h0 hk C hi' hs y1 (fun _ => y3)
/-- a step that is refused -/
theorem l_1112 (h : LI w A c K k) (hk : k < 40) (C : CT K573 k) {i p : Nat} (hp : p < 5 ∨ 100 ≤ p ∧ p ≤ 102) : Fin1 (f_Law_law_j1112 xs Ls K573 (nI (c 3)) (nI (c 4)) (nI (c 5)) (nI k) (nI (c 0)) (nI i) (nI p) (-1) w) := by
  have j0 : Fin1 (f_Law_law_j1135 xs Ls K573 (nI (c 3)) (nI (c 4)) (nI (c 5)) (nI k) (nI (c 0)) (nI i) (-1) w) := by
    rw [f_Law_law_j1135, if_neg (by decide)]
    exact l_skip h hk C
  rw [f_Law_law_j1112]
  rcases hp with hp | hp
  · rw [if_pos (show nI p < 100 from nI_lt (b := 100) (by omega) (by omega)), jal_c, jal_n, jin_nI hp (by omega), if_pos (show (true && true) = true from rfl)]
    split
    · exact j0
    · exact j0
  · rw [if_neg (show ¬ nI p < 100 from nI_nlt (a := p) (b := 100) (by omega) (by omega))]
    exact j0
/-- step -/
theorem l_step (h : LI w A c K k) (hk : k < 40) (C : CT K573 k) {i : Nat} (hi : c 3 = 0 ∧ i = 0 ∨ i < c 3) : Fin1 (if nI (c 3) = 0 then K573 (nI (c 3)) (nI (c 4)) (nI (c 5)) (nI k + 1) w else Option.bind (f_Law_where (nI (c 4)) (nI i) (nI (c 0)) w) fun q148 => Option.bind (f_Count_thing (nI i) 5 q148.2) fun q149 => Option.bind (f_Count_step (nI i) q149.2) fun q150 => if q150.1 ≤ 0 then f_Law_law_j1112 xs Ls K573 (nI (c 3)) (nI (c 4)) (nI (c 5)) (nI k) (nI (c 0)) (nI i) q148.1 q150.1 q150.2 else if q148.1 ≤ 99 then if jal [jin q148.1 5] = true then if q150.2.1 94 (Int32.toNatClampNeg q148.1) = 3 then if q150.1 = (q149.1 + 1) then f_Law_law_j1112 xs Ls K573 (nI (c 3)) (nI (c 4)) (nI (c 5)) (nI k) (nI (c 0)) (nI i) q148.1 q150.1 q150.2 else none else none else none else none) := by
  have h0 := h
  obtain ⟨R, ⟨q2, q3⟩, ⟨z1, z6, z7, z10, z12, z13, z0, z3, z4, z5, z8, z9, z2⟩, P, S, hST, hWY, hLL, hT, hM, hSs, hI, hH⟩ := h
  by_cases y : c 3 = 0
  · rw [if_pos (show nI (c 3) = 0 by rw [y]; rfl)]
    exact l_skip h0 hk C
  have hi' : i < c 3 := by omega
  have w1 := l_where hT hM z3 z4 hi' (nI (c 0))
  obtain ⟨p, hp, hp2⟩ := pl_cases R hI hi' (c 0) (by omega)
  obtain ⟨n, n1, n2, n3⟩ := hH i hi'
  rw [if_neg (show ¬ nI (c 3) = 0 from nI_ne' (b := 0) (by omega) (by omega) y), w1, ob]
  dsimp only
  rw [s_thing5 R hi', ob]
  dsimp only
  rw [hp]
  by_cases ok : p < 5 ∧ A (40 + 8 * p + 1) = 3 ∧ ¬ A (240 + 12 * i + 8) = nI (c 0)
  rotate_left
  · rw [s_stepN R hi' (fun q e1 e2 e3 => by
      have e : q = p := (nI_eq (by omega) (by omega)).mp (e1.symm.trans hp)
      rw [e] at e3
      exact Decidable.byContradiction fun z => ok ⟨by omega, e3, z⟩), ob]
    dsimp only
    rw [if_pos (by decide)]
    exact l_1112 h0 hk C hp2
  obtain ⟨p5, kl, t8⟩ := ok
  -- it is not gone
  have ng : A (240 + 12 * i + 7) = -1 := by
    obtain ⟨B0, T, M, G, -⟩ := hI
    obtain ⟨u1, u2, u3⟩ := (at_pl B0 T M G hi' (by omega) p5).mp hp
    rcases G i hi' with g | ⟨g, q, g1, g2, -⟩
    · exact g
    · exact absurd ⟨by rw [g1]; exact nI_ne_m1 (by omega), by rw [na_e g1 (by omega)]; exact g2⟩ u2
  have n2' := n3 ng
  have es : sys A c (nI (c 0)) 3 = 3 := sys_3 z6
  have fin : ∀ (u : jW) (B : Nat → Int32), Kp u w → RA u 3 B (cup c 11 (c 11 + 1)) (K + 1) → B (240 + 12 * i + 6) = nI (n + 1) → (n + 1 < 3 ∧ B (240 + 12 * i + 7) = A (240 + 12 * i + 7) ∨ n + 1 = 3 ∧ B (240 + 12 * i + 7) = nI (c 0)) → (∀ k, k < 21000 → ¬ (k = 240 + 12 * i + 6 ∨ k = 240 + 12 * i + 7 ∨ k = 240 + 12 * i + 8 ∨ k = 11 ∨ k = 13080 + 8 * c 11 ∨ k = 13080 + 8 * c 11 + 1 ∨ k = 13080 + 8 * c 11 + 2 ∨ k = 13080 + 8 * c 11 + 3 ∨ k = 13080 + 8 * c 11 + 4) → B k = A k) → Fin1 (if nI (n + 1) ≤ 0 then f_Law_law_j1112 xs Ls K573 (nI (c 3)) (nI (c 4)) (nI (c 5)) (nI k) (nI (c 0)) (nI i) (nI p) (nI (n + 1)) u else if nI p ≤ 99 then if jal [jin (nI p) 5] = true then if u.1 94 (Int32.toNatClampNeg (nI p)) = 3 then if nI (n + 1) = nI (n + 1) then f_Law_law_j1112 xs Ls K573 (nI (c 3)) (nI (c 4)) (nI (c 5)) (nI k) (nI (c 0)) (nI i) (nI p) (nI (n + 1)) u else none else none else none else none) := fun u B kp a3 b6 b7 fr => by
    have k3 : u.1 94 p = 3 := by rw [kp 94 (by omega), (hST p p5).2.1]; exact kl
    have hi2 : HI B (cup c 11 (c 11 + 1)) := HI_step hI hi' p5 hp kl (b7.imp (fun q => q.2) (fun q => q.2)) fr
    rw [if_neg (show ¬ nI (n + 1) ≤ 0 from nI_ge (a := 0) (by omega) (by omega)), if_pos (show nI p ≤ 99 from nI_le (b := 99) (by omega) (by omega)), jal_c, jal_n, jin_nI p5 (by omega), if_pos (show (true && true) = true from rfl), nI_clamp (by omega), if_pos k3, if_pos (show nI (n + 1) = nI (n + 1) from rfl), f_Law_law_j1112, if_pos (show nI p < 100 from nI_lt (b := 100) (by omega) (by omega)), jal_c, jal_n, jin_nI p5 (by omega), if_pos (show (true && true) = true from rfl), nI_clamp (by omega), if_pos k3, f_Law_law_j1135]
    rcases b7 with ⟨m1, m2⟩ | ⟨m1, m2⟩
    · rw [if_neg (show ¬ nI (n + 1) = 3 from nI_ne' (b := 3) (by omega) (by omega) (by omega)), ip_1]
      refine C u B (cup c 11 (c 11 + 1)) (K + 1) (LI_of h0 hk a3 (Nat.le_refl _) ⟨z1, z6, z7, z10, z12, z13, by show c 0 ≤ _; omega, z3, z4, z5, by show c 8 ≤ _; omega, by show c 9 ≤ _; omega, z2⟩ (fun q hq => kp q (by omega)) rfl (fun i q1 q2 => fr i (by omega) (by omega)) (fun t ht => ?_) (SYm_k hM (kp 99 (by omega)) rfl (fun t ht j hj => fr _ (by omega) (by omega))) (SYs_k hSs (kp 100 (by omega)) rfl (fun t ht j hj => fr _ (by omega) (by omega))) hi2 (fun t ht => ?_))
      · have ht' : t < c 3 := ht
        obtain ⟨s0, s1, s2, s3⟩ := hT t ht
        rw [kp 98 (by omega), fr _ (by omega) (by omega), fr (240 + 12 * t + 4) (by omega) (by omega), fr (240 + 12 * t) (by omega) (by omega)]
        refine ⟨s0, s1, s2, ?_⟩
        by_cases e : t = i
        · subst e; rw [m2]; exact s3
        · rw [fr _ (by omega) (by omega)]; exact s3
      · have ht' : t < c 3 := ht
        by_cases e : t = i
        · subst e
          exact ⟨n + 1, b6, by omega, fun _ => by omega⟩
        · rw [fr _ (by omega) (by omega), fr (240 + 12 * t + 7) (by omega) (by omega)]
          exact hH t ht
    · have g32 : jal [jin ((4 * nI i) + 3) 32] = true := by rw [im_4, ip_3, jal_c, jal_n, jin_nI (by omega) (by omega)]; rfl
      rw [if_pos (show nI (n + 1) = 3 by rw [m1]; rfl), if_pos g32, jlw_e, im_4, ip_3, nI_clamp (by omega), ip_1]
      obtain ⟨v, hv⟩ : ∃ v : jW, v = (jup u.1 98 (4 * i + 3) (nI (c 0)), u.2) := ⟨_, rfl⟩
      rw [← hv]
      have ne : ∀ q, q ≠ 98 → v.1 q = u.1 q := fun q hq => by rw [hv]; dsimp only; rw [jup_fn hq]
      refine C v B (cup c 11 (c 11 + 1)) (K + 1) (LI_of h0 hk (RA_hi a3 (fun q hq => ne q (by omega))) (Nat.le_refl _) ⟨z1, z6, z7, z10, z12, z13, by show c 0 ≤ _; omega, z3, z4, z5, by show c 8 ≤ _; omega, by show c 9 ≤ _; omega, z2⟩ (fun q hq => (ne q (by omega)).trans (kp q (by omega))) rfl (fun i q1 q2 => fr i (by omega) (by omega)) (fun t ht => ?_) (SYm_k hM ((ne 99 (by omega)).trans (kp 99 (by omega))) rfl (fun t ht j hj => fr _ (by omega) (by omega))) (SYs_k hSs ((ne 100 (by omega)).trans (kp 100 (by omega))) rfl (fun t ht j hj => fr _ (by omega) (by omega))) hi2 (fun t ht => ?_))
      · have ht' : t < c 3 := ht
        obtain ⟨s0, s1, s2, s3⟩ := hT t ht
        have o : ∀ j, j ≠ 4 * i + 3 → v.1 98 j = w.1 98 j := fun j hj => by rw [hv]; dsimp only; rw [jup_k hj, kp 98 (by omega)]
        rw [o _ (by omega), o (4 * t + 1) (by omega), o (4 * t + 2) (by omega), fr _ (by omega) (by omega), fr (240 + 12 * t + 4) (by omega) (by omega), fr (240 + 12 * t) (by omega) (by omega)]
        refine ⟨s0, s1, s2, ?_⟩
        by_cases e : t = i
        · subst e; rw [m2, hv]; exact jup_eq
        · rw [o _ (by omega), fr _ (by omega) (by omega)]; exact s3
      · have ht' : t < c 3 := ht
        by_cases e : t = i
        · subst e
          exact ⟨n + 1, b6, by omega, fun z => absurd (m2.symm.trans z) (nI_ne_m1 (by omega))⟩
        · rw [fr _ (by omega) (by omega), fr (240 + 12 * t + 7) (by omega) (by omega)]
          exact hH t ht
  have en : A (240 + 12 * i + 6) + 1 = nI (n + 1) := by rw [n1, ip_1]
  by_cases lt : n + 1 < 3
  · obtain ⟨u, B, a1, kp, a3, b6, b7, b8, fr⟩ := s_step1 R (by omega) (t := i) (p := p) hi' hp (by omega) kl t8 (by rw [en, es]; exact nI_lt (b := 3) (by omega) (by omega))
    rw [a1, ob]
    dsimp only
    rw [en] at b6 ⊢
    exact fin u B kp a3 b6 (Or.inl ⟨lt, b7⟩) fr
  · obtain ⟨u, B, a1, kp, a3, b6, b7, b8, fr⟩ := s_step2 R (by omega) (t := i) (p := p) hi' hp (by omega) kl t8 (by rw [en, es]; exact nI_nlt (a := n + 1) (b := 3) (by omega) (by omega))
    rw [a1, ob]
    dsimp only
    rw [en] at b6 ⊢
    exact fin u B kp a3 b6 (Or.inr ⟨by omega, b7⟩) fr
/-- the latest seal, as the law finds it -/
theorem lsl_now (R : RA w 3 A c K) {x : Int32} : ∀ n, n ≤ c 5 → lsl A x (nI (c 0)) (n + 0) = lsl A x (nI (c 0)) n := fun _ _ => rfl
theorem l_1231 (h : LI w A c K k) (hk : k < 40) (C : CT K573 k) {s : Nat} (hs : s < 5) (h5 : ¬ c 5 = 8) {x : Int32} (hx : (x = 1 ∧ isl A c (nI s) = false) ∨ (x = 0 ∧ isl A c (nI s) = true)) : Fin1 (f_Law_law_j1231 xs Ls K573 (nI (c 3)) (nI (c 4)) (nI (c 5)) (nI k) (nI (c 0)) (nI s) x w) := by
  have h0 := h
  obtain ⟨R, ⟨q2, q3⟩, ⟨z1, z6, z7, z10, z12, z13, z0, z3, z4, z5, z8, z9, z2⟩, P, S, hST, hWY, hLL, hT, hM, hSs, hI, hH⟩ := h
  rcases hx with ⟨rfl, hx⟩ | ⟨rfl, hx⟩
  rotate_left
  · rw [f_Law_law_j1231, s_sealN R (by omega) hx, ob]
    dsimp only
    rw [if_pos rfl, f_Law_law_j1250, if_pos rfl, if_pos rfl]
    exact l_skip h0 hk C
  obtain ⟨u, B, a1, kp, a3, b0, b1, fr⟩ := s_seal R (by omega) (s := s) (by omega) (by omega) hx
  rw [f_Law_law_j1231, a1, ob]
  dsimp only
  rw [if_neg one_ne, f_Law_law_j1250, if_pos rfl, if_neg one_ne]
  simp (disch := omega) only [im_2, ip_1, jin_nI, jal_c, jal_n, nI_clamp, Bool.and_true, if_true, jlw_e]
  obtain ⟨v, hv⟩ : ∃ v : jW, v = (jup (jup u.1 100 (2 * c 5) (nI s)) 100 (2 * c 5 + 1) (nI (c 0)), u.2) := ⟨_, rfl⟩
  rw [← hv]
  have ne : ∀ q, q ≠ 100 → v.1 q = u.1 q := fun q hq => by rw [hv]; dsimp only; rw [jup_fn hq, jup_fn hq]
  have hi2 : HI B (cup c 5 (c 5 + 1)) := HI_seal hI (by omega) fr
  refine C v B (cup c 5 (c 5 + 1)) (K + 1) (LI_of h0 hk (RA_hi a3 (fun q hq => ne q (by omega))) (Nat.le_refl _) ⟨z1, z6, z7, z10, z12, z13, by show c 0 ≤ _; omega, z3, z4, by show c 5 + 1 ≤ 8; omega, by show c 8 ≤ _; omega, by show c 9 ≤ _; omega, z2⟩ (fun q hq => (ne q (by omega)).trans (kp q (by omega))) rfl (fun i q1 q2 => fr i (by omega) (by omega)) (SYt_k hT ((ne 98 (by omega)).trans (kp 98 (by omega))) rfl (fun t ht j hj _ => fr _ (by omega) (by omega))) (SYm_k hM ((ne 99 (by omega)).trans (kp 99 (by omega))) rfl (fun t ht j hj => fr _ (by omega) (by omega))) (fun t ht => ?_) hi2 (HSt_k hH rfl (fun t ht => ⟨fr _ (by omega) (by omega), fr _ (by omega) (by omega)⟩)))
  have ht' : t < c 5 + 1 := ht
  by_cases z : t < c 5
  · obtain ⟨s0, s1⟩ := hSs t z
    rw [hv]; dsimp only
    rw [jup_k (by omega), jup_k (by omega), jup_k (by omega), jup_k (by omega), kp 100 (by omega), fr _ (by omega) (by omega), fr _ (by omega) (by omega)]
    exact ⟨s0, s1⟩
  · obtain rfl : t = c 5 := by omega
    rw [b0, b1, hv]
    dsimp only
    exact ⟨by rw [jup_k (by omega), jup_eq], by rw [jup_eq]⟩
/-- seal -/
theorem l_1171 (h : LI w A c K k) (hk : k < 40) (C : CT K573 k) {s : Nat} (hs : s < 5) (h5 : ¬ c 5 = 8) : ∀ m j f, j + m = c 5 → m < f → Fin1 (f_Law_law_h1171 xs Ls K573 f (nI (c 3)) (nI (c 4)) (nI (c 5)) (nI k) (nI (c 0)) (nI s) (lsl A (nI s) (nI (c 0)) j) (nI j) w) := by
  have h0 := h
  obtain ⟨R, ⟨q2, q3⟩, ⟨z1, z6, z7, z10, z12, z13, z0, z3, z4, z5, z8, z9, z2⟩, P, S, hST, hWY, hLL, hT, hM, hSs, hI, hH⟩ := h
  intro m
  induction m with
  | zero =>
    intro j f hj hf
    obtain ⟨f, rfl⟩ : ∃ j, f = j + 1 := ⟨f - 1, by omega⟩
    obtain rfl : j = c 5 := by omega
    have e1226 : ∀ u, f_Law_law_j1226 xs Ls K573 (nI (c 3)) (nI (c 4)) (nI (c 5)) (nI k) (nI (c 0)) (nI s) u = f_Law_law_j1231 xs Ls K573 (nI (c 3)) (nI (c 4)) (nI (c 5)) (nI k) (nI (c 0)) (nI s) 1 u := fun u => by rw [f_Law_law_j1226]
    rw [f_Law_law_h1171, if_neg (nI_nlt (by omega) (by omega))]
    rcases lsl_c (A := A) (x := nI s) (d := nI (c 0)) (c 5) with e | ⟨a, a1, a2, a3, a4⟩
    · rw [e, if_pos (by decide), e1226]
      exact l_1231 h0 hk C hs h5 (Or.inl ⟨rfl, by unfold isl; rw [e, if_pos rfl]⟩)
    · obtain ⟨y1, y2⟩ := sdy_e R a1
      have ei : isl A c (nI s) = !brk A (nI s) (sdy A a) (nI (c 0)) (c 4) 0 := by
        unfold isl
        rw [a2, if_neg (nI_ne_m1 (by omega)), nI_clamp (by omega)]
      rw [a2, if_neg (nI_pos (by omega)), l_whole hM hSs z4 z5 a1 y1 (nI (c 0)), a3, ob]
      dsimp only
      rw [← ei]
      cases hq : isl A c (nI s) with
      | false =>
        rw [bz_f, if_pos rfl, e1226]
        exact l_1231 h0 hk C hs h5 (Or.inl ⟨rfl, hq⟩)
      | true =>
        rw [bz_t, if_neg one_ne]
        exact l_1231 h0 hk C hs h5 (Or.inr ⟨rfl, hq⟩)
  | succ m ih =>
    intro j f hj hf
    obtain ⟨f, rfl⟩ : ∃ j, f = j + 1 := ⟨f - 1, by omega⟩
    have hj5 : j < c 5 := by omega
    obtain ⟨y1, y2⟩ := sdy_e R hj5
    have le0 : A (1520 + 4 * j + 1) ≤ nI (c 0) := by rw [y1]; exact nI_le y2 (by omega)
    have st := ih (j + 1) f (by omega) (by omega)
    rw [lsl] at st
    rw [f_Law_law_h1171, if_pos (nI_lt hj5 (by omega))]
    simp (disch := omega) only [im_2, ip_1, jin_nI, jal_c, jal_n, nI_clamp, Bool.and_true, if_true, (hSs j hj5).1]
    by_cases z : A (1520 + 4 * j) = nI s
    · rw [if_pos z]
      rw [if_pos ⟨z, le0⟩] at st
      exact st
    · rw [if_neg z]
      rw [if_neg (fun y => z y.1)] at st
      exact st
end C8

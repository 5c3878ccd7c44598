/-! LAYER C of p48: the acts of the loop: what stays, things made -/
section C7
variable {w v : jW} {A B : Nat → Int32} {c c' : Nat → Nat} {K K' k : Nat} {xs : Nat → Int32} {Ls : Nat} {K573 : Int32 → Int32 → Int32 → Int32 → jW → Option (Int32 × jW)}
/-- the loop goes on -/
def CT (K573 : Int32 → Int32 → Int32 → Int32 → jW → Option (Int32 × jW)) (k : Nat) : Prop := ∀ w' A' c' K', LI w' A' c' K' (k + 1) → Fin1 (K573 (nI (c' 3)) (nI (c' 4)) (nI (c' 5)) (nI (k + 1)) w')
theorem LI_of (h : LI w A c K k) (hk : k < 40) (R : RA v 3 B c' K') (hK : K' ≤ K + 1) (cz : CZ c' (k + 1)) (ce : ∀ q, q = 93 ∨ q = 94 ∨ q = 95 ∨ q = 96 ∨ q = 97 → v.1 q = w.1 q) (h2 : c' 2 = c 2) (fr : ∀ i, 14 ≤ i → i < 240 → B i = A i) (T : SYt v B c') (M : SYm v B c') (S : SYs v B c') (hi : HI B c') (hs : HSt B c') : LI v B c' K' (k + 1) := by
  obtain ⟨q1, ⟨q2, q3⟩, q4, ⟨p1, p2, p3⟩, ⟨s0, s1, s2, s3, s4, s5, s6, s7, s8, s9, s10, s11⟩, q5, ⟨W, q6, q7⟩, q8, -⟩ := h
  have h20 : c 2 ≤ 6 := q4.2.2.2.2.2.2.2.2.2.2.2.2
  have f20 := fun i (h1 : 14 ≤ i) (h2 : i < 240) => fr i h1 h2
  refine ⟨R, ⟨by omega, by omega⟩, cz, ⟨(fr 14 (by omega) (by omega)).trans p1, (fr 15 (by omega) (by omega)).trans p2, (fr 16 (by omega) (by omega)).trans p3⟩, ⟨(fr 20 (by omega) (by omega)).trans s0, (fr 21 (by omega) (by omega)).trans s1, (fr 22 (by omega) (by omega)).trans s2, (fr 23 (by omega) (by omega)).trans s3, (fr 24 (by omega) (by omega)).trans s4, (fr 25 (by omega) (by omega)).trans s5, (fr 26 (by omega) (by omega)).trans s6, (fr 27 (by omega) (by omega)).trans s7, (fr 28 (by omega) (by omega)).trans s8, (fr 29 (by omega) (by omega)).trans s9, (fr 30 (by omega) (by omega)).trans s10, (fr 31 (by omega) (by omega)).trans s11⟩, fun i hi => ?_, ?_, LL_k q8 (ce 96 (by omega)) (ce 97 (by omega)), T, M, S, hi, hs⟩
  · obtain ⟨u1, u2, u3⟩ := q5 i hi
    rw [fr _ (by omega) (by omega), fr _ (by omega) (by omega), fr _ (by omega) (by omega), ce 94 (by omega), ce 93 (by omega)]
    exact ⟨u1, u2, u3⟩
  · exact WY_k ⟨W, q6, q7⟩ (ce 95 (by omega)) h2 (fun r hr => ⟨fr _ (by omega) (by omega), fr _ (by omega) (by omega), fr _ (by omega) (by omega)⟩)
theorem LI_s (h : LI w A c K k) (hk : k < 40) : LI w A c K (k + 1) := by
  have h0 := h
  obtain ⟨q1, ⟨q2, q3⟩, ⟨z1, z6, z7, z10, z12, z13, z0, z3, z4, z5, z8, z9, z2⟩, q5, q6, q7, q8, q9, q10, q11, q12, q13, q14⟩ := h
  exact LI_of h0 hk q1 (by omega) ⟨z1, z6, z7, z10, z12, z13, by omega, z3, z4, z5, by omega, by omega, z2⟩ (fun _ _ => rfl) rfl (fun _ _ _ => rfl) q10 q11 q12 q13 q14
theorem l_skip (h : LI w A c K k) (hk : k < 40) (C : CT K573 k) : Fin1 (K573 (nI (c 3)) (nI (c 4)) (nI (c 5)) (nI k + 1) w) := by
  rw [ip_1]
  exact C w A c K (LI_s h hk)
theorem SYt_k (h : SYt w A c) (e : v.1 98 = w.1 98) (h3 : c' 3 = c 3) (fr : ∀ t, t < c 3 → ∀ j, j < 8 → j ≠ 6 → B (240 + 12 * t + j) = A (240 + 12 * t + j)) : SYt v B c' := fun t ht => by
  rw [h3] at ht
  obtain ⟨s0, s1, s2, s3⟩ := h t ht
  rw [e, fr t ht 5 (by omega) (by omega), fr t ht 4 (by omega) (by omega), show B (240 + 12 * t) = A (240 + 12 * t) from fr t ht 0 (by omega) (by omega), fr t ht 7 (by omega) (by omega)]
  exact ⟨s0, s1, s2, s3⟩
theorem SYm_k (h : SYm w A c) (e : v.1 99 = w.1 99) (h4 : c' 4 = c 4) (fr : ∀ t, t < c 4 → ∀ j, j < 5 → B (720 + 8 * t + j) = A (720 + 8 * t + j)) : SYm v B c' := fun t ht => by
  rw [h4] at ht
  obtain ⟨s0, s1, s2, s3, s4⟩ := h t ht
  rw [e, show B (720 + 8 * t) = A (720 + 8 * t) from fr t ht 0 (by omega), fr t ht 1 (by omega), fr t ht 2 (by omega), fr t ht 3 (by omega), fr t ht 4 (by omega)]
  exact ⟨s0, s1, s2, s3, s4⟩
theorem SYs_k (h : SYs w A c) (e : v.1 100 = w.1 100) (h5 : c' 5 = c 5) (fr : ∀ t, t < c 5 → ∀ j, j < 2 → B (1520 + 4 * t + j) = A (1520 + 4 * t + j)) : SYs v B c' := fun t ht => by
  rw [h5] at ht
  obtain ⟨s0, s1⟩ := h t ht
  rw [e, show B (1520 + 4 * t) = A (1520 + 4 * t) from fr t ht 0 (by omega), fr t ht 1 (by omega)]
  exact ⟨s0, s1⟩
theorem HSt_k (h : HSt A c) (h3 : c' 3 = c 3) (fr : ∀ t, t < c 3 → B (240 + 12 * t + 6) = A (240 + 12 * t + 6) ∧ B (240 + 12 * t + 7) = A (240 + 12 * t + 7)) : HSt B c' := fun t ht => by
  rw [h3] at ht
  obtain ⟨f1, f2⟩ := fr t ht
  rw [f1, f2]; exact h t ht
theorem lo_e (hL : LL w) {so : Nat} (h : so < 3) : ∃ lo li, w.1 96 so = nI lo ∧ w.1 97 so = nI li ∧ 10 ≤ lo ∧ lo ≤ 100 ∧ 10 ≤ li ∧ li ≤ 300 ∧ ((so = 0 ∧ lo = 10 ∧ li = 10) ∨ (so = 1 ∧ lo = 25 ∧ li = 50) ∨ (so = 2 ∧ lo = 100 ∧ li = 300)) := by
  obtain ⟨a0, a1, a2, b0, b1, b2⟩ := hL
  rcases (show so = 0 ∨ so = 1 ∨ so = 2 by omega) with rfl | rfl | rfl
  · exact ⟨10, 10, a0, b0, by omega, by omega, by omega, by omega, Or.inl ⟨rfl, rfl, rfl⟩⟩
  · exact ⟨25, 50, a1, b1, by omega, by omega, by omega, by omega, Or.inr (Or.inl ⟨rfl, rfl, rfl⟩)⟩
  · exact ⟨100, 300, a2, b2, by omega, by omega, by omega, by omega, Or.inr (Or.inr ⟨rfl, rfl, rfl⟩)⟩
/-- a thing of a sort fits it -/
theorem fit_own {so t le we lo li : Nat} (P : Par A) (S : SO A) (h1 : A (240 + 12 * t + 1) = nI le) (h2 : A (240 + 12 * t + 2) = nI we) (hl1 : lo ≤ le) (hl2 : le ≤ lo + 20) (hw1 : li ≤ we) (hw2 : we ≤ li + 50) (h : (so = 0 ∧ lo = 10 ∧ li = 10) ∨ (so = 1 ∧ lo = 25 ∧ li = 50) ∨ (so = 2 ∧ lo = 100 ∧ li = 300)) : fitF A so t ≠ 0 ∧ ¬ A (240 + 12 * t + 1) < A (20 + 4 * so) := by
  obtain ⟨p1, p2, p3⟩ := P
  obtain ⟨s0, s1, s2, s3, s4, s5, s6, s7, s8, s9, s10, s11⟩ := S
  have e : ∃ a b x y : Nat, A (20 + 4 * so) = nI a ∧ A (20 + 4 * so + 1) = nI b ∧ A (20 + 4 * so + 2) = nI x ∧ A (20 + 4 * so + 3) = nI y ∧ a = lo ∧ b = lo + 20 ∧ x = li ∧ li + 50 ≤ y ∧ y ≤ 400 := by
    rcases h with ⟨rfl, rfl, rfl⟩ | ⟨rfl, rfl, rfl⟩ | ⟨rfl, rfl, rfl⟩
    · exact ⟨10, 30, 10, 60, s0, s1, s2, s3, rfl, rfl, rfl, by omega, by omega⟩
    · exact ⟨25, 45, 50, 100, s4, s5, s6, s7, rfl, rfl, rfl, by omega, by omega⟩
    · exact ⟨100, 120, 300, 400, s8, s9, s10, s11, rfl, rfl, rfl, by omega, by omega⟩
  obtain ⟨a, b, x, y, e1, e2, e3, e4, e5, e6, e7, e8, e9⟩ := e
  have hlo : 10 ≤ lo ∧ lo ≤ 100 := by omega
  have hli : 10 ≤ li ∧ li ≤ 300 := by omega
  constructor
  · unfold fitF
    rw [h1, h2, p1, p2, e1, e2, e3, e4, show nI le + 2 = nI (le + 2) from nI_add le 2, show nI le - 2 = nI (le - 2) from nI_sub (b := 2) (by omega), show nI we + 5 = nI (we + 5) from nI_add we 5, show nI we - 5 = nI (we - 5) from nI_sub (b := 5) (by omega), if_neg (nI_nlt (by omega) (by omega)), if_pos (nI_le (by omega) (by omega)), if_neg (nI_nlt (by omega) (by omega)), if_pos (nI_le (by omega) (by omega))]
    decide
  · rw [h1, e1]; exact nI_nlt (by omega) (by omega)
theorem l_741 (h : LI w A c K k) (hk : k < 40) (C : CT K573 k) {X s so : Nat} (hX : X < 2 ^ 31) (hs : s < 5) (hso : so < 3) (h3 : ¬ c 3 = 8) {x : Int32} (hx : (x = 1 ∧ (nI (c 0) ≤ 0 ∨ A (40 + 8 * s + 1) = 1)) ∨ (x = 0 ∧ ¬ (nI (c 0) ≤ 0 ∨ A (40 + 8 * s + 1) = 1))) : Fin1 (f_Law_law_j741 xs Ls K573 (nI (c 3)) (nI (c 4)) (nI (c 5)) (nI k) (nI X) (nI (c 0)) (nI s) (nI so) x w) := by
  have h0 := h
  obtain ⟨R, ⟨q2, q3⟩, ⟨z1, z6, z7, z10, z12, z13, z0, z3, z4, z5, z8, z9, z2⟩, P, S, hST, hWY, hLL, hT, hM, hSs, hI, hH⟩ := h
  obtain ⟨lo, li, e1, e2, e3, e4, e5, e6, e7⟩ := lo_e hLL hso
  obtain ⟨X20, h20, f20⟩ := shr_n X 20 hX (by omega)
  obtain ⟨X16, h16, f16⟩ := shr_n X 16 hX (by omega)
  have f20' : nI X >>> ((20 : Int32) &&& 31) = nI X20 := f20
  have f16' : nI X >>> ((16 : Int32) &&& 31) = nI X16 := f16
  have r20 : nI X20 - nI X20 / 21 * 21 = nI (X20 % 21) := nI_rem (b := 21) h20 (by omega)
  have r16 : nI X16 - nI X16 / 51 * 51 = nI (X16 % 51) := nI_rem (b := 51) h16 (by omega)
  have m20 : X20 % 21 < 21 := Nat.mod_lt _ (by omega)
  have m16 : X16 % 51 < 51 := Nat.mod_lt _ (by omega)
  obtain ⟨le, hle⟩ : ∃ le, le = lo + X20 % 21 := ⟨_, rfl⟩
  obtain ⟨we, hwe⟩ : ∃ we, we = li + X16 % 51 := ⟨_, rfl⟩
  have g1 : jal [!(51 == 0), jin (nI so) 3, !(21 == 0), jin (nI so) 3] = true := by
    rw [jal_c, jal_c, jal_c, jal_c, jal_n, jin_nI hso (by omega)]; decide
  have mt := s_make_to R (s := s) (so := nI so) (le := nI le) (we := nI we) (by omega) ⟨nI_pos (by omega), nI_le (b := 3) (by omega) (by omega)⟩ (by omega) (nI_nlt (a := le) (b := 1) (by omega) (by omega)) (nI_le (b := 200) (by omega) (by omega)) (nI_nlt (a := we) (b := 1) (by omega) (by omega)) (nI_le (b := 500) (by omega) (by omega))
  rw [f_Law_law_j741, if_pos g1, f20', f16', r20, r16, nI_clamp (by omega), e1, e2, nI_add, nI_add, ← hle, ← hwe, mt]
  rcases hx with ⟨rfl, hx⟩ | ⟨rfl, hx⟩
  rotate_left
  · rw [if_neg hx, ob]
    dsimp only
    rw [if_pos rfl, f_Law_law_j790, if_pos rfl, if_pos rfl]
    exact l_skip h0 hk C
  obtain ⟨u, B, a1, kp, a3, b0, b1, b2, b3, b4, b5, b6, b7, b8, fr⟩ := s_makeT R (by omega) (s := s) (so := nI so) (le := nI le) (we := nI we) (by omega) (by omega) ⟨so, rfl, by omega, by omega⟩ ⟨le, rfl, by omega, by omega⟩ ⟨we, rfl, by omega, by omega⟩
  rw [if_pos hx, a1, ob]
  dsimp only
  rw [if_neg one_ne, f_Law_law_j790, if_pos rfl, if_neg one_ne]
  simp (disch := omega) only [im_4, ip_1, ip_2, ip_3, jin_nI, jal_c, jal_n, nI_clamp, Bool.and_true, if_true, jlw_e]
  obtain ⟨v, hv⟩ : ∃ v : jW, v = (jup (jup (jup (jup u.1 98 (4 * c 3) (nI s)) 98 (4 * c 3 + 1) (nI (c 0))) 98 (4 * c 3 + 2) (nI so)) 98 (4 * c 3 + 3) (-1), u.2) := ⟨_, rfl⟩
  rw [← hv]
  have ne : ∀ q, q ≠ 98 → v.1 q = u.1 q := fun q hq => by rw [hv]; dsimp only; rw [jup_fn hq, jup_fn hq, jup_fn hq, jup_fn hq]
  obtain ⟨n1, n2⟩ : fitF B so (c 3) ≠ 0 ∧ ¬ B (240 + 12 * c 3 + 1) < B (20 + 4 * so) := by
    have P' : Par B := ⟨(fr 14 (by omega) (by omega)).trans P.1, (fr 15 (by omega) (by omega)).trans P.2.1, (fr 16 (by omega) (by omega)).trans P.2.2⟩
    have S' : SO B := by
      obtain ⟨s0, s1, s2, s3, s4, s5, s6, s7, s8, s9, s10, s11⟩ := S
      exact ⟨(fr 20 (by omega) (by omega)).trans s0, (fr 21 (by omega) (by omega)).trans s1, (fr 22 (by omega) (by omega)).trans s2, (fr 23 (by omega) (by omega)).trans s3, (fr 24 (by omega) (by omega)).trans s4, (fr 25 (by omega) (by omega)).trans s5, (fr 26 (by omega) (by omega)).trans s6, (fr 27 (by omega) (by omega)).trans s7, (fr 28 (by omega) (by omega)).trans s8, (fr 29 (by omega) (by omega)).trans s9, (fr 30 (by omega) (by omega)).trans s10, (fr 31 (by omega) (by omega)).trans s11⟩
    exact fit_own P' S' b1 b2 (by omega) (by omega) (by omega) (by omega) e7
  rw [fr (20 + 4 * so) (by omega) (by omega)] at n2
  have hi2 : HI B (cup (cup c 3 (c 3 + 1)) 11 (c 11 + 1)) := HI_make hI (by omega) hso hs (fun u => hx.elim (fun y => absurd y (by rw [show (0 : Int32) = nI 0 from rfl, ii_le (by omega) (by omega)]; omega)) id) b0 b4 b5 b7 n1 n2 fr
  refine C v B (cup (cup c 3 (c 3 + 1)) 11 (c 11 + 1)) (K + 1) (LI_of h0 hk (RA_hi a3 (fun q hq => ne q (by omega))) (Nat.le_refl _) ⟨z1, z6, z7, z10, z12, z13, by show c 0 ≤ _; omega, by show c 3 + 1 ≤ 8; omega, z4, z5, by show c 8 ≤ _; omega, by show c 9 ≤ _; omega, z2⟩ (fun q hq => (ne q (by omega)).trans (kp q (by omega))) rfl (fun i q1 q2 => fr i (by omega) (by omega)) (fun t ht => ?_) (SYm_k hM ((ne 99 (by omega)).trans (kp 99 (by omega))) rfl (fun t ht j hj => fr _ (by omega) (by omega))) (SYs_k hSs ((ne 100 (by omega)).trans (kp 100 (by omega))) rfl (fun t ht j hj => fr _ (by omega) (by omega))) hi2 (fun t ht => ?_))
  · have ht' : t < c 3 + 1 := ht
    by_cases z : t < c 3
    · obtain ⟨s0, s1, s2, s3⟩ := hT t z
      rw [hv]
      dsimp only
      rw [jup_k (by omega), jup_k (by omega), jup_k (by omega), jup_k (by omega), jup_k (by omega), jup_k (by omega), jup_k (by omega), jup_k (by omega), jup_k (by omega), jup_k (by omega), jup_k (by omega), jup_k (by omega), jup_k (by omega), jup_k (by omega), jup_k (by omega), jup_k (by omega), kp 98 (by omega), fr _ (by omega) (by omega), fr _ (by omega) (by omega), fr _ (by omega) (by omega), fr _ (by omega) (by omega)]
      exact ⟨s0, s1, s2, s3⟩
    · obtain rfl : t = c 3 := by omega
      rw [b5, b4, b0, b7, hv]
      dsimp only
      refine ⟨?_, ?_, ?_, ?_⟩
      · rw [jup_k (by omega), jup_k (by omega), jup_k (by omega), jup_eq]
      · rw [jup_k (by omega), jup_k (by omega), jup_eq]
      · rw [jup_k (by omega), jup_eq]
      · rw [jup_eq]
  · have ht' : t < c 3 + 1 := ht
    by_cases z : t < c 3
    · rw [fr _ (by omega) (by omega), fr _ (by omega) (by omega)]; exact hH t z
    · obtain rfl : t = c 3 := by omega
      exact ⟨0, b6, by omega, fun _ => by omega⟩
/-- make -/
theorem l_make (h : LI w A c K k) (hk : k < 40) (C : CT K573 k) {X s : Nat} (hX : X < 2 ^ 31) (hs : s < 5) : Fin1 (if nI (c 3) = 8 then K573 (nI (c 3)) (nI (c 4)) (nI (c 5)) (nI k + 1) w else if jal [!(3 == 0)] = true then if nI (c 0) = 0 then f_Law_law_j736 xs Ls K573 (nI (c 3)) (nI (c 4)) (nI (c 5)) (nI k) (nI X) (nI (c 0)) (nI s) (((nI X >>> ((12 : Int32) &&& 31)) &&& 255) - ((nI X >>> ((12 : Int32) &&& 31)) &&& 255) / 3 * 3) w else if jal [jin (nI s) 5] = true then if w.1 94 (Int32.toNatClampNeg (nI s)) = 1 then f_Law_law_j736 xs Ls K573 (nI (c 3)) (nI (c 4)) (nI (c 5)) (nI k) (nI X) (nI (c 0)) (nI s) (((nI X >>> ((12 : Int32) &&& 31)) &&& 255) - ((nI X >>> ((12 : Int32) &&& 31)) &&& 255) / 3 * 3) w else f_Law_law_j741 xs Ls K573 (nI (c 3)) (nI (c 4)) (nI (c 5)) (nI k) (nI X) (nI (c 0)) (nI s) (((nI X >>> ((12 : Int32) &&& 31)) &&& 255) - ((nI X >>> ((12 : Int32) &&& 31)) &&& 255) / 3 * 3) 0 w else none else none) := by
  have h0 := h
  obtain ⟨R, ⟨q2, q3⟩, ⟨z1, z6, z7, z10, z12, z13, z0, z3, z4, z5, z8, z9, z2⟩, P, S, hST, -⟩ := h
  obtain ⟨m, hm, em⟩ := ma_k (nI X >>> ((12 : Int32) &&& 31)) 255
  have em' : (nI X >>> ((12 : Int32) &&& 31)) &&& 255 = nI m := em
  have er : nI m - nI m / 3 * 3 = nI (m % 3) := nI_rem (b := 3) (by omega) (by omega)
  have m3 : m % 3 < 3 := Nat.mod_lt _ (by omega)
  rw [em', er]
  by_cases y : c 3 = 8
  · rw [if_pos (show nI (c 3) = 8 by rw [y]; rfl)]
    exact l_skip h0 hk C
  rw [if_neg (show ¬ nI (c 3) = 8 from nI_ne' (b := 8) (by omega) (by omega) y), if_pos (by decide), f_Law_law_j736]
  have g1 : jal [jin (nI s) 5] = true := by rw [jal_c, jal_n, jin_nI hs (by omega)]; rfl
  by_cases y0 : c 0 = 0
  · rw [if_pos (show nI (c 0) = 0 by rw [y0]; rfl)]
    exact l_741 h0 hk C hX hs m3 y (Or.inl ⟨rfl, Or.inl (by rw [y0]; decide)⟩)
  · rw [if_neg (show ¬ nI (c 0) = 0 from nI_ne' (b := 0) (by omega) (by omega) y0), if_pos g1, nI_clamp (by omega), (hST s hs).2.1]
    by_cases y1 : A (40 + 8 * s + 1) = 1
    · rw [if_pos y1]
      exact l_741 h0 hk C hX hs m3 y (Or.inl ⟨rfl, Or.inr y1⟩)
    · rw [if_neg y1]
      refine l_741 h0 hk C hX hs m3 y (Or.inr ⟨rfl, fun u => u.elim (fun u => ?_) y1⟩)
      rw [show (0 : Int32) = nI 0 from rfl, ii_le (by omega) (by omega)] at u
      omega
end C7

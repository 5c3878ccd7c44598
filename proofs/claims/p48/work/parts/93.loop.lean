/-! LAYER C of p48: the acts of the loop: visits, pictures, days; the loop -/
section C9
variable {w v : jW} {A B : Nat → Int32} {c c' : Nat → Nat} {K K' k : Nat} {xs : Nat → Int32} {Ls : Nat} {K573 : Int32 → Int32 → Int32 → Int32 → jW → Option (Int32 × jW)}
/-- a visit counts what truly is there -/
theorem vct_cn (h6 : c 6 = 0) (hI : HI A c) (h0 : 1 ≤ c 0) {s j : Nat} (hj : j < 5) : ∀ n, n ≤ c 3 → vct A c s j n = ct (fun t => decide (A (240 + 12 * t) = nI j ∧ mwh A (c 4) t (nI (c 0 - 1)) = nI s)) n := by
  intro n
  induction n with
  | zero => intro _; rfl
  | succ n ih =>
    intro hn
    obtain ⟨so, mk, st, a1, -, -, a4, -⟩ := hI.2.1 n (by omega)
    have ev : vcl A c s n = so := by
      unfold vcl
      rw [h6]
      show (if (false : Bool) = true then 4 else (A (240 + 12 * n)).toNatClampNeg) = so
      rw [if_neg (by decide), a1, nI_clamp (by omega)]
    have e1 : nI (c 0) - 1 = nI (c 0 - 1) := nI_sub (b := 1) h0
    rw [vct, ct, ih (by omega), ev, e1, a1]
    congr 1
    by_cases z : mwh A (c 4) n (nI (c 0 - 1)) = nI s ∧ so = j
    · rw [if_pos z, if_pos (decide_eq_true ⟨by rw [z.2], z.1⟩)]
    · rw [if_neg z, if_neg (fun y => z ⟨(of_decide_eq_true y).2, (nI_eq (by omega) (by omega)).mp (of_decide_eq_true y).1⟩)]
theorem vct_4 (h6 : c 6 = 0) (hI : HI A c) {s : Nat} : ∀ n, n ≤ c 3 → vct A c s 4 n = 0 := by
  intro n
  induction n with
  | zero => intro _; rfl
  | succ n ih =>
    intro hn
    obtain ⟨so, mk, st, a1, -, -, a4, -⟩ := hI.2.1 n (by omega)
    have ev : vcl A c s n = so := by
      unfold vcl
      rw [h6]
      show (if (false : Bool) = true then 4 else (A (240 + 12 * n)).toNatClampNeg) = so
      rw [if_neg (by decide), a1, nI_clamp (by omega)]
    rw [vct, ih (by omega), ev, if_neg (fun z => by omega)]
theorem l_1304 {x : Int32} (hx : (x = 1 ∧ c 0 = 0) ∨ (x = 0 ∧ c 0 ≠ 0)) (h0 : c 0 ≤ 1999) {x1 x2 x3 : Int32} (g : Fin1 (K573 x1 x2 x3 (nI k + 1) w)) : Fin1 (f_Law_law_j1304 xs Ls K573 x1 x2 x3 (nI k) (nI (c 0)) x w) := by
  rw [f_Law_law_j1304]
  rcases hx with ⟨rfl, h⟩ | ⟨rfl, h⟩
  · rw [if_pos (show nI (c 0) = 0 by rw [h]; rfl), f_Law_law_j1314, if_pos rfl]; exact g
  · rw [if_neg (show ¬ nI (c 0) = 0 from nI_ne' (b := 0) (by omega) (by omega) h), f_Law_law_j1314, if_pos rfl]; exact g
/-- visit -/
theorem l_visit (h : LI w A c K k) (hk : k < 40) (C : CT K573 k) {s : Nat} (hs : s < 5) : Fin1 (Option.bind (f_Count_visit 1 (nI s) w) fun q181 => if q181.1 < 0 then f_Law_law_j1304 xs Ls K573 (nI (c 3)) (nI (c 4)) (nI (c 5)) (nI k) (nI (c 0)) 1 q181.2 else f_Law_law_j1304 xs Ls K573 (nI (c 3)) (nI (c 4)) (nI (c 5)) (nI k) (nI (c 0)) 0 q181.2) := by
  have h0 := h
  obtain ⟨R, ⟨q2, q3⟩, ⟨z1, z6, z7, z10, z12, z13, z0, z3, z4, z5, z8, z9, z2⟩, P, S, hST, hWY, hLL, hT, hM, hSs, hI, hH⟩ := h
  have land : ¬ A (40 + 8 * s) = nI 1 := by rw [(hST s hs).1]; decide
  by_cases y : c 0 = 0
  · have e : f_Count_visit 1 (nI s) w = some (-1, w) := s_visitN R (l := 1) (by omega) (by omega) land y
    rw [e, ob]
    dsimp only
    rw [if_pos (by decide)]
    exact l_1304 (Or.inl ⟨rfl, y⟩) (by omega) (l_skip h0 hk C)
  obtain ⟨u, B, a1, kp, a3, b0, b1, b2, b3, b8, b9, fr⟩ := s_visit R (by omega) z6 (l := 1) (s := s) (by omega) (by omega) land (by omega) (by omega)
  have a1' : f_Count_visit 1 (nI s) w = some (nI (c 8), u) := a1
  rw [a1', ob]
  dsimp only
  rw [if_neg (nI_pos (by omega))]
  refine l_1304 (Or.inr ⟨rfl, y⟩) (by omega) ?_
  rw [ip_1]
  have hi2 : HI B (cup (cup c 8 (c 8 + 1)) 11 (c 11 + 1)) := by
    refine HI_visit hI (by omega) hs (by omega) b1 b2 (fun j hj => ?_) ?_ (fun z => ?_) fr
    · rw [b3 j (by omega), vct_cn z6 hI (by omega) (by omega) (c 3) (Nat.le_refl _)]; rfl
    · have := b3 4 (by omega)
      rw [vct_4 z6 hI (c 3) (Nat.le_refl _)] at this
      exact this
    · rw [b8] at z
      unfold vsw at z
      rcases vsl_c A c s with e | ⟨l, l1, l2, l3⟩
      · rw [if_pos e] at z
        exact absurd z (by decide)
      · obtain ⟨y1, y2⟩ := sdy_e R l1
        rw [l2, if_neg (nI_ne_m1 (by omega)), nI_clamp (by omega)] at z
        refine ⟨l, sdy A l, l1, b9.trans l2, y1, y2, ?_⟩
        have hb : brk A (nI s) (sdy A l) (nI (c 0 - 1)) (c 4) 0 = false := by
          have e1 : nI (c 0) - 1 = nI (c 0 - 1) := nI_sub (b := 1) (by omega)
          rw [e1] at z
          cases hq : brk A (nI s) (sdy A l) (nI (c 0 - 1)) (c 4) 0 with
          | false => rfl
          | true => rw [hq] at z; exact absurd z (by decide)
        have nb := brk_nb (x := s) (p := sdy A l) (d := c 0 - 1) (by omega) (by omega) hI.1 hI.2.2.1 (c 4) 0 (by omega) hb
        exact fun t ht => nb t (Nat.zero_le _) (by omega)
  exact C u B (cup (cup c 8 (c 8 + 1)) 11 (c 11 + 1)) (K + 1) (LI_of h0 hk a3 (Nat.le_refl _) ⟨z1, z6, z7, z10, z12, z13, by show c 0 ≤ _; omega, z3, z4, z5, by show c 8 + 1 ≤ _; omega, by show c 9 ≤ _; omega, z2⟩ (fun q hq => kp q (by omega)) rfl (fun i q1 q2 => fr i (by omega) (by omega)) (SYt_k hT (kp 98 (by omega)) rfl (fun t ht j hj _ => fr _ (by omega) (by omega))) (SYm_k hM (kp 99 (by omega)) rfl (fun t ht j hj => fr _ (by omega) (by omega))) (SYs_k hSs (kp 100 (by omega)) rfl (fun t ht j hj => fr _ (by omega) (by omega))) hi2 (HSt_k hH rfl (fun t ht => ⟨fr _ (by omega) (by omega), fr _ (by omega) (by omega)⟩)))
/-- picture -/
theorem l_picture (h : LI w A c K k) (hk : k < 40) (C : CT K573 k) {s : Nat} (hs : s < 5) : Fin1 (Option.bind (f_Count_picture (nI s) w) fun q189 => K573 (nI (c 3)) (nI (c 4)) (nI (c 5)) (nI k + 1) q189.2) := by
  have h0 := h
  obtain ⟨R, ⟨q2, q3⟩, ⟨z1, z6, z7, z10, z12, z13, z0, z3, z4, z5, z8, z9, z2⟩, P, S, hST, hWY, hLL, hT, hM, hSs, hI, hH⟩ := h
  by_cases y : c 0 = 0 ∨ A (40 + 8 * s + 3) = 1
  · obtain ⟨x, e⟩ := s_pictureN R (s := s) (by omega) (y.elim Or.inl (fun q => Or.inr (Or.inr (Or.inl q))))
    rw [e, ob]
    exact l_skip h0 hk C
  have y0 : c 0 ≠ 0 := fun q => y (Or.inl q)
  obtain ⟨u, B, a1, kp, a3, b0, b1, b2, fr⟩ := s_picture R (by omega) (s := s) (by omega) (by omega) (fun q => y (Or.inr q)) (by rw [z12]; rfl) (by omega)
  rw [a1, ob]
  dsimp only
  rw [ip_1]
  have nl : nlg A c (nI s) (nI (c 0) - 1) (c 3) ≤ 40 := by
    have := nlg_le (A := A) (c := c) (x := nI s) (d := nI (c 0) - 1) (c 3)
    omega
  have hi2 : HI B (cup c 9 (c 9 + 1)) := by
    refine HI_pic hI (by omega) hs (by omega) nl (fun j hj hlow => ?_) b0 b1 b2 fr
    have e1 : nI (c 0) - 1 = nI (c 0 - 1) := nI_sub (b := 1) (by omega)
    rw [e1]
    have gen : ∀ n, n ≤ c 3 → ct (fun t => decide (A (240 + 12 * t) = nI j ∧ mwh A (c 4) t (nI (c 0 - 1)) = nI s)) n ≤ nlg A c (nI s) (nI (c 0 - 1)) n := by
      intro n
      induction n with
      | zero => intro _; exact Nat.le_refl _
      | succ n ih =>
        intro hn
        have iH := ih (by omega)
        rw [ct, nlg]
        by_cases z : A (240 + 12 * n) = nI j ∧ mwh A (c 4) n (nI (c 0 - 1)) = nI s
        · obtain ⟨so, mk, st, c1, c2, c3, c4, c5, c6, c7, c8, c9⟩ := hI.2.1 n (by omega)
          have es : so = j := (nI_eq (by omega) (by omega)).mp (c1.symm.trans z.1)
          rw [es] at c9
          rw [if_pos (decide_eq_true z), if_pos ⟨z.2, fun q => c9 (Int32.lt_of_lt_of_le q (Int32.not_lt.mp hlow))⟩]
          omega
        · rw [if_neg (fun q => z (of_decide_eq_true q))]
          omega
    exact gen (c 3) (Nat.le_refl _)
  exact C u B (cup c 9 (c 9 + 1)) (K + 1) (LI_of h0 hk a3 (Nat.le_refl _) ⟨z1, z6, z7, z10, z12, z13, by show c 0 ≤ _; omega, z3, z4, z5, by show c 8 ≤ _; omega, by show c 9 + 1 ≤ _; omega, z2⟩ (fun q hq => kp q (by omega)) rfl (fun i q1 q2 => fr i (by omega) (by omega)) (SYt_k hT (kp 98 (by omega)) rfl (fun t ht j hj _ => fr _ (by omega) (by omega))) (SYm_k hM (kp 99 (by omega)) rfl (fun t ht j hj => fr _ (by omega) (by omega))) (SYs_k hSs (kp 100 (by omega)) rfl (fun t ht j hj => fr _ (by omega) (by omega))) hi2 (HSt_k hH rfl (fun t ht => ⟨fr _ (by omega) (by omega), fr _ (by omega) (by omega)⟩)))
/-- days -/
theorem l_days (h : LI w A c K k) (hk : k < 40) (C : CT K573 k) {X : Nat} : Fin1 (Option.bind (f_Count_days (1 + ((nI X >>> ((4 : Int32) &&& 31)) &&& 3)) w) fun q71 => if q71.1 < 0 then none else K573 (nI (c 3)) (nI (c 4)) (nI (c 5)) (nI k + 1) q71.2) := by
  have h0 := h
  obtain ⟨R, ⟨q2, q3⟩, ⟨z1, z6, z7, z10, z12, z13, z0, z3, z4, z5, z8, z9, z2⟩, P, S, hST, hWY, hLL, hT, hM, hSs, hI, hH⟩ := h
  obtain ⟨m, hm, em⟩ := ma_k (nI X >>> ((4 : Int32) &&& 31)) 3
  have em' : (nI X >>> ((4 : Int32) &&& 31)) &&& 3 = nI m := em
  obtain ⟨d, hd⟩ : ∃ d, d = 1 + m := ⟨_, rfl⟩
  obtain ⟨u, B, a1, kp, a3, b0, fr⟩ := s_days R (by omega) (d := d) (by omega) (by omega) (by omega)
  rw [em', show (1 : Int32) + nI m = nI (1 + m) from nI_add 1 m, ← hd, a1, ob]
  dsimp only
  rw [if_neg (nI_pos (by omega)), ip_1]
  have hi2 : HI B (cup c 0 (c 0 + d)) := HI_days hI (by omega) fr
  exact C u B (cup c 0 (c 0 + d)) (K + 1) (LI_of h0 hk a3 (Nat.le_refl _) ⟨z1, z6, z7, z10, z12, z13, by show c 0 + d ≤ _; omega, z3, z4, z5, by show c 8 ≤ _; omega, by show c 9 ≤ _; omega, z2⟩ (fun q hq => kp q (by omega)) rfl (fun i q1 q2 => fr i (by omega) (by omega)) (SYt_k hT (kp 98 (by omega)) rfl (fun t ht j hj _ => fr _ (by omega) (by omega))) (SYm_k hM (kp 99 (by omega)) rfl (fun t ht j hj => fr _ (by omega) (by omega))) (SYs_k hSs (kp 100 (by omega)) rfl (fun t ht j hj => fr _ (by omega) (by omega))) hi2 (HSt_k hH rfl (fun t ht => ⟨fr _ (by omega) (by omega), fr _ (by omega) (by omega)⟩)))
theorem l_631 (h : LI w A c K k) (hk : k < 40) (C : CT K573 k) {X s i : Nat} (hX : X < 2 ^ 31) (hs : s < 5) (hi : c 3 = 0 ∧ i = 0 ∨ i < c 3) : Fin1 (f_Law_law_j631 xs Ls K573 (nI (c 3)) (nI (c 4)) (nI (c 5)) (nI k) (nI X) (nI (c 0)) (nI s) (nI i) w) := by
  have cz : c 5 ≤ 8 := h.2.2.1.2.2.2.2.2.2.2.2.2.1
  rw [f_Law_law_j631]
  by_cases e0 : nI X &&& 15 = 0
  · rw [if_pos e0]
    exact l_make h hk C hX hs
  rw [if_neg e0]
  by_cases e1 : nI X &&& 15 = 1
  · rw [if_pos e1]
    exact l_make h hk C hX hs
  rw [if_neg e1]
  by_cases e2 : nI X &&& 15 = 2
  · rw [if_pos e2]
    exact l_make h hk C hX hs
  rw [if_neg e2]
  by_cases e3 : nI X &&& 15 = 3
  · rw [if_pos e3]
    exact l_move h hk C hi hs
  rw [if_neg e3]
  by_cases e4 : nI X &&& 15 = 4
  · rw [if_pos e4]
    exact l_move h hk C hi hs
  rw [if_neg e4]
  by_cases e5 : nI X &&& 15 = 5
  · rw [if_pos e5]
    exact l_move h hk C hi hs
  rw [if_neg e5]
  by_cases e6 : nI X &&& 15 = 6
  · rw [if_pos e6]
    exact l_move h hk C hi hs
  rw [if_neg e6]
  by_cases e7 : nI X &&& 15 = 7
  · rw [if_pos e7]
    exact l_step h hk C hi
  rw [if_neg e7]
  by_cases e8 : nI X &&& 15 = 8
  · rw [if_pos e8]
    by_cases y : c 5 = 8
    · rw [if_pos (show nI (c 5) = 8 by rw [y]; rfl)]
      exact l_skip h hk C
    · rw [if_neg (show ¬ nI (c 5) = 8 from nI_ne' (b := 8) (by omega) (by omega) y)]
      exact l_1171 h hk C hs y (c 5) 0 jfu (by omega) (by unfold jfu; omega)
  rw [if_neg e8]
  by_cases e9 : nI X &&& 15 = 9
  · rw [if_pos e9]
    exact l_visit h hk C hs
  rw [if_neg e9]
  by_cases e10 : nI X &&& 15 = 10
  · rw [if_pos e10]
    exact l_visit h hk C hs
  rw [if_neg e10]
  by_cases e11 : nI X &&& 15 = 11
  · rw [if_pos e11]
    exact l_picture h hk C hs
  rw [if_neg e11]
  exact l_days h hk C
theorem l_573 (hL : Ls ≤ 260) (next : ∀ w A c K, LI w A c K 40 → Fin1 (f_Law_law_h1362 xs Ls jfu (nI (c 3)) (nI (c 4)) (nI (c 5)) (nI (c 0)) 0 w)) : ∀ m k f (w : jW) A c K, k + m = 40 → m < f → LI w A c K k → Fin1 (f_Law_law_h573 xs Ls f (nI (c 3)) (nI (c 4)) (nI (c 5)) (nI k) w) := by
  intro m
  induction m with
  | zero =>
    intro k f w A c K hk hf h
    obtain ⟨f, rfl⟩ : ∃ j, f = j + 1 := ⟨f - 1, by omega⟩
    obtain rfl : k = 40 := by omega
    rw [f_Law_law_h573, if_neg (by decide), s_about0 h.1, ob]
    exact next w A c K h
  | succ m ih =>
    intro k f w A c K hk hf h
    obtain ⟨f, rfl⟩ : ∃ j, f = j + 1 := ⟨f - 1, by omega⟩
    have l3 : c 3 ≤ 8 := h.2.2.1.2.2.2.2.2.2.2.1
    obtain ⟨X, hX, eX⟩ := pick_n (xs := xs) hL (k := 11 + k) (by omega)
    have C : CT (f_Law_law_h573 xs Ls f) k := fun w' A' c' K' h' => ih (k + 1) f w' A' c' K' (by omega) (by omega) h'
    obtain ⟨a, ha, ea⟩ := ma_k (nI X >>> ((4 : Int32) &&& 31)) 255
    have ea' : (nI X >>> ((4 : Int32) &&& 31)) &&& 255 = nI a := ea
    obtain ⟨b, hb, eb⟩ := ma_k (nI X >>> ((12 : Int32) &&& 31)) 255
    have eb' : (nI X >>> ((12 : Int32) &&& 31)) &&& 255 = nI b := eb
    have r5 : nI a - nI a / 5 * 5 = nI (a % 5) := nI_rem (b := 5) (by omega) (by omega)
    have m5 : a % 5 < 5 := Nat.mod_lt _ (by omega)
    rw [f_Law_law_h573, if_pos (show nI k < 40 from nI_lt (b := 40) (by omega) (by omega)), show (11 : Int32) + nI k = nI (11 + k) from nI_add 11 k, eX, ob]
    dsimp only
    rw [s_about0 h.1, ob]
    dsimp only
    rw [if_pos (by decide), ea', eb', r5]
    by_cases y : c 3 = 0
    · rw [if_pos (show nI (c 3) = 0 by rw [y]; rfl)]
      exact l_631 h (by omega) C hX m5 (Or.inl ⟨y, rfl⟩)
    · have n0 : ¬ nI (c 3) = 0 := nI_ne' (b := 0) (by omega) (by omega) y
      have g1 : jal [!(nI (c 3) == 0)] = true := by
        rw [jal_c, jal_n, Bool.and_true, Bool.not_eq_true', beq_eq_false_iff_ne]; exact n0
      have rb : nI b - nI b / nI (c 3) * nI (c 3) = nI (b % c 3) := nI_rem (by omega) (by omega)
      rw [if_neg n0, if_pos g1, rb]
      exact l_631 h (by omega) C hX m5 (Or.inr (Nat.mod_lt _ (by omega)))
end C9

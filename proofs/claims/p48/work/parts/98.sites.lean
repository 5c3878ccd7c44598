/-! LAYER C of p48: shares: the chances, the sum of the shares; the law answers 1 -/
section E4
variable {w v : jW} {A : Nat → Int32} {c : Nat → Nat} {K : Nat} {xs : Nat → Int32} {Ls : Nat}
def S116 (w : jW) (A : Nat → Int32) (c : Nat → Nat) (K σ M D p k s0 s1 : Nat) (x11 : Int32) : Prop := RA w 3 A c K ∧ (∀ i, i < 5 → w.1 101 i = nI (chv A i)) ∧ w.2 102 0 = lN s0 ∧ w.2 102 1 = lN s1 ∧ s0 * D = M * lsq p (chl A σ k 0) * s1 ∧ Nat.Coprime s0 s1 ∧ 1 ≤ s1 ∧ ((x11 = 0 ∧ ∀ x ∈ chl A σ k 0, M * (p / x) ≠ D) ∨ x11 = 1)
theorem l_116 (hLs : Ls ≤ 260) {σ n q U L M D : Nat} {P : List Nat} (h : PQ A c σ n q U L P) (d1 : 1 ≤ D) (d2 : D ≤ 312500000) (d3 : U * D = M * lpr P * L) (d4 : ∀ x ∈ P, M * (lpr P / x) ≤ D) (d5 : M * lsq (lpr P) P ≤ q * D) (d6 : M * lsq (lpr P) P = q * D ∨ ∃ x ∈ P, M * (lpr P / x) = D) (d7 : ∀ x ∈ P, L * x / Nat.gcd U (L * x) * D ≤ 1000000000000000) : ∀ m k f (w : jW) s0 s1 x11, k + m = 5 → m < f → S116 w A c K σ M D (lpr P) k s0 s1 x11 → Fin1 (f_Law_shares_h116 xs Ls f (nI σ) (nI n) (nI q) (lN U) (lN L) x11 (nI k) w) := by
  have h' := h
  obtain ⟨h1, ⟨hs1, hs2⟩, hP, hPl, ⟨hn1, hn⟩, ⟨hq1, hq⟩, hU, hL, hUb, hL1, hLb⟩ := h'
  intro m
  induction m with
  | zero =>
    intro k f w s0 s1 x11 hk hf hS
    obtain ⟨f, rfl⟩ : ∃ j, f = j + 1 := ⟨f - 1, by omega⟩
    obtain rfl : k = 5 := by omega
    obtain ⟨R, a1, a2, a3, a4, a5, a6, a7⟩ := hS
    have hP5 : chl A σ 5 0 = P := by rw [hP, h1]
    rw [hP5] at a4 a7
    obtain ⟨T, eT⟩ : ∃ T, T = M * lsq (lpr P) P := ⟨_, rfl⟩
    rw [← eT] at a4 d5 d6
    obtain ⟨l1, l2⟩ := low_d d1 a4 a5
    have le : s0 ≤ q * s1 := by
      have : s0 * D ≤ q * s1 * D := by
        rw [a4, Nat.mul_right_comm]
        exact Nat.mul_le_mul_right _ d5
      exact Nat.le_of_mul_le_mul_right this d1
    have qs : q * s1 ≤ 5 * 312500000 := Nat.mul_le_mul (by omega) (by omega)
    have g0 : jal [jin 1 2, jin 0 2] = true := by decide
    have e2 : lg_cmp (w.2 102 (Int32.toNatClampNeg 0)) ((Int32.toInt64 (nI q)) * (w.2 102 (Int32.toNatClampNeg 1))) = lg_cmp (lN s0) (lN (q * s1)) := by
      show lg_cmp (w.2 102 0) ((Int32.toInt64 (nI q)) * (w.2 102 1)) = _
      rw [a2, a3, show Int32.toInt64 (nI q) = lN q from nI_l (by omega), lN_mul]
    rw [f_Law_shares_h116, if_neg (by decide), if_pos g0, if_pos (show lg_cmp (w.2 102 (Int32.toNatClampNeg 0)) ((Int32.toInt64 (nI q)) * (w.2 102 (Int32.toNatClampNeg 1))) ≤ 0 by rw [e2, cmp_le (by omega) (by omega)]; exact le)]
    rcases a7 with ⟨rfl, y⟩ | rfl
    · have eqq : s0 = q * s1 := by
        have e3 := d6.resolve_right (fun ⟨x, hx, e⟩ => y x hx e)
        have : s0 * D = q * s1 * D := by rw [a4, e3, Nat.mul_right_comm]
        exact Nat.eq_of_mul_eq_mul_right d1 this
      rw [if_pos (show (0 : Int32) = 0 from rfl), if_pos g0, if_pos (show lg_cmp (w.2 102 (Int32.toNatClampNeg 0)) ((Int32.toInt64 (nI q)) * (w.2 102 (Int32.toNatClampNeg 1))) = 0 by rw [e2, cmp_eq (by omega) (by omega)]; exact eqq)]
      exact l_328 hLs h R a1
    · rw [if_neg one_ne]
      exact l_328 hLs h R a1
  | succ m ih =>
    intro k f w s0 s1 x11 hk hf hS
    obtain ⟨f, rfl⟩ : ∃ j, f = j + 1 := ⟨f - 1, by omega⟩
    have hS0 := hS
    obtain ⟨R, a1, a2, a3, a4, a5, a6, a7⟩ := hS0
    have hk5 : k < 5 := by omega
    have h5 : (chl A σ (c 1) 0).length ≤ 5 := by rw [← hP]; omega
    have hql : q ≤ (chl A σ (c 1) 0).length := by rw [← hP]; omega
    have hσ2 : σ < 2 ^ c 1 := by rw [h1]; omega
    have sb := sbit σ (by omega) k (by omega)
    rw [f_Law_shares_h116, if_pos (show nI k < 5 from nI_lt (b := 5) hk5 (by omega)), sb]
    by_cases z : σ.testBit k = true
    · have g2 : ¬ (nI σ >>> (nI k &&& 31)) &&& 1 = 0 := by rw [sb, if_pos z]; decide
      have hx : chv A k ∈ P := by rw [hP, h1]; exact chl_mem hk5 z
      obtain ⟨x1, x2, x3⟩ := chv_e R (k := k) (by omega)
      obtain ⟨v1, r1, r2, r3, r4⟩ := s_share R (n := q) (i := k) (y := 0) (by omega) hq1 hql hs1 hσ2 h5 (by omega) g2 hU hL
      obtain ⟨v2, t1, t2, t3, t4⟩ := s_share r4 (n := q) (i := k) (y := 1) (by omega) hq1 hql hs1 hσ2 h5 (by omega) g2 hU hL
      rw [if_pos rfl] at r1
      rw [if_neg one_ne] at t1
      have e3 : U * D = M * (lpr P / chv A k) * (L * chv A k) := by
        have ex : lpr P / chv A k * chv A k = lpr P := Nat.div_mul_cancel (lpr_dvd P _ hx)
        rw [d3]
        generalize lpr P / chv A k = y at ex ⊢
        rw [← ex]
        simp only [Nat.mul_comm, Nat.mul_left_comm, Nat.mul_assoc]
      obtain ⟨f1, f2, f3⟩ := shr_1 hL1 x2 e3
      have f4 := d7 _ hx
      have f5 := d4 _ hx
      have f6 : U / Nat.gcd U (L * chv A k) * L * chv A k = U * (L * chv A k / Nat.gcd U (L * chv A k)) := by
        have g3 : U / Nat.gcd U (L * chv A k) * Nat.gcd U (L * chv A k) = U := Nat.div_mul_cancel (Nat.gcd_dvd_left _ _)
        have g4 : L * chv A k / Nat.gcd U (L * chv A k) * Nat.gcd U (L * chv A k) = L * chv A k := Nat.div_mul_cancel (Nat.gcd_dvd_right _ _)
        rw [Nat.mul_assoc]
        generalize U / Nat.gcd U (L * chv A k) = a at *
        generalize L * chv A k / Nat.gcd U (L * chv A k) = b at *
        generalize Nat.gcd U (L * chv A k) = g at *
        rw [← g4, ← g3]
        simp only [Nat.mul_comm, Nat.mul_left_comm, Nat.mul_assoc]
      have eT : M * lsq (lpr P) (chl A σ (k + 1) 0) = M * lsq (lpr P) (chl A σ k 0) + M * (lpr P / chv A k) := by
        rw [chl_st, if_pos z, lsq_app, lsq, lsq, Nat.add_zero, Nat.mul_add]
      have lP : M * lsq (lpr P) (chl A σ k 0) ≤ q * D := by
        have e := chl_app (A := A) (σ := σ) k (5 - k) 0
        rw [show k + (5 - k) = 5 by omega] at e
        have e' : lsq (lpr P) P = lsq (lpr P) (chl A σ k 0 ++ chl A σ (5 - k) (0 + k)) := congrArg (lsq (lpr P)) (by rw [hP, h1]; exact e)
        rw [lsq_app] at e'
        refine Nat.le_trans (Nat.mul_le_mul_left _ ?_) d5
        omega
      have mem : ∀ x, x ∈ chl A σ (k + 1) 0 → x ∈ chl A σ k 0 ∨ x = chv A k := fun x hx => by
        rw [chl_st, if_pos z] at hx
        rcases List.mem_append.mp hx with q | q
        · exact Or.inl q
        · exact Or.inr (List.mem_singleton.mp q)
      rw [if_pos z, if_neg one_ne, r1, ob]
      dsimp only
      rw [t1, ob]
      dsimp only
      obtain ⟨N, eN⟩ : ∃ N, N = M * (lpr P / chv A k) := ⟨_, rfl⟩
      obtain ⟨T, eT0⟩ : ∃ T, T = M * lsq (lpr P) (chl A σ k 0) := ⟨_, rfl⟩
      rw [← eN] at f1 f5 eT
      rw [← eT0] at a4 lP eT
      generalize U / Nat.gcd U (L * chv A k) = a at f1 f2 f6 ⊢
      generalize L * chv A k / Nat.gcd U (L * chv A k) = b at f1 f2 f3 f4 f6 ⊢
      have ab : a ≤ b := by
        have : a * D ≤ b * D := by
          rw [f1, Nat.mul_comm b]; exact Nat.mul_le_mul_right _ f5
        exact Nat.le_of_mul_le_mul_right this d1
      have bD : b ≤ b * D := Nat.le_mul_of_pos_right b d1
      obtain ⟨l1, l2⟩ := low_d d1 a4 a5
      have q5 : q * D ≤ 5 * D := Nat.mul_le_mul_right _ (by omega)
      have u1 : s0 * b ≤ 5 * (b * D) := by
        have : s0 * b ≤ (5 * D) * b := Nat.mul_le_mul_right _ (by omega)
        rw [Nat.mul_assoc, Nat.mul_comm D] at this
        exact this
      have u2 : a * s1 ≤ b * D := Nat.mul_le_mul ab l1
      have u3 : s1 * b ≤ b * D := by rw [Nat.mul_comm]; exact Nat.mul_le_mul_left _ l1
      have u4 : 1 ≤ s1 * b := Nat.mul_pos a6 f3
      have e101 : ∀ i, i < 5 → v2.1 101 i = nI (chv A i) := fun i hi => by rw [congrFun (t2 101 (by omega)) i, congrFun (r2 101 (by omega)) i]; exact a1 i hi
      have g1 : jal [jin (nI k) 5] = true := by rw [jal_c, jal_n, jin_nI hk5 (by omega)]; rfl
      obtain ⟨w1, w2, w3⟩ := sum_st a6 f3 a4 f1
      have go : ∀ s : Int32, ((s = 0 ∧ a ≠ b) ∨ s = 1) → Fin1 (f_Law_shares_j203 xs Ls (f_Law_shares_h116 xs Ls f) (nI σ) (nI n) (nI q) (lN U) (lN L) (nI k) (lN a) (lN b) s x11 v2) := by
        intro s hs
        have m2 : v2.2 102 (Int32.toNatClampNeg 0) = lN s0 := by
          show v2.2 102 0 = _
          rw [t3 102 (by omega), r3 102 (by omega)]; exact a2
        have m3 : v2.2 102 (Int32.toNatClampNeg 1) = lN s1 := by
          show v2.2 102 1 = _
          rw [t3 102 (by omega), r3 102 (by omega)]; exact a3
        rw [f_Law_shares_j203, if_pos (by decide), m2, m3]
        simp only [lN_mul, lN_add]
        rw [l_240 (by omega) (by omega) (by omega)]
        refine ih (k + 1) f _ _ _ _ (by omega) (by omega) ⟨RA_hi t4 (fun b _ => rfl), e101, ?_, ?_, ?_, w2, w3, ?_⟩
        · dsimp only
          rw [jup_k (by omega), jup_eq]
        · dsimp only
          rw [jup_eq]
        · rw [eT]; exact w1
        · rcases hs with ⟨rfl, ne⟩ | rfl
          · rcases a7 with ⟨rfl, y⟩ | rfl
            · refine Or.inl ⟨by decide, fun x hx => ?_⟩
              rcases mem x hx with q | rfl
              · exact y x q
              · rw [← eN]
                intro e
                rw [e, Nat.mul_comm D] at f1
                exact ne (Nat.eq_of_mul_eq_mul_right d1 f1)
            · exact Or.inr (by decide)
          · rcases a7 with ⟨rfl, y⟩ | rfl
            · exact Or.inr (by decide)
            · exact Or.inr (by decide)
      rw [if_pos (show lg_cmp (lN a) (lN b) ≤ 0 by rw [cmp_le (by omega) (by omega)]; exact ab), if_pos g1, nI_clamp (by omega), e101 k hk5, show Int32.toInt64 (nI (chv A k)) = lN (chv A k) from nI_l (by omega), lN_mul, lN_mul, lN_mul, if_pos (lg_0.mpr (congrArg lN f6))]
      by_cases y : a = b
      · rw [if_pos (show lg_cmp (lN a) (lN b) = 0 from lg_0.mpr (congrArg lN y))]
        exact go 1 (Or.inr rfl)
      · rw [if_neg (show ¬ lg_cmp (lN a) (lN b) = 0 by rw [cmp_eq (by omega) (by omega)]; exact y)]
        exact go 0 (Or.inl ⟨rfl, y⟩)
    · have e1 : chl A σ (k + 1) 0 = chl A σ k 0 := by rw [chl_st, if_neg z, List.append_nil]
      rw [if_neg z, if_pos (show (0 : Int32) = 0 from rfl), ip_1]
      refine ih (k + 1) f w s0 s1 x11 (by omega) (by omega) ?_
      unfold S116
      rw [e1]
      exact hS
theorem bc_1 : ∀ σ, σ < 32 → 1 ≤ σ → 1 ≤ bc σ := by decide +kernel
theorem l_6e (hLs : Ls ≤ 260) (h1 : c 1 = 5) : ∀ m k f (w : jW) A K, k + m = 5 → m < f → RA w 3 A c K → K + m ≤ 100 → (∀ i, i < k → w.1 101 i = nI (chv A i)) → Fin1 (f_Law_shares_h6 xs Ls f (nI k) w) := by
  intro m
  induction m with
  | zero =>
    intro k f w A K hk hf R hK h101
    obtain ⟨f, rfl⟩ : ∃ j, f = j + 1 := ⟨f - 1, by omega⟩
    obtain rfl : k = 5 := by omega
    obtain ⟨X, hX, eX⟩ := pick_n (xs := xs) hLs (k := 65) (by omega)
    obtain ⟨Y, hY, eY⟩ := pick_n (xs := xs) hLs (k := 66) (by omega)
    have eX' : f_Law_pick xs Ls 65 w = some (nI X, w) := eX w
    have eY' : f_Law_pick xs Ls 66 w = some (nI Y, w) := eY w
    have er : nI X - nI X / 31 * 31 = nI (X % 31) := nI_rem (b := 31) hX (by omega)
    have m31 : X % 31 < 31 := Nat.mod_lt _ (by omega)
    rw [f_Law_shares_h6, if_neg (by decide), eX', ob]
    dsimp only
    rw [if_pos (show jal [!(31 == 0)] = true by decide), er, show (1 : Int32) + nI (X % 31) = nI (1 + X % 31) from nI_add 1 _]
    obtain ⟨σ, eσ⟩ : ∃ σ, σ = 1 + X % 31 := ⟨_, rfl⟩
    rw [← eσ]
    have hσ : 1 ≤ σ ∧ σ < 32 := by omega
    rw [bc_e hσ.2, ob]
    dsimp only
    rw [eY', ob]
    dsimp only
    have n1 := bc_1 σ hσ.2 hσ.1
    have n5 := bc_5 σ
    have nl : (chl A σ (c 1) 0).length = bc σ := by rw [h1, chl_len]; exact (bc_n 5 (by omega) σ (by omega)).symm
    obtain ⟨n, en⟩ : ∃ n, n = bc σ := ⟨_, rfl⟩
    rw [← en] at n1 n5 nl ⊢
    have mn : Y % n < n := Nat.mod_lt _ (by omega)
    have er2 : nI Y - nI Y / nI n * nI n = nI (Y % n) := nI_rem hY (by omega)
    have gn : ∀ n, n ≤ 5 → 1 ≤ n → jal [!(nI n == 0)] = true := by decide +kernel
    rw [if_pos (gn n n5 n1), er2, show (1 : Int32) + nI (Y % n) = nI (1 + Y % n) from nI_add 1 _]
    obtain ⟨q, eq⟩ : ∃ q, q = 1 + Y % n := ⟨_, rfl⟩
    rw [← eq]
    have hσ2 : σ < 2 ^ c 1 := by rw [h1]; omega
    obtain ⟨v1, r1, r2, r3⟩ := s_value0 R (σ := σ) (n := q) (by omega) (by omega) (by omega) hσ.1 hσ2 (by omega)
    obtain ⟨v2, t1, t2, t3⟩ := s_value1 r3 (σ := σ) (n := q) (by omega) (by omega) (by omega) hσ.1 hσ2 (by omega)
    obtain ⟨d1, d2, d3, d4⟩ := nume_b R (σ := σ) (q := q) ⟨by omega, by omega⟩ (by omega)
    obtain ⟨f1, f2, f3, f4⟩ := low_b d1 d3
    rw [r1, ob]
    dsimp only
    rw [t1, ob]
    dsimp only
    obtain ⟨U, eU⟩ : ∃ U, U = nume A c σ q / Nat.gcd (nume A c σ q) (deno A c σ q) := ⟨_, rfl⟩
    obtain ⟨L, eL⟩ : ∃ L, L = deno A c σ q / Nat.gcd (nume A c σ q) (deno A c σ q) := ⟨_, rfl⟩
    rw [← eU] at f1 f2
    rw [← eL] at f3 f4
    rw [← eU, ← eL, jlw_e, if_pos (show jal [jin 0 2] = true by decide), jlw_e, if_pos (show jal [jin 1 2] = true by decide), jlw_e]
    have hPQ : PQ A c σ n q U L (chl A σ (c 1) 0) := ⟨h1, hσ, rfl, nl, ⟨n1, n5⟩, ⟨by omega, by omega⟩, eU, eL, by omega, f3, by omega⟩
    obtain ⟨M, D, p1, p2, p3, p4, p5, p6, p7⟩ := sh_ex R hPQ
    refine l_116 hLs hPQ p1 p2 p3 p4 p5 p6 p7 5 0 jfu _ 0 1 0 (by omega) (by unfold jfu; omega) ⟨RA_hi t3 (fun b hb => jzr_fn (by omega)), fun i hi => ?_, ?_, ?_, ?_, by decide, Nat.le_refl _, Or.inl ⟨rfl, fun x hx => by cases hx⟩⟩
    · have e := congrFun (jzr_fn (w := v2) (a := 102) (b := 101) (by omega)) i
      refine e.trans ?_
      rw [congrFun (t2 101 (by omega)) i, congrFun (r2 101 (by omega)) i]
      exact h101 i hi
    · show jup (jup (jzr v2 102).2 102 0 0) 102 1 1 102 0 = lN 0
      rw [jup_k (by omega), jup_eq]; rfl
    · show jup (jup (jzr v2 102).2 102 0 0) 102 1 1 102 1 = lN 1
      rw [jup_eq]; rfl
    · rw [chl, lsq, Nat.mul_zero, Nat.zero_mul, Nat.zero_mul]
  | succ m ih =>
    intro k f w A K hk hf R hK h101
    obtain ⟨f, rfl⟩ : ∃ j, f = j + 1 := ⟨f - 1, by omega⟩
    obtain ⟨X, hX, eX⟩ := pick_n (xs := xs) hLs (k := 60 + k) (by omega)
    have er : nI X - nI X / 50 * 50 = nI (X % 50) := nI_rem (b := 50) hX (by omega)
    have m50 : X % 50 < 50 := Nat.mod_lt _ (by omega)
    have g1 : jal [jin (nI k) 5, !(50 == 0)] = true := by rw [jal_c, jin_nI (by omega) (by omega)]; decide
    have g2 : jal [jin (nI k) 5] = true := by rw [jal_c, jal_n, jin_nI (by omega) (by omega)]; rfl
    rw [f_Law_shares_h6, if_pos (show nI k < 5 from nI_lt (b := 5) (by omega) (by omega)), show (60 : Int32) + nI k = nI (60 + k) from nI_add 60 k, eX, ob]
    dsimp only
    rw [if_pos g1, jlw_e, if_pos g2, er, show (1 : Int32) + nI (X % 50) = nI (1 + X % 50) from nI_add 1 _, nI_clamp (by omega)]
    dsimp only
    rw [jup_eq]
    obtain ⟨v, B, s1, s2, s3, s4, s5⟩ := s_chance (w := (jup w.1 101 k (nI (1 + X % 50)), w.2)) (A := A) (c := c) (K := K) (RA_hi R (fun b hb => by dsimp only; rw [jup_fn (by omega)])) (by omega) (s := k) (d1 := 1 + X % 50) (by omega) (by omega) (by omega)
    rw [s1, ob]
    dsimp only
    rw [if_neg one_ne, ip_1]
    refine ih (k + 1) f v B (K + 1) (by omega) (by omega) s3 (by omega) (fun i hi => ?_)
    rw [congrFun (s2 101 (by omega)) i]
    dsimp only
    by_cases y : i = k
    · subst y
      rw [jup_eq, chv, s4, nI_clamp (by omega)]
    · rw [jup_k y, h101 i (by omega), chv, chv, s5 _ (by omega) (by omega)]
theorem l_shares (hLs : Ls ≤ 260) (h : FS A c K w) : Fin1 (f_Law_shares xs Ls w) := by
  obtain ⟨R, hK, ⟨h1, z6, z7, z12, z13, z0, z3, z4, z5, z2⟩, -⟩ := h
  rw [f_Law_shares, jlw_e]
  exact l_6e hLs h1 5 0 jfu (jzr w 101) A K (by omega) (by unfold jfu; omega) (RA_hi R (fun b hb => jzr_fn (by omega))) (by omega) (fun i hi => absurd hi (Nat.not_lt_zero i))
/-- the law answers 1, whatever the script -/
theorem law_1 (hLs : Ls ≤ 260) : Fin1 (f_Law_law xs Ls jWb) := by
  refine l_begin hLs (fun w A c K hI z3 z4 z5 => ?_)
  have k := l_573 (xs := xs) hLs (fun w A c K h => l_ends (fun A c K v hv => by
    obtain ⟨v', e, h'⟩ := l_tricks hv
    rw [e, ob]
    dsimp only
    rw [if_neg one_ne]
    obtain ⟨u, e2⟩ := l_shares (xs := xs) hLs h'
    rw [e2, ob]
    dsimp only
    rw [if_neg one_ne]
    exact ⟨u, rfl⟩) h) 40 0 jfu w A c K (by omega) (by unfold jfu; omega) hI
  rw [z3, z4, z5] at k
  exact k
end E4

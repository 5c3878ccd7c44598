/-! LAYER C of p48: shares: what the law asks of value and shares -/
section E3
variable {w v : jW} {A : Nat → Int32} {c : Nat → Nat} {K : Nat} {xs : Nat → Int32} {Ls : Nat}
def PQ (A : Nat → Int32) (c : Nat → Nat) (σ n q U L : Nat) (P : List Nat) : Prop := c 1 = 5 ∧ (1 ≤ σ ∧ σ < 32) ∧ P = chl A σ (c 1) 0 ∧ P.length = n ∧ (1 ≤ n ∧ n ≤ 5) ∧ (1 ≤ q ∧ q ≤ n) ∧ U = nume A c σ q / Nat.gcd (nume A c σ q) (deno A c σ q) ∧ L = deno A c σ q / Nat.gcd (nume A c σ q) (deno A c σ q) ∧ U < 2 ^ 32 ∧ 1 ≤ L ∧ L < 2 ^ 32
/-- a common denominator of all shares -/
theorem sh_ex (R : RA w 3 A c K) {σ n q U L : Nat} {P : List Nat} (h : PQ A c σ n q U L P) : ∃ M D, 1 ≤ D ∧ D ≤ 312500000 ∧ U * D = M * lpr P * L ∧ (∀ x ∈ P, M * (lpr P / x) ≤ D) ∧ M * lsq (lpr P) P ≤ q * D ∧ (M * lsq (lpr P) P = q * D ∨ ∃ x ∈ P, M * (lpr P / x) = D) ∧ ∀ x ∈ P, L * x / Nat.gcd U (L * x) * D ≤ 1000000000000000 := by
  obtain ⟨h1, ⟨hs1, hs2⟩, hP, hPl, ⟨hn1, hn⟩, ⟨hq1, hq⟩, hU, hL, hUb, hL1, hLb⟩ := h
  have hPr : ∀ x ∈ P, 1 ≤ x ∧ x ≤ 50 := by rw [hP]; exact chl_rng R (c 1) 0 (by omega)
  have ev := evl3_l P 1 0 50 (fun x hx => (hPr x hx).1)
  rw [Nat.one_mul, Nat.zero_mul, Nat.zero_add, Nat.one_mul] at ev
  have pp := lpr_pos P (fun x hx => (hPr x hx).1)
  have p50 := lpr_50 P (fun x hx => (hPr x hx).2)
  have s50 := lsq_50 P hPr
  obtain ⟨m1, m2, m3⟩ := lmn_le P 50
  have pw : (50 : Nat) ^ P.length ≤ 50 ^ 5 := Nat.pow_le_pow_right (by omega) (by omega)
  have sw : P.length * 50 ^ P.length ≤ 5 * 50 ^ 5 := Nat.mul_le_mul (by omega) pw
  have e5 : (50 : Nat) ^ 5 = 312500000 := by decide
  rw [e5] at pw sw
  -- some site is there
  obtain ⟨x0, hx0⟩ : ∃ x, x ∈ P := by
    cases P with
    | nil => rw [List.length_nil] at hPl; omega
    | cons y l => exact ⟨y, List.mem_cons_self⟩
  have dv := lpr_dvd P
  have spos : 1 ≤ lsq (lpr P) P := by
    cases P with
    | nil => cases hx0
    | cons y l =>
      have hy := hPr y List.mem_cons_self
      rw [lsq_self hy.1]
      have := lpr_pos l (fun x hx => (hPr x (List.mem_cons_of_mem _ hx)).1)
      omega
  obtain ⟨p, ep⟩ : ∃ p, p = lpr P := ⟨_, rfl⟩
  rw [← ep] at pp p50 dv spos s50
  obtain ⟨s, es⟩ : ∃ s, s = lsq p P := ⟨_, rfl⟩
  obtain ⟨b, eb⟩ : ∃ b, b = lmn 50 P := ⟨_, rfl⟩
  rw [← es] at spos s50
  rw [← eb] at m1 m2 m3
  have eN : nume A c σ q = if q * p ≤ b * s then q * p else b := by
    unfold nume
    rw [← hP, ev, ← ep, ← es, ← eb]
  have eD : deno A c σ q = if q * p ≤ b * s then s else 1 := by
    unfold deno
    rw [← hP, ev, ← ep, ← es, ← eb]
  by_cases z : q * p ≤ b * s
  · rw [if_pos z] at eN eD
    rw [eN, eD] at hU hL
    have g0 : 0 < Nat.gcd (q * p) s := Nat.gcd_pos_of_pos_right _ spos
    have u1 : U * Nat.gcd (q * p) s = q * p := by rw [hU]; exact Nat.div_mul_cancel (Nat.gcd_dvd_left _ _)
    have u2 : L * Nat.gcd (q * p) s = s := by rw [hL]; exact Nat.div_mul_cancel (Nat.gcd_dvd_right _ _)
    have key : U * s = q * p * L := by
      generalize Nat.gcd (q * p) s = g at u1 u2
      have e1 : U * (L * g) = (U * g) * L := by simp only [Nat.mul_comm, Nat.mul_left_comm, Nat.mul_assoc]
      rw [u2, u1] at e1
      exact e1
    rw [← ep, ← es]
    refine ⟨q, s, spos, by omega, key, fun x hx => ?_, Nat.le_refl _, Or.inl rfl, fun x hx => ?_⟩
    · have hx1 := (hPr x hx).1
      have ex : p / x * x = p := Nat.div_mul_cancel (dv x hx)
      have h2 : q * (p / x) * x ≤ s * x := by
        rw [Nat.mul_assoc, ex]
        refine Nat.le_trans z ?_
        rw [Nat.mul_comm]
        exact Nat.mul_le_mul_left _ (m2 x hx)
      exact Nat.le_of_mul_le_mul_right h2 hx1
    · have hx1 := (hPr x hx).1
      have ex : p / x * x = p := Nat.div_mul_cancel (dv x hx)
      obtain ⟨q1, q2, q3⟩ := shr_1 (U := U) (L := L) (x := x) (D := s) (N := q * (p / x)) hL1 hx1 (by
        rw [key]
        rw [← ex]
        have : p / x * x / x = p / x := by rw [ex]
        rw [this]
        simp only [Nat.mul_comm, Nat.mul_left_comm, Nat.mul_assoc])
      have := (low_d spos q1 q2).1
      have s31 : s ≤ 31250000 := by omega
      have : L * x / Nat.gcd U (L * x) * s ≤ 31250000 * 31250000 := Nat.mul_le_mul (by omega) s31
      omega
  · rw [if_neg z] at eN eD
    rw [eN, eD] at hU hL
    rw [Nat.gcd_one_right, Nat.div_one] at hU hL
    rw [← ep, ← es]
    refine ⟨b, p, pp, by omega, by rw [hU, hL, Nat.mul_one], fun x hx => ?_, by omega, Or.inr ?_, fun x hx => ?_⟩
    · have ex : p / x * x = p := Nat.div_mul_cancel (dv x hx)
      have := Nat.mul_le_mul_right (p / x) (m2 x hx)
      rw [Nat.mul_comm x, ex] at this
      exact this
    · have : ∃ x ∈ P, b = x := by
        rcases m3 with m3 | m3
        · have h1 := m2 x0 hx0
          have h2 := (hPr x0 hx0).2
          exact ⟨x0, hx0, by omega⟩
        · exact ⟨b, m3, rfl⟩
      obtain ⟨x, hx, ex⟩ := this
      refine ⟨x, hx, ?_⟩
      rw [ex, Nat.mul_comm]
      exact Nat.div_mul_cancel (dv x hx)
    · have hx1 := hPr x hx
      rw [hL, Nat.one_mul]
      have h1 : x / Nat.gcd U x ≤ x := Nat.div_le_self _ _
      have : x / Nat.gcd U x * p ≤ 50 * 312500000 := Nat.mul_le_mul (by omega) (by omega)
      omega
/-- Euclid, as the law does it -/
theorem l_240 {x3 x4 x5 x11 : Int32} {x6 x8 : Int64} {k a b : Nat} (ha : a < 2 ^ 59) (hb : b < 2 ^ 59) (h0 : b ≠ 0) {k116 : Int32 → Int32 → Int32 → Int64 → Int64 → Int32 → Int32 → jW → Option (Int32 × jW)} : f_Law_shares_h240 xs Ls k116 jfu x3 x4 x5 x6 x8 x11 (nI k) (lN a) (lN b) (lN a) (lN b) w = k116 x3 x4 x5 x6 x8 x11 (nI (k + 1)) (w.1, jup (jup w.2 102 0 (lN (a / Nat.gcd a b))) 102 1 (lN (b / Nat.gcd a b))) := by
  have key : ∀ j f x y, y < 2 ^ j → 2 * j < f → (x < 2 ^ 62 → y < 2 ^ 62 → (x ≠ 0 ∨ y ≠ 0) → ∀ F, f ≤ F → f_Law_shares_h240 xs Ls k116 F x3 x4 x5 x6 x8 x11 (nI k) (lN a) (lN b) (lN x) (lN y) w = k116 x3 x4 x5 x6 x8 x11 (nI (k + 1)) (w.1, jup (jup w.2 102 0 (lN (a / Nat.gcd x y))) 102 1 (lN (b / Nat.gcd x y)))) := by
    refine euc (fun f x y => x < 2 ^ 62 → y < 2 ^ 62 → (x ≠ 0 ∨ y ≠ 0) → ∀ F, f ≤ F → f_Law_shares_h240 xs Ls k116 F x3 x4 x5 x6 x8 x11 (nI k) (lN a) (lN b) (lN x) (lN y) w = k116 x3 x4 x5 x6 x8 x11 (nI (k + 1)) (w.1, jup (jup w.2 102 0 (lN (a / Nat.gcd x y))) 102 1 (lN (b / Nat.gcd x y)))) (fun f x hx hy hn F hF => ?_) (fun f x y h0 ih hx hy hn F hF => ?_)
    · obtain ⟨F, rfl⟩ : ∃ k, F = k + 1 := ⟨F - 1, by omega⟩
      have x0 : x ≠ 0 := hn.resolve_right (fun z => z rfl)
      have g0 : jal [jin 0 2, !(lN x == 0)] = true := by rw [jal_c, jal_c, jal_n, bl_ne x0 (by omega)]; decide
      have g1 : jal [jin 1 2, !(lN x == 0)] = true := by rw [jal_c, jal_c, jal_n, bl_ne x0 (by omega)]; decide
      rw [f_Law_shares_h240, if_pos (by rw [cmp_0 (by omega)]), if_pos g0, jlw_e, if_pos g1, jlw_e, pk_lDiv (by omega) (by omega) (by omega), pk_lDiv (by omega) (by omega) (by omega), Nat.gcd_zero_right, ip_1]
      rfl
    · obtain ⟨F, rfl⟩ : ∃ k, F = k + 1 := ⟨F - 1, by omega⟩
      have := Nat.mod_lt x (show y > 0 by omega)
      have g0 : jal [!(lN y == 0)] = true := by rw [jal_c, jal_n, bl_ne h0 (by omega)]; rfl
      rw [f_Law_shares_h240, if_neg (by rw [cmp_0 (by omega)]; exact h0), if_pos g0, pk_lRem (by omega) (by omega) (by omega), ih hy (by omega) (Or.inl h0) F (by omega), gcd_st h0]
  exact key 59 119 a b hb (by omega) (by omega) (by omega) (Or.inr h0) jfu (by unfold jfu; omega)
theorem chl_st {σ k : Nat} : chl A σ (k + 1) 0 = chl A σ k 0 ++ (if σ.testBit k = true then [chv A k] else []) := by
  have q := chl_app (A := A) (σ := σ) k 1 0
  rw [Nat.zero_add] at q
  rw [q]
  congr 1
  rw [chl]
  exact List.append_nil _
theorem chl_mem {σ k m : Nat} (hk : k < m) (hb : σ.testBit k = true) : chv A k ∈ chl A σ m 0 := by
  have q := chl_app (A := A) (σ := σ) (k + 1) (m - (k + 1)) 0
  rw [show k + 1 + (m - (k + 1)) = m by omega, chl_st, if_pos hb] at q
  rw [q]
  exact List.mem_append_left _ (List.mem_append_right _ List.mem_cons_self)
theorem chl_len {σ : Nat} : ∀ k, (chl A σ k 0).length = ct (fun i => σ.testBit i) k := by
  intro k
  induction k with
  | zero => rfl
  | succ k ih =>
    rw [chl_st, List.length_append, ih, ct]
    congr 1
    split
    · rfl
    · rfl
theorem sm_shift (f : Nat → Nat) : ∀ n, sm f (n + 1) = f 0 + sm (fun i => f (i + 1)) n := by
  intro n
  induction n with
  | zero => rw [sm, sm, sm]; omega
  | succ n ih => rw [sm, ih, sm]; omega
theorem sm_lsq {M p : Nat} : ∀ (P : List Nat), sm (fun i => M * (p / P.getD i 0)) P.length = M * lsq p P := by
  intro P
  induction P with
  | nil => rfl
  | cons x l ih =>
    rw [List.length_cons, sm_shift, lsq, Nat.mul_add, ← ih]
    rfl
/-- while the law picks weights -/
def S342 (w : jW) (A : Nat → Int32) (c : Nat → Nat) (K n k : Nat) (x14 : Int32) (wq : Nat → Nat) : Prop := RA w 3 A c K ∧ (∀ i, i < 5 → w.1 101 i = nI (chv A i)) ∧ (∀ i, i < 5 → w.1 103 i = nI (wq i)) ∧ (∀ i, i < k → wq i ≤ 39) ∧ (∀ i, k ≤ i → wq i = 0) ∧ ((x14 = 0 ∧ sm wq n = 0) ∨ (x14 = 1 ∧ sm wq n ≠ 0))
theorem sm_up {f : Nat → Nat} {k m : Nat} (h0 : f k = 0) : ∀ n, sm (fun i => if i = k then m else f i) n = sm f n + if k < n then m else 0 := by
  intro n
  induction n with
  | zero => rfl
  | succ n ih =>
    rw [sm, sm, ih]
    by_cases z : n = k
    · subst z
      rw [if_neg (by omega), if_pos rfl, if_pos (by omega), h0]
    · rw [if_neg z]
      by_cases y : k < n
      · rw [if_pos y, if_pos (by omega)]; omega
      · rw [if_neg y, if_neg (by omega)]; omega
theorem l_404 {σ n q U L : Nat} {P : List Nat} (h : PQ A c σ n q U L P) {x14 : Int32} {wq : Nat → Nat} : ∀ m k f (w : jW), k + m = 5 → m < f → S342 w A c K n n x14 wq → (∀ i, i < (chl A σ k 0).length → w.1 104 i = nI (P.getD i 0)) → Fin1 (f_Law_shares_h404 xs Ls f (nI σ) (nI n) (nI q) (lN U) (lN L) (nI (chl A σ k 0).length) x14 0 (lN (sm wq (chl A σ k 0).length)) (nI k) w) := by
  obtain ⟨h1, ⟨hs1, hs2⟩, hP, hPl, ⟨hn1, hn⟩, ⟨hq1, hq⟩, hU, hL, hUb, hL1, hLb⟩ := h
  intro m
  induction m with
  | zero =>
    intro k f w hk hf hS h4
    obtain ⟨f, rfl⟩ : ∃ j, f = j + 1 := ⟨f - 1, by omega⟩
    have ek : k = 5 := by omega
    subst ek
    obtain ⟨R, a1, a2, a3, a4, a5⟩ := hS
    rw [h1] at hP
    rw [← hP, hPl] at h4 ⊢
    rw [f_Law_shares_h404, if_neg (by decide)]
    obtain ⟨M, D, d1, d2, d3, d4, d5, d6, d7⟩ := sh_ex R (σ := σ) (n := n) (q := q) (U := U) (L := L) (P := P) ⟨h1, ⟨hs1, hs2⟩, by rw [h1]; exact hP, hPl, ⟨hn1, hn⟩, ⟨hq1, hq⟩, hU, hL, hUb, hL1, hLb⟩
    have hPr : ∀ x ∈ P, 1 ≤ x ∧ x ≤ 50 := by rw [hP]; exact chl_rng R 5 0 (by omega)
    have mem : ∀ i, i < n → P.getD i 0 ∈ P := fun i hi => by
      rw [List.getD_eq_getElem?_getD, List.getElem?_eq_getElem (by omega)]
      exact List.getElem_mem (by omega)
    refine l_454 R h1 (U := U) (L := L) (P := P) (wq := wq) (N := fun i => M * (lpr P / P.getD i 0)) (D := D) hs1 hs2 (by rw [h1]; exact hP) hPl hn1 hn hq1 hq hU hL hUb hLb ⟨a2, a3, a4, h4⟩ a5 d1 (fun i hi => ?_) (fun i hi => d4 _ (mem i hi)) ?_ (2 ^ n) 0 jfu 0 (by omega) (by have : 2 ^ n ≤ 2 ^ 5 := Nat.pow_le_pow_right (by omega) hn; unfold jfu; omega) (by omega) (fun a' ha' => absurd ha' (Nat.not_lt_zero _)) (Or.inl rfl)
    · have ex : lpr P / P.getD i 0 * P.getD i 0 = lpr P := Nat.div_mul_cancel (lpr_dvd P _ (mem i hi))
      rw [d3]
      generalize lpr P / P.getD i 0 = z at ex ⊢
      rw [← ex]
      simp only [Nat.mul_comm, Nat.mul_left_comm, Nat.mul_assoc]
    · have e := sm_lsq (M := M) (p := lpr P) P
      rw [hPl] at e
      rw [e]; exact d5
  | succ m ih =>
    intro k f w hk hf hS h4
    obtain ⟨f, rfl⟩ : ∃ j, f = j + 1 := ⟨f - 1, by omega⟩
    have hS0 := hS
    obtain ⟨R, a1, a2, a3, a4, a5⟩ := hS0
    have hk5 : k < 5 := by omega
    have ln := chl_len (A := A) (σ := σ) k
    have lk := ct_le (fun i => σ.testBit i) k
    rw [f_Law_shares_h404, if_pos (show nI k < 5 from nI_lt (b := 5) hk5 (by omega)), sbit σ (by omega) k (by omega), ip_1]
    by_cases z : σ.testBit k = true
    · have e1 : chl A σ (k + 1) 0 = chl A σ k 0 ++ [chv A k] := by rw [chl_st, if_pos z]
      have eP : P.getD (chl A σ k 0).length 0 = chv A k := by
        have q := chl_app (A := A) (σ := σ) (k + 1) (5 - (k + 1)) 0
        rw [show k + 1 + (5 - (k + 1)) = 5 by omega, e1] at q
        rw [hP, h1, q, List.append_assoc, List.getD_eq_getElem?_getD, List.getElem?_append_right (Nat.le_refl _), Nat.sub_self]
        rfl
      have g1 : jal [jin (nI (chl A σ k 0).length) 5, jin (nI k) 5] = true := by rw [jal_c, jal_c, jal_n, jin_nI (by omega) (by omega), jin_nI hk5 (by omega)]; rfl
      have g2 : jal [jin (nI (chl A σ k 0).length) 5] = true := by rw [jal_c, jal_n, jin_nI (by omega) (by omega)]; rfl
      have w39 : wq (chl A σ k 0).length ≤ 39 := by
        by_cases y : (chl A σ k 0).length < n
        · exact a3 _ y
        · rw [a4 _ (by omega)]; omega
      rw [if_pos z, if_neg (by decide), if_pos g1, jlw_e, if_pos g2, nI_clamp (by omega), nI_clamp (by omega), a1 k hk5]
      dsimp only
      rw [jup_ne (by omega), a2 _ (by omega), show Int32.toInt64 (nI (wq (chl A σ k 0).length)) = lN (wq (chl A σ k 0).length) from nI_l (by omega), lN_add, ip_1]
      have iH := ih (k + 1) f (jup w.1 104 (chl A σ k 0).length (nI (chv A k)), w.2) (by omega) (by omega) ⟨RA_hi R (fun b hb => by dsimp only; rw [jup_fn (by omega)]), fun i hi => by dsimp only; rw [jup_ne (by omega)]; exact a1 i hi, fun i hi => by dsimp only; rw [jup_ne (by omega)]; exact a2 i hi, a3, a4, a5⟩ (fun i hi => by
        dsimp only
        rw [e1, List.length_append] at hi
        have hi' : i < (chl A σ k 0).length + 1 := hi
        by_cases y : i = (chl A σ k 0).length
        · rw [y, jup_eq, eP]
        · rw [jup_k y]; exact h4 i (by omega))
      rw [e1, List.length_append] at iH
      exact iH
    · have e1 : chl A σ (k + 1) 0 = chl A σ k 0 := by rw [chl_st, if_neg z, List.append_nil]
      have iH := ih (k + 1) f w (by omega) (by omega) hS (by rw [e1]; exact h4)
      rw [e1] at iH
      rw [if_neg z, if_pos rfl]
      exact iH
theorem l_342 (hLs : Ls ≤ 260) {σ n q U L : Nat} {P : List Nat} (h : PQ A c σ n q U L P) : ∀ m k f (w : jW) x14 wq, k + m = n → m < f → S342 w A c K n k x14 wq → Fin1 (f_Law_shares_h342 xs Ls f (nI σ) (nI n) (nI q) (lN U) (lN L) 0 x14 (nI k) w) := by
  have hn : n ≤ 5 := h.2.2.2.2.1.2
  intro m
  induction m with
  | zero =>
    intro k f w x14 wq hk hf hS
    obtain ⟨f, rfl⟩ : ∃ j, f = j + 1 := ⟨f - 1, by omega⟩
    have ek : k = n := by omega
    subst ek
    obtain ⟨R, a1, a2, a3, a4, a5⟩ := hS
    rw [f_Law_shares_h342, if_neg (nI_nlt (by omega) (by omega)), jlw_e]
    exact l_404 h 5 0 jfu (jzr w 104) (by omega) (by unfold jfu; omega) ⟨RA_hi R (fun b hb => jzr_fn (by omega)), fun i hi => by rw [jzr_fn (by omega)]; exact a1 i hi, fun i hi => by rw [jzr_fn (by omega)]; exact a2 i hi, a3, a4, a5⟩ (fun i hi => absurd hi (Nat.not_lt_zero i))
  | succ m ih =>
    intro k f w x14 wq hk hf hS
    obtain ⟨f, rfl⟩ : ∃ j, f = j + 1 := ⟨f - 1, by omega⟩
    obtain ⟨R, a1, a2, a3, a4, a5⟩ := hS
    obtain ⟨X, hX, eX⟩ := pick_n (xs := xs) hLs (k := 67 + k) (by omega)
    have er : nI X - nI X / 40 * 40 = nI (X % 40) := nI_rem (b := 40) hX (by omega)
    have m40 : X % 40 < 40 := Nat.mod_lt _ (by omega)
    have g1 : jal [jin (nI k) 5, !(40 == 0)] = true := by rw [jal_c, jin_nI (by omega) (by omega)]; decide
    have g2 : jal [jin (nI k) 5] = true := by rw [jal_c, jal_n, jin_nI (by omega) (by omega)]; rfl
    have k0 : wq k = 0 := a4 k (Nat.le_refl _)
    have st : ∀ x', ((x' = 0 ∧ sm (fun i => if i = k then X % 40 else wq i) n = 0) ∨ (x' = 1 ∧ sm (fun i => if i = k then X % 40 else wq i) n ≠ 0)) → Fin1 (f_Law_shares_h342 xs Ls f (nI σ) (nI n) (nI q) (lN U) (lN L) 0 x' (nI (k + 1)) (jup w.1 103 k (nI (X % 40)), w.2)) := fun x' hx' => ih (k + 1) f _ x' (fun i => if i = k then X % 40 else wq i) (by omega) (by omega) ⟨RA_hi R (fun b hb => by dsimp only; rw [jup_fn (by omega)]), fun i hi => by dsimp only; rw [jup_ne (by omega)]; exact a1 i hi, fun i hi => by
        dsimp only
        by_cases y : i = k
        · rw [y, jup_eq, if_pos rfl]
        · rw [jup_k y, if_neg y]; exact a2 i hi, fun i hi => by
        dsimp only
        by_cases y : i = k
        · rw [if_pos y]; omega
        · rw [if_neg y]; exact a3 i (by omega), fun i hi => by
        dsimp only
        rw [if_neg (by omega)]; exact a4 i (by omega), hx'⟩
    have eu := sm_up (f := wq) (k := k) (m := X % 40) k0 n
    rw [if_pos (by omega)] at eu
    rw [f_Law_shares_h342, if_pos (nI_lt (by omega) (by omega)), show (67 : Int32) + nI k = nI (67 + k) from nI_add 67 k, eX, ob]
    dsimp only
    rw [if_pos g1, jlw_e, if_pos g2, er, nI_clamp (by omega)]
    dsimp only
    rw [ip_1]
    by_cases z : X % 40 = 0
    · rw [if_pos (show jup w.1 103 k (nI (X % 40)) 103 k ≤ 0 by rw [jup_eq, z]; decide)]
      refine st _ ?_
      rw [eu, z, Nat.add_zero]
      rcases a5 with ⟨rfl, y⟩ | ⟨rfl, y⟩
      · exact Or.inl ⟨by decide, y⟩
      · exact Or.inr ⟨by decide, y⟩
    · rw [if_neg (show ¬ jup w.1 103 k (nI (X % 40)) 103 k ≤ 0 by rw [jup_eq]; exact nI_ge (a := 0) (by omega) (by omega))]
      refine st _ ?_
      rw [eu]
      rcases a5 with ⟨rfl, y⟩ | ⟨rfl, y⟩
      · exact Or.inr ⟨by decide, by omega⟩
      · exact Or.inr ⟨by decide, by omega⟩
theorem l_328 (hLs : Ls ≤ 260) {σ n q U L : Nat} {P : List Nat} (h : PQ A c σ n q U L P) (R : RA w 3 A c K) (h101 : ∀ i, i < 5 → w.1 101 i = nI (chv A i)) : Fin1 (f_Law_shares_j328 xs Ls (nI σ) (nI n) (nI q) (lN U) (lN L) w) := by
  rw [f_Law_shares_j328, jlw_e]
  have z0 : ∀ m, sm (fun _ => 0) m = 0 := by
    intro m
    induction m with
    | zero => rfl
    | succ m ih => rw [sm, ih]
  exact l_342 hLs h n 0 jfu (jzr w 103) 0 (fun _ => 0) (by omega) (by have := h.2.2.2.2.1.2; unfold jfu; omega) ⟨RA_hi R (fun b hb => jzr_fn (by omega)), fun i hi => by rw [jzr_fn (by omega)]; exact h101 i hi, fun i hi => by simp only [jzr, if_true]; rfl, fun i hi => by omega, fun i hi => rfl, Or.inl ⟨rfl, z0 n⟩⟩
end E3

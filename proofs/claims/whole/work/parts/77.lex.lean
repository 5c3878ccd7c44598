/-! LAYER B: tokens; the reference's next token -/
section LX
variable {w v z0 : jW} {A : Nat → Int32} {c ci : Nat → Nat} {K : Nat} {P : Nat → Int32} {n : Nat}
def svF (P : Nat → Int32) (n k : Nat) : Int32 := if k < n then P k else -1
def blB (x : Int32) : Bool := decide (x = 32) || decide (x = 10)
def dgB (x : Int32) : Bool := decide (¬ x < 48 ∧ x ≤ 57)
def ltB (x : Int32) : Bool := decide (¬ x < 97 ∧ x ≤ 122) || decide (¬ x < 65 ∧ x ≤ 90)
/-- the first place from p on where g does not hold -/
def rnF (g : Int32 → Bool) (P : Nat → Int32) (n : Nat) : Nat → Nat → Nat
  | 0, p => p
  | m + 1, p => if g (svF P n p) = true then rnF g P n m (p + 1) else p
def rn (g : Int32 → Bool) (P : Nat → Int32) (n p : Nat) : Nat := rnF g P n (n - p) p
theorem svF_n {k : Nat} (h : n ≤ k) : svF P n k = -1 := if_neg (by omega)
theorem rn_s {g : Int32 → Bool} {p : Nat} (h : g (svF P n p) = true) (hp : p < n) : rn g P n p = rn g P n (p + 1) := by
  unfold rn
  rw [show n - p = (n - (p + 1)) + 1 by omega, rnF, if_pos h]
theorem rn_e {g : Int32 → Bool} {p : Nat} (h : ¬ g (svF P n p) = true) : rn g P n p = p := by
  unfold rn
  cases hq : n - p with
  | zero => rfl
  | succ m => rw [rnF, if_neg h]
theorem rn_le {g : Int32 → Bool} : ∀ m p, p ≤ rnF g P n m p ∧ rnF g P n m p ≤ p + m := by
  intro m
  induction m with
  | zero => intro p; exact ⟨Nat.le_refl _, Nat.le_refl _⟩
  | succ m ih =>
    intro p
    rw [rnF]
    split
    · have := ih (p + 1); omega
    · omega
theorem rn_b {g : Int32 → Bool} {p : Nat} (hp : p ≤ n) : p ≤ rn g P n p ∧ rn g P n p ≤ n := by
  have := rn_le (g := g) (P := P) (n := n) (n - p) p
  unfold rn; omega
theorem rn_no {g : Int32 → Bool} (h1 : g (-1) = false) : ∀ m p, n ≤ p + m → g (svF P n (rnF g P n m p)) = false := by
  intro m
  induction m with
  | zero => intro p hp; rw [rnF, svF_n (by omega)]; exact h1
  | succ m ih =>
    intro p hp
    rw [rnF]
    split
    · exact ih (p + 1) (by omega)
    · rename_i q; exact Bool.eq_false_iff.mpr q
theorem bl_1 : blB (-1) = false := by decide
theorem dg_1 : dgB (-1) = false := by decide
theorem lt_1 : ltB (-1) = false := by decide
/-- the reference's tape -/
def Tp (w : jW) (n : Nat) : Prop := w.1 93 4 = nI n ∧ n ≤ 300 ∧ ∀ k, k < n → vb (w.1 97 k) 0 255
theorem sv_c (ht : Tp w n) (k : Nat) : svF (w.1 97) n k = -1 ∧ n ≤ k ∨ ∃ a, svF (w.1 97) n k = nI a ∧ a ≤ 255 ∧ k < n := by
  by_cases h : k < n
  · obtain ⟨a, a1, _, a2⟩ := ht.2.2 k h
    exact Or.inr ⟨a, by rw [svF, if_pos h]; exact a1, a2, h⟩
  · exact Or.inl ⟨svF_n (by omega), by omega⟩
theorem m_se (ht : Tp w n) {p : Nat} (hp : p ≤ 400) : f_Model_see (nI p) w = some (svF (w.1 97) n p, w) := by
  have h3 := ht.2.1
  rw [f_Model_see, ht.1, svF]
  by_cases h : p < n
  · rw [if_pos (nI_lt h (by omega)), if_pos h, jal_c, jal_n, jin_nI (by omega) (by omega), if_pos (show (true && true) = true from rfl), nI_clamp (by omega)]
  · rw [if_neg (nI_nlt (by omega) (by omega)), if_neg h]
theorem m_dg (x : Int32) : f_Model_isDigit x w = some (if dgB x = true then 1 else 0, w) := by
  rw [f_Model_isDigit, m_isIn, ob]
  dsimp only
  unfold dgB
  by_cases g : ¬ x < 48 ∧ x ≤ 57
  · rw [b2_p g, decide_eq_true g]; rfl
  · rw [b2_n g, decide_eq_false g]; rfl
theorem m_lt (x : Int32) : f_Model_isLetter x w = some (if ltB x = true then 1 else 0, w) := by
  rw [f_Model_isLetter, m_isIn, ob]
  dsimp only
  unfold ltB
  by_cases g : ¬ x < 97 ∧ x ≤ 122
  · rw [b2_p g, decide_eq_true g]; rfl
  · rw [b2_n g, decide_eq_false g, if_pos rfl, m_isIn, ob]
    dsimp only
    by_cases g2 : ¬ x < 65 ∧ x ≤ 90
    · rw [b2_p g2, decide_eq_true g2]; rfl
    · rw [b2_n g2, decide_eq_false g2]; rfl
/-- only the token's cells differ -/
def Xt (v w : jW) : Prop := (∀ b, b ≠ 93 → v.1 b = w.1 b) ∧ (∀ j, j ≠ 7 → j ≠ 8 → j ≠ 9 → j ≠ 10 → v.1 93 j = w.1 93 j)
theorem Xt_r : Xt w w := ⟨fun _ _ => rfl, fun _ _ _ _ _ => rfl⟩
theorem Xt_t {u : jW} (h : Xt u v) (g : Xt v w) : Xt u w := ⟨fun b q => (h.1 b q).trans (g.1 b q), fun j q1 q2 q3 q4 => (h.2 j q1 q2 q3 q4).trans (g.2 j q1 q2 q3 q4)⟩
theorem Xt_j {j : Nat} {x : Int32} {y : Nat → Nat → Int64} (h : j = 7 ∨ j = 8 ∨ j = 9 ∨ j = 10) : Xt (jup w.1 93 j x, y) w := ⟨fun b q => by dsimp only; rw [jup_fn q], fun i q1 q2 q3 q4 => by dsimp only; rw [jup_k (by omega)]⟩
theorem Xt_2 {y : Nat → Nat → Int64} : Xt (w.1, y) w := ⟨fun _ _ => rfl, fun _ _ _ _ _ => rfl⟩
theorem Xt_Tp (h : Xt v w) (ht : Tp w n) : Tp v n := ⟨by rw [h.2 4 (by omega) (by omega) (by omega) (by omega)]; exact ht.1, ht.2.1, by rw [h.1 97 (by omega)]; exact ht.2.2⟩
/-- the number that starts at p -/
def nuF (P : Nat → Int32) (n : Nat) : Nat → Nat → Nat → Nat
  | 0, _, a => a
  | m + 1, p, a => if dgB (svF P n p) = true then nuF P n m (p + 1) (if a < 100000 then 10 * a + ((svF P n p).toNatClampNeg - 48) else a) else a
theorem dg_n {x : Int32} (h : dgB x = true) : ∃ a, x = nI (48 + a) ∧ a ≤ 9 := by
  unfold dgB at h
  have h' := of_decide_eq_true h
  obtain ⟨b, b1, b2⟩ := rngle (n := 57) (x := x) (by omega) ⟨fun z => h'.1 (Int32.lt_trans z (by decide)), h'.2⟩
  have : ¬ b < 48 := fun z => h'.1 (by rw [b2]; exact nI_lt (b := 48) z (by omega))
  exact ⟨b - 48, by rw [b2, show 48 + (b - 48) = b by omega], by omega⟩
theorem m_h85 : ∀ m p f a (w : jW), Tp w n → n - p = m → p ≤ n → m < f → a < 1000000 → w.1 93 7 = nI p → w.1 93 10 = nI a → ∃ v, f_Model_nextToken_h85 f w = some v ∧ Xt v w ∧ v.1 93 7 = nI (rn dgB (w.1 97) n p) ∧ v.1 93 10 = nI (nuF (w.1 97) n (n - p) p a) ∧ v.1 93 8 = w.1 93 8 ∧ v.1 93 9 = w.1 93 9 ∧ v.2 = w.2 := by
  intro m
  induction m with
  | zero =>
    intro p f a w ht hm hp hf ha h7 h10
    obtain ⟨f, rfl⟩ : ∃ j, f = j + 1 := ⟨f - 1, by omega⟩
    have h3 := ht.2.1
    have hq : ¬ dgB (svF (w.1 97) n p) = true := by rw [svF_n (by omega)]; decide
    refine ⟨w, ?_, Xt_r, by rw [rn_e hq]; exact h7, by rw [show n - p = 0 by omega]; exact h10, rfl, rfl, rfl⟩
    rw [f_Model_nextToken_h85, h7, m_se ht (by omega), ob]
    dsimp only
    rw [m_dg, ob]
    dsimp only
    rw [if_neg hq, if_pos rfl]
  | succ m ih =>
    intro p f a w ht hm hp hf ha h7 h10
    obtain ⟨f, rfl⟩ : ∃ j, f = j + 1 := ⟨f - 1, by omega⟩
    have h3 := ht.2.1
    by_cases hq : dgB (svF (w.1 97) n p) = true
    rotate_left
    · refine ⟨w, ?_, Xt_r, by rw [rn_e hq]; exact h7, by rw [hm, nuF, if_neg hq]; exact h10, rfl, rfl, rfl⟩
      rw [f_Model_nextToken_h85, h7, m_se ht (by omega), ob]
      dsimp only
      rw [m_dg, ob]
      dsimp only
      rw [if_neg hq, if_pos rfl]
    obtain ⟨d, d1, d2⟩ := dg_n hq
    have e0 : f_Model_nextToken_h85 (f + 1) w = if nI a < 100000 then f_Model_nextToken_h85 f (jup (jup w.1 93 10 (nI (10 * a + d))) 93 7 (nI (p + 1)), w.2) else f_Model_nextToken_h85 f (jup w.1 93 7 (nI (p + 1)), w.2) := by
      rw [f_Model_nextToken_h85, h7, m_se ht (by omega), ob]
      dsimp only
      rw [m_dg, ob]
      dsimp only
      rw [if_pos hq, if_neg one_ne, h10, h7, m_se ht (by omega), ob]
      dsimp only
      rw [jlw_e, jlw_e, jlw_e, d1]
      dsimp only
      rw [jup_k (show (7 : Nat) ≠ 10 by omega), h7, ip_1, show (10 : Int32) * nI a = nI (10 * a) from nI_mul 10 a, nI_add, show nI (10 * a + (48 + d)) - 48 = nI (10 * a + d) from by rw [show nI (10 * a + (48 + d)) - 48 = nI (10 * a + (48 + d) - 48) from nI_sub (b := 48) (by omega)]; exact congrArg nI (by omega)]
    have fin : ∀ (w1 : jW) (b : Nat), Xt w1 w → w1.1 93 7 = nI (p + 1) → w1.1 93 10 = nI b → b < 1000000 → w1.1 93 8 = w.1 93 8 → w1.1 93 9 = w.1 93 9 → w1.2 = w.2 → b = (if a < 100000 then 10 * a + d else a) → ∃ v, f_Model_nextToken_h85 f w1 = some v ∧ Xt v w ∧ v.1 93 7 = nI (rn dgB (w.1 97) n p) ∧ v.1 93 10 = nI (nuF (w.1 97) n (n - p) p a) ∧ v.1 93 8 = w.1 93 8 ∧ v.1 93 9 = w.1 93 9 ∧ v.2 = w.2 := fun w1 b q1 q2 q3 q4 q5 q6 q7 q8 => by
      obtain ⟨v, r1, r2, r3, r4, r5, r6, r7⟩ := ih (p + 1) f b w1 (Xt_Tp q1 ht) (by omega) (by omega) (by omega) q4 q2 q3
      have e97 : w1.1 97 = w.1 97 := q1.1 97 (by omega)
      rw [e97] at r3 r4
      refine ⟨v, r1, Xt_t r2 q1, by rw [rn_s hq (by omega)]; exact r3, ?_, r5.trans q5, r6.trans q6, r7.trans q7⟩
      rw [hm, nuF, if_pos hq, d1, nI_clamp (by omega), show 48 + d - 48 = d by omega, ← q8, show m = n - (p + 1) by omega]
      exact r4
    by_cases g : a < 100000
    · rw [e0, if_pos (show nI a < 100000 from nI_lt (b := 100000) g (by omega))]
      refine fin _ (10 * a + d) (Xt_t (Xt_j (w := (jup w.1 93 10 (nI (10 * a + d)), w.2)) (by omega)) (Xt_j (by omega))) (by dsimp only; rw [jup_eq]) (by dsimp only; rw [jup_k (by omega), jup_eq]) (by omega) ?_ ?_ rfl (by rw [if_pos g])
      · dsimp only; rw [jup_k (by omega), jup_k (by omega)]
      · dsimp only; rw [jup_k (by omega), jup_k (by omega)]
    · rw [e0, if_neg (show ¬ nI a < 100000 from nI_nlt (b := 100000) (by omega) (by omega))]
      refine fin _ a (Xt_j (by omega)) (by dsimp only; rw [jup_eq]) (by dsimp only; rw [jup_k (by omega)]; exact h10) ha ?_ ?_ rfl (by rw [if_neg g])
      · dsimp only; rw [jup_k (by omega)]
      · dsimp only; rw [jup_k (by omega)]
/-- the word that starts at s, its letters packed; none of more than six -/
def wdF (P : Nat → Int32) (n s : Nat) : Nat → Nat → Int64 → Int64
  | 0, p, x => if p - s ≤ 6 then x else 0
  | m + 1, p, x => if ltB (svF P n p) = true then wdF P n s m (p + 1) (if p - s < 6 then (x <<< (Int32.toInt64 8 &&& 63)) ||| (Int32.toInt64 (svF P n p)) else x) else if p - s ≤ 6 then x else 0
theorem m_h161 {s : Nat} : ∀ m p f (w : jW), Tp w n → n - p = m → p ≤ n → s ≤ p → m < f → w.1 93 7 = nI p → w.1 93 8 = nI s → ∃ v, f_Model_nextToken_h161 f w = some v ∧ Xt v w ∧ v.1 93 7 = nI (rn ltB (w.1 97) n p) ∧ v.1 93 8 = nI s ∧ v.1 93 9 = w.1 93 9 ∧ v.2 93 11 = wdF (w.1 97) n s (n - p) p (w.2 93 11) := by
  have stop : ∀ p f (w : jW), Tp w n → p ≤ n → s ≤ p → 0 < f → w.1 93 7 = nI p → w.1 93 8 = nI s → ¬ ltB (svF (w.1 97) n p) = true → ∃ v, f_Model_nextToken_h161 f w = some v ∧ Xt v w ∧ v.1 93 7 = nI (rn ltB (w.1 97) n p) ∧ v.1 93 8 = nI s ∧ v.1 93 9 = w.1 93 9 ∧ v.2 93 11 = wdF (w.1 97) n s (n - p) p (w.2 93 11) := fun p f w ht hp hs hf h7 h8 hq => by
    obtain ⟨f, rfl⟩ : ∃ j, f = j + 1 := ⟨f - 1, by omega⟩
    have h3 := ht.2.1
    have ew : wdF (w.1 97) n s (n - p) p (w.2 93 11) = if p - s ≤ 6 then w.2 93 11 else 0 := by
      cases hx : n - p with
      | zero => rfl
      | succ m => rw [wdF, if_neg hq]
    have e0 : f_Model_nextToken_h161 (f + 1) w = if nI (p - s) ≤ 6 then some w else some (w.1, jup w.2 93 11 0) := by
      rw [f_Model_nextToken_h161, h7, m_se ht (by omega), ob]
      dsimp only
      rw [m_lt, ob]
      dsimp only
      rw [if_neg hq, if_pos rfl, h7, h8, nI_sub hs, jlw_e]
    by_cases g : p - s ≤ 6
    · rw [if_pos (show nI (p - s) ≤ 6 from (nI_leI (b := 6) (by omega) (by omega)).mpr g)] at e0
      exact ⟨w, e0, Xt_r, by rw [rn_e hq]; exact h7, h8, rfl, by rw [ew, if_pos g]⟩
    · rw [if_neg (show ¬ nI (p - s) ≤ 6 from fun z => g ((nI_leI (b := 6) (by omega) (by omega)).mp z))] at e0
      exact ⟨_, e0, Xt_2, by rw [rn_e hq]; exact h7, h8, rfl, by rw [ew, if_neg g]; dsimp only; rw [jup_eq]⟩
  intro m
  induction m with
  | zero =>
    intro p f w ht hm hp hs hf h7 h8
    exact stop p f w ht hp hs hf h7 h8 (by rw [svF_n (by omega)]; decide)
  | succ m ih =>
    intro p f w ht hm hp hs hf h7 h8
    by_cases hq : ltB (svF (w.1 97) n p) = true
    rotate_left
    · exact stop p f w ht hp hs (by omega) h7 h8 hq
    obtain ⟨f, rfl⟩ : ∃ j, f = j + 1 := ⟨f - 1, by omega⟩
    have h3 := ht.2.1
    have e0 : f_Model_nextToken_h161 (f + 1) w = if nI (p - s) < 6 then f_Model_nextToken_h161 f (jup w.1 93 7 (nI (p + 1)), jup w.2 93 11 ((w.2 93 11 <<< (Int32.toInt64 8 &&& 63)) ||| Int32.toInt64 (svF (w.1 97) n p))) else f_Model_nextToken_h161 f (jup w.1 93 7 (nI (p + 1)), w.2) := by
      rw [f_Model_nextToken_h161, h7, m_se ht (by omega), ob]
      dsimp only
      rw [m_lt, ob]
      dsimp only
      rw [if_pos hq, if_neg one_ne, h7, h8, nI_sub hs, m_se ht (by omega), ob]
      dsimp only
      rw [jlw_e, jlw_e, jlw_e]
      dsimp only
      rw [h7, ip_1]
    have fin : ∀ (w1 : jW) (x : Int64), Xt w1 w → w1.1 93 7 = nI (p + 1) → w1.1 93 8 = nI s → w1.1 93 9 = w.1 93 9 → w1.2 93 11 = x → x = (if p - s < 6 then (w.2 93 11 <<< (Int32.toInt64 8 &&& 63)) ||| (Int32.toInt64 (svF (w.1 97) n p)) else w.2 93 11) → ∃ v, f_Model_nextToken_h161 f w1 = some v ∧ Xt v w ∧ v.1 93 7 = nI (rn ltB (w.1 97) n p) ∧ v.1 93 8 = nI s ∧ v.1 93 9 = w.1 93 9 ∧ v.2 93 11 = wdF (w.1 97) n s (n - p) p (w.2 93 11) := fun w1 x q1 q2 q3 q4 q5 q6 => by
      obtain ⟨v, r1, r2, r3, r4, r5, r6⟩ := ih (p + 1) f w1 (Xt_Tp q1 ht) (by omega) (by omega) (by omega) (by omega) q2 q3
      have e97 : w1.1 97 = w.1 97 := q1.1 97 (by omega)
      rw [e97] at r3 r6
      refine ⟨v, r1, Xt_t r2 q1, by rw [rn_s hq (by omega)]; exact r3, r4, r5.trans q4, ?_⟩
      rw [hm, wdF, if_pos hq, ← q6, ← q5, show m = n - (p + 1) by omega]
      exact r6
    by_cases g : p - s < 6
    · rw [e0, if_pos (show nI (p - s) < 6 from nI_lt (b := 6) g (by omega))]
      refine fin _ ((w.2 93 11 <<< (Int32.toInt64 8 &&& 63)) ||| (Int32.toInt64 (svF (w.1 97) n p))) (Xt_j (by omega)) (by dsimp only; rw [jup_eq]) (by dsimp only; rw [jup_k (by omega)]; exact h8) (by dsimp only; rw [jup_k (by omega)]) (by dsimp only; rw [jup_eq]) (by rw [if_pos g])
    · rw [e0, if_neg (show ¬ nI (p - s) < 6 from nI_nlt (b := 6) (by omega) (by omega))]
      refine fin _ _ (Xt_j (by omega)) (by dsimp only; rw [jup_eq]) (by dsimp only; rw [jup_k (by omega)]; exact h8) (by dsimp only; rw [jup_k (by omega)]) rfl (by rw [if_neg g])
/-- the kind of the token that starts at s, and the place behind it -/
def kdF (P : Nat → Int32) (n s : Nat) : Int32 :=
  if svF P n s < 0 then 0 else if dgB (svF P n s) = true then 1 else if ltB (svF P n s) = true then 2 else if svF P n s = 60 then (if svF P n (s + 1) = 61 then 4 else 60) else if svF P n s = 62 then (if svF P n (s + 1) = 61 then 5 else 62) else if svF P n s = 61 ∨ svF P n s = 35 ∨ svF P n s = 40 ∨ svF P n s = 41 ∨ svF P n s = 59 then svF P n s else 3
def nxF (P : Nat → Int32) (n s : Nat) : Nat :=
  if svF P n s < 0 then s else if dgB (svF P n s) = true then rn dgB P n s else if ltB (svF P n s) = true then rn ltB P n s else if (svF P n s = 60 ∨ svF P n s = 62) ∧ svF P n (s + 1) = 61 then s + 2 else s + 1
/-- the reference's token is the one that starts at s -/
def Atk (w : jW) (n s : Nat) : Prop := w.1 93 7 = nI (nxF (w.1 97) n s) ∧ w.1 93 8 = nI s ∧ w.1 93 9 = kdF (w.1 97) n s ∧ (kdF (w.1 97) n s = 1 → w.1 93 10 = nI (nuF (w.1 97) n (n - s) s 0)) ∧ (kdF (w.1 97) n s = 2 → w.2 93 11 = wdF (w.1 97) n s (n - s) s 0)
theorem m_sign {p : Nat} (ht : Tp w n) (hp : p ≤ n) (h7 : w.1 93 7 = nI (p + 1)) (ch s0 : Int32) : ∃ v, f_Model_nextToken_j303 ch s0 w = some v ∧ Xt v w ∧ v.1 93 8 = w.1 93 8 ∧ ((ch = 60 ∨ ch = 62) ∧ svF (w.1 97) n (p + 1) = 61 → v.1 93 7 = nI (p + 2) ∧ v.1 93 9 = if ch = 60 then 4 else 5) ∧ (¬ ((ch = 60 ∨ ch = 62) ∧ svF (w.1 97) n (p + 1) = 61) → v.1 93 7 = nI (p + 1) ∧ v.1 93 9 = s0) := by
  have h3 := ht.2.1
  obtain ⟨w9, hw9⟩ : ∃ w9 : jW, w9 = (jup w.1 93 9 s0, w.2) := ⟨_, rfl⟩
  have x9 : Xt w9 w := by rw [hw9]; exact Xt_j (by omega)
  have t9 := Xt_Tp x9 ht
  have e97 : w9.1 97 = w.1 97 := x9.1 97 (by omega)
  have a7 : w9.1 93 7 = nI (p + 1) := by rw [hw9]; dsimp only; rw [jup_k (by omega)]; exact h7
  have a8 : w9.1 93 8 = w.1 93 8 := by rw [hw9]; dsimp only; rw [jup_k (by omega)]
  have a9 : w9.1 93 9 = s0 := by rw [hw9]; dsimp only; rw [jup_eq]
  have j318 : (ch = 60 ∨ ch = 62) → ∃ v, f_Model_nextToken_j318 ch w9 = some v ∧ Xt v w ∧ v.1 93 8 = w.1 93 8 ∧ ((ch = 60 ∨ ch = 62) ∧ svF (w.1 97) n (p + 1) = 61 → v.1 93 7 = nI (p + 2) ∧ v.1 93 9 = if ch = 60 then 4 else 5) ∧ (¬ ((ch = 60 ∨ ch = 62) ∧ svF (w.1 97) n (p + 1) = 61) → v.1 93 7 = nI (p + 1) ∧ v.1 93 9 = s0) := fun hch => by
    rw [f_Model_nextToken_j318, a7, m_se t9 (by omega), ob, e97]
    dsimp only
    by_cases g : svF (w.1 97) n (p + 1) = 61
    rotate_left
    · rw [if_neg g]
      exact ⟨w9, rfl, x9, a8, fun z => absurd z.2 g, fun _ => ⟨a7, a9⟩⟩
    rw [if_pos g, jlw_e, a7, ip_1]
    by_cases g2 : ch = 60
    · rw [if_pos g2, jlw_e]
      refine ⟨_, rfl, Xt_t (Xt_j (w := (jup w9.1 93 7 (nI (p + 1 + 1)), w9.2)) (by omega)) (Xt_t (Xt_j (by omega)) x9), ?_, fun _ => ⟨?_, ?_⟩, fun z => absurd ⟨hch, g⟩ z⟩
      · dsimp only; rw [jup_k (by omega), jup_k (by omega)]; exact a8
      · dsimp only; rw [jup_k (by omega), jup_eq]
      · dsimp only; rw [jup_eq, if_pos g2]
    · rw [if_neg g2, jlw_e]
      refine ⟨_, rfl, Xt_t (Xt_j (w := (jup w9.1 93 7 (nI (p + 1 + 1)), w9.2)) (by omega)) (Xt_t (Xt_j (by omega)) x9), ?_, fun _ => ⟨?_, ?_⟩, fun z => absurd ⟨hch, g⟩ z⟩
      · dsimp only; rw [jup_k (by omega), jup_k (by omega)]; exact a8
      · dsimp only; rw [jup_k (by omega), jup_eq]
      · dsimp only; rw [jup_eq, if_neg g2]
  rw [f_Model_nextToken_j303, jlw_e, ← hw9]
  by_cases g1 : ch = 60
  · rw [if_pos g1]; exact j318 (Or.inl g1)
  by_cases g2 : ch = 62
  · rw [if_neg g1, if_pos g2]; exact j318 (Or.inr g2)
  rw [if_neg g1, if_neg g2]
  exact ⟨w9, rfl, x9, a8, fun z => absurd z.1 (fun y => y.elim g1 g2), fun _ => ⟨a7, a9⟩⟩
theorem m_next : ∀ m p f (w : jW), Tp w n → n - p = m → p ≤ n → m < f → w.1 93 7 = nI p → ∃ v, f_Model_nextToken_h0 f w = some v ∧ Xt v w ∧ Atk v n (rn blB (w.1 97) n p) := by
  have tok : ∀ p f (w : jW), Tp w n → p ≤ n → 0 < f → w.1 93 7 = nI p → ¬ blB (svF (w.1 97) n p) = true → ∃ v, f_Model_nextToken_h0 f w = some v ∧ Xt v w ∧ Atk v n p := fun p f w ht hp hf h7 hq => by
    obtain ⟨f, rfl⟩ : ∃ j, f = j + 1 := ⟨f - 1, by omega⟩
    have h3 := ht.2.1
    have n32 : ¬ svF (w.1 97) n p = 32 := fun z => hq (by rw [z]; decide)
    have n10 : ¬ svF (w.1 97) n p = 10 := fun z => hq (by rw [z]; decide)
    obtain ⟨w4, hw4⟩ : ∃ w4 : jW, w4 = (jup w.1 93 8 (nI p), w.2) := ⟨_, rfl⟩
    have x4 : Xt w4 w := by rw [hw4]; exact Xt_j (by omega)
    have t4 := Xt_Tp x4 ht
    have e97 : w4.1 97 = w.1 97 := x4.1 97 (by omega)
    have h47 : w4.1 93 7 = nI p := by rw [hw4]; dsimp only; rw [jup_k (by omega)]; exact h7
    have h48 : w4.1 93 8 = nI p := by rw [hw4]; dsimp only; rw [jup_eq]
    rw [f_Model_nextToken_h0, h7, m_se ht (by omega), ob]
    dsimp only
    rw [if_neg n32, h7, m_se ht (by omega), ob]
    dsimp only
    rw [if_neg n10, jlw_e, h7, ← hw4, h47, m_se t4 (by omega), ob, e97]
    dsimp only
    generalize hc : svF (w.1 97) n p = ch at *
    by_cases g1 : ch < 0
    · rw [if_pos g1, jlw_e]
      refine ⟨_, rfl, Xt_t (Xt_j (by omega)) x4, ?_, ?_, ?_, ?_, ?_⟩
      · dsimp only; rw [jup_k (by omega), jup_fn (by omega), e97, nxF, hc, if_pos g1]; exact h47
      · dsimp only; rw [jup_k (by omega)]; exact h48
      · dsimp only; rw [jup_eq, jup_fn (by omega), e97, kdF, hc, if_pos g1]
      · dsimp only; rw [jup_fn (by omega), e97, kdF, hc, if_pos g1]; intro z; exact absurd z (by decide)
      · dsimp only; rw [jup_fn (by omega), e97, kdF, hc, if_pos g1]; intro z; exact absurd z (by decide)
    rw [if_neg g1, m_dg, ob]
    dsimp only
    by_cases g2 : dgB ch = true
    · rw [if_pos g2, if_neg one_ne, jlw_e, jlw_e]
      dsimp only
      obtain ⟨w5, hw5⟩ : ∃ w5 : jW, w5 = (jup (jup w4.1 93 9 1) 93 10 0, w4.2) := ⟨_, rfl⟩
      have x5 : Xt w5 w4 := by rw [hw5]; exact Xt_t (Xt_j (w := (jup w4.1 93 9 1, w4.2)) (by omega)) (Xt_j (by omega))
      obtain ⟨v, r1, r2, r3, r4, r5, r6, r7⟩ := m_h85 (n - p) p jfu 0 w5 (Xt_Tp x5 t4) rfl hp (by unfold jfu; omega) (by omega) (by rw [hw5]; dsimp only; rw [jup_k (by omega), jup_k (by omega)]; exact h47) (by rw [hw5]; dsimp only; rw [jup_eq]; rfl)
      have e5 : w5.1 97 = w.1 97 := (x5.1 97 (by omega)).trans e97
      have ev : v.1 97 = w.1 97 := (r2.1 97 (by omega)).trans e5
      rw [e5] at r3 r4
      rw [← hw5]
      refine ⟨v, r1, Xt_t r2 (Xt_t x5 x4), ?_, ?_, ?_, ?_, ?_⟩
      · rw [ev, nxF, hc, if_neg g1, if_pos g2]; exact r3
      · rw [r5, hw5]; dsimp only; rw [jup_k (by omega), jup_k (by omega)]; exact h48
      · rw [r6, ev, kdF, hc, if_neg g1, if_pos g2, hw5]; dsimp only; rw [jup_k (by omega), jup_eq]
      · rw [ev]; intro _; exact r4
      · rw [ev, kdF, hc, if_neg g1, if_pos g2]; intro z; exact absurd z (by decide)
    rw [if_neg g2, if_pos rfl, m_lt, ob]
    dsimp only
    by_cases g3 : ltB ch = true
    · rw [if_pos g3, if_neg one_ne, jlw_e, jlw_e]
      dsimp only
      obtain ⟨w5, hw5⟩ : ∃ w5 : jW, w5 = (jup w4.1 93 9 2, jup w4.2 93 11 0) := ⟨_, rfl⟩
      have x5 : Xt w5 w4 := by rw [hw5]; exact Xt_j (by omega)
      obtain ⟨v, r1, r2, r3, r4, r5, r6⟩ := m_h161 (s := p) (n - p) p jfu w5 (Xt_Tp x5 t4) rfl hp (by omega) (by unfold jfu; omega) (by rw [hw5]; dsimp only; rw [jup_k (by omega)]; exact h47) (by rw [hw5]; dsimp only; rw [jup_k (by omega)]; exact h48)
      have e5 : w5.1 97 = w.1 97 := (x5.1 97 (by omega)).trans e97
      have ev : v.1 97 = w.1 97 := (r2.1 97 (by omega)).trans e5
      have e11 : w5.2 93 11 = 0 := by rw [hw5]; dsimp only; rw [jup_eq]
      rw [e5] at r3 r6
      rw [e11] at r6
      rw [← hw5]
      refine ⟨v, r1, Xt_t r2 (Xt_t x5 x4), ?_, r4, ?_, ?_, ?_⟩
      · rw [ev, nxF, hc, if_neg g1, if_neg g2, if_pos g3]; exact r3
      · rw [r5, ev, kdF, hc, if_neg g1, if_neg g2, if_pos g3, hw5]; dsimp only; rw [jup_eq]
      · rw [ev, kdF, hc, if_neg g1, if_neg g2, if_pos g3]; intro z; exact absurd z (by decide)
      · rw [ev]; intro _; exact r6
    rw [if_neg g3, if_pos rfl, jlw_e, h47, ip_1]
    obtain ⟨w8, hw8⟩ : ∃ w8 : jW, w8 = (jup w4.1 93 7 (nI (p + 1)), w4.2) := ⟨_, rfl⟩
    have x8 : Xt w8 w4 := by rw [hw8]; exact Xt_j (by omega)
    have t8 := Xt_Tp x8 t4
    have a7 : w8.1 93 7 = nI (p + 1) := by rw [hw8]; dsimp only; rw [jup_eq]
    have a8 : w8.1 93 8 = nI p := by rw [hw8]; dsimp only; rw [jup_k (by omega)]; exact h48
    have e8 : w8.1 97 = w.1 97 := (x8.1 97 (by omega)).trans e97
    rw [← hw8]
    have fin : ∀ s0, (ch = 60 ∨ ch = 62 ∨ ch = 61 ∨ ch = 35 ∨ ch = 40 ∨ ch = 41 ∨ ch = 59 → s0 = ch) → (¬ (ch = 60 ∨ ch = 62 ∨ ch = 61 ∨ ch = 35 ∨ ch = 40 ∨ ch = 41 ∨ ch = 59) → s0 = 3) → ∃ v, f_Model_nextToken_j303 ch s0 w8 = some v ∧ Xt v w ∧ Atk v n p := fun s0 y1 y2 => by
      obtain ⟨v, r1, r2, r3, r4, r5⟩ := m_sign t8 hp a7 ch s0
      have ev : v.1 97 = w.1 97 := (r2.1 97 (by omega)).trans e8
      rw [e8] at r4 r5
      have k3 : kdF (w.1 97) n p = (if ch = 60 then (if svF (w.1 97) n (p + 1) = 61 then 4 else 60) else if ch = 62 then (if svF (w.1 97) n (p + 1) = 61 then 5 else 62) else if ch = 61 ∨ ch = 35 ∨ ch = 40 ∨ ch = 41 ∨ ch = 59 then ch else 3) := by
        rw [kdF, hc, if_neg g1, if_neg g2, if_neg g3]
      have n3 : nxF (w.1 97) n p = if (ch = 60 ∨ ch = 62) ∧ svF (w.1 97) n (p + 1) = 61 then p + 2 else p + 1 := by
        rw [nxF, hc, if_neg g1, if_neg g2, if_neg g3]
      have h9 : v.1 93 7 = nI (nxF (w.1 97) n p) ∧ v.1 93 9 = kdF (w.1 97) n p ∧ kdF (w.1 97) n p ≠ 1 ∧ kdF (w.1 97) n p ≠ 2 := by
        rw [n3, k3]
        by_cases z : (ch = 60 ∨ ch = 62) ∧ svF (w.1 97) n (p + 1) = 61
        · obtain ⟨d1, d2⟩ := r4 z
          rw [if_pos z, d1, d2]
          by_cases z1 : ch = 60
          · rw [if_pos z1, if_pos z1, if_pos z.2]; exact ⟨rfl, rfl, by decide, by decide⟩
          · rw [if_neg z1, if_neg z1, if_pos (z.1.resolve_left z1), if_pos z.2]; exact ⟨rfl, rfl, by decide, by decide⟩
        · obtain ⟨d1, d2⟩ := r5 z
          rw [if_neg z, d1, d2]
          by_cases z1 : ch = 60
          · rw [if_pos z1, if_neg (fun y => z ⟨Or.inl z1, y⟩), y1 (Or.inl z1), z1]; exact ⟨rfl, rfl, by decide, by decide⟩
          by_cases z2 : ch = 62
          · rw [if_neg z1, if_pos z2, if_neg (fun y => z ⟨Or.inr z2, y⟩), y1 (Or.inr (Or.inl z2)), z2]; exact ⟨rfl, rfl, by decide, by decide⟩
          by_cases z3 : ch = 61 ∨ ch = 35 ∨ ch = 40 ∨ ch = 41 ∨ ch = 59
          · rw [if_neg z1, if_neg z2, if_pos z3, y1 (Or.inr (Or.inr z3))]
            refine ⟨rfl, rfl, ?_, ?_⟩ <;> (rcases z3 with z3 | z3 | z3 | z3 | z3 <;> rw [z3] <;> decide)
          · rw [if_neg z1, if_neg z2, if_neg z3, y2 (fun y => y.elim z1 (fun y => y.elim z2 z3))]
            exact ⟨rfl, rfl, by decide, by decide⟩
      refine ⟨v, r1, Xt_t r2 (Xt_t x8 x4), ?_, r3.trans a8, ?_, ?_, ?_⟩
      · rw [ev]; exact h9.1
      · rw [ev]; exact h9.2.1
      · rw [ev]; exact fun z => absurd z h9.2.2.1
      · rw [ev]; exact fun z => absurd z h9.2.2.2
    have same := fin ch (fun _ => rfl)
    by_cases z1 : ch = 60
    · rw [if_pos z1, f_Model_nextToken_j298]; exact same (fun y => absurd (by simp [z1]) y)
    by_cases z2 : ch = 62
    · rw [if_neg z1, if_pos z2, f_Model_nextToken_j298]; exact same (fun y => absurd (by simp [z2]) y)
    by_cases z3 : ch = 61
    · rw [if_neg z1, if_neg z2, if_pos z3, f_Model_nextToken_j298]; exact same (fun y => absurd (by simp [z3]) y)
    by_cases z4 : ch = 35
    · rw [if_neg z1, if_neg z2, if_neg z3, if_pos z4, f_Model_nextToken_j298]; exact same (fun y => absurd (by simp [z4]) y)
    by_cases z5 : ch = 40
    · rw [if_neg z1, if_neg z2, if_neg z3, if_neg z4, if_pos z5, f_Model_nextToken_j298]; exact same (fun y => absurd (by simp [z5]) y)
    by_cases z6 : ch = 41
    · rw [if_neg z1, if_neg z2, if_neg z3, if_neg z4, if_neg z5, if_pos z6, f_Model_nextToken_j298]; exact same (fun y => absurd (by simp [z6]) y)
    by_cases z7 : ch = 59
    · rw [if_neg z1, if_neg z2, if_neg z3, if_neg z4, if_neg z5, if_neg z6, if_pos z7, f_Model_nextToken_j298]; exact same (fun y => absurd (by simp [z7]) y)
    rw [if_neg z1, if_neg z2, if_neg z3, if_neg z4, if_neg z5, if_neg z6, if_neg z7]
    exact fin 3 (fun y => by rcases y with y | y | y | y | y | y | y <;> contradiction) (fun _ => rfl)
  intro m
  induction m with
  | zero =>
    intro p f w ht hm hp hf h7
    have hq : ¬ blB (svF (w.1 97) n p) = true := by rw [svF_n (by omega)]; decide
    rw [rn_e hq]
    exact tok p f w ht hp (by omega) h7 hq
  | succ m ih =>
    intro p f w ht hm hp hf h7
    have h3 := ht.2.1
    by_cases hq : blB (svF (w.1 97) n p) = true
    rotate_left
    · rw [rn_e hq]; exact tok p f w ht hp (by omega) h7 hq
    obtain ⟨f, rfl⟩ : ∃ j, f = j + 1 := ⟨f - 1, by omega⟩
    have x1 : Xt (jup w.1 93 7 (nI (p + 1)), w.2) w := Xt_j (by omega)
    obtain ⟨v, r1, r2, r3⟩ := ih (p + 1) f (jup w.1 93 7 (nI (p + 1)), w.2) (Xt_Tp x1 ht) (by omega) (by omega) (by omega) (by dsimp only; rw [jup_eq])
    rw [x1.1 97 (by omega)] at r3
    rw [rn_s hq (by omega)]
    refine ⟨v, ?_, Xt_t r2 x1, r3⟩
    rw [← r1, f_Model_nextToken_h0, h7, m_se ht (by omega), ob]
    dsimp only
    by_cases g : svF (w.1 97) n p = 32
    · rw [if_pos g, jlw_e, h7, ip_1]
    · have g2 : svF (w.1 97) n p = 10 := by
        unfold blB at hq
        rw [decide_eq_false g, Bool.false_or] at hq
        exact of_decide_eq_true hq
      rw [if_neg g, h7, m_se ht (by omega), ob]
      dsimp only
      rw [if_pos g2, jlw_e, h7, ip_1]
end LX

/-! LAYER B: the class's tokens, one at a time -/
section TK
variable {w v z0 : jW} {P : Nat → Int32} {n : Nat}
/-- only the place on the tape differs -/
def Xc (v w : jW) : Prop := (∀ b, b ≠ 78 → v.1 b = w.1 b) ∧ (∀ j, j ≠ 2 → v.1 78 j = w.1 78 j) ∧ v.2 = w.2
theorem Xc_r : Xc w w := ⟨fun _ _ => rfl, fun _ _ => rfl, rfl⟩
theorem Xc_t {u : jW} (h : Xc u v) (g : Xc v w) : Xc u w := ⟨fun b q => (h.1 b q).trans (g.1 b q), fun j q => (h.2.1 j q).trans (g.2.1 j q), h.2.2.trans g.2.2⟩
theorem Xc_j {x : Int32} : Xc (jup w.1 78 2 x, w.2) w := ⟨fun b q => by dsimp only; rw [jup_fn q], fun j q => by dsimp only; rw [jup_k q], rfl⟩
theorem Xc_Tc (h : Xc v w) (ht : Tc w P n) : Tc v P n := ⟨JR_eq ht.1 (h.1 79 (by omega)), fun k hk => by rw [h.1 80 (by omega)]; exact ht.2 k hk⟩
theorem c_dg (x : Int32) : f_Tokens_isDigit x w = some (if dgB x = true then 1 else 0, w) := by
  rw [f_Tokens_isDigit]
  unfold dgB
  by_cases g1 : x < 48
  · rw [if_pos g1, decide_eq_false (fun z => z.1 g1)]; rfl
  by_cases g2 : x ≤ 57
  · rw [if_neg g1, if_pos g2, decide_eq_true ⟨g1, g2⟩]; rfl
  · rw [if_neg g1, if_neg g2, decide_eq_false (fun z => g2 z.2)]; rfl
theorem c_lt (x : Int32) : f_Tokens_isLetter x w = some (if ltB x = true then 1 else 0, w) := by
  have j12 : ¬ (¬ x < 97 ∧ x ≤ 122) → f_Tokens_isLetter_j12 x w = some (if ltB x = true then 1 else 0, w) := fun h => by
    rw [f_Tokens_isLetter_j12]
    unfold ltB
    rw [decide_eq_false h, Bool.false_or]
    by_cases g1 : x < 65
    · rw [if_pos g1, decide_eq_false (fun z => z.1 g1)]; rfl
    by_cases g2 : x ≤ 90
    · rw [if_neg g1, if_pos g2, decide_eq_true ⟨g1, g2⟩]; rfl
    · rw [if_neg g1, if_neg g2, decide_eq_false (fun z => g2 z.2)]; rfl
  rw [f_Tokens_isLetter]
  by_cases g1 : x < 97
  · rw [if_pos g1]; exact j12 (fun z => z.1 g1)
  by_cases g2 : x ≤ 122
  · rw [if_neg g1, if_pos g2]; unfold ltB; rw [decide_eq_true ⟨g1, g2⟩]; rfl
  · rw [if_neg g1, if_neg g2]; exact j12 (fun z => g2 z.2)
theorem c_h7 {s : Nat} : ∀ m p k f (w : jW), Tc w P n → n - p = m → p ≤ n → k + m ≤ 300 → m < f → w.1 78 2 = nI p → ∃ v, f_Tokens_takeWord_h7 f (nI s) (nI k) w = f_Tokens_takeWord_j48 (nI s) v ∧ Xc v w ∧ v.1 78 2 = nI (rn ltB P n p) := by
  have stop : ∀ p k f (w : jW), Tc w P n → p ≤ n → k ≤ 300 → 0 < f → w.1 78 2 = nI p → ¬ ltB (svF P n p) = true → ∃ v, f_Tokens_takeWord_h7 f (nI s) (nI k) w = f_Tokens_takeWord_j48 (nI s) v ∧ Xc v w ∧ v.1 78 2 = nI (rn ltB P n p) := fun p k f w ht hp hk hf h7 hq => by
    obtain ⟨f, rfl⟩ : ∃ j, f = j + 1 := ⟨f - 1, by omega⟩
    have h3 := ht.1.2.2.1
    refine ⟨w, ?_, Xc_r, by rw [rn_e hq]; exact h7⟩
    rw [f_Tokens_takeWord_h7]
    split
    · rw [h7, c_at79 ht (by omega), ob]
      dsimp only
      rw [c_lt, ob]
      dsimp only
      rw [if_neg hq, if_pos rfl]
    · rfl
  intro m
  induction m with
  | zero =>
    intro p k f w ht hm hp hk hf h7
    exact stop p k f w ht hp (by omega) hf h7 (by rw [svF_n (by omega)]; decide)
  | succ m ih =>
    intro p k f w ht hm hp hk hf h7
    by_cases hq : ltB (svF P n p) = true
    rotate_left
    · exact stop p k f w ht hp (by omega) (by omega) h7 hq
    obtain ⟨f, rfl⟩ : ∃ j, f = j + 1 := ⟨f - 1, by omega⟩
    have h3 := ht.1.2.2.1
    obtain ⟨v, r1, r2, r3⟩ := ih (p + 1) (k + 1) f (jup w.1 78 2 (nI (p + 1)), w.2) (Xc_Tc Xc_j ht) (by omega) (by omega) (by omega) (by omega) (by dsimp only; rw [jup_eq])
    refine ⟨v, ?_, Xc_t r2 Xc_j, by rw [rn_s hq (by omega)]; exact r3⟩
    rw [← r1, f_Tokens_takeWord_h7, if_pos (show nI k < 300 from nI_lt (b := 300) (by omega) (by omega)), h7, c_at79 ht (by omega), ob]
    dsimp only
    rw [c_lt, ob]
    dsimp only
    rw [if_pos hq, if_neg one_ne, jlw_e, h7, ip_1, ip_1]
/-- the number as the class holds it -/
def cmF (P : Nat → Int32) (n : Nat) : Nat → Nat → Nat → Nat
  | 0, _, a => a
  | m + 1, p, a => if dgB (svF P n p) = true then cmF P n m (p + 1) (min 10000 (a * 10 + ((svF P n p).toNatClampNeg - 48))) else a
theorem cn_nu : ∀ m p a, cmF P n m p (min 10000 a) = min 10000 (nuF P n m p a) := by
  intro m
  induction m with
  | zero => intro p a; rfl
  | succ m ih =>
    intro p a
    rw [cmF, nuF]
    by_cases hq : dgB (svF P n p) = true
    rotate_left
    · rw [if_neg hq, if_neg hq]
    rw [if_pos hq, if_pos hq, ← ih]
    refine congrArg _ ?_
    split <;> omega
theorem c_h4 : ∀ m p k f a (w : jW), Tc w P n → n - p = m → p ≤ n → k + m ≤ 300 → m < f → a ≤ 10000 → w.1 78 2 = nI p → ∃ v, f_Tokens_takeNumber_h4 f (nI a) (nI k) w = some (nI (cmF P n (n - p) p a), v) ∧ Xc v w ∧ v.1 78 2 = nI (rn dgB P n p) := by
  have stop : ∀ p k f a (w : jW), Tc w P n → p ≤ n → k ≤ 300 → 0 < f → w.1 78 2 = nI p → ¬ dgB (svF P n p) = true → ∃ v, f_Tokens_takeNumber_h4 f (nI a) (nI k) w = some (nI (cmF P n (n - p) p a), v) ∧ Xc v w ∧ v.1 78 2 = nI (rn dgB P n p) := fun p k f a w ht hp hk hf h7 hq => by
    obtain ⟨f, rfl⟩ : ∃ j, f = j + 1 := ⟨f - 1, by omega⟩
    have h3 := ht.1.2.2.1
    have ec : cmF P n (n - p) p a = a := by
      cases hx : n - p with
      | zero => rfl
      | succ m => rw [cmF, if_neg hq]
    refine ⟨w, ?_, Xc_r, by rw [rn_e hq]; exact h7⟩
    rw [f_Tokens_takeNumber_h4, ec]
    split
    · rw [h7, c_at79 ht (by omega), ob]
      dsimp only
      rw [c_dg, ob]
      dsimp only
      rw [if_neg hq, if_pos rfl]
    · rfl
  intro m
  induction m with
  | zero =>
    intro p k f a w ht hm hp hk hf ha h7
    exact stop p k f a w ht hp (by omega) hf h7 (by rw [svF_n (by omega)]; decide)
  | succ m ih =>
    intro p k f a w ht hm hp hk hf ha h7
    by_cases hq : dgB (svF P n p) = true
    rotate_left
    · exact stop p k f a w ht hp (by omega) (by omega) h7 hq
    obtain ⟨f, rfl⟩ : ∃ j, f = j + 1 := ⟨f - 1, by omega⟩
    have h3 := ht.1.2.2.1
    obtain ⟨d, d1, d2⟩ := dg_n hq
    obtain ⟨v, r1, r2, r3⟩ := ih (p + 1) (k + 1) f (min 10000 (a * 10 + d)) (jup w.1 78 2 (nI (p + 1)), w.2) (Xc_Tc Xc_j ht) (by omega) (by omega) (by omega) (by omega) (by omega) (by dsimp only; rw [jup_eq])
    refine ⟨v, ?_, Xc_t r2 Xc_j, by rw [rn_s hq (by omega)]; exact r3⟩
    have e1 : nI a * 10 + nI (48 + d) - 48 = nI (a * 10 + d) := by
      rw [show nI a * 10 = nI (a * 10) from nI_mul a 10, nI_add, show nI (a * 10 + (48 + d)) - 48 = nI (a * 10 + (48 + d) - 48) from nI_sub (b := 48) (by omega)]
      exact congrArg nI (by omega)
    have e2 : (if (10000 : Int32) < nI (a * 10 + d) then (10000 : Int32) else nI (a * 10 + d)) = nI (min 10000 (a * 10 + d)) := by
      by_cases g : 10000 < a * 10 + d
      · rw [if_pos (show (10000 : Int32) < nI (a * 10 + d) from nI_lt (a := 10000) g (by omega)), show min 10000 (a * 10 + d) = 10000 by omega]; rfl
      · rw [if_neg (show ¬ (10000 : Int32) < nI (a * 10 + d) from nI_nlt (a := 10000) (by omega) (by omega)), show min 10000 (a * 10 + d) = a * 10 + d by omega]
    rw [hm, cmF, if_pos hq, d1, nI_clamp (by omega), show 48 + d - 48 = d by omega, show m = n - (p + 1) by omega, ← r1, f_Tokens_takeNumber_h4, if_pos (show nI k < 300 from nI_lt (b := 300) (by omega) (by omega)), h7, c_at79 ht (by omega), ob]
    dsimp only
    rw [c_dg, ob]
    dsimp only
    rw [if_pos hq, if_neg one_ne, h7, c_at79 ht (by omega), ob]
    dsimp only
    rw [jlw_e, h7, d1]
    simp only [e1, e2, ip_1]
/-- the class's kind of a sign -/
def sgF (P : Nat → Int32) (n s : Nat) : Int32 :=
  if svF P n s = 35 then 23 else if svF P n s = 40 then 24 else if svF P n s = 41 then 25 else if svF P n s = 59 then 26 else if svF P n s = 60 then (if svF P n (s + 1) = 61 then 19 else 18) else if svF P n s = 61 then 22 else if svF P n s = 62 then (if svF P n (s + 1) = 61 then 21 else 20) else 29
theorem c_sign (ht : Tc w P n) {s : Nat} (hs : s ≤ n) (h7 : w.1 78 2 = nI s) : ∃ v, f_Tokens_takeSign (svF P n s) w = some (sgF P n s, v) ∧ Xc v w ∧ v.1 78 2 = nI (if (svF P n s = 60 ∨ svF P n s = 62) ∧ svF P n (s + 1) = 61 then s + 2 else s + 1) := by
  have h3 := ht.1.2.2.1
  obtain ⟨w1, hw1⟩ : ∃ w1 : jW, w1 = (jup w.1 78 2 (nI (s + 1)), w.2) := ⟨_, rfl⟩
  have x1 : Xc w1 w := by rw [hw1]; exact Xc_j
  have a7 : w1.1 78 2 = nI (s + 1) := by rw [hw1]; dsimp only; rw [jup_eq]
  have j59 : ∀ (u : jW) (x2 : Int32), (x2 = if svF P n (s + 1) = 61 ∧ (svF P n s = 60 ∨ svF P n s = 62) then 1 else 0) → f_Tokens_takeSign_j59 (svF P n s) x2 u = some (sgF P n s, u) := fun u x2 hx => by
    rw [f_Tokens_takeSign_j59, sgF]
    by_cases z1 : svF P n s = 35
    · rw [if_pos z1, if_pos z1]
    by_cases z2 : svF P n s = 40
    · rw [if_neg z1, if_neg z1, if_pos z2, if_pos z2]
    by_cases z3 : svF P n s = 41
    · rw [if_neg z1, if_neg z1, if_neg z2, if_neg z2, if_pos z3, if_pos z3]
    by_cases z4 : svF P n s = 59
    · rw [if_neg z1, if_neg z1, if_neg z2, if_neg z2, if_neg z3, if_neg z3, if_pos z4, if_pos z4]
    rw [if_neg z1, if_neg z1, if_neg z2, if_neg z2, if_neg z3, if_neg z3, if_neg z4, if_neg z4]
    by_cases z5 : svF P n s = 60
    · rw [if_pos z5, if_pos z5]
      by_cases y : svF P n (s + 1) = 61
      · rw [if_pos ⟨y, Or.inl z5⟩] at hx; rw [hx, if_pos y, if_neg one_ne]
      · rw [if_neg (fun q => y q.1)] at hx; rw [hx, if_neg y, if_pos rfl]
    rw [if_neg z5, if_neg z5]
    by_cases z6 : svF P n s = 61
    · rw [if_pos z6, if_pos z6]
    rw [if_neg z6, if_neg z6]
    by_cases z7 : svF P n s = 62
    · rw [if_pos z7, if_pos z7]
      by_cases y : svF P n (s + 1) = 61
      · rw [if_pos ⟨y, Or.inr z7⟩] at hx; rw [hx, if_pos y, if_neg one_ne]
      · rw [if_neg (fun q => y q.1)] at hx; rw [hx, if_neg y, if_pos rfl]
    · rw [if_neg z7, if_neg z7]
  have yes : svF P n (s + 1) = 61 → (svF P n s = 60 ∨ svF P n s = 62) → ∃ v, f_Tokens_takeSign_j39 (svF P n s) w1 = some (sgF P n s, v) ∧ Xc v w ∧ v.1 78 2 = nI (if (svF P n s = 60 ∨ svF P n s = 62) ∧ svF P n (s + 1) = 61 then s + 2 else s + 1) := fun y1 y2 => by
    rw [f_Tokens_takeSign_j39, f_Tokens_takeSign_j44, if_neg one_ne, jlw_e, a7, ip_1, j59 _ 1 (by rw [if_pos ⟨y1, y2⟩]), if_pos ⟨y2, y1⟩]
    exact ⟨_, rfl, Xc_t Xc_j x1, by dsimp only; rw [jup_eq]⟩
  have no : ¬ ((svF P n s = 60 ∨ svF P n s = 62) ∧ svF P n (s + 1) = 61) → ∃ v, f_Tokens_takeSign_j43 (svF P n s) w1 = some (sgF P n s, v) ∧ Xc v w ∧ v.1 78 2 = nI (if (svF P n s = 60 ∨ svF P n s = 62) ∧ svF P n (s + 1) = 61 then s + 2 else s + 1) := fun y => by
    rw [f_Tokens_takeSign_j43, f_Tokens_takeSign_j44, if_pos rfl, j59 _ 0 (by rw [if_neg (fun q => y ⟨q.2, q.1⟩)]), if_neg y]
    exact ⟨_, rfl, x1, a7⟩
  rw [f_Tokens_takeSign, jlw_e, h7, ip_1, ← hw1, a7, c_at79 (Xc_Tc x1 ht) (by omega), ob]
  dsimp only
  by_cases y1 : svF P n (s + 1) = 61
  rotate_left
  · rw [if_neg y1]; exact no (fun q => y1 q.2)
  rw [if_pos y1]
  by_cases y2 : svF P n s = 60
  · rw [if_pos y2]; exact yes y1 (Or.inl y2)
  by_cases y3 : svF P n s = 62
  · rw [if_neg y2, if_pos y3]; exact yes y1 (Or.inr y3)
  · rw [if_neg y2, if_neg y3]; exact no (fun q => q.1.elim y2 y3)
end TK

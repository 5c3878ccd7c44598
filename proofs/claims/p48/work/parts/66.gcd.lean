/-! LAYER B: fractions in lowest terms -/
section GC
variable {w v z0 : jW} {A : Nat → Int32} {c ci : Nat → Nat} {K : Nat}
theorem cmp_le {a b : Nat} (ha : a < 2 ^ 63) (hb : b < 2 ^ 63) : (lg_cmp (lN a) (lN b) ≤ 0) = (a ≤ b) := by
  unfold lg_cmp
  by_cases q : a ≤ b
  · have h1 : ¬ lN a > lN b := fun z => by
      have := (pk_lLT hb ha).mp z
      omega
    rw [if_neg h1]
    split
    · simp [q]
    · simp [q]
  · have h1 : lN a > lN b := (pk_lLT hb ha).mpr (by omega)
    rw [if_pos h1]
    simp [q]
theorem cmp_0 {a : Nat} (ha : a < 2 ^ 63) : (lg_cmp (lN a) 0 = 0) = (a = 0) := by
  rw [show (0 : Int64) = lN 0 from rfl]
  exact propext (lg_0.trans (pk_lEQ ha (by omega)))
theorem cmp_eq {a b : Nat} (ha : a < 2 ^ 63) (hb : b < 2 ^ 63) : (lg_cmp (lN a) (lN b) = 0) = (a = b) := propext (lg_0.trans (pk_lEQ ha hb))
theorem bl_ne {a : Nat} (h0 : a ≠ 0) (ha : a < 2 ^ 63) : (!(lN a == 0)) = true := by
  have : ¬ lN a = 0 := fun z => h0 ((pk_lEQ (a := a) (b := 0) ha (by omega)).mp z)
  simp [this]
/-- Euclid's steps halve the lesser number in two -/
theorem euc (P : Nat → Nat → Nat → Prop) (h0 : ∀ f a, P (f + 1) a 0) (hs : ∀ f a b, b ≠ 0 → P f b (a % b) → P (f + 1) a b) : ∀ j f a b, b < 2 ^ j → 2 * j < f → P f a b := by
  intro j
  induction j with
  | zero =>
    intro f a b hb hf
    obtain ⟨f, rfl⟩ : ∃ k, f = k + 1 := ⟨f - 1, by omega⟩
    have : b = 0 := by simpa using hb
    rw [this]; exact h0 f a
  | succ j ih =>
    intro f a b hb hf
    obtain ⟨f, rfl⟩ : ∃ k, f = k + 1 + 1 := ⟨f - 2, by omega⟩
    by_cases q : b = 0
    · rw [q]; exact h0 _ a
    · refine hs _ a b q ?_
      by_cases q2 : a % b = 0
      · rw [q2]; exact h0 f b
      · refine hs _ b (a % b) q2 (ih f _ _ ?_ (by omega))
        have h1 : a % b < b := Nat.mod_lt _ (by omega)
        have h2 : b % (a % b) < a % b := Nat.mod_lt _ (by omega)
        rw [Nat.pow_succ] at hb
        by_cases q3 : a % b ≤ b / 2
        · omega
        · have h3 : b % (a % b) = (b - a % b) % (a % b) := Nat.mod_eq_sub_mod (by omega)
          have h4 : (b - a % b) % (a % b) = b - a % b := Nat.mod_eq_of_lt (by omega)
          omega
theorem gcd_st {a b : Nat} (h : b ≠ 0) : Nat.gcd b (a % b) = Nat.gcd a b := by
  rw [Nat.gcd_comm a b, Nat.gcd_rec b a, Nat.gcd_comm]
/-- what reduce leaves -/
def rdw (w : jW) (a b : Nat) : jW := (w.1, jup (jup w.2 87 4 (lN (a / Nat.gcd a b))) 87 5 (lN (b / Nat.gcd a b)))
theorem c_reduce {a b : Nat} (ha : a < 2 ^ 59) (hb : b < 2 ^ 59) (h0 : a ≠ 0 ∨ b ≠ 0) : f_Shares_reduce (lN a) (lN b) w = some (rdw w a b) := by
  have fin : ∀ g, g ≠ 0 → g < 2 ^ 62 → f_Shares_reduce_j45 (lN a) (lN b) (lN g) w = some (w.1, jup (jup w.2 87 4 (lN (a / g))) 87 5 (lN (b / g))) := fun g hg hg2 => by
    have hn : ¬ lg_cmp (lN g) 0 ≤ 0 := by
      rw [show (0 : Int64) = lN 0 from rfl, cmp_le (by omega) (by omega)]; omega
    rw [f_Shares_reduce_j45, if_neg hn, bl_ne hg (by omega), if_pos (show jal [true] = true from rfl), pk_lDiv (by omega) (by omega) (by omega), f_Shares_reduce_j61, jlw_e, if_neg hn, bl_ne hg (by omega), if_pos (show jal [true] = true from rfl), jlw_e, pk_lDiv (by omega) (by omega) (by omega)]
  have key : ∀ j f x y, y < 2 ^ j → 2 * j < f → (x < 2 ^ 62 → y < 2 ^ 62 → (x ≠ 0 ∨ y ≠ 0) → ∀ F i, f ≤ F → i + f ≤ 500 → f_Shares_reduce_h9 F (lN a) (lN b) (lN x) (lN y) (nI i) w = some (w.1, jup (jup w.2 87 4 (lN (a / Nat.gcd x y))) 87 5 (lN (b / Nat.gcd x y)))) := by
    refine euc (fun f x y => x < 2 ^ 62 → y < 2 ^ 62 → (x ≠ 0 ∨ y ≠ 0) → ∀ F i, f ≤ F → i + f ≤ 500 → f_Shares_reduce_h9 F (lN a) (lN b) (lN x) (lN y) (nI i) w = some (w.1, jup (jup w.2 87 4 (lN (a / Nat.gcd x y))) 87 5 (lN (b / Nat.gcd x y)))) (fun f x hx hy hn F i hF hi => ?_) (fun f x y h0 ih hx hy hn F i hF hi => ?_)
    · obtain ⟨F, rfl⟩ : ∃ k, F = k + 1 := ⟨F - 1, by omega⟩
      rw [f_Shares_reduce_h9, if_pos (show nI i < 1000 from nI_lt (b := 1000) (by omega) (by omega)), if_pos (by rw [cmp_0 (by omega)]), Nat.gcd_zero_right]
      exact fin x (by omega) hx
    · obtain ⟨F, rfl⟩ : ∃ k, F = k + 1 := ⟨F - 1, by omega⟩
      have := Nat.mod_lt x (show y > 0 by omega)
      rw [f_Shares_reduce_h9, if_pos (show nI i < 1000 from nI_lt (b := 1000) (by omega) (by omega)), if_neg (by rw [cmp_0 (by omega)]; exact h0), bl_ne h0 (by omega), if_pos (show jal [true] = true from rfl), pk_lRem (by omega) (by omega) (by omega), ip_1, ih hy (by omega) (Or.inl h0) F (i + 1) (by omega) (by omega), gcd_st h0]
  rw [f_Shares_reduce]
  exact key 59 119 a b hb (by omega) (by omega) (by omega) h0 jfu 0 (by unfold jfu; omega) (by omega)
/-- equal fractions have the same lowest terms -/
theorem low_eq {a b x y : Nat} (hb : 0 < b) (hy : 0 < y) (h : a * y = x * b) : a / Nat.gcd a b = x / Nat.gcd x y ∧ b / Nat.gcd a b = y / Nat.gcd x y := by
  have g1 : 0 < Nat.gcd a b := Nat.gcd_pos_of_pos_right _ hb
  have g2 : 0 < Nat.gcd x y := Nat.gcd_pos_of_pos_right _ hy
  have c1 := Nat.coprime_div_gcd_div_gcd g1
  have c2 := Nat.coprime_div_gcd_div_gcd g2
  have ea : a / Nat.gcd a b * Nat.gcd a b = a := Nat.div_mul_cancel (Nat.gcd_dvd_left a b)
  have eb : b / Nat.gcd a b * Nat.gcd a b = b := Nat.div_mul_cancel (Nat.gcd_dvd_right a b)
  have ex : x / Nat.gcd x y * Nat.gcd x y = x := Nat.div_mul_cancel (Nat.gcd_dvd_left x y)
  have ey : y / Nat.gcd x y * Nat.gcd x y = y := Nat.div_mul_cancel (Nat.gcd_dvd_right x y)
  generalize a / Nat.gcd a b = a' at *
  generalize b / Nat.gcd a b = b' at *
  generalize x / Nat.gcd x y = x' at *
  generalize y / Nat.gcd x y = y' at *
  generalize Nat.gcd a b = g at *
  generalize Nat.gcd x y = k at *
  have hm : a' * y' = x' * b' := by
    have h2 : (a' * y') * (g * k) = (x' * b') * (g * k) := by
      rw [← ea, ← eb, ← ex, ← ey] at h
      rw [Nat.mul_mul_mul_comm, h, Nat.mul_mul_mul_comm, Nat.mul_comm k g]
    exact Nat.eq_of_mul_eq_mul_right (Nat.mul_pos g1 g2) h2
  have d1 : a' ∣ x' := c1.dvd_of_dvd_mul_right (by rw [← hm]; exact Nat.dvd_mul_right _ _)
  have d2 : x' ∣ a' := c2.dvd_of_dvd_mul_right (by rw [hm]; exact Nat.dvd_mul_right _ _)
  have d3 : b' ∣ y' := c1.symm.dvd_of_dvd_mul_left (by rw [hm]; exact Nat.dvd_mul_left _ _)
  have d4 : y' ∣ b' := c2.symm.dvd_of_dvd_mul_left (by rw [← hm]; exact Nat.dvd_mul_left _ _)
  exact ⟨Nat.dvd_antisymm d1 d2, Nat.dvd_antisymm d3 d4⟩
end GC


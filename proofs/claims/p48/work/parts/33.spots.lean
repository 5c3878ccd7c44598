/-! LAYER B: clouds, watched days; seals -/
def bz (b : Bool) : Int32 := if b = true then 1 else 0
theorem bz_t : bz true = 1 := rfl
theorem bz_f : bz false = 0 := rfl
theorem bz_0 {b : Bool} : (bz b = 0) = (b = false) := by cases b <;> simp [bz]
theorem bz_bo {b : Bool} : jbo (bz b) = true := by cases b <;> rfl
/-- whether one of the m pairs from the k-th on is (x, y) -/
def spt (A : Nat → Int32) (base : Nat) (x y : Int32) : Nat → Nat → Bool
  | 0, _ => false
  | m + 1, k => (decide (A (base + 2 * k) = x) && decide (A (base + 2 * k + 1) = y)) || spt A base x y m (k + 1)
theorem ix2 (c a k : Nat) : (nI c + nI a * nI k : Int32) = nI (c + a * k) := by rw [nI_mul, nI_add]
section SB
variable {w : jW} {x y : Int32} {n : Nat}
theorem c_spot_h {A : Nat → Int32} {R cnt base : Nat} (h : RT w R 2 60 A cnt base 2 id) (hn : A cnt = nI n) (hn2 : n ≤ 60) : ∀ (m k f : Nat), k + m = n → m < f → f_State_hasSpot_h2 R f x y (nI k) w = some (bz (spt A base x y m k), w) := by
  obtain ⟨n', h1, h2, -⟩ := id h
  have e : n' = n := (nI_eq (by have := h2.2.2.1; omega) (by omega)).mp (h1.symm.trans hn)
  subst e
  intro m
  induction m with
  | zero =>
    intro k f hk hf
    obtain ⟨f, rfl⟩ : ∃ j, f = j + 1 := ⟨f - 1, by omega⟩
    rw [f_State_hasSpot_h2, r_count h2, ob, if_neg (nI_nlt (by omega) (by omega))]
    rfl
  | succ m ih =>
    intro k f hk hf
    obtain ⟨f, rfl⟩ : ∃ j, f = j + 1 := ⟨f - 1, by omega⟩
    have a0 : f_Rows_at R (nI k) 0 w = some (A (base + 2 * k), w) := rt_at (j := 0) h hn (by omega) (by omega) (by omega) (by omega) (by decide)
    have a1 : f_Rows_at R (nI k) 1 w = some (A (base + 2 * k + 1), w) := rt_at (j := 1) h hn (by omega) (by omega) (by omega) (by omega) (by decide)
    rw [f_State_hasSpot_h2, r_count h2, ob, if_pos (nI_lt (by omega) (by omega)), a0, ob, spt]
    by_cases c1 : A (base + 2 * k) = x
    · rw [if_pos c1, a1, ob]
      by_cases c2 : A (base + 2 * k + 1) = y
      · rw [if_pos c2, decide_eq_true c1, decide_eq_true c2]; rfl
      · rw [if_neg c2]
        show f_State_hasSpot_h2 R f x y (nI k + 1) w = _
        rw [nI_1, ih (k + 1) f (by omega) (by omega), decide_eq_false c2]; simp
    · rw [if_neg c1]
      show f_State_hasSpot_h2 R f x y (nI k + 1) w = _
      rw [nI_1, ih (k + 1) f (by omega) (by omega), decide_eq_false c1]; simp
theorem c_spot {A : Nat → Int32} {R cnt base : Nat} (h : RT w R 2 60 A cnt base 2 id) (hn : A cnt = nI n) (hn2 : n ≤ 60) : f_State_hasSpot R x y w = some (bz (spt A base x y n 0), w) := by
  rw [f_State_hasSpot]
  exact c_spot_h h hn hn2 n 0 jfu (by omega) (by unfold jfu; omega)
theorem c_isDay : f_State_isDay x w = some (b2 (¬ x < 0 ∧ x ≤ 1999), w) := by
  rw [f_State_isDay]
  by_cases h1 : x < 0
  · rw [if_pos h1, b2_n (fun z => z.1 h1)]
  · rw [if_neg h1]
    by_cases h2 : x ≤ 1999
    · rw [if_pos h2, b2_p ⟨h1, h2⟩]
    · rw [if_neg h2, b2_n (fun z => h2 z.2)]
end SB


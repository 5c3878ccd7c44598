/-! LAYER B: how acts are judged -/
section JU
variable {w v z0 : jW} {A : Nat → Int32} {c ci : Nat → Nat} {K : Nat}
/-- whether one of the m told rows from the k-th on tells the move -/
def jmf (A : Nat → Int32) (t y cm last kn : Int32) : Nat → Nat → Bool
  | 0, _ => false
  | m + 1, k => (decide (A (9680 + 8 * k) = t) && (decide (A (9680 + 8 * k + 1) = y) && (decide (A (9680 + 8 * k + 2) = cm) && (decide (A (9680 + 8 * k + 3) ≤ last) && decide (A (9680 + 8 * k + 3) ≤ kn))))) || jmf A t y cm last kn m (k + 1)
def jmv (A : Nat → Int32) (c : Nat → Nat) (o : Nat) (kn : Int32) : Int32 := if jmf A (A (720 + 8 * o)) (A (720 + 8 * o + 3)) (A (720 + 8 * o + 4)) (A (720 + 8 * o + 4) + sys A c (A (720 + 8 * o + 4)) 1) kn (c 7) 0 = true then 0 else if kn ≤ A (720 + 8 * o + 4) + sys A c (A (720 + 8 * o + 4)) 1 then 3 else 2
/-- how many of the first n visits were by the same land in the same year -/
def jvn (A : Nat → Int32) (o : Nat) : Nat → Nat
  | 0 => 0
  | n + 1 => jvn A o n + if A (11280 + 12 * n) = A (11280 + 12 * o) ∧ A (11280 + 12 * n + 2) / 360 = A (11280 + 12 * o + 2) / 360 then 1 else 0
def jvs (A : Nat → Int32) (c : Nat → Nat) (o : Nat) : Int32 := if nI (jvn A o o) < sys A c (A (11280 + 12 * o + 2)) 2 then 0 else 6
def jqs (A : Nat → Int32) (c : Nat → Nat) (o : Nat) (kn : Int32) : Int32 := if A (12880 + 4 * o + 3) ≠ -1 ∧ A (12880 + 4 * o + 3) ≤ A (12880 + 4 * o + 2) + sys A c (A (12880 + 4 * o + 2)) 5 ∧ A (12880 + 4 * o + 3) ≤ kn then 0 else if kn ≤ A (12880 + 4 * o + 2) + sys A c (A (12880 + 4 * o + 2)) 5 then 3 else 7
theorem c_jmv_h (H : RA w 3 A c K) {o : Nat} {kn last : Int32} (ho : o < c 4) : ∀ (m k f : Nat), k + m = c 7 → m < f → f_Judge_judgeMove_h39 f (nI o) kn (A (720 + 8 * o)) (A (720 + 8 * o + 4)) last (nI k) w = some (if jmf A (A (720 + 8 * o)) (A (720 + 8 * o + 3)) (A (720 + 8 * o + 4)) last kn m k = true then 0 else if kn ≤ last then 3 else 2, w) := by
  have l7 := l_7 H
  intro m
  induction m with
  | zero =>
    intro k f hk hf
    obtain ⟨f, rfl⟩ : ∃ j, f = j + 1 := ⟨f - 1, by omega⟩
    rw [f_Judge_judgeMove_h39, n_to H, ob]
    dsimp only
    rw [if_neg (nI_nlt (by omega) (by omega)), jmf, if_neg (show ¬ (false = true) by decide)]
    split <;> rfl
  | succ m ih =>
    intro k f hk hf
    obtain ⟨f, rfl⟩ : ∃ j, f = j + 1 := ⟨f - 1, by omega⟩
    have ih' := ih (k + 1) f (by omega) (by omega)
    rw [f_Judge_judgeMove_h39, n_to H, ob]
    dsimp only
    rw [if_pos (nI_lt (by omega) (by omega)), a_to3 H (by omega), ob]
    dsimp only
    rw [a_to0 H (by omega), ob, jmf]
    dsimp only
    rw [ip_1]
    by_cases q1 : A (9680 + 8 * k) = A (720 + 8 * o)
    rotate_left
    · rw [if_neg q1, decide_eq_false q1, Bool.false_and, Bool.false_or]; exact ih'
    rw [if_pos q1, a_to1 H (by omega), ob]
    dsimp only
    rw [a_mv2 H ho, ob]
    dsimp only
    by_cases q2 : A (9680 + 8 * k + 1) = A (720 + 8 * o + 3)
    rotate_left
    · rw [if_neg q2, decide_eq_false q2, Bool.false_and, Bool.and_false, Bool.false_or]; exact ih'
    rw [if_pos q2, a_to2 H (by omega), ob]
    dsimp only
    by_cases q3 : A (9680 + 8 * k + 2) = A (720 + 8 * o + 4)
    rotate_left
    · rw [if_neg q3, decide_eq_false q3, Bool.false_and, Bool.and_false, Bool.and_false, Bool.false_or]; exact ih'
    rw [if_pos q3]
    by_cases q4 : A (9680 + 8 * k + 3) ≤ last
    rotate_left
    · rw [if_neg q4, decide_eq_false q4, Bool.false_and, Bool.and_false, Bool.and_false, Bool.and_false, Bool.false_or]; exact ih'
    rw [if_pos q4]
    by_cases q5 : A (9680 + 8 * k + 3) ≤ kn
    rotate_left
    · rw [if_neg q5, decide_eq_false q5, Bool.and_false, Bool.and_false, Bool.and_false, Bool.and_false, Bool.false_or]; exact ih'
    rw [if_pos q5, decide_eq_true q1, decide_eq_true q2, decide_eq_true q3, decide_eq_true q4, decide_eq_true q5]
    rfl
theorem c_jmv (H : RA w 3 A c K) {o : Nat} {kn : Int32} (ho : o < c 4) : f_Judge_judgeMove (nI o) kn w = some (jmv A c o kn, w) := by
  have et : ∀ d, f_Treaty_tells 1 d w = some (sys A c d 1, w) := fun d => c_tells (wh := 1) H (by omega)
  rw [f_Judge_judgeMove, a_mv0 H ho, ob]
  dsimp only
  rw [a_mv4 H ho, ob]
  dsimp only
  rw [et, ob]
  exact c_jmv_h H ho (c 7) 0 jfu (by omega) (by have := l_7 H; unfold jfu; omega)
theorem jvn_le {o : Nat} : ∀ n, jvn A o n ≤ n := by
  intro n
  induction n with
  | zero => exact Nat.le_refl _
  | succ n ih => rw [jvn]; split <;> omega
theorem c_jvs_h (H : RA w 3 A c K) {o : Nat} (ho : o < c 8) : ∀ (m k f : Nat), k + m = o → m < f → f_Judge_isTooMany_h16 f (nI o) (A (11280 + 12 * o + 2)) (nI (jvn A o k)) (nI k) w = some (if nI (jvn A o o) < sys A c (A (11280 + 12 * o + 2)) 2 then 0 else 1, w) := by
  have l8 := l_8 H
  have et : ∀ d, f_Treaty_tells 2 d w = some (sys A c d 2, w) := fun d => c_tells (wh := 2) H (by omega)
  intro m
  induction m with
  | zero =>
    intro k f hk hf
    obtain ⟨f, rfl⟩ : ∃ j, f = j + 1 := ⟨f - 1, by omega⟩
    have ek : k = o := by omega
    subst ek
    rw [f_Judge_isTooMany_h16, if_neg (nI_nlt (by omega) (by omega)), et, ob]
    split <;> rfl
  | succ m ih =>
    intro k f hk hf
    obtain ⟨f, rfl⟩ : ∃ j, f = j + 1 := ⟨f - 1, by omega⟩
    have ih' := ih (k + 1) f (by omega) (by omega)
    rw [jvn] at ih'
    rw [f_Judge_isTooMany_h16, if_pos (nI_lt (by omega) (by omega)), a_vi7 H (by omega), ob]
    dsimp only
    rw [a_vi7 H ho, ob]
    dsimp only
    rw [ip_1, ip_1]
    by_cases q1 : A (11280 + 12 * k) = A (11280 + 12 * o)
    · rw [if_pos q1, a_vi6 H (by omega), ob]
      dsimp only
      rw [if_pos (by decide)]
      by_cases q2 : A (11280 + 12 * k + 2) / 360 = A (11280 + 12 * o + 2) / 360
      · rw [if_pos ⟨q1, q2⟩] at ih'
        rw [if_pos q2]; exact ih'
      · rw [if_neg (fun z => q2 z.2)] at ih'
        rw [if_neg q2]; exact ih'
    · rw [if_neg (fun z => q1 z.1)] at ih'
      rw [if_neg q1]; exact ih'
end JU


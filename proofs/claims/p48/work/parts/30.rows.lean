/-! LAYER B: numbers; the class's tables -/
theorem jin_nI {n N : Nat} (h : n < N) (hN : n < 2 ^ 31) : jin (nI n) N = true := by
  unfold jin
  rw [nI_clamp hN]
  simp only [Bool.not_eq_true', Bool.or_eq_false_iff, decide_eq_false_iff_not]
  exact ⟨nI_pos hN, by omega⟩
theorem nI_mul (a b : Nat) : nI a * nI b = nI (a * b) := (Int32.ofNat_mul a b).symm
theorem nI_lit (n : Nat) : (OfNat.ofNat n : Int32) = nI n := rfl
theorem nI_rfl (n : Nat) : Int32.ofNat n = nI n := rfl
theorem nI_sub {a b : Nat} (h : b ≤ a) : nI a - nI b = nI (a - b) := by
  have e : nI a = nI (a - b) + nI b := by rw [nI_add, Nat.sub_add_cancel h]
  rw [e, Int32.add_sub_cancel]
theorem ob {α β : Type} {a : α} {f : α → Option β} : Option.bind (some a) f = f a := rfl
theorem jlw_e {β : Type} {w : jW} {k : jW → β} : jlw w k = k w := rfl
theorem jal_n : jal [] = true := rfl
theorem jal_c {c : Bool} {g : List Bool} : jal (c :: g) = (c && jal g) := rfl
theorem jup_ap {α : Type} {f : Nat → Nat → α} {a k b j : Nat} {x : α} : jup f a k x b j = if b = a ∧ j = k then x else f b j := rfl
/-- a truth as the machine has it -/
def b2 (p : Prop) [Decidable p] : Int32 := if p then 1 else 0
theorem b2_p {p : Prop} [Decidable p] (h : p) : b2 p = 1 := if_pos h
theorem b2_n {p : Prop} [Decidable p] (h : ¬ p) : b2 p = 0 := if_neg h
theorem b2_0 {p : Prop} [Decidable p] : (b2 p = 0) = ¬ p := by
  by_cases h : p
  · rw [b2_p h]; simp [h]
  · rw [b2_n h]; simp [h]
theorem b2_bo {p : Prop} [Decidable p] : jbo (b2 p) = true := by
  by_cases h : p
  · rw [b2_p h]; rfl
  · rw [b2_n h]; rfl
theorem b2_iff {p q : Prop} [Decidable p] [Decidable q] (h : p ↔ q) : b2 p = b2 q := by
  by_cases hp : p
  · rw [b2_p hp, b2_p (h.mp hp)]
  · rw [b2_n hp, b2_n (fun z => hp (h.mpr z))]
/-- a table of the class: at R, of width W, at most cap rows, n now -/
def JR (w : jW) (R W cap n : Nat) : Prop := w.1 R 0 = nI W ∧ w.1 R 2 = nI n ∧ n ≤ cap ∧ jSr jR0 R 1 = R + 1 ∧ jSl jR0 (R + 1) = cap * W ∧ 1 ≤ W ∧ W ≤ 12 ∧ cap ≤ 3000 ∧ cap * W ≤ 3000
section RB
variable {w : jW} {R W cap n : Nat}
theorem r_cell {i j : Nat} (h : JR w R W cap n) (hi : i < cap) (hj : j < W) : i * W + j < cap * W := by
  have h1 : i * W + j < (i + 1) * W := by rw [Nat.succ_mul]; omega
  exact Nat.lt_of_lt_of_le h1 (Nat.mul_le_mul_right W hi)
theorem r_count (h : JR w R W cap n) : f_Rows_count R w = some (nI n, w) := by
  rw [f_Rows_count, h.2.1]
theorem r_has (h : JR w R W cap n) (x : Int32) : f_Rows_has R x w = some (b2 (¬ x < 0 ∧ x < nI n), w) := by
  rw [f_Rows_has, h.2.1]
  by_cases h1 : x < 0
  · rw [if_pos h1, b2_n (fun z => z.1 h1)]
  · rw [if_neg h1]
    by_cases h2 : x < nI n
    · rw [if_pos h2, b2_p ⟨h1, h2⟩]
    · rw [if_neg h2, b2_n (fun z => h2 z.2)]
theorem r_full (h : JR w R W cap n) : f_Rows_isFull R w = some (b2 (n = cap), w) := by
  obtain ⟨h0, h2, hn, hr, hl, h1, h12, hc, hcw⟩ := h
  have hm : (n + 1) * W ≤ 3012 := by
    have := Nat.mul_le_mul_right W hn
    rw [Nat.succ_mul]; omega
  rw [f_Rows_isFull, h0, h2, hr, hl]
  simp (disch := omega) only [nI_lit, nI_rfl, nI_add, nI_mul, nI_leI]
  by_cases e : n = cap
  · subst e
    rw [b2_p rfl, if_neg (by rw [Nat.succ_mul]; omega)]; rfl
  · have := Nat.mul_le_mul_right W (show n + 1 ≤ cap by omega)
    rw [b2_n e, if_pos this]; rfl
theorem r_at (h : JR w R W cap n) {i j : Nat} (hi : i < n) (hj : j < W) : f_Rows_at R (nI i) (nI j) w = some (w.1 (R + 1) (i * W + j), w) := by
  have hk := r_cell h (show i < cap by have := h.2.2.1; omega) hj
  obtain ⟨h0, h2, hn, hr, hl, h1, h12, hc, hcw⟩ := h
  rw [f_Rows_at, h0, h2, hr, hl]
  simp (disch := omega) only [nI_lit, nI_rfl, nI_add, nI_mul, nI_ltI, jin_nI, nI_clamp, jal_c, jal_n, Bool.and_true]
  rw [if_neg (by omega), if_pos hi, if_neg (by omega), if_pos hj, if_neg (by omega), if_pos hk]
  simp
theorem r_at_row (h : JR w R W cap n) {x y : Int32} (hx : x < 0 ∨ ¬ x < nI n) : f_Rows_at R x y w = some (-1, w) := by
  rw [f_Rows_at, h.2.1]
  by_cases h0 : x < 0
  · rw [if_pos h0]
  · rw [if_neg h0, if_neg (hx.resolve_left h0)]
theorem r_at_col (h : JR w R W cap n) {x y : Int32} (hy : y < 0 ∨ ¬ y < nI W) : f_Rows_at R x y w = some (-1, w) := by
  rw [f_Rows_at, h.2.1, h.1]
  by_cases h0 : x < 0
  · rw [if_pos h0]
  · rw [if_neg h0]
    by_cases h1 : x < nI n
    · rw [if_pos h1]
      by_cases h2 : y < 0
      · rw [if_pos h2]
      · rw [if_neg h2, if_neg (hy.resolve_left h2)]
    · rw [if_neg h1]
theorem r_put (h : JR w R W cap n) {i j : Nat} (hi : i < n) (hj : j < W) (x : Int32) : f_Rows_put R (nI i) (nI j) x w = some (jup w.1 (R + 1) (i * W + j) x, w.2) := by
  have hk := r_cell h (show i < cap by have := h.2.2.1; omega) hj
  obtain ⟨h0, h2, hn, hr, hl, h1, h12, hc, hcw⟩ := h
  rw [f_Rows_put, h0, h2, hr, hl]
  simp (disch := omega) only [nI_lit, nI_rfl, nI_add, nI_mul, nI_ltI, jin_nI, nI_clamp, jal_c, jal_n, Bool.and_true, jlw_e]
  rw [if_neg (by omega), if_pos hi, if_neg (by omega), if_pos hj, if_neg (by omega), if_pos hk]
  simp
/-- a new row: noughts behind its first number -/
def jrow (w : jW) (R W n : Nat) (x : Int32) : jW := (fun b j => if b = R ∧ j = 2 then nI (n + 1) else if b = R + 1 ∧ n * W ≤ j ∧ j < n * W + W then (if j = n * W then x else 0) else w.1 b j, w.2)
theorem r_open_h {W' : Nat} : ∀ (m k f : Nat) (w : jW) (x : Int32), w.1 R 0 = nI W → w.1 R 2 = nI n → jSr jR0 R 1 = R + 1 → n * W + W ≤ jSl jR0 (R + 1) → jSl jR0 (R + 1) ≤ 3000 → 1 ≤ k → k + m = W → W ≤ 12 → m < f →
    f_Rows_open_h32 R f x (nI (n * W)) (nI k) w = some (nI n, ((fun b j => if b = R ∧ j = 2 then nI (n + 1) else if b = R + 1 ∧ j = n * W then x else if b = R + 1 ∧ n * W + k ≤ j ∧ j < n * W + W then 0 else w.1 b j), w.2)) := by
  intro m
  induction m with
  | zero =>
    intro k f w x h0 h2 hr hl hl2 hk1 hk h12 hf
    obtain ⟨f, rfl⟩ : ∃ j, f = j + 1 := ⟨f - 1, by omega⟩
    rw [f_Rows_open_h32, h0, hr]
    simp (disch := omega) only [nI_ltI, jin_nI, nI_clamp, jal_c, jal_n, Bool.and_true, jlw_e]
    rw [if_neg (by omega), if_pos trivial]
    have e1 : ∀ (y : Int32), jup w.1 (R + 1) (n * W) y R 2 = w.1 R 2 := fun y => jup_ne (by omega) _
    simp only [jup_eq, e1, h2]
    rw [nI_1, nI_pred]
    congr 2
    refine Prod.ext (funext fun b => funext fun j => ?_) rfl
    dsimp only
    rw [jup_ap, jup_ap]
    by_cases c1 : b = R ∧ j = 2
    · rw [if_pos c1, if_pos c1]
    · rw [if_neg c1, if_neg c1]
      by_cases c2 : b = R + 1 ∧ j = n * W
      · rw [if_pos c2, if_pos c2]
      · rw [if_neg c2, if_neg c2, if_neg (by omega)]
  | succ m ih =>
    intro k f w x h0 h2 hr hl hl2 hk1 hk h12 hf
    obtain ⟨f, rfl⟩ : ∃ j, f = j + 1 := ⟨f - 1, by omega⟩
    rw [f_Rows_open_h32, h0, hr]
    simp (disch := omega) only [nI_add, nI_ltI, jin_nI, nI_clamp, jal_c, jal_n, Bool.and_true, jlw_e]
    rw [if_pos (by omega), if_pos trivial, nI_1]
    have e0 : jup w.1 (R + 1) (n * W + k) 0 R 0 = nI W := by rw [jup_ne (by omega)]; exact h0
    have e2 : jup w.1 (R + 1) (n * W + k) 0 R 2 = nI n := by rw [jup_ne (by omega)]; exact h2
    rw [ih (k + 1) f (jup w.1 (R + 1) (n * W + k) 0, w.2) x e0 e2 hr hl hl2 (by omega) (by omega) h12 (by omega)]
    congr 2
    refine Prod.ext (funext fun b => funext fun j => ?_) rfl
    dsimp only
    by_cases c1 : b = R ∧ j = 2
    · rw [if_pos c1, if_pos c1]
    · rw [if_neg c1, if_neg c1]
      by_cases c2 : b = R + 1 ∧ j = n * W
      · rw [if_pos c2, if_pos c2]
      · rw [if_neg c2, if_neg c2]
        by_cases c3 : b = R + 1 ∧ n * W + (k + 1) ≤ j ∧ j < n * W + W
        · rw [if_pos c3, if_pos (by omega)]
        · rw [if_neg c3, jup_ap]
          by_cases c4 : b = R + 1 ∧ j = n * W + k
          · rw [if_pos c4, if_pos (by omega)]
          · rw [if_neg c4, if_neg (by omega)]
theorem r_open (h : JR w R W cap n) (hn : n < cap) (x : Int32) : f_Rows_open R x w = some (nI n, jrow w R W n x) := by
  have hk := r_cell h hn (show 0 < W by have := h.2.2.2.2.2.1; omega)
  obtain ⟨h0, h2, hn', hr, hl, h1, h12, hc, hcw⟩ := h
  have hm := Nat.mul_le_mul_right W (show n + 1 ≤ cap by omega)
  rw [Nat.succ_mul] at hm
  rw [f_Rows_open, h0, h2, hr, hl]
  simp (disch := omega) only [nI_lit, nI_rfl, nI_add, nI_mul, nI_ltI, nI_leI]
  rw [if_neg (by omega), if_pos hm]
  rw [r_open_h (W' := 0) (W - 1) 1 jfu w x h0 h2 hr (by omega) (by omega) (by omega) (by omega) h12 (by unfold jfu; omega)]
  congr 2
  refine Prod.ext (funext fun b => funext fun j => ?_) rfl
  dsimp only [jrow]
  by_cases c1 : b = R ∧ j = 2
  · rw [if_pos c1, if_pos c1]
  · rw [if_neg c1, if_neg c1]
    by_cases c2 : b = R + 1 ∧ j = n * W
    · rw [if_pos c2, if_pos (by omega), if_pos c2.2]
    · rw [if_neg c2]
      by_cases c3 : b = R + 1 ∧ n * W + 1 ≤ j ∧ j < n * W + W
      · rw [if_pos c3, if_pos (by omega), if_neg (by omega)]
      · rw [if_neg c3, if_neg (by omega)]
end RB


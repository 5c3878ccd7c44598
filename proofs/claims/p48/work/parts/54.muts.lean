/-! LAYER B: pictures; things made -/
section Q4
variable {w v : jW} {A : Nat → Int32} {c ci : Nat → Nat} {K : Nat}

/-- how many of the first n things are at x and long enough to be seen -/
def nlg (A : Nat → Int32) (c : Nat → Nat) (x d : Int32) : Nat → Nat
  | 0 => 0
  | n + 1 => nlg A c x d n + if mwh A (c 4) n d = x ∧ ¬ A (240 + 12 * n + 1) < A 16 then 1 else 0
theorem nlg_le {x d : Int32} : ∀ n, nlg A c x d n ≤ n := by
  intro n
  induction n with
  | zero => exact Nat.le_refl _
  | succ n ih => rw [nlg]; split <;> omega
theorem c_large_h (H : RA w 3 A c K) {x d : Int32} : ∀ (m k f : Nat), k + m = c 3 → m < f → f_State_numberLarge_h5 f x d (nI (nlg A c x d k)) (nI k) w = some (nI (nlg A c x d (c 3)), w) := by
  have l3 := l_3 H
  have es : w.1 3 3 = A 16 := (p_Rscal H).2.2.2.1
  intro m
  induction m with
  | zero =>
    intro k f hk hf
    obtain ⟨f, rfl⟩ : ∃ j, f = j + 1 := ⟨f - 1, by omega⟩
    rw [f_State_numberLarge_h5, n_th H, ob]
    dsimp only
    rw [if_neg (nI_nlt (by omega) (by omega)), show k = c 3 by omega]
  | succ m ih =>
    intro k f hk hf
    obtain ⟨f, rfl⟩ : ∃ j, f = j + 1 := ⟨f - 1, by omega⟩
    have ih' := ih (k + 1) f (by omega) (by omega)
    rw [nlg] at ih'
    rw [f_State_numberLarge_h5, n_th H, ob]
    dsimp only
    rw [if_pos (nI_lt (by omega) (by omega)), a_th1 H (by omega), ob]
    dsimp only
    rw [es, ip_1, ip_1]
    by_cases q1 : A (240 + 12 * k + 1) < A 16
    · rw [if_neg (fun z => z.2 q1)] at ih'
      rw [if_pos q1]; exact ih'
    · rw [if_neg q1, c_pl H (by omega), ob]
      dsimp only
      by_cases q2 : mwh A (c 4) k d = x
      · rw [if_pos ⟨q2, q1⟩] at ih'
        rw [if_pos q2]; exact ih'
      · rw [if_neg (fun z => q2 z.1)] at ih'
        rw [if_neg q2]; exact ih'
theorem c_large (H : RA w 3 A c K) {x d : Int32} : f_State_numberLarge x d w = some (nI (nlg A c x d (c 3)), w) := by
  rw [f_State_numberLarge]
  exact c_large_h H (c 3) 0 jfu (by omega) (by have := l_3 H; unfold jfu; omega)
/-- the reference's picture behind its count -/
def pcw (w : jW) (n : Nat) (x y z : Int32) : jW := (jup (jup (jup (jup w.1 94 (12480 + 4 * n) x) 94 (12480 + 4 * n + 1) y) 94 (12480 + 4 * n + 2) z) 94 9 (nI (n + 1)), w.2)
/-- a call on both sides, what the class does leaves the reference's array -/
def Cal2 {α : Type} (w : jW) (K : Nat) (C M : jW → Option (α × jW)) : Prop := ∃ x w1 w2 c ci, C w = some (x, w1) ∧ M w1 = some (x, w2) ∧ Inv w2 c ci K ∧ w1.1 94 = w.1 94
theorem Cal_of2 {α : Type} {C M C' M' : jW → Option (α × jW)} (h : Cal2 w K C' M') (hC : C w = C' w) (hM : ∀ v, v.1 94 = w.1 94 → M v = M' v) : Cal w K C M := by
  obtain ⟨x, w1, w2, c, ci, h1, h2, h3, h4⟩ := h
  exact ⟨x, w1, w2, c, ci, hC.trans h1, (hM w1 h4).trans h2, h3⟩
end Q4


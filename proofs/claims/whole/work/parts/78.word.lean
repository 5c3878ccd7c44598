/-! LAYER B: words packed and words listed -/
section WD
variable {w v z0 : jW} {P : Nat → Int32} {n : Nat}
def pkN : Nat → List Nat → Nat
  | x, [] => x
  | x, a :: l => pkN (x * 256 + a) l
theorem pkN_app : ∀ (l : List Nat) x a, pkN x (l ++ [a]) = pkN x l * 256 + a := by
  intro l
  induction l with
  | nil => intro x a; rfl
  | cons b l ih => intro x a; exact ih (x * 256 + b) a
theorem pkN_inj : ∀ (k : Nat) (l m : List Nat), l.length ≤ k → (∀ a ∈ l, 1 ≤ a ∧ a ≤ 255) → (∀ a ∈ m, 1 ≤ a ∧ a ≤ 255) → pkN 0 l = pkN 0 m → l = m := by
  intro k
  induction k with
  | zero =>
    intro l m hl _ hm h
    have : l = [] := List.eq_nil_of_length_eq_zero (by omega)
    subst this
    rcases List.eq_nil_or_concat m with rfl | ⟨m', b, rfl⟩
    · rfl
    · rw [List.concat_eq_append, pkN_app] at h
      have := hm b (by simp)
      have : pkN 0 [] = 0 := rfl
      omega
  | succ k ih =>
    intro l m hl h1 hm h
    rcases List.eq_nil_or_concat l with rfl | ⟨l', a, rfl⟩
    · rcases List.eq_nil_or_concat m with rfl | ⟨m', b, rfl⟩
      · rfl
      · rw [List.concat_eq_append, pkN_app] at h
        have := hm b (by simp)
        have : pkN 0 [] = 0 := rfl
        omega
    · rw [List.concat_eq_append] at *
      have ha := h1 a (by simp)
      rcases List.eq_nil_or_concat m with rfl | ⟨m', b, rfl⟩
      · rw [pkN_app] at h
        have : pkN 0 [] = 0 := rfl
        omega
      · rw [List.concat_eq_append] at *
        have hb := hm b (by simp)
        rw [pkN_app, pkN_app] at h
        have e1 : a = b := by omega
        have e2 : pkN 0 l' = pkN 0 m' := by omega
        rw [List.length_append, List.length_singleton] at hl
        rw [e1, ih l' m' (by omega) (fun x hx => h1 x (by simp [hx])) (fun x hx => hm x (by simp [hx])) e2]
theorem pkN_lt : ∀ (l : List Nat) x, (∀ a ∈ l, a ≤ 255) → pkN x l < (x + 1) * 256 ^ l.length := by
  intro l
  induction l with
  | nil => intro x _; simp [pkN]
  | cons a l ih =>
    intro x h
    have ha := h a (by simp)
    have := ih (x * 256 + a) (fun y hy => h y (by simp [hy]))
    rw [pkN, List.length_cons, Nat.pow_succ, Nat.mul_comm (256 ^ l.length) 256, ← Nat.mul_assoc]
    refine Nat.lt_of_lt_of_le this (Nat.mul_le_mul_right _ ?_)
    omega
theorem lN_sh {x a : Nat} (hx : x < 2 ^ 40) (ha : a < 256) : (lN x <<< (Int32.toInt64 8 &&& 63)) ||| Int32.toInt64 (nI a) = lN (x * 256 + a) := by
  rw [nI_l (by omega)]
  apply Int64.toBitVec_inj.mp
  have e1 : (lN x <<< (Int32.toInt64 8 &&& 63)).toBitVec = (lN x).toBitVec <<< 8 := rfl
  have e2 : ∀ y, (lN y).toBitVec = BitVec.ofNat 64 y := fun y => rfl
  rw [Int64.toBitVec_or, e1, e2, e2, e2]
  apply BitVec.eq_of_toNat_eq
  simp only [BitVec.toNat_or, BitVec.toNat_shiftLeft, BitVec.toNat_ofNat]
  have h1 : x % 2 ^ 64 = x := Nat.mod_eq_of_lt (by omega)
  have h2 : a % 2 ^ 64 = a := Nat.mod_eq_of_lt (by omega)
  have h3 : (x * 256 + a) % 2 ^ 64 = x * 256 + a := Nat.mod_eq_of_lt (by omega)
  have h4 : (x <<< 8) % 2 ^ 64 = x <<< 8 := Nat.mod_eq_of_lt (by rw [Nat.shiftLeft_eq]; omega)
  rw [h1, h2, h3, h4, ← Nat.shiftLeft_add_eq_or_of_lt (show a < 2 ^ 8 by omega), Nat.shiftLeft_eq]
/-- the letters from p on -/
def ltF (P : Nat → Int32) (n : Nat) : Nat → Nat → List Nat
  | 0, _ => []
  | m + 1, p => if ltB (svF P n p) = true then (svF P n p).toNatClampNeg :: ltF P n m (p + 1) else []
theorem lt_n {x : Int32} (h : ltB x = true) : ∃ a, x = nI a ∧ 65 ≤ a ∧ a ≤ 122 := by
  unfold ltB at h
  rw [Bool.or_eq_true, decide_eq_true_iff, decide_eq_true_iff] at h
  rcases h with h | h
  · obtain ⟨b, b1, b2⟩ := rngle (n := 122) (x := x) (by omega) ⟨fun z => h.1 (Int32.lt_trans z (by decide)), h.2⟩
    have : ¬ b < 97 := fun z => h.1 (by rw [b2]; exact nI_lt (b := 97) z (by omega))
    exact ⟨b, b2, by omega, b1⟩
  · obtain ⟨b, b1, b2⟩ := rngle (n := 90) (x := x) (by omega) ⟨fun z => h.1 (Int32.lt_trans z (by decide)), h.2⟩
    have : ¬ b < 65 := fun z => h.1 (by rw [b2]; exact nI_lt (b := 65) z (by omega))
    exact ⟨b, b2, by omega, by omega⟩
theorem ltF_r : ∀ m p, ∀ a ∈ ltF P n m p, 1 ≤ a ∧ a ≤ 255 := by
  intro m
  induction m with
  | zero => intro p a h; exact absurd h (by simp [ltF])
  | succ m ih =>
    intro p a h
    rw [ltF] at h
    split at h
    · rename_i q
      obtain ⟨b, b1, b2, b3⟩ := lt_n q
      rcases List.mem_cons.mp h with h | h
      · rw [h, b1, nI_clamp (by omega)]; omega
      · exact ih (p + 1) a h
    · exact absurd h (by simp)
theorem wdF_pk {s : Nat} : ∀ m p (k : Nat), s ≤ p → (p - s ≤ 6 → k < 256 ^ (p - s)) → wdF P n s m p (lN k) = if p - s + (ltF P n m p).length ≤ 6 then lN (pkN k (ltF P n m p)) else 0 := by
  intro m
  induction m with
  | zero => intro p k hp hk; rw [wdF, ltF]; rfl
  | succ m ih =>
    intro p k hp hk
    rw [wdF, ltF]
    by_cases q : ltB (svF P n p) = true
    rotate_left
    · rw [if_neg q, if_neg q]; rfl
    obtain ⟨b, b1, b2, b3⟩ := lt_n q
    rw [if_pos q, if_pos q, b1, nI_clamp (by omega), List.length_cons, pkN]
    by_cases g : p - s < 6
    · have h5 : 256 ^ (p - s) ≤ 256 ^ 5 := Nat.pow_le_pow_right (by omega) (by omega)
      have hk' := hk (by omega)
      rw [if_pos g, lN_sh (by omega) (by omega), ih (p + 1) _ (by omega) (fun _ => ?_), show p + 1 - s + (ltF P n m (p + 1)).length = p - s + ((ltF P n m (p + 1)).length + 1) by omega]
      rw [show p + 1 - s = (p - s) + 1 by omega, Nat.pow_succ]; omega
    · rw [if_neg g, ih (p + 1) k (by omega) (fun z => by omega), if_neg (by omega), if_neg (by omega)]
end WD

/-! LAYER B: ways told, sites, moves -/
section Q5
variable {w v : jW} {A : Nat → Int32} {c ci : Nat → Nat} {K : Nat}

theorem Inv_of2 {w' : jW} {c' : Nat → Nat} {K' : Nat} (h : Inv w c ci K) (hKK : K ≤ K') (he : ∀ b, 38 ≤ b → b ≠ 94 → sc b = false → w'.1 b = w.1 b) (h93 : ∀ j, j = 4 ∨ j = 5 ∨ j = 6 → w'.1 93 j = w.1 93 j) (H : RA w' 3 (w'.1 94) c' K') : Inv w' c' ci K' := by
  obtain ⟨h1, h2, h3, h4⟩ := h
  have ns : ∀ b, (38 ≤ b ∧ b < 83) ∨ b = 95 ∨ b = 97 → w'.1 b = w.1 b := fun b hb => he b (by omega) (by omega) (by unfold sc; simp; omega)
  refine ⟨H, ?_, Rtp_fr h3 (fun b _ _ => ns b (by omega)) (h93 4 (by omega)) (ns 97 (by omega)), Rft_fr h4 (ns 73 (by omega)) (h93 5 (by omega)) (h93 6 (by omega))⟩
  rw [ns 95 (by omega)]
  exact RA_38 (RA_K h2 (Or.inr rfl) hKK (l_K H).2) (fun b _ _ => ns b (by omega))
theorem Cal_g {α : Type} {x : α} {C M : jW → Option (α × jW)} (h : Inv w c ci K) (hK : K < 512) (hC : C w = some (x, w)) (hM : ∃ v, M w = some (x, v) ∧ Sq v w) : Cal w (K + 1) C M := by
  obtain ⟨v, h1, h2⟩ := hM
  exact ⟨x, w, v, c, ci, hC, h1, Inv_K (Inv_sq h h2) (by omega) (by omega)⟩
theorem Wk_0 {nr i : Nat} : ∀ n y l, Wk A nr i n y l → n ≤ l := by
  intro n
  induction n with
  | zero => intro y l _; exact Nat.zero_le _
  | succ n ih =>
    rintro y l ⟨x, r, d, l', h1, h2, h3, h4, h5, h6, h7, h8⟩
    have := ih x l' h8
    omega
theorem Dis_self {nr i : Nat} {x : Int32} (h : Dis A nr i i x) : x = 0 := by
  rcases h with ⟨h1, h2⟩ | ⟨l, h1, h2, h3, h4⟩
  · exact absurd ⟨rfl, rfl⟩ (h2 0 0)
  · have := h4 0 0 ⟨rfl, rfl⟩
    rw [h1, show l = 0 by omega]; rfl
theorem Dis_pos {nr i j : Nat} {x : Int32} (h : Dis A nr i j x) (hij : j ≠ i) : x = -1 ∨ ∃ l, 1 ≤ l ∧ l ≤ 540 ∧ x = nI l := by
  rcases h with ⟨h1, h2⟩ | ⟨l, h1, h2, ⟨n, h3⟩, h4⟩
  · exact Or.inl h1
  · refine Or.inr ⟨l, ?_, h2, h1⟩
    cases n with
    | zero => exact absurd h3.1 hij
    | succ n => have := Wk_0 _ _ _ h3; omega
theorem Dis_un {nr i j : Nat} {x x' : Int32} (h : Dis A nr i j x) (h' : Dis A nr i j x') : x = x' := Dq_un (Dis_q.mp h) (Dis_q.mp h')
theorem Dis_far {nr ns i j : Nat} {x : Int32} (hr : Iroad A nr ns) (hns : ns ≤ 10) (hi : i < ns) (hj : ns ≤ j) (h : Dis A nr i j x) : x = -1 := by
  rcases h with ⟨h1, h2⟩ | ⟨l, h1, h2, ⟨n, h3⟩, h4⟩
  · exact h1
  · cases n with
    | zero => have := h3.1; omega
    | succ n => have := Wk_new hr hns n l h3; omega
theorem Wk_land {nr ns i : Nat} (hr : Iroad A nr ns) (hns : ns ≤ 10) (hi : i < 10) : ∀ n y l, Wk A nr i n y l → A (40 + 8 * y) = A (40 + 8 * i) := by
  intro n
  induction n with
  | zero => intro y l h; rw [h.1]
  | succ n ih =>
    rintro y l ⟨x, r, d, l', h1, h2, h3, h4, h5, h6, h7, h8⟩
    rw [← ih x l' h8]
    obtain ⟨x1, y1, d1, g1, g2, g3, g4, g5, g6, g7, g8, g9⟩ := hr r h1
    rcases h6.2 with ⟨q1, q2⟩ | ⟨q1, q2⟩
    · have e1 := (nI_eq (by omega) (by omega)).mp (g1.symm.trans q1)
      have e2 := (nI_eq (by omega) (by omega)).mp (g2.symm.trans q2)
      rw [← e1, ← e2]; exact g9.symm
    · have e1 := (nI_eq (by omega) (by omega)).mp (g1.symm.trans q1)
      have e2 := (nI_eq (by omega) (by omega)).mp (g2.symm.trans q2)
      rw [← e1, ← e2]; exact g9
theorem msc_land (H : RA w 3 A c K) {t : Nat} {d : Int32} (ht : t < c 3) : ∀ m k at_, k + m ≤ c 4 → (∀ p, p < c 1 → at_ = nI p → A (40 + 8 * p) = A (240 + 12 * t + 3)) → ∀ p, p < c 1 → msc A t d m k at_ = nI p → A (40 + 8 * p) = A (240 + 12 * t + 3) := by
  have l1 := l_1 H
  have l3 := l_3 H
  intro m
  induction m with
  | zero => intro k at_ _ h p hp e; exact h p hp e
  | succ m ih =>
    intro k at_ hk h p hp e
    rw [msc] at e
    refine ih (k + 1) _ (by omega) (fun p' hp' e' => ?_) p hp e
    by_cases q : A (720 + 8 * k) = nI t ∧ A (720 + 8 * k + 1) ≤ d
    · rw [if_pos q] at e'
      by_cases q2 : d < A (720 + 8 * k + 4)
      · rw [if_pos q2] at e'
        have := (nI_eq (a := 100) (by omega) (by omega)).mp e'
        omega
      · rw [if_neg q2] at e'
        obtain ⟨t1, x, y, d1, e1, h1, h2, h3, h4, h5, h6, h7, h8, h9, h10, h11, h12⟩ := p_Imove H k (by omega)
        have a1 := (nI_eq (by omega) (by omega)).mp (h1.symm.trans q.1)
        have a2 := (nI_eq (by omega) (by omega)).mp (h4.symm.trans e')
        subst a1; subst a2
        exact h12
    · rw [if_neg q] at e'
      exact h p' hp' e'
theorem mwh_land (H : RA w 3 A c K) {t p : Nat} {d : Int32} (ht : t < c 3) (e : mwh A (c 4) t d = nI p) (hp : p < c 1) : A (40 + 8 * p) = A (240 + 12 * t + 3) := by
  have l1 := l_1 H
  obtain ⟨sx, th1, th2, th3, -⟩ := (p_Ithing H).1 t ht
  rw [mwh] at e
  split at e
  · have := (nI_eq (a := 102) (by omega) (by omega)).mp e
    omega
  · split at e
    · have := (nI_eq (a := 101) (by omega) (by omega)).mp e
      omega
    · refine msc_land H ht (c 4) 0 _ (by omega) (fun p' hp' e' => ?_) p hp e
      have := (nI_eq (by omega) (by omega)).mp (th1.symm.trans e')
      subst this
      exact th3.symm
/-- what the class has as the way between any two -/
theorem c_way (H : RA w 3 A c K) (x y : Int32) : ∃ z, f_Rows_at 8 x y w = some (z, w) ∧ ((∃ i j, i < c 1 ∧ j < c 1 ∧ x = nI i ∧ y = nI j ∧ Dis A (c 2) i j z) ∨ (¬ ((¬ x < 0 ∧ x < nI (c 1)) ∧ (¬ y < 0 ∧ y < nI (c 1))) ∧ z = -1)) := by
  have l1 := l_1 H
  have J := (p_Rway H).1
  by_cases g1 : ¬ x < 0 ∧ x < nI (c 1)
  · obtain ⟨i, hi, rfl⟩ := rng (by omega) g1
    by_cases g2 : ¬ y < 0 ∧ y < nI 10
    · obtain ⟨j, hj, rfl⟩ := rng (by omega) g2
      have D := (p_Rway H).2 i j hi hj
      refine ⟨_, r_at J hi hj, ?_⟩
      by_cases g3 : j < c 1
      · exact Or.inl ⟨i, j, hi, g3, rfl, rfl, D⟩
      · refine Or.inr ⟨fun z => g3 ((nI_ltI (by omega) (by omega)).mp z.2.2), ?_⟩
        exact Dis_far (p_Iroad H) l1 hi (by omega) D
    · refine ⟨-1, r_at_col J (rng_n g2), Or.inr ⟨fun z => g2 ⟨z.2.1, Int32.lt_of_lt_of_le z.2.2 (nI_le (by omega) (by omega))⟩, rfl⟩⟩
  · exact ⟨-1, r_at_row J (rng_n g1), Or.inr ⟨fun z => g1 z.1, rfl⟩⟩
theorem Wq_cg {E E' : Nat → Nat → Nat → Prop} {i : Nat} (h : ∀ x y d, E x y d ↔ E' x y d) (n y l : Nat) : Wq E i n y l ↔ Wq E' i n y l := ⟨Wq_mono (fun x y d q => (h x y d).mp q) n y l, Wq_mono (fun x y d q => (h x y d).mpr q) n y l⟩
theorem Dq_cg {E E' : Nat → Nat → Nat → Prop} {i y : Nat} {x : Int32} (h : ∀ x y d, E x y d ↔ E' x y d) (g : Dq E i y x) : Dq E' i y x := by
  unfold Dq at *
  simp only [Wq_cg h] at g
  exact g

end Q5


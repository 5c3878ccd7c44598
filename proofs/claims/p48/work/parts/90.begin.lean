/-! LAYER C of p48: ways are compared, sorts are set; what holds while acts are done -/
section C6
variable {w v : jW} {A A' : Nat → Int32} {c c' : Nat → Nat} {K : Nat} {xs : Nat → Int32} {Ls : Nat}
def SO (A : Nat → Int32) : Prop := A 20 = 10 ∧ A 21 = 30 ∧ A 22 = 10 ∧ A 23 = 60 ∧ A 24 = 25 ∧ A 25 = 45 ∧ A 26 = 50 ∧ A 27 = 100 ∧ A 28 = 100 ∧ A 29 = 120 ∧ A 30 = 300 ∧ A 31 = 400
def WY (w : jW) (A : Nat → Int32) (c : Nat → Nat) : Prop := ∃ W, wayW w W ∧ ∀ a b, a < 5 → b < 5 → (W a b = 999 ∧ Dis A (c 2) a b (-1)) ∨ (W a b ≤ 288 ∧ Dis A (c 2) a b (nI (W a b)))
def LL (w : jW) : Prop := w.1 96 0 = 10 ∧ w.1 96 1 = 25 ∧ w.1 96 2 = 100 ∧ w.1 97 0 = 10 ∧ w.1 97 1 = 50 ∧ w.1 97 2 = 300
def HSt (A : Nat → Int32) (c : Nat → Nat) : Prop := ∀ t, t < c 3 → ∃ n, A (240 + 12 * t + 6) = nI n ∧ n ≤ 3 ∧ (A (240 + 12 * t + 7) = -1 → n ≤ 2)
/-- what a call does not touch -/
def CZ (c : Nat → Nat) (k : Nat) : Prop := c 1 = 5 ∧ c 6 = 0 ∧ c 7 = 0 ∧ c 10 = 0 ∧ c 12 = 0 ∧ c 13 = 0 ∧ c 0 ≤ 4 * k ∧ c 3 ≤ 8 ∧ c 4 ≤ 16 ∧ c 5 ≤ 8 ∧ c 8 ≤ k ∧ c 9 ≤ k ∧ c 2 ≤ 6
def LI (w : jW) (A : Nat → Int32) (c : Nat → Nat) (K k : Nat) : Prop := RA w 3 A c K ∧ (K ≤ 15 + k ∧ k ≤ 40) ∧ CZ c k ∧ Par A ∧ SO A ∧ STe w A 5 ∧ WY w A c ∧ LL w ∧ SYt w A c ∧ SYm w A c ∧ SYs w A c ∧ HI A c ∧ HSt A c
theorem Dis_cg {nr i y : Nat} {x : Int32} (h : ∀ r, r < nr → A' (120 + 4 * r) = A (120 + 4 * r) ∧ A' (120 + 4 * r + 1) = A (120 + 4 * r + 1) ∧ A' (120 + 4 * r + 2) = A (120 + 4 * r + 2)) (D : Dis A nr i y x) : Dis A' nr i y x := by
  have f : ∀ n y l, Wk A nr i n y l → Wk A' nr i n y l := Wk_mono h (Nat.le_refl _)
  have g : ∀ n y l, Wk A' nr i n y l → Wk A nr i n y l := Wk_mono (fun r hr => ⟨(h r hr).1.symm, (h r hr).2.1.symm, (h r hr).2.2.symm⟩) (Nat.le_refl _)
  rcases D with ⟨d1, d2⟩ | ⟨l, d1, d2, ⟨n, d3⟩, d4⟩
  · exact Or.inl ⟨d1, fun n l q => d2 n l (g n y l q)⟩
  · exact Or.inr ⟨l, d1, d2, ⟨n, f n y l d3⟩, fun n l' q => d4 n l' (g n y l' q)⟩
theorem STe_k (h : STe w A 5) (kp : Kp v w) (hA : ∀ i, i < 5 → ∀ j, j < 3 → A' (40 + 8 * i + j) = A (40 + 8 * i + j)) : STe v A' 5 := fun i hi => by
  obtain ⟨s1, s2, s3⟩ := h i hi
  rw [show A' (40 + 8 * i) = A (40 + 8 * i) from hA i hi 0 (by omega), hA i hi 1 (by omega), hA i hi 2 (by omega), kp 94 (by omega), kp 93 (by omega)]
  exact ⟨s1, s2, s3⟩
theorem WY_k (h : WY w A c) (kp : v.1 95 = w.1 95) (h2 : c' 2 = c 2) (hA : ∀ r, r < c 2 → A' (120 + 4 * r) = A (120 + 4 * r) ∧ A' (120 + 4 * r + 1) = A (120 + 4 * r + 1) ∧ A' (120 + 4 * r + 2) = A (120 + 4 * r + 2)) : WY v A' c' := by
  obtain ⟨W, h1, h3⟩ := h
  refine ⟨W, fun a b ha hb => by rw [kp]; exact h1 a b ha hb, fun a b ha hb => ?_⟩
  rw [h2]
  exact (h3 a b ha hb).imp (fun q => ⟨q.1, Dis_cg hA q.2⟩) (fun q => ⟨q.1, Dis_cg hA q.2⟩)
theorem LL_k (h : LL w) (h96 : v.1 96 = w.1 96) (h97 : v.1 97 = w.1 97) : LL v := by
  unfold LL at *
  rw [h96, h97]; exact h
theorem jzr_fn {a b : Nat} (h : b ≠ a) : (jzr w a).1 b = w.1 b := funext fun j => if_neg h
theorem l_419 {K380 : Int32 → jW → Option (Int32 × jW)} {k : Nat} {x : Int32} : f_Law_law_j419 xs Ls K380 (nI k) x x w = K380 (nI (k + 1)) w := by
  rw [f_Law_law_j419, if_pos rfl, ip_1]
/-- the calls of sorts, the rows of their least and lightest -/
theorem l_tail {r : Nat} {W : Nat → Nat → Nat} (hK : K ≤ 11) (hr : r ≤ 6) (H : RA w 3 A c K ∧ c 1 = 5 ∧ c 2 = r ∧ cnt0 c ∧ Par A ∧ STe w A 5 ∧ wayW w W ∧ ∀ a b, a < 5 → b < 5 → (W a b = 999 ∧ Dis A (c 2) a b (-1)) ∨ (W a b ≤ 288 ∧ Dis A (c 2) a b (nI (W a b)))) (next : ∀ w A c K, LI w A c K 0 → c 3 = 0 → c 4 = 0 → c 5 = 0 → Fin1 (f_Law_law_h573 xs Ls jfu 0 0 0 0 w)) {f : Nat} : Fin1 (f_Law_law_h380 xs Ls (f + 1) (nI 25) w) := by
  obtain ⟨R, h1, h2, ⟨z0, z3, z4, z5, z6, z7, z8, z9, z10, z12, z13⟩, ⟨p1, p2, p3⟩, hS, hW, hD⟩ := H
  have le0 : nI (c 3) ≤ 0 := by rw [z3]; decide
  obtain ⟨v1, A1, a1, a2, a3, a4, a5, a6, a7, a8⟩ := s_sort R (by omega) (s := 0) (x2 := 10) (x3 := 30) (x4 := 10) (x5 := 60) (by omega) (by decide) (by decide) (by decide) (by decide) (by decide) (by decide) le0
  obtain ⟨v2, A2, b1, b2, b3, b4, b5, b6, b7, b8⟩ := s_sort a3 (by omega) (s := 1) (x2 := 25) (x3 := 45) (x4 := 50) (x5 := 100) (by omega) (by decide) (by decide) (by decide) (by decide) (by decide) (by decide) le0
  obtain ⟨v3, A3, c1, c2, c3, c4, c5, c6, c7, c8⟩ := s_sort b3 (by omega) (s := 2) (x2 := 100) (x3 := 120) (x4 := 300) (x5 := 400) (by omega) (by decide) (by decide) (by decide) (by decide) (by decide) (by decide) le0
  obtain ⟨v4, A4, d1, d2, d3, d4, d5, d6, d7, d8⟩ := s_sort c3 (by omega) (s := 3) (x2 := 190) (x3 := 200) (x4 := 480) (x5 := 500) (by omega) (by decide) (by decide) (by decide) (by decide) (by decide) (by decide) le0
  have a1' : f_Count_sort 0 10 30 10 60 w = some (1, v1) := a1
  have b1' : f_Count_sort 1 25 45 50 100 v1 = some (1, v2) := b1
  have c1' : f_Count_sort 2 100 120 300 400 v2 = some (1, v3) := c1
  have d1' : f_Count_sort 3 190 200 480 500 v3 = some (1, v4) := d1
  rw [f_Law_law_h380, if_neg (by decide), a1', ob]
  dsimp only
  rw [if_neg one_ne, b1', ob]
  dsimp only
  rw [if_neg one_ne, c1', ob]
  dsimp only
  rw [if_neg one_ne, d1', ob]
  dsimp only
  rw [if_neg one_ne]
  simp only [jlw_e, show jal [jin 0 3] = true from by decide, show jal [jin 1 3] = true from by decide, show jal [jin 2 3] = true from by decide, if_true]
  rw [show Int32.toNatClampNeg 0 = 0 from rfl, show Int32.toNatClampNeg 1 = 1 from rfl, show Int32.toNatClampNeg 2 = 2 from rfl]
  have eA : ∀ k, k < 21000 → ¬ (20 ≤ k ∧ k < 36) → A4 k = A k := fun k h1 h2 => by
    rw [d8 k h1 (by omega), c8 k h1 (by omega), b8 k h1 (by omega), a8 k h1 (by omega)]
  have kp : Kp v4 w := Kp_t d2 (Kp_t c2 (Kp_t b2 a2))
  generalize hu : jzr (jzr (jzr _ 98) 99) 100 = u
  have ue : ∀ b j, b < 93 ∨ b = 93 ∨ b = 94 ∨ b = 95 → u.1 b j = v4.1 b j := fun b j hb => by
    rw [← hu, jzr_fn (by omega), jzr_fn (by omega), jzr_fn (by omega)]
    dsimp only
    rw [jup_fn (by omega), jup_fn (by omega), jup_fn (by omega), jzr_fn (by omega)]
    dsimp only
    rw [jup_fn (by omega), jup_fn (by omega), jup_fn (by omega), jzr_fn (by omega)]
  have u96 : ∀ j, u.1 96 j = if j = 2 then 100 else if j = 1 then 25 else if j = 0 then 10 else 0 := fun j => by
    rw [← hu]
    simp only [jzr, jup_ap]
    simp
  have u97 : ∀ j, u.1 97 j = if j = 2 then 300 else if j = 1 then 50 else if j = 0 then 10 else 0 := fun j => by
    rw [← hu]
    simp only [jzr, jup_ap]
    simp
  have vac : ∀ {p : Nat → Prop} {i : Nat}, c i = 0 → ∀ t, t < c i → p t := fun h t ht => by omega
  refine next u A4 c (K + 1 + 1 + 1 + 1) ⟨RA_hi d3 (fun b hb => funext fun j => ue b j (by omega)), ⟨by omega, by omega⟩, ⟨h1, z6, z7, z10, z12, z13, by omega, by omega, by omega, by omega, by omega, by omega, by omega⟩, ⟨?_, ?_, ?_⟩, ⟨?_, ?_, ?_, ?_, ?_, ?_, ?_, ?_, ?_, ?_, ?_, ?_⟩, fun i hi => ?_, ⟨W, fun a b ha hb => ?_, fun a b ha hb => ?_⟩, ⟨u96 0, u96 1, u96 2, u97 0, u97 1, u97 2⟩, fun t ht => by omega, fun t ht => by omega, fun t ht => by omega, ⟨⟨by omega, by omega, by omega, by omega, by omega, by omega⟩, fun t ht => by omega, fun t ht => by omega, fun t ht => by omega, fun t ht => by omega, fun t ht => by omega⟩, fun t ht => by omega⟩ z3 z4 z5
  · rw [eA 14 (by omega) (by omega)]; exact p1
  · rw [eA 15 (by omega) (by omega)]; exact p2
  · rw [eA 16 (by omega) (by omega)]; exact p3
  · rw [d8 20 (by omega) (by omega), c8 20 (by omega) (by omega), b8 20 (by omega) (by omega)]; exact a4
  · rw [d8 21 (by omega) (by omega), c8 21 (by omega) (by omega), b8 21 (by omega) (by omega)]; exact a5
  · rw [d8 22 (by omega) (by omega), c8 22 (by omega) (by omega), b8 22 (by omega) (by omega)]; exact a6
  · rw [d8 23 (by omega) (by omega), c8 23 (by omega) (by omega), b8 23 (by omega) (by omega)]; exact a7
  · rw [d8 24 (by omega) (by omega), c8 24 (by omega) (by omega)]; exact b4
  · rw [d8 25 (by omega) (by omega), c8 25 (by omega) (by omega)]; exact b5
  · rw [d8 26 (by omega) (by omega), c8 26 (by omega) (by omega)]; exact b6
  · rw [d8 27 (by omega) (by omega), c8 27 (by omega) (by omega)]; exact b7
  · rw [d8 28 (by omega) (by omega)]; exact c4
  · rw [d8 29 (by omega) (by omega)]; exact c5
  · rw [d8 30 (by omega) (by omega)]; exact c6
  · rw [d8 31 (by omega) (by omega)]; exact c7
  · obtain ⟨s1, s2, s3⟩ := hS i hi
    rw [eA _ (by omega) (by omega), eA _ (by omega) (by omega), eA _ (by omega) (by omega), ue 94 i (by omega), ue 93 i (by omega), kp 94 (by omega), kp 93 (by omega)]
    exact ⟨s1, s2, s3⟩
  · rw [ue 95 _ (by omega), kp 95 (by omega)]; exact hW a b ha hb
  · have hr' : ∀ r, r < c 2 → A4 (120 + 4 * r) = A (120 + 4 * r) ∧ A4 (120 + 4 * r + 1) = A (120 + 4 * r + 1) ∧ A4 (120 + 4 * r + 2) = A (120 + 4 * r + 2) := fun r hr => ⟨eA _ (by omega) (by omega), eA _ (by omega) (by omega), eA _ (by omega) (by omega)⟩
    exact (hD a b ha hb).imp (fun q => ⟨q.1, Dis_cg hr' q.2⟩) (fun q => ⟨q.1, Dis_cg hr' q.2⟩)
theorem l_380 {r : Nat} {W : Nat → Nat → Nat} (hK : K ≤ 11) (hr : r ≤ 6) (H : RA w 3 A c K ∧ c 1 = 5 ∧ c 2 = r ∧ cnt0 c ∧ Par A ∧ STe w A 5 ∧ wayW w W ∧ ∀ a b, a < 5 → b < 5 → (W a b = 999 ∧ Dis A (c 2) a b (-1)) ∨ (W a b ≤ 288 ∧ Dis A (c 2) a b (nI (W a b)))) (next : ∀ w A c K, LI w A c K 0 → c 3 = 0 → c 4 = 0 → c 5 = 0 → Fin1 (f_Law_law_h573 xs Ls jfu 0 0 0 0 w)) : ∀ m k f, k + m = 25 → m < f → Fin1 (f_Law_law_h380 xs Ls f (nI k) w) := by
  intro m
  induction m with
  | zero =>
    intro k f hk hf
    obtain ⟨f, rfl⟩ : ∃ j, f = j + 1 := ⟨f - 1, by omega⟩
    obtain rfl : k = 25 := by omega
    exact l_tail hK hr H next
  | succ m ih =>
    intro k f hk hf
    obtain ⟨f, rfl⟩ : ∃ j, f = j + 1 := ⟨f - 1, by omega⟩
    have H0 := H
    obtain ⟨R, h1, h2, h3, h4, hS, hW, hD⟩ := H0
    have ed : nI k / 5 = nI (k / 5) := nI_div (b := 5) (by omega) (by omega)
    have er : nI k - nI (k / 5) * 5 = nI (k % 5) := by
      have q := nI_rem (a := k) (b := 5) (by omega) (by omega)
      rw [← ed]; exact q
    obtain ⟨z, e1, D⟩ := s_way R (i := k / 5) (j := k % 5) (by omega) (by omega)
    have ew : w.1 95 k = nI (W (k / 5) (k % 5)) := by
      have q := hW (k / 5) (k % 5) (by omega) (by omega)
      rw [show 5 * (k / 5) + k % 5 = k by omega] at q
      exact q
    have g1 : jal [jin (nI k) 25] = true := by rw [jal_c, jal_n, jin_nI (by omega) (by omega)]; rfl
    rw [f_Law_law_h380, if_pos (show nI k < 25 from nI_lt (b := 25) (by omega) (by omega)), if_pos (by decide), ed, er, e1, ob]
    dsimp only
    rw [if_pos g1, if_pos g1, nI_clamp (by omega), ew]
    rcases hD (k / 5) (k % 5) (by omega) (by omega) with ⟨q1, q2⟩ | ⟨q1, q2⟩
    · rw [q1, if_neg (by decide), Dis_un D q2, l_419]
      exact ih (k + 1) f (by omega) (by omega)
    · rw [if_pos (show nI (W (k / 5) (k % 5)) ≤ 900 from nI_le (b := 900) (by omega) (by omega)), Dis_un D q2, l_419]
      exact ih (k + 1) f (by omega) (by omega)
/-- from the law's beginning to the loop of acts -/
theorem l_begin (hL : Ls ≤ 260) (next : ∀ w A c K, LI w A c K 0 → c 3 = 0 → c 4 = 0 → c 5 = 0 → Fin1 (f_Law_law_h573 xs Ls jfu 0 0 0 0 w)) : Fin1 (f_Law_law xs Ls jWb) := by
  rw [f_Law_law, jlw_e, jlw_e]
  have lo : ∀ (u : jW) q b, q ≥ 93 → b < 93 → (jzr u q).1 b = u.1 b := fun u q b h1 h2 => funext fun j => if_neg (by omega)
  refine l_19 hL (fun w A c H => ?_) 5 0 jfu _ A00 c00 (by omega) (by unfold jfu; omega) ⟨RA_hi RA_0 (fun b hb => by rw [lo _ _ _ (by omega) hb, lo _ _ _ (by omega) hb]), rfl, rfl, rfl, ⟨rfl, rfl, rfl, rfl, rfl, rfl, rfl, rfl, rfl, rfl, rfl⟩, ⟨rfl, rfl, rfl⟩, fun i hi => absurd hi (Nat.not_lt_zero i)⟩
  obtain ⟨R, hK, h1, h2, h3, h4, hS⟩ := H
  refine l_114 (L := True) (w := w) (fun w' k1 k2 => ?_) 25 0 jfu (jzr w 95) (by omega) (by unfold jfu; omega) (fun q hq => funext fun j => if_neg hq) (fun i hi => absurd hi (Nat.not_lt_zero i))
  refine l_153 hL (fun w A c K r W q1 q2 H => ?_) 6 0 jfu w' A c 5 0 W99 (by omega) (by unfold jfu; omega) (by omega) (by omega) ⟨RA_hi R (fun b hb => k1 b (by omega)), h1, h2, h3, h4, fun i hi => ?_, k2, ⟨fun a ha => if_pos rfl, fun a b ha hb => ?_⟩, fun a b ha hb => ?_, fun a b ha hb => ?_, fun r hr => absurd hr (Nat.not_lt_zero r)⟩
  · obtain ⟨R, h1, h2, h3, h4, hS, hW, hz, hsy, hwr, hwe⟩ := H
    obtain ⟨w', W', e1, e2, e3, e4, e5, e6, e7⟩ := l_291 (xs := xs) (Ls := Ls) (A := A) (nr := r) 5 0 jfu w W (by omega) (by unfold jfu; omega) hW hz hwr hwe (fun j hj => absurd hj (Nat.not_lt_zero j))
    have e1' : f_Law_law_h291 xs Ls jfu 0 w = f_Law_law_h380 xs Ls jfu 0 w' := e1
    rw [e1']
    refine l_380 (w := w') (W := W') q1 q2 ⟨RA_hi R (fun b hb => e7 b (by omega)), h1, h2, h3, h4, fun i hi => ?_, e2, fun a b ha hb => ?_⟩ next 25 0 jfu (by omega) (by unfold jfu; omega)
    · rw [e7 94 (by omega), e7 93 (by omega)]; exact hS i hi
    · rw [h2]; exact W_dis e3 e4 e5 e6 ha hb
  · rw [k1 94 (by omega), k1 93 (by omega)]; exact hS i hi
  · unfold W99; split <;> omega
  · unfold W99
    by_cases z : a = b
    · rw [if_pos z, if_pos z.symm]
    · rw [if_neg z, if_neg (fun y => z y.symm)]
  · unfold W99
    by_cases z : a = b
    · rw [if_pos z]
      exact Or.inr ⟨by omega, 0, z.symm, rfl⟩
    · rw [if_neg z]; exact Or.inl rfl
end C6

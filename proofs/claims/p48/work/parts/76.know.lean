/-! LAYER B: possible, doubted, doubt -/
section KQ
variable {w v z0 : jW} {A : Nat → Int32} {c ci : Nat → Nat} {K : Nat}
theorem B41_ps {i s D : Nat} {kn : Int32} : B41 (psF A c i s D kn) := B41_it _ _ _ B41_full
/-- the last bit, found from below -/
def lgF (y : Int64) : Nat → Nat → Int32 → Int32
  | 0, _, e => e
  | m + 1, k, e => lgF y m (k + 1) (if gb y k = true then nI k else e)
theorem lg_last {y : Int64} : ∀ m k e, lgF y (m + 1) k e = if gb y (k + m) = true then nI (k + m) else lgF y m k e := by
  intro m
  induction m with
  | zero => intro k e; rfl
  | succ m ih => intro k e; rw [lgF, ih, show k + 1 + m = k + (m + 1) by omega]; rfl
theorem lg_gs {y : Int64} : ∀ n, lgF y n 0 (-1) = gsF y n := by
  intro n
  induction n with
  | zero => rfl
  | succ n ih => rw [lg_last, ih, Nat.zero_add]; rfl
/-- who may be asked -/
def knP (c : Nat → Nat) (x s d kn : Int32) : Prop := (¬ x < 0 ∧ x < nI (c 1)) ∧ (¬ s < 0 ∧ s ≤ 3) ∧ (¬ kn < 0 ∧ kn ≤ 1999) ∧ (¬ d < 0 ∧ d ≤ kn)
theorem c_isK (H : RA w 3 A c K) (x s d kn : Int32) : (knP c x s d kn → f_Count_isKnowable x s d kn w = some (1, w)) ∧ (¬ knP c x s d kn → f_Count_isKnowable x s d kn w = some (0, w)) := by
  rw [f_Count_isKnowable, s_si H, ob]
  dsimp only
  by_cases g1 : ¬ x < 0 ∧ x < nI (c 1)
  rotate_left
  · rw [b2_n g1, if_pos rfl]; exact ⟨fun z => absurd z.1 g1, fun _ => rfl⟩
  rw [b2_p g1, if_neg one_ne, c_isSort, ob]
  dsimp only
  by_cases g2 : ¬ s < 0 ∧ s ≤ 3
  rotate_left
  · rw [b2_n g2, if_pos rfl]; exact ⟨fun z => absurd z.2.1 g2, fun _ => rfl⟩
  rw [b2_p g2, if_neg one_ne]
  by_cases g3 : d < 0
  · rw [if_pos g3]; exact ⟨fun z => absurd g3 z.2.2.2.1, fun _ => rfl⟩
  rw [if_neg g3]
  by_cases g4 : d ≤ kn
  rotate_left
  · rw [if_neg g4]; exact ⟨fun z => absurd z.2.2.2.2 g4, fun _ => rfl⟩
  rw [if_pos g4]
  by_cases g5 : kn ≤ 1999
  · rw [if_pos g5]
    exact ⟨fun _ => rfl, fun z => absurd ⟨g1, g2, ⟨fun y => g3 (Int32.lt_of_le_of_lt g4 y), g5⟩, g3, g4⟩ z⟩
  · rw [if_neg g5]; exact ⟨fun z => absurd z.2.2.1.2 g5, fun _ => rfl⟩
theorem kn_n (H : RA w 3 A c K) {x s d kn : Int32} (h : knP c x s d kn) : ∃ i r D k, x = nI i ∧ s = nI r ∧ d = nI D ∧ kn = nI k ∧ i < c 1 ∧ r < 4 ∧ D ≤ k ∧ k ≤ 1999 := by
  have l1 := l_1 H
  obtain ⟨h1, h2, h3, h4⟩ := h
  obtain ⟨i, i1, i2⟩ := rng (by omega) h1
  obtain ⟨r, r1, r2⟩ := rngle (n := 3) (by omega) h2
  obtain ⟨k, k1, k2⟩ := rngle (n := 1999) (by omega) h3
  rw [k2] at h4
  obtain ⟨D, d1, d2⟩ := rngle (n := k) (by omega) h4
  exact ⟨i, r, D, k, i2, r2, d2, k2, i1, by omega, d1, k1⟩
/-- what is told there does not fit -/
def dbt (A : Nat → Int32) (c : Nat → Nat) (i s D : Nat) (kn : Int32) : Bool := !gb (psF A c i s D kn) (ntd A (c 7) (nI i) (nI s) (nI D) kn (c 3))
theorem c_isD (H : RA v 3 A c K) {i s D kn : Nat} (hs : s < 4) (hh : Hrd v A c (nI D) (nI kn)) (hc : v.2 84 s = psF A c i s D (nI kn)) : f_Knowing_numberTold (nI i) (nI s) v = some (nI (ntd A (c 7) (nI i) (nI s) (nI D) (nI kn) (c 3)), v) ∧ f_Knowing_isPossible (nI s) (nI (ntd A (c 7) (nI i) (nI s) (nI D) (nI kn) (c 3))) v = some (if dbt A c i s D (nI kn) = true then 0 else 1, v) := by
  have l3 := l_3 H
  have nl := ntd_le (A := A) (no := c 7) (x := nI i) (s := nI s) (d := nI D) (kn := nI kn) (c 3)
  refine ⟨c_numT H hh, ?_⟩
  rw [c_isP hs (by omega), hc, dbt]
  cases gb (psF A c i s D (nI kn)) (ntd A (c 7) (nI i) (nI s) (nI D) (nI kn) (c 3))
  · rfl
  · rfl
theorem hrd_H {D kn : Nat} : Hrd (hrd w A (nI D) (nI kn) (c 7)) A c (nI D) (nI kn) := fun t ht => hrd_at ht
theorem Hrd_1 {u : jW} {d kn : Int32} (h : Hrd v A c d kn) (e : u.1 = v.1) : Hrd u A c d kn := fun t ht => by rw [e]; exact h t ht
/-- the j-th doubt from the k-th pair on -/
def dbF (A : Nat → Int32) (c : Nat → Nat) (D : Nat) (kn : Int32) : Nat → Nat → Nat → Int32
  | 0, _, _ => -1
  | m + 1, k, j => if dbt A c (k / 4) (k % 4) D kn = true then (if j = 0 then nI k else dbF A c D kn m (k + 1) (j - 1)) else dbF A c D kn m (k + 1) j
theorem div4 : ∀ k, k < 40 → nI k / 4 = nI (k / 4) ∧ nI k - nI (k / 4) * 4 = nI (k % 4) := by decide +kernel
theorem c_d69 {K36 : Int32 → Int32 → Int32 → Int32 → Int32 → jW → Option (Int32 × jW)} {i D kn N rest : Nat} (H : RA v 3 A c K) (hi : i < 10) (hN : N < 2 ^ 31) (hh : Hrd v A c (nI D) (nI kn)) (hc : ∀ s, s < 4 → v.2 84 s = psF A c i s D (nI kn)) (hk : ∀ n, n ≤ N → ∃ u : jW, K36 (nI D) (nI kn) (nI N) (nI n) (nI (i + 1)) v = some (dbF A c D (nI kn) rest (4 * (i + 1)) (N - n), u) ∧ u.1 = v.1) : ∀ m s f n, s + m = 4 → m < f → n ≤ N → ∃ u : jW, f_Count_doubt_h69 K36 f (nI D) (nI kn) (nI N) (nI n) (nI i) (nI s) v = some (dbF A c D (nI kn) (m + rest) (4 * i + s) (N - n), u) ∧ u.1 = v.1 := by
  intro m
  induction m with
  | zero =>
    intro s f n hs hf hn
    obtain ⟨f, rfl⟩ : ∃ j, f = j + 1 := ⟨f - 1, by omega⟩
    obtain ⟨u, u1, u2⟩ := hk n hn
    refine ⟨u, ?_, u2⟩
    rw [f_Count_doubt_h69, show s = 4 by omega, if_neg (by decide), ip_1, u1, Nat.zero_add]; rfl
  | succ m ih =>
    intro s f n hs hf hn
    obtain ⟨f, rfl⟩ : ∃ j, f = j + 1 := ⟨f - 1, by omega⟩
    have hs4 : s < 4 := by omega
    obtain ⟨k1, k2⟩ := c_isD H hs4 hh (hc s hs4)
    rw [f_Count_doubt_h69, if_pos (show nI s < 4 from nI_lt (b := 4) (by omega) (by omega)), k1, ob]
    dsimp only
    rw [k2, ob, show m + 1 + rest = (m + rest) + 1 by omega, dbF, show (4 * i + s) / 4 = i by omega, show (4 * i + s) % 4 = s by omega]
    dsimp only
    by_cases z : dbt A c i s D (nI kn) = true
    · rw [if_pos z, if_pos rfl, if_pos z]
      by_cases y : n = N
      · rw [y, if_pos rfl, if_pos (by omega)]
        refine ⟨v, ?_, rfl⟩
        rw [show (4 : Int32) * nI i = nI (4 * i) from nI_mul 4 i, nI_add]
      · obtain ⟨u, u1, u2⟩ := ih (s + 1) f (n + 1) (by omega) (by omega) (by omega)
        rw [if_neg (nI_ne' (by omega) (by omega) y), if_neg (by omega), ip_1, ip_1, show N - n - 1 = N - (n + 1) by omega]
        exact ⟨u, u1, u2⟩
    · obtain ⟨u, u1, u2⟩ := ih (s + 1) f n (by omega) (by omega) hn
      rw [if_neg z, if_neg one_ne, if_neg z, ip_1]
      exact ⟨u, u1, u2⟩
theorem c_d36 {D kn N : Nat} (hN : N < 2 ^ 31) (hD : D ≤ kn) (hk : kn ≤ 1999) : ∀ m i f n (v : jW), RA v 3 A c K → Hrd v A c (nI D) (nI kn) → i + m = c 1 → m < f → n ≤ N → ∃ u : jW, f_Count_doubt_h36 f (nI D) (nI kn) (nI N) (nI n) (nI i) v = some (dbF A c D (nI kn) (4 * m) (4 * i) (N - n), u) ∧ u.1 = v.1 := by
  intro m
  induction m with
  | zero =>
    intro i f n v H hh hi hf hn
    have l1 := l_1 H
    obtain ⟨f, rfl⟩ : ∃ j, f = j + 1 := ⟨f - 1, by omega⟩
    refine ⟨v, ?_, rfl⟩
    rw [f_Count_doubt_h36, n_si H, ob]
    dsimp only
    rw [if_neg (nI_nlt (by omega) (by omega))]; rfl
  | succ m ih =>
    intro i f n v H hh hi hf hn
    have l1 := l_1 H
    obtain ⟨f, rfl⟩ : ∃ j, f = j + 1 := ⟨f - 1, by omega⟩
    obtain ⟨v1, a1, a2, a3⟩ := c_walk H (i := i) (by omega) hD hk
    have H1 : RA v1 3 A c K := RA_fr H (fun b _ _ _ => by rw [a2])
    have hh1 := Hrd_1 hh a2
    obtain ⟨u, u1, u2⟩ := c_d69 (K36 := f_Count_doubt_h36 f) (N := N) (rest := 4 * m) H1 (by omega) hN hh1 a3 (fun n' hn' => ih (i + 1) f n' v1 H1 hh1 (by omega) (by omega) hn') 4 0 jfu n (by omega) (by unfold jfu; omega) hn
    refine ⟨u, ?_, u2.trans a2⟩
    rw [f_Count_doubt_h36, n_si H, ob]
    dsimp only
    rw [if_pos (nI_lt (by omega) (by omega)), a1, ob, show 4 * (m + 1) = 4 + 4 * m by omega]
    exact u1
end KQ


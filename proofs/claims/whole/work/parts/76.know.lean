/-! LAYER B: possible, doubted, doubt -/
section KQ
variable {w v z0 : jW} {A : Nat → Int32} {c ci : Nat → Nat} {K : Nat}
theorem m_h67 {K8 : Int32 → Int32 → Int32 → Int32 → Int64 → Int32 → jW → Option (Int64 × jW)} {x1 x2 x3 x4 x7 : Int32} : ∀ m k f y, k + m = 40 → m < f → f_Model_possibleOf_h67 K8 f x1 x2 x3 x4 y x7 (nI k) w = f_Model_possibleOf_j93 K8 x1 x2 x3 x4 (upN m y) x7 w := by
  intro m
  induction m with
  | zero =>
    intro k f y hk hf
    obtain ⟨f, rfl⟩ : ∃ j, f = j + 1 := ⟨f - 1, by omega⟩
    rw [f_Model_possibleOf_h67, show k = 40 by omega, if_neg (by decide)]; rfl
  | succ m ih =>
    intro k f y hk hf
    obtain ⟨f, rfl⟩ : ∃ j, f = j + 1 := ⟨f - 1, by omega⟩
    rw [f_Model_possibleOf_h67, if_pos (show nI k < 40 from nI_lt (b := 40) (by omega) (by omega)), ip_1]
    exact ih (k + 1) f _ (by omega) (by omega)
theorem m_h106 {K8 : Int32 → Int32 → Int32 → Int32 → Int64 → Int32 → jW → Option (Int64 × jW)} {x1 x2 x3 x4 x7 : Int32} : ∀ m k f y, k + m = 40 → m < f → B41 y → f_Model_possibleOf_h106 K8 f x1 x2 x3 x4 y x7 (nI k) w = f_Model_possibleOf_j128 K8 x1 x2 x3 x4 (dnN m y) x7 w := by
  intro m
  induction m with
  | zero =>
    intro k f y hk hf hy
    obtain ⟨f, rfl⟩ : ∃ j, f = j + 1 := ⟨f - 1, by omega⟩
    rw [f_Model_possibleOf_h106, show k = 40 by omega, if_neg (by decide)]; rfl
  | succ m ih =>
    intro k f y hk hf hy
    obtain ⟨f, rfl⟩ : ∃ j, f = j + 1 := ⟨f - 1, by omega⟩
    rw [f_Model_possibleOf_h106, if_pos (show nI k < 40 from nI_lt (b := 40) (by omega) (by omega)), ip_1, udn hy]
    exact ih (k + 1) f _ (by omega) (by omega) (B41_or hy (B41_dn hy))
theorem m_pos8 (H : RA z0 3 (w.1 94) c K) {i s D kn : Nat} (hi : i < c 1) (hs : s < 4) (hD : D ≤ 1999) : ∀ m d f y, d + m = D + 1 → m < f → B41 y → f_Model_possibleOf_h8 f (nI i) (nI s) (nI D) (nI kn) y (nI d) w = some (itF (w.1 94) c i s (nI kn) m d y, w) := by
  have l8 := l_8 H
  have l1 := l_1 H
  have l4 := l_4 H
  intro m
  induction m with
  | zero =>
    intro d f y hd hf hy
    obtain ⟨f, rfl⟩ : ∃ j, f = j + 1 := ⟨f - 1, by omega⟩
    rw [f_Model_possibleOf_h8, if_neg (fun z => absurd ((nI_leI (by omega) (by omega)).mp z) (by omega))]; rfl
  | succ m ih =>
    intro d f y hd hf hy
    obtain ⟨f, rfl⟩ : ∃ j, f = j + 1 := ⟨f - 1, by omega⟩
    obtain ⟨i1, i2, i3, i4, i5⟩ := p_Isite H i hi
    have fin : ∀ z, B41 z → f_Model_possibleOf_j128 (f_Model_possibleOf_h8 f) (nI i) (nI s) (nI D) (nI kn) (clF (w.1 94 (40 + 8 * i + 1)) z) (nI d) w = some (itF (w.1 94) c i s (nI kn) m (d + 1) (snF (w.1 94) c (nI i) s (nI d) (nI kn) (clF (w.1 94 (40 + 8 * i + 1)) z)), w) := fun z hz => by
      rw [f_Model_possibleOf_j128, m_seen H hs, ob, ip_1]
      exact ih (d + 1) f _ (by omega) (by omega) (B41_sn (B41_cl hz))
    have j54 : ∀ z, B41 z → f_Model_possibleOf_j54 (f_Model_possibleOf_h8 f) (nI i) (nI s) (nI D) (nI kn) z (nI d) w = some (itF (w.1 94) c i s (nI kn) m (d + 1) (snF (w.1 94) c (nI i) s (nI d) (nI kn) (clF (w.1 94 (40 + 8 * i + 1)) z)), w) := fun z hz => by
      rw [← fin z hz, f_Model_possibleOf_j54, ms_1 (by omega), ob]
      dsimp only
      by_cases g : w.1 94 (40 + 8 * i + 1) = 1
      · have g3 : ¬ w.1 94 (40 + 8 * i + 1) = 3 := by rw [g]; decide
        rw [if_pos g, show f_Model_possibleOf_h67 (f_Model_possibleOf_h8 f) jfu (nI i) (nI s) (nI D) (nI kn) z (nI d) 0 w = _ from m_h67 40 0 jfu z (by omega) (by unfold jfu; omega), up40 hz, f_Model_possibleOf_j93, ms_1 (by omega), ob]
        dsimp only
        rw [if_neg g3, clF, if_neg g3, if_pos g]
      · rw [if_neg g, f_Model_possibleOf_j93, ms_1 (by omega), ob]
        dsimp only
        by_cases g3 : w.1 94 (40 + 8 * i + 1) = 3
        · rw [if_pos g3, show f_Model_possibleOf_h106 (f_Model_possibleOf_h8 f) jfu (nI i) (nI s) (nI D) (nI kn) z (nI d) 0 w = _ from m_h106 40 0 jfu z (by omega) (by unfold jfu; omega) hz, dn40 hz, clF, if_pos g3, if_neg g]
        · rw [if_neg g3, clF, if_neg g3, if_neg g]
    rw [f_Model_possibleOf_h8, if_pos ((nI_leI (by omega) (by omega)).mpr (by omega)), f_Model_isQuiet, show f_Model_isQuiet_h3 jfu (nI i) (nI d) (nI kn) 0 w = _ from m_quiet H (by omega) (c 8) 0 jfu (by omega) (by unfold jfu; omega), ob, itF, stepF]
    dsimp only
    by_cases q : qtF (w.1 94) (nI i) (nI d) (nI kn) (c 8) 0 = 0
    rotate_left
    · rw [if_neg q, if_neg q]; exact j54 y hy
    rw [if_pos q, if_pos q, ms_2 (by omega), ob]
    dsimp only
    rw [cgF]
    by_cases g : w.1 94 (40 + 8 * i + 2) = 0
    · rw [if_neg (by rw [g]; decide), if_pos g]
      exact j54 fu41 B41_full
    · have g1 : w.1 94 (40 + 8 * i + 2) = 1 := by
        obtain ⟨n, n1, n2, n3⟩ := i3
        have : n ≠ 0 := fun z => g (by rw [n1, z]; rfl)
        rw [n1, show n = 1 by omega]; rfl
      rw [if_pos g1, if_neg g, f_Model_recorded, show f_Model_recorded_h6 jfu (nI i) (nI s) (nI d) y 0 w = _ from m_rec H hs (c 4) 0 jfu y (by omega) (by unfold jfu; omega) hy, ob]
      exact j54 _ (B41_rec _ _ _ hy)
theorem m_psF (H : RA z0 3 (w.1 94) c K) {i s D kn : Nat} (hi : i < c 1) (hs : s < 4) (hD : D ≤ 1999) : f_Model_possibleOf (nI i) (nI s) (nI D) (nI kn) w = some (psF (w.1 94) c i s D (nI kn), w) :=
  m_pos8 H hi hs hD (D + 1) 0 jfu fu41 (by omega) (by unfold jfu; omega) B41_full
theorem B41_ps {i s D : Nat} {kn : Int32} : B41 (psF A c i s D kn) := B41_it _ _ _ B41_full
/-- the last bit, found from below -/
def lgF (y : Int64) : Nat → Nat → Int32 → Int32
  | 0, _, e => e
  | m + 1, k, e => lgF y m (k + 1) (if gb y k = true then nI k else e)
theorem lg_last {y : Int64} : ∀ m k e, lgF y (m + 1) k e = if gb y (k + m) = true then nI (k + m) else lgF y m k e := by
  intro m
  induction m with
  | zero => intro k e; rfl
  | succ m ih => intro k e; rw [lgF, ih, show k + 1 + m = k + (m + 1) by omega]; rfl
theorem lg_gs {y : Int64} : ∀ n, lgF y n 0 (-1) = gsF y n := by
  intro n
  induction n with
  | zero => rfl
  | succ n ih => rw [lg_last, ih, Nat.zero_add]; rfl
theorem m_h31g {x5 : Int32} (h5 : ¬ x5 = 0) {y : Int64} : ∀ m k f e, k + m = 41 → m < f → f_Model_possible_h31 f x5 y e (nI k) w = some (lgF y m k e, w) := by
  intro m
  induction m with
  | zero =>
    intro k f e hk hf
    obtain ⟨f, rfl⟩ : ∃ j, f = j + 1 := ⟨f - 1, by omega⟩
    rw [f_Model_possible_h31, show k = 41 by omega, if_neg (by decide)]; rfl
  | succ m ih =>
    intro k f e hk hf
    obtain ⟨f, rfl⟩ : ∃ j, f = j + 1 := ⟨f - 1, by omega⟩
    rw [f_Model_possible_h31, if_pos (show nI k ≤ 40 from (nI_leI (b := 40) (by omega) (by omega)).mpr (by omega)), ip_1, lgF]
    simp (disch := omega) only [bit_1]
    by_cases g : gb y k = true
    · rw [if_pos g, if_pos g, if_neg h5]
      split
      · exact ih (k + 1) f _ (by omega) (by omega)
      · exact ih (k + 1) f _ (by omega) (by omega)
    · rw [if_neg g, if_neg g]; exact ih (k + 1) f _ (by omega) (by omega)
theorem m_h31k {y : Int64} {e : Nat} (he : e ≤ 40) : ∀ m k f, k + m = 41 → m < f → f_Model_possible_h31 f 0 y (nI e) (nI k) w = some (nI e, w) := by
  intro m
  induction m with
  | zero =>
    intro k f hk hf
    obtain ⟨f, rfl⟩ : ∃ j, f = j + 1 := ⟨f - 1, by omega⟩
    rw [f_Model_possible_h31, show k = 41 by omega, if_neg (by decide)]
  | succ m ih =>
    intro k f hk hf
    obtain ⟨f, rfl⟩ : ∃ j, f = j + 1 := ⟨f - 1, by omega⟩
    rw [f_Model_possible_h31, if_pos (show nI k ≤ 40 from (nI_leI (b := 40) (by omega) (by omega)).mpr (by omega)), ip_1, if_neg (nI_pos (by omega)), if_pos rfl]
    split
    · exact ih (k + 1) f (by omega) (by omega)
    · exact ih (k + 1) f (by omega) (by omega)
theorem m_h31l {y : Int64} : ∀ m k f, k + m = 41 → m < f → f_Model_possible_h31 f 0 y (-1) (nI k) w = some (lsF y m k, w) := by
  intro m
  induction m with
  | zero =>
    intro k f hk hf
    obtain ⟨f, rfl⟩ : ∃ j, f = j + 1 := ⟨f - 1, by omega⟩
    rw [f_Model_possible_h31, show k = 41 by omega, if_neg (by decide)]; rfl
  | succ m ih =>
    intro k f hk hf
    obtain ⟨f, rfl⟩ : ∃ j, f = j + 1 := ⟨f - 1, by omega⟩
    rw [f_Model_possible_h31, if_pos (show nI k ≤ 40 from (nI_leI (b := 40) (by omega) (by omega)).mpr (by omega)), ip_1, if_pos (show (-1 : Int32) < 0 by decide), lsF]
    simp (disch := omega) only [bit_1]
    by_cases g : gb y k = true
    · rw [if_pos g, if_pos g]; exact m_h31k (by omega) m (k + 1) f (by omega) (by omega)
    · rw [if_neg g, if_neg g]; exact ih (k + 1) f (by omega) (by omega)
/-- who may be asked -/
def knP (c : Nat → Nat) (x s d kn : Int32) : Prop := (¬ x < 0 ∧ x < nI (c 1)) ∧ (¬ s < 0 ∧ s ≤ 3) ∧ (¬ kn < 0 ∧ kn ≤ 1999) ∧ (¬ d < 0 ∧ d ≤ kn)
theorem m_isP (H : RA z0 3 (w.1 94) c K) (x s d kn : Int32) : (knP c x s d kn → f_Model_isPossible x s d kn w = some (1, w)) ∧ (¬ knP c x s d kn → f_Model_isPossible x s d kn w = some (0, w)) := by
  have day : f_Model_isDay kn w = some (b2 (¬ kn < 0 ∧ kn ≤ 1999), w) := by
    rw [f_Model_isDay, m_isIn, ob]
    dsimp only
    rw [if_pos]
    by_cases g : ¬ kn < 0 ∧ kn ≤ 1999
    · rw [b2_p g]; decide
    · rw [b2_n g]; decide
  rw [f_Model_isPossible, mi_site H, ob]
  dsimp only
  by_cases g1 : ¬ x < 0 ∧ x < nI (c 1)
  rotate_left
  · rw [b2_n g1, if_pos rfl]; exact ⟨fun z => absurd z.1 g1, fun _ => rfl⟩
  rw [b2_p g1, if_neg one_ne, m_isIn, ob]
  dsimp only
  by_cases g2 : ¬ s < 0 ∧ s ≤ 3
  rotate_left
  · rw [b2_n g2, if_pos rfl]; exact ⟨fun z => absurd z.2.1 g2, fun _ => rfl⟩
  rw [b2_p g2, if_neg one_ne, day, ob]
  dsimp only
  by_cases g3 : ¬ kn < 0 ∧ kn ≤ 1999
  rotate_left
  · rw [b2_n g3, if_pos rfl]; exact ⟨fun z => absurd z.2.2.1 g3, fun _ => rfl⟩
  rw [b2_p g3, if_neg one_ne, m_isIn, ob]
  dsimp only
  by_cases g4 : ¬ d < 0 ∧ d ≤ kn
  · rw [b2_p g4, if_neg one_ne]; exact ⟨fun _ => rfl, fun z => absurd ⟨g1, g2, g3, g4⟩ z⟩
  · rw [b2_n g4, if_pos rfl]; exact ⟨fun z => absurd z.2.2.2 g4, fun _ => rfl⟩
theorem c_isK (H : RA w 3 A c K) (x s d kn : Int32) : (knP c x s d kn → f_Count_isKnowable x s d kn w = some (1, w)) ∧ (¬ knP c x s d kn → f_Count_isKnowable x s d kn w = some (0, w)) := by
  sorry
theorem kn_n (H : RA w 3 A c K) {x s d kn : Int32} (h : knP c x s d kn) : ∃ i r D k, x = nI i ∧ s = nI r ∧ d = nI D ∧ kn = nI k ∧ i < c 1 ∧ r < 4 ∧ D ≤ k ∧ k ≤ 1999 := by
  have l1 := l_1 H
  obtain ⟨h1, h2, h3, h4⟩ := h
  obtain ⟨i, i1, i2⟩ := rng (by omega) h1
  obtain ⟨r, r1, r2⟩ := rngle (n := 3) (by omega) h2
  obtain ⟨k, k1, k2⟩ := rngle (n := 1999) (by omega) h3
  rw [k2] at h4
  obtain ⟨D, d1, d2⟩ := rngle (n := k) (by omega) h4
  exact ⟨i, r, D, k, i2, r2, d2, k2, i1, by omega, d1, k1⟩
end KQ

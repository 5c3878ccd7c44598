/-! LAYER B: possible, doubted, doubt -/
section KQ
variable {w v z0 : jW} {A : Nat → Int32} {c ci : Nat → Nat} {K : Nat}
theorem m_h67 {K8 : Int32 → Int32 → Int32 → Int32 → Int64 → Int32 → jW → Option (Int64 × jW)} {x1 x2 x3 x4 x7 : Int32} : ∀ m k f y, k + m = 40 → m < f → f_Model_possibleOf_h67 K8 f x1 x2 x3 x4 y x7 (nI k) w = f_Model_possibleOf_j93 K8 x1 x2 x3 x4 (upN m y) x7 w := by
  intro m
  induction m with
  | zero =>
    intro k f y hk hf
    obtain ⟨f, rfl⟩ : ∃ j, f = j + 1 := ⟨f - 1, by omega⟩
    rw [f_Model_possibleOf_h67, show k = 40 by omega, if_neg (by decide)]; rfl
  | succ m ih =>
    intro k f y hk hf
    obtain ⟨f, rfl⟩ : ∃ j, f = j + 1 := ⟨f - 1, by omega⟩
    rw [f_Model_possibleOf_h67, if_pos (show nI k < 40 from nI_lt (b := 40) (by omega) (by omega)), ip_1]
    exact ih (k + 1) f _ (by omega) (by omega)
theorem m_h106 {K8 : Int32 → Int32 → Int32 → Int32 → Int64 → Int32 → jW → Option (Int64 × jW)} {x1 x2 x3 x4 x7 : Int32} : ∀ m k f y, k + m = 40 → m < f → B41 y → f_Model_possibleOf_h106 K8 f x1 x2 x3 x4 y x7 (nI k) w = f_Model_possibleOf_j128 K8 x1 x2 x3 x4 (dnN m y) x7 w := by
  intro m
  induction m with
  | zero =>
    intro k f y hk hf hy
    obtain ⟨f, rfl⟩ : ∃ j, f = j + 1 := ⟨f - 1, by omega⟩
    rw [f_Model_possibleOf_h106, show k = 40 by omega, if_neg (by decide)]; rfl
  | succ m ih =>
    intro k f y hk hf hy
    obtain ⟨f, rfl⟩ : ∃ j, f = j + 1 := ⟨f - 1, by omega⟩
    rw [f_Model_possibleOf_h106, if_pos (show nI k < 40 from nI_lt (b := 40) (by omega) (by omega)), ip_1, udn hy]
    exact ih (k + 1) f _ (by omega) (by omega) (B41_or hy (B41_dn hy))
theorem m_pos8 (H : RA z0 3 (w.1 94) c K) {i s D kn : Nat} (hi : i < c 1) (hs : s < 4) (hD : D ≤ 1999) : ∀ m d f y, d + m = D + 1 → m < f → B41 y → f_Model_possibleOf_h8 f (nI i) (nI s) (nI D) (nI kn) y (nI d) w = some (itF (w.1 94) c i s (nI kn) m d y, w) := by
  have l8 := l_8 H
  have l1 := l_1 H
  have l4 := l_4 H
  intro m
  induction m with
  | zero =>
    intro d f y hd hf hy
    obtain ⟨f, rfl⟩ : ∃ j, f = j + 1 := ⟨f - 1, by omega⟩
    rw [f_Model_possibleOf_h8, if_neg (fun z => absurd ((nI_leI (by omega) (by omega)).mp z) (by omega))]; rfl
  | succ m ih =>
    intro d f y hd hf hy
    obtain ⟨f, rfl⟩ : ∃ j, f = j + 1 := ⟨f - 1, by omega⟩
    obtain ⟨i1, i2, i3, i4, i5⟩ := p_Isite H i hi
    have fin : ∀ z, B41 z → f_Model_possibleOf_j128 (f_Model_possibleOf_h8 f) (nI i) (nI s) (nI D) (nI kn) (clF (w.1 94 (40 + 8 * i + 1)) z) (nI d) w = some (itF (w.1 94) c i s (nI kn) m (d + 1) (snF (w.1 94) c (nI i) s (nI d) (nI kn) (clF (w.1 94 (40 + 8 * i + 1)) z)), w) := fun z hz => by
      rw [f_Model_possibleOf_j128, m_seen H hs, ob, ip_1]
      exact ih (d + 1) f _ (by omega) (by omega) (B41_sn (B41_cl hz))
    have j54 : ∀ z, B41 z → f_Model_possibleOf_j54 (f_Model_possibleOf_h8 f) (nI i) (nI s) (nI D) (nI kn) z (nI d) w = some (itF (w.1 94) c i s (nI kn) m (d + 1) (snF (w.1 94) c (nI i) s (nI d) (nI kn) (clF (w.1 94 (40 + 8 * i + 1)) z)), w) := fun z hz => by
      rw [← fin z hz, f_Model_possibleOf_j54, ms_1 (by omega), ob]
      dsimp only
      by_cases g : w.1 94 (40 + 8 * i + 1) = 1
      · have g3 : ¬ w.1 94 (40 + 8 * i + 1) = 3 := by rw [g]; decide
        rw [if_pos g, show f_Model_possibleOf_h67 (f_Model_possibleOf_h8 f) jfu (nI i) (nI s) (nI D) (nI kn) z (nI d) 0 w = _ from m_h67 40 0 jfu z (by omega) (by unfold jfu; omega), up40 hz, f_Model_possibleOf_j93, ms_1 (by omega), ob]
        dsimp only
        rw [if_neg g3, clF, if_neg g3, if_pos g]
      · rw [if_neg g, f_Model_possibleOf_j93, ms_1 (by omega), ob]
        dsimp only
        by_cases g3 : w.1 94 (40 + 8 * i + 1) = 3
        · rw [if_pos g3, show f_Model_possibleOf_h106 (f_Model_possibleOf_h8 f) jfu (nI i) (nI s) (nI D) (nI kn) z (nI d) 0 w = _ from m_h106 40 0 jfu z (by omega) (by unfold jfu; omega) hz, dn40 hz, clF, if_pos g3, if_neg g]
        · rw [if_neg g3, clF, if_neg g3, if_neg g]
    rw [f_Model_possibleOf_h8, if_pos ((nI_leI (by omega) (by omega)).mpr (by omega)), f_Model_isQuiet, show f_Model_isQuiet_h3 jfu (nI i) (nI d) (nI kn) 0 w = _ from m_quiet H (by omega) (c 8) 0 jfu (by omega) (by unfold jfu; omega), ob, itF, stepF]
    dsimp only
    by_cases q : qtF (w.1 94) (nI i) (nI d) (nI kn) (c 8) 0 = 0
    rotate_left
    · rw [if_neg q, if_neg q]; exact j54 y hy
    rw [if_pos q, if_pos q, ms_2 (by omega), ob]
    dsimp only
    rw [cgF]
    by_cases g : w.1 94 (40 + 8 * i + 2) = 0
    · rw [if_neg (by rw [g]; decide), if_pos g]
      exact j54 fu41 B41_full
    · have g1 : w.1 94 (40 + 8 * i + 2) = 1 := by
        obtain ⟨n, n1, n2, n3⟩ := i3
        have : n ≠ 0 := fun z => g (by rw [n1, z]; rfl)
        rw [n1, show n = 1 by omega]; rfl
      rw [if_pos g1, if_neg g, f_Model_recorded, show f_Model_recorded_h6 jfu (nI i) (nI s) (nI d) y 0 w = _ from m_rec H hs (c 4) 0 jfu y (by omega) (by unfold jfu; omega) hy, ob]
      exact j54 _ (B41_rec _ _ _ hy)
theorem m_psF (H : RA z0 3 (w.1 94) c K) {i s D kn : Nat} (hi : i < c 1) (hs : s < 4) (hD : D ≤ 1999) : f_Model_possibleOf (nI i) (nI s) (nI D) (nI kn) w = some (psF (w.1 94) c i s D (nI kn), w) :=
  m_pos8 H hi hs hD (D + 1) 0 jfu fu41 (by omega) (by unfold jfu; omega) B41_full
theorem B41_ps {i s D : Nat} {kn : Int32} : B41 (psF A c i s D kn) := B41_it _ _ _ B41_full
/-- the last bit, found from below -/
def lgF (y : Int64) : Nat → Nat → Int32 → Int32
  | 0, _, e => e
  | m + 1, k, e => lgF y m (k + 1) (if gb y k = true then nI k else e)
theorem lg_last {y : Int64} : ∀ m k e, lgF y (m + 1) k e = if gb y (k + m) = true then nI (k + m) else lgF y m k e := by
  intro m
  induction m with
  | zero => intro k e; rfl
  | succ m ih => intro k e; rw [lgF, ih, show k + 1 + m = k + (m + 1) by omega]; rfl
theorem lg_gs {y : Int64} : ∀ n, lgF y n 0 (-1) = gsF y n := by
  intro n
  induction n with
  | zero => rfl
  | succ n ih => rw [lg_last, ih, Nat.zero_add]; rfl
theorem m_h31g {x5 : Int32} (h5 : ¬ x5 = 0) {y : Int64} : ∀ m k f e, k + m = 41 → m < f → f_Model_possible_h31 f x5 y e (nI k) w = some (lgF y m k e, w) := by
  intro m
  induction m with
  | zero =>
    intro k f e hk hf
    obtain ⟨f, rfl⟩ : ∃ j, f = j + 1 := ⟨f - 1, by omega⟩
    rw [f_Model_possible_h31, show k = 41 by omega, if_neg (by decide)]; rfl
  | succ m ih =>
    intro k f e hk hf
    obtain ⟨f, rfl⟩ : ∃ j, f = j + 1 := ⟨f - 1, by omega⟩
    rw [f_Model_possible_h31, if_pos (show nI k ≤ 40 from (nI_leI (b := 40) (by omega) (by omega)).mpr (by omega)), ip_1, lgF]
    simp (disch := omega) only [bit_1]
    by_cases g : gb y k = true
    · rw [if_pos g, if_pos g, if_neg h5]
      split
      · exact ih (k + 1) f _ (by omega) (by omega)
      · exact ih (k + 1) f _ (by omega) (by omega)
    · rw [if_neg g, if_neg g]; exact ih (k + 1) f _ (by omega) (by omega)
theorem m_h31k {y : Int64} {e : Nat} (he : e ≤ 40) : ∀ m k f, k + m = 41 → m < f → f_Model_possible_h31 f 0 y (nI e) (nI k) w = some (nI e, w) := by
  intro m
  induction m with
  | zero =>
    intro k f hk hf
    obtain ⟨f, rfl⟩ : ∃ j, f = j + 1 := ⟨f - 1, by omega⟩
    rw [f_Model_possible_h31, show k = 41 by omega, if_neg (by decide)]
  | succ m ih =>
    intro k f hk hf
    obtain ⟨f, rfl⟩ : ∃ j, f = j + 1 := ⟨f - 1, by omega⟩
    rw [f_Model_possible_h31, if_pos (show nI k ≤ 40 from (nI_leI (b := 40) (by omega) (by omega)).mpr (by omega)), ip_1, if_neg (nI_pos (by omega)), if_pos rfl]
    split
    · exact ih (k + 1) f (by omega) (by omega)
    · exact ih (k + 1) f (by omega) (by omega)
theorem m_h31l {y : Int64} : ∀ m k f, k + m = 41 → m < f → f_Model_possible_h31 f 0 y (-1) (nI k) w = some (lsF y m k, w) := by
  intro m
  induction m with
  | zero =>
    intro k f hk hf
    obtain ⟨f, rfl⟩ : ∃ j, f = j + 1 := ⟨f - 1, by omega⟩
    rw [f_Model_possible_h31, show k = 41 by omega, if_neg (by decide)]; rfl
  | succ m ih =>
    intro k f hk hf
    obtain ⟨f, rfl⟩ : ∃ j, f = j + 1 := ⟨f - 1, by omega⟩
    rw [f_Model_possible_h31, if_pos (show nI k ≤ 40 from (nI_leI (b := 40) (by omega) (by omega)).mpr (by omega)), ip_1, if_pos (show (-1 : Int32) < 0 by decide), lsF]
    simp (disch := omega) only [bit_1]
    by_cases g : gb y k = true
    · rw [if_pos g, if_pos g]; exact m_h31k (by omega) m (k + 1) f (by omega) (by omega)
    · rw [if_neg g, if_neg g]; exact ih (k + 1) f (by omega) (by omega)
/-- who may be asked -/
def knP (c : Nat → Nat) (x s d kn : Int32) : Prop := (¬ x < 0 ∧ x < nI (c 1)) ∧ (¬ s < 0 ∧ s ≤ 3) ∧ (¬ kn < 0 ∧ kn ≤ 1999) ∧ (¬ d < 0 ∧ d ≤ kn)
theorem m_isP (H : RA z0 3 (w.1 94) c K) (x s d kn : Int32) : (knP c x s d kn → f_Model_isPossible x s d kn w = some (1, w)) ∧ (¬ knP c x s d kn → f_Model_isPossible x s d kn w = some (0, w)) := by
  have day : f_Model_isDay kn w = some (b2 (¬ kn < 0 ∧ kn ≤ 1999), w) := by
    rw [f_Model_isDay, m_isIn, ob]
    dsimp only
    rw [if_pos]
    by_cases g : ¬ kn < 0 ∧ kn ≤ 1999
    · rw [b2_p g]; decide
    · rw [b2_n g]; decide
  rw [f_Model_isPossible, mi_site H, ob]
  dsimp only
  by_cases g1 : ¬ x < 0 ∧ x < nI (c 1)
  rotate_left
  · rw [b2_n g1, if_pos rfl]; exact ⟨fun z => absurd z.1 g1, fun _ => rfl⟩
  rw [b2_p g1, if_neg one_ne, m_isIn, ob]
  dsimp only
  by_cases g2 : ¬ s < 0 ∧ s ≤ 3
  rotate_left
  · rw [b2_n g2, if_pos rfl]; exact ⟨fun z => absurd z.2.1 g2, fun _ => rfl⟩
  rw [b2_p g2, if_neg one_ne, day, ob]
  dsimp only
  by_cases g3 : ¬ kn < 0 ∧ kn ≤ 1999
  rotate_left
  · rw [b2_n g3, if_pos rfl]; exact ⟨fun z => absurd z.2.2.1 g3, fun _ => rfl⟩
  rw [b2_p g3, if_neg one_ne, m_isIn, ob]
  dsimp only
  by_cases g4 : ¬ d < 0 ∧ d ≤ kn
  · rw [b2_p g4, if_neg one_ne]; exact ⟨fun _ => rfl, fun z => absurd ⟨g1, g2, g3, g4⟩ z⟩
  · rw [b2_n g4, if_pos rfl]; exact ⟨fun z => absurd z.2.2.2 g4, fun _ => rfl⟩
theorem c_isK (H : RA w 3 A c K) (x s d kn : Int32) : (knP c x s d kn → f_Count_isKnowable x s d kn w = some (1, w)) ∧ (¬ knP c x s d kn → f_Count_isKnowable x s d kn w = some (0, w)) := by
  rw [f_Count_isKnowable, s_si H, ob]
  dsimp only
  by_cases g1 : ¬ x < 0 ∧ x < nI (c 1)
  rotate_left
  · rw [b2_n g1, if_pos rfl]; exact ⟨fun z => absurd z.1 g1, fun _ => rfl⟩
  rw [b2_p g1, if_neg one_ne, c_isSort, ob]
  dsimp only
  by_cases g2 : ¬ s < 0 ∧ s ≤ 3
  rotate_left
  · rw [b2_n g2, if_pos rfl]; exact ⟨fun z => absurd z.2.1 g2, fun _ => rfl⟩
  rw [b2_p g2, if_neg one_ne]
  by_cases g3 : d < 0
  · rw [if_pos g3]; exact ⟨fun z => absurd g3 z.2.2.2.1, fun _ => rfl⟩
  rw [if_neg g3]
  by_cases g4 : d ≤ kn
  rotate_left
  · rw [if_neg g4]; exact ⟨fun z => absurd z.2.2.2.2 g4, fun _ => rfl⟩
  rw [if_pos g4]
  by_cases g5 : kn ≤ 1999
  · rw [if_pos g5]
    exact ⟨fun _ => rfl, fun z => absurd ⟨g1, g2, ⟨fun y => g3 (Int32.lt_of_le_of_lt g4 y), g5⟩, g3, g4⟩ z⟩
  · rw [if_neg g5]; exact ⟨fun z => absurd z.2.2.1.2 g5, fun _ => rfl⟩
theorem kn_n (H : RA w 3 A c K) {x s d kn : Int32} (h : knP c x s d kn) : ∃ i r D k, x = nI i ∧ s = nI r ∧ d = nI D ∧ kn = nI k ∧ i < c 1 ∧ r < 4 ∧ D ≤ k ∧ k ≤ 1999 := by
  have l1 := l_1 H
  obtain ⟨h1, h2, h3, h4⟩ := h
  obtain ⟨i, i1, i2⟩ := rng (by omega) h1
  obtain ⟨r, r1, r2⟩ := rngle (n := 3) (by omega) h2
  obtain ⟨k, k1, k2⟩ := rngle (n := 1999) (by omega) h3
  rw [k2] at h4
  obtain ⟨D, d1, d2⟩ := rngle (n := k) (by omega) h4
  exact ⟨i, r, D, k, i2, r2, d2, k2, i1, by omega, d1, k1⟩
theorem q_possible (h : Inv w c ci K) (hK : K < 512) (x s d kn y : Int32) : Cal w (K + 1) (f_Count_possible x s d kn y) (f_Model_possible x s d kn y) := by
  have H := h.1
  by_cases g : knP c x s d kn
  rotate_left
  · refine Cal_s (x := -1) (w1 := w) (w2 := w) h hK ?_ Sq_r ?_ Sq_r
    · rw [f_Count_possible, (c_isK H x s d kn).2 g, ob, if_pos rfl]
    · rw [f_Model_possible, (m_isP H x s d kn).2 g, ob, if_pos rfl]
  have e1 := (c_isK H x s d kn).1 g
  obtain ⟨i, r, D, k, rfl, rfl, rfl, rfl, i1, i2, i3, i4⟩ := kn_n H g
  obtain ⟨v, v1, v2, v3⟩ := c_walk H i1 i3 i4
  have S := X93l_Sq v2
  have e94 : v.1 94 = w.1 94 := by rw [v2]
  have H2 : RA w 3 (v.1 94) c K := by rw [e94]; exact H
  have m1 := (m_isP H2 (nI i) (nI r) (nI D) (nI k)).1 g
  have m2 := m_psF (w := v) H2 (i := i) (s := r) (D := D) (kn := k) i1 i2 (by omega)
  rw [e94] at m2
  by_cases z : y = 0
  · refine Cal_s (x := lsF (psF (w.1 94) c i r D (nI k)) 41 0) (w1 := v) (w2 := v) h hK ?_ S ?_ Sq_r
    · rw [f_Count_possible, e1, ob, if_neg one_ne, v1, ob, if_pos z, f_Knowing_least, show f_Knowing_least_h2 jfu (nI r) 0 v = _ from c_least i2 41 0 jfu (by omega) (by unfold jfu; omega), ob, v3 r i2]
    · rw [f_Model_possible, m1, ob, if_neg one_ne, m2, ob, z]
      exact m_h31l 41 0 jfu (by omega) (by unfold jfu; omega)
  · refine Cal_s (x := gsF (psF (w.1 94) c i r D (nI k)) 41) (w1 := v) (w2 := v) h hK ?_ S ?_ Sq_r
    · rw [f_Count_possible, e1, ob, if_neg one_ne, v1, ob, if_neg z, f_Knowing_greatest, show f_Knowing_greatest_h3 jfu (nI r) 40 v = _ from c_great i2 41 jfu (by omega) (by unfold jfu; omega), ob, v3 r i2]
    · rw [f_Model_possible, m1, ob, if_neg one_ne, m2, ob, ← lg_gs]
      exact m_h31g z 41 0 jfu (-1) (by omega) (by unfold jfu; omega)
/-- what is told there does not fit -/
def dbt (A : Nat → Int32) (c : Nat → Nat) (i s D : Nat) (kn : Int32) : Bool := !gb (psF A c i s D kn) (ntd A (c 7) (nI i) (nI s) (nI D) kn (c 3))
theorem m_isD (H : RA z0 3 (w.1 94) c K) {i s D kn : Nat} (hi : i < c 1) (hs : s < 4) (hD : D ≤ 1999) : f_Model_isDoubted (nI i) (nI s) (nI D) (nI kn) w = some (if dbt (w.1 94) c i s D (nI kn) = true then 1 else 0, w) := by
  have l3 := l_3 H
  have nl := ntd_le (A := w.1 94) (no := c 7) (x := nI i) (s := nI s) (d := nI D) (kn := nI kn) (c 3)
  rw [f_Model_isDoubted, m_psF H hi hs hD, ob]
  dsimp only
  rw [m_tthere H, ob]
  simp (disch := omega) only [bit_0]
  unfold dbt
  cases gb (psF (w.1 94) c i s D (nI kn)) (ntd (w.1 94) (c 7) (nI i) (nI s) (nI D) (nI kn) (c 3))
  · rfl
  · rfl
theorem c_isD (H : RA v 3 A c K) {i s D kn : Nat} (hs : s < 4) (hh : Hrd v A c (nI D) (nI kn)) (hc : v.2 84 s = psF A c i s D (nI kn)) : f_Knowing_numberTold (nI i) (nI s) v = some (nI (ntd A (c 7) (nI i) (nI s) (nI D) (nI kn) (c 3)), v) ∧ f_Knowing_isPossible (nI s) (nI (ntd A (c 7) (nI i) (nI s) (nI D) (nI kn) (c 3))) v = some (if dbt A c i s D (nI kn) = true then 0 else 1, v) := by
  have l3 := l_3 H
  have nl := ntd_le (A := A) (no := c 7) (x := nI i) (s := nI s) (d := nI D) (kn := nI kn) (c 3)
  refine ⟨c_numT H hh, ?_⟩
  rw [c_isP hs (by omega), hc, dbt]
  cases gb (psF A c i s D (nI kn)) (ntd A (c 7) (nI i) (nI s) (nI D) (nI kn) (c 3))
  · rfl
  · rfl
theorem hrd_H {D kn : Nat} : Hrd (hrd w A (nI D) (nI kn) (c 7)) A c (nI D) (nI kn) := fun t ht => hrd_at ht
theorem Hrd_1 {u : jW} {d kn : Int32} (h : Hrd v A c d kn) (e : u.1 = v.1) : Hrd u A c d kn := fun t ht => by rw [e]; exact h t ht
theorem q_doubted (h : Inv w c ci K) (hK : K < 512) (x s d kn : Int32) : Cal w (K + 1) (f_Count_doubted x s d kn) (f_Model_doubted x s d kn) := by
  have H := h.1
  by_cases g : knP c x s d kn
  rotate_left
  · refine Cal_s (x := -1) (w1 := w) (w2 := w) h hK ?_ Sq_r ?_ Sq_r
    · rw [f_Count_doubted, (c_isK H x s d kn).2 g, ob, if_pos rfl]
    · rw [f_Model_doubted, (m_isP H x s d kn).2 g, ob, if_pos rfl]
  have e1 := (c_isK H x s d kn).1 g
  obtain ⟨i, r, D, k, rfl, rfl, rfl, rfl, i1, i2, i3, i4⟩ := kn_n H g
  have H1 : RA (hrd w (w.1 94) (nI D) (nI k) (c 7)) 3 (w.1 94) c K := hrd_RA H
  obtain ⟨v, v1, v2, v3⟩ := c_walk H1 i1 i3 i4
  have S : Sq v w := Sq_t (X93l_Sq v2) hrd_Sq
  have e94 : v.1 94 = w.1 94 := Sq_94 S
  have H2 : RA w 3 (v.1 94) c K := by rw [e94]; exact H
  have Hv : RA v 3 (w.1 94) c K := RA_fr H1 (fun b _ _ _ => by rw [v2])
  obtain ⟨k1, k2⟩ := c_isD Hv i2 (Hrd_1 hrd_H v2) (v3 r i2)
  have m1 := (m_isP H2 (nI i) (nI r) (nI D) (nI k)).1 g
  have m2 := m_isD (w := v) H2 (i := i) (s := r) (D := D) (kn := k) i1 i2 (by omega)
  rw [e94] at m2
  have eC : f_Count_doubted (nI i) (nI r) (nI D) (nI k) w = some (if dbt (w.1 94) c i r D (nI k) = true then 1 else 0, v) := by
    rw [f_Count_doubted, e1, ob, if_neg one_ne, c_hear H, ob, v1, ob, k1, ob]
    dsimp only
    rw [k2, ob]
    dsimp only
    by_cases z : dbt (w.1 94) c i r D (nI k) = true
    · rw [if_pos z, if_pos rfl, if_pos z]
    · rw [if_neg z, if_neg one_ne, if_neg z]
  refine Cal_s h hK eC S (w2 := v) ?_ Sq_r
  rw [f_Model_doubted, m1, ob, if_neg one_ne, m2, ob]
  dsimp only
  by_cases z : dbt (w.1 94) c i r D (nI k) = true
  · rw [if_pos z, if_neg one_ne]
  · rw [if_neg z, if_pos rfl]
/-- the j-th doubt from the k-th pair on -/
def dbF (A : Nat → Int32) (c : Nat → Nat) (D : Nat) (kn : Int32) : Nat → Nat → Nat → Int32
  | 0, _, _ => -1
  | m + 1, k, j => if dbt A c (k / 4) (k % 4) D kn = true then (if j = 0 then nI k else dbF A c D kn m (k + 1) (j - 1)) else dbF A c D kn m (k + 1) j
theorem div4 : ∀ k, k < 40 → nI k / 4 = nI (k / 4) ∧ nI k - nI (k / 4) * 4 = nI (k % 4) := by decide +kernel
theorem m_d28 (H : RA z0 3 (w.1 94) c K) {D kn : Nat} (hD : D ≤ 1999) : ∀ m k f j, k + m = 4 * c 1 → m < f → j < 2 ^ 31 → f_Model_doubt_h28 f (nI D) (nI kn) (nI j) (nI k) w = some (dbF (w.1 94) c D (nI kn) m k j, w) := by
  have l1 := l_1 H
  have h1 := h_1 H
  intro m
  induction m with
  | zero =>
    intro k f j hk hf hj
    obtain ⟨f, rfl⟩ : ∃ j, f = j + 1 := ⟨f - 1, by omega⟩
    rw [f_Model_doubt_h28, show jal [jin 1 21000] = true from by decide, if_pos rfl, jk_1, h1, show (4 : Int32) * nI (c 1) = nI (4 * c 1) from nI_mul 4 (c 1), if_neg (nI_nlt (by omega) (by omega))]; rfl
  | succ m ih =>
    intro k f j hk hf hj
    obtain ⟨f, rfl⟩ : ∃ j, f = j + 1 := ⟨f - 1, by omega⟩
    obtain ⟨d1, d2⟩ := div4 k (by omega)
    rw [f_Model_doubt_h28, show jal [jin 1 21000] = true from by decide, if_pos rfl, jk_1, h1, show (4 : Int32) * nI (c 1) = nI (4 * c 1) from nI_mul 4 (c 1), if_pos (nI_lt (by omega) (by omega)), if_pos (show jal [!(4 == 0), !(4 == 0)] = true from by decide), d1, d2, m_isD H (by omega) (by omega) hD, ob, dbF]
    dsimp only
    by_cases z : dbt (w.1 94) c (k / 4) (k % 4) D (nI kn) = true
    · rw [if_pos z, if_neg one_ne, if_pos z]
      by_cases y : j = 0
      · rw [y, if_pos (show nI 0 = 0 from rfl), if_pos rfl]
      · rw [if_neg (show ¬ nI j = 0 from nI_ne' (b := 0) hj (by omega) y), if_neg y, ip_1, show nI j + -1 = nI (j - 1) from by rw [show nI j + -1 = nI j - 1 from (Int32.sub_eq_add_neg _ _).symm]; exact nI_sub (a := j) (b := 1) (by omega)]
        exact ih (k + 1) f (j - 1) (by omega) (by omega) (by omega)
    · rw [if_neg z, if_pos rfl, if_neg z, ip_1]
      exact ih (k + 1) f j (by omega) (by omega) hj
theorem c_d69 {K36 : Int32 → Int32 → Int32 → Int32 → Int32 → jW → Option (Int32 × jW)} {i D kn N rest : Nat} (H : RA v 3 A c K) (hi : i < 10) (hN : N < 2 ^ 31) (hh : Hrd v A c (nI D) (nI kn)) (hc : ∀ s, s < 4 → v.2 84 s = psF A c i s D (nI kn)) (hk : ∀ n, n ≤ N → ∃ u : jW, K36 (nI D) (nI kn) (nI N) (nI n) (nI (i + 1)) v = some (dbF A c D (nI kn) rest (4 * (i + 1)) (N - n), u) ∧ u.1 = v.1) : ∀ m s f n, s + m = 4 → m < f → n ≤ N → ∃ u : jW, f_Count_doubt_h69 K36 f (nI D) (nI kn) (nI N) (nI n) (nI i) (nI s) v = some (dbF A c D (nI kn) (m + rest) (4 * i + s) (N - n), u) ∧ u.1 = v.1 := by
  intro m
  induction m with
  | zero =>
    intro s f n hs hf hn
    obtain ⟨f, rfl⟩ : ∃ j, f = j + 1 := ⟨f - 1, by omega⟩
    obtain ⟨u, u1, u2⟩ := hk n hn
    refine ⟨u, ?_, u2⟩
    rw [f_Count_doubt_h69, show s = 4 by omega, if_neg (by decide), ip_1, u1, Nat.zero_add]; rfl
  | succ m ih =>
    intro s f n hs hf hn
    obtain ⟨f, rfl⟩ : ∃ j, f = j + 1 := ⟨f - 1, by omega⟩
    have hs4 : s < 4 := by omega
    obtain ⟨k1, k2⟩ := c_isD H hs4 hh (hc s hs4)
    rw [f_Count_doubt_h69, if_pos (show nI s < 4 from nI_lt (b := 4) (by omega) (by omega)), k1, ob]
    dsimp only
    rw [k2, ob, show m + 1 + rest = (m + rest) + 1 by omega, dbF, show (4 * i + s) / 4 = i by omega, show (4 * i + s) % 4 = s by omega]
    dsimp only
    by_cases z : dbt A c i s D (nI kn) = true
    · rw [if_pos z, if_pos rfl, if_pos z]
      by_cases y : n = N
      · rw [y, if_pos rfl, if_pos (by omega)]
        refine ⟨v, ?_, rfl⟩
        rw [show (4 : Int32) * nI i = nI (4 * i) from nI_mul 4 i, nI_add]
      · obtain ⟨u, u1, u2⟩ := ih (s + 1) f (n + 1) (by omega) (by omega) (by omega)
        rw [if_neg (nI_ne' (by omega) (by omega) y), if_neg (by omega), ip_1, ip_1, show N - n - 1 = N - (n + 1) by omega]
        exact ⟨u, u1, u2⟩
    · obtain ⟨u, u1, u2⟩ := ih (s + 1) f n (by omega) (by omega) hn
      rw [if_neg z, if_neg one_ne, if_neg z, ip_1]
      exact ⟨u, u1, u2⟩
theorem c_d36 {D kn N : Nat} (hN : N < 2 ^ 31) (hD : D ≤ kn) (hk : kn ≤ 1999) : ∀ m i f n (v : jW), RA v 3 A c K → Hrd v A c (nI D) (nI kn) → i + m = c 1 → m < f → n ≤ N → ∃ u : jW, f_Count_doubt_h36 f (nI D) (nI kn) (nI N) (nI n) (nI i) v = some (dbF A c D (nI kn) (4 * m) (4 * i) (N - n), u) ∧ u.1 = v.1 := by
  intro m
  induction m with
  | zero =>
    intro i f n v H hh hi hf hn
    have l1 := l_1 H
    obtain ⟨f, rfl⟩ : ∃ j, f = j + 1 := ⟨f - 1, by omega⟩
    refine ⟨v, ?_, rfl⟩
    rw [f_Count_doubt_h36, n_si H, ob]
    dsimp only
    rw [if_neg (nI_nlt (by omega) (by omega))]; rfl
  | succ m ih =>
    intro i f n v H hh hi hf hn
    have l1 := l_1 H
    obtain ⟨f, rfl⟩ : ∃ j, f = j + 1 := ⟨f - 1, by omega⟩
    obtain ⟨v1, a1, a2, a3⟩ := c_walk H (i := i) (by omega) hD hk
    have H1 : RA v1 3 A c K := RA_fr H (fun b _ _ _ => by rw [a2])
    have hh1 := Hrd_1 hh a2
    obtain ⟨u, u1, u2⟩ := c_d69 (K36 := f_Count_doubt_h36 f) (N := N) (rest := 4 * m) H1 (by omega) hN hh1 a3 (fun n' hn' => ih (i + 1) f n' v1 H1 hh1 (by omega) (by omega) hn') 4 0 jfu n (by omega) (by unfold jfu; omega) hn
    refine ⟨u, ?_, u2.trans a2⟩
    rw [f_Count_doubt_h36, n_si H, ob]
    dsimp only
    rw [if_pos (nI_lt (by omega) (by omega)), a1, ob, show 4 * (m + 1) = 4 + 4 * m by omega]
    exact u1
theorem q_doubt (h : Inv w c ci K) (hK : K < 512) (d kn n : Int32) : Cal w (K + 1) (f_Count_doubt d kn n) (f_Model_doubt d kn n) := by
  have H := h.1
  have l1 := l_1 H
  have day : f_Model_isDay kn w = some (b2 (¬ kn < 0 ∧ kn ≤ 1999), w) := by
    rw [f_Model_isDay, m_isIn, ob]
    dsimp only
    rw [if_pos]
    by_cases g : ¬ kn < 0 ∧ kn ≤ 1999
    · rw [b2_p g]; decide
    · rw [b2_n g]; decide
  have bad : ∀ v : jW, v = w → ((¬ (¬ kn < 0 ∧ kn ≤ 1999)) ∨ (¬ (¬ d < 0 ∧ d ≤ kn)) ∨ n < 0) → f_Model_doubt d kn n v = some (-1, v) := fun v hv g => by
    rw [hv, f_Model_doubt, day, ob]
    dsimp only
    by_cases g1 : ¬ kn < 0 ∧ kn ≤ 1999
    rotate_left
    · rw [b2_n g1, if_pos rfl]
    rw [b2_p g1, if_neg one_ne, m_isIn, ob]
    dsimp only
    by_cases g2 : ¬ d < 0 ∧ d ≤ kn
    rotate_left
    · rw [b2_n g2, if_pos rfl]
    rw [b2_p g2, if_neg one_ne]
    rcases g with g | g | g
    · exact absurd g1 g
    · exact absurd g2 g
    · rw [if_pos g]
  by_cases g : knP c 0 0 d kn
  rotate_left
  · have eC : f_Count_doubt d kn n w = some (-1, w) := by
      rw [f_Count_doubt, (c_isK H 0 0 d kn).2 g, ob, if_pos rfl]
    by_cases g1 : (¬ kn < 0 ∧ kn ≤ 1999) ∧ (¬ d < 0 ∧ d ≤ kn) ∧ ¬ n < 0
    rotate_left
    · refine Cal_s h hK eC Sq_r (bad w rfl ?_) Sq_r
      by_cases q1 : ¬ kn < 0 ∧ kn ≤ 1999
      · by_cases q2 : ¬ d < 0 ∧ d ≤ kn
        · exact Or.inr (Or.inr (Decidable.byContradiction fun q3 => g1 ⟨q1, q2, q3⟩))
        · exact Or.inr (Or.inl q2)
      · exact Or.inl q1
    have c0 : c 1 = 0 := by
      by_cases z : c 1 = 0
      · exact z
      · exact absurd ⟨⟨by decide, nI_lt (a := 0) (by omega) (by omega)⟩, ⟨by decide, by decide⟩, g1.1, g1.2.1⟩ g
    refine Cal_s h hK eC Sq_r (w2 := w) ?_ Sq_r
    rw [f_Model_doubt, day, ob]
    dsimp only
    rw [b2_p g1.1, if_neg one_ne, m_isIn, ob]
    dsimp only
    rw [b2_p g1.2.1, if_neg one_ne, if_neg g1.2.2]
    obtain ⟨f, hf⟩ : ∃ f, jfu = f + 1 := ⟨jfu - 1, by unfold jfu; omega⟩
    rw [hf, f_Model_doubt_h28, show jal [jin 1 21000] = true from by decide, if_pos rfl, jk_1, h_1 H, c0, if_neg (by decide)]
  have eK := (c_isK H 0 0 d kn).1 g
  by_cases g3 : n < 0
  · refine Cal_s (x := -1) (w1 := w) h hK ?_ Sq_r (bad w rfl (Or.inr (Or.inr g3))) Sq_r
    rw [f_Count_doubt, eK, ob, if_neg one_ne, if_pos g3]
  obtain ⟨i, r, D, k, _, _, rfl, rfl, i1, i2, i3, i4⟩ := kn_n H g
  obtain ⟨N, hN, rfl⟩ := nI_of g3
  have H1 : RA (hrd w (w.1 94) (nI D) (nI k) (c 7)) 3 (w.1 94) c K := hrd_RA H
  obtain ⟨v, v1, v2⟩ := c_d36 (N := N) hN i3 i4 (c 1) 0 jfu 0 (hrd w (w.1 94) (nI D) (nI k) (c 7)) H1 hrd_H (by omega) (by unfold jfu; omega) (by omega)
  have S : Sq v w := Sq_t (X93l_Sq v2) hrd_Sq
  have e94 : v.1 94 = w.1 94 := Sq_94 S
  have H2 : RA w 3 (v.1 94) c K := by rw [e94]; exact H
  have m1 := m_d28 (w := v) H2 (D := D) (kn := k) (by omega) (4 * c 1) 0 jfu N (by omega) (by unfold jfu; omega) hN
  rw [e94] at m1
  have dayv : f_Model_isDay (nI k) v = some (b2 (¬ nI k < 0 ∧ nI k ≤ 1999), v) := by
    rw [f_Model_isDay, m_isIn, ob]
    dsimp only
    rw [if_pos]
    rw [b2_p g.2.2.1]; decide
  refine Cal_s h hK (x := dbF (w.1 94) c D (nI k) (4 * c 1) (4 * 0) (N - 0)) (w1 := v) (w2 := v) ?_ S ?_ Sq_r
  · rw [f_Count_doubt, eK, ob, if_neg one_ne, if_neg g3, c_hear H, ob]
    exact v1
  · rw [f_Model_doubt, dayv, ob]
    dsimp only
    rw [b2_p g.2.2.1, if_neg one_ne, m_isIn, ob]
    dsimp only
    rw [b2_p g.2.2.2, if_neg one_ne, if_neg g3]
    exact m1
end KQ

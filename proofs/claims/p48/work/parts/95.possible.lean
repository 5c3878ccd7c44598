/-! LAYER C of p48: the numbers that are possible; nothing is doubted -/
section D2
variable {w v : jW} {A : Nat → Int32} {c : Nat → Nat} {K k : Nat} {xs : Nat → Int32} {Ls : Nat}
/-- a state of the last part, where only scratch cells move -/
def FS (A : Nat → Int32) (c : Nat → Nat) (K : Nat) (w : jW) : Prop := TFn w A c K (c 3)
theorem FS_kp (h : FS A c K w) (kp : Kp v w) (R : RA v 3 A c K) : FS A c K v := TFn_kp h kp R
theorem FS_n (h : FS A c K w) : c 0 ≤ 160 ∧ c 3 ≤ 8 ∧ c 4 ≤ 16 ∧ c 5 ≤ 8 ∧ c 1 = 5 := ⟨h.2.2.1.2.2.2.2.2.1, h.2.2.1.2.2.2.2.2.2.1, h.2.2.1.2.2.2.2.2.2.2.1, h.2.2.1.2.2.2.2.2.2.2.2.1, h.2.2.1.1⟩
theorem FS_hi (h : FS A c K w) : HI A c := h.2.2.2.2.2.2.2.2.1
/-- the least and the greatest possible number hold the true one -/
theorem ps_bnd (h : FS A c K w) {i s d q : Nat} (hi : i < 5) (hs : s < 4) (hd : d ≤ q) (hq : q ≤ c 0) : (∃ l, lsF (psF A c i s d (nI q)) 41 0 = nI l ∧ l ≤ cn A c i s d) ∧ ∃ l, gsF (psF A c i s d (nI q)) 41 = nI l ∧ cn A c i s d ≤ l ∧ l < 41 := by
  have g := ps_gb (FS_hi h) hi hs hd hq
  have n40 := cn_40 (A := A) (FS_hi h).1 (i := i) (s := s) (d := d)
  constructor
  · obtain ⟨l, e1, -, -, -, e5⟩ := ls_sp (y := psF A c i s d (nI q)) 41 0 ⟨_, Nat.zero_le _, by omega, g⟩
    refine ⟨l, e1, Nat.not_lt.mp (fun z => ?_)⟩
    have := e5 _ (Nat.zero_le _) z
    rw [g] at this
    exact absurd this (by decide)
  · obtain ⟨l, e1, e2, -, e4⟩ := gs_sp (y := psF A c i s d (nI q)) 41 ⟨_, by omega, g⟩
    refine ⟨l, e1, Nat.not_lt.mp (fun z => ?_), e2⟩
    have := e4 _ z (by omega)
    rw [g] at this
    exact absurd this (by decide)
/-- the days by which one is known -/
theorem l_1647 {i s d : Nat} (hi : i < 5) (hs : s < 4) (hd : d ≤ 160) {k1557 : Int32 → Int32 → Int32 → Int32 → Int32 → jW → Option (Int32 × jW)} {k1566 : Int32 → Int32 → Int32 → Int32 → Int32 → Int32 → jW → Option (Int32 × jW)} {k1575 : Int32 → Int32 → Int32 → Int32 → Int32 → Int32 → Int32 → jW → Option (Int32 × jW)} (next : ∀ v, FS A c K v → Fin1 (k1575 (nI (c 3)) (nI (c 4)) (nI (c 5)) (nI (c 0)) (nI i) (nI s) (nI (d + (1 + c 0 / 12))) v)) : ∀ m q f (w : jW), c 0 + 1 - q ≤ m → m < f → d ≤ q → q ≤ 400 → FS A c K w → Fin1 (f_Law_law_h1647 xs Ls k1557 k1566 k1575 f (nI (c 3)) (nI (c 4)) (nI (c 5)) (nI (c 0)) (nI i) (nI s) (nI d) (nI (cn A c i s d)) (nI q) w) := by
  intro m
  induction m with
  | zero =>
    intro q f w hm hf hdq hq h
    obtain ⟨f, rfl⟩ : ∃ j, f = j + 1 := ⟨f - 1, by omega⟩
    obtain ⟨h0, h3, h4, h5, h1⟩ := FS_n h
    have ed : nI (c 0) / 12 = nI (c 0 / 12) := nI_div (b := 12) (by omega) (by omega)
    have e12 : c 0 / 12 ≤ c 0 := Nat.div_le_self _ _
    rw [f_Law_law_h1647, if_neg (nI_ge (by omega) (by omega)), if_pos (by decide), ed, show (1 : Int32) + nI (c 0 / 12) = nI (1 + c 0 / 12) from nI_add 1 _, nI_add]
    exact next w h
  | succ m ih =>
    intro q f w hm hf hdq hq h
    obtain ⟨f, rfl⟩ : ∃ j, f = j + 1 := ⟨f - 1, by omega⟩
    obtain ⟨h0, h3, h4, h5, h1⟩ := FS_n h
    by_cases z : q ≤ c 0
    rotate_left
    · have ed : nI (c 0) / 12 = nI (c 0 / 12) := nI_div (b := 12) (by omega) (by omega)
      rw [f_Law_law_h1647, if_neg (nI_ge (by omega) (by omega)), if_pos (by decide), ed, show (1 : Int32) + nI (c 0 / 12) = nI (1 + c 0 / 12) from nI_add 1 _, nI_add]
      exact next w h
    obtain ⟨⟨l, a1, a2⟩, l', b1, b2, b3⟩ := ps_bnd h hi hs hdq z
    have n40 := cn_40 (A := A) (FS_hi h).1 (i := i) (s := s) (d := d)
    obtain ⟨v1, e1, k1, R1⟩ := s_least h.1 (i := i) (r := s) (D := d) (k := q) (by omega) hs hdq (by omega)
    obtain ⟨v2, e2, k2, R2⟩ := s_great R1 (i := i) (r := s) (D := d) (k := q) (by omega) hs hdq (by omega)
    have es : nI (c 0) - nI d = nI (c 0 - d) := nI_sub (by omega)
    have ed : nI (c 0 - d) / 2 = nI ((c 0 - d) / 2) := nI_div (b := 2) (by omega) (by omega)
    have e2d : (c 0 - d) / 2 ≤ c 0 := by omega
    rw [f_Law_law_h1647, if_pos (nI_le z (by omega)), e1, ob]
    dsimp only
    rw [a1, if_pos (nI_le a2 (by omega)), e2, ob]
    dsimp only
    rw [b1, if_neg (nI_nlt b2 (by omega)), if_pos (by decide), es, ed, show (1 : Int32) + nI ((c 0 - d) / 2) = nI (1 + (c 0 - d) / 2) from nI_add 1 _, nI_add]
    exact ih (q + (1 + (c 0 - d) / 2)) f v2 (by omega) (by omega) (by omega) (by omega) (FS_kp (FS_kp h k1 R1) k2 R2)
/-- the true number, counted by the law -/
theorem l_1588 {i s d : Nat} (hi : i < 5) (hs : s < 4) (hd : d ≤ 160) {k1557 : Int32 → Int32 → Int32 → Int32 → Int32 → jW → Option (Int32 × jW)} {k1566 : Int32 → Int32 → Int32 → Int32 → Int32 → Int32 → jW → Option (Int32 × jW)} {k1575 : Int32 → Int32 → Int32 → Int32 → Int32 → Int32 → Int32 → jW → Option (Int32 × jW)} (next : ∀ v, FS A c K v → Fin1 (k1575 (nI (c 3)) (nI (c 4)) (nI (c 5)) (nI (c 0)) (nI i) (nI s) (nI (d + (1 + c 0 / 12))) v)) (h : FS A c K w) : ∀ m t f, t + m = c 3 → m < f → Fin1 (f_Law_law_h1588 xs Ls k1557 k1566 k1575 f (nI (c 3)) (nI (c 4)) (nI (c 5)) (nI (c 0)) (nI i) (nI s) (nI d) (nI (ct (fun t => decide (A (240 + 12 * t) = nI s ∧ mwh A (c 4) t (nI d) = nI i)) t)) (nI t) w) := by
  obtain ⟨h0, h3, h4, h5, h1⟩ := FS_n h
  have hh := h
  obtain ⟨R, -, -, hST, hWY, hT, hM, hSs, hI, hS⟩ := hh
  intro m
  induction m with
  | zero =>
    intro t f ht hf
    obtain ⟨f, rfl⟩ : ∃ j, f = j + 1 := ⟨f - 1, by omega⟩
    have et : t = c 3 := by omega
    subst et
    rw [f_Law_law_h1588, if_neg (nI_nlt (by omega) (by omega))]
    exact l_1647 hi hs hd next (c 0 + 1 - d) d jfu w (Nat.le_refl _) (by unfold jfu; omega) (Nat.le_refl _) (by omega) h
  | succ m ih =>
    intro t f ht hf
    obtain ⟨f, rfl⟩ : ∃ j, f = j + 1 := ⟨f - 1, by omega⟩
    have iH := ih (t + 1) f (by omega) (by omega)
    rw [ct] at iH
    have g1 : jal [jin ((4 * nI t) + 2) 32] = true := by rw [im_4, ip_2, jal_c, jal_n, jin_nI (by omega) (by omega)]; rfl
    rw [f_Law_law_h1588, if_pos (nI_lt (by omega) (by omega)), if_pos g1, im_4, ip_2, nI_clamp (by omega), (hT t (by omega)).2.2.1, ip_1, ip_1, ip_0]
    by_cases z : A (240 + 12 * t) = nI s
    · rw [if_pos z, l_where hT hM h3 h4 (by omega) (nI d), ob]
      dsimp only
      by_cases y : mwh A (c 4) t (nI d) = nI i
      · rw [if_pos y]
        rw [if_pos (decide_eq_true ⟨z, y⟩)] at iH
        exact iH
      · rw [if_neg y]
        rw [if_neg (fun q => y (of_decide_eq_true q).2)] at iH
        exact iH
    · rw [if_neg z]
      rw [if_neg (fun q => z (of_decide_eq_true q).1)] at iH
      exact iH
/-- the days -/
theorem l_1575 {i s : Nat} (hi : i < 5) (hs : s < 4) {k1557 : Int32 → Int32 → Int32 → Int32 → Int32 → jW → Option (Int32 × jW)} {k1566 : Int32 → Int32 → Int32 → Int32 → Int32 → Int32 → jW → Option (Int32 × jW)} (next : ∀ v, FS A c K v → Fin1 (k1566 (nI (c 3)) (nI (c 4)) (nI (c 5)) (nI (c 0)) (nI i) (nI (s + 1)) v)) : ∀ m d f (w : jW), c 0 + 1 - d ≤ m → m < f → d ≤ 400 → FS A c K w → Fin1 (f_Law_law_h1575 xs Ls k1557 k1566 f (nI (c 3)) (nI (c 4)) (nI (c 5)) (nI (c 0)) (nI i) (nI s) (nI d) w) := by
  have fin : ∀ d f (w : jW), c 0 < d → d ≤ 400 → FS A c K w → Fin1 (f_Law_law_h1575 xs Ls k1557 k1566 (f + 1) (nI (c 3)) (nI (c 4)) (nI (c 5)) (nI (c 0)) (nI i) (nI s) (nI d) w) := fun d f w hd hd4 h => by
    obtain ⟨h0, h3, h4, h5, h1⟩ := FS_n h
    obtain ⟨v, e1, k1, R1⟩ := s_doubted h.1 (i := i) (r := s) (D := c 0) (k := c 0) (by omega) hs (Nat.le_refl _) (by omega)
    have ev : (if dbt A c i s (c 0) (nI (c 0)) = true then (1 : Int32) else 0) = 0 := by rw [dbt_no h hi hs]; rfl
    rw [f_Law_law_h1575, if_neg (nI_ge hd (by omega)), e1, ob]
    dsimp only
    rw [ev, if_pos rfl, ip_1]
    exact next v (FS_kp h k1 R1)
  intro m
  induction m with
  | zero =>
    intro d f w hm hf hd4 h
    obtain ⟨f, rfl⟩ : ∃ j, f = j + 1 := ⟨f - 1, by omega⟩
    exact fin d f w (by omega) hd4 h
  | succ m ih =>
    intro d f w hm hf hd4 h
    obtain ⟨f, rfl⟩ : ∃ j, f = j + 1 := ⟨f - 1, by omega⟩
    obtain ⟨h0, h3, h4, h5, h1⟩ := FS_n h
    by_cases z : d ≤ c 0
    · rw [f_Law_law_h1575, if_pos (nI_le z (by omega))]
      have e12 : c 0 / 12 ≤ 13 := by omega
      exact l_1588 hi hs (by omega) (fun v hv => ih (d + (1 + c 0 / 12)) f v (by omega) (by omega) (by omega) hv) h (c 3) 0 jfu (by omega) (by unfold jfu; omega)
    · exact fin d f w (by omega) hd4 h
theorem l_1566 {i : Nat} (hi : i < 5) {k1557 : Int32 → Int32 → Int32 → Int32 → Int32 → jW → Option (Int32 × jW)} (next : ∀ v, FS A c K v → Fin1 (k1557 (nI (c 3)) (nI (c 4)) (nI (c 5)) (nI (c 0)) (nI (i + 1)) v)) : ∀ m s f (w : jW), s + m = 3 → m < f → FS A c K w → Fin1 (f_Law_law_h1566 xs Ls k1557 f (nI (c 3)) (nI (c 4)) (nI (c 5)) (nI (c 0)) (nI i) (nI s) w) := by
  intro m
  induction m with
  | zero =>
    intro s f w hs hf h
    obtain ⟨f, rfl⟩ : ∃ j, f = j + 1 := ⟨f - 1, by omega⟩
    obtain rfl : s = 3 := by omega
    rw [f_Law_law_h1566, if_neg (by decide), ip_1]
    exact next w h
  | succ m ih =>
    intro s f w hs hf h
    obtain ⟨f, rfl⟩ : ∃ j, f = j + 1 := ⟨f - 1, by omega⟩
    obtain ⟨h0, -⟩ := FS_n h
    rw [f_Law_law_h1566, if_pos (show nI s < 3 from nI_lt (b := 3) (by omega) (by omega))]
    exact l_1575 hi (by omega) (fun v hv => ih (s + 1) f v (by omega) (by omega) hv) (c 0 + 1) 0 jfu w (by omega) (by unfold jfu; omega) (by omega) h
theorem dbF_no (h : FS A c K w) : ∀ m k, k + m ≤ 20 → dbF A c (c 0) (nI (c 0)) m k 0 = -1 := by
  intro m
  induction m with
  | zero => intro k _; rfl
  | succ m ih =>
    intro k hk
    rw [dbF, dbt_no h (i := k / 4) (s := k % 4) (by omega) (by omega), if_neg (by decide)]
    exact ih (k + 1) (by omega)
theorem l_1557 (next : ∀ v, FS A c K v → Fin1 (Option.bind (f_Law_tricks (nI (c 4)) (nI (c 3)) (nI (c 5)) (nI (c 0)) v) fun q27 => if q27.1 = 0 then none else Option.bind (f_Law_shares xs Ls q27.2) fun q28 => if q28.1 = 0 then none else some (1, q28.2))) : ∀ m i f (w : jW), i + m = 5 → m < f → FS A c K w → Fin1 (f_Law_law_h1557 xs Ls f (nI (c 3)) (nI (c 4)) (nI (c 5)) (nI (c 0)) (nI i) w) := by
  intro m
  induction m with
  | zero =>
    intro i f w hi hf h
    obtain ⟨f, rfl⟩ : ∃ j, f = j + 1 := ⟨f - 1, by omega⟩
    obtain rfl : i = 5 := by omega
    obtain ⟨h0, h3, h4, h5, h1⟩ := FS_n h
    obtain ⟨v, e1, k1, R1⟩ := s_doubt0 h.1 (D := c 0) (k := c 0) (by omega) (Nat.le_refl _) (by omega)
    rw [f_Law_law_h1557, if_neg (by decide), e1, ob]
    dsimp only
    rw [dbF_no h (4 * c 1) (4 * 0) (by omega), if_pos rfl]
    exact next v (FS_kp h k1 R1)
  | succ m ih =>
    intro i f w hi hf h
    obtain ⟨f, rfl⟩ : ∃ j, f = j + 1 := ⟨f - 1, by omega⟩
    rw [f_Law_law_h1557, if_pos (show nI i < 5 from nI_lt (b := 5) (by omega) (by omega))]
    exact l_1566 (by omega) (fun v hv => ih (i + 1) f v (by omega) (by omega) hv) 3 0 jfu w (by omega) (by unfold jfu; omega) h
/-- from the loop's end to the law's -/
theorem l_ends (next : ∀ A c K v, FS A c K v → Fin1 (Option.bind (f_Law_tricks (nI (c 4)) (nI (c 3)) (nI (c 5)) (nI (c 0)) v) fun q27 => if q27.1 = 0 then none else Option.bind (f_Law_shares xs Ls q27.2) fun q28 => if q28.1 = 0 then none else some (1, q28.2))) (h : LI w A c K 40) : Fin1 (f_Law_law_h1362 xs Ls jfu (nI (c 3)) (nI (c 4)) (nI (c 5)) (nI (c 0)) 0 w) := by
  have h3 : c 3 ≤ 8 := h.2.2.1.2.2.2.2.2.2.2.1
  have h5 : c 5 ≤ 8 := h.2.2.1.2.2.2.2.2.2.2.2.2.1
  refine l_1362 h ?_ (c 3) 0 jfu (by omega) (by unfold jfu; omega)
  refine l_1423 h ?_ (c 5) 0 jfu (by omega) (by unfold jfu; omega)
  exact l_1497 (fun w A c K h => l_1557 (fun v hv => next A c K v hv) 5 0 jfu w (by omega) (by unfold jfu; omega) h) (c 3) 0 jfu w A c K (by omega) (by unfold jfu; omega) (TFn_0 h)
end D2

/-! LAYER B: the reference's small readers -/
theorem nI_m1 {n : Nat} (h : n < 2 ^ 31) : (nI n - 1).toInt = (n : Int) - 1 := by
  cases n with
  | zero => decide
  | succ n => rw [nI_pred, nI_toInt (by omega)]; omega
theorem le_m1 {x : Int32} {n : Nat} (h : n < 2 ^ 31) : (x ≤ nI n - 1) = (x < nI n) := by
  rw [Int32.le_iff_toInt_le, Int32.lt_iff_toInt_lt, nI_m1 h, nI_toInt h]
  exact propext ⟨fun q => by omega, fun q => by omega⟩
theorem lt_p1 {x : Int32} {n : Nat} (h : n + 1 < 2 ^ 31) : (x < nI (n + 1)) = (x ≤ nI n) := by
  rw [Int32.le_iff_toInt_le, Int32.lt_iff_toInt_lt, nI_toInt h, nI_toInt (by omega)]
  exact propext ⟨fun q => by omega, fun q => by omega⟩
/-- an argument that is in a range is a number -/
theorem rng {x : Int32} {n : Nat} (hn : n < 2 ^ 31) (h : ¬ x < 0 ∧ x < nI n) : ∃ i, i < n ∧ x = nI i := by
  obtain ⟨j, hj, rfl⟩ := nI_of h.1
  exact ⟨j, (nI_ltI hj hn).mp h.2, rfl⟩
theorem rngle {x : Int32} {n : Nat} (hn : n < 2 ^ 31) (h : ¬ x < 0 ∧ x ≤ nI n) : ∃ i, i ≤ n ∧ x = nI i := by
  obtain ⟨j, hj, rfl⟩ := nI_of h.1
  exact ⟨j, (nI_leI hj hn).mp h.2, rfl⟩
theorem in_rng {i n : Nat} (hi : i < n) (hn : n < 2 ^ 31) : ¬ nI i < 0 ∧ nI i < nI n := ⟨nI_pos (by omega), nI_lt hi hn⟩
section MB
variable {w : jW}
theorem m_isIn (x lo hi : Int32) : f_Model_isIn x lo hi w = some (b2 (¬ x < lo ∧ x ≤ hi), w) := by
  rw [f_Model_isIn]
  by_cases h1 : x < lo
  · rw [if_pos h1, b2_n (fun z => z.1 h1)]
  · rw [if_neg h1]
    by_cases h2 : x ≤ hi
    · rw [if_pos h2, b2_p ⟨h1, h2⟩]
    · rw [if_neg h2, b2_n (fun z => h2 z.2)]
theorem m_isDay (d : Int32) : f_Model_isDay d w = some (b2 (¬ d < 0 ∧ d ≤ 1999), w) := by
  rw [f_Model_isDay, m_isIn, ob, if_pos b2_bo]
theorem m_isSite {n : Nat} (h : w.1 94 1 = nI n) (hn : n < 2 ^ 31) (x : Int32) : f_Model_isSite x w = some (b2 (¬ x < 0 ∧ x < nI n), w) := by
  rw [f_Model_isSite, if_pos (by decide)]
  show Option.bind (f_Model_isIn x 0 (w.1 94 1 - 1) w) _ = _
  rw [m_isIn, ob, if_pos b2_bo, h]
  congr 2
  exact b2_iff (by rw [le_m1 hn])
theorem m_isThing {n : Nat} (h : w.1 94 3 = nI n) (hn : n < 2 ^ 31) (x : Int32) : f_Model_isThing x w = some (b2 (¬ x < 0 ∧ x < nI n), w) := by
  rw [f_Model_isThing, if_pos (by decide)]
  show Option.bind (f_Model_isIn x 0 (w.1 94 3 - 1) w) _ = _
  rw [m_isIn, ob, if_pos b2_bo, h]
  congr 2
  exact b2_iff (by rw [le_m1 hn])
theorem m_siteAt {s c : Nat} (hs : s < 10) (hc : c < 8) : f_Model_siteAt (nI s) (nI c) w = some (w.1 94 (40 + 8 * s + c), w) := by
  rw [f_Model_siteAt]
  simp (disch := omega) only [nI_lit, nI_add, nI_mul, nI_clamp, jin_nI, jal_c, jal_n, Bool.and_true, if_true]
theorem m_thingAt {t c : Nat} (ht : t < 40) (hc : c < 12) : f_Model_thingAt (nI t) (nI c) w = some (w.1 94 (240 + 12 * t + c), w) := by
  rw [f_Model_thingAt]
  simp (disch := omega) only [nI_lit, nI_add, nI_mul, nI_clamp, jin_nI, jal_c, jal_n, Bool.and_true, if_true]
theorem m_moveAt {m c : Nat} (hm : m < 100) (hc : c < 8) : f_Model_moveAt (nI m) (nI c) w = some (w.1 94 (720 + 8 * m + c), w) := by
  rw [f_Model_moveAt]
  simp (disch := omega) only [nI_lit, nI_add, nI_mul, nI_clamp, jin_nI, jal_c, jal_n, Bool.and_true, if_true]
end MB
/-! where a thing is on a day, out of the reference's array -/
/-- the place after the moves k .. k + m - 1 -/
def msc (A : Nat → Int32) (t : Nat) (d : Int32) : Nat → Nat → Int32 → Int32
  | 0, _, at_ => at_
  | m + 1, k, at_ => msc A t d m (k + 1) (if A (720 + 8 * k) = nI t ∧ A (720 + 8 * k + 1) ≤ d then (if d < A (720 + 8 * k + 4) then 100 else A (720 + 8 * k + 3)) else at_)
def mwh (A : Nat → Int32) (nm t : Nat) (d : Int32) : Int32 :=
  if d < A (240 + 12 * t + 4) then 102
  else if ¬ A (240 + 12 * t + 7) < 0 ∧ ¬ d < A (240 + 12 * t + 7) then 101
  else msc A t d nm 0 (A (240 + 12 * t + 5))
theorem m_where_h {w : jW} {nm t : Nat} {d : Int32} (h4 : w.1 94 4 = nI nm) (hm : nm ≤ 100) : ∀ (m k f : Nat) (at_ : Int32), k + m = nm → m < f → f_Model_whereOf_h47 f (nI t) d at_ (nI k) w = some (msc (w.1 94) t d m k at_, w) := by
  intro m
  induction m with
  | zero =>
    intro k f at_ hk hf
    obtain ⟨f, rfl⟩ : ∃ j, f = j + 1 := ⟨f - 1, by omega⟩
    rw [f_Model_whereOf_h47, if_pos (by decide)]
    show (if nI k < w.1 94 4 then _ else _) = _
    rw [h4, if_neg (nI_nlt (by omega) (by omega))]
    rfl
  | succ m ih =>
    intro k f at_ hk hf
    obtain ⟨f, rfl⟩ : ∃ j, f = j + 1 := ⟨f - 1, by omega⟩
    rw [f_Model_whereOf_h47, if_pos (by decide)]
    show (if nI k < w.1 94 4 then _ else _) = _
    rw [h4, if_pos (nI_lt (by omega) (by omega))]
    have a0 := m_moveAt (w := w) (m := k) (c := 0) (by omega) (by omega)
    have a1 := m_moveAt (w := w) (m := k) (c := 1) (by omega) (by omega)
    have a3 := m_moveAt (w := w) (m := k) (c := 3) (by omega) (by omega)
    have a4 := m_moveAt (w := w) (m := k) (c := 4) (by omega) (by omega)
    rw [Nat.add_zero] at a0
    rw [msc]
    simp only [nI_lit, a0, a1, a3, a4, ob, nI_add]
    by_cases c0 : w.1 94 (720 + 8 * k) = nI t
    · rw [if_pos c0]
      by_cases c1 : w.1 94 (720 + 8 * k + 1) ≤ d
      · rw [if_pos c1, if_pos (⟨c0, c1⟩ : _ ∧ _)]
        by_cases c2 : d < w.1 94 (720 + 8 * k + 4)
        · rw [if_pos c2, if_pos c2, ih (k + 1) f _ (by omega) (by omega)]
        · rw [if_neg c2, if_neg c2, ih (k + 1) f _ (by omega) (by omega)]
      · rw [if_neg c1, if_neg (fun z => c1 z.2), ih (k + 1) f _ (by omega) (by omega)]
    · rw [if_neg c0, if_neg (fun z => c0 z.1), ih (k + 1) f _ (by omega) (by omega)]
theorem m_where {w : jW} {nm t : Nat} {d : Int32} (h4 : w.1 94 4 = nI nm) (hm : nm ≤ 100) (ht : t < 40) : f_Model_whereOf (nI t) d w = some (mwh (w.1 94) nm t d, w) := by
  have a4 : f_Model_thingAt (nI t) 4 w = some (w.1 94 (240 + 12 * t + 4), w) := m_thingAt (c := 4) ht (by omega)
  have a5 : f_Model_thingAt (nI t) 5 w = some (w.1 94 (240 + 12 * t + 5), w) := m_thingAt (c := 5) ht (by omega)
  have a7 : f_Model_thingAt (nI t) 7 w = some (w.1 94 (240 + 12 * t + 7), w) := m_thingAt (c := 7) ht (by omega)
  have hj : f_Model_whereOf_j37 (nI t) d w = some (msc (w.1 94) t d nm 0 (w.1 94 (240 + 12 * t + 5)), w) := by
    rw [f_Model_whereOf_j37, a5, ob]
    exact m_where_h h4 hm nm 0 jfu _ (by omega) (by unfold jfu; omega)
  rw [f_Model_whereOf, mwh, a4, ob]
  by_cases c1 : d < w.1 94 (240 + 12 * t + 4)
  · rw [if_pos c1, if_pos c1]
  · rw [if_neg c1, if_neg c1, a7, ob]
    by_cases c2 : w.1 94 (240 + 12 * t + 7) < 0
    · rw [if_pos c2, hj, if_neg (fun z => z.1 c2)]
    · rw [if_neg c2]
      show (Option.bind (f_Model_thingAt (nI t) 7 w) _) = _
      rw [a7, ob]
      by_cases c3 : d < w.1 94 (240 + 12 * t + 7)
      · rw [if_pos c3, hj, if_neg (fun z => z.2 c3)]
      · rw [if_neg c3, if_pos ⟨c2, c3⟩]

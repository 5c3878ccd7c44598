/-! LAYER C of p48: ways, by the law's own reckoning -/
def Fin1 (o : Option (Int32 × jW)) : Prop := ∃ w', o = some (1, w')
def fwc (k : Nat) (W : Nat → Nat → Nat) : Nat → Nat → Nat := fun a b => if W a k + W k b < W a b then W a k + W k b else W a b
def wayW (w : jW) (W : Nat → Nat → Nat) : Prop := ∀ a b, a < 5 → b < 5 → w.1 95 (5 * a + b) = nI (W a b)
/-- zero to itself, at most 999 -/
def Wz (W : Nat → Nat → Nat) : Prop := (∀ a, a < 5 → W a a = 0) ∧ ∀ a b, a < 5 → b < 5 → W a b ≤ 999
/-- none, or a walk of that length -/
def Wr (A : Nat → Int32) (nr b0 : Nat) (W : Nat → Nat → Nat) : Prop := ∀ a b, a < 5 → b < 5 → W a b = 999 ∨ (W a b ≤ b0 ∧ ∃ n, Wk A nr a n b (W a b))
/-- at most each road -/
def We (A : Nat → Int32) (nr : Nat) (W : Nat → Nat → Nat) : Prop := ∀ r, r < nr → ∃ x y d, A (120 + 4 * r) = nI x ∧ A (120 + 4 * r + 1) = nI y ∧ A (120 + 4 * r + 2) = nI d ∧ x < 5 ∧ y < 5 ∧ x ≠ y ∧ 1 ≤ d ∧ d ≤ 9 ∧ W x y ≤ d ∧ W y x ≤ d
def Wt (k : Nat) (W : Nat → Nat → Nat) : Prop := ∀ j, j < k → ∀ a b, a < 5 → b < 5 → W a b ≤ W a j + W j b
section C4
variable {A A' : Nat → Int32} {c : Nat → Nat} {w : jW} {W : Nat → Nat → Nat}
theorem Wk_app {nr i y z : Nat} : ∀ m n l l', Wk A nr i n y l → Wk A nr y m z l' → ∃ n', Wk A nr i n' z (l + l') := by
  intro m
  induction m generalizing z with
  | zero =>
    intro n l l' h1 h2
    obtain ⟨rfl, rfl⟩ := h2
    exact ⟨n, h1⟩
  | succ m ih =>
    intro n l l' h1 h2
    obtain ⟨x, r, d, l2, a1, a2, a3, a4, a5, a6, a7, a8⟩ := h2
    obtain ⟨n', h⟩ := ih n l l2 h1 a8
    exact ⟨n' + 1, x, r, d, l + l2, a1, a2, a3, a4, a5, a6, by omega, h⟩
theorem fwc_le (k : Nat) {a b : Nat} : fwc k W a b ≤ W a b := by
  unfold fwc
  split <;> omega
theorem fwc_z (h : Wz W) {k : Nat} : Wz (fwc k W) := by
  refine ⟨fun a ha => ?_, fun a b ha hb => ?_⟩
  · have := fwc_le (W := W) k (a := a) (b := a)
    have := h.1 a ha
    omega
  · have := fwc_le (W := W) k (a := a) (b := b)
    have := h.2 a b ha hb
    omega
theorem fwc_r {nr b0 k : Nat} (h : Wz W) (hk : k < 5) (hr : Wr A nr b0 W) : Wr A nr (2 * b0) (fwc k W) := by
  intro a b ha hb
  have z := h.2 a b ha hb
  unfold fwc
  split
  · next q =>
    rcases hr a k ha hk with e | ⟨e1, n1, e2⟩
    · omega
    · rcases hr k b hk hb with e | ⟨f1, n2, f2⟩
      · omega
      · obtain ⟨n, g⟩ := Wk_app _ _ _ _ e2 f2
        exact Or.inr ⟨by omega, n, g⟩
  · rcases hr a b ha hb with e | ⟨e1, n1, e2⟩
    · exact Or.inl e
    · exact Or.inr ⟨by omega, n1, e2⟩
theorem fwc_e {nr k : Nat} (he : We A nr W) : We A nr (fwc k W) := by
  intro r hr
  obtain ⟨x, y, d, a1, a2, a3, a4, a5, a6, a7, a8, a9, a10⟩ := he r hr
  have := fwc_le (W := W) k (a := x) (b := y)
  have := fwc_le (W := W) k (a := y) (b := x)
  exact ⟨x, y, d, a1, a2, a3, a4, a5, a6, a7, a8, by omega, by omega⟩
theorem fwc_t {k : Nat} (h : Wz W) (hk : k < 5) (ht : Wt k W) : Wt (k + 1) (fwc k W) := by
  intro j hj a b ha hb
  have z := h.1 k hk
  by_cases e : j = k
  · subst e
    have e1 : fwc j W a j = W a j := by
      unfold fwc; rw [if_neg (by omega)]
    have e2 : fwc j W j b = W j b := by
      unfold fwc; rw [if_neg (by omega)]
    rw [e1, e2]
    unfold fwc
    split <;> omega
  · have hj' : j < k := by omega
    have t1 := ht j hj' a b ha hb
    have t2 := ht j hj' k b hk hb
    have t3 := ht j hj' a k ha hk
    have t4 := ht j hj' k k hk hk
    unfold fwc
    split <;> split <;> split <;> omega
/-- what the reckoning gives is the shortest way -/
theorem W_dis {nr : Nat} (hz : Wz W) (hr : Wr A nr 288 W) (he : We A nr W) (ht : Wt 5 W) {a b : Nat} (ha : a < 5) (hb : b < 5) : (W a b = 999 ∧ Dis A nr a b (-1)) ∨ (W a b ≤ 288 ∧ Dis A nr a b (nI (W a b))) := by
  have key : ∀ n y l, Wk A nr a n y l → y < 5 ∧ W a y ≤ l ∧ W a y ≤ 288 := by
    intro n
    induction n with
    | zero =>
      intro y l h
      obtain ⟨rfl, rfl⟩ := h
      have := hz.1 y ha
      exact ⟨ha, by omega, by omega⟩
    | succ n ih =>
      intro y l h
      obtain ⟨x, r, d, l2, a1, a2, a3, a4, a5, ⟨j1, j2⟩, a7, a8⟩ := h
      obtain ⟨i1, i2, i3⟩ := ih x l2 a8
      obtain ⟨x0, y0, d0, b1, b2, b3, b4, b5, b6, b7, b8, b9, b10⟩ := he r a1
      have ed : d = d0 := (nI_eq (by omega) (by omega)).mp (j1.symm.trans b3)
      have fin : y < 5 ∧ W x y ≤ d := by
        rcases j2 with ⟨j2, j3⟩ | ⟨j2, j3⟩
        · have e1 : x = x0 := (nI_eq (by omega) (by omega)).mp (j2.symm.trans b1)
          have e2 : y = y0 := (nI_eq (by omega) (by omega)).mp (j3.symm.trans b2)
          subst e1; subst e2
          exact ⟨b5, by omega⟩
        · have e1 : y = x0 := (nI_eq (by omega) (by omega)).mp (j2.symm.trans b1)
          have e2 : x = y0 := (nI_eq (by omega) (by omega)).mp (j3.symm.trans b2)
          subst e1; subst e2
          exact ⟨b4, by omega⟩
      have t := ht x i1 a y ha fin.1
      refine ⟨fin.1, by omega, ?_⟩
      rcases hr a y ha fin.1 with e | ⟨e, -⟩
      · omega
      · exact e
  rcases hr a b ha hb with e | ⟨e, n, e2⟩
  · refine Or.inl ⟨e, Or.inl ⟨rfl, fun n l h => ?_⟩⟩
    have := (key n b l h).2.2
    omega
  · exact Or.inr ⟨e, Or.inr ⟨W a b, rfl, by omega, ⟨n, e2⟩, fun n l h => (key n b l h).2.1⟩⟩
/-- one row of one round of the reckoning -/
theorem l_309 {xs : Nat → Int32} {Ls k a : Nat} {K291 : Int32 → jW → Option (Int32 × jW)} {K300 : Int32 → Int32 → jW → Option (Int32 × jW)} (hz : Wz W) (hk : k < 5) (ha : a < 5) : ∀ m b f (w : jW), b + m = 5 → m < f → (∀ i j, i < 5 → j < 5 → w.1 95 (5 * i + j) = nI (if i < a ∨ i = a ∧ j < b then fwc k W i j else W i j)) → ∃ w', f_Law_law_h309 xs Ls K291 K300 f (nI k) (nI a) (nI b) w = K300 (nI k) (nI (a + 1)) w' ∧ (∀ i j, i < 5 → j < 5 → w'.1 95 (5 * i + j) = nI (if i < a + 1 then fwc k W i j else W i j)) ∧ (∀ q, q ≠ 95 → w'.1 q = w.1 q) := by
  intro m
  induction m with
  | zero =>
    intro b f w hb hf h
    obtain ⟨f, rfl⟩ : ∃ j, f = j + 1 := ⟨f - 1, by omega⟩
    refine ⟨w, ?_, fun i j hi hj => ?_, fun _ _ => rfl⟩
    · rw [f_Law_law_h309, show b = 5 by omega, if_neg (by decide), ip_1]
    · rw [h i j hi hj]
      by_cases z : i < a + 1
      · rw [if_pos z, if_pos (by omega)]
      · rw [if_neg z, if_neg (by omega)]
  | succ m ih =>
    intro b f w hb hf h
    obtain ⟨f, rfl⟩ : ∃ j, f = j + 1 := ⟨f - 1, by omega⟩
    have hb5 : b < 5 := by omega
    have zk := hz.1 k hk
    have e1 : w.1 95 (5 * a + k) = nI (W a k) := by
      rw [h a k ha hk]
      congr 1
      unfold fwc
      split
      · rw [if_neg (by omega)]
      · rfl
    have e2 : w.1 95 (5 * k + b) = nI (W k b) := by
      rw [h k b hk hb5]
      congr 1
      unfold fwc
      split
      · rw [if_neg (by omega)]
      · rfl
    have e3 : w.1 95 (5 * a + b) = nI (W a b) := by
      rw [h a b ha hb5, if_neg (by omega)]
    have b1 := hz.2 a k ha hk
    have b2 := hz.2 k b hk hb5
    have b3 := hz.2 a b ha hb5
    have e4 : (if nI (W a k + W k b) < nI (W a b) then nI (W a k + W k b) else nI (W a b)) = nI (fwc k W a b) := by
      unfold fwc
      by_cases z : W a k + W k b < W a b
      · rw [if_pos (nI_lt z (by omega)), if_pos z]
      · rw [if_neg (nI_nlt (by omega) (by omega)), if_neg z]
    rw [f_Law_law_h309, if_pos (show nI b < 5 from nI_lt (b := 5) hb5 (by omega))]
    simp (disch := omega) only [im_5, nI_add, ip_1, jin_nI, jal_c, jal_n, nI_clamp, Bool.and_true, ↓reduceIte, jlw_e, e1, e2, e3]
    rw [e4]
    obtain ⟨w', g1, g2, g3⟩ := ih (b + 1) f (jup w.1 95 (5 * a + b) (nI (fwc k W a b)), w.2) (by omega) (by omega) (fun i j hi hj => by
      dsimp only
      rw [jup_ap]
      by_cases z : i = a ∧ j = b
      · rw [if_pos ⟨rfl, by omega⟩, if_pos (by omega), z.1, z.2]
      · rw [if_neg (by omega), h i j hi hj]
        by_cases y : i < a ∨ i = a ∧ j < b
        · rw [if_pos y, if_pos (by omega)]
        · rw [if_neg y, if_neg (by omega)])
    exact ⟨w', g1, g2, fun q hq => by rw [g3 q hq]; dsimp only; rw [jup_fn hq]⟩
theorem l_300 {xs : Nat → Int32} {Ls k : Nat} {K291 : Int32 → jW → Option (Int32 × jW)} (hz : Wz W) (hk : k < 5) : ∀ m a f (w : jW), a + m = 5 → m < f → (∀ i j, i < 5 → j < 5 → w.1 95 (5 * i + j) = nI (if i < a then fwc k W i j else W i j)) → ∃ w', f_Law_law_h300 xs Ls K291 f (nI k) (nI a) w = K291 (nI (k + 1)) w' ∧ wayW w' (fwc k W) ∧ (∀ q, q ≠ 95 → w'.1 q = w.1 q) := by
  intro m
  induction m with
  | zero =>
    intro a f w ha hf h
    obtain ⟨f, rfl⟩ : ∃ j, f = j + 1 := ⟨f - 1, by omega⟩
    refine ⟨w, ?_, fun i j hi hj => ?_, fun _ _ => rfl⟩
    · rw [f_Law_law_h300, show a = 5 by omega, if_neg (by decide), ip_1]
    · rw [h i j hi hj, if_pos (by omega)]
  | succ m ih =>
    intro a f w ha hf h
    obtain ⟨f, rfl⟩ : ∃ j, f = j + 1 := ⟨f - 1, by omega⟩
    obtain ⟨w1, g1, g2, g3⟩ := l_309 (xs := xs) (Ls := Ls) (K291 := K291) (K300 := f_Law_law_h300 xs Ls K291 f) hz hk (show a < 5 by omega) 5 0 jfu w (by omega) (by unfold jfu; omega) (fun i j hi hj => by
      rw [h i j hi hj]
      by_cases z : i < a
      · rw [if_pos z, if_pos (Or.inl z)]
      · rw [if_neg z, if_neg (by omega)])
    obtain ⟨w', k1, k2, k3⟩ := ih (a + 1) f w1 (by omega) (by omega) g2
    refine ⟨w', ?_, k2, fun q hq => (k3 q hq).trans (g3 q hq)⟩
    rw [f_Law_law_h300, if_pos (show nI a < 5 from nI_lt (b := 5) (by omega) (by omega))]
    exact g1.trans k1
theorem l_291 {xs : Nat → Int32} {Ls : Nat} {nr : Nat} : ∀ m k f (w : jW) (W : Nat → Nat → Nat), k + m = 5 → m < f → wayW w W → Wz W → Wr A nr (9 * 2 ^ k) W → We A nr W → Wt k W → ∃ w' W', f_Law_law_h291 xs Ls f (nI k) w = f_Law_law_h380 xs Ls jfu 0 w' ∧ wayW w' W' ∧ Wz W' ∧ Wr A nr 288 W' ∧ We A nr W' ∧ Wt 5 W' ∧ (∀ q, q ≠ 95 → w'.1 q = w.1 q) := by
  intro m
  induction m with
  | zero =>
    intro k f w W hk hf h1 h2 h3 h4 h5
    obtain ⟨f, rfl⟩ : ∃ j, f = j + 1 := ⟨f - 1, by omega⟩
    have e : k = 5 := by omega
    subst e
    exact ⟨w, W, by rw [f_Law_law_h291, if_neg (by decide)], h1, h2, h3, h4, h5, fun _ _ => rfl⟩
  | succ m ih =>
    intro k f w W hk hf h1 h2 h3 h4 h5
    obtain ⟨f, rfl⟩ : ∃ j, f = j + 1 := ⟨f - 1, by omega⟩
    obtain ⟨w1, g1, g2, g3⟩ := l_300 (xs := xs) (Ls := Ls) (K291 := f_Law_law_h291 xs Ls f) h2 (show k < 5 by omega) 5 0 jfu w (by omega) (by unfold jfu; omega) (fun i j hi hj => by rw [if_neg (by omega)]; exact h1 i j hi hj)
    have h3' := fwc_r h2 (show k < 5 by omega) h3
    rw [show 2 * (9 * 2 ^ k) = 9 * 2 ^ (k + 1) by rw [Nat.pow_succ]; omega] at h3'
    obtain ⟨w', W', k1, k2, k3, k4, k5, k6, k7⟩ := ih (k + 1) f w1 (fwc k W) (by omega) (by omega) g2 (fwc_z h2) h3' (fwc_e h4) (fwc_t h2 (by omega) h5)
    refine ⟨w', W', ?_, k2, k3, k4, k5, k6, fun q hq => (k7 q hq).trans (g3 q hq)⟩
    rw [f_Law_law_h291, if_pos (show nI k < 5 from nI_lt (b := 5) (by omega) (by omega))]
    exact g1.trans k1
end C4

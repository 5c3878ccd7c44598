/-! LAYER C of p48: where things were, in numbers -/
def na (A : Nat → Int32) (i : Nat) : Nat := (A i).toNatClampNeg
/-- the place by the first n moves, each told by its own day: the j-th counts if it left before e j -/
def pl (A : Nat → Int32) (t : Nat) (e : Nat → Nat) : Nat → Nat
  | 0 => na A (240 + 12 * t + 5)
  | n + 1 => if A (720 + 8 * n) = nI t ∧ na A (720 + 8 * n + 1) < e n then (if e n ≤ na A (720 + 8 * n + 4) then 100 else na A (720 + 8 * n + 3)) else pl A t e n
def kd (d : Nat) : Nat → Nat := fun _ => d + 1
/-- how many of the first n -/
def ct (P : Nat → Bool) : Nat → Nat
  | 0 => 0
  | n + 1 => ct P n + if P n = true then 1 else 0
theorem ct_le (P : Nat → Bool) : ∀ n, ct P n ≤ n := by
  intro n
  induction n with
  | zero => exact Nat.le_refl _
  | succ n ih => rw [ct]; split <;> omega
theorem ct_eq {P Q : Nat → Bool} : ∀ n, (∀ t, t < n → P t = Q t) → ct P n = ct Q n := by
  intro n
  induction n with
  | zero => intro _; rfl
  | succ n ih => intro h; rw [ct, ct, ih (fun t q => h t (by omega)), h n (by omega)]
theorem ct_mono {P Q : Nat → Bool} : ∀ n, (∀ t, t < n → P t = true → Q t = true) → ct P n ≤ ct Q n := by
  intro n
  induction n with
  | zero => intro _; exact Nat.le_refl _
  | succ n ih =>
    intro h
    have := ih (fun t q => h t (by omega))
    have a := h n (by omega)
    rw [ct, ct]
    by_cases z : P n = true
    · rw [if_pos z, if_pos (a z)]; omega
    · rw [if_neg z]; omega
theorem ct_flip {P Q : Nat → Bool} {t : Nat} : ∀ n, t < n → (∀ t', t' < n → t' ≠ t → P t' = Q t') → P t = true → Q t = false → ct P n = ct Q n + 1 := by
  intro n
  induction n with
  | zero => intro h; omega
  | succ n ih =>
    intro h1 h2 h3 h4
    rw [ct, ct]
    by_cases z : t = n
    · subst z
      rw [ct_eq t (fun t' q => h2 t' (by omega) (by omega)), h3, h4]; rfl
    · rw [ih (by omega) (fun t' q1 q2 => h2 t' (by omega) q2) h3 h4, h2 n (by omega) (fun y => z y.symm)]; omega
theorem dec_eq {p q : Prop} [Decidable p] [Decidable q] (h : p ↔ q) : decide p = decide q := by
  by_cases z : p
  · rw [decide_eq_true z, decide_eq_true (h.mp z)]
  · rw [decide_eq_false z, decide_eq_false (fun y => z (h.mpr y))]
/-- what holds of the things -/
def HTh (A : Nat → Int32) (c : Nat → Nat) : Prop := ∀ t, t < c 3 → ∃ so mk st, A (240 + 12 * t) = nI so ∧ A (240 + 12 * t + 4) = nI mk ∧ A (240 + 12 * t + 5) = nI st ∧ so < 3 ∧ mk ≤ c 0 ∧ st < 5 ∧ (0 < mk → A (40 + 8 * st + 1) = 1) ∧ fitF A so t ≠ 0 ∧ ¬ A (240 + 12 * t + 1) < A (20 + 4 * so)
/-- of the moves -/
def HMv (A : Nat → Int32) (c : Nat → Nat) : Prop := ∀ k, k < c 4 → ∃ t d x y e, A (720 + 8 * k) = nI t ∧ A (720 + 8 * k + 1) = nI d ∧ A (720 + 8 * k + 2) = nI x ∧ A (720 + 8 * k + 3) = nI y ∧ A (720 + 8 * k + 4) = nI e ∧ t < c 3 ∧ d ≤ c 0 ∧ d < e ∧ e ≤ 1999 ∧ x < 5 ∧ y < 5 ∧ na A (240 + 12 * t + 4) ≤ d ∧ (0 < d → na A (240 + 12 * t + 4) < d) ∧ x = pl A t (kd d) k ∧ (∀ j, j < k → A (720 + 8 * j) = nI t → na A (720 + 8 * j + 4) ≤ d) ∧ (A (240 + 12 * t + 7) = -1 ∨ e ≤ na A (240 + 12 * t + 7))
/-- of the things that are gone -/
def HGn (A : Nat → Int32) (c : Nat → Nat) : Prop := ∀ t, t < c 3 → A (240 + 12 * t + 7) = -1 ∨ ∃ g p, A (240 + 12 * t + 7) = nI g ∧ g ≤ c 0 ∧ na A (240 + 12 * t + 4) ≤ g ∧ p = pl A t (kd g) (c 4) ∧ p < 5 ∧ A (40 + 8 * p + 1) = 3
def Bd (c : Nat → Nat) : Prop := c 0 ≤ 1999 ∧ c 3 ≤ 40 ∧ c 4 ≤ 100 ∧ c 5 ≤ 40 ∧ c 8 ≤ 100 ∧ c 9 ≤ 100
/-- how many of a sort are at a site on a day -/
def cn (A : Nat → Int32) (c : Nat → Nat) (i s d : Nat) : Nat := ct (fun t => decide (A (240 + 12 * t) = nI s ∧ mwh A (c 4) t (nI d) = nI i)) (c 3)
/-- no move breaks -/
def noB (A : Nat → Int32) (c : Nat → Nat) (i p d : Nat) : Prop := ∀ k, k < c 4 → ¬ (A (720 + 8 * k + 2) = nI i ∧ p < na A (720 + 8 * k + 1) ∧ na A (720 + 8 * k + 1) ≤ d) ∧ ¬ (A (720 + 8 * k + 3) = nI i ∧ p < na A (720 + 8 * k + 4) ∧ na A (720 + 8 * k + 4) ≤ d)
/-- of the visits -/
def HVi (A : Nat → Int32) (c : Nat → Nat) : Prop := ∀ k, k < c 8 → ∃ i d, A (11280 + 12 * k + 1) = nI i ∧ A (11280 + 12 * k + 2) = nI d ∧ i < 5 ∧ 1 ≤ d ∧ d ≤ c 0 ∧ (∀ s, s < 4 → A (11280 + 12 * k + 3 + s) = nI (cn A c i s (d - 1))) ∧ A (11280 + 12 * k + 7) = 0 ∧ (A (11280 + 12 * k + 8) = 1 → ∃ l p, l < c 5 ∧ A (11280 + 12 * k + 9) = nI l ∧ A (1520 + 4 * l + 1) = nI p ∧ p ≤ c 0 ∧ noB A c i p (d - 1))
/-- of the pictures -/
def HPc (A : Nat → Int32) (c : Nat → Nat) : Prop := ∀ k, k < c 9 → ∃ i d n, A (12480 + 4 * k) = nI i ∧ A (12480 + 4 * k + 1) = nI d ∧ A (12480 + 4 * k + 2) = nI n ∧ i < 5 ∧ 1 ≤ d ∧ d ≤ c 0 ∧ n ≤ 40 ∧ ∀ s, s < 4 → ¬ A (20 + 4 * s) < A 16 → cn A c i s (d - 1) ≤ n
def HI (A : Nat → Int32) (c : Nat → Nat) : Prop := Bd c ∧ HTh A c ∧ HMv A c ∧ HGn A c ∧ HVi A c ∧ HPc A c
section C1
variable {A A' : Nat → Int32} {c c' : Nat → Nat}
theorem na_e {i n : Nat} (h : A i = nI n) (hn : n < 2 ^ 31) : na A i = n := by rw [na, h, nI_clamp hn]
theorem plc_pl (B : Bd c) (T : HTh A c) (M : HMv A c) {t d : Nat} (ht : t < c 3) (hd : d ≤ 1999) : ∀ n, n ≤ c 4 → plc A t (nI d) (A (240 + 12 * t + 5)) n = nI (pl A t (kd d) n) := by
  obtain ⟨b0, b3, b4, -⟩ := B
  intro n
  induction n with
  | zero =>
    intro _
    obtain ⟨so, mk, st, a1, a2, a3, a4, a5, a6, -⟩ := T t ht
    rw [plc, pl, na_e a3 (by omega), a3]
  | succ n ih =>
    intro hn
    obtain ⟨t', d', x, y, e, a1, a2, a3, a4, a5, a6, a7, a8, a9, a10, a11, -⟩ := M n (by omega)
    rw [plc, pl, na_e a2 (by omega), na_e a4 (by omega), na_e a5 (by omega), ih (by omega), a2, a4, a5]
    have e1 : (nI d' ≤ nI d) = (d' < kd d n) := by rw [ii_le (by omega) (by omega), kd, Nat.lt_succ_iff]
    have e2 : (nI d < nI e) = (kd d n ≤ e) := by rw [ii_lt (by omega) (by omega), kd]; rfl
    simp only [e1, e2]
    split
    · split
      · rfl
      · rfl
    · rfl
theorem mwh_pl (B : Bd c) (T : HTh A c) (M : HMv A c) (G : HGn A c) {t d : Nat} (ht : t < c 3) (hd : d ≤ 1999) : mwh A (c 4) t (nI d) = if d < na A (240 + 12 * t + 4) then 102 else if A (240 + 12 * t + 7) ≠ -1 ∧ na A (240 + 12 * t + 7) ≤ d then 101 else nI (pl A t (kd d) (c 4)) := by
  have B' := B
  obtain ⟨b0, b3, b4, -⟩ := B'
  obtain ⟨so, mk, st, a1, a2, a3, a4, a5, a6, -⟩ := T t ht
  have q := msc_plc A t (nI d) (A (240 + 12 * t + 5)) (c 4) 0
  rw [Nat.zero_add, plc_pl B T M ht hd _ (Nat.le_refl _)] at q
  have q' : msc A t (nI d) (c 4) 0 (A (240 + 12 * t + 5)) = nI (pl A t (kd d) (c 4)) := q
  rw [mwh, q', a2, na_e a2 (by omega)]
  have e1 : (nI d < nI mk) = (d < mk) := ii_lt (by omega) (by omega)
  simp only [e1]
  by_cases z : d < mk
  · rw [if_pos z, if_pos z]
  rw [if_neg z, if_neg z]
  rcases G t ht with g | ⟨g, p, g1, g2, g3, -⟩
  · rw [g, if_neg (fun y => y.1 (by decide)), if_neg (fun y => y.1 rfl)]
  · rw [g1, na_e g1 (by omega)]
    by_cases y : g ≤ d
    · rw [if_pos ⟨nI_pos (by omega), nI_nlt y (by omega)⟩, if_pos ⟨nI_ne_m1 (by omega), y⟩]
    · rw [if_neg (fun u => u.2 (nI_lt (by omega) (by omega))), if_neg (fun u => y u.2)]
theorem pl_bd (B : Bd c) (T : HTh A c) (M : HMv A c) {t : Nat} (ht : t < c 3) (e : Nat → Nat) : ∀ n, n ≤ c 4 → pl A t e n < 5 ∨ pl A t e n = 100 := by
  obtain ⟨b0, b3, b4, -⟩ := B
  intro n
  induction n with
  | zero =>
    intro _
    obtain ⟨so, mk, st, a1, a2, a3, a4, a5, a6, -⟩ := T t ht
    rw [pl, na_e a3 (by omega)]; exact Or.inl a6
  | succ n ih =>
    intro hn
    obtain ⟨t', d', x, y, e', a1, a2, a3, a4, a5, a6, a7, a8, a9, a10, a11, -⟩ := M n (by omega)
    rw [pl, na_e a4 (by omega)]
    split
    · split
      · exact Or.inr rfl
      · exact Or.inl a11
    · exact ih (by omega)
/-- at a site on a day, in numbers -/
theorem at_pl (B : Bd c) (T : HTh A c) (M : HMv A c) (G : HGn A c) {t d i : Nat} (ht : t < c 3) (hd : d ≤ 1999) (hi : i < 5) : mwh A (c 4) t (nI d) = nI i ↔ na A (240 + 12 * t + 4) ≤ d ∧ ¬ (A (240 + 12 * t + 7) ≠ -1 ∧ na A (240 + 12 * t + 7) ≤ d) ∧ pl A t (kd d) (c 4) = i := by
  rw [mwh_pl B T M G ht hd]
  have l := pl_bd B T M ht (kd d) (c 4) (Nat.le_refl _)
  by_cases z : d < na A (240 + 12 * t + 4)
  · rw [if_pos z]
    exact ⟨fun y => absurd ((nI_eq (a := 102) (by omega) (by omega)).mp y) (by omega), fun y => by omega⟩
  rw [if_neg z]
  by_cases y : A (240 + 12 * t + 7) ≠ -1 ∧ na A (240 + 12 * t + 7) ≤ d
  · rw [if_pos y]
    exact ⟨fun u => absurd ((nI_eq (a := 101) (by omega) (by omega)).mp u) (by omega), fun u => absurd y u.2.1⟩
  · rw [if_neg y, nI_eq (by omega) (by omega)]
    exact ⟨fun u => ⟨by omega, y, u⟩, fun u => u.2.2⟩
theorem pl_ext {t : Nat} {e e' : Nat → Nat} : ∀ n, (∀ j, j < n → A (720 + 8 * j) = nI t → ((na A (720 + 8 * j + 1) < e j ↔ na A (720 + 8 * j + 1) < e' j) ∧ (e j ≤ na A (720 + 8 * j + 4) ↔ e' j ≤ na A (720 + 8 * j + 4)))) → pl A t e n = pl A t e' n := by
  intro n
  induction n with
  | zero => intro _; rfl
  | succ n ih =>
    intro h
    rw [pl, pl, ih (fun j q => h j (by omega))]
    by_cases z : A (720 + 8 * n) = nI t
    · obtain ⟨h1, h2⟩ := h n (by omega) z
      by_cases y : na A (720 + 8 * n + 1) < e n
      · rw [if_pos (show A (720 + 8 * n) = nI t ∧ na A (720 + 8 * n + 1) < e n from ⟨z, y⟩), if_pos (show A (720 + 8 * n) = nI t ∧ na A (720 + 8 * n + 1) < e' n from ⟨z, h1.mp y⟩)]
        by_cases u : e n ≤ na A (720 + 8 * n + 4)
        · rw [if_pos u, if_pos (h2.mp u)]
        · rw [if_neg u, if_neg (fun v => u (h2.mpr v))]
      · rw [if_neg (fun v => y v.2), if_neg (fun v => y (h1.mpr v.2))]
    · rw [if_neg (fun v => z v.1), if_neg (fun v => z v.1)]
theorem pl_cut {t k : Nat} {e : Nat → Nat} : ∀ m, (∀ j, k ≤ j → j < k + m → A (720 + 8 * j) = nI t → ¬ na A (720 + 8 * j + 1) < e j) → pl A t e (k + m) = pl A t e k := by
  intro m
  induction m with
  | zero => intro _; rfl
  | succ m ih =>
    intro h
    rw [show k + (m + 1) = (k + m) + 1 by omega, pl, if_neg (fun z => h (k + m) (by omega) (by omega) z.1 z.2)]
    exact ih (fun j q1 q2 => h j q1 (by omega))
theorem pl_ar (B : Bd c) (M : HMv A c) {t d : Nat} (hd : ∀ k, k < c 4 → na A (720 + 8 * k + 1) ≤ d) : ∀ n, n ≤ c 4 → pl A t (kd d) n ≠ 100 → ∀ k, k < n → A (720 + 8 * k) = nI t → na A (720 + 8 * k + 4) ≤ d := by
  obtain ⟨b0, b3, b4, -⟩ := B
  intro n
  induction n with
  | zero => intro _ _ k hk; omega
  | succ n ih =>
    intro hn h k hk hkt
    rw [pl] at h
    have hdn := hd n (by omega)
    by_cases z : A (720 + 8 * n) = nI t
    · rw [if_pos ⟨z, show na A (720 + 8 * n + 1) < d + 1 by omega⟩] at h
      have h2 : ¬ kd d n ≤ na A (720 + 8 * n + 4) := fun y => h (if_pos y)
      unfold kd at h2
      by_cases y : k = n
      · rw [y]; omega
      · obtain ⟨t', d', x, y', e', a1, a2, a3, a4, a5, a6, a7, a8, a9, a10, a11, a12, a13, a14, a15, a16⟩ := M n (by omega)
        have e1 := a15 k (by omega) (by rw [hkt, ← z, a1])
        rw [na_e a2 (by omega)] at hdn
        omega
    · rw [if_neg (fun y => z y.1)] at h
      by_cases y : k = n
      · subst y; exact absurd hkt z
      · exact ih (by omega) h k (by omega) hkt
/-- days: the moves before the k-th tell of day d, the others of the day before -/
def mx (d k : Nat) : Nat → Nat := fun j => if j < k then d + 1 else d
/-- what is counted while day d's moves are gone through -/
abbrev rp (A : Nat → Int32) (c : Nat → Nat) (i s d k t : Nat) : Prop := A (240 + 12 * t) = nI s ∧ na A (240 + 12 * t + 4) < max d 1 ∧ (A (240 + 12 * t + 7) = -1 ∨ d ≤ na A (240 + 12 * t + 7)) ∧ pl A t (mx d k) (c 4) = i
def rc (A : Nat → Int32) (c : Nat → Nat) (i s d k : Nat) : Nat := ct (fun t => decide (rp A c i s d k t)) (c 3)
theorem rc_eq {i s d k k' : Nat} (h : ∀ t, t < c 3 → (rp A c i s d k t ↔ rp A c i s d k' t)) : rc A c i s d k = rc A c i s d k' := ct_eq _ (fun t ht => by
  have a := h t ht
  by_cases z : rp A c i s d k t
  · rw [decide_eq_true z, decide_eq_true (a.mp z)]
  · rw [decide_eq_false z, decide_eq_false (fun y => z (a.mpr y))])
theorem rc_flip {i s d k k' t : Nat} (ht : t < c 3) (h : ∀ t', t' < c 3 → t' ≠ t → (rp A c i s d k t' ↔ rp A c i s d k' t')) (h1 : rp A c i s d k t) (h2 : ¬ rp A c i s d k' t) : rc A c i s d k = rc A c i s d k' + 1 := ct_flip _ ht (fun t' q1 q2 => by
  have a := h t' q1 q2
  by_cases z : rp A c i s d k t'
  · rw [decide_eq_true z, decide_eq_true (a.mp z)]
  · rw [decide_eq_false z, decide_eq_false (fun y => z (a.mpr y))]) (decide_eq_true h1) (decide_eq_false h2)
theorem mx_ne {d k j : Nat} (h : j ≠ k) : mx d k j = mx d (k + 1) j := by
  unfold mx
  by_cases z : j < k
  · rw [if_pos z, if_pos (by omega)]
  · rw [if_neg z, if_neg (by omega)]
theorem mx_lt {d k j : Nat} (h : j < k) : mx d k j = d + 1 := if_pos h
theorem mx_ge {d k j : Nat} (h : ¬ j < k) : mx d k j = d := if_neg h
/-- one move on day d -/
theorem rc_step (B : Bd c) (T : HTh A c) (M : HMv A c) {i s d k : Nat} (hi : i < 5) (hd : d ≤ 1999) (hs : s < 4) (hk : k < c 4) : ∃ t so, A (720 + 8 * k) = nI t ∧ t < c 3 ∧ A (240 + 12 * t) = nI so ∧ so < 3 ∧ fitF A so t ≠ 0 ∧
    (A (720 + 8 * k + 2) = nI i ∧ A (720 + 8 * k + 1) = nI d → ¬ (A (720 + 8 * k + 3) = nI i ∧ A (720 + 8 * k + 4) = nI d) ∧ (so = s → rc A c i s d k = rc A c i s d (k + 1) + 1) ∧ (so ≠ s → rc A c i s d (k + 1) = rc A c i s d k)) ∧
    (A (720 + 8 * k + 3) = nI i ∧ A (720 + 8 * k + 4) = nI d → (so = s → rc A c i s d (k + 1) = rc A c i s d k + 1) ∧ (so ≠ s → rc A c i s d (k + 1) = rc A c i s d k)) ∧
    (¬ (A (720 + 8 * k + 2) = nI i ∧ A (720 + 8 * k + 1) = nI d) → ¬ (A (720 + 8 * k + 3) = nI i ∧ A (720 + 8 * k + 4) = nI d) → rc A c i s d (k + 1) = rc A c i s d k) := by
  have B' := B
  obtain ⟨b0, b3, b4, -⟩ := B'
  obtain ⟨t, dk, x, y, e, c1, c2, c3, c4, c5, ht, c7, c8, c9, c10, c11, c12, c13, c14, c15, c16⟩ := M k hk
  obtain ⟨so, mk, st, a1, a2, a3, a4, a5, a6, a7, a8, -⟩ := T t ht
  have n1 := na_e c2 (by omega)
  have n4 := na_e c5 (by omega)
  have nm := na_e a2 (by omega)
  rw [nm] at c12 c13
  refine ⟨t, so, c1, ht, a1, a4, a8, ?_⟩
  have q1 : (A (720 + 8 * k + 2) = nI i ∧ A (720 + 8 * k + 1) = nI d) ↔ x = i ∧ dk = d := by rw [c3, c2, nI_eq (by omega) (by omega), nI_eq (by omega) (by omega)]
  have q2 : (A (720 + 8 * k + 3) = nI i ∧ A (720 + 8 * k + 4) = nI d) ↔ y = i ∧ e = d := by rw [c4, c5, nI_eq (by omega) (by omega), nI_eq (by omega) (by omega)]
  rw [q1, q2]
  have ne : ∀ t', t' < c 3 → t' ≠ t → (rp A c i s d k t' ↔ rp A c i s d (k + 1) t') := fun t' h1 h2 => by
    have e1 : pl A t' (mx d k) (c 4) = pl A t' (mx d (k + 1)) (c 4) := pl_ext _ (fun j hj hjt => by
      have jk : j ≠ k := fun z => h2 (by
        rw [z, c1] at hjt
        exact ((nI_eq (by omega) (by omega)).mp hjt).symm)
      rw [mx_ne jk]
      exact ⟨Iff.rfl, Iff.rfl⟩)
    unfold rp
    rw [e1]
  have later : ∀ j, k < j → j < c 4 → A (720 + 8 * j) = nI t → e ≤ na A (720 + 8 * j + 1) := fun j h1 h2 h3 => by
    obtain ⟨t2, d2, x2, y2, e2, f1, f2, f3, f4, f5, f6, f7, f8, f9, f10, f11, f12, f13, f14, f15, f16⟩ := M j h2
    have z : t2 = t := (nI_eq (by omega) (by omega)).mp (f1.symm.trans h3)
    have h := f15 k h1 (by rw [c1, z])
    rw [n4] at h
    rw [na_e f2 (by omega)]; exact h
  have sos : so ≠ s → rc A c i s d (k + 1) = rc A c i s d k := fun h => (rc_eq (fun t' ht' => by
    by_cases z : t' = t
    · subst z
      have no : ∀ k', ¬ rp A c i s d k' t' := fun k' h2 => h ((nI_eq (by omega) (by omega)).mp (a1.symm.trans h2.1))
      exact ⟨fun y => absurd y (no _), fun y => absurd y (no _)⟩
    · exact ne t' ht' z)).symm
  have gd : ∀ d', d' ≤ e → (A (240 + 12 * t + 7) = -1 ∨ d' ≤ na A (240 + 12 * t + 7)) := fun d' h => c16.imp id (fun z => by omega)
  have ck : ∀ k', pl A t (mx d k') (c 4) = pl A t (mx d k') (k + 1 + (c 4 - (k + 1))) := fun k' => by rw [show k + 1 + (c 4 - (k + 1)) = c 4 by omega]
  -- leaving on day d
  have L : dk = d → pl A t (mx d k) (c 4) = x ∧ pl A t (mx d (k + 1)) (c 4) = 100 := fun h => by
    constructor
    · rw [show c 4 = k + (c 4 - k) by omega, pl_cut (c 4 - k) (fun j h1 h2 h3 h4 => by
        rw [mx_ge (by omega)] at h4
        by_cases z : j = k
        · subst z; omega
        · have := later j (by omega) (by omega) h3
          omega), c14]
      exact pl_ext k (fun j hj _ => by rw [mx_lt hj, kd, h]; exact ⟨Iff.rfl, Iff.rfl⟩)
    · rw [ck, pl_cut _ (fun j h1 h2 h3 h4 => by
        rw [mx_ge (by omega)] at h4
        have := later j (by omega) (by omega) h3
        omega), pl, mx_lt (Nat.lt_succ_self k), n1, n4, if_pos ⟨c1, by omega⟩, if_pos (by omega)]
  -- coming on day d
  have C : e = d → pl A t (mx d k) (c 4) = 100 ∧ pl A t (mx d (k + 1)) (c 4) = y := fun h => by
    constructor
    · rw [ck, pl_cut _ (fun j h1 h2 h3 h4 => by
        rw [mx_ge (by omega)] at h4
        have := later j (by omega) (by omega) h3
        omega), pl, mx_ge (by omega), n1, n4, if_pos ⟨c1, by omega⟩, if_pos (by omega)]
    · rw [ck, pl_cut _ (fun j h1 h2 h3 h4 => by
        rw [mx_ge (by omega)] at h4
        have := later j (by omega) (by omega) h3
        omega), pl, mx_lt (Nat.lt_succ_self k), n1, n4, if_pos ⟨c1, by omega⟩, if_neg (by omega), na_e c4 (by omega)]
  have alive : dk = d ∨ e = d → na A (240 + 12 * t + 4) < max d 1 ∧ (A (240 + 12 * t + 7) = -1 ∨ d ≤ na A (240 + 12 * t + 7)) := fun h => by
    refine ⟨?_, gd d (by omega)⟩
    rw [nm]
    omega
  refine ⟨fun h => ⟨fun h2 => by omega, fun h3 => ?_, sos⟩, fun h => ⟨fun h3 => ?_, sos⟩, fun h1 h2 => ?_⟩
  · obtain ⟨l1, l2⟩ := L h.2
    exact rc_flip ht ne ⟨by rw [a1, h3], (alive (Or.inl h.2)).1, (alive (Or.inl h.2)).2, by rw [l1, h.1]⟩ (fun z => by have := z.2.2.2; rw [l2] at this; omega)
  · obtain ⟨l1, l2⟩ := C h.2
    exact rc_flip ht (fun t' u1 u2 => (ne t' u1 u2).symm) ⟨by rw [a1, h3], (alive (Or.inr h.2)).1, (alive (Or.inr h.2)).2, by rw [l2, h.1]⟩ (fun z => by have := z.2.2.2; rw [l1] at this; omega)
  · refine (rc_eq (fun t' ht' => ?_)).symm
    by_cases z : t' = t
    · subst z
      have key : pl A t' (mx d k) (c 4) = i ↔ pl A t' (mx d (k + 1)) (c 4) = i := by
        by_cases z1 : dk = d
        · obtain ⟨l1, l2⟩ := L z1
          rw [l1, l2]
          exact ⟨fun u => absurd ⟨u, z1⟩ h1, fun u => by omega⟩
        · by_cases z2 : e = d
          · obtain ⟨l1, l2⟩ := C z2
            rw [l1, l2]
            exact ⟨fun u => by omega, fun u => absurd ⟨u, z2⟩ h2⟩
          · rw [pl_ext (e := mx d k) (e' := mx d (k + 1)) (c 4) (fun j hj hjt => by
              by_cases jk : j = k
              · subst jk
                rw [mx_lt (Nat.lt_succ_self j), mx_ge (Nat.lt_irrefl j), n1, n4]
                exact ⟨by omega, by omega⟩
              · rw [mx_ne jk]; exact ⟨Iff.rfl, Iff.rfl⟩)]
      unfold rp
      rw [key]
    · exact ne t' ht' z
theorem rc_41 (B : Bd c) {i s d k : Nat} : rc A c i s d k ≤ 40 := by
  have := ct_le (fun t => decide (rp A c i s d k t)) (c 3)
  have := B.2.1
  unfold rc
  omega
theorem on_f {s so t : Nat} (h : fitF A so t ≠ 0) (hne : so ≠ s) (h4 : so < 4) : onF A s t 4 0 = false := by
  have : so = 0 ∨ so = 1 ∨ so = 2 ∨ so = 3 := by omega
  rcases this with rfl | rfl | rfl | rfl <;> simp [onF, hne, h]
theorem sh_keep {s so t r : Nat} {a : Bool} {y : Int64} (h : fitF A so t ≠ 0) (hne : so ≠ s) (h4 : so < 4) (g : gb y r = true) : gb (shF A s t a y) r = true := by
  unfold shF
  split
  · exact g
  · rw [on_f h hne h4, if_neg (by decide), gb_or, g]; rfl
theorem sh_dn {s t r : Nat} {y : Int64} (h : fitF A s t ≠ 0) (b : B41 y) (g : gb y (r + 1) = true) : gb (shF A s t false y) r = true := by
  unfold shF
  rw [if_neg h]
  split
  · rw [if_neg (by decide), gb_dn b]; exact g
  · rw [if_neg (by decide), gb_or, gb_dn b, g, Bool.or_true]
theorem sh_up {s t r : Nat} {y : Int64} (h : fitF A s t ≠ 0) (hr : r + 1 < 41) (g : gb y r = true) : gb (shF A s t true y) (r + 1) = true := by
  have e : gb (upS y) (r + 1) = true := by
    rw [gb_up, decide_eq_true (by omega), decide_eq_true hr, show r + 1 - 1 = r by omega, g]; rfl
  unfold shF
  rw [if_neg h]
  split
  · rw [if_pos rfl]; exact e
  · rw [if_pos rfl, gb_or, e, Bool.or_true]
/-- the records of a day -/
theorem rec_gb (B : Bd c) (T : HTh A c) (M : HMv A c) {i s d : Nat} (hi : i < 5) (hd : d ≤ 1999) (hs : s < 4) : ∀ m k y, k + m = c 4 → B41 y → gb y (rc A c i s d k) = true → gb (recF A (nI i) s (nI d) m k y) (rc A c i s d (c 4)) = true := by
  have B' := B
  obtain ⟨b0, b3, b4, -⟩ := B'
  intro m
  induction m with
  | zero => intro k y hk _ g; rw [← hk]; exact g
  | succ m ih =>
    intro k y hk hb g
    rw [recF]
    refine ih (k + 1) _ (by omega) (B41_s2 (B41_s1 hb)) ?_
    obtain ⟨t, so, a1, a2, a3, a4, a5, h1, h2, h3⟩ := rc_step B T M (s := s) (k := k) hi hd hs (by omega)
    unfold s2F s1F
    rw [a1, nI_clamp (by omega)]
    have r41 := rc_41 (A := A) B (i := i) (s := s) (d := d) (k := k + 1)
    by_cases z1 : A (720 + 8 * k + 2) = nI i ∧ A (720 + 8 * k + 1) = nI d
    · obtain ⟨u1, u2, u3⟩ := h1 z1
      rw [if_pos z1, if_neg u1]
      by_cases z : so = s
      · subst z
        rw [u2 rfl] at g
        exact sh_dn a5 hb g
      · rw [u3 z]
        exact sh_keep a5 z (by omega) g
    · rw [if_neg z1]
      by_cases z2 : A (720 + 8 * k + 3) = nI i ∧ A (720 + 8 * k + 4) = nI d
      · obtain ⟨u2, u3⟩ := h2 z2
        rw [if_pos z2]
        by_cases z : so = s
        · subst z
          rw [u2 rfl] at r41 ⊢
          exact sh_up a5 (by omega) g
        · rw [u3 z]
          exact sh_keep a5 z (by omega) g
      · rw [if_neg z2, h3 z1 z2]; exact g
/-- a day without moves there -/
theorem rc_quiet (B : Bd c) (T : HTh A c) (M : HMv A c) {i s d p d' : Nat} (hi : i < 5) (hd : d ≤ 1999) (hs : s < 4) (h : noB A c i p d') (h1 : p < d) (h2 : d ≤ d') : ∀ k, k ≤ c 4 → rc A c i s d k = rc A c i s d 0 := by
  intro k
  induction k with
  | zero => intro _; rfl
  | succ k ih =>
    intro hk
    have B' := B
    obtain ⟨b0, b3, b4, -⟩ := B'
    obtain ⟨t, so, a1, a2, a3, a4, a5, g1, g2, g3⟩ := rc_step B T M (s := s) (k := k) hi hd hs (by omega)
    obtain ⟨n1, n2⟩ := h k (by omega)
    rw [g3 (fun z => n1 ⟨z.1, by rw [na_e z.2 (by omega)]; omega, by rw [na_e z.2 (by omega)]; omega⟩) (fun z => n2 ⟨z.1, by rw [na_e z.2 (by omega)]; omega, by rw [na_e z.2 (by omega)]; omega⟩)]
    exact ih (by omega)
theorem gn_c (B : Bd c) (G : HGn A c) {t : Nat} (ht : t < c 3) (d : Nat) : (A (240 + 12 * t + 7) = -1 ∨ d ≤ na A (240 + 12 * t + 7)) ↔ ¬ (A (240 + 12 * t + 7) ≠ -1 ∧ na A (240 + 12 * t + 7) < d) := by
  constructor
  · rintro (h | h) ⟨h1, h2⟩
    · exact h1 h
    · omega
  · intro h
    by_cases z : A (240 + 12 * t + 7) = -1
    · exact Or.inl z
    · exact Or.inr (Nat.not_lt.mp (fun y => h ⟨z, y⟩))
/-- the day before's number begins the day -/
theorem rc_0 (B : Bd c) (T : HTh A c) (M : HMv A c) (G : HGn A c) {i s d : Nat} (hi : i < 5) (hd : d + 1 ≤ 1999) : rc A c i s (d + 1) 0 = cn A c i s d := ct_eq _ (fun t ht => by
  have a := at_pl B T M G (d := d) ht (by omega) hi
  have e : pl A t (mx (d + 1) 0) (c 4) = pl A t (kd d) (c 4) := pl_ext _ (fun j _ _ => by rw [mx_ge (by omega), kd]; exact ⟨Iff.rfl, Iff.rfl⟩)
  have q : rp A c i s (d + 1) 0 t ↔ A (240 + 12 * t) = nI s ∧ mwh A (c 4) t (nI d) = nI i := by
    unfold rp
    rw [a, e, gn_c B G ht]
    constructor
    · rintro ⟨h1, h2, h3, h4⟩
      exact ⟨h1, by omega, fun z => h3 ⟨z.1, by omega⟩, h4⟩
    · rintro ⟨h1, h2, h3, h4⟩
      exact ⟨h1, by omega, fun z => h3 ⟨z.1, by omega⟩, h4⟩
  by_cases z : rp A c i s (d + 1) 0 t
  · rw [decide_eq_true z, decide_eq_true (q.mp z)]
  · rw [decide_eq_false z, decide_eq_false (fun y => z (q.mpr y))])
theorem rp_e {i s d t : Nat} : rp A c i s d (c 4) t ↔ A (240 + 12 * t) = nI s ∧ na A (240 + 12 * t + 4) < max d 1 ∧ (A (240 + 12 * t + 7) = -1 ∨ d ≤ na A (240 + 12 * t + 7)) ∧ pl A t (kd d) (c 4) = i := by
  unfold rp
  rw [pl_ext (e := mx d (c 4)) (e' := kd d) (c 4) (fun j hj _ => by rw [mx_lt hj, kd]; exact ⟨Iff.rfl, Iff.rfl⟩)]
/-- no plant: nothing is made there behind day 0 -/
theorem cn_le (B : Bd c) (T : HTh A c) (M : HMv A c) (G : HGn A c) {i s d : Nat} (hi : i < 5) (hd : d ≤ 1999) (h : A (40 + 8 * i + 1) ≠ 1) : cn A c i s d ≤ rc A c i s d (c 4) := ct_mono _ (fun t ht q => by
  refine decide_eq_true (rp_e.mpr ?_)
  obtain ⟨q1, q2⟩ := of_decide_eq_true q
  obtain ⟨h1, h2, h3⟩ := (at_pl B T M G ht hd hi).mp q2
  refine ⟨q1, ?_, (gn_c B G ht d).mpr (fun z => h2 ⟨z.1, by omega⟩), h3⟩
  by_cases z : na A (240 + 12 * t + 4) < max d 1
  · exact z
  exfalso
  have B' := B
  obtain ⟨b0, b3, b4, -⟩ := B'
  obtain ⟨so, mk, st, a1, a2, a3, a4, a5, a6, a7, -⟩ := T t ht
  rw [na_e a2 (by omega)] at z h1
  have e0 := pl_cut (A := A) (t := t) (k := 0) (e := kd d) (c 4) (fun j _ hj hjt => by
    obtain ⟨t2, d2, x2, y2, e2, f1, f2, f3, f4, f5, f6, f7, f8, f9, f10, f11, f12, f13, f14, f15, f16⟩ := M j (by omega)
    have zt : t2 = t := (nI_eq (by omega) (by omega)).mp (f1.symm.trans hjt)
    rw [zt, na_e a2 (by omega)] at f12 f13
    rw [na_e f2 (by omega), kd]
    omega)
  rw [Nat.zero_add, h3, pl, na_e a3 (by omega)] at e0
  rw [e0] at h
  exact h (a7 (by omega)))
/-- no scrapper's: nothing goes there -/
theorem cn_ge (B : Bd c) (T : HTh A c) (M : HMv A c) (G : HGn A c) {i s d : Nat} (hi : i < 5) (hd : d ≤ 1999) (h : A (40 + 8 * i + 1) ≠ 3) : rc A c i s d (c 4) ≤ cn A c i s d := ct_mono _ (fun t ht q => by
  refine decide_eq_true ?_
  obtain ⟨q1, q2, q3, q4⟩ := rp_e.mp (of_decide_eq_true q)
  refine ⟨q1, (at_pl B T M G ht hd hi).mpr ⟨by omega, fun z => ?_, q4⟩⟩
  have B' := B
  obtain ⟨b0, b3, b4, -⟩ := B'
  rcases G t ht with g | ⟨g, p, g1, g2, g3, g4, g5, g6⟩
  · exact z.1 g
  · rw [na_e g1 (by omega)] at q3 z
    have e : g = d := by
      rcases q3 with q3 | q3
      · exact absurd q3 z.1
      · omega
    rw [e, q4] at g4
    rw [g4] at g6
    exact h g6)
theorem vi_gb {i s d n : Nat} (hi : i < 5) (hd : d ≤ 1999) (hn : n ≤ 40) (V : ∀ k, k < c 8 → A (11280 + 12 * k + 1) = nI i → A (11280 + 12 * k + 2) = nI d → A (11280 + 12 * k + 3 + s) = nI n ∧ A (11280 + 12 * k + 7) = 0) : ∀ m k y, k + m = c 8 → gb y n = true → gb (viF A (nI i) s (nI d) m k y) n = true := by
  intro m
  induction m with
  | zero => intro k y _ g; exact g
  | succ m ih =>
    intro k y hk g
    rw [viF]
    refine ih (k + 1) _ (by omega) ?_
    unfold v1F
    split
    · next h =>
      obtain ⟨v1, v2⟩ := V k (by omega) h.1 h.2
      rw [v1, v2, nI_clamp (by omega), show (0 : Int32) = nI 0 from rfl, nI_clamp (by omega), gb_and, gb_sp, g, decide_eq_true (by omega)]; rfl
    · exact g
theorem pi_gb {i s d n : Nat} (hn : n ≤ 40) (V : ∀ k, k < c 9 → A (12480 + 4 * k) = nI i → A (12480 + 4 * k + 1) = nI d → ¬ A (20 + 4 * s) < A 16 → ∃ N, A (12480 + 4 * k + 2) = nI N ∧ N ≤ 40 ∧ n ≤ N) : ∀ m k y, k + m = c 9 → gb y n = true → gb (piF A (nI i) s (nI d) m k y) n = true := by
  intro m
  induction m with
  | zero => intro k y _ g; exact g
  | succ m ih =>
    intro k y hk g
    rw [piF]
    refine ih (k + 1) _ (by omega) ?_
    unfold p1F
    split
    · exact g
    · next h0 =>
      split
      · next h =>
        obtain ⟨N, v1, v2, v3⟩ := V k (by omega) h.1 h.2 h0
        rw [v1, nI_clamp (by omega), gb_and, gb_sp, g, decide_eq_true (by omega)]; rfl
      · exact g
theorem cn_40 (B : Bd c) {i s d : Nat} : cn A c i s d ≤ 40 := by
  have := ct_le (fun t => decide (A (240 + 12 * t) = nI s ∧ mwh A (c 4) t (nI d) = nI i)) (c 3)
  have := B.2.1
  unfold cn
  omega
theorem qt_c {x d kn : Int32} : ∀ m k, qtF A x d kn m k = 0 ∨ ∃ j, k ≤ j ∧ j < k + m ∧ A (11280 + 12 * j + 1) = x ∧ ¬ A (11280 + 12 * j + 2) ≤ d ∧ A (11280 + 12 * j + 2) ≤ kn ∧ A (11280 + 12 * j + 8) = 1 ∧ A (1520 + 4 * (A (11280 + 12 * j + 9)).toNatClampNeg + 1) < d := by
  intro m
  induction m with
  | zero => intro k; exact Or.inl rfl
  | succ m ih =>
    intro k
    rw [qtF]
    split
    · next h => exact Or.inr ⟨k, Nat.le_refl _, by omega, h⟩
    · exact (ih (k + 1)).imp id (fun ⟨j, h1, h2, h3⟩ => ⟨j, by omega, by omega, h3⟩)
/-- the true number stays possible over a day -/
theorem day_gb (h : HI A c) {i s d kn : Nat} {y : Int64} (hi : i < 5) (hs : s < 4) (hd : d ≤ kn) (hkn : kn ≤ c 0) (hb : B41 y) (g : gb y (rc A c i s d 0) = true) : gb (stepF A c i s (nI kn) d y) (cn A c i s d) = true := by
  obtain ⟨B, T, M, G, V, P⟩ := h
  have B' := B
  obtain ⟨b0, b3, b4, b5, b8, b9⟩ := B'
  have r41 := rc_41 (A := A) B (i := i) (s := s) (d := d) (k := c 4)
  have n41 := cn_40 (A := A) B (i := i) (s := s) (d := d)
  unfold stepF
  -- the records, or a seal seen whole
  have st1 : gb (if qtF A (nI i) (nI d) (nI kn) (c 8) 0 = 0 then cgF A c i s (nI d) y else y) (rc A c i s d (c 4)) = true := by
    rcases qt_c (A := A) (x := nI i) (d := nI d) (kn := nI kn) (c 8) 0 with q | ⟨j, j1, j2, j3, j4, j5, j6, j7⟩
    · rw [if_pos q]
      unfold cgF
      split
      · rw [gb_full]; exact decide_eq_true (by omega)
      · exact rec_gb B T M hi (by omega) hs (c 4) 0 y (by omega) hb g
    · obtain ⟨i', d', v1, v2, v3, v4, v5, v6, v7, v8⟩ := V j (by omega)
      obtain ⟨l, p, w1, w2, w3, w4, w5⟩ := v8 j6
      have ei : i' = i := (nI_eq (by omega) (by omega)).mp (v1.symm.trans j3)
      rw [w2, nI_clamp (by omega), w3, ii_lt (by omega) (by omega)] at j7
      rw [v2, ii_le (by omega) (by omega)] at j4
      rw [ei] at w5
      have e := rc_quiet B T M (s := s) hi (by omega) hs w5 j7 (by omega) (c 4) (Nat.le_refl _)
      split
      · unfold cgF
        split
        · rw [gb_full]; exact decide_eq_true (by omega)
        · exact rec_gb B T M hi (by omega) hs (c 4) 0 y (by omega) hb g
      · rw [e]; exact g
  have hb1 : B41 (if qtF A (nI i) (nI d) (nI kn) (c 8) 0 = 0 then cgF A c i s (nI d) y else y) := B41_in hb
  generalize (if qtF A (nI i) (nI d) (nI kn) (c 8) 0 = 0 then cgF A c i s (nI d) y else y) = y1 at st1 hb1
  -- what is made, what goes
  have st2 : gb (clF (A (40 + 8 * i + 1)) y1) (cn A c i s d) = true := by
    unfold clF
    by_cases z3 : A (40 + 8 * i + 1) = 3
    · rw [if_pos z3, if_neg (by rw [z3]; decide), gb_dnC hb1]
      exact ⟨_, cn_le B T M G hi (by omega) (by rw [z3]; decide), st1⟩
    · rw [if_neg z3]
      have e1 := cn_ge B T M G (s := s) hi (show d ≤ 1999 by omega) z3
      by_cases z1 : A (40 + 8 * i + 1) = 1
      · rw [if_pos z1, gb_upC hb1]
        exact ⟨n41, _, e1, st1⟩
      · rw [if_neg z1, Nat.le_antisymm (cn_le B T M G hi (by omega) z1) e1]
        exact st1
  generalize clF (A (40 + 8 * i + 1)) y1 = y2 at st2
  -- what is seen on the next day
  unfold snF
  split
  · next hk =>
    have hk' : d + 1 ≤ kn := by
      rw [show (1 : Int32) = nI 1 from rfl, nI_add, ii_le (by omega) (by omega)] at hk
      exact hk
    rw [show (1 : Int32) = nI 1 from rfl, nI_add]
    refine pi_gb (c := c) n41 (fun k hk2 h1 h2 h3 => ?_) (c 9) 0 _ (Nat.zero_add _) (vi_gb (c := c) hi (by omega) n41 (fun k hk2 h1 h2 => ?_) (c 8) 0 _ (Nat.zero_add _) st2)
    · obtain ⟨i', d', N, p1, p2, p3, p4, p5, p6, p7, p8⟩ := P k hk2
      have ei : i' = i := (nI_eq (by omega) (by omega)).mp (p1.symm.trans h1)
      have ed : d' = d + 1 := (nI_eq (by omega) (by omega)).mp (p2.symm.trans h2)
      have := p8 s hs h3
      rw [ei, ed] at this
      exact ⟨N, p3, p7, this⟩
    · obtain ⟨i', d', v1, v2, v3, v4, v5, v6, v7, v8⟩ := V k hk2
      have ei : i' = i := (nI_eq (by omega) (by omega)).mp (v1.symm.trans h1)
      have ed : d' = d + 1 := (nI_eq (by omega) (by omega)).mp (v2.symm.trans h2)
      have := v6 s hs
      rw [ei, ed] at this
      exact ⟨this, v7⟩
  · exact st2
theorem it_gb (h : HI A c) {i s kn : Nat} (hi : i < 5) (hs : s < 4) (hkn : kn ≤ c 0) : ∀ m d y, d + m ≤ kn → B41 y → gb y (rc A c i s d 0) = true → gb (itF A c i s (nI kn) (m + 1) d y) (cn A c i s (d + m)) = true := by
  obtain ⟨B, T, M, G, V, P⟩ := h
  have B' := B
  obtain ⟨b0, -⟩ := B'
  intro m
  induction m with
  | zero =>
    intro d y hd hb g
    rw [itF, itF]
    exact day_gb ⟨B, T, M, G, V, P⟩ hi hs (by omega) hkn hb g
  | succ m ih =>
    intro d y hd hb g
    rw [itF, show d + (m + 1) = d + 1 + m by omega]
    refine ih (d + 1) _ (by omega) (B41_st hb) ?_
    rw [rc_0 B T M G hi (by omega)]
    exact day_gb ⟨B, T, M, G, V, P⟩ hi hs (by omega) hkn hb g
/-- what truly is there is possible -/
theorem ps_gb (h : HI A c) {i s D kn : Nat} (hi : i < 5) (hs : s < 4) (hD : D ≤ kn) (hkn : kn ≤ c 0) : gb (psF A c i s D (nI kn)) (cn A c i s D) = true := by
  have q := it_gb h (s := s) hi hs hkn D 0 fu41 (by omega) B41_full (by
    rw [gb_full]
    have := rc_41 (A := A) h.1 (i := i) (s := s) (d := 0) (k := 0)
    exact decide_eq_true (by omega))
  rw [Nat.zero_add] at q
  exact q
end C1

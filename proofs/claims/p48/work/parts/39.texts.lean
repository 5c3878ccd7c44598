/-! LAYER B: which text, which clause -/
def fnd (P : Nat → Bool) : Nat → Nat → Option Nat
  | 0, _ => none
  | m + 1, k => if P k = true then some k else fnd P m (k + 1)
theorem fnd_s {P : Nat → Bool} : ∀ (m k i : Nat), fnd P m k = some i → k ≤ i ∧ i < k + m ∧ P i = true := by
  intro m
  induction m with
  | zero => intro k i h; exact absurd h (by simp [fnd])
  | succ m ih =>
    intro k i h
    rw [fnd] at h
    split at h
    · next q => injection h with h; subst h; exact ⟨Nat.le_refl _, by omega, q⟩
    · have := ih (k + 1) i h; exact ⟨by omega, by omega, this.2.2⟩
theorem fnd_n {P : Nat → Bool} : ∀ (m k : Nat), fnd P m k = none → ∀ i, k ≤ i → i < k + m → P i = false := by
  intro m
  induction m with
  | zero => intro k h i h1 h2; omega
  | succ m ih =>
    intro k h i h1 h2
    rw [fnd] at h
    split at h
    · exact absurd h (by simp)
    · next q =>
      by_cases e : i = k
      · subst e; simpa using q
      · exact ih (k + 1) h i (by omega) (by omega)
def ncl (A : Nat → Int32) (t : Nat) : Nat := (A (1680 + 800 * t)).toNatClampNeg
/-- is a text's i-th clause of the kind k -/
def kcl (A : Nat → Int32) (t k i : Nat) : Bool := decide (A (1680 + 800 * t + 2 + 8 * i) = nI (k + 1))
def fcl (A : Nat → Int32) (t k : Nat) : Option Nat := fnd (kcl A t k) (ncl A t) 0
def tfb (A : Nat → Int32) (n : Nat) : Option Nat → Option Nat
  | none => some n
  | some r => if A (1680 + 800 * n + 1) < A (1680 + 800 * r + 1) then some r else some n
/-- the text for a kind of clause on a day -/
def tf (A : Nat → Int32) (k : Nat) (d : Int32) : Nat → Option Nat
  | 0 => none
  | n + 1 => if A (1680 + 800 * n + 1) ≤ d then (if (fcl A n k).isSome = true then tfb A n (tf A k d n) else tf A k d n) else tf A k d n
theorem tf_lt {A : Nat → Int32} {k : Nat} {d : Int32} : ∀ n r, tf A k d n = some r → r < n ∧ ∃ i, fcl A r k = some i := by
  intro n
  induction n with
  | zero => intro r h; exact absurd h (by simp [tf])
  | succ n ih =>
    intro r h
    rw [tf] at h
    split at h
    · split at h
      · next q =>
        have q' : ∃ i, fcl A n k = some i := Option.isSome_iff_exists.mp q
        cases e : tf A k d n with
        | none => rw [e, tfb] at h; injection h with h; subst h; exact ⟨by omega, q'⟩
        | some u =>
          rw [e, tfb] at h
          split at h
          · injection h with h; subst h; have := ih u e; exact ⟨by omega, this.2⟩
          · injection h with h; subst h; exact ⟨by omega, q'⟩
      · have := ih r h; exact ⟨by omega, this.2⟩
    · have := ih r h; exact ⟨by omega, this.2⟩
def ofr (A : Nat → Int32) : Option Nat → Int32
  | none => -1
  | some r => A (1680 + 800 * r + 1)
def ocl (t : Nat) : Option Nat → Int32
  | none => -1
  | some i => nI (1680 + 800 * t + 2 + 8 * i)
theorem kbit : ∀ kd, kd < 128 → ∀ k, k < 7 → ((((nI kd) >>> ((nI k) &&& 31)) &&& 1 = (1 : Int32)) ↔ kd.testBit k = true) := by decide +kernel
section TX
variable {w : jW} {A : Nat → Int32} {c : Nat → Nat} {K : Nat} {d : Int32}
theorem tx_un (H : RA w 3 A c K) : ∃ cs ks, JR w 17 4 10 (c 6) ∧ JR w 19 4 160 cs ∧ JR w 21 1 3000 ks ∧ cs ≤ 160 ∧ ks ≤ 3000 ∧ ∀ t, t < c 6 → ∃ n c0 k0, Rtx w 3 A t n c0 k0 cs ks := by
  obtain ⟨cs, ks, h1, h2, h3, h4, h5, h6⟩ := p_Rtext H
  have := l_6 H
  exact ⟨cs, ks, h1, h2, h3, by omega, by omega, h6⟩
theorem n_tx (H : RA w 3 A c K) : f_Rows_count 17 w = some (nI (c 6), w) := by
  obtain ⟨cs, ks, h1, -⟩ := tx_un H
  exact r_count h1
theorem ncl_e {n c0 k0 cs ks t : Nat} (g : Rtx w 3 A t n c0 k0 cs ks) : ncl A t = n := by
  have := g.2.1
  rw [ncl, g.1, nI_clamp (by omega)]
theorem ocl_neg {t k : Nat} (ht : t < 10) (h : ncl A t ≤ 16) : (ocl t (fcl A t k) < 0) = ¬ (fcl A t k).isSome = true := by
  cases e : fcl A t k with
  | none => exact propext ⟨fun _ => by simp, fun _ => (by decide : (-1 : Int32) < 0)⟩
  | some i =>
    have := fnd_s _ _ _ e
    exact propext ⟨fun q => absurd q (nI_pos (by omega)), fun q => absurd rfl q⟩
theorem fcl_iff {t k n : Nat} (h : ncl A t = n) : (fcl A t k).isSome = true ↔ ∃ i, i < n ∧ A (1680 + 800 * t + 2 + 8 * i) = nI (k + 1) := by
  constructor
  · intro q
    obtain ⟨i, e⟩ := Option.isSome_iff_exists.mp q
    have := fnd_s _ _ _ e
    exact ⟨i, by omega, of_decide_eq_true this.2.2⟩
  · intro ⟨i, h1, h2⟩
    cases e : fcl A t k with
    | some j => rfl
    | none =>
      have := fnd_n _ _ e i (by omega) (by omega)
      rw [kcl, decide_eq_true h2] at this
      exact absurd this (by simp)
theorem tx_at (H : RA w 3 A c K) {t j : Nat} (ht : t < c 6) (hj : j < 4) : f_Rows_at 17 (nI t) (nI j) w = some (w.1 18 (t * 4 + j), w) := by
  obtain ⟨cs, ks, j1, -⟩ := tx_un H
  exact r_at j1 ht hj
theorem c_textFor_h (H : RA w 3 A c K) {k : Nat} (hk7 : k < 7) : ∀ (m i f : Nat), i + m = c 6 → m < f → f_Treaty_textFor_h5 f (nI k) d (oi (tf A k d i)) (nI i) w = some (oi (tf A k d (c 6)), w) := by
  have l6 := l_6 H
  obtain ⟨cs, ks, j1, j2, j3, j4, j5, j6⟩ := tx_un H
  intro m
  induction m with
  | zero =>
    intro i f hk hf
    obtain ⟨f, rfl⟩ : ∃ j, f = j + 1 := ⟨f - 1, by omega⟩
    rw [f_Treaty_textFor_h5, n_tx H, ob]
    dsimp only
    rw [if_neg (nI_nlt (by omega) (by omega)), show i = c 6 by omega]
  | succ m ih =>
    intro i f hk hf
    obtain ⟨f, rfl⟩ : ∃ j, f = j + 1 := ⟨f - 1, by omega⟩
    have ih' := ih (i + 1) f (by omega) (by omega)
    obtain ⟨n, c0, k0, g⟩ := j6 i (by omega)
    have a0 : f_Rows_at 17 (nI i) 0 w = some (A (1680 + 800 * i + 1), w) := (tx_at (j := 0) H (by omega) (by omega)).trans (congrArg (fun z => some (z, w)) g.2.2.2.2.1)
    obtain ⟨kd, q1, q2, q3⟩ := g.2.2.2.2.2.2.2.1
    have a1 : f_Rows_at 17 (nI i) 1 w = some (nI kd, w) := (tx_at (j := 1) H (by omega) (by omega)).trans (congrArg (fun z => some (z, w)) q1)
    have eb := (kbit kd q2 k hk7).trans ((q3 k hk7).trans (fcl_iff (k := k) (ncl_e g)).symm)
    rw [tf] at ih'
    rw [f_Treaty_textFor_h5, n_tx H, ob]
    dsimp only
    rw [if_pos (nI_lt (by omega) (by omega)), a0, ob]
    dsimp only
    rw [a1, ob]
    dsimp only
    rw [ip_1]
    by_cases c2 : (fcl A i k).isSome = true
    · rw [if_pos (eb.mpr c2)]
      rw [if_pos c2] at ih'
      by_cases c1 : A (1680 + 800 * i + 1) ≤ d
      · rw [if_pos c1] at ih' ⊢
        cases e : tf A k d i with
        | none => rw [e] at ih'; rw [oi, if_pos rfl]; exact ih'
        | some r =>
          have hr := (tf_lt i r e).1
          obtain ⟨n', c0', k0', g'⟩ := j6 r (by omega)
          have a0' : f_Rows_at 17 (nI r) 0 w = some (A (1680 + 800 * r + 1), w) := (tx_at (j := 0) H (by omega) (by omega)).trans (congrArg (fun z => some (z, w)) g'.2.2.2.2.1)
          rw [e, tfb] at ih'
          rw [oi, if_neg (nI_ne_m1 (by omega)), a0', ob]
          dsimp only
          by_cases c3 : A (1680 + 800 * i + 1) < A (1680 + 800 * r + 1)
          · rw [if_pos c3] at ih' ⊢; exact ih'
          · rw [if_neg c3] at ih' ⊢; exact ih'
      · rw [if_neg c1] at ih' ⊢; exact ih'
    · rw [if_neg (fun z => c2 (eb.mp z))]
      rw [if_neg c2] at ih'
      split at ih' <;> exact ih'
theorem c_textFor (H : RA w 3 A c K) {k : Nat} (hk7 : k < 7) : f_Treaty_textFor (nI k) d w = some (oi (tf A k d (c 6)), w) := by
  rw [f_Treaty_textFor]
  exact c_textFor_h H hk7 (c 6) 0 jfu (by omega) (by have := l_6 H; unfold jfu; omega)
/-- the number that the first clause of a kind has in a column -/
def nbc (A : Nat → Int32) (t col : Nat) (wo : Int32) : Option Nat → Int32
  | none => wo
  | some i => A (1680 + 800 * t + 2 + 8 * i + col)
def nbo (A : Nat → Int32) (k col : Nat) (wo : Int32) : Option Nat → Int32
  | none => wo
  | some t => nbc A t col wo (fcl A t k)
theorem cl_at {cs i j : Nat} (h : JR w 19 4 160 cs) (hi : i < cs) (hj : j < 4) : f_Rows_at 19 (nI i) (nI j) w = some (w.1 20 (i * 4 + j), w) := r_at h hi hj
theorem c_first_h (H : RA w 3 A c K) {cs ks t n c0 k0 k col : Nat} {wo : Int32} (hj : JR w 19 4 160 cs) (ht : t < c 6) (g : Rtx w 3 A t n c0 k0 cs ks) (hcol : col < 4) (hk7 : k < 7) (hv : ∀ i, i < n → kcl A t k i = true → w.1 20 ((c0 + i) * 4 + col) = A (1680 + 800 * t + 2 + 8 * i + col)) : ∀ (m i f : Nat), i + m = n → m < f → f_Treaty_first_h20 f (nI k) (nI col) wo (nI t) (nI (c0 + i)) w = some (nbc A t col wo (fnd (kcl A t k) m i), w) := by
  have hcs := hj.2.2.1
  obtain ⟨g1, g2, g3, g4, g5, g6, g7, g8, g9⟩ := g
  have a3 : f_Rows_at 17 (nI t) 3 w = some (nI (c0 + n), w) := (tx_at (j := 3) H ht (by omega)).trans (congrArg (fun z => some (z, w)) g7)
  intro m
  induction m with
  | zero =>
    intro i f hk hf
    obtain ⟨f, rfl⟩ : ∃ j, f = j + 1 := ⟨f - 1, by omega⟩
    rw [f_Treaty_first_h20, a3, ob]
    dsimp only
    rw [if_neg (nI_nlt (by omega) (by omega))]; rfl
  | succ m ih =>
    intro i f hk hf
    obtain ⟨f, rfl⟩ : ∃ j, f = j + 1 := ⟨f - 1, by omega⟩
    have ih' := ih (i + 1) f (by omega) (by omega)
    obtain ⟨s, e1, e2, e3, e4, e5⟩ := g9 i (by omega)
    have b0 : f_Rows_at 19 (nI (c0 + i)) 0 w = some (nI (s - 1), w) := (cl_at (j := 0) hj (by omega) (by omega)).trans (congrArg (fun z => some (z, w)) e4)
    rw [f_Treaty_first_h20, a3, ob]
    dsimp only
    rw [if_pos (nI_lt (by omega) (by omega)), b0, ob, fnd]
    dsimp only
    by_cases q : kcl A t k i = true
    · have q' := of_decide_eq_true q
      have hq : nI (s - 1) = nI k := by
        have := (nI_eq (by omega) (by omega)).mp (e1.symm.trans q')
        rw [show s - 1 = k by omega]
      rw [if_pos hq, if_pos q, cl_at hj (by omega) hcol, ob, hv i (by omega) q]; rfl
    · have hq : ¬ nI (s - 1) = nI k := by
        intro z
        apply q
        rw [kcl, e1, show s = (s - 1) + 1 by omega, nI_succ, z, ← nI_succ]
        exact decide_eq_true rfl
      rw [if_neg hq, if_neg q, ip_1]
      exact ih'
theorem c_first (H : RA w 3 A c K) {k col : Nat} {wo : Int32} (hk : k < 7) (hkc : k = 2 ∧ col = 1 ∨ k = 3 ∧ col = 1 ∨ k = 5 ∧ (col = 1 ∨ col = 2) ∨ k = 6 ∧ col = 1) : f_Treaty_first (nI k) d (nI col) wo w = some (nbo A k col wo (tf A k d (c 6)), w) := by
  have l6 := l_6 H
  obtain ⟨cs, ks, j1, j2, j3, j4, j5, j6⟩ := tx_un H
  rw [f_Treaty_first, c_textFor H hk, ob]
  dsimp only
  cases e : tf A k d (c 6) with
  | none =>
    rw [oi, r_at_row j1 (Or.inl (by decide)), ob]
    dsimp only
    rw [show jfu = 29999 + 1 from rfl, f_Treaty_first_h20, r_at_row j1 (Or.inl (by decide)), ob]
    dsimp only
    rw [if_neg (by decide)]; rfl
  | some t =>
    obtain ⟨ht, i, hi⟩ := tf_lt _ _ e
    obtain ⟨n, c0, k0, g⟩ := j6 t ht
    have en := ncl_e g
    have g16 := g.2.1
    have a2 : f_Rows_at 17 (nI t) 2 w = some (nI c0, w) := (tx_at (j := 2) H ht (by omega)).trans (congrArg (fun z => some (z, w)) g.2.2.2.2.2.1)
    rw [oi, a2, ob, nbo, fcl, en]
    dsimp only
    refine c_first_h H j2 ht g (by omega) hk (fun i hi q => ?_) n 0 jfu (by omega) (by unfold jfu; omega)
    obtain ⟨s, e1, e2, e3, e4, e5, e6, e7, e8⟩ := g.2.2.2.2.2.2.2.2 i hi
    have := (nI_eq (by omega) (by omega)).mp (e1.symm.trans (of_decide_eq_true q))
    rcases hkc with ⟨h1, h2⟩ | ⟨h1, h2⟩ | ⟨h1, h2⟩ | ⟨h1, h2⟩
    · subst h2; exact (e6 (by omega)).1
    · subst h2; exact (e6 (by omega)).1
    · rcases h2 with h2 | h2
      · subst h2; exact (e6 (by omega)).1
      · subst h2; exact (e7 (by omega)).1
    · subst h2; exact (e6 (by omega)).1
/-- the least limit among the first n clauses -/
def lim (A : Nat → Int32) (t : Nat) (d : Int32) : Nat → Int32
  | 0 => 99
  | n + 1 => if A (1680 + 800 * t + 2 + 8 * n) = 2 ∧ A (1680 + 800 * t + 2 + 8 * n + 2) ≤ d ∧ d ≤ A (1680 + 800 * t + 2 + 8 * n + 3) ∧ A (1680 + 800 * t + 2 + 8 * n + 1) < lim A t d n then A (1680 + 800 * t + 2 + 8 * n + 1) else lim A t d n
def limo (A : Nat → Int32) (d : Int32) : Option Nat → Int32
  | none => 99
  | some t => lim A t d (ncl A t)
theorem c_limit_h (H : RA w 3 A c K) {cs ks t n c0 k0 : Nat} (hj : JR w 19 4 160 cs) (ht : t < c 6) (g : Rtx w 3 A t n c0 k0 cs ks) : ∀ (m i f : Nat), i + m = n → m < f → f_Treaty_limitOn_h21 f d (nI t) (lim A t d i) (nI (c0 + i)) w = some (lim A t d n, w) := by
  have hcs := hj.2.2.1
  obtain ⟨g1, g2, g3, g4, g5, g6, g7, g8, g9⟩ := g
  have a3 : f_Rows_at 17 (nI t) 3 w = some (nI (c0 + n), w) := (tx_at (j := 3) H ht (by omega)).trans (congrArg (fun z => some (z, w)) g7)
  intro m
  induction m with
  | zero =>
    intro i f hk hf
    obtain ⟨f, rfl⟩ : ∃ j, f = j + 1 := ⟨f - 1, by omega⟩
    rw [f_Treaty_limitOn_h21, a3, ob]
    dsimp only
    rw [if_neg (nI_nlt (by omega) (by omega)), show i = n by omega]
  | succ m ih =>
    intro i f hk hf
    obtain ⟨f, rfl⟩ : ∃ j, f = j + 1 := ⟨f - 1, by omega⟩
    have ih' := ih (i + 1) f (by omega) (by omega)
    obtain ⟨s, e1, e2, e3, e4, e5, e6⟩ := g9 i (by omega)
    have b0 : f_Rows_at 19 (nI (c0 + i)) 0 w = some (nI (s - 1), w) := (cl_at (j := 0) hj (by omega) (by omega)).trans (congrArg (fun z => some (z, w)) e4)
    have b1 : f_Rows_at 19 (nI (c0 + i)) 1 w = some (w.1 20 ((c0 + i) * 4 + 1), w) := cl_at (j := 1) hj (by omega) (by omega)
    have b2' : f_Rows_at 19 (nI (c0 + i)) 2 w = some (w.1 20 ((c0 + i) * 4 + 2), w) := cl_at (j := 2) hj (by omega) (by omega)
    have b3 : f_Rows_at 19 (nI (c0 + i)) 3 w = some (w.1 20 ((c0 + i) * 4 + 3), w) := cl_at (j := 3) hj (by omega) (by omega)
    rw [lim, e1] at ih'
    rw [f_Treaty_limitOn_h21, a3, ob]
    dsimp only
    rw [if_pos (nI_lt (by omega) (by omega))]
    simp only [b0, b1, b2', b3, ob, f_Treaty_limitOn_j67, f_Treaty_limitOn_j68, ip_1, if_true]
    rw [Nat.add_assoc c0 i 1]
    by_cases q : s = 2
    · have e5' := e5 q
      subst q
      rw [show nI (2 - 1) = 1 from rfl, if_pos rfl]
      simp only [show ((1 : Int32) = 0) = False from by decide, if_false, if_pos]
      rw [show w.1 20 ((c0 + i) * 4 + 1) = A (1680 + 800 * t + 2 + 8 * i + 1) from e5'.1, show w.1 20 ((c0 + i) * 4 + 2) = A (1680 + 800 * t + 2 + 8 * i + 2) from e5'.2.1, show w.1 20 ((c0 + i) * 4 + 3) = A (1680 + 800 * t + 2 + 8 * i + 3) from e5'.2.2.1]
      by_cases c1 : A (1680 + 800 * t + 2 + 8 * i + 2) ≤ d
      · rw [if_pos c1]
        by_cases c2 : d ≤ A (1680 + 800 * t + 2 + 8 * i + 3)
        · rw [if_pos c2]
          by_cases c3 : A (1680 + 800 * t + 2 + 8 * i + 1) < lim A t d i
          · rw [if_pos ⟨rfl, c1, c2, c3⟩] at ih'; rw [if_pos c3]; exact ih'
          · rw [if_neg (fun z => c3 z.2.2.2)] at ih'; rw [if_neg c3]; exact ih'
        · rw [if_neg c2]; rw [if_neg (fun z => c2 z.2.2.1)] at ih'; exact ih'
      · rw [if_neg c1]; rw [if_neg (fun z => c1 z.2.1)] at ih'; exact ih'
    · have hq : ¬ nI (s - 1) = 1 := fun z => q (by have := (nI_eq (a := s - 1) (b := 1) (by omega) (by omega)).mp z; omega)
      have hq2 : ¬ nI s = 2 := fun z => q ((nI_eq (a := s) (b := 2) (by omega) (by omega)).mp z)
      rw [if_neg (fun z => hq2 z.1)] at ih'
      simp only [if_neg hq, ite_self]
      exact ih'
theorem c_limit (H : RA w 3 A c K) : f_Treaty_limitOn d w = some (limo A d (tf A 1 d (c 6)), w) := by
  have l6 := l_6 H
  obtain ⟨cs, ks, j1, j2, j3, j4, j5, j6⟩ := tx_un H
  have ct : f_Treaty_textFor 1 d w = some (oi (tf A 1 d (c 6)), w) := c_textFor (k := 1) H (by omega)
  rw [f_Treaty_limitOn, ct, ob]
  dsimp only
  cases e : tf A 1 d (c 6) with
  | none =>
    rw [oi, r_at_row j1 (Or.inl (by decide)), ob]
    dsimp only
    rw [show jfu = 29999 + 1 from rfl, f_Treaty_limitOn_h21, r_at_row j1 (Or.inl (by decide)), ob]
    dsimp only
    rw [if_neg (by decide)]; rfl
  | some t =>
    obtain ⟨ht, i, hi⟩ := tf_lt _ _ e
    obtain ⟨n, c0, k0, g⟩ := j6 t ht
    have g16 := g.2.1
    have a2 : f_Rows_at 17 (nI t) 2 w = some (nI c0, w) := (tx_at (j := 2) H ht (by omega)).trans (congrArg (fun z => some (z, w)) g.2.2.2.2.2.1)
    rw [oi, a2, ob, limo, ncl_e g]
    exact c_limit_h H j2 ht g n 0 jfu (by omega) (by unfold jfu; omega)
/-- what the treaty says on a day of the number wh < 6 -/
def sys (A : Nat → Int32) (c : Nat → Nat) (d : Int32) (wh : Nat) : Int32 := if wh = 0 then limo A d (tf A 1 d (c 6)) else if wh = 1 then nbo A 2 1 30 (tf A 2 d (c 6)) else if wh = 2 then nbo A 3 1 99 (tf A 3 d (c 6)) else if wh = 3 then nbo A 5 1 3 (tf A 5 d (c 6)) else if wh = 4 then nbo A 5 2 0 (tf A 5 d (c 6)) else nbo A 6 1 30 (tf A 6 d (c 6))
theorem c_tells (H : RA w 3 A c K) {wh : Nat} (h : wh < 6) : f_Treaty_tells (nI wh) d w = some (sys A c d wh, w) := by
  have e2 : f_Treaty_first 2 d 1 30 w = _ := c_first (k := 2) (col := 1) (wo := 30) H (by omega) (by omega)
  have e3 : f_Treaty_first 3 d 1 99 w = _ := c_first (k := 3) (col := 1) (wo := 99) H (by omega) (by omega)
  have e5 : f_Treaty_first 5 d 1 3 w = _ := c_first (k := 5) (col := 1) (wo := 3) H (by omega) (by omega)
  have e5' : f_Treaty_first 5 d 2 0 w = _ := c_first (k := 5) (col := 2) (wo := 0) H (by omega) (by omega)
  have e6 : f_Treaty_first 6 d 1 30 w = _ := c_first (k := 6) (col := 1) (wo := 30) H (by omega) (by omega)
  rw [f_Treaty_tells, c_limit H, e2, e3, e5, e5', e6]
  rcases (show wh = 0 ∨ wh = 1 ∨ wh = 2 ∨ wh = 3 ∨ wh = 4 ∨ wh = 5 by omega) with q | q | q | q | q | q <;> subst q <;> rfl
end TX


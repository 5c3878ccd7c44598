/-! LAYER B: the class's tables tell what the reference's array A tells -/
/-- a table at R (width W, at most cap rows) against A: the count at cnt, the rows from base on, st apart, column j at cm j (none from st on) -/
def RT (w : jW) (R W cap : Nat) (A : Nat → Int32) (cnt base st : Nat) (cm : Nat → Nat) : Prop := ∃ n, A cnt = nI n ∧ JR w R W cap n ∧ ∀ i j, i < n → j < W → cm j < st → w.1 (R + 1) (i * W + j) = A (base + st * i + cm j)
def cmT (j : Nat) : Nat := if j ≤ 4 then j else if j = 5 then 6 else if j = 7 then 5 else if j = 9 then 8 else if j = 10 then 7 else 99
def cmM (j : Nat) : Nat := if j = 0 then 0 else if j = 1 then 2 else if j = 2 then 3 else if j = 3 then 1 else if j = 4 then 4 else 99
def cmV (j : Nat) : Nat := if j ≤ 4 then j + 3 else if j = 5 then 8 else if j = 6 then 2 else if j = 7 then 0 else if j = 8 then 1 else 99
def cmQ (j : Nat) : Nat := if j = 0 then 0 else if j = 1 then 2 else if j = 2 then 3 else 99
def cmA (j : Nat) : Nat := if j ≤ 2 then j else 99
def Rscal (w : jW) (b : Nat) (A : Nat → Int32) : Prop := w.1 b 0 = A 0 ∧ w.1 b 1 = A 14 ∧ w.1 b 2 = A 15 ∧ w.1 b 3 = A 16 ∧ w.1 b 4 = A 2
def Rsort (w : jW) (b : Nat) (A : Nat → Int32) : Prop := JR w (b + 1) 4 4 4 ∧ ∀ i j, i < 4 → j < 4 → w.1 (b + 2) (i * 4 + j) = A (20 + 4 * i + j)
def Rsite (w : jW) (b : Nat) (A : Nat → Int32) : Prop := RT w (b + 3) 5 10 A 1 40 8 id
def Rthing (w : jW) (b : Nat) (A : Nat → Int32) : Prop := RT w (b + 7) 11 40 A 3 240 12 cmT
def Rmove (w : jW) (b : Nat) (A : Nat → Int32) : Prop := RT w (b + 9) 6 100 A 4 720 8 cmM
def Rseal (w : jW) (b : Nat) (A : Nat → Int32) : Prop := RT w (b + 11) 2 40 A 5 1520 4 id
def Rtold (w : jW) (b : Nat) (A : Nat → Int32) : Prop := RT w (b + 21) 4 200 A 7 9680 8 id
def Rvis (w : jW) (b : Nat) (A : Nat → Int32) : Prop := RT w (b + 23) 10 100 A 8 11280 12 cmV
def Rpic (w : jW) (b : Nat) (A : Nat → Int32) : Prop := RT w (b + 25) 3 100 A 9 12480 4 id
def Rque (w : jW) (b : Nat) (A : Nat → Int32) : Prop := RT w (b + 27) 3 50 A 10 12880 4 cmQ
def Ract (w : jW) (b : Nat) (A : Nat → Int32) : Prop := RT w (b + 29) 5 512 A 11 13080 8 cmA
def Rcld (w : jW) (b : Nat) (A : Nat → Int32) : Prop := RT w (b + 31) 2 60 A 12 20760 2 id
def Rwat (w : jW) (b : Nat) (A : Nat → Int32) : Prop := RT w (b + 33) 2 60 A 13 20880 2 id
/-- the latest of the first n moves that is a thing's; none -/
def lmv (A : Nat → Int32) (t : Nat) : Nat → Int32
  | 0 => -1
  | n + 1 => if A (720 + 8 * n) = nI t then nI n else lmv A t n
/-- how many of them are its -/
def cmv (A : Nat → Int32) (t : Nat) : Nat → Nat
  | 0 => 0
  | n + 1 => cmv A t n + if A (720 + 8 * n) = nI t then 1 else 0
/-- the chain of a thing's moves -/
def Rchain (w : jW) (b : Nat) (A : Nat → Int32) : Prop := ∃ nt nm, A 3 = nI nt ∧ A 4 = nI nm ∧ nt ≤ 40 ∧ nm ≤ 100 ∧ (∀ t, t < nt → w.1 (b + 8) (t * 11 + 8) = lmv A t nm ∧ w.1 (b + 8) (t * 11 + 6) = nI (cmv A t nm)) ∧ ∀ m, m < nm → ∃ t, t < nt ∧ A (720 + 8 * m) = nI t ∧ w.1 (b + 10) (m * 6 + 5) = lmv A t m
/-- the place by the first n moves -/
def plc (A : Nat → Int32) (t : Nat) (d at_ : Int32) : Nat → Int32
  | 0 => at_
  | n + 1 => if A (720 + 8 * n) = nI t ∧ A (720 + 8 * n + 1) ≤ d then (if d < A (720 + 8 * n + 4) then 100 else A (720 + 8 * n + 3)) else plc A t d at_ n
theorem msc_plc (A : Nat → Int32) (t : Nat) (d at_ : Int32) : ∀ (m k : Nat), msc A t d m k (plc A t d at_ k) = plc A t d at_ (k + m) := by
  intro m
  induction m with
  | zero => intro k; rfl
  | succ m ih =>
    intro k
    rw [msc, show k + (m + 1) = k + 1 + m by omega, ← ih (k + 1)]
    rfl
theorem lmv_c (A : Nat → Int32) (t : Nat) : ∀ n, lmv A t n = -1 ∧ (∀ k, k < n → A (720 + 8 * k) ≠ nI t) ∨ ∃ k, k < n ∧ lmv A t n = nI k ∧ A (720 + 8 * k) = nI t ∧ ∀ j, k < j → j < n → A (720 + 8 * j) ≠ nI t := by
  intro n
  induction n with
  | zero => exact Or.inl ⟨rfl, fun k h => by omega⟩
  | succ n ih =>
    rw [lmv]
    by_cases c : A (720 + 8 * n) = nI t
    · rw [if_pos c]
      exact Or.inr ⟨n, by omega, rfl, c, fun j h1 h2 => by omega⟩
    · rw [if_neg c]
      rcases ih with ⟨h1, h2⟩ | ⟨k, h1, h2, h3, h4⟩
      · refine Or.inl ⟨h1, fun k hk => ?_⟩
        by_cases e : k = n
        · rw [e]; exact c
        · exact h2 k (by omega)
      · refine Or.inr ⟨k, by omega, h2, h3, fun j hj hj2 => ?_⟩
        by_cases e : j = n
        · rw [e]; exact c
        · exact h4 j hj (by omega)
theorem plc_skip (A : Nat → Int32) (t : Nat) (d at_ : Int32) {k : Nat} : ∀ m, (∀ j, k ≤ j → j < k + m → A (720 + 8 * j) ≠ nI t) → plc A t d at_ (k + m) = plc A t d at_ k := by
  intro m
  induction m with
  | zero => intro _; rfl
  | succ m ih =>
    intro h
    rw [show k + (m + 1) = k + m + 1 by omega, plc, if_neg (fun z => h (k + m) (by omega) (by omega) z.1)]
    exact ih (fun j h1 h2 => h j h1 (by omega))
theorem nI_ne_m1 {n : Nat} (h : n < 2 ^ 31) : nI n ≠ -1 := by
  intro e
  have h1 := nI_toInt h
  rw [e] at h1
  have h2 : (-1 : Int32).toInt = -1 := by decide
  omega
section PB
variable {w : jW} {A : Nat → Int32}
theorem rt_at {R W cap cnt base st n : Nat} {cm : Nat → Nat} (h : RT w R W cap A cnt base st cm) (hn : A cnt = nI n) (hn2 : n < 2 ^ 31) (hc : cap ≤ 3000) {i j : Nat} (hi : i < n) (hj : j < W) (hcm : cm j < st) : f_Rows_at R (nI i) (nI j) w = some (A (base + st * i + cm j), w) := by
  obtain ⟨n', h1, h2, h3⟩ := h
  have e : n' = n := (nI_eq (by have := h2.2.2.1; omega) hn2).mp (h1.symm.trans hn)
  subst e
  rw [r_at h2 hi hj, h3 i j hi hj hcm]
theorem rt_raw {R W cap cnt base st n : Nat} {cm : Nat → Nat} (h : RT w R W cap A cnt base st cm) (hn : A cnt = nI n) (hn2 : n < 2 ^ 31) (hc : cap ≤ 3000) {i j : Nat} (hi : i < n) (hj : j < W) : f_Rows_at R (nI i) (nI j) w = some (w.1 (R + 1) (i * W + j), w) := by
  obtain ⟨n', h1, h2, h3⟩ := h
  have e : n' = n := (nI_eq (by have := h2.2.2.1; omega) hn2).mp (h1.symm.trans hn)
  subst e
  exact r_at h2 hi hj
theorem c_place_h {nt nm t : Nat} {d at_ : Int32} (hT : Rthing w 3 A) (hM : Rmove w 3 A) (hC : Rchain w 3 A) (h3 : A 3 = nI nt) (hnt : nt ≤ 40) (h4 : A 4 = nI nm) (hnm : nm ≤ 100) (ht : t < nt) (hat : A (240 + 12 * t + 5) = at_) : ∀ (n f s : Nat), n ≤ nm → s + n ≤ 100 → n < f → f_State_placeOn_h55 f (nI t) d (lmv A t n) (nI s) w = some (plc A t d at_ n, w) := by
  intro n
  induction n using Nat.strongRecOn with
  | _ n ih =>
    intro f s hn hs hf
    obtain ⟨f, rfl⟩ : ∃ j, f = j + 1 := ⟨f - 1, by omega⟩
    have hat' : f_State_placeOn_j130 (nI t) w = some (at_, w) := by
      rw [f_State_placeOn_j130]
      have e : f_Rows_at 10 (nI t) 7 w = some (A (240 + 12 * t + 5), w) := rt_at (j := 7) hT h3 (by omega) (by omega) ht (by omega) (by decide)
      rw [e, ob, hat]
    rw [f_State_placeOn_h55]
    rcases lmv_c A t n with ⟨h1, h2⟩ | ⟨k, h1, h2, h5, h6⟩
    · have e0 : plc A t d at_ n = at_ := by
        have := plc_skip A t d at_ (k := 0) n (fun j _ hj => h2 j (by omega))
        rw [Nat.zero_add] at this
        exact this
      by_cases c : nI s < 100
      · rw [if_pos c, h1, if_pos rfl, hat', e0]
      · rw [if_neg c, hat', e0]
    · have c : nI s < 100 := nI_lt (a := s) (b := 100) (by omega) (by omega)
      rw [if_pos c, h2, if_neg (nI_ne_m1 (by omega))]
      have b3 : f_Rows_at 12 (nI k) 3 w = some (A (720 + 8 * k + 1), w) := rt_at (j := 3) hM h4 (by omega) (by omega) (show k < nm by omega) (by omega) (by decide)
      have b4 : f_Rows_at 12 (nI k) 4 w = some (A (720 + 8 * k + 4), w) := rt_at (j := 4) hM h4 (by omega) (by omega) (show k < nm by omega) (by omega) (by decide)
      have b2' : f_Rows_at 12 (nI k) 2 w = some (A (720 + 8 * k + 3), w) := rt_at (j := 2) hM h4 (by omega) (by omega) (show k < nm by omega) (by omega) (by decide)
      have b5 : f_Rows_at 12 (nI k) 5 w = some (w.1 13 (k * 6 + 5), w) := rt_raw (j := 5) hM h4 (by omega) (by omega) (show k < nm by omega) (by omega)
      have e1 : plc A t d at_ n = plc A t d at_ (k + 1) := by
        have := plc_skip A t d at_ (k := k + 1) (n - (k + 1)) (fun j hj1 hj2 => h6 j (by omega) (by omega))
        rw [show k + 1 + (n - (k + 1)) = n by omega] at this
        exact this
      rw [e1, plc, b3, ob]
      by_cases c1 : A (720 + 8 * k + 1) ≤ d
      · rw [if_pos c1, if_pos ⟨h5, c1⟩, b4, ob]
        by_cases c2 : d < A (720 + 8 * k + 4)
        · rw [if_pos c2, if_pos c2]
        · rw [if_neg c2, if_neg c2, b2', ob]
      · rw [if_neg c1, if_neg (fun z => c1 z.2), b5, ob]
        obtain ⟨nt', nm', g1, g2, g3, g4, g5, g6⟩ := hC
        have e2 : nm' = nm := (nI_eq (by omega) (by omega)).mp (g2.symm.trans h4)
        subst e2
        obtain ⟨t', k1, k2, k3⟩ := g6 k (by omega)
        have e3 : t' = t := (nI_eq (by have := (nI_eq (a := nt') (b := nt) (by omega) (by omega)).mp (g1.symm.trans h3); omega) (by omega)).mp (k2.symm.trans h5)
        subst e3
        have k3' : w.1 13 (k * 6 + 5) = lmv A t' k := k3
        show f_State_placeOn_h55 f (nI t') d (w.1 13 (k * 6 + 5)) (nI s + 1) w = _
        rw [k3', nI_1]
        exact ih k h1 f (s + 1) (by omega) (by omega) (by omega)
theorem c_place {nt nm t : Nat} {d : Int32} (hT : Rthing w 3 A) (hM : Rmove w 3 A) (hC : Rchain w 3 A) (h3 : A 3 = nI nt) (hnt : nt ≤ 40) (h4 : A 4 = nI nm) (hnm : nm ≤ 100) (ht : t < nt) (hg : A (240 + 12 * t + 7) = -1 ∨ ¬ A (240 + 12 * t + 7) < 0) : f_State_placeOn (nI t) d w = some (mwh A nm t d, w) := by
  have a4 : f_Rows_at 10 (nI t) 4 w = some (A (240 + 12 * t + 4), w) := rt_at (j := 4) hT h3 (by omega) (by omega) ht (by omega) (by decide)
  have a10 : f_Rows_at 10 (nI t) 10 w = some (A (240 + 12 * t + 7), w) := rt_at (j := 10) hT h3 (by omega) (by omega) ht (by omega) (by decide)
  have a8 : f_Rows_at 10 (nI t) 8 w = some (w.1 11 (t * 11 + 8), w) := rt_raw (j := 8) hT h3 (by omega) (by omega) ht (by omega)
  have e8 : w.1 11 (t * 11 + 8) = lmv A t nm := by
    obtain ⟨nt', nm', g1, g2, g3, g4, g5, g6⟩ := hC
    have e2 : nm' = nm := (nI_eq (by omega) (by omega)).mp (g2.symm.trans h4)
    have e3 : nt' = nt := (nI_eq (by omega) (by omega)).mp (g1.symm.trans h3)
    subst e2; subst e3
    exact (g5 t ht).1
  have hj : f_State_placeOn_j40 (nI t) d w = some (plc A t d (A (240 + 12 * t + 5)) nm, w) := by
    rw [f_State_placeOn_j40, a8, ob, e8]
    exact c_place_h hT hM hC h3 hnt h4 hnm ht rfl nm jfu 0 (by omega) (by omega) (by unfold jfu; omega)
  have hp := msc_plc A t d (A (240 + 12 * t + 5)) nm 0
  rw [Nat.zero_add] at hp
  rw [f_State_placeOn, mwh, a4, ob]
  by_cases c1 : d < A (240 + 12 * t + 4)
  · rw [if_pos c1, if_pos c1]
  · rw [if_neg c1, if_neg c1, a10, ob]
    by_cases c2 : A (240 + 12 * t + 7) = -1
    · rw [if_pos c2, hj, if_neg (fun z => z.1 (by rw [c2]; decide)), ← hp]; rfl
    · have c2' := hg.resolve_left c2
      rw [if_neg c2]
      by_cases c3 : d < A (240 + 12 * t + 7)
      · rw [if_pos c3, hj, if_neg (fun z => z.2 c3), ← hp]; rfl
      · rw [if_neg c3, if_pos ⟨c2', c3⟩]
end PB


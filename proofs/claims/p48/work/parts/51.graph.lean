/-! LAYER B: ways: walks, their shortest; how the reference finds them -/
def Ed (A : Nat → Int32) (nr : Nat) (x y d : Nat) : Prop := ∃ r, r < nr ∧ x < 10 ∧ y < 10 ∧ 1 ≤ d ∧ d ≤ 60 ∧ jnd A r x y d
def Wq (E : Nat → Nat → Nat → Prop) (i : Nat) : Nat → Nat → Nat → Prop
  | 0, y, l => y = i ∧ l = 0
  | n + 1, y, l => ∃ x d l', E x y d ∧ l = l' + d ∧ Wq E i n x l'
def EOk (E : Nat → Nat → Nat → Prop) : Prop := ∀ x y d, E x y d → x < 10 ∧ y < 10 ∧ 1 ≤ d ∧ d ≤ 60
theorem Ed_ok {A : Nat → Int32} {nr : Nat} : EOk (Ed A nr) := fun x y d ⟨r, h1, h2, h3, h4, h5, h6⟩ => ⟨h2, h3, h4, h5⟩
theorem Wk_q {A : Nat → Int32} {nr i : Nat} : ∀ n y l, Wk A nr i n y l ↔ Wq (Ed A nr) i n y l := by
  intro n
  induction n with
  | zero => intro y l; exact Iff.rfl
  | succ n ih =>
    intro y l
    rw [Wk, Wq]
    constructor
    · rintro ⟨x, r, d, l', h1, h2, h3, h4, h5, h6, h7, h8⟩
      exact ⟨x, d, l', ⟨r, h1, h2, h3, h4, h5, h6⟩, h7, (ih _ _).mp h8⟩
    · rintro ⟨x, d, l', ⟨r, h1, h2, h3, h4, h5, h6⟩, h7, h8⟩
      exact ⟨x, r, d, l', h1, h2, h3, h4, h5, h6, h7, (ih _ _).mpr h8⟩
section GR
variable {E : Nat → Nat → Nat → Prop} {i : Nat}
theorem Wq_len (hE : EOk E) : ∀ n y l, Wq E i n y l → l ≤ 60 * n := by
  intro n
  induction n with
  | zero => intro y l h; rw [h.2]; omega
  | succ n ih =>
    rintro y l ⟨x, d, l', h1, h2, h3⟩
    have := ih x l' h3
    have := hE x y d h1
    omega
theorem Wq_app {j : Nat} {n1 l1 : Nat} (h : Wq E i n1 j l1) : ∀ n y l, Wq E j n y l → ∃ n', Wq E i n' y (l1 + l) := by
  intro n
  induction n with
  | zero => rintro y l ⟨rfl, rfl⟩; exact ⟨n1, h⟩
  | succ n ih =>
    rintro y l ⟨x, d, l', h1, h2, h3⟩
    obtain ⟨n', h4⟩ := ih x l' h3
    exact ⟨n' + 1, x, d, l1 + l', h1, by omega, h4⟩
theorem Wq_mono {E' : Nat → Nat → Nat → Prop} (hs : ∀ x y d, E x y d → E' x y d) : ∀ n y l, Wq E i n y l → Wq E' i n y l := by
  intro n
  induction n with
  | zero => intro y l h; exact h
  | succ n ih =>
    rintro y l ⟨x, d, l', h1, h2, h3⟩
    exact ⟨x, d, l', hs _ _ _ h1, h2, ih _ _ h3⟩
/-- walks through free places alone -/
def Wf (E : Nat → Nat → Nat → Prop) (i : Nat) (S : Nat → Bool) : Nat → Nat → Nat → Prop
  | 0, y, l => y = i ∧ l = 0 ∧ S y = true
  | n + 1, y, l => S y = true ∧ ∃ x d l', E x y d ∧ l = l' + d ∧ Wf E i S n x l'
def cnb (S : Nat → Bool) : Nat → Nat
  | 0 => 0
  | n + 1 => cnb S n + if S n = true then 1 else 0
def cut (S : Nat → Bool) (z : Nat) : Nat → Bool := fun y => S y && !decide (y = z)
theorem cnb_cut0 {S : Nat → Bool} {z : Nat} : ∀ n, n ≤ z → cnb (cut S z) n = cnb S n := by
  intro n
  induction n with
  | zero => intro _; rfl
  | succ n ih =>
    intro h
    rw [cnb, cnb, ih (by omega)]
    have : cut S z n = S n := by rw [cut, decide_eq_false (by omega)]; simp
    rw [this]
theorem cnb_cut {S : Nat → Bool} {z : Nat} (hz : S z = true) : ∀ n, z < n → cnb (cut S z) n + 1 = cnb S n := by
  intro n
  induction n with
  | zero => intro h; omega
  | succ n ih =>
    intro h
    rw [cnb, cnb]
    by_cases q : n = z
    · subst q
      have : cut S n n = false := by rw [cut, decide_eq_true rfl]; simp
      rw [cnb_cut0 n (Nat.le_refl _), this, hz]; rfl
    · have := ih (by omega)
      have e : cut S z n = S n := by rw [cut, decide_eq_false q]; simp
      rw [e]; omega
theorem cnb_pos {S : Nat → Bool} {z : Nat} (hz : S z = true) {n : Nat} (h : z < n) : 1 ≤ cnb S n := by
  have := cnb_cut hz n h
  omega
theorem Wf_end {S : Nat → Bool} {n y l : Nat} (h : Wf E i S n y l) : S y = true := by
  cases n with
  | zero => exact h.2.2
  | succ n => exact h.1
theorem Wf_sub {S : Nat → Bool} {z : Nat} : ∀ n y l, Wf E i (cut S z) n y l → Wf E i S n y l := by
  have hs : ∀ y, cut S z y = true → S y = true := fun y h => by
    rw [cut, Bool.and_eq_true] at h; exact h.1
  intro n
  induction n with
  | zero => rintro y l ⟨h1, h2, h3⟩; exact ⟨h1, h2, hs _ h3⟩
  | succ n ih => rintro y l ⟨h0, x, d, l', h1, h2, h3⟩; exact ⟨hs _ h0, x, d, l', h1, h2, ih _ _ h3⟩
/-- a walk keeps off z, or comes there a first time -/
theorem Wf_first {S : Nat → Bool} {z : Nat} : ∀ n x l, Wf E i S n x l → Wf E i (cut S z) n x l ∨ (z = i ∧ S z = true) ∨ ∃ m x' d l', m < n ∧ S z = true ∧ E x' z d ∧ l' + d ≤ l ∧ Wf E i (cut S z) m x' l' := by
  intro n
  induction n with
  | zero =>
    rintro x l ⟨h1, h2, h3⟩
    by_cases q : x = z
    · exact Or.inr (Or.inl ⟨q.symm.trans h1, q ▸ h3⟩)
    · exact Or.inl ⟨h1, h2, by rw [cut, h3, decide_eq_false q]; rfl⟩
  | succ n ih =>
    rintro x l ⟨h0, x1, d, l', h1, h2, h3⟩
    rcases ih x1 l' h3 with g | g | ⟨m, x', d', l'', g1, g2, g3, g4, g5⟩
    · by_cases q : x = z
      · exact Or.inr (Or.inr ⟨n, x1, d, l', by omega, q ▸ h0, q ▸ h1, by omega, g⟩)
      · exact Or.inl ⟨by rw [cut, h0, decide_eq_false q]; rfl, x1, d, l', h1, h2, g⟩
    · exact Or.inr (Or.inl g)
    · exact Or.inr (Or.inr ⟨m, x', d', l'', by omega, g2, g3, by omega, g5⟩)
theorem Wf_short (hE : EOk E) (hi : i < 10) : ∀ (q : Nat) (S : Nat → Bool) (n y l : Nat), cnb S 10 ≤ q → y < 10 → Wf E i S n y l → ∃ n' l', n' + 1 ≤ cnb S 10 ∧ l' ≤ l ∧ Wf E i S n' y l' := by
  intro q
  induction q with
  | zero =>
    intro S n y l hq hy h
    have := cnb_pos (Wf_end h) hy
    omega
  | succ q ih =>
    intro S n y l hq hy h
    have hS := Wf_end h
    have hc := cnb_cut hS 10 hy
    rcases Wf_first (z := y) n y l h with g | ⟨g1, g2⟩ | ⟨m, x', d, l', g1, g2, g3, g4, g5⟩
    · have := Wf_end g
      rw [cut, decide_eq_true rfl] at this
      simp at this
    · exact ⟨0, 0, by omega, Nat.zero_le _, g1, rfl, g2⟩
    · obtain ⟨n', l'', k1, k2, k3⟩ := ih (cut S y) m x' l' (by omega) (hE _ _ _ g3).1 g5
      exact ⟨n' + 1, l'' + d, by omega, by omega, g2, x', d, l'', g3, rfl, Wf_sub _ _ _ k3⟩
theorem Wf_all : ∀ n y l, Wf E i (fun _ => true) n y l ↔ Wq E i n y l := by
  intro n
  induction n with
  | zero => intro y l; exact ⟨fun h => ⟨h.1, h.2.1⟩, fun h => ⟨h.1, h.2, rfl⟩⟩
  | succ n ih =>
    intro y l
    constructor
    · rintro ⟨-, x, d, l', h1, h2, h3⟩; exact ⟨x, d, l', h1, h2, (ih _ _).mp h3⟩
    · rintro ⟨x, d, l', h1, h2, h3⟩; exact ⟨rfl, x, d, l', h1, h2, (ih _ _).mpr h3⟩
theorem Wq_short (hE : EOk E) (hi : i < 10) {n y l : Nat} (hy : y < 10) (h : Wq E i n y l) : ∃ n' l', n' ≤ 9 ∧ l' ≤ l ∧ Wq E i n' y l' := by
  obtain ⟨n', l', h1, h2, h3⟩ := Wf_short hE hi 10 (fun _ => true) n y l (by decide) hy ((Wf_all _ _ _).mpr h)
  have : cnb (fun _ => true) 10 = 10 := by decide
  exact ⟨n', l', by omega, h2, (Wf_all _ _ _).mp h3⟩
def Dq (E : Nat → Nat → Nat → Prop) (i y : Nat) (x : Int32) : Prop := (x = -1 ∧ ∀ n l, ¬ Wq E i n y l) ∨ ∃ l, x = nI l ∧ l ≤ 540 ∧ (∃ n, Wq E i n y l) ∧ ∀ n l', Wq E i n y l' → l ≤ l'
theorem Dis_q {A : Nat → Int32} {nr y : Nat} {x : Int32} : Dis A nr i y x ↔ Dq (Ed A nr) i y x := by
  unfold Dis Dq
  simp only [Wk_q]
theorem Dq_mk (hE : EOk E) (hi : i < 10) {y : Nat} (hy : y < 10) {x : Int32} (h1 : x = -1 ∨ ∃ l n, x = nI l ∧ l < 2 ^ 31 ∧ Wq E i n y l) (h2 : ∀ n l, n ≤ 9 → Wq E i n y l → ∃ l0, x = nI l0 ∧ l0 ≤ l) : Dq E i y x := by
  by_cases q : ∃ n l, Wq E i n y l
  · obtain ⟨n, l, h⟩ := q
    obtain ⟨n', l', k1, k2, k3⟩ := Wq_short hE hi hy h
    obtain ⟨l0, e, h4⟩ := h2 n' l' k1 k3
    have h5 := Wq_len hE _ _ _ k3
    have hm : ∀ n1 l1, Wq E i n1 y l1 → l0 ≤ l1 := fun n1 l1 h6 => by
      obtain ⟨n2, l2, m1, m2, m3⟩ := Wq_short hE hi hy h6
      obtain ⟨l3, e3, h7⟩ := h2 n2 l2 m1 m3
      have h8 := Wq_len hE _ _ _ m3
      have := (nI_eq (by omega) (by omega)).mp (e.symm.trans e3)
      omega
    refine Or.inr ⟨l0, e, by omega, ?_, hm⟩
    rcases h1 with h1 | ⟨l3, n3, e3, z, h7⟩
    · exact absurd (e.symm.trans h1) (nI_ne_m1 (by omega))
    · have := (nI_eq (by omega) z).mp (e.symm.trans e3)
      exact ⟨n3, this ▸ h7⟩
  · have q' : ∀ n l, ¬ Wq E i n y l := fun n l h => q ⟨n, l, h⟩
    rcases h1 with h1 | ⟨l, n, e, -, h⟩
    · exact Or.inl ⟨h1, q'⟩
    · exact absurd h (q' _ _)
theorem Dq_un {y : Nat} {x x' : Int32} (h : Dq E i y x) (h' : Dq E i y x') : x = x' := by
  rcases h with ⟨h1, h2⟩ | ⟨l, h1, h2, ⟨n, h3⟩, h4⟩
  · rcases h' with ⟨g1, g2⟩ | ⟨l, g1, g2, ⟨n, g3⟩, g4⟩
    · rw [h1, g1]
    · exact absurd g3 (h2 _ _)
  · rcases h' with ⟨g1, g2⟩ | ⟨l', g1, g2, ⟨n', g3⟩, g4⟩
    · exact absurd h3 (g2 _ _)
    · have := h4 _ _ g3
      have := g4 _ _ h3
      rw [h1, g1, show l = l' by omega]
/-- one road looked at in one direction -/
def rlx (g : Nat → Nat) (x y d : Nat) : Nat → Nat := fun z => if z = y ∧ g x + d < g y then g x + d else g z
theorem rlx_le {g : Nat → Nat} {x y d z : Nat} : rlx g x y d z ≤ g z := by
  unfold rlx
  by_cases q : z = y ∧ g x + d < g y
  · rw [if_pos q, q.1]; omega
  · rw [if_neg q]; exact Nat.le_refl _
theorem rlx_at {g : Nat → Nat} {x y d : Nat} : rlx g x y d y ≤ g x + d := by
  unfold rlx
  by_cases q : g x + d < g y
  · rw [if_pos ⟨rfl, q⟩]; exact Nat.le_refl _
  · rw [if_neg (fun z => q z.2)]; omega
/-- what is sure of the distances -/
def Sg (E : Nat → Nat → Nat → Prop) (i : Nat) (g : Nat → Nat) : Prop := ∀ y, y < 10 → g y ≤ 1000000 ∧ (g y = 1000000 ∨ ∃ n, Wq E i n y (g y))
theorem Sg_rlx {g : Nat → Nat} {x y d : Nat} (h : Sg E i g) (he : E x y d) (hx : x < 10) : Sg E i (rlx g x y d) := by
  intro z hz
  unfold rlx
  by_cases q : z = y ∧ g x + d < g y
  · rw [if_pos q]
    have hy := h y (q.1 ▸ hz)
    refine ⟨by omega, Or.inr ?_⟩
    rcases (h x hx).2 with e | ⟨n, e⟩
    · omega
    · exact ⟨n + 1, x, d, g x, q.1 ▸ he, rfl, e⟩
  · rw [if_neg q]; exact h z hz
def Kg (E : Nat → Nat → Nat → Prop) (i k : Nat) (g : Nat → Nat) : Prop := ∀ n y l, n ≤ k → y < 10 → Wq E i n y l → g y ≤ l
end GR
def Fg (v : jW) (g : Nat → Nat) : Prop := ∀ y, y < 10 → v.1 96 y = nI (g y)
section MW
variable {v w z0 : jW} {A : Nat → Int32} {c : Nat → Nat} {K i : Nat}
theorem Fg_rlx {g : Nat → Nat} {y : Nat} (h : Fg v g) (hy : y < 10) {x d : Nat} (q : g x + d < g y) : Fg (jup v.1 96 y (nI (g x + d)), v.2) (rlx g x y d) := by
  intro z hz
  show jup v.1 96 y _ 96 z = _
  rw [jup_ap, rlx]
  by_cases e : z = y
  · rw [if_pos ⟨rfl, e⟩, if_pos ⟨e, q⟩]
  · rw [if_neg (fun k => e k.2), if_neg (fun k => e k.1)]; exact h z hz
theorem rlx_no {g : Nat → Nat} {x y d : Nat} (q : ¬ g x + d < g y) : rlx g x y d = g := by
  funext z
  rw [rlx, if_neg (fun k => q k.2)]
end MW


/-! LAYER B: ways: walks, their shortest; how the reference finds them -/
def Ed (A : Nat → Int32) (nr : Nat) (x y d : Nat) : Prop := ∃ r, r < nr ∧ x < 10 ∧ y < 10 ∧ 1 ≤ d ∧ d ≤ 60 ∧ jnd A r x y d
def Wq (E : Nat → Nat → Nat → Prop) (i : Nat) : Nat → Nat → Nat → Prop
  | 0, y, l => y = i ∧ l = 0
  | n + 1, y, l => ∃ x d l', E x y d ∧ l = l' + d ∧ Wq E i n x l'
def EOk (E : Nat → Nat → Nat → Prop) : Prop := ∀ x y d, E x y d → x < 10 ∧ y < 10 ∧ 1 ≤ d ∧ d ≤ 60
theorem Ed_ok {A : Nat → Int32} {nr : Nat} : EOk (Ed A nr) := fun x y d ⟨r, h1, h2, h3, h4, h5, h6⟩ => ⟨h2, h3, h4, h5⟩
theorem Wk_q {A : Nat → Int32} {nr i : Nat} : ∀ n y l, Wk A nr i n y l ↔ Wq (Ed A nr) i n y l := by
  intro n
  induction n with
  | zero => intro y l; exact Iff.rfl
  | succ n ih =>
    intro y l
    rw [Wk, Wq]
    constructor
    · rintro ⟨x, r, d, l', h1, h2, h3, h4, h5, h6, h7, h8⟩
      exact ⟨x, d, l', ⟨r, h1, h2, h3, h4, h5, h6⟩, h7, (ih _ _).mp h8⟩
    · rintro ⟨x, d, l', ⟨r, h1, h2, h3, h4, h5, h6⟩, h7, h8⟩
      exact ⟨x, r, d, l', h1, h2, h3, h4, h5, h6, h7, (ih _ _).mpr h8⟩
section GR
variable {E : Nat → Nat → Nat → Prop} {i : Nat}
theorem Wq_len (hE : EOk E) : ∀ n y l, Wq E i n y l → l ≤ 60 * n := by
  intro n
  induction n with
  | zero => intro y l h; rw [h.2]; omega
  | succ n ih =>
    rintro y l ⟨x, d, l', h1, h2, h3⟩
    have := ih x l' h3
    have := hE x y d h1
    omega
theorem Wq_app {j : Nat} {n1 l1 : Nat} (h : Wq E i n1 j l1) : ∀ n y l, Wq E j n y l → ∃ n', Wq E i n' y (l1 + l) := by
  intro n
  induction n with
  | zero => rintro y l ⟨rfl, rfl⟩; exact ⟨n1, h⟩
  | succ n ih =>
    rintro y l ⟨x, d, l', h1, h2, h3⟩
    obtain ⟨n', h4⟩ := ih x l' h3
    exact ⟨n' + 1, x, d, l1 + l', h1, by omega, h4⟩
theorem Wq_mono {E' : Nat → Nat → Nat → Prop} (hs : ∀ x y d, E x y d → E' x y d) : ∀ n y l, Wq E i n y l → Wq E' i n y l := by
  intro n
  induction n with
  | zero => intro y l h; exact h
  | succ n ih =>
    rintro y l ⟨x, d, l', h1, h2, h3⟩
    exact ⟨x, d, l', hs _ _ _ h1, h2, ih _ _ h3⟩
/-- walks through free places alone -/
def Wf (E : Nat → Nat → Nat → Prop) (i : Nat) (S : Nat → Bool) : Nat → Nat → Nat → Prop
  | 0, y, l => y = i ∧ l = 0 ∧ S y = true
  | n + 1, y, l => S y = true ∧ ∃ x d l', E x y d ∧ l = l' + d ∧ Wf E i S n x l'
def cnb (S : Nat → Bool) : Nat → Nat
  | 0 => 0
  | n + 1 => cnb S n + if S n = true then 1 else 0
def cut (S : Nat → Bool) (z : Nat) : Nat → Bool := fun y => S y && !decide (y = z)
theorem cnb_cut0 {S : Nat → Bool} {z : Nat} : ∀ n, n ≤ z → cnb (cut S z) n = cnb S n := by
  intro n
  induction n with
  | zero => intro _; rfl
  | succ n ih =>
    intro h
    rw [cnb, cnb, ih (by omega)]
    have : cut S z n = S n := by rw [cut, decide_eq_false (by omega)]; simp
    rw [this]
theorem cnb_cut {S : Nat → Bool} {z : Nat} (hz : S z = true) : ∀ n, z < n → cnb (cut S z) n + 1 = cnb S n := by
  intro n
  induction n with
  | zero => intro h; omega
  | succ n ih =>
    intro h
    rw [cnb, cnb]
    by_cases q : n = z
    · subst q
      have : cut S n n = false := by rw [cut, decide_eq_true rfl]; simp
      rw [cnb_cut0 n (Nat.le_refl _), this, hz]; rfl
    · have := ih (by omega)
      have e : cut S z n = S n := by rw [cut, decide_eq_false q]; simp
      rw [e]; omega
theorem cnb_pos {S : Nat → Bool} {z : Nat} (hz : S z = true) {n : Nat} (h : z < n) : 1 ≤ cnb S n := by
  have := cnb_cut hz n h
  omega
theorem Wf_end {S : Nat → Bool} {n y l : Nat} (h : Wf E i S n y l) : S y = true := by
  cases n with
  | zero => exact h.2.2
  | succ n => exact h.1
theorem Wf_sub {S : Nat → Bool} {z : Nat} : ∀ n y l, Wf E i (cut S z) n y l → Wf E i S n y l := by
  have hs : ∀ y, cut S z y = true → S y = true := fun y h => by
    rw [cut, Bool.and_eq_true] at h; exact h.1
  intro n
  induction n with
  | zero => rintro y l ⟨h1, h2, h3⟩; exact ⟨h1, h2, hs _ h3⟩
  | succ n ih => rintro y l ⟨h0, x, d, l', h1, h2, h3⟩; exact ⟨hs _ h0, x, d, l', h1, h2, ih _ _ h3⟩
/-- a walk keeps off z, or comes there a first time -/
theorem Wf_first {S : Nat → Bool} {z : Nat} : ∀ n x l, Wf E i S n x l → Wf E i (cut S z) n x l ∨ (z = i ∧ S z = true) ∨ ∃ m x' d l', m < n ∧ S z = true ∧ E x' z d ∧ l' + d ≤ l ∧ Wf E i (cut S z) m x' l' := by
  intro n
  induction n with
  | zero =>
    rintro x l ⟨h1, h2, h3⟩
    by_cases q : x = z
    · exact Or.inr (Or.inl ⟨q.symm.trans h1, q ▸ h3⟩)
    · exact Or.inl ⟨h1, h2, by rw [cut, h3, decide_eq_false q]; rfl⟩
  | succ n ih =>
    rintro x l ⟨h0, x1, d, l', h1, h2, h3⟩
    rcases ih x1 l' h3 with g | g | ⟨m, x', d', l'', g1, g2, g3, g4, g5⟩
    · by_cases q : x = z
      · exact Or.inr (Or.inr ⟨n, x1, d, l', by omega, q ▸ h0, q ▸ h1, by omega, g⟩)
      · exact Or.inl ⟨by rw [cut, h0, decide_eq_false q]; rfl, x1, d, l', h1, h2, g⟩
    · exact Or.inr (Or.inl g)
    · exact Or.inr (Or.inr ⟨m, x', d', l'', by omega, g2, g3, by omega, g5⟩)
theorem Wf_short (hE : EOk E) (hi : i < 10) : ∀ (q : Nat) (S : Nat → Bool) (n y l : Nat), cnb S 10 ≤ q → y < 10 → Wf E i S n y l → ∃ n' l', n' + 1 ≤ cnb S 10 ∧ l' ≤ l ∧ Wf E i S n' y l' := by
  intro q
  induction q with
  | zero =>
    intro S n y l hq hy h
    have := cnb_pos (Wf_end h) hy
    omega
  | succ q ih =>
    intro S n y l hq hy h
    have hS := Wf_end h
    have hc := cnb_cut hS 10 hy
    rcases Wf_first (z := y) n y l h with g | ⟨g1, g2⟩ | ⟨m, x', d, l', g1, g2, g3, g4, g5⟩
    · have := Wf_end g
      rw [cut, decide_eq_true rfl] at this
      simp at this
    · exact ⟨0, 0, by omega, Nat.zero_le _, g1, rfl, g2⟩
    · obtain ⟨n', l'', k1, k2, k3⟩ := ih (cut S y) m x' l' (by omega) (hE _ _ _ g3).1 g5
      exact ⟨n' + 1, l'' + d, by omega, by omega, g2, x', d, l'', g3, rfl, Wf_sub _ _ _ k3⟩
theorem Wf_all : ∀ n y l, Wf E i (fun _ => true) n y l ↔ Wq E i n y l := by
  intro n
  induction n with
  | zero => intro y l; exact ⟨fun h => ⟨h.1, h.2.1⟩, fun h => ⟨h.1, h.2, rfl⟩⟩
  | succ n ih =>
    intro y l
    constructor
    · rintro ⟨-, x, d, l', h1, h2, h3⟩; exact ⟨x, d, l', h1, h2, (ih _ _).mp h3⟩
    · rintro ⟨x, d, l', h1, h2, h3⟩; exact ⟨rfl, x, d, l', h1, h2, (ih _ _).mpr h3⟩
theorem Wq_short (hE : EOk E) (hi : i < 10) {n y l : Nat} (hy : y < 10) (h : Wq E i n y l) : ∃ n' l', n' ≤ 9 ∧ l' ≤ l ∧ Wq E i n' y l' := by
  obtain ⟨n', l', h1, h2, h3⟩ := Wf_short hE hi 10 (fun _ => true) n y l (by decide) hy ((Wf_all _ _ _).mpr h)
  have : cnb (fun _ => true) 10 = 10 := by decide
  exact ⟨n', l', by omega, h2, (Wf_all _ _ _).mp h3⟩
def Dq (E : Nat → Nat → Nat → Prop) (i y : Nat) (x : Int32) : Prop := (x = -1 ∧ ∀ n l, ¬ Wq E i n y l) ∨ ∃ l, x = nI l ∧ l ≤ 540 ∧ (∃ n, Wq E i n y l) ∧ ∀ n l', Wq E i n y l' → l ≤ l'
theorem Dis_q {A : Nat → Int32} {nr y : Nat} {x : Int32} : Dis A nr i y x ↔ Dq (Ed A nr) i y x := by
  unfold Dis Dq
  simp only [Wk_q]
theorem Dq_mk (hE : EOk E) (hi : i < 10) {y : Nat} (hy : y < 10) {x : Int32} (h1 : x = -1 ∨ ∃ l n, x = nI l ∧ l < 2 ^ 31 ∧ Wq E i n y l) (h2 : ∀ n l, n ≤ 9 → Wq E i n y l → ∃ l0, x = nI l0 ∧ l0 ≤ l) : Dq E i y x := by
  by_cases q : ∃ n l, Wq E i n y l
  · obtain ⟨n, l, h⟩ := q
    obtain ⟨n', l', k1, k2, k3⟩ := Wq_short hE hi hy h
    obtain ⟨l0, e, h4⟩ := h2 n' l' k1 k3
    have h5 := Wq_len hE _ _ _ k3
    have hm : ∀ n1 l1, Wq E i n1 y l1 → l0 ≤ l1 := fun n1 l1 h6 => by
      obtain ⟨n2, l2, m1, m2, m3⟩ := Wq_short hE hi hy h6
      obtain ⟨l3, e3, h7⟩ := h2 n2 l2 m1 m3
      have h8 := Wq_len hE _ _ _ m3
      have := (nI_eq (by omega) (by omega)).mp (e.symm.trans e3)
      omega
    refine Or.inr ⟨l0, e, by omega, ?_, hm⟩
    rcases h1 with h1 | ⟨l3, n3, e3, z, h7⟩
    · exact absurd (e.symm.trans h1) (nI_ne_m1 (by omega))
    · have := (nI_eq (by omega) z).mp (e.symm.trans e3)
      exact ⟨n3, this ▸ h7⟩
  · have q' : ∀ n l, ¬ Wq E i n y l := fun n l h => q ⟨n, l, h⟩
    rcases h1 with h1 | ⟨l, n, e, -, h⟩
    · exact Or.inl ⟨h1, q'⟩
    · exact absurd h (q' _ _)
theorem Dq_un {y : Nat} {x x' : Int32} (h : Dq E i y x) (h' : Dq E i y x') : x = x' := by
  rcases h with ⟨h1, h2⟩ | ⟨l, h1, h2, ⟨n, h3⟩, h4⟩
  · rcases h' with ⟨g1, g2⟩ | ⟨l, g1, g2, ⟨n, g3⟩, g4⟩
    · rw [h1, g1]
    · exact absurd g3 (h2 _ _)
  · rcases h' with ⟨g1, g2⟩ | ⟨l', g1, g2, ⟨n', g3⟩, g4⟩
    · exact absurd h3 (g2 _ _)
    · have := h4 _ _ g3
      have := g4 _ _ h3
      rw [h1, g1, show l = l' by omega]
/-- one road looked at in one direction -/
def rlx (g : Nat → Nat) (x y d : Nat) : Nat → Nat := fun z => if z = y ∧ g x + d < g y then g x + d else g z
theorem rlx_le {g : Nat → Nat} {x y d z : Nat} : rlx g x y d z ≤ g z := by
  unfold rlx
  by_cases q : z = y ∧ g x + d < g y
  · rw [if_pos q, q.1]; omega
  · rw [if_neg q]; exact Nat.le_refl _
theorem rlx_at {g : Nat → Nat} {x y d : Nat} : rlx g x y d y ≤ g x + d := by
  unfold rlx
  by_cases q : g x + d < g y
  · rw [if_pos ⟨rfl, q⟩]; exact Nat.le_refl _
  · rw [if_neg (fun z => q z.2)]; omega
/-- what is sure of the distances -/
def Sg (E : Nat → Nat → Nat → Prop) (i : Nat) (g : Nat → Nat) : Prop := ∀ y, y < 10 → g y ≤ 1000000 ∧ (g y = 1000000 ∨ ∃ n, Wq E i n y (g y))
theorem Sg_rlx {g : Nat → Nat} {x y d : Nat} (h : Sg E i g) (he : E x y d) (hx : x < 10) : Sg E i (rlx g x y d) := by
  intro z hz
  unfold rlx
  by_cases q : z = y ∧ g x + d < g y
  · rw [if_pos q]
    have hy := h y (q.1 ▸ hz)
    refine ⟨by omega, Or.inr ?_⟩
    rcases (h x hx).2 with e | ⟨n, e⟩
    · omega
    · exact ⟨n + 1, x, d, g x, q.1 ▸ he, rfl, e⟩
  · rw [if_neg q]; exact h z hz
def Kg (E : Nat → Nat → Nat → Prop) (i k : Nat) (g : Nat → Nat) : Prop := ∀ n y l, n ≤ k → y < 10 → Wq E i n y l → g y ≤ l
end GR
def Fg (v : jW) (g : Nat → Nat) : Prop := ∀ y, y < 10 → v.1 96 y = nI (g y)
/-- the same but for the cell 96 -/
def X96 (v w : jW) : Prop := ∀ b, b ≠ 96 → v.1 b = w.1 b
section MW
variable {v w z0 : jW} {A : Nat → Int32} {c : Nat → Nat} {K i : Nat}
theorem X96_t {u : jW} (h : X96 u v) (g : X96 v w) : X96 u w := fun b q => (h b q).trans (g b q)
theorem X96_Sq (h : X96 v w) : Sq v w := ⟨fun b q => h b (fun z => by rw [z] at q; exact absurd q (by decide)), fun j _ => congrFun (h 93 (by omega)) j⟩
theorem Fg_rlx {g : Nat → Nat} {y : Nat} (h : Fg v g) (hy : y < 10) {x d : Nat} (q : g x + d < g y) : Fg (jup v.1 96 y (nI (g x + d)), v.2) (rlx g x y d) := by
  intro z hz
  show jup v.1 96 y _ 96 z = _
  rw [jup_ap, rlx]
  by_cases e : z = y
  · rw [if_pos ⟨rfl, e⟩, if_pos ⟨e, q⟩]
  · rw [if_neg (fun k => e k.2), if_neg (fun k => e k.1)]; exact h z hz
theorem rlx_no {g : Nat → Nat} {x y d : Nat} (q : ¬ g x + d < g y) : rlx g x y d = g := by
  funext z
  rw [rlx, if_neg (fun k => q k.2)]
theorem m_w136 {k33 : Int32 → Int32 → jW → Option (Int32 × jW)} {k42 : Int32 → Int32 → Int32 → jW → Option (Int32 × jW)} {x2 x3 x4 : Int32} {x y d : Nat} {g : Nat → Nat} (h : Fg v g) (hg : ∀ y, y < 10 → g y ≤ 1000000) (hx : x < 10) (hy : y < 10) (hd : d ≤ 60) : ∃ v', f_Model_wayOf_j136 k33 k42 x2 x3 x4 (nI x) (nI y) (nI d) v = k42 x2 x3 (x4 + 1) v' ∧ Fg v' (rlx g y x d) ∧ X96 v' v := by
  have gx := hg x hx
  have gy := hg y hy
  rw [f_Model_wayOf_j136]
  simp (disch := omega) only [ia_1, ia_2, ia_3, ia_4, ia_5, ia_6, ia_7, ia_8, ia_9, ia_20, ia_40, ia_120, ia_140, ia_240, ia_720, ia_1520, ia_1680, ia_9680, ia_11280, ia_12480, ia_12880, ia_13080, ia_20760, ia_20880, ip_0, ip_1, ip_2, ip_3, ip_4, ip_5, ip_6, ip_7, ip_8, ip_9, ip_140, im_2, im_4, im_8, im_12, im_800, nI_clamp, jin_nI, jal_c, jal_n, Bool.and_true, if_true, ob, jlw_e, jk_0, jk_1, jk_2, jk_3, jk_4, jk_5, jk_6, jk_7, jk_8, jk_9, jk_10, jk_11, jk_12, jk_13, jk_14, jk_15, jk_16, jk_17, jk_18, jk_19, jg_0, jg_1, jg_2, jg_3, jg_4, jg_5, jg_6, jg_7, jg_8, jg_9, jg_10, jg_11, jg_12, jg_13, jg_14, jg_15, jg_16, jg_17, jg_18, jg_19, h x hx, h y hy, nI_add, ii_lt]
  by_cases q : g y + d < g x
  · rw [if_pos q]
    exact ⟨_, rfl, Fg_rlx h hx q, fun b hb => jup_fn hb⟩
  · rw [if_neg q]
    exact ⟨v, rfl, by rw [rlx_no q]; exact h, fun _ _ => rfl⟩
theorem m_w42 (H : RA z0 3 A c K) {k33 : Int32 → Int32 → jW → Option (Int32 × jW)} {x2 x3 : Int32} {g0 : Nat → Nat} : ∀ (m r f : Nat) (v : jW) (g : Nat → Nat), v.1 94 = A → r + m = c 2 → m < f → Fg v g → Sg (Ed A (c 2)) i g → (∀ y, y < 10 → g y ≤ g0 y) → (∀ x y d r', r' < r → x < 10 → y < 10 → d ≤ 60 → jnd A r' x y d → g y ≤ g0 x + d) →
    ∃ v' g', f_Model_wayOf_h42 k33 f x2 x3 (nI r) v = k33 x2 (x3 + 1) v' ∧ Fg v' g' ∧ Sg (Ed A (c 2)) i g' ∧ (∀ y, y < 10 → g' y ≤ g0 y) ∧ (∀ x y d r', r' < c 2 → x < 10 → y < 10 → d ≤ 60 → jnd A r' x y d → g' y ≤ g0 x + d) ∧ X96 v' v := by
  have l2 := l_2 H
  have l1 := l_1 H
  have h2 := h_2 H
  intro m
  induction m with
  | zero =>
    intro r f v g hA hr hf hg hS hle hed
    obtain ⟨f, rfl⟩ : ∃ j, f = j + 1 := ⟨f - 1, by omega⟩
    have er : r = c 2 := by omega
    subst er
    refine ⟨v, g, ?_, hg, hS, hle, hed, fun _ _ => rfl⟩
    rw [f_Model_wayOf_h42, if_pos (by decide), jk_2, hA, h2, if_neg (nI_nlt (by omega) (by omega))]
  | succ m ih =>
    intro r f v g hA hr hf hg hS hle hed
    obtain ⟨f, rfl⟩ : ∃ j, f = j + 1 := ⟨f - 1, by omega⟩
    obtain ⟨x, y, d, e1, e2, e3, e4, e5, e6, e7, e8, e9⟩ := p_Iroad H r (by omega)
    have hx : x < 10 := by omega
    have hy : y < 10 := by omega
    have hgb : ∀ y, y < 10 → g y ≤ 1000000 := fun y q => (hS y q).1
    have gx := hgb x hx
    have gy := hgb y hy
    have E1 : Ed A (c 2) x y d := ⟨r, by omega, hx, hy, e7, e8, e3, Or.inl ⟨e1, e2⟩⟩
    have E2 : Ed A (c 2) y x d := ⟨r, by omega, hy, hx, e7, e8, e3, Or.inr ⟨e1, e2⟩⟩
    have st : ∃ v1, f_Model_wayOf_h42 k33 (f + 1) x2 x3 (nI r) v = f_Model_wayOf_j136 k33 (f_Model_wayOf_h42 k33 f) x2 x3 (nI r) (nI x) (nI y) (nI d) v1 ∧ Fg v1 (rlx g x y d) ∧ X96 v1 v := by
      rw [f_Model_wayOf_h42]
      simp (disch := omega) only [ia_1, ia_2, ia_3, ia_4, ia_5, ia_6, ia_7, ia_8, ia_9, ia_20, ia_40, ia_120, ia_140, ia_240, ia_720, ia_1520, ia_1680, ia_9680, ia_11280, ia_12480, ia_12880, ia_13080, ia_20760, ia_20880, ip_0, ip_1, ip_2, ip_3, ip_4, ip_5, ip_6, ip_7, ip_8, ip_9, ip_140, im_2, im_4, im_8, im_12, im_800, nI_clamp, jin_nI, jal_c, jal_n, Bool.and_true, if_true, ob, jlw_e, jk_0, jk_1, jk_2, jk_3, jk_4, jk_5, jk_6, jk_7, jk_8, jk_9, jk_10, jk_11, jk_12, jk_13, jk_14, jk_15, jk_16, jk_17, jk_18, jk_19, jg_0, jg_1, jg_2, jg_3, jg_4, jg_5, jg_6, jg_7, jg_8, jg_9, jg_10, jg_11, jg_12, jg_13, jg_14, jg_15, jg_16, jg_17, jg_18, jg_19, hA, h2, ii_lt, e1, e2, e3, hg x hx, hg y hy, nI_add]
      rw [if_pos (show r < c 2 by omega)]
      by_cases q : g x + d < g y
      · rw [if_pos q]
        exact ⟨_, rfl, Fg_rlx hg hy q, fun b hb => jup_fn hb⟩
      · rw [if_neg q]
        exact ⟨v, rfl, by rw [rlx_no q]; exact hg, fun _ _ => rfl⟩
    obtain ⟨v1, s1, s2, s3⟩ := st
    have S1 := Sg_rlx hS E1 hx
    obtain ⟨v2, s4, s5, s6⟩ := m_w136 (k33 := k33) (k42 := f_Model_wayOf_h42 k33 f) (x2 := x2) (x3 := x3) (x4 := nI r) s2 (fun y q => (S1 y q).1) hx hy e8
    have S2 := Sg_rlx S1 E2 hy
    have hle1 : ∀ z, rlx (rlx g x y d) y x d z ≤ g z := fun z => Nat.le_trans rlx_le rlx_le
    obtain ⟨v3, g3, t1, t2, t3, t4, t5, t6⟩ := ih (r + 1) f v2 _ ((s6 94 (by omega)).trans ((s3 94 (by omega)).trans hA)) (by omega) (by omega) s5 S2 (fun z hz => Nat.le_trans (hle1 z) (hle z hz)) (fun x' y' d' r' q1 q2 q3 q5 q4 => by
      by_cases q : r' < r
      · exact Nat.le_trans (hle1 y') (hed x' y' d' r' q q2 q3 q5 q4)
      · have er : r' = r := by omega
        subst er
        obtain ⟨k1, k2⟩ := q4
        have ed : d' = d := (nI_eq (by omega) (by omega)).mp (k1.symm.trans e3)
        subst ed
        rcases k2 with ⟨k3, k4⟩ | ⟨k3, k4⟩
        · have ex : x' = x := (nI_eq (by omega) (by omega)).mp (k3.symm.trans e1)
          have ey : y' = y := (nI_eq (by omega) (by omega)).mp (k4.symm.trans e2)
          subst ex; subst ey
          have a1 : rlx (rlx g x' y' d') y' x' d' y' ≤ rlx g x' y' d' y' := rlx_le
          have a2 : rlx g x' y' d' y' ≤ g x' + d' := rlx_at
          have a3 := hle x' q2
          omega
        · have ey : y' = x := (nI_eq (by omega) (by omega)).mp (k3.symm.trans e1)
          have ex : x' = y := (nI_eq (by omega) (by omega)).mp (k4.symm.trans e2)
          subst ex; subst ey
          have a1 : rlx (rlx g y' x' d') x' y' d' y' ≤ rlx g y' x' d' x' + d' := rlx_at
          have a2 : rlx g y' x' d' x' ≤ g x' := rlx_le
          have a3 := hle x' q2
          omega)
    refine ⟨v3, g3, ?_, t2, t3, t4, t5, X96_t t6 (X96_t s6 s3)⟩
    rw [s1, s4, ip_1]; exact t1
theorem m_w33 (H : RA z0 3 A c K) {j : Nat} (hi : i < 10) (hj : j < 10) : ∀ (m t f : Nat) (v : jW) (g : Nat → Nat), v.1 94 = A → t + m = 10 → m < f → Fg v g → Sg (Ed A (c 2)) i g → Kg (Ed A (c 2)) i t g → ∃ x v', f_Model_wayOf_h33 f (nI j) (nI t) v = some (x, v') ∧ Dq (Ed A (c 2)) i j x ∧ X96 v' v := by
  intro m
  induction m with
  | zero =>
    intro t f v g hA ht hf hg hS hK
    obtain ⟨f, rfl⟩ : ∃ j, f = j + 1 := ⟨f - 1, by omega⟩
    have et : t = 10 := by omega
    subst et
    have gj := (hS j hj).1
    have h2 : ∀ n l, n ≤ 9 → Wq (Ed A (c 2)) i n j l → g j ≤ l ∧ g j < 1000000 := fun n l q1 q2 => by
      have a := hK n j l (by omega) hj q2
      have b := Wq_len Ed_ok _ _ _ q2
      omega
    rw [f_Model_wayOf_h33, if_neg (show ¬ nI 10 < 10 by decide)]
    simp (disch := omega) only [ia_1, ia_2, ia_3, ia_4, ia_5, ia_6, ia_7, ia_8, ia_9, ia_20, ia_40, ia_120, ia_140, ia_240, ia_720, ia_1520, ia_1680, ia_9680, ia_11280, ia_12480, ia_12880, ia_13080, ia_20760, ia_20880, ip_0, ip_1, ip_2, ip_3, ip_4, ip_5, ip_6, ip_7, ip_8, ip_9, ip_140, im_2, im_4, im_8, im_12, im_800, nI_clamp, jin_nI, jal_c, jal_n, Bool.and_true, if_true, ob, jlw_e, jk_0, jk_1, jk_2, jk_3, jk_4, jk_5, jk_6, jk_7, jk_8, jk_9, jk_10, jk_11, jk_12, jk_13, jk_14, jk_15, jk_16, jk_17, jk_18, jk_19, jg_0, jg_1, jg_2, jg_3, jg_4, jg_5, jg_6, jg_7, jg_8, jg_9, jg_10, jg_11, jg_12, jg_13, jg_14, jg_15, jg_16, jg_17, jg_18, jg_19, hg j hj]
    by_cases q : g j < 1000000
    · rw [if_pos (show nI (g j) < 1000000 from nI_lt (b := 1000000) q (by omega))]
      refine ⟨nI (g j), v, rfl, Dq_mk Ed_ok hi hj ?_ (fun n l q1 q2 => ⟨g j, rfl, (h2 n l q1 q2).1⟩), fun _ _ => rfl⟩
      rcases (hS j hj).2 with e | ⟨n, e⟩
      · omega
      · exact Or.inr ⟨_, n, rfl, by omega, e⟩
    · rw [if_neg (show ¬ nI (g j) < 1000000 from nI_nlt (a := g j) (b := 1000000) (by omega) (by omega))]
      exact ⟨-1, v, rfl, Dq_mk Ed_ok hi hj (Or.inl rfl) (fun n l q1 q2 => absurd (h2 n l q1 q2).2 q), fun _ _ => rfl⟩
  | succ m ih =>
    intro t f v g hA ht hf hg hS hK
    obtain ⟨f, rfl⟩ : ∃ j, f = j + 1 := ⟨f - 1, by omega⟩
    rw [f_Model_wayOf_h33, if_pos (show nI t < 10 from nI_lt (b := 10) (by omega) (by omega))]
    obtain ⟨v', g', t1, t2, t3, t4, t5, t6⟩ := m_w42 (i := i) (g0 := g) H (k33 := f_Model_wayOf_h33 f) (x2 := nI j) (x3 := nI t) (c 2) 0 jfu v g hA (by omega) (by have := l_2 H; unfold jfu; omega) hg hS (fun _ _ => Nat.le_refl _) (fun x y d r' q => absurd q (by omega))
    have hK' : Kg (Ed A (c 2)) i (t + 1) g' := fun n y l q1 q2 q3 => by
      by_cases q : n ≤ t
      · exact Nat.le_trans (t4 y q2) (hK n y l q q2 q3)
      · obtain ⟨n, rfl⟩ : ∃ k, n = k + 1 := ⟨n - 1, by omega⟩
        obtain ⟨x, d, l', ⟨r, k1, k2, k3, k4, k5, k6⟩, k7, k8⟩ := q3
        have a := t5 x y d r k1 k2 k3 k5 k6
        have b := hK n x l' (by omega) k2 k8
        omega
    obtain ⟨x, v2, s1, s2, s3⟩ := ih (t + 1) f v' g' ((t6 94 (by omega)).trans hA) (by omega) (by omega) t2 t3 hK'
    refine ⟨x, v2, ?_, s2, X96_t s3 t6⟩
    have e : f_Model_wayOf_h42 (f_Model_wayOf_h33 f) jfu (nI j) (nI t) 0 v = _ := t1
    rw [e, ip_1]; exact s1
theorem m_w2 (H : RA z0 3 A c K) {j : Nat} (hi : i < 10) (hj : j < 10) : ∀ (m s f : Nat) (v : jW), v.1 94 = A → s + m = 10 → m < f → (∀ y, y < s → v.1 96 y = nI (if y = i then 0 else 1000000)) → ∃ x v', f_Model_wayOf_h2 f (nI i) (nI j) (nI s) v = some (x, v') ∧ Dq (Ed A (c 2)) i j x ∧ X96 v' v := by
  intro m
  induction m with
  | zero =>
    intro s f v hA hs hf hv
    obtain ⟨f, rfl⟩ : ∃ j, f = j + 1 := ⟨f - 1, by omega⟩
    have es : s = 10 := by omega
    subst es
    rw [f_Model_wayOf_h2, if_neg (show ¬ nI 10 < 10 by decide)]
    refine m_w33 H hi hj 10 0 jfu v (fun y => if y = i then 0 else 1000000) hA rfl (by unfold jfu; omega) hv (fun y hy => ?_) (fun n y l q1 q2 q3 => ?_)
    · by_cases q : y = i
      · dsimp only; rw [if_pos q]; exact ⟨by omega, Or.inr ⟨0, q, rfl⟩⟩
      · dsimp only; rw [if_neg q]; exact ⟨by omega, Or.inl rfl⟩
    · have en : n = 0 := by omega
      subst en
      dsimp only; rw [if_pos q3.1]; exact Nat.zero_le _
  | succ m ih =>
    intro s f v hA hs hf hv
    obtain ⟨f, rfl⟩ : ∃ j, f = j + 1 := ⟨f - 1, by omega⟩
    rw [f_Model_wayOf_h2, if_pos (show nI s < 10 from nI_lt (b := 10) (by omega) (by omega))]
    have key : ∀ u : Int32, u = nI (if s = i then 0 else 1000000) → ∃ x v', f_Model_wayOf_h2 f (nI i) (nI j) (nI (s + 1)) (jup v.1 96 s u, v.2) = some (x, v') ∧ Dq (Ed A (c 2)) i j x ∧ X96 v' v := fun u hu => by
      obtain ⟨x, v', k1, k2, k3⟩ := ih (s + 1) f (jup v.1 96 s u, v.2) (show jup v.1 96 s u 94 = A from (jup_fn (by omega)).trans hA) (by omega) (by omega) (fun y hy => by
        show jup v.1 96 s u 96 y = _
        rw [jup_ap]
        by_cases e : y = s
        · rw [if_pos ⟨rfl, e⟩, hu, e]
        · rw [if_neg (fun k => e k.2)]; exact hv y (by omega))
      exact ⟨x, v', k1, k2, X96_t k3 (fun b hb => jup_fn hb)⟩
    simp (disch := omega) only [ia_1, ia_2, ia_3, ia_4, ia_5, ia_6, ia_7, ia_8, ia_9, ia_20, ia_40, ia_120, ia_140, ia_240, ia_720, ia_1520, ia_1680, ia_9680, ia_11280, ia_12480, ia_12880, ia_13080, ia_20760, ia_20880, ip_0, ip_1, ip_2, ip_3, ip_4, ip_5, ip_6, ip_7, ip_8, ip_9, ip_140, im_2, im_4, im_8, im_12, im_800, nI_clamp, jin_nI, jal_c, jal_n, Bool.and_true, if_true, ob, jlw_e, jk_0, jk_1, jk_2, jk_3, jk_4, jk_5, jk_6, jk_7, jk_8, jk_9, jk_10, jk_11, jk_12, jk_13, jk_14, jk_15, jk_16, jk_17, jk_18, jk_19, jg_0, jg_1, jg_2, jg_3, jg_4, jg_5, jg_6, jg_7, jg_8, jg_9, jg_10, jg_11, jg_12, jg_13, jg_14, jg_15, jg_16, jg_17, jg_18, jg_19, ii_eq]
    by_cases q : s = i
    · rw [if_pos q]
      exact key 0 (by rw [if_pos q]; rfl)
    · rw [if_neg q]
      exact key 1000000 (by rw [if_neg q]; rfl)
theorem m_wayOf (H : RA z0 3 (w.1 94) c K) {j : Nat} (hi : i < 10) (hj : j < 10) : ∃ x v', f_Model_wayOf (nI i) (nI j) w = some (x, v') ∧ Dis (w.1 94) (c 2) i j x ∧ X96 v' w := by
  obtain ⟨x, v', h1, h2, h3⟩ := m_w2 H hi hj 10 0 jfu w rfl rfl (by unfold jfu; omega) (fun y q => absurd q (by omega))
  exact ⟨x, v', h1, Dis_q.mpr h2, h3⟩
end MW

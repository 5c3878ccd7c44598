/-! LAYER B: a pure parser of conditions between the two sides -/
section PP
abbrev Prs : Type := Nat × Nat × List (Nat × Nat × Nat)
/-- an operand: the fault, or none and what it is -/
def pO (k u : Nat → Nat) (i : Nat) : Nat × Nat := if k i = 27 then (if u i ≤ 9999 then (0, u i) else (2, 0)) else if 13 ≤ k i ∧ k i ≤ 17 then (0, k i - 13 + 10000) else (1, 0)
def pC (k u : Nat → Nat) (i : Nat) : Prs := if (pO k u i).1 ≠ 0 then ((pO k u i).1, i, []) else if ¬ (18 ≤ k (i + 1) ∧ k (i + 1) ≤ 23) then (1, i + 1, []) else if (pO k u (i + 2)).1 ≠ 0 then ((pO k u (i + 2)).1, i + 2, []) else (0, i + 3, [(k (i + 1) - 18, (pO k u i).2, (pO k u (i + 2)).2)])
def pSr (k u : Nat → Nat) (rE rS : Nat → Nat → Prs) (x i : Nat) : Prs :=
  if k i = 12 ∨ k i = 24 then
    if x < 8 then
      if k i = 24 then
        if (rE (x + 1) (i + 1)).1 ≠ 0 then ((rE (x + 1) (i + 1)).1, (rE (x + 1) (i + 1)).2.1, [])
        else if k (rE (x + 1) (i + 1)).2.1 = 25 then (0, (rE (x + 1) (i + 1)).2.1 + 1, (rE (x + 1) (i + 1)).2.2)
        else (1, (rE (x + 1) (i + 1)).2.1, [])
      else if (rS (x + 1) (i + 1)).1 ≠ 0 then ((rS (x + 1) (i + 1)).1, (rS (x + 1) (i + 1)).2.1, [])
      else (0, (rS (x + 1) (i + 1)).2.1, (rS (x + 1) (i + 1)).2.2 ++ [(6, 0, 0)])
    else (3, i, [])
  else pC k u i
/-- what follows: ones behind the word c, joined by o -/
def pJ (k : Nat → Nat) (c o : Nat) (f : Nat → Nat → Prs) (x : Nat) : Nat → Nat → List (Nat × Nat × Nat) → Prs
  | 0, i, L => (0, i, L)
  | m + 1, i, L => if k i = c then (if (f x (i + 1)).1 ≠ 0 then ((f x (i + 1)).1, (f x (i + 1)).2.1, []) else pJ k c o f x m (f x (i + 1)).2.1 (L ++ (f x (i + 1)).2.2 ++ [(o, 0, 0)])) else (0, i, L)
def pJr (k : Nat → Nat) (c o : Nat) (f : Nat → Nat → Prs) (x i : Nat) : Prs := if (f x i).1 ≠ 0 then ((f x i).1, (f x i).2.1, []) else pJ k c o f x 300 (f x i).2.1 (f x i).2.2
def prd (k u : Nat → Nat) : Nat → (Nat → Nat → Prs) × (Nat → Nat → Prs)
  | 0 => (fun _ i => (1, i, []), fun _ i => (1, i, []))
  | n + 1 => (pSr k u (prd k u n).2 (prd k u n).1, pJr k 10 8 (pJr k 11 7 (pSr k u (prd k u n).2 (prd k u n).1)))
theorem tln_app (L M : List (Nat × Nat × Nat)) : tln (L ++ M) = tln L + tln M := by
  induction L with
  | nil => rw [List.nil_append, tln, Nat.zero_add]
  | cons t L ih => rw [List.cons_append, tln, tln, ih]; omega
theorem tkc_app {f : Nat → Int32} (M : List (Nat × Nat × Nat)) : ∀ (L : List (Nat × Nat × Nat)) (p : Nat), tkc f p (L ++ M) ↔ tkc f p L ∧ tkc f (p + tln L) M := by
  intro L
  induction L with
  | nil => intro p; exact ⟨fun h => ⟨trivial, h⟩, fun h => h.2⟩
  | cons t L ih =>
    intro p
    rw [List.cons_append, tkc, tkc, tln]
    by_cases g : t.1 < 6
    · rw [if_pos g, if_pos g, if_pos g, ih, show p + 3 + tln L = p + (3 + tln L) by omega]
      exact ⟨fun ⟨a, b, c, d, e⟩ => ⟨⟨a, b, c, d⟩, e⟩, fun ⟨⟨a, b, c, d⟩, e⟩ => ⟨a, b, c, d, e⟩⟩
    · rw [if_neg g, if_neg g, if_neg g, ih, show p + 1 + tln L = p + (1 + tln L) by omega]
      exact ⟨fun ⟨a, d, e⟩ => ⟨⟨a, d⟩, e⟩, fun ⟨⟨a, d⟩, e⟩ => ⟨a, d, e⟩⟩
theorem tkm_app {A : Nat → Int32} (M : List (Nat × Nat × Nat)) : ∀ (L : List (Nat × Nat × Nat)) (p : Nat), tkm A p (L ++ M) ↔ tkm A p L ∧ tkm A (p + 2 * tln L) M := by
  intro L
  induction L with
  | nil => intro p; exact ⟨fun h => ⟨trivial, h⟩, fun h => h.2⟩
  | cons t L ih =>
    intro p
    rw [List.cons_append, tkm, tkm, tln]
    by_cases g : t.1 < 6
    · rw [if_pos g, if_pos g, if_pos g, ih, show p + 6 + 2 * tln L = p + 2 * (3 + tln L) by omega]
      exact ⟨fun ⟨a, b, c, d, e⟩ => ⟨⟨a, b, c, d⟩, e⟩, fun ⟨⟨a, b, c, d⟩, e⟩ => ⟨a, b, c, d, e⟩⟩
    · rw [if_neg g, if_neg g, if_neg g, ih, show p + 2 + 2 * tln L = p + 2 * (1 + tln L) by omega]
      exact ⟨fun ⟨a, d, e⟩ => ⟨⟨a, d⟩, e⟩, fun ⟨⟨a, d⟩, e⟩ => ⟨a, d, e⟩⟩
variable {k u : Nat → Nat} {R : Nat}
/-- a reader keeps to the tokens, and eats as many as it writes codes -/
def Pg (R : Nat) (f : Nat → Nat → Prs) : Prop := ∀ x i, i ≤ R → (f x i).1 ≤ 4 ∧ i ≤ (f x i).2.1 ∧ (f x i).2.1 ≤ R ∧ ((f x i).1 = 0 → tln (f x i).2.2 + i ≤ (f x i).2.1)
theorem pO_r (hk : k R = 28) {i : Nat} (hi : i ≤ R) : (pO k u i).1 ≤ 4 ∧ ((pO k u i).1 = 0 → i < R ∧ (pO k u i).2 < 10005) := by
  have hR : k i ≠ 28 → i < R := fun z => by
    by_cases y : i = R
    · rw [y] at z; exact absurd hk z
    · omega
  unfold pO
  by_cases g : k i = 27
  · rw [if_pos g]
    by_cases y : u i ≤ 9999
    · rw [if_pos y]; exact ⟨by omega, fun _ => ⟨hR (by omega), by show u i < 10005; omega⟩⟩
    · rw [if_neg y]; exact ⟨by show 2 ≤ 4; omega, fun z => (by simp at z)⟩
  rw [if_neg g]
  by_cases y : 13 ≤ k i ∧ k i ≤ 17
  · rw [if_pos y]; exact ⟨by omega, fun _ => ⟨hR (by omega), by show k i - 13 + 10000 < 10005; omega⟩⟩
  · rw [if_neg y]; exact ⟨by show 1 ≤ 4; omega, fun z => (by simp at z)⟩
theorem pC_g (hk : k R = 28) : Pg R (fun _ i => pC k u i) := by
  intro x i hi
  dsimp only
  have h1 := pO_r (u := u) hk hi
  unfold pC
  by_cases g1 : (pO k u i).1 ≠ 0
  · rw [if_pos g1]; exact ⟨h1.1, Nat.le_refl _, hi, fun z => absurd z g1⟩
  rw [if_neg g1]
  have l1 := (h1.2 (by omega)).1
  by_cases g2 : ¬ (18 ≤ k (i + 1) ∧ k (i + 1) ≤ 23)
  · rw [if_pos g2]; exact ⟨by show 1 ≤ 4; omega, by show i ≤ i + 1; omega, l1, fun z => (by simp at z)⟩
  rw [if_neg g2]
  have l2 : i + 2 ≤ R := by
    by_cases y : i + 1 = R
    · rw [y, hk] at g2; omega
    · omega
  have h3 := pO_r (u := u) hk l2
  by_cases g3 : (pO k u (i + 2)).1 ≠ 0
  · rw [if_pos g3]; exact ⟨h3.1, by show i ≤ i + 2; omega, l2, fun z => absurd z g3⟩
  rw [if_neg g3]
  have l3 := (h3.2 (by omega)).1
  refine ⟨by show 0 ≤ 4; omega, by show i ≤ i + 3; omega, l3, fun _ => ?_⟩
  show tln [(k (i + 1) - 18, _, _)] + i ≤ i + 3
  rw [tln, if_pos (by show k (i + 1) - 18 < 6; omega), tln]; omega
theorem pSr_g {rE rS : Nat → Nat → Prs} (hk : k R = 28) (hE : Pg R rE) (hS : Pg R rS) : Pg R (pSr k u rE rS) := by
  intro x i hi
  unfold pSr
  by_cases g : k i = 12 ∨ k i = 24
  rotate_left
  · rw [if_neg g]; exact pC_g hk x i hi
  rw [if_pos g]
  have l1 : i + 1 ≤ R := by
    by_cases y : i = R
    · rw [y, hk] at g; omega
    · omega
  by_cases g1 : x < 8
  rotate_left
  · rw [if_neg g1]; exact ⟨by show 3 ≤ 4; omega, Nat.le_refl _, hi, fun z => (by simp at z)⟩
  rw [if_pos g1]
  by_cases g2 : k i = 24
  · rw [if_pos g2]
    obtain ⟨e1, e2, e3, e4⟩ := hE (x + 1) (i + 1) l1
    by_cases g3 : (rE (x + 1) (i + 1)).1 ≠ 0
    · rw [if_pos g3]; exact ⟨e1, by show i ≤ (rE (x + 1) (i + 1)).2.1; omega, e3, fun z => absurd z g3⟩
    rw [if_neg g3]
    have e5 := e4 (by omega)
    by_cases g4 : k (rE (x + 1) (i + 1)).2.1 = 25
    · rw [if_pos g4]
      have l2 : (rE (x + 1) (i + 1)).2.1 + 1 ≤ R := by
        by_cases y : (rE (x + 1) (i + 1)).2.1 = R
        · rw [y, hk] at g4; omega
        · omega
      exact ⟨by show 0 ≤ 4; omega, by show i ≤ (rE (x + 1) (i + 1)).2.1 + 1; omega, l2, fun _ => by show tln (rE (x + 1) (i + 1)).2.2 + i ≤ (rE (x + 1) (i + 1)).2.1 + 1; omega⟩
    · rw [if_neg g4]; exact ⟨by show 1 ≤ 4; omega, by show i ≤ (rE (x + 1) (i + 1)).2.1; omega, e3, fun z => (by simp at z)⟩
  · rw [if_neg g2]
    obtain ⟨e1, e2, e3, e4⟩ := hS (x + 1) (i + 1) l1
    by_cases g3 : (rS (x + 1) (i + 1)).1 ≠ 0
    · rw [if_pos g3]; exact ⟨e1, by show i ≤ (rS (x + 1) (i + 1)).2.1; omega, e3, fun z => absurd z g3⟩
    rw [if_neg g3]
    have e5 := e4 (by omega)
    refine ⟨by show 0 ≤ 4; omega, by show i ≤ (rS (x + 1) (i + 1)).2.1; omega, e3, fun _ => ?_⟩
    show tln ((rS (x + 1) (i + 1)).2.2 ++ [(6, 0, 0)]) + i ≤ (rS (x + 1) (i + 1)).2.1
    rw [tln_app, tln, if_neg (by show ¬ 6 < 6; omega), tln]; omega
theorem pJ_g {c o : Nat} {f : Nat → Nat → Prs} (hk : k R = 28) (hc : c ≠ 28) (ho : ¬ o < 6) (hf : Pg R f) {x : Nat} : ∀ m i b L, i ≤ R → tln L + b ≤ i → (pJ k c o f x m i L).1 ≤ 4 ∧ i ≤ (pJ k c o f x m i L).2.1 ∧ (pJ k c o f x m i L).2.1 ≤ R ∧ ((pJ k c o f x m i L).1 = 0 → tln (pJ k c o f x m i L).2.2 + b ≤ (pJ k c o f x m i L).2.1) := by
  intro m
  induction m with
  | zero => intro i b L hi hb; rw [pJ]; exact ⟨by show 0 ≤ 4; omega, Nat.le_refl _, hi, fun _ => hb⟩
  | succ m ih =>
    intro i b L hi hb
    rw [pJ]
    by_cases g : k i = c
    rotate_left
    · rw [if_neg g]; exact ⟨by show 0 ≤ 4; omega, Nat.le_refl _, hi, fun _ => hb⟩
    rw [if_pos g]
    have l1 : i + 1 ≤ R := by
      by_cases y : i = R
      · rw [y, hk] at g; exact absurd g.symm hc
      · omega
    obtain ⟨e1, e2, e3, e4⟩ := hf x (i + 1) l1
    by_cases g3 : (f x (i + 1)).1 ≠ 0
    · rw [if_pos g3]; exact ⟨e1, by show i ≤ (f x (i + 1)).2.1; omega, e3, fun z => absurd z g3⟩
    rw [if_neg g3]
    have e5 := e4 (by omega)
    have := ih (f x (i + 1)).2.1 b (L ++ (f x (i + 1)).2.2 ++ [(o, 0, 0)]) e3 (by rw [tln_app, tln_app, tln, if_neg ho, tln]; omega)
    exact ⟨this.1, by omega, this.2.2⟩
theorem pJr_g {c o : Nat} {f : Nat → Nat → Prs} (hk : k R = 28) (hc : c ≠ 28) (ho : ¬ o < 6) (hf : Pg R f) : Pg R (pJr k c o f) := by
  intro x i hi
  obtain ⟨e1, e2, e3, e4⟩ := hf x i hi
  unfold pJr
  by_cases g3 : (f x i).1 ≠ 0
  · rw [if_pos g3]; exact ⟨e1, e2, e3, fun z => absurd z g3⟩
  rw [if_neg g3]
  have := pJ_g hk hc ho hf (x := x) 300 (f x i).2.1 i (f x i).2.2 e3 (e4 (by omega))
  exact ⟨this.1, by omega, this.2.2⟩
theorem prd_g (hk : k R = 28) : ∀ n, Pg R (prd k u n).1 ∧ Pg R (prd k u n).2 := by
  intro n
  induction n with
  | zero => exact ⟨fun x i hi => ⟨by show 1 ≤ 4; omega, Nat.le_refl _, hi, fun z => (by simp [prd] at z)⟩, fun x i hi => ⟨by show 1 ≤ 4; omega, Nat.le_refl _, hi, fun z => (by simp [prd] at z)⟩⟩
  | succ n ih =>
    have hS := pSr_g (u := u) hk ih.2 ih.1
    exact ⟨hS, pJr_g hk (by omega) (by omega) (pJr_g hk (by omega) (by omega) hS)⟩
/-- behind it stands no word d -/
def Pe (k : Nat → Nat) (R d : Nat) (f : Nat → Nat → Prs) : Prop := ∀ x i, i ≤ R → (f x i).1 = 0 → k (f x i).2.1 ≠ d
theorem pJ_e {c o : Nat} {f : Nat → Nat → Prs} (hk : k R = 28) (hc : c ≠ 28) (hR : R ≤ 300) (hf : Pg R f) {x : Nat} : ∀ m i L, i ≤ R → R ≤ i + m → (pJ k c o f x m i L).1 = 0 → k (pJ k c o f x m i L).2.1 ≠ c := by
  intro m
  induction m with
  | zero =>
    intro i L hi hb _
    rw [pJ]
    show k i ≠ c
    rw [show i = R by omega, hk]; exact fun z => hc z.symm
  | succ m ih =>
    intro i L hi hb
    rw [pJ]
    by_cases g : k i = c
    rotate_left
    · rw [if_neg g]; exact fun _ => g
    rw [if_pos g]
    have l1 : i + 1 ≤ R := by
      by_cases y : i = R
      · rw [y, hk] at g; exact absurd g.symm hc
      · omega
    obtain ⟨e1, e2, e3, e4⟩ := hf x (i + 1) l1
    by_cases g3 : (f x (i + 1)).1 ≠ 0
    · rw [if_pos g3]; exact fun z => absurd z g3
    rw [if_neg g3]
    exact ih _ _ e3 (by omega)
theorem pJ_d {c o d : Nat} {f : Nat → Nat → Prs} (hk : k R = 28) (hc : c ≠ 28) (hf : Pg R f) (he : Pe k R d f) {x : Nat} : ∀ m i L, i ≤ R → k i ≠ d → (pJ k c o f x m i L).1 = 0 → k (pJ k c o f x m i L).2.1 ≠ d := by
  intro m
  induction m with
  | zero => intro i L hi hb _; rw [pJ]; exact hb
  | succ m ih =>
    intro i L hi hb
    rw [pJ]
    by_cases g : k i = c
    rotate_left
    · rw [if_neg g]; exact fun _ => hb
    rw [if_pos g]
    have l1 : i + 1 ≤ R := by
      by_cases y : i = R
      · rw [y, hk] at g; exact absurd g.symm hc
      · omega
    obtain ⟨e1, e2, e3, e4⟩ := hf x (i + 1) l1
    by_cases g3 : (f x (i + 1)).1 ≠ 0
    · rw [if_pos g3]; exact fun z => absurd z g3
    rw [if_neg g3]
    exact ih _ _ e3 (he x (i + 1) l1 (by omega))
theorem pJr_e {c o : Nat} {f : Nat → Nat → Prs} (hk : k R = 28) (hc : c ≠ 28) (hR : R ≤ 300) (hf : Pg R f) : Pe k R c (pJr k c o f) := by
  intro x i hi
  obtain ⟨e1, e2, e3, e4⟩ := hf x i hi
  unfold pJr
  by_cases g3 : (f x i).1 ≠ 0
  · rw [if_pos g3]; exact fun z => absurd z g3
  rw [if_neg g3]
  exact pJ_e hk hc hR hf 300 _ _ e3 (by omega)
theorem pJr_d {c o d : Nat} {f : Nat → Nat → Prs} (hk : k R = 28) (hc : c ≠ 28) (hf : Pg R f) (he : Pe k R d f) : Pe k R d (pJr k c o f) := by
  intro x i hi
  obtain ⟨e1, e2, e3, e4⟩ := hf x i hi
  unfold pJr
  by_cases g3 : (f x i).1 ≠ 0
  · rw [if_pos g3]; exact fun z => absurd z g3
  rw [if_neg g3]
  exact pJ_d hk hc hf he 300 _ _ e3 (he x i hi (by omega))
/-- one truth comes of it, where d lie already -/
def Wfe (L : List (Nat × Nat × Nat)) (d : Nat) : Prop := ∀ r, wfd (L ++ r) d = wfd r (d + 1)
def Pw (R D : Nat) (f : Nat → Nat → Prs) : Prop := ∀ x i d, i ≤ R → d + D ≤ 60 → (f x i).1 = 0 → Wfe (f x i).2.2 d
theorem Wf_j {L M : List (Nat × Nat × Nat)} {d o : Nat} (ho : o = 7 ∨ o = 8) (h1 : Wfe L d) (h2 : Wfe M (d + 1)) : Wfe (L ++ M ++ [(o, 0, 0)]) d := by
  intro r
  rw [List.append_assoc, List.append_assoc, h1, h2, List.cons_append, List.nil_append, wfd, if_neg (show ¬ o < 6 by omega), if_neg (show ¬ o = 6 by omega), if_pos (show o ≤ 8 by omega), if_pos (by omega)]
  rfl
theorem Wf_n {L : List (Nat × Nat × Nat)} {d : Nat} (h1 : Wfe L d) : Wfe (L ++ [(6, 0, 0)]) d := by
  intro r
  rw [List.append_assoc, h1, List.cons_append, List.nil_append, wfd, if_neg (show ¬ (6 : Nat) < 6 by omega), if_pos rfl, if_pos (by omega)]
theorem pC_w (hk : k R = 28) : Pw R 1 (fun _ i => pC k u i) := by
  intro x i d hi hd
  dsimp only
  have h1 := pO_r (u := u) hk hi
  unfold pC
  by_cases g1 : (pO k u i).1 ≠ 0
  · rw [if_pos g1]; exact fun z => absurd z g1
  rw [if_neg g1]
  have l1 := h1.2 (by omega)
  by_cases g2 : ¬ (18 ≤ k (i + 1) ∧ k (i + 1) ≤ 23)
  · rw [if_pos g2]; exact fun z => (by simp at z)
  rw [if_neg g2]
  have l2 : i + 2 ≤ R := by
    by_cases y : i + 1 = R
    · rw [y, hk] at g2; omega
    · omega
  have h3 := pO_r (u := u) hk l2
  by_cases g3 : (pO k u (i + 2)).1 ≠ 0
  · rw [if_pos g3]; exact fun z => absurd z g3
  rw [if_neg g3]
  have l3 := h3.2 (by omega)
  intro _ r
  show wfd ([(k (i + 1) - 18, (pO k u i).2, (pO k u (i + 2)).2)] ++ r) d = _
  rw [List.cons_append, List.nil_append, wfd, if_pos (show k (i + 1) - 18 < 6 by omega), if_pos ⟨by omega, l1.2, l3.2⟩]
theorem pSr_w {rE rS : Nat → Nat → Prs} {D : Nat} (hk : k R = 28) (hD : 1 ≤ D) (hE : Pw R D rE) (hS : Pw R D rS) : Pw R D (pSr k u rE rS) := by
  intro x i d hi hd
  unfold pSr
  by_cases g : k i = 12 ∨ k i = 24
  rotate_left
  · rw [if_neg g]; exact pC_w hk x i d hi (by omega)
  rw [if_pos g]
  have l1 : i + 1 ≤ R := by
    by_cases y : i = R
    · rw [y, hk] at g; omega
    · omega
  by_cases g1 : x < 8
  rotate_left
  · rw [if_neg g1]; exact fun z => (by simp at z)
  rw [if_pos g1]
  by_cases g2 : k i = 24
  · rw [if_pos g2]
    by_cases g3 : (rE (x + 1) (i + 1)).1 ≠ 0
    · rw [if_pos g3]; exact fun z => absurd z g3
    rw [if_neg g3]
    by_cases g4 : k (rE (x + 1) (i + 1)).2.1 = 25
    · rw [if_pos g4]; exact fun _ => hE (x + 1) (i + 1) d l1 hd (by omega)
    · rw [if_neg g4]; exact fun z => (by simp at z)
  · rw [if_neg g2]
    by_cases g3 : (rS (x + 1) (i + 1)).1 ≠ 0
    · rw [if_pos g3]; exact fun z => absurd z g3
    rw [if_neg g3]
    exact fun _ => Wf_n (hS (x + 1) (i + 1) d l1 hd (by omega))
theorem pJ_w {c o D : Nat} {f : Nat → Nat → Prs} (hk : k R = 28) (hc : c ≠ 28) (ho : o = 7 ∨ o = 8) (hf : Pg R f) (hw : Pw R D f) {x : Nat} : ∀ m i d L, i ≤ R → d + 1 + D ≤ 60 → Wfe L d → (pJ k c o f x m i L).1 = 0 → Wfe (pJ k c o f x m i L).2.2 d := by
  intro m
  induction m with
  | zero => intro i d L hi hb h _; rw [pJ]; exact h
  | succ m ih =>
    intro i d L hi hb h
    rw [pJ]
    by_cases g : k i = c
    rotate_left
    · rw [if_neg g]; exact fun _ => h
    rw [if_pos g]
    have l1 : i + 1 ≤ R := by
      by_cases y : i = R
      · rw [y, hk] at g; exact absurd g.symm hc
      · omega
    obtain ⟨e1, e2, e3, e4⟩ := hf x (i + 1) l1
    by_cases g3 : (f x (i + 1)).1 ≠ 0
    · rw [if_pos g3]; exact fun z => absurd z g3
    rw [if_neg g3]
    exact ih _ _ _ e3 hb (Wf_j ho h (hw x (i + 1) (d + 1) l1 (by omega) (by omega)))
theorem pJr_w {c o D : Nat} {f : Nat → Nat → Prs} (hk : k R = 28) (hc : c ≠ 28) (ho : o = 7 ∨ o = 8) (hf : Pg R f) (hw : Pw R D f) : Pw R (D + 1) (pJr k c o f) := by
  intro x i d hi hd
  obtain ⟨e1, e2, e3, e4⟩ := hf x i hi
  unfold pJr
  by_cases g3 : (f x i).1 ≠ 0
  · rw [if_pos g3]; exact fun z => absurd z g3
  rw [if_neg g3]
  exact pJ_w hk hc ho hf hw 300 _ d _ e3 (by omega) (hw x i d hi (by omega) (by omega))
theorem prd_w (hk : k R = 28) : ∀ n, Pw R (2 * n + 1) (prd k u n).1 ∧ Pw R (2 * n + 1) (prd k u n).2 := by
  intro n
  induction n with
  | zero => exact ⟨fun x i d _ _ z => (by simp [prd] at z), fun x i d _ _ z => (by simp [prd] at z)⟩
  | succ n ih =>
    have g := prd_g (u := u) hk n
    have gS := pSr_g (u := u) hk g.2 g.1
    have hS := pSr_w (u := u) hk (by omega) ih.2 ih.1
    exact ⟨fun x i d hi hd => hS x i d hi (by omega), pJr_w hk (by omega) (Or.inr rfl) (pJr_g hk (by omega) (by omega) gS) (pJr_w hk (by omega) (Or.inl rfl) gS hS)⟩
end PP

/-! LAYER B: a new road shortens the class's ways -/
section WY
/-- the greatest is -1 -/
def le8 (x y : Int) : Prop := y = -1 ∨ (x ≠ -1 ∧ x ≤ y)
theorem le8_r {x : Int} : le8 x x := by unfold le8; omega
theorem le8_t {x y z : Int} (h : le8 x y) (g : le8 y z) : le8 x z := by unfold le8 at *; omega
def cnd (x y : Int) (d : Nat) : Int := if x = -1 ∨ y = -1 then -1 else x + d + y
theorem cnd_le {x y x' y' : Int} {d : Nat} (hx : -1 ≤ x) (hy : -1 ≤ y) (h : le8 x x') (g : le8 y y') : le8 (cnd x y d) (cnd x' y' d) := by
  unfold le8 cnd at *
  split <;> split <;> omega
/-- the class's table as numbers -/
def Tw (w : jW) (i j : Nat) : Int := (w.1 9 (i * 10 + j)).toInt
/-- bounds that a pass over all pairs keeps -/
def Jb (T : Nat → Nat → Int) (ns a b : Nat) : Prop := (∀ i j, i < ns → j < 10 → -1 ≤ T i j ∧ T i j ≤ 1260) ∧ (∀ i, i < ns → T i a ≤ 600 ∧ T i b ≤ 600 ∧ (T i a = -1 → T i b ≤ 540) ∧ (T i b = -1 → T i a ≤ 540)) ∧ (∀ j, j < 10 → T a j ≤ 600 ∧ T b j ≤ 600 ∧ (T a j = -1 → T b j ≤ 540) ∧ (T b j = -1 → T a j ≤ 540)) ∧ T a a = 0 ∧ T b b = 0
theorem Jb_sw {T : Nat → Nat → Int} {ns a b : Nat} (h : Jb T ns a b) : Jb T ns b a := by
  obtain ⟨h1, h2, h3, h4, h5⟩ := h
  exact ⟨h1, fun i hi => ⟨(h2 i hi).2.1, (h2 i hi).1, (h2 i hi).2.2.2, (h2 i hi).2.2.1⟩, fun i hi => ⟨(h3 i hi).2.1, (h3 i hi).1, (h3 i hi).2.2.2, (h3 i hi).2.2.1⟩, h5, h4⟩
/-- one pair looked at -/
def shT (T : Nat → Nat → Int) (f o a b d : Nat) : Nat → Nat → Int := fun i j => if i = f ∧ j = o ∧ T f a ≠ -1 ∧ T b o ≠ -1 ∧ (T f o = -1 ∨ T f a + d + T b o < T f o) then T f a + d + T b o else T i j
theorem shT_le {T : Nat → Nat → Int} {f o a b d i j : Nat} (hf : -1 ≤ T f a) (ho : -1 ≤ T b o) : le8 (shT T f o a b d i j) (T i j) := by
  unfold shT
  split
  · rename_i q
    obtain ⟨q1, q2, q3, q4, q5⟩ := q
    subst q1; subst q2
    unfold le8; omega
  · exact le8_r
theorem shT_at {T : Nat → Nat → Int} {f o a b d : Nat} (hf : -1 ≤ T f a) (ho : -1 ≤ T b o) : le8 (shT T f o a b d f o) (cnd (T f a) (T b o) d) := by
  unfold shT cnd
  split
  · rename_i q
    rw [if_neg (by omega)]; exact le8_r
  · rename_i q
    unfold le8
    split
    · exact Or.inl rfl
    · rename_i z
      refine Or.inr ?_
      have : ¬ (T f o = -1 ∨ T f a + d + T b o < T f o) := fun k => q ⟨rfl, rfl, fun e => z (Or.inl e), fun e => z (Or.inr e), k⟩
      omega
theorem shT_ne {T : Nat → Nat → Int} {f o a b d i j : Nat} (h : ¬ (i = f ∧ j = o)) : shT T f o a b d i j = T i j := by
  unfold shT; rw [if_neg (fun q => h ⟨q.1, q.2.1⟩)]
theorem shT_Jb {T : Nat → Nat → Int} {ns a b f o d : Nat} (h : Jb T ns a b) (ha : a < ns) (hb : b < ns) (hab : a ≠ b) (hn : ns ≤ 10) (hf : f < ns) (ho : o < 10) (hd : 1 ≤ d) (hd2 : d ≤ 60) : Jb (shT T f o a b d) ns a b := by
  obtain ⟨h1, h2, h3, h4, h5⟩ := h
  have f1 := h1 f a hf (by omega)
  have f2 := h1 b o hb ho
  have f3 := h1 f o hf ho
  have f4 := h2 f hf
  have f5 := h3 o ho
  have f6 := h1 b a hb (by omega)
  by_cases q : T f a ≠ -1 ∧ T b o ≠ -1 ∧ (T f o = -1 ∨ T f a + d + T b o < T f o)
  rotate_left
  · have e : shT T f o a b d = T := by
      funext i j
      unfold shT
      rw [if_neg (fun z => q z.2.2)]
    rw [e]; exact ⟨h1, h2, h3, h4, h5⟩
  have ef : shT T f o a b d f o = T f a + d + T b o := by unfold shT; rw [if_pos ⟨rfl, rfl, q⟩]
  have en : ∀ i j, ¬ (i = f ∧ j = o) → shT T f o a b d i j = T i j := fun i j z => shT_ne z
  have ha' : o ≠ a := fun z => by subst z; omega
  have hb' : f ≠ b := fun z => by subst z; omega
  refine ⟨fun i j hi hj => ?_, fun i hi => ?_, fun j hj => ?_, ?_, ?_⟩
  · by_cases z : i = f ∧ j = o
    · rw [z.1, z.2, ef]; omega
    · rw [en _ _ z]; exact h1 i j hi hj
  · rw [en i a (by omega)]
    by_cases z : i = f ∧ b = o
    · obtain ⟨z1, z2⟩ := z
      subst z1; subst z2
      rw [ef]; omega
    · rw [en i b z]; exact h2 i hi
  · rw [en b j (by omega)]
    by_cases z : a = f ∧ j = o
    · obtain ⟨z1, z2⟩ := z
      subst z1; subst z2
      rw [ef]; omega
    · rw [en a j z]; exact h3 j hj
  · rw [en a a (by omega)]; exact h4
  · rw [en b b (by omega)]; exact h5
/-- the roads with a new one -/
def En (E : Nat → Nat → Nat → Prop) (a b d : Nat) : Nat → Nat → Nat → Prop := fun x y e => E x y e ∨ ((x = a ∧ y = b ∨ x = b ∧ y = a) ∧ e = d)
theorem En_ok {E : Nat → Nat → Nat → Prop} {a b d : Nat} (h : EOk E) (ha : a < 10) (hb : b < 10) (h1 : 1 ≤ d) (h2 : d ≤ 60) : EOk (En E a b d) := by
  intro x y e h3
  rcases h3 with h3 | ⟨h3, h4⟩
  · exact h x y e h3
  · omega
/-- a walk goes over the new road once at most -/
theorem En_split {E : Nat → Nat → Nat → Prop} {a b d i : Nat} : ∀ n y l, Wq (En E a b d) i n y l → (∃ n' l', Wq E i n' y l' ∧ l' ≤ l) ∨ (∃ n1 l1 n2 l2, Wq E i n1 a l1 ∧ Wq E b n2 y l2 ∧ l1 + d + l2 ≤ l) ∨ (∃ n1 l1 n2 l2, Wq E i n1 b l1 ∧ Wq E a n2 y l2 ∧ l1 + d + l2 ≤ l) := by
  intro n
  induction n with
  | zero => intro y l h; exact Or.inl ⟨0, l, h, Nat.le_refl _⟩
  | succ n ih =>
    rintro y l ⟨x, e, l', h1, h2, h3⟩
    rcases h1 with h1 | ⟨⟨rfl, rfl⟩ | ⟨rfl, rfl⟩, rfl⟩
    · rcases ih x l' h3 with ⟨m, k, g1, g2⟩ | ⟨n1, l1, n2, l2, g1, g2, g3⟩ | ⟨n1, l1, n2, l2, g1, g2, g3⟩
      · exact Or.inl ⟨m + 1, k + e, ⟨x, e, k, h1, rfl, g1⟩, by omega⟩
      · exact Or.inr (Or.inl ⟨n1, l1, n2 + 1, l2 + e, g1, ⟨x, e, l2, h1, rfl, g2⟩, by omega⟩)
      · exact Or.inr (Or.inr ⟨n1, l1, n2 + 1, l2 + e, g1, ⟨x, e, l2, h1, rfl, g2⟩, by omega⟩)
    · rcases ih x l' h3 with ⟨m, k, g1, g2⟩ | ⟨n1, l1, n2, l2, g1, g2, g3⟩ | ⟨n1, l1, n2, l2, g1, g2, g3⟩
      · exact Or.inr (Or.inl ⟨m, k, 0, 0, g1, ⟨rfl, rfl⟩, by omega⟩)
      · exact Or.inr (Or.inl ⟨n1, l1, 0, 0, g1, ⟨rfl, rfl⟩, by omega⟩)
      · exact Or.inl ⟨n1, l1, g1, by omega⟩
    · rcases ih x l' h3 with ⟨m, k, g1, g2⟩ | ⟨n1, l1, n2, l2, g1, g2, g3⟩ | ⟨n1, l1, n2, l2, g1, g2, g3⟩
      · exact Or.inr (Or.inr ⟨m, k, 0, 0, g1, ⟨rfl, rfl⟩, by omega⟩)
      · exact Or.inl ⟨n1, l1, g1, by omega⟩
      · exact Or.inr (Or.inr ⟨n1, l1, 0, 0, g1, ⟨rfl, rfl⟩, by omega⟩)
/-- what is in the table is a walk's length -/
def Sd (E : Nat → Nat → Nat → Prop) (T : Nat → Nat → Int) (ns : Nat) : Prop := ∀ i j, i < ns → j < 10 → T i j = -1 ∨ ∃ (n l : Nat), T i j = (l : Int) ∧ Wq E i n j l
theorem shT_Sd {E : Nat → Nat → Nat → Prop} {T : Nat → Nat → Int} {ns a b f o d : Nat} (h : Sd E T ns) (he : E a b d) (ha : a < 10) (hb : b < ns) (hf : f < ns) (ho : o < 10) : Sd E (shT T f o a b d) ns := by
  intro i j hi hj
  unfold shT
  split
  · rename_i q
    obtain ⟨q1, q2, q3, q4, q5⟩ := q
    subst q1; subst q2
    rcases h i a hi ha with e | ⟨n1, l1, e1, g1⟩
    · exact absurd e q3
    · rcases h b j hb hj with e | ⟨n2, l2, e2, g2⟩
      · exact absurd e q4
      · have s1 : Wq E i (n1 + 1) b (l1 + d) := ⟨a, d, l1, he, rfl, g1⟩
        obtain ⟨n3, g3⟩ := Wq_app s1 n2 j l2 g2
        exact Or.inr ⟨n3, l1 + d + l2, by rw [e1, e2]; omega, g3⟩
  · exact h i j hi hj
section SW
variable {w v : jW} {A : Nat → Int32} {c : Nat → Nat} {K : Nat}
/-- the same but for the cell 9 -/
def X9t (v w : jW) : Prop := ∀ b, b ≠ 9 → v.1 b = w.1 b
theorem X9t_t {u : jW} (h : X9t u v) (g : X9t v w) : X9t u w := fun b q => (h b q).trans (g b q)
theorem i32_small {x : Int32} (h1 : -1 ≤ x.toInt) (h2 : x.toInt ≤ 1260) : x = -1 ∧ x.toInt = -1 ∨ ∃ n, n ≤ 1260 ∧ x = nI n ∧ x.toInt = n := by
  by_cases q : x < 0
  · left
    have : x.toInt = -1 := by
      rw [Int32.lt_iff_toInt_lt] at q
      have : (0 : Int32).toInt = 0 := by decide
      omega
    exact ⟨Int32.toInt_inj.mp (by rw [this]; decide), this⟩
  · right
    obtain ⟨j, hj, rfl⟩ := nI_of q
    rw [nI_toInt hj] at h2 ⊢
    exact ⟨j, by omega, rfl, rfl⟩
theorem c_shorten {ns f o a b d : Nat} (J : JR v 8 10 10 ns) (hb : Jb (Tw v) ns a b) (ha : a < ns) (hbn : b < ns) (hf : f < ns) (ho : o < ns) (hn : ns ≤ 10) (hd : d ≤ 60) : ∃ v', f_State_shorten (nI f) (nI o) (nI a) (nI b) (nI d) v = some v' ∧ X9t v' v ∧ JR v' 8 10 10 ns ∧ ∀ i j, j < 10 → Tw v' i j = shT (Tw v) f o a b d i j := by
  have r1 := r_at J hf (j := a) (by omega)
  have r2 := r_at J hbn (j := o) (by omega)
  have r3 := r_at J hf (j := o) (by omega)
  have b1 := hb.1 f a hf (by omega)
  have b2 := hb.1 b o hbn (by omega)
  have b3 := hb.1 f o hf (by omega)
  have stay : ¬ (Tw v f a ≠ -1 ∧ Tw v b o ≠ -1 ∧ (Tw v f o = -1 ∨ Tw v f a + d + Tw v b o < Tw v f o)) → ∀ i j, j < 10 → Tw v i j = shT (Tw v) f o a b d i j := fun q i j _ => by
    unfold shT; rw [if_neg (fun z => q z.2.2)]
  rw [f_State_shorten, r1, ob]
  dsimp only
  rw [r2, ob]
  dsimp only
  unfold Tw at b1 b2 b3
  rcases i32_small b1.1 b1.2 with ⟨e1, t1⟩ | ⟨n1, l1, e1, t1⟩
  · rw [if_pos e1]
    exact ⟨v, rfl, fun _ _ => rfl, J, stay (fun z => z.1 t1)⟩
  rcases i32_small b2.1 b2.2 with ⟨e2, t2⟩ | ⟨n2, l2, e2, t2⟩
  · rw [e1, if_neg (nI_ne_m1 (by omega)), if_pos e2]
    exact ⟨v, rfl, fun _ _ => rfl, J, stay (fun z => z.2.1 t2)⟩
  have put : (Tw v f o = -1 ∨ Tw v f a + d + Tw v b o < Tw v f o) → ∃ v', f_State_shorten_j66 (nI f) (nI o) (nI d) (nI n1) (nI n2) v = some v' ∧ X9t v' v ∧ JR v' 8 10 10 ns ∧ ∀ i j, j < 10 → Tw v' i j = shT (Tw v) f o a b d i j := fun q => by
    refine ⟨(jup v.1 9 (f * 10 + o) (nI (n1 + d + n2)), v.2), ?_, fun b' q' => jup_fn q', JR_eq J (by dsimp only; rw [jup_fn (by omega)]), fun i j hj => ?_⟩
    · rw [f_State_shorten_j66, nI_add, nI_add, r_put J hf (by omega)]; rfl
    · show (jup v.1 9 (f * 10 + o) (nI (n1 + d + n2)) 9 (i * 10 + j)).toInt = _
      have t1' : Tw v f a = n1 := t1
      have t2' : Tw v b o = n2 := t2
      rw [jup_ap]
      unfold shT
      by_cases z : i = f ∧ j = o
      · rw [if_pos ⟨rfl, by omega⟩, if_pos ⟨z.1, z.2, by omega, by omega, q⟩, nI_toInt (by omega), t1', t2']; omega
      · rw [if_neg (by omega), if_neg (fun k => z ⟨k.1, k.2.1⟩)]; rfl
  rw [e1, e2, if_neg (nI_ne_m1 (by omega)), if_neg (nI_ne_m1 (by omega)), r3, ob]
  dsimp only
  have t1' : Tw v f a = n1 := t1
  have t2' : Tw v b o = n2 := t2
  rcases i32_small b3.1 b3.2 with ⟨e3, t3⟩ | ⟨n3, l3, e3, t3⟩
  · rw [if_pos e3]
    exact put (Or.inl t3)
  · have t3' : Tw v f o = n3 := t3
    rw [e3, if_neg (nI_ne_m1 (by omega)), nI_add, nI_add]
    by_cases q : n1 + d + n2 < n3
    · rw [if_pos (nI_lt q (by omega))]
      exact put (Or.inr (by omega))
    · rw [if_neg (nI_nlt (by omega) (by omega))]
      exact ⟨v, rfl, fun _ _ => rfl, J, stay (fun z => by omega)⟩
/-- all that a pass keeps; O is the table ahead of it -/
def Ps (E : Nat → Nat → Nat → Prop) (O : Nat → Nat → Int) (ns a b d : Nat) (v w : jW) : Prop := X9t v w ∧ JR v 8 10 10 ns ∧ Jb (Tw v) ns a b ∧ Sd E (Tw v) ns ∧ ∀ i j, i < ns → j < 10 → le8 (Tw v i j) (O i j)
def Pd (O : Nat → Nat → Int) (a b d : Nat) (v : jW) (i j : Nat) : Prop := le8 (Tw v i j) (cnd (O i a) (O b j) d) ∧ le8 (Tw v i j) (cnd (O i b) (O a j) d)
theorem c_pair {E : Nat → Nat → Nat → Prop} {O : Nat → Nat → Int} {ns f o a b d : Nat} (h : Ps E O ns a b d v w) (e1 : E a b d) (e2 : E b a d) (hab : a ≠ b) (ha : a < ns) (hb : b < ns) (hf : f < ns) (ho : o < ns) (hn : ns ≤ 10) (hd1 : 1 ≤ d) (hd : d ≤ 60) : ∃ v1 v2, f_State_shorten (nI f) (nI o) (nI a) (nI b) (nI d) v = some v1 ∧ f_State_shorten (nI f) (nI o) (nI b) (nI a) (nI d) v1 = some v2 ∧ Ps E O ns a b d v2 w ∧ Pd O a b d v2 f o ∧ ∀ i j, i < ns → j < 10 → le8 (Tw v2 i j) (Tw v i j) := by
  obtain ⟨h1, h2, h3, h4, h5⟩ := h
  obtain ⟨v1, s1, s2, s3, s4⟩ := c_shorten h2 h3 ha hb hf ho hn hd
  have eT : ∀ i j, i < ns → j < 10 → Tw v1 i j = shT (Tw v) f o a b d i j := fun i j _ hj => s4 i j hj
  have J1 := shT_Jb h3 ha hb hab hn hf (show o < 10 by omega) hd1 hd
  have J1' : Jb (Tw v1) ns a b := by
    obtain ⟨k1, k2, k3, k4, k5⟩ := J1
    refine ⟨fun i j hi hj => ?_, fun i hi => ?_, fun j hj => ?_, ?_, ?_⟩
    · rw [eT i j hi hj]; exact k1 i j hi hj
    · rw [eT i a hi (by omega), eT i b hi (by omega)]; exact k2 i hi
    · rw [eT a j ha hj, eT b j hb hj]; exact k3 j hj
    · rw [eT a a ha (by omega)]; exact k4
    · rw [eT b b hb (by omega)]; exact k5
  have S1 : Sd E (Tw v1) ns := fun i j hi hj => by rw [eT i j hi hj]; exact shT_Sd h4 e1 (by omega) hb hf (by omega) i j hi hj
  obtain ⟨v2, t1, t2, t3, t4⟩ := c_shorten s3 (Jb_sw J1') hb ha hf ho hn hd
  have eT2 : ∀ i j, i < ns → j < 10 → Tw v2 i j = shT (Tw v1) f o b a d i j := fun i j _ hj => t4 i j hj
  have J2 := Jb_sw (shT_Jb (Jb_sw J1') hb ha (Ne.symm hab) hn hf (show o < 10 by omega) hd1 hd)
  have J2' : Jb (Tw v2) ns a b := by
    obtain ⟨k1, k2, k3, k4, k5⟩ := J2
    refine ⟨fun i j hi hj => ?_, fun i hi => ?_, fun j hj => ?_, ?_, ?_⟩
    · rw [eT2 i j hi hj]; exact k1 i j hi hj
    · rw [eT2 i a hi (by omega), eT2 i b hi (by omega)]; exact k2 i hi
    · rw [eT2 a j ha hj, eT2 b j hb hj]; exact k3 j hj
    · rw [eT2 a a ha (by omega)]; exact k4
    · rw [eT2 b b hb (by omega)]; exact k5
  have S2 : Sd E (Tw v2) ns := fun i j hi hj => by rw [eT2 i j hi hj]; exact shT_Sd S1 e2 (by omega) ha hf (by omega) i j hi hj
  have b1 := h3.1 f a hf (by omega)
  have b2 := h3.1 b o hb (by omega)
  have b3 := J1'.1 f b hf (by omega)
  have b4 := J1'.1 a o ha (by omega)
  have m1 : ∀ i j, i < ns → j < 10 → le8 (Tw v1 i j) (Tw v i j) := fun i j hi hj => by rw [eT i j hi hj]; exact shT_le b1.1 b2.1
  have m2 : ∀ i j, i < ns → j < 10 → le8 (Tw v2 i j) (Tw v1 i j) := fun i j hi hj => by rw [eT2 i j hi hj]; exact shT_le b3.1 b4.1
  have m3 : ∀ i j, i < ns → j < 10 → le8 (Tw v2 i j) (Tw v i j) := fun i j hi hj => le8_t (m2 i j hi hj) (m1 i j hi hj)
  refine ⟨v1, v2, s1, t1, ⟨X9t_t t2 (X9t_t s2 h1), t3, J2', S2, fun i j hi hj => le8_t (m3 i j hi hj) (h5 i j hi hj)⟩, ⟨?_, ?_⟩, m3⟩
  · refine le8_t (m2 f o hf (by omega)) (le8_t ?_ (cnd_le b1.1 b2.1 (h5 f a hf (by omega)) (h5 b o hb (by omega))))
    rw [eT f o hf (by omega)]; exact shT_at b1.1 b2.1
  · refine le8_t ?_ (cnd_le b3.1 b4.1 (le8_t (m1 f b hf (by omega)) (h5 f b hf (by omega))) (le8_t (m1 a o ha (by omega)) (h5 a o ha (by omega))))
    rw [eT2 f o hf (by omega)]; exact shT_at b3.1 b4.1
theorem c_sw18 {E : Nat → Nat → Nat → Prop} {O : Nat → Nat → Int} {ns f a b d : Nat} {k3 : Int32 → Int32 → Int32 → Int32 → jW → Option jW} (J6 : JR w 6 5 10 ns) (e1 : E a b d) (e2 : E b a d) (hab : a ≠ b) (ha : a < ns) (hb : b < ns) (hf : f < ns) (hn : ns ≤ 10) (hd1 : 1 ≤ d) (hd : d ≤ 60) : ∀ (m o fu : Nat) (v : jW), Ps E O ns a b d v w → o + m = ns → m < fu → (∀ i j, i < ns → j < ns → (i < f ∨ i = f ∧ j < o) → Pd O a b d v i j) →
    ∃ v', f_State_shortenWays_h18 k3 fu (nI a) (nI b) (nI d) (nI f) (nI o) v = k3 (nI a) (nI b) (nI d) (nI (f + 1)) v' ∧ Ps E O ns a b d v' w ∧ ∀ i j, i < ns → j < ns → i < f + 1 → Pd O a b d v' i j := by
  intro m
  induction m with
  | zero =>
    intro o fu v h ho hfu hp
    obtain ⟨fu, rfl⟩ : ∃ j, fu = j + 1 := ⟨fu - 1, by omega⟩
    have J : JR v 6 5 10 ns := JR_eq J6 (h.1 6 (by omega))
    refine ⟨v, ?_, h, fun i j hi hj q => hp i j hi hj (by omega)⟩
    rw [f_State_shortenWays_h18, r_count J, ob]
    dsimp only
    rw [if_neg (nI_nlt (by omega) (by omega)), nI_1]
  | succ m ih =>
    intro o fu v h ho hfu hp
    obtain ⟨fu, rfl⟩ : ∃ j, fu = j + 1 := ⟨fu - 1, by omega⟩
    have J : JR v 6 5 10 ns := JR_eq J6 (h.1 6 (by omega))
    obtain ⟨v1, v2, s1, s2, s3, s4, s5⟩ := c_pair h e1 e2 hab ha hb hf (show o < ns by omega) hn hd1 hd
    obtain ⟨v', t1, t2, t3⟩ := ih (o + 1) fu v2 s3 (by omega) (by omega) (fun i j hi hj q => by
      by_cases z : i = f ∧ j = o
      · rw [z.1, z.2]; exact s4
      · have g := hp i j hi hj (by omega)
        exact ⟨le8_t (s5 i j hi (by omega)) g.1, le8_t (s5 i j hi (by omega)) g.2⟩)
    refine ⟨v', ?_, t2, t3⟩
    rw [f_State_shortenWays_h18, r_count J, ob]
    dsimp only
    rw [if_pos (nI_lt (by omega) (by omega)), s1, ob, s2, ob, nI_1]
    exact t1
theorem c_sw3 {E : Nat → Nat → Nat → Prop} {O : Nat → Nat → Int} {ns a b d : Nat} (J6 : JR w 6 5 10 ns) (e1 : E a b d) (e2 : E b a d) (hab : a ≠ b) (ha : a < ns) (hb : b < ns) (hn : ns ≤ 10) (hd1 : 1 ≤ d) (hd : d ≤ 60) : ∀ (m f fu : Nat) (v : jW), Ps E O ns a b d v w → f + m = ns → m < fu → (∀ i j, i < ns → j < ns → i < f → Pd O a b d v i j) →
    ∃ v', f_State_shortenWays_h3 fu (nI a) (nI b) (nI d) (nI f) v = some v' ∧ Ps E O ns a b d v' w ∧ ∀ i j, i < ns → j < ns → Pd O a b d v' i j := by
  intro m
  induction m with
  | zero =>
    intro f fu v h ho hfu hp
    obtain ⟨fu, rfl⟩ : ∃ j, fu = j + 1 := ⟨fu - 1, by omega⟩
    have J : JR v 6 5 10 ns := JR_eq J6 (h.1 6 (by omega))
    refine ⟨v, ?_, h, fun i j hi hj => hp i j hi hj (by omega)⟩
    rw [f_State_shortenWays_h3, r_count J, ob]
    dsimp only
    rw [if_neg (nI_nlt (by omega) (by omega))]
  | succ m ih =>
    intro f fu v h ho hfu hp
    obtain ⟨fu, rfl⟩ : ∃ j, fu = j + 1 := ⟨fu - 1, by omega⟩
    have J : JR v 6 5 10 ns := JR_eq J6 (h.1 6 (by omega))
    obtain ⟨v1, s1, s2, s3⟩ := c_sw18 (k3 := f_State_shortenWays_h3 fu) (f := f) J6 e1 e2 hab ha hb (by omega) hn hd1 hd ns 0 jfu v h (by omega) (by unfold jfu; omega) (fun i j hi hj q => hp i j hi hj (by omega))
    obtain ⟨v', t1, t2, t3⟩ := ih (f + 1) fu v1 s2 (by omega) (by omega) (fun i j hi hj q => s3 i j hi hj (by omega))
    refine ⟨v', ?_, t2, t3⟩
    rw [f_State_shortenWays_h3, r_count J, ob]
    dsimp only
    rw [if_pos (nI_lt (by omega) (by omega))]
    exact s1.trans t1
theorem Dq_T {E : Nat → Nat → Nat → Prop} {i y : Nat} {x : Int32} (h : Dq E i y x) : (x.toInt = -1 ∧ ∀ n l, ¬ Wq E i n y l) ∨ ∃ l : Nat, x.toInt = l ∧ l ≤ 540 ∧ (∃ n, Wq E i n y l) ∧ ∀ n l', Wq E i n y l' → l ≤ l' := by
  rcases h with ⟨h1, h2⟩ | ⟨l, h1, h2, h3, h4⟩
  · exact Or.inl ⟨by rw [h1]; decide, h2⟩
  · exact Or.inr ⟨l, by rw [h1, nI_toInt (by omega)], h2, h3, h4⟩
theorem c_shortenWays (H : RA w 3 A c K) {a b d : Nat} (hab : a ≠ b) (ha : a < c 1) (hb : b < c 1) (hd1 : 1 ≤ d) (hd : d ≤ 60) : ∃ v, f_State_shortenWays (nI a) (nI b) (nI d) w = some v ∧ X9t v w ∧ ∀ i j, i < c 1 → j < 10 → Dq (En (Ed A (c 2)) a b d) i j (v.1 9 (i * 10 + j)) := by
  have l1 := l_1 H
  have D0 : ∀ i j, i < c 1 → j < 10 → Dq (Ed A (c 2)) i j (w.1 9 (i * 10 + j)) := fun i j hi hj => Dis_q.mp ((p_Rway H).2 i j hi hj)
  have T0 := fun i j hi hj => Dq_T (D0 i j hi hj)
  have bnd : ∀ i j, i < c 1 → j < 10 → -1 ≤ Tw w i j ∧ Tw w i j ≤ 540 := fun i j hi hj => by
    unfold Tw
    rcases T0 i j hi hj with ⟨h1, h2⟩ | ⟨l, h1, h2, h3, h4⟩ <;> omega
  have dia : ∀ i, i < c 1 → Tw w i i = 0 := fun i hi => by
    unfold Tw
    rcases T0 i i hi (by omega) with ⟨h1, h2⟩ | ⟨l, h1, h2, h3, h4⟩
    · exact absurd ⟨rfl, rfl⟩ (h2 0 0)
    · have := h4 0 0 ⟨rfl, rfl⟩
      omega
  have hJ : Jb (Tw w) (c 1) a b := by
    refine ⟨fun i j hi hj => ?_, fun i hi => ?_, fun j hj => ?_, dia a ha, dia b hb⟩
    · have := bnd i j hi hj; omega
    · have := bnd i a hi (by omega); have := bnd i b hi (by omega); omega
    · have := bnd a j ha hj; have := bnd b j hb hj; omega
  have hS : Sd (En (Ed A (c 2)) a b d) (Tw w) (c 1) := fun i j hi hj => by
    unfold Tw
    rcases T0 i j hi hj with ⟨h1, h2⟩ | ⟨l, h1, h2, ⟨n, h3⟩, h4⟩
    · exact Or.inl h1
    · exact Or.inr ⟨n, l, h1, Wq_mono (fun _ _ _ q => Or.inl q) _ _ _ h3⟩
  obtain ⟨v, s1, s2, s3⟩ := c_sw3 (E := En (Ed A (c 2)) a b d) (O := Tw w) (j_si H) (Or.inr ⟨Or.inl ⟨rfl, rfl⟩, rfl⟩) (Or.inr ⟨Or.inr ⟨rfl, rfl⟩, rfl⟩) hab ha hb l1 hd1 hd (c 1) 0 jfu w ⟨fun _ _ => rfl, (p_Rway H).1, hJ, hS, fun _ _ _ _ => le8_r⟩ (by omega) (by unfold jfu; omega) (fun i j hi hj q => absurd q (by omega))
  obtain ⟨t1, t2, t3, t4, t5⟩ := s2
  have ok := En_ok (E := Ed A (c 2)) (a := a) (b := b) (d := d) Ed_ok (by omega) (by omega) hd1 hd
  refine ⟨v, s1, t1, fun i j hi hj => Dq_mk ok (by omega) hj ?_ (fun n l q1 q2 => ?_)⟩
  · have := t3.1 i j hi hj
    unfold Tw at this
    rcases i32_small this.1 this.2 with ⟨e, -⟩ | ⟨l, hl, e, e2⟩
    · exact Or.inl e
    · rcases t4 i j hi hj with q | ⟨n, l', q1, q2⟩
      · unfold Tw at q; omega
      · unfold Tw at q1
        have : l' = l := by omega
        exact Or.inr ⟨l, n, e, by omega, this ▸ q2⟩
  · have key : Tw v i j ≠ -1 ∧ Tw v i j ≤ l := by
      have old : ∀ i j, i < c 1 → j < 10 → ∀ n l, Wq (Ed A (c 2)) i n j l → Tw w i j ≠ -1 ∧ Tw w i j ≤ l := fun i j hi hj n l q => by
        unfold Tw
        rcases T0 i j hi hj with ⟨h1, h2⟩ | ⟨l, h1, h2, h3, h4⟩
        · exact absurd q (h2 _ _)
        · have := h4 _ _ q
          omega
      have hjs : ∀ n l a', a' < c 1 → Wq (Ed A (c 2)) a' n j l → j < c 1 := fun n l a' h1 h2 => by
        cases n with
        | zero => rw [h2.1]; exact h1
        | succ n => exact Wk_new (p_Iroad H) l1 n l ((Wk_q _ _ _).mpr h2)
      rcases En_split n j l q2 with ⟨n', l', g1, g2⟩ | ⟨n1, l1', n2, l2, g1, g2, g3⟩ | ⟨n1, l1', n2, l2, g1, g2, g3⟩
      · have k1 := old i j hi hj _ _ g1
        have k2 := t5 i j hi hj
        unfold le8 at k2
        omega
      · have k1 := old i a hi (by omega) _ _ g1
        have k2 := old b j hb hj _ _ g2
        have k3 := (s3 i j hi (hjs _ _ _ hb g2)).1
        unfold le8 cnd at k3
        rw [if_neg (by omega)] at k3
        have := (bnd i a hi (by omega)).1
        have := (bnd b j hb hj).1
        omega
      · have k1 := old i b hi (by omega) _ _ g1
        have k2 := old a j ha hj _ _ g2
        have k3 := (s3 i j hi (hjs _ _ _ ha g2)).2
        unfold le8 cnd at k3
        rw [if_neg (by omega)] at k3
        have := (bnd i b hi (by omega)).1
        have := (bnd a j ha hj).1
        omega
    have b := t3.1 i j hi hj
    unfold Tw at b key
    rcases i32_small b.1 b.2 with ⟨e, e2⟩ | ⟨l0, hl, e, e2⟩
    · omega
    · exact ⟨l0, e, by omega⟩
end SW
end WY


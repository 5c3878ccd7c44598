/-! LAYER B: a day's step on both sides -/
section KD
variable {w v z0 : jW} {A : Nat → Int32} {c ci : Nat → Nat} {K : Nat}
theorem Kn_ez {F G : Nat → Int64 → Int64} (h : Kn v w F) (e : ∀ s, s < 4 → F s (w.2 84 s) = G s (w.2 84 s)) : Kn v w G := ⟨h.1, fun s hs => by rw [h.2 s hs, e s hs]⟩
def clF (kd : Int32) (y : Int64) : Int64 := if kd = 3 then dnC (if kd = 1 then upC y else y) else if kd = 1 then upC y else y
theorem B41_cl {kd : Int32} {y : Int64} (h : B41 y) : B41 (clF kd y) := by
  have : B41 (if kd = 1 then upC y else y) := by
    split
    · exact B41_upC h
    · exact h
  unfold clF
  split
  · exact B41_dnC this
  · exact this
theorem clF_2 {kd : Int32} {y : Int64} (h : B41 y) : clF kd (clF kd y) = clF kd y := by
  unfold clF
  by_cases g : kd = 3
  · have : ¬ kd = 1 := by rw [g]; decide
    rw [if_pos g, if_pos g, if_neg this, if_neg this, dnC_2 h]
  · by_cases g1 : kd = 1
    · rw [if_neg g, if_neg g, if_pos g1, if_pos g1, upC_2 h]
    · rw [if_neg g, if_neg g, if_neg g1, if_neg g1]
theorem clF_f {kd : Int32} : clF kd fu41 = fu41 := by
  unfold clF
  split
  · split
    · rw [upC_f, dnC_f]
    · exact dnC_f
  · split
    · exact upC_f
    · rfl
theorem c_isP {s n : Nat} (hs : s < 4) (hn : n ≤ 40) : f_Knowing_isPossible (nI s) (nI n) v = some (if gb (v.2 84 s) n = true then 1 else 0, v) := by
  rw [f_Knowing_isPossible, if_neg (nI_pos (by omega)), nI_rfl 4, if_pos (nI_lt (by omega) (by omega)), if_neg (nI_pos (by omega)), if_pos (show nI n ≤ 40 from (nI_leI (b := 40) (by omega) (by omega)).mpr hn)]
  simp (disch := omega) only [jal_c, jal_n, jin_nI, Bool.and_true, ↓reduceIte, nI_clamp, bit_1]
  split <;> rfl
theorem c_least {s : Nat} (hs : s < 4) : ∀ m k f, k + m = 41 → m < f → f_Knowing_least_h2 f (nI s) (nI k) v = some (lsF (v.2 84 s) m k, v) := by
  intro m
  induction m with
  | zero =>
    intro k f hk hf
    obtain ⟨f, rfl⟩ : ∃ j, f = j + 1 := ⟨f - 1, by omega⟩
    rw [f_Knowing_least_h2, show k = 41 by omega, if_neg (by decide)]; rfl
  | succ m ih =>
    intro k f hk hf
    obtain ⟨f, rfl⟩ : ∃ j, f = j + 1 := ⟨f - 1, by omega⟩
    rw [f_Knowing_least_h2, if_pos (show nI k ≤ 40 from (nI_leI (b := 40) (by omega) (by omega)).mpr (by omega)), c_isP hs (by omega), ob, lsF]
    dsimp only
    by_cases g : gb (v.2 84 s) k = true
    · rw [if_pos g, if_neg one_ne, if_pos g]
    · rw [if_neg g, if_pos rfl, if_neg g, ip_1]; exact ih (k + 1) f (by omega) (by omega)
theorem c_great {s : Nat} (hs : s < 4) : ∀ n f, n ≤ 41 → n < f → f_Knowing_greatest_h3 f (nI s) (nI n - 1) v = some (gsF (v.2 84 s) n, v) := by
  intro n
  induction n with
  | zero =>
    intro f hn hf
    obtain ⟨f, rfl⟩ : ∃ j, f = j + 1 := ⟨f - 1, by omega⟩
    rw [f_Knowing_greatest_h3, if_pos (by decide)]; rfl
  | succ n ih =>
    intro f hn hf
    obtain ⟨f, rfl⟩ : ∃ j, f = j + 1 := ⟨f - 1, by omega⟩
    rw [show nI (n + 1) - 1 = nI n from nI_sub (a := n + 1) (b := 1) (by omega), f_Knowing_greatest_h3, if_neg (nI_pos (by omega)), c_isP hs (by omega), ob, gsF]
    dsimp only
    by_cases g : gb (v.2 84 s) n = true
    · rw [if_pos g, if_neg one_ne, if_pos g]
    · rw [if_neg g, if_pos rfl, if_neg g, show nI n + -1 = nI n - 1 from (Int32.sub_eq_add_neg _ _).symm]; exact ih f (by omega) (by omega)
theorem c_sp43 {k2 : Int32 → Int32 → jW → Option jW} {kd : Int32} {s : Nat} (hs : s < 4) (hb : B41 (v.2 84 s)) : ∃ u, f_Knowing_spread_j43 k2 kd (nI s) v = k2 kd (nI (s + 1)) u ∧ u.1 = v.1 ∧ (∀ r, r ≠ s → u.2 84 r = v.2 84 r) ∧ u.2 84 s = if kd = 3 then dnC (v.2 84 s) else v.2 84 s := by
  rw [f_Knowing_spread_j43]
  by_cases g : kd = 3
  rotate_left
  · rw [if_neg g, ip_1]; exact ⟨v, rfl, rfl, fun _ _ => rfl, by rw [if_neg g]⟩
  rw [if_pos g]
  simp (disch := omega) only [jal_c, jal_n, jin_nI, Bool.and_true, ↓reduceIte, nI_clamp, lg_0]
  by_cases z : v.2 84 s = 0
  · rw [if_pos z, ip_1]; exact ⟨v, rfl, rfl, fun _ _ => rfl, by rw [if_pos g, z]; rfl⟩
  obtain ⟨l, k1, k2', k3, k4⟩ := gs_sp 41 (ex_bit hb z)
  have eg : f_Knowing_greatest (nI s) v = some (nI l, v) := by
    rw [← k1]; exact c_great hs 41 jfu (by omega) (by unfold jfu; omega)
  rw [if_neg z, eg, ob]
  dsimp only
  rw [show f_Knowing_between 0 (nI l) v = _ from c_btw (a := 0) (by omega) (by omega), ob, jlw_e, ip_1]
  refine ⟨_, rfl, rfl, fun r hr => jup_k hr, ?_⟩
  show jup v.2 84 s (spF 0 l) 84 s = _
  rw [jup_eq, if_pos g, dnC, if_neg z, k1, nI_clamp (by omega)]
theorem c_spr {kd : Int32} : ∀ m s f (v : jW), s + m = 4 → m < f → (∀ r, r < 4 → B41 (v.2 84 r)) → ∃ v', f_Knowing_spread_h2 f kd (nI s) v = some v' ∧ v'.1 = v.1 ∧ ∀ r, r < 4 → v'.2 84 r = if r < s then v.2 84 r else clF kd (v.2 84 r) := by
  intro m
  induction m with
  | zero =>
    intro s f v hs hf hb
    obtain ⟨f, rfl⟩ : ∃ j, f = j + 1 := ⟨f - 1, by omega⟩
    refine ⟨v, ?_, rfl, fun r hr => by rw [if_pos (by omega)]⟩
    rw [f_Knowing_spread_h2, nI_rfl 4, if_neg (nI_nlt (by omega) (by omega))]
  | succ m ih =>
    intro s f v hs hf hb
    obtain ⟨f, rfl⟩ : ∃ j, f = j + 1 := ⟨f - 1, by omega⟩
    have hs4 : s < 4 := by omega
    rw [f_Knowing_spread_h2, nI_rfl 4, if_pos (nI_lt (by omega) (by omega))]
    have fin : ∀ v1 : jW, v1.1 = v.1 → (∀ r, r ≠ s → v1.2 84 r = v.2 84 r) → (v1.2 84 s = if kd = 1 then upC (v.2 84 s) else v.2 84 s) → ∃ v', f_Knowing_spread_j43 (f_Knowing_spread_h2 f) kd (nI s) v1 = some v' ∧ v'.1 = v.1 ∧ ∀ r, r < 4 → v'.2 84 r = if r < s then v.2 84 r else clF kd (v.2 84 r) := fun v1 q1 q2 q3 => by
      have hb1 : B41 (v1.2 84 s) := by
        rw [q3]; split
        · exact B41_upC (hb s hs4)
        · exact hb s hs4
      obtain ⟨u, e1, e2, e3, e4⟩ := c_sp43 (v := v1) (k2 := f_Knowing_spread_h2 f) (kd := kd) hs4 hb1
      have e5 : u.2 84 s = clF kd (v.2 84 s) := by rw [e4, q3, clF]
      obtain ⟨v', d1, d2, d3⟩ := ih (s + 1) f u (by omega) (by omega) (fun r hr => by
        by_cases z : r = s
        · rw [z, e5]; exact B41_cl (hb s hs4)
        · rw [e3 r z, q2 r z]; exact hb r hr)
      refine ⟨v', e1.trans d1, (d2.trans e2).trans q1, fun r hr => ?_⟩
      rw [d3 r hr]
      by_cases z : r = s
      · rw [if_pos (by omega), if_neg (by omega), z, e5]
      · by_cases z2 : r < s
        · rw [if_pos (by omega), if_pos z2, e3 r z, q2 r z]
        · rw [if_neg (by omega), if_neg z2, e3 r z, q2 r z]
    by_cases g : kd = 1
    rotate_left
    · rw [if_neg g]; exact fin v rfl (fun _ _ => rfl) (by rw [if_neg g])
    rw [if_pos g]
    simp (disch := omega) only [jal_c, jal_n, jin_nI, Bool.and_true, ↓reduceIte, nI_clamp, lg_0]
    by_cases z : v.2 84 s = 0
    · rw [if_pos z]; exact fin v rfl (fun _ _ => rfl) (by rw [if_pos g, upC, if_pos z])
    obtain ⟨j, j1, j2⟩ := ex_bit (hb s hs4) z
    obtain ⟨l, k1, k2, k3, k4, k5⟩ := ls_sp 41 0 ⟨j, by omega, by omega, j2⟩
    have eg : f_Knowing_least (nI s) v = some (nI l, v) := by
      rw [← k1]; exact c_least hs4 41 0 jfu (by omega) (by unfold jfu; omega)
    rw [if_neg z, eg, ob]
    dsimp only
    rw [show f_Knowing_between (nI l) 40 v = _ from c_btw (b := 40) (by omega) (by omega), ob, jlw_e]
    refine fin _ rfl (fun r hr => jup_k hr) ?_
    show jup v.2 84 s (spF l 40) 84 s = _
    rw [jup_eq, if_pos g, upC, if_neg z, k1, nI_clamp (by omega)]
theorem c_spread {kd : Int32} (hb : ∀ r, r < 4 → B41 (v.2 84 r)) : ∃ v', f_Knowing_spread kd v = some v' ∧ Kn v' v (fun _ y => clF kd y) := by
  obtain ⟨v', d1, d2, d3⟩ := c_spr (kd := kd) 4 0 jfu v (by omega) (by unfold jfu; omega) hb
  exact ⟨v', d1, d2, fun s hs => by rw [d3 s hs, if_neg (by omega)]⟩
/-- a day's step -/
def stepF (A : Nat → Int32) (c : Nat → Nat) (i s : Nat) (kn : Int32) (d : Nat) (y : Int64) : Int64 := snF A c (nI i) s (nI d) kn (clF (A (40 + 8 * i + 1)) (if qtF A (nI i) (nI d) kn (c 8) 0 = 0 then cgF A c i s (nI d) y else y))
theorem B41_vi {x d : Int32} {s : Nat} : ∀ m k y, B41 y → B41 (viF A x s d m k y) := by
  intro m
  induction m with
  | zero => intro k y h; exact h
  | succ m ih =>
    intro k y h
    refine ih (k + 1) _ ?_
    unfold v1F; split
    · exact B41_and1 h
    · exact h
theorem B41_pi {x d : Int32} {s : Nat} : ∀ m k y, B41 y → B41 (piF A x s d m k y) := by
  intro m
  induction m with
  | zero => intro k y h; exact h
  | succ m ih =>
    intro k y h
    refine ih (k + 1) _ ?_
    unfold p1F; split
    · exact h
    · split
      · exact B41_and1 h
      · exact h
theorem B41_sn {x d kn : Int32} {s : Nat} {y : Int64} (h : B41 y) : B41 (snF A c x s d kn y) := by
  unfold snF; split
  · exact B41_pi _ _ _ (B41_vi _ _ _ h)
  · exact h
theorem B41_in {i s d : Nat} {kn : Int32} {y : Int64} (h : B41 y) : B41 (if qtF A (nI i) (nI d) kn (c 8) 0 = 0 then cgF A c i s (nI d) y else y) := by
  split
  · exact B41_cg h
  · exact h
theorem B41_st {i s d : Nat} {kn : Int32} {y : Int64} (h : B41 y) : B41 (stepF A c i s kn d y) := B41_sn (B41_cl (B41_in h))
/-- nothing at the site on the day -/
def mvE (A : Nat → Int32) (i k d : Nat) : Prop := (A (720 + 8 * k + 2) = nI i → A (720 + 8 * k + 1) ≠ nI d) ∧ (A (720 + 8 * k + 3) = nI i → A (720 + 8 * k + 4) ≠ nI d)
def viE (A : Nat → Int32) (i : Nat) (kn : Int32) (k d : Nat) : Prop := A (11280 + 12 * k + 1) = nI i → A (11280 + 12 * k + 2) ≤ kn → A (11280 + 12 * k + 2) ≠ nI d ∧ A (11280 + 12 * k + 2) ≠ nI (d + 1)
def pcE (A : Nat → Int32) (i : Nat) (kn : Int32) (k d : Nat) : Prop := A (12480 + 4 * k) = nI i → A (12480 + 4 * k + 1) ≤ kn → A (12480 + 4 * k + 1) ≠ nI d ∧ A (12480 + 4 * k + 1) ≠ nI (d + 1)
def noE (A : Nat → Int32) (c : Nat → Nat) (i : Nat) (kn : Int32) (d : Nat) : Prop := (∀ k, k < c 4 → mvE A i k d) ∧ (∀ k, k < c 8 → viE A i kn k d) ∧ ∀ k, k < c 9 → pcE A i kn k d
theorem rec_id {i s d : Nat} : ∀ m k y, (∀ j, j < k + m → mvE A i j d) → recF A (nI i) s (nI d) m k y = y := by
  intro m
  induction m with
  | zero => intro k y _; rfl
  | succ m ih =>
    intro k y h
    have hk := h k (by omega)
    rw [recF, s1F, if_neg (fun z => hk.1 z.1 z.2), s2F, if_neg (fun z => hk.2 z.1 z.2)]
    exact ih (k + 1) y (fun j hj => h j (by omega))
theorem vi_id {i s : Nat} {d : Int32} : ∀ m k y, (∀ j, j < k + m → A (11280 + 12 * j + 1) = nI i → A (11280 + 12 * j + 2) ≠ d) → viF A (nI i) s d m k y = y := by
  intro m
  induction m with
  | zero => intro k y _; rfl
  | succ m ih =>
    intro k y h
    rw [viF, v1F, if_neg (fun z => h k (by omega) z.1 z.2)]
    exact ih (k + 1) y (fun j hj => h j (by omega))
theorem pi_id {i s : Nat} {d : Int32} : ∀ m k y, (∀ j, j < k + m → A (12480 + 4 * j) = nI i → A (12480 + 4 * j + 1) ≠ d) → piF A (nI i) s d m k y = y := by
  intro m
  induction m with
  | zero => intro k y _; rfl
  | succ m ih =>
    intro k y h
    have : p1F A (nI i) s d k y = y := by
      rw [p1F]; split
      · rfl
      · exact if_neg (fun z => h k (by omega) z.1 z.2)
    rw [piF, this]
    exact ih (k + 1) y (fun j hj => h j (by omega))
theorem sn_id {i s d : Nat} {kn : Int32} {y : Int64} (h : nI (d + 1) ≤ kn → (∀ k, k < c 8 → A (11280 + 12 * k + 1) = nI i → A (11280 + 12 * k + 2) ≠ nI (d + 1)) ∧ ∀ k, k < c 9 → A (12480 + 4 * k) = nI i → A (12480 + 4 * k + 1) ≠ nI (d + 1)) : snF A c (nI i) s (nI d) kn y = y := by
  unfold snF
  rw [ip_1]
  split
  · rename_i q
    obtain ⟨h1, h2⟩ := h q
    rw [vi_id _ _ _ (fun j hj => h1 j (by omega)), pi_id _ _ _ (fun j hj => h2 j (by omega))]
  · rfl
theorem idle (H : RA z0 3 A c K) {i s d : Nat} {kn : Int32} {y : Int64} (hd : d ≤ 3000) (hy : B41 y) (hn : noE A c i kn (d + 1)) : stepF A c i s kn (d + 1) (stepF A c i s kn d y) = stepF A c i s kn d y := by
  obtain ⟨n1, n2, n3⟩ := hn
  have a1 : ∀ z, snF A c (nI i) s (nI d) kn z = z := fun z => sn_id fun q => ⟨fun k hk g e => (n2 k hk g (by rw [e]; exact q)).1 e, fun k hk g e => (n3 k hk g (by rw [e]; exact q)).1 e⟩
  have a2 : ∀ z, snF A c (nI i) s (nI (d + 1)) kn z = z := fun z => sn_id fun q => ⟨fun k hk g e => (n2 k hk g (by rw [e]; exact q)).2 e, fun k hk g e => (n3 k hk g (by rw [e]; exact q)).2 e⟩
  unfold stepF
  rw [a1, a2]
  have hz := B41_in (A := A) (c := c) (i := i) (s := s) (d := d) (kn := kn) hy
  by_cases q2 : qtF A (nI i) (nI (d + 1)) kn (c 8) 0 = 0
  rotate_left
  · rw [if_neg q2, clF_2 hz]
  rw [if_pos q2, cgF, rec_id _ _ _ (fun j hj => n1 j (by omega))]
  by_cases g : A (40 + 8 * i + 2) = 0
  rotate_left
  · rw [if_neg g, clF_2 hz]
  rw [if_pos g]
  by_cases q1 : qtF A (nI i) (nI d) kn (c 8) 0 = 0
  · rw [if_pos q1, cgF, if_pos g]
  · exfalso
    obtain ⟨j, j1, j2, j3, j4, j5, j6, j7⟩ := qt_1 _ _ q1
    have hj : j < c 8 := by omega
    obtain ⟨s', v, e1, e2, e3, e4, e5, e6, e7, e8, e9⟩ := p_Ivis H j hj
    have l0 := l_0 H
    obtain ⟨l, hl, hl9⟩ := e9 j6
    have b1 := (n2 j hj j3 j5).1
    rw [e2] at j4 b1
    have b2 : v ≠ d + 1 := fun z => b1 (by rw [z])
    have b3 : ¬ v ≤ d := fun z => j4 ((nI_leI (by omega) (by omega)).mpr z)
    obtain ⟨s2, d2, r1, r2, r3, r4⟩ := p_Iseal H l hl
    rw [hl9, nI_clamp (by have := l_5 H; omega), r2] at j7
    refine qt_2 (c 8) 0 j (by omega) (by omega) j3 ?_ j5 j6 ?_ q2
    · rw [e2]; exact fun z => absurd ((nI_leI (by omega) (by omega)).mp z) (by omega)
    · rw [hl9, nI_clamp (by have := l_5 H; omega), r2]
      have := (nI_ltI (by omega) (by omega)).mp j7
      exact nI_lt (by omega) (by omega)
end KD


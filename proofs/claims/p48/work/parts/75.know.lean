/-! LAYER B: the days that the class leaps over -/
section KW
variable {w v z0 : jW} {A : Nat → Int32} {c ci : Nat → Nat} {K : Nat}
theorem c_soon {e n d : Nat} (he : e ≤ 2000) (hn : n ≤ 2000) (hd : d < e) : ∃ e', f_Knowing_sooner (nI e) (nI n) (nI d) v = some (nI e', v) ∧ d < e' ∧ e' ≤ e ∧ ∀ d', d < d' → d' < e' → d' ≠ n ∧ d' ≠ n + 1 := by
  rw [f_Knowing_sooner]
  by_cases g : n ≤ d
  · rw [if_pos ((nI_leI (by omega) (by omega)).mpr g), ip_1, f_Knowing_sooner_j12]
    by_cases g2 : n + 1 ≤ d
    · rw [if_pos ((nI_leI (by omega) (by omega)).mpr g2)]
      exact ⟨e, rfl, hd, by omega, fun d' h1 h2 => by omega⟩
    · rw [if_neg (fun z => g2 ((nI_leI (by omega) (by omega)).mp z))]
      by_cases g3 : n + 1 < e
      · rw [if_pos (nI_lt g3 (by omega))]
        exact ⟨n + 1, rfl, by omega, by omega, fun d' h1 h2 => by omega⟩
      · rw [if_neg (nI_nlt (by omega) (by omega))]
        exact ⟨e, rfl, hd, by omega, fun d' h1 h2 => by omega⟩
  · rw [if_neg (fun z => g ((nI_leI (by omega) (by omega)).mp z)), f_Knowing_sooner_j12, if_neg (fun z => g ((nI_leI (by omega) (by omega)).mp z))]
    by_cases g3 : n < e
    · rw [if_pos (nI_lt g3 (by omega))]
      exact ⟨n, rfl, by omega, by omega, fun d' h1 h2 => by omega⟩
    · rw [if_neg (nI_nlt (by omega) (by omega))]
      exact ⟨e, rfl, hd, by omega, fun d' h1 h2 => by omega⟩
theorem nI_ne' {a b : Nat} (ha : a < 2 ^ 31) (hb : b < 2 ^ 31) (h : a ≠ b) : nI a ≠ nI b := fun z => h ((nI_eq ha hb).mp z)
theorem c_nx160 (H : RA v 3 A c K) {i d : Nat} {kn : Int32} (hd : d ≤ 1999) : ∀ m k f e, k + m = c 9 → m < f → d < e → e ≤ 2000 → ∃ e', f_Knowing_nextDay_h160 f (nI i) (nI d) kn (nI e) (nI k) v = some (nI e', v) ∧ d < e' ∧ e' ≤ e ∧ ∀ j, k ≤ j → j < c 9 → ∀ d', d < d' → d' < e' → pcE A i kn j d' := by
  have l9 := l_9 H
  intro m
  induction m with
  | zero =>
    intro k f e hk hf h1 h2
    obtain ⟨f, rfl⟩ : ∃ j, f = j + 1 := ⟨f - 1, by omega⟩
    refine ⟨e, ?_, h1, by omega, fun j q1 q2 => by omega⟩
    rw [f_Knowing_nextDay_h160, n_pc H, ob]
    dsimp only
    rw [if_neg (nI_nlt (by omega) (by omega))]
  | succ m ih =>
    intro k f e hk hf h1 h2
    obtain ⟨f, rfl⟩ : ∃ j, f = j + 1 := ⟨f - 1, by omega⟩
    have hk9 : k < c 9 := by omega
    have l0 := l_0 H
    obtain ⟨x', t, n, q1, q2, q3, q4, q5, q6, q7⟩ := p_Ipic H k hk9
    rw [f_Knowing_nextDay_h160, n_pc H, ob]
    dsimp only
    rw [if_pos (nI_lt hk9 (by omega)), a_pc1 H hk9, ob]
    dsimp only
    rw [a_pc0 H hk9, ob]
    dsimp only
    have sk : (∀ d', d < d' → pcE A i kn k d') → ∃ e', f_Knowing_nextDay_h160 f (nI i) (nI d) kn (nI e) (nI (k + 1)) v = some (nI e', v) ∧ d < e' ∧ e' ≤ e ∧ ∀ j, k ≤ j → j < c 9 → ∀ d', d < d' → d' < e' → pcE A i kn j d' := fun hs => by
      obtain ⟨e', r1, r2, r3, r4⟩ := ih (k + 1) f e (by omega) (by omega) h1 h2
      refine ⟨e', r1, r2, r3, fun j y1 y2 d' y3 y4 => ?_⟩
      by_cases z : j = k
      · rw [z]; exact hs d' y3
      · exact r4 j (by omega) y2 d' y3 y4
    by_cases g1 : A (12480 + 4 * k) = nI i
    rotate_left
    · rw [if_neg g1, ip_1]; exact sk fun d' _ z => absurd z g1
    by_cases g2 : A (12480 + 4 * k + 1) ≤ kn
    rotate_left
    · rw [if_pos g1, if_neg g2, ip_1]; exact sk fun d' _ _ z => absurd z g2
    obtain ⟨e1, s1, s2, s3, s4⟩ := c_soon (v := v) (e := e) (n := t - 1) (d := d) h2 (by omega) h1
    obtain ⟨e', r1, r2, r3, r4⟩ := ih (k + 1) f e1 (by omega) (by omega) s2 (by omega)
    rw [if_pos g1, if_pos g2, q2, show nI t - 1 = nI (t - 1) from nI_sub (a := t) (b := 1) q5, s1, ob, ip_1]
    refine ⟨e', r1, r2, by omega, fun j y1 y2 d' y3 y4 => ?_⟩
    by_cases z : j = k
    · rw [z]
      intro _ _
      have := s4 d' y3 (by omega)
      rw [q2]
      exact ⟨nI_ne' (by omega) (by omega) (by omega), nI_ne' (by omega) (by omega) (by omega)⟩
    · exact r4 j (by omega) y2 d' y3 y4
theorem c_nx93 (H : RA v 3 A c K) {i d : Nat} {kn : Int32} (hd : d ≤ 1999) : ∀ m k f e, k + m = c 8 → m < f → d < e → e ≤ 2000 → ∃ e', f_Knowing_nextDay_h93 f (nI i) (nI d) kn (nI e) (nI k) v = f_Knowing_nextDay_h160 jfu (nI i) (nI d) kn (nI e') 0 v ∧ d < e' ∧ e' ≤ e ∧ ∀ j, k ≤ j → j < c 8 → ∀ d', d < d' → d' < e' → viE A i kn j d' := by
  have l8 := l_8 H
  intro m
  induction m with
  | zero =>
    intro k f e hk hf h1 h2
    obtain ⟨f, rfl⟩ : ∃ j, f = j + 1 := ⟨f - 1, by omega⟩
    refine ⟨e, ?_, h1, by omega, fun j q1 q2 => by omega⟩
    rw [f_Knowing_nextDay_h93, n_vi H, ob]
    dsimp only
    rw [if_neg (nI_nlt (by omega) (by omega))]
  | succ m ih =>
    intro k f e hk hf h1 h2
    obtain ⟨f, rfl⟩ : ∃ j, f = j + 1 := ⟨f - 1, by omega⟩
    have hk8 : k < c 8 := by omega
    have l0 := l_0 H
    obtain ⟨s', t, q1, q2, q3, q4, q5, _⟩ := p_Ivis H k hk8
    rw [f_Knowing_nextDay_h93, n_vi H, ob]
    dsimp only
    rw [if_pos (nI_lt hk8 (by omega)), a_vi6 H hk8, ob]
    dsimp only
    rw [a_vi8 H hk8, ob]
    dsimp only
    have sk : (∀ d', d < d' → viE A i kn k d') → ∃ e', f_Knowing_nextDay_h93 f (nI i) (nI d) kn (nI e) (nI (k + 1)) v = f_Knowing_nextDay_h160 jfu (nI i) (nI d) kn (nI e') 0 v ∧ d < e' ∧ e' ≤ e ∧ ∀ j, k ≤ j → j < c 8 → ∀ d', d < d' → d' < e' → viE A i kn j d' := fun hs => by
      obtain ⟨e', r1, r2, r3, r4⟩ := ih (k + 1) f e (by omega) (by omega) h1 h2
      refine ⟨e', r1, r2, r3, fun j y1 y2 d' y3 y4 => ?_⟩
      by_cases z : j = k
      · rw [z]; exact hs d' y3
      · exact r4 j (by omega) y2 d' y3 y4
    by_cases g1 : A (11280 + 12 * k + 1) = nI i
    rotate_left
    · rw [if_neg g1, ip_1]; exact sk fun d' _ z => absurd z g1
    by_cases g2 : A (11280 + 12 * k + 2) ≤ kn
    rotate_left
    · rw [if_pos g1, if_neg g2, ip_1]; exact sk fun d' _ _ z => absurd z g2
    obtain ⟨e1, s1, s2, s3, s4⟩ := c_soon (v := v) (e := e) (n := t - 1) (d := d) h2 (by omega) h1
    obtain ⟨e', r1, r2, r3, r4⟩ := ih (k + 1) f e1 (by omega) (by omega) s2 (by omega)
    rw [if_pos g1, if_pos g2, q2, show nI t - 1 = nI (t - 1) from nI_sub (a := t) (b := 1) q4, s1, ob, ip_1]
    refine ⟨e', r1, r2, by omega, fun j y1 y2 d' y3 y4 => ?_⟩
    by_cases z : j = k
    · rw [z]
      intro _ _
      have := s4 d' y3 (by omega)
      rw [q2]
      exact ⟨nI_ne' (by omega) (by omega) (by omega), nI_ne' (by omega) (by omega) (by omega)⟩
    · exact r4 j (by omega) y2 d' y3 y4
theorem c_nx8 (H : RA v 3 A c K) {i d : Nat} {kn : Int32} (hd : d ≤ 1999) : ∀ m k f e, k + m = c 4 → m < f → d < e → e ≤ 2000 → ∃ e', f_Knowing_nextDay_h8 f (nI i) (nI d) kn (nI e) (nI k) v = f_Knowing_nextDay_h93 jfu (nI i) (nI d) kn (nI e') 0 v ∧ d < e' ∧ e' ≤ e ∧ ∀ j, k ≤ j → j < c 4 → ∀ d', d < d' → d' < e' → mvE A i j d' := by
  have l4 := l_4 H
  intro m
  induction m with
  | zero =>
    intro k f e hk hf h1 h2
    obtain ⟨f, rfl⟩ : ∃ j, f = j + 1 := ⟨f - 1, by omega⟩
    refine ⟨e, ?_, h1, by omega, fun j q1 q2 => by omega⟩
    rw [f_Knowing_nextDay_h8, n_mv H, ob]
    dsimp only
    rw [if_neg (nI_nlt (by omega) (by omega))]
  | succ m ih =>
    intro k f e hk hf h1 h2
    obtain ⟨f, rfl⟩ : ∃ j, f = j + 1 := ⟨f - 1, by omega⟩
    have hk4 : k < c 4 := by omega
    have l0 := l_0 H
    obtain ⟨t, a, b, n1, n2, q1, q2, q3, q4, q5, q6, q7, q8, q9, q10, q11, _⟩ := p_Imove H k hk4
    have st : ∀ e0, d < e0 → e0 ≤ e → (∀ d', d < d' → d' < e0 → A (720 + 8 * k + 2) = nI i → A (720 + 8 * k + 1) ≠ nI d') → ∃ e', f_Knowing_nextDay_j52 (f_Knowing_nextDay_h8 f) (nI i) (nI d) kn (nI e0) (nI k) v = f_Knowing_nextDay_h93 jfu (nI i) (nI d) kn (nI e') 0 v ∧ d < e' ∧ e' ≤ e ∧ ∀ j, k ≤ j → j < c 4 → ∀ d', d < d' → d' < e' → mvE A i j d' := fun e0 y1 y2 y3 => by
      rw [f_Knowing_nextDay_j52, a_mv2 H hk4, ob]
      dsimp only
      by_cases g1 : A (720 + 8 * k + 3) = nI i
      rotate_left
      · obtain ⟨e', r1, r2, r3, r4⟩ := ih (k + 1) f e0 (by omega) (by omega) y1 (by omega)
        rw [if_neg g1, ip_1]
        refine ⟨e', r1, r2, by omega, fun j z1 z2 d' z3 z4 => ?_⟩
        by_cases z : j = k
        · rw [z]; exact ⟨y3 d' z3 (by omega), fun y => absurd y g1⟩
        · exact r4 j (by omega) z2 d' z3 z4
      obtain ⟨e1, s1, s2, s3, s4⟩ := c_soon (v := v) (e := e0) (n := n2) (d := d) (by omega) (by omega) y1
      obtain ⟨e', r1, r2, r3, r4⟩ := ih (k + 1) f e1 (by omega) (by omega) s2 (by omega)
      rw [if_pos g1, a_mv4 H hk4, ob]
      dsimp only
      rw [q5, s1, ob, ip_1]
      refine ⟨e', r1, r2, by omega, fun j z1 z2 d' z3 z4 => ?_⟩
      by_cases z : j = k
      · rw [z]
        refine ⟨y3 d' z3 (by omega), fun _ => ?_⟩
        have := s4 d' z3 (by omega)
        rw [q5]; exact nI_ne' (by omega) (by omega) (by omega)
      · exact r4 j (by omega) z2 d' z3 z4
    rw [f_Knowing_nextDay_h8, n_mv H, ob]
    dsimp only
    rw [if_pos (nI_lt hk4 (by omega)), a_mv1 H hk4, ob]
    dsimp only
    by_cases g1 : A (720 + 8 * k + 2) = nI i
    rotate_left
    · rw [if_neg g1]; exact st e h1 (by omega) fun d' _ _ z => absurd z g1
    obtain ⟨e1, s1, s2, s3, s4⟩ := c_soon (v := v) (e := e) (n := n1) (d := d) h2 (by omega) h1
    rw [if_pos g1, a_mv3 H hk4, ob]
    dsimp only
    rw [q2, s1, ob]
    refine st e1 s2 s3 fun d' z1 z2 _ => ?_
    have := s4 d' z1 z2
    rw [q2]; exact nI_ne' (by omega) (by omega) (by omega)
theorem c_next (H : RA v 3 A c K) {i d : Nat} {kn : Int32} (hd : d ≤ 1999) : ∃ e, f_Knowing_nextDay (nI i) (nI d) kn v = some (nI e, v) ∧ d < e ∧ e ≤ 2000 ∧ ∀ d', d < d' → d' < e → noE A c i kn d' := by
  have l4 := l_4 H
  have l8 := l_8 H
  have l9 := l_9 H
  obtain ⟨e1, a1, a2, a3, a4⟩ := c_nx8 H (i := i) (kn := kn) hd (c 4) 0 jfu 2000 (by omega) (by unfold jfu; omega) (by omega) (by omega)
  obtain ⟨e2, b1, b2, b3, b4⟩ := c_nx93 H (i := i) (kn := kn) hd (c 8) 0 jfu e1 (by omega) (by unfold jfu; omega) a2 (by omega)
  obtain ⟨e3, d1, d2, d3, d4⟩ := c_nx160 H (i := i) (kn := kn) hd (c 9) 0 jfu e2 (by omega) (by unfold jfu; omega) b2 (by omega)
  exact ⟨e3, a1.trans (b1.trans d1), d2, by omega, fun d' h1 h2 => ⟨fun k hk => a4 k (by omega) hk d' h1 (by omega), fun k hk => b4 k (by omega) hk d' h1 (by omega), fun k hk => d4 k (by omega) hk d' h1 h2⟩⟩
/-- day after day -/
def itF (A : Nat → Int32) (c : Nat → Nat) (i s : Nat) (kn : Int32) : Nat → Nat → Int64 → Int64
  | 0, _, y => y
  | m + 1, d, y => itF A c i s kn m (d + 1) (stepF A c i s kn d y)
theorem B41_it {i s : Nat} {kn : Int32} : ∀ m d y, B41 y → B41 (itF A c i s kn m d y) := by
  intro m
  induction m with
  | zero => intro d y h; exact h
  | succ m ih => intro d y h; exact ih _ _ (B41_st h)
theorem it_add {i s : Nat} {kn : Int32} : ∀ m n d y, itF A c i s kn (m + n) d y = itF A c i s kn n (d + m) (itF A c i s kn m d y) := by
  intro m
  induction m with
  | zero => intro n d y; rw [Nat.zero_add]; rfl
  | succ m ih => intro n d y; rw [show m + 1 + n = (m + n) + 1 by omega, itF, itF, ih, show d + 1 + m = d + (m + 1) by omega]
theorem it_idle (H : RA z0 3 A c K) {i s : Nat} {kn : Int32} : ∀ n d y, d + n ≤ 3000 → B41 y → (∀ d', d < d' → d' < d + n + 1 → noE A c i kn d') → itF A c i s kn n (d + 1) (stepF A c i s kn d y) = stepF A c i s kn d y := by
  intro n
  induction n with
  | zero => intro d y _ _ _; rfl
  | succ n ih =>
    intro d y h1 h2 h3
    rw [itF]
    have e := ih (d + 1) (stepF A c i s kn d y) (by omega) (B41_st h2) (fun d' q1 q2 => h3 d' (by omega) (by omega))
    have e1 := idle H (s := s) (by omega) h2 (h3 (d + 1) (by omega) (by omega))
    rw [e1] at e
    rw [e1]; exact e
theorem c_w35 {i D : Nat} {kn : Nat} (hi : i < c 1) (hD : D ≤ kn) (hk : kn ≤ 1999) : ∀ n d j f (v : jW), RA v 3 A c K → D + 1 - d ≤ n → n < f → j ≤ d → d ≤ 2000 → (∀ s, s < 4 → B41 (v.2 84 s)) → ∃ v', f_Knowing_walk_h35 f (nI i) (nI D) (nI kn) (nI d) (nI j) v = some v' ∧ Kn v' v (fun s y => itF A c i s (nI kn) (D + 1 - d) d y) := by
  have stop : ∀ d j f (v : jW), D < d → d ≤ 2000 → j ≤ d → 0 < f → ∃ v', f_Knowing_walk_h35 f (nI i) (nI D) (nI kn) (nI d) (nI j) v = some v' ∧ Kn v' v (fun s y => itF A c i s (nI kn) (D + 1 - d) d y) := fun d j f v h1 h2 h3 hf => by
    obtain ⟨f, rfl⟩ : ∃ j, f = j + 1 := ⟨f - 1, by omega⟩
    refine ⟨v, ?_, ?_⟩
    · rw [f_Knowing_walk_h35]
      by_cases g : nI j ≤ 1999
      · rw [if_pos g, if_neg (fun z => absurd ((nI_leI (by omega) (by omega)).mp z) (by omega))]
      · rw [if_neg g]
    · rw [show D + 1 - d = 0 by omega]; exact Kn_id
  intro n
  induction n with
  | zero =>
    intro d j f v H h1 hf h2 h3 hb
    exact stop d j f v (by omega) h3 h2 (by omega)
  | succ n ih =>
    intro d j f v H h1 hf h2 h3 hb
    by_cases hd : D < d
    · exact stop d j f v hd h3 h2 (by omega)
    have l8 := l_8 H
    have l9 := l_9 H
    obtain ⟨f, rfl⟩ : ∃ j, f = j + 1 := ⟨f - 1, by omega⟩
    rw [f_Knowing_walk_h35, if_pos (show nI j ≤ 1999 from (nI_leI (b := 1999) (by omega) (by omega)).mpr (by omega)), if_pos ((nI_leI (by omega) (by omega)).mpr (by omega)), f_Knowing_isQuiet, show f_Knowing_isQuiet_h3 jfu (nI i) (nI d) (nI kn) 0 v = _ from c_quiet H (c 8) 0 jfu (by omega) (by unfold jfu; omega), ob]
    dsimp only
    -- the rest of the day from u on
    have rest : ∀ u : jW, Kn u v (fun s y => if qtF A (nI i) (nI d) (nI kn) (c 8) 0 = 0 then cgF A c i s (nI d) y else y) → ∃ v', f_Knowing_walk_j69 (f_Knowing_walk_h35 f) (nI i) (nI D) (nI kn) (nI d) (nI j) u = some v' ∧ Kn v' v (fun s y => itF A c i s (nI kn) (D + 1 - d) d y) := fun u hu => by
      have Hu := Kn_RA hu H
      have bu : ∀ s, s < 4 → B41 (u.2 84 s) := fun s hs => by rw [hu.2 s hs]; exact B41_in (hb s hs)
      obtain ⟨u1, s1, s2⟩ := c_spread (kd := A (40 + 8 * i + 1)) bu
      have H1 := Kn_RA s2 Hu
      have t1 := Kn_t s2 hu
      -- the end of the day
      have fin : ∀ u2 : jW, Kn u2 v (fun s y => stepF A c i s (nI kn) d y) → ∃ v', f_Knowing_walk_j109 (f_Knowing_walk_h35 f) (nI i) (nI D) (nI kn) (nI d) (nI j) u2 = some v' ∧ Kn v' v (fun s y => itF A c i s (nI kn) (D + 1 - d) d y) := fun u2 h2' => by
        have H2 := Kn_RA h2' H
        obtain ⟨e, e1, e2, e3, e4⟩ := c_next H2 (i := i) (kn := nI kn) (d := d) (by omega)
        have b2' : ∀ s, s < 4 → B41 (u2.2 84 s) := fun s hs => by rw [h2'.2 s hs]; exact B41_st (hb s hs)
        obtain ⟨v', r1, r2⟩ := ih e (j + 1) f u2 H2 (by omega) (by omega) (by omega) e3 b2'
        refine ⟨v', ?_, Kn_ez (Kn_t r2 h2') fun s hs => ?_⟩
        · rw [f_Knowing_walk_j109, e1, ob, ip_1]; exact r1
        · show itF A c i s (nI kn) (D + 1 - e) e (stepF A c i s (nI kn) d (v.2 84 s)) = _
          rw [show D + 1 - d = (D - d) + 1 by omega, itF]
          by_cases z : e ≤ D
          · have := it_idle H (i := i) (s := s) (kn := nI kn) (e - 1 - d) d (v.2 84 s) (by omega) (hb s hs) (fun d' q1 q2 => e4 d' q1 (by omega))
            rw [show D - d = (e - 1 - d) + (D + 1 - e) by omega, it_add, this, show d + 1 + (e - 1 - d) = e by omega]
          · rw [show D + 1 - e = 0 by omega, it_idle H (i := i) (s := s) (kn := nI kn) (D - d) d (v.2 84 s) (by omega) (hb s hs) (fun d' q1 q2 => e4 d' q1 (by omega))]
            rfl
      rw [f_Knowing_walk_j69, a_si1 Hu hi, ob]
      dsimp only
      rw [s1, ob]
      by_cases g : d < kn
      · obtain ⟨u2, p1, p2⟩ := c_vis (A := A) (x := nI i) (d := nI (d + 1)) (c 8) 0 jfu u1 H1 (by omega) (by unfold jfu; omega)
        obtain ⟨u3, p3, p4⟩ := c_pic (A := A) (x := nI i) (d := nI (d + 1)) (c 9) 0 jfu u2 (Kn_RA p2 H1) (by omega) (by unfold jfu; omega)
        rw [if_pos (nI_lt g (by omega)), ip_1, f_Knowing_visitedOn, show f_Knowing_visitedOn_h3 jfu (nI i) (nI (d + 1)) 0 u1 = _ from p1, ob, f_Knowing_picturedOn, show f_Knowing_picturedOn_h3 jfu (nI i) (nI (d + 1)) 0 u2 = _ from p3, ob]
        refine fin u3 (Kn_ex (Kn_t p4 (Kn_t p2 t1)) fun s hs y => ?_)
        rw [stepF, snF, ip_1, if_pos ((nI_leI (by omega) (by omega)).mpr (by omega))]
      · rw [if_neg (nI_nlt (by omega) (by omega))]
        refine fin u1 (Kn_ex t1 fun s hs y => ?_)
        rw [stepF, snF, ip_1, if_neg (fun z => absurd ((nI_leI (by omega) (by omega)).mp z) (by omega))]
    by_cases q : qtF A (nI i) (nI d) (nI kn) (c 8) 0 = 0
    · obtain ⟨u, u1, u2⟩ := c_cag H hi (nI d)
      rw [if_pos q, u1, ob]
      exact rest u (Kn_ex u2 fun s hs y => by rw [if_pos q])
    · rw [if_neg q]
      exact rest v (Kn_ex Kn_id fun s hs y => by rw [if_neg q])
theorem c_w3 {x2 x3 x4 : Int32} : ∀ m k f (v : jW), k + m = 4 → m < f → ∃ u : jW, f_Knowing_walk_h3 f x2 x3 x4 (nI k) v = f_Knowing_walk_h35 jfu x2 x3 x4 0 0 u ∧ u.1 = v.1 ∧ ∀ s, s < 4 → u.2 84 s = if s < k then v.2 84 s else fu41 := by
  intro m
  induction m with
  | zero =>
    intro k f v hk hf
    obtain ⟨f, rfl⟩ : ∃ j, f = j + 1 := ⟨f - 1, by omega⟩
    refine ⟨v, ?_, rfl, fun s hs => by rw [if_pos (by omega)]⟩
    rw [f_Knowing_walk_h3, nI_rfl 4, if_neg (nI_nlt (by omega) (by omega))]
  | succ m ih =>
    intro k f v hk hf
    obtain ⟨f, rfl⟩ : ∃ j, f = j + 1 := ⟨f - 1, by omega⟩
    obtain ⟨v', e1, e2, e3⟩ := ih (k + 1) f (v.1, jup v.2 84 k fu41) (by omega) (by omega)
    refine ⟨v', ?_, e2, fun s hs => ?_⟩
    · rw [← e1, f_Knowing_walk_h3, nI_rfl 4, if_pos (nI_lt (by omega) (by omega))]
      simp (disch := omega) only [jal_c, jal_n, jin_nI, Bool.and_true, ↓reduceIte, nI_clamp, jlw_e, ip_1]
      rfl
    · rw [e3 s hs]
      dsimp only
      by_cases z : s = k
      · rw [if_pos (by omega), if_neg (by omega)]; rw [z] ; exact jup_eq
      · rw [jup_k z]
        by_cases z2 : s < k
        · rw [if_pos (by omega), if_pos z2]
        · rw [if_neg (by omega), if_neg z2]
/-- what may be there -/
def psF (A : Nat → Int32) (c : Nat → Nat) (i s D : Nat) (kn : Int32) : Int64 := itF A c i s kn (D + 1) 0 fu41
theorem c_walk (H : RA v 3 A c K) {i D kn : Nat} (hi : i < c 1) (hD : D ≤ kn) (hk : kn ≤ 1999) : ∃ v', f_Knowing_walk (nI i) (nI D) (nI kn) v = some v' ∧ v'.1 = v.1 ∧ ∀ s, s < 4 → v'.2 84 s = psF A c i s D (nI kn) := by
  obtain ⟨u, u1, u2, u3⟩ := c_w3 (x2 := nI i) (x3 := nI D) (x4 := nI kn) 4 0 jfu v (by omega) (by unfold jfu; omega)
  have Hu : RA u 3 A c K := RA_fr H (fun b _ _ _ => by rw [u2])
  have u4 : ∀ s, s < 4 → u.2 84 s = fu41 := fun s hs => by rw [u3 s hs, if_neg (by omega)]
  obtain ⟨v', e1, e2, e3⟩ := c_w35 hi hD hk (D + 1) 0 0 jfu u Hu (by omega) (by unfold jfu; omega) (by omega) (by omega) (fun s hs => by rw [u4 s hs]; exact B41_full)
  refine ⟨v', u1.trans e1, e2.trans u2, fun s hs => ?_⟩
  rw [e3 s hs, u4 s hs]; rfl
end KW


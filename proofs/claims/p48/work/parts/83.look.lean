/-! LAYER B of p48: the class's calls that only look -/
section S2
variable {w v : jW} {A : Nat → Int32} {c : Nat → Nat} {K : Nat}
theorem Kp_r : Kp w w := fun _ _ => rfl
theorem Kp_t {u : jW} (h : Kp u v) (g : Kp v w) : Kp u w := fun b q => (h b q).trans (g b q)
theorem Sq_Kp (h : Sq v w) : Kp v w := fun b q => h.1 b (by unfold sc; simp; omega)
theorem s_where (H : RA w 3 A c K) {t : Nat} {d : Int32} (ht : t < c 3) (g2 : ¬ d < 0 ∧ d ≤ 1999) : f_Count_where (nI t) d w = some (mwh A (c 4) t d, w) := by
  have l3 := l_3 H
  have g1 := in_rng ht (show c 3 < 2 ^ 31 by omega)
  rw [f_Count_where, s_th H, ob]
  dsimp only
  rw [b2_p g1, if_neg one_ne, c_isDay, ob]
  dsimp only
  rw [b2_p g2, if_neg one_ne, c_pl H ht]; rfl
theorem s_whole (H : RA w 3 A c K) {i : Nat} {d : Int32} (hi : i < c 5) (g2 : ¬ d < A (1520 + 4 * i + 1) ∧ d ≤ 1999) : f_Count_whole (nI i) d w = some (bz (!brk A (A (1520 + 4 * i)) (sdy A i) d (c 4) 0), w) := by
  have l5 := l_5 H
  have l0 := l_0 H
  have g1 := in_rng hi (show c 5 < 2 ^ 31 by omega)
  rw [f_Count_whole, s_sl H, ob]
  dsimp only
  obtain ⟨e1, e2⟩ := sdy_e H hi
  have g3 : ¬ d < 0 := fun z => g2.1 (by rw [e1]; exact Int32.lt_of_lt_of_le z (Int32.not_lt.mp (nI_pos (by omega))))
  rw [b2_p g1, if_neg one_ne, c_isDay, ob]
  dsimp only
  rw [b2_p ⟨g3, g2.2⟩, if_neg one_ne, a_sl1 H hi, ob]
  dsimp only
  rw [if_neg g2.1, c_whole H hi e1, ob]
  dsimp only
  cases brk A (A (1520 + 4 * i)) (sdy A i) d (c 4) 0 <;> rfl
theorem s_thing5 (H : RA w 3 A c K) {t : Nat} (ht : t < c 3) : f_Count_thing (nI t) 5 w = some (A (240 + 12 * t + 6), w) := by
  have l3 := l_3 H
  have e := c_thcol H ht (j := 5) (by omega)
  rw [f_Count_thing, if_pos (by decide), show (5 : Int32) = nI 5 from rfl, e, ob]
  rfl
theorem s_about0 (H : RA w 3 A c K) : f_Count_about 0 w = some (nI (c 0), w) := by
  rw [f_Count_about, if_pos rfl, rs_0 H]
theorem s_way (H : RA w 3 A c K) {i j : Nat} (hi : i < c 1) (hj : j < c 1) : ∃ z, f_Count_way (nI i) (nI j) w = some (z, w) ∧ Dis A (c 2) i j z := by
  have l1 := l_1 H
  obtain ⟨z, e, hz⟩ := c_way H (nI i) (nI j)
  have eC : f_Count_way (nI i) (nI j) w = some (z, w) := by rw [f_Count_way, e, ob]
  rcases hz with ⟨i', j', hi', hj', e1, e2, D⟩ | ⟨q, -⟩
  · have e3 := (nI_eq (by omega) (by omega)).mp e1
    have e4 := (nI_eq (by omega) (by omega)).mp e2
    rw [← e3, ← e4] at D
    exact ⟨z, eC, D⟩
  · exact absurd ⟨in_rng hi (by omega), in_rng hj (by omega)⟩ q
theorem knP_of {i r D k : Nat} (H : RA w 3 A c K) (h1 : i < c 1) (h2 : r < 4) (h3 : D ≤ k) (h4 : k ≤ 1999) : knP c (nI i) (nI r) (nI D) (nI k) := by
  have l1 := l_1 H
  exact ⟨in_rng h1 (by omega), ⟨nI_pos (by omega), nI_le (b := 3) (by omega) (by omega)⟩, ⟨nI_pos (by omega), nI_le (b := 1999) h4 (by omega)⟩, ⟨nI_pos (by omega), nI_le h3 (by omega)⟩⟩
theorem s_least (H : RA w 3 A c K) {i r D k : Nat} (h1 : i < c 1) (h2 : r < 4) (h3 : D ≤ k) (h4 : k ≤ 1999) : ∃ v, f_Count_possible (nI i) (nI r) (nI D) (nI k) 0 w = some (lsF (psF A c i r D (nI k)) 41 0, v) ∧ Kp v w ∧ RA v 3 A c K := by
  have e1 := (c_isK H (nI i) (nI r) (nI D) (nI k)).1 (knP_of H h1 h2 h3 h4)
  obtain ⟨v, v1, v2, v3⟩ := c_walk H h1 h3 h4
  refine ⟨v, ?_, Sq_Kp (X93l_Sq v2), Sq_RA (X93l_Sq v2) H⟩
  rw [f_Count_possible, e1, ob, if_neg one_ne, v1, ob, if_pos rfl, f_Knowing_least, show f_Knowing_least_h2 jfu (nI r) 0 v = _ from c_least h2 41 0 jfu (by omega) (by unfold jfu; omega), ob, v3 r h2]
theorem s_great (H : RA w 3 A c K) {i r D k : Nat} (h1 : i < c 1) (h2 : r < 4) (h3 : D ≤ k) (h4 : k ≤ 1999) : ∃ v, f_Count_possible (nI i) (nI r) (nI D) (nI k) 1 w = some (gsF (psF A c i r D (nI k)) 41, v) ∧ Kp v w ∧ RA v 3 A c K := by
  have e1 := (c_isK H (nI i) (nI r) (nI D) (nI k)).1 (knP_of H h1 h2 h3 h4)
  obtain ⟨v, v1, v2, v3⟩ := c_walk H h1 h3 h4
  refine ⟨v, ?_, Sq_Kp (X93l_Sq v2), Sq_RA (X93l_Sq v2) H⟩
  rw [f_Count_possible, e1, ob, if_neg one_ne, v1, ob, if_neg one_ne, f_Knowing_greatest, show f_Knowing_greatest_h3 jfu (nI r) 40 v = _ from c_great h2 41 jfu (by omega) (by unfold jfu; omega), ob, v3 r h2]
theorem s_doubted (H : RA w 3 A c K) {i r D k : Nat} (i1 : i < c 1) (i2 : r < 4) (i3 : D ≤ k) (i4 : k ≤ 1999) : ∃ v, f_Count_doubted (nI i) (nI r) (nI D) (nI k) w = some (if dbt A c i r D (nI k) = true then 1 else 0, v) ∧ Kp v w ∧ RA v 3 A c K := by
  have e1 := (c_isK H (nI i) (nI r) (nI D) (nI k)).1 (knP_of H i1 i2 i3 i4)
  have H1 : RA (hrd w A (nI D) (nI k) (c 7)) 3 A c K := hrd_RA H
  obtain ⟨v, v1, v2, v3⟩ := c_walk H1 i1 i3 i4
  have S : Sq v w := Sq_t (X93l_Sq v2) hrd_Sq
  have Hv : RA v 3 A c K := RA_fr H1 (fun b _ _ _ => by rw [v2])
  obtain ⟨k1, k2⟩ := c_isD Hv i2 (Hrd_1 hrd_H v2) (v3 r i2)
  refine ⟨v, ?_, Sq_Kp S, Hv⟩
  rw [f_Count_doubted, e1, ob, if_neg one_ne, c_hear H, ob, v1, ob, k1, ob]
  dsimp only
  rw [k2, ob]
  dsimp only
  by_cases z : dbt A c i r D (nI k) = true
  · rw [if_pos z, if_pos rfl, if_pos z]
  · rw [if_neg z, if_neg one_ne, if_neg z]
theorem s_doubt0 (H : RA w 3 A c K) {D k : Nat} (h0 : 0 < c 1) (i3 : D ≤ k) (i4 : k ≤ 1999) : ∃ v, f_Count_doubt (nI D) (nI k) 0 w = some (dbF A c D (nI k) (4 * c 1) (4 * 0) (0 - 0), v) ∧ Kp v w ∧ RA v 3 A c K := by
  have l1 := l_1 H
  have eK := (c_isK H 0 0 (nI D) (nI k)).1 (knP_of H (i := 0) (r := 0) h0 (by omega) i3 i4)
  have H1 : RA (hrd w A (nI D) (nI k) (c 7)) 3 A c K := hrd_RA H
  obtain ⟨v, v1, v2⟩ := c_d36 (N := 0) (by omega) i3 i4 (c 1) 0 jfu 0 (hrd w A (nI D) (nI k) (c 7)) H1 hrd_H (by omega) (by unfold jfu; omega) (by omega)
  have S : Sq v w := Sq_t (X93l_Sq v2) hrd_Sq
  refine ⟨v, ?_, Sq_Kp S, Sq_RA S H⟩
  rw [f_Count_doubt, eK, ob, if_neg one_ne, if_neg (by decide), c_hear H, ob]
  exact v1
theorem s_unseen (H : RA w 3 A c K) {x : Int32} {n : Nat} (g1 : ¬ x < 0 ∧ x ≤ 1) (h1 : 1 ≤ n) (h2 : n ≤ 30) : ∃ v, f_Count_unseen x (nI n) w = some (nI (tls A c x (spn c n) (c 3) 0).length, v) ∧ Kp v w ∧ RA v 3 A c K := by
  obtain ⟨v, e1, e2, e3⟩ := c_find (iw := -1) (la := x) H h2
  refine ⟨v, ?_, Sq_Kp e2, Sq_RA e2 H⟩
  rw [f_Count_unseen, c_isLand, ob]
  dsimp only
  rw [b2_p g1, if_neg one_ne, if_neg (show ¬ nI n < 1 from nI_nlt (a := n) (b := 1) (by omega) (by omega)), if_pos (show nI n ≤ 30 from nI_le (b := 30) h2 (by omega)), e1, ob]
theorem s_trick (H : RA w 3 A c K) {x j : Int32} {n I : Nat} (g1 : ¬ x < 0 ∧ x ≤ 1) (h1 : 1 ≤ n) (h2 : n ≤ 30) (hI : I < 2 ^ 31) : ∃ v, f_Count_trick x (nI n) (nI I) j w = some ((match hit (nI I) (tls A c x (spn c n) (c 3) 0) 0 with | none => -1 | some t => if j = 0 then nI t.1 else if j = 1 then nI t.2.1 else if j = 2 then nI (c 0 + t.2.2) else -1), v) ∧ Kp v w ∧ RA v 3 A c K := by
  have l1 := l_1 H
  have l3 := l_3 H
  obtain ⟨v, e1, e2, e3⟩ := c_find (iw := nI I) (la := x) H h2
  refine ⟨v, ?_, Sq_Kp e2, Sq_RA e2 H⟩
  rw [f_Count_trick, c_isLand, ob]
  dsimp only
  rw [b2_p g1, if_neg one_ne, if_neg (show ¬ nI n < 1 from nI_nlt (a := n) (b := 1) (by omega) (by omega)), if_pos (show nI n ≤ 30 from nI_le (b := 30) h2 (by omega)), if_neg (nI_pos hI), e1, ob]
  dsimp only
  have hl := tls_len (A := A) (c := c) (la := x) (spn_le (c := c) h2) l1 (c 3) 0
  by_cases q : (tls A c x (spn c n) (c 3) 0).length ≤ I
  · rw [if_pos (nI_le q hI)]
    cases e : hit (nI I) (tls A c x (spn c n) (c 3) 0) 0 with
    | none => rfl
    | some t =>
      obtain ⟨i, i1, i2, i3⟩ := hit_lt _ _ e
      have := (nI_eq (by omega) hI).mp i3
      omega
  · obtain ⟨t, ht⟩ := hit_of (iw := nI I) (j := I) rfl (tls A c x (spn c n) (c 3) 0) 0 (Nat.zero_le _) (by omega)
    obtain ⟨r1, r2, r3⟩ := e3 t ht
    rw [if_neg (nI_ge (by omega) (by omega)), ht, r1, r2, r3]
    dsimp only
    split
    · rfl
    · split
      · rfl
      · split <;> rfl
/-- the class takes a set -/
theorem s_take (H : RA w 3 A c K) {σ n : Nat} (hs : σ < 1024) (hn : 1 ≤ n) (hn2 : n ≤ (chl A σ (c 1) 0).length) (h1 : 1 ≤ σ) (h2 : σ < 2 ^ c 1) (h5 : (chl A σ (c 1) 0).length ≤ 5) : ∃ v, f_Shares_take (nI σ) (nI n) w = some (1, v) ∧ X88 v w ∧ Csh v (chl A σ (c 1) 0) ∧ v.1 87 3 = nI n ∧ v.2 87 4 = lN (nume A c σ n / Nat.gcd (nume A c σ n) (deno A c σ n)) ∧ v.2 87 5 = lN (deno A c σ n / Nat.gcd (nume A c σ n) (deno A c σ n)) := by
  rcases c_take H (nI σ) (nI n) with ⟨v, k1, k2, k3⟩ | ⟨v, σ', n', r1, r2, r3, r4, r5, r6, r7, r8, r9, r10, r11⟩
  · exact absurd ⟨h1, h2, h5, nI_nlt (a := n) (b := 1) (by omega) (by omega), nI_le hn2 (by omega)⟩ (k3 σ rfl (by omega))
  · have l1 := l_1 H
    have p10 : (2 : Nat) ^ c 1 ≤ 2 ^ 10 := Nat.pow_le_pow_right (by omega) l1
    have b1 := r5.2.2.1
    have b2 := r5.2.1
    have e1 := (nI_eq (b := σ') (by omega) (by omega)).mp r1
    have e2 := (nI_eq (b := n') (by omega) (by omega)).mp r2
    subst e1; subst e2
    exact ⟨v, r6, r7, r8, r9, r10, r11⟩
theorem s_value0 (H : RA w 3 A c K) {σ n : Nat} (hs : σ < 1024) (hn : 1 ≤ n) (hn2 : n ≤ (chl A σ (c 1) 0).length) (h1 : 1 ≤ σ) (h2 : σ < 2 ^ c 1) (h5 : (chl A σ (c 1) 0).length ≤ 5) : ∃ v, f_Count_value (nI σ) (nI n) 0 w = some (lN (nume A c σ n / Nat.gcd (nume A c σ n) (deno A c σ n)), v) ∧ Kp v w ∧ RA v 3 A c K := by
  obtain ⟨v, a1, a2, a3, a4, a5, a6⟩ := s_take H hs hn hn2 h1 h2 h5
  refine ⟨v, ?_, Sq_Kp (X88_Sq a2), Sq_RA (X88_Sq a2) H⟩
  rw [f_Count_value, a1, ob, if_neg one_ne, if_pos rfl, a5]
theorem s_value1 (H : RA w 3 A c K) {σ n : Nat} (hs : σ < 1024) (hn : 1 ≤ n) (hn2 : n ≤ (chl A σ (c 1) 0).length) (h1 : 1 ≤ σ) (h2 : σ < 2 ^ c 1) (h5 : (chl A σ (c 1) 0).length ≤ 5) : ∃ v, f_Count_value (nI σ) (nI n) 1 w = some (lN (deno A c σ n / Nat.gcd (nume A c σ n) (deno A c σ n)), v) ∧ Kp v w ∧ RA v 3 A c K := by
  obtain ⟨v, a1, a2, a3, a4, a5, a6⟩ := s_take H hs hn hn2 h1 h2 h5
  refine ⟨v, ?_, Sq_Kp (X88_Sq a2), Sq_RA (X88_Sq a2) H⟩
  rw [f_Count_value, a1, ob, if_neg one_ne, if_neg one_ne, a6]
/-- a share's two numbers -/
theorem s_share (H : RA w 3 A c K) {σ n i : Nat} {y : Int32} (hs : σ < 1024) (hn : 1 ≤ n) (hn2 : n ≤ (chl A σ (c 1) 0).length) (h1 : 1 ≤ σ) (h2 : σ < 2 ^ c 1) (h5 : (chl A σ (c 1) 0).length ≤ 5) (hi : i < c 1) (g2 : ¬ (nI σ >>> (nI i &&& 31)) &&& 1 = 0) {U L : Nat} (hU : U = nume A c σ n / Nat.gcd (nume A c σ n) (deno A c σ n)) (hL : L = deno A c σ n / Nat.gcd (nume A c σ n) (deno A c σ n)) : ∃ v, f_Count_share (nI σ) (nI n) (nI i) y w = some (if y = 0 then lN (U / Nat.gcd U (L * chv A i)) else lN (L * chv A i / Nat.gcd U (L * chv A i)), v) ∧ Kp v w ∧ (∀ b, 93 ≤ b → v.2 b = w.2 b) ∧ RA v 3 A c K := by
  have l1 := l_1 H
  obtain ⟨v, r7, r8, r9, r10, r11, r12⟩ := s_take H hs hn hn2 h1 h2 h5
  have Gv : RA v 3 A c K := Sq_RA (X88_Sq r8) H
  have g1 := in_rng hi (show c 1 < 2 ^ 31 by omega)
  obtain ⟨x1, x2, x3⟩ := chv_e H hi
  obtain ⟨d1, d2, d3, d4⟩ := nume_b H (q := n) ⟨hn, hn2⟩ h5
  obtain ⟨f1, f2, f3, f4⟩ := low_b d1 d3
  rw [← hU] at f1 f2 r11
  rw [← hL] at f3 f4 r12
  generalize chv A i = p at *
  have b1 : L * p ≤ 4294967296 * 50 := Nat.mul_le_mul (by omega) x3
  have b2 : 1 ≤ L * p := Nat.mul_pos f3 x2
  have ed : f_Shares_divide (A (40 + 8 * i + 4)) v = some (rdw v U (L * p)) := by
    rw [f_Shares_divide, r11, r12, x1, nI_l (by omega), lN_mul, c_reduce (by omega) (by omega) (Or.inr (by omega)), ob]
  have c4 : (rdw v U (L * p)).2 87 4 = lN (U / Nat.gcd U (L * p)) := by
    unfold rdw; dsimp only
    rw [jup_k (by omega), jup_eq]
  have c5 : (rdw v U (L * p)).2 87 5 = lN (L * p / Nat.gcd U (L * p)) := by
    unfold rdw; dsimp only
    rw [jup_eq]
  have S1 : Sq (rdw v U (L * p)) w := Sq_t Sq_2 (X88_Sq r8)
  refine ⟨rdw v U (L * p), ?_, Sq_Kp S1, fun b q => ?_, Sq_RA S1 H⟩
  · rw [f_Count_share, r7, ob, if_neg one_ne, s_si Gv, ob]
    dsimp only
    rw [b2_p g1, if_neg one_ne, if_neg g2, a_si4 Gv hi, ob]
    dsimp only
    rw [ed, ob, c4, c5]
    split <;> rfl
  · refine funext fun j => ?_
    unfold rdw; dsimp only
    rw [jup_ap, if_neg (by omega), jup_ap, if_neg (by omega)]
    exact congrFun (r8.2 b (by omega)) j
/-- q times the best cell, each taken once -/
def gty (g : Nat → Int32) (n : Nat) : Nat → Int64 → Int64
  | 0, T => T
  | m + 1, T => gty (fun j => if j = bsx g n 0 0 then -1 else g j) n m (T + Int32.toInt64 (g (bsx g n 0 0)))
theorem gty_c {n : Nat} : ∀ m (g g' : Nat → Int32) T, (∀ j, j < n → g j = g' j) → 1 ≤ n → gty g n m T = gty g' n m T := by
  intro m
  induction m with
  | zero => intro g g' T _ _; rfl
  | succ m ih =>
    intro g g' T h hn
    have eb : ∀ k i b, i + k ≤ n → b < n → bsx g k i b = bsx g' k i b := by
      intro k
      induction k with
      | zero => intro i b _ _; rfl
      | succ k ihk =>
        intro i b hi hb
        rw [bsx, bsx, h i (by omega), h b hb]
        exact ihk (i + 1) _ (by omega) (by split <;> omega)
    have e := eb n 0 0 (by omega) (by omega)
    have bl := bsx_lt g' (n := n) n 0 0 (by omega) (by omega)
    rw [gty, gty, e, h _ bl]
    refine ih _ _ _ (fun j hj => ?_) hn
    try dsimp only
    rw [h j hj]
theorem c_gty {n q : Nat} (hn : n ≤ 5) (hn1 : 1 ≤ n) (hq : q ≤ 5) : ∀ m i f T (v : jW), i + m = q → m < f → v.1 87 2 = nI n → v.1 87 3 = nI q → ∃ v', f_Shares_greatestTogether_h53 f T (nI i) v = some (gty (v.1 89) n m T, v') ∧ Yq 89 v' v := by
  intro m
  induction m with
  | zero =>
    intro i f T v hi hf h2 h3
    obtain ⟨f, rfl⟩ : ∃ j, f = j + 1 := ⟨f - 1, by omega⟩
    refine ⟨v, ?_, Yq_r⟩
    rw [f_Shares_greatestTogether_h53, h3, if_neg (nI_nlt (by omega) (by omega))]; rfl
  | succ m ih =>
    intro i f T v hi hf h2 h3
    obtain ⟨f, rfl⟩ : ∃ j, f = j + 1 := ⟨f - 1, by omega⟩
    have e1 := c_h67 (KC := f_Shares_greatestTogether_h53 f) (g := v.1 89) hn h2 (fun _ _ => rfl) T i (n - 1) 1 jfu 0 (by omega) (by unfold jfu; omega) (by omega)
    have eb : bsx (v.1 89) n 0 0 = bsx (v.1 89) (n - 1) 1 0 := by
      obtain ⟨k, rfl⟩ : ∃ k, n = k + 1 := ⟨n - 1, by omega⟩
      rw [bsx, if_pos (Int32.le_refl _)]; rfl
    rw [← eb] at e1
    have j2 : (jup v.1 89 (bsx (v.1 89) n 0 0) (-1)) 87 2 = nI n := by rw [jup_ne (by omega)]; exact h2
    have j3 : (jup v.1 89 (bsx (v.1 89) n 0 0) (-1)) 87 3 = nI q := by rw [jup_ne (by omega)]; exact h3
    obtain ⟨v', k1, k2⟩ := ih (i + 1) f (T + Int32.toInt64 (v.1 89 (bsx (v.1 89) n 0 0))) (jup v.1 89 (bsx (v.1 89) n 0 0) (-1), v.2) (by omega) (by omega) j2 j3
    refine ⟨v', ?_, Yq_t k2 Yq_j⟩
    rw [f_Shares_greatestTogether_h53, h3, if_pos (nI_lt (by omega) (by omega)), gty]
    refine e1.trans (k1.trans ?_)
    rw [gty_c m _ (fun j => if j = bsx (v.1 89) n 0 0 then -1 else v.1 89 j) _ (fun j hj => ?_) hn1]
    try dsimp only
    rw [jup_ap]
    by_cases z : j = bsx (v.1 89) n 0 0
    · rw [if_pos ⟨rfl, z⟩, if_pos z]
    · rw [if_neg (fun y => z y.2), if_neg z]
theorem s_proof (H : RA w 3 A c K) {σ n : Nat} {x3 x4 x5 x6 x7 : Int32} (hs : σ < 1024) (hn : 1 ≤ n) (hn2 : n ≤ (chl A σ (c 1) 0).length) (h1 : 1 ≤ σ) (h2 : σ < 2 ^ c 1) (h5 : (chl A σ (c 1) 0).length ≤ 5) {P : List Nat} (hP : P = chl A σ (c 1) 0) {T : Nat} (hps : psum (wv x3 x4 x5 x6 x7) P.length 0 0 = some T) (hT : T ≤ 5000) : ∃ v, f_Count_proof (nI σ) (nI n) x3 x4 x5 x6 x7 w = some (if T = 0 then -1 else if lg_cmp (gty (fun i => wv x3 x4 x5 x6 x7 i * nI (P.getD i 0)) P.length n 0 * lN (deno A c σ n / Nat.gcd (nume A c σ n) (deno A c σ n))) (lN (nume A c σ n / Nat.gcd (nume A c σ n) (deno A c σ n)) * lN T) = 0 then 0 else 1, v) ∧ Kp v w ∧ RA v 3 A c K := by
  obtain ⟨v, r7, r8, r9, r10, r11, r12⟩ := s_take H hs hn hn2 h1 h2 h5
  rw [← hP] at h5 hn2 r9
  obtain ⟨v5, h5'⟩ : ∃ v5 : jW, v5 = (jup (jup (jup (jup (jup v.1 89 0 x3) 89 1 x4) 89 2 x5) 89 3 x6) 89 4 x7, v.2) := ⟨_, rfl⟩
  have y5 : Yq 89 v5 v := by rw [h5']; exact ⟨fun b hb => by dsimp only; rw [jup_fn hb, jup_fn hb, jup_fn hb, jup_fn hb, jup_fn hb], rfl⟩
  have w5 : ∀ i, i < 5 → v5.1 89 i = wv x3 x4 x5 x6 x7 i := fun i hi => by
    have : i = 0 ∨ i = 1 ∨ i = 2 ∨ i = 3 ∨ i = 4 := by omega
    rw [h5']; dsimp only
    rcases this with rfl | rfl | rfl | rfl | rfl
    · rw [jup_k (by omega), jup_k (by omega), jup_k (by omega), jup_k (by omega), jup_eq]; rfl
    · rw [jup_k (by omega), jup_k (by omega), jup_k (by omega), jup_eq]; rfl
    · rw [jup_k (by omega), jup_k (by omega), jup_eq]; rfl
    · rw [jup_k (by omega), jup_eq]; rfl
    · rw [jup_eq]; rfl
  have eC : f_Count_proof (nI σ) (nI n) x3 x4 x5 x6 x7 w = Option.bind (f_Shares_prove v5) fun q7 => some (q7.1, q7.2) := by
    rw [f_Count_proof, r7, ob, if_neg one_ne, show (0 : Int32) = nI 0 from rfl, c_weigh (by omega), ob, show (1 : Int32) = nI 1 from rfl, c_weigh (by omega), ob, show (2 : Int32) = nI 2 from rfl, c_weigh (by omega), ob, show (3 : Int32) = nI 3 from rfl, c_weigh (by omega), ob, show (4 : Int32) = nI 4 from rfl, c_weigh (by omega), ob, h5']
  have hc5 : Csh v5 P := ⟨by rw [y5.1 87 (by omega)]; exact r9.1, fun j hj => by rw [y5.1 88 (by omega)]; exact r9.2 j hj⟩
  have S5 : Sq v5 w := Sq_t (Yq_Sq rfl (by omega) y5) (X88_Sq r8)
  have eP := c_pr4 (ws := wv x3 x4 x5 x6 x7) h5 hc5.1 (fun i hi => w5 i (by omega)) P.length 0 jfu 0 (by omega) (by unfold jfu; omega) (by omega)
  rw [hps] at eP
  have eC2 : f_Count_proof (nI σ) (nI n) x3 x4 x5 x6 x7 w = Option.bind (f_Shares_prove_j60 (lN T) v5) fun q7 => some (q7.1, q7.2) := by
    rw [eC, f_Shares_prove]
    exact congrArg (fun z => Option.bind z fun q7 => some (q7.1, q7.2)) eP
  by_cases z : T = 0
  · refine ⟨v5, ?_, Sq_Kp S5, Sq_RA S5 H⟩
    rw [eC2, f_Shares_prove_j60, if_pos (by rw [z]; decide), ob, if_pos z]
  obtain ⟨v6, a1, a2, a3⟩ := c_gt4 (ws := wv x3 x4 x5 x6 x7) h5 0 P.length 0 jfu v5 (by omega) (by unfold jfu; omega) hc5 (fun j hj => absurd hj (Nat.not_lt_zero j)) (fun j _ hj => w5 j (by omega))
  have a87 : v6.1 87 = v.1 87 := (a1.1 87 (by omega)).trans (y5.1 87 (by omega))
  obtain ⟨v7, b1, b2'⟩ := c_gty (n := P.length) (q := n) h5 (by omega) (by omega) n 0 jfu 0 v6 (by omega) (by unfold jfu; omega) (by rw [a87]; exact r9.1) (by rw [a87]; exact r10)
  rw [gty_c n _ (fun i => wv x3 x4 x5 x6 x7 i * nI (P.getD i 0)) _ a2 (by omega)] at b1
  have S7 : Sq v7 w := Sq_t (Yq_Sq rfl (by omega) (Yq_t b2' a1)) S5
  have s7 : v7.2 = v.2 := (Yq_t b2' (Yq_t a1 y5)).2
  have eG : f_Shares_greatestTogether v5 = some (_, v7) := a3.trans b1
  refine ⟨v7, ?_, Sq_Kp S7, Sq_RA S7 H⟩
  rw [eC2, f_Shares_prove_j60, if_neg (by rw [cmp_0 (by omega)]; exact z), eG, ob]
  dsimp only
  rw [s7, r11, r12, if_neg z]
  split <;> rfl
end S2

/-! LAYER B: sets of sites, their value, shares -/
section SH
variable {w v z0 : jW} {A : Nat → Int32} {c ci : Nat → Nat} {K : Nat}
theorem sbit : ∀ σ, σ < 1024 → ∀ i, i < 10 → ((nI σ >>> (nI i &&& 31)) &&& 1 = if σ.testBit i = true then (1 : Int32) else 0) := by decide +kernel
theorem spow : ∀ n, n ≤ 10 → (1 : Int32) <<< (nI n &&& 31) = nI (2 ^ n) := by decide +kernel
def chv (A : Nat → Int32) (k : Nat) : Nat := (A (40 + 8 * k + 4)).toNatClampNeg
theorem chv_e (H : RA w 3 A c K) {k : Nat} (hk : k < c 1) : A (40 + 8 * k + 4) = nI (chv A k) ∧ 1 ≤ chv A k ∧ chv A k ≤ 50 := by
  obtain ⟨n, n1, n2, n3⟩ := (p_Isite H k hk).2.2.2.2
  have e : chv A k = n := by rw [chv, n1, nI_clamp (by omega)]
  rw [e]; exact ⟨n1, n2, n3⟩
/-- the chances of a set's sites -/
def chl (A : Nat → Int32) (σ : Nat) : Nat → Nat → List Nat
  | 0, _ => []
  | m + 1, k => (if σ.testBit k = true then [chv A k] else []) ++ chl A σ m (k + 1)
theorem chl_rng (H : RA w 3 A c K) {σ : Nat} : ∀ m k, k + m ≤ c 1 → ∀ x ∈ chl A σ m k, 1 ≤ x ∧ x ≤ 50 := by
  intro m
  induction m with
  | zero => intro k _ x hx; cases hx
  | succ m ih =>
    intro k hk x hx
    rw [chl, List.mem_append] at hx
    rcases hx with hx | hx
    · split at hx
      · rw [List.mem_singleton] at hx
        rw [hx]; exact (chv_e H (by omega)).2
      · cases hx
    · exact ih (k + 1) (by omega) x hx
theorem chl_app {σ : Nat} : ∀ m n k, chl A σ (m + n) k = chl A σ m k ++ chl A σ n (k + m) := by
  intro m
  induction m with
  | zero => intro n k; rw [Nat.zero_add]; rfl
  | succ m ih =>
    intro n k
    rw [show m + 1 + n = m + n + 1 by omega, chl, chl, ih, List.append_assoc, show k + 1 + m = k + (m + 1) by omega]
theorem chl_nil {σ ns : Nat} (h : σ < 2 ^ ns) : ∀ m k, ns ≤ k → chl A σ m k = [] := by
  intro m
  induction m with
  | zero => intro k _; rfl
  | succ m ih =>
    intro k hk
    have : σ.testBit k = false := Nat.testBit_lt_two_pow (Nat.lt_of_lt_of_le h (Nat.pow_le_pow_right (by omega) hk))
    rw [chl, ih (k + 1) (by omega), this]; rfl
theorem chl_10 {σ ns : Nat} (h : σ < 2 ^ ns) (hn : ns ≤ 10) : chl A σ 10 0 = chl A σ ns 0 := by
  have := chl_app (A := A) (σ := σ) ns (10 - ns) 0
  rw [show ns + (10 - ns) = 10 by omega, chl_nil h (10 - ns) (0 + ns) (by omega), List.append_nil] at this
  exact this
/-- product, sum of the products of all but one, least -/
def evl3 : Nat → Nat → Nat → List Nat → Nat × Nat × Nat
  | p, s, b, [] => (p, s, b)
  | p, s, b, x :: l => evl3 (p * x) (s * x + p) (if x < b then x else b) l
theorem evl3_b : ∀ (l : List Nat) (p s b n : Nat), (∀ x ∈ l, 1 ≤ x ∧ x ≤ 50) → 1 ≤ p → p ≤ 50 ^ n → s ≤ n * 50 ^ n → 1 ≤ b → b ≤ 50 → (1 ≤ s ∨ l ≠ []) → 1 ≤ (evl3 p s b l).1 ∧ (evl3 p s b l).1 ≤ 50 ^ (n + l.length) ∧ 1 ≤ (evl3 p s b l).2.1 ∧ (evl3 p s b l).2.1 ≤ (n + l.length) * 50 ^ (n + l.length) ∧ 1 ≤ (evl3 p s b l).2.2 ∧ (evl3 p s b l).2.2 ≤ 50 := by
  intro l
  induction l with
  | nil =>
    intro p s b n _ h1 h2 h3 h4 h5 h6
    exact ⟨h1, h2, h6.resolve_right (fun z => z rfl), h3, h4, h5⟩
  | cons x l ih =>
    intro p s b n hl h1 h2 h3 h4 h5 h6
    have hx := hl x List.mem_cons_self
    have e1 : p * x ≤ 50 ^ (n + 1) := by
      rw [Nat.pow_succ]; exact Nat.mul_le_mul h2 hx.2
    have e2 : 1 ≤ p * x := Nat.mul_pos h1 hx.1
    have e3 : s * x + p ≤ (n + 1) * 50 ^ (n + 1) := by
      have a : s * x ≤ n * 50 ^ n * 50 := Nat.mul_le_mul h3 hx.2
      rw [Nat.mul_assoc, show 50 ^ n * 50 = 50 ^ (n + 1) from (Nat.pow_succ 50 n).symm] at a
      have b : p ≤ 50 ^ (n + 1) := Nat.le_trans h2 (Nat.pow_le_pow_right (by omega) (by omega))
      rw [Nat.succ_mul]; omega
    have := ih (p * x) (s * x + p) (if x < b then x else b) (n + 1) (fun y hy => hl y (List.mem_cons_of_mem _ hy)) e2 e1 e3 (by split <;> omega) (by split <;> omega) (Or.inl (by omega))
    rw [List.length_cons, show n + (l.length + 1) = n + 1 + l.length by omega]
    exact this
/-- the class's memory of the set -/
def Csh (v : jW) (P : List Nat) : Prop := v.1 87 2 = nI P.length ∧ ∀ i, i < P.length → v.1 88 i = nI (P.getD i 0)
def X88 (v w : jW) : Prop := (∀ b, b ≠ 87 → b ≠ 88 → v.1 b = w.1 b) ∧ ∀ b, b ≠ 87 → v.2 b = w.2 b
theorem X88_Sq (h : X88 v w) : Sq v w := ⟨fun b q => h.1 b (fun z => by rw [z] at q; exact absurd q (by decide)) (fun z => by rw [z] at q; exact absurd q (by decide)), fun j _ => congrFun (h.1 93 (by omega) (by omega)) j⟩
theorem X88_t {u : jW} (h : X88 u v) (g : X88 v w) : X88 u w := ⟨fun b q1 q2 => (h.1 b q1 q2).trans (g.1 b q1 q2), fun b q => (h.2 b q).trans (g.2 b q)⟩
theorem c_eval {P : List Nat} (hc : Csh v P) (h5 : P.length ≤ 5) (hr : ∀ x ∈ P, 1 ≤ x ∧ x ≤ 50) : ∀ (m i f p s b : Nat), i + m = P.length → m < f → b ≤ 50 → f_Shares_evaluate_h11 f (lN p) (lN s) (nI b) (nI i) v = f_Shares_evaluate_j74 (lN (evl3 p s b (P.drop i)).1) (lN (evl3 p s b (P.drop i)).2.1) (nI (evl3 p s b (P.drop i)).2.2) v := by
  intro m
  induction m with
  | zero =>
    intro i f p s b hi hf hb
    obtain ⟨f, rfl⟩ : ∃ j, f = j + 1 := ⟨f - 1, by omega⟩
    rw [f_Shares_evaluate_h11, hc.1, if_neg (nI_nlt (by omega) (by omega)), List.drop_eq_nil_of_le (by omega)]
    rfl
  | succ m ih =>
    intro i f p s b hi hf hb
    obtain ⟨f, rfl⟩ : ∃ j, f = j + 1 := ⟨f - 1, by omega⟩
    have hi2 : i < P.length := by omega
    have ed : P.drop i = P.getD i 0 :: P.drop (i + 1) := by
      rw [List.drop_eq_getElem_cons hi2, List.getD_eq_getElem?_getD, List.getElem?_eq_getElem hi2]; rfl
    have hx : 1 ≤ P.getD i 0 ∧ P.getD i 0 ≤ 50 := hr _ (by
      rw [List.getD_eq_getElem?_getD, List.getElem?_eq_getElem hi2]; exact List.getElem_mem hi2)
    generalize hxx : P.getD i 0 = x at ed hx
    have e8 : v.1 88 i = nI x := by rw [hc.2 i hi2, hxx]
    rw [f_Shares_evaluate_h11, hc.1, if_pos (nI_lt hi2 (by omega)), nI_rfl 5, if_pos (nI_lt (by omega) (by omega))]
    simp (disch := omega) only [jal_c, jal_n, jin_nI, Bool.and_true, ↓reduceIte, nI_clamp, e8, nI_l, lN_mul, lN_add, ip_1, ii_lt]
    rw [ed, evl3, show (if x < b then nI x else nI b) = nI (if x < b then x else b) by split <;> rfl]
    exact ih (i + 1) f _ _ _ (by omega) (by omega) (by split <;> omega)
theorem c_take28 (H : RA w 3 A c K) {σ : Nat} {q : Int32} (hσ : σ < 1024) : ∀ (m k f : Nat) (v : jW) (P : List Nat), X88 v w → Csh v P → P.length ≤ 5 → k + m = c 1 → m < f →
    ∃ v', X88 v' w ∧ ((5 < (P ++ chl A σ m k).length ∧ f_Shares_take_h28 f (nI σ) q (nI k) v = some (0, v')) ∨ ((P ++ chl A σ m k).length ≤ 5 ∧ Csh v' (P ++ chl A σ m k) ∧ v'.1 87 3 = q ∧ f_Shares_take_h28 f (nI σ) q (nI k) v = if q < 1 then some (0, v') else if q ≤ nI (P ++ chl A σ m k).length then Option.bind (f_Shares_evaluate v') fun q5 => some (1, q5) else some (0, v'))) := by
  have l1 := l_1 H
  intro m
  induction m with
  | zero =>
    intro k f v P hv hc h5 hk hf
    obtain ⟨f, rfl⟩ : ∃ j, f = j + 1 := ⟨f - 1, by omega⟩
    have G : RA v 3 A c K := RA_fr H (fun b _ _ _ => hv.1 b (by omega) (by omega))
    refine ⟨(jup v.1 87 3 q, v.2), ⟨fun b q1 q2 => ?_, hv.2⟩, Or.inr ?_⟩
    · dsimp only; rw [jup_fn q1]; exact hv.1 b q1 q2
    · rw [chl, List.append_nil]
      have e2 : jup v.1 87 3 q 87 2 = nI P.length := by rw [jup_k (by omega)]; exact hc.1
      refine ⟨h5, ⟨e2, fun i hi => ?_⟩, (show jup v.1 87 3 q 87 3 = q from jup_eq), ?_⟩
      · dsimp only; rw [jup_ne (by omega)]; exact hc.2 i hi
      · rw [f_Shares_take_h28, n_si G, ob]
        dsimp only
        rw [if_neg (nI_nlt (by omega) (by omega)), jlw_e]
        dsimp only
        simp only [e2]
  | succ m ih =>
    intro k f v P hv hc h5 hk hf
    obtain ⟨f, rfl⟩ : ∃ j, f = j + 1 := ⟨f - 1, by omega⟩
    have G : RA v 3 A c K := RA_fr H (fun b _ _ _ => hv.1 b (by omega) (by omega))
    rw [f_Shares_take_h28, n_si G, ob, chl]
    dsimp only
    rw [if_pos (nI_lt (by omega) (by omega)), sbit σ hσ k (by omega)]
    by_cases q1 : σ.testBit k = true
    rotate_left
    · rw [if_neg q1, if_neg q1, List.nil_append, if_neg (show ¬ (0 : Int32) = 1 by decide), ip_1]
      exact ih (k + 1) f v P hv hc h5 (by omega) (by omega)
    rw [if_pos q1, if_pos q1, if_pos rfl, hc.1, nI_rfl 5]
    by_cases q2 : P.length < 5
    rotate_left
    · refine ⟨v, hv, Or.inl ⟨?_, ?_⟩⟩
      · rw [List.length_append, List.length_append, List.length_singleton]; omega
      · rw [if_neg (nI_nlt (by omega) (by omega))]
    have e4 := (chv_e G (show k < c 1 by omega))
    rw [if_pos (nI_lt q2 (by omega)), a_si4 G (by omega), ob]
    dsimp only
    rw [jal_c, jin_nI (by omega) (by omega), if_pos (show (true && jal []) = true from rfl), jlw_e, jlw_e, nI_clamp (by omega), ← List.append_assoc]
    dsimp only
    rw [jup_ne (by omega), hc.1, ip_1, ip_1, e4.1]
    refine ih (k + 1) f _ (P ++ [chv A k]) ⟨fun b y1 y2 => ?_, hv.2⟩ ⟨?_, fun i hi => ?_⟩ ?_ (by omega) (by omega)
    · dsimp only; rw [jup_fn y1, jup_fn y2]; exact hv.1 b y1 y2
    · dsimp only; rw [jup_eq, List.length_append, List.length_singleton]
    · dsimp only
      rw [List.length_append, List.length_singleton] at hi
      rw [jup_ne (by omega), jup_ap]
      by_cases z : i = P.length
      · rw [if_pos ⟨rfl, z⟩, z, List.getD_eq_getElem?_getD, List.getElem?_append_right (Nat.le_refl _), Nat.sub_self]; rfl
      · rw [if_neg (fun y => z y.2), hc.2 i (by omega), List.getD_eq_getElem?_getD, List.getD_eq_getElem?_getD, List.getElem?_append_left (by omega)]
    · rw [List.length_append, List.length_singleton]; omega
/-- is it a set with q visits -/
def okS (A : Nat → Int32) (c : Nat → Nat) (σ : Nat) (q : Int32) : Prop := 1 ≤ σ ∧ σ < 2 ^ c 1 ∧ (chl A σ (c 1) 0).length ≤ 5 ∧ ¬ q < 1 ∧ q ≤ nI (chl A σ (c 1) 0).length
def nume (A : Nat → Int32) (c : Nat → Nat) (σ q : Nat) : Nat := if q * (evl3 1 0 50 (chl A σ (c 1) 0)).1 ≤ (evl3 1 0 50 (chl A σ (c 1) 0)).2.2 * (evl3 1 0 50 (chl A σ (c 1) 0)).2.1 then q * (evl3 1 0 50 (chl A σ (c 1) 0)).1 else (evl3 1 0 50 (chl A σ (c 1) 0)).2.2
def deno (A : Nat → Int32) (c : Nat → Nat) (σ q : Nat) : Nat := if q * (evl3 1 0 50 (chl A σ (c 1) 0)).1 ≤ (evl3 1 0 50 (chl A σ (c 1) 0)).2.2 * (evl3 1 0 50 (chl A σ (c 1) 0)).2.1 then (evl3 1 0 50 (chl A σ (c 1) 0)).2.1 else 1
theorem okS_b (H : RA w 3 A c K) {σ q : Nat} (hq : 1 ≤ q ∧ q ≤ (chl A σ (c 1) 0).length) (h5 : (chl A σ (c 1) 0).length ≤ 5) : 1 ≤ (evl3 1 0 50 (chl A σ (c 1) 0)).1 ∧ (evl3 1 0 50 (chl A σ (c 1) 0)).1 ≤ 312500000 ∧ 1 ≤ (evl3 1 0 50 (chl A σ (c 1) 0)).2.1 ∧ (evl3 1 0 50 (chl A σ (c 1) 0)).2.1 ≤ 1562500000 ∧ 1 ≤ (evl3 1 0 50 (chl A σ (c 1) 0)).2.2 ∧ (evl3 1 0 50 (chl A σ (c 1) 0)).2.2 ≤ 50 := by
  have hne : chl A σ (c 1) 0 ≠ [] := fun z => by rw [z] at hq; simp at hq; omega
  obtain ⟨h1, h2, h3, h4, h6, h7⟩ := evl3_b (chl A σ (c 1) 0) 1 0 50 0 (chl_rng H (c 1) 0 (by omega)) (by omega) (by omega) (by omega) (by omega) (by omega) (Or.inr hne)
  have hp : (50 : Nat) ^ (0 + (chl A σ (c 1) 0).length) ≤ 50 ^ 5 := Nat.pow_le_pow_right (by omega) (by omega)
  have hs : (0 + (chl A σ (c 1) 0).length) * 50 ^ (0 + (chl A σ (c 1) 0).length) ≤ 5 * 50 ^ 5 := Nat.mul_le_mul (by omega) hp
  exact ⟨h1, by omega, h3, by omega, h6, h7⟩
theorem nume_b (H : RA w 3 A c K) {σ q : Nat} (hq : 1 ≤ q ∧ q ≤ (chl A σ (c 1) 0).length) (h5 : (chl A σ (c 1) 0).length ≤ 5) : 1 ≤ nume A c σ q ∧ nume A c σ q < 2 ^ 32 ∧ 1 ≤ deno A c σ q ∧ deno A c σ q < 2 ^ 32 := by
  obtain ⟨h1, h2, h3, h4, h6, h7⟩ := okS_b H hq h5
  have a : q * (evl3 1 0 50 (chl A σ (c 1) 0)).1 ≤ 5 * 312500000 := Nat.mul_le_mul (by omega) h2
  have b : 1 ≤ q * (evl3 1 0 50 (chl A σ (c 1) 0)).1 := Nat.mul_pos hq.1 h1
  unfold nume deno
  split <;> omega
theorem c_take (H : RA w 3 A c K) (x q : Int32) : (∃ v, f_Shares_take x q w = some (0, v) ∧ Sq v w ∧ ∀ σ, x = nI σ → σ < 2 ^ 31 → ¬ okS A c σ q) ∨ ∃ v σ n, x = nI σ ∧ q = nI n ∧ 1 ≤ n ∧ n ≤ (chl A σ (c 1) 0).length ∧ okS A c σ q ∧ f_Shares_take x q w = some (1, v) ∧ X88 v w ∧ Csh v (chl A σ (c 1) 0) ∧ v.1 87 3 = q ∧ v.2 87 4 = lN (nume A c σ n / Nat.gcd (nume A c σ n) (deno A c σ n)) ∧ v.2 87 5 = lN (deno A c σ n / Nat.gcd (nume A c σ n) (deno A c σ n)) := by
  have l1 := l_1 H
  have p10 : (2 : Nat) ^ c 1 ≤ 2 ^ 10 := Nat.pow_le_pow_right (by omega) l1
  by_cases g1 : x < 1
  · refine Or.inl ⟨w, ?_, Sq_r, fun σ e h ho => ?_⟩
    · rw [f_Shares_take, if_pos g1]
    · rw [e] at g1
      have := (nI_ltI (b := 1) h (by omega)).mp g1
      have := ho.1
      omega
  obtain ⟨σ, hσ, rfl⟩ := nI_of (x := x) (fun z => g1 (Int32.lt_of_lt_of_le z (by decide)))
  have s1 : 1 ≤ σ := by
    by_cases z : σ < 1
    · exact absurd (nI_lt (b := 1) z (by omega)) g1
    · omega
  have inj : ∀ σ', nI σ = nI σ' → σ' < 2 ^ 31 → σ' = σ := fun σ' e h => ((nI_eq hσ h).mp e).symm
  by_cases g2 : σ < 2 ^ c 1
  rotate_left
  · refine Or.inl ⟨w, ?_, Sq_r, fun σ' e h ho => g2 (by rw [← inj σ' e h]; exact ho.2.1)⟩
    rw [f_Shares_take, if_neg g1, n_si H, ob]
    dsimp only
    rw [spow _ l1, if_neg (nI_nlt (by omega) (by omega))]
  have e0 : f_Shares_take (nI σ) q w = f_Shares_take_h28 jfu (nI σ) q 0 (jup w.1 87 2 0, w.2) := by
    rw [f_Shares_take, if_neg g1, n_si H, ob]
    dsimp only
    rw [spow _ l1, if_pos (nI_lt g2 (by omega)), jlw_e]
  obtain ⟨v, hv, k⟩ := c_take28 (q := q) H (show σ < 1024 by omega) (c 1) 0 jfu (jup w.1 87 2 0, w.2) [] ⟨fun b q1 q2 => jup_fn q1, fun b _ => rfl⟩ ⟨(show jup w.1 87 2 0 87 2 = nI 0 from jup_eq), fun i hi => absurd hi (Nat.not_lt_zero i)⟩ (by decide) (by omega) (by unfold jfu; omega)
  rw [List.nil_append] at k
  rcases k with ⟨k1, k2⟩ | ⟨k1, k2, k3, k4⟩
  · refine Or.inl ⟨v, e0.trans k2, X88_Sq hv, fun σ' e h ho => ?_⟩
    rw [inj σ' e h] at ho
    have := ho.2.2.1
    omega
  have k4' : f_Shares_take_h28 jfu (nI σ) q 0 (jup w.1 87 2 0, w.2) = _ := k4
  by_cases g3 : q < 1
  · refine Or.inl ⟨v, ?_, X88_Sq hv, fun σ' e h ho => ho.2.2.2.1 g3⟩
    rw [e0, k4', if_pos g3]
  by_cases g4 : q ≤ nI (chl A σ (c 1) 0).length
  rotate_left
  · refine Or.inl ⟨v, ?_, X88_Sq hv, fun σ' e h ho => ?_⟩
    · rw [e0, k4', if_neg g3, if_neg g4]
    · rw [inj σ' e h] at ho
      exact g4 ho.2.2.2.2
  obtain ⟨n, hn, rfl⟩ := rngle (n := (chl A σ (c 1) 0).length) (x := q) (by omega) ⟨fun z => g3 (Int32.lt_of_lt_of_le z (by decide)), g4⟩
  have hn1 : 1 ≤ n := by
    by_cases z : n < 1
    · exact absurd (nI_lt (b := 1) z (by omega)) g3
    · omega
  obtain ⟨b1, b2, b3, b4, b5, b6⟩ := okS_b H ⟨hn1, hn⟩ k1
  obtain ⟨d1, d2, d3, d4⟩ := nume_b H ⟨hn1, hn⟩ k1
  have a : n * (evl3 1 0 50 (chl A σ (c 1) 0)).1 ≤ 5 * 312500000 := Nat.mul_le_mul (by omega) b2
  have a2 : (evl3 1 0 50 (chl A σ (c 1) 0)).2.2 * (evl3 1 0 50 (chl A σ (c 1) 0)).2.1 ≤ 50 * 1562500000 := Nat.mul_le_mul b6 b4
  have ev := c_eval k2 k1 (chl_rng H (c 1) 0 (by omega)) (chl A σ (c 1) 0).length 0 jfu 1 0 50 (by omega) (by unfold jfu; omega) (by omega)
  rw [List.drop_zero] at ev
  have ev' : f_Shares_evaluate v = f_Shares_evaluate_j74 (lN (evl3 1 0 50 (chl A σ (c 1) 0)).1) (lN (evl3 1 0 50 (chl A σ (c 1) 0)).2.1) (nI (evl3 1 0 50 (chl A σ (c 1) 0)).2.2) v := ev
  have ej : f_Shares_evaluate v = some (rdw v (nume A c σ n) (deno A c σ n)) := by
    have hc := cmp_le (a := n * (evl3 1 0 50 (chl A σ (c 1) 0)).1) (b := (evl3 1 0 50 (chl A σ (c 1) 0)).2.2 * (evl3 1 0 50 (chl A σ (c 1) 0)).2.1) (by omega) (by omega)
    rw [ev', f_Shares_evaluate_j74, k3, nI_l (by omega), nI_l (by omega), lN_mul, lN_mul]
    unfold nume deno
    by_cases z : n * (evl3 1 0 50 (chl A σ (c 1) 0)).1 ≤ (evl3 1 0 50 (chl A σ (c 1) 0)).2.2 * (evl3 1 0 50 (chl A σ (c 1) 0)).2.1
    · rw [if_pos (hc.mpr z), if_pos z, if_pos z, c_reduce (by omega) (by omega) (Or.inr (by omega)), ob]
    · rw [if_neg (fun y => z (hc.mp y)), if_neg z, if_neg z, show (1 : Int64) = lN 1 from rfl, c_reduce (by omega) (by omega) (Or.inr (by omega)), ob]
  refine Or.inr ⟨rdw v (nume A c σ n) (deno A c σ n), σ, n, rfl, rfl, hn1, hn, ⟨s1, g2, k1, g3, g4⟩, ?_, ⟨hv.1, fun b q => funext fun j => by unfold rdw; dsimp only; rw [jup_ap, if_neg (fun z => q z.1), jup_ap, if_neg (fun z => q z.1)]; exact congrFun (hv.2 b q) j⟩, k2, k3, ?_, ?_⟩
  · rw [e0, k4', if_neg g3, if_pos g4, ej, ob]
  · unfold rdw; dsimp only; rw [jup_k (by omega), jup_eq]
  · unfold rdw; dsimp only; rw [jup_eq]
/-! the reference -/
def X93l (v w : jW) : Prop := v.1 = w.1
theorem X93l_Sq (h : X93l v w) : Sq v w := ⟨fun b _ => by rw [h], fun j _ => by rw [h]⟩
end SH


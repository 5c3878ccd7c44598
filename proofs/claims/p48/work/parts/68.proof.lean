/-! LAYER B: value, share, proof -/
section PF
variable {w v z0 : jW} {A : Nat → Int32} {c ci : Nat → Nat} {K : Nat}
theorem Cal_s {α : Type} {x : α} {w1 w2 : jW} {C M : jW → Option (α × jW)} (h : Inv w c ci K) (hK : K < 512) (hC : C w = some (x, w1)) (s1 : Sq w1 w) (hM : M w1 = some (x, w2)) (s2 : Sq w2 w1) : Cal w (K + 1) C M :=
  ⟨x, w1, w2, c, ci, hC, hM, Inv_K (Inv_sq (Inv_sq h s1) s2) (by omega) (by omega)⟩
theorem low_b {a b : Nat} (ha : 1 ≤ a) (hb : 1 ≤ b) : 1 ≤ a / Nat.gcd a b ∧ a / Nat.gcd a b ≤ a ∧ 1 ≤ b / Nat.gcd a b ∧ b / Nat.gcd a b ≤ b := by
  have g0 : 0 < Nat.gcd a b := Nat.gcd_pos_of_pos_right _ hb
  refine ⟨Nat.div_pos (Nat.le_of_dvd ha (Nat.gcd_dvd_left a b)) g0, Nat.div_le_self _ _, Nat.div_pos (Nat.le_of_dvd hb (Nat.gcd_dvd_right a b)) g0, Nat.div_le_self _ _⟩
/-- the evidence's numbers -/
def wv (x3 x4 x5 x6 x7 : Int32) : Nat → Int32
  | 0 => x3 | 1 => x4 | 2 => x5 | 3 => x6 | _ => x7
def psum (ws : Nat → Int32) : Nat → Nat → Nat → Option Nat
  | 0, _, t => some t
  | m + 1, i, t => if ws i < 0 then none else if ws i ≤ 999 then psum ws m (i + 1) (t + (ws i).toNatClampNeg) else none
theorem sel5 {α : Type} (J : Int32 → α) (x3 x4 x5 x6 x7 : Int32) {j : Nat} (hj : j < 5) : (if nI j = 0 then J x3 else if nI j = 1 then J x4 else if nI j = 2 then J x5 else if nI j = 3 then J x6 else J x7) = J (wv x3 x4 x5 x6 x7 j) := by
  have : j = 0 ∨ j = 1 ∨ j = 2 ∨ j = 3 ∨ j = 4 := by omega
  rcases this with rfl | rfl | rfl | rfl | rfl
  · rw [if_pos (by decide)]; rfl
  · rw [if_neg (by decide), if_pos (by decide)]; rfl
  · rw [if_neg (by decide), if_neg (by decide), if_pos (by decide)]; rfl
  · rw [if_neg (by decide), if_neg (by decide), if_neg (by decide), if_pos (by decide)]; rfl
  · rw [if_neg (by decide), if_neg (by decide), if_neg (by decide), if_neg (by decide)]; rfl
theorem c_pr4 {ws : Nat → Int32} {n : Nat} (hn : n ≤ 5) (h2 : v.1 87 2 = nI n) (hw : ∀ i, i < n → v.1 89 i = ws i) : ∀ m i f t, i + m = n → m < f → t ≤ 999 * i → f_Shares_prove_h4 f (lN t) (nI i) v = (psum ws m i t).elim (some (-1, v)) (fun T => f_Shares_prove_j60 (lN T) v) := by
  intro m
  induction m with
  | zero =>
    intro i f t hi hf ht
    obtain ⟨f, rfl⟩ : ∃ j, f = j + 1 := ⟨f - 1, by omega⟩
    rw [f_Shares_prove_h4, h2, if_neg (nI_nlt (by omega) (by omega)), psum]; rfl
  | succ m ih =>
    intro i f t hi hf ht
    obtain ⟨f, rfl⟩ : ∃ j, f = j + 1 := ⟨f - 1, by omega⟩
    rw [f_Shares_prove_h4, h2, if_pos (nI_lt (by omega) (by omega)), nI_rfl 5, if_pos (nI_lt (by omega) (by omega)), psum]
    simp (disch := omega) only [jal_c, jal_n, jin_nI, Bool.and_true, ↓reduceIte, nI_clamp, hw i (by omega)]
    by_cases g1 : ws i < 0
    · rw [if_pos g1, if_pos g1]; rfl
    by_cases g2 : ws i ≤ 999
    rotate_left
    · rw [if_neg g1, if_neg g1, if_neg g2, if_neg g2]; rfl
    rw [if_neg g1, if_neg g1, if_pos g2, if_pos g2]
    obtain ⟨a, ha, hea⟩ := rngle (n := 999) (x := ws i) (by omega) ⟨g1, g2⟩
    rw [hea, nI_l (by omega), lN_add, ip_1, nI_clamp (by omega)]
    exact ih (i + 1) f (t + a) (by omega) (by omega) (by omega)
/-- only the cells of the evidence change -/
def Yq (b0 : Nat) (v w : jW) : Prop := (∀ b, b ≠ b0 → v.1 b = w.1 b) ∧ v.2 = w.2
theorem Yq_r {b0 : Nat} : Yq b0 w w := ⟨fun _ _ => rfl, rfl⟩
theorem Yq_t {b0 : Nat} {u : jW} (h : Yq b0 u v) (g : Yq b0 v w) : Yq b0 u w := ⟨fun b q => (h.1 b q).trans (g.1 b q), h.2.trans g.2⟩
theorem Yq_j {b0 j : Nat} {x : Int32} : Yq b0 (jup w.1 b0 j x, w.2) w := ⟨fun b q => by dsimp only; rw [jup_fn q], rfl⟩
theorem Yq_Sq {b0 : Nat} (hs : sc b0 = true) (h93 : b0 ≠ 93) (h : Yq b0 v w) : Sq v w := ⟨fun b q => h.1 b (fun z => by rw [z, hs] at q; exact absurd q (by decide)), fun j _ => by rw [h.1 93 (fun z => h93 z.symm)]⟩
theorem gD_app {P : List Nat} {x : Nat} : (P ++ [x]).getD P.length 0 = x := by
  rw [List.getD_eq_getElem?_getD, List.getElem?_append_right (Nat.le_refl _), Nat.sub_self]; rfl
theorem gD_lt {P : List Nat} {x i : Nat} (h : i < P.length) : (P ++ [x]).getD i 0 = P.getD i 0 := by
  rw [List.getD_eq_getElem?_getD, List.getElem?_append_left h, List.getD_eq_getElem?_getD]
/-- the best cell -/
def bsx (g : Nat → Int32) : Nat → Nat → Nat → Nat
  | 0, _, b => b
  | m + 1, i, b => bsx g m (i + 1) (if g i ≤ g b then b else i)
theorem bsx_lt (g : Nat → Int32) {n : Nat} : ∀ m i b, i + m ≤ n → b < n → bsx g m i b < n := by
  intro m
  induction m with
  | zero => intro i b _ hb; exact hb
  | succ m ih => intro i b hi hb; exact ih (i + 1) _ (by omega) (by split <;> omega)
theorem c_h67 {KC : Int64 → Int32 → jW → Option (Int64 × jW)} {g : Nat → Int32} {n : Nat} (hn : n ≤ 5) (h2 : v.1 87 2 = nI n) (hw : ∀ i, i < n → v.1 89 i = g i) (T : Int64) (r : Nat) : ∀ m i f b, i + m = n → m < f → b < n → f_Shares_greatestTogether_h67 KC f T (nI r) (nI b) (nI i) v = KC (T + Int32.toInt64 (g (bsx g m i b))) (nI (r + 1)) (jup v.1 89 (bsx g m i b) (-1), v.2) := by
  intro m
  induction m with
  | zero =>
    intro i f b hi hf hb
    obtain ⟨f, rfl⟩ : ∃ j, f = j + 1 := ⟨f - 1, by omega⟩
    rw [f_Shares_greatestTogether_h67, h2, if_neg (nI_nlt (by omega) (by omega)), f_Shares_greatestTogether_j128, nI_rfl 5, if_pos (nI_lt (by omega) (by omega)), bsx]
    simp (disch := omega) only [jal_c, jal_n, jin_nI, Bool.and_true, ↓reduceIte, nI_clamp, hw b hb, ip_1, jlw_e]
  | succ m ih =>
    intro i f b hi hf hb
    obtain ⟨f, rfl⟩ : ∃ j, f = j + 1 := ⟨f - 1, by omega⟩
    rw [f_Shares_greatestTogether_h67, h2, if_pos (nI_lt (by omega) (by omega)), nI_rfl 5, if_pos (nI_lt (by omega) (by omega)), if_pos (nI_lt (by omega) (by omega)), bsx]
    simp (disch := omega) only [jal_c, jal_n, jin_nI, Bool.and_true, ↓reduceIte, nI_clamp, hw b hb, hw i (by omega), ip_1]
    by_cases z : g i ≤ g b
    · rw [if_pos z, if_pos z]; exact ih (i + 1) f b (by omega) (by omega) hb
    · rw [if_neg z, if_neg z]; exact ih (i + 1) f i (by omega) (by omega) (by omega)
theorem c_weigh {i : Nat} (hi : i < 5) (x : Int32) : f_Shares_weigh (nI i) x v = some (jup v.1 89 i x, v.2) := by
  rw [f_Shares_weigh, if_neg (nI_pos (by omega)), nI_rfl 5, if_pos (nI_lt (by omega) (by omega)), jal_c, jal_n, jin_nI (by omega) (by omega), if_pos (show (true && true) = true from rfl), jlw_e, nI_clamp (by omega)]
theorem c_gt4 {ws : Nat → Int32} {P : List Nat} (h5 : P.length ≤ 5) (T : Int64) : ∀ m i f (v : jW), i + m = P.length → m < f → Csh v P → (∀ j, j < i → v.1 89 j = ws j * nI (P.getD j 0)) → (∀ j, i ≤ j → j < P.length → v.1 89 j = ws j) → ∃ v', Yq 89 v' v ∧ (∀ j, j < P.length → v'.1 89 j = ws j * nI (P.getD j 0)) ∧ f_Shares_greatestTogether_h4 f T (nI i) v = f_Shares_greatestTogether_h53 jfu T (nI 0) v' := by
  intro m
  induction m with
  | zero =>
    intro i f v hi hf hc h1 h2
    obtain ⟨f, rfl⟩ : ∃ j, f = j + 1 := ⟨f - 1, by omega⟩
    refine ⟨v, Yq_r, fun j hj => h1 j (by omega), ?_⟩
    rw [f_Shares_greatestTogether_h4, hc.1, if_neg (nI_nlt (by omega) (by omega))]; rfl
  | succ m ih =>
    intro i f v hi hf hc h1 h2
    obtain ⟨f, rfl⟩ : ∃ j, f = j + 1 := ⟨f - 1, by omega⟩
    obtain ⟨v', k1, k2, k3⟩ := ih (i + 1) f (jup v.1 89 i (ws i * nI (P.getD i 0)), v.2) (by omega) (by omega) ⟨by dsimp only; rw [jup_ne (by omega)]; exact hc.1, fun j hj => by dsimp only; rw [jup_ne (by omega)]; exact hc.2 j hj⟩ (fun j hj => by
      dsimp only
      by_cases z : j = i
      · rw [z, jup_eq]
      · rw [jup_k z]; exact h1 j (by omega)) (fun j hj hj2 => by
      dsimp only
      rw [jup_k (by omega)]; exact h2 j (by omega) hj2)
    refine ⟨v', Yq_t k1 Yq_j, k2, ?_⟩
    rw [f_Shares_greatestTogether_h4, hc.1, if_pos (nI_lt (by omega) (by omega)), nI_rfl 5, if_pos (nI_lt (by omega) (by omega)), if_pos (nI_lt (by omega) (by omega)), ← k3]
    simp (disch := omega) only [jal_c, jal_n, jin_nI, Bool.and_true, ↓reduceIte, nI_clamp, h2 i (by omega) (by omega), hc.2 i (by omega), ip_1, jlw_e]
end PF


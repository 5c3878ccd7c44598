/-! LAYER B: value, share, proof -/
section PF
variable {w v z0 : jW} {A : Nat → Int32} {c ci : Nat → Nat} {K : Nat}
theorem Cal_s {α : Type} {x : α} {w1 w2 : jW} {C M : jW → Option (α × jW)} (h : Inv w c ci K) (hK : K < 512) (hC : C w = some (x, w1)) (s1 : Sq w1 w) (hM : M w1 = some (x, w2)) (s2 : Sq w2 w1) : Cal w (K + 1) C M :=
  ⟨x, w1, w2, c, ci, hC, hM, Inv_K (Inv_sq (Inv_sq h s1) s2) (by omega) (by omega)⟩
/-- both sides agree on what is a set -/
theorem set_ag (h : Inv w c ci K) (x q : Int32) : (∃ v, f_Shares_take x q w = some (0, v) ∧ Sq v w ∧ f_Model_isSet x q v = some (0, v)) ∨ ∃ v σ n, x = nI σ ∧ q = nI n ∧ σ < 1024 ∧ 1 ≤ n ∧ n ≤ (chl (w.1 94) σ (c 1) 0).length ∧ (chl (w.1 94) σ (c 1) 0).length ≤ 5 ∧ f_Shares_take x q w = some (1, v) ∧ X88 v w ∧ Csh v (chl (w.1 94) σ (c 1) 0) ∧ v.1 87 3 = q ∧ v.2 87 4 = lN (nume (w.1 94) c σ n / Nat.gcd (nume (w.1 94) c σ n) (deno (w.1 94) c σ n)) ∧ v.2 87 5 = lN (deno (w.1 94) c σ n / Nat.gcd (nume (w.1 94) c σ n) (deno (w.1 94) c σ n)) ∧ (∀ u : jW, u.1 94 = w.1 94 → f_Model_isSet x q u = some (1, u)) ∧ σ < 2 ^ c 1 := by
  have H := h.1
  have l1 := l_1 H
  have p10 : (2 : Nat) ^ c 1 ≤ 2 ^ 10 := Nat.pow_le_pow_right (by omega) l1
  rcases c_take H x q with ⟨v, k1, k2, k3⟩ | ⟨v, σ, n, r1, r2, r3, r4, r5, r6, r7, r8, r9, r10, r11⟩
  · have e94 := Sq_94 k2
    have H' : RA w 3 (v.1 94) c K := by rw [e94]; exact H
    rcases m_isSet H' x q with ⟨m1, m2⟩ | ⟨σ, n, m1, m2, m3, m4, m5, m6⟩
    · exact Or.inl ⟨v, k1, k2, m1⟩
    · rw [e94] at m5
      have s2 := m5.2.1
      exact absurd m5 (k3 σ m1 (by omega))
  · have s2 := r5.2.1
    refine Or.inr ⟨v, σ, n, r1, r2, by omega, r3, r4, r5.2.2.1, r6, r7, r8, r9, r10, r11, fun u hu => ?_, s2⟩
    have H' : RA w 3 (u.1 94) c K := by rw [hu]; exact H
    rcases m_isSet H' x q with ⟨m1, m2⟩ | ⟨σ', n', m1, m2, m3, m4, m5, m6⟩
    · rw [hu] at m2
      exact absurd r5 (m2 σ r1 (by omega))
    · exact m6
theorem q_value (h : Inv w c ci K) (hK : K < 512) (x q y : Int32) : Cal w (K + 1) (f_Count_value x q y) (f_Model_value x q y) := by
  have H := h.1
  rcases set_ag h x q with ⟨v, k1, k2, k3⟩ | ⟨v, σ, n, r1, r2, r3, r4, r5, r6, r7, r8, r9, r10, r11, r12, r13, r14⟩
  · refine Cal_s (x := -1) (w1 := v) (w2 := v) h hK ?_ k2 ?_ Sq_r
    · rw [f_Count_value, k1, ob, if_pos rfl]
    · rw [f_Model_value, k3, ob, if_pos rfl]
  · have e94 : v.1 94 = w.1 94 := r8 94 (by omega) (by omega)
    have H' : RA w 3 (v.1 94) c K := by rw [e94]; exact H
    obtain ⟨u, y1, y2, y3, y4⟩ := m_valueOf (w := v) (q := n) H' r3 (by rw [e94]; exact ⟨r4, r5⟩) (by rw [e94]; exact r6)
    rw [e94] at y3 y4
    subst r1; subst r2
    by_cases z : y = 0
    · refine Cal_s (x := v.2 87 4) (w1 := v) (w2 := u) h hK ?_ (X88_Sq r8) ?_ (X93l_Sq y2)
      · rw [f_Count_value, r7, ob, if_neg one_ne, if_pos z]
      · rw [f_Model_value, r13 v e94, ob, if_neg one_ne, y1, ob, if_pos z, y3, r11]
    · refine Cal_s (x := v.2 87 5) (w1 := v) (w2 := u) h hK ?_ (X88_Sq r8) ?_ (X93l_Sq y2)
      · rw [f_Count_value, r7, ob, if_neg one_ne, if_neg z]
      · rw [f_Model_value, r13 v e94, ob, if_neg one_ne, y1, ob, if_neg z, y4, r12]
theorem low_b {a b : Nat} (ha : 1 ≤ a) (hb : 1 ≤ b) : 1 ≤ a / Nat.gcd a b ∧ a / Nat.gcd a b ≤ a ∧ 1 ≤ b / Nat.gcd a b ∧ b / Nat.gcd a b ≤ b := by
  have g0 : 0 < Nat.gcd a b := Nat.gcd_pos_of_pos_right _ hb
  refine ⟨Nat.div_pos (Nat.le_of_dvd ha (Nat.gcd_dvd_left a b)) g0, Nat.div_le_self _ _, Nat.div_pos (Nat.le_of_dvd hb (Nat.gcd_dvd_right a b)) g0, Nat.div_le_self _ _⟩
theorem q_share (h : Inv w c ci K) (hK : K < 512) (x q s y : Int32) : Cal w (K + 1) (f_Count_share x q s y) (f_Model_share x q s y) := by
  have H := h.1
  have l1 := l_1 H
  rcases set_ag h x q with ⟨v, k1, k2, k3⟩ | ⟨v, σ, n, r1, r2, r3, r4, r5, r6, r7, r8, r9, r10, r11, r12, r13, r14⟩
  · refine Cal_s (x := -1) (w1 := v) (w2 := v) h hK ?_ k2 ?_ Sq_r
    · rw [f_Count_share, k1, ob, if_pos rfl]
    · rw [f_Model_share, k3, ob, if_pos rfl]
  · have e94 : v.1 94 = w.1 94 := r8 94 (by omega) (by omega)
    have H' : RA w 3 (v.1 94) c K := by rw [e94]; exact H
    have Gv : RA v 3 (w.1 94) c K := RA_fr H (fun b _ _ _ => r8 b (by omega) (by omega))
    subst r1; subst r2
    by_cases g1 : ¬ s < 0 ∧ s < nI (c 1)
    rotate_left
    · refine Cal_s (x := -1) (w1 := v) (w2 := v) h hK ?_ (X88_Sq r8) ?_ Sq_r
      · rw [f_Count_share, r7, ob, if_neg one_ne, s_si Gv, ob]
        dsimp only
        rw [b2_n g1, if_pos rfl]
      · rw [f_Model_share, r13 v e94, ob, if_neg one_ne, mi_site H', ob]
        dsimp only
        rw [b2_n g1, if_pos rfl]
    by_cases g2 : (nI σ >>> (s &&& 31)) &&& 1 = 0
    · refine Cal_s (x := -1) (w1 := v) (w2 := v) h hK ?_ (X88_Sq r8) ?_ Sq_r
      · rw [f_Count_share, r7, ob, if_neg one_ne, s_si Gv, ob]
        dsimp only
        rw [b2_p g1, if_neg one_ne, if_pos g2]
      · rw [f_Model_share, r13 v e94, ob, if_neg one_ne, mi_site H', ob]
        dsimp only
        rw [b2_p g1, if_neg one_ne, if_pos g2]
    obtain ⟨i, hi, rfl⟩ := rng (by omega) g1
    obtain ⟨x1, x2, x3⟩ := chv_e H hi
    obtain ⟨d1, d2, d3, d4⟩ := nume_b H (q := n) ⟨r4, r5⟩ r6
    obtain ⟨f1, f2, f3, f4⟩ := low_b d1 d3
    obtain ⟨U, hU⟩ : ∃ U, U = nume (w.1 94) c σ n / Nat.gcd (nume (w.1 94) c σ n) (deno (w.1 94) c σ n) := ⟨_, rfl⟩
    obtain ⟨L, hL⟩ : ∃ L, L = deno (w.1 94) c σ n / Nat.gcd (nume (w.1 94) c σ n) (deno (w.1 94) c σ n) := ⟨_, rfl⟩
    rw [← hU] at f1 f2 r11
    rw [← hL] at f3 f4 r12
    generalize chv (w.1 94) i = p at *
    have b1 : L * p ≤ 4294967296 * 50 := Nat.mul_le_mul (by omega) x3
    have b2 : 1 ≤ L * p := Nat.mul_pos f3 x2
    have ed : f_Shares_divide (w.1 94 (40 + 8 * i + 4)) v = some (rdw v U (L * p)) := by
      rw [f_Shares_divide, r11, r12, x1, nI_l (by omega), lN_mul, c_reduce (by omega) (by omega) (Or.inr (by omega)), ob]
    have g0 : 0 < Nat.gcd U (L * p) := Nat.gcd_pos_of_pos_right _ b2
    have gl : Nat.gcd U (L * p) ≤ L * p := Nat.le_of_dvd b2 (Nat.gcd_dvd_right _ _)
    have eC : f_Count_share (nI σ) (nI n) (nI i) y w = if y = 0 then some ((rdw v U (L * p)).2 87 4, rdw v U (L * p)) else some ((rdw v U (L * p)).2 87 5, rdw v U (L * p)) := by
      rw [f_Count_share, r7, ob, if_neg one_ne, s_si Gv, ob]
      dsimp only
      rw [b2_p g1, if_neg one_ne, if_neg g2, a_si4 Gv hi, ob]
      dsimp only
      rw [ed, ob]
    have S1 : Sq (rdw v U (L * p)) w := Sq_t Sq_2 (X88_Sq r8)
    have c4 : (rdw v U (L * p)).2 87 4 = lN (U / Nat.gcd U (L * p)) := by
      unfold rdw; dsimp only
      rw [jup_k (by omega), jup_eq]
    have c5 : (rdw v U (L * p)).2 87 5 = lN (L * p / Nat.gcd U (L * p)) := by
      unfold rdw; dsimp only
      rw [jup_eq]
    obtain ⟨vr, hvr⟩ : ∃ vr, vr = rdw v U (L * p) := ⟨_, rfl⟩
    have er : vr.1 = v.1 := by rw [hvr]; rfl
    rw [← hvr] at S1 c4 c5 eC
    -- the reference on the class's last world
    have er94 : vr.1 94 = w.1 94 := by rw [er]; exact e94
    have H2 : RA w 3 (vr.1 94) c K := by rw [er94]; exact H
    obtain ⟨u, z1, z2, z3, z4⟩ := m_valueOf (w := vr) (q := n) H2 r3 (by rw [er94]; exact ⟨r4, r5⟩) (by rw [er94]; exact r6)
    rw [er94, ← hU] at z3
    rw [er94, ← hL] at z4
    have u94 : u.1 94 = w.1 94 := by rw [z2]; exact er94
    have es : f_Model_siteAt (nI i) 4 u = some (nI p, u) := by rw [ms_4 (by omega), u94, x1]
    have eM : f_Model_share (nI σ) (nI n) (nI i) y vr = if y = 0 then some (lN (U / Nat.gcd U (L * p)), u) else some (lN (L * p / Nat.gcd U (L * p)), u) := by
      rw [f_Model_share, r13 vr er94, ob, if_neg one_ne, mi_site H2, ob]
      dsimp only
      rw [b2_p g1, if_neg one_ne, if_neg g2, z1, ob, es, ob]
      dsimp only
      rw [z3, z4, nI_l (by omega), lN_mul, m_common (j := 40) (by omega) (by omega) (by omega), ob]
      dsimp only
      rw [bl_ne (by omega) (by omega), if_pos (show jal [true] = true from rfl), z3, pk_lDiv (by omega) g0 (by omega), if_pos (show jal [true] = true from rfl), pk_lDiv (by omega) g0 (by omega)]
    by_cases z : y = 0
    · rw [if_pos z] at eC eM
      exact Cal_s h hK eC S1 (by rw [c4]; exact eM) (X93l_Sq z2)
    · rw [if_neg z] at eC eM
      exact Cal_s h hK eC S1 (by rw [c5]; exact eM) (X93l_Sq z2)
/-- the evidence's numbers -/
def wv (x3 x4 x5 x6 x7 : Int32) : Nat → Int32
  | 0 => x3 | 1 => x4 | 2 => x5 | 3 => x6 | _ => x7
def psum (ws : Nat → Int32) : Nat → Nat → Nat → Option Nat
  | 0, _, t => some t
  | m + 1, i, t => if ws i < 0 then none else if ws i ≤ 999 then psum ws m (i + 1) (t + (ws i).toNatClampNeg) else none
theorem sel5 {α : Type} (J : Int32 → α) (x3 x4 x5 x6 x7 : Int32) {j : Nat} (hj : j < 5) : (if nI j = 0 then J x3 else if nI j = 1 then J x4 else if nI j = 2 then J x5 else if nI j = 3 then J x6 else J x7) = J (wv x3 x4 x5 x6 x7 j) := by
  have : j = 0 ∨ j = 1 ∨ j = 2 ∨ j = 3 ∨ j = 4 := by omega
  rcases this with rfl | rfl | rfl | rfl | rfl
  · rw [if_pos (by decide)]; rfl
  · rw [if_neg (by decide), if_pos (by decide)]; rfl
  · rw [if_neg (by decide), if_neg (by decide), if_pos (by decide)]; rfl
  · rw [if_neg (by decide), if_neg (by decide), if_neg (by decide), if_pos (by decide)]; rfl
  · rw [if_neg (by decide), if_neg (by decide), if_neg (by decide), if_neg (by decide)]; rfl
theorem c_pr4 {ws : Nat → Int32} {n : Nat} (hn : n ≤ 5) (h2 : v.1 87 2 = nI n) (hw : ∀ i, i < n → v.1 89 i = ws i) : ∀ m i f t, i + m = n → m < f → t ≤ 999 * i → f_Shares_prove_h4 f (lN t) (nI i) v = (psum ws m i t).elim (some (-1, v)) (fun T => f_Shares_prove_j60 (lN T) v) := by
  intro m
  induction m with
  | zero =>
    intro i f t hi hf ht
    obtain ⟨f, rfl⟩ : ∃ j, f = j + 1 := ⟨f - 1, by omega⟩
    rw [f_Shares_prove_h4, h2, if_neg (nI_nlt (by omega) (by omega)), psum]; rfl
  | succ m ih =>
    intro i f t hi hf ht
    obtain ⟨f, rfl⟩ : ∃ j, f = j + 1 := ⟨f - 1, by omega⟩
    rw [f_Shares_prove_h4, h2, if_pos (nI_lt (by omega) (by omega)), nI_rfl 5, if_pos (nI_lt (by omega) (by omega)), psum]
    simp (disch := omega) only [jal_c, jal_n, jin_nI, Bool.and_true, ↓reduceIte, nI_clamp, hw i (by omega)]
    by_cases g1 : ws i < 0
    · rw [if_pos g1, if_pos g1]; rfl
    by_cases g2 : ws i ≤ 999
    rotate_left
    · rw [if_neg g1, if_neg g1, if_neg g2, if_neg g2]; rfl
    rw [if_neg g1, if_neg g1, if_pos g2, if_pos g2]
    obtain ⟨a, ha, hea⟩ := rngle (n := 999) (x := ws i) (by omega) ⟨g1, g2⟩
    rw [hea, nI_l (by omega), lN_add, ip_1, nI_clamp (by omega)]
    exact ih (i + 1) f (t + a) (by omega) (by omega) (by omega)
/-- only the cells of the evidence change -/
def Yq (b0 : Nat) (v w : jW) : Prop := (∀ b, b ≠ b0 → v.1 b = w.1 b) ∧ v.2 = w.2
theorem Yq_r {b0 : Nat} : Yq b0 w w := ⟨fun _ _ => rfl, rfl⟩
theorem Yq_t {b0 : Nat} {u : jW} (h : Yq b0 u v) (g : Yq b0 v w) : Yq b0 u w := ⟨fun b q => (h.1 b q).trans (g.1 b q), h.2.trans g.2⟩
theorem Yq_j {b0 j : Nat} {x : Int32} : Yq b0 (jup w.1 b0 j x, w.2) w := ⟨fun b q => by dsimp only; rw [jup_fn q], rfl⟩
theorem Yq_Sq {b0 : Nat} (hs : sc b0 = true) (h93 : b0 ≠ 93) (h : Yq b0 v w) : Sq v w := ⟨fun b q => h.1 b (fun z => by rw [z, hs] at q; exact absurd q (by decide)), fun j _ => by rw [h.1 93 (fun z => h93 z.symm)]⟩
theorem gD_app {P : List Nat} {x : Nat} : (P ++ [x]).getD P.length 0 = x := by
  rw [List.getD_eq_getElem?_getD, List.getElem?_append_right (Nat.le_refl _), Nat.sub_self]; rfl
theorem gD_lt {P : List Nat} {x i : Nat} (h : i < P.length) : (P ++ [x]).getD i 0 = P.getD i 0 := by
  rw [List.getD_eq_getElem?_getD, List.getElem?_append_left h, List.getD_eq_getElem?_getD]
theorem m_h20 (H : RA z0 3 A c K) {σ n : Nat} (hσ : σ < 2 ^ c 1) (x3 x4 x5 x6 x7 : Int32) : ∀ m k f t (P : List Nat) (v : jW), k + m = 10 → m < f → (P ++ chl A σ m k).length ≤ 5 → t ≤ 999 * P.length → v.1 94 = A → (∀ i, i < P.length → v.1 101 i = wv x3 x4 x5 x6 x7 i * nI (P.getD i 0)) →
    (psum (wv x3 x4 x5 x6 x7) (chl A σ m k).length P.length t = none ∧ ∃ v', f_Model_proof_h20 f (nI σ) (nI n) x3 x4 x5 x6 x7 (nI P.length) (nI t) (nI k) v = some (-1, v') ∧ Yq 101 v' v) ∨
    ∃ T v', psum (wv x3 x4 x5 x6 x7) (chl A σ m k).length P.length t = some T ∧ T ≤ 5000 ∧ Yq 101 v' v ∧ (∀ i, i < (P ++ chl A σ m k).length → v'.1 101 i = wv x3 x4 x5 x6 x7 i * nI ((P ++ chl A σ m k).getD i 0)) ∧ f_Model_proof_h20 f (nI σ) (nI n) x3 x4 x5 x6 x7 (nI P.length) (nI t) (nI k) v = if T = 0 then some (-1, v') else f_Model_proof_h145 jfu (nI σ) (nI n) (nI (P ++ chl A σ m k).length) (nI T) 0 0 v' := by
  have l1 := l_1 H
  have p10 : (2 : Nat) ^ c 1 ≤ 2 ^ 10 := Nat.pow_le_pow_right (by omega) l1
  intro m
  induction m with
  | zero =>
    intro k f t P v hk hf h5 ht h94 hv
    obtain ⟨f, rfl⟩ : ∃ j, f = j + 1 := ⟨f - 1, by omega⟩
    rw [chl, List.append_nil] at *
    refine Or.inr ⟨t, v, rfl, by omega, Yq_r, hv, ?_⟩
    rw [f_Model_proof_h20, show k = 10 by omega, if_neg (by decide)]
    by_cases z : t = 0
    · rw [if_pos z, if_pos (by rw [z]; rfl)]
    · rw [if_neg z, if_neg (show ¬ nI t = 0 from fun y => z ((nI_eq (a := t) (b := 0) (by omega) (by omega)).mp y))]
  | succ m ih =>
    intro k f t P v hk hf h5 ht h94 hv
    obtain ⟨f, rfl⟩ : ∃ j, f = j + 1 := ⟨f - 1, by omega⟩
    by_cases g1 : σ.testBit k = true
    rotate_left
    · have e20 : f_Model_proof_h20 (f + 1) (nI σ) (nI n) x3 x4 x5 x6 x7 (nI P.length) (nI t) (nI k) v = f_Model_proof_h20 f (nI σ) (nI n) x3 x4 x5 x6 x7 (nI P.length) (nI t) (nI (k + 1)) v := by
        rw [f_Model_proof_h20, if_pos (show nI k < 10 from nI_lt (b := 10) (by omega) (by omega)), sbit σ (by omega) k (by omega), if_neg g1, if_pos rfl, ip_1]
      have ec : chl A σ (m + 1) k = chl A σ m (k + 1) := by rw [chl, if_neg g1, List.nil_append]
      rw [ec] at h5 ⊢
      rw [e20]
      exact ih (k + 1) f t P v (by omega) (by omega) h5 ht h94 hv
    have hk1 : k < c 1 := by
      by_cases z : k < c 1
      · exact z
      · have : σ.testBit k = false := Nat.testBit_lt_two_pow (Nat.lt_of_lt_of_le hσ (Nat.pow_le_pow_right (by omega) (by omega)))
        rw [this] at g1; exact absurd g1 (by decide)
    obtain ⟨e1, e2, e3⟩ := chv_e H hk1
    generalize hx : chv A k = x at *
    have ec : chl A σ (m + 1) k = [x] ++ chl A σ m (k + 1) := by rw [chl, if_pos g1, hx]
    rw [ec, ← List.append_assoc] at h5
    have hl : P.length < 5 := by
      rw [List.length_append, List.length_append, List.length_singleton] at h5; omega
    have e20 : f_Model_proof_h20 (f + 1) (nI σ) (nI n) x3 x4 x5 x6 x7 (nI P.length) (nI t) (nI k) v = f_Model_proof_j83 (f_Model_proof_h20 f) (nI σ) (nI n) x3 x4 x5 x6 x7 (nI P.length) (nI t) (nI k) (wv x3 x4 x5 x6 x7 P.length) v := by
      rw [f_Model_proof_h20, if_pos (show nI k < 10 from nI_lt (b := 10) (by omega) (by omega)), sbit σ (by omega) k (by omega), if_pos g1, if_neg one_ne]
      exact sel5 (fun z => f_Model_proof_j83 (f_Model_proof_h20 f) (nI σ) (nI n) x3 x4 x5 x6 x7 (nI P.length) (nI t) (nI k) z v) x3 x4 x5 x6 x7 hl
    have ecl : ([x] ++ chl A σ m (k + 1)).length = (chl A σ m (k + 1)).length + 1 := by rw [List.singleton_append, List.length_cons]
    rw [ec, ← List.append_assoc, ecl, psum, e20]
    rw [f_Model_proof_j83, m_isIn, ob]
    dsimp only
    by_cases g2 : wv x3 x4 x5 x6 x7 P.length < 0
    · rw [b2_n (fun z => z.1 g2), if_pos rfl, if_pos g2]
      exact Or.inl ⟨rfl, v, rfl, Yq_r⟩
    by_cases g3 : wv x3 x4 x5 x6 x7 P.length ≤ 999
    rotate_left
    · rw [b2_n (fun z => g3 z.2), if_pos rfl, if_neg g2, if_neg g3]
      exact Or.inl ⟨rfl, v, rfl, Yq_r⟩
    rw [b2_p ⟨g2, g3⟩, if_neg one_ne, if_neg g2, if_pos g3, ms_4 (by omega), ob]
    dsimp only
    rw [jal_c, jal_n, jin_nI (by omega) (by omega), if_pos (show (true && true) = true from rfl), jlw_e, h94, e1, nI_clamp (by omega), ip_1, ip_1]
    obtain ⟨a, ha, hea⟩ := rngle (n := 999) (x := wv x3 x4 x5 x6 x7 P.length) (by omega) ⟨g2, g3⟩
    have el : P.length + 1 = (P ++ [x]).length := by rw [List.length_append, List.length_singleton]
    have iH := ih (k + 1) f (t + a) (P ++ [x]) (jup v.1 101 P.length (wv x3 x4 x5 x6 x7 P.length * nI x), v.2) (by omega) (by omega) h5 (by rw [← el]; omega) (by rw [← h94]; exact Yq_j.1 94 (by omega)) (fun i hi => by
      dsimp only
      by_cases z : i = P.length
      · rw [z, jup_eq, gD_app]
      · rw [jup_k z, gD_lt (by omega)]; exact hv i (by omega))
    rw [hea, nI_clamp (by omega), nI_add, el, ← hea]
    rcases iH with ⟨q1, v', q2, q3⟩ | ⟨T, v', q1, q2, q3, q4, q5⟩
    · exact Or.inl ⟨q1, v', q2, Yq_t q3 Yq_j⟩
    · exact Or.inr ⟨T, v', q1, q2, Yq_t q3 Yq_j, q4, q5⟩
/-- the best cell -/
def bsx (g : Nat → Int32) : Nat → Nat → Nat → Nat
  | 0, _, b => b
  | m + 1, i, b => bsx g m (i + 1) (if g i ≤ g b then b else i)
theorem bsx_lt (g : Nat → Int32) {n : Nat} : ∀ m i b, i + m ≤ n → b < n → bsx g m i b < n := by
  intro m
  induction m with
  | zero => intro i b _ hb; exact hb
  | succ m ih => intro i b hi hb; exact ih (i + 1) _ (by omega) (by split <;> omega)
theorem c_h67 {KC : Int64 → Int32 → jW → Option (Int64 × jW)} {g : Nat → Int32} {n : Nat} (hn : n ≤ 5) (h2 : v.1 87 2 = nI n) (hw : ∀ i, i < n → v.1 89 i = g i) (T : Int64) (r : Nat) : ∀ m i f b, i + m = n → m < f → b < n → f_Shares_greatestTogether_h67 KC f T (nI r) (nI b) (nI i) v = KC (T + Int32.toInt64 (g (bsx g m i b))) (nI (r + 1)) (jup v.1 89 (bsx g m i b) (-1), v.2) := by
  intro m
  induction m with
  | zero =>
    intro i f b hi hf hb
    obtain ⟨f, rfl⟩ : ∃ j, f = j + 1 := ⟨f - 1, by omega⟩
    rw [f_Shares_greatestTogether_h67, h2, if_neg (nI_nlt (by omega) (by omega)), f_Shares_greatestTogether_j128, nI_rfl 5, if_pos (nI_lt (by omega) (by omega)), bsx]
    simp (disch := omega) only [jal_c, jal_n, jin_nI, Bool.and_true, ↓reduceIte, nI_clamp, hw b hb, ip_1, jlw_e]
  | succ m ih =>
    intro i f b hi hf hb
    obtain ⟨f, rfl⟩ : ∃ j, f = j + 1 := ⟨f - 1, by omega⟩
    rw [f_Shares_greatestTogether_h67, h2, if_pos (nI_lt (by omega) (by omega)), nI_rfl 5, if_pos (nI_lt (by omega) (by omega)), if_pos (nI_lt (by omega) (by omega)), bsx]
    simp (disch := omega) only [jal_c, jal_n, jin_nI, Bool.and_true, ↓reduceIte, nI_clamp, hw b hb, hw i (by omega), ip_1]
    by_cases z : g i ≤ g b
    · rw [if_pos z, if_pos z]; exact ih (i + 1) f b (by omega) (by omega) hb
    · rw [if_neg z, if_neg z]; exact ih (i + 1) f i (by omega) (by omega) (by omega)
theorem m_h157 {KM : Int32 → Int32 → Int32 → Int32 → Int64 → Int32 → jW → Option (Int32 × jW)} {g : Nat → Int32} {n : Nat} (x1 x2 x9 : Int32) (hn : n ≤ 5) (hw : ∀ i, i < n → v.1 101 i = g i) (T : Int64) (r : Nat) : ∀ m i f b, i + m = n → m < f → b < n → f_Model_proof_h157 KM f x1 x2 (nI n) x9 T (nI r) (nI b) (nI i) v = KM x1 x2 (nI n) x9 (T + Int32.toInt64 (g (bsx g m i b))) (nI (r + 1)) (jup v.1 101 (bsx g m i b) (-1), v.2) := by
  intro m
  induction m with
  | zero =>
    intro i f b hi hf hb
    obtain ⟨f, rfl⟩ : ∃ j, f = j + 1 := ⟨f - 1, by omega⟩
    rw [f_Model_proof_h157, if_neg (nI_nlt (by omega) (by omega)), bsx]
    simp (disch := omega) only [jal_c, jal_n, jin_nI, Bool.and_true, ↓reduceIte, nI_clamp, hw b hb, ip_1, jlw_e]
  | succ m ih =>
    intro i f b hi hf hb
    obtain ⟨f, rfl⟩ : ∃ j, f = j + 1 := ⟨f - 1, by omega⟩
    rw [f_Model_proof_h157, if_pos (nI_lt (by omega) (by omega)), bsx]
    simp (disch := omega) only [jal_c, jal_n, jin_nI, Bool.and_true, ↓reduceIte, nI_clamp, hw b hb, hw i (by omega), ip_1]
    by_cases z : g i ≤ g b
    · rw [if_pos z, if_pos z]; exact ih (i + 1) f b (by omega) (by omega) hb
    · rw [if_neg z, if_neg z]; exact ih (i + 1) f i (by omega) (by omega) (by omega)
theorem both_gt {n q : Nat} (x1 x9 : Int32) (hn : n ≤ 5) (hn1 : 1 ≤ n) (hq : q ≤ 5) : ∀ m i f F T (v : jW), i + m = q → m < f → m < F → v.1 87 2 = nI n → v.1 87 3 = nI q → ∃ T' v', f_Shares_greatestTogether_h53 f T (nI i) v = some (T', v') ∧ Yq 89 v' v ∧ ∀ u : jW, (∀ i, i < n → u.1 101 i = v.1 89 i) → ∃ u', Yq 101 u' u ∧ f_Model_proof_h145 F x1 (nI q) (nI n) x9 T (nI i) u = f_Model_proof_h145 1 x1 (nI q) (nI n) x9 T' (nI q) u' := by
  intro m
  induction m with
  | zero =>
    intro i f F T v hi hf hF h2 h3
    obtain ⟨f, rfl⟩ : ∃ j, f = j + 1 := ⟨f - 1, by omega⟩
    obtain ⟨F, rfl⟩ : ∃ k, F = k + 1 := ⟨F - 1, by omega⟩
    refine ⟨T, v, ?_, Yq_r, fun u _ => ⟨u, Yq_r, ?_⟩⟩
    · rw [f_Shares_greatestTogether_h53, h3, if_neg (nI_nlt (by omega) (by omega))]
    · rw [show i = q by omega, f_Model_proof_h145, f_Model_proof_h145, if_neg (nI_nlt (by omega) (by omega)), if_neg (nI_nlt (by omega) (by omega))]
  | succ m ih =>
    intro i f F T v hi hf hF h2 h3
    obtain ⟨f, rfl⟩ : ∃ j, f = j + 1 := ⟨f - 1, by omega⟩
    obtain ⟨F, rfl⟩ : ∃ k, F = k + 1 := ⟨F - 1, by omega⟩
    have e1 := c_h67 (KC := f_Shares_greatestTogether_h53 f) (g := v.1 89) hn h2 (fun _ _ => rfl) T i (n - 1) 1 jfu 0 (by omega) (by unfold jfu; omega) (by omega)
    have eb : bsx (v.1 89) n 0 0 = bsx (v.1 89) (n - 1) 1 0 := by
      obtain ⟨k, rfl⟩ : ∃ k, n = k + 1 := ⟨n - 1, by omega⟩
      rw [bsx, if_pos (Int32.le_refl _)]; rfl
    have bl := bsx_lt (v.1 89) (n := n) n 0 0 (by omega) (by omega)
    rw [← eb] at e1
    obtain ⟨b, hb⟩ : ∃ b, b = bsx (v.1 89) n 0 0 := ⟨_, rfl⟩
    rw [← hb] at e1 bl
    have j2 : (jup v.1 89 b (-1)) 87 2 = nI n := by rw [jup_ne (by omega)]; exact h2
    have j3 : (jup v.1 89 b (-1)) 87 3 = nI q := by rw [jup_ne (by omega)]; exact h3
    obtain ⟨T', v', k1, k2, k3⟩ := ih (i + 1) f F (T + Int32.toInt64 (v.1 89 b)) (jup v.1 89 b (-1), v.2) (by omega) (by omega) (by omega) j2 j3
    refine ⟨T', v', ?_, Yq_t k2 Yq_j, fun u hu => ?_⟩
    · rw [f_Shares_greatestTogether_h53, h3, if_pos (nI_lt (by omega) (by omega))]
      exact e1.trans k1
    · have e2 := m_h157 (KM := f_Model_proof_h145 F) (g := v.1 89) x1 (nI q) x9 hn hu T i n 0 jfu 0 (by omega) (by unfold jfu; omega) (by omega)
      obtain ⟨u', y1, y2⟩ := k3 (jup u.1 101 b (-1), u.2) (fun j hj => by
        dsimp only
        by_cases z : j = b
        · rw [z, jup_eq, jup_eq]
        · rw [jup_k z, jup_k z]; exact hu j hj)
      refine ⟨u', Yq_t y1 Yq_j, ?_⟩
      rw [f_Model_proof_h145, if_pos (nI_lt (by omega) (by omega)), ← y2]
      rw [← hb] at e2
      exact e2
theorem c_weigh {i : Nat} (hi : i < 5) (x : Int32) : f_Shares_weigh (nI i) x v = some (jup v.1 89 i x, v.2) := by
  rw [f_Shares_weigh, if_neg (nI_pos (by omega)), nI_rfl 5, if_pos (nI_lt (by omega) (by omega)), jal_c, jal_n, jin_nI (by omega) (by omega), if_pos (show (true && true) = true from rfl), jlw_e, nI_clamp (by omega)]
theorem c_gt4 {ws : Nat → Int32} {P : List Nat} (h5 : P.length ≤ 5) (T : Int64) : ∀ m i f (v : jW), i + m = P.length → m < f → Csh v P → (∀ j, j < i → v.1 89 j = ws j * nI (P.getD j 0)) → (∀ j, i ≤ j → j < P.length → v.1 89 j = ws j) → ∃ v', Yq 89 v' v ∧ (∀ j, j < P.length → v'.1 89 j = ws j * nI (P.getD j 0)) ∧ f_Shares_greatestTogether_h4 f T (nI i) v = f_Shares_greatestTogether_h53 jfu T (nI 0) v' := by
  intro m
  induction m with
  | zero =>
    intro i f v hi hf hc h1 h2
    obtain ⟨f, rfl⟩ : ∃ j, f = j + 1 := ⟨f - 1, by omega⟩
    refine ⟨v, Yq_r, fun j hj => h1 j (by omega), ?_⟩
    rw [f_Shares_greatestTogether_h4, hc.1, if_neg (nI_nlt (by omega) (by omega))]; rfl
  | succ m ih =>
    intro i f v hi hf hc h1 h2
    obtain ⟨f, rfl⟩ : ∃ j, f = j + 1 := ⟨f - 1, by omega⟩
    obtain ⟨v', k1, k2, k3⟩ := ih (i + 1) f (jup v.1 89 i (ws i * nI (P.getD i 0)), v.2) (by omega) (by omega) ⟨by dsimp only; rw [jup_ne (by omega)]; exact hc.1, fun j hj => by dsimp only; rw [jup_ne (by omega)]; exact hc.2 j hj⟩ (fun j hj => by
      dsimp only
      by_cases z : j = i
      · rw [z, jup_eq]
      · rw [jup_k z]; exact h1 j (by omega)) (fun j hj hj2 => by
      dsimp only
      rw [jup_k (by omega)]; exact h2 j (by omega) hj2)
    refine ⟨v', Yq_t k1 Yq_j, k2, ?_⟩
    rw [f_Shares_greatestTogether_h4, hc.1, if_pos (nI_lt (by omega) (by omega)), nI_rfl 5, if_pos (nI_lt (by omega) (by omega)), if_pos (nI_lt (by omega) (by omega)), ← k3]
    simp (disch := omega) only [jal_c, jal_n, jin_nI, Bool.and_true, ↓reduceIte, nI_clamp, h2 i (by omega) (by omega), hc.2 i (by omega), ip_1, jlw_e]
theorem q_proof (h : Inv w c ci K) (hK : K < 512) (x q x3 x4 x5 x6 x7 : Int32) : Cal w (K + 1) (f_Count_proof x q x3 x4 x5 x6 x7) (f_Model_proof x q x3 x4 x5 x6 x7) := by
  have H := h.1
  have l1 := l_1 H
  rcases set_ag h x q with ⟨v, k1, k2, k3⟩ | ⟨v, σ, n, r1, r2, r3, r4, r5, r6, r7, r8, r9, r10, r11, r12, r13, r14⟩
  · refine Cal_s (x := -1) (w1 := v) (w2 := v) h hK ?_ k2 ?_ Sq_r
    · rw [f_Count_proof, k1, ob, if_pos rfl]
    · rw [f_Model_proof, k3, ob, if_pos rfl]
  have p10 : (2 : Nat) ^ c 1 ≤ 2 ^ 10 := Nat.pow_le_pow_right (by omega) l1
  have e94 : v.1 94 = w.1 94 := r8 94 (by omega) (by omega)
  subst r1; subst r2
  have c10 := chl_10 (A := w.1 94) r14 l1
  obtain ⟨P, hP⟩ : ∃ P, P = chl (w.1 94) σ (c 1) 0 := ⟨_, rfl⟩
  rw [← hP] at c10 r5 r6 r9
  -- the class's five numbers
  obtain ⟨v5, h5⟩ : ∃ v5 : jW, v5 = (jup (jup (jup (jup (jup v.1 89 0 x3) 89 1 x4) 89 2 x5) 89 3 x6) 89 4 x7, v.2) := ⟨_, rfl⟩
  have y5 : Yq 89 v5 v := by rw [h5]; exact ⟨fun b hb => by dsimp only; rw [jup_fn hb, jup_fn hb, jup_fn hb, jup_fn hb, jup_fn hb], rfl⟩
  have w5 : ∀ i, i < 5 → v5.1 89 i = wv x3 x4 x5 x6 x7 i := fun i hi => by
    have : i = 0 ∨ i = 1 ∨ i = 2 ∨ i = 3 ∨ i = 4 := by omega
    rw [h5]; dsimp only
    rcases this with rfl | rfl | rfl | rfl | rfl
    · rw [jup_k (by omega), jup_k (by omega), jup_k (by omega), jup_k (by omega), jup_eq]; rfl
    · rw [jup_k (by omega), jup_k (by omega), jup_k (by omega), jup_eq]; rfl
    · rw [jup_k (by omega), jup_k (by omega), jup_eq]; rfl
    · rw [jup_k (by omega), jup_eq]; rfl
    · rw [jup_eq]; rfl
  have eC : f_Count_proof (nI σ) (nI n) x3 x4 x5 x6 x7 w = Option.bind (f_Shares_prove v5) fun q7 => some (q7.1, q7.2) := by
    rw [f_Count_proof, r7, ob, if_neg one_ne, show (0 : Int32) = nI 0 from rfl, c_weigh (by omega), ob, show (1 : Int32) = nI 1 from rfl, c_weigh (by omega), ob, show (2 : Int32) = nI 2 from rfl, c_weigh (by omega), ob, show (3 : Int32) = nI 3 from rfl, c_weigh (by omega), ob, show (4 : Int32) = nI 4 from rfl, c_weigh (by omega), ob, h5]
  have hc5 : Csh v5 P := ⟨by rw [y5.1 87 (by omega)]; exact r9.1, fun j hj => by rw [y5.1 88 (by omega)]; exact r9.2 j hj⟩
  have S5 : Sq v5 w := Sq_t (Yq_Sq rfl (by omega) y5) (X88_Sq r8)
  have eP := c_pr4 (ws := wv x3 x4 x5 x6 x7) r6 hc5.1 (fun i hi => w5 i (by omega)) P.length 0 jfu 0 (by omega) (by unfold jfu; omega) (by omega)
  have mS : ∀ u : jW, u.1 94 = w.1 94 → f_Model_proof (nI σ) (nI n) x3 x4 x5 x6 x7 u = f_Model_proof_h20 jfu (nI σ) (nI n) x3 x4 x5 x6 x7 0 0 0 u := fun u hu => by
    rw [f_Model_proof, r13 u hu, ob, if_neg one_ne]
  rw [show (0 : Int32) = nI ([] : List Nat).length from rfl] at mS
  cases hps : psum (wv x3 x4 x5 x6 x7) P.length 0 0 with
  | none =>
    rw [hps] at eP
    have e5 : v5.1 94 = w.1 94 := Sq_94 S5
    rcases m_h20 (A := w.1 94) (n := n) H r14 x3 x4 x5 x6 x7 10 0 jfu 0 [] v5 (by omega) (by unfold jfu; omega) (by rw [c10]; exact r6) (by omega) e5 (fun i hi => absurd hi (Nat.not_lt_zero i)) with ⟨q1, v', q2, q3⟩ | ⟨T, v', q1, q2, q3, q4, q5⟩
    · refine Cal_s (x := -1) (w1 := v5) (w2 := v') h hK ?_ S5 ?_ (Yq_Sq rfl (by omega) q3)
      · rw [eC, f_Shares_prove]
        exact congrArg (fun z => Option.bind z fun q7 => some (q7.1, q7.2)) eP
      · rw [mS v5 e5]; exact q2
    · rw [c10, List.length_nil, hps] at q1
      exact absurd q1 (by simp)
  | some T =>
    rw [hps] at eP
    have eC2 : f_Count_proof (nI σ) (nI n) x3 x4 x5 x6 x7 w = Option.bind (f_Shares_prove_j60 (lN T) v5) fun q7 => some (q7.1, q7.2) := by
      rw [eC, f_Shares_prove]
      exact congrArg (fun z => Option.bind z fun q7 => some (q7.1, q7.2)) eP
    have key : ∀ u : jW, u.1 94 = w.1 94 → T ≤ 5000 ∧ ∃ v', Yq 101 v' u ∧ (∀ i, i < P.length → v'.1 101 i = wv x3 x4 x5 x6 x7 i * nI (P.getD i 0)) ∧ f_Model_proof (nI σ) (nI n) x3 x4 x5 x6 x7 u = if T = 0 then some (-1, v') else f_Model_proof_h145 jfu (nI σ) (nI n) (nI P.length) (nI T) 0 0 v' := fun u hu => by
      rcases m_h20 (A := w.1 94) (n := n) H r14 x3 x4 x5 x6 x7 10 0 jfu 0 [] u (by omega) (by unfold jfu; omega) (by rw [c10]; exact r6) (by omega) hu (fun i hi => absurd hi (Nat.not_lt_zero i)) with ⟨q1, v', q2, q3⟩ | ⟨T', v', q1, q2, q3, q4, q5⟩
      · rw [c10, List.length_nil, hps] at q1
        exact absurd q1 (by simp)
      · rw [c10, List.length_nil, hps] at q1
        rw [c10, List.nil_append] at q4 q5
        obtain rfl : T = T' := by simpa using q1
        exact ⟨q2, v', q3, q4, by rw [mS u hu]; exact q5⟩
    by_cases z : T = 0
    · have e5 : v5.1 94 = w.1 94 := Sq_94 S5
      obtain ⟨_, v', q3, q4, q5⟩ := key v5 e5
      rw [if_pos z] at q5
      refine Cal_s (x := -1) (w1 := v5) (w2 := v') h hK ?_ S5 q5 (Yq_Sq rfl (by omega) q3)
      rw [eC2, f_Shares_prove_j60, if_pos (by rw [z]; decide), ob]
    have hT : T ≤ 5000 := (key v5 (Sq_94 S5)).1
    obtain ⟨v6, a1, a2, a3⟩ := c_gt4 (ws := wv x3 x4 x5 x6 x7) r6 0 P.length 0 jfu v5 (by omega) (by unfold jfu; omega) hc5 (fun j hj => absurd hj (Nat.not_lt_zero j)) (fun j _ hj => w5 j (by omega))
    have a87 : v6.1 87 = v.1 87 := (a1.1 87 (by omega)).trans (y5.1 87 (by omega))
    obtain ⟨T', v7, b1, b2', b3⟩ := both_gt (n := P.length) (q := n) (nI σ) (nI T) r6 (by omega) (by omega) n 0 jfu jfu 0 v6 (by omega) (by unfold jfu; omega) (by unfold jfu; omega) (by rw [a87]; exact r9.1) (by rw [a87]; exact r10)
    have S7 : Sq v7 w := Sq_t (Yq_Sq rfl (by omega) (Yq_t b2' a1)) S5
    have e7 : v7.1 94 = w.1 94 := Sq_94 S7
    have s7 : v7.2 = v.2 := (Yq_t b2' (Yq_t a1 y5)).2
    obtain ⟨_, u1, q3, q4, q5⟩ := key v7 e7
    rw [if_neg z] at q5
    obtain ⟨u2, d1, d2⟩ := b3 u1 (fun i hi => (q4 i hi).trans (a2 i hi).symm)
    have e94' : u2.1 94 = w.1 94 := by rw [d1.1 94 (by omega), q3.1 94 (by omega)]; exact e7
    have H2 : RA w 3 (u2.1 94) c K := by rw [e94']; exact H
    obtain ⟨u3, z1, z2, z3, z4⟩ := m_valueOf (w := u2) (q := n) H2 r3 (by rw [e94', ← hP]; exact ⟨r4, r5⟩) (by rw [e94', ← hP]; exact r6)
    rw [e94'] at z3 z4
    have eG : f_Shares_greatestTogether v5 = some (T', v7) := a3.trans b1
    have eC3 : f_Count_proof (nI σ) (nI n) x3 x4 x5 x6 x7 w = if lg_cmp (T' * v.2 87 5) (v.2 87 4 * lN T) = 0 then some (0, v7) else some (1, v7) := by
      rw [eC2, f_Shares_prove_j60, if_neg (by rw [cmp_0 (by omega)]; exact z), eG, ob]
      dsimp only
      rw [s7]
      split <;> rfl
    have eM : f_Model_proof (nI σ) (nI n) x3 x4 x5 x6 x7 v7 = if lg_cmp (T' * v.2 87 5) (v.2 87 4 * lN T) = 0 then some (0, u3) else some (1, u3) := by
      rw [q5]
      refine Eq.trans d2 ?_
      rw [f_Model_proof_h145, if_neg (nI_nlt (by omega) (by omega)), z1, ob, z3, z4, r11, r12, nI_l (by omega)]
    have S3 : Sq u3 v7 := Sq_t (X93l_Sq z2) (Sq_t (Yq_Sq rfl (by omega) d1) (Yq_Sq rfl (by omega) q3))
    by_cases zz : lg_cmp (T' * v.2 87 5) (v.2 87 4 * lN T) = 0
    · rw [if_pos zz] at eC3 eM
      exact Cal_s h hK eC3 S7 eM S3
    · rw [if_neg zz] at eC3 eM
      exact Cal_s h hK eC3 S7 eM S3
end PF

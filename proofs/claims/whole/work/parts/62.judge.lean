/-! LAYER B: how acts are judged -/
section JU
variable {w v z0 : jW} {A : Nat → Int32} {c ci : Nat → Nat} {K : Nat}
def ovr (A : Nat → Int32) (c : Nat → Nat) (l d : Int32) : Bool := !decide (nI (nct A c l d (c 3)) ≤ sys A c d 0)
/-- whether one of the m told rows from the k-th on tells the move -/
def jmf (A : Nat → Int32) (t y cm last kn : Int32) : Nat → Nat → Bool
  | 0, _ => false
  | m + 1, k => (decide (A (9680 + 8 * k) = t) && (decide (A (9680 + 8 * k + 1) = y) && (decide (A (9680 + 8 * k + 2) = cm) && (decide (A (9680 + 8 * k + 3) ≤ last) && decide (A (9680 + 8 * k + 3) ≤ kn))))) || jmf A t y cm last kn m (k + 1)
def jmv (A : Nat → Int32) (c : Nat → Nat) (o : Nat) (kn : Int32) : Int32 := if jmf A (A (720 + 8 * o)) (A (720 + 8 * o + 3)) (A (720 + 8 * o + 4)) (A (720 + 8 * o + 4) + sys A c (A (720 + 8 * o + 4)) 1) kn (c 7) 0 = true then 0 else if kn ≤ A (720 + 8 * o + 4) + sys A c (A (720 + 8 * o + 4)) 1 then 3 else 2
/-- how many of the first n visits were by the same land in the same year -/
def jvn (A : Nat → Int32) (o : Nat) : Nat → Nat
  | 0 => 0
  | n + 1 => jvn A o n + if A (11280 + 12 * n) = A (11280 + 12 * o) ∧ A (11280 + 12 * n + 2) / 360 = A (11280 + 12 * o + 2) / 360 then 1 else 0
def jvs (A : Nat → Int32) (c : Nat → Nat) (o : Nat) : Int32 := if nI (jvn A o o) < sys A c (A (11280 + 12 * o + 2)) 2 then 0 else 6
def jqs (A : Nat → Int32) (c : Nat → Nat) (o : Nat) (kn : Int32) : Int32 := if A (12880 + 4 * o + 3) ≠ -1 ∧ A (12880 + 4 * o + 3) ≤ A (12880 + 4 * o + 2) + sys A c (A (12880 + 4 * o + 2)) 5 ∧ A (12880 + 4 * o + 3) ≤ kn then 0 else if kn ≤ A (12880 + 4 * o + 2) + sys A c (A (12880 + 4 * o + 2)) 5 then 3 else 7
def jdg (A : Nat → Int32) (c : Nat → Nat) (i k o : Nat) (kn : Int32) : Int32 :=
  if k = 0 then (if ovr A c (A (13080 + 8 * i + 2)) (A (13080 + 8 * i + 1)) = true then 1 else 0)
  else if k = 1 then (if ovr A c (A (13080 + 8 * i + 2)) (A (13080 + 8 * i + 1)) = true then 1 else jmv A c o kn)
  else if k = 2 then (if A (13080 + 8 * i + 4) = -1 then 0 else if A (13080 + 8 * i + 1) - A (13080 + 8 * i + 4) < sys A c (A (13080 + 8 * i + 1)) 4 then 4 else 0)
  else if k = 3 then (if mwh A (c 4) (A (9680 + 8 * o)).toNatClampNeg (A (9680 + 8 * o + 2)) = A (9680 + 8 * o + 1) then 0 else 5)
  else if k = 4 then jvs A c o
  else if k = 5 then jqs A c o kn
  else 0
def JC (v : jW) (A : Nat → Int32) (c : Nat → Nat) : Prop := v.1 86 0 = -1 ∨ v.1 86 2 = bz (ovr A c (v.1 86 0) (v.1 86 1))
theorem JC_eq {u : jW} (h : JC v A c) (e : u.1 86 = v.1 86) : JC u A c := by unfold JC at *; rw [e]; exact h
theorem c_isOver (H : RA w 3 A c K) (hJ : JC w A c) {i : Nat} (hi : i < c 11) : ∃ v, f_Judge_isOver (nI i) w = some (bz (ovr A c (A (13080 + 8 * i + 2)) (A (13080 + 8 * i + 1))), v) ∧ Sq v w ∧ JC v A c := by
  obtain ⟨k, d, o, h1, h2, h3, h4, h5, ⟨l, g1, g2, g3⟩, h7, ho, h8, q1, q2⟩ := act_un H hi
  have l0 := l_0 H
  have j38 : ∃ v, f_Judge_isOver_j38 (nI l) (nI d) w = some (bz (ovr A c (nI l) (nI d)), v) ∧ Sq v w ∧ JC v A c := by
    obtain ⟨u, hu⟩ : ∃ u : jW, u = (jup (jup w.1 86 0 (nI l)) 86 1 (nI d), w.2) := ⟨_, rfl⟩
    have un : ∀ b, b ≠ 86 → u.1 b = w.1 b := fun b q => by rw [hu]; dsimp only; rw [jup_fn q, jup_fn q]
    have u0 : u.1 86 0 = nI l := by rw [hu]; dsimp only; rw [jup_k (by omega)]; exact jup_eq
    have u1 : u.1 86 1 = nI d := by rw [hu]; dsimp only; exact jup_eq
    have Gu : RA u 3 A c K := RA_fr H (fun b _ _ _ => un b (by omega))
    obtain ⟨v1, e1, e2⟩ := c_nct (d := nI d) (land := nI l) Gu
    have Gv : RA v1 3 A c K := RA_fr Gu (fun b _ _ q => e2 b q)
    have v86 : v1.1 86 = u.1 86 := e2 86 (by omega)
    have et : f_Treaty_tells 0 (nI d) v1 = some (sys A c (nI d) 0, v1) := c_tells (wh := 0) Gv (by omega)
    have Sv : ∀ x : Int32, Sq (jup v1.1 86 2 x, v1.2) w := fun x => ⟨fun b q => by
      have b86 : b ≠ 86 := fun z => by rw [z] at q; exact absurd q (by decide)
      have b23 : b ≠ 23 := fun z => by rw [z] at q; exact absurd q (by decide)
      dsimp only
      rw [jup_fn b86, e2 b b23, un b b86], fun j _ => by
      dsimp only
      rw [jup_ne (by omega), e2 93 (by omega), un 93 (by omega)]⟩
    have fin : ∀ x : Int32, x = bz (ovr A c (nI l) (nI d)) → JC (jup v1.1 86 2 x, v1.2) A c := fun x hx => by
      refine Or.inr ?_
      show jup v1.1 86 2 x 86 2 = bz (ovr A c (jup v1.1 86 2 x 86 0) (jup v1.1 86 2 x 86 1))
      rw [jup_eq, jup_k (by omega), jup_k (by omega), v86, u0, u1, hx]
    rw [f_Judge_isOver_j38, jlw_e, jlw_e, ← hu, u0, u1, e1, ob]
    dsimp only
    rw [v86, u1, et, ob]
    dsimp only
    by_cases q : nI (nct A c (nI l) (nI d) (c 3)) ≤ sys A c (nI d) 0
    · have e : bz (ovr A c (nI l) (nI d)) = 0 := by unfold ovr; rw [decide_eq_true q]; rfl
      rw [if_pos q, if_pos (by decide), jlw_e]
      dsimp only
      simp only [jup_eq]
      rw [if_pos (show jbo 0 = true by decide)]
      exact ⟨_, by rw [e], Sv 0, fin 0 e.symm⟩
    · have e : bz (ovr A c (nI l) (nI d)) = 1 := by unfold ovr; rw [decide_eq_false q]; rfl
      rw [if_neg q, if_pos (by decide), jlw_e]
      dsimp only
      simp only [jup_eq]
      rw [if_pos (show jbo 1 = true by decide)]
      exact ⟨_, by rw [e], Sv 1, fin 1 e.symm⟩
  rw [f_Judge_isOver, a_ac2 H hi, ob]
  dsimp only
  rw [a_ac1 H hi, ob]
  dsimp only
  rw [g1, h2]
  by_cases q3 : nI l = w.1 86 0
  · rw [if_pos q3]
    by_cases q4 : nI d = w.1 86 1
    · have e := hJ.resolve_left (by rw [← q3]; exact nI_ne_m1 (by omega))
      rw [← q3, ← q4] at e
      rw [if_pos q4, e, if_pos bz_bo]
      exact ⟨w, rfl, Sq_r, hJ⟩
    · rw [if_neg q4]; exact j38
  · rw [if_neg q3]; exact j38
theorem c_jmv_h (H : RA w 3 A c K) {o : Nat} {kn last : Int32} (ho : o < c 4) : ∀ (m k f : Nat), k + m = c 7 → m < f → f_Judge_judgeMove_h39 f (nI o) kn (A (720 + 8 * o)) (A (720 + 8 * o + 4)) last (nI k) w = some (if jmf A (A (720 + 8 * o)) (A (720 + 8 * o + 3)) (A (720 + 8 * o + 4)) last kn m k = true then 0 else if kn ≤ last then 3 else 2, w) := by
  have l7 := l_7 H
  intro m
  induction m with
  | zero =>
    intro k f hk hf
    obtain ⟨f, rfl⟩ : ∃ j, f = j + 1 := ⟨f - 1, by omega⟩
    rw [f_Judge_judgeMove_h39, n_to H, ob]
    dsimp only
    rw [if_neg (nI_nlt (by omega) (by omega)), jmf, if_neg (show ¬ (false = true) by decide)]
    split <;> rfl
  | succ m ih =>
    intro k f hk hf
    obtain ⟨f, rfl⟩ : ∃ j, f = j + 1 := ⟨f - 1, by omega⟩
    have ih' := ih (k + 1) f (by omega) (by omega)
    rw [f_Judge_judgeMove_h39, n_to H, ob]
    dsimp only
    rw [if_pos (nI_lt (by omega) (by omega)), a_to3 H (by omega), ob]
    dsimp only
    rw [a_to0 H (by omega), ob, jmf]
    dsimp only
    rw [ip_1]
    by_cases q1 : A (9680 + 8 * k) = A (720 + 8 * o)
    rotate_left
    · rw [if_neg q1, decide_eq_false q1, Bool.false_and, Bool.false_or]; exact ih'
    rw [if_pos q1, a_to1 H (by omega), ob]
    dsimp only
    rw [a_mv2 H ho, ob]
    dsimp only
    by_cases q2 : A (9680 + 8 * k + 1) = A (720 + 8 * o + 3)
    rotate_left
    · rw [if_neg q2, decide_eq_false q2, Bool.false_and, Bool.and_false, Bool.false_or]; exact ih'
    rw [if_pos q2, a_to2 H (by omega), ob]
    dsimp only
    by_cases q3 : A (9680 + 8 * k + 2) = A (720 + 8 * o + 4)
    rotate_left
    · rw [if_neg q3, decide_eq_false q3, Bool.false_and, Bool.and_false, Bool.and_false, Bool.false_or]; exact ih'
    rw [if_pos q3]
    by_cases q4 : A (9680 + 8 * k + 3) ≤ last
    rotate_left
    · rw [if_neg q4, decide_eq_false q4, Bool.false_and, Bool.and_false, Bool.and_false, Bool.and_false, Bool.false_or]; exact ih'
    rw [if_pos q4]
    by_cases q5 : A (9680 + 8 * k + 3) ≤ kn
    rotate_left
    · rw [if_neg q5, decide_eq_false q5, Bool.and_false, Bool.and_false, Bool.and_false, Bool.and_false, Bool.false_or]; exact ih'
    rw [if_pos q5, decide_eq_true q1, decide_eq_true q2, decide_eq_true q3, decide_eq_true q4, decide_eq_true q5]
    rfl
theorem c_jmv (H : RA w 3 A c K) {o : Nat} {kn : Int32} (ho : o < c 4) : f_Judge_judgeMove (nI o) kn w = some (jmv A c o kn, w) := by
  have et : ∀ d, f_Treaty_tells 1 d w = some (sys A c d 1, w) := fun d => c_tells (wh := 1) H (by omega)
  rw [f_Judge_judgeMove, a_mv0 H ho, ob]
  dsimp only
  rw [a_mv4 H ho, ob]
  dsimp only
  rw [et, ob]
  exact c_jmv_h H ho (c 7) 0 jfu (by omega) (by have := l_7 H; unfold jfu; omega)
theorem m_jmv_h (H : RA z0 3 (w.1 94) c K) {o : Nat} {kn last : Int32} (ho : o < c 4) : ∀ (m k f : Nat), k + m = c 7 → m < f → f_Model_judgedMove_h20 f (nI o) kn (w.1 94 (720 + 8 * o + 4)) last (nI k) w = some (if jmf (w.1 94) (w.1 94 (720 + 8 * o)) (w.1 94 (720 + 8 * o + 3)) (w.1 94 (720 + 8 * o + 4)) last kn m k = true then 0 else if kn ≤ last then 3 else 2, w) := by
  have l7 := l_7 H
  have l4 := l_4 H
  intro m
  induction m with
  | zero =>
    intro k f hk hf
    obtain ⟨f, rfl⟩ : ∃ j, f = j + 1 := ⟨f - 1, by omega⟩
    rw [f_Model_judgedMove_h20, if_pos (by decide), jk_7, h_7 H, if_neg (nI_nlt (by omega) (by omega)), jmf, if_neg (show ¬ (false = true) by decide)]
    split <;> rfl
  | succ m ih =>
    intro k f hk hf
    obtain ⟨f, rfl⟩ : ∃ j, f = j + 1 := ⟨f - 1, by omega⟩
    have ih' := ih (k + 1) f (by omega) (by omega)
    have i0 : (9680 + 8 * nI k : Int32) = nI (9680 + 8 * k) := by rw [im_8, ia_9680]
    rw [f_Model_judgedMove_h20, if_pos (by decide), jk_7, h_7 H, if_pos (nI_lt (by omega) (by omega)), i0, mm_0 (by omega), ob]
    simp (disch := omega) only [ia_1, ia_2, ia_3, ia_4, ia_5, ia_6, ia_7, ia_8, ia_9, ia_20, ia_40, ia_120, ia_140, ia_240, ia_720, ia_1520, ia_1680, ia_9680, ia_11280, ia_12480, ia_12880, ia_13080, ia_20760, ia_20880, ip_0, ip_1, ip_2, ip_3, ip_4, ip_5, ip_6, ip_7, ip_8, ip_9, ip_140, im_2, im_4, im_8, im_12, im_800, nI_clamp, jin_nI, jal_c, jal_n, Bool.and_true, if_true, ob, jlw_e, jk_0, jk_1, jk_2, jk_3, jk_4, jk_5, jk_6, jk_7, jk_8, jk_9, jk_10, jk_11, jk_12, jk_13, jk_14, jk_15, jk_16, jk_17, jk_18, jk_19, jg_0, jg_1, jg_2, jg_3, jg_4, jg_5, jg_6, jg_7, jg_8, jg_9, jg_10, jg_11, jg_12, jg_13, jg_14, jg_15, jg_16, jg_17, jg_18, jg_19, ↓reduceIte]
    rw [jmf]
    by_cases q1 : w.1 94 (9680 + 8 * k) = w.1 94 (720 + 8 * o)
    rotate_left
    · rw [if_neg q1, decide_eq_false q1, Bool.false_and, Bool.false_or]; exact ih'
    rw [if_pos q1, mm_3 (by omega), ob]
    dsimp only
    by_cases q2 : w.1 94 (9680 + 8 * k + 1) = w.1 94 (720 + 8 * o + 3)
    rotate_left
    · rw [if_neg q2, decide_eq_false q2, Bool.false_and, Bool.and_false, Bool.false_or]; exact ih'
    rw [if_pos q2]
    by_cases q3 : w.1 94 (9680 + 8 * k + 2) = w.1 94 (720 + 8 * o + 4)
    rotate_left
    · rw [if_neg q3, decide_eq_false q3, Bool.false_and, Bool.and_false, Bool.and_false, Bool.false_or]; exact ih'
    rw [if_pos q3]
    by_cases q4 : w.1 94 (9680 + 8 * k + 3) ≤ last
    rotate_left
    · rw [if_neg q4, decide_eq_false q4, Bool.false_and, Bool.and_false, Bool.and_false, Bool.and_false, Bool.false_or]; exact ih'
    rw [if_pos q4]
    by_cases q5 : w.1 94 (9680 + 8 * k + 3) ≤ kn
    rotate_left
    · rw [if_neg q5, decide_eq_false q5, Bool.and_false, Bool.and_false, Bool.and_false, Bool.and_false, Bool.false_or]; exact ih'
    rw [if_pos q5, decide_eq_true q1, decide_eq_true q2, decide_eq_true q3, decide_eq_true q4, decide_eq_true q5]
    rfl
theorem m_jmv (H : RA z0 3 (w.1 94) c K) {o : Nat} {kn : Int32} (ho : o < c 4) : f_Model_judgedMove (nI o) kn w = some (jmv (w.1 94) c o kn, w) := by
  have l4 := l_4 H
  have et : ∀ d, f_Model_saysOf d 1 w = some (sys (w.1 94) c d 1, w) := fun d => m_says (wh := 1) H (by omega)
  rw [f_Model_judgedMove, mm_4 (by omega), ob]
  dsimp only
  rw [et, ob]
  exact m_jmv_h H ho (c 7) 0 jfu (by omega) (by have := l_7 H; unfold jfu; omega)
theorem jvn_le {o : Nat} : ∀ n, jvn A o n ≤ n := by
  intro n
  induction n with
  | zero => exact Nat.le_refl _
  | succ n ih => rw [jvn]; split <;> omega
theorem c_jvs_h (H : RA w 3 A c K) {o : Nat} (ho : o < c 8) : ∀ (m k f : Nat), k + m = o → m < f → f_Judge_isTooMany_h16 f (nI o) (A (11280 + 12 * o + 2)) (nI (jvn A o k)) (nI k) w = some (if nI (jvn A o o) < sys A c (A (11280 + 12 * o + 2)) 2 then 0 else 1, w) := by
  have l8 := l_8 H
  have et : ∀ d, f_Treaty_tells 2 d w = some (sys A c d 2, w) := fun d => c_tells (wh := 2) H (by omega)
  intro m
  induction m with
  | zero =>
    intro k f hk hf
    obtain ⟨f, rfl⟩ : ∃ j, f = j + 1 := ⟨f - 1, by omega⟩
    have ek : k = o := by omega
    subst ek
    rw [f_Judge_isTooMany_h16, if_neg (nI_nlt (by omega) (by omega)), et, ob]
    split <;> rfl
  | succ m ih =>
    intro k f hk hf
    obtain ⟨f, rfl⟩ : ∃ j, f = j + 1 := ⟨f - 1, by omega⟩
    have ih' := ih (k + 1) f (by omega) (by omega)
    rw [jvn] at ih'
    rw [f_Judge_isTooMany_h16, if_pos (nI_lt (by omega) (by omega)), a_vi7 H (by omega), ob]
    dsimp only
    rw [a_vi7 H ho, ob]
    dsimp only
    rw [ip_1, ip_1]
    by_cases q1 : A (11280 + 12 * k) = A (11280 + 12 * o)
    · rw [if_pos q1, a_vi6 H (by omega), ob]
      dsimp only
      rw [if_pos (by decide)]
      by_cases q2 : A (11280 + 12 * k + 2) / 360 = A (11280 + 12 * o + 2) / 360
      · rw [if_pos ⟨q1, q2⟩] at ih'
        rw [if_pos q2]; exact ih'
      · rw [if_neg (fun z => q2 z.2)] at ih'
        rw [if_neg q2]; exact ih'
    · rw [if_neg (fun z => q1 z.1)] at ih'
      rw [if_neg q1]; exact ih'
theorem m_jvs_h (H : RA z0 3 (w.1 94) c K) {o : Nat} (ho : o < c 8) : ∀ (m k f : Nat), k + m = o → m < f → f_Model_judgedVisit_h14 f (nI o) (nI (11280 + 12 * o)) (nI (jvn (w.1 94) o k)) (nI k) w = some (jvs (w.1 94) c o, w) := by
  have l8 := l_8 H
  have et : ∀ d, f_Model_saysOf d 2 w = some (sys (w.1 94) c d 2, w) := fun d => m_says (wh := 2) H (by omega)
  intro m
  induction m with
  | zero =>
    intro k f hk hf
    obtain ⟨f, rfl⟩ : ∃ j, f = j + 1 := ⟨f - 1, by omega⟩
    have ek : k = o := by omega
    subst ek
    rw [f_Model_judgedVisit_h14, if_neg (nI_nlt (by omega) (by omega)), ip_2, jal_c, jin_nI (by omega) (by omega), if_pos (show (true && jal []) = true from rfl), nI_clamp (by omega), et, ob, jvs]
    split <;> rfl
  | succ m ih =>
    intro k f hk hf
    obtain ⟨f, rfl⟩ : ∃ j, f = j + 1 := ⟨f - 1, by omega⟩
    have ih' := ih (k + 1) f (by omega) (by omega)
    rw [jvn] at ih'
    have i0 : (11280 + 12 * nI k : Int32) = nI (11280 + 12 * k) := by rw [im_12, ia_11280]
    have z : (!((360 : Nat) == 0)) = true := by decide
    rw [f_Model_judgedVisit_h14, if_pos (nI_lt (by omega) (by omega)), i0, ip_2, ip_2, z]
    simp (disch := omega) only [ia_1, ia_2, ia_3, ia_4, ia_5, ia_6, ia_7, ia_8, ia_9, ia_20, ia_40, ia_120, ia_140, ia_240, ia_720, ia_1520, ia_1680, ia_9680, ia_11280, ia_12480, ia_12880, ia_13080, ia_20760, ia_20880, ip_0, ip_1, ip_2, ip_3, ip_4, ip_5, ip_6, ip_7, ip_8, ip_9, ip_140, im_2, im_4, im_8, im_12, im_800, nI_clamp, jin_nI, jal_c, jal_n, Bool.and_true, if_true, ob, jlw_e, jk_0, jk_1, jk_2, jk_3, jk_4, jk_5, jk_6, jk_7, jk_8, jk_9, jk_10, jk_11, jk_12, jk_13, jk_14, jk_15, jk_16, jk_17, jk_18, jk_19, jg_0, jg_1, jg_2, jg_3, jg_4, jg_5, jg_6, jg_7, jg_8, jg_9, jg_10, jg_11, jg_12, jg_13, jg_14, jg_15, jg_16, jg_17, jg_18, jg_19, ↓reduceIte]
    by_cases q1 : w.1 94 (11280 + 12 * k) = w.1 94 (11280 + 12 * o)
    · rw [if_pos q1]
      by_cases q2 : w.1 94 (11280 + 12 * k + 2) / 360 = w.1 94 (11280 + 12 * o + 2) / 360
      · rw [if_pos ⟨q1, q2⟩] at ih'
        rw [if_pos q2]; exact ih'
      · rw [if_neg (fun z => q2 z.2)] at ih'
        rw [if_neg q2]; exact ih'
    · rw [if_neg (fun z => q1 z.1)] at ih'
      rw [if_neg q1]; exact ih'
theorem c_judge (H : RA w 3 A c K) (hJ : JC w A c) {i k o : Nat} {kn : Int32} (hi : i < c 11) (hk : A (13080 + 8 * i) = nI k) (ho : A (13080 + 8 * i + 3) = nI o) (hk6 : k ≤ 6) (hoc : o < kof k c) : ∃ v, f_Judge_judge (nI i) kn w = some (jdg A c i k o kn, v) ∧ Sq v w ∧ JC v A c := by
  have l3 := l_3 H
  have l4 := l_4 H
  have l7 := l_7 H
  have l8 := l_8 H
  have l10 := l_10 H
  have l11 := l_11 H
  have o200 : o < 200 := by
    unfold kof at hoc
    repeat' split at hoc
    all_goals omega
  obtain ⟨r3, r4⟩ := p_Ract2 H i k o hi hk hk6 ho (by omega)
  have e4 : f_Rows_at 32 (nI i) 4 w = some (if k = 2 then A (13080 + 8 * i + 4) else nI o, w) := (a_ac4 H hi).trans (congrArg (fun z => some (z, w)) r4)
  have et : ∀ d, f_Treaty_tells 4 d w = some (sys A c d 4, w) := fun d => c_tells (wh := 4) H (by omega)
  have et5 : ∀ d, f_Treaty_tells 5 d w = some (sys A c d 5, w) := fun d => c_tells (wh := 5) H (by omega)
  rw [f_Judge_judge, e4, ob]
  dsimp only
  rw [a_ac0 H hi, ob]
  dsimp only
  rw [hk]
  unfold jdg
  rcases (show k = 0 ∨ k = 1 ∨ k = 2 ∨ k = 3 ∨ k = 4 ∨ k = 5 ∨ k = 6 by omega) with q | q | q | q | q | q | q <;> subst q
  · obtain ⟨v, e1, e2, e3⟩ := c_isOver H hJ hi
    refine ⟨v, ?_, e2, e3⟩
    rw [if_pos (show nI 0 = 0 from rfl), e1, ob, if_pos rfl]
    dsimp only
    cases ovr A c (A (13080 + 8 * i + 2)) (A (13080 + 8 * i + 1)) <;> rfl
  · obtain ⟨v, e1, e2, e3⟩ := c_isOver H hJ hi
    refine ⟨v, ?_, e2, e3⟩
    have hoc' : o < c 4 := hoc
    rw [if_neg (show ¬ nI 1 = 0 by decide), if_pos (show nI 1 = 1 from rfl), e1, ob, if_neg (show ¬ (1 = 0) by decide), if_pos rfl, if_neg (show ¬ (1 = 2) by decide), c_jmv (Sq_RA e2 H) hoc', ob]
    dsimp only
    cases ovr A c (A (13080 + 8 * i + 2)) (A (13080 + 8 * i + 1)) with
    | false => rw [bz_f, if_pos rfl, if_neg (by decide)]
    | true => rw [bz_t, if_neg one_ne, if_pos rfl]
  · refine ⟨w, ?_, Sq_r, hJ⟩
    rw [if_neg (show ¬ nI 2 = 0 by decide), if_neg (show ¬ nI 2 = 1 by decide), if_pos (show nI 2 = 2 from rfl), if_neg (show ¬ (2 = 0) by decide), if_neg (show ¬ (2 = 1) by decide), if_pos rfl, f_Judge_isHasty, a_ac1 H hi, ob]
    dsimp only
    rw [e4, ob, if_pos rfl]
    dsimp only
    by_cases z : A (13080 + 8 * i + 4) = -1
    · rw [if_pos z, if_pos z, ob, if_pos rfl]
    · rw [if_neg z, if_neg z, et, ob]
      dsimp only
      by_cases z2 : A (13080 + 8 * i + 1) - A (13080 + 8 * i + 4) < sys A c (A (13080 + 8 * i + 1)) 4
      · rw [if_pos z2, if_pos z2, ob, if_neg one_ne]
      · rw [if_neg z2, if_neg z2, ob, if_pos rfl]
  · refine ⟨w, ?_, Sq_r, hJ⟩
    have hoc' : o < c 7 := hoc
    obtain ⟨t, p, f, d, t1, t2, t3, t4, t5, t6, t7, t8⟩ := p_Itold H o hoc'
    rw [if_neg (show ¬ nI 3 = 0 by decide), if_neg (show ¬ nI 3 = 1 by decide), if_neg (show ¬ nI 3 = 2 by decide), if_pos (show nI 3 = 3 from rfl), if_neg (show ¬ (3 = 0) by decide), if_neg (show ¬ (3 = 1) by decide), if_neg (show ¬ (3 = 2) by decide), if_neg (show ¬ (3 = 2) by decide), if_pos rfl, f_Judge_isWrong, a_to0 H hoc', ob]
    dsimp only
    rw [a_to2 H hoc', ob]
    dsimp only
    rw [t1, nI_clamp (by omega), c_pl H t5, ob]
    dsimp only
    rw [a_to1 H hoc', ob]
    dsimp only
    by_cases z : mwh A (c 4) t (A (9680 + 8 * o + 2)) = A (9680 + 8 * o + 1)
    · rw [if_pos z, if_pos z, ob, if_pos rfl]
    · rw [if_neg z, if_neg z, ob, if_neg one_ne]
  · refine ⟨w, ?_, Sq_r, hJ⟩
    have hoc' : o < c 8 := hoc
    have k := c_jvs_h H hoc' o 0 jfu (by omega) (by unfold jfu; omega)
    have k' : f_Judge_isTooMany_h16 jfu (nI o) (A (11280 + 12 * o + 2)) 0 0 w = _ := k
    rw [if_neg (show ¬ nI 4 = 0 by decide), if_neg (show ¬ nI 4 = 1 by decide), if_neg (show ¬ nI 4 = 2 by decide), if_neg (show ¬ nI 4 = 3 by decide), if_pos (show nI 4 = 4 from rfl), if_neg (show ¬ (4 = 2) by decide), if_neg (show ¬ (4 = 0) by decide), if_neg (show ¬ (4 = 1) by decide), if_neg (show ¬ (4 = 2) by decide), if_neg (show ¬ (4 = 3) by decide), if_pos rfl, f_Judge_isTooMany, a_vi6 H hoc', ob]
    dsimp only
    rw [k', ob, jvs]
    dsimp only
    by_cases z : nI (jvn A o o) < sys A c (A (11280 + 12 * o + 2)) 2
    · rw [if_pos z, if_pos z, if_pos rfl]
    · rw [if_neg z, if_neg z, if_neg one_ne]
  · refine ⟨w, ?_, Sq_r, hJ⟩
    have hoc' : o < c 10 := hoc
    have j55 : ∀ last : Int32, f_Judge_judgeQuestion_j55 kn last w = some (if kn ≤ last then 3 else 7, w) := fun last => by
      rw [f_Judge_judgeQuestion_j55]; split <;> rfl
    have jN : ¬ (A (12880 + 4 * o + 3) ≠ -1 ∧ A (12880 + 4 * o + 3) ≤ A (12880 + 4 * o + 2) + sys A c (A (12880 + 4 * o + 2)) 5 ∧ A (12880 + 4 * o + 3) ≤ kn) → jqs A c o kn = (if kn ≤ A (12880 + 4 * o + 2) + sys A c (A (12880 + 4 * o + 2)) 5 then 3 else 7) := fun q => by rw [jqs, if_neg q]
    have jP : (A (12880 + 4 * o + 3) ≠ -1 ∧ A (12880 + 4 * o + 3) ≤ A (12880 + 4 * o + 2) + sys A c (A (12880 + 4 * o + 2)) 5 ∧ A (12880 + 4 * o + 3) ≤ kn) → jqs A c o kn = 0 := fun q => by rw [jqs, if_pos q]
    rw [if_neg (show ¬ nI 5 = 0 by decide), if_neg (show ¬ nI 5 = 1 by decide), if_neg (show ¬ nI 5 = 2 by decide), if_neg (show ¬ nI 5 = 3 by decide), if_neg (show ¬ nI 5 = 4 by decide), if_pos (show nI 5 = 5 from rfl), if_neg (show ¬ (5 = 2) by decide), if_neg (show ¬ (5 = 0) by decide), if_neg (show ¬ (5 = 1) by decide), if_neg (show ¬ (5 = 2) by decide), if_neg (show ¬ (5 = 3) by decide), if_neg (show ¬ (5 = 4) by decide), if_pos rfl, f_Judge_judgeQuestion, a_qu1 H hoc', ob]
    dsimp only
    rw [et5, ob]
    dsimp only
    rw [a_qu2 H hoc', ob]
    dsimp only
    rw [j55]
    by_cases z1 : A (12880 + 4 * o + 3) = -1
    · rw [if_pos z1, ob, jN (fun z => z.1 z1)]
    · rw [if_neg z1]
      by_cases z2 : A (12880 + 4 * o + 3) ≤ A (12880 + 4 * o + 2) + sys A c (A (12880 + 4 * o + 2)) 5
      · rw [if_pos z2]
        by_cases z3 : A (12880 + 4 * o + 3) ≤ kn
        · rw [if_pos z3, ob, jP ⟨z1, z2, z3⟩]
        · rw [if_neg z3, ob, jN (fun z => z3 z.2.2)]
      · rw [if_neg z2, ob, jN (fun z => z2 z.2.1)]
  · exact ⟨w, rfl, Sq_r, hJ⟩
theorem m_judge (H : RA z0 3 (w.1 94) c K) {i k o : Nat} {kn : Int32} (hi : i < c 11) (hk : w.1 94 (13080 + 8 * i) = nI k) (ho : w.1 94 (13080 + 8 * i + 3) = nI o) (hk6 : k ≤ 6) (hoc : o < kof k c) : ∃ v, f_Model_judgedOf (nI i) kn w = some (jdg (w.1 94) c i k o kn, v) ∧ X9 v w := by
  have l3 := l_3 H
  have l4 := l_4 H
  have l7 := l_7 H
  have l8 := l_8 H
  have l10 := l_10 H
  have l11 := l_11 H
  have o200 : o < 200 := by
    unfold kof at hoc
    repeat' split at hoc
    all_goals omega
  obtain ⟨k', d', o', g1, g2, g3, g4, g5, g6, g7, g8, g9⟩ := p_Iact H i hi
  have ek : k' = k := (nI_eq (by omega) (by omega)).mp (g1.symm.trans hk)
  subst ek
  have et : ∀ d, f_Model_saysOf d 4 w = some (sys (w.1 94) c d 4, w) := fun d => m_says (wh := 4) H (by omega)
  have et5 : ∀ d, f_Model_saysOf d 5 w = some (sys (w.1 94) c d 5, w) := fun d => m_says (wh := 5) H (by omega)
  have i0 : (13080 + 8 * nI i : Int32) = nI (13080 + 8 * i) := by rw [im_8, ia_13080]
  have cnt : ∃ v, f_Model_countedOf (w.1 94 (13080 + 8 * i + 2)) (w.1 94 (13080 + 8 * i + 1)) w = some (nI (nct (w.1 94) c (w.1 94 (13080 + 8 * i + 2)) (w.1 94 (13080 + 8 * i + 1)) (c 3)), v) ∧ X9 v w := m_counted H
  have lim : ∀ v, X9 v w → f_Model_limitOf (w.1 94 (13080 + 8 * i + 1)) v = some (sys (w.1 94) c (w.1 94 (13080 + 8 * i + 1)) 0, v) := fun v hv => by
    have e : v.1 94 = w.1 94 := hv 94 (by omega) (by omega)
    have := m_limit (w := v) (d := w.1 94 (13080 + 8 * i + 1)) (c := c) (K := K) (z0 := z0) (by rw [e]; exact H)
    rw [e] at this
    exact this
  rw [f_Model_judgedOf, i0]
  simp (disch := omega) only [ip_1, ip_2, ip_3, ip_4, jin_nI, nI_clamp, jal_c, jal_n, Bool.and_true, ↓reduceIte, hk, ho]
  unfold jdg
  rcases (show k' = 0 ∨ k' = 1 ∨ k' = 2 ∨ k' = 3 ∨ k' = 4 ∨ k' = 5 ∨ k' = 6 by omega) with q | q | q | q | q | q | q <;> subst q
  · obtain ⟨v, e1, e2⟩ := cnt
    refine ⟨v, ?_, e2⟩
    rw [if_pos (show nI 0 = 0 from rfl), e1, ob]
    dsimp only
    rw [lim v e2, ob, if_pos rfl, ovr]
    dsimp only
    by_cases z : nI (nct (w.1 94) c (w.1 94 (13080 + 8 * i + 2)) (w.1 94 (13080 + 8 * i + 1)) (c 3)) ≤ sys (w.1 94) c (w.1 94 (13080 + 8 * i + 1)) 0
    · rw [if_pos z, decide_eq_true z]; rfl
    · rw [if_neg z, decide_eq_false z]; rfl
  · obtain ⟨v, e1, e2⟩ := cnt
    have hoc' : o < c 4 := hoc
    have ev : v.1 94 = w.1 94 := e2 94 (by omega) (by omega)
    have em := m_jmv (w := v) (kn := kn) (o := o) (c := c) (K := K) (z0 := z0) (by rw [ev]; exact H) hoc'
    rw [ev] at em
    refine ⟨v, ?_, e2⟩
    rw [if_neg (show ¬ nI 1 = 0 by decide), if_pos (show nI 1 = 1 from rfl), e1, ob]
    dsimp only
    rw [lim v e2, ob, if_neg (show ¬ (1 = 0) by decide), if_pos rfl, ovr]
    dsimp only
    by_cases z : nI (nct (w.1 94) c (w.1 94 (13080 + 8 * i + 2)) (w.1 94 (13080 + 8 * i + 1)) (c 3)) ≤ sys (w.1 94) c (w.1 94 (13080 + 8 * i + 1)) 0
    · rw [if_pos z, decide_eq_true z, em, ob]; rfl
    · rw [if_neg z, decide_eq_false z]; rfl
  · refine ⟨w, ?_, fun _ _ _ => rfl⟩
    rw [if_neg (show ¬ nI 2 = 0 by decide), if_neg (show ¬ nI 2 = 1 by decide), if_pos (show nI 2 = 2 from rfl), if_neg (show ¬ (2 = 0) by decide), if_neg (show ¬ (2 = 1) by decide), if_pos rfl]
    rcases g8 rfl with z | ⟨n, n1, n2, n3⟩
    · rw [z, if_pos (by decide), if_pos rfl]
    · rw [n1, if_neg (nI_pos (by have := l_0 H; omega)), if_neg (nI_ne_m1 (by have := l_0 H; omega)), et, ob]
      dsimp only
      split <;> rfl
  · refine ⟨w, ?_, fun _ _ _ => rfl⟩
    have hoc' : o < c 7 := hoc
    obtain ⟨t, p, f, d, t1, t2, t3, t4, t5, t6, t7, t8⟩ := p_Itold H o hoc'
    have j0 : (9680 + 8 * nI o : Int32) = nI (9680 + 8 * o) := by rw [im_8, ia_9680]
    rw [if_neg (show ¬ nI 3 = 0 by decide), if_neg (show ¬ nI 3 = 1 by decide), if_neg (show ¬ nI 3 = 2 by decide), if_pos (show nI 3 = 3 from rfl), if_neg (show ¬ (3 = 0) by decide), if_neg (show ¬ (3 = 1) by decide), if_neg (show ¬ (3 = 2) by decide), if_pos rfl, j0]
    simp (disch := omega) only [ip_1, ip_2, jin_nI, nI_clamp, jal_c, jal_n, Bool.and_true, ↓reduceIte, t1]
    rw [m_pl H t5, ob]
    dsimp only
    split <;> rfl
  · refine ⟨w, ?_, fun _ _ _ => rfl⟩
    have hoc' : o < c 8 := hoc
    have k := m_jvs_h H hoc' o 0 jfu (by omega) (by unfold jfu; omega)
    have j0 : (11280 + 12 * nI o : Int32) = nI (11280 + 12 * o) := by rw [im_12, ia_11280]
    have k' : f_Model_judgedVisit_h14 jfu (nI o) (nI (11280 + 12 * o)) 0 0 w = _ := k
    rw [if_neg (show ¬ nI 4 = 0 by decide), if_neg (show ¬ nI 4 = 1 by decide), if_neg (show ¬ nI 4 = 2 by decide), if_neg (show ¬ nI 4 = 3 by decide), if_pos (show nI 4 = 4 from rfl), f_Model_judgedVisit, j0, k', ob]
    rfl
  · refine ⟨w, ?_, fun _ _ _ => rfl⟩
    have hoc' : o < c 10 := hoc
    obtain ⟨lq, sq, dq, y1, y2, y3, y4, y5, y6, y7, y8⟩ := p_Ique H o hoc'
    have j0 : (12880 + 4 * nI o : Int32) = nI (12880 + 4 * o) := by rw [im_4, ia_12880]
    have j70 : ∀ last : Int32, f_Model_judgedQuestion_j70 kn last w = some (if kn ≤ last then 3 else 7, w) := fun last => by
      rw [f_Model_judgedQuestion_j70]; split <;> rfl
    have l0 := l_0 H
    have jN : ¬ (w.1 94 (12880 + 4 * o + 3) ≠ -1 ∧ w.1 94 (12880 + 4 * o + 3) ≤ w.1 94 (12880 + 4 * o + 2) + sys (w.1 94) c (w.1 94 (12880 + 4 * o + 2)) 5 ∧ w.1 94 (12880 + 4 * o + 3) ≤ kn) → jqs (w.1 94) c o kn = (if kn ≤ w.1 94 (12880 + 4 * o + 2) + sys (w.1 94) c (w.1 94 (12880 + 4 * o + 2)) 5 then 3 else 7) := fun q => by rw [jqs, if_neg q]
    have jP : (w.1 94 (12880 + 4 * o + 3) ≠ -1 ∧ w.1 94 (12880 + 4 * o + 3) ≤ w.1 94 (12880 + 4 * o + 2) + sys (w.1 94) c (w.1 94 (12880 + 4 * o + 2)) 5 ∧ w.1 94 (12880 + 4 * o + 3) ≤ kn) → jqs (w.1 94) c o kn = 0 := fun q => by rw [jqs, if_pos q]
    rw [if_neg (show ¬ nI 5 = 0 by decide), if_neg (show ¬ nI 5 = 1 by decide), if_neg (show ¬ nI 5 = 2 by decide), if_neg (show ¬ nI 5 = 3 by decide), if_neg (show ¬ nI 5 = 4 by decide), if_pos (show nI 5 = 5 from rfl), if_neg (show ¬ (5 = 0) by decide), if_neg (show ¬ (5 = 1) by decide), if_neg (show ¬ (5 = 2) by decide), if_neg (show ¬ (5 = 3) by decide), if_neg (show ¬ (5 = 4) by decide), if_pos rfl, f_Model_judgedQuestion, j0]
    simp (disch := omega) only [ip_2, ip_3, jin_nI, nI_clamp, jal_c, jal_n, Bool.and_true, ↓reduceIte, et5, ob, j70]
    rcases y8 with z | ⟨n, n1, n2, n3⟩
    · rw [jN (fun q => q.1 z), z, if_pos (by decide)]; rfl
    · rw [n1, if_neg (nI_pos (by omega))]
      rw [n1] at jN jP
      by_cases z2 : nI n ≤ w.1 94 (12880 + 4 * o + 2) + sys (w.1 94) c (w.1 94 (12880 + 4 * o + 2)) 5
      · rw [if_pos z2]
        by_cases z3 : nI n ≤ kn
        · rw [if_pos z3, jP ⟨nI_ne_m1 (by omega), z2, z3⟩]; rfl
        · rw [if_neg z3, jN (fun z => z3 z.2.2)]; rfl
      · rw [if_neg z2, jN (fun z => z2 z.2.1)]; rfl
  · refine ⟨w, ?_, fun _ _ _ => rfl⟩
    rfl
end JU

/-! LAYER B: seals -/
/-- whether a move breaks a seal of the site x put on day p, by day d: the m moves from the k-th on -/
def brk (A : Nat → Int32) (x : Int32) (p : Nat) (d : Int32) : Nat → Nat → Bool
  | 0, _ => false
  | m + 1, k => (decide (A (720 + 8 * k + 2) = x) && (decide (¬ A (720 + 8 * k + 1) ≤ nI p) && decide (A (720 + 8 * k + 1) ≤ d))) || ((decide (A (720 + 8 * k + 3) = x) && (decide (¬ A (720 + 8 * k + 4) ≤ nI p) && decide (A (720 + 8 * k + 4) ≤ d))) || brk A x p d m (k + 1))
/-- the latest seal of x of the first n, put by day d -/
def lsl (A : Nat → Int32) (x d : Int32) : Nat → Int32
  | 0 => -1
  | n + 1 => if A (1520 + 4 * n) = x ∧ A (1520 + 4 * n + 1) ≤ d then nI n else lsl A x d n
section SE
variable {w : jW} {A : Nat → Int32} {c : Nat → Nat} {K : Nat}
theorem c_whole_h (H : RA w 3 A c K) {p : Nat} {x d : Int32} : ∀ (m k f : Nat), k + m = c 4 → m < f → f_State_isWhole_h24 f d x (nI p) (nI k) w = some (bz (!brk A x p d m k), w) := by
  have hm := l_4 H
  intro m
  induction m with
  | zero =>
    intro k f hk hf
    obtain ⟨f, rfl⟩ : ∃ j, f = j + 1 := ⟨f - 1, by omega⟩
    rw [f_State_isWhole_h24]
    simp (disch := omega) only [ia_1, ia_2, ia_3, ia_4, ia_5, ia_6, ia_7, ia_8, ia_9, ia_20, ia_40, ia_120, ia_140, ia_240, ia_720, ia_1520, ia_1680, ia_9680, ia_11280, ia_12480, ia_12880, ia_13080, ia_20760, ia_20880, ip_0, ip_1, ip_2, ip_3, ip_4, ip_5, ip_6, ip_7, ip_8, ip_9, ip_140, im_2, im_4, im_8, im_12, im_800, nI_clamp, jin_nI, jal_c, jal_n, Bool.and_true, if_true, ob, jlw_e, jk_0, jk_1, jk_2, jk_3, jk_4, jk_5, jk_6, jk_7, jk_8, jk_9, jk_10, jk_11, jk_12, jk_13, jk_14, jk_15, jk_16, jk_17, jk_18, jk_19, jg_0, jg_1, jg_2, jg_3, jg_4, jg_5, jg_6, jg_7, jg_8, jg_9, jg_10, jg_11, jg_12, jg_13, jg_14, jg_15, jg_16, jg_17, jg_18, jg_19, n_mv H, a_mv0 H, a_mv1 H, a_mv2 H, a_mv3 H, a_mv4 H, a_mv5 H, ii_lt]
    rw [if_neg (by omega)]; rfl
  | succ m ih =>
    intro k f hk hf
    obtain ⟨f, rfl⟩ : ∃ j, f = j + 1 := ⟨f - 1, by omega⟩
    rw [f_State_isWhole_h24]
    simp (disch := omega) only [ia_1, ia_2, ia_3, ia_4, ia_5, ia_6, ia_7, ia_8, ia_9, ia_20, ia_40, ia_120, ia_140, ia_240, ia_720, ia_1520, ia_1680, ia_9680, ia_11280, ia_12480, ia_12880, ia_13080, ia_20760, ia_20880, ip_0, ip_1, ip_2, ip_3, ip_4, ip_5, ip_6, ip_7, ip_8, ip_9, ip_140, im_2, im_4, im_8, im_12, im_800, nI_clamp, jin_nI, jal_c, jal_n, Bool.and_true, if_true, ob, jlw_e, jk_0, jk_1, jk_2, jk_3, jk_4, jk_5, jk_6, jk_7, jk_8, jk_9, jk_10, jk_11, jk_12, jk_13, jk_14, jk_15, jk_16, jk_17, jk_18, jk_19, jg_0, jg_1, jg_2, jg_3, jg_4, jg_5, jg_6, jg_7, jg_8, jg_9, jg_10, jg_11, jg_12, jg_13, jg_14, jg_15, jg_16, jg_17, jg_18, jg_19, n_mv H, a_mv0 H, a_mv1 H, a_mv2 H, a_mv3 H, a_mv4 H, a_mv5 H, ii_lt, f_State_isWhole_j77, ih (k + 1) f (by omega) (by omega), brk]
    rw [if_pos (by omega)]
    by_cases c1 : A (720 + 8 * k + 2) = x <;> by_cases c2 : A (720 + 8 * k + 1) ≤ nI p <;> by_cases c3 : A (720 + 8 * k + 1) ≤ d <;> by_cases c4 : A (720 + 8 * k + 3) = x <;> by_cases c5 : A (720 + 8 * k + 4) ≤ nI p <;> by_cases c6 : A (720 + 8 * k + 4) ≤ d <;> simp [c1, c2, c3, c4, c5, c6, bz]
theorem c_whole (H : RA w 3 A c K) {p i : Nat} {d : Int32} (hi : i < c 5) (hp : A (1520 + 4 * i + 1) = nI p) : f_State_isWhole (nI i) d w = some (bz (!brk A (A (1520 + 4 * i)) p d (c 4) 0), w) := by
  rw [f_State_isWhole]
  rw [a_sl0 H hi, ob]
  dsimp only
  rw [a_sl1 H hi, ob, hp]
  exact c_whole_h H (c 4) 0 jfu (by omega) (by have := l_4 H; unfold jfu; omega)
theorem c_latest_h (H : RA w 3 A c K) {x d : Int32} : ∀ (n f : Nat), n ≤ c 5 → n < f → f_State_latestSeal_h10 f x d (nI n - 1) w = some (lsl A x d n, w) := by
  have hm := l_5 H
  intro n
  induction n with
  | zero =>
    intro f hk hf
    obtain ⟨f, rfl⟩ : ∃ j, f = j + 1 := ⟨f - 1, by omega⟩
    rw [f_State_latestSeal_h10, if_pos (by decide)]; rfl
  | succ n ih =>
    intro f hk hf
    obtain ⟨f, rfl⟩ : ∃ j, f = j + 1 := ⟨f - 1, by omega⟩
    rw [nI_pred, f_State_latestSeal_h10]
    have e : nI n + (-1) = nI n - 1 := (Int32.sub_eq_add_neg ..).symm
    simp (disch := omega) only [ia_1, ia_2, ia_3, ia_4, ia_5, ia_6, ia_7, ia_8, ia_9, ia_20, ia_40, ia_120, ia_140, ia_240, ia_720, ia_1520, ia_1680, ia_9680, ia_11280, ia_12480, ia_12880, ia_13080, ia_20760, ia_20880, ip_0, ip_1, ip_2, ip_3, ip_4, ip_5, ip_6, ip_7, ip_8, ip_9, ip_140, im_2, im_4, im_8, im_12, im_800, nI_clamp, jin_nI, jal_c, jal_n, Bool.and_true, if_true, ob, jlw_e, jk_0, jk_1, jk_2, jk_3, jk_4, jk_5, jk_6, jk_7, jk_8, jk_9, jk_10, jk_11, jk_12, jk_13, jk_14, jk_15, jk_16, jk_17, jk_18, jk_19, jg_0, jg_1, jg_2, jg_3, jg_4, jg_5, jg_6, jg_7, jg_8, jg_9, jg_10, jg_11, jg_12, jg_13, jg_14, jg_15, jg_16, jg_17, jg_18, jg_19, n_sl H, a_sl0 H, a_sl1 H, e, il_0, if_false, ih f (by omega) (by omega), lsl]
    by_cases c1 : A (1520 + 4 * n) = x <;> by_cases c2 : A (1520 + 4 * n + 1) ≤ d <;> simp [c1, c2]
theorem c_latest (H : RA w 3 A c K) {x d : Int32} : f_State_latestSeal x d w = some (lsl A x d (c 5), w) := by
  rw [f_State_latestSeal, n_sl H, ob]
  exact c_latest_h H (c 5) jfu (by omega) (by have := l_5 H; unfold jfu; omega)
/-- the latest seal of x without a day, kept while looking from the k-th on -/
def sls (A : Nat → Int32) (x : Int32) : Nat → Nat → Int32 → Int32
  | 0, _, b => b
  | m + 1, k, b => sls A x m (k + 1) (if A (1520 + 4 * k) = x then nI k else b)
theorem sls_lsl {x d : Int32} {nl : Nat} (hd : ∀ i, i < nl → A (1520 + 4 * i + 1) ≤ d) : ∀ (m k : Nat), k + m = nl → sls A x m k (lsl A x d k) = lsl A x d nl := by
  intro m
  induction m with
  | zero => intro k hk; rw [sls, show k = nl by omega]
  | succ m ih =>
    intro k hk
    rw [sls, ← ih (k + 1) (by omega), lsl]
    have := hd k (by omega)
    by_cases c1 : A (1520 + 4 * k) = x <;> simp [c1, this]
theorem lsl_c {x d : Int32} : ∀ n, lsl A x d n = -1 ∨ ∃ k, k < n ∧ lsl A x d n = nI k ∧ A (1520 + 4 * k) = x ∧ A (1520 + 4 * k + 1) ≤ d := by
  intro n
  induction n with
  | zero => exact Or.inl rfl
  | succ n ih =>
    rw [lsl]
    by_cases q : A (1520 + 4 * n) = x ∧ A (1520 + 4 * n + 1) ≤ d
    · rw [if_pos q]; exact Or.inr ⟨n, by omega, rfl, q.1, q.2⟩
    · rw [if_neg q]
      exact ih.imp id (fun ⟨k, h1, h2⟩ => ⟨k, by omega, h2⟩)
/-- the day a seal was put -/
def sdy (A : Nat → Int32) (i : Nat) : Nat := (A (1520 + 4 * i + 1)).toNatClampNeg
theorem sdy_e (H : RA w 3 A c K) {i : Nat} (hi : i < c 5) : A (1520 + 4 * i + 1) = nI (sdy A i) ∧ sdy A i ≤ c 0 := by
  obtain ⟨s, d, h1, h2, h3, h4⟩ := p_Iseal H i hi
  have := l_0 H
  have e : sdy A i = d := by rw [sdy, h2, nI_clamp (by omega)]
  rw [e]; exact ⟨h2, h4⟩
/-- whether a site has a whole seal on the clock's day -/
def isl (A : Nat → Int32) (c : Nat → Nat) (x : Int32) : Bool := if lsl A x (nI (c 0)) (c 5) = -1 then false else !brk A x (sdy A (lsl A x (nI (c 0)) (c 5)).toNatClampNeg) (nI (c 0)) (c 4) 0
theorem rs_0 (H : RA w 3 A c K) : w.1 3 0 = nI (c 0) := (p_Rscal H).1.trans (h_0 H)
theorem c_sealed (H : RA w 3 A c K) {x : Int32} : f_State_isSealed x w = some (bz (isl A c x), w) := by
  have h5 := l_5 H
  rw [f_State_isSealed]
  simp only [ob, c_latest H, rs_0 H, isl]
  rcases lsl_c (A := A) (x := x) (d := nI (c 0)) (c 5) with e | ⟨k, hk, e, e2, e3⟩
  · rw [e, if_pos rfl, if_pos rfl]; rfl
  · obtain ⟨g1, g2⟩ := sdy_e H hk
    rw [e, if_neg (nI_ne_m1 (by omega)), if_neg (nI_ne_m1 (by omega)), c_whole H hk g1, ob, nI_clamp (by omega), e2]
    cases brk A x (sdy A k) (nI (c 0)) (c 4) 0 <;> rfl
end SE


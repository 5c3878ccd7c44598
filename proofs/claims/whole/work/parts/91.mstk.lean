/-! LAYER B: the reference's reader: its token, its codes, its stack -/
section MS
variable {w v z0 : jW} {P : Nat → Int32} {n t i R c c0 : Nat} {T S : List Nat} {M L : List (Nat × Nat × Nat)}
/-- the kind and the number of the i-th token -/
def kk (P : Nat → Int32) (n i : Nat) : Nat := kN P n (tkS P n i)
def uu (P : Nat → Int32) (n i : Nat) : Nat := min 10000 (nuF P n (n - tkS P n i) (tkS P n i) 0)
theorem nu_lt : ∀ m p a, a < 1000000 → nuF P n m p a < 1000000 := by
  intro m
  induction m with
  | zero => intro p a h; exact h
  | succ m ih =>
    intro p a h
    rw [nuF]
    split
    · rename_i q
      obtain ⟨d, d1, d2⟩ := dg_n q
      refine ih _ _ ?_
      rw [d1, nI_clamp (by omega)]
      split <;> omega
    · exact h
/-- the reference's token is the i-th -/
def Ato (w : jW) (P : Nat → Int32) (n i : Nat) : Prop := w.1 97 = P ∧ Tp w n ∧ Atk w n (tkS P n i)
theorem At_fr (h : Ato w P n i) (e97 : v.1 97 = w.1 97) (e : ∀ j, j = 4 ∨ j = 7 ∨ j = 8 ∨ j = 9 ∨ j = 10 → v.1 93 j = w.1 93 j) (e2 : v.2 = w.2) : Ato v P n i := by
  obtain ⟨h1, ⟨h2, h3, h4⟩, h5, h6, h7, h8, h9⟩ := h
  refine ⟨e97.trans h1, ⟨by rw [e 4 (by omega)]; exact h2, h3, by rw [e97]; exact h4⟩, ?_, ?_, ?_, ?_, ?_⟩
  · rw [e 7 (by omega), e97]; exact h5
  · rw [e 8 (by omega)]; exact h6
  · rw [e 9 (by omega), e97]; exact h7
  · rw [e 10 (by omega), e97]; exact h8
  · rw [e2, e97]; exact h9
theorem nxF_le {s : Nat} (hs : s ≤ n) : nxF P n s ≤ n := by
  by_cases h0 : svF P n s < 0
  · unfold nxF; rw [if_pos h0]; exact hs
  · have hs : s < n := by
      by_cases z : s < n
      · exact z
      · rw [svF_n (by omega)] at h0; exact absurd (by decide) h0
    exact (nx_le hs h0).2
/-- only the reader's cells differ: below the codes' cell b and from 600 behind b0 on nothing does -/
def Xm (b0 c : Nat) (v w : jW) : Prop := (∀ b, b ≠ 93 → b ≠ 94 → b ≠ 98 → v.1 b = w.1 b) ∧ (∀ j, j < 7 ∨ j = 12 ∨ j = 13 → v.1 93 j = w.1 93 j) ∧ ∀ q, q < b0 + 2 * c ∨ b0 + 600 ≤ q → v.1 94 q = w.1 94 q
theorem Xm_r {b0 : Nat} : Xm b0 c w w := ⟨fun _ _ _ _ => rfl, fun _ _ => rfl, fun _ _ => rfl⟩
theorem Xm_t {b0 : Nat} {x : jW} (h : Xm b0 c x v) (g : Xm b0 c v w) : Xm b0 c x w := ⟨fun b q1 q2 q3 => (h.1 b q1 q2 q3).trans (g.1 b q1 q2 q3), fun j q => (h.2.1 j q).trans (g.2.1 j q), fun q z => (h.2.2 q z).trans (g.2.2 q z)⟩
theorem Xm_m {b0 c' : Nat} (h : Xm b0 c v w) (hc : c' ≤ c) : Xm b0 c' v w := ⟨h.1, h.2.1, fun q z => h.2.2 q (by omega)⟩
theorem Xm_x {b0 : Nat} (h : Xt v w) : Xm b0 c v w := ⟨fun b q _ _ => h.1 b q, fun j q => h.2 j (by omega) (by omega) (by omega) (by omega), fun q _ => by rw [h.1 94 (by omega)]⟩
theorem m_nx (h : Ato w P n i) : ∃ v, f_Model_nextToken w = some v ∧ Xt v w ∧ Ato v P n (i + 1) := by
  obtain ⟨h1, h2, h3⟩ := h
  have hs := tkS_le (P := P) (n := n) i
  have hn := h2.2.1
  obtain ⟨v, r1, r2, r3⟩ := m_next (n - nxF P n (tkS P n i)) (nxF P n (tkS P n i)) jfu w h2 rfl (nxF_le hs) (by unfold jfu; omega) (by rw [← h1]; rw [← h1] at h3; exact h3.1)
  have e97 : v.1 97 = w.1 97 := r2.1 97 (by omega)
  refine ⟨v, by rw [f_Model_nextToken]; exact r1, r2, e97.trans h1, Xt_Tp r2 h2, ?_⟩
  rw [h1] at r3
  exact r3
/-- the pile, its top first -/
def pl (f : Nat → Int32) : List Nat → Prop
  | [] => True
  | q :: S => f S.length = nI q ∧ q ≤ 40 ∧ pl f S
theorem pl_tr {f g : Nat → Int32} : ∀ S : List Nat, (∀ j, j < S.length → g j = f j) → pl f S → pl g S := by
  intro S
  induction S with
  | nil => intro _ _; trivial
  | cons q S ih =>
    intro e h
    exact ⟨(e _ (by rw [List.length_cons]; omega)).trans h.1, h.2.1, ih (fun j hj => e j (by rw [List.length_cons]; omega)) h.2.2⟩
def cnt : List Nat → Nat
  | [] => 0
  | q :: S => (if q = 30 ∨ q = 40 then 1 else 0) + cnt S
def Mt (w : jW) (P : Nat → Int32) (n t i : Nat) (T : List Nat) (c : Nat) : Prop := Ato w P n i ∧ t < 10 ∧ w.1 93 12 = nI (1680 + 800 * t) ∧ w.1 93 14 = nI c ∧ w.1 93 15 = nI (cnt T) ∧ w.1 93 16 = nI T.length ∧ pl (w.1 98) T
def Ms (w : jW) (P : Nat → Int32) (n t i : Nat) (T : List Nat) (M : List (Nat × Nat × Nat)) (c0 : Nat) : Prop := Mt w P n t i T (c0 + tln M) ∧ tkm (w.1 94) (1680 + 800 * t + 140 + 2 * c0) M
theorem m_emit (h12 : w.1 93 12 = nI (1680 + 800 * t)) (h14 : w.1 93 14 = nI c) (ht : t < 10) (hc : c < 300) (o x : Int32) : f_Model_emit o x w = some (jup (jup (jup w.1 94 (1680 + 800 * t + 140 + 2 * c) o) 94 (1680 + 800 * t + 140 + 2 * c + 1) x) 93 14 (nI (c + 1)), w.2) := by
  rw [f_Model_emit]
  simp (disch := omega) only [ia_1, ia_2, ia_3, ia_4, ia_5, ia_6, ia_7, ia_8, ia_9, ia_20, ia_40, ia_120, ia_140, ia_240, ia_720, ia_1520, ia_1680, ia_9680, ia_11280, ia_12480, ia_12880, ia_13080, ia_20760, ia_20880, ip_0, ip_1, ip_2, ip_3, ip_4, ip_5, ip_6, ip_7, ip_8, ip_9, ip_140, im_2, im_4, im_8, im_12, im_800, nI_clamp, jin_nI, jal_c, jal_n, Bool.and_true, if_true, ob, jlw_e, jk_0, jk_1, jk_2, jk_3, jk_4, jk_5, jk_6, jk_7, jk_8, jk_9, jk_10, jk_11, jk_12, jk_13, jk_14, jk_15, jk_16, jk_17, jk_18, jk_19, jg_0, jg_1, jg_2, jg_3, jg_4, jg_5, jg_6, jg_7, jg_8, jg_9, jg_10, jg_11, jg_12, jg_13, jg_14, jg_15, jg_16, jg_17, jg_18, jg_19, h12, h14, jup_eq, jup_k, jup_ne, nI_add]
theorem Xt_Mt (h : Xt v w) (S : Mt w P n t i T c) {i' : Nat} (a : Ato v P n i') : Mt v P n t i' T c := by
  obtain ⟨s1, s2, s3, s4, s5, s6, s7⟩ := S
  exact ⟨a, s2, by rw [h.2 12 (by omega) (by omega) (by omega) (by omega)]; exact s3, by rw [h.2 14 (by omega) (by omega) (by omega) (by omega)]; exact s4, by rw [h.2 15 (by omega) (by omega) (by omega) (by omega)]; exact s5, by rw [h.2 16 (by omega) (by omega) (by omega) (by omega)]; exact s6, by rw [h.1 98 (by omega)]; exact s7⟩
theorem Xt_Ms (h : Xt v w) (S : Ms w P n t i T M c0) {i' : Nat} (a : Ato v P n i') : Ms v P n t i' T M c0 := ⟨Xt_Mt h S.1 a, by rw [h.1 94 (by omega)]; exact S.2⟩
/-- a code written -/
theorem Mt_emit (S : Mt w P n t i T c) (hc : c < 300) (o x : Int32) : ∃ v, f_Model_emit o x w = some v ∧ Mt v P n t i T (c + 1) ∧ v.1 94 (1680 + 800 * t + 140 + 2 * c) = o ∧ v.1 94 (1680 + 800 * t + 140 + 2 * c + 1) = x ∧ (∀ q, q ≠ 1680 + 800 * t + 140 + 2 * c → q ≠ 1680 + 800 * t + 140 + 2 * c + 1 → v.1 94 q = w.1 94 q) ∧ Xm (1680 + 800 * t + 140) c v w ∧ v.1 98 = w.1 98 := by
  obtain ⟨s1, s2, s3, s4, s5, s6, s7⟩ := S
  refine ⟨_, m_emit s3 s4 s2 hc o x, ⟨At_fr s1 ?_ (fun j hj => ?_) rfl, s2, ?_, ?_, ?_, ?_, ?_⟩, ?_, ?_, fun q q1 q2 => ?_, ⟨fun b q1 q2 q3 => ?_, fun j hj => ?_, fun q hq => ?_⟩, ?_⟩ <;> dsimp only
  · rw [jup_fn (by omega), jup_fn (by omega), jup_fn (by omega)]
  · rw [jup_k (by omega), jup_ne (by omega), jup_ne (by omega)]
  · rw [jup_k (by omega), jup_ne (by omega), jup_ne (by omega)]; exact s3
  · rw [jup_eq]
  · rw [jup_k (by omega), jup_ne (by omega), jup_ne (by omega)]; exact s5
  · rw [jup_k (by omega), jup_ne (by omega), jup_ne (by omega)]; exact s6
  · rw [jup_fn (by omega), jup_fn (by omega), jup_fn (by omega)]; exact s7
  · rw [jup_ne (by omega), jup_k (by omega), jup_eq]
  · rw [jup_ne (by omega), jup_eq]
  · rw [jup_ne (by omega), jup_k (by omega), jup_k (by omega)]
  · rw [jup_fn (by omega), jup_fn (by omega), jup_fn (by omega)]
  · rw [jup_k (by omega), jup_ne (by omega), jup_ne (by omega)]
  · rw [jup_ne (by omega), jup_k (by omega), jup_k (by omega)]
  · rw [jup_fn (by omega), jup_fn (by omega), jup_fn (by omega)]
def oq (q : Nat) : Nat := if q = 30 then 6 else if q = 22 then 7 else 8
theorem Ms_emit {q : Nat} (hq : q = 21 ∨ q = 22 ∨ q = 30) (S : Ms w P n t i T M c0) (hc : c0 + tln M < 300) : ∃ v, f_Model_emit (nI q) 0 w = some v ∧ Ms v P n t i T (M ++ [(oq q, 0, 0)]) c0 ∧ Xm (1680 + 800 * t + 140) c0 v w ∧ v.1 98 = w.1 98 := by
  obtain ⟨v, e1, e2, e3, e4, e5, e6, e7⟩ := Mt_emit S.1 hc (nI q) 0
  have ho : ¬ oq q < 6 := by unfold oq; split <;> (try split) <;> omega
  have hl : tln (M ++ [(oq q, 0, 0)]) = tln M + 1 := by rw [tln_app, tln, if_neg ho, tln]
  refine ⟨v, e1, ⟨by rw [hl, ← Nat.add_assoc]; exact e2, (tkm_app _ _ _).mpr ⟨tkm_tr _ _ (fun j q1 q2 => e5 j (by omega) (by omega)) S.2, ?_⟩⟩, Xm_m e6 (by omega), e7⟩
  rw [tkm, if_neg ho]
  refine ⟨?_, trivial⟩
  rw [show 1680 + 800 * t + 140 + 2 * c0 + 2 * tln M = 1680 + 800 * t + 140 + 2 * (c0 + tln M) by omega, e3]
  refine congrArg nI ?_
  rcases hq with rfl | rfl | rfl <;> rfl
/-- one taken off the pile -/
theorem Mt_pop {q : Nat} (h : Mt w P n t i (q :: S) c) (hq : ¬ (q = 30 ∨ q = 40)) : Mt (jup w.1 93 16 (nI S.length), w.2) P n t i S c := by
  obtain ⟨s1, s2, s3, s4, s5, s6, s7⟩ := h
  rw [cnt, if_neg hq, Nat.zero_add] at s5
  refine ⟨At_fr s1 ?_ (fun j hj => ?_) rfl, s2, ?_, ?_, ?_, ?_, ?_⟩ <;> dsimp only
  · rw [jup_fn (by omega)]
  · rw [jup_k (by omega)]
  · rw [jup_k (by omega)]; exact s3
  · rw [jup_k (by omega)]; exact s4
  · rw [jup_k (by omega)]; exact s5
  · rw [jup_eq]
  · rw [jup_fn (by omega)]; exact s7.2.2
theorem Mt_pop2 {q : Nat} (h : Mt w P n t i (q :: S) c) (hq : q = 30 ∨ q = 40) : Mt (jup (jup w.1 93 16 (nI S.length)) 93 15 (nI (cnt S)), w.2) P n t i S c := by
  obtain ⟨s1, s2, s3, s4, s5, s6, s7⟩ := h
  refine ⟨At_fr s1 ?_ (fun j hj => ?_) rfl, s2, ?_, ?_, ?_, ?_, ?_⟩ <;> dsimp only
  · rw [jup_fn (by omega), jup_fn (by omega)]
  · rw [jup_k (by omega), jup_k (by omega)]
  · rw [jup_k (by omega), jup_k (by omega)]; exact s3
  · rw [jup_k (by omega), jup_k (by omega)]; exact s4
  · rw [jup_eq]
  · rw [jup_k (by omega), jup_eq]
  · rw [jup_fn (by omega), jup_fn (by omega)]; exact s7.2.2
theorem Xm_p {b0 j : Nat} {x : Int32} (h : j = 14 ∨ j = 15 ∨ j = 16) : Xm b0 c (jup w.1 93 j x, w.2) w := ⟨fun b q _ _ => by dsimp only; rw [jup_fn q], fun k hk => by dsimp only; rw [jup_k (by omega)], fun q _ => by dsimp only; rw [jup_ne (by omega)]⟩
theorem cnt_le : ∀ S : List Nat, cnt S ≤ S.length := by
  intro S
  induction S with
  | nil => exact Nat.le_refl 0
  | cons q S ih => rw [cnt, List.length_cons]; split <;> omega
/-- the nots on the pile's top written -/
def w1 : List Nat → List (Nat × Nat × Nat) → List Nat × List (Nat × Nat × Nat)
  | [], M => ([], M)
  | q :: S, M => if q = 30 then w1 S (M ++ [(6, 0, 0)]) else (q :: S, M)
def stl (lo : Nat) : List Nat → List (Nat × Nat × Nat) → List Nat × List (Nat × Nat × Nat)
  | [], M => ([], M)
  | q :: S, M => if lo ≤ q ∧ q ≤ 22 then stl lo S (M ++ [(oq q, 0, 0)]) else (q :: S, M)
theorem m_w1 : ∀ (T : List Nat) M f (w : jW), Ms w P n t i T M c0 → c0 + tln M + T.length ≤ 300 → T.length ≤ 100 → T.length < f → ∃ v, f_Model_whole1_h0 f w = some v ∧ Ms v P n t i (w1 T M).1 (w1 T M).2 c0 ∧ Xm (1680 + 800 * t + 140) c0 v w := by
  intro T
  induction T with
  | nil =>
    intro M f w h hc ht hf
    obtain ⟨f, rfl⟩ : ∃ j, f = j + 1 := ⟨f - 1, by omega⟩
    refine ⟨w, ?_, h, Xm_r⟩
    rw [f_Model_whole1_h0, h.1.2.2.2.2.2.1, if_pos (by decide)]
  | cons q T ih =>
    intro M f w h hc ht hf
    obtain ⟨f, rfl⟩ : ∃ j, f = j + 1 := ⟨f - 1, by omega⟩
    rw [List.length_cons] at hc ht hf
    have h16 := h.1.2.2.2.2.2.1
    have h15 := h.1.2.2.2.2.1
    have hpl := h.1.2.2.2.2.2.2
    have hcl := cnt_le T
    rw [List.length_cons] at h16
    rw [f_Model_whole1_h0, h16, if_neg (show ¬ nI (T.length + 1) ≤ 0 from fun z => by have := (nI_leI (b := 0) (by omega) (by omega)).mp z; omega), nI_pred, jin_nI (by omega) (by omega), jal_c, jal_n, Bool.and_true, if_pos rfl, nI_clamp (by omega), hpl.1, w1]
    by_cases g : q = 30
    rotate_left
    · rw [if_neg g, if_neg (show ¬ nI q = 30 from nI_ne' (b := 30) (by have := hpl.2.1; omega) (by omega) g)]
      exact ⟨w, rfl, h, Xm_r⟩
    rw [if_pos g, if_pos (by rw [g]; rfl), jlw_e, jlw_e]
    dsimp only
    rw [cnt, if_pos (Or.inl g), Nat.add_comm] at h15
    rw [jup_k (show (15 : Nat) ≠ 16 by omega), h15, nI_pred]
    have h1 : Ms (jup (jup w.1 93 16 (nI T.length)) 93 15 (nI (cnt T)), w.2) P n t i T M c0 := ⟨Mt_pop2 h.1 (Or.inl g), by dsimp only; rw [jup_fn (by omega), jup_fn (by omega)]; exact h.2⟩
    obtain ⟨v, e1, e2, e3, _⟩ := Ms_emit (q := 30) (by omega) h1 (by omega)
    have X1 : Xm (1680 + 800 * t + 140) c0 (jup (jup w.1 93 16 (nI T.length)) 93 15 (nI (cnt T)), w.2) w := Xm_t (Xm_p (w := (jup w.1 93 16 (nI T.length), w.2)) (by omega)) (Xm_p (by omega))
    rw [show f_Model_emit 30 0 _ = _ from e1, ob]
    obtain ⟨v2, d1, d2, d3⟩ := ih (M ++ [(6, 0, 0)]) f v e2 (by rw [tln_app, tln, if_neg (show ¬ (6 : Nat) < 6 by omega), tln]; omega) (by omega) (by omega)
    exact ⟨v2, d1, d2, Xm_t d3 (Xm_t e3 X1)⟩
theorem m_stl {lo : Nat} (hlo : lo = 21 ∨ lo = 22) : ∀ (T : List Nat) M f (w : jW), Ms w P n t i T M c0 → c0 + tln M + T.length ≤ 300 → T.length ≤ 100 → T.length < f → ∃ v, f_Model_settle_h0 f (nI lo) w = some v ∧ Ms v P n t i (stl lo T M).1 (stl lo T M).2 c0 ∧ Xm (1680 + 800 * t + 140) c0 v w := by
  intro T
  induction T with
  | nil =>
    intro M f w h hc ht hf
    obtain ⟨f, rfl⟩ : ∃ j, f = j + 1 := ⟨f - 1, by omega⟩
    refine ⟨w, ?_, h, Xm_r⟩
    rw [f_Model_settle_h0, h.1.2.2.2.2.2.1, if_pos (by decide)]
  | cons q T ih =>
    intro M f w h hc ht hf
    obtain ⟨f, rfl⟩ : ∃ j, f = j + 1 := ⟨f - 1, by omega⟩
    rw [List.length_cons] at hc ht hf
    have h16 := h.1.2.2.2.2.2.1
    have hpl := h.1.2.2.2.2.2.2
    rw [List.length_cons] at h16
    have hq40 := hpl.2.1
    rw [f_Model_settle_h0, h16, if_neg (show ¬ nI (T.length + 1) ≤ 0 from fun z => by have := (nI_leI (b := 0) (by omega) (by omega)).mp z; omega), nI_pred, jin_nI (by omega) (by omega), jal_c, jal_n, Bool.and_true, if_pos rfl, nI_clamp (by omega), hpl.1, m_isIn, ob, stl]
    dsimp only
    have eb : (¬ nI q < nI lo ∧ nI q ≤ 22) ↔ (lo ≤ q ∧ q ≤ 22) := by
      rw [nI_ltI (by omega) (by omega), show (nI q ≤ 22) = (nI q ≤ nI 22) from rfl, nI_leI (by omega) (by omega)]
      omega
    by_cases g : lo ≤ q ∧ q ≤ 22
    rotate_left
    · rw [if_neg g, b2_n (fun z => g (eb.mp z)), if_pos rfl]
      exact ⟨w, rfl, h, Xm_r⟩
    have hj : jal [jin (jup w.1 93 16 (w.1 93 16 - 1) 93 16) 160] = true := by
      rw [jup_eq, h16, nI_pred, jin_nI (by omega) (by omega)]; rfl
    rw [if_pos g, b2_p (eb.mpr g), if_neg one_ne, jlw_e]
    dsimp only
    rw [if_pos hj, jup_eq, h16, nI_pred, nI_clamp (by omega), jup_ne (show (98 : Nat) ≠ 93 by omega), hpl.1]
    have h1 : Ms (jup w.1 93 16 (nI T.length), w.2) P n t i T M c0 := ⟨Mt_pop h.1 (by omega), by dsimp only; rw [jup_fn (by omega)]; exact h.2⟩
    obtain ⟨v, e1, e2, e3, _⟩ := Ms_emit (q := q) (by omega) h1 (by omega)
    rw [e1, ob]
    obtain ⟨v2, d1, d2, d3⟩ := ih (M ++ [(oq q, 0, 0)]) f v e2 (by rw [tln_app, tln, if_neg (show ¬ oq q < 6 by unfold oq; split <;> (try split) <;> omega), tln]; omega) (by omega) (by omega)
    exact ⟨v2, d1, d2, Xm_t d3 (Xm_t e3 (Xm_p (by omega)))⟩
theorem m_push {q : Nat} (s1 : Ato w P n i) (s2 : t < 10) (s3 : w.1 93 12 = nI (1680 + 800 * t)) (s4 : w.1 93 14 = nI (c0 + tln M)) (h15 : w.1 93 15 = nI (cnt (q :: T))) (s6 : w.1 93 16 = nI T.length) (s7 : pl (w.1 98) T) (s8 : tkm (w.1 94) (1680 + 800 * t + 140 + 2 * c0) M) (hT : T.length < 160) (hq : q ≤ 40) : ∃ v, f_Model_push (nI q) w = some v ∧ Ms v P n t i (q :: T) M c0 ∧ Xm (1680 + 800 * t + 140) c0 v w := by
  refine ⟨(jup (jup w.1 98 T.length (nI q)) 93 16 (nI (T.length + 1)), w.2), ?_, ⟨⟨At_fr s1 ?_ (fun j hj => ?_) rfl, s2, ?_, ?_, ?_, ?_, ?_⟩, ?_⟩, ⟨fun b q1 q2 q3 => ?_, fun j hj => ?_, fun x hx => ?_⟩⟩
  · rw [f_Model_push]
    simp (disch := omega) only [ia_1, ia_2, ia_3, ia_4, ia_5, ia_6, ia_7, ia_8, ia_9, ia_20, ia_40, ia_120, ia_140, ia_240, ia_720, ia_1520, ia_1680, ia_9680, ia_11280, ia_12480, ia_12880, ia_13080, ia_20760, ia_20880, ip_0, ip_1, ip_2, ip_3, ip_4, ip_5, ip_6, ip_7, ip_8, ip_9, ip_140, im_2, im_4, im_8, im_12, im_800, nI_clamp, jin_nI, jal_c, jal_n, Bool.and_true, if_true, ob, jlw_e, jk_0, jk_1, jk_2, jk_3, jk_4, jk_5, jk_6, jk_7, jk_8, jk_9, jk_10, jk_11, jk_12, jk_13, jk_14, jk_15, jk_16, jk_17, jk_18, jk_19, jg_0, jg_1, jg_2, jg_3, jg_4, jg_5, jg_6, jg_7, jg_8, jg_9, jg_10, jg_11, jg_12, jg_13, jg_14, jg_15, jg_16, jg_17, jg_18, jg_19, s6, jup_eq, jup_k, jup_ne, nI_add]
  · dsimp only; rw [jup_fn (by omega), jup_fn (by omega)]
  · dsimp only; rw [jup_k (by omega), jup_ne (by omega)]
  · dsimp only; rw [jup_k (by omega), jup_ne (by omega)]; exact s3
  · dsimp only; rw [jup_k (by omega), jup_ne (by omega)]; exact s4
  · dsimp only; rw [jup_k (by omega), jup_ne (by omega)]; exact h15
  · dsimp only; rw [jup_eq]; rfl
  · dsimp only; rw [jup_fn (by omega)]; exact ⟨by rw [jup_eq], hq, pl_tr T (fun j hj => by rw [jup_k (by omega)]) s7⟩
  · dsimp only; rw [jup_fn (by omega), jup_fn (by omega)]; exact s8
  · dsimp only; rw [jup_fn (by omega), jup_fn (by omega)]
  · dsimp only; rw [jup_k (by omega), jup_ne (by omega)]
  · dsimp only; rw [jup_ne (by omega), jup_ne (by omega)]
theorem pl_mem {f : Nat → Int32} : ∀ T : List Nat, pl f T → (40 ∈ T ↔ ∃ j, j < T.length ∧ f j = 40) := by
  intro T
  induction T with
  | nil => intro _; exact ⟨fun h => absurd h (by simp), fun ⟨j, h, _⟩ => absurd h (Nat.not_lt_zero j)⟩
  | cons q T ih =>
    intro h
    rw [List.mem_cons, ih h.2.2, List.length_cons]
    constructor
    · rintro (rfl | ⟨j, h1, h2⟩)
      · exact ⟨T.length, by omega, h.1⟩
      · exact ⟨j, by omega, h2⟩
    · rintro ⟨j, h1, h2⟩
      by_cases z : j = T.length
      · rw [z, h.1] at h2
        exact Or.inl ((nI_eq (a := q) (b := 40) (by have := h.2.1; omega) (by omega)).mp h2).symm
      · exact Or.inr ⟨j, by omega, h2⟩
theorem m_par_h (h16 : w.1 93 16 = nI T.length) (hT : T.length < 160) (hpl : pl (w.1 98) T) : ∀ m j f, j + m = T.length → m < f → (∀ i, i < j → w.1 98 i ≠ 40) → f_Model_hasParen_h2 f (nI j) w = some (b2 (40 ∈ T), w) := by
  intro m
  induction m with
  | zero =>
    intro j f hj hf hn
    obtain ⟨f, rfl⟩ : ∃ j, f = j + 1 := ⟨f - 1, by omega⟩
    rw [f_Model_hasParen_h2, h16, if_neg (nI_nlt (by omega) (by omega)), b2_n]
    intro z
    obtain ⟨a, a1, a2⟩ := (pl_mem T hpl).mp z
    exact hn a (by omega) a2
  | succ m ih =>
    intro j f hj hf hn
    obtain ⟨f, rfl⟩ : ∃ j, f = j + 1 := ⟨f - 1, by omega⟩
    rw [f_Model_hasParen_h2, h16, if_pos (nI_lt (by omega) (by omega)), jin_nI (by omega) (by omega), jal_c, jal_n, Bool.and_true, if_pos rfl, nI_clamp (by omega)]
    by_cases g : w.1 98 j = 40
    · rw [if_pos g, b2_p ((pl_mem T hpl).mpr ⟨j, by omega, g⟩)]
    · rw [if_neg g, ip_1]
      refine ih (j + 1) f (by omega) (by omega) (fun a ha => ?_)
      by_cases z : a = j
      · rw [z]; exact g
      · exact hn a (by omega)
theorem m_par (h : Mt w P n t i T c) (hT : T.length < 160) : f_Model_hasParen w = some (b2 (40 ∈ T), w) := by
  rw [f_Model_hasParen]
  exact m_par_h h.2.2.2.2.2.1 hT h.2.2.2.2.2.2 T.length 0 jfu (by omega) (by unfold jfu; omega) (fun a ha => absurd ha (Nat.not_lt_zero a))
theorem At_9 (h : Ato w P n i) {a : Nat} {x : Int32} (h1 : 18 ≤ a) (h2 : a ≤ 28) (hx : x = kdO a) : (w.1 93 9 = x) = (kk P n i = a) := by
  rw [h.2.2.2.2.1, kd_e h1 h2 hx, h.1]; rfl
theorem m_kk (h : Ato w P n i) : kN (w.1 97) n (tkS P n i) = kk P n i := by rw [h.1]; rfl
theorem At_nu (h : Ato w P n i) (hk : kk P n i = 27) : ∃ a, w.1 93 10 = nI a ∧ a < 1000000 ∧ uu P n i = min 10000 a := by
  have h9 : w.1 93 9 = 1 := by rw [At_9 h (a := 27) (by omega) (by omega) (by decide)]; exact hk
  have e := h.2.2.2.2.2.1 (by rw [← h.2.2.2.2.1]; exact h9)
  refine ⟨_, e, nu_lt _ _ 0 (by omega), ?_⟩
  unfold uu; rw [h.1]
/-- an operand written -/
theorem m_oneO (S : Mt w P n t i T c) : ((pO (kk P n) (uu P n) i).1 = 0 → c < 300 → ∃ v, f_Model_one w = some (0, v) ∧ Mt v P n t (i + 1) T (c + 1) ∧ opm (v.1 94) (1680 + 800 * t + 140 + 2 * c) (pO (kk P n) (uu P n) i).2 ∧ (∀ q, q ≠ 1680 + 800 * t + 140 + 2 * c → q ≠ 1680 + 800 * t + 140 + 2 * c + 1 → v.1 94 q = w.1 94 q) ∧ Xm (1680 + 800 * t + 140) c v w) ∧ ((pO (kk P n) (uu P n) i).1 ≠ 0 → f_Model_one w = some (nI (pO (kk P n) (uu P n) i).1, w)) := by
  have A0 := S.1
  have h27 : (w.1 93 9 = 1) = (kk P n i = 27) := At_9 A0 (by omega) (by omega) (by decide)
  have hnm := m_name A0.2.2
  rw [m_kk A0] at hnm
  have j70 : c < 300 → ∀ x o : Int32, ∃ v, f_Model_one_j70 x o w = some (0, v) ∧ Mt v P n t (i + 1) T (c + 1) ∧ v.1 94 (1680 + 800 * t + 140 + 2 * c) = o ∧ v.1 94 (1680 + 800 * t + 140 + 2 * c + 1) = x ∧ (∀ q, q ≠ 1680 + 800 * t + 140 + 2 * c → q ≠ 1680 + 800 * t + 140 + 2 * c + 1 → v.1 94 q = w.1 94 q) ∧ Xm (1680 + 800 * t + 140) c v w := fun hc x o => by
    obtain ⟨v, e1, e2, e3, e4, e5, e6, e7⟩ := Mt_emit S hc o x
    obtain ⟨v2, d1, d2, d3⟩ := m_nx e2.1
    have e94 : v2.1 94 = v.1 94 := d2.1 94 (by omega)
    refine ⟨v2, ?_, Xt_Mt d2 e2 d3, by rw [e94]; exact e3, by rw [e94]; exact e4, fun q q1 q2 => by rw [e94]; exact e5 q q1 q2, Xm_t (Xm_x d2) e6⟩
    rw [f_Model_one_j70, e1, ob, d1, ob]
  unfold pO
  rw [f_Model_one, ifp h27]
  by_cases g : kk P n i = 27
  · rw [if_pos g, if_pos g]
    obtain ⟨a, a1, a2, a3⟩ := At_nu A0 g
    rw [a1]
    by_cases y : uu P n i ≤ 9999
    · have ya : a ≤ 9999 := by omega
      have ea : uu P n i = a := by omega
      rw [if_pos y, if_pos (show nI a ≤ 9999 from (nI_leI (b := 9999) (by omega) (by omega)).mpr ya), f_Model_one_j20, ifp h27, if_pos g, f_Model_one_j37, ifp h27, if_pos g, f_Model_one_j51, ifp h27, if_pos g, a1]
      refine ⟨fun _ hc => ?_, fun z => absurd rfl z⟩
      obtain ⟨v, e1, e2, e3, e4, e5⟩ := j70 hc (nI a) 0
      refine ⟨v, e1, e2, ?_, e5⟩
      unfold opm
      rw [if_pos (by show uu P n i < 10000; omega)]
      exact ⟨e3, by rw [e4, ea]⟩
    · rw [if_neg y, if_neg (show ¬ nI a ≤ 9999 from fun z => by have := (nI_leI (b := 9999) (by omega) (by omega)).mp z; omega)]
      exact ⟨fun z => (by simp at z), fun _ => rfl⟩
  rw [if_neg g, if_neg g, f_Model_one_j20, ifp h27, if_neg g, hnm, ob]
  dsimp only
  by_cases y : 13 ≤ kk P n i ∧ kk P n i ≤ 17
  · rw [if_pos y, if_pos y, if_neg (show ¬ nI (kk P n i - 13) < 0 from nI_pos (by omega)), f_Model_one_j37, ifp h27, if_neg g, f_Model_one_j51, ifp h27, if_neg g, hnm, ob, if_pos y]
    dsimp only
    refine ⟨fun _ hc => ?_, fun z => absurd rfl z⟩
    obtain ⟨v, e1, e2, e3, e4, e5⟩ := j70 hc (nI (kk P n i - 13)) 1
    refine ⟨v, e1, e2, ?_, e5⟩
    unfold opm
    rw [if_neg (by show ¬ kk P n i - 13 + 10000 < 10000; omega)]
    exact ⟨e3, by rw [e4]; exact congrArg nI (by show kk P n i - 13 = kk P n i - 13 + 10000 - 10000; omega)⟩
  · rw [if_neg y, if_neg y, if_pos (show (-1 : Int32) < 0 by decide)]
    exact ⟨fun z => (by simp at z), fun _ => rfl⟩
/-- a comparison written, and the nots ahead of it -/
theorem m_pC (h : Ms w P n t i T M c0) (hk : kk P n R = 28) (hi : i ≤ R) (hR : R ≤ 300) (hc : c0 + tln M + T.length ≤ i) (hT : T.length ≤ 100) : ((pC (kk P n) (uu P n) i).1 = 0 → ∃ v, f_Model_compare w = some (0, v) ∧ Ms v P n t (pC (kk P n) (uu P n) i).2.1 (w1 T (M ++ (pC (kk P n) (uu P n) i).2.2)).1 (w1 T (M ++ (pC (kk P n) (uu P n) i).2.2)).2 c0 ∧ Xm (1680 + 800 * t + 140) c0 v w) ∧ ((pC (kk P n) (uu P n) i).1 ≠ 0 → ∃ v, f_Model_compare w = some (nI (pC (kk P n) (uu P n) i).1, v) ∧ Ato v P n (pC (kk P n) (uu P n) i).2.1 ∧ Xm (1680 + 800 * t + 140) c0 v w) := by
  have l1 := pO_r (u := uu P n) hk hi
  have c1 : (pO (kk P n) (uu P n) i).1 = 0 → c0 + tln M < 300 := fun z => by have := (l1.2 z).1; omega
  unfold pC
  rw [f_Model_compare]
  by_cases g1 : (pO (kk P n) (uu P n) i).1 ≠ 0
  · have e := (m_oneO h.1).2 g1
    rw [if_pos g1, e, ob]
    dsimp only
    rw [if_neg (show ¬ nI (pO (kk P n) (uu P n) i).1 = 0 from nI_ne' (b := 0) (by have := l1.1; omega) (by omega) g1)]
    exact ⟨fun z => absurd z g1, fun _ => ⟨w, rfl, h.1.1, Xm_r⟩⟩
  have g1' : (pO (kk P n) (uu P n) i).1 = 0 := by omega
  have l1' := (l1.2 g1').1
  obtain ⟨v1, a1, a2, a3, a4, a5⟩ := (m_oneO h.1).1 g1' (c1 g1')
  have X1 := Xm_m a5 (show c0 ≤ c0 + tln M by omega)
  have hcm := m_cmpO a2.1.2.2
  rw [m_kk a2.1] at hcm
  rw [if_neg g1, a1, ob]
  dsimp only
  rw [if_pos rfl, hcm, ob]
  dsimp only
  by_cases g2 : ¬ (18 ≤ kk P n (i + 1) ∧ kk P n (i + 1) ≤ 23)
  · rw [if_pos g2, if_neg g2, if_pos (show (-1 : Int32) < 0 by decide)]
    exact ⟨fun z => (by simp at z), fun _ => ⟨v1, rfl, a2.1, X1⟩⟩
  have g2' : 18 ≤ kk P n (i + 1) ∧ kk P n (i + 1) ≤ 23 := by omega
  have l2 : i + 2 ≤ R := by
    by_cases y : i + 1 = R
    · rw [y, hk] at g2'; omega
    · omega
  have l3 := pO_r (u := uu P n) hk l2
  obtain ⟨v2, b1, b2, b3⟩ := m_nx a2.1
  have m2 := Xt_Mt b2 a2 b3
  have e94 : v2.1 94 = v1.1 94 := b2.1 94 (by omega)
  have X2 := Xm_t (Xm_x b2) X1
  rw [if_neg g2, if_pos g2', if_neg (show ¬ nI (kk P n (i + 1) - 8) < 0 from nI_pos (by omega)), b1, ob]
  have o3 := m_oneO m2
  by_cases g3 : (pO (kk P n) (uu P n) (i + 2)).1 ≠ 0
  · rw [if_pos g3, o3.2 g3, ob]
    dsimp only
    rw [if_neg (show ¬ nI (pO (kk P n) (uu P n) (i + 2)).1 = 0 from nI_ne' (b := 0) (by have := l3.1; omega) (by omega) g3)]
    exact ⟨fun z => absurd z g3, fun _ => ⟨v2, rfl, b3, X2⟩⟩
  have g3' : (pO (kk P n) (uu P n) (i + 2)).1 = 0 := by omega
  have l3' := (l3.2 g3').1
  obtain ⟨v3, d1, d2, d3, d4, d5⟩ := o3.1 g3' (by omega)
  rw [if_neg g3, d1, ob]
  dsimp only
  rw [if_pos rfl]
  obtain ⟨v4, f1, f2, f3, f4, f5, f6, f7⟩ := Mt_emit d2 (by omega) (nI (kk P n (i + 1) - 8)) 0
  have hl : tln (M ++ [(kk P n (i + 1) - 18, (pO (kk P n) (uu P n) i).2, (pO (kk P n) (uu P n) (i + 2)).2)]) = tln M + 3 := by
    rw [tln_app, tln, if_pos (by show kk P n (i + 1) - 18 < 6; omega), tln]
  have S4 : Ms v4 P n t (i + 3) T (M ++ [(kk P n (i + 1) - 18, (pO (kk P n) (uu P n) i).2, (pO (kk P n) (uu P n) (i + 2)).2)]) c0 := by
    refine ⟨by rw [hl]; exact f2, (tkm_app _ _ _).mpr ⟨tkm_tr _ _ (fun j q1 q2 => ?_) h.2, ?_⟩⟩
    · rw [f5 j (by omega) (by omega), d4 j (by omega) (by omega), e94, a4 j (by omega) (by omega)]
    · rw [tkm, if_pos (by show kk P n (i + 1) - 18 < 6; omega), show 1680 + 800 * t + 140 + 2 * c0 + 2 * tln M = 1680 + 800 * t + 140 + 2 * (c0 + tln M) by omega]
      refine ⟨opm_tr (A := v1.1 94) a3 ?_ ?_, opm_tr (A := v3.1 94) (q := 1680 + 800 * t + 140 + 2 * (c0 + tln M) + 2) d3 (f5 _ (by omega) (by omega)) (f5 _ (by omega) (by omega)), ?_, trivial⟩
      · rw [f5 _ (by omega) (by omega), d4 _ (by omega) (by omega), e94]
      · rw [f5 _ (by omega) (by omega), d4 _ (by omega) (by omega), e94]
      · rw [show 1680 + 800 * t + 140 + 2 * (c0 + tln M) + 4 = 1680 + 800 * t + 140 + 2 * (c0 + tln M + 1 + 1) by omega, f3]
        exact congrArg nI (by show kk P n (i + 1) - 8 = 10 + (kk P n (i + 1) - 18); omega)
  obtain ⟨v5, h1, h2, h3⟩ := m_w1 T _ jfu v4 S4 (by rw [hl]; omega) (by omega) (by unfold jfu; omega)
  rw [f1, ob, f_Model_whole1, h1, ob]
  exact ⟨fun _ => ⟨v5, rfl, h2, Xm_t h3 (Xm_t (Xm_m f6 (by omega)) (Xm_t (Xm_m d5 (by omega)) X2))⟩, fun z => absurd rfl z⟩
end MS

/-! LAYER B: the reference's reader of conditions reads as the pure parser -/
section MR
variable {w v : jW} {P : Nat → Int32} {n t i R c c0 : Nat} {T S : List Nat} {M L : List (Nat × Nat × Nat)}
theorem m_h9 (h : Mt w P n t i T c) (f : Nat) (x1 : Int32) : f_Model_either_h9 (f + 1) x1 1 w = f_Model_either_j66 (f_Model_either_h9 f) x1 1 (b2 (kk P n i = 12)) (b2 (kk P n i = 11)) (b2 (kk P n i = 10)) w := by
  have A0 := h.1
  have e12 := m_isW A0.2.2 (m := 12) (by omega) (W := [110, 111, 116]) rfl rfl
  have e11 := m_isW A0.2.2 (m := 11) (by omega) (W := [97, 110, 100]) rfl rfl
  rw [m_kk A0] at e12 e11
  have h9 : w.1 93 9 = kdF (w.1 97) n (tkS P n i) := A0.2.2.2.2.1
  rw [f_Model_either_h9, if_neg one_ne, show f_Model_w3 110 111 116 w = _ from w3_n (a := 110) (b := 111) (c := 116) (by omega) (by omega) (by omega), ob]
  dsimp only
  rw [e12, ob]
  dsimp only
  rw [show f_Model_w3 97 110 100 w = _ from w3_n (a := 97) (b := 110) (c := 100) (by omega) (by omega) (by omega), ob]
  dsimp only
  rw [e11, ob]
  dsimp only
  rw [h9]
  by_cases g : kdF (w.1 97) n (tkS P n i) = 2
  · rw [if_pos g, ifp (wd_k A0.2.2 g (m := 10) (W := [111, 114]) rfl (x := 28530) (by decide)), m_kk A0]
    by_cases y : kk P n i = 10
    · rw [if_pos y, b2_p y]
    · rw [if_neg y, b2_n y, f_Model_either_j65]
  · have y : ¬ kk P n i = 10 := fun z => g (kd_2.1 (by rw [m_kk A0]; omega))
    rw [if_neg g, b2_n y, f_Model_either_j65]
theorem m_A (h : Mt w P n t i T c) (f : Nat) : f_Model_either_h9 (f + 1) 0 1 w = if kk P n i = 12 ∨ kk P n i = 24 then f_Model_either_j85 (f_Model_either_h9 f) 0 1 (b2 (kk P n i = 12)) w else Option.bind (f_Model_compare w) fun q => if q.1 = 0 then f_Model_either_h9 f 1 1 q.2 else some (q.1, q.2) := by
  rw [m_h9 h, f_Model_either_j66, if_pos rfl, ifp (At_9 h.1 (a := 24) (by omega) (by omega) (x := 40) (by decide))]
  by_cases g : kk P n i = 12
  · rw [if_pos (Or.inl g), b2_p g, if_neg one_ne]
  · rw [b2_n g, if_pos rfl]
    by_cases g2 : kk P n i = 24
    · rw [if_pos g2, if_pos (Or.inr g2)]
    · rw [if_neg g2, if_neg (by omega), f_Model_either_j128, if_pos rfl]
theorem m_B (h : Mt w P n t i T c) (hT : T.length < 160) (f : Nat) : f_Model_either_h9 (f + 1) 1 1 w = if kk P n i = 11 then (Option.bind (f_Model_settle 22 w) fun q => f_Model_either_j190 (f_Model_either_h9 f) 1 22 q) else if kk P n i = 10 then (Option.bind (f_Model_settle 21 w) fun q => f_Model_either_j190 (f_Model_either_h9 f) 1 21 q) else if kk P n i = 25 ∧ 40 ∈ T then (Option.bind (f_Model_settle 21 w) fun q14 => jlw ((jup q14.1 93 16 ((q14.1 93 16) - 1)), q14.2) fun w15 => jlw ((jup w15.1 93 15 ((w15.1 93 15) - 1)), w15.2) fun w16 => Option.bind (f_Model_whole1 w16) fun q17 => Option.bind (f_Model_nextToken q17) fun q18 => f_Model_either_h9 f 1 1 q18) else f_Model_either_h9 f 1 0 w := by
  rw [m_h9 h, f_Model_either_j66, if_neg one_ne, f_Model_either_j128, if_neg one_ne, ifp (At_9 h.1 (a := 25) (by omega) (by omega) (x := 41) (by decide)), m_par h hT, ob]
  dsimp only
  by_cases g : kk P n i = 11
  · rw [b2_p g, if_neg one_ne, if_pos g, f_Model_either_j161, if_neg one_ne, f_Model_either_j174]
    simp only [if_neg one_ne]
  rw [b2_n g, if_pos rfl, if_neg g]
  by_cases g2 : kk P n i = 10
  · rw [b2_p g2, if_neg one_ne, if_pos g2, f_Model_either_j161, if_pos rfl, f_Model_either_j174]
    simp only [if_true]
  rw [b2_n g2, if_pos rfl, if_neg g2]
  by_cases g3 : kk P n i = 25
  · rw [if_pos g3]
    by_cases g4 : 40 ∈ T
    · rw [b2_p g4, if_neg one_ne, if_pos ⟨g3, g4⟩]
    · rw [b2_n g4, if_pos rfl, if_neg (fun z => g4 z.2)]
  · rw [if_neg g3, if_neg (fun z => g3 z.1)]
theorem stl_sz {lo : Nat} : ∀ (T : List Nat) (M : List (Nat × Nat × Nat)), tln (stl lo T M).2 + (stl lo T M).1.length = tln M + T.length := by
  intro T
  induction T with
  | nil => intro M; rfl
  | cons q T ih =>
    intro M
    rw [stl]
    split
    · rw [ih, tln_app, tln, if_neg (show ¬ oq q < 6 by unfold oq; split <;> (try split) <;> omega), tln, List.length_cons]; omega
    · rfl
theorem stl_cnt {lo : Nat} (hlo : 21 ≤ lo) : ∀ (T : List Nat) (M : List (Nat × Nat × Nat)), cnt (stl lo T M).1 = cnt T := by
  intro T
  induction T with
  | nil => intro M; rfl
  | cons q T ih =>
    intro M
    rw [stl]
    split
    · rw [ih, cnt, if_neg (by omega), Nat.zero_add]
    · rfl
theorem stl_mem {lo : Nat} (hlo : 21 ≤ lo) : ∀ (T : List Nat) (M : List (Nat × Nat × Nat)), 40 ∈ (stl lo T M).1 ↔ 40 ∈ T := by
  intro T
  induction T with
  | nil => intro M; exact Iff.rfl
  | cons q T ih =>
    intro M
    rw [stl]
    split
    · rw [ih, List.mem_cons]
      exact ⟨Or.inr, fun z => z.resolve_left (by omega)⟩
    · exact Iff.rfl
theorem stl_2 : ∀ (T : List Nat) (M : List (Nat × Nat × Nat)), stl 21 (stl 22 T M).1 (stl 22 T M).2 = stl 21 T M := by
  intro T
  induction T with
  | nil => intro M; rfl
  | cons q T ih =>
    intro M
    rw [stl]
    split
    · rw [ih]
      exact (if_pos (show 21 ≤ q ∧ q ≤ 22 by omega)).symm
    · rfl
theorem stl_len {lo : Nat} : ∀ (T : List Nat) (M : List (Nat × Nat × Nat)), (stl lo T M).1.length ≤ T.length := by
  intro T
  induction T with
  | nil => intro M; exact Nat.le_refl 0
  | cons q T ih =>
    intro M
    rw [stl]
    split
    · have := ih (M ++ [(oq q, 0, 0)]); rw [List.length_cons]; omega
    · exact Nat.le_refl _
theorem w1_sz : ∀ (T : List Nat) (M : List (Nat × Nat × Nat)), tln (w1 T M).2 + (w1 T M).1.length = tln M + T.length ∧ (w1 T M).1.length ≤ T.length := by
  intro T
  induction T with
  | nil => intro M; exact ⟨rfl, Nat.le_refl 0⟩
  | cons q T ih =>
    intro M
    rw [w1]
    split
    · have := ih (M ++ [(6, 0, 0)])
      rw [tln_app, tln, if_neg (show ¬ (6 : Nat) < 6 by omega), tln] at this
      rw [List.length_cons]; omega
    · exact ⟨rfl, Nat.le_refl _⟩
/-- a joining word behind a whole one -/
theorem m_opr {lo a : Nat} (hlo : lo = 21 ∧ a = 10 ∨ lo = 22 ∧ a = 11) (h : Ms w P n t i T M c0) (hk : kk P n i = a) (hc : c0 + tln M + T.length ≤ 300) (hT : T.length ≤ 100) (f : Nat) : ∃ v, f_Model_either_h9 (f + 1) 1 1 w = f_Model_either_h9 f 0 1 v ∧ Ms v P n t (i + 1) (lo :: (stl lo T M).1) (stl lo T M).2 c0 ∧ Xm (1680 + 800 * t + 140) c0 v w := by
  obtain ⟨v1, e1, e2, e3⟩ := m_stl (lo := lo) (by omega) T M jfu w h hc hT (by unfold jfu; omega)
  have hl := stl_len (lo := lo) T M
  obtain ⟨⟨s1, s2, s3, s4, s5, s6, s7⟩, s8⟩ := e2
  obtain ⟨v2, d1, d2, d3⟩ := m_push (q := lo) s1 s2 s3 s4 (by rw [cnt, if_neg (by omega), Nat.zero_add]; exact s5) s6 s7 s8 (by omega) (by omega)
  obtain ⟨v3, f1, f2, f3⟩ := m_nx d2.1.1
  refine ⟨v3, ?_, Xt_Ms f2 d2 f3, Xm_t (Xm_x f2) (Xm_t d3 e3)⟩
  rw [m_B h.1 (by omega)]
  rcases hlo with ⟨rfl, rfl⟩ | ⟨rfl, rfl⟩
  · rw [if_neg (by omega), if_pos hk, show f_Model_settle 21 w = _ from e1, ob, f_Model_either_j190, show f_Model_push 21 v1 = _ from d1, ob, f1, ob]
  · rw [if_pos hk, show f_Model_settle 22 w = _ from e1, ob, f_Model_either_j190, show f_Model_push 22 v1 = _ from d1, ob, f1, ob]
/-- the end of a condition -/
theorem m_fin (h : Ms w P n t i T M c0) (h10 : kk P n i ≠ 10) (h11 : kk P n i ≠ 11) (h25 : ¬ (kk P n i = 25 ∧ 40 ∈ T)) (hc : c0 + tln M + T.length ≤ 300) (hT : T.length ≤ 100) (f : Nat) : ∃ v, f_Model_either_h9 (f + 2) 1 1 w = some (if (stl 21 T M).1 = [] then 0 else 1, v) ∧ Ms v P n t i (stl 21 T M).1 (stl 21 T M).2 c0 ∧ Xm (1680 + 800 * t + 140) c0 v w := by
  obtain ⟨v1, e1, e2, e3⟩ := m_stl (lo := 21) (by omega) T M jfu w h hc hT (by unfold jfu; omega)
  have hl := stl_len (lo := 21) T M
  refine ⟨v1, ?_, e2, e3⟩
  rw [m_B h.1 (by omega), if_neg h11, if_neg h10, if_neg h25, f_Model_either_h9, if_pos rfl, show f_Model_settle 21 w = _ from e1, ob, e2.1.2.2.2.2.2.1]
  cases hx : (stl 21 T M).1 with
  | nil => rw [if_pos (by decide), if_pos rfl]
  | cons q r =>
    rw [hx, List.length_cons] at hl
    rw [if_neg (show ¬ nI (q :: r).length ≤ 0 from fun z => by have := (nI_leI (b := 0) (by rw [List.length_cons]; omega) (by omega)).mp z; rw [List.length_cons] at this; omega), if_neg (by simp)]
/-- a closing one -/
theorem m_cls {M' : List (Nat × Nat × Nat)} (h : Ms w P n t i T M c0) (h25 : kk P n i = 25) (hs : stl 21 T M = (40 :: S, M')) (hc : c0 + tln M + T.length ≤ 300) (hT : T.length ≤ 100) (f : Nat) : ∃ v, f_Model_either_h9 (f + 1) 1 1 w = f_Model_either_h9 f 1 1 v ∧ Ms v P n t (i + 1) (w1 S M').1 (w1 S M').2 c0 ∧ Xm (1680 + 800 * t + 140) c0 v w := by
  obtain ⟨v1, e1, e2, e3⟩ := m_stl (lo := 21) (by omega) T M jfu w h hc hT (by unfold jfu; omega)
  have hl := stl_len (lo := 21) T M
  have hz := stl_sz (lo := 21) T M
  have hm : 40 ∈ T := (stl_mem (lo := 21) (by omega) T M).mp (by rw [hs]; simp)
  rw [hs] at e2 hl hz
  dsimp only at e2 hl hz
  rw [List.length_cons] at hl hz
  have h16 := e2.1.2.2.2.2.2.1
  have h15 := e2.1.2.2.2.2.1
  rw [List.length_cons] at h16
  rw [cnt, if_pos (Or.inr rfl), Nat.add_comm] at h15
  have h1 : Ms (jup (jup v1.1 93 16 (nI S.length)) 93 15 (nI (cnt S)), v1.2) P n t i S M' c0 := ⟨Mt_pop2 e2.1 (Or.inr rfl), by dsimp only; rw [jup_fn (by omega), jup_fn (by omega)]; exact e2.2⟩
  have X1 : Xm (1680 + 800 * t + 140) c0 (jup (jup v1.1 93 16 (nI S.length)) 93 15 (nI (cnt S)), v1.2) v1 := Xm_t (Xm_p (w := (jup v1.1 93 16 (nI S.length), v1.2)) (by omega)) (Xm_p (by omega))
  obtain ⟨v2, d1, d2, d3⟩ := m_w1 S M' jfu _ h1 (by omega) (by omega) (by unfold jfu; omega)
  obtain ⟨v3, f1, f2, f3⟩ := m_nx d2.1.1
  refine ⟨v3, ?_, Xt_Ms f2 d2 f3, Xm_t (Xm_x f2) (Xm_t d3 (Xm_t X1 e3))⟩
  rw [m_B h.1 (by omega), if_neg (by omega), if_neg (by omega), if_pos ⟨h25, hm⟩, show f_Model_settle 21 w = _ from e1, ob, jlw_e, jlw_e]
  dsimp only
  rw [jup_k (show (15 : Nat) ≠ 16 by omega), h16, h15, nI_pred, nI_pred, f_Model_whole1, d1, ob, f1, ob]
/-- a not or an opening one -/
theorem m_opn (h : Ms w P n t i T M c0) (hk : kk P n i = 12 ∨ kk P n i = 24) (hx : cnt T < 8) (hT : T.length ≤ 100) (f : Nat) : ∃ v, f_Model_either_h9 (f + 1) 0 1 w = f_Model_either_h9 f 0 1 v ∧ Ms v P n t (i + 1) ((if kk P n i = 12 then 30 else 40) :: T) M c0 ∧ Xm (1680 + 800 * t + 140) c0 v w := by
  obtain ⟨⟨s1, s2, s3, s4, s5, s6, s7⟩, s8⟩ := h
  obtain ⟨q, hq⟩ : ∃ q, q = (if kk P n i = 12 then 30 else 40) := ⟨_, rfl⟩
  have hq2 : q = 30 ∨ q = 40 := by rw [hq]; split <;> omega
  obtain ⟨v1, hv1⟩ : ∃ v1 : jW, v1 = (jup w.1 93 15 (nI (cnt T + 1)), w.2) := ⟨_, rfl⟩
  have X1 : Xm (1680 + 800 * t + 140) c0 v1 w := by rw [hv1]; exact Xm_p (by omega)
  have r93 : ∀ j, j ≠ 15 → v1.1 93 j = w.1 93 j := fun j hj => by rw [hv1]; dsimp only; rw [jup_k hj]
  have rb : ∀ b, b ≠ 93 → v1.1 b = w.1 b := fun b hb => by rw [hv1]; dsimp only; rw [jup_fn hb]
  obtain ⟨v2, d1, d2, d3⟩ := m_push (w := v1) (q := q) (M := M) (c0 := c0) (At_fr s1 (rb 97 (by omega)) (fun j hj => r93 j (by omega)) (by rw [hv1])) s2 ((r93 12 (by omega)).trans s3) ((r93 14 (by omega)).trans s4) (by rw [hv1]; dsimp only; rw [jup_eq, cnt, if_pos hq2, Nat.add_comm]) ((r93 16 (by omega)).trans s6) (by rw [rb 98 (by omega)]; exact s7) (by rw [rb 94 (by omega)]; exact s8) (by omega) (by omega)
  obtain ⟨v3, f1, f2, f3⟩ := m_nx d2.1.1
  rw [← hq]
  refine ⟨v3, ?_, Xt_Ms f2 d2 f3, Xm_t (Xm_x f2) (Xm_t d3 X1)⟩
  rw [m_A ⟨s1, s2, s3, s4, s5, s6, s7⟩, if_pos hk, f_Model_either_j85, s5, if_neg (show ¬ nI (cnt T) = 8 from nI_ne' (b := 8) (by omega) (by omega) (by omega)), jlw_e, ip_1, ← hv1]
  by_cases g : kk P n i = 12
  · rw [if_pos g] at hq
    subst hq
    rw [b2_p g, if_neg one_ne, f_Model_either_j118, show f_Model_push 30 v1 = _ from d1, ob, f1, ob]
  · rw [if_neg g] at hq
    subst hq
    rw [b2_n g, if_pos rfl, f_Model_either_j118, show f_Model_push 40 v1 = _ from d1, ob, f1, ob]
theorem m_deep (h : Ms w P n t i T M c0) (hk : kk P n i = 12 ∨ kk P n i = 24) (hx : cnt T = 8) (f : Nat) : f_Model_either_h9 (f + 1) 0 1 w = some (3, w) := by
  rw [m_A h.1, if_pos hk, f_Model_either_j85, h.1.2.2.2.2.1, hx, if_pos (show (nI 8 : Int32) = 8 from rfl)]
/-- what the reference's reader comes to, from where an operand is wanted -/
def Mw (P : Nat → Int32) (n t c0 R N : Nat) (G : Nat → Nat → Prs) : Prop := ∀ S M i (w : jW) F, Ms w P n t i S M c0 → i ≤ R → c0 + tln M + S.length ≤ i → S.length ≤ 3 * cnt S + 2 → cnt S ≤ 8 → 9 ≤ cnt S + N → 301 < F + i →
  ((G (cnt S) i).1 = 0 → ∃ g v, 301 < g + (G (cnt S) i).2.1 ∧ f_Model_either_h9 F 0 1 w = f_Model_either_h9 g 1 1 v ∧ Ms v P n t (G (cnt S) i).2.1 (w1 S (M ++ (G (cnt S) i).2.2)).1 (w1 S (M ++ (G (cnt S) i).2.2)).2 c0 ∧ Xm (1680 + 800 * t + 140) c0 v w) ∧
  ((G (cnt S) i).1 ≠ 0 → ∃ v, f_Model_either_h9 F 0 1 w = some (nI (G (cnt S) i).1, v) ∧ Ato v P n (G (cnt S) i).2.1 ∧ Xm (1680 + 800 * t + 140) c0 v w)
def Mc (P : Nat → Int32) (n t c0 R lo bd e N : Nat) (ok : List Nat → Prop) (G : Nat → Nat → Prs) : Prop := ∀ S M i (w : jW) F, Ms w P n t i S M c0 → i ≤ R → c0 + tln M + S.length ≤ i → S.length ≤ 3 * cnt S + bd → cnt S ≤ 8 → 9 ≤ cnt S + N → ok S → 301 < F + i →
  ((G (cnt S) i).1 = 0 → ∃ g v T' M', 301 < g + (G (cnt S) i).2.1 ∧ f_Model_either_h9 F 0 1 w = f_Model_either_h9 g 1 1 v ∧ Ms v P n t (G (cnt S) i).2.1 T' M' c0 ∧ stl lo T' M' = stl lo S (M ++ (G (cnt S) i).2.2) ∧ T'.length ≤ S.length + e ∧ Xm (1680 + 800 * t + 140) c0 v w) ∧
  ((G (cnt S) i).1 ≠ 0 → ∃ v, f_Model_either_h9 F 0 1 w = some (nI (G (cnt S) i).1, v) ∧ Ato v P n (G (cnt S) i).2.1 ∧ Xm (1680 + 800 * t + 140) c0 v w)
def okSn (S : List Nat) : Prop := ∀ q r, S = q :: r → q ≠ 30
def okB (S : List Nat) : Prop := ∀ q r, S = q :: r → q ≠ 30 ∧ q ≠ 22
def okE (S : List Nat) : Prop := ∀ q r, S = q :: r → q = 40
theorem okS_w (h : okSn S) (M : List (Nat × Nat × Nat)) : w1 S M = (S, M) := by
  cases S with
  | nil => rfl
  | cons q r => rw [w1, if_neg (h q r rfl)]
theorem okB_s (h : okB S) (M : List (Nat × Nat × Nat)) : stl 22 S M = (S, M) := by
  cases S with
  | nil => rfl
  | cons q r => rw [stl, if_neg (by have := (h q r rfl).2; omega)]
theorem okE_s (h : okE S) (M : List (Nat × Nat × Nat)) : stl 21 S M = (S, M) := by
  cases S with
  | nil => rfl
  | cons q r => rw [stl, if_neg (by have := h q r rfl; omega)]
theorem Mc_w {N : Nat} {G : Nat → Nat → Prs} (h : Mw P n t c0 R N G) : Mc P n t c0 R 22 2 0 N okSn G := by
  intro S M i w F h1 h2 h3 h4 h5 h6 h7 h8
  obtain ⟨a, b⟩ := h S M i w F h1 h2 h3 h4 h5 h6 h8
  refine ⟨fun z => ?_, b⟩
  obtain ⟨g, v, d1, d2, d3, d4⟩ := a z
  rw [okS_w h7] at d3
  exact ⟨g, v, _, _, d1, d2, d3, rfl, Nat.le_refl _, d4⟩
theorem Mc_l {bd e N : Nat} {ok : List Nat → Prop} {G : Nat → Nat → Prs} (h : Mc P n t c0 R 22 bd e N ok G) : Mc P n t c0 R 21 bd e N ok G := by
  intro S M i w F h1 h2 h3 h4 h5 h6 h7 h8
  obtain ⟨a, b⟩ := h S M i w F h1 h2 h3 h4 h5 h6 h7 h8
  refine ⟨fun z => ?_, b⟩
  obtain ⟨g, v, T', M', d1, d2, d3, d4, d5, d6⟩ := a z
  refine ⟨g, v, T', M', d1, d2, d3, ?_, d5, d6⟩
  rw [← stl_2 T' M', d4, stl_2]
theorem m_J {lo a o bd e N : Nat} {okG okJ : List Nat → Prop} {G : Nat → Nat → Prs} (hlo : lo = 21 ∧ a = 10 ∧ o = 8 ∨ lo = 22 ∧ a = 11 ∧ o = 7) (hk : kk P n R = 28) (hR : R ≤ 300) (hbd : bd + e ≤ 10) (hG : Mc P n t c0 R lo (bd + 1) e N okG G) (pG : Pg R G) (ok1 : ∀ S, okJ S → okG S ∧ okG (lo :: S) ∧ ∀ M, stl lo S M = (S, M)) : Mc P n t c0 R lo bd (e + 1) N okJ (pJr (kk P n) a o G) := by
  have eo : oq lo = o := by rcases hlo with ⟨rfl, _, rfl⟩ | ⟨rfl, _, rfl⟩ <;> rfl
  have ho : ¬ o < 6 := by rcases hlo with ⟨rfl, _, rfl⟩ | ⟨rfl, _, rfl⟩ <;> decide
  have h22 : lo ≤ 22 := by rcases hlo with ⟨rfl, _, rfl⟩ | ⟨rfl, _, rfl⟩ <;> decide
  have h3040 : ¬ (lo = 30 ∨ lo = 40) := by rcases hlo with ⟨rfl, _, rfl⟩ | ⟨rfl, _, rfl⟩ <;> decide
  have ha28 : a ≠ 28 := by rcases hlo with ⟨rfl, rfl, rfl⟩ | ⟨rfl, rfl, rfl⟩ <;> decide
  have hla : lo = 21 ∧ a = 10 ∨ lo = 22 ∧ a = 11 := by rcases hlo with ⟨rfl, rfl, rfl⟩ | ⟨rfl, rfl, rfl⟩ <;> simp
  clear hlo
  intro S M i w F h1 h2 h3 h4 h5 h6 h7 h8
  obtain ⟨o1, o2, o3⟩ := ok1 S h7
  clear ok1
  have loop : ∀ m i L F (v : jW) T' M', i ≤ R → 301 < F + i → Ms v P n t i T' M' c0 → stl lo T' M' = (S, M ++ L) → T'.length ≤ S.length + (e + 1) → c0 + tln (M ++ L) + S.length ≤ i → Xm (1680 + 800 * t + 140) c0 v w →
      ((pJ (kk P n) a o G (cnt S) m i L).1 = 0 → ∃ g v2 T' M', 301 < g + (pJ (kk P n) a o G (cnt S) m i L).2.1 ∧ f_Model_either_h9 F 1 1 v = f_Model_either_h9 g 1 1 v2 ∧ Ms v2 P n t (pJ (kk P n) a o G (cnt S) m i L).2.1 T' M' c0 ∧ stl lo T' M' = stl lo S (M ++ (pJ (kk P n) a o G (cnt S) m i L).2.2) ∧ T'.length ≤ S.length + (e + 1) ∧ Xm (1680 + 800 * t + 140) c0 v2 w) ∧
      ((pJ (kk P n) a o G (cnt S) m i L).1 ≠ 0 → ∃ v2, f_Model_either_h9 F 1 1 v = some (nI (pJ (kk P n) a o G (cnt S) m i L).1, v2) ∧ Ato v2 P n (pJ (kk P n) a o G (cnt S) m i L).2.1 ∧ Xm (1680 + 800 * t + 140) c0 v2 w) := by
    intro m
    induction m with
    | zero =>
      intro i L F v T' M' hi hF hM hs hl hz X
      rw [pJ]
      exact ⟨fun _ => ⟨F, v, T', M', hF, rfl, hM, by rw [o3]; exact hs, hl, X⟩, fun z => absurd rfl z⟩
    | succ m ih =>
      intro i L F v T' M' hi hF hM hs hl hz X
      rw [pJ]
      by_cases g : kk P n i = a
      rotate_left
      · rw [if_neg g]
        exact ⟨fun _ => ⟨F, v, T', M', hF, rfl, hM, by rw [o3]; exact hs, hl, X⟩, fun z => absurd rfl z⟩
      rw [if_pos g]
      obtain ⟨f, rfl⟩ : ∃ f, F = f + 1 := ⟨F - 1, by omega⟩
      have l1 := kR_s hk hi g ha28
      have sz := stl_sz (lo := lo) T' M'
      rw [hs] at sz
      dsimp only at sz
      obtain ⟨v1, e1, e2, e3⟩ := m_opr (lo := lo) (a := a) hla hM g (by omega) (by omega) f
      rw [hs] at e2
      dsimp only at e2
      have ec : cnt (lo :: S) = cnt S := by rw [cnt, if_neg h3040, Nat.zero_add]
      have q := hG (lo :: S) (M ++ L) (i + 1) v1 f e2 l1 (by rw [List.length_cons]; omega) (by rw [ec, List.length_cons]; omega) (by rw [ec]; exact h5) (by rw [ec]; exact h6) o2 (by omega)
      rw [ec] at q
      obtain ⟨g1, g2, g3, g4⟩ := pG (cnt S) (i + 1) l1
      by_cases g5 : (G (cnt S) (i + 1)).1 ≠ 0
      · rw [if_pos g5]
        obtain ⟨v2, d1, d2, d3⟩ := q.2 g5
        exact ⟨fun z => absurd z g5, fun _ => ⟨v2, e1.trans d1, d2, Xm_t d3 (Xm_t e3 X)⟩⟩
      rw [if_neg g5]
      have g6 := g4 (by omega)
      obtain ⟨g', v2, T2, M2, d1, d2, d3, d4, d5, d6⟩ := q.1 (by omega)
      rw [show stl lo (lo :: S) (M ++ L ++ (G (cnt S) (i + 1)).2.2) = stl lo S (M ++ L ++ (G (cnt S) (i + 1)).2.2 ++ [(oq lo, 0, 0)]) from if_pos ⟨Nat.le_refl _, h22⟩, o3, eo] at d4
      rw [List.length_cons] at d5
      have := ih (G (cnt S) (i + 1)).2.1 (L ++ (G (cnt S) (i + 1)).2.2 ++ [(o, 0, 0)]) g' v2 T2 M2 g3 d1 d3 (by rw [d4]; simp only [List.append_assoc]) (by omega) (by
        rw [tln_app] at hz
        rw [tln_app, tln_app, tln_app, tln, if_neg ho, tln]; omega) (Xm_t d6 (Xm_t e3 X))
      rw [e1, d2]
      exact this
  have q := hG S M i w F h1 h2 h3 (by omega) h5 h6 o1 h8
  obtain ⟨g1, g2, g3, g4⟩ := pG (cnt S) i h2
  unfold pJr
  by_cases g5 : (G (cnt S) i).1 ≠ 0
  · rw [if_pos g5]
    exact ⟨fun z => absurd z g5, fun _ => q.2 g5⟩
  rw [if_neg g5]
  have g6 := g4 (by omega)
  obtain ⟨g', v2, T2, M2, d1, d2, d3, d4, d5, d6⟩ := q.1 (by omega)
  rw [o3] at d4
  have := loop 300 (G (cnt S) i).2.1 (G (cnt S) i).2.2 g' v2 T2 M2 g3 d1 d3 d4 (by omega) (by rw [tln_app]; omega) d6
  rw [d2]
  exact this
theorem m_S {N : Nat} {GE GS : Nat → Nat → Prs} (hk : kk P n R = 28) (hR : R ≤ 300) (hE : Mc P n t c0 R 21 0 2 N okE GE) (hS : Mw P n t c0 R N GS) (pE : Pg R GE) (pS : Pg R GS) (e10 : Pe (kk P n) R 10 GE) (e11 : Pe (kk P n) R 11 GE) : Mw P n t c0 R (N + 1) (pSr (kk P n) (uu P n) GE GS) := by
  intro S M i w F h1 h2 h3 h4 h5 h6 h8
  obtain ⟨f, rfl⟩ : ∃ f, F = f + 1 := ⟨F - 1, by omega⟩
  unfold pSr
  by_cases g : kk P n i = 12 ∨ kk P n i = 24
  rotate_left
  · rw [if_neg g, m_A h1.1, if_neg g]
    have q := m_pC h1 hk h2 hR h3 (by omega)
    have r := pC_g (u := uu P n) hk 0 i h2
    dsimp only at r
    refine ⟨fun z => ?_, fun z => ?_⟩
    · obtain ⟨v, d1, d2, d3⟩ := q.1 z
      have l4 := r.2.2.2 z
      refine ⟨f, v, ?_, ?_, d2, d3⟩
      · have : 0 < tln (pC (kk P n) (uu P n) i).2.2 := by
          revert z
          unfold pC
          split
          · intro z; contradiction
          split
          · intro z; simp at z
          split
          · intro z; contradiction
          · intro _
            show 0 < tln [(kk P n (i + 1) - 18, _, _)]
            rw [tln, if_pos (by rename_i q1 q2 q3; show kk P n (i + 1) - 18 < 6; omega)]; omega
        omega
      · rw [d1, ob]; dsimp only; rw [if_pos rfl]
    · obtain ⟨v, d1, d2, d3⟩ := q.2 z
      refine ⟨v, ?_, d2, d3⟩
      rw [d1, ob]
      dsimp only
      rw [if_neg (show ¬ nI (pC (kk P n) (uu P n) i).1 = 0 from nI_ne' (b := 0) (by omega) (by omega) z)]
  rw [if_pos g]
  by_cases g1 : cnt S < 8
  rotate_left
  · rw [if_neg g1, m_deep h1 g (by omega)]
    exact ⟨fun z => (by simp at z), fun _ => ⟨w, rfl, h1.1.1, Xm_r⟩⟩
  rw [if_pos g1]
  have l1 : i + 1 ≤ R := by
    rcases g with g | g
    · exact kR_s hk h2 g (by omega)
    · exact kR_s hk h2 g (by omega)
  obtain ⟨v1, a1, a2, a3⟩ := m_opn h1 g g1 (by omega) f
  rw [a1]
  by_cases g2 : kk P n i = 24
  · rw [if_neg (by omega)] at a2
    have ec : cnt (40 :: S) = cnt S + 1 := by rw [cnt, if_pos (Or.inr rfl), Nat.add_comm]
    have q := hE (40 :: S) M (i + 1) v1 f a2 l1 (by rw [List.length_cons]; omega) (by rw [ec, List.length_cons]; omega) (by rw [ec]; omega) (by rw [ec]; omega) (fun q r z => by injection z with z1 z2; exact z1.symm) (by omega)
    rw [ec] at q
    obtain ⟨p1, p2, p3, p4⟩ := pE (cnt S + 1) (i + 1) l1
    rw [if_pos g2]
    by_cases g5 : (GE (cnt S + 1) (i + 1)).1 ≠ 0
    · rw [if_pos g5]
      obtain ⟨v2, d1, d2, d3⟩ := q.2 g5
      exact ⟨fun z => absurd z g5, fun _ => ⟨v2, d1, d2, Xm_t d3 a3⟩⟩
    rw [if_neg g5]
    have g6 := p4 (by omega)
    obtain ⟨g', v2, T2, M2, d1, d2, d3, d4, d5, d6⟩ := q.1 (by omega)
    rw [List.length_cons] at d5
    rw [stl, if_neg (show ¬ (21 ≤ 40 ∧ 40 ≤ 22) by omega)] at d4
    have sz := stl_sz (lo := 21) T2 M2
    rw [d4] at sz
    dsimp only at sz
    rw [List.length_cons, tln_app] at sz
    rw [d2]
    by_cases g7 : kk P n (GE (cnt S + 1) (i + 1)).2.1 = 25
    · rw [if_pos g7]
      obtain ⟨f', rfl⟩ : ∃ f', g' = f' + 1 := ⟨g' - 1, by omega⟩
      obtain ⟨v3, b1, b2, b3⟩ := m_cls d3 g7 d4 (by omega) (by omega) f'
      exact ⟨fun _ => ⟨f', v3, by show 301 < f' + ((GE (cnt S + 1) (i + 1)).2.1 + 1); omega, b1, b2, Xm_t b3 (Xm_t d6 a3)⟩, fun z => absurd rfl z⟩
    · rw [if_neg g7]
      obtain ⟨f', rfl⟩ : ∃ f', g' = f' + 2 := ⟨g' - 2, by omega⟩
      obtain ⟨v3, b1, b2, b3⟩ := m_fin d3 (e10 _ _ l1 (by omega)) (e11 _ _ l1 (by omega)) (fun z => g7 z.1) (by omega) (by omega) f'
      rw [d4, if_neg (by simp)] at b1
      exact ⟨fun z => (by simp at z), fun _ => ⟨v3, b1, b2.1.1, Xm_t b3 (Xm_t d6 a3)⟩⟩
  · have g12 : kk P n i = 12 := by omega
    rw [if_pos g12] at a2
    have ec : cnt (30 :: S) = cnt S + 1 := by rw [cnt, if_pos (Or.inl rfl), Nat.add_comm]
    have q := hS (30 :: S) M (i + 1) v1 f a2 l1 (by rw [List.length_cons]; omega) (by rw [ec, List.length_cons]; omega) (by rw [ec]; omega) (by rw [ec]; omega) (by omega)
    rw [ec] at q
    rw [if_neg g2]
    by_cases g5 : (GS (cnt S + 1) (i + 1)).1 ≠ 0
    · rw [if_pos g5]
      obtain ⟨v2, d1, d2, d3⟩ := q.2 g5
      exact ⟨fun z => absurd z g5, fun _ => ⟨v2, d1, d2, Xm_t d3 a3⟩⟩
    rw [if_neg g5]
    obtain ⟨g', v2, d1, d2, d3, d4⟩ := q.1 (by omega)
    rw [w1, if_pos rfl, List.append_assoc] at d3
    exact ⟨fun _ => ⟨g', v2, d1, d2, d3, Xm_t d4 a3⟩, fun z => absurd rfl z⟩
theorem m_prd (hk : kk P n R = 28) (hR : R ≤ 300) : ∀ N, Mw P n t c0 R N (prd (kk P n) (uu P n) N).1 ∧ Mc P n t c0 R 21 0 2 N okE (prd (kk P n) (uu P n) N).2 ∧ Pe (kk P n) R 10 (prd (kk P n) (uu P n) N).2 ∧ Pe (kk P n) R 11 (prd (kk P n) (uu P n) N).2 := by
  intro N
  induction N with
  | zero => exact ⟨fun S M i w F h1 h2 h3 h4 h5 h6 h8 => by omega, fun S M i w F h1 h2 h3 h4 h5 h6 h7 h8 => by omega, fun x i _ z => (by simp [prd] at z), fun x i _ z => (by simp [prd] at z)⟩
  | succ N ih =>
    have g := prd_g (u := uu P n) hk N
    have gS := pSr_g (u := uu P n) hk g.2 g.1
    have gB := pJr_g (c := 11) (o := 7) hk (by omega) (by omega) gS
    have hS := m_S hk hR ih.2.1 ih.1 g.2 g.1 ih.2.2.1 ih.2.2.2
    have hB : Mc P n t c0 R 22 1 1 (N + 1) okB (pJr (kk P n) 11 7 (pSr (kk P n) (uu P n) (prd (kk P n) (uu P n) N).2 (prd (kk P n) (uu P n) N).1)) := m_J (by omega) hk hR (by omega) (Mc_w hS) gS (fun S hs => ⟨fun q r z => (hs q r z).1, fun q r z => by injection z with z1 z2; omega, okB_s hs⟩)
    have hE : Mc P n t c0 R 21 0 2 (N + 1) okE (pJr (kk P n) 10 8 (pJr (kk P n) 11 7 (pSr (kk P n) (uu P n) (prd (kk P n) (uu P n) N).2 (prd (kk P n) (uu P n) N).1))) := m_J (by omega) hk hR (by omega) (Mc_l hB) gB (fun S hs => ⟨fun q r z => by have := hs q r z; omega, fun q r z => by injection z with z1 z2; omega, okE_s hs⟩)
    exact ⟨hS, hE, pJr_e hk (by omega) hR gB, pJr_d hk (by omega) gB (pJr_e hk (by omega) hR gS)⟩
/-- a condition read by the reference -/
theorem m_either {p : Nat} (hk : kk P n R = 28) (hR : R ≤ 300) (h0 : Ato w P n i) (ht : t < 10) (h12 : w.1 93 12 = nI (1680 + 800 * t)) (h14 : w.1 93 14 = nI p) (h15 : w.1 93 15 = nI 0) (hi : i ≤ R) (hp : p ≤ i) : (((prd (kk P n) (uu P n) 10).2 0 i).1 = 0 → ∃ v, f_Model_either w = some (0, v) ∧ Ms v P n t ((prd (kk P n) (uu P n) 10).2 0 i).2.1 [] ((prd (kk P n) (uu P n) 10).2 0 i).2.2 p ∧ Xm (1680 + 800 * t + 140) p v w) ∧ (((prd (kk P n) (uu P n) 10).2 0 i).1 ≠ 0 → ∃ v, f_Model_either w = some (nI ((prd (kk P n) (uu P n) 10).2 0 i).1, v) ∧ Ato v P n ((prd (kk P n) (uu P n) 10).2 0 i).2.1 ∧ Xm (1680 + 800 * t + 140) p v w) := by
  obtain ⟨v1, hv1⟩ : ∃ v1 : jW, v1 = (jup w.1 93 16 0, w.2) := ⟨_, rfl⟩
  have X1 : Xm (1680 + 800 * t + 140) p v1 w := by rw [hv1]; exact Xm_p (by omega)
  have r93 : ∀ j, j ≠ 16 → v1.1 93 j = w.1 93 j := fun j hj => by rw [hv1]; dsimp only; rw [jup_k hj]
  have rb : ∀ b, b ≠ 93 → v1.1 b = w.1 b := fun b hb => by rw [hv1]; dsimp only; rw [jup_fn hb]
  have S1 : Ms v1 P n t i [] [] p := ⟨⟨At_fr h0 (rb 97 (by omega)) (fun j hj => r93 j (by omega)) (by rw [hv1]), ht, (r93 12 (by omega)).trans h12, (r93 14 (by omega)).trans h14, (r93 15 (by omega)).trans h15, by rw [hv1]; dsimp only; rw [jup_eq]; rfl, trivial⟩, trivial⟩
  obtain ⟨_, hE, e10, e11⟩ := m_prd (t := t) (c0 := p) hk hR 10
  obtain ⟨p1, p2, p3, p4⟩ := (prd_g (u := uu P n) hk 10).2 0 i hi
  have q := hE [] [] i v1 jfu S1 hi (by show p + 0 + 0 ≤ i; omega) (by show 0 ≤ _; omega) (by show 0 ≤ 8; omega) (by show 9 ≤ 0 + 10; omega) (fun q r z => absurd z (by simp)) (by unfold jfu; omega)
  rw [f_Model_either, jlw_e, ← hv1]
  refine ⟨fun z => ?_, fun z => ?_⟩
  · obtain ⟨g', v2, T2, M2, d1, d2, d3, d4, d5, d6⟩ := q.1 z
    change 301 < g' + ((prd (kk P n) (uu P n) 10).2 0 i).2.1 at d1
    change Ms v2 P n t ((prd (kk P n) (uu P n) 10).2 0 i).2.1 T2 M2 p at d3
    change stl 21 T2 M2 = ([], ((prd (kk P n) (uu P n) 10).2 0 i).2.2) at d4
    change T2.length ≤ 0 + 2 at d5
    have p5 := p4 z
    have sz := stl_sz (lo := 21) T2 M2
    have hm := stl_mem (lo := 21) (by omega) T2 M2
    rw [d4] at sz hm
    change tln ((prd (kk P n) (uu P n) 10).2 0 i).2.2 + 0 = _ at sz
    obtain ⟨f', rfl⟩ : ∃ f', g' = f' + 2 := ⟨g' - 2, by omega⟩
    obtain ⟨v3, b1, b2, b3⟩ := m_fin d3 (e10 0 i hi z) (e11 0 i hi z) (fun y => by have := hm.mpr y.2; simp at this) (by omega) (by omega) f'
    rw [d4] at b1 b2
    exact ⟨v3, d2.trans b1, b2, Xm_t b3 (Xm_t d6 X1)⟩
  · obtain ⟨v2, d1, d2, d3⟩ := q.2 z
    exact ⟨v2, d1, d2, Xm_t d3 X1⟩
end MR

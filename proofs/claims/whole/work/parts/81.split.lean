/-! LAYER B: the class's table of tokens -/
section SP
variable {w v z0 : jW} {P : Nat → Int32} {n : Nat}
/-- the class's kind of the token that starts at s -/
def ckF (P : Nat → Int32) (n s : Nat) : Int32 := if svF P n s < 0 then 28 else if dgB (svF P n s) = true then 27 else if ltB (svF P n s) = true then ixF (ltF P n (n - s) s) wls 0 else sgF P n s
/-- where the i-th token starts -/
def tkS (P : Nat → Int32) (n : Nat) : Nat → Nat
  | 0 => rn blB P n 0
  | i + 1 => rn blB P n (nxF P n (tkS P n i))
def Trw (v : jW) (P : Nat → Int32) (n i s : Nat) : Prop := v.1 82 (i * 3) = ckF P n s ∧ v.1 82 (i * 3 + 1) = nI s ∧ (ckF P n s = 27 → v.1 82 (i * 3 + 2) = nI (min 10000 (nuF P n (n - s) s 0)))
/-- only the tokens' table and the place differ -/
def Xs (v w : jW) : Prop := (∀ b, b ≠ 78 → b ≠ 81 → b ≠ 82 → v.1 b = w.1 b) ∧ (∀ j, j ≠ 2 → v.1 78 j = w.1 78 j) ∧ v.2 = w.2
theorem Xs_t {u : jW} (h : Xs u v) (g : Xs v w) : Xs u w := ⟨fun b q1 q2 q3 => (h.1 b q1 q2 q3).trans (g.1 b q1 q2 q3), fun j q => (h.2.1 j q).trans (g.2.1 j q), h.2.2.trans g.2.2⟩
theorem Xs_c (h : Xc v w) : Xs v w := ⟨fun b q1 _ _ => h.1 b q1, h.2.1, h.2.2⟩
theorem Xs_Tc (h : Xs v w) (ht : Tc w P n) : Tc v P n := ⟨JR_eq ht.1 (h.1 79 (by omega) (by omega) (by omega)), fun k hk => by rw [h.1 80 (by omega) (by omega) (by omega)]; exact ht.2 k hk⟩
theorem nx_gt {s : Nat} (hs : s < n) (h0 : ¬ svF P n s < 0) : s < nxF P n s ∧ nxF P n s ≤ n ∨ s < nxF P n s ∧ nxF P n s = s + 2 ∧ svF P n (s + 1) = 61 := by
  unfold nxF
  rw [if_neg h0]
  by_cases g2 : dgB (svF P n s) = true
  · rw [if_pos g2, rn_s g2 hs]
    have := rn_b (g := dgB) (P := P) (n := n) (p := s + 1) (by omega)
    exact Or.inl ⟨by omega, by omega⟩
  by_cases g3 : ltB (svF P n s) = true
  · rw [if_neg g2, if_pos g3, rn_s g3 hs]
    have := rn_b (g := ltB) (P := P) (n := n) (p := s + 1) (by omega)
    exact Or.inl ⟨by omega, by omega⟩
  rw [if_neg g2, if_neg g3]
  split
  · rename_i q; exact Or.inr ⟨by omega, rfl, q.2⟩
  · exact Or.inl ⟨by omega, by omega⟩
theorem nx_le {s : Nat} (hs : s < n) (h0 : ¬ svF P n s < 0) : s < nxF P n s ∧ nxF P n s ≤ n := by
  rcases nx_gt hs h0 with h | ⟨h1, h2, h3⟩
  · exact h
  · refine ⟨h1, ?_⟩
    by_cases z : s + 1 < n
    · omega
    · rw [svF_n (by omega)] at h3; exact absurd h3 (by decide)
theorem tkS_le : ∀ i, tkS P n i ≤ n := by
  intro i
  induction i with
  | zero => exact (rn_b (Nat.zero_le n)).2
  | succ i ih =>
    rw [tkS]
    by_cases h0 : svF P n (tkS P n i) < 0
    · have : nxF P n (tkS P n i) = tkS P n i := by unfold nxF; rw [if_pos h0]
      rw [this]; exact (rn_b ih).2
    · have hs : tkS P n i < n := by
        by_cases z : tkS P n i < n
        · exact z
        · rw [svF_n (by omega)] at h0; exact absurd (by decide) h0
      exact (rn_b (nx_le hs h0).2).2
/-- a row opened: an end at the place p -/
theorem c_row {r p : Nat} (h : JR w 81 3 301 r) (hr : r < 301) (h7 : w.1 78 2 = nI p) : ∃ u0 u : jW, f_Rows_open 81 28 w = some (nI r, u0) ∧ f_Rows_put 81 (nI r) 1 (u0.1 78 2) u0 = some u ∧ JR u 81 3 301 (r + 1) ∧ u.1 82 (r * 3) = 28 ∧ u.1 82 (r * 3 + 1) = nI p ∧ (∀ j, j < r * 3 → u.1 82 j = w.1 82 j) ∧ Xs u w ∧ u.1 78 = w.1 78 := by
  obtain ⟨u0, e1, e2, e3⟩ := ap_open h hr 28
  have e78 : u0.1 78 = w.1 78 := by rw [show u0 = jrow w 81 3 r 28 from by have := (r_open h hr 28).symm.trans e1; simpa using this.symm]; funext j; unfold jrow; dsimp only; rw [if_neg (by omega), if_neg (by omega)]
  have e0 : u0 = jrow w 81 3 r 28 := by have := (r_open h hr 28).symm.trans e1; simpa using this.symm
  refine ⟨u0, (jup u0.1 82 (r * 3 + 1) (u0.1 78 2), u0.2), e1, r_put e3 (i := r) (j := 1) (by omega) (by omega) _, ⟨?_, ?_, e3.2.2⟩, ?_, ?_, ?_, ⟨?_, ?_, ?_⟩, ?_⟩
  · dsimp only; rw [jup_ne (by omega)]; exact e3.1
  · dsimp only; rw [jup_ne (by omega)]; exact e3.2.1
  · dsimp only; rw [jup_k (by omega), e0]; unfold jrow; dsimp only; rw [if_neg (by omega), if_pos (by omega), if_pos (by omega)]
  · dsimp only; rw [jup_eq, e78]; exact h7
  · intro j hj; dsimp only; rw [jup_k (by omega), e0]; unfold jrow; dsimp only; rw [if_neg (by omega), if_neg (by omega)]
  · intro b q1 q2 q3; dsimp only; rw [jup_fn q3, e0]; funext j; unfold jrow; dsimp only; rw [if_neg (by omega), if_neg (by omega)]
  · intro j _; dsimp only; rw [jup_ne (by omega), e78]
  · rw [e0]; rfl
  · dsimp only; rw [jup_fn (by omega)]; exact e78
/-- a cell of the last row put -/
theorem c_cell {r : Nat} (h : JR w 81 3 301 (r + 1)) {j : Nat} (hj : j < 3) (x : Int32) : f_Rows_put 81 (nI r) (nI j) x w = some (jup w.1 82 (r * 3 + j) x, w.2) ∧ JR (jup w.1 82 (r * 3 + j) x, w.2) 81 3 301 (r + 1) ∧ Xs (jup w.1 82 (r * 3 + j) x, w.2) w := by
  refine ⟨r_put h (by omega) hj x, ⟨?_, ?_, h.2.2⟩, ⟨?_, ?_, rfl⟩⟩
  · dsimp only; rw [jup_ne (by omega)]; exact h.1
  · dsimp only; rw [jup_ne (by omega)]; exact h.2.1
  · intro b _ _ q3; dsimp only; rw [jup_fn q3]
  · intro i _; dsimp only; rw [jup_ne (by omega)]
theorem ix_27 {L : List Nat} : ∀ (r : List (List Nat)) i, i + r.length ≤ 20 → ixF L r i ≠ 27 := by
  intro r
  induction r with
  | nil => intro i _; show (29 : Int32) ≠ 27; decide
  | cons W r ih =>
    intro i h
    rw [List.length_cons] at h
    rw [ixF]
    split
    · exact nI_ne' (b := 27) (by omega) (by omega) (by omega)
    · exact ih (i + 1) (by omega)
theorem sg_27 {s : Nat} : sgF P n s ≠ 27 := by
  unfold sgF
  repeat' split
  all_goals decide
theorem c_tok {r p k f : Nat} (ht : Tc w P n) (h : JR w 81 3 301 r) (hr : r < 301) (hp : p < n) (hk : k ≤ 300) (h7 : w.1 78 2 = nI p) (hb : ¬ blB (svF P n p) = true) (h0 : ¬ svF P n p < 0) : ∃ v : jW, f_Tokens_split_h15 (f + 1) (nI k) w = f_Tokens_split_h15 f (nI (k + 1)) v ∧ JR v 81 3 301 (r + 1) ∧ Trw v P n r p ∧ (∀ j, j < r * 3 → v.1 82 j = w.1 82 j) ∧ Xs v w ∧ v.1 78 2 = nI (nxF P n p) := by
  have h3 := ht.1.2.2.1
  obtain ⟨u0, u, a1, a2, a3, a4, a5, a6, a7, a8⟩ := c_row h hr h7
  have tu := Xs_Tc a7 ht
  have u7 : u.1 78 2 = nI p := by rw [a8]; exact h7
  have n32 : ¬ svF P n p = 32 := fun z => hb (by rw [z]; decide)
  have n10 : ¬ svF P n p = 10 := fun z => hb (by rw [z]; decide)
  have n1 : ¬ svF P n p = -1 := fun z => h0 (by rw [z]; decide)
  rw [f_Tokens_split_h15, if_pos (show nI k ≤ 300 from (nI_leI (b := 300) (by omega) (by omega)).mpr hk), h7, c_at79 ht (by omega), ob]
  dsimp only
  rw [a1, ob]
  dsimp only
  rw [a2, ob, if_neg n1, if_neg n32, if_neg n10, c_lt, ob]
  dsimp only
  -- the end of all three: the kind put last
  have fin : ∀ (u1 : jW) (kd : Int32), JR u1 81 3 301 (r + 1) → u1.1 82 (r * 3 + 1) = nI p → (∀ j, j < r * 3 → u1.1 82 j = w.1 82 j) → Xs u1 w → u1.1 78 2 = nI (nxF P n p) → kd = ckF P n p → kd ≠ 27 → ∃ v : jW, (Option.bind (f_Rows_put 81 (nI r) 0 kd u1) fun q => f_Tokens_split_h15 f (nI k + 1) q) = f_Tokens_split_h15 f (nI (k + 1)) v ∧ JR v 81 3 301 (r + 1) ∧ Trw v P n r p ∧ (∀ j, j < r * 3 → v.1 82 j = w.1 82 j) ∧ Xs v w ∧ v.1 78 2 = nI (nxF P n p) := fun u1 kd q1 q2 q3 q4 q5 q6 q7 => by
    obtain ⟨d1, d2, d3⟩ := c_cell q1 (j := 0) (by omega) kd
    rw [show f_Rows_put 81 (nI r) 0 kd u1 = _ from d1, ob, ip_1]
    refine ⟨_, rfl, d2, ⟨?_, ?_, fun z => absurd (q6.trans z) q7⟩, fun j hj => ?_, Xs_t d3 q4, ?_⟩
    · dsimp only; rw [Nat.add_zero, jup_eq]; exact q6
    · dsimp only; rw [jup_k (by omega)]; exact q2
    · dsimp only; rw [jup_k (by omega)]; exact q3 j hj
    · dsimp only; rw [jup_ne (by omega)]; exact q5
  by_cases g3 : ltB (svF P n p) = true
  · have g2 : ¬ dgB (svF P n p) = true := by
      obtain ⟨b, b1, b2, b3⟩ := lt_n g3
      intro z
      obtain ⟨a, c1, c2⟩ := dg_n z
      rw [b1] at c1
      have := (nI_eq (by omega) (by omega)).mp c1
      omega
    obtain ⟨v, r1, r2, r3⟩ := c_h7 (s := p) (n - p) p 0 jfu u tu rfl (by omega) (by omega) (by unfold jfu; omega) u7
    have ew : f_Tokens_takeWord u = some (ckF P n p, v) := by
      rw [f_Tokens_takeWord, u7, show (0 : Int32) = nI 0 from rfl, r1, c_j48 (Xc_Tc r2 tu) (by omega) r3, ckF, if_neg h0, if_neg g2, if_pos g3]
    rw [if_pos g3, if_neg one_ne, ew, ob]
    dsimp only
    refine fin v _ (JR_eq a3 (r2.1 81 (by omega))) (by rw [r2.1 82 (by omega)]; exact a5) (fun j hj => by rw [r2.1 82 (by omega)]; exact a6 j hj) (Xs_t (Xs_c r2) a7) ?_ rfl ?_
    · rw [r3, nxF, if_neg h0, if_neg g2, if_pos g3]
    · rw [ckF, if_neg h0, if_neg g2, if_pos g3]; exact ix_27 wls 0 (by decide)
  rw [if_neg g3, if_pos rfl, c_dg, ob]
  dsimp only
  by_cases g2 : dgB (svF P n p) = true
  rotate_left
  · obtain ⟨v, r1, r2, r3⟩ := c_sign tu (s := p) (by omega) u7
    rw [if_neg g2, if_pos rfl, r1, ob]
    dsimp only
    refine fin v _ (JR_eq a3 (r2.1 81 (by omega))) (by rw [r2.1 82 (by omega)]; exact a5) (fun j hj => by rw [r2.1 82 (by omega)]; exact a6 j hj) (Xs_t (Xs_c r2) a7) ?_ ?_ ?_
    · rw [r3, nxF, if_neg h0, if_neg g2, if_neg g3]
    · rw [ckF, if_neg h0, if_neg g2, if_neg g3]
    · exact sg_27
  have k27 : ckF P n p = 27 := by rw [ckF, if_neg h0, if_pos g2]
  obtain ⟨d1, d2, d3⟩ := c_cell a3 (j := 0) (by omega) 27
  obtain ⟨u1, hu1⟩ : ∃ u1 : jW, u1 = (jup u.1 82 (r * 3 + 0) 27, u.2) := ⟨_, rfl⟩
  rw [← hu1] at d1 d2 d3
  have t1 := Xs_Tc d3 tu
  obtain ⟨v, r1, r2, r3⟩ := c_h4 (n - p) p 0 jfu 0 u1 t1 rfl (by omega) (by omega) (by unfold jfu; omega) (by omega) (by rw [hu1]; dsimp only; rw [jup_ne (by omega)]; exact u7)
  have ec : cmF P n (n - p) p 0 = min 10000 (nuF P n (n - p) p 0) := cn_nu (P := P) (n := n) (n - p) p 0
  obtain ⟨b1, b2, b3⟩ := c_cell (JR_eq d2 (r2.1 81 (by omega))) (j := 2) (by omega) (nI (cmF P n (n - p) p 0))
  have v82 : v.1 82 = u1.1 82 := r2.1 82 (by omega)
  rw [if_pos g2, if_neg one_ne, show f_Rows_put 81 (nI r) 0 27 u = _ from d1, ob, f_Tokens_takeNumber, show f_Tokens_takeNumber_h4 jfu 0 0 u1 = _ from r1, ob]
  dsimp only
  rw [show f_Rows_put 81 (nI r) 2 (nI (cmF P n (n - p) p 0)) v = _ from b1, ob, ip_1]
  refine ⟨_, rfl, b2, ⟨?_, ?_, fun _ => ?_⟩, fun j hj => ?_, Xs_t b3 (Xs_t (Xs_c r2) (Xs_t d3 a7)), ?_⟩
  · dsimp only; rw [jup_k (by omega), v82, hu1, k27]; dsimp only; rw [Nat.add_zero, jup_eq]
  · dsimp only; rw [jup_k (by omega), v82, hu1]; dsimp only; rw [jup_k (by omega)]; exact a5
  · dsimp only; rw [jup_eq, ec]
  · dsimp only; rw [jup_k (by omega), v82, hu1]; dsimp only; rw [jup_k (by omega)]; exact a6 j hj
  · dsimp only; rw [jup_ne (by omega), r3, nxF, if_neg h0, if_pos g2]
theorem c_split (hP : ∀ k, k < n → vb (P k) 0 255) : ∀ m p k f r (w : jW), n - p ≤ m → p ≤ n → k ≤ p → r ≤ k → m < f → Tc w P n → JR w 81 3 301 r → w.1 78 2 = nI p → rn blB P n p = tkS P n r → (∀ i, i < r → Trw w P n i (tkS P n i) ∧ ¬ svF P n (tkS P n i) < 0) → ∃ (v : jW) (R : Nat), f_Tokens_split_h15 f (nI k) w = some v ∧ JR v 81 3 301 (R + 1) ∧ (∀ i, i ≤ R → Trw v P n i (tkS P n i)) ∧ (∀ i, i < R → ¬ svF P n (tkS P n i) < 0) ∧ svF P n (tkS P n R) < 0 ∧ Xs v w := by
  have fr : ∀ (u w : jW) (r i s : Nat), (∀ j, j < r * 3 → u.1 82 j = w.1 82 j) → i < r → Trw w P n i s → Trw u P n i s := fun u w r i s h hi q => ⟨(h _ (by omega)).trans q.1, (h _ (by omega)).trans q.2.1, fun z => (h _ (by omega)).trans (q.2.2 z)⟩
  have stop : ∀ p k f r (w : jW), n = p → k ≤ p → r ≤ k → 0 < f → Tc w P n → JR w 81 3 301 r → w.1 78 2 = nI p → rn blB P n p = tkS P n r → (∀ i, i < r → Trw w P n i (tkS P n i) ∧ ¬ svF P n (tkS P n i) < 0) → ∃ (v : jW) (R : Nat), f_Tokens_split_h15 f (nI k) w = some v ∧ JR v 81 3 301 (R + 1) ∧ (∀ i, i ≤ R → Trw v P n i (tkS P n i)) ∧ (∀ i, i < R → ¬ svF P n (tkS P n i) < 0) ∧ svF P n (tkS P n R) < 0 ∧ Xs v w := by
    intro p k f r w hn hk hr hf ht h h7 hs hrow
    obtain ⟨f, rfl⟩ : ∃ j, f = j + 1 := ⟨f - 1, by omega⟩
    have h3 := ht.1.2.2.1
    obtain ⟨u0, u, a1, a2, a3, a4, a5, a6, a7, a8⟩ := c_row h (by omega) h7
    have sm : svF P n p = -1 := svF_n (by omega)
    have sp : tkS P n r = p := by rw [← hs]; exact rn_e (by rw [sm]; decide)
    refine ⟨u, r, ?_, a3, fun i hi => ?_, fun i hi => (hrow i hi).2, by rw [sp, sm]; decide, a7⟩
    · rw [f_Tokens_split_h15, if_pos (show nI k ≤ 300 from (nI_leI (b := 300) (by omega) (by omega)).mpr (by omega)), h7, c_at79 ht (by omega), ob]
      dsimp only
      rw [a1, ob]
      dsimp only
      rw [a2, ob, if_pos sm]
    · by_cases z : i = r
      · have k28 : ckF P n p = 28 := by rw [ckF, sm, if_pos (by decide)]
        rw [z, sp]
        exact ⟨by rw [k28]; exact a4, a5, fun y => absurd (k28.symm.trans y) (by decide)⟩
      · exact fr u w r i _ a6 (by omega) (hrow i (by omega)).1
  intro m
  induction m with
  | zero =>
    intro p k f r w hm hp hk hr hf ht h h7 hs hrow
    exact stop p k f r w (by omega) hk hr hf ht h h7 hs hrow
  | succ m ih =>
    intro p k f r w hm hp hk hr hf ht h h7 hs hrow
    by_cases hn : n = p
    · exact stop p k f r w hn hk hr (by omega) ht h h7 hs hrow
    have h3 := ht.1.2.2.1
    obtain ⟨f, rfl⟩ : ∃ j, f = j + 1 := ⟨f - 1, by omega⟩
    by_cases hb : blB (svF P n p) = true
    · obtain ⟨u0, u, a1, a2, a3, a4, a5, a6, a7, a8⟩ := c_row h (by omega) h7
      have ecut := c_cut a3 (m := r) (by omega)
      obtain ⟨v1, hv1⟩ : ∃ v1 : jW, v1 = (jup (jup u.1 81 2 (nI r)) 78 2 (nI (p + 1)), u.2) := ⟨_, rfl⟩
      have x1 : Xs v1 w := by
        refine Xs_t ⟨fun b q1 q2 _ => ?_, fun j q => ?_, ?_⟩ a7
        · rw [hv1]; dsimp only; rw [jup_fn q1, jup_fn q2]
        · rw [hv1]; dsimp only; rw [jup_k q, jup_ne (by omega)]
        · rw [hv1]
      have n1 : ¬ svF P n p = -1 := fun z => by rw [z] at hb; exact absurd hb (by decide)
      have j1 : JR v1 81 3 301 r := by
        refine ⟨?_, ?_, by omega, h.2.2.2⟩
        · rw [hv1]; dsimp only; rw [jup_ne (by omega), jup_k (by omega)]; exact a3.1
        · rw [hv1]; dsimp only; rw [jup_ne (by omega), jup_eq]
      have c1 : ∀ j, j < r * 3 → v1.1 82 j = w.1 82 j := fun j hj => by rw [hv1]; dsimp only; rw [jup_ne (by omega), jup_ne (by omega)]; exact a6 j hj
      obtain ⟨v, R, r1, r2, r3, r4, r5, r6⟩ := ih (p + 1) (k + 1) f r v1 (by omega) (by omega) (by omega) (by omega) (by omega) (Xs_Tc x1 ht) j1 (by rw [hv1]; dsimp only; rw [jup_eq]) (by rw [← rn_s hb (by omega)]; exact hs) (fun i hi => ⟨fr v1 w r i _ c1 hi (hrow i hi).1, (hrow i hi).2⟩)
      refine ⟨v, R, ?_, r2, r3, r4, r5, Xs_t r6 x1⟩
      have e76 : f_Tokens_split_j76 (f_Tokens_split_h15 f) (nI k) (nI r) u = some v := by
        rw [f_Tokens_split_j76, ecut, ob, jlw_e]
        dsimp only
        rw [jup_ne (show (78 : Nat) ≠ 81 by omega), a8, h7, ip_1, ip_1, ← hv1]
        exact r1
      rw [f_Tokens_split_h15, if_pos (show nI k ≤ 300 from (nI_leI (b := 300) (by omega) (by omega)).mpr (by omega)), h7, c_at79 ht (by omega), ob]
      dsimp only
      rw [a1, ob]
      dsimp only
      rw [a2, ob, if_neg n1, e76]
      split
      · rfl
      · rw [if_pos]
        unfold blB at hb
        rename_i q
        rw [decide_eq_false q, Bool.false_or] at hb
        exact of_decide_eq_true hb
    · have h0 : ¬ svF P n p < 0 := by
        obtain ⟨a, q1, _, q2⟩ := hP p (by omega)
        rw [svF, if_pos (by omega), q1]
        exact nI_pos (by omega)
      have sp : tkS P n r = p := by rw [← hs]; exact rn_e hb
      obtain ⟨v1, r1, r2, r3, r4, r5, r6⟩ := c_tok (k := k) (f := f) ht h (by omega) (by omega) (by omega) h7 hb h0
      have hx := nx_le (P := P) (n := n) (s := p) (by omega) h0
      obtain ⟨v, R, y1, y2, y3, y4, y5, y6⟩ := ih (nxF P n p) (k + 1) f (r + 1) v1 (by omega) hx.2 (by omega) (by omega) (by omega) (Xs_Tc r5 ht) r2 r6 (by rw [tkS, sp]) (fun i hi => by
        by_cases z : i = r
        · rw [z, sp]; exact ⟨r3, h0⟩
        · exact ⟨fr v1 w r i _ r4 (by omega) (hrow i (by omega)).1, (hrow i (by omega)).2⟩)
      exact ⟨v, R, r1.trans y1, y2, y3, y4, y5, Xs_t y6 r5⟩
end SP

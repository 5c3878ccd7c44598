/-! LAYER B: text, on both sides -/
section TE
variable {w v : jW} {c ci : Nat → Nat} {K n R : Nat} {P : Nat → Int32}
theorem kk_R (h : svF P n (tkS P n R) < 0) : kk P n R = 28 := kd_w (by omega) (by rw [ckF, if_pos h]; rfl)
theorem Tt_of (J : JR w 81 3 301 (R + 1)) (h : ∀ i, i ≤ R → Trw w P n i (tkS P n i)) (hR : svF P n (tkS P n R) < 0) : Tt w (kk P n) (uu P n) (tkS P n) R := by
  refine ⟨J, fun i hi => ⟨?_, (h i hi).2.1, fun z => ?_⟩, kk_R hR, fun i => kd_k.2.1, fun i => Nat.min_le_left _ _⟩
  · rw [(h i hi).1]; exact kd_k.1
  · refine (h i hi).2.2 ?_
    rw [kd_k.1]
    show nI (kk P n i) = 27
    rw [z]; rfl
theorem Tt_eq {k u st : Nat → Nat} (T : Tt w k u st R) (e1 : v.1 81 = w.1 81) (e2 : v.1 82 = w.1 82) : Tt v k u st R := ⟨JR_eq T.1 e1, fun i hi => by rw [e2]; exact T.2.1 i hi, T.2.2⟩
/-- the class reads its tape -/
theorem c_readT {m1 m2 m3 : Nat} (J79 : JR w 79 1 300 n) (J74 : JR w 74 4 16 m1) (J76 : JR w 76 1 300 m2) (J81 : JR w 81 3 301 m3) (hc : ∀ k, k < n → w.1 80 k = P k) (hP : ∀ k, k < n → vb (P k) 0 255) : ∃ R, R ≤ 300 ∧ kk P n R = 28 ∧
    ((ptx (kk P n) (uu P n) 17 0 0 []).1 = 0 → ∃ v p', f_Reader_read w = some (1, v) ∧ v.1 73 2 = 1 ∧ v.1 73 3 = 0 ∧ v.1 73 4 = -1 ∧ (ptx (kk P n) (uu P n) 17 0 0 []).2.2.length ≤ 16 ∧ p' ≤ 300 ∧ JR v 74 4 16 (ptx (kk P n) (uu P n) 17 0 0 []).2.2.length ∧ JR v 76 1 300 p' ∧ (∀ r e, (ptx (kk P n) (uu P n) 17 0 0 []).2.2[r]? = some e → Rci v r e ∧ e.2.1 + tln e.2.2.2.2.2.2.2 ≤ p' ∧ Git e) ∧ JR v 79 1 300 n ∧ JR v 81 3 301 (R + 1) ∧ (∀ b, b < 73 ∨ 82 < b → v.1 b = w.1 b)) ∧
    ((ptx (kk P n) (uu P n) 17 0 0 []).1 ≠ 0 → ∃ v c j, f_Reader_read w = some (0, v) ∧ v.1 73 2 = 1 ∧ v.1 73 3 = nI (ptx (kk P n) (uu P n) 17 0 0 []).1 ∧ (ptx (kk P n) (uu P n) 17 0 0 []).1 ≤ 4 ∧ v.1 73 4 = nI (tkS P n (ptx (kk P n) (uu P n) 17 0 0 []).2.1) ∧ JR v 74 4 16 j ∧ JR v 76 1 300 c ∧ JR v 79 1 300 n ∧ JR v 81 3 301 (R + 1) ∧ (∀ b, b < 73 ∨ 82 < b → v.1 b = w.1 b)) := by
  obtain ⟨v1, R, e1, J1, h1, h2, h3, X1⟩ := c_splitA hP ⟨J79, hc⟩ J81
  have T1 := Tt_of J1 h1 h3
  obtain ⟨w7, hw7⟩ : ∃ w7 : jW, w7 = (jup (jup (jup (jup (jup v1.1 73 7 0) 74 2 (nI 0)) 76 2 (nI 0)) 73 2 1) 73 3 0, v1.2) := ⟨_, rfl⟩
  have rb : ∀ b, b ≠ 73 → b ≠ 74 → b ≠ 76 → w7.1 b = v1.1 b := fun b q1 q2 q3 => by rw [hw7]; dsimp only; rw [jup_fn q1, jup_fn q1, jup_fn q3, jup_fn q2, jup_fn q1]
  have J74' : JR v1 74 4 16 m1 := JR_eq J74 (X1.1 74 (by omega) (by omega) (by omega))
  have J76' : JR v1 76 1 300 m2 := JR_eq J76 (X1.1 76 (by omega) (by omega) (by omega))
  have K4 : JR w7 74 4 16 0 := by
    refine ⟨?_, ?_, by omega, J74.2.2.2⟩
    · rw [hw7]; dsimp only; rw [jup_ne (by omega), jup_ne (by omega), jup_ne (by omega), jup_k (by omega), jup_ne (by omega)]; exact J74'.1
    · rw [hw7]; dsimp only; rw [jup_ne (by omega), jup_ne (by omega), jup_ne (by omega), jup_eq]
  have K6 : JR w7 76 1 300 0 := by
    refine ⟨?_, ?_, by omega, J76.2.2.2⟩
    · rw [hw7]; dsimp only; rw [jup_ne (by omega), jup_ne (by omega), jup_k (by omega), jup_ne (by omega), jup_ne (by omega)]; exact J76'.1
    · rw [hw7]; dsimp only; rw [jup_ne (by omega), jup_ne (by omega), jup_eq]
  have a7 : w7.1 73 7 = nI 0 := by rw [hw7]; dsimp only; rw [jup_k (by omega), jup_k (by omega), jup_ne (by omega), jup_ne (by omega), jup_eq]; rfl
  have a3 : w7.1 73 3 = 0 := by rw [hw7]; dsimp only; rw [jup_eq]
  have a2 : w7.1 73 2 = 1 := by rw [hw7]; dsimp only; rw [jup_k (by omega), jup_eq]
  have er : f_Reader_read w = f_Reader_read_h40 jfu (nI ([] : List It).length) w7 := by
    rw [f_Reader_read, e1, ob, jlw_e]
    rw [show f_Rows_cut 74 0 _ = _ from c_cut (m := 0) (JR_73 (j := 7) (x := 0) (by omega) J74') (by omega), ob]
    rw [show f_Rows_cut 76 0 _ = _ from c_cut (m := 0) (w := (jup (jup v1.1 73 7 0) 74 2 (nI 0), v1.2)) (n := m2) (W := 1) (cap := 300) (JR_eq J76' (by dsimp only; rw [jup_fn (by omega), jup_fn (by omega)])) (by omega), ob, if_pos (by decide), jlw_e, jlw_e]
    dsimp only
    rw [← hw7]
    rfl
  obtain ⟨q1, q2⟩ := c_loop (st := tkS P n) (R := R) 17 0 0 [] jfu w7 rfl (by show 0 ≤ 16; omega) (by unfold jfu; omega) (Tt_eq T1 (rb 81 (by omega) (by omega) (by omega)) (rb 82 (by omega) (by omega) (by omega))) (Nat.zero_le _) a7 a3 K4 K6 (Nat.le_refl _) (fun (r : Nat) (e : It) he => absurd he (by simp))
  have J79' : JR v1 79 1 300 n := JR_eq J79 (X1.1 79 (by omega) (by omega) (by omega))
  refine ⟨R, Tt_R T1, T1.2.2.1, fun z => ?_, fun z => ?_⟩
  · obtain ⟨v, p', d1, d2, d3, d4, d5, d6, d7, d8, d9⟩ := q1 z
    exact ⟨v, p', er.trans d1, (d9.2.1 2 (by omega) (by omega) (by omega)).trans a2, d2, d3, d4, d5, d6, d7, d8, JR_eq J79' ((d9.1 79 (by omega)).trans (rb 79 (by omega) (by omega) (by omega))), JR_eq J1 ((d9.1 81 (by omega)).trans (rb 81 (by omega) (by omega) (by omega))), fun b hb => ((d9.1 b (by omega)).trans (rb b (by omega) (by omega) (by omega))).trans (X1.1 b (by omega) (by omega) (by omega))⟩
  · obtain ⟨v, cc, j, d1, d2, d3, d4, d5, d6, d7, d8⟩ := q2 z
    exact ⟨v, cc, j, er.trans d1, (d8.2.1 2 (by omega) (by omega) (by omega)).trans a2, d2, d3, d5, d6, d7, JR_eq J79' ((d8.1 79 (by omega)).trans (rb 79 (by omega) (by omega) (by omega))), JR_eq J1 ((d8.1 81 (by omega)).trans (rb 81 (by omega) (by omega) (by omega))), fun b hb => ((d8.1 b (by omega)).trans (rb b (by omega) (by omega) (by omega))).trans (X1.1 b (by omega) (by omega) (by omega))⟩
/-- the reference reads its tape -/
theorem m_readT {t : Nat} (hp : w.1 97 = P) (ht : Tp w n) (h6 : w.1 94 6 = nI t) (h10 : t < 10) (hk : kk P n R = 28) (hR : R ≤ 300) :
    ((ptx (kk P n) (uu P n) 17 0 0 []).1 = 0 → ∃ v, f_Model_readText w = some (0, v) ∧ v.1 93 12 = nI (1680 + 800 * t) ∧ v.1 93 13 = nI (ptx (kk P n) (uu P n) 17 0 0 []).2.2.length ∧ (∀ r e, (ptx (kk P n) (uu P n) 17 0 0 []).2.2[r]? = some e → Rmi (v.1 94) t r e) ∧ (∀ b, b ≠ 93 → b ≠ 94 → b ≠ 98 → v.1 b = w.1 b) ∧ ∀ q, q < 1680 + 800 * t + 2 ∨ 1680 + 800 * t + 800 ≤ q → v.1 94 q = w.1 94 q) ∧
    ((ptx (kk P n) (uu P n) 17 0 0 []).1 ≠ 0 → ∃ v, f_Model_readText w = some (nI (ptx (kk P n) (uu P n) 17 0 0 []).1, v) ∧ v.1 93 8 = nI (tkS P n (ptx (kk P n) (uu P n) 17 0 0 []).2.1) ∧ (∀ b, b ≠ 93 → b ≠ 94 → b ≠ 98 → v.1 b = w.1 b) ∧ ∀ q, q < 1680 + 800 * t + 2 ∨ 1680 + 800 * t + 800 ≤ q → v.1 94 q = w.1 94 q) := by
  obtain ⟨w6, hw6⟩ : ∃ w6 : jW, w6 = (jup (jup (jup (jup (jup w.1 93 12 (nI (1680 + 800 * t))) 93 13 0) 93 14 0) 93 15 0) 93 7 0, w.2) := ⟨_, rfl⟩
  have rb : ∀ b, b ≠ 93 → w6.1 b = w.1 b := fun b q => by rw [hw6]; dsimp only; rw [jup_fn q, jup_fn q, jup_fn q, jup_fn q, jup_fn q]
  have a4 : w6.1 93 4 = nI n := by rw [hw6]; dsimp only; rw [jup_k (by omega), jup_k (by omega), jup_k (by omega), jup_k (by omega), jup_k (by omega)]; exact ht.1
  have a7 : w6.1 93 7 = nI 0 := by rw [hw6]; dsimp only; rw [jup_eq]; rfl
  have a12 : w6.1 93 12 = nI (1680 + 800 * t) := by rw [hw6]; dsimp only; rw [jup_k (by omega), jup_k (by omega), jup_k (by omega), jup_k (by omega), jup_eq]
  have a13 : w6.1 93 13 = nI 0 := by rw [hw6]; dsimp only; rw [jup_k (by omega), jup_k (by omega), jup_k (by omega), jup_eq]; rfl
  have a14 : w6.1 93 14 = nI 0 := by rw [hw6]; dsimp only; rw [jup_k (by omega), jup_k (by omega), jup_eq]; rfl
  have a15 : w6.1 93 15 = nI 0 := by rw [hw6]; dsimp only; rw [jup_k (by omega), jup_eq]; rfl
  have e97 : w6.1 97 = w.1 97 := rb 97 (by omega)
  have t6 : Tp w6 n := ⟨a4, ht.2.1, by rw [e97]; exact ht.2.2⟩
  obtain ⟨v1, r1, r2, r3⟩ := m_next n 0 jfu w6 t6 (by omega) (by omega) (by have := ht.2.1; unfold jfu; omega) a7
  have A1 : Ato v1 P n 0 := ⟨(r2.1 97 (by omega)).trans (e97.trans hp), Xt_Tp r2 t6, by rw [e97, hp] at r3; exact r3⟩
  have k93 : ∀ j, j = 12 ∨ j = 13 ∨ j = 14 ∨ j = 15 → v1.1 93 j = w6.1 93 j := fun j hj => r2.2 j (by omega) (by omega) (by omega) (by omega)
  have er : f_Model_readText w = f_Model_readText_h43 jfu v1 := by
    rw [f_Model_readText, if_pos (by decide), jlw_e, jlw_e, jlw_e, jlw_e, jlw_e]
    dsimp only
    rw [show Int32.toNatClampNeg 6 = 6 from rfl, h6, show (1680 : Int32) + 800 * nI t = nI (1680 + 800 * t) from by rw [show (800 : Int32) * nI t = nI (800 * t) from nI_mul 800 t]; exact nI_add 1680 (800 * t), ← hw6, f_Model_nextToken, r1, ob]
  obtain ⟨q1, q2⟩ := m_loop hk hR h10 17 0 0 [] jfu v1 rfl (by show 0 ≤ 16; omega) (by unfold jfu; omega) A1 (Nat.zero_le _) ((k93 12 (by omega)).trans a12) ((k93 13 (by omega)).trans a13) ((k93 14 (by omega)).trans a14) ((k93 15 (by omega)).trans a15) (Nat.le_refl _) (fun (r : Nat) (e : It) he => absurd he (by simp))
  have e94 : v1.1 94 = w.1 94 := (r2.1 94 (by omega)).trans (rb 94 (by omega))
  refine ⟨fun z => ?_, fun z => ?_⟩
  · obtain ⟨v, d1, d2, d3, d4, d5⟩ := q1 z
    exact ⟨v, er.trans d1, d2, d3, d4, fun b y1 y2 y3 => (d5.1 b y1 y2 y3).trans ((r2.1 b y1).trans (rb b y1)), fun q hq => by rw [d5.2.2 q (by omega), e94]⟩
  · obtain ⟨v, d1, d2, d3, d4⟩ := q2 z
    exact ⟨v, er.trans d1, d3, fun b y1 y2 y3 => (d4.1 b y1 y2 y3).trans ((r2.1 b y1).trans (rb b y1)), fun q hq => by rw [d4.2.2 q (by omega), e94]⟩
theorem tkc_sh {f g : Nat → Int32} {o : Nat} : ∀ (L : List (Nat × Nat × Nat)) (p : Nat), (∀ j, p ≤ j → j < p + tln L → g (o + j) = f j) → tkc f p L → tkc g (o + p) L := by
  intro L
  induction L with
  | nil => intro p _ _; trivial
  | cons t L ih =>
    intro p hg h
    rw [tkc] at h ⊢
    rw [tln] at hg
    by_cases q : t.1 < 6
    · rw [if_pos q] at h hg ⊢
      rw [hg _ (by omega) (by omega), show o + p + 1 = o + (p + 1) by omega, show o + p + 2 = o + (p + 2) by omega, show o + p + 3 = o + (p + 3) by omega, hg _ (by omega) (by omega), hg _ (by omega) (by omega)]
      exact ⟨h.1, h.2.1, h.2.2.1, ih _ (fun j h1 h2 => hg j (by omega) (by omega)) h.2.2.2⟩
    · rw [if_neg q] at h hg ⊢
      rw [hg _ (by omega) (by omega), show o + p + 1 = o + (p + 1) by omega]
      exact ⟨h.1, ih _ (fun j h1 h2 => hg j (by omega) (by omega)) h.2⟩
/-- a new text on both sides -/
theorem Rtx_new {A : Nat → Int32} {t cs ks p' d : Nat} {l : List It} {f77 : Nat → Int32} (ht : t < 10) (hl : l.length ≤ 16) (hp : p' ≤ 300) (hd : d ≤ 1999) (hr : ∀ (r : Nat) (e : It), l[r]? = some e → tkc f77 e.2.1 e.2.2.2.2.2.2.2 ∧ e.2.1 + tln e.2.2.2.2.2.2.2 ≤ p' ∧ Git e) (b1 : A (1680 + 800 * t) = nI l.length) (b2 : A (1680 + 800 * t + 1) = nI d) (b3 : w.1 18 (t * 4) = nI d) (b4 : w.1 18 (t * 4 + 1) = nI (kdn l l.length)) (b5 : w.1 18 (t * 4 + 2) = nI cs) (b6 : w.1 18 (t * 4 + 3) = nI (cs + l.length)) (b7 : ∀ (r : Nat) (e : It), l[r]? = some e → ∀ q, q < 4 → w.1 20 ((cs + r) * 4 + q) = nI (rwA e.1 e.2.1 ks e.2.2 q)) (b8 : ∀ r, r < p' → w.1 22 (ks + r) = f77 r) (b9 : ∀ (r : Nat) (e : It), l[r]? = some e → Rmi A t r e) : Rtx w 3 A t l.length cs ks (cs + l.length) (ks + p') := by
  have ge : ∀ i, i < l.length → ∃ e, l[i]? = some e := fun i hi => ⟨l[i], List.getElem?_eq_getElem hi⟩
  have h7 : ∀ i, saL l i < 7 := fun i => by
    unfold saL
    cases hx : l[i]? with
    | none => show 0 < 7; omega
    | some e => exact (hr i e hx).2.2.1
  refine ⟨b1, hl, Nat.le_refl _, ⟨d, b2, by omega, hd⟩, b3.trans b2.symm, b5, b6, ⟨kdn l l.length, b4, kdn_lt h7 _, fun k hk => ?_⟩, fun i hi => ?_⟩
  · rw [kdn_b]
    constructor
    · rintro ⟨r, h1, h2⟩
      obtain ⟨e, he⟩ := ge r h1
      rw [saL_e he] at h2
      exact ⟨r, h1, by rw [(b9 r e he).1, h2]⟩
    · rintro ⟨r, h1, h2⟩
      obtain ⟨e, he⟩ := ge r h1
      have hs := (hr r e he).2.2.1
      rw [(b9 r e he).1] at h2
      have := (nI_eq (by omega) (by omega)).mp h2
      exact ⟨r, h1, by rw [saL_e he]; omega⟩
  · obtain ⟨e, he⟩ := ge i hi
    obtain ⟨k1, k2, hs, g1, g2, g3, g4, g5⟩ := hr i e he
    obtain ⟨m1, m2, m3, m4, m5⟩ := b9 i e he
    have c0 := b7 i e he 0 (by omega)
    have c1 := b7 i e he 1 (by omega)
    have c2 := b7 i e he 2 (by omega)
    have c3 := b7 i e he 3 (by omega)
    have n0 : rwA e.1 e.2.1 ks e.2.2 0 = e.1 := by unfold rwA; rw [if_neg (by omega)]; rfl
    have n1 : ¬ (e.1 = 0 ∨ e.1 = 4) → rwA e.1 e.2.1 ks e.2.2 1 = e.2.2.2.2.1 := fun z => by unfold rwA rwF; simp [z]
    have n2 : ¬ (e.1 = 0 ∨ e.1 = 4) → rwA e.1 e.2.1 ks e.2.2 2 = e.2.2.2.2.2.1 := fun z => by unfold rwA rwF; simp [z]
    have n3 : rwA e.1 e.2.1 ks e.2.2 3 = e.2.2.2.2.2.2.1 := by unfold rwA rwF; rw [if_neg (by omega), if_neg (by omega), if_neg (by omega), if_neg (by omega)]; rfl
    have o1 : (e.1 = 0 ∨ e.1 = 4) → rwA e.1 e.2.1 ks e.2.2 1 = ks + e.2.1 := fun z => by unfold rwA rwF; simp [z, Nat.add_comm]
    have o2 : (e.1 = 0 ∨ e.1 = 4) → rwA e.1 e.2.1 ks e.2.2 2 = ks + e.2.1 + tln e.2.2.2.2.2.2.2 := fun z => by unfold rwA rwF; simp [z]; omega
    refine ⟨e.1 + 1, m1, by omega, by omega, ?_, fun z => ?_, fun z => ?_, fun z => ?_, fun z => ?_⟩
    · rw [n0] at c0; exact c0
    · have z1 : e.1 = 1 := by omega
      obtain ⟨y1, y2, y3⟩ := g1 z1
      have x1 := m3 (by omega) (by omega)
      have x2 := m4 (Or.inl z1)
      have x3 := m5 z1
      rw [n1 (by omega)] at c1
      rw [n2 (by omega)] at c2
      rw [n3] at c3
      exact ⟨c1.trans x1.symm, c2.trans x2.symm, c3.trans x3.symm, ⟨_, x1, by omega, y1⟩, ⟨_, x2, by omega, y2⟩, ⟨_, x3, by omega, y3⟩⟩
    · have x1 := m3 (by omega) (by omega)
      rw [n1 (by omega)] at c1
      exact ⟨c1.trans x1.symm, ⟨_, x1, by omega, g2 (by omega)⟩⟩
    · have z5 : e.1 = 5 := by omega
      have x2 := m4 (Or.inr z5)
      rw [n2 (by omega)] at c2
      exact ⟨c2.trans x2.symm, ⟨_, x2, by omega, g3 z5⟩⟩
    · have z0 : e.1 = 0 ∨ e.1 = 4 := by omega
      obtain ⟨y1, y2, y3⟩ := m2 z0
      rw [o1 z0] at c1
      rw [o2 z0] at c2
      exact ⟨e.2.2.2.2.2.2.2, e.2.1, y1, y2, c1, c2, tkc_sh _ _ (fun j q1 q2 => b8 j (by omega)) k1, y3, g4 z0, by omega, by omega⟩
theorem Rmi_e {A A' : Nat → Int32} {t r : Nat} {e : It} (hr : r < 16) (he : e.2.1 + tln e.2.2.2.2.2.2.2 ≤ 300) (hA : ∀ q, 1680 + 800 * t + 2 ≤ q → q < 1680 + 800 * t + 800 → A' q = A q) (h : Rmi A t r e) : Rmi A' t r e := by
  obtain ⟨h1, h2, h3, h4, h5⟩ := h
  refine ⟨by rw [hA _ (by omega) (by omega)]; exact h1, fun z => ⟨?_, ?_, ?_⟩, fun z1 z2 => ?_, fun z => ?_, fun z => ?_⟩
  · rw [hA _ (by omega) (by omega)]; exact (h2 z).1
  · rw [hA _ (by omega) (by omega)]; exact (h2 z).2.1
  · exact tkm_tr _ _ (fun q q1 q2 => hA q (by omega) (by omega)) (h2 z).2.2
  · rw [hA _ (by omega) (by omega)]; exact h3 z1 z2
  · rw [hA _ (by omega) (by omega)]; exact h4 z
  · rw [hA _ (by omega) (by omega)]; exact h5 z
theorem x0 {x : Int32} {a : Nat} (ha : a < 2 ^ 31) (h : ¬ x < nI a) : ¬ x < 0 := fun z => h (by
  rw [Int32.lt_iff_toInt_lt] at z ⊢
  rw [nI_toInt ha]
  have : (0 : Int32).toInt = 0 := by decide
  omega)
theorem q_text : Tx := by
  intro w c ci K x h hK
  have H := h.1
  have l0 := l_0 H
  have l6 := l_6 H
  obtain ⟨n, m1, m2, m3, J79, J74, J76, J81, e4, htp⟩ := h.2.2.1
  have n300 : n ≤ 300 := J79.2.2.1
  have e0 : w.1 3 0 = nI (c 0) := (p_Rscal H).1.trans (h_0 H)
  have e00 : w.1 94 0 = nI (c 0) := h_0 H
  have e6 : w.1 94 6 = nI (c 6) := h_6 H
  obtain ⟨cs, ks, J17, J19, J21, hcs, hks, htx⟩ := p_Rtext H
  have J17 : JR w 17 4 10 (c 6) := J17
  have J19 : JR w 19 4 160 cs := J19
  have J21 : JR w 21 1 3000 ks := J21
  have in0 : jal [jin 0 21000] = true := by decide
  have in6 : jal [jin 6 21000] = true := by decide
  by_cases g1 : ¬ x < nI (c 0) ∧ x ≤ 1999
  rotate_left
  · refine Cal_f h hK (x := -1) ?_ ?_
    · rw [f_Count_text, e0]
      by_cases z : x < nI (c 0)
      · rw [if_pos z]
      · rw [if_neg z, if_neg (fun y => g1 ⟨z, y⟩)]
    · rw [f_Model_text, if_pos in0, show Int32.toNatClampNeg 0 = 0 from rfl, e00, m_isIn, ob, b2_n g1, if_pos rfl]
  obtain ⟨d, hd, rfl⟩ := rngle (n := 1999) (by omega) ⟨x0 (by omega) g1.1, g1.2⟩
  by_cases g6 : c 6 = 10
  · refine Cal_f h hK (x := -1) ?_ ?_
    · rw [f_Count_text, e0, if_neg g1.1, if_pos g1.2, r_full J17, ob, b2_p g6, if_neg one_ne]
    · rw [f_Model_text, if_pos in0, show Int32.toNatClampNeg 0 = 0 from rfl, e00, m_isIn, ob, b2_p g1, if_neg one_ne, if_pos in6, show Int32.toNatClampNeg 6 = 6 from rfl]
      dsimp only
      rw [if_pos (by rw [e6, g6]; rfl)]
  have c10 : c 6 < 10 := by omega
  obtain ⟨R, hR, hk, C1, C2⟩ := c_readT (P := w.1 97) J79 J74 J76 J81 (fun k hk => (htp k hk).1) (fun k hk => (htp k hk).2)
  have M : ∀ u : jW, u.1 93 = w.1 93 → u.1 94 = w.1 94 → u.1 97 = w.1 97 → _ := fun u y1 y2 y3 => m_readT (w := u) (P := w.1 97) (n := n) (R := R) (t := c 6) y3 ⟨by rw [y1]; exact e4, n300, fun k hk => by rw [y3]; exact (htp k hk).2⟩ (by rw [y2]; exact e6) c10 hk hR
  obtain ⟨r, hr⟩ : ∃ r, r = ptx (kk (w.1 97) n) (uu (w.1 97) n) 17 0 0 [] := ⟨_, rfl⟩
  rw [← hr] at C1 C2 M
  have mt : ∀ u : jW, u.1 94 = w.1 94 → f_Model_text (nI d) u = Option.bind (f_Model_readText u) fun q4 => jlw ((jup q4.2.1 93 5 q4.1), q4.2.2) fun w5 => if (w5.1 93 5) = 0 then f_Model_text_j54 (nI d) (-1) w5 else f_Model_text_j54 (nI d) (w5.1 93 8) w5 := fun u y2 => by
    rw [f_Model_text, if_pos in0, show Int32.toNatClampNeg 0 = 0 from rfl, y2, e00, m_isIn, ob, b2_p g1, if_neg one_ne, if_pos in6, show Int32.toNatClampNeg 6 = 6 from rfl]
    dsimp only
    rw [if_neg (by rw [y2, e6]; exact nI_ne' (b := 10) (by omega) (by omega) g6)]
  have ct : f_Count_text (nI d) w = Option.bind (f_Reader_read w) fun q2 => Option.bind (f_Rows_cut 79 0 q2.2) fun q3 => if q2.1 = 0 then some ((-1), q3) else Option.bind (f_Treaty_adopt (nI d) q3) fun q4 => some (q4.1, q4.2) := by
    rw [f_Count_text, e0, if_neg g1.1, if_pos g1.2, r_full J17, ob, b2_n g6, if_pos rfl]
  by_cases g : r.1 = 0
  · -- a text that is read
    obtain ⟨v, p', d1, d2, d3, d4, d5, d6, d7, d8, d9, d10, d11, d12⟩ := C1 g
    clear C1 C2
    have cl16 : cs + r.2.2.length ≤ 160 := by omega
    have kp30 : ks + p' ≤ 3000 := by omega
    obtain ⟨v2, hv2⟩ : ∃ v2 : jW, v2 = (jup v.1 79 2 (nI 0), v.2) := ⟨_, rfl⟩
    have f2 : ∀ b, b ≠ 79 → v2.1 b = v.1 b := fun b q => by rw [hv2]; dsimp only; rw [jup_fn q]
    have cut : f_Rows_cut 79 0 v = some v2 := by rw [hv2]; exact c_cut (m := 0) d10 (by omega)
    obtain ⟨v3, a1, a2, a3, a4, a5, a6, a7, a8, a9, a10, a11, a12, a13, a14⟩ := c_adopt (w := v2) (l := r.2.2) (nt := c 6) (cs := cs) (ks := ks) (p' := p') (JR_eq J17 ((f2 17 (by omega)).trans (d12 17 (by omega)))) c10 (JR_eq J19 ((f2 19 (by omega)).trans (d12 19 (by omega)))) (JR_eq J21 ((f2 21 (by omega)).trans (d12 21 (by omega)))) (JR_eq d7 (f2 74 (by omega))) (JR_eq d8 (f2 76 (by omega))) cl16 kp30 (fun r' e he => by
      obtain ⟨⟨y1, y2⟩, y3⟩ := d9 r' e he
      exact ⟨⟨fun q hq => by rw [f2 75 (by omega)]; exact y1 q hq, by rw [f2 77 (by omega)]; exact y2⟩, y3⟩) (nI d)
    have f3 : ∀ b, b < 73 ∨ 82 < b → ¬ (17 ≤ b ∧ b ≤ 22) → v3.1 b = w.1 b := fun b q1 q2 => (a14 b q2).trans ((f2 b (by omega)).trans (d12 b q1))
    obtain ⟨v4, b1, b2, b3, b4, b5, b6⟩ := (M v3 (f3 93 (by omega) (by omega)) (f3 94 (by omega) (by omega)) (f3 97 (by omega) (by omega))).1 g
    have h46 : v4.1 94 6 = nI (c 6) := by rw [b6 6 (by omega), f3 94 (by omega) (by omega)]; exact e6
    obtain ⟨w13, hw⟩ : ∃ w13 : jW, w13 = (jup (jup (jup (jup (jup (jup v4.1 93 5 0) 93 6 (-1)) 93 4 0) 94 (1680 + 800 * c 6) (nI r.2.2.length)) 94 (1680 + 800 * c 6 + 1) (nI d)) 94 6 (nI (c 6 + 1)), v4.2) := ⟨_, rfl⟩
    have em : f_Model_text (nI d) v3 = some (nI (c 6), w13) := by
      rw [mt v3 (f3 94 (by omega) (by omega)), b1, ob, jlw_e]
      dsimp only
      rw [if_pos (show jup v4.1 93 5 0 93 5 = 0 from jup_eq), f_Model_text_j54, jlw_e, jlw_e]
      dsimp only
      rw [if_pos (show jup (jup (jup v4.1 93 5 0) 93 6 (-1)) 93 4 0 93 5 = 0 by rw [jup_k (by omega), jup_k (by omega), jup_eq])]
      simp (disch := omega) only [ia_1, ia_2, ia_3, ia_4, ia_5, ia_6, ia_7, ia_8, ia_9, ia_20, ia_40, ia_120, ia_140, ia_240, ia_720, ia_1520, ia_1680, ia_9680, ia_11280, ia_12480, ia_12880, ia_13080, ia_20760, ia_20880, ip_0, ip_1, ip_2, ip_3, ip_4, ip_5, ip_6, ip_7, ip_8, ip_9, ip_140, im_2, im_4, im_8, im_12, im_800, nI_clamp, jin_nI, jal_c, jal_n, Bool.and_true, if_true, ob, jlw_e, jk_0, jk_1, jk_2, jk_3, jk_4, jk_5, jk_6, jk_7, jk_8, jk_9, jk_10, jk_11, jk_12, jk_13, jk_14, jk_15, jk_16, jk_17, jk_18, jk_19, jg_0, jg_1, jg_2, jg_3, jg_4, jg_5, jg_6, jg_7, jg_8, jg_9, jg_10, jg_11, jg_12, jg_13, jg_14, jg_15, jg_16, jg_17, jg_18, jg_19, b2, b3, h46, jup_eq, jup_k, jup_ne, nI_add, show Int32.toNatClampNeg 6 = 6 from rfl, show jin 6 21000 = true by decide]
      rw [hw, nI_pred]
    have r13 : ∀ b, b ≠ 93 → b ≠ 94 → b ≠ 98 → w13.1 b = v3.1 b := fun b q1 q2 q3 => by rw [hw]; dsimp only; rw [jup_fn q2, jup_fn q2, jup_fn q2, jup_fn q1, jup_fn q1, jup_fn q1]; exact b5 b q1 q2 q3
    have s94 : ∀ k, k ≠ 6 → k ≠ 1680 + 800 * c 6 → k ≠ 1680 + 800 * c 6 + 1 → w13.1 94 k = v4.1 94 k := fun k q1 q2 q3 => by rw [hw]; dsimp only; rw [jup_k q1, jup_k q3, jup_k q2, jup_ne (by omega), jup_ne (by omega), jup_ne (by omega)]
    have A6 : w13.1 94 6 = nI (c 6 + 1) := by rw [hw]; dsimp only; rw [jup_eq]
    have T0 : w13.1 94 (1680 + 800 * c 6) = nI r.2.2.length := by rw [hw]; dsimp only; rw [jup_k (by omega), jup_k (by omega), jup_eq]
    have T1 : w13.1 94 (1680 + 800 * c 6 + 1) = nI d := by rw [hw]; dsimp only; rw [jup_k (by omega), jup_eq]
    have M5 : w13.1 93 5 = 0 := by rw [hw]; dsimp only; rw [jup_ne (by omega), jup_ne (by omega), jup_ne (by omega), jup_k (by omega), jup_k (by omega), jup_eq]
    have M6 : w13.1 93 6 = -1 := by rw [hw]; dsimp only; rw [jup_ne (by omega), jup_ne (by omega), jup_ne (by omega), jup_k (by omega), jup_eq]
    have M4 : w13.1 93 4 = 0 := by rw [hw]; dsimp only; rw [jup_ne (by omega), jup_ne (by omega), jup_ne (by omega), jup_eq]
    have o94 : ∀ k, k < 1680 + 800 * c 6 ∨ 1680 + 800 * c 6 + 800 ≤ k → k ≠ 6 → w13.1 94 k = w.1 94 k := fun k q1 q2 => by rw [s94 k q2 (by omega) (by omega), b6 k (by omega), f3 94 (by omega) (by omega)]
    have ec6 : cup c 6 (c 6 + 1) 6 = c 6 + 1 := if_pos rfl
    have f18 : ∀ j, v2.1 18 j = w.1 18 j := fun j => by rw [f2 18 (by omega), d12 18 (by omega)]
    have f20 : ∀ j, v2.1 20 j = w.1 20 j := fun j => by rw [f2 20 (by omega), d12 20 (by omega)]
    have f22 : ∀ j, v2.1 22 j = w.1 22 j := fun j => by rw [f2 22 (by omega), d12 22 (by omega)]
    have tx : Rtext w13 3 (w13.1 94) (cup c 6 (c 6 + 1)) := by
      refine ⟨cs + r.2.2.length, ks + p', ?_, JR_eq a3 (r13 19 (by omega) (by omega) (by omega)), JR_eq a4 (r13 21 (by omega) (by omega) (by omega)), ?_, ?_, fun t ht => ?_⟩
      · rw [ec6]; exact JR_eq a2 (r13 17 (by omega) (by omega) (by omega))
      · rw [ec6]; omega
      · rw [ec6]; omega
      rw [ec6] at ht
      by_cases z : t = c 6
      · rw [z]
        refine ⟨r.2.2.length, cs, ks, Rtx_new (f77 := v2.1 77) c10 d5 d6 hd (fun r' e he => ?_) T0 T1 ?_ ?_ ?_ ?_ (fun r' e he q hq => ?_) (fun r' hr' => ?_) (fun r' e he => ?_)⟩
        · obtain ⟨⟨y1, y2⟩, y3⟩ := d9 r' e he
          exact ⟨by rw [f2 77 (by omega)]; exact y2, y3⟩
        · rw [r13 18 (by omega) (by omega) (by omega)]; exact a5
        · rw [r13 18 (by omega) (by omega) (by omega)]; exact a6
        · rw [r13 18 (by omega) (by omega) (by omega)]; exact a7
        · rw [r13 18 (by omega) (by omega) (by omega)]; exact a8
        · rw [r13 20 (by omega) (by omega) (by omega)]; exact a10 r' e he q hq
        · rw [r13 22 (by omega) (by omega) (by omega)]; exact a12 r' hr'
        · have hlt : r' < r.2.2.length := (List.getElem?_eq_some_iff.mp he).1
          have h3 := (d9 r' e he).2.1
          exact Rmi_e (by omega) (by omega) (fun q q1 q2 => s94 q (by omega) (by omega) (by omega)) (b4 r' e he)
      · obtain ⟨n', c0, k0, gx⟩ := htx t (by omega)
        have cs160 := J19.2.2.1
        have ks3 := J21.2.2.1
        refine ⟨n', c0, k0, Rtx_tr gx (by omega) cs160 ks3 (by omega) (by omega) (fun j hj => ?_) (fun j hj => ?_) (fun j hj => ?_) (fun k q1 q2 => o94 k (by omega) (by omega))⟩
        · show w13.1 18 j = w.1 18 j
          rw [r13 18 (by omega) (by omega) (by omega), a9 j (by omega), f18]
        · show w13.1 20 j = w.1 20 j
          rw [r13 20 (by omega) (by omega) (by omega), a11 j hj, f20]
        · show w13.1 22 j = w.1 22 j
          rw [r13 22 (by omega) (by omega) (by omega), a13 j hj, f22]
    have e95 : w13.1 95 = w.1 95 := (r13 95 (by omega) (by omega) (by omega)).trans (f3 95 (by omega) (by omega))
    have q38 : ∀ b, 38 ≤ b → b < 73 → w13.1 b = w.1 b := fun b q1 q2 => (r13 b (by omega) (by omega) (by omega)).trans (f3 b (by omega) (by omega))
    have r73 : w13.1 73 = v.1 73 := (r13 73 (by omega) (by omega) (by omega)).trans ((a14 73 (by omega)).trans (f2 73 (by omega)))
    have RAn := P_text H c10 A6 tx (fun b j q1 q2 q3 => by rw [r13 b (by omega) (by omega) (by omega), f3 b (by omega) q3]) (fun k q1 q2 => o94 k (by omega) (by omega))
    have J79n : JR w13 79 1 300 0 := by
      have e79 : w13.1 79 = v2.1 79 := (r13 79 (by omega) (by omega) (by omega)).trans (a14 79 (by omega))
      refine ⟨?_, ?_, by omega, d10.2.2.2⟩
      · rw [e79, hv2]; dsimp only; rw [jup_k (by omega)]; exact d10.1
      · rw [e79, hv2]; dsimp only; rw [jup_eq]
    have rj : ∀ b, 73 < b → b < 83 → b ≠ 79 → w13.1 b = v.1 b := fun b q1 q2 q3 => (r13 b (by omega) (by omega) (by omega)).trans ((a14 b (by omega)).trans (f2 b q3))
    refine ⟨nI (c 6), v3, w13, cup c 6 (c 6 + 1), ci, ?_, em, RA_K RAn (Or.inl rfl) (by omega) (by omega), ?_, ⟨0, _, _, _, J79n, JR_eq d7 (rj 74 (by omega) (by omega) (by omega)), JR_eq d8 (rj 76 (by omega) (by omega) (by omega)), JR_eq d11 (rj 81 (by omega) (by omega) (by omega)), M4, fun k hk => absurd hk (Nat.not_lt_zero k)⟩, Or.inr ⟨by rw [r73]; exact d2, by rw [r73, d3, M5], by rw [r73, d4, M6]⟩⟩
    · rw [ct, d1, ob]
      dsimp only
      rw [cut, ob, if_neg one_ne, a1, ob]
    · rw [e95]; exact RA_38 (RA_K h.2.1 (Or.inr rfl) (by omega) (by omega)) q38
  · -- a text with a fault
    obtain ⟨v, cc, j, d1, d2, d3, d4, d5, d6, d7, d8, d9, d10⟩ := C2 g
    clear C1 C2
    obtain ⟨v2, hv2⟩ : ∃ v2 : jW, v2 = (jup v.1 79 2 (nI 0), v.2) := ⟨_, rfl⟩
    have f2 : ∀ b, b ≠ 79 → v2.1 b = v.1 b := fun b q => by rw [hv2]; dsimp only; rw [jup_fn q]
    have cut : f_Rows_cut 79 0 v = some v2 := by rw [hv2]; exact c_cut (m := 0) d8 (by omega)
    have f3 : ∀ b, b < 73 ∨ 82 < b → v2.1 b = w.1 b := fun b q1 => (f2 b (by omega)).trans (d10 b q1)
    obtain ⟨v4, b1, b2, b3, b4⟩ := (M v2 (f3 93 (by omega)) (f3 94 (by omega)) (f3 97 (by omega))).2 g
    obtain ⟨w7, hw⟩ : ∃ w7 : jW, w7 = (jup (jup (jup v4.1 93 5 (nI r.1)) 93 6 (nI (tkS (w.1 97) n r.2.1))) 93 4 0, v4.2) := ⟨_, rfl⟩
    have nr : ¬ nI r.1 = 0 := nI_ne' (b := 0) (by omega) (by omega) g
    have em : f_Model_text (nI d) v2 = some (-1, w7) := by
      rw [mt v2 (f3 94 (by omega)), b1, ob, jlw_e]
      dsimp only
      rw [if_neg (show ¬ jup v4.1 93 5 (nI r.1) 93 5 = 0 by rw [jup_eq]; exact nr), jup_k (show (8 : Nat) ≠ 5 by omega), b2, f_Model_text_j54, jlw_e, jlw_e]
      dsimp only
      rw [if_neg (show ¬ jup (jup (jup v4.1 93 5 (nI r.1)) 93 6 (nI (tkS (w.1 97) n r.2.1))) 93 4 0 93 5 = 0 by rw [jup_k (by omega), jup_k (by omega), jup_eq]; exact nr), hw]
    have r7 : ∀ b, b ≠ 93 → b ≠ 94 → b ≠ 98 → w7.1 b = v2.1 b := fun b q1 q2 q3 => by rw [hw]; dsimp only; rw [jup_fn q1, jup_fn q1, jup_fn q1]; exact b3 b q1 q2 q3
    have o94 : ∀ k, k < 1680 + 800 * c 6 ∨ 1680 + 800 * c 6 + 800 ≤ k → w7.1 94 k = w.1 94 k := fun k q1 => by rw [hw]; dsimp only; rw [jup_ne (by omega), jup_ne (by omega), jup_ne (by omega), b4 k (by omega), f3 94 (by omega)]
    have M5 : w7.1 93 5 = nI r.1 := by rw [hw]; dsimp only; rw [jup_k (by omega), jup_k (by omega), jup_eq]
    have M6 : w7.1 93 6 = nI (tkS (w.1 97) n r.2.1) := by rw [hw]; dsimp only; rw [jup_k (by omega), jup_eq]
    have M4 : w7.1 93 4 = 0 := by rw [hw]; dsimp only; rw [jup_eq]
    have rw38 : ∀ b, b < 73 → w7.1 b = w.1 b := fun b q => (r7 b (by omega) (by omega) (by omega)).trans (f3 b (by omega))
    have tx : Rtext w7 3 (w7.1 94) c := by
      refine ⟨cs, ks, JR_eq J17 (rw38 17 (by omega)), JR_eq J19 (rw38 19 (by omega)), JR_eq J21 (rw38 21 (by omega)), hcs, hks, fun t ht => ?_⟩
      obtain ⟨n', c0, k0, gx⟩ := htx t ht
      have cs160 := J19.2.2.1
      have ks3 := J21.2.2.1
      refine ⟨n', c0, k0, Rtx_tr gx (by omega) cs160 ks3 (Nat.le_refl _) (Nat.le_refl _) (fun j hj => ?_) (fun j hj => ?_) (fun j hj => ?_) (fun k q1 q2 => o94 k (by omega))⟩
      · show w7.1 18 j = w.1 18 j
        rw [rw38 18 (by omega)]
      · show w7.1 20 j = w.1 20 j
        rw [rw38 20 (by omega)]
      · show w7.1 22 j = w.1 22 j
        rw [rw38 22 (by omega)]
    have e95 : w7.1 95 = w.1 95 := (r7 95 (by omega) (by omega) (by omega)).trans (f3 95 (by omega))
    have r73 : w7.1 73 = v.1 73 := (r7 73 (by omega) (by omega) (by omega)).trans (f2 73 (by omega))
    have RAn := P_junk H c10 tx (fun b j q1 q2 q3 => by rw [rw38 b (by omega)]) (fun k q1 q2 => o94 k (by omega))
    have J79n : JR w7 79 1 300 0 := by
      have e79 : w7.1 79 = v2.1 79 := r7 79 (by omega) (by omega) (by omega)
      refine ⟨?_, ?_, by omega, d8.2.2.2⟩
      · rw [e79, hv2]; dsimp only; rw [jup_k (by omega)]; exact d8.1
      · rw [e79, hv2]; dsimp only; rw [jup_eq]
    have rj : ∀ b, 73 < b → b < 83 → b ≠ 79 → w7.1 b = v.1 b := fun b q1 q2 q3 => (r7 b (by omega) (by omega) (by omega)).trans (f2 b q3)
    refine ⟨-1, v2, w7, c, ci, ?_, em, RA_K RAn (Or.inl rfl) (by omega) (by omega), ?_, ⟨0, _, _, _, J79n, JR_eq d6 (rj 74 (by omega) (by omega) (by omega)), JR_eq d7 (rj 76 (by omega) (by omega) (by omega)), JR_eq d9 (rj 81 (by omega) (by omega) (by omega)), M4, fun k hk => absurd hk (Nat.not_lt_zero k)⟩, Or.inr ⟨by rw [r73]; exact d2, by rw [r73, d3, M5], by rw [r73, d5, M6]⟩⟩
    · rw [ct, d1, ob]
      dsimp only
      rw [cut, ob, if_pos rfl]
    · rw [e95]; exact RA_38 (RA_K h.2.1 (Or.inr rfl) (by omega) (by omega)) (fun b q1 q2 => rw38 b q2)
end TE

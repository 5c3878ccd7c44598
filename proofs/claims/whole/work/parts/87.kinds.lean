/-! LAYER B: both sides' kinds of a token -/
section KD
variable {w v : jW} {P : Nat → Int32} {n s : Nat}
theorem ix_r {L : List Nat} : ∀ (r : List (List Nat)) k, (ixF L r k = 29 ∧ ∀ m : Nat, r[m]? ≠ some L) ∨ ∃ m : Nat, m < r.length ∧ ixF L r k = nI (k + m) ∧ r[m]? = some L := by
  intro r
  induction r with
  | nil => intro k; exact Or.inl ⟨rfl, fun m => by simp⟩
  | cons W r ih =>
    intro k
    rw [ixF]
    by_cases h : W = L
    · rw [if_pos h]
      exact Or.inr ⟨0, by rw [List.length_cons]; omega, rfl, by rw [h]; rfl⟩
    · rw [if_neg h]
      rcases ih (k + 1) with ⟨h1, h2⟩ | ⟨m, h1, h2, h3⟩
      · refine Or.inl ⟨h1, fun m => ?_⟩
        cases m with
        | zero => intro z; exact h (Option.some.inj z)
        | succ m => exact h2 m
      · exact Or.inr ⟨m + 1, by rw [List.length_cons]; omega, by rw [h2]; exact congrArg nI (by omega), h3⟩
/-- the class's kind of a token as a number -/
def kN (P : Nat → Int32) (n s : Nat) : Nat := (ckF P n s).toNatClampNeg
def kdO (a : Nat) : Int32 := if a < 18 then 2 else if a = 18 then 60 else if a = 19 then 4 else if a = 20 then 62 else if a = 21 then 5 else if a = 22 then 61 else if a = 23 then 35 else if a = 24 then 40 else if a = 25 then 41 else if a = 26 then 59 else if a = 27 then 1 else if a = 28 then 0 else 3
theorem ifp {α : Type} {p q : Prop} [Decidable p] [Decidable q] (h : p = q) {a b : α} : (if p then a else b) = if q then a else b := by
  by_cases g : p
  · rw [if_pos g, if_pos (h ▸ g)]
  · rw [if_neg g, if_neg (h ▸ g)]
theorem kd_w {a : Nat} (ha : a ≤ 29) (h : ckF P n s = nI a) : kN P n s = a := by
  unfold kN; rw [h, nI_clamp (by omega)]
theorem kd_k : ckF P n s = nI (kN P n s) ∧ kN P n s ≤ 29 ∧ ((kN P n s ≠ 29 ∧ kdF P n s = kdO (kN P n s)) ∨ (kN P n s = 29 ∧ (kdF P n s = 2 ∨ kdF P n s = 3))) ∧ (kdF P n s = 2 → ∀ m W, wls[m]? = some W → (ltF P n (n - s) s = W ↔ kN P n s = m)) := by
  have fin : ∀ a, a ≤ 29 → ckF P n s = nI a → ((a ≠ 29 ∧ kdF P n s = kdO a) ∨ (a = 29 ∧ (kdF P n s = 2 ∨ kdF P n s = 3))) → (kdF P n s = 2 → ∀ m W, wls[m]? = some W → (ltF P n (n - s) s = W ↔ a = m)) → ckF P n s = nI (kN P n s) ∧ kN P n s ≤ 29 ∧ ((kN P n s ≠ 29 ∧ kdF P n s = kdO (kN P n s)) ∨ (kN P n s = 29 ∧ (kdF P n s = 2 ∨ kdF P n s = 3))) ∧ (kdF P n s = 2 → ∀ m W, wls[m]? = some W → (ltF P n (n - s) s = W ↔ kN P n s = m)) := fun a ha h h1 h2 => by
    rw [kd_w ha h]; exact ⟨h, ha, h1, h2⟩
  have sgn : ∀ a, a ≤ 28 → 18 ≤ a → ckF P n s = nI a → kdF P n s = kdO a → ckF P n s = nI (kN P n s) ∧ kN P n s ≤ 29 ∧ ((kN P n s ≠ 29 ∧ kdF P n s = kdO (kN P n s)) ∨ (kN P n s = 29 ∧ (kdF P n s = 2 ∨ kdF P n s = 3))) ∧ (kdF P n s = 2 → ∀ m W, wls[m]? = some W → (ltF P n (n - s) s = W ↔ kN P n s = m)) := fun a ha hb h h1 => by
    refine fin a (by omega) h (Or.inl ⟨by omega, h1⟩) (fun z => ?_)
    have : ∀ a, a < 29 → 18 ≤ a → kdO a ≠ 2 := by decide
    exact absurd (h1.symm.trans z) (this a (by omega) hb)
  by_cases g0 : svF P n s < 0
  · exact sgn 28 (by omega) (by omega) (by rw [ckF, if_pos g0]; rfl) (by rw [kdF, if_pos g0]; decide)
  by_cases g1 : dgB (svF P n s) = true
  · exact sgn 27 (by omega) (by omega) (by rw [ckF, if_neg g0, if_pos g1]; rfl) (by rw [kdF, if_neg g0, if_pos g1]; decide)
  by_cases g2 : ltB (svF P n s) = true
  · have e2 : kdF P n s = 2 := by rw [kdF, if_neg g0, if_neg g1, if_pos g2]
    have ec : ckF P n s = ixF (ltF P n (n - s) s) wls 0 := by rw [ckF, if_neg g0, if_neg g1, if_pos g2]
    rcases ix_r (L := ltF P n (n - s) s) wls 0 with ⟨h1, h2⟩ | ⟨m, h1, h2, h3⟩
    · refine fin 29 (by omega) (ec.trans h1) (Or.inr ⟨rfl, Or.inl e2⟩) (fun _ m W hW => ⟨fun z => ?_, fun z => ?_⟩)
      · exact absurd (hW.trans (congrArg some z.symm)) (h2 m)
      · rw [← z] at hW; exact absurd hW (by decide +revert)
    · have h18 : m < 18 := h1
      have en : ∀ m, m < 18 → kdO m = 2 := by decide
      refine fin m (by omega) (by rw [ec, h2, Nat.zero_add]) (Or.inl ⟨by omega, by rw [e2, en m h18]⟩) (fun _ m' W hW => ⟨fun z => ?_, fun z => ?_⟩)
      · have hu : ∀ a, a < 18 → ∀ b, b < 18 → wls[a]? = wls[b]? → a = b := by decide
        have hm : m' < 18 := by
          have := (List.getElem?_eq_some_iff.mp hW).1
          exact this
        exact hu m h18 m' hm (h3.trans ((congrArg some z).trans hW.symm))
      · rw [← z] at hW; exact Option.some.inj (h3.symm.trans hW)
  have ec : ckF P n s = sgF P n s := by rw [ckF, if_neg g0, if_neg g1, if_neg g2]
  rw [sgF] at ec
  have ek : kdF P n s = if svF P n s = 60 then (if svF P n (s + 1) = 61 then 4 else 60) else if svF P n s = 62 then (if svF P n (s + 1) = 61 then 5 else 62) else if svF P n s = 61 ∨ svF P n s = 35 ∨ svF P n s = 40 ∨ svF P n s = 41 ∨ svF P n s = 59 then svF P n s else 3 := by rw [kdF, if_neg g0, if_neg g1, if_neg g2]
  by_cases z1 : svF P n s = 35
  · exact sgn 23 (by omega) (by omega) (by rw [ec, if_pos z1]; rfl) (by rw [ek, z1]; rfl)
  by_cases z2 : svF P n s = 40
  · exact sgn 24 (by omega) (by omega) (by rw [ec, z2]; rfl) (by rw [ek, z2]; rfl)
  by_cases z3 : svF P n s = 41
  · exact sgn 25 (by omega) (by omega) (by rw [ec, z3]; rfl) (by rw [ek, z3]; rfl)
  by_cases z4 : svF P n s = 59
  · exact sgn 26 (by omega) (by omega) (by rw [ec, z4]; rfl) (by rw [ek, z4]; rfl)
  rw [if_neg z1, if_neg z2, if_neg z3, if_neg z4] at ec
  by_cases z5 : svF P n s = 60
  · rw [if_pos z5] at ec ek
    by_cases y : svF P n (s + 1) = 61
    · exact sgn 19 (by omega) (by omega) (by rw [ec, if_pos y]; rfl) (by rw [ek, if_pos y]; decide)
    · exact sgn 18 (by omega) (by omega) (by rw [ec, if_neg y]; rfl) (by rw [ek, if_neg y]; decide)
  rw [if_neg z5] at ec ek
  by_cases z6 : svF P n s = 61
  · exact sgn 22 (by omega) (by omega) (by rw [ec, if_pos z6]; rfl) (by rw [ek, z6]; rfl)
  rw [if_neg z6] at ec
  by_cases z7 : svF P n s = 62
  · rw [if_pos z7] at ec ek
    by_cases y : svF P n (s + 1) = 61
    · exact sgn 21 (by omega) (by omega) (by rw [ec, if_pos y]; rfl) (by rw [ek, if_pos y]; decide)
    · exact sgn 20 (by omega) (by omega) (by rw [ec, if_neg y]; rfl) (by rw [ek, if_neg y]; decide)
  rw [if_neg z7] at ec ek
  have ek3 : kdF P n s = 3 := by rw [ek, if_neg (by simp [z1, z2, z3, z4, z6])]
  exact fin 29 (by omega) ec (Or.inr ⟨rfl, Or.inr ek3⟩) (fun z => absurd (ek3.symm.trans z) (by decide))
theorem kd_e {a : Nat} {c : Int32} (h1 : 18 ≤ a) (h2 : a ≤ 28) (hc : c = kdO a) : (kdF P n s = c) = (kN P n s = a) := by
  obtain ⟨_, h29, h, _⟩ := kd_k (P := P) (n := n) (s := s)
  rw [hc]
  have t1 : ∀ a, a < 29 → ∀ b, b < 29 → 18 ≤ a → (kdO b = kdO a ↔ b = a) := by decide
  have t2 : ∀ a, a < 29 → 18 ≤ a → 2 ≠ kdO a ∧ 3 ≠ kdO a := by decide
  rcases h with ⟨g1, g2⟩ | ⟨g1, g2⟩
  · rw [g2]; exact propext (t1 a (by omega) (kN P n s) (by omega) h1)
  · rw [g1]
    have := t2 a (by omega) h1
    refine propext ⟨fun z => ?_, fun z => by omega⟩
    rcases g2 with g2 | g2 <;> rw [g2] at z
    · exact absurd z this.1
    · exact absurd z this.2
theorem kd_2 : (kN P n s < 18 → kdF P n s = 2) ∧ (kdF P n s = 2 → kN P n s < 18 ∨ kN P n s = 29) := by
  obtain ⟨_, h29, h, _⟩ := kd_k (P := P) (n := n) (s := s)
  have t1 : ∀ a, a < 18 → kdO a = 2 := by decide
  have t2 : ∀ a, a < 29 → 18 ≤ a → kdO a ≠ 2 := by decide
  rcases h with ⟨g1, g2⟩ | ⟨g1, g2⟩
  · refine ⟨fun z => g2.trans (t1 _ z), fun z => ?_⟩
    by_cases y : kN P n s < 18
    · exact Or.inl y
    · exact absurd (g2.symm.trans z) (t2 _ (by omega) (by omega))
  · exact ⟨fun z => by omega, fun _ => Or.inr g1⟩
theorem wd_e {W : List Nat} (h6 : W.length ≤ 6) (h0 : W ≠ []) (hr : ∀ a ∈ W, 1 ≤ a ∧ a ≤ 255) : (wdF P n s (n - s) s 0 = lN (pkN 0 W)) ↔ ltF P n (n - s) s = W := by
  have e := wdF_pk (P := P) (n := n) (s := s) (n - s) s 0 (Nat.le_refl s) (fun _ => by rw [Nat.sub_self]; decide)
  rw [show (0 : Int64) = lN 0 from rfl, e, Nat.sub_self, Nat.zero_add]
  have hb : ∀ l : List Nat, l.length ≤ 6 → (∀ a ∈ l, 1 ≤ a ∧ a ≤ 255) → pkN 0 l < 2 ^ 63 := fun l hl ha => by
    have h1 := pkN_lt l 0 (fun a q => (ha a q).2)
    have h2 : 256 ^ l.length ≤ 256 ^ 6 := Nat.pow_le_pow_right (by omega) hl
    omega
  by_cases g : (ltF P n (n - s) s).length ≤ 6
  · rw [if_pos g, pk_lEQ (hb _ g (ltF_r _ _)) (hb _ h6 hr)]
    exact ⟨fun z => pkN_inj 6 _ _ g (ltF_r _ _) hr z, fun z => by rw [z]⟩
  · rw [if_neg g]
    refine ⟨fun z => ?_, fun z => by rw [z] at g; exact absurd h6 g⟩
    have hz := (pk_lEQ (show 0 < 2 ^ 63 by omega) (hb _ h6 hr)).mp z
    have := pkN_inj 6 [] W (by simp) (by simp) hr hz
    exact absurd this.symm h0
theorem wl_ok : ∀ W ∈ wls, W.length ≤ 6 ∧ W ≠ [] ∧ ∀ a ∈ W, 1 ≤ a ∧ a ≤ 255 := by decide
theorem wd_k (h : Atk w n s) (h2 : kdF (w.1 97) n s = 2) {m : Nat} {W : List Nat} (hW : wls[m]? = some W) {x : Int64} (hx : x = lN (pkN 0 W)) : (lg_cmp (w.2 93 11) x = 0) = (kN (w.1 97) n s = m) := by
  obtain ⟨a1, a2, a3⟩ := wl_ok W (List.mem_of_getElem? hW)
  rw [hx, h.2.2.2.2 h2]
  exact propext (lg_0.trans ((wd_e a1 a2 a3).trans (kd_k.2.2.2 h2 m W hW)))
theorem w3_n {a b c : Nat} (ha : a < 256) (hb : b < 256) (hc : c < 256) : f_Model_w3 (nI a) (nI b) (nI c) w = some (lN (pkN 0 [a, b, c]), w) := by
  rw [f_Model_w3, nI_l (n := a) (by omega), lN_sh (by omega) hb, lN_sh (by omega) hc]
  simp only [pkN, Nat.zero_mul, Nat.zero_add]
theorem w4_n {a b c d : Nat} (ha : a < 256) (hb : b < 256) (hc : c < 256) (hd : d < 256) : f_Model_w4 (nI a) (nI b) (nI c) (nI d) w = some (lN (pkN 0 [a, b, c, d]), w) := by
  rw [f_Model_w4, w3_n ha hb hc, ob, lN_sh (by simp only [pkN]; omega) hd]
  simp only [pkN]
theorem w5_n {a b c d e : Nat} (ha : a < 256) (hb : b < 256) (hc : c < 256) (hd : d < 256) (he : e < 256) : f_Model_w5 (nI a) (nI b) (nI c) (nI d) (nI e) w = some (lN (pkN 0 [a, b, c, d, e]), w) := by
  rw [f_Model_w5, w4_n ha hb hc hd, ob, lN_sh (by simp only [pkN]; omega) he]
  simp only [pkN]
theorem w6_n {a b c d e f : Nat} (ha : a < 256) (hb : b < 256) (hc : c < 256) (hd : d < 256) (he : e < 256) (hf : f < 256) : f_Model_w6 (nI a) (nI b) (nI c) (nI d) (nI e) (nI f) w = some (lN (pkN 0 [a, b, c, d, e, f]), w) := by
  rw [f_Model_w6, w5_n ha hb hc hd he, ob, lN_sh (by simp only [pkN]; omega) hf]
  simp only [pkN]
/-- whether the reference's token is the m-th listed word -/
theorem m_isW (h : Atk w n s) {m : Nat} (hm : m < 18) {W : List Nat} (hW : wls[m]? = some W) {x : Int64} (hx : x = lN (pkN 0 W)) : f_Model_isWord x w = some (b2 (kN (w.1 97) n s = m), w) := by
  rw [f_Model_isWord, h.2.2.1]
  by_cases g : kdF (w.1 97) n s = 2
  · rw [if_pos g, ifp (wd_k h g hW hx)]
    by_cases y : kN (w.1 97) n s = m
    · rw [if_pos y, b2_p y]
    · rw [if_neg y, b2_n y]
  · rw [if_neg g, b2_n (fun z => g (kd_2.1 (by omega)))]
theorem m_name (h : Atk w n s) : f_Model_nameOf w = some (if 13 ≤ kN (w.1 97) n s ∧ kN (w.1 97) n s ≤ 17 then nI (kN (w.1 97) n s - 13) else -1, w) := by
  rw [f_Model_nameOf, h.2.2.1]
  by_cases g : kdF (w.1 97) n s = 2
  · rw [if_pos g, show f_Model_w4 115 111 114 116 w = _ from w4_n (a := 115) (b := 111) (c := 114) (d := 116) (by omega) (by omega) (by omega) (by omega), ob]
    dsimp only
    rw [ifp (wd_k h g (m := 13) rfl rfl)]
    generalize hk : kN (w.1 97) n s = k
    by_cases y1 : k = 13
    · rw [if_pos y1, if_pos (by omega), y1]; rfl
    rw [if_neg y1, show f_Model_w6 108 101 110 103 116 104 w = _ from w6_n (a := 108) (b := 101) (c := 110) (d := 103) (e := 116) (f := 104) (by omega) (by omega) (by omega) (by omega) (by omega) (by omega), ob]
    dsimp only
    rw [ifp (wd_k h g (m := 14) rfl rfl), hk]
    by_cases y2 : k = 14
    · rw [if_pos y2, if_pos (by omega), y2]; rfl
    rw [if_neg y2, show f_Model_w6 119 101 105 103 104 116 w = _ from w6_n (a := 119) (b := 101) (c := 105) (d := 103) (e := 104) (f := 116) (by omega) (by omega) (by omega) (by omega) (by omega) (by omega), ob]
    dsimp only
    rw [ifp (wd_k h g (m := 15) rfl rfl), hk]
    by_cases y3 : k = 15
    · rw [if_pos y3, if_pos (by omega), y3]; rfl
    rw [if_neg y3, show f_Model_w5 99 108 97 115 115 w = _ from w5_n (a := 99) (b := 108) (c := 97) (d := 115) (e := 115) (by omega) (by omega) (by omega) (by omega) (by omega), ob]
    dsimp only
    rw [ifp (wd_k h g (m := 16) rfl rfl), hk]
    by_cases y4 : k = 16
    · rw [if_pos y4, if_pos (by omega), y4]; rfl
    rw [if_neg y4, show f_Model_w4 108 97 110 100 w = _ from w4_n (a := 108) (b := 97) (c := 110) (d := 100) (by omega) (by omega) (by omega) (by omega), ob]
    dsimp only
    rw [ifp (wd_k h g (m := 17) rfl rfl), hk]
    by_cases y5 : k = 17
    · rw [if_pos y5, if_pos (by omega), y5]; rfl
    rw [if_neg y5, if_neg (by omega)]
  · rw [if_neg g, if_neg (fun z => g (kd_2.1 (by omega)))]
theorem m_sort (h : Atk w n s) : f_Model_sortOf w = some (if kN (w.1 97) n s < 7 then nI (kN (w.1 97) n s + 1) else 0, w) := by
  rw [f_Model_sortOf, h.2.2.1]
  by_cases g : kdF (w.1 97) n s = 2
  · rw [if_pos g, show f_Model_w6 99 111 117 110 116 115 w = _ from w6_n (a := 99) (b := 111) (c := 117) (d := 110) (e := 116) (f := 115) (by omega) (by omega) (by omega) (by omega) (by omega) (by omega), ob]
    dsimp only
    rw [ifp (wd_k h g (m := 0) rfl rfl)]
    generalize hk : kN (w.1 97) n s = k
    by_cases y1 : k = 0
    · rw [if_pos y1, if_pos (by omega), y1]; rfl
    rw [if_neg y1, show f_Model_w5 108 105 109 105 116 w = _ from w5_n (a := 108) (b := 105) (c := 109) (d := 105) (e := 116) (by omega) (by omega) (by omega) (by omega) (by omega), ob]
    dsimp only
    rw [ifp (wd_k h g (m := 1) rfl rfl), hk]
    by_cases y2 : k = 1
    · rw [if_pos y2, if_pos (by omega), y2]; rfl
    rw [if_neg y2, show f_Model_w4 116 101 108 108 w = _ from w4_n (a := 116) (b := 101) (c := 108) (d := 108) (by omega) (by omega) (by omega) (by omega), ob]
    dsimp only
    rw [ifp (wd_k h g (m := 2) rfl rfl), hk]
    by_cases y3 : k = 2
    · rw [if_pos y3, if_pos (by omega), y3]; rfl
    rw [if_neg y3, show f_Model_w6 118 105 115 105 116 115 w = _ from w6_n (a := 118) (b := 105) (c := 115) (d := 105) (e := 116) (f := 115) (by omega) (by omega) (by omega) (by omega) (by omega) (by omega), ob]
    dsimp only
    rw [ifp (wd_k h g (m := 3) rfl rfl), hk]
    by_cases y4 : k = 3
    · rw [if_pos y4, if_pos (by omega), y4]; rfl
    rw [if_neg y4, show f_Model_w4 118 101 105 108 w = _ from w4_n (a := 118) (b := 101) (c := 105) (d := 108) (by omega) (by omega) (by omega) (by omega), ob]
    dsimp only
    rw [ifp (wd_k h g (m := 4) rfl rfl), hk]
    by_cases y5 : k = 4
    · rw [if_pos y5, if_pos (by omega), y5]; rfl
    rw [if_neg y5, show f_Model_w5 115 116 101 112 115 w = _ from w5_n (a := 115) (b := 116) (c := 101) (d := 112) (e := 115) (by omega) (by omega) (by omega) (by omega) (by omega), ob]
    dsimp only
    rw [ifp (wd_k h g (m := 5) rfl rfl), hk]
    by_cases y6 : k = 5
    · rw [if_pos y6, if_pos (by omega), y6]; rfl
    rw [if_neg y6, show f_Model_w6 97 110 115 119 101 114 w = _ from w6_n (a := 97) (b := 110) (c := 115) (d := 119) (e := 101) (f := 114) (by omega) (by omega) (by omega) (by omega) (by omega) (by omega), ob]
    dsimp only
    rw [ifp (wd_k h g (m := 6) rfl rfl), hk]
    by_cases y7 : k = 6
    · rw [if_pos y7, if_pos (by omega), y7]; rfl
    rw [if_neg y7, if_neg (by omega)]
  · rw [if_neg g, if_neg (fun z => g (kd_2.1 (by omega)))]
theorem m_cmpO (h : Atk w n s) : f_Model_compareOf w = some (if 18 ≤ kN (w.1 97) n s ∧ kN (w.1 97) n s ≤ 23 then nI (kN (w.1 97) n s - 8) else -1, w) := by
  rw [f_Model_compareOf, h.2.2.1, ifp (kd_e (a := 18) (by omega) (by omega) (c := 60) (by decide)), ifp (kd_e (a := 19) (by omega) (by omega) (c := 4) (by decide)), ifp (kd_e (a := 20) (by omega) (by omega) (c := 62) (by decide)), ifp (kd_e (a := 21) (by omega) (by omega) (c := 5) (by decide)), ifp (kd_e (a := 22) (by omega) (by omega) (c := 61) (by decide)), ifp (kd_e (a := 23) (by omega) (by omega) (c := 35) (by decide))]
  generalize kN (w.1 97) n s = k
  by_cases y1 : k = 18
  · rw [if_pos y1, if_pos (by omega), y1]; rfl
  by_cases y2 : k = 19
  · rw [if_neg y1, if_pos y2, if_pos (by omega), y2]; rfl
  by_cases y3 : k = 20
  · rw [if_neg y1, if_neg y2, if_pos y3, if_pos (by omega), y3]; rfl
  by_cases y4 : k = 21
  · rw [if_neg y1, if_neg y2, if_neg y3, if_pos y4, if_pos (by omega), y4]; rfl
  by_cases y5 : k = 22
  · rw [if_neg y1, if_neg y2, if_neg y3, if_neg y4, if_pos y5, if_pos (by omega), y5]; rfl
  by_cases y6 : k = 23
  · rw [if_neg y1, if_neg y2, if_neg y3, if_neg y4, if_neg y5, if_pos y6, if_pos (by omega), y6]; rfl
  rw [if_neg y1, if_neg y2, if_neg y3, if_neg y4, if_neg y5, if_neg y6, if_neg (by omega)]
end KD

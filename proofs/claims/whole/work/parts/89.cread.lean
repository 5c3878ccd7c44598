/-! LAYER B: the class's reader of conditions reads as the pure parser -/
section CR
variable {w v : jW} {k u st : Nat → Nat} {R : Nat}
/-- the class's table of tokens: their kinds k, places st and numbers u, the last of them the R-th -/
def Tt (w : jW) (k u st : Nat → Nat) (R : Nat) : Prop := JR w 81 3 301 (R + 1) ∧ (∀ i, i ≤ R → w.1 82 (i * 3) = nI (k i) ∧ w.1 82 (i * 3 + 1) = nI (st i) ∧ (k i = 27 → w.1 82 (i * 3 + 2) = nI (u i))) ∧ k R = 28 ∧ (∀ i, k i ≤ 29) ∧ ∀ i, u i ≤ 10000
theorem Tt_R (T : Tt w k u st R) : R ≤ 300 := by have := T.1.2.2.1; omega
/-- only the reader's place, its fault and its codes differ -/
def Xr (v w : jW) : Prop := (∀ b, b ≠ 73 → b ≠ 76 → b ≠ 77 → v.1 b = w.1 b) ∧ (∀ j, j ≠ 3 → j ≠ 7 → v.1 73 j = w.1 73 j) ∧ v.2 = w.2
theorem Xr_r : Xr w w := ⟨fun _ _ _ _ => rfl, fun _ _ _ => rfl, rfl⟩
theorem Xr_t {x : jW} (h : Xr x v) (g : Xr v w) : Xr x w := ⟨fun b q1 q2 q3 => (h.1 b q1 q2 q3).trans (g.1 b q1 q2 q3), fun j q1 q2 => (h.2.1 j q1 q2).trans (g.2.1 j q1 q2), h.2.2.trans g.2.2⟩
theorem Xr_j {j : Nat} {x : Int32} (h : j = 3 ∨ j = 7) : Xr (jup w.1 73 j x, w.2) w := ⟨fun b q _ _ => by dsimp only; rw [jup_fn q], fun i q1 q2 => by dsimp only; rw [jup_k (by omega)], rfl⟩
theorem Xr_Tt (h : Xr v w) (T : Tt w k u st R) : Tt v k u st R := ⟨JR_eq T.1 (h.1 81 (by omega) (by omega) (by omega)), fun i hi => by rw [h.1 82 (by omega) (by omega) (by omega)]; exact T.2.1 i hi, T.2.2⟩
theorem JR_73 {j : Nat} {x : Int32} {n W cap r : Nat} (hr : r ≠ 73) (h : JR w r W cap n) : JR (jup w.1 73 j x, w.2) r W cap n := JR_eq h (by dsimp only; rw [jup_fn hr])
theorem c_kd (T : Tt w k u st R) {i : Nat} (hi : i ≤ R) : f_Rows_at 81 (nI i) 0 w = some (nI (k i), w) := by
  rw [show f_Rows_at 81 (nI i) 0 w = _ from r_at T.1 (j := 0) (by omega) (by omega), ← (T.2.1 i hi).1]; rfl
theorem c_nu (T : Tt w k u st R) {i : Nat} (hi : i ≤ R) : f_Rows_at 81 (nI i) 2 w = some (w.1 82 (i * 3 + 2), w) := r_at T.1 (j := 2) (by omega) (by omega)
theorem c_plc (T : Tt w k u st R) {i : Nat} (hi : i ≤ R) : f_Rows_at 81 (nI i) 1 w = some (nI (st i), w) := by
  rw [show f_Rows_at 81 (nI i) 1 w = _ from r_at T.1 (j := 1) (by omega) (by omega), ← (T.2.1 i hi).2.1]
theorem c_fl (e : Int32) : f_Reader_fail e w = some (0, (jup w.1 73 3 e, w.2)) := rfl
theorem c_exp (T : Tt w k u st R) {i : Nat} (hi : i ≤ R) (h7 : w.1 73 7 = nI i) {a : Nat} (ha : a < 100) : f_Reader_expect (nI a) w = if k i = a then some (1, (jup w.1 73 7 (nI (i + 1)), w.2)) else some (0, (jup w.1 73 3 1, w.2)) := by
  have := T.2.2.2.1 i
  rw [f_Reader_expect, h7, c_kd T hi, ob]
  dsimp only
  by_cases g : k i = a
  · rw [if_pos (by rw [g]), if_pos g, jlw_e, h7, ip_1]
  · rw [if_neg (nI_ne' (by omega) (by omega) g), if_neg g, c_fl, ob]
    dsimp only
    rw [if_pos (by decide)]
theorem c_op {c : Nat} (h : JR w 76 1 300 c) (hc : c < 300) (x : Int32) : ∃ v, f_Rows_open 76 x w = some (nI c, v) ∧ JR v 76 1 300 (c + 1) ∧ v.1 77 c = x ∧ (∀ j, j ≠ c → v.1 77 j = w.1 77 j) ∧ Xr v w ∧ v.1 73 = w.1 73 := by
  refine ⟨_, r_open h hc x, ⟨?_, ?_, by omega, h.2.2.2⟩, ?_, fun j hj => ?_, ⟨fun b q1 q2 q3 => funext fun j => ?_, fun j _ _ => ?_, rfl⟩, funext fun j => ?_⟩
  · unfold jrow; dsimp only; rw [if_neg (by omega), if_neg (by omega)]; exact h.1
  · unfold jrow; dsimp only; rw [if_pos ⟨rfl, rfl⟩]
  · unfold jrow; dsimp only; rw [if_neg (by omega), if_pos (by omega), if_pos (by omega)]
  · unfold jrow; dsimp only; rw [if_neg (by omega), if_neg (by omega)]
  · unfold jrow; dsimp only; rw [if_neg (by omega), if_neg (by omega)]
  · unfold jrow; dsimp only; rw [if_neg (by omega), if_neg (by omega)]
  · unfold jrow; dsimp only; rw [if_neg (by omega), if_neg (by omega)]
theorem c_opa {c : Nat} (h : JR w 76 1 300 c) (x : Int32) : ∃ q v c', f_Rows_open 76 x w = some (q, v) ∧ JR v 76 1 300 c' ∧ Xr v w ∧ v.1 73 = w.1 73 := by
  by_cases hc : c < 300
  · obtain ⟨v, e1, e2, _, _, e5, e6⟩ := c_op h hc x
    exact ⟨_, v, c + 1, e1, e2, e5, e6⟩
  · have : c = 300 := by have := h.2.2.1; omega
    subst this
    refine ⟨-1, w, 300, ?_, h, Xr_r, rfl⟩
    rw [f_Rows_open, h.1, h.2.1, h.2.2.2.1, h.2.2.2.2.1, if_neg (by decide), if_neg (by decide)]
theorem c_one (T : Tt w k u st R) {i c : Nat} (hi : i ≤ R) (h7 : w.1 73 7 = nI i) (hJ : JR w 76 1 300 c) (hc : c ≤ i) : ((pO k u i).1 = 0 → ∃ v, f_Reader_one w = some (1, v) ∧ v.1 73 7 = nI (i + 1) ∧ v.1 73 3 = w.1 73 3 ∧ JR v 76 1 300 (c + 1) ∧ v.1 77 c = nI (opc (pO k u i).2) ∧ (∀ j, j ≠ c → v.1 77 j = w.1 77 j) ∧ Xr v w) ∧ ((pO k u i).1 ≠ 0 → f_Reader_one w = some (0, (jup w.1 73 3 (nI (pO k u i).1), w.2))) := by
  have hR := Tt_R T
  have hk := T.2.2.2.1 i
  have hu := T.2.2.2.2 i
  have iR : k i ≠ 28 → i < R := fun z => by
    by_cases y : i = R
    · rw [y] at z; exact absurd T.2.2.1 z
    · omega
  have j88 : ∀ x, i < R → ∃ v, f_Reader_one_j88 x w = some (1, v) ∧ v.1 73 7 = nI (i + 1) ∧ v.1 73 3 = w.1 73 3 ∧ JR v 76 1 300 (c + 1) ∧ v.1 77 c = x ∧ (∀ j, j ≠ c → v.1 77 j = w.1 77 j) ∧ Xr v w := fun x hx => by
    obtain ⟨v, e1, e2, e3, e4, e5, e6⟩ := c_op hJ (by omega) x
    refine ⟨(jup v.1 73 7 (nI (i + 1)), v.2), ?_, ?_, ?_, JR_73 (by omega) e2, ?_, fun j hj => ?_, Xr_t (Xr_j (by omega)) e5⟩
    · rw [f_Reader_one_j88, e1, ob, jlw_e]; dsimp only; rw [e6, h7, ip_1]
    · dsimp only; rw [jup_eq]
    · dsimp only; rw [jup_k (by omega), e6]
    · dsimp only; rw [jup_ne (by omega)]; exact e3
    · dsimp only; rw [jup_ne (by omega)]; exact e4 j hj
  rw [f_Reader_one, h7, c_kd T hi, ob]
  dsimp only
  rw [h7, c_nu T hi, ob]
  dsimp only
  unfold pO
  by_cases g : k i = 27
  · rw [if_pos g, if_pos (show nI (k i) = 27 by rw [g]; rfl), (T.2.1 i hi).2.2 g]
    by_cases y : u i ≤ 9999
    · rw [if_pos y, if_pos (show nI (u i) ≤ 9999 from (nI_leI (b := 9999) (by omega) (by omega)).mpr y)]
      refine ⟨fun _ => ?_, fun z => absurd rfl z⟩
      obtain ⟨v, e⟩ := j88 (nI (u i)) (iR (by omega))
      refine ⟨v, ?_, ?_⟩
      · rw [f_Reader_one_j45, if_pos (by rw [g]; rfl), f_Reader_one_j69, if_pos (by rw [g]; rfl)]; exact e.1
      · rw [opc, if_pos (by show u i < 10000; omega)]; exact e.2
    · rw [if_neg y, if_neg (show ¬ nI (u i) ≤ 9999 from fun z => y ((nI_leI (b := 9999) (by omega) (by omega)).mp z)), c_fl, ob]
      dsimp only
      rw [if_pos (by decide)]
      exact ⟨fun z => (by simp at z), fun _ => rfl⟩
  rw [if_neg (show ¬ nI (k i) = 27 from nI_ne' (b := 27) (by omega) (by omega) g), if_neg g, f_Reader_one_j45, if_neg (show ¬ nI (k i) = 27 from nI_ne' (b := 27) (by omega) (by omega) g), f_Reader_one_j69, if_neg (show ¬ nI (k i) = 27 from nI_ne' (b := 27) (by omega) (by omega) g), f_Reader_one_j63, c_fl, ob]
  dsimp only
  rw [if_pos (show jbo 0 = true by decide)]
  by_cases y : 13 ≤ k i ∧ k i ≤ 17
  · rw [if_pos y, if_neg (show ¬ nI (k i) < 13 from nI_nlt (a := k i) (b := 13) y.1 (by omega)), if_pos (show nI (k i) ≤ 17 from (nI_leI (b := 17) (by omega) (by omega)).mpr y.2)]
    refine ⟨fun _ => ?_, fun z => absurd rfl z⟩
    obtain ⟨v, e⟩ := j88 (20000 + nI (k i)) (iR (by omega))
    refine ⟨v, e.1, ?_⟩
    rw [opc, if_neg (by show ¬ k i - 13 + 10000 < 10000; omega), show k i - 13 + 10000 + 10013 = 20000 + k i by omega, ← nI_add 20000 (k i)]
    exact e.2
  · rw [if_neg y]
    refine ⟨fun z => (by simp at z), fun _ => ?_⟩
    by_cases y1 : k i < 13
    · rw [if_pos (show nI (k i) < 13 from nI_lt (b := 13) y1 (by omega))]; rfl
    · rw [if_neg (show ¬ nI (k i) < 13 from nI_nlt (a := k i) (b := 13) (by omega) (by omega)), if_neg (show ¬ nI (k i) ≤ 17 from fun z => y ⟨by omega, (nI_leI (b := 17) (by omega) (by omega)).mp z⟩)]; rfl
theorem c_rel (T : Tt w k u st R) {i c : Nat} (hi : i ≤ R) (h7 : w.1 73 7 = nI i) (hJ : JR w 76 1 300 c) (hc : c ≤ i) : (18 ≤ k i ∧ k i ≤ 23 → ∃ v, f_Reader_relation w = some (1, v) ∧ v.1 73 7 = nI (i + 1) ∧ v.1 73 3 = w.1 73 3 ∧ JR v 76 1 300 (c + 1) ∧ v.1 77 c = nI (30018 + (k i - 18)) ∧ (∀ j, j ≠ c → v.1 77 j = w.1 77 j) ∧ Xr v w) ∧ (¬ (18 ≤ k i ∧ k i ≤ 23) → f_Reader_relation w = some (0, (jup w.1 73 3 1, w.2))) := by
  have hR := Tt_R T
  have hk := T.2.2.2.1 i
  have iR : k i ≠ 28 → i < R := fun z => by
    by_cases y : i = R
    · rw [y] at z; exact absurd T.2.2.1 z
    · omega
  rw [f_Reader_relation, h7, c_kd T hi, ob]
  dsimp only
  rw [f_Reader_relation_j25, c_fl, ob]
  dsimp only
  rw [if_pos (show jbo 0 = true by decide)]
  refine ⟨fun y => ?_, fun y => ?_⟩
  · rw [if_neg (show ¬ nI (k i) < 18 from nI_nlt (a := k i) (b := 18) y.1 (by omega)), if_pos (show nI (k i) ≤ 23 from (nI_leI (b := 23) (by omega) (by omega)).mpr y.2)]
    obtain ⟨v, e1, e2, e3, e4, e5, e6⟩ := c_op hJ (by have := iR (by omega); omega) (30000 + nI (k i))
    refine ⟨(jup v.1 73 7 (nI (i + 1)), v.2), ?_, ?_, ?_, JR_73 (by omega) e2, ?_, fun j hj => ?_, Xr_t (Xr_j (by omega)) e5⟩
    · rw [e1, ob, jlw_e]; dsimp only; rw [e6, h7, ip_1]
    · dsimp only; rw [jup_eq]
    · dsimp only; rw [jup_k (by omega), e6]
    · dsimp only; rw [jup_ne (by omega), e3, show 30018 + (k i - 18) = 30000 + k i by omega, ← nI_add]; rfl
    · dsimp only; rw [jup_ne (by omega)]; exact e4 j hj
  · by_cases y1 : k i < 18
    · rw [if_pos (show nI (k i) < 18 from nI_lt (b := 18) y1 (by omega))]
    · rw [if_neg (show ¬ nI (k i) < 18 from nI_nlt (a := k i) (b := 18) (by omega) (by omega)), if_neg (show ¬ nI (k i) ≤ 23 from fun z => y ⟨by omega, (nI_leI (b := 23) (by omega) (by omega)).mp z⟩)]
/-- what the class's reader comes to, as the parser says -/
def Cok (z : Option (Int32 × jW)) (w : jW) (c : Nat) (r : Prs) : Prop := (r.1 = 0 → ∃ v, z = some (1, v) ∧ v.1 73 7 = nI r.2.1 ∧ v.1 73 3 = w.1 73 3 ∧ JR v 76 1 300 (c + tln r.2.2) ∧ tkc (v.1 77) c r.2.2 ∧ (∀ j, j < c → v.1 77 j = w.1 77 j) ∧ Xr v w) ∧ (r.1 ≠ 0 → ∃ v c', z = some (0, v) ∧ v.1 73 7 = nI r.2.1 ∧ v.1 73 3 = nI r.1 ∧ JR v 76 1 300 c' ∧ Xr v w)
theorem Cok_f {z : Option (Int32 × jW)} {c c' i e : Nat} {L : List (Nat × Nat × Nat)} (he : e ≠ 0) {x : jW} (hz : z = some (0, (jup x.1 73 3 (nI e), x.2))) (h7 : x.1 73 7 = nI i) (J : JR x 76 1 300 c') (X : Xr x w) : Cok z w c (e, i, L) := ⟨fun q => absurd q he, fun _ => ⟨_, c', hz, by dsimp only; rw [jup_k (by omega)]; exact h7, by dsimp only; rw [jup_eq], JR_73 (by omega) J, Xr_t (Xr_j (by omega)) X⟩⟩
def Csp (k u st : Nat → Nat) (R n : Nat) (F : Int32 → jW → Option (Int32 × jW)) (g : Nat → Nat → Prs) : Prop := ∀ x i c w, x ≤ 8 → 9 ≤ x + n → i ≤ R → c ≤ i → Tt w k u st R → w.1 73 7 = nI i → JR w 76 1 300 c → Cok (F (nI x) w) w c (g x i)
theorem c_pC (T : Tt w k u st R) {i c : Nat} (hi : i ≤ R) (h7 : w.1 73 7 = nI i) (hJ : JR w 76 1 300 c) (hc : c ≤ i) : Cok (Option.bind (f_Reader_one w) fun q12 => if q12.1 = 0 then some (0, q12.2) else Option.bind (f_Reader_relation q12.2) fun q13 => if q13.1 = 0 then some (0, q13.2) else Option.bind (f_Reader_one q13.2) fun q14 => if q14.1 = 0 then some (0, q14.2) else some (1, q14.2)) w c (pC k u i) := by
  have o1 := c_one T hi h7 hJ hc
  have l1 := pO_r (u := u) T.2.2.1 hi
  unfold pC
  by_cases g1 : (pO k u i).1 ≠ 0
  · rw [if_pos g1, o1.2 g1, ob]
    dsimp only
    rw [if_pos rfl]
    exact Cok_f g1 rfl h7 hJ Xr_r
  obtain ⟨v1, a1, a2, a3, a4, a5, a6, a7⟩ := o1.1 (by omega)
  have l1' := (l1.2 (by omega)).1
  rw [if_neg g1, a1, ob]
  dsimp only
  rw [if_neg one_ne]
  have T1 := Xr_Tt a7 T
  have r1 := c_rel T1 (i := i + 1) (by omega) a2 a4 (by omega)
  by_cases g2 : ¬ (18 ≤ k (i + 1) ∧ k (i + 1) ≤ 23)
  · rw [if_pos g2, r1.2 g2, ob]
    dsimp only
    rw [if_pos rfl]
    exact Cok_f (e := 1) (by omega) rfl a2 a4 a7
  have g2' : 18 ≤ k (i + 1) ∧ k (i + 1) ≤ 23 := by omega
  obtain ⟨v2, b1, b2, b3, b4, b5, b6, b7⟩ := r1.1 g2'
  have l2 : i + 2 ≤ R := by
    by_cases y : i + 1 = R
    · rw [y, T.2.2.1] at g2'; omega
    · omega
  rw [if_neg g2, b1, ob]
  dsimp only
  rw [if_neg one_ne]
  have X2 := Xr_t b7 a7
  have o3 := c_one (Xr_Tt X2 T) (i := i + 2) (by omega) b2 b4 (by omega)
  by_cases g3 : (pO k u (i + 2)).1 ≠ 0
  · rw [if_pos g3, o3.2 g3, ob]
    dsimp only
    rw [if_pos rfl]
    exact Cok_f g3 rfl b2 b4 X2
  obtain ⟨v3, d1, d2, d3, d4, d5, d6, d7⟩ := o3.1 (by omega)
  rw [if_neg g3, d1, ob]
  dsimp only
  rw [if_neg one_ne]
  refine ⟨fun _ => ⟨v3, rfl, d2, by rw [d3, b3, a3], ?_, ?_, fun j hj => by rw [d6 j (by omega), b6 j (by omega), a6 j (by omega)], Xr_t d7 X2⟩, fun z => absurd rfl z⟩
  · show JR v3 76 1 300 (c + tln [(k (i + 1) - 18, (pO k u i).2, (pO k u (i + 2)).2)])
    rw [tln, if_pos (by show k (i + 1) - 18 < 6; omega), tln]; exact d4
  · show tkc (v3.1 77) c [(k (i + 1) - 18, (pO k u i).2, (pO k u (i + 2)).2)]
    rw [tkc, if_pos (by show k (i + 1) - 18 < 6; omega)]
    refine ⟨by rw [d6 c (by omega), b6 c (by omega)]; exact a5, by rw [d6 (c + 1) (by omega)]; exact b5, d5, trivial⟩
theorem c_sr {n : Nat} {rE rS : Int32 → jW → Option (Int32 × jW)} {gE gS : Nat → Nat → Prs} (hE : Csp k u st R n rE gE) (hS : Csp k u st R n rS gS) (pE : Pg R gE) (pS : Pg R gS) : Csp k u st R (n + 1) (f_Reader_single_r rE rS) (pSr k u gE gS) := by
  intro x i c w hx hn hi hc T h7 hJ
  have hR := Tt_R T
  have hk := T.2.2.2.1 i
  rw [f_Reader_single_r, h7, c_kd T hi, ob]
  dsimp only
  unfold pSr
  by_cases g : k i = 12 ∨ k i = 24
  rotate_left
  · rw [if_neg g, if_neg (show ¬ nI (k i) = 12 from nI_ne' (b := 12) (by omega) (by omega) (by omega)), if_neg (show ¬ nI (k i) = 24 from nI_ne' (b := 24) (by omega) (by omega) (by omega))]
    exact c_pC T hi h7 hJ hc
  have e : (if nI (k i) = 12 then f_Reader_single_j52 rE rS (nI x) (nI (k i)) w else if nI (k i) = 24 then f_Reader_single_j52 rE rS (nI x) (nI (k i)) w else Option.bind (f_Reader_one w) fun q12 => if q12.1 = 0 then some (0, q12.2) else Option.bind (f_Reader_relation q12.2) fun q13 => if q13.1 = 0 then some (0, q13.2) else Option.bind (f_Reader_one q13.2) fun q14 => if q14.1 = 0 then some (0, q14.2) else some (1, q14.2)) = f_Reader_single_j52 rE rS (nI x) (nI (k i)) w := by
    rcases g with g | g
    · rw [if_pos (by rw [g]; rfl)]
    · rw [if_neg (show ¬ nI (k i) = 12 from nI_ne' (b := 12) (by omega) (by omega) (by omega)), if_pos (by rw [g]; rfl)]
  rw [if_pos g, e, f_Reader_single_j52]
  by_cases g1 : x < 8
  rotate_left
  · rw [if_neg g1, if_neg (show ¬ nI x < 8 from nI_nlt (a := x) (b := 8) (by omega) (by omega)), c_fl, ob]
    dsimp only
    rw [if_pos (show jbo 0 = true by decide)]
    exact Cok_f (e := 3) (by omega) rfl h7 hJ Xr_r
  have l1 : i + 1 ≤ R := by
    by_cases y : i = R
    · rw [y, T.2.2.1] at g; omega
    · omega
  rw [if_pos g1, if_pos (show nI x < 8 from nI_lt (b := 8) g1 (by omega)), jlw_e, h7, ip_1, ip_1]
  obtain ⟨w1, hw1⟩ : ∃ w1 : jW, w1 = (jup w.1 73 7 (nI (i + 1)), w.2) := ⟨_, rfl⟩
  have X1 : Xr w1 w := by rw [hw1]; exact Xr_j (by omega)
  have T1 := Xr_Tt X1 T
  have J1 : JR w1 76 1 300 c := by rw [hw1]; exact JR_73 (by omega) hJ
  have a7 : w1.1 73 7 = nI (i + 1) := by rw [hw1]; dsimp only; rw [jup_eq]
  have a3 : w1.1 73 3 = w.1 73 3 := by rw [hw1]; dsimp only; rw [jup_k (by omega)]
  have a77 : w1.1 77 = w.1 77 := by rw [hw1]; dsimp only; rw [jup_fn (by omega)]
  rw [← hw1]
  by_cases g2 : k i = 24
  · rw [if_pos g2, if_pos (by rw [g2]; rfl)]
    have ih := hE (x + 1) (i + 1) c w1 (by omega) (by omega) l1 (by omega) T1 a7 J1
    obtain ⟨e1, e2, e3, e4⟩ := pE (x + 1) (i + 1) l1
    by_cases g3 : (gE (x + 1) (i + 1)).1 ≠ 0
    · obtain ⟨v, c', b1, b2, b3, b4, b5⟩ := ih.2 g3
      rw [if_pos g3, b1, ob]
      dsimp only
      rw [if_pos rfl]
      exact ⟨fun z => absurd z g3, fun _ => ⟨v, c', rfl, b2, b3, b4, Xr_t b5 X1⟩⟩
    obtain ⟨v, b1, b2, b3, b4, b5, b6, b7⟩ := ih.1 (by omega)
    have Xv := Xr_t b7 X1
    rw [if_neg g3, b1, ob]
    dsimp only
    rw [if_neg one_ne, show f_Reader_expect 25 v = _ from c_exp (Xr_Tt Xv T) (a := 25) e3 b2 (by omega)]
    by_cases g4 : k (gE (x + 1) (i + 1)).2.1 = 25
    · rw [if_pos g4, if_pos g4, ob]
      dsimp only
      rw [if_neg one_ne]
      refine ⟨fun _ => ⟨_, rfl, by dsimp only; rw [jup_eq], by dsimp only; rw [jup_k (by omega), b3, a3], JR_73 (by omega) b4, ?_, fun j hj => ?_, Xr_t (Xr_j (by omega)) Xv⟩, fun z => absurd rfl z⟩
      · dsimp only; rw [jup_fn (by omega)]; exact b5
      · dsimp only; rw [jup_ne (by omega), b6 j hj, a77]
    · rw [if_neg g4, if_neg g4, ob]
      dsimp only
      rw [if_pos rfl]
      exact Cok_f (e := 1) (by omega) rfl b2 b4 Xv
  · rw [if_neg g2, if_neg (show ¬ nI (k i) = 24 from nI_ne' (b := 24) (by omega) (by omega) g2)]
    have ih := hS (x + 1) (i + 1) c w1 (by omega) (by omega) l1 (by omega) T1 a7 J1
    obtain ⟨e1, e2, e3, e4⟩ := pS (x + 1) (i + 1) l1
    by_cases g3 : (gS (x + 1) (i + 1)).1 ≠ 0
    · obtain ⟨v, c', b1, b2, b3, b4, b5⟩ := ih.2 g3
      obtain ⟨q, v2, c2, d1, d2, d3, d4⟩ := c_opa b4 30012
      rw [if_pos g3, b1, ob]
      dsimp only
      rw [d1, ob]
      dsimp only
      rw [if_pos (show jbo 0 = true by decide)]
      exact ⟨fun z => absurd z g3, fun _ => ⟨v2, c2, rfl, by rw [d4]; exact b2, by rw [d4]; exact b3, d2, Xr_t d3 (Xr_t b5 X1)⟩⟩
    obtain ⟨v, b1, b2, b3, b4, b5, b6, b7⟩ := ih.1 (by omega)
    have e5 := e4 (by omega)
    obtain ⟨v2, d1, d2, d3, d4, d5, d6⟩ := c_op b4 (by omega) 30012
    rw [if_neg g3, b1, ob]
    dsimp only
    rw [d1, ob]
    dsimp only
    rw [if_pos (show jbo 1 = true by decide)]
    refine ⟨fun _ => ⟨v2, rfl, by rw [d6]; exact b2, by rw [d6, b3, a3], ?_, ?_, fun j hj => by rw [d4 j (by omega), b6 j hj, a77], Xr_t d5 (Xr_t b7 X1)⟩, fun z => absurd rfl z⟩
    · show JR v2 76 1 300 (c + tln ((gS (x + 1) (i + 1)).2.2 ++ [(6, 0, 0)]))
      rw [tln_app, tln, if_neg (show ¬ (6 : Nat) < 6 by omega), tln]; exact d2
    · refine (tkc_app _ _ _).mpr ⟨tkc_tr _ _ (fun j q1 q2 => d4 j (by omega)) b5, ?_⟩
      rw [tkc, if_neg (show ¬ (6 : Nat) < 6 by omega)]
      exact ⟨d3, trivial⟩
theorem c_both_h {n : Nat} {rS : Int32 → jW → Option (Int32 × jW)} {g : Nat → Nat → Prs} (hS : Csp k u st R n rS g) (pS : Pg R g) {x c : Nat} (hx : x ≤ 8) (hn : 9 ≤ x + n) {w0 : jW} : ∀ m i f L (w : jW), m ≤ 300 → m < f → i ≤ R → c + tln L ≤ i → Tt w k u st R → w.1 73 7 = nI i → w.1 73 3 = w0.1 73 3 → JR w 76 1 300 (c + tln L) → tkc (w.1 77) c L → (∀ j, j < c → w.1 77 j = w0.1 77 j) → Xr w w0 → Cok (f_Reader_both_h12 rS f (nI x) (nI (300 - m)) w) w0 c (pJ k 11 7 g x m i L) := by
  intro m
  induction m with
  | zero =>
    intro i f L w hm hf hi hc T h7 h73 hJ ht hj X
    obtain ⟨f, rfl⟩ : ∃ j, f = j + 1 := ⟨f - 1, by omega⟩
    rw [f_Reader_both_h12, if_neg (show ¬ nI (300 - 0) < 300 by decide), pJ]
    exact ⟨fun _ => ⟨w, rfl, h7, h73, hJ, ht, hj, X⟩, fun z => absurd rfl z⟩
  | succ m ih =>
    intro i f L w hm hf hi hc T h7 h73 hJ ht hj X
    obtain ⟨f, rfl⟩ : ∃ j, f = j + 1 := ⟨f - 1, by omega⟩
    have hR := Tt_R T
    have hk := T.2.2.2.1 i
    rw [f_Reader_both_h12, if_pos (show nI (300 - (m + 1)) < 300 from nI_lt (b := 300) (by omega) (by omega)), h7, c_kd T hi, ob, pJ]
    dsimp only
    by_cases g1 : k i = 11
    rotate_left
    · rw [if_neg g1, if_neg (show ¬ nI (k i) = 11 from nI_ne' (b := 11) (by omega) (by omega) g1)]
      exact ⟨fun _ => ⟨w, rfl, h7, h73, hJ, ht, hj, X⟩, fun z => absurd rfl z⟩
    have l1 : i + 1 ≤ R := by
      by_cases y : i = R
      · rw [y, T.2.2.1] at g1; omega
      · omega
    rw [if_pos g1, if_pos (by rw [g1]; rfl), jlw_e, h7, ip_1]
    obtain ⟨w1, hw1⟩ : ∃ w1 : jW, w1 = (jup w.1 73 7 (nI (i + 1)), w.2) := ⟨_, rfl⟩
    have X1 : Xr w1 w := by rw [hw1]; exact Xr_j (by omega)
    have J1 : JR w1 76 1 300 (c + tln L) := by rw [hw1]; exact JR_73 (by omega) hJ
    have a7 : w1.1 73 7 = nI (i + 1) := by rw [hw1]; dsimp only; rw [jup_eq]
    have a3 : w1.1 73 3 = w.1 73 3 := by rw [hw1]; dsimp only; rw [jup_k (by omega)]
    have a77 : w1.1 77 = w.1 77 := by rw [hw1]; dsimp only; rw [jup_fn (by omega)]
    rw [← hw1]
    have ih1 := hS x (i + 1) (c + tln L) w1 hx hn l1 (by omega) (Xr_Tt X1 T) a7 J1
    obtain ⟨e1, e2, e3, e4⟩ := pS x (i + 1) l1
    by_cases g3 : (g x (i + 1)).1 ≠ 0
    · obtain ⟨v, c', b1, b2, b3, b4, b5⟩ := ih1.2 g3
      rw [if_pos g3, b1, ob]
      dsimp only
      rw [if_pos rfl]
      exact ⟨fun z => absurd z g3, fun _ => ⟨v, c', rfl, b2, b3, b4, Xr_t b5 (Xr_t X1 X)⟩⟩
    obtain ⟨v, b1, b2, b3, b4, b5, b6, b7⟩ := ih1.1 (by omega)
    have e5 := e4 (by omega)
    obtain ⟨v2, d1, d2, d3, d4, d5, d6⟩ := c_op b4 (by omega) 30011
    have hl : tln (L ++ (g x (i + 1)).2.2 ++ [(7, 0, 0)]) = tln L + tln (g x (i + 1)).2.2 + 1 := by
      rw [tln_app, tln_app, tln, if_neg (show ¬ (7 : Nat) < 6 by omega), tln]
    have Xv := Xr_t d5 (Xr_t b7 (Xr_t X1 X))
    rw [if_neg g3, b1, ob]
    dsimp only
    rw [if_neg one_ne, d1, ob, ip_1, show 300 - (m + 1) + 1 = 300 - m by omega]
    dsimp only
    refine ih _ f _ v2 (by omega) (by omega) e3 (by rw [hl]; omega) (Xr_Tt (Xr_t d5 (Xr_t b7 X1)) T) (by rw [d6]; exact b2) (by rw [d6, b3, a3, h73]) (by rw [hl, ← Nat.add_assoc, ← Nat.add_assoc]; exact d2) ?_ (fun j q => by rw [d4 j (by omega), b6 j (by omega), a77, hj j q]) Xv
    refine (tkc_app _ _ _).mpr ⟨(tkc_app _ _ _).mpr ⟨tkc_tr _ _ (fun j q1 q2 => by rw [d4 j (by omega), b6 j (by omega), a77]) ht, tkc_tr _ _ (fun j q1 q2 => d4 j (by omega)) b5⟩, ?_⟩
    rw [tkc, if_neg (show ¬ (7 : Nat) < 6 by omega), tln_app, ← Nat.add_assoc]
    exact ⟨d3, trivial⟩
theorem c_both_r {n : Nat} {rS : Int32 → jW → Option (Int32 × jW)} {g : Nat → Nat → Prs} (hS : Csp k u st R n rS g) (pS : Pg R g) : Csp k u st R n (f_Reader_both_r rS) (pJr k 11 7 g) := by
  intro x i c w hx hn hi hc T h7 hJ
  have ih1 := hS x i c w hx hn hi hc T h7 hJ
  obtain ⟨e1, e2, e3, e4⟩ := pS x i hi
  rw [f_Reader_both_r]
  unfold pJr
  by_cases g3 : (g x i).1 ≠ 0
  · obtain ⟨v, c', b1, b2, b3, b4, b5⟩ := ih1.2 g3
    rw [if_pos g3, b1, ob]
    dsimp only
    rw [if_pos rfl]
    exact ⟨fun z => absurd z g3, fun _ => ⟨v, c', rfl, b2, b3, b4, b5⟩⟩
  obtain ⟨v, b1, b2, b3, b4, b5, b6, b7⟩ := ih1.1 (by omega)
  have e5 := e4 (by omega)
  rw [if_neg g3, b1, ob]
  dsimp only
  rw [if_neg one_ne]
  exact c_both_h hS pS hx hn 300 _ jfu _ v (by omega) (by unfold jfu; omega) e3 (by omega) (Xr_Tt b7 T) b2 b3 b4 b5 b6 b7
theorem c_either_h {n : Nat} {rS : Int32 → jW → Option (Int32 × jW)} {g : Nat → Nat → Prs} (hS : Csp k u st R n rS g) (pS : Pg R g) {x c : Nat} (hx : x ≤ 8) (hn : 9 ≤ x + n) {w0 : jW} : ∀ m i f L (w : jW), m ≤ 300 → m < f → i ≤ R → c + tln L ≤ i → Tt w k u st R → w.1 73 7 = nI i → w.1 73 3 = w0.1 73 3 → JR w 76 1 300 (c + tln L) → tkc (w.1 77) c L → (∀ j, j < c → w.1 77 j = w0.1 77 j) → Xr w w0 → Cok (f_Reader_either_h12 rS f (nI x) (nI (300 - m)) w) w0 c (pJ k 10 8 g x m i L) := by
  intro m
  induction m with
  | zero =>
    intro i f L w hm hf hi hc T h7 h73 hJ ht hj X
    obtain ⟨f, rfl⟩ : ∃ j, f = j + 1 := ⟨f - 1, by omega⟩
    rw [f_Reader_either_h12, if_neg (show ¬ nI (300 - 0) < 300 by decide), pJ]
    exact ⟨fun _ => ⟨w, rfl, h7, h73, hJ, ht, hj, X⟩, fun z => absurd rfl z⟩
  | succ m ih =>
    intro i f L w hm hf hi hc T h7 h73 hJ ht hj X
    obtain ⟨f, rfl⟩ : ∃ j, f = j + 1 := ⟨f - 1, by omega⟩
    have hR := Tt_R T
    have hk := T.2.2.2.1 i
    rw [f_Reader_either_h12, if_pos (show nI (300 - (m + 1)) < 300 from nI_lt (b := 300) (by omega) (by omega)), h7, c_kd T hi, ob, pJ]
    dsimp only
    by_cases g1 : k i = 10
    rotate_left
    · rw [if_neg g1, if_neg (show ¬ nI (k i) = 10 from nI_ne' (b := 10) (by omega) (by omega) g1)]
      exact ⟨fun _ => ⟨w, rfl, h7, h73, hJ, ht, hj, X⟩, fun z => absurd rfl z⟩
    have l1 : i + 1 ≤ R := by
      by_cases y : i = R
      · rw [y, T.2.2.1] at g1; omega
      · omega
    rw [if_pos g1, if_pos (by rw [g1]; rfl), jlw_e, h7, ip_1]
    obtain ⟨w1, hw1⟩ : ∃ w1 : jW, w1 = (jup w.1 73 7 (nI (i + 1)), w.2) := ⟨_, rfl⟩
    have X1 : Xr w1 w := by rw [hw1]; exact Xr_j (by omega)
    have J1 : JR w1 76 1 300 (c + tln L) := by rw [hw1]; exact JR_73 (by omega) hJ
    have a7 : w1.1 73 7 = nI (i + 1) := by rw [hw1]; dsimp only; rw [jup_eq]
    have a3 : w1.1 73 3 = w.1 73 3 := by rw [hw1]; dsimp only; rw [jup_k (by omega)]
    have a77 : w1.1 77 = w.1 77 := by rw [hw1]; dsimp only; rw [jup_fn (by omega)]
    rw [← hw1]
    have ih1 := hS x (i + 1) (c + tln L) w1 hx hn l1 (by omega) (Xr_Tt X1 T) a7 J1
    obtain ⟨e1, e2, e3, e4⟩ := pS x (i + 1) l1
    by_cases g3 : (g x (i + 1)).1 ≠ 0
    · obtain ⟨v, c', b1, b2, b3, b4, b5⟩ := ih1.2 g3
      rw [if_pos g3, b1, ob]
      dsimp only
      rw [if_pos rfl]
      exact ⟨fun z => absurd z g3, fun _ => ⟨v, c', rfl, b2, b3, b4, Xr_t b5 (Xr_t X1 X)⟩⟩
    obtain ⟨v, b1, b2, b3, b4, b5, b6, b7⟩ := ih1.1 (by omega)
    have e5 := e4 (by omega)
    obtain ⟨v2, d1, d2, d3, d4, d5, d6⟩ := c_op b4 (by omega) 30010
    have hl : tln (L ++ (g x (i + 1)).2.2 ++ [(8, 0, 0)]) = tln L + tln (g x (i + 1)).2.2 + 1 := by
      rw [tln_app, tln_app, tln, if_neg (show ¬ (8 : Nat) < 6 by omega), tln]
    have Xv := Xr_t d5 (Xr_t b7 (Xr_t X1 X))
    rw [if_neg g3, b1, ob]
    dsimp only
    rw [if_neg one_ne, d1, ob, ip_1, show 300 - (m + 1) + 1 = 300 - m by omega]
    dsimp only
    refine ih _ f _ v2 (by omega) (by omega) e3 (by rw [hl]; omega) (Xr_Tt (Xr_t d5 (Xr_t b7 X1)) T) (by rw [d6]; exact b2) (by rw [d6, b3, a3, h73]) (by rw [hl, ← Nat.add_assoc, ← Nat.add_assoc]; exact d2) ?_ (fun j q => by rw [d4 j (by omega), b6 j (by omega), a77, hj j q]) Xv
    refine (tkc_app _ _ _).mpr ⟨(tkc_app _ _ _).mpr ⟨tkc_tr _ _ (fun j q1 q2 => by rw [d4 j (by omega), b6 j (by omega), a77]) ht, tkc_tr _ _ (fun j q1 q2 => d4 j (by omega)) b5⟩, ?_⟩
    rw [tkc, if_neg (show ¬ (8 : Nat) < 6 by omega), tln_app, ← Nat.add_assoc]
    exact ⟨d3, trivial⟩
theorem c_either_r {n : Nat} {rS : Int32 → jW → Option (Int32 × jW)} {g : Nat → Nat → Prs} (hS : Csp k u st R n rS g) (pS : Pg R g) : Csp k u st R n (f_Reader_either_r rS) (pJr k 10 8 g) := by
  intro x i c w hx hn hi hc T h7 hJ
  have ih1 := hS x i c w hx hn hi hc T h7 hJ
  obtain ⟨e1, e2, e3, e4⟩ := pS x i hi
  rw [f_Reader_either_r]
  unfold pJr
  by_cases g3 : (g x i).1 ≠ 0
  · obtain ⟨v, c', b1, b2, b3, b4, b5⟩ := ih1.2 g3
    rw [if_pos g3, b1, ob]
    dsimp only
    rw [if_pos rfl]
    exact ⟨fun z => absurd z g3, fun _ => ⟨v, c', rfl, b2, b3, b4, b5⟩⟩
  obtain ⟨v, b1, b2, b3, b4, b5, b6, b7⟩ := ih1.1 (by omega)
  have e5 := e4 (by omega)
  rw [if_neg g3, b1, ob]
  dsimp only
  rw [if_neg one_ne]
  exact c_either_h hS pS hx hn 300 _ jfu _ v (by omega) (by unfold jfu; omega) e3 (by omega) (Xr_Tt b7 T) b2 b3 b4 b5 b6 b7
theorem c_jrd (hk : k R = 28) : ∀ n, Csp k u st R n (jrd n).1 (prd k u n).1 ∧ Csp k u st R n (jrd n).2 (prd k u n).2 := by
  intro n
  induction n with
  | zero => exact ⟨fun x i c w hx hn => by omega, fun x i c w hx hn => by omega⟩
  | succ n ih =>
    have g := prd_g (u := u) hk n
    have gS := pSr_g (u := u) hk g.2 g.1
    have hS := c_sr ih.2 ih.1 g.2 g.1
    exact ⟨hS, c_either_r (c_both_r hS gS) (pJr_g hk (by omega) (by omega) gS)⟩
end CR

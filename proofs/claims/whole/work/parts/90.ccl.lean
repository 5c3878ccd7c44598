/-! LAYER B: clauses, by the pure parser and by the class -/
section CL
abbrev Pcl : Type := Nat × Nat × Nat × Nat × Nat × List (Nat × Nat × Nat)
def pT (k u : Nat → Nat) (lo hi i : Nat) (F : Nat → Pcl) : Pcl := if k i = 27 then (if lo ≤ u i ∧ u i ≤ hi then F (u i) else (2, i, 0, 0, 0, [])) else (1, i, 0, 0, 0, [])
def pX (k : Nat → Nat) (a i : Nat) (F : Pcl) : Pcl := if k i = a then F else (1, i, 0, 0, 0, [])
def pcl (k u : Nat → Nat) (j i : Nat) : Pcl :=
  if 7 ≤ k i then (1, i, 0, 0, 0, [])
  else if 16 ≤ j then (4, i, 0, 0, 0, [])
  else if k i = 1 then pT k u 0 99 (i + 1) fun a => pX k 7 (i + 2) (pT k u 0 1999 (i + 3) fun b => pX k 8 (i + 4) (pT k u b 1999 (i + 5) fun d => pX k 26 (i + 6) (0, i + 7, a, b, d, [])))
  else if k i = 2 ∨ k i = 6 then pT k u 0 360 (i + 1) fun a => pX k 26 (i + 2) (0, i + 3, a, 0, 0, [])
  else if k i = 3 then pT k u 0 99 (i + 1) fun a => pX k 26 (i + 2) (0, i + 3, a, 0, 0, [])
  else if k i = 5 then pT k u 1 9 (i + 1) fun a => pX k 9 (i + 2) (pT k u 0 99 (i + 3) fun b => pX k 26 (i + 4) (0, i + 5, a, b, 0, []))
  else if ((prd k u 10).2 0 (i + 1)).1 ≠ 0 then (((prd k u 10).2 0 (i + 1)).1, ((prd k u 10).2 0 (i + 1)).2.1, 0, 0, 0, [])
  else pX k 26 ((prd k u 10).2 0 (i + 1)).2.1 (0, ((prd k u 10).2 0 (i + 1)).2.1 + 1, 0, 0, 0, ((prd k u 10).2 0 (i + 1)).2.2)
variable {w v w0 : jW} {k u st : Nat → Nat} {R : Nat}
/-- what a clause that is read tells: a word s first -/
def Gcl (R i s j : Nat) (r : Pcl) : Prop := r.1 ≤ 4 ∧ r.2.1 ≤ R ∧ (r.1 = 0 → j < 16 ∧ s < 7 ∧ i < r.2.1 ∧ tln r.2.2.2.2.2 + i < r.2.1 ∧ (s = 1 → r.2.2.1 ≤ 99 ∧ r.2.2.2.1 ≤ 1999 ∧ r.2.2.2.2.1 ≤ 1999) ∧ (s = 2 ∨ s = 3 ∨ s = 5 ∨ s = 6 → r.2.2.1 ≤ 360) ∧ (s = 5 → r.2.2.2.1 ≤ 99) ∧ (s = 0 ∨ s = 4 → wfd r.2.2.2.2.2 0 = some 1) ∧ (s ≠ 0 → s ≠ 4 → r.2.2.2.2.2 = []))
theorem g_pT {lo hi i i0 s j : Nat} {F : Nat → Pcl} (hi0 : i ≤ R) (next : k i = 27 → lo ≤ u i → u i ≤ hi → Gcl R i0 s j (F (u i))) : Gcl R i0 s j (pT k u lo hi i F) := by
  unfold pT
  by_cases g : k i = 27
  · rw [if_pos g]
    by_cases y : lo ≤ u i ∧ u i ≤ hi
    · rw [if_pos y]; exact next g y.1 y.2
    · rw [if_neg y]; exact ⟨by show 2 ≤ 4; omega, hi0, fun z => (by simp at z)⟩
  · rw [if_neg g]; exact ⟨by show 1 ≤ 4; omega, hi0, fun z => (by simp at z)⟩
theorem g_pX {a i i0 s j : Nat} {F : Pcl} (hi0 : i ≤ R) (next : k i = a → Gcl R i0 s j F) : Gcl R i0 s j (pX k a i F) := by
  unfold pX
  by_cases g : k i = a
  · rw [if_pos g]; exact next g
  · rw [if_neg g]; exact ⟨by show 1 ≤ 4; omega, hi0, fun z => (by simp at z)⟩
theorem kR_s (hk : k R = 28) {i : Nat} (hi : i ≤ R) {a : Nat} (h : k i = a) (ha : a ≠ 28) : i + 1 ≤ R := by
  by_cases y : i = R
  · rw [y, hk] at h; exact absurd h.symm ha
  · omega
theorem pcl_g (hk : k R = 28) {j i : Nat} (hi : i ≤ R) : Gcl R i (k i) j (pcl k u j i) := by
  unfold pcl
  by_cases g0 : 7 ≤ k i
  · rw [if_pos g0]; exact ⟨by show 1 ≤ 4; omega, hi, fun z => (by simp at z)⟩
  rw [if_neg g0]
  by_cases g1 : 16 ≤ j
  · rw [if_pos g1]; exact ⟨by show 4 ≤ 4; omega, hi, fun z => (by simp at z)⟩
  rw [if_neg g1]
  have l1 : i + 1 ≤ R := kR_s hk hi rfl (by omega)
  by_cases c1 : k i = 1
  · rw [if_pos c1]
    refine g_pT l1 fun q1 q2 q3 => ?_
    have l2 := kR_s hk l1 q1 (by omega)
    refine g_pX l2 fun q4 => ?_
    have l3 := kR_s hk l2 q4 (by omega)
    refine g_pT l3 fun q5 q6 q7 => ?_
    have l4 := kR_s hk l3 q5 (by omega)
    refine g_pX l4 fun q8 => ?_
    have l5 := kR_s hk l4 q8 (by omega)
    refine g_pT l5 fun q9 qa qb => ?_
    have l6 := kR_s hk l5 q9 (by omega)
    refine g_pX l6 fun qc => ?_
    have l7 := kR_s hk l6 qc (by omega)
    exact ⟨by show 0 ≤ 4; omega, l7, fun _ => ⟨by omega, by omega, by show i < i + 7; omega, by show 0 + i < i + 7; omega, fun _ => ⟨q3, q7, qb⟩, fun z => by omega, fun z => by omega, fun z => by omega, fun _ _ => rfl⟩⟩
  rw [if_neg c1]
  by_cases c2 : k i = 2 ∨ k i = 6
  · rw [if_pos c2]
    refine g_pT l1 fun q1 q2 q3 => ?_
    have l2 := kR_s hk l1 q1 (by omega)
    refine g_pX l2 fun q4 => ?_
    have l3 := kR_s hk l2 q4 (by omega)
    exact ⟨by show 0 ≤ 4; omega, l3, fun _ => ⟨by omega, by omega, by show i < i + 3; omega, by show 0 + i < i + 3; omega, fun z => by omega, fun _ => q3, fun z => by omega, fun z => by omega, fun _ _ => rfl⟩⟩
  rw [if_neg c2]
  by_cases c3 : k i = 3
  · rw [if_pos c3]
    refine g_pT l1 fun q1 q2 q3 => ?_
    have l2 := kR_s hk l1 q1 (by omega)
    refine g_pX l2 fun q4 => ?_
    have l3 := kR_s hk l2 q4 (by omega)
    exact ⟨by show 0 ≤ 4; omega, l3, fun _ => ⟨by omega, by omega, by show i < i + 3; omega, by show 0 + i < i + 3; omega, fun z => by omega, fun _ => by show u (i + 1) ≤ 360; omega, fun z => by omega, fun z => by omega, fun _ _ => rfl⟩⟩
  rw [if_neg c3]
  by_cases c5 : k i = 5
  · rw [if_pos c5]
    refine g_pT l1 fun q1 q2 q3 => ?_
    have l2 := kR_s hk l1 q1 (by omega)
    refine g_pX l2 fun q4 => ?_
    have l3 := kR_s hk l2 q4 (by omega)
    refine g_pT l3 fun q5 q6 q7 => ?_
    have l4 := kR_s hk l3 q5 (by omega)
    refine g_pX l4 fun q8 => ?_
    have l5 := kR_s hk l4 q8 (by omega)
    exact ⟨by show 0 ≤ 4; omega, l5, fun _ => ⟨by omega, by omega, by show i < i + 5; omega, by show 0 + i < i + 5; omega, fun z => by omega, fun _ => by show u (i + 1) ≤ 360; omega, fun _ => q7, fun z => by omega, fun _ _ => rfl⟩⟩
  rw [if_neg c5]
  obtain ⟨e1, e2, e3, e4⟩ := (prd_g (u := u) hk 10).2 0 (i + 1) l1
  by_cases g3 : ((prd k u 10).2 0 (i + 1)).1 ≠ 0
  · rw [if_pos g3]; exact ⟨e1, e3, fun z => absurd z g3⟩
  rw [if_neg g3]
  have e5 := e4 (by omega)
  have e6 := (prd_w (u := u) hk 10).2 0 (i + 1) 0 l1 (by omega) (by omega)
  refine g_pX e3 fun q4 => ?_
  have l3 := kR_s hk e3 q4 (by omega)
  refine ⟨by show 0 ≤ 4; omega, l3, fun _ => ⟨by omega, by omega, by show i < ((prd k u 10).2 0 (i + 1)).2.1 + 1; omega, by show tln ((prd k u 10).2 0 (i + 1)).2.2 + i < ((prd k u 10).2 0 (i + 1)).2.1 + 1; omega, fun z => by omega, fun z => by omega, fun z => by omega, fun _ => ?_, fun z1 z2 => by omega⟩⟩
  have := e6 []
  rw [List.append_nil] at this
  exact this
/-- only the reader's cells differ -/
def Xq (v w : jW) : Prop := (∀ b, b < 73 ∨ 77 < b → v.1 b = w.1 b) ∧ (∀ j, j ≠ 3 → j ≠ 7 → v.1 73 j = w.1 73 j) ∧ v.2 = w.2
theorem Xq_r : Xq w w := ⟨fun _ _ => rfl, fun _ _ _ => rfl, rfl⟩
theorem Xq_t {x : jW} (h : Xq x v) (g : Xq v w) : Xq x w := ⟨fun b q1 => (h.1 b q1).trans (g.1 b q1), fun j q1 q2 => (h.2.1 j q1 q2).trans (g.2.1 j q1 q2), h.2.2.trans g.2.2⟩
theorem Xq_o (h : Xr v w) : Xq v w := ⟨fun b q => h.1 b (by omega) (by omega) (by omega), h.2⟩
theorem Xq_Tt (h : Xq v w) (T : Tt w k u st R) : Tt v k u st R := ⟨JR_eq T.1 (h.1 81 (by omega)), fun i hi => by rw [h.1 82 (by omega)]; exact T.2.1 i hi, T.2.2⟩
/-- a clause's row in the class's table -/
def rwF (s p : Nat) (r : Pcl) (q : Nat) : Nat := if q = 0 then s else if q = 1 then (if s = 0 ∨ s = 4 then p else r.2.2.1) else if q = 2 then (if s = 0 ∨ s = 4 then p + tln r.2.2.2.2.2 else r.2.2.2.1) else r.2.2.2.2.1
def Cc (z : Option (Int32 × jW)) (w0 : jW) (j p s : Nat) (r : Pcl) : Prop := (r.1 = 0 → ∃ v, z = some (1, v) ∧ v.1 73 7 = nI r.2.1 ∧ v.1 73 3 = w0.1 73 3 ∧ JR v 74 4 16 (j + 1) ∧ (∀ q, q < 4 → v.1 75 (j * 4 + q) = nI (rwF s p r q)) ∧ (∀ q, q < j * 4 → v.1 75 q = w0.1 75 q) ∧ JR v 76 1 300 (p + tln r.2.2.2.2.2) ∧ tkc (v.1 77) p r.2.2.2.2.2 ∧ (∀ q, q < p → v.1 77 q = w0.1 77 q) ∧ Xq v w0) ∧ (r.1 ≠ 0 → ∃ v c' j', z = some (0, v) ∧ v.1 73 7 = nI r.2.1 ∧ v.1 73 3 = nI r.1 ∧ JR v 76 1 300 c' ∧ JR v 74 4 16 j' ∧ Xq v w0)
/-- a clause on its way, in the class -/
def Sc (k u st : Nat → Nat) (R : Nat) (w w0 : jW) (i j p : Nat) (ρ : Nat → Nat) (L : List (Nat × Nat × Nat)) : Prop := Tt w k u st R ∧ i ≤ R ∧ w.1 73 7 = nI i ∧ w.1 73 3 = w0.1 73 3 ∧ JR w 74 4 16 (j + 1) ∧ (∀ q, q < 4 → w.1 75 (j * 4 + q) = nI (ρ q)) ∧ (∀ q, q < j * 4 → w.1 75 q = w0.1 75 q) ∧ JR w 76 1 300 (p + tln L) ∧ tkc (w.1 77) p L ∧ (∀ q, q < p → w.1 77 q = w0.1 77 q) ∧ Xq w w0
theorem Cc_f {z : Option (Int32 × jW)} {i j p s e : Nat} {ρ : Nat → Nat} {L : List (Nat × Nat × Nat)} (S : Sc k u st R w w0 i j p ρ L) (he : e ≠ 0) (hz : z = some (0, (jup w.1 73 3 (nI e), w.2))) : Cc z w0 j p s (e, i, 0, 0, 0, []) := by
  obtain ⟨s1, s2, s3, s4, s5, s6, s7, s8, s9, s10, s11⟩ := S
  exact ⟨fun q => absurd q he, fun _ => ⟨_, _, _, hz, by dsimp only; rw [jup_k (by omega)]; exact s3, by dsimp only; rw [jup_eq], JR_73 (by omega) s8, JR_73 (by omega) s5, Xq_t (Xq_o (Xr_j (by omega))) s11⟩⟩
theorem Sc_n {i j p : Nat} {ρ : Nat → Nat} {L : List (Nat × Nat × Nat)} (S : Sc k u st R w w0 i j p ρ L) (h : i + 1 ≤ R) : Sc k u st R (jup w.1 73 7 (nI (i + 1)), w.2) w0 (i + 1) j p ρ L := by
  obtain ⟨s1, s2, s3, s4, s5, s6, s7, s8, s9, s10, s11⟩ := S
  have X : Xq (jup w.1 73 7 (nI (i + 1)), w.2) w := Xq_o (Xr_j (by omega))
  refine ⟨Xq_Tt X s1, h, by dsimp only; rw [jup_eq], by dsimp only; rw [jup_k (by omega)]; exact s4, JR_73 (by omega) s5, fun q hq => ?_, fun q hq => ?_, JR_73 (by omega) s8, ?_, fun q hq => ?_, Xq_t X s11⟩
  · dsimp only; rw [jup_ne (by omega)]; exact s6 q hq
  · dsimp only; rw [jup_ne (by omega)]; exact s7 q hq
  · dsimp only; rw [jup_fn (by omega)]; exact s9
  · dsimp only; rw [jup_ne (by omega)]; exact s10 q hq
theorem c_pX {a i j p s : Nat} {ρ : Nat → Nat} {L : List (Nat × Nat × Nat)} {G : Int32 × jW → Option (Int32 × jW)} {F : Pcl} (ha : a < 28) (S : Sc k u st R w w0 i j p ρ L) (next : k i = a → ∀ w1, Sc k u st R w1 w0 (i + 1) j p ρ L → Cc (G (1, w1)) w0 j p s F) : Cc (Option.bind (f_Reader_expect (nI a) w) fun q => if q.1 = 0 then some (0, q.2) else G q) w0 j p s (pX k a i F) := by
  unfold pX
  rw [c_exp S.1 S.2.1 S.2.2.1 (by omega)]
  by_cases g : k i = a
  · rw [if_pos g, if_pos g, ob]
    dsimp only
    rw [if_neg one_ne]
    exact next g _ (Sc_n S (kR_s S.1.2.2.1 S.2.1 g (by omega)))
  · rw [if_neg g, if_neg g, ob]
    dsimp only
    rw [if_pos rfl]
    exact Cc_f S (by omega) rfl
theorem c_pT {lo hi i j p s col : Nat} {ρ : Nat → Nat} {L : List (Nat × Nat × Nat)} {G : Int32 × jW → Option (Int32 × jW)} {F : Nat → Pcl} (hc : col < 4) (hlo : lo ≤ 10000) (hhi : hi ≤ 10000) (S : Sc k u st R w w0 i j p ρ L) (next : k i = 27 → lo ≤ u i → u i ≤ hi → ∀ w1, Sc k u st R w1 w0 (i + 1) j p (fun q => if q = col then u i else ρ q) L → Cc (G (1, w1)) w0 j p s (F (u i))) : Cc (Option.bind (f_Reader_among (nI j) (nI col) (nI lo) (nI hi) w) fun q => if q.1 = 0 then some (0, q.2) else G q) w0 j p s (pT k u lo hi i F) := by
  unfold pT
  have S' := S
  obtain ⟨s1, s2, s3, s4, s5, s6, s7, s8, s9, s10, s11⟩ := S'
  have hk := s1.2.2.2.1 i
  have hu := s1.2.2.2.2 i
  rw [f_Reader_among, s3, c_nu s1 s2, ob]
  dsimp only
  rw [s3, c_kd s1 s2, ob]
  dsimp only
  by_cases g : k i = 27
  rotate_left
  · rw [if_neg g, if_neg (show ¬ nI (k i) = 27 from nI_ne' (b := 27) (by omega) (by omega) g), c_fl, ob]
    dsimp only
    rw [if_pos (show jbo 0 = true by decide), ob]
    dsimp only
    rw [if_pos rfl]
    exact Cc_f S (e := 1) (by omega) rfl
  rw [if_pos g, if_pos (by rw [g]; rfl), (s1.2.1 i s2).2.2 g, f_Reader_among_j50, c_fl, ob]
  dsimp only
  rw [if_pos (show jbo 0 = true by decide)]
  by_cases y : lo ≤ u i ∧ u i ≤ hi
  · rw [if_pos y, if_neg (show ¬ nI (u i) < nI lo from nI_nlt y.1 (by omega)), if_pos (show nI (u i) ≤ nI hi from (nI_leI (by omega) (by omega)).mpr y.2), r_put s5 (i := j) (by omega) hc, ob, jlw_e]
    dsimp only
    rw [jup_ne (show (73 : Nat) ≠ 75 by omega), s3, ip_1, ob]
    dsimp only
    rw [if_neg one_ne]
    have X1 : Xq (jup w.1 75 (j * 4 + col) (nI (u i)), w.2) w := ⟨fun b q => by dsimp only; rw [jup_fn (by omega)], fun q _ _ => by dsimp only; rw [jup_ne (by omega)], rfl⟩
    have S1 : Sc k u st R (jup w.1 75 (j * 4 + col) (nI (u i)), w.2) w0 i j p (fun q => if q = col then u i else ρ q) L := by
      refine ⟨Xq_Tt X1 s1, s2, by dsimp only; rw [jup_ne (by omega)]; exact s3, by dsimp only; rw [jup_ne (by omega)]; exact s4, JR_eq s5 (by dsimp only; rw [jup_fn (by omega)]), fun q hq => ?_, fun q hq => ?_, JR_eq s8 (by dsimp only; rw [jup_fn (by omega)]), ?_, fun q hq => ?_, Xq_t X1 s11⟩
      · dsimp only
        by_cases z : q = col
        · rw [if_pos z, z, jup_eq]
        · rw [if_neg z, jup_k (by omega)]; exact s6 q hq
      · dsimp only; rw [jup_k (by omega)]; exact s7 q hq
      · dsimp only; rw [jup_fn (by omega)]; exact s9
      · dsimp only; rw [jup_ne (by omega)]; exact s10 q hq
    exact next g y.1 y.2 _ (Sc_n S1 (kR_s s1.2.2.1 s2 g (by omega)))
  · rw [if_neg y]
    refine Cc_f S (e := 2) (by omega) ?_
    by_cases y1 : u i < lo
    · rw [if_pos (show nI (u i) < nI lo from nI_lt y1 (by omega)), ob]; rfl
    · rw [if_neg (show ¬ nI (u i) < nI lo from nI_nlt (by omega) (by omega)), if_neg (show ¬ nI (u i) ≤ nI hi from fun z => y ⟨by omega, (nI_leI (by omega) (by omega)).mp z⟩), ob]; rfl
theorem c_end {i j p s a b d : Nat} {ρ : Nat → Nat} {L : List (Nat × Nat × Nat)} (S : Sc k u st R w w0 i j p ρ L) (h : ∀ q, q < 4 → ρ q = rwF s p (0, i, a, b, d, L) q) : Cc (some (1, w)) w0 j p s (0, i, a, b, d, L) := by
  obtain ⟨s1, s2, s3, s4, s5, s6, s7, s8, s9, s10, s11⟩ := S
  exact ⟨fun _ => ⟨w, rfl, s3, s4, s5, fun q hq => by rw [← h q hq]; exact s6 q hq, s7, s8, s9, s10, s11⟩, fun z => absurd rfl z⟩
theorem c_row4 {j : Nat} (h : JR w 74 4 16 j) (hj : j < 16) (x : Int32) : ∃ v, f_Rows_open 74 x w = some (nI j, v) ∧ JR v 74 4 16 (j + 1) ∧ (∀ q, q < 4 → v.1 75 (j * 4 + q) = if q = 0 then x else 0) ∧ (∀ q, q < j * 4 → v.1 75 q = w.1 75 q) ∧ (∀ b, b ≠ 74 → b ≠ 75 → v.1 b = w.1 b) ∧ v.2 = w.2 := by
  refine ⟨_, r_open h hj x, ⟨?_, ?_, by omega, h.2.2.2⟩, fun q hq => ?_, fun q hq => ?_, fun b q1 q2 => funext fun q => ?_, rfl⟩
  · unfold jrow; dsimp only; rw [if_neg (by omega), if_neg (by omega)]; exact h.1
  · unfold jrow; dsimp only; rw [if_pos ⟨rfl, rfl⟩]
  · unfold jrow; dsimp only
    rw [if_neg (by omega), if_pos (by omega)]
    by_cases z : q = 0
    · rw [if_pos z, if_pos (by omega)]
    · rw [if_neg z, if_neg (by omega)]
  · unfold jrow; dsimp only; rw [if_neg (by omega), if_neg (by omega)]
  · unfold jrow; dsimp only; rw [if_neg (by omega), if_neg (by omega)]
theorem c_clause (T : Tt w k u st R) {i j p : Nat} (hi : i ≤ R) (h7 : w.1 73 7 = nI i) (J4 : JR w 74 4 16 j) (J6 : JR w 76 1 300 p) (hp : p ≤ i) : Cc (f_Reader_clause (nI j) w) w j p (k i) (pcl k u j i) := by
  have hk := T.2.2.2.1 i
  have hj := J4.2.2.1
  have bad : ∀ e, e ≠ 0 → Cc (some (0, (jup w.1 73 3 (nI e), w.2))) w j p (k i) (e, i, 0, 0, 0, []) := fun e he => ⟨fun q => absurd q he, fun _ => ⟨_, _, _, rfl, by dsimp only; rw [jup_k (by omega)]; exact h7, by dsimp only; rw [jup_eq], JR_73 (by omega) J6, JR_73 (by omega) J4, Xq_o (Xr_j (by omega))⟩⟩
  rw [f_Reader_clause, h7, c_kd T hi, ob]
  dsimp only
  rw [if_neg (show ¬ nI (k i) < 0 from nI_pos (by omega)), f_Reader_clause_j23, c_fl, ob, c_fl, ob]
  dsimp only
  rw [if_pos (show jbo 0 = true by decide), if_pos (show jbo 0 = true by decide)]
  unfold pcl
  by_cases g0 : 7 ≤ k i
  · rw [if_pos g0, if_neg (show ¬ nI (k i) ≤ 6 from fun z => by have := (nI_leI (b := 6) (by omega) (by omega)).mp z; omega)]
    exact bad 1 (by omega)
  rw [if_neg g0, if_pos (show nI (k i) ≤ 6 from (nI_leI (b := 6) (by omega) (by omega)).mpr (by omega))]
  by_cases g1 : 16 ≤ j
  · rw [if_pos g1, if_neg (show ¬ nI j < 16 from nI_nlt (a := j) (b := 16) g1 (by omega))]
    exact bad 4 (by omega)
  rw [if_neg g1, if_pos (show nI j < 16 from nI_lt (b := 16) (by omega) (by omega)), jlw_e, h7, ip_1]
  have l1 : i + 1 ≤ R := kR_s T.2.2.1 hi rfl (by omega)
  obtain ⟨w1, hw1⟩ : ∃ w1 : jW, w1 = (jup w.1 73 7 (nI (i + 1)), w.2) := ⟨_, rfl⟩
  have X1 : Xq w1 w := by rw [hw1]; exact Xq_o (Xr_j (by omega))
  obtain ⟨w2, e1, e2, e3, e4, e5, e6⟩ := c_row4 (w := w1) (by rw [hw1]; exact JR_73 (by omega) J4) (by omega) (nI (k i))
  have X2 : Xq w2 w1 := ⟨fun b q => e5 b (by omega) (by omega), fun q _ _ => by rw [e5 73 (by omega) (by omega)], e6⟩
  have S0 : Sc k u st R w2 w (i + 1) j p (fun q => if q = 0 then k i else 0) [] := by
    refine ⟨Xq_Tt X2 (Xq_Tt X1 T), l1, ?_, ?_, e2, fun q hq => ?_, fun q hq => ?_, JR_eq (w := w1) (by rw [hw1]; exact JR_73 (by omega) J6) (e5 76 (by omega) (by omega)), trivial, fun q hq => ?_, Xq_t X2 X1⟩
    · rw [e5 73 (by omega) (by omega), hw1]; dsimp only; rw [jup_eq]
    · rw [e5 73 (by omega) (by omega), hw1]; dsimp only; rw [jup_k (by omega)]
    · rw [e3 q hq]
      dsimp only
      by_cases z : q = 0
      · rw [if_pos z, if_pos z]
      · rw [if_neg z, if_neg z]; rfl
    · rw [e4 q hq, hw1]; dsimp only; rw [jup_ne (by omega)]
    · rw [e5 77 (by omega) (by omega), hw1]; dsimp only; rw [jup_ne (by omega)]
  rw [← hw1, e1, ob]
  dsimp only
  have ne : ∀ a : Nat, a < 100 → k i ≠ a → ¬ nI (k i) = nI a := fun a ha q => nI_ne' (by omega) (by omega) q
  by_cases c1 : k i = 1
  · rw [if_pos c1, if_pos (by rw [c1]; rfl)]
    refine c_pT (col := 1) (lo := 0) (hi := 99) (by omega) (by omega) (by omega) S0 fun q1 q2 q3 w3 S3 => ?_
    dsimp only
    refine c_pX (a := 7) (by omega) S3 fun q4 w4 S4 => ?_
    dsimp only
    refine c_pT (col := 2) (lo := 0) (hi := 1999) (by omega) (by omega) (by omega) S4 fun q5 q6 q7 w5 S5 => ?_
    dsimp only
    refine c_pX (a := 8) (by omega) S5 fun q8 w6 S6 => ?_
    dsimp only
    have e2' : f_Rows_at 74 (nI j) 2 w6 = some (nI (u (i + 3)), w6) := by
      rw [show f_Rows_at 74 (nI j) 2 w6 = _ from r_at S6.2.2.2.2.1 (j := 2) (by omega) (by omega), S6.2.2.2.2.2.1 2 (by omega)]; rfl
    rw [e2', ob]
    dsimp only
    refine c_pT (col := 3) (lo := u (i + 3)) (hi := 1999) (by omega) (by omega) (by omega) S6 fun q9 qa qb w7 S7 => ?_
    dsimp only
    refine c_pX (a := 26) (by omega) S7 fun qc w8 S8 => ?_
    dsimp only
    refine c_end S8 fun q hq => ?_
    rcases (by omega : q = 0 ∨ q = 1 ∨ q = 2 ∨ q = 3) with rfl | rfl | rfl | rfl
    · rfl
    · show u (i + 1) = _; unfold rwF; rw [if_neg (by omega), if_pos rfl, if_neg (by omega)]
    · show u (i + 3) = _; unfold rwF; rw [if_neg (by omega), if_neg (by omega), if_pos rfl, if_neg (by omega)]
    · rfl
  rw [if_neg c1, if_neg (show ¬ nI (k i) = 1 from ne 1 (by omega) c1)]
  by_cases c2 : k i = 2
  · rw [if_pos (Or.inl c2), if_pos (show nI (k i) = 2 by rw [c2]; rfl)]
    refine c_pT (col := 1) (lo := 0) (hi := 360) (by omega) (by omega) (by omega) S0 fun q1 q2 q3 w3 S3 => ?_
    dsimp only
    refine c_pX (a := 26) (by omega) S3 fun q4 w4 S4 => ?_
    dsimp only
    refine c_end S4 fun q hq => ?_
    rcases (by omega : q = 0 ∨ q = 1 ∨ q = 2 ∨ q = 3) with rfl | rfl | rfl | rfl
    · rfl
    · show u (i + 1) = _; unfold rwF; rw [if_neg (by omega), if_pos rfl, if_neg (by omega)]
    · show 0 = _; unfold rwF; rw [if_neg (by omega), if_neg (by omega), if_pos rfl, if_neg (by omega)]
    · rfl
  rw [if_neg (show ¬ nI (k i) = 2 from ne 2 (by omega) c2)]
  by_cases c3 : k i = 3
  · rw [if_neg (show ¬ (k i = 2 ∨ k i = 6) by omega), if_pos c3, if_pos (show nI (k i) = 3 by rw [c3]; rfl)]
    refine c_pT (col := 1) (lo := 0) (hi := 99) (by omega) (by omega) (by omega) S0 fun q1 q2 q3 w3 S3 => ?_
    dsimp only
    refine c_pX (a := 26) (by omega) S3 fun q4 w4 S4 => ?_
    dsimp only
    refine c_end S4 fun q hq => ?_
    rcases (by omega : q = 0 ∨ q = 1 ∨ q = 2 ∨ q = 3) with rfl | rfl | rfl | rfl
    · rfl
    · show u (i + 1) = _; unfold rwF; rw [if_neg (by omega), if_pos rfl, if_neg (by omega)]
    · show 0 = _; unfold rwF; rw [if_neg (by omega), if_neg (by omega), if_pos rfl, if_neg (by omega)]
    · rfl
  rw [if_neg (show ¬ nI (k i) = 3 from ne 3 (by omega) c3)]
  have cond : (k i = 0 ∨ k i = 4) → ∀ (w3 : jW), Sc k u st R w3 w (i + 1) j p (fun q => if q = 1 then p else if q = 0 then k i else 0) [] → Cc (Option.bind (f_Reader_either 0 w3) fun q40 => Option.bind (f_Rows_count 76 q40.2) fun q41 => Option.bind (f_Rows_put 74 (nI j) 2 q41.1 q41.2) fun q42 => if q40.1 = 0 then some (0, q42) else Option.bind (f_Reader_expect 26 q42) fun q43 => if q43.1 = 0 then some (0, q43.2) else some (1, q43.2)) w j p (k i) (if ((prd k u 10).2 0 (i + 1)).1 ≠ 0 then (((prd k u 10).2 0 (i + 1)).1, ((prd k u 10).2 0 (i + 1)).2.1, 0, 0, 0, []) else pX k 26 ((prd k u 10).2 0 (i + 1)).2.1 (0, ((prd k u 10).2 0 (i + 1)).2.1 + 1, 0, 0, 0, ((prd k u 10).2 0 (i + 1)).2.2)) := fun hc w3 S3 => by
    obtain ⟨s1, s2, s3, s4, s5, s6, s7, s8, s9, s10, s11⟩ := S3
    have ih := (c_jrd (u := u) (st := st) T.2.2.1 10).2 0 (i + 1) p w3 (by omega) (by omega) s2 (by omega) s1 s3 s8
    obtain ⟨e1, e2, e3, e4⟩ := (prd_g (u := u) T.2.2.1 10).2 0 (i + 1) l1
    rw [show f_Reader_either 0 w3 = (jrd 10).2 (nI 0) w3 from rfl]
    by_cases g3 : ((prd k u 10).2 0 (i + 1)).1 ≠ 0
    · obtain ⟨v, c', b1, b2, b3, b4, b5⟩ := ih.2 g3
      have J5 := JR_eq s5 (b5.1 74 (by omega) (by omega) (by omega))
      rw [if_pos g3, b1, ob]
      dsimp only
      rw [r_count b4, ob]
      dsimp only
      rw [show f_Rows_put 74 (nI j) 2 (nI c') v = _ from r_put J5 (i := j) (j := 2) (by omega) (by omega) _, ob, if_pos rfl]
      have Xp : Xq (jup v.1 75 (j * 4 + 2) (nI c'), v.2) v := ⟨fun b q => by dsimp only; rw [jup_fn (by omega)], fun q _ _ => by dsimp only; rw [jup_ne (by omega)], rfl⟩
      refine ⟨fun z => absurd z g3, fun _ => ⟨_, c', j + 1, rfl, by dsimp only; rw [jup_ne (by omega)]; exact b2, by dsimp only; rw [jup_ne (by omega)]; exact b3, JR_eq b4 (by dsimp only; rw [jup_fn (by omega)]), JR_eq J5 (by dsimp only; rw [jup_fn (by omega)]), Xq_t Xp (Xq_t (Xq_o b5) s11)⟩⟩
    obtain ⟨v, b1, b2, b3, b4, b5, b6, b7⟩ := ih.1 (by omega)
    have J5 := JR_eq s5 (b7.1 74 (by omega) (by omega) (by omega))
    have e75 : v.1 75 = w3.1 75 := b7.1 75 (by omega) (by omega) (by omega)
    rw [if_neg g3, b1, ob]
    dsimp only
    rw [r_count b4, ob]
    dsimp only
    rw [show f_Rows_put 74 (nI j) 2 (nI (p + tln ((prd k u 10).2 0 (i + 1)).2.2)) v = _ from r_put J5 (i := j) (j := 2) (by omega) (by omega) _, ob, if_neg one_ne]
    have Xp : Xq (jup v.1 75 (j * 4 + 2) (nI (p + tln ((prd k u 10).2 0 (i + 1)).2.2)), v.2) v := ⟨fun b q => by dsimp only; rw [jup_fn (by omega)], fun q _ _ => by dsimp only; rw [jup_ne (by omega)], rfl⟩
    have Sv : Sc k u st R (jup v.1 75 (j * 4 + 2) (nI (p + tln ((prd k u 10).2 0 (i + 1)).2.2)), v.2) w ((prd k u 10).2 0 (i + 1)).2.1 j p (fun q => if q = 2 then p + tln ((prd k u 10).2 0 (i + 1)).2.2 else if q = 1 then p else if q = 0 then k i else 0) ((prd k u 10).2 0 (i + 1)).2.2 := by
      refine ⟨Xq_Tt Xp (Xq_Tt (Xq_o b7) s1), e3, by dsimp only; rw [jup_ne (by omega)]; exact b2, by dsimp only; rw [jup_ne (by omega), b3]; exact s4, JR_eq J5 (by dsimp only; rw [jup_fn (by omega)]), fun q hq => ?_, fun q hq => ?_, JR_eq b4 (by dsimp only; rw [jup_fn (by omega)]), by dsimp only; rw [jup_fn (by omega)]; exact b5, fun q hq => ?_, Xq_t Xp (Xq_t (Xq_o b7) s11)⟩
      · dsimp only
        by_cases z : q = 2
        · rw [if_pos z, z, jup_eq]
        · rw [if_neg z, jup_k (by omega), e75]; exact s6 q hq
      · dsimp only; rw [jup_k (by omega), e75]; exact s7 q hq
      · dsimp only; rw [jup_ne (by omega), b6 q hq]; exact s10 q hq
    refine c_pX (a := 26) (by omega) Sv fun q4 w4 S4 => ?_
    dsimp only
    refine c_end S4 fun q hq => ?_
    rcases (by omega : q = 0 ∨ q = 1 ∨ q = 2 ∨ q = 3) with rfl | rfl | rfl | rfl
    · rfl
    · show p = _; unfold rwF; rw [if_neg (by omega), if_pos rfl, if_pos hc]
    · show p + tln _ = _; unfold rwF; rw [if_neg (by omega), if_neg (by omega), if_pos rfl, if_pos hc]
    · rfl
  have put1 : Option.bind (f_Rows_put 74 (nI j) 1 (nI p) w2) (fun _ => (none : Option jW)) = none ∧ f_Rows_put 74 (nI j) 1 (nI p) w2 = some (jup w2.1 75 (j * 4 + 1) (nI p), w2.2) ∧ Sc k u st R (jup w2.1 75 (j * 4 + 1) (nI p), w2.2) w (i + 1) j p (fun q => if q = 1 then p else if q = 0 then k i else 0) [] := by
    obtain ⟨s1, s2, s3, s4, s5, s6, s7, s8, s9, s10, s11⟩ := S0
    have Xp : Xq (jup w2.1 75 (j * 4 + 1) (nI p), w2.2) w2 := ⟨fun b q => by dsimp only; rw [jup_fn (by omega)], fun q _ _ => by dsimp only; rw [jup_ne (by omega)], rfl⟩
    have ep : f_Rows_put 74 (nI j) 1 (nI p) w2 = some (jup w2.1 75 (j * 4 + 1) (nI p), w2.2) := r_put s5 (i := j) (j := 1) (by omega) (by omega) _
    refine ⟨by rw [ep, ob], ep, ⟨Xq_Tt Xp s1, s2, by dsimp only; rw [jup_ne (by omega)]; exact s3, by dsimp only; rw [jup_ne (by omega)]; exact s4, JR_eq s5 (by dsimp only; rw [jup_fn (by omega)]), fun q hq => ?_, fun q hq => ?_, JR_eq s8 (by dsimp only; rw [jup_fn (by omega)]), trivial, fun q hq => ?_, Xq_t Xp s11⟩⟩
    · dsimp only
      by_cases z : q = 1
      · rw [if_pos z, z, jup_eq]
      · rw [if_neg z, jup_k (by omega)]; exact s6 q hq
    · dsimp only; rw [jup_k (by omega)]; exact s7 q hq
    · dsimp only; rw [jup_ne (by omega)]; exact s10 q hq
  have cnt : f_Rows_count 76 w2 = some (nI p, w2) := by
    have := S0.2.2.2.2.2.2.2.1
    exact r_count this
  by_cases c4 : k i = 4
  · rw [if_neg (show ¬ (k i = 2 ∨ k i = 6) by omega), if_neg (show ¬ k i = 3 by omega), if_neg (show ¬ k i = 5 by omega), if_pos (show nI (k i) = 4 by rw [c4]; rfl), cnt, ob]
    dsimp only
    rw [put1.2.1, ob]
    exact cond (Or.inr c4) _ put1.2.2
  rw [if_neg (show ¬ nI (k i) = 4 from ne 4 (by omega) c4)]
  by_cases c5 : k i = 5
  · rw [if_neg (show ¬ (k i = 2 ∨ k i = 6) by omega), if_neg (show ¬ k i = 3 by omega), if_pos c5, if_pos (show nI (k i) = 5 by rw [c5]; rfl)]
    refine c_pT (col := 1) (lo := 1) (hi := 9) (by omega) (by omega) (by omega) S0 fun q1 q2 q3 w3 S3 => ?_
    dsimp only
    refine c_pX (a := 9) (by omega) S3 fun q4 w4 S4 => ?_
    dsimp only
    refine c_pT (col := 2) (lo := 0) (hi := 99) (by omega) (by omega) (by omega) S4 fun q5 q6 q7 w5 S5 => ?_
    dsimp only
    refine c_pX (a := 26) (by omega) S5 fun q8 w6 S6 => ?_
    dsimp only
    refine c_end S6 fun q hq => ?_
    rcases (by omega : q = 0 ∨ q = 1 ∨ q = 2 ∨ q = 3) with rfl | rfl | rfl | rfl
    · rfl
    · show u (i + 1) = _; unfold rwF; rw [if_neg (by omega), if_pos rfl, if_neg (by omega)]
    · show u (i + 3) = _; unfold rwF; rw [if_neg (by omega), if_neg (by omega), if_pos rfl, if_neg (by omega)]
    · rfl
  rw [if_neg (show ¬ nI (k i) = 5 from ne 5 (by omega) c5)]
  by_cases c6 : k i = 6
  · rw [if_pos (Or.inr c6), if_pos (show nI (k i) = 6 by rw [c6]; rfl)]
    refine c_pT (col := 1) (lo := 0) (hi := 360) (by omega) (by omega) (by omega) S0 fun q1 q2 q3 w3 S3 => ?_
    dsimp only
    refine c_pX (a := 26) (by omega) S3 fun q4 w4 S4 => ?_
    dsimp only
    refine c_end S4 fun q hq => ?_
    rcases (by omega : q = 0 ∨ q = 1 ∨ q = 2 ∨ q = 3) with rfl | rfl | rfl | rfl
    · rfl
    · show u (i + 1) = _; unfold rwF; rw [if_neg (by omega), if_pos rfl, if_neg (by omega)]
    · show 0 = _; unfold rwF; rw [if_neg (by omega), if_neg (by omega), if_pos rfl, if_neg (by omega)]
    · rfl
  rw [if_neg (show ¬ nI (k i) = 6 from ne 6 (by omega) c6), if_neg (show ¬ (k i = 2 ∨ k i = 6) by omega), if_neg (show ¬ k i = 3 by omega), if_neg (show ¬ k i = 5 by omega), cnt, ob]
  dsimp only
  rw [put1.2.1, ob]
  exact cond (Or.inl (by omega)) _ put1.2.2
end CL

/-! LAYER B: whole texts: the pure parser's clauses, and both sides' -/
section LO
abbrev It : Type := Nat × Nat × Pcl
def ptx (k u : Nat → Nat) : Nat → Nat → Nat → List It → Nat × Nat × List It
  | 0, i, _, l => (0, i, l)
  | m + 1, i, p, l => if k i = 28 then (0, i, l) else if (pcl k u l.length i).1 ≠ 0 then ((pcl k u l.length i).1, (pcl k u l.length i).2.1, []) else ptx k u m (pcl k u l.length i).2.1 (p + tln (pcl k u l.length i).2.2.2.2.2) (l ++ [(k i, p, pcl k u l.length i)])
/-- what is so of a clause that stands -/
def Git (e : It) : Prop := e.1 < 7 ∧ (e.1 = 1 → e.2.2.2.2.1 ≤ 99 ∧ e.2.2.2.2.2.1 ≤ 1999 ∧ e.2.2.2.2.2.2.1 ≤ 1999) ∧ (e.1 = 2 ∨ e.1 = 3 ∨ e.1 = 5 ∨ e.1 = 6 → e.2.2.2.2.1 ≤ 360) ∧ (e.1 = 5 → e.2.2.2.2.2.1 ≤ 99) ∧ (e.1 = 0 ∨ e.1 = 4 → wfd e.2.2.2.2.2.2.2 0 = some 1) ∧ (e.1 ≠ 0 → e.1 ≠ 4 → e.2.2.2.2.2.2.2 = [])
def Rci (w : jW) (r : Nat) (e : It) : Prop := (∀ q, q < 4 → w.1 75 (r * 4 + q) = nI (rwF e.1 e.2.1 e.2.2 q)) ∧ tkc (w.1 77) e.2.1 e.2.2.2.2.2.2.2
def Rmi (A : Nat → Int32) (t r : Nat) (e : It) : Prop := A (1680 + 800 * t + 2 + 8 * r) = nI (e.1 + 1) ∧ (e.1 = 0 ∨ e.1 = 4 → A (1680 + 800 * t + 2 + 8 * r + 4) = nI e.2.1 ∧ A (1680 + 800 * t + 2 + 8 * r + 5) = nI (e.2.1 + tln e.2.2.2.2.2.2.2) ∧ tkm A (1680 + 800 * t + 140 + 2 * e.2.1) e.2.2.2.2.2.2.2) ∧ (e.1 ≠ 0 → e.1 ≠ 4 → A (1680 + 800 * t + 2 + 8 * r + 1) = nI e.2.2.2.2.1) ∧ (e.1 = 1 ∨ e.1 = 5 → A (1680 + 800 * t + 2 + 8 * r + 2) = nI e.2.2.2.2.2.1) ∧ (e.1 = 1 → A (1680 + 800 * t + 2 + 8 * r + 3) = nI e.2.2.2.2.2.2.1)
variable {w v w0 : jW} {k u st : Nat → Nat} {R : Nat}
theorem ap1 {l : List It} {x e : It} {r : Nat} (h : (l ++ [x])[r]? = some e) : (r < l.length ∧ l[r]? = some e) ∨ (r = l.length ∧ e = x) := by
  by_cases g : r < l.length
  · rw [List.getElem?_append_left g] at h; exact Or.inl ⟨g, h⟩
  · rw [List.getElem?_append_right (by omega)] at h
    cases hq : r - l.length with
    | zero => rw [hq] at h; exact Or.inr ⟨by omega, (Option.some.inj h).symm⟩
    | succ q => rw [hq] at h; exact absurd h (by simp)
/-- only the reader's cells differ, its fault's place too -/
def Xy (v w : jW) : Prop := (∀ b, b < 73 ∨ 77 < b → v.1 b = w.1 b) ∧ (∀ j, j ≠ 3 → j ≠ 4 → j ≠ 7 → v.1 73 j = w.1 73 j) ∧ v.2 = w.2
theorem Xy_q (h : Xq v w) : Xy v w := ⟨h.1, fun j q1 _ q3 => h.2.1 j q1 q3, h.2.2⟩
theorem Xy_t {x : jW} (h : Xy x v) (g : Xy v w) : Xy x w := ⟨fun b q1 => (h.1 b q1).trans (g.1 b q1), fun j q1 q2 q3 => (h.2.1 j q1 q2 q3).trans (g.2.1 j q1 q2 q3), h.2.2.trans g.2.2⟩
theorem c_106 (x : Int32) (w : jW) : f_Reader_read_j106 x w = some (if w.1 73 3 = 0 then 1 else 0, (jup w.1 73 4 x, w.2)) := by
  rw [f_Reader_read_j106, jlw_e]
  dsimp only
  have e : jup w.1 73 4 x 73 3 = w.1 73 3 := jup_k (by omega)
  by_cases g : w.1 73 3 = 0
  · rw [if_pos (e.trans g), if_pos g]
  · rw [if_neg (fun z => g (e.symm.trans z)), if_neg g]
theorem Xy_4 {x : Int32} : Xy (jup w.1 73 4 x, w.2) w := ⟨fun b q => by dsimp only; rw [jup_fn (by omega)], fun j _ q _ => by dsimp only; rw [jup_k q], rfl⟩
theorem c_loop : ∀ m i p (l : List It) f (w : jW), l.length + m = 17 → l.length ≤ 16 → m < f → Tt w k u st R → i ≤ R → w.1 73 7 = nI i → w.1 73 3 = 0 → JR w 74 4 16 l.length → JR w 76 1 300 p → p ≤ i → (∀ r e, l[r]? = some e → Rci w r e ∧ e.2.1 + tln e.2.2.2.2.2.2.2 ≤ p ∧ Git e) →
    ((ptx k u m i p l).1 = 0 → ∃ v p', f_Reader_read_h40 f (nI l.length) w = some (1, v) ∧ v.1 73 3 = 0 ∧ v.1 73 4 = -1 ∧ (ptx k u m i p l).2.2.length ≤ 16 ∧ p' ≤ 300 ∧ JR v 74 4 16 (ptx k u m i p l).2.2.length ∧ JR v 76 1 300 p' ∧ (∀ r e, (ptx k u m i p l).2.2[r]? = some e → Rci v r e ∧ e.2.1 + tln e.2.2.2.2.2.2.2 ≤ p' ∧ Git e) ∧ Xy v w) ∧
    ((ptx k u m i p l).1 ≠ 0 → ∃ v c j, f_Reader_read_h40 f (nI l.length) w = some (0, v) ∧ v.1 73 3 = nI (ptx k u m i p l).1 ∧ (ptx k u m i p l).1 ≤ 4 ∧ (ptx k u m i p l).2.1 ≤ R ∧ v.1 73 4 = nI (st (ptx k u m i p l).2.1) ∧ JR v 74 4 16 j ∧ JR v 76 1 300 c ∧ Xy v w) := by
  intro m
  induction m with
  | zero => intro i p l f w h1 h2; omega
  | succ m ih =>
    intro i p l f w h1 h2 hf T hi h7 h3 J4 J6 hp hrow
    obtain ⟨f, rfl⟩ : ∃ j, f = j + 1 := ⟨f - 1, by omega⟩
    have hR := Tt_R T
    have hk := T.2.2.2.1 i
    rw [f_Reader_read_h40, if_pos (show nI l.length ≤ 16 from (nI_leI (b := 16) (by omega) (by omega)).mpr h2), if_pos h3, h7, c_kd T hi, ob, ptx]
    dsimp only
    by_cases g : k i = 28
    · rw [if_pos g, if_pos (by rw [g]; rfl), f_Reader_read_j82, if_pos h3, c_106, if_pos h3]
      refine ⟨fun _ => ⟨_, p, rfl, by dsimp only; rw [jup_k (by omega)]; exact h3, by dsimp only; rw [jup_eq], h2, by omega, JR_73 (by omega) J4, JR_73 (by omega) J6, fun r e he => ?_, Xy_4⟩, fun z => absurd rfl z⟩
      obtain ⟨⟨a1, a2⟩, a3⟩ := hrow r e he
      exact ⟨⟨fun q hq => by dsimp only; rw [jup_ne (by omega)]; exact a1 q hq, by dsimp only; rw [jup_fn (by omega)]; exact a2⟩, a3⟩
    rw [if_neg g, if_neg (show ¬ nI (k i) = 28 from nI_ne' (b := 28) (by omega) (by omega) g)]
    have cc := c_clause T hi h7 J4 J6 hp
    have gg := pcl_g (u := u) T.2.2.1 (j := l.length) hi
    by_cases g2 : (pcl k u l.length i).1 ≠ 0
    · rw [if_pos g2]
      obtain ⟨v, c', j', b1, b2, b3, b4, b5, b6⟩ := cc.2 g2
      have T2 := Xq_Tt b6 T
      have n3 : ¬ v.1 73 3 = 0 := by rw [b3]; exact nI_ne' (b := 0) (by have := gg.1; omega) (by omega) g2
      have j82 : f_Reader_read_j82 v = some (0, (jup v.1 73 4 (nI (st (pcl k u l.length i).2.1)), v.2)) := by
        rw [f_Reader_read_j82, if_neg n3, b2, c_plc T2 gg.2.1, ob]
        dsimp only
        rw [c_106, if_neg n3]
      have step : f_Reader_read_h40 f (nI l.length + 1) v = some (0, (jup v.1 73 4 (nI (st (pcl k u l.length i).2.1)), v.2)) := by
        obtain ⟨f, rfl⟩ : ∃ j, f = j + 1 := ⟨f - 1, by omega⟩
        rw [f_Reader_read_h40]
        split
        all_goals first | exact j82 | (rw [if_neg n3]; exact j82)
      rw [b1, ob]
      dsimp only
      rw [step]
      exact ⟨fun z => absurd z g2, fun _ => ⟨_, c', j', rfl, by dsimp only; rw [jup_k (by omega)]; exact b3, gg.1, gg.2.1, by dsimp only; rw [jup_eq], JR_73 (by omega) b5, JR_73 (by omega) b4, Xy_t Xy_4 (Xy_q b6)⟩⟩
    rw [if_neg g2]
    obtain ⟨v, b1, b2, b3, b4, b5, b6, b7, b8, b9, b10⟩ := cc.1 (by omega)
    have gs := gg.2.2 (by omega)
    have hl : (l ++ [(k i, p, pcl k u l.length i)]).length = l.length + 1 := by rw [List.length_append]; rfl
    have q := ih (pcl k u l.length i).2.1 (p + tln (pcl k u l.length i).2.2.2.2.2) (l ++ [(k i, p, pcl k u l.length i)]) f v (by rw [hl]; omega) (by rw [hl]; omega) (by omega) (Xq_Tt b10 T) gg.2.1 b2 (b3.trans h3) (by rw [hl]; exact b4) b7 (by omega) (fun r e he => by
      rcases ap1 he with ⟨y1, y2⟩ | ⟨y1, rfl⟩
      · obtain ⟨⟨a1, a2⟩, a3, a4⟩ := hrow r e y2
        refine ⟨⟨fun q hq => by rw [b6 _ (by omega)]; exact a1 q hq, tkc_tr _ _ (fun z q1 q2 => b9 z (by omega)) a2⟩, by omega, a4⟩
      · rw [y1]
        exact ⟨⟨b5, b8⟩, Nat.le_refl _, gs.2.1, gs.2.2.2.2.1, gs.2.2.2.2.2.1, gs.2.2.2.2.2.2.1, gs.2.2.2.2.2.2.2.1, gs.2.2.2.2.2.2.2.2⟩)
    rw [hl] at q
    rw [b1, ob]
    dsimp only
    rw [ip_1]
    refine ⟨fun z => ?_, fun z => ?_⟩
    · obtain ⟨v2, p', d1, d2, d3, d4, d5, d6, d7, d8, d9⟩ := q.1 z
      exact ⟨v2, p', d1, d2, d3, d4, d5, d6, d7, d8, Xy_t d9 (Xy_q b10)⟩
    · obtain ⟨v2, c, j, d1, d2, d3, d4, d5, d6, d7, d8⟩ := q.2 z
      exact ⟨v2, c, j, d1, d2, d3, d4, d5, d6, d7, Xy_t d8 (Xy_q b10)⟩
theorem Xk_0 {t j p : Nat} (h : Xk t j p v w) : Xk t 0 0 v w := ⟨h.1, h.2.1, fun q z => h.2.2 q (by omega)⟩
theorem Rmi_tr {A A' : Nat → Int32} {t j p r : Nat} {e : It} (hr : r < j) (hj : j ≤ 16) (he : e.2.1 + tln e.2.2.2.2.2.2.2 ≤ p) (hA : ∀ q, q < 1680 + 800 * t + 2 + 8 * j ∨ 1680 + 800 * t + 140 ≤ q ∧ q < 1680 + 800 * t + 140 + 2 * p → A' q = A q) (h : Rmi A t r e) : Rmi A' t r e := by
  obtain ⟨h1, h2, h3, h4, h5⟩ := h
  refine ⟨by rw [hA _ (by omega)]; exact h1, fun z => ⟨?_, ?_, ?_⟩, fun z1 z2 => ?_, fun z => ?_, fun z => ?_⟩
  · rw [hA _ (by omega)]; exact (h2 z).1
  · rw [hA _ (by omega)]; exact (h2 z).2.1
  · exact tkm_tr _ _ (fun q q1 q2 => hA q (by omega)) (h2 z).2.2
  · rw [hA _ (by omega)]; exact h3 z1 z2
  · rw [hA _ (by omega)]; exact h4 z
  · rw [hA _ (by omega)]; exact h5 z
theorem m_loop {P : Nat → Int32} {n t : Nat} (hk : kk P n R = 28) (hR : R ≤ 300) (ht : t < 10) : ∀ m i p (l : List It) f (w : jW), l.length + m = 17 → l.length ≤ 16 → m < f → Ato w P n i → i ≤ R → w.1 93 12 = nI (1680 + 800 * t) → w.1 93 13 = nI l.length → w.1 93 14 = nI p → w.1 93 15 = nI 0 → p ≤ i → (∀ r e, l[r]? = some e → Rmi (w.1 94) t r e ∧ e.2.1 + tln e.2.2.2.2.2.2.2 ≤ p) →
    ((ptx (kk P n) (uu P n) m i p l).1 = 0 → ∃ v, f_Model_readText_h43 f w = some (0, v) ∧ v.1 93 12 = nI (1680 + 800 * t) ∧ v.1 93 13 = nI (ptx (kk P n) (uu P n) m i p l).2.2.length ∧ (∀ r e, (ptx (kk P n) (uu P n) m i p l).2.2[r]? = some e → Rmi (v.1 94) t r e) ∧ Xk t 0 0 v w) ∧
    ((ptx (kk P n) (uu P n) m i p l).1 ≠ 0 → ∃ v, f_Model_readText_h43 f w = some (nI (ptx (kk P n) (uu P n) m i p l).1, v) ∧ v.1 93 12 = nI (1680 + 800 * t) ∧ v.1 93 8 = nI (tkS P n (ptx (kk P n) (uu P n) m i p l).2.1) ∧ Xk t 0 0 v w) := by
  intro m
  induction m with
  | zero => intro i p l f w h1 h2; omega
  | succ m ih =>
    intro i p l f w h1 h2 hf A0 hi h12 h13 h14 h15 hp hrow
    obtain ⟨f, rfl⟩ : ∃ j, f = j + 1 := ⟨f - 1, by omega⟩
    rw [f_Model_readText_h43, ifp (At_9 A0 (a := 28) (by omega) (by omega) (x := 0) (by decide)), ptx]
    by_cases g : kk P n i = 28
    · rw [if_pos g, if_pos g]
      exact ⟨fun _ => ⟨w, rfl, h12, h13, fun r e he => (hrow r e he).1, Xk_r⟩, fun z => absurd rfl z⟩
    rw [if_neg g, if_neg g]
    have cc := m_clause hk hR A0 hi ht h12 h13 h2 h14 h15 hp
    have gg := pcl_g (u := uu P n) hk (j := l.length) hi
    by_cases g2 : (pcl (kk P n) (uu P n) l.length i).1 ≠ 0
    · rw [if_pos g2]
      obtain ⟨v, b1, b2, b3⟩ := cc.2 g2
      rw [b1, ob]
      dsimp only
      rw [if_neg (show ¬ nI (pcl (kk P n) (uu P n) l.length i).1 = 0 from nI_ne' (b := 0) (by have := gg.1; omega) (by omega) g2)]
      exact ⟨fun z => absurd z g2, fun _ => ⟨v, rfl, by rw [b3.2.1 12 (by omega)]; exact h12, b2.2.2.2.1, Xk_0 b3⟩⟩
    rw [if_neg g2]
    obtain ⟨v, b1, b2, b3, b4, b5, b6, b7, b8, b9, b10, b11, b12⟩ := cc.1 (by omega)
    have gs := gg.2.2 (by omega)
    have hl : (l ++ [(kk P n i, p, pcl (kk P n) (uu P n) l.length i)]).length = l.length + 1 := by rw [List.length_append]; rfl
    have q := ih (pcl (kk P n) (uu P n) l.length i).2.1 (p + tln (pcl (kk P n) (uu P n) l.length i).2.2.2.2.2) (l ++ [(kk P n i, p, pcl (kk P n) (uu P n) l.length i)]) f v (by rw [hl]; omega) (by rw [hl]; omega) (by omega) b2 gg.2.1 b3 (by rw [hl]; exact b4) b5 b6 (by omega) (fun r e he => by
      rcases ap1 he with ⟨y1, y2⟩ | ⟨y1, rfl⟩
      · obtain ⟨a1, a2⟩ := hrow r e y2
        exact ⟨Rmi_tr y1 h2 a2 (fun q z => b12.2.2 q (by omega)) a1, by omega⟩
      · rw [y1]
        exact ⟨⟨b7, b8, b9, b10, b11⟩, Nat.le_refl _⟩)
    rw [b1, ob]
    dsimp only
    rw [if_pos rfl]
    refine ⟨fun z => ?_, fun z => ?_⟩
    · obtain ⟨v2, d1, d2, d3, d4, d5⟩ := q.1 z
      exact ⟨v2, d1, d2, d3, d4, Xk_t d5 (Xk_0 b12)⟩
    · obtain ⟨v2, d1, d2, d3, d4⟩ := q.2 z
      exact ⟨v2, d1, d2, d3, Xk_t d4 (Xk_0 b12)⟩
end LO

/-! LAYER B: what is left alone stays so -/
/-- the lengths of a state's cells, from its own on -/
def wl (o : Nat) : Nat := [5, 3, 16, 3, 50, 3, 100, 3, 440, 3, 600, 3, 80, 0, 3, 40, 3, 640, 3, 3000, 0, 3, 800, 3, 1000, 3, 300, 3, 150, 3, 2560, 3, 120, 3, 120].getD o 0
def sb (b : Nat) : Prop := b = 3 ∨ b = 38
section TR
variable {w w' : jW} {b b' : Nat} {A A' : Nat → Int32} {c c' : Nat → Nat} {K K' : Nat}
theorem vb_w {x : Int32} {lo hi hi' : Nat} (h : vb x lo hi) (q : hi ≤ hi') : vb x lo hi' := by
  obtain ⟨n, h1, h2, h3⟩ := h
  exact ⟨n, h1, h2, by omega⟩
theorem vm_w {x : Int32} {hi hi' : Nat} (h : vm x hi) (q : hi ≤ hi') : vm x hi' := h.imp id (fun z => vb_w z q)
theorem Isort_tr (h : Isort A) (hA : ∀ k, 20 ≤ k → k < 36 → A' k = A k) : Isort A' := by
  intro i hi
  simp (disch := omega) only [hA]
  exact h i hi
theorem I2_tr (h : I2 A) (hA : ∀ k, 14 ≤ k → k < 17 → A' k = A k) : I2 A' := by
  unfold I2
  simp (disch := omega) only [hA]
  exact h
theorem Isite_tr {n : Nat} (h : Isite A n) (hn : n ≤ 10) (hA : ∀ k, 40 ≤ k → k < 120 → A' k = A k) : Isite A' n := by
  intro i hi
  simp (disch := omega) only [hA]
  exact h i hi
theorem Iroad_tr {n s s' : Nat} (h : Iroad A n s) (hn : n ≤ 30) (hs : s ≤ s') (hA : ∀ k, 120 ≤ k → k < 240 → A' k = A k) (hS : ∀ i, i < s → A' (40 + 8 * i) = A (40 + 8 * i)) : Iroad A' n s' := by
  intro r hr
  obtain ⟨x, y, d, h1, h2, h3, h4, h5, h6, h7, h8, h9⟩ := h r hr
  refine ⟨x, y, d, ?_, ?_, ?_, by omega, by omega, h6, h7, h8, ?_⟩
  · rw [hA _ (by omega) (by omega)]; exact h1
  · rw [hA _ (by omega) (by omega)]; exact h2
  · rw [hA _ (by omega) (by omega)]; exact h3
  · rw [hS x h4, hS y h5]; exact h9
theorem Ithing_tr {n s s' d d' : Nat} (h : Ithing A n s d) (hn : n ≤ 40) (hs : s ≤ s') (hd : d ≤ d') (hA : ∀ k, 240 ≤ k → k < 720 → A' k = A k) (hS : ∀ i, i < s → A' (40 + 8 * i) = A (40 + 8 * i)) : Ithing A' n s' d' := by
  refine ⟨fun t ht => ?_, fun t h1 h2 => ?_⟩
  · obtain ⟨x, h1, h2, h3, h4, h5, h6, h7, h8, h9, h10⟩ := h.1 t ht
    refine ⟨x, ?_⟩
    rw [hS x h2]
    simp (disch := omega) only [hA]
    exact ⟨h1, by omega, h3, h4, h5, h6, h7, vb_w h8 hd, vm_w h9 hd, vm_w h10 hd⟩
  · rw [hA _ (by omega) (by omega)]; exact h.2 t h1 h2
theorem Imove_tr {n t t' s s' d d' : Nat} (h : Imove A n t s d) (hn : n ≤ 100) (ht : t ≤ t') (hs : s ≤ s') (hd : d ≤ d') (hA : ∀ k, 720 ≤ k → k < 1520 → A' k = A k) (hS : ∀ i, i < s → A' (40 + 8 * i) = A (40 + 8 * i)) (hT : ∀ i, i < t → A' (240 + 12 * i + 3) = A (240 + 12 * i + 3)) : Imove A' n t' s' d' := by
  intro m hm
  obtain ⟨t1, x, y, d1, e, h1, h2, h3, h4, h5, h6, h7, h8, h9, h10, h11, h12⟩ := h m hm
  refine ⟨t1, x, y, d1, e, ?_⟩
  rw [hS y h8, hT t1 h6]
  simp (disch := omega) only [hA]
  exact ⟨h1, h2, h3, h4, h5, by omega, by omega, by omega, by omega, h10, h11, h12⟩
theorem Iseal_tr {n s s' d d' : Nat} (h : Iseal A n s d) (hn : n ≤ 40) (hs : s ≤ s') (hd : d ≤ d') (hA : ∀ k, 1520 ≤ k → k < 1680 → A' k = A k) : Iseal A' n s' d' := by
  intro i hi
  obtain ⟨x, y, h1, h2, h3, h4⟩ := h i hi
  refine ⟨x, y, ?_⟩
  simp (disch := omega) only [hA]
  exact ⟨h1, h2, by omega, by omega⟩
theorem Itold_tr {n t t' s s' d d' : Nat} (h : Itold A n t s d) (hn : n ≤ 200) (ht : t ≤ t') (hs : s ≤ s') (hd : d ≤ d') (hA : ∀ k, 9680 ≤ k → k < 11280 → A' k = A k) : Itold A' n t' s' d' := by
  intro i hi
  obtain ⟨x, y, z, u, h1, h2, h3, h4, h5, h6, h7, h8⟩ := h i hi
  refine ⟨x, y, z, u, ?_⟩
  simp (disch := omega) only [hA]
  exact ⟨h1, h2, h3, h4, by omega, by omega, by omega, by omega⟩
theorem Ivis_tr {n s s' l l' d d' : Nat} (h : Ivis A n s l d) (hn : n ≤ 100) (hs : s ≤ s') (hl : l ≤ l') (hd : d ≤ d') (hA : ∀ k, 11280 ≤ k → k < 12480 → A' k = A k) : Ivis A' n s' l' d' := by
  intro i hi
  obtain ⟨x, y, h1, h2, h3, h4, h5, h6, h7, h8, h9⟩ := h i hi
  refine ⟨x, y, ?_⟩
  simp (disch := omega) only [hA]
  refine ⟨h1, h2, by omega, h4, by omega, h6, fun j hj => ?_, h8, fun q => ?_⟩
  · rw [hA _ (by omega) (by omega)]; exact h7 j hj
  · obtain ⟨k, q2, q3⟩ := h9 q
    exact ⟨k, by omega, q3⟩
theorem Ipic_tr {n s s' d d' : Nat} (h : Ipic A n s d) (hn : n ≤ 100) (hs : s ≤ s') (hd : d ≤ d') (hA : ∀ k, 12480 ≤ k → k < 12880 → A' k = A k) : Ipic A' n s' d' := by
  intro i hi
  obtain ⟨x, y, z, h1, h2, h3, h4, h5, h6, h7⟩ := h i hi
  refine ⟨x, y, z, ?_⟩
  simp (disch := omega) only [hA]
  exact ⟨h1, h2, h3, by omega, h5, by omega, h7⟩
theorem Ique_tr {n s s' d d' : Nat} (h : Ique A n s d) (hn : n ≤ 50) (hs : s ≤ s') (hd : d ≤ d') (hA : ∀ k, 12880 ≤ k → k < 13080 → A' k = A k) (hS : ∀ i, i < s → A' (40 + 8 * i) = A (40 + 8 * i)) : Ique A' n s' d' := by
  intro i hi
  obtain ⟨x, y, z, h1, h2, h3, h4, h5, h6, h7, h8⟩ := h i hi
  refine ⟨x, y, z, ?_⟩
  rw [hS y h5]
  simp (disch := omega) only [hA]
  exact ⟨h1, h2, h3, h4, by omega, by omega, h7, vm_w h8 hd⟩
theorem kof_w {k : Nat} (h3 : c 3 ≤ c' 3) (h4 : c 4 ≤ c' 4) (h7 : c 7 ≤ c' 7) (h8 : c 8 ≤ c' 8) (h10 : c 10 ≤ c' 10) : kof k c ≤ kof k c' := by
  unfold kof
  repeat' split
  all_goals assumption
theorem Iact_tr (h : Iact A c) (hn : c 11 ≤ 512) (h11 : c' 11 = c 11) (h0 : c 0 ≤ c' 0) (hk : ∀ k, kof k c ≤ kof k c') (hA : ∀ k, 13080 ≤ k → k < 17176 → A' k = A k) : Iact A' c' := by
  intro i hi
  rw [h11] at hi
  obtain ⟨x, y, z, h1, h2, h3, h4, h5, h6, h7, h8, h9⟩ := h i hi
  refine ⟨x, y, z, ?_⟩
  simp (disch := omega) only [hA]
  refine ⟨h1, h2, h3, h4, by omega, h6, Nat.lt_of_lt_of_le h7 (hk x), h8, fun j d' hj => ?_⟩
  rw [hA _ (by omega) (by omega)]
  exact h9 j d' hj
theorem Icld_tr {n s s' : Nat} (h : Icld A n s) (hn : n ≤ 60) (hs : s ≤ s') (hA : ∀ k, 20760 ≤ k → k < 20880 → A' k = A k) : Icld A' n s' := by
  intro i hi
  obtain ⟨x, y, h1, h2, h3, h4⟩ := h i hi
  refine ⟨x, y, ?_⟩
  simp (disch := omega) only [hA]
  exact ⟨h1, h2, by omega, h4⟩
theorem Iwat_tr {n s s' : Nat} (h : Iwat A n s) (hn : n ≤ 60) (hs : s ≤ s') (hA : ∀ k, 20880 ≤ k → k < 21000 → A' k = A k) : Iwat A' n s' := by
  intro i hi
  obtain ⟨x, y, h1, h2, h3, h4⟩ := h i hi
  refine ⟨x, y, ?_⟩
  simp (disch := omega) only [hA]
  exact ⟨h1, h2, by omega, h4⟩
theorem JR_tr {R R' W cap n : Nat} (h : JR w R W cap n) (hs : jSr jR0 R' 1 = R' + 1 ∧ jSl jR0 (R' + 1) = cap * W) (h0 : w'.1 R' 0 = w.1 R 0) (h2 : w'.1 R' 2 = w.1 R 2) : JR w' R' W cap n :=
  ⟨h0.trans h.1, h2.trans h.2.1, h.2.2.1, hs.1, hs.2, h.2.2.2.2.2⟩
theorem RT_tr {R R' W cap cnt base st : Nat} {cm : Nat → Nat} (h : RT w R W cap A cnt base st cm) (hs : jSr jR0 R' 1 = R' + 1 ∧ jSl jR0 (R' + 1) = cap * W) (h0 : w'.1 R' 0 = w.1 R 0) (h2 : w'.1 R' 2 = w.1 R 2) (hw : ∀ j, j < cap * W → w'.1 (R' + 1) j = w.1 (R + 1) j) (hc : A' cnt = A cnt) (hA : ∀ k, base ≤ k → k < base + st * cap → A' k = A k) : RT w' R' W cap A' cnt base st cm := by
  obtain ⟨n, h1, hj, h3⟩ := h
  refine ⟨n, hc.trans h1, JR_tr hj hs h0 h2, fun i j hi hj' hcm => ?_⟩
  have hn := hj.2.2.1
  have q := Nat.mul_le_mul_left st (show i + 1 ≤ cap by omega)
  rw [Nat.mul_succ] at q
  rw [hw _ (r_cell hj (show i < cap by omega) hj'), hA _ (by omega) (by omega)]
  exact h3 i j hi hj' hcm
theorem Rscal_tr (h : Rscal w b A) (hw : ∀ j, j < 5 → w'.1 b' j = w.1 b j) (h0 : A' 0 = A 0) (h2 : A' 2 = A 2) (hA : ∀ k, 14 ≤ k → k < 17 → A' k = A k) : Rscal w' b' A' := by
  unfold Rscal
  rw [hw 0 (by omega), hw 1 (by omega), hw 2 (by omega), hw 3 (by omega), hw 4 (by omega), h0, h2, hA 14 (by omega) (by omega), hA 15 (by omega) (by omega), hA 16 (by omega) (by omega)]
  exact h
theorem sb_s (h : sb b') {o cap W : Nat} (h3 : jSr jR0 (3 + o) 1 = 3 + o + 1 ∧ jSl jR0 (3 + o + 1) = cap * W) (h38 : jSr jR0 (38 + o) 1 = 38 + o + 1 ∧ jSl jR0 (38 + o + 1) = cap * W) : jSr jR0 (b' + o) 1 = b' + o + 1 ∧ jSl jR0 (b' + o + 1) = cap * W := by
  rcases h with rfl | rfl
  · exact h3
  · exact h38
theorem Rsort_tr (h : Rsort w b A) (hs : sb b') (hw : ∀ o j, 1 ≤ o → o ≤ 2 → j < wl o → w'.1 (b' + o) j = w.1 (b + o) j) (hA : ∀ k, 20 ≤ k → k < 36 → A' k = A k) : Rsort w' b' A' := by
  refine ⟨JR_tr h.1 (sb_s hs (by decide) (by decide)) (hw 1 0 (by omega) (by omega) (by decide)) (hw 1 2 (by omega) (by omega) (by decide)), fun i j hi hj => ?_⟩
  rw [hw 2 (i * 4 + j) (by omega) (by omega) (show i * 4 + j < 16 by omega), hA _ (by omega) (by omega)]
  exact h.2 i j hi hj
theorem Rsite_tr (h : Rsite w b A) (hs : sb b') (hw : ∀ o j, 3 ≤ o → o ≤ 4 → j < wl o → w'.1 (b' + o) j = w.1 (b + o) j) (hc : A' 1 = A 1) (hA : ∀ k, 40 ≤ k → k < 120 → A' k = A k) : Rsite w' b' A' :=
  RT_tr h (sb_s hs (by decide) (by decide)) (hw 3 0 (by omega) (by omega) (by decide)) (hw 3 2 (by omega) (by omega) (by decide)) (fun j hj => hw 4 j (by omega) (by omega) hj) hc hA
theorem Rthing_tr (h : Rthing w b A) (hs : sb b') (hw : ∀ o j, 7 ≤ o → o ≤ 8 → j < wl o → w'.1 (b' + o) j = w.1 (b + o) j) (hc : A' 3 = A 3) (hA : ∀ k, 240 ≤ k → k < 720 → A' k = A k) : Rthing w' b' A' :=
  RT_tr h (sb_s hs (by decide) (by decide)) (hw 7 0 (by omega) (by omega) (by decide)) (hw 7 2 (by omega) (by omega) (by decide)) (fun j hj => hw 8 j (by omega) (by omega) hj) hc hA
theorem Rmove_tr (h : Rmove w b A) (hs : sb b') (hw : ∀ o j, 9 ≤ o → o ≤ 10 → j < wl o → w'.1 (b' + o) j = w.1 (b + o) j) (hc : A' 4 = A 4) (hA : ∀ k, 720 ≤ k → k < 1520 → A' k = A k) : Rmove w' b' A' :=
  RT_tr h (sb_s hs (by decide) (by decide)) (hw 9 0 (by omega) (by omega) (by decide)) (hw 9 2 (by omega) (by omega) (by decide)) (fun j hj => hw 10 j (by omega) (by omega) hj) hc hA
theorem Rseal_tr (h : Rseal w b A) (hs : sb b') (hw : ∀ o j, 11 ≤ o → o ≤ 12 → j < wl o → w'.1 (b' + o) j = w.1 (b + o) j) (hc : A' 5 = A 5) (hA : ∀ k, 1520 ≤ k → k < 1680 → A' k = A k) : Rseal w' b' A' :=
  RT_tr h (sb_s hs (by decide) (by decide)) (hw 11 0 (by omega) (by omega) (by decide)) (hw 11 2 (by omega) (by omega) (by decide)) (fun j hj => hw 12 j (by omega) (by omega) hj) hc hA
theorem Rtold_tr (h : Rtold w b A) (hs : sb b') (hw : ∀ o j, 21 ≤ o → o ≤ 22 → j < wl o → w'.1 (b' + o) j = w.1 (b + o) j) (hc : A' 7 = A 7) (hA : ∀ k, 9680 ≤ k → k < 11280 → A' k = A k) : Rtold w' b' A' :=
  RT_tr h (sb_s hs (by decide) (by decide)) (hw 21 0 (by omega) (by omega) (by decide)) (hw 21 2 (by omega) (by omega) (by decide)) (fun j hj => hw 22 j (by omega) (by omega) hj) hc hA
theorem Rvis_tr (h : Rvis w b A) (hs : sb b') (hw : ∀ o j, 23 ≤ o → o ≤ 24 → j < wl o → w'.1 (b' + o) j = w.1 (b + o) j) (hc : A' 8 = A 8) (hA : ∀ k, 11280 ≤ k → k < 12480 → A' k = A k) : Rvis w' b' A' :=
  RT_tr h (sb_s hs (by decide) (by decide)) (hw 23 0 (by omega) (by omega) (by decide)) (hw 23 2 (by omega) (by omega) (by decide)) (fun j hj => hw 24 j (by omega) (by omega) hj) hc hA
theorem Rpic_tr (h : Rpic w b A) (hs : sb b') (hw : ∀ o j, 25 ≤ o → o ≤ 26 → j < wl o → w'.1 (b' + o) j = w.1 (b + o) j) (hc : A' 9 = A 9) (hA : ∀ k, 12480 ≤ k → k < 12880 → A' k = A k) : Rpic w' b' A' :=
  RT_tr h (sb_s hs (by decide) (by decide)) (hw 25 0 (by omega) (by omega) (by decide)) (hw 25 2 (by omega) (by omega) (by decide)) (fun j hj => hw 26 j (by omega) (by omega) hj) hc hA
theorem Rque_tr (h : Rque w b A) (hs : sb b') (hw : ∀ o j, 27 ≤ o → o ≤ 28 → j < wl o → w'.1 (b' + o) j = w.1 (b + o) j) (hc : A' 10 = A 10) (hA : ∀ k, 12880 ≤ k → k < 13080 → A' k = A k) : Rque w' b' A' :=
  RT_tr h (sb_s hs (by decide) (by decide)) (hw 27 0 (by omega) (by omega) (by decide)) (hw 27 2 (by omega) (by omega) (by decide)) (fun j hj => hw 28 j (by omega) (by omega) hj) hc hA
theorem Ract_tr (h : Ract w b A) (hs : sb b') (hw : ∀ o j, 29 ≤ o → o ≤ 30 → j < wl o → w'.1 (b' + o) j = w.1 (b + o) j) (hc : A' 11 = A 11) (hA : ∀ k, 13080 ≤ k → k < 17176 → A' k = A k) : Ract w' b' A' :=
  RT_tr h (sb_s hs (by decide) (by decide)) (hw 29 0 (by omega) (by omega) (by decide)) (hw 29 2 (by omega) (by omega) (by decide)) (fun j hj => hw 30 j (by omega) (by omega) hj) hc hA
theorem Rcld_tr (h : Rcld w b A) (hs : sb b') (hw : ∀ o j, 31 ≤ o → o ≤ 32 → j < wl o → w'.1 (b' + o) j = w.1 (b + o) j) (hc : A' 12 = A 12) (hA : ∀ k, 20760 ≤ k → k < 20880 → A' k = A k) : Rcld w' b' A' :=
  RT_tr h (sb_s hs (by decide) (by decide)) (hw 31 0 (by omega) (by omega) (by decide)) (hw 31 2 (by omega) (by omega) (by decide)) (fun j hj => hw 32 j (by omega) (by omega) hj) hc hA
theorem Rwat_tr (h : Rwat w b A) (hs : sb b') (hw : ∀ o j, 33 ≤ o → o ≤ 34 → j < wl o → w'.1 (b' + o) j = w.1 (b + o) j) (hc : A' 13 = A 13) (hA : ∀ k, 20880 ≤ k → k < 21000 → A' k = A k) : Rwat w' b' A' :=
  RT_tr h (sb_s hs (by decide) (by decide)) (hw 33 0 (by omega) (by omega) (by decide)) (hw 33 2 (by omega) (by omega) (by decide)) (fun j hj => hw 34 j (by omega) (by omega) hj) hc hA
theorem lmv_tr {t : Nat} : ∀ n, n ≤ 100 → (∀ m, m < n → A' (720 + 8 * m) = A (720 + 8 * m)) → lmv A' t n = lmv A t n ∧ cmv A' t n = cmv A t n := by
  intro n
  induction n with
  | zero => intro _ _; exact ⟨rfl, rfl⟩
  | succ n ih =>
    intro hn h
    obtain ⟨h1, h2⟩ := ih (by omega) (fun m hm => h m (by omega))
    rw [lmv, lmv, cmv, cmv, h n (by omega), h1, h2]
    exact ⟨rfl, rfl⟩
theorem Rchain_tr (h : Rchain w b A) (hw : ∀ o j, 8 ≤ o → o ≤ 10 → o ≠ 9 → j < wl o → w'.1 (b' + o) j = w.1 (b + o) j) (h3 : A' 3 = A 3) (h4 : A' 4 = A 4) (hA : ∀ m, m < 100 → A' (720 + 8 * m) = A (720 + 8 * m)) : Rchain w' b' A' := by
  obtain ⟨nt, nm, g1, g2, g3, g4, g5, g6⟩ := h
  refine ⟨nt, nm, h3.trans g1, h4.trans g2, g3, g4, fun t ht => ?_, fun m hm => ?_⟩
  · obtain ⟨e1, e2⟩ := lmv_tr (t := t) nm g4 (fun m hm => hA m (by omega))
    rw [e1, e2, hw 8 (t * 11 + 8) (by omega) (by omega) (by omega) (show t * 11 + 8 < 440 by omega), hw 8 (t * 11 + 6) (by omega) (by omega) (by omega) (show t * 11 + 6 < 440 by omega)]
    exact g5 t ht
  · obtain ⟨t, q1, q2, q3⟩ := g6 m hm
    refine ⟨t, q1, (hA m (by omega)).trans q2, ?_⟩
    rw [hw 10 (m * 6 + 5) (by omega) (by omega) (by omega) (show m * 6 + 5 < 600 by omega), q3]
    exact (lmv_tr m (by omega) (fun j hj => hA j (by omega))).1.symm
theorem Rvis2_tr (h : Rvis2 w b A c) (hl : c 8 ≤ 100 ∧ c 5 ≤ 40 ∧ c' 5 ≤ 40) (hI : Ivis A (c 8) (c 1) (c 5) (c 0)) (h8 : c' 8 = c 8) (hw : ∀ j, j < wl 24 → w'.1 (b' + 24) j = w.1 (b + 24) j) (hA : ∀ k, 11280 ≤ k → k < 12480 → A' k = A k) (hB : ∀ k, 1520 ≤ k → k < 1520 + 4 * c 5 → A' k = A k) : Rvis2 w' b' A' c' := by
  intro i hi
  rw [h8] at hi
  have q := h i hi
  rw [hw (i * 10 + 9) (show i * 10 + 9 < 1000 by omega), hA _ (by omega) (by omega), hA _ (by omega) (by omega)]
  intro e1 l hl1 hl2
  obtain ⟨s, d, g1, g2, g3, g4, g5, g6, g7, g8, g9⟩ := hI i hi
  have hl3 : l < c 5 := by
    obtain ⟨k, e2, e3⟩ := g9 e1
    have := (nI_eq (by omega) (by omega)).mp (e3.symm.trans hl1)
    omega
  rw [hB _ (by omega) (by omega)]
  exact q e1 l hl1 hl3
theorem Ract2_tr (h : Ract2 w b A c) (hl : c 11 ≤ 512 ∧ c 3 ≤ 40 ∧ c 4 ≤ 100 ∧ c 7 ≤ 200 ∧ c 8 ≤ 100 ∧ c 10 ≤ 50) (hI : Iact A c) (h11 : c' 11 = c 11) (hw : ∀ j, j < wl 30 → w'.1 (b' + 30) j = w.1 (b + 30) j) (hA : ∀ k, 13080 ≤ k → k < 17176 → A' k = A k) (h4 : ∀ i, i < c 4 → A' (720 + 8 * i) = A (720 + 8 * i)) (h7 : ∀ i, i < c 7 → A' (9680 + 8 * i) = A (9680 + 8 * i)) (h8 : ∀ i, i < c 8 → A' (11280 + 12 * i + 1) = A (11280 + 12 * i + 1)) (h10 : ∀ i, i < c 10 → A' (12880 + 4 * i + 1) = A (12880 + 4 * i + 1)) : Ract2 w' b' A' c' := by
  intro i k o hi
  rw [h11] at hi
  rw [hw (i * 5 + 3) (show i * 5 + 3 < 2560 by omega), hw (i * 5 + 4) (show i * 5 + 4 < 2560 by omega)]
  rw [hA _ (by omega) (by omega), hA _ (by omega) (by omega), hA _ (by omega) (by omega)]
  intro e1 e2 e3 e4
  obtain ⟨x, y, z, g1, g2, g3, g4, g5, g6, g7, g8, g9⟩ := hI i hi
  have e5 : x = k := (nI_eq (by omega) (by omega)).mp (g1.symm.trans e1)
  have hz : z < 2 ^ 31 := by
    unfold kof at g7
    repeat' split at g7
    all_goals omega
  have e6 : z = o := (nI_eq hz e4).mp (g3.symm.trans e3)
  subst e5; subst e6
  have q := h i x z hi e1 e2 e3 e4
  rw [q.1, q.2]
  refine ⟨?_, rfl⟩
  unfold aof
  unfold kof at g7
  by_cases k1 : x = 1
  · rw [if_pos k1, if_pos k1, h4 z (by simpa [k1] using g7)]
  · rw [if_neg k1, if_neg k1]
    by_cases k3 : x = 3
    · rw [if_pos k3, if_pos k3, h7 z (by simpa [k3] using g7)]
    · rw [if_neg k3, if_neg k3]
      by_cases k4 : x = 4
      · rw [if_pos k4, if_pos k4, h8 z (by simpa [k4] using g7)]
      · rw [if_neg k4, if_neg k4]
        by_cases k5 : x = 5
        · rw [if_pos k5, if_pos k5, h10 z (by simpa [k5] using g7)]
        · rw [if_neg k5, if_neg k5]
theorem Wk_tr {nr i : Nat} (hn : nr ≤ 30) (hA : ∀ k, 120 ≤ k → k < 240 → A' k = A k) : ∀ (n y l : Nat), Wk A nr i n y l → Wk A' nr i n y l := by
  intro n
  induction n with
  | zero => intro y l h; exact h
  | succ n ih =>
    intro y l h
    obtain ⟨x, r, d, l', h1, h2, h3, h4, h5, h6, h7, h8⟩ := h
    refine ⟨x, r, d, l', h1, h2, h3, h4, h5, ?_, h7, ih x l' h8⟩
    unfold jnd
    rw [hA _ (by omega) (by omega), hA _ (by omega) (by omega), hA _ (by omega) (by omega)]
    exact h6
theorem Dis_tr {nr i y : Nat} {x : Int32} (h : Dis A nr i y x) (hn : nr ≤ 30) (hA : ∀ k, 120 ≤ k → k < 240 → A' k = A k) : Dis A' nr i y x := by
  have hB : ∀ k, 120 ≤ k → k < 240 → A k = A' k := fun k h1 h2 => (hA k h1 h2).symm
  rcases h with ⟨h1, h2⟩ | ⟨l, h1, h2, ⟨n, h3⟩, h4⟩
  · exact Or.inl ⟨h1, fun n l q => h2 n l (Wk_tr hn hB n y l q)⟩
  · exact Or.inr ⟨l, h1, h2, ⟨n, Wk_tr hn hA n y l h3⟩, fun n l' q => h4 n l' (Wk_tr hn hB n y l' q)⟩
theorem Rway_tr (h : Rway w b A c) (hs : sb b') (hl : c 1 ≤ 10 ∧ c 2 ≤ 30) (h1 : c' 1 = c 1) (h2 : c' 2 = c 2) (hw : ∀ o j, 5 ≤ o → o ≤ 6 → j < wl o → w'.1 (b' + o) j = w.1 (b + o) j) (hA : ∀ k, 120 ≤ k → k < 240 → A' k = A k) : Rway w' b' A' c' := by
  refine ⟨?_, fun i j hi hj => ?_⟩
  · rw [h1]; exact JR_tr h.1 (sb_s hs (by decide) (by decide)) (hw 5 0 (by omega) (by omega) (by decide)) (hw 5 2 (by omega) (by omega) (by decide))
  · rw [h1] at hi
    rw [h2, hw 6 (i * 10 + j) (by omega) (by omega) (show i * 10 + j < 100 by omega)]
    exact Dis_tr (h.2 i j hi hj) hl.2 hA
theorem tkc_tr {f g : Nat → Int32} : ∀ (L : List (Nat × Nat × Nat)) (p : Nat), (∀ j, p ≤ j → j < p + tln L → g j = f j) → tkc f p L → tkc g p L := by
  intro L
  induction L with
  | nil => intro p _ _; trivial
  | cons t L ih =>
    intro p hg h
    rw [tkc] at h ⊢
    rw [tln] at hg
    by_cases q : t.1 < 6
    · rw [if_pos q] at h hg ⊢
      rw [hg _ (by omega) (by omega), hg _ (by omega) (by omega), hg _ (by omega) (by omega)]
      exact ⟨h.1, h.2.1, h.2.2.1, ih _ (fun j h1 h2 => hg j (by omega) (by omega)) h.2.2.2⟩
    · rw [if_neg q] at h hg ⊢
      rw [hg _ (by omega) (by omega)]
      exact ⟨h.1, ih _ (fun j h1 h2 => hg j (by omega) (by omega)) h.2⟩
theorem opm_tr {q x : Nat} (h : opm A q x) (h0 : A' q = A q) (h1 : A' (q + 1) = A (q + 1)) : opm A' q x := by
  unfold opm at *
  rw [h0, h1]
  exact h
theorem tkm_tr : ∀ (L : List (Nat × Nat × Nat)) (p : Nat), (∀ j, p ≤ j → j < p + 2 * tln L → A' j = A j) → tkm A p L → tkm A' p L := by
  intro L
  induction L with
  | nil => intro p _ _; trivial
  | cons t L ih =>
    intro p hg h
    rw [tkm] at h ⊢
    rw [tln] at hg
    by_cases q : t.1 < 6
    · rw [if_pos q] at h hg ⊢
      rw [hg (p + 4) (by omega) (by omega)]
      exact ⟨opm_tr h.1 (hg _ (by omega) (by omega)) (hg _ (by omega) (by omega)), opm_tr h.2.1 (hg _ (by omega) (by omega)) (hg _ (by omega) (by omega)), h.2.2.1, ih _ (fun j h1 h2 => hg j (by omega) (by omega)) h.2.2.2⟩
    · rw [if_neg q] at h hg ⊢
      rw [hg _ (by omega) (by omega)]
      exact ⟨h.1, ih _ (fun j h1 h2 => hg j (by omega) (by omega)) h.2⟩
theorem Rcl_tr {t q r k0 ks ks' : Nat} (h : Rcl w b A t q r k0 ks) (hr : r < 160) (hks : ks ≤ 3000) (hks' : ks ≤ ks') (ht : t < 10) (hq : 1680 + 800 * t ≤ q ∧ q + 6 ≤ 1680 + 800 * t + 140) (hw : ∀ j, j < 640 → j < r * 4 + 4 → w'.1 (b' + 17) j = w.1 (b + 17) j) (hv : ∀ j, j < ks → w'.1 (b' + 19) j = w.1 (b + 19) j) (hA : ∀ k, 1680 + 800 * t ≤ k → k < 1680 + 800 * t + 800 → A' k = A k) : Rcl w' b' A' t q r k0 ks' := by
  obtain ⟨s, h1, h2, h3, h4, h5, h6, h7, h8⟩ := h
  refine ⟨s, ?_⟩
  rw [hw (r * 4) (by omega) (by omega), hw (r * 4 + 1) (by omega) (by omega), hw (r * 4 + 2) (by omega) (by omega), hw (r * 4 + 3) (by omega) (by omega), hA q (by omega) (by omega), hA (q + 1) (by omega) (by omega), hA (q + 2) (by omega) (by omega), hA (q + 3) (by omega) (by omega)]
  refine ⟨h1, h2, h3, h4, h5, h6, h7, fun z => ?_⟩
  obtain ⟨L, u, g1, g2, g3, g4, g5, g6, g7, g8, g9⟩ := h8 z
  refine ⟨L, u, ?_⟩
  rw [hw (r * 4 + 1) (by omega) (by omega), hw (r * 4 + 2) (by omega) (by omega), hA (q + 4) (by omega) (by omega), hA (q + 5) (by omega) (by omega)]
  exact ⟨g1, g2, g3, g4, tkc_tr L _ (fun j h1 h2 => hv j (by omega)) g5, tkm_tr L _ (fun j h1 h2 => hA j (by omega) (by omega)) g6, g7, g8, by omega⟩
theorem Rtx_tr {t n c0 k0 cs cs' ks ks' : Nat} (h : Rtx w b A t n c0 k0 cs ks) (ht : t < 10) (hcs : cs ≤ 160) (hks : ks ≤ 3000) (hcs' : cs ≤ cs') (hks' : ks ≤ ks') (hx : ∀ j, j < t * 4 + 4 → w'.1 (b' + 15) j = w.1 (b + 15) j) (hw : ∀ j, j < cs * 4 → w'.1 (b' + 17) j = w.1 (b + 17) j) (hv : ∀ j, j < ks → w'.1 (b' + 19) j = w.1 (b + 19) j) (hA : ∀ k, 1680 + 800 * t ≤ k → k < 1680 + 800 * t + 800 → A' k = A k) : Rtx w' b' A' t n c0 k0 cs' ks' := by
  obtain ⟨h1, h2, h3, h4, h5, h6, h7, ⟨kd, h8, h9, h10⟩, h11⟩ := h
  unfold Rtx
  rw [hx (t * 4) (by omega), hx (t * 4 + 1) (by omega), hx (t * 4 + 2) (by omega), hx (t * 4 + 3) (by omega), hA _ (by omega) (by omega), hA _ (by omega) (by omega)]
  refine ⟨h1, h2, by omega, h4, h5, h6, h7, ⟨kd, h8, h9, fun k hk => ?_⟩, fun i hi => Rcl_tr (h11 i hi) (by omega) hks hks' ht (by omega) (fun j hj1 hj2 => hw j (by omega)) hv hA⟩
  rw [h10 k hk]
  exact ⟨fun ⟨i, q1, q2⟩ => ⟨i, q1, by rw [hA _ (by omega) (by omega)]; exact q2⟩, fun ⟨i, q1, q2⟩ => ⟨i, q1, by rw [hA _ (by omega) (by omega)] at q2; exact q2⟩⟩
theorem Rtext_tr (h : Rtext w b A c) (hs : sb b') (hl : c 6 ≤ 10) (h6 : c' 6 = c 6) (hw : ∀ o j, 14 ≤ o → o ≤ 19 → j < wl o → w'.1 (b' + o) j = w.1 (b + o) j) (hA : ∀ k, 1680 ≤ k → k < 9680 → A' k = A k) : Rtext w' b' A' c' := by
  obtain ⟨cs, ks, h1, h2, h3, h4, h5, h7⟩ := h
  refine ⟨cs, ks, ?_⟩
  rw [h6]
  refine ⟨JR_tr h1 (sb_s hs (by decide) (by decide)) (hw 14 0 (by omega) (by omega) (by decide)) (hw 14 2 (by omega) (by omega) (by decide)), JR_tr h2 (sb_s hs (by decide) (by decide)) (hw 16 0 (by omega) (by omega) (by decide)) (hw 16 2 (by omega) (by omega) (by decide)), JR_tr h3 (sb_s hs (by decide) (by decide)) (hw 18 0 (by omega) (by omega) (by decide)) (hw 18 2 (by omega) (by omega) (by decide)), h4, h5, fun t ht => ?_⟩
  obtain ⟨n, c0, k0, g⟩ := h7 t ht
  exact ⟨n, c0, k0, Rtx_tr g (by omega) h2.2.2.1 h3.2.2.1 (Nat.le_refl _) (Nat.le_refl _) (fun j hj => hw 15 j (by omega) (by omega) (show j < 40 by omega)) (fun j hj => hw 17 j (by omega) (by omega) (show j < 640 by omega)) (fun j hj => hw 19 j (by omega) (by omega) (show j < 3000 by omega)) (fun k hk1 hk2 => hA k (by omega) (by omega))⟩
theorem I0_tr (h : I0 A c) (hA : ∀ k, k < 14 → A' k = A k) : I0 A' c := fun i hi => (hA i hi).trans (h i hi)
theorem RA_tr (h : RA w b A c K) (hs : sb b') (hw : ∀ o j, o < 35 → o ≠ 20 → j < wl o → w'.1 (b' + o) j = w.1 (b + o) j) (hA : ∀ k, k < 21000 → A' k = A k) (hK : K ≤ K') (hK' : K' ≤ 512) : RA w' b' A' c K' := by
  have hR : ∀ {lo hi : Nat}, hi ≤ 21000 → ∀ k, lo ≤ k → k < hi → A' k = A k := fun q k _ q2 => hA k (by omega)
  have hW : ∀ {lo hi : Nat}, hi < 35 → 20 < lo ∨ hi < 20 → ∀ o j, lo ≤ o → o ≤ hi → j < wl o → w'.1 (b' + o) j = w.1 (b + o) j := fun q q2 o j q3 q4 q5 => hw o j (by omega) (by omega) q5
  have g0 := l_0 h
  have g1 := l_1 h
  have g2 := l_2 h
  have g3 := l_3 h
  have g4 := l_4 h
  have g5 := l_5 h
  have g6 := l_6 h
  have g7 := l_7 h
  have g8 := l_8 h
  have g9 := l_9 h
  have g10 := l_10 h
  have g11 := l_11 h
  have g11' := l_K h
  have g12 := l_12 h
  have g13 := l_13 h
  have r := Nat.le_refl
  refine ⟨⟨I0_tr (p_I0 h) (fun k q => hA k (by omega)), ⟨g0, g1, g2, g3, g4, g5, g6, g7, g8, g9, g10, by omega, g12, g13, hK'⟩, I2_tr (p_I2 h) (hR (by omega)), Isort_tr (p_Isort h) (hR (by omega)), Isite_tr (p_Isite h) g1 (hR (by omega)), Iroad_tr (p_Iroad h) g2 (r _) (hR (by omega)) (fun i q => hA _ (by omega)), Ithing_tr (p_Ithing h) g3 (r _) (r _) (hR (by omega)) (fun i q => hA _ (by omega)), Imove_tr (p_Imove h) g4 (r _) (r _) (r _) (hR (by omega)) (fun i q => hA _ (by omega)) (fun i q => hA _ (by omega)), Iseal_tr (p_Iseal h) g5 (r _) (r _) (hR (by omega)), Itold_tr (p_Itold h) g7 (r _) (r _) (r _) (hR (by omega)), Ivis_tr (p_Ivis h) g8 (r _) (r _) (r _) (hR (by omega)), Ipic_tr (p_Ipic h) g9 (r _) (r _) (hR (by omega)), Ique_tr (p_Ique h) g10 (r _) (r _) (hR (by omega)) (fun i q => hA _ (by omega)), Iact_tr (p_Iact h) g11 rfl (r _) (fun _ => r _) (hR (by omega)), Icld_tr (p_Icld h) g12 (r _) (hR (by omega)), Iwat_tr (p_Iwat h) g13 (r _) (hR (by omega))⟩, ?_⟩
  refine ⟨Rscal_tr (p_Rscal h) (fun j q => hw 0 j (by omega) (by omega) q) (hA _ (by omega)) (hA _ (by omega)) (hR (by omega)), Rsort_tr (p_Rsort h) hs (hW (by omega) (by omega)) (hR (by omega)), Rsite_tr (p_Rsite h) hs (hW (by omega) (by omega)) (hA _ (by omega)) (hR (by omega)), Rthing_tr (p_Rthing h) hs (hW (by omega) (by omega)) (hA _ (by omega)) (hR (by omega)), Rmove_tr (p_Rmove h) hs (hW (by omega) (by omega)) (hA _ (by omega)) (hR (by omega)), Rseal_tr (p_Rseal h) hs (hW (by omega) (by omega)) (hA _ (by omega)) (hR (by omega)), Rtold_tr (p_Rtold h) hs (hW (by omega) (by omega)) (hA _ (by omega)) (hR (by omega)), Rvis_tr (p_Rvis h) hs (hW (by omega) (by omega)) (hA _ (by omega)) (hR (by omega)), Rpic_tr (p_Rpic h) hs (hW (by omega) (by omega)) (hA _ (by omega)) (hR (by omega)), Rque_tr (p_Rque h) hs (hW (by omega) (by omega)) (hA _ (by omega)) (hR (by omega)), Ract_tr (p_Ract h) hs (hW (by omega) (by omega)) (hA _ (by omega)) (hR (by omega)), Rcld_tr (p_Rcld h) hs (hW (by omega) (by omega)) (hA _ (by omega)) (hR (by omega)), Rwat_tr (p_Rwat h) hs (hW (by omega) (by omega)) (hA _ (by omega)) (hR (by omega)), Rchain_tr (p_Rchain h) (fun o j q1 q2 _ q3 => hw o j (by omega) (by omega) q3) (hA _ (by omega)) (hA _ (by omega)) (fun m q => hA _ (by omega)), Rvis2_tr (p_Rvis2 h) ⟨g8, g5, g5⟩ (p_Ivis h) rfl (fun j q => hw 24 j (by omega) (by omega) q) (hR (by omega)) (fun k _ q => hA k (by omega)), Ract2_tr (p_Ract2 h) ⟨g11, g3, g4, g7, g8, g10⟩ (p_Iact h) rfl (fun j q => hw 30 j (by omega) (by omega) q) (hR (by omega)) (fun i q => hA _ (by omega)) (fun i q => hA _ (by omega)) (fun i q => hA _ (by omega)) (fun i q => hA _ (by omega)), Rway_tr (p_Rway h) hs ⟨g1, g2⟩ rfl rfl (hW (by omega) (by omega)) (hR (by omega)), Rtext_tr (p_Rtext h) hs g6 rfl (hW (by omega) (by omega)) (hR (by omega))⟩
/-- what only uses other cells leaves the relation -/
theorem RA_fr (h : RA w 3 A c K) (hw : ∀ b, 3 ≤ b → b < 38 → b ≠ 23 → w'.1 b = w.1 b) : RA w' 3 A c K :=
  RA_tr h (Or.inl rfl) (fun o j q1 q2 _ => congrFun (hw (3 + o) (by omega) (by omega) (by omega)) j) (fun _ _ => rfl) (Nat.le_refl _) (l_K h).2
end TR


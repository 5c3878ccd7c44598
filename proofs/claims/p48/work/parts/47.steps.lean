/-! LAYER B: more steps that keep the relation -/
section MU
variable {w w' : jW} {A A' : Nat → Int32} {c : Nat → Nat} {K : Nat}

theorem lmv_no {t : Nat} : ∀ n, (∀ m, m < n → A (720 + 8 * m) ≠ nI t) → lmv A t n = -1 ∧ cmv A t n = 0 := by
  intro n
  induction n with
  | zero => intro _; exact ⟨rfl, rfl⟩
  | succ n ih =>
    intro h
    obtain ⟨h1, h2⟩ := ih (fun m hm => h m (by omega))
    rw [lmv, cmv, if_neg (h n (by omega)), if_neg (h n (by omega)), h1, h2]
    exact ⟨rfl, rfl⟩

theorem P_thing (h : RA w 3 A c K) {s : Nat} (hs : s < c 1) (hn : c 3 < 40) (e2 : w'.1 10 2 = nI (c 3 + 1)) (ec : A' 3 = nI (c 3 + 1)) (hv : ∀ j, j < 11 → cmT j < 12 → w'.1 11 (c 3 * 11 + j) = A' (240 + 12 * c 3 + cmT j)) (es : A' (240 + 12 * c 3 + 5) = nI s) (eo : vb (A' (240 + 12 * c 3)) 0 3) (el : vb (A' (240 + 12 * c 3 + 1)) 1 200) (ew : vb (A' (240 + 12 * c 3 + 2)) 1 500) (ela : A' (240 + 12 * c 3 + 3) = A (40 + 8 * s)) (ed : A' (240 + 12 * c 3 + 4) = nI (c 0)) (e7 : A' (240 + 12 * c 3 + 7) = -1) (e8 : A' (240 + 12 * c 3 + 8) = -1) (v8 : w'.1 11 (c 3 * 11 + 8) = -1) (v6 : w'.1 11 (c 3 * 11 + 6) = 0) (hw : ∀ b j, 3 ≤ b → b < 38 → ¬ (b = 10 ∧ j = 2 ∨ b = 11 ∧ c 3 * 11 ≤ j ∧ j < c 3 * 11 + 11) → w'.1 b j = w.1 b j) (hA : ∀ k, k < 21000 → ¬ (k = 3 ∨ k = 240 + 12 * c 3 ∨ k = 240 + 12 * c 3 + 1 ∨ k = 240 + 12 * c 3 + 2 ∨ k = 240 + 12 * c 3 + 3 ∨ k = 240 + 12 * c 3 + 4 ∨ k = 240 + 12 * c 3 + 5 ∨ k = 240 + 12 * c 3 + 7 ∨ k = 240 + 12 * c 3 + 8) → A' k = A k) : RA w' 3 A' (cup c 3 (c 3 + 1)) (K) := by
  have l0 := l_0 h
  have l1 := l_1 h
  have l2 := l_2 h
  have l3 := l_3 h
  have l4 := l_4 h
  have l5 := l_5 h
  have l6 := l_6 h
  have l7 := l_7 h
  have l8 := l_8 h
  have l9 := l_9 h
  have l10 := l_10 h
  have l11 := l_11 h
  have l12 := l_12 h
  have l13 := l_13 h
  have lK := (l_K h).1
  have lK2 := (l_K h).2
  have pI2 := p_I2 h
  have pIsort := p_Isort h
  have pIsite := p_Isite h
  have pIroad := p_Iroad h
  have pImove := p_Imove h
  have pIseal := p_Iseal h
  have pItold := p_Itold h
  have pIvis := p_Ivis h
  have pIpic := p_Ipic h
  have pIque := p_Ique h
  have pIact := p_Iact h
  have pIcld := p_Icld h
  have pIwat := p_Iwat h
  have pRscal := p_Rscal h
  have pRsort := p_Rsort h
  have pRsite := p_Rsite h
  have pRmove := p_Rmove h
  have pRseal := p_Rseal h
  have pRtold := p_Rtold h
  have pRvis := p_Rvis h
  have pRpic := p_Rpic h
  have pRque := p_Rque h
  have pRact := p_Ract h
  have pRcld := p_Rcld h
  have pRwat := p_Rwat h
  have pRvis2 := p_Rvis2 h
  have pRact2 := p_Ract2 h
  have pRway := p_Rway h
  have pRtext := p_Rtext h
  have hc : ∀ i, c i ≤ (cup c 3 (c 3 + 1)) i := fun i => by
    unfold cup
    by_cases q3 : i = 3
    · rw [if_pos q3, q3]; omega
    rw [if_neg q3]
    exact Nat.le_refl _
  have i5 : c 5 ≤ 40 := l5
  have z0 : I0 A' (cup c 3 (c 3 + 1)) := fun i hi => by
    unfold cup
    by_cases q3 : i = 3
    · rw [if_pos q3, q3]; exact ec
    rw [if_neg q3]
    rw [hA i (by omega) (by omega)]; exact p_I0 h i hi
  have z1 : I1 (cup c 3 (c 3 + 1)) (K) := ⟨l0, l1, l2, (show c 3 + 1 ≤ 40 from by omega), l4, l5, l6, l7, l8, l9, l10, (show c 11 ≤ K from by omega), l12, l13, (show K ≤ 512 from by omega)⟩
  have sI2 : I2 A' := I2_tr pI2 (fun k q1 q2 => hA k (by omega) (by omega))
  have sIsort : Isort A' := Isort_tr pIsort (fun k q1 q2 => hA k (by omega) (by omega))
  have sIsite : Isite A' ((cup c 3 (c 3 + 1)) 1) := Isite_tr pIsite l1 (fun k q1 q2 => hA k (by omega) (by omega))
  have sIroad : Iroad A' ((cup c 3 (c 3 + 1)) 2) ((cup c 3 (c 3 + 1)) 1) := Iroad_tr pIroad l2 (hc 1) (fun k q1 q2 => hA k (by omega) (by omega)) (fun i q => hA _ (by omega) (by omega))
  have sIthing : Ithing A' (c 3 + 1) (c 1) (c 0) := by
    refine ⟨fun t ht => ?_, fun t h1 h2 => ?_⟩
    · by_cases q : t < c 3
      · obtain ⟨x, h1, h2, h3, h4, h5, h6, h7, h8, h9, h10⟩ := (p_Ithing h).1 t q
        refine ⟨x, ?_⟩
        simp (disch := omega) only [hA]
        exact ⟨h1, h2, h3, h4, h5, h6, h7, h8, h9, h10⟩
      · have e : t = c 3 := by omega
        subst e
        refine ⟨s, es, hs, ?_, eo, el, ew, ?_, vb_k ed (Nat.zero_le _) (Nat.le_refl _), Or.inl e7, Or.inl e8⟩
        · rw [ela, hA _ (by omega) (by omega)]
        · rw [ela]; exact (p_Isite h s hs).1
    · rw [hA _ (by omega) (by omega)]
      exact (p_Ithing h).2 t (by omega) h2
  have sImove : Imove A' ((cup c 3 (c 3 + 1)) 4) ((cup c 3 (c 3 + 1)) 3) ((cup c 3 (c 3 + 1)) 1) ((cup c 3 (c 3 + 1)) 0) := Imove_tr pImove l4 (hc 3) (hc 1) (hc 0) (fun k q1 q2 => hA k (by omega) (by omega)) (fun i q => hA _ (by omega) (by omega)) (fun i q => hA _ (by omega) (by omega))
  have sIseal : Iseal A' ((cup c 3 (c 3 + 1)) 5) ((cup c 3 (c 3 + 1)) 1) ((cup c 3 (c 3 + 1)) 0) := Iseal_tr pIseal l5 (hc 1) (hc 0) (fun k q1 q2 => hA k (by omega) (by omega))
  have sItold : Itold A' ((cup c 3 (c 3 + 1)) 7) ((cup c 3 (c 3 + 1)) 3) ((cup c 3 (c 3 + 1)) 1) ((cup c 3 (c 3 + 1)) 0) := Itold_tr pItold l7 (hc 3) (hc 1) (hc 0) (fun k q1 q2 => hA k (by omega) (by omega))
  have sIvis : Ivis A' ((cup c 3 (c 3 + 1)) 8) ((cup c 3 (c 3 + 1)) 1) ((cup c 3 (c 3 + 1)) 5) ((cup c 3 (c 3 + 1)) 0) := Ivis_tr pIvis l8 (hc 1) (hc 5) (hc 0) (fun k q1 q2 => hA k (by omega) (by omega))
  have sIpic : Ipic A' ((cup c 3 (c 3 + 1)) 9) ((cup c 3 (c 3 + 1)) 1) ((cup c 3 (c 3 + 1)) 0) := Ipic_tr pIpic l9 (hc 1) (hc 0) (fun k q1 q2 => hA k (by omega) (by omega))
  have sIque : Ique A' ((cup c 3 (c 3 + 1)) 10) ((cup c 3 (c 3 + 1)) 1) ((cup c 3 (c 3 + 1)) 0) := Ique_tr pIque l10 (hc 1) (hc 0) (fun k q1 q2 => hA k (by omega) (by omega)) (fun i q => hA _ (by omega) (by omega))
  have sIact : Iact A' (cup c 3 (c 3 + 1)) := Iact_tr pIact l11 rfl (hc 0) (fun _ => kof_w (hc 3) (hc 4) (hc 7) (hc 8) (hc 10)) (fun k q1 q2 => hA k (by omega) (by omega))
  have sIcld : Icld A' ((cup c 3 (c 3 + 1)) 12) ((cup c 3 (c 3 + 1)) 1) := Icld_tr pIcld l12 (hc 1) (fun k q1 q2 => hA k (by omega) (by omega))
  have sIwat : Iwat A' ((cup c 3 (c 3 + 1)) 13) ((cup c 3 (c 3 + 1)) 1) := Iwat_tr pIwat l13 (hc 1) (fun k q1 q2 => hA k (by omega) (by omega))
  have sRscal : Rscal w' 3 A' := Rscal_tr pRscal (fun j q => hw 3 j (by omega) (by omega) (by omega)) (hA 0 (by omega) (by omega)) (hA 2 (by omega) (by omega)) (fun k q1 q2 => hA k (by omega) (by omega))
  have sRsort : Rsort w' 3 A' := Rsort_tr pRsort (Or.inl rfl) (fun o j q1 q2 q3 => hw (3 + o) j (by omega) (by omega) (by omega)) (fun k q1 q2 => hA k (by omega) (by omega))
  have sRsite : Rsite w' 3 A' := Rsite_tr pRsite (Or.inl rfl) (fun o j q1 q2 q3 => hw (3 + o) j (by omega) (by omega) (by omega)) (hA 1 (by omega) (by omega)) (fun k q1 q2 => hA k (by omega) (by omega))
  have sRthing : Rthing w' 3 A' := by
    exact RT_ap (n := c 3) (p_Rthing h) (h_3 h) (by omega) (by omega) (hw 10 0 (by omega) (by omega) (by omega)) e2 (fun j hj => hw 11 j (by omega) (by omega) (by omega)) ec (fun k q1 q2 => hA k (by omega) (by omega)) hv
  have sRmove : Rmove w' 3 A' := Rmove_tr pRmove (Or.inl rfl) (fun o j q1 q2 q3 => hw (3 + o) j (by omega) (by omega) (by omega)) (hA 4 (by omega) (by omega)) (fun k q1 q2 => hA k (by omega) (by omega))
  have sRseal : Rseal w' 3 A' := Rseal_tr pRseal (Or.inl rfl) (fun o j q1 q2 q3 => hw (3 + o) j (by omega) (by omega) (by omega)) (hA 5 (by omega) (by omega)) (fun k q1 q2 => hA k (by omega) (by omega))
  have sRtold : Rtold w' 3 A' := Rtold_tr pRtold (Or.inl rfl) (fun o j q1 q2 q3 => hw (3 + o) j (by omega) (by omega) (by omega)) (hA 7 (by omega) (by omega)) (fun k q1 q2 => hA k (by omega) (by omega))
  have sRvis : Rvis w' 3 A' := Rvis_tr pRvis (Or.inl rfl) (fun o j q1 q2 q3 => hw (3 + o) j (by omega) (by omega) (by omega)) (hA 8 (by omega) (by omega)) (fun k q1 q2 => hA k (by omega) (by omega))
  have sRpic : Rpic w' 3 A' := Rpic_tr pRpic (Or.inl rfl) (fun o j q1 q2 q3 => hw (3 + o) j (by omega) (by omega) (by omega)) (hA 9 (by omega) (by omega)) (fun k q1 q2 => hA k (by omega) (by omega))
  have sRque : Rque w' 3 A' := Rque_tr pRque (Or.inl rfl) (fun o j q1 q2 q3 => hw (3 + o) j (by omega) (by omega) (by omega)) (hA 10 (by omega) (by omega)) (fun k q1 q2 => hA k (by omega) (by omega))
  have sRact : Ract w' 3 A' := Ract_tr pRact (Or.inl rfl) (fun o j q1 q2 q3 => hw (3 + o) j (by omega) (by omega) (by omega)) (hA 11 (by omega) (by omega)) (fun k q1 q2 => hA k (by omega) (by omega))
  have sRcld : Rcld w' 3 A' := Rcld_tr pRcld (Or.inl rfl) (fun o j q1 q2 q3 => hw (3 + o) j (by omega) (by omega) (by omega)) (hA 12 (by omega) (by omega)) (fun k q1 q2 => hA k (by omega) (by omega))
  have sRwat : Rwat w' 3 A' := Rwat_tr pRwat (Or.inl rfl) (fun o j q1 q2 q3 => hw (3 + o) j (by omega) (by omega) (by omega)) (hA 13 (by omega) (by omega)) (fun k q1 q2 => hA k (by omega) (by omega))
  have sRchain : Rchain w' 3 A' := by
    obtain ⟨nt, nm, g1, g2, g3, g4, g5, g6⟩ := p_Rchain h
    have e3 : nt = c 3 := (nI_eq (by omega) (by omega)).mp (g1.symm.trans (h_3 h))
    have e4 : nm = c 4 := (nI_eq (by omega) (by omega)).mp (g2.symm.trans (h_4 h))
    subst e3; subst e4
    have hm : ∀ m, m < c 4 → A' (720 + 8 * m) = A (720 + 8 * m) := fun m hm => hA _ (by omega) (by omega)
    refine ⟨c 3 + 1, c 4, ec, (hA 4 (by omega) (by omega)).trans g2, by omega, g4, fun t ht => ?_, fun m hm' => ?_⟩
    · obtain ⟨e1, e2'⟩ := lmv_tr (t := t) (c 4) g4 hm
      rw [e1, e2']
      by_cases q : t < c 3
      · rw [hw 11 (t * 11 + 8) (by omega) (by omega) (by omega), hw 11 (t * 11 + 6) (by omega) (by omega) (by omega)]
        exact g5 t q
      · have e : t = c 3 := by omega
        subst e
        obtain ⟨k1, k2⟩ := lmv_no (A := A) (t := c 3) (c 4) (fun m hm' z => by
          obtain ⟨t', q1, q2, q3⟩ := g6 m hm'
          have := (nI_eq (by omega) (by omega)).mp (q2.symm.trans z)
          omega)
        rw [k1, k2]
        exact ⟨v8, v6⟩
    · obtain ⟨t, q1, q2, q3⟩ := g6 m hm'
      refine ⟨t, by omega, (hm m hm').trans q2, ?_⟩
      rw [hw 13 (m * 6 + 5) (by omega) (by omega) (by omega), q3]
      exact (lmv_tr m (by omega) (fun j hj => hm j (by omega))).1.symm
  have sRvis2 : Rvis2 w' 3 A' (cup c 3 (c 3 + 1)) := Rvis2_tr pRvis2 ⟨l8, l5, i5⟩ pIvis rfl (fun j q => hw 27 j (by omega) (by omega) (by omega)) (fun k q1 q2 => hA k (by omega) (by omega)) (fun k q1 q2 => hA k (by omega) (by omega))
  have sRact2 : Ract2 w' 3 A' (cup c 3 (c 3 + 1)) := Ract2_tr pRact2 ⟨l11, l3, l4, l7, l8, l10⟩ pIact rfl (fun j q => hw 33 j (by omega) (by omega) (by omega)) (fun k q1 q2 => hA k (by omega) (by omega)) (fun i q => hA _ (by omega) (by omega)) (fun i q => hA _ (by omega) (by omega)) (fun i q => hA _ (by omega) (by omega)) (fun i q => hA _ (by omega) (by omega))
  have sRway : Rway w' 3 A' (cup c 3 (c 3 + 1)) := Rway_tr pRway (Or.inl rfl) ⟨l1, l2⟩ rfl rfl (fun o j q1 q2 q3 => hw (3 + o) j (by omega) (by omega) (by omega)) (fun k q1 q2 => hA k (by omega) (by omega))
  have sRtext : Rtext w' 3 A' (cup c 3 (c 3 + 1)) := Rtext_tr pRtext (Or.inl rfl) l6 rfl (fun o j q1 q2 q3 => hw (3 + o) j (by omega) (by omega) (by omega)) (fun k q1 q2 => hA k (by omega) (by omega))
  exact ⟨⟨z0, z1, sI2, sIsort, sIsite, sIroad, sIthing, sImove, sIseal, sItold, sIvis, sIpic, sIque, sIact, sIcld, sIwat⟩, sRscal, sRsort, sRsite, sRthing, sRmove, sRseal, sRtold, sRvis, sRpic, sRque, sRact, sRcld, sRwat, sRchain, sRvis2, sRact2, sRway, sRtext⟩

theorem P_move (h : RA w 3 A c K) {t x y e : Nat} (ht : t < c 3) (hx : x < c 1) (hy : y < c 1) (hde : c 0 < e) (he : e ≤ 1999) (hl : A (40 + 8 * y) = A (240 + 12 * t + 3)) (hn : c 4 < 100) (e2 : w'.1 12 2 = nI (c 4 + 1)) (ec : A' 4 = nI (c 4 + 1)) (hv : ∀ j, j < 6 → cmM j < 8 → w'.1 13 (c 4 * 6 + j) = A' (720 + 8 * c 4 + cmM j)) (et : A' (720 + 8 * c 4) = nI t) (ed : A' (720 + 8 * c 4 + 1) = nI (c 0)) (ex : A' (720 + 8 * c 4 + 2) = nI x) (ey : A' (720 + 8 * c 4 + 3) = nI y) (ee : A' (720 + 8 * c 4 + 4) = nI e) (v5 : w'.1 13 (c 4 * 6 + 5) = lmv A t (c 4)) (v8 : w'.1 11 (t * 11 + 8) = nI (c 4)) (v6 : w'.1 11 (t * 11 + 6) = nI (cmv A t (c 4) + 1)) (hw : ∀ b j, 3 ≤ b → b < 38 → ¬ (b = 12 ∧ j = 2 ∨ b = 13 ∧ c 4 * 6 ≤ j ∧ j < c 4 * 6 + 6 ∨ b = 11 ∧ (j = t * 11 + 8 ∨ j = t * 11 + 6)) → w'.1 b j = w.1 b j) (hA : ∀ k, k < 21000 → ¬ (k = 4 ∨ k = 720 + 8 * c 4 ∨ k = 720 + 8 * c 4 + 1 ∨ k = 720 + 8 * c 4 + 2 ∨ k = 720 + 8 * c 4 + 3 ∨ k = 720 + 8 * c 4 + 4) → A' k = A k) : RA w' 3 A' (cup c 4 (c 4 + 1)) (K) := by
  have l0 := l_0 h
  have l1 := l_1 h
  have l2 := l_2 h
  have l3 := l_3 h
  have l4 := l_4 h
  have l5 := l_5 h
  have l6 := l_6 h
  have l7 := l_7 h
  have l8 := l_8 h
  have l9 := l_9 h
  have l10 := l_10 h
  have l11 := l_11 h
  have l12 := l_12 h
  have l13 := l_13 h
  have lK := (l_K h).1
  have lK2 := (l_K h).2
  have pI2 := p_I2 h
  have pIsort := p_Isort h
  have pIsite := p_Isite h
  have pIroad := p_Iroad h
  have pIthing := p_Ithing h
  have pIseal := p_Iseal h
  have pItold := p_Itold h
  have pIvis := p_Ivis h
  have pIpic := p_Ipic h
  have pIque := p_Ique h
  have pIact := p_Iact h
  have pIcld := p_Icld h
  have pIwat := p_Iwat h
  have pRscal := p_Rscal h
  have pRsort := p_Rsort h
  have pRsite := p_Rsite h
  have pRseal := p_Rseal h
  have pRtold := p_Rtold h
  have pRvis := p_Rvis h
  have pRpic := p_Rpic h
  have pRque := p_Rque h
  have pRact := p_Ract h
  have pRcld := p_Rcld h
  have pRwat := p_Rwat h
  have pRvis2 := p_Rvis2 h
  have pRact2 := p_Ract2 h
  have pRway := p_Rway h
  have pRtext := p_Rtext h
  have hc : ∀ i, c i ≤ (cup c 4 (c 4 + 1)) i := fun i => by
    unfold cup
    by_cases q4 : i = 4
    · rw [if_pos q4, q4]; omega
    rw [if_neg q4]
    exact Nat.le_refl _
  have i5 : c 5 ≤ 40 := l5
  have z0 : I0 A' (cup c 4 (c 4 + 1)) := fun i hi => by
    unfold cup
    by_cases q4 : i = 4
    · rw [if_pos q4, q4]; exact ec
    rw [if_neg q4]
    rw [hA i (by omega) (by omega)]; exact p_I0 h i hi
  have z1 : I1 (cup c 4 (c 4 + 1)) (K) := ⟨l0, l1, l2, l3, (show c 4 + 1 ≤ 100 from by omega), l5, l6, l7, l8, l9, l10, (show c 11 ≤ K from by omega), l12, l13, (show K ≤ 512 from by omega)⟩
  have sI2 : I2 A' := I2_tr pI2 (fun k q1 q2 => hA k (by omega) (by omega))
  have sIsort : Isort A' := Isort_tr pIsort (fun k q1 q2 => hA k (by omega) (by omega))
  have sIsite : Isite A' ((cup c 4 (c 4 + 1)) 1) := Isite_tr pIsite l1 (fun k q1 q2 => hA k (by omega) (by omega))
  have sIroad : Iroad A' ((cup c 4 (c 4 + 1)) 2) ((cup c 4 (c 4 + 1)) 1) := Iroad_tr pIroad l2 (hc 1) (fun k q1 q2 => hA k (by omega) (by omega)) (fun i q => hA _ (by omega) (by omega))
  have sIthing : Ithing A' ((cup c 4 (c 4 + 1)) 3) ((cup c 4 (c 4 + 1)) 1) ((cup c 4 (c 4 + 1)) 0) := Ithing_tr pIthing l3 (hc 1) (hc 0) (fun k q1 q2 => hA k (by omega) (by omega)) (fun i q => hA _ (by omega) (by omega))
  have sImove : Imove A' (c 4 + 1) (c 3) (c 1) (c 0) := by
    intro m hm
    by_cases q : m < c 4
    · obtain ⟨t1, x1, y1, d1, e1, h1, h2, h3, h4, h5, h6, h7, h8, h9, h10, h11, h12⟩ := p_Imove h m q
      refine ⟨t1, x1, y1, d1, e1, ?_⟩
      simp (disch := omega) only [hA]
      exact ⟨h1, h2, h3, h4, h5, h6, h7, h8, h9, h10, h11, h12⟩
    · have e' : m = c 4 := by omega
      subst e'
      refine ⟨t, x, y, c 0, e, et, ed, ex, ey, ee, ht, hx, hy, Nat.le_refl _, hde, he, ?_⟩
      rw [hA _ (by omega) (by omega), hA _ (by omega) (by omega)]; exact hl
  have sIseal : Iseal A' ((cup c 4 (c 4 + 1)) 5) ((cup c 4 (c 4 + 1)) 1) ((cup c 4 (c 4 + 1)) 0) := Iseal_tr pIseal l5 (hc 1) (hc 0) (fun k q1 q2 => hA k (by omega) (by omega))
  have sItold : Itold A' ((cup c 4 (c 4 + 1)) 7) ((cup c 4 (c 4 + 1)) 3) ((cup c 4 (c 4 + 1)) 1) ((cup c 4 (c 4 + 1)) 0) := Itold_tr pItold l7 (hc 3) (hc 1) (hc 0) (fun k q1 q2 => hA k (by omega) (by omega))
  have sIvis : Ivis A' ((cup c 4 (c 4 + 1)) 8) ((cup c 4 (c 4 + 1)) 1) ((cup c 4 (c 4 + 1)) 5) ((cup c 4 (c 4 + 1)) 0) := Ivis_tr pIvis l8 (hc 1) (hc 5) (hc 0) (fun k q1 q2 => hA k (by omega) (by omega))
  have sIpic : Ipic A' ((cup c 4 (c 4 + 1)) 9) ((cup c 4 (c 4 + 1)) 1) ((cup c 4 (c 4 + 1)) 0) := Ipic_tr pIpic l9 (hc 1) (hc 0) (fun k q1 q2 => hA k (by omega) (by omega))
  have sIque : Ique A' ((cup c 4 (c 4 + 1)) 10) ((cup c 4 (c 4 + 1)) 1) ((cup c 4 (c 4 + 1)) 0) := Ique_tr pIque l10 (hc 1) (hc 0) (fun k q1 q2 => hA k (by omega) (by omega)) (fun i q => hA _ (by omega) (by omega))
  have sIact : Iact A' (cup c 4 (c 4 + 1)) := Iact_tr pIact l11 rfl (hc 0) (fun _ => kof_w (hc 3) (hc 4) (hc 7) (hc 8) (hc 10)) (fun k q1 q2 => hA k (by omega) (by omega))
  have sIcld : Icld A' ((cup c 4 (c 4 + 1)) 12) ((cup c 4 (c 4 + 1)) 1) := Icld_tr pIcld l12 (hc 1) (fun k q1 q2 => hA k (by omega) (by omega))
  have sIwat : Iwat A' ((cup c 4 (c 4 + 1)) 13) ((cup c 4 (c 4 + 1)) 1) := Iwat_tr pIwat l13 (hc 1) (fun k q1 q2 => hA k (by omega) (by omega))
  have sRscal : Rscal w' 3 A' := Rscal_tr pRscal (fun j q => hw 3 j (by omega) (by omega) (by omega)) (hA 0 (by omega) (by omega)) (hA 2 (by omega) (by omega)) (fun k q1 q2 => hA k (by omega) (by omega))
  have sRsort : Rsort w' 3 A' := Rsort_tr pRsort (Or.inl rfl) (fun o j q1 q2 q3 => hw (3 + o) j (by omega) (by omega) (by omega)) (fun k q1 q2 => hA k (by omega) (by omega))
  have sRsite : Rsite w' 3 A' := Rsite_tr pRsite (Or.inl rfl) (fun o j q1 q2 q3 => hw (3 + o) j (by omega) (by omega) (by omega)) (hA 1 (by omega) (by omega)) (fun k q1 q2 => hA k (by omega) (by omega))
  have sRthing : Rthing w' 3 A' := by
    refine RT_up (n := c 3) (p_Rthing h) (h_3 h) (by omega) (by omega) (hw 10 0 (by omega) (by omega) (by omega)) (hw 10 2 (by omega) (by omega) (by omega)) (hA 3 (by omega) (by omega)) (fun i j hi hj hcm hv => ?_)
    have hj6 : j ≠ 6 := fun z => by rw [z] at hcm; exact absurd hcm (by decide)
    have hj8 : j ≠ 8 := fun z => by rw [z] at hcm; exact absurd hcm (by decide)
    rw [hw 11 _ (by omega) (by omega) (by omega), hA _ (by omega) (by omega)]
    exact hv
  have sRmove : Rmove w' 3 A' := by
    exact RT_ap (n := c 4) (p_Rmove h) (h_4 h) (by omega) (by omega) (hw 12 0 (by omega) (by omega) (by omega)) e2 (fun j hj => hw 13 j (by omega) (by omega) (by omega)) ec (fun k q1 q2 => hA k (by omega) (by omega)) hv
  have sRseal : Rseal w' 3 A' := Rseal_tr pRseal (Or.inl rfl) (fun o j q1 q2 q3 => hw (3 + o) j (by omega) (by omega) (by omega)) (hA 5 (by omega) (by omega)) (fun k q1 q2 => hA k (by omega) (by omega))
  have sRtold : Rtold w' 3 A' := Rtold_tr pRtold (Or.inl rfl) (fun o j q1 q2 q3 => hw (3 + o) j (by omega) (by omega) (by omega)) (hA 7 (by omega) (by omega)) (fun k q1 q2 => hA k (by omega) (by omega))
  have sRvis : Rvis w' 3 A' := Rvis_tr pRvis (Or.inl rfl) (fun o j q1 q2 q3 => hw (3 + o) j (by omega) (by omega) (by omega)) (hA 8 (by omega) (by omega)) (fun k q1 q2 => hA k (by omega) (by omega))
  have sRpic : Rpic w' 3 A' := Rpic_tr pRpic (Or.inl rfl) (fun o j q1 q2 q3 => hw (3 + o) j (by omega) (by omega) (by omega)) (hA 9 (by omega) (by omega)) (fun k q1 q2 => hA k (by omega) (by omega))
  have sRque : Rque w' 3 A' := Rque_tr pRque (Or.inl rfl) (fun o j q1 q2 q3 => hw (3 + o) j (by omega) (by omega) (by omega)) (hA 10 (by omega) (by omega)) (fun k q1 q2 => hA k (by omega) (by omega))
  have sRact : Ract w' 3 A' := Ract_tr pRact (Or.inl rfl) (fun o j q1 q2 q3 => hw (3 + o) j (by omega) (by omega) (by omega)) (hA 11 (by omega) (by omega)) (fun k q1 q2 => hA k (by omega) (by omega))
  have sRcld : Rcld w' 3 A' := Rcld_tr pRcld (Or.inl rfl) (fun o j q1 q2 q3 => hw (3 + o) j (by omega) (by omega) (by omega)) (hA 12 (by omega) (by omega)) (fun k q1 q2 => hA k (by omega) (by omega))
  have sRwat : Rwat w' 3 A' := Rwat_tr pRwat (Or.inl rfl) (fun o j q1 q2 q3 => hw (3 + o) j (by omega) (by omega) (by omega)) (hA 13 (by omega) (by omega)) (fun k q1 q2 => hA k (by omega) (by omega))
  have sRchain : Rchain w' 3 A' := by
    obtain ⟨nt, nm, g1, g2, g3, g4, g5, g6⟩ := p_Rchain h
    have e3 : nt = c 3 := (nI_eq (by omega) (by omega)).mp (g1.symm.trans (h_3 h))
    have e4 : nm = c 4 := (nI_eq (by omega) (by omega)).mp (g2.symm.trans (h_4 h))
    subst e3; subst e4
    have hm : ∀ m, m < c 4 → A' (720 + 8 * m) = A (720 + 8 * m) := fun m hm => hA _ (by omega) (by omega)
    refine ⟨c 3, c 4 + 1, (hA 3 (by omega) (by omega)).trans g1, ec, g3, by omega, fun t' ht' => ?_, fun m hm' => ?_⟩
    · obtain ⟨e1, e2'⟩ := lmv_tr (t := t') (c 4) g4 hm
      rw [lmv, cmv, e1, e2', et]
      by_cases q : t' = t
      · subst q
        rw [if_pos rfl, if_pos rfl]
        exact ⟨v8, v6⟩
      · have q' : ¬ nI t = nI t' := fun z => q ((nI_eq (by omega) (by omega)).mp z).symm
        rw [if_neg q', if_neg q', hw 11 (t' * 11 + 8) (by omega) (by omega) (by omega), hw 11 (t' * 11 + 6) (by omega) (by omega) (by omega)]
        exact g5 t' ht'
    · by_cases q : m < c 4
      · obtain ⟨t', q1, q2, q3⟩ := g6 m q
        refine ⟨t', q1, (hm m q).trans q2, ?_⟩
        rw [hw 13 (m * 6 + 5) (by omega) (by omega) (by omega), q3]
        exact (lmv_tr m (by omega) (fun j hj => hm j (by omega))).1.symm
      · have e' : m = c 4 := by omega
        subst e'
        refine ⟨t, ht, et, ?_⟩
        rw [(lmv_tr (c 4) g4 hm).1]
        exact v5
  have sRvis2 : Rvis2 w' 3 A' (cup c 4 (c 4 + 1)) := Rvis2_tr pRvis2 ⟨l8, l5, i5⟩ pIvis rfl (fun j q => hw 27 j (by omega) (by omega) (by omega)) (fun k q1 q2 => hA k (by omega) (by omega)) (fun k q1 q2 => hA k (by omega) (by omega))
  have sRact2 : Ract2 w' 3 A' (cup c 4 (c 4 + 1)) := Ract2_tr pRact2 ⟨l11, l3, l4, l7, l8, l10⟩ pIact rfl (fun j q => hw 33 j (by omega) (by omega) (by omega)) (fun k q1 q2 => hA k (by omega) (by omega)) (fun i q => hA _ (by omega) (by omega)) (fun i q => hA _ (by omega) (by omega)) (fun i q => hA _ (by omega) (by omega)) (fun i q => hA _ (by omega) (by omega))
  have sRway : Rway w' 3 A' (cup c 4 (c 4 + 1)) := Rway_tr pRway (Or.inl rfl) ⟨l1, l2⟩ rfl rfl (fun o j q1 q2 q3 => hw (3 + o) j (by omega) (by omega) (by omega)) (fun k q1 q2 => hA k (by omega) (by omega))
  have sRtext : Rtext w' 3 A' (cup c 4 (c 4 + 1)) := Rtext_tr pRtext (Or.inl rfl) l6 rfl (fun o j q1 q2 q3 => hw (3 + o) j (by omega) (by omega) (by omega)) (fun k q1 q2 => hA k (by omega) (by omega))
  exact ⟨⟨z0, z1, sI2, sIsort, sIsite, sIroad, sIthing, sImove, sIseal, sItold, sIvis, sIpic, sIque, sIact, sIcld, sIwat⟩, sRscal, sRsort, sRsite, sRthing, sRmove, sRseal, sRtold, sRvis, sRpic, sRque, sRact, sRcld, sRwat, sRchain, sRvis2, sRact2, sRway, sRtext⟩

theorem P_steps (h : RA w 3 A c K) {t : Nat} (ht : t < c 3) (e7 : vm (A' (240 + 12 * t + 7)) (c 0)) (e8 : vm (A' (240 + 12 * t + 8)) (c 0)) (v5 : w'.1 11 (t * 11 + 5) = A' (240 + 12 * t + 6)) (v9 : w'.1 11 (t * 11 + 9) = A' (240 + 12 * t + 8)) (v10 : w'.1 11 (t * 11 + 10) = A' (240 + 12 * t + 7)) (hw : ∀ b j, 3 ≤ b → b < 38 → ¬ (b = 11 ∧ (j = t * 11 + 5 ∨ j = t * 11 + 9 ∨ j = t * 11 + 10)) → w'.1 b j = w.1 b j) (hA : ∀ k, k < 21000 → ¬ (k = 240 + 12 * t + 6 ∨ k = 240 + 12 * t + 7 ∨ k = 240 + 12 * t + 8) → A' k = A k) : RA w' 3 A' c (K) := by
  have l0 := l_0 h
  have l1 := l_1 h
  have l2 := l_2 h
  have l3 := l_3 h
  have l4 := l_4 h
  have l5 := l_5 h
  have l6 := l_6 h
  have l7 := l_7 h
  have l8 := l_8 h
  have l9 := l_9 h
  have l10 := l_10 h
  have l11 := l_11 h
  have l12 := l_12 h
  have l13 := l_13 h
  have lK := (l_K h).1
  have lK2 := (l_K h).2
  have pI2 := p_I2 h
  have pIsort := p_Isort h
  have pIsite := p_Isite h
  have pIroad := p_Iroad h
  have pImove := p_Imove h
  have pIseal := p_Iseal h
  have pItold := p_Itold h
  have pIvis := p_Ivis h
  have pIpic := p_Ipic h
  have pIque := p_Ique h
  have pIact := p_Iact h
  have pIcld := p_Icld h
  have pIwat := p_Iwat h
  have pRscal := p_Rscal h
  have pRsort := p_Rsort h
  have pRsite := p_Rsite h
  have pRmove := p_Rmove h
  have pRseal := p_Rseal h
  have pRtold := p_Rtold h
  have pRvis := p_Rvis h
  have pRpic := p_Rpic h
  have pRque := p_Rque h
  have pRact := p_Ract h
  have pRcld := p_Rcld h
  have pRwat := p_Rwat h
  have pRvis2 := p_Rvis2 h
  have pRact2 := p_Ract2 h
  have pRway := p_Rway h
  have pRtext := p_Rtext h
  have hc : ∀ i, c i ≤ c i := fun i => by
    exact Nat.le_refl _
  have i5 : c 5 ≤ 40 := l5
  have z0 : I0 A' c := fun i hi => by
    rw [hA i (by omega) (by omega)]; exact p_I0 h i hi
  have z1 : I1 c (K) := ⟨l0, l1, l2, l3, l4, l5, l6, l7, l8, l9, l10, (show c 11 ≤ K from by omega), l12, l13, (show K ≤ 512 from by omega)⟩
  have sI2 : I2 A' := I2_tr pI2 (fun k q1 q2 => hA k (by omega) (by omega))
  have sIsort : Isort A' := Isort_tr pIsort (fun k q1 q2 => hA k (by omega) (by omega))
  have sIsite : Isite A' (c 1) := Isite_tr pIsite l1 (fun k q1 q2 => hA k (by omega) (by omega))
  have sIroad : Iroad A' (c 2) (c 1) := Iroad_tr pIroad l2 (hc 1) (fun k q1 q2 => hA k (by omega) (by omega)) (fun i q => hA _ (by omega) (by omega))
  have sIthing : Ithing A' (c 3) (c 1) (c 0) := by
    refine ⟨fun i hi => ?_, fun i h1 h2 => ?_⟩
    · obtain ⟨x, h1, h2, h3, h4, h5, h6, h7, h8, h9, h10⟩ := (p_Ithing h).1 i hi
      refine ⟨x, ?_⟩
      by_cases q : i = t
      · subst q
        refine ⟨?_, h2, ?_, ?_, ?_, ?_, ?_, ?_, e7, e8⟩
        all_goals simp (disch := omega) only [hA]
        · exact h1
        · exact h3
        · exact h4
        · exact h5
        · exact h6
        · exact h7
        · exact h8
      · simp (disch := omega) only [hA]
        exact ⟨h1, h2, h3, h4, h5, h6, h7, h8, h9, h10⟩
    · rw [hA _ (by omega) (by omega)]
      exact (p_Ithing h).2 i h1 h2
  have sImove : Imove A' (c 4) (c 3) (c 1) (c 0) := Imove_tr pImove l4 (hc 3) (hc 1) (hc 0) (fun k q1 q2 => hA k (by omega) (by omega)) (fun i q => hA _ (by omega) (by omega)) (fun i q => hA _ (by omega) (by omega))
  have sIseal : Iseal A' (c 5) (c 1) (c 0) := Iseal_tr pIseal l5 (hc 1) (hc 0) (fun k q1 q2 => hA k (by omega) (by omega))
  have sItold : Itold A' (c 7) (c 3) (c 1) (c 0) := Itold_tr pItold l7 (hc 3) (hc 1) (hc 0) (fun k q1 q2 => hA k (by omega) (by omega))
  have sIvis : Ivis A' (c 8) (c 1) (c 5) (c 0) := Ivis_tr pIvis l8 (hc 1) (hc 5) (hc 0) (fun k q1 q2 => hA k (by omega) (by omega))
  have sIpic : Ipic A' (c 9) (c 1) (c 0) := Ipic_tr pIpic l9 (hc 1) (hc 0) (fun k q1 q2 => hA k (by omega) (by omega))
  have sIque : Ique A' (c 10) (c 1) (c 0) := Ique_tr pIque l10 (hc 1) (hc 0) (fun k q1 q2 => hA k (by omega) (by omega)) (fun i q => hA _ (by omega) (by omega))
  have sIact : Iact A' c := Iact_tr pIact l11 rfl (hc 0) (fun _ => kof_w (hc 3) (hc 4) (hc 7) (hc 8) (hc 10)) (fun k q1 q2 => hA k (by omega) (by omega))
  have sIcld : Icld A' (c 12) (c 1) := Icld_tr pIcld l12 (hc 1) (fun k q1 q2 => hA k (by omega) (by omega))
  have sIwat : Iwat A' (c 13) (c 1) := Iwat_tr pIwat l13 (hc 1) (fun k q1 q2 => hA k (by omega) (by omega))
  have sRscal : Rscal w' 3 A' := Rscal_tr pRscal (fun j q => hw 3 j (by omega) (by omega) (by omega)) (hA 0 (by omega) (by omega)) (hA 2 (by omega) (by omega)) (fun k q1 q2 => hA k (by omega) (by omega))
  have sRsort : Rsort w' 3 A' := Rsort_tr pRsort (Or.inl rfl) (fun o j q1 q2 q3 => hw (3 + o) j (by omega) (by omega) (by omega)) (fun k q1 q2 => hA k (by omega) (by omega))
  have sRsite : Rsite w' 3 A' := Rsite_tr pRsite (Or.inl rfl) (fun o j q1 q2 q3 => hw (3 + o) j (by omega) (by omega) (by omega)) (hA 1 (by omega) (by omega)) (fun k q1 q2 => hA k (by omega) (by omega))
  have sRthing : Rthing w' 3 A' := by
    refine RT_up (n := c 3) (p_Rthing h) (h_3 h) (by omega) (by omega) (hw 10 0 (by omega) (by omega) (by omega)) (hw 10 2 (by omega) (by omega) (by omega)) (hA 3 (by omega) (by omega)) (fun i j hi hj hcm hv => ?_)
    by_cases q : i = t
    · subst q
      rcases (show j = 0 ∨ j = 1 ∨ j = 2 ∨ j = 3 ∨ j = 4 ∨ j = 5 ∨ j = 6 ∨ j = 7 ∨ j = 8 ∨ j = 9 ∨ j = 10 by omega) with q | q | q | q | q | q | q | q | q | q | q <;> subst q
      · rw [hw 11 _ (by omega) (by omega) (by omega), hv, show cmT 0 = 0 from rfl, hA _ (by omega) (by omega)]
      · rw [hw 11 _ (by omega) (by omega) (by omega), hv, show cmT 1 = 1 from rfl, hA _ (by omega) (by omega)]
      · rw [hw 11 _ (by omega) (by omega) (by omega), hv, show cmT 2 = 2 from rfl, hA _ (by omega) (by omega)]
      · rw [hw 11 _ (by omega) (by omega) (by omega), hv, show cmT 3 = 3 from rfl, hA _ (by omega) (by omega)]
      · rw [hw 11 _ (by omega) (by omega) (by omega), hv, show cmT 4 = 4 from rfl, hA _ (by omega) (by omega)]
      · exact v5
      · exact absurd hcm (by decide)
      · rw [hw 11 _ (by omega) (by omega) (by omega), hv, show cmT 7 = 5 from rfl, hA _ (by omega) (by omega)]
      · exact absurd hcm (by decide)
      · exact v9
      · exact v10
    · rw [hw 11 _ (by omega) (by omega) (by omega), hA _ (by omega) (by omega)]
      exact hv
  have sRmove : Rmove w' 3 A' := Rmove_tr pRmove (Or.inl rfl) (fun o j q1 q2 q3 => hw (3 + o) j (by omega) (by omega) (by omega)) (hA 4 (by omega) (by omega)) (fun k q1 q2 => hA k (by omega) (by omega))
  have sRseal : Rseal w' 3 A' := Rseal_tr pRseal (Or.inl rfl) (fun o j q1 q2 q3 => hw (3 + o) j (by omega) (by omega) (by omega)) (hA 5 (by omega) (by omega)) (fun k q1 q2 => hA k (by omega) (by omega))
  have sRtold : Rtold w' 3 A' := Rtold_tr pRtold (Or.inl rfl) (fun o j q1 q2 q3 => hw (3 + o) j (by omega) (by omega) (by omega)) (hA 7 (by omega) (by omega)) (fun k q1 q2 => hA k (by omega) (by omega))
  have sRvis : Rvis w' 3 A' := Rvis_tr pRvis (Or.inl rfl) (fun o j q1 q2 q3 => hw (3 + o) j (by omega) (by omega) (by omega)) (hA 8 (by omega) (by omega)) (fun k q1 q2 => hA k (by omega) (by omega))
  have sRpic : Rpic w' 3 A' := Rpic_tr pRpic (Or.inl rfl) (fun o j q1 q2 q3 => hw (3 + o) j (by omega) (by omega) (by omega)) (hA 9 (by omega) (by omega)) (fun k q1 q2 => hA k (by omega) (by omega))
  have sRque : Rque w' 3 A' := Rque_tr pRque (Or.inl rfl) (fun o j q1 q2 q3 => hw (3 + o) j (by omega) (by omega) (by omega)) (hA 10 (by omega) (by omega)) (fun k q1 q2 => hA k (by omega) (by omega))
  have sRact : Ract w' 3 A' := Ract_tr pRact (Or.inl rfl) (fun o j q1 q2 q3 => hw (3 + o) j (by omega) (by omega) (by omega)) (hA 11 (by omega) (by omega)) (fun k q1 q2 => hA k (by omega) (by omega))
  have sRcld : Rcld w' 3 A' := Rcld_tr pRcld (Or.inl rfl) (fun o j q1 q2 q3 => hw (3 + o) j (by omega) (by omega) (by omega)) (hA 12 (by omega) (by omega)) (fun k q1 q2 => hA k (by omega) (by omega))
  have sRwat : Rwat w' 3 A' := Rwat_tr pRwat (Or.inl rfl) (fun o j q1 q2 q3 => hw (3 + o) j (by omega) (by omega) (by omega)) (hA 13 (by omega) (by omega)) (fun k q1 q2 => hA k (by omega) (by omega))
  have sRchain : Rchain w' 3 A' := by
    obtain ⟨nt, nm, g1, g2, g3, g4, g5, g6⟩ := p_Rchain h
    have e3 : nt = c 3 := (nI_eq (by omega) (by omega)).mp (g1.symm.trans (h_3 h))
    have e4 : nm = c 4 := (nI_eq (by omega) (by omega)).mp (g2.symm.trans (h_4 h))
    subst e3; subst e4
    have hm : ∀ m, m < c 4 → A' (720 + 8 * m) = A (720 + 8 * m) := fun m hm => hA _ (by omega) (by omega)
    refine ⟨c 3, c 4, (hA 3 (by omega) (by omega)).trans g1, (hA 4 (by omega) (by omega)).trans g2, g3, g4, fun i hi => ?_, fun m hm' => ?_⟩
    · obtain ⟨e1, e2'⟩ := lmv_tr (t := i) (c 4) g4 hm
      rw [e1, e2', hw 11 (i * 11 + 8) (by omega) (by omega) (by omega), hw 11 (i * 11 + 6) (by omega) (by omega) (by omega)]
      exact g5 i hi
    · obtain ⟨t', q1, q2, q3⟩ := g6 m hm'
      refine ⟨t', q1, (hm m hm').trans q2, ?_⟩
      rw [hw 13 (m * 6 + 5) (by omega) (by omega) (by omega), q3]
      exact (lmv_tr m (by omega) (fun j hj => hm j (by omega))).1.symm
  have sRvis2 : Rvis2 w' 3 A' c := Rvis2_tr pRvis2 ⟨l8, l5, i5⟩ pIvis rfl (fun j q => hw 27 j (by omega) (by omega) (by omega)) (fun k q1 q2 => hA k (by omega) (by omega)) (fun k q1 q2 => hA k (by omega) (by omega))
  have sRact2 : Ract2 w' 3 A' c := Ract2_tr pRact2 ⟨l11, l3, l4, l7, l8, l10⟩ pIact rfl (fun j q => hw 33 j (by omega) (by omega) (by omega)) (fun k q1 q2 => hA k (by omega) (by omega)) (fun i q => hA _ (by omega) (by omega)) (fun i q => hA _ (by omega) (by omega)) (fun i q => hA _ (by omega) (by omega)) (fun i q => hA _ (by omega) (by omega))
  have sRway : Rway w' 3 A' c := Rway_tr pRway (Or.inl rfl) ⟨l1, l2⟩ rfl rfl (fun o j q1 q2 q3 => hw (3 + o) j (by omega) (by omega) (by omega)) (fun k q1 q2 => hA k (by omega) (by omega))
  have sRtext : Rtext w' 3 A' c := Rtext_tr pRtext (Or.inl rfl) l6 rfl (fun o j q1 q2 q3 => hw (3 + o) j (by omega) (by omega) (by omega)) (fun k q1 q2 => hA k (by omega) (by omega))
  exact ⟨⟨z0, z1, sI2, sIsort, sIsite, sIroad, sIthing, sImove, sIseal, sItold, sIvis, sIpic, sIque, sIact, sIcld, sIwat⟩, sRscal, sRsort, sRsite, sRthing, sRmove, sRseal, sRtold, sRvis, sRpic, sRque, sRact, sRcld, sRwat, sRchain, sRvis2, sRact2, sRway, sRtext⟩

theorem P_ans (h : RA w 3 A c K) {q : Nat} (hq : q < c 10) (ea : A' (12880 + 4 * q + 3) = nI (c 0)) (v2 : w'.1 31 (q * 3 + 2) = nI (c 0)) (hw : ∀ b j, 3 ≤ b → b < 38 → ¬ (b = 31 ∧ j = q * 3 + 2) → w'.1 b j = w.1 b j) (hA : ∀ k, k < 21000 → ¬ (k = 12880 + 4 * q + 3) → A' k = A k) : RA w' 3 A' c (K) := by
  have l0 := l_0 h
  have l1 := l_1 h
  have l2 := l_2 h
  have l3 := l_3 h
  have l4 := l_4 h
  have l5 := l_5 h
  have l6 := l_6 h
  have l7 := l_7 h
  have l8 := l_8 h
  have l9 := l_9 h
  have l10 := l_10 h
  have l11 := l_11 h
  have l12 := l_12 h
  have l13 := l_13 h
  have lK := (l_K h).1
  have lK2 := (l_K h).2
  have pI2 := p_I2 h
  have pIsort := p_Isort h
  have pIsite := p_Isite h
  have pIroad := p_Iroad h
  have pIthing := p_Ithing h
  have pImove := p_Imove h
  have pIseal := p_Iseal h
  have pItold := p_Itold h
  have pIvis := p_Ivis h
  have pIpic := p_Ipic h
  have pIact := p_Iact h
  have pIcld := p_Icld h
  have pIwat := p_Iwat h
  have pRscal := p_Rscal h
  have pRsort := p_Rsort h
  have pRsite := p_Rsite h
  have pRthing := p_Rthing h
  have pRmove := p_Rmove h
  have pRseal := p_Rseal h
  have pRtold := p_Rtold h
  have pRvis := p_Rvis h
  have pRpic := p_Rpic h
  have pRact := p_Ract h
  have pRcld := p_Rcld h
  have pRwat := p_Rwat h
  have pRchain := p_Rchain h
  have pRvis2 := p_Rvis2 h
  have pRact2 := p_Ract2 h
  have pRway := p_Rway h
  have pRtext := p_Rtext h
  have hc : ∀ i, c i ≤ c i := fun i => by
    exact Nat.le_refl _
  have i5 : c 5 ≤ 40 := l5
  have z0 : I0 A' c := fun i hi => by
    rw [hA i (by omega) (by omega)]; exact p_I0 h i hi
  have z1 : I1 c (K) := ⟨l0, l1, l2, l3, l4, l5, l6, l7, l8, l9, l10, (show c 11 ≤ K from by omega), l12, l13, (show K ≤ 512 from by omega)⟩
  have sI2 : I2 A' := I2_tr pI2 (fun k q1 q2 => hA k (by omega) (by omega))
  have sIsort : Isort A' := Isort_tr pIsort (fun k q1 q2 => hA k (by omega) (by omega))
  have sIsite : Isite A' (c 1) := Isite_tr pIsite l1 (fun k q1 q2 => hA k (by omega) (by omega))
  have sIroad : Iroad A' (c 2) (c 1) := Iroad_tr pIroad l2 (hc 1) (fun k q1 q2 => hA k (by omega) (by omega)) (fun i q => hA _ (by omega) (by omega))
  have sIthing : Ithing A' (c 3) (c 1) (c 0) := Ithing_tr pIthing l3 (hc 1) (hc 0) (fun k q1 q2 => hA k (by omega) (by omega)) (fun i q => hA _ (by omega) (by omega))
  have sImove : Imove A' (c 4) (c 3) (c 1) (c 0) := Imove_tr pImove l4 (hc 3) (hc 1) (hc 0) (fun k q1 q2 => hA k (by omega) (by omega)) (fun i q => hA _ (by omega) (by omega)) (fun i q => hA _ (by omega) (by omega))
  have sIseal : Iseal A' (c 5) (c 1) (c 0) := Iseal_tr pIseal l5 (hc 1) (hc 0) (fun k q1 q2 => hA k (by omega) (by omega))
  have sItold : Itold A' (c 7) (c 3) (c 1) (c 0) := Itold_tr pItold l7 (hc 3) (hc 1) (hc 0) (fun k q1 q2 => hA k (by omega) (by omega))
  have sIvis : Ivis A' (c 8) (c 1) (c 5) (c 0) := Ivis_tr pIvis l8 (hc 1) (hc 5) (hc 0) (fun k q1 q2 => hA k (by omega) (by omega))
  have sIpic : Ipic A' (c 9) (c 1) (c 0) := Ipic_tr pIpic l9 (hc 1) (hc 0) (fun k q1 q2 => hA k (by omega) (by omega))
  have sIque : Ique A' (c 10) (c 1) (c 0) := by
    intro i hi
    obtain ⟨x, y, z, h1, h2, h3, h4, h5, h6, h7, h8⟩ := p_Ique h i hi
    refine ⟨x, y, z, ?_⟩
    by_cases e : i = q
    · subst e
      rw [ea]
      simp (disch := omega) only [hA]
      exact ⟨h1, h2, h3, h4, h5, h6, h7, Or.inr (vb_k rfl (Nat.zero_le _) (Nat.le_refl _))⟩
    · simp (disch := omega) only [hA]
      exact ⟨h1, h2, h3, h4, h5, h6, h7, h8⟩
  have sIact : Iact A' c := Iact_tr pIact l11 rfl (hc 0) (fun _ => kof_w (hc 3) (hc 4) (hc 7) (hc 8) (hc 10)) (fun k q1 q2 => hA k (by omega) (by omega))
  have sIcld : Icld A' (c 12) (c 1) := Icld_tr pIcld l12 (hc 1) (fun k q1 q2 => hA k (by omega) (by omega))
  have sIwat : Iwat A' (c 13) (c 1) := Iwat_tr pIwat l13 (hc 1) (fun k q1 q2 => hA k (by omega) (by omega))
  have sRscal : Rscal w' 3 A' := Rscal_tr pRscal (fun j q => hw 3 j (by omega) (by omega) (by omega)) (hA 0 (by omega) (by omega)) (hA 2 (by omega) (by omega)) (fun k q1 q2 => hA k (by omega) (by omega))
  have sRsort : Rsort w' 3 A' := Rsort_tr pRsort (Or.inl rfl) (fun o j q1 q2 q3 => hw (3 + o) j (by omega) (by omega) (by omega)) (fun k q1 q2 => hA k (by omega) (by omega))
  have sRsite : Rsite w' 3 A' := Rsite_tr pRsite (Or.inl rfl) (fun o j q1 q2 q3 => hw (3 + o) j (by omega) (by omega) (by omega)) (hA 1 (by omega) (by omega)) (fun k q1 q2 => hA k (by omega) (by omega))
  have sRthing : Rthing w' 3 A' := Rthing_tr pRthing (Or.inl rfl) (fun o j q1 q2 q3 => hw (3 + o) j (by omega) (by omega) (by omega)) (hA 3 (by omega) (by omega)) (fun k q1 q2 => hA k (by omega) (by omega))
  have sRmove : Rmove w' 3 A' := Rmove_tr pRmove (Or.inl rfl) (fun o j q1 q2 q3 => hw (3 + o) j (by omega) (by omega) (by omega)) (hA 4 (by omega) (by omega)) (fun k q1 q2 => hA k (by omega) (by omega))
  have sRseal : Rseal w' 3 A' := Rseal_tr pRseal (Or.inl rfl) (fun o j q1 q2 q3 => hw (3 + o) j (by omega) (by omega) (by omega)) (hA 5 (by omega) (by omega)) (fun k q1 q2 => hA k (by omega) (by omega))
  have sRtold : Rtold w' 3 A' := Rtold_tr pRtold (Or.inl rfl) (fun o j q1 q2 q3 => hw (3 + o) j (by omega) (by omega) (by omega)) (hA 7 (by omega) (by omega)) (fun k q1 q2 => hA k (by omega) (by omega))
  have sRvis : Rvis w' 3 A' := Rvis_tr pRvis (Or.inl rfl) (fun o j q1 q2 q3 => hw (3 + o) j (by omega) (by omega) (by omega)) (hA 8 (by omega) (by omega)) (fun k q1 q2 => hA k (by omega) (by omega))
  have sRpic : Rpic w' 3 A' := Rpic_tr pRpic (Or.inl rfl) (fun o j q1 q2 q3 => hw (3 + o) j (by omega) (by omega) (by omega)) (hA 9 (by omega) (by omega)) (fun k q1 q2 => hA k (by omega) (by omega))
  have sRque : Rque w' 3 A' := by
    refine RT_up (n := c 10) (p_Rque h) (h_10 h) (by omega) (by omega) (hw 30 0 (by omega) (by omega) (by omega)) (hw 30 2 (by omega) (by omega) (by omega)) (hA 10 (by omega) (by omega)) (fun i j hi hj hcm hv => ?_)
    by_cases e : i = q ∧ j = 2
    · obtain ⟨e1, e2⟩ := e
      subst e1; subst e2
      exact v2.trans ea.symm
    · have hcj : cmQ j = 3 → j = 2 := fun z => by
        rcases (show j = 0 ∨ j = 1 ∨ j = 2 by omega) with q | q | q <;> subst q
        · exact absurd z (by decide)
        · exact absurd z (by decide)
        · rfl
      rw [hw 31 _ (by omega) (by omega) (by omega), hA _ (by omega) (by omega)]
      exact hv
  have sRact : Ract w' 3 A' := Ract_tr pRact (Or.inl rfl) (fun o j q1 q2 q3 => hw (3 + o) j (by omega) (by omega) (by omega)) (hA 11 (by omega) (by omega)) (fun k q1 q2 => hA k (by omega) (by omega))
  have sRcld : Rcld w' 3 A' := Rcld_tr pRcld (Or.inl rfl) (fun o j q1 q2 q3 => hw (3 + o) j (by omega) (by omega) (by omega)) (hA 12 (by omega) (by omega)) (fun k q1 q2 => hA k (by omega) (by omega))
  have sRwat : Rwat w' 3 A' := Rwat_tr pRwat (Or.inl rfl) (fun o j q1 q2 q3 => hw (3 + o) j (by omega) (by omega) (by omega)) (hA 13 (by omega) (by omega)) (fun k q1 q2 => hA k (by omega) (by omega))
  have sRchain : Rchain w' 3 A' := Rchain_tr pRchain (fun o j q1 q2 q3 q4 => hw (3 + o) j (by omega) (by omega) (by omega)) (hA 3 (by omega) (by omega)) (hA 4 (by omega) (by omega)) (fun m q => hA _ (by omega) (by omega))
  have sRvis2 : Rvis2 w' 3 A' c := Rvis2_tr pRvis2 ⟨l8, l5, i5⟩ pIvis rfl (fun j q => hw 27 j (by omega) (by omega) (by omega)) (fun k q1 q2 => hA k (by omega) (by omega)) (fun k q1 q2 => hA k (by omega) (by omega))
  have sRact2 : Ract2 w' 3 A' c := Ract2_tr pRact2 ⟨l11, l3, l4, l7, l8, l10⟩ pIact rfl (fun j q => hw 33 j (by omega) (by omega) (by omega)) (fun k q1 q2 => hA k (by omega) (by omega)) (fun i q => hA _ (by omega) (by omega)) (fun i q => hA _ (by omega) (by omega)) (fun i q => hA _ (by omega) (by omega)) (fun i q => hA _ (by omega) (by omega))
  have sRway : Rway w' 3 A' c := Rway_tr pRway (Or.inl rfl) ⟨l1, l2⟩ rfl rfl (fun o j q1 q2 q3 => hw (3 + o) j (by omega) (by omega) (by omega)) (fun k q1 q2 => hA k (by omega) (by omega))
  have sRtext : Rtext w' 3 A' c := Rtext_tr pRtext (Or.inl rfl) l6 rfl (fun o j q1 q2 q3 => hw (3 + o) j (by omega) (by omega) (by omega)) (fun k q1 q2 => hA k (by omega) (by omega))
  exact ⟨⟨z0, z1, sI2, sIsort, sIsite, sIroad, sIthing, sImove, sIseal, sItold, sIvis, sIpic, sIque, sIact, sIcld, sIwat⟩, sRscal, sRsort, sRsite, sRthing, sRmove, sRseal, sRtold, sRvis, sRpic, sRque, sRact, sRcld, sRwat, sRchain, sRvis2, sRact2, sRway, sRtext⟩

theorem P_chance (h : RA w 3 A c K) {s : Nat} (hs : s < c 1) (ea : vb (A' (40 + 8 * s + 4)) 1 50) (v4 : w'.1 7 (s * 5 + 4) = A' (40 + 8 * s + 4)) (hw : ∀ b j, 3 ≤ b → b < 38 → ¬ (b = 7 ∧ j = s * 5 + 4) → w'.1 b j = w.1 b j) (hA : ∀ k, k < 21000 → ¬ (k = 40 + 8 * s + 4) → A' k = A k) : RA w' 3 A' c (K) := by
  have l0 := l_0 h
  have l1 := l_1 h
  have l2 := l_2 h
  have l3 := l_3 h
  have l4 := l_4 h
  have l5 := l_5 h
  have l6 := l_6 h
  have l7 := l_7 h
  have l8 := l_8 h
  have l9 := l_9 h
  have l10 := l_10 h
  have l11 := l_11 h
  have l12 := l_12 h
  have l13 := l_13 h
  have lK := (l_K h).1
  have lK2 := (l_K h).2
  have pI2 := p_I2 h
  have pIsort := p_Isort h
  have pIroad := p_Iroad h
  have pIthing := p_Ithing h
  have pImove := p_Imove h
  have pIseal := p_Iseal h
  have pItold := p_Itold h
  have pIvis := p_Ivis h
  have pIpic := p_Ipic h
  have pIque := p_Ique h
  have pIact := p_Iact h
  have pIcld := p_Icld h
  have pIwat := p_Iwat h
  have pRscal := p_Rscal h
  have pRsort := p_Rsort h
  have pRthing := p_Rthing h
  have pRmove := p_Rmove h
  have pRseal := p_Rseal h
  have pRtold := p_Rtold h
  have pRvis := p_Rvis h
  have pRpic := p_Rpic h
  have pRque := p_Rque h
  have pRact := p_Ract h
  have pRcld := p_Rcld h
  have pRwat := p_Rwat h
  have pRchain := p_Rchain h
  have pRvis2 := p_Rvis2 h
  have pRact2 := p_Ract2 h
  have pRway := p_Rway h
  have pRtext := p_Rtext h
  have hc : ∀ i, c i ≤ c i := fun i => by
    exact Nat.le_refl _
  have i5 : c 5 ≤ 40 := l5
  have z0 : I0 A' c := fun i hi => by
    rw [hA i (by omega) (by omega)]; exact p_I0 h i hi
  have z1 : I1 c (K) := ⟨l0, l1, l2, l3, l4, l5, l6, l7, l8, l9, l10, (show c 11 ≤ K from by omega), l12, l13, (show K ≤ 512 from by omega)⟩
  have sI2 : I2 A' := I2_tr pI2 (fun k q1 q2 => hA k (by omega) (by omega))
  have sIsort : Isort A' := Isort_tr pIsort (fun k q1 q2 => hA k (by omega) (by omega))
  have sIsite : Isite A' (c 1) := by
    intro i hi
    have h1 := p_Isite h i hi
    by_cases e : i = s
    · subst e
      refine ⟨?_, ?_, ?_, ?_, ea⟩
      all_goals simp (disch := omega) only [hA]
      · exact h1.1
      · exact h1.2.1
      · exact h1.2.2.1
      · exact h1.2.2.2.1
    · simp (disch := omega) only [hA]
      exact h1
  have sIroad : Iroad A' (c 2) (c 1) := Iroad_tr pIroad l2 (hc 1) (fun k q1 q2 => hA k (by omega) (by omega)) (fun i q => hA _ (by omega) (by omega))
  have sIthing : Ithing A' (c 3) (c 1) (c 0) := Ithing_tr pIthing l3 (hc 1) (hc 0) (fun k q1 q2 => hA k (by omega) (by omega)) (fun i q => hA _ (by omega) (by omega))
  have sImove : Imove A' (c 4) (c 3) (c 1) (c 0) := Imove_tr pImove l4 (hc 3) (hc 1) (hc 0) (fun k q1 q2 => hA k (by omega) (by omega)) (fun i q => hA _ (by omega) (by omega)) (fun i q => hA _ (by omega) (by omega))
  have sIseal : Iseal A' (c 5) (c 1) (c 0) := Iseal_tr pIseal l5 (hc 1) (hc 0) (fun k q1 q2 => hA k (by omega) (by omega))
  have sItold : Itold A' (c 7) (c 3) (c 1) (c 0) := Itold_tr pItold l7 (hc 3) (hc 1) (hc 0) (fun k q1 q2 => hA k (by omega) (by omega))
  have sIvis : Ivis A' (c 8) (c 1) (c 5) (c 0) := Ivis_tr pIvis l8 (hc 1) (hc 5) (hc 0) (fun k q1 q2 => hA k (by omega) (by omega))
  have sIpic : Ipic A' (c 9) (c 1) (c 0) := Ipic_tr pIpic l9 (hc 1) (hc 0) (fun k q1 q2 => hA k (by omega) (by omega))
  have sIque : Ique A' (c 10) (c 1) (c 0) := Ique_tr pIque l10 (hc 1) (hc 0) (fun k q1 q2 => hA k (by omega) (by omega)) (fun i q => hA _ (by omega) (by omega))
  have sIact : Iact A' c := Iact_tr pIact l11 rfl (hc 0) (fun _ => kof_w (hc 3) (hc 4) (hc 7) (hc 8) (hc 10)) (fun k q1 q2 => hA k (by omega) (by omega))
  have sIcld : Icld A' (c 12) (c 1) := Icld_tr pIcld l12 (hc 1) (fun k q1 q2 => hA k (by omega) (by omega))
  have sIwat : Iwat A' (c 13) (c 1) := Iwat_tr pIwat l13 (hc 1) (fun k q1 q2 => hA k (by omega) (by omega))
  have sRscal : Rscal w' 3 A' := Rscal_tr pRscal (fun j q => hw 3 j (by omega) (by omega) (by omega)) (hA 0 (by omega) (by omega)) (hA 2 (by omega) (by omega)) (fun k q1 q2 => hA k (by omega) (by omega))
  have sRsort : Rsort w' 3 A' := Rsort_tr pRsort (Or.inl rfl) (fun o j q1 q2 q3 => hw (3 + o) j (by omega) (by omega) (by omega)) (fun k q1 q2 => hA k (by omega) (by omega))
  have sRsite : Rsite w' 3 A' := by
    refine RT_up (n := c 1) (p_Rsite h) (h_1 h) (by omega) (by omega) (hw 6 0 (by omega) (by omega) (by omega)) (hw 6 2 (by omega) (by omega) (by omega)) (hA 1 (by omega) (by omega)) (fun i j hi hj hcm hv => ?_)
    rw [show id j = j from rfl] at hv ⊢
    by_cases e : i = s ∧ j = 4
    · obtain ⟨e1, e2⟩ := e
      subst e1; subst e2
      exact v4
    · rw [hw 7 _ (by omega) (by omega) (by omega), hA _ (by omega) (by omega)]
      exact hv
  have sRthing : Rthing w' 3 A' := Rthing_tr pRthing (Or.inl rfl) (fun o j q1 q2 q3 => hw (3 + o) j (by omega) (by omega) (by omega)) (hA 3 (by omega) (by omega)) (fun k q1 q2 => hA k (by omega) (by omega))
  have sRmove : Rmove w' 3 A' := Rmove_tr pRmove (Or.inl rfl) (fun o j q1 q2 q3 => hw (3 + o) j (by omega) (by omega) (by omega)) (hA 4 (by omega) (by omega)) (fun k q1 q2 => hA k (by omega) (by omega))
  have sRseal : Rseal w' 3 A' := Rseal_tr pRseal (Or.inl rfl) (fun o j q1 q2 q3 => hw (3 + o) j (by omega) (by omega) (by omega)) (hA 5 (by omega) (by omega)) (fun k q1 q2 => hA k (by omega) (by omega))
  have sRtold : Rtold w' 3 A' := Rtold_tr pRtold (Or.inl rfl) (fun o j q1 q2 q3 => hw (3 + o) j (by omega) (by omega) (by omega)) (hA 7 (by omega) (by omega)) (fun k q1 q2 => hA k (by omega) (by omega))
  have sRvis : Rvis w' 3 A' := Rvis_tr pRvis (Or.inl rfl) (fun o j q1 q2 q3 => hw (3 + o) j (by omega) (by omega) (by omega)) (hA 8 (by omega) (by omega)) (fun k q1 q2 => hA k (by omega) (by omega))
  have sRpic : Rpic w' 3 A' := Rpic_tr pRpic (Or.inl rfl) (fun o j q1 q2 q3 => hw (3 + o) j (by omega) (by omega) (by omega)) (hA 9 (by omega) (by omega)) (fun k q1 q2 => hA k (by omega) (by omega))
  have sRque : Rque w' 3 A' := Rque_tr pRque (Or.inl rfl) (fun o j q1 q2 q3 => hw (3 + o) j (by omega) (by omega) (by omega)) (hA 10 (by omega) (by omega)) (fun k q1 q2 => hA k (by omega) (by omega))
  have sRact : Ract w' 3 A' := Ract_tr pRact (Or.inl rfl) (fun o j q1 q2 q3 => hw (3 + o) j (by omega) (by omega) (by omega)) (hA 11 (by omega) (by omega)) (fun k q1 q2 => hA k (by omega) (by omega))
  have sRcld : Rcld w' 3 A' := Rcld_tr pRcld (Or.inl rfl) (fun o j q1 q2 q3 => hw (3 + o) j (by omega) (by omega) (by omega)) (hA 12 (by omega) (by omega)) (fun k q1 q2 => hA k (by omega) (by omega))
  have sRwat : Rwat w' 3 A' := Rwat_tr pRwat (Or.inl rfl) (fun o j q1 q2 q3 => hw (3 + o) j (by omega) (by omega) (by omega)) (hA 13 (by omega) (by omega)) (fun k q1 q2 => hA k (by omega) (by omega))
  have sRchain : Rchain w' 3 A' := Rchain_tr pRchain (fun o j q1 q2 q3 q4 => hw (3 + o) j (by omega) (by omega) (by omega)) (hA 3 (by omega) (by omega)) (hA 4 (by omega) (by omega)) (fun m q => hA _ (by omega) (by omega))
  have sRvis2 : Rvis2 w' 3 A' c := Rvis2_tr pRvis2 ⟨l8, l5, i5⟩ pIvis rfl (fun j q => hw 27 j (by omega) (by omega) (by omega)) (fun k q1 q2 => hA k (by omega) (by omega)) (fun k q1 q2 => hA k (by omega) (by omega))
  have sRact2 : Ract2 w' 3 A' c := Ract2_tr pRact2 ⟨l11, l3, l4, l7, l8, l10⟩ pIact rfl (fun j q => hw 33 j (by omega) (by omega) (by omega)) (fun k q1 q2 => hA k (by omega) (by omega)) (fun i q => hA _ (by omega) (by omega)) (fun i q => hA _ (by omega) (by omega)) (fun i q => hA _ (by omega) (by omega)) (fun i q => hA _ (by omega) (by omega))
  have sRway : Rway w' 3 A' c := Rway_tr pRway (Or.inl rfl) ⟨l1, l2⟩ rfl rfl (fun o j q1 q2 q3 => hw (3 + o) j (by omega) (by omega) (by omega)) (fun k q1 q2 => hA k (by omega) (by omega))
  have sRtext : Rtext w' 3 A' c := Rtext_tr pRtext (Or.inl rfl) l6 rfl (fun o j q1 q2 q3 => hw (3 + o) j (by omega) (by omega) (by omega)) (fun k q1 q2 => hA k (by omega) (by omega))
  exact ⟨⟨z0, z1, sI2, sIsort, sIsite, sIroad, sIthing, sImove, sIseal, sItold, sIvis, sIpic, sIque, sIact, sIcld, sIwat⟩, sRscal, sRsort, sRsite, sRthing, sRmove, sRseal, sRtold, sRvis, sRpic, sRque, sRact, sRcld, sRwat, sRchain, sRvis2, sRact2, sRway, sRtext⟩

theorem P_sort (h : RA w 3 A c K) {s : Nat} (hs : s < 4) (e0 : vb (A' (20 + 4 * s)) 1 200) (e1 : vb (A' (20 + 4 * s + 1)) 1 200) (e2 : vb (A' (20 + 4 * s + 2)) 1 500) (e3 : vb (A' (20 + 4 * s + 3)) 1 500) (v : ∀ j, j < 4 → w'.1 5 (s * 4 + j) = A' (20 + 4 * s + j)) (hw : ∀ b j, 3 ≤ b → b < 38 → ¬ (b = 5 ∧ s * 4 ≤ j ∧ j < s * 4 + 4) → w'.1 b j = w.1 b j) (hA : ∀ k, k < 21000 → ¬ (20 + 4 * s ≤ k ∧ k < 20 + 4 * s + 4) → A' k = A k) : RA w' 3 A' c (K) := by
  have l0 := l_0 h
  have l1 := l_1 h
  have l2 := l_2 h
  have l3 := l_3 h
  have l4 := l_4 h
  have l5 := l_5 h
  have l6 := l_6 h
  have l7 := l_7 h
  have l8 := l_8 h
  have l9 := l_9 h
  have l10 := l_10 h
  have l11 := l_11 h
  have l12 := l_12 h
  have l13 := l_13 h
  have lK := (l_K h).1
  have lK2 := (l_K h).2
  have pI2 := p_I2 h
  have pIsite := p_Isite h
  have pIroad := p_Iroad h
  have pIthing := p_Ithing h
  have pImove := p_Imove h
  have pIseal := p_Iseal h
  have pItold := p_Itold h
  have pIvis := p_Ivis h
  have pIpic := p_Ipic h
  have pIque := p_Ique h
  have pIact := p_Iact h
  have pIcld := p_Icld h
  have pIwat := p_Iwat h
  have pRscal := p_Rscal h
  have pRsite := p_Rsite h
  have pRthing := p_Rthing h
  have pRmove := p_Rmove h
  have pRseal := p_Rseal h
  have pRtold := p_Rtold h
  have pRvis := p_Rvis h
  have pRpic := p_Rpic h
  have pRque := p_Rque h
  have pRact := p_Ract h
  have pRcld := p_Rcld h
  have pRwat := p_Rwat h
  have pRchain := p_Rchain h
  have pRvis2 := p_Rvis2 h
  have pRact2 := p_Ract2 h
  have pRway := p_Rway h
  have pRtext := p_Rtext h
  have hc : ∀ i, c i ≤ c i := fun i => by
    exact Nat.le_refl _
  have i5 : c 5 ≤ 40 := l5
  have z0 : I0 A' c := fun i hi => by
    rw [hA i (by omega) (by omega)]; exact p_I0 h i hi
  have z1 : I1 c (K) := ⟨l0, l1, l2, l3, l4, l5, l6, l7, l8, l9, l10, (show c 11 ≤ K from by omega), l12, l13, (show K ≤ 512 from by omega)⟩
  have sI2 : I2 A' := I2_tr pI2 (fun k q1 q2 => hA k (by omega) (by omega))
  have sIsort : Isort A' := by
    intro i hi
    by_cases e : i = s
    · subst e; exact ⟨e0, e1, e2, e3⟩
    · simp (disch := omega) only [hA]
      exact p_Isort h i hi
  have sIsite : Isite A' (c 1) := Isite_tr pIsite l1 (fun k q1 q2 => hA k (by omega) (by omega))
  have sIroad : Iroad A' (c 2) (c 1) := Iroad_tr pIroad l2 (hc 1) (fun k q1 q2 => hA k (by omega) (by omega)) (fun i q => hA _ (by omega) (by omega))
  have sIthing : Ithing A' (c 3) (c 1) (c 0) := Ithing_tr pIthing l3 (hc 1) (hc 0) (fun k q1 q2 => hA k (by omega) (by omega)) (fun i q => hA _ (by omega) (by omega))
  have sImove : Imove A' (c 4) (c 3) (c 1) (c 0) := Imove_tr pImove l4 (hc 3) (hc 1) (hc 0) (fun k q1 q2 => hA k (by omega) (by omega)) (fun i q => hA _ (by omega) (by omega)) (fun i q => hA _ (by omega) (by omega))
  have sIseal : Iseal A' (c 5) (c 1) (c 0) := Iseal_tr pIseal l5 (hc 1) (hc 0) (fun k q1 q2 => hA k (by omega) (by omega))
  have sItold : Itold A' (c 7) (c 3) (c 1) (c 0) := Itold_tr pItold l7 (hc 3) (hc 1) (hc 0) (fun k q1 q2 => hA k (by omega) (by omega))
  have sIvis : Ivis A' (c 8) (c 1) (c 5) (c 0) := Ivis_tr pIvis l8 (hc 1) (hc 5) (hc 0) (fun k q1 q2 => hA k (by omega) (by omega))
  have sIpic : Ipic A' (c 9) (c 1) (c 0) := Ipic_tr pIpic l9 (hc 1) (hc 0) (fun k q1 q2 => hA k (by omega) (by omega))
  have sIque : Ique A' (c 10) (c 1) (c 0) := Ique_tr pIque l10 (hc 1) (hc 0) (fun k q1 q2 => hA k (by omega) (by omega)) (fun i q => hA _ (by omega) (by omega))
  have sIact : Iact A' c := Iact_tr pIact l11 rfl (hc 0) (fun _ => kof_w (hc 3) (hc 4) (hc 7) (hc 8) (hc 10)) (fun k q1 q2 => hA k (by omega) (by omega))
  have sIcld : Icld A' (c 12) (c 1) := Icld_tr pIcld l12 (hc 1) (fun k q1 q2 => hA k (by omega) (by omega))
  have sIwat : Iwat A' (c 13) (c 1) := Iwat_tr pIwat l13 (hc 1) (fun k q1 q2 => hA k (by omega) (by omega))
  have sRscal : Rscal w' 3 A' := Rscal_tr pRscal (fun j q => hw 3 j (by omega) (by omega) (by omega)) (hA 0 (by omega) (by omega)) (hA 2 (by omega) (by omega)) (fun k q1 q2 => hA k (by omega) (by omega))
  have sRsort : Rsort w' 3 A' := by
    refine ⟨JR_tr (p_Rsort h).1 (sb_s (o := 1) (Or.inl rfl) (by decide) (by decide)) (hw 4 0 (by omega) (by omega) (by omega)) (hw 4 2 (by omega) (by omega) (by omega)), fun i j hi hj => ?_⟩
    show w'.1 5 (i * 4 + j) = _
    by_cases e : i = s
    · subst e; exact v j hj
    · rw [hw 5 _ (by omega) (by omega) (by omega), hA _ (by omega) (by omega)]
      exact (p_Rsort h).2 i j hi hj
  have sRsite : Rsite w' 3 A' := Rsite_tr pRsite (Or.inl rfl) (fun o j q1 q2 q3 => hw (3 + o) j (by omega) (by omega) (by omega)) (hA 1 (by omega) (by omega)) (fun k q1 q2 => hA k (by omega) (by omega))
  have sRthing : Rthing w' 3 A' := Rthing_tr pRthing (Or.inl rfl) (fun o j q1 q2 q3 => hw (3 + o) j (by omega) (by omega) (by omega)) (hA 3 (by omega) (by omega)) (fun k q1 q2 => hA k (by omega) (by omega))
  have sRmove : Rmove w' 3 A' := Rmove_tr pRmove (Or.inl rfl) (fun o j q1 q2 q3 => hw (3 + o) j (by omega) (by omega) (by omega)) (hA 4 (by omega) (by omega)) (fun k q1 q2 => hA k (by omega) (by omega))
  have sRseal : Rseal w' 3 A' := Rseal_tr pRseal (Or.inl rfl) (fun o j q1 q2 q3 => hw (3 + o) j (by omega) (by omega) (by omega)) (hA 5 (by omega) (by omega)) (fun k q1 q2 => hA k (by omega) (by omega))
  have sRtold : Rtold w' 3 A' := Rtold_tr pRtold (Or.inl rfl) (fun o j q1 q2 q3 => hw (3 + o) j (by omega) (by omega) (by omega)) (hA 7 (by omega) (by omega)) (fun k q1 q2 => hA k (by omega) (by omega))
  have sRvis : Rvis w' 3 A' := Rvis_tr pRvis (Or.inl rfl) (fun o j q1 q2 q3 => hw (3 + o) j (by omega) (by omega) (by omega)) (hA 8 (by omega) (by omega)) (fun k q1 q2 => hA k (by omega) (by omega))
  have sRpic : Rpic w' 3 A' := Rpic_tr pRpic (Or.inl rfl) (fun o j q1 q2 q3 => hw (3 + o) j (by omega) (by omega) (by omega)) (hA 9 (by omega) (by omega)) (fun k q1 q2 => hA k (by omega) (by omega))
  have sRque : Rque w' 3 A' := Rque_tr pRque (Or.inl rfl) (fun o j q1 q2 q3 => hw (3 + o) j (by omega) (by omega) (by omega)) (hA 10 (by omega) (by omega)) (fun k q1 q2 => hA k (by omega) (by omega))
  have sRact : Ract w' 3 A' := Ract_tr pRact (Or.inl rfl) (fun o j q1 q2 q3 => hw (3 + o) j (by omega) (by omega) (by omega)) (hA 11 (by omega) (by omega)) (fun k q1 q2 => hA k (by omega) (by omega))
  have sRcld : Rcld w' 3 A' := Rcld_tr pRcld (Or.inl rfl) (fun o j q1 q2 q3 => hw (3 + o) j (by omega) (by omega) (by omega)) (hA 12 (by omega) (by omega)) (fun k q1 q2 => hA k (by omega) (by omega))
  have sRwat : Rwat w' 3 A' := Rwat_tr pRwat (Or.inl rfl) (fun o j q1 q2 q3 => hw (3 + o) j (by omega) (by omega) (by omega)) (hA 13 (by omega) (by omega)) (fun k q1 q2 => hA k (by omega) (by omega))
  have sRchain : Rchain w' 3 A' := Rchain_tr pRchain (fun o j q1 q2 q3 q4 => hw (3 + o) j (by omega) (by omega) (by omega)) (hA 3 (by omega) (by omega)) (hA 4 (by omega) (by omega)) (fun m q => hA _ (by omega) (by omega))
  have sRvis2 : Rvis2 w' 3 A' c := Rvis2_tr pRvis2 ⟨l8, l5, i5⟩ pIvis rfl (fun j q => hw 27 j (by omega) (by omega) (by omega)) (fun k q1 q2 => hA k (by omega) (by omega)) (fun k q1 q2 => hA k (by omega) (by omega))
  have sRact2 : Ract2 w' 3 A' c := Ract2_tr pRact2 ⟨l11, l3, l4, l7, l8, l10⟩ pIact rfl (fun j q => hw 33 j (by omega) (by omega) (by omega)) (fun k q1 q2 => hA k (by omega) (by omega)) (fun i q => hA _ (by omega) (by omega)) (fun i q => hA _ (by omega) (by omega)) (fun i q => hA _ (by omega) (by omega)) (fun i q => hA _ (by omega) (by omega))
  have sRway : Rway w' 3 A' c := Rway_tr pRway (Or.inl rfl) ⟨l1, l2⟩ rfl rfl (fun o j q1 q2 q3 => hw (3 + o) j (by omega) (by omega) (by omega)) (fun k q1 q2 => hA k (by omega) (by omega))
  have sRtext : Rtext w' 3 A' c := Rtext_tr pRtext (Or.inl rfl) l6 rfl (fun o j q1 q2 q3 => hw (3 + o) j (by omega) (by omega) (by omega)) (fun k q1 q2 => hA k (by omega) (by omega))
  exact ⟨⟨z0, z1, sI2, sIsort, sIsite, sIroad, sIthing, sImove, sIseal, sItold, sIvis, sIpic, sIque, sIact, sIcld, sIwat⟩, sRscal, sRsort, sRsite, sRthing, sRmove, sRseal, sRtold, sRvis, sRpic, sRque, sRact, sRcld, sRwat, sRchain, sRvis2, sRact2, sRway, sRtext⟩

theorem P_rules (h : RA w 3 A c K) (e0 : vb (A' 14) 0 50) (e1 : vb (A' 15) 0 50) (e2 : vb (A' 16) 1 200) (v1 : w'.1 3 1 = A' 14) (v2 : w'.1 3 2 = A' 15) (v3 : w'.1 3 3 = A' 16) (hw : ∀ b j, 3 ≤ b → b < 38 → ¬ (b = 3 ∧ (j = 1 ∨ j = 2 ∨ j = 3)) → w'.1 b j = w.1 b j) (hA : ∀ k, k < 21000 → ¬ (14 ≤ k ∧ k < 17) → A' k = A k) : RA w' 3 A' c (K) := by
  have l0 := l_0 h
  have l1 := l_1 h
  have l2 := l_2 h
  have l3 := l_3 h
  have l4 := l_4 h
  have l5 := l_5 h
  have l6 := l_6 h
  have l7 := l_7 h
  have l8 := l_8 h
  have l9 := l_9 h
  have l10 := l_10 h
  have l11 := l_11 h
  have l12 := l_12 h
  have l13 := l_13 h
  have lK := (l_K h).1
  have lK2 := (l_K h).2
  have pIsort := p_Isort h
  have pIsite := p_Isite h
  have pIroad := p_Iroad h
  have pIthing := p_Ithing h
  have pImove := p_Imove h
  have pIseal := p_Iseal h
  have pItold := p_Itold h
  have pIvis := p_Ivis h
  have pIpic := p_Ipic h
  have pIque := p_Ique h
  have pIact := p_Iact h
  have pIcld := p_Icld h
  have pIwat := p_Iwat h
  have pRsort := p_Rsort h
  have pRsite := p_Rsite h
  have pRthing := p_Rthing h
  have pRmove := p_Rmove h
  have pRseal := p_Rseal h
  have pRtold := p_Rtold h
  have pRvis := p_Rvis h
  have pRpic := p_Rpic h
  have pRque := p_Rque h
  have pRact := p_Ract h
  have pRcld := p_Rcld h
  have pRwat := p_Rwat h
  have pRchain := p_Rchain h
  have pRvis2 := p_Rvis2 h
  have pRact2 := p_Ract2 h
  have pRway := p_Rway h
  have pRtext := p_Rtext h
  have hc : ∀ i, c i ≤ c i := fun i => by
    exact Nat.le_refl _
  have i5 : c 5 ≤ 40 := l5
  have z0 : I0 A' c := fun i hi => by
    rw [hA i (by omega) (by omega)]; exact p_I0 h i hi
  have z1 : I1 c (K) := ⟨l0, l1, l2, l3, l4, l5, l6, l7, l8, l9, l10, (show c 11 ≤ K from by omega), l12, l13, (show K ≤ 512 from by omega)⟩
  have sI2 : I2 A' := by
    exact ⟨e0, e1, e2⟩
  have sIsort : Isort A' := Isort_tr pIsort (fun k q1 q2 => hA k (by omega) (by omega))
  have sIsite : Isite A' (c 1) := Isite_tr pIsite l1 (fun k q1 q2 => hA k (by omega) (by omega))
  have sIroad : Iroad A' (c 2) (c 1) := Iroad_tr pIroad l2 (hc 1) (fun k q1 q2 => hA k (by omega) (by omega)) (fun i q => hA _ (by omega) (by omega))
  have sIthing : Ithing A' (c 3) (c 1) (c 0) := Ithing_tr pIthing l3 (hc 1) (hc 0) (fun k q1 q2 => hA k (by omega) (by omega)) (fun i q => hA _ (by omega) (by omega))
  have sImove : Imove A' (c 4) (c 3) (c 1) (c 0) := Imove_tr pImove l4 (hc 3) (hc 1) (hc 0) (fun k q1 q2 => hA k (by omega) (by omega)) (fun i q => hA _ (by omega) (by omega)) (fun i q => hA _ (by omega) (by omega))
  have sIseal : Iseal A' (c 5) (c 1) (c 0) := Iseal_tr pIseal l5 (hc 1) (hc 0) (fun k q1 q2 => hA k (by omega) (by omega))
  have sItold : Itold A' (c 7) (c 3) (c 1) (c 0) := Itold_tr pItold l7 (hc 3) (hc 1) (hc 0) (fun k q1 q2 => hA k (by omega) (by omega))
  have sIvis : Ivis A' (c 8) (c 1) (c 5) (c 0) := Ivis_tr pIvis l8 (hc 1) (hc 5) (hc 0) (fun k q1 q2 => hA k (by omega) (by omega))
  have sIpic : Ipic A' (c 9) (c 1) (c 0) := Ipic_tr pIpic l9 (hc 1) (hc 0) (fun k q1 q2 => hA k (by omega) (by omega))
  have sIque : Ique A' (c 10) (c 1) (c 0) := Ique_tr pIque l10 (hc 1) (hc 0) (fun k q1 q2 => hA k (by omega) (by omega)) (fun i q => hA _ (by omega) (by omega))
  have sIact : Iact A' c := Iact_tr pIact l11 rfl (hc 0) (fun _ => kof_w (hc 3) (hc 4) (hc 7) (hc 8) (hc 10)) (fun k q1 q2 => hA k (by omega) (by omega))
  have sIcld : Icld A' (c 12) (c 1) := Icld_tr pIcld l12 (hc 1) (fun k q1 q2 => hA k (by omega) (by omega))
  have sIwat : Iwat A' (c 13) (c 1) := Iwat_tr pIwat l13 (hc 1) (fun k q1 q2 => hA k (by omega) (by omega))
  have sRscal : Rscal w' 3 A' := by
    have g := p_Rscal h
    refine ⟨?_, v1, v2, v3, ?_⟩
    · rw [hw 3 0 (by omega) (by omega) (by omega), hA _ (by omega) (by omega)]; exact g.1
    · rw [hw 3 4 (by omega) (by omega) (by omega), hA _ (by omega) (by omega)]; exact g.2.2.2.2
  have sRsort : Rsort w' 3 A' := Rsort_tr pRsort (Or.inl rfl) (fun o j q1 q2 q3 => hw (3 + o) j (by omega) (by omega) (by omega)) (fun k q1 q2 => hA k (by omega) (by omega))
  have sRsite : Rsite w' 3 A' := Rsite_tr pRsite (Or.inl rfl) (fun o j q1 q2 q3 => hw (3 + o) j (by omega) (by omega) (by omega)) (hA 1 (by omega) (by omega)) (fun k q1 q2 => hA k (by omega) (by omega))
  have sRthing : Rthing w' 3 A' := Rthing_tr pRthing (Or.inl rfl) (fun o j q1 q2 q3 => hw (3 + o) j (by omega) (by omega) (by omega)) (hA 3 (by omega) (by omega)) (fun k q1 q2 => hA k (by omega) (by omega))
  have sRmove : Rmove w' 3 A' := Rmove_tr pRmove (Or.inl rfl) (fun o j q1 q2 q3 => hw (3 + o) j (by omega) (by omega) (by omega)) (hA 4 (by omega) (by omega)) (fun k q1 q2 => hA k (by omega) (by omega))
  have sRseal : Rseal w' 3 A' := Rseal_tr pRseal (Or.inl rfl) (fun o j q1 q2 q3 => hw (3 + o) j (by omega) (by omega) (by omega)) (hA 5 (by omega) (by omega)) (fun k q1 q2 => hA k (by omega) (by omega))
  have sRtold : Rtold w' 3 A' := Rtold_tr pRtold (Or.inl rfl) (fun o j q1 q2 q3 => hw (3 + o) j (by omega) (by omega) (by omega)) (hA 7 (by omega) (by omega)) (fun k q1 q2 => hA k (by omega) (by omega))
  have sRvis : Rvis w' 3 A' := Rvis_tr pRvis (Or.inl rfl) (fun o j q1 q2 q3 => hw (3 + o) j (by omega) (by omega) (by omega)) (hA 8 (by omega) (by omega)) (fun k q1 q2 => hA k (by omega) (by omega))
  have sRpic : Rpic w' 3 A' := Rpic_tr pRpic (Or.inl rfl) (fun o j q1 q2 q3 => hw (3 + o) j (by omega) (by omega) (by omega)) (hA 9 (by omega) (by omega)) (fun k q1 q2 => hA k (by omega) (by omega))
  have sRque : Rque w' 3 A' := Rque_tr pRque (Or.inl rfl) (fun o j q1 q2 q3 => hw (3 + o) j (by omega) (by omega) (by omega)) (hA 10 (by omega) (by omega)) (fun k q1 q2 => hA k (by omega) (by omega))
  have sRact : Ract w' 3 A' := Ract_tr pRact (Or.inl rfl) (fun o j q1 q2 q3 => hw (3 + o) j (by omega) (by omega) (by omega)) (hA 11 (by omega) (by omega)) (fun k q1 q2 => hA k (by omega) (by omega))
  have sRcld : Rcld w' 3 A' := Rcld_tr pRcld (Or.inl rfl) (fun o j q1 q2 q3 => hw (3 + o) j (by omega) (by omega) (by omega)) (hA 12 (by omega) (by omega)) (fun k q1 q2 => hA k (by omega) (by omega))
  have sRwat : Rwat w' 3 A' := Rwat_tr pRwat (Or.inl rfl) (fun o j q1 q2 q3 => hw (3 + o) j (by omega) (by omega) (by omega)) (hA 13 (by omega) (by omega)) (fun k q1 q2 => hA k (by omega) (by omega))
  have sRchain : Rchain w' 3 A' := Rchain_tr pRchain (fun o j q1 q2 q3 q4 => hw (3 + o) j (by omega) (by omega) (by omega)) (hA 3 (by omega) (by omega)) (hA 4 (by omega) (by omega)) (fun m q => hA _ (by omega) (by omega))
  have sRvis2 : Rvis2 w' 3 A' c := Rvis2_tr pRvis2 ⟨l8, l5, i5⟩ pIvis rfl (fun j q => hw 27 j (by omega) (by omega) (by omega)) (fun k q1 q2 => hA k (by omega) (by omega)) (fun k q1 q2 => hA k (by omega) (by omega))
  have sRact2 : Ract2 w' 3 A' c := Ract2_tr pRact2 ⟨l11, l3, l4, l7, l8, l10⟩ pIact rfl (fun j q => hw 33 j (by omega) (by omega) (by omega)) (fun k q1 q2 => hA k (by omega) (by omega)) (fun i q => hA _ (by omega) (by omega)) (fun i q => hA _ (by omega) (by omega)) (fun i q => hA _ (by omega) (by omega)) (fun i q => hA _ (by omega) (by omega))
  have sRway : Rway w' 3 A' c := Rway_tr pRway (Or.inl rfl) ⟨l1, l2⟩ rfl rfl (fun o j q1 q2 q3 => hw (3 + o) j (by omega) (by omega) (by omega)) (fun k q1 q2 => hA k (by omega) (by omega))
  have sRtext : Rtext w' 3 A' c := Rtext_tr pRtext (Or.inl rfl) l6 rfl (fun o j q1 q2 q3 => hw (3 + o) j (by omega) (by omega) (by omega)) (fun k q1 q2 => hA k (by omega) (by omega))
  exact ⟨⟨z0, z1, sI2, sIsort, sIsite, sIroad, sIthing, sImove, sIseal, sItold, sIvis, sIpic, sIque, sIact, sIcld, sIwat⟩, sRscal, sRsort, sRsite, sRthing, sRmove, sRseal, sRtold, sRvis, sRpic, sRque, sRact, sRcld, sRwat, sRchain, sRvis2, sRact2, sRway, sRtext⟩

theorem P_days (h : RA w 3 A c K) {d : Nat} (hd : c 0 ≤ d) (hd2 : d ≤ 1999) (ed : A' 0 = nI d) (v0 : w'.1 3 0 = nI d) (hw : ∀ b j, 3 ≤ b → b < 38 → ¬ (b = 3 ∧ j = 0) → w'.1 b j = w.1 b j) (hA : ∀ k, k < 21000 → ¬ (k = 0) → A' k = A k) : RA w' 3 A' (cup c 0 (d)) (K) := by
  have l0 := l_0 h
  have l1 := l_1 h
  have l2 := l_2 h
  have l3 := l_3 h
  have l4 := l_4 h
  have l5 := l_5 h
  have l6 := l_6 h
  have l7 := l_7 h
  have l8 := l_8 h
  have l9 := l_9 h
  have l10 := l_10 h
  have l11 := l_11 h
  have l12 := l_12 h
  have l13 := l_13 h
  have lK := (l_K h).1
  have lK2 := (l_K h).2
  have pI2 := p_I2 h
  have pIsort := p_Isort h
  have pIsite := p_Isite h
  have pIroad := p_Iroad h
  have pIthing := p_Ithing h
  have pImove := p_Imove h
  have pIseal := p_Iseal h
  have pItold := p_Itold h
  have pIvis := p_Ivis h
  have pIpic := p_Ipic h
  have pIque := p_Ique h
  have pIact := p_Iact h
  have pIcld := p_Icld h
  have pIwat := p_Iwat h
  have pRsort := p_Rsort h
  have pRsite := p_Rsite h
  have pRthing := p_Rthing h
  have pRmove := p_Rmove h
  have pRseal := p_Rseal h
  have pRtold := p_Rtold h
  have pRvis := p_Rvis h
  have pRpic := p_Rpic h
  have pRque := p_Rque h
  have pRact := p_Ract h
  have pRcld := p_Rcld h
  have pRwat := p_Rwat h
  have pRchain := p_Rchain h
  have pRvis2 := p_Rvis2 h
  have pRact2 := p_Ract2 h
  have pRway := p_Rway h
  have pRtext := p_Rtext h
  have hc : ∀ i, c i ≤ (cup c 0 (d)) i := fun i => by
    unfold cup
    by_cases q0 : i = 0
    · rw [if_pos q0, q0]; omega
    rw [if_neg q0]
    exact Nat.le_refl _
  have i5 : c 5 ≤ 40 := l5
  have z0 : I0 A' (cup c 0 (d)) := fun i hi => by
    unfold cup
    by_cases q0 : i = 0
    · rw [if_pos q0, q0]; exact ed
    rw [if_neg q0]
    rw [hA i (by omega) (by omega)]; exact p_I0 h i hi
  have z1 : I1 (cup c 0 (d)) (K) := ⟨(show d ≤ 1999 from by omega), l1, l2, l3, l4, l5, l6, l7, l8, l9, l10, (show c 11 ≤ K from by omega), l12, l13, (show K ≤ 512 from by omega)⟩
  have sI2 : I2 A' := I2_tr pI2 (fun k q1 q2 => hA k (by omega) (by omega))
  have sIsort : Isort A' := Isort_tr pIsort (fun k q1 q2 => hA k (by omega) (by omega))
  have sIsite : Isite A' ((cup c 0 (d)) 1) := Isite_tr pIsite l1 (fun k q1 q2 => hA k (by omega) (by omega))
  have sIroad : Iroad A' ((cup c 0 (d)) 2) ((cup c 0 (d)) 1) := Iroad_tr pIroad l2 (hc 1) (fun k q1 q2 => hA k (by omega) (by omega)) (fun i q => hA _ (by omega) (by omega))
  have sIthing : Ithing A' ((cup c 0 (d)) 3) ((cup c 0 (d)) 1) ((cup c 0 (d)) 0) := Ithing_tr pIthing l3 (hc 1) (hc 0) (fun k q1 q2 => hA k (by omega) (by omega)) (fun i q => hA _ (by omega) (by omega))
  have sImove : Imove A' ((cup c 0 (d)) 4) ((cup c 0 (d)) 3) ((cup c 0 (d)) 1) ((cup c 0 (d)) 0) := Imove_tr pImove l4 (hc 3) (hc 1) (hc 0) (fun k q1 q2 => hA k (by omega) (by omega)) (fun i q => hA _ (by omega) (by omega)) (fun i q => hA _ (by omega) (by omega))
  have sIseal : Iseal A' ((cup c 0 (d)) 5) ((cup c 0 (d)) 1) ((cup c 0 (d)) 0) := Iseal_tr pIseal l5 (hc 1) (hc 0) (fun k q1 q2 => hA k (by omega) (by omega))
  have sItold : Itold A' ((cup c 0 (d)) 7) ((cup c 0 (d)) 3) ((cup c 0 (d)) 1) ((cup c 0 (d)) 0) := Itold_tr pItold l7 (hc 3) (hc 1) (hc 0) (fun k q1 q2 => hA k (by omega) (by omega))
  have sIvis : Ivis A' ((cup c 0 (d)) 8) ((cup c 0 (d)) 1) ((cup c 0 (d)) 5) ((cup c 0 (d)) 0) := Ivis_tr pIvis l8 (hc 1) (hc 5) (hc 0) (fun k q1 q2 => hA k (by omega) (by omega))
  have sIpic : Ipic A' ((cup c 0 (d)) 9) ((cup c 0 (d)) 1) ((cup c 0 (d)) 0) := Ipic_tr pIpic l9 (hc 1) (hc 0) (fun k q1 q2 => hA k (by omega) (by omega))
  have sIque : Ique A' ((cup c 0 (d)) 10) ((cup c 0 (d)) 1) ((cup c 0 (d)) 0) := Ique_tr pIque l10 (hc 1) (hc 0) (fun k q1 q2 => hA k (by omega) (by omega)) (fun i q => hA _ (by omega) (by omega))
  have sIact : Iact A' (cup c 0 (d)) := Iact_tr pIact l11 rfl (hc 0) (fun _ => kof_w (hc 3) (hc 4) (hc 7) (hc 8) (hc 10)) (fun k q1 q2 => hA k (by omega) (by omega))
  have sIcld : Icld A' ((cup c 0 (d)) 12) ((cup c 0 (d)) 1) := Icld_tr pIcld l12 (hc 1) (fun k q1 q2 => hA k (by omega) (by omega))
  have sIwat : Iwat A' ((cup c 0 (d)) 13) ((cup c 0 (d)) 1) := Iwat_tr pIwat l13 (hc 1) (fun k q1 q2 => hA k (by omega) (by omega))
  have sRscal : Rscal w' 3 A' := by
    have g := p_Rscal h
    refine ⟨v0.trans ed.symm, ?_, ?_, ?_, ?_⟩
    · rw [hw 3 1 (by omega) (by omega) (by omega), hA _ (by omega) (by omega)]; exact g.2.1
    · rw [hw 3 2 (by omega) (by omega) (by omega), hA _ (by omega) (by omega)]; exact g.2.2.1
    · rw [hw 3 3 (by omega) (by omega) (by omega), hA _ (by omega) (by omega)]; exact g.2.2.2.1
    · rw [hw 3 4 (by omega) (by omega) (by omega), hA _ (by omega) (by omega)]; exact g.2.2.2.2
  have sRsort : Rsort w' 3 A' := Rsort_tr pRsort (Or.inl rfl) (fun o j q1 q2 q3 => hw (3 + o) j (by omega) (by omega) (by omega)) (fun k q1 q2 => hA k (by omega) (by omega))
  have sRsite : Rsite w' 3 A' := Rsite_tr pRsite (Or.inl rfl) (fun o j q1 q2 q3 => hw (3 + o) j (by omega) (by omega) (by omega)) (hA 1 (by omega) (by omega)) (fun k q1 q2 => hA k (by omega) (by omega))
  have sRthing : Rthing w' 3 A' := Rthing_tr pRthing (Or.inl rfl) (fun o j q1 q2 q3 => hw (3 + o) j (by omega) (by omega) (by omega)) (hA 3 (by omega) (by omega)) (fun k q1 q2 => hA k (by omega) (by omega))
  have sRmove : Rmove w' 3 A' := Rmove_tr pRmove (Or.inl rfl) (fun o j q1 q2 q3 => hw (3 + o) j (by omega) (by omega) (by omega)) (hA 4 (by omega) (by omega)) (fun k q1 q2 => hA k (by omega) (by omega))
  have sRseal : Rseal w' 3 A' := Rseal_tr pRseal (Or.inl rfl) (fun o j q1 q2 q3 => hw (3 + o) j (by omega) (by omega) (by omega)) (hA 5 (by omega) (by omega)) (fun k q1 q2 => hA k (by omega) (by omega))
  have sRtold : Rtold w' 3 A' := Rtold_tr pRtold (Or.inl rfl) (fun o j q1 q2 q3 => hw (3 + o) j (by omega) (by omega) (by omega)) (hA 7 (by omega) (by omega)) (fun k q1 q2 => hA k (by omega) (by omega))
  have sRvis : Rvis w' 3 A' := Rvis_tr pRvis (Or.inl rfl) (fun o j q1 q2 q3 => hw (3 + o) j (by omega) (by omega) (by omega)) (hA 8 (by omega) (by omega)) (fun k q1 q2 => hA k (by omega) (by omega))
  have sRpic : Rpic w' 3 A' := Rpic_tr pRpic (Or.inl rfl) (fun o j q1 q2 q3 => hw (3 + o) j (by omega) (by omega) (by omega)) (hA 9 (by omega) (by omega)) (fun k q1 q2 => hA k (by omega) (by omega))
  have sRque : Rque w' 3 A' := Rque_tr pRque (Or.inl rfl) (fun o j q1 q2 q3 => hw (3 + o) j (by omega) (by omega) (by omega)) (hA 10 (by omega) (by omega)) (fun k q1 q2 => hA k (by omega) (by omega))
  have sRact : Ract w' 3 A' := Ract_tr pRact (Or.inl rfl) (fun o j q1 q2 q3 => hw (3 + o) j (by omega) (by omega) (by omega)) (hA 11 (by omega) (by omega)) (fun k q1 q2 => hA k (by omega) (by omega))
  have sRcld : Rcld w' 3 A' := Rcld_tr pRcld (Or.inl rfl) (fun o j q1 q2 q3 => hw (3 + o) j (by omega) (by omega) (by omega)) (hA 12 (by omega) (by omega)) (fun k q1 q2 => hA k (by omega) (by omega))
  have sRwat : Rwat w' 3 A' := Rwat_tr pRwat (Or.inl rfl) (fun o j q1 q2 q3 => hw (3 + o) j (by omega) (by omega) (by omega)) (hA 13 (by omega) (by omega)) (fun k q1 q2 => hA k (by omega) (by omega))
  have sRchain : Rchain w' 3 A' := Rchain_tr pRchain (fun o j q1 q2 q3 q4 => hw (3 + o) j (by omega) (by omega) (by omega)) (hA 3 (by omega) (by omega)) (hA 4 (by omega) (by omega)) (fun m q => hA _ (by omega) (by omega))
  have sRvis2 : Rvis2 w' 3 A' (cup c 0 (d)) := Rvis2_tr pRvis2 ⟨l8, l5, i5⟩ pIvis rfl (fun j q => hw 27 j (by omega) (by omega) (by omega)) (fun k q1 q2 => hA k (by omega) (by omega)) (fun k q1 q2 => hA k (by omega) (by omega))
  have sRact2 : Ract2 w' 3 A' (cup c 0 (d)) := Ract2_tr pRact2 ⟨l11, l3, l4, l7, l8, l10⟩ pIact rfl (fun j q => hw 33 j (by omega) (by omega) (by omega)) (fun k q1 q2 => hA k (by omega) (by omega)) (fun i q => hA _ (by omega) (by omega)) (fun i q => hA _ (by omega) (by omega)) (fun i q => hA _ (by omega) (by omega)) (fun i q => hA _ (by omega) (by omega))
  have sRway : Rway w' 3 A' (cup c 0 (d)) := Rway_tr pRway (Or.inl rfl) ⟨l1, l2⟩ rfl rfl (fun o j q1 q2 q3 => hw (3 + o) j (by omega) (by omega) (by omega)) (fun k q1 q2 => hA k (by omega) (by omega))
  have sRtext : Rtext w' 3 A' (cup c 0 (d)) := Rtext_tr pRtext (Or.inl rfl) l6 rfl (fun o j q1 q2 q3 => hw (3 + o) j (by omega) (by omega) (by omega)) (fun k q1 q2 => hA k (by omega) (by omega))
  exact ⟨⟨z0, z1, sI2, sIsort, sIsite, sIroad, sIthing, sImove, sIseal, sItold, sIvis, sIpic, sIque, sIact, sIcld, sIwat⟩, sRscal, sRsort, sRsite, sRthing, sRmove, sRseal, sRtold, sRvis, sRpic, sRque, sRact, sRcld, sRwat, sRchain, sRvis2, sRact2, sRway, sRtext⟩

/-- no road leads to a site that isn't there yet -/
theorem Wk_new {ns nr i y : Nat} (hr : Iroad A nr ns) (hns : ns ≤ 10) : ∀ n l, Wk A nr i (n + 1) y l → y < ns := by
  intro n l ⟨x, r, d, l', h1, h2, h3, h4, h5, h6, h7, h8⟩
  obtain ⟨x1, y1, d1, g1, g2, g3, g4, g5, g6, g7, g8, g9⟩ := hr r h1
  rcases h6.2 with ⟨q1, q2⟩ | ⟨q1, q2⟩
  · have := (nI_eq (by omega) (by omega)).mp (g2.symm.trans q2)
    omega
  · have := (nI_eq (by omega) (by omega)).mp (g1.symm.trans q1)
    omega
theorem Wk_from {ns nr i y : Nat} (hr : Iroad A nr ns) (hns : ns ≤ 10) (hi : ns ≤ i) : ∀ n l, Wk A nr i n y l → n = 0 ∧ y = i ∧ l = 0 := by
  intro n
  induction n generalizing y with
  | zero => intro l h; exact ⟨rfl, h.1, h.2⟩
  | succ n ih =>
    intro l ⟨x, r, d, l', h1, h2, h3, h4, h5, h6, h7, h8⟩
    obtain ⟨x1, y1, d1, g1, g2, g3, g4, g5, g6, g7, g8, g9⟩ := hr r h1
    obtain ⟨-, e, -⟩ := ih l' h8
    subst e
    rcases h6.2 with ⟨q1, q2⟩ | ⟨q1, q2⟩
    · have := (nI_eq (by omega) (by omega)).mp (g1.symm.trans q1)
      omega
    · have := (nI_eq (by omega) (by omega)).mp (g2.symm.trans q2)
      omega
theorem Dis_new {ns nr i j : Nat} (hr : Iroad A nr ns) (hns : ns ≤ 10) (hi : ns ≤ i) : Dis A nr i j (if j = i then 0 else -1) := by
  by_cases e : j = i
  · rw [if_pos e]
    exact Or.inr ⟨0, rfl, by omega, ⟨0, e, rfl⟩, fun n l' _ => Nat.zero_le _⟩
  · rw [if_neg e]
    exact Or.inl ⟨rfl, fun n l q => e (Wk_from hr hns hi n l q).2.1⟩

theorem P_site (h : RA w 3 A c K) (hn : c 1 < 10) (e2 : w'.1 6 2 = nI (c 1 + 1)) (ec : A' 1 = nI (c 1 + 1)) (hv : ∀ j, j < 5 → id j < 8 → w'.1 7 (c 1 * 5 + j) = A' (40 + 8 * c 1 + id j)) (e0 : vb (A' (40 + 8 * c 1)) 0 1) (e1 : vb (A' (40 + 8 * c 1 + 1)) 0 3) (e2' : vb (A' (40 + 8 * c 1 + 2)) 0 1) (e3 : vb (A' (40 + 8 * c 1 + 3)) 0 1) (e4 : vb (A' (40 + 8 * c 1 + 4)) 1 50) (w2 : w'.1 8 2 = nI (c 1 + 1)) (wv : ∀ j, j < 10 → w'.1 9 (c 1 * 10 + j) = if j = c 1 then 0 else -1) (hw : ∀ b j, 3 ≤ b → b < 38 → ¬ (b = 6 ∧ j = 2 ∨ b = 7 ∧ c 1 * 5 ≤ j ∧ j < c 1 * 5 + 5 ∨ b = 8 ∧ j = 2 ∨ b = 9 ∧ c 1 * 10 ≤ j ∧ j < c 1 * 10 + 10) → w'.1 b j = w.1 b j) (hA : ∀ k, k < 21000 → ¬ (k = 1 ∨ k = 40 + 8 * c 1 ∨ k = 40 + 8 * c 1 + 1 ∨ k = 40 + 8 * c 1 + 2 ∨ k = 40 + 8 * c 1 + 3 ∨ k = 40 + 8 * c 1 + 4) → A' k = A k) : RA w' 3 A' (cup c 1 (c 1 + 1)) (K) := by
  have l0 := l_0 h
  have l1 := l_1 h
  have l2 := l_2 h
  have l3 := l_3 h
  have l4 := l_4 h
  have l5 := l_5 h
  have l6 := l_6 h
  have l7 := l_7 h
  have l8 := l_8 h
  have l9 := l_9 h
  have l10 := l_10 h
  have l11 := l_11 h
  have l12 := l_12 h
  have l13 := l_13 h
  have lK := (l_K h).1
  have lK2 := (l_K h).2
  have pI2 := p_I2 h
  have pIsort := p_Isort h
  have pIroad := p_Iroad h
  have pIthing := p_Ithing h
  have pImove := p_Imove h
  have pIseal := p_Iseal h
  have pItold := p_Itold h
  have pIvis := p_Ivis h
  have pIpic := p_Ipic h
  have pIque := p_Ique h
  have pIact := p_Iact h
  have pIcld := p_Icld h
  have pIwat := p_Iwat h
  have pRscal := p_Rscal h
  have pRsort := p_Rsort h
  have pRthing := p_Rthing h
  have pRmove := p_Rmove h
  have pRseal := p_Rseal h
  have pRtold := p_Rtold h
  have pRvis := p_Rvis h
  have pRpic := p_Rpic h
  have pRque := p_Rque h
  have pRact := p_Ract h
  have pRcld := p_Rcld h
  have pRwat := p_Rwat h
  have pRchain := p_Rchain h
  have pRvis2 := p_Rvis2 h
  have pRact2 := p_Ract2 h
  have pRtext := p_Rtext h
  have hc : ∀ i, c i ≤ (cup c 1 (c 1 + 1)) i := fun i => by
    unfold cup
    by_cases q1 : i = 1
    · rw [if_pos q1, q1]; omega
    rw [if_neg q1]
    exact Nat.le_refl _
  have i5 : c 5 ≤ 40 := l5
  have z0 : I0 A' (cup c 1 (c 1 + 1)) := fun i hi => by
    unfold cup
    by_cases q1 : i = 1
    · rw [if_pos q1, q1]; exact ec
    rw [if_neg q1]
    rw [hA i (by omega) (by omega)]; exact p_I0 h i hi
  have z1 : I1 (cup c 1 (c 1 + 1)) (K) := ⟨l0, (show c 1 + 1 ≤ 10 from by omega), l2, l3, l4, l5, l6, l7, l8, l9, l10, (show c 11 ≤ K from by omega), l12, l13, (show K ≤ 512 from by omega)⟩
  have sI2 : I2 A' := I2_tr pI2 (fun k q1 q2 => hA k (by omega) (by omega))
  have sIsort : Isort A' := Isort_tr pIsort (fun k q1 q2 => hA k (by omega) (by omega))
  have sIsite : Isite A' (c 1 + 1) := by
    intro i hi
    by_cases q : i < c 1
    · have h1 := p_Isite h i q
      simp (disch := omega) only [hA]
      exact h1
    · have e : i = c 1 := by omega
      subst e
      exact ⟨e0, e1, e2', e3, e4⟩
  have sIroad : Iroad A' ((cup c 1 (c 1 + 1)) 2) ((cup c 1 (c 1 + 1)) 1) := Iroad_tr pIroad l2 (hc 1) (fun k q1 q2 => hA k (by omega) (by omega)) (fun i q => hA _ (by omega) (by omega))
  have sIthing : Ithing A' ((cup c 1 (c 1 + 1)) 3) ((cup c 1 (c 1 + 1)) 1) ((cup c 1 (c 1 + 1)) 0) := Ithing_tr pIthing l3 (hc 1) (hc 0) (fun k q1 q2 => hA k (by omega) (by omega)) (fun i q => hA _ (by omega) (by omega))
  have sImove : Imove A' ((cup c 1 (c 1 + 1)) 4) ((cup c 1 (c 1 + 1)) 3) ((cup c 1 (c 1 + 1)) 1) ((cup c 1 (c 1 + 1)) 0) := Imove_tr pImove l4 (hc 3) (hc 1) (hc 0) (fun k q1 q2 => hA k (by omega) (by omega)) (fun i q => hA _ (by omega) (by omega)) (fun i q => hA _ (by omega) (by omega))
  have sIseal : Iseal A' ((cup c 1 (c 1 + 1)) 5) ((cup c 1 (c 1 + 1)) 1) ((cup c 1 (c 1 + 1)) 0) := Iseal_tr pIseal l5 (hc 1) (hc 0) (fun k q1 q2 => hA k (by omega) (by omega))
  have sItold : Itold A' ((cup c 1 (c 1 + 1)) 7) ((cup c 1 (c 1 + 1)) 3) ((cup c 1 (c 1 + 1)) 1) ((cup c 1 (c 1 + 1)) 0) := Itold_tr pItold l7 (hc 3) (hc 1) (hc 0) (fun k q1 q2 => hA k (by omega) (by omega))
  have sIvis : Ivis A' ((cup c 1 (c 1 + 1)) 8) ((cup c 1 (c 1 + 1)) 1) ((cup c 1 (c 1 + 1)) 5) ((cup c 1 (c 1 + 1)) 0) := Ivis_tr pIvis l8 (hc 1) (hc 5) (hc 0) (fun k q1 q2 => hA k (by omega) (by omega))
  have sIpic : Ipic A' ((cup c 1 (c 1 + 1)) 9) ((cup c 1 (c 1 + 1)) 1) ((cup c 1 (c 1 + 1)) 0) := Ipic_tr pIpic l9 (hc 1) (hc 0) (fun k q1 q2 => hA k (by omega) (by omega))
  have sIque : Ique A' ((cup c 1 (c 1 + 1)) 10) ((cup c 1 (c 1 + 1)) 1) ((cup c 1 (c 1 + 1)) 0) := Ique_tr pIque l10 (hc 1) (hc 0) (fun k q1 q2 => hA k (by omega) (by omega)) (fun i q => hA _ (by omega) (by omega))
  have sIact : Iact A' (cup c 1 (c 1 + 1)) := Iact_tr pIact l11 rfl (hc 0) (fun _ => kof_w (hc 3) (hc 4) (hc 7) (hc 8) (hc 10)) (fun k q1 q2 => hA k (by omega) (by omega))
  have sIcld : Icld A' ((cup c 1 (c 1 + 1)) 12) ((cup c 1 (c 1 + 1)) 1) := Icld_tr pIcld l12 (hc 1) (fun k q1 q2 => hA k (by omega) (by omega))
  have sIwat : Iwat A' ((cup c 1 (c 1 + 1)) 13) ((cup c 1 (c 1 + 1)) 1) := Iwat_tr pIwat l13 (hc 1) (fun k q1 q2 => hA k (by omega) (by omega))
  have sRscal : Rscal w' 3 A' := Rscal_tr pRscal (fun j q => hw 3 j (by omega) (by omega) (by omega)) (hA 0 (by omega) (by omega)) (hA 2 (by omega) (by omega)) (fun k q1 q2 => hA k (by omega) (by omega))
  have sRsort : Rsort w' 3 A' := Rsort_tr pRsort (Or.inl rfl) (fun o j q1 q2 q3 => hw (3 + o) j (by omega) (by omega) (by omega)) (fun k q1 q2 => hA k (by omega) (by omega))
  have sRsite : Rsite w' 3 A' := by
    exact RT_ap (n := c 1) (p_Rsite h) (h_1 h) (by omega) (by omega) (hw 6 0 (by omega) (by omega) (by omega)) e2 (fun j hj => hw 7 j (by omega) (by omega) (by omega)) ec (fun k q1 q2 => hA k (by omega) (by omega)) hv
  have sRthing : Rthing w' 3 A' := Rthing_tr pRthing (Or.inl rfl) (fun o j q1 q2 q3 => hw (3 + o) j (by omega) (by omega) (by omega)) (hA 3 (by omega) (by omega)) (fun k q1 q2 => hA k (by omega) (by omega))
  have sRmove : Rmove w' 3 A' := Rmove_tr pRmove (Or.inl rfl) (fun o j q1 q2 q3 => hw (3 + o) j (by omega) (by omega) (by omega)) (hA 4 (by omega) (by omega)) (fun k q1 q2 => hA k (by omega) (by omega))
  have sRseal : Rseal w' 3 A' := Rseal_tr pRseal (Or.inl rfl) (fun o j q1 q2 q3 => hw (3 + o) j (by omega) (by omega) (by omega)) (hA 5 (by omega) (by omega)) (fun k q1 q2 => hA k (by omega) (by omega))
  have sRtold : Rtold w' 3 A' := Rtold_tr pRtold (Or.inl rfl) (fun o j q1 q2 q3 => hw (3 + o) j (by omega) (by omega) (by omega)) (hA 7 (by omega) (by omega)) (fun k q1 q2 => hA k (by omega) (by omega))
  have sRvis : Rvis w' 3 A' := Rvis_tr pRvis (Or.inl rfl) (fun o j q1 q2 q3 => hw (3 + o) j (by omega) (by omega) (by omega)) (hA 8 (by omega) (by omega)) (fun k q1 q2 => hA k (by omega) (by omega))
  have sRpic : Rpic w' 3 A' := Rpic_tr pRpic (Or.inl rfl) (fun o j q1 q2 q3 => hw (3 + o) j (by omega) (by omega) (by omega)) (hA 9 (by omega) (by omega)) (fun k q1 q2 => hA k (by omega) (by omega))
  have sRque : Rque w' 3 A' := Rque_tr pRque (Or.inl rfl) (fun o j q1 q2 q3 => hw (3 + o) j (by omega) (by omega) (by omega)) (hA 10 (by omega) (by omega)) (fun k q1 q2 => hA k (by omega) (by omega))
  have sRact : Ract w' 3 A' := Ract_tr pRact (Or.inl rfl) (fun o j q1 q2 q3 => hw (3 + o) j (by omega) (by omega) (by omega)) (hA 11 (by omega) (by omega)) (fun k q1 q2 => hA k (by omega) (by omega))
  have sRcld : Rcld w' 3 A' := Rcld_tr pRcld (Or.inl rfl) (fun o j q1 q2 q3 => hw (3 + o) j (by omega) (by omega) (by omega)) (hA 12 (by omega) (by omega)) (fun k q1 q2 => hA k (by omega) (by omega))
  have sRwat : Rwat w' 3 A' := Rwat_tr pRwat (Or.inl rfl) (fun o j q1 q2 q3 => hw (3 + o) j (by omega) (by omega) (by omega)) (hA 13 (by omega) (by omega)) (fun k q1 q2 => hA k (by omega) (by omega))
  have sRchain : Rchain w' 3 A' := Rchain_tr pRchain (fun o j q1 q2 q3 q4 => hw (3 + o) j (by omega) (by omega) (by omega)) (hA 3 (by omega) (by omega)) (hA 4 (by omega) (by omega)) (fun m q => hA _ (by omega) (by omega))
  have sRvis2 : Rvis2 w' 3 A' (cup c 1 (c 1 + 1)) := Rvis2_tr pRvis2 ⟨l8, l5, i5⟩ pIvis rfl (fun j q => hw 27 j (by omega) (by omega) (by omega)) (fun k q1 q2 => hA k (by omega) (by omega)) (fun k q1 q2 => hA k (by omega) (by omega))
  have sRact2 : Ract2 w' 3 A' (cup c 1 (c 1 + 1)) := Ract2_tr pRact2 ⟨l11, l3, l4, l7, l8, l10⟩ pIact rfl (fun j q => hw 33 j (by omega) (by omega) (by omega)) (fun k q1 q2 => hA k (by omega) (by omega)) (fun i q => hA _ (by omega) (by omega)) (fun i q => hA _ (by omega) (by omega)) (fun i q => hA _ (by omega) (by omega)) (fun i q => hA _ (by omega) (by omega))
  have sRway : Rway w' 3 A' (cup c 1 (c 1 + 1)) := by
    have g := p_Rway h
    refine ⟨⟨(hw 8 0 (by omega) (by omega) (by omega)).trans g.1.1, w2, hn, g.1.2.2.2⟩, fun i j hi hj => ?_⟩
    have hi' : i < c 1 + 1 := hi
    show Dis A' (c 2) i j (w'.1 9 (i * 10 + j))
    by_cases q : i < c 1
    · rw [hw 9 _ (by omega) (by omega) (by omega)]
      exact Dis_tr (g.2 i j q hj) l2 (fun k q1 q2 => hA k (by omega) (by omega))
    · have e : i = c 1 := by omega
      subst e
      rw [wv j hj]
      exact Dis_tr (Dis_new (p_Iroad h) l1 (Nat.le_refl _)) l2 (fun k q1 q2 => hA k (by omega) (by omega))
  have sRtext : Rtext w' 3 A' (cup c 1 (c 1 + 1)) := Rtext_tr pRtext (Or.inl rfl) l6 rfl (fun o j q1 q2 q3 => hw (3 + o) j (by omega) (by omega) (by omega)) (fun k q1 q2 => hA k (by omega) (by omega))
  exact ⟨⟨z0, z1, sI2, sIsort, sIsite, sIroad, sIthing, sImove, sIseal, sItold, sIvis, sIpic, sIque, sIact, sIcld, sIwat⟩, sRscal, sRsort, sRsite, sRthing, sRmove, sRseal, sRtold, sRvis, sRpic, sRque, sRact, sRcld, sRwat, sRchain, sRvis2, sRact2, sRway, sRtext⟩

theorem P_road (h : RA w 3 A c K) {x y d : Nat} (hx : x < c 1) (hy : y < c 1) (hxy : x ≠ y) (hd : 1 ≤ d) (hd2 : d ≤ 60) (hl : A (40 + 8 * x) = A (40 + 8 * y)) (hn : c 2 < 30) (ec : A' 2 = nI (c 2 + 1)) (ex : A' (120 + 4 * c 2) = nI x) (ey : A' (120 + 4 * c 2 + 1) = nI y) (ed : A' (120 + 4 * c 2 + 2) = nI d) (v4 : w'.1 3 4 = nI (c 2 + 1)) (wv : ∀ i j, i < c 1 → j < 10 → Dis A' (c 2 + 1) i j (w'.1 9 (i * 10 + j))) (hw : ∀ b j, 3 ≤ b → b < 38 → ¬ (b = 3 ∧ j = 4 ∨ b = 9) → w'.1 b j = w.1 b j) (hA : ∀ k, k < 21000 → ¬ (k = 2 ∨ k = 120 + 4 * c 2 ∨ k = 120 + 4 * c 2 + 1 ∨ k = 120 + 4 * c 2 + 2) → A' k = A k) : RA w' 3 A' (cup c 2 (c 2 + 1)) (K) := by
  have l0 := l_0 h
  have l1 := l_1 h
  have l2 := l_2 h
  have l3 := l_3 h
  have l4 := l_4 h
  have l5 := l_5 h
  have l6 := l_6 h
  have l7 := l_7 h
  have l8 := l_8 h
  have l9 := l_9 h
  have l10 := l_10 h
  have l11 := l_11 h
  have l12 := l_12 h
  have l13 := l_13 h
  have lK := (l_K h).1
  have lK2 := (l_K h).2
  have pI2 := p_I2 h
  have pIsort := p_Isort h
  have pIsite := p_Isite h
  have pIthing := p_Ithing h
  have pImove := p_Imove h
  have pIseal := p_Iseal h
  have pItold := p_Itold h
  have pIvis := p_Ivis h
  have pIpic := p_Ipic h
  have pIque := p_Ique h
  have pIact := p_Iact h
  have pIcld := p_Icld h
  have pIwat := p_Iwat h
  have pRsort := p_Rsort h
  have pRsite := p_Rsite h
  have pRthing := p_Rthing h
  have pRmove := p_Rmove h
  have pRseal := p_Rseal h
  have pRtold := p_Rtold h
  have pRvis := p_Rvis h
  have pRpic := p_Rpic h
  have pRque := p_Rque h
  have pRact := p_Ract h
  have pRcld := p_Rcld h
  have pRwat := p_Rwat h
  have pRchain := p_Rchain h
  have pRvis2 := p_Rvis2 h
  have pRact2 := p_Ract2 h
  have pRtext := p_Rtext h
  have hc : ∀ i, c i ≤ (cup c 2 (c 2 + 1)) i := fun i => by
    unfold cup
    by_cases q2 : i = 2
    · rw [if_pos q2, q2]; omega
    rw [if_neg q2]
    exact Nat.le_refl _
  have i5 : c 5 ≤ 40 := l5
  have z0 : I0 A' (cup c 2 (c 2 + 1)) := fun i hi => by
    unfold cup
    by_cases q2 : i = 2
    · rw [if_pos q2, q2]; exact ec
    rw [if_neg q2]
    rw [hA i (by omega) (by omega)]; exact p_I0 h i hi
  have z1 : I1 (cup c 2 (c 2 + 1)) (K) := ⟨l0, l1, (show c 2 + 1 ≤ 30 from by omega), l3, l4, l5, l6, l7, l8, l9, l10, (show c 11 ≤ K from by omega), l12, l13, (show K ≤ 512 from by omega)⟩
  have sI2 : I2 A' := I2_tr pI2 (fun k q1 q2 => hA k (by omega) (by omega))
  have sIsort : Isort A' := Isort_tr pIsort (fun k q1 q2 => hA k (by omega) (by omega))
  have sIsite : Isite A' ((cup c 2 (c 2 + 1)) 1) := Isite_tr pIsite l1 (fun k q1 q2 => hA k (by omega) (by omega))
  have sIroad : Iroad A' (c 2 + 1) (c 1) := by
    intro r hr
    by_cases q : r < c 2
    · obtain ⟨x1, y1, d1, h1, h2, h3, h4, h5, h6, h7, h8, h9⟩ := p_Iroad h r q
      refine ⟨x1, y1, d1, ?_⟩
      simp (disch := omega) only [hA]
      exact ⟨h1, h2, h3, h4, h5, h6, h7, h8, h9⟩
    · have e : r = c 2 := by omega
      subst e
      refine ⟨x, y, d, ex, ey, ed, hx, hy, hxy, hd, hd2, ?_⟩
      rw [hA _ (by omega) (by omega), hA _ (by omega) (by omega)]; exact hl
  have sIthing : Ithing A' ((cup c 2 (c 2 + 1)) 3) ((cup c 2 (c 2 + 1)) 1) ((cup c 2 (c 2 + 1)) 0) := Ithing_tr pIthing l3 (hc 1) (hc 0) (fun k q1 q2 => hA k (by omega) (by omega)) (fun i q => hA _ (by omega) (by omega))
  have sImove : Imove A' ((cup c 2 (c 2 + 1)) 4) ((cup c 2 (c 2 + 1)) 3) ((cup c 2 (c 2 + 1)) 1) ((cup c 2 (c 2 + 1)) 0) := Imove_tr pImove l4 (hc 3) (hc 1) (hc 0) (fun k q1 q2 => hA k (by omega) (by omega)) (fun i q => hA _ (by omega) (by omega)) (fun i q => hA _ (by omega) (by omega))
  have sIseal : Iseal A' ((cup c 2 (c 2 + 1)) 5) ((cup c 2 (c 2 + 1)) 1) ((cup c 2 (c 2 + 1)) 0) := Iseal_tr pIseal l5 (hc 1) (hc 0) (fun k q1 q2 => hA k (by omega) (by omega))
  have sItold : Itold A' ((cup c 2 (c 2 + 1)) 7) ((cup c 2 (c 2 + 1)) 3) ((cup c 2 (c 2 + 1)) 1) ((cup c 2 (c 2 + 1)) 0) := Itold_tr pItold l7 (hc 3) (hc 1) (hc 0) (fun k q1 q2 => hA k (by omega) (by omega))
  have sIvis : Ivis A' ((cup c 2 (c 2 + 1)) 8) ((cup c 2 (c 2 + 1)) 1) ((cup c 2 (c 2 + 1)) 5) ((cup c 2 (c 2 + 1)) 0) := Ivis_tr pIvis l8 (hc 1) (hc 5) (hc 0) (fun k q1 q2 => hA k (by omega) (by omega))
  have sIpic : Ipic A' ((cup c 2 (c 2 + 1)) 9) ((cup c 2 (c 2 + 1)) 1) ((cup c 2 (c 2 + 1)) 0) := Ipic_tr pIpic l9 (hc 1) (hc 0) (fun k q1 q2 => hA k (by omega) (by omega))
  have sIque : Ique A' ((cup c 2 (c 2 + 1)) 10) ((cup c 2 (c 2 + 1)) 1) ((cup c 2 (c 2 + 1)) 0) := Ique_tr pIque l10 (hc 1) (hc 0) (fun k q1 q2 => hA k (by omega) (by omega)) (fun i q => hA _ (by omega) (by omega))
  have sIact : Iact A' (cup c 2 (c 2 + 1)) := Iact_tr pIact l11 rfl (hc 0) (fun _ => kof_w (hc 3) (hc 4) (hc 7) (hc 8) (hc 10)) (fun k q1 q2 => hA k (by omega) (by omega))
  have sIcld : Icld A' ((cup c 2 (c 2 + 1)) 12) ((cup c 2 (c 2 + 1)) 1) := Icld_tr pIcld l12 (hc 1) (fun k q1 q2 => hA k (by omega) (by omega))
  have sIwat : Iwat A' ((cup c 2 (c 2 + 1)) 13) ((cup c 2 (c 2 + 1)) 1) := Iwat_tr pIwat l13 (hc 1) (fun k q1 q2 => hA k (by omega) (by omega))
  have sRscal : Rscal w' 3 A' := by
    have g := p_Rscal h
    refine ⟨?_, ?_, ?_, ?_, v4.trans ec.symm⟩
    · rw [hw 3 0 (by omega) (by omega) (by omega), hA _ (by omega) (by omega)]; exact g.1
    · rw [hw 3 1 (by omega) (by omega) (by omega), hA _ (by omega) (by omega)]; exact g.2.1
    · rw [hw 3 2 (by omega) (by omega) (by omega), hA _ (by omega) (by omega)]; exact g.2.2.1
    · rw [hw 3 3 (by omega) (by omega) (by omega), hA _ (by omega) (by omega)]; exact g.2.2.2.1
  have sRsort : Rsort w' 3 A' := Rsort_tr pRsort (Or.inl rfl) (fun o j q1 q2 q3 => hw (3 + o) j (by omega) (by omega) (by omega)) (fun k q1 q2 => hA k (by omega) (by omega))
  have sRsite : Rsite w' 3 A' := Rsite_tr pRsite (Or.inl rfl) (fun o j q1 q2 q3 => hw (3 + o) j (by omega) (by omega) (by omega)) (hA 1 (by omega) (by omega)) (fun k q1 q2 => hA k (by omega) (by omega))
  have sRthing : Rthing w' 3 A' := Rthing_tr pRthing (Or.inl rfl) (fun o j q1 q2 q3 => hw (3 + o) j (by omega) (by omega) (by omega)) (hA 3 (by omega) (by omega)) (fun k q1 q2 => hA k (by omega) (by omega))
  have sRmove : Rmove w' 3 A' := Rmove_tr pRmove (Or.inl rfl) (fun o j q1 q2 q3 => hw (3 + o) j (by omega) (by omega) (by omega)) (hA 4 (by omega) (by omega)) (fun k q1 q2 => hA k (by omega) (by omega))
  have sRseal : Rseal w' 3 A' := Rseal_tr pRseal (Or.inl rfl) (fun o j q1 q2 q3 => hw (3 + o) j (by omega) (by omega) (by omega)) (hA 5 (by omega) (by omega)) (fun k q1 q2 => hA k (by omega) (by omega))
  have sRtold : Rtold w' 3 A' := Rtold_tr pRtold (Or.inl rfl) (fun o j q1 q2 q3 => hw (3 + o) j (by omega) (by omega) (by omega)) (hA 7 (by omega) (by omega)) (fun k q1 q2 => hA k (by omega) (by omega))
  have sRvis : Rvis w' 3 A' := Rvis_tr pRvis (Or.inl rfl) (fun o j q1 q2 q3 => hw (3 + o) j (by omega) (by omega) (by omega)) (hA 8 (by omega) (by omega)) (fun k q1 q2 => hA k (by omega) (by omega))
  have sRpic : Rpic w' 3 A' := Rpic_tr pRpic (Or.inl rfl) (fun o j q1 q2 q3 => hw (3 + o) j (by omega) (by omega) (by omega)) (hA 9 (by omega) (by omega)) (fun k q1 q2 => hA k (by omega) (by omega))
  have sRque : Rque w' 3 A' := Rque_tr pRque (Or.inl rfl) (fun o j q1 q2 q3 => hw (3 + o) j (by omega) (by omega) (by omega)) (hA 10 (by omega) (by omega)) (fun k q1 q2 => hA k (by omega) (by omega))
  have sRact : Ract w' 3 A' := Ract_tr pRact (Or.inl rfl) (fun o j q1 q2 q3 => hw (3 + o) j (by omega) (by omega) (by omega)) (hA 11 (by omega) (by omega)) (fun k q1 q2 => hA k (by omega) (by omega))
  have sRcld : Rcld w' 3 A' := Rcld_tr pRcld (Or.inl rfl) (fun o j q1 q2 q3 => hw (3 + o) j (by omega) (by omega) (by omega)) (hA 12 (by omega) (by omega)) (fun k q1 q2 => hA k (by omega) (by omega))
  have sRwat : Rwat w' 3 A' := Rwat_tr pRwat (Or.inl rfl) (fun o j q1 q2 q3 => hw (3 + o) j (by omega) (by omega) (by omega)) (hA 13 (by omega) (by omega)) (fun k q1 q2 => hA k (by omega) (by omega))
  have sRchain : Rchain w' 3 A' := Rchain_tr pRchain (fun o j q1 q2 q3 q4 => hw (3 + o) j (by omega) (by omega) (by omega)) (hA 3 (by omega) (by omega)) (hA 4 (by omega) (by omega)) (fun m q => hA _ (by omega) (by omega))
  have sRvis2 : Rvis2 w' 3 A' (cup c 2 (c 2 + 1)) := Rvis2_tr pRvis2 ⟨l8, l5, i5⟩ pIvis rfl (fun j q => hw 27 j (by omega) (by omega) (by omega)) (fun k q1 q2 => hA k (by omega) (by omega)) (fun k q1 q2 => hA k (by omega) (by omega))
  have sRact2 : Ract2 w' 3 A' (cup c 2 (c 2 + 1)) := Ract2_tr pRact2 ⟨l11, l3, l4, l7, l8, l10⟩ pIact rfl (fun j q => hw 33 j (by omega) (by omega) (by omega)) (fun k q1 q2 => hA k (by omega) (by omega)) (fun i q => hA _ (by omega) (by omega)) (fun i q => hA _ (by omega) (by omega)) (fun i q => hA _ (by omega) (by omega)) (fun i q => hA _ (by omega) (by omega))
  have sRway : Rway w' 3 A' (cup c 2 (c 2 + 1)) := by
    have g := p_Rway h
    refine ⟨⟨(hw 8 0 (by omega) (by omega) (by omega)).trans g.1.1, (hw 8 2 (by omega) (by omega) (by omega)).trans g.1.2.1, g.1.2.2⟩, fun i j hi hj => wv i j hi hj⟩
  have sRtext : Rtext w' 3 A' (cup c 2 (c 2 + 1)) := Rtext_tr pRtext (Or.inl rfl) l6 rfl (fun o j q1 q2 q3 => hw (3 + o) j (by omega) (by omega) (by omega)) (fun k q1 q2 => hA k (by omega) (by omega))
  exact ⟨⟨z0, z1, sI2, sIsort, sIsite, sIroad, sIthing, sImove, sIseal, sItold, sIvis, sIpic, sIque, sIact, sIcld, sIwat⟩, sRscal, sRsort, sRsite, sRthing, sRmove, sRseal, sRtold, sRvis, sRpic, sRque, sRact, sRcld, sRwat, sRchain, sRvis2, sRact2, sRway, sRtext⟩

theorem P_text (h : RA w 3 A c K) (hn : c 6 < 10) (ec : A' 6 = nI (c 6 + 1)) (tx : Rtext w' 3 A' (cup c 6 (c 6 + 1))) (hw : ∀ b j, 3 ≤ b → b < 38 → ¬ (17 ≤ b ∧ b ≤ 22) → w'.1 b j = w.1 b j) (hA : ∀ k, k < 21000 → ¬ (k = 6 ∨ 1680 + 800 * c 6 ≤ k ∧ k < 1680 + 800 * c 6 + 800) → A' k = A k) : RA w' 3 A' (cup c 6 (c 6 + 1)) (K) := by
  have l0 := l_0 h
  have l1 := l_1 h
  have l2 := l_2 h
  have l3 := l_3 h
  have l4 := l_4 h
  have l5 := l_5 h
  have l6 := l_6 h
  have l7 := l_7 h
  have l8 := l_8 h
  have l9 := l_9 h
  have l10 := l_10 h
  have l11 := l_11 h
  have l12 := l_12 h
  have l13 := l_13 h
  have lK := (l_K h).1
  have lK2 := (l_K h).2
  have pI2 := p_I2 h
  have pIsort := p_Isort h
  have pIsite := p_Isite h
  have pIroad := p_Iroad h
  have pIthing := p_Ithing h
  have pImove := p_Imove h
  have pIseal := p_Iseal h
  have pItold := p_Itold h
  have pIvis := p_Ivis h
  have pIpic := p_Ipic h
  have pIque := p_Ique h
  have pIact := p_Iact h
  have pIcld := p_Icld h
  have pIwat := p_Iwat h
  have pRscal := p_Rscal h
  have pRsort := p_Rsort h
  have pRsite := p_Rsite h
  have pRthing := p_Rthing h
  have pRmove := p_Rmove h
  have pRseal := p_Rseal h
  have pRtold := p_Rtold h
  have pRvis := p_Rvis h
  have pRpic := p_Rpic h
  have pRque := p_Rque h
  have pRact := p_Ract h
  have pRcld := p_Rcld h
  have pRwat := p_Rwat h
  have pRchain := p_Rchain h
  have pRvis2 := p_Rvis2 h
  have pRact2 := p_Ract2 h
  have pRway := p_Rway h
  have hc : ∀ i, c i ≤ (cup c 6 (c 6 + 1)) i := fun i => by
    unfold cup
    by_cases q6 : i = 6
    · rw [if_pos q6, q6]; omega
    rw [if_neg q6]
    exact Nat.le_refl _
  have i5 : c 5 ≤ 40 := l5
  have z0 : I0 A' (cup c 6 (c 6 + 1)) := fun i hi => by
    unfold cup
    by_cases q6 : i = 6
    · rw [if_pos q6, q6]; exact ec
    rw [if_neg q6]
    rw [hA i (by omega) (by omega)]; exact p_I0 h i hi
  have z1 : I1 (cup c 6 (c 6 + 1)) (K) := ⟨l0, l1, l2, l3, l4, l5, (show c 6 + 1 ≤ 10 from by omega), l7, l8, l9, l10, (show c 11 ≤ K from by omega), l12, l13, (show K ≤ 512 from by omega)⟩
  have sI2 : I2 A' := I2_tr pI2 (fun k q1 q2 => hA k (by omega) (by omega))
  have sIsort : Isort A' := Isort_tr pIsort (fun k q1 q2 => hA k (by omega) (by omega))
  have sIsite : Isite A' ((cup c 6 (c 6 + 1)) 1) := Isite_tr pIsite l1 (fun k q1 q2 => hA k (by omega) (by omega))
  have sIroad : Iroad A' ((cup c 6 (c 6 + 1)) 2) ((cup c 6 (c 6 + 1)) 1) := Iroad_tr pIroad l2 (hc 1) (fun k q1 q2 => hA k (by omega) (by omega)) (fun i q => hA _ (by omega) (by omega))
  have sIthing : Ithing A' ((cup c 6 (c 6 + 1)) 3) ((cup c 6 (c 6 + 1)) 1) ((cup c 6 (c 6 + 1)) 0) := Ithing_tr pIthing l3 (hc 1) (hc 0) (fun k q1 q2 => hA k (by omega) (by omega)) (fun i q => hA _ (by omega) (by omega))
  have sImove : Imove A' ((cup c 6 (c 6 + 1)) 4) ((cup c 6 (c 6 + 1)) 3) ((cup c 6 (c 6 + 1)) 1) ((cup c 6 (c 6 + 1)) 0) := Imove_tr pImove l4 (hc 3) (hc 1) (hc 0) (fun k q1 q2 => hA k (by omega) (by omega)) (fun i q => hA _ (by omega) (by omega)) (fun i q => hA _ (by omega) (by omega))
  have sIseal : Iseal A' ((cup c 6 (c 6 + 1)) 5) ((cup c 6 (c 6 + 1)) 1) ((cup c 6 (c 6 + 1)) 0) := Iseal_tr pIseal l5 (hc 1) (hc 0) (fun k q1 q2 => hA k (by omega) (by omega))
  have sItold : Itold A' ((cup c 6 (c 6 + 1)) 7) ((cup c 6 (c 6 + 1)) 3) ((cup c 6 (c 6 + 1)) 1) ((cup c 6 (c 6 + 1)) 0) := Itold_tr pItold l7 (hc 3) (hc 1) (hc 0) (fun k q1 q2 => hA k (by omega) (by omega))
  have sIvis : Ivis A' ((cup c 6 (c 6 + 1)) 8) ((cup c 6 (c 6 + 1)) 1) ((cup c 6 (c 6 + 1)) 5) ((cup c 6 (c 6 + 1)) 0) := Ivis_tr pIvis l8 (hc 1) (hc 5) (hc 0) (fun k q1 q2 => hA k (by omega) (by omega))
  have sIpic : Ipic A' ((cup c 6 (c 6 + 1)) 9) ((cup c 6 (c 6 + 1)) 1) ((cup c 6 (c 6 + 1)) 0) := Ipic_tr pIpic l9 (hc 1) (hc 0) (fun k q1 q2 => hA k (by omega) (by omega))
  have sIque : Ique A' ((cup c 6 (c 6 + 1)) 10) ((cup c 6 (c 6 + 1)) 1) ((cup c 6 (c 6 + 1)) 0) := Ique_tr pIque l10 (hc 1) (hc 0) (fun k q1 q2 => hA k (by omega) (by omega)) (fun i q => hA _ (by omega) (by omega))
  have sIact : Iact A' (cup c 6 (c 6 + 1)) := Iact_tr pIact l11 rfl (hc 0) (fun _ => kof_w (hc 3) (hc 4) (hc 7) (hc 8) (hc 10)) (fun k q1 q2 => hA k (by omega) (by omega))
  have sIcld : Icld A' ((cup c 6 (c 6 + 1)) 12) ((cup c 6 (c 6 + 1)) 1) := Icld_tr pIcld l12 (hc 1) (fun k q1 q2 => hA k (by omega) (by omega))
  have sIwat : Iwat A' ((cup c 6 (c 6 + 1)) 13) ((cup c 6 (c 6 + 1)) 1) := Iwat_tr pIwat l13 (hc 1) (fun k q1 q2 => hA k (by omega) (by omega))
  have sRscal : Rscal w' 3 A' := Rscal_tr pRscal (fun j q => hw 3 j (by omega) (by omega) (by omega)) (hA 0 (by omega) (by omega)) (hA 2 (by omega) (by omega)) (fun k q1 q2 => hA k (by omega) (by omega))
  have sRsort : Rsort w' 3 A' := Rsort_tr pRsort (Or.inl rfl) (fun o j q1 q2 q3 => hw (3 + o) j (by omega) (by omega) (by omega)) (fun k q1 q2 => hA k (by omega) (by omega))
  have sRsite : Rsite w' 3 A' := Rsite_tr pRsite (Or.inl rfl) (fun o j q1 q2 q3 => hw (3 + o) j (by omega) (by omega) (by omega)) (hA 1 (by omega) (by omega)) (fun k q1 q2 => hA k (by omega) (by omega))
  have sRthing : Rthing w' 3 A' := Rthing_tr pRthing (Or.inl rfl) (fun o j q1 q2 q3 => hw (3 + o) j (by omega) (by omega) (by omega)) (hA 3 (by omega) (by omega)) (fun k q1 q2 => hA k (by omega) (by omega))
  have sRmove : Rmove w' 3 A' := Rmove_tr pRmove (Or.inl rfl) (fun o j q1 q2 q3 => hw (3 + o) j (by omega) (by omega) (by omega)) (hA 4 (by omega) (by omega)) (fun k q1 q2 => hA k (by omega) (by omega))
  have sRseal : Rseal w' 3 A' := Rseal_tr pRseal (Or.inl rfl) (fun o j q1 q2 q3 => hw (3 + o) j (by omega) (by omega) (by omega)) (hA 5 (by omega) (by omega)) (fun k q1 q2 => hA k (by omega) (by omega))
  have sRtold : Rtold w' 3 A' := Rtold_tr pRtold (Or.inl rfl) (fun o j q1 q2 q3 => hw (3 + o) j (by omega) (by omega) (by omega)) (hA 7 (by omega) (by omega)) (fun k q1 q2 => hA k (by omega) (by omega))
  have sRvis : Rvis w' 3 A' := Rvis_tr pRvis (Or.inl rfl) (fun o j q1 q2 q3 => hw (3 + o) j (by omega) (by omega) (by omega)) (hA 8 (by omega) (by omega)) (fun k q1 q2 => hA k (by omega) (by omega))
  have sRpic : Rpic w' 3 A' := Rpic_tr pRpic (Or.inl rfl) (fun o j q1 q2 q3 => hw (3 + o) j (by omega) (by omega) (by omega)) (hA 9 (by omega) (by omega)) (fun k q1 q2 => hA k (by omega) (by omega))
  have sRque : Rque w' 3 A' := Rque_tr pRque (Or.inl rfl) (fun o j q1 q2 q3 => hw (3 + o) j (by omega) (by omega) (by omega)) (hA 10 (by omega) (by omega)) (fun k q1 q2 => hA k (by omega) (by omega))
  have sRact : Ract w' 3 A' := Ract_tr pRact (Or.inl rfl) (fun o j q1 q2 q3 => hw (3 + o) j (by omega) (by omega) (by omega)) (hA 11 (by omega) (by omega)) (fun k q1 q2 => hA k (by omega) (by omega))
  have sRcld : Rcld w' 3 A' := Rcld_tr pRcld (Or.inl rfl) (fun o j q1 q2 q3 => hw (3 + o) j (by omega) (by omega) (by omega)) (hA 12 (by omega) (by omega)) (fun k q1 q2 => hA k (by omega) (by omega))
  have sRwat : Rwat w' 3 A' := Rwat_tr pRwat (Or.inl rfl) (fun o j q1 q2 q3 => hw (3 + o) j (by omega) (by omega) (by omega)) (hA 13 (by omega) (by omega)) (fun k q1 q2 => hA k (by omega) (by omega))
  have sRchain : Rchain w' 3 A' := Rchain_tr pRchain (fun o j q1 q2 q3 q4 => hw (3 + o) j (by omega) (by omega) (by omega)) (hA 3 (by omega) (by omega)) (hA 4 (by omega) (by omega)) (fun m q => hA _ (by omega) (by omega))
  have sRvis2 : Rvis2 w' 3 A' (cup c 6 (c 6 + 1)) := Rvis2_tr pRvis2 ⟨l8, l5, i5⟩ pIvis rfl (fun j q => hw 27 j (by omega) (by omega) (by omega)) (fun k q1 q2 => hA k (by omega) (by omega)) (fun k q1 q2 => hA k (by omega) (by omega))
  have sRact2 : Ract2 w' 3 A' (cup c 6 (c 6 + 1)) := Ract2_tr pRact2 ⟨l11, l3, l4, l7, l8, l10⟩ pIact rfl (fun j q => hw 33 j (by omega) (by omega) (by omega)) (fun k q1 q2 => hA k (by omega) (by omega)) (fun i q => hA _ (by omega) (by omega)) (fun i q => hA _ (by omega) (by omega)) (fun i q => hA _ (by omega) (by omega)) (fun i q => hA _ (by omega) (by omega))
  have sRway : Rway w' 3 A' (cup c 6 (c 6 + 1)) := Rway_tr pRway (Or.inl rfl) ⟨l1, l2⟩ rfl rfl (fun o j q1 q2 q3 => hw (3 + o) j (by omega) (by omega) (by omega)) (fun k q1 q2 => hA k (by omega) (by omega))
  have sRtext : Rtext w' 3 A' (cup c 6 (c 6 + 1)) := by
    exact tx
  exact ⟨⟨z0, z1, sI2, sIsort, sIsite, sIroad, sIthing, sImove, sIseal, sItold, sIvis, sIpic, sIque, sIact, sIcld, sIwat⟩, sRscal, sRsort, sRsite, sRthing, sRmove, sRseal, sRtold, sRvis, sRpic, sRque, sRact, sRcld, sRwat, sRchain, sRvis2, sRact2, sRway, sRtext⟩

end MU


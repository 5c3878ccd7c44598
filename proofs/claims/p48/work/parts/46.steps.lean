/-! LAYER B: steps that keep the relation -/
def cup (c : Nat → Nat) (i n : Nat) : Nat → Nat := fun j => if j = i then n else c j
section MU
variable {w w' : jW} {A A' : Nat → Int32} {c : Nat → Nat} {K : Nat}
theorem RT_ap {R W cap cnt base st n : Nat} {cm : Nat → Nat} (h : RT w R W cap A cnt base st cm) (hn : A cnt = nI n) (hlt : n < cap) (hc3 : cap ≤ 3000) (h0 : w'.1 R 0 = w.1 R 0) (h2 : w'.1 R 2 = nI (n + 1)) (hw : ∀ j, j < n * W → w'.1 (R + 1) j = w.1 (R + 1) j) (hcnt : A' cnt = nI (n + 1)) (hA : ∀ k, base ≤ k → k < base + st * n → A' k = A k) (hnew : ∀ j, j < W → cm j < st → w'.1 (R + 1) (n * W + j) = A' (base + st * n + cm j)) : RT w' R W cap A' cnt base st cm := by
  obtain ⟨n', h1, hj, h3⟩ := h
  have e : n' = n := (nI_eq (by have := hj.2.2.1; omega) (by omega)).mp (h1.symm.trans hn)
  subst e
  refine ⟨n' + 1, hcnt, ⟨h0.trans hj.1, h2, hlt, hj.2.2.2⟩, fun i j hi hj' hcm => ?_⟩
  by_cases q : i = n'
  · subst q; exact hnew j hj' hcm
  · have hi' : i < n' := by omega
    have q1 := Nat.mul_le_mul_right W (show i + 1 ≤ n' by omega)
    have q2 := Nat.mul_le_mul_left st (show i + 1 ≤ n' by omega)
    rw [Nat.succ_mul] at q1
    rw [Nat.mul_succ] at q2
    rw [hw _ (by omega), hA _ (by omega) (by omega)]
    exact h3 i j hi' hj' hcm
theorem RT_up {R W cap cnt base st n : Nat} {cm : Nat → Nat} (h : RT w R W cap A cnt base st cm) (hn : A cnt = nI n) (hn2 : n < 2 ^ 31) (hc3 : cap ≤ 3000) (h0 : w'.1 R 0 = w.1 R 0) (h2 : w'.1 R 2 = w.1 R 2) (hcnt : A' cnt = A cnt) (hv : ∀ i j, i < n → j < W → cm j < st → w.1 (R + 1) (i * W + j) = A (base + st * i + cm j) → w'.1 (R + 1) (i * W + j) = A' (base + st * i + cm j)) : RT w' R W cap A' cnt base st cm := by
  obtain ⟨n', h1, hj, h3⟩ := h
  have e : n' = n := (nI_eq (by have := hj.2.2.1; omega) hn2).mp (h1.symm.trans hn)
  subst e
  exact ⟨n', hcnt.trans h1, ⟨h0.trans hj.1, h2.trans hj.2.1, hj.2.2⟩, fun i j hi hj' hcm => hv i j hi hj' hcm (h3 i j hi hj' hcm)⟩
theorem vb_k {x : Int32} {lo hi n : Nat} (e : x = nI n) (h1 : lo ≤ n) (h2 : n ≤ hi) : vb x lo hi := ⟨n, e, h1, h2⟩

theorem P_seal (h : RA w 3 A c K) {s : Nat} (hs : s < c 1) (hn : c 5 < 40) (e2 : w'.1 14 2 = nI (c 5 + 1)) (ec : A' 5 = nI (c 5 + 1)) (hv : ∀ j, j < 2 → id j < 4 → w'.1 15 (c 5 * 2 + j) = A' (1520 + 4 * c 5 + id j)) (es : A' (1520 + 4 * c 5) = nI s) (ed : A' (1520 + 4 * c 5 + 1) = nI (c 0)) (hw : ∀ b j, 3 ≤ b → b < 38 → ¬ (b = 14 ∧ j = 2 ∨ b = 15 ∧ c 5 * 2 ≤ j ∧ j < c 5 * 2 + 2) → w'.1 b j = w.1 b j) (hA : ∀ k, k < 21000 → ¬ (k = 5 ∨ k = 1520 + 4 * c 5 ∨ k = 1520 + 4 * c 5 + 1) → A' k = A k) : RA w' 3 A' (cup c 5 (c 5 + 1)) (K) := by
  have l0 := l_0 h
  have l1 := l_1 h
  have l2 := l_2 h
  have l3 := l_3 h
  have l4 := l_4 h
  have l5 := l_5 h
  have l6 := l_6 h
  have l7 := l_7 h
  have l8 := l_8 h
  have l9 := l_9 h
  have l10 := l_10 h
  have l11 := l_11 h
  have l12 := l_12 h
  have l13 := l_13 h
  have lK := (l_K h).1
  have lK2 := (l_K h).2
  have pI2 := p_I2 h
  have pIsort := p_Isort h
  have pIsite := p_Isite h
  have pIroad := p_Iroad h
  have pIthing := p_Ithing h
  have pImove := p_Imove h
  have pItold := p_Itold h
  have pIvis := p_Ivis h
  have pIpic := p_Ipic h
  have pIque := p_Ique h
  have pIact := p_Iact h
  have pIcld := p_Icld h
  have pIwat := p_Iwat h
  have pRscal := p_Rscal h
  have pRsort := p_Rsort h
  have pRsite := p_Rsite h
  have pRthing := p_Rthing h
  have pRmove := p_Rmove h
  have pRtold := p_Rtold h
  have pRvis := p_Rvis h
  have pRpic := p_Rpic h
  have pRque := p_Rque h
  have pRact := p_Ract h
  have pRcld := p_Rcld h
  have pRwat := p_Rwat h
  have pRchain := p_Rchain h
  have pRvis2 := p_Rvis2 h
  have pRact2 := p_Ract2 h
  have pRway := p_Rway h
  have pRtext := p_Rtext h
  have hc : ∀ i, c i ≤ (cup c 5 (c 5 + 1)) i := fun i => by
    unfold cup
    by_cases q5 : i = 5
    · rw [if_pos q5, q5]; omega
    rw [if_neg q5]
    exact Nat.le_refl _
  have i5 : c 5 + 1 ≤ 40 := by omega
  have z0 : I0 A' (cup c 5 (c 5 + 1)) := fun i hi => by
    unfold cup
    by_cases q5 : i = 5
    · rw [if_pos q5, q5]; exact ec
    rw [if_neg q5]
    rw [hA i (by omega) (by omega)]; exact p_I0 h i hi
  have z1 : I1 (cup c 5 (c 5 + 1)) (K) := ⟨l0, l1, l2, l3, l4, (show c 5 + 1 ≤ 40 from by omega), l6, l7, l8, l9, l10, (show c 11 ≤ K from by omega), l12, l13, (show K ≤ 512 from by omega)⟩
  have sI2 : I2 A' := I2_tr pI2 (fun k q1 q2 => hA k (by omega) (by omega))
  have sIsort : Isort A' := Isort_tr pIsort (fun k q1 q2 => hA k (by omega) (by omega))
  have sIsite : Isite A' ((cup c 5 (c 5 + 1)) 1) := Isite_tr pIsite l1 (fun k q1 q2 => hA k (by omega) (by omega))
  have sIroad : Iroad A' ((cup c 5 (c 5 + 1)) 2) ((cup c 5 (c 5 + 1)) 1) := Iroad_tr pIroad l2 (hc 1) (fun k q1 q2 => hA k (by omega) (by omega)) (fun i q => hA _ (by omega) (by omega))
  have sIthing : Ithing A' ((cup c 5 (c 5 + 1)) 3) ((cup c 5 (c 5 + 1)) 1) ((cup c 5 (c 5 + 1)) 0) := Ithing_tr pIthing l3 (hc 1) (hc 0) (fun k q1 q2 => hA k (by omega) (by omega)) (fun i q => hA _ (by omega) (by omega))
  have sImove : Imove A' ((cup c 5 (c 5 + 1)) 4) ((cup c 5 (c 5 + 1)) 3) ((cup c 5 (c 5 + 1)) 1) ((cup c 5 (c 5 + 1)) 0) := Imove_tr pImove l4 (hc 3) (hc 1) (hc 0) (fun k q1 q2 => hA k (by omega) (by omega)) (fun i q => hA _ (by omega) (by omega)) (fun i q => hA _ (by omega) (by omega))
  have sIseal : Iseal A' (c 5 + 1) (c 1) (c 0) := by
    intro i hi
    by_cases q : i < c 5
    · obtain ⟨x, y, h1, h2, h3, h4⟩ := p_Iseal h i q
      refine ⟨x, y, ?_⟩
      simp (disch := omega) only [hA]
      exact ⟨h1, h2, h3, h4⟩
    · have e : i = c 5 := by omega
      subst e
      exact ⟨s, c 0, es, ed, hs, Nat.le_refl _⟩
  have sItold : Itold A' ((cup c 5 (c 5 + 1)) 7) ((cup c 5 (c 5 + 1)) 3) ((cup c 5 (c 5 + 1)) 1) ((cup c 5 (c 5 + 1)) 0) := Itold_tr pItold l7 (hc 3) (hc 1) (hc 0) (fun k q1 q2 => hA k (by omega) (by omega))
  have sIvis : Ivis A' ((cup c 5 (c 5 + 1)) 8) ((cup c 5 (c 5 + 1)) 1) ((cup c 5 (c 5 + 1)) 5) ((cup c 5 (c 5 + 1)) 0) := Ivis_tr pIvis l8 (hc 1) (hc 5) (hc 0) (fun k q1 q2 => hA k (by omega) (by omega))
  have sIpic : Ipic A' ((cup c 5 (c 5 + 1)) 9) ((cup c 5 (c 5 + 1)) 1) ((cup c 5 (c 5 + 1)) 0) := Ipic_tr pIpic l9 (hc 1) (hc 0) (fun k q1 q2 => hA k (by omega) (by omega))
  have sIque : Ique A' ((cup c 5 (c 5 + 1)) 10) ((cup c 5 (c 5 + 1)) 1) ((cup c 5 (c 5 + 1)) 0) := Ique_tr pIque l10 (hc 1) (hc 0) (fun k q1 q2 => hA k (by omega) (by omega)) (fun i q => hA _ (by omega) (by omega))
  have sIact : Iact A' (cup c 5 (c 5 + 1)) := Iact_tr pIact l11 rfl (hc 0) (fun _ => kof_w (hc 3) (hc 4) (hc 7) (hc 8) (hc 10)) (fun k q1 q2 => hA k (by omega) (by omega))
  have sIcld : Icld A' ((cup c 5 (c 5 + 1)) 12) ((cup c 5 (c 5 + 1)) 1) := Icld_tr pIcld l12 (hc 1) (fun k q1 q2 => hA k (by omega) (by omega))
  have sIwat : Iwat A' ((cup c 5 (c 5 + 1)) 13) ((cup c 5 (c 5 + 1)) 1) := Iwat_tr pIwat l13 (hc 1) (fun k q1 q2 => hA k (by omega) (by omega))
  have sRscal : Rscal w' 3 A' := Rscal_tr pRscal (fun j q => hw 3 j (by omega) (by omega) (by omega)) (hA 0 (by omega) (by omega)) (hA 2 (by omega) (by omega)) (fun k q1 q2 => hA k (by omega) (by omega))
  have sRsort : Rsort w' 3 A' := Rsort_tr pRsort (Or.inl rfl) (fun o j q1 q2 q3 => hw (3 + o) j (by omega) (by omega) (by omega)) (fun k q1 q2 => hA k (by omega) (by omega))
  have sRsite : Rsite w' 3 A' := Rsite_tr pRsite (Or.inl rfl) (fun o j q1 q2 q3 => hw (3 + o) j (by omega) (by omega) (by omega)) (hA 1 (by omega) (by omega)) (fun k q1 q2 => hA k (by omega) (by omega))
  have sRthing : Rthing w' 3 A' := Rthing_tr pRthing (Or.inl rfl) (fun o j q1 q2 q3 => hw (3 + o) j (by omega) (by omega) (by omega)) (hA 3 (by omega) (by omega)) (fun k q1 q2 => hA k (by omega) (by omega))
  have sRmove : Rmove w' 3 A' := Rmove_tr pRmove (Or.inl rfl) (fun o j q1 q2 q3 => hw (3 + o) j (by omega) (by omega) (by omega)) (hA 4 (by omega) (by omega)) (fun k q1 q2 => hA k (by omega) (by omega))
  have sRseal : Rseal w' 3 A' := by
    exact RT_ap (n := c 5) (p_Rseal h) (h_5 h) (by omega) (by omega) (hw 14 0 (by omega) (by omega) (by omega)) e2 (fun j hj => hw 15 j (by omega) (by omega) (by omega)) ec (fun k q1 q2 => hA k (by omega) (by omega)) hv
  have sRtold : Rtold w' 3 A' := Rtold_tr pRtold (Or.inl rfl) (fun o j q1 q2 q3 => hw (3 + o) j (by omega) (by omega) (by omega)) (hA 7 (by omega) (by omega)) (fun k q1 q2 => hA k (by omega) (by omega))
  have sRvis : Rvis w' 3 A' := Rvis_tr pRvis (Or.inl rfl) (fun o j q1 q2 q3 => hw (3 + o) j (by omega) (by omega) (by omega)) (hA 8 (by omega) (by omega)) (fun k q1 q2 => hA k (by omega) (by omega))
  have sRpic : Rpic w' 3 A' := Rpic_tr pRpic (Or.inl rfl) (fun o j q1 q2 q3 => hw (3 + o) j (by omega) (by omega) (by omega)) (hA 9 (by omega) (by omega)) (fun k q1 q2 => hA k (by omega) (by omega))
  have sRque : Rque w' 3 A' := Rque_tr pRque (Or.inl rfl) (fun o j q1 q2 q3 => hw (3 + o) j (by omega) (by omega) (by omega)) (hA 10 (by omega) (by omega)) (fun k q1 q2 => hA k (by omega) (by omega))
  have sRact : Ract w' 3 A' := Ract_tr pRact (Or.inl rfl) (fun o j q1 q2 q3 => hw (3 + o) j (by omega) (by omega) (by omega)) (hA 11 (by omega) (by omega)) (fun k q1 q2 => hA k (by omega) (by omega))
  have sRcld : Rcld w' 3 A' := Rcld_tr pRcld (Or.inl rfl) (fun o j q1 q2 q3 => hw (3 + o) j (by omega) (by omega) (by omega)) (hA 12 (by omega) (by omega)) (fun k q1 q2 => hA k (by omega) (by omega))
  have sRwat : Rwat w' 3 A' := Rwat_tr pRwat (Or.inl rfl) (fun o j q1 q2 q3 => hw (3 + o) j (by omega) (by omega) (by omega)) (hA 13 (by omega) (by omega)) (fun k q1 q2 => hA k (by omega) (by omega))
  have sRchain : Rchain w' 3 A' := Rchain_tr pRchain (fun o j q1 q2 q3 q4 => hw (3 + o) j (by omega) (by omega) (by omega)) (hA 3 (by omega) (by omega)) (hA 4 (by omega) (by omega)) (fun m q => hA _ (by omega) (by omega))
  have sRvis2 : Rvis2 w' 3 A' (cup c 5 (c 5 + 1)) := Rvis2_tr pRvis2 ⟨l8, l5, i5⟩ pIvis rfl (fun j q => hw 27 j (by omega) (by omega) (by omega)) (fun k q1 q2 => hA k (by omega) (by omega)) (fun k q1 q2 => hA k (by omega) (by omega))
  have sRact2 : Ract2 w' 3 A' (cup c 5 (c 5 + 1)) := Ract2_tr pRact2 ⟨l11, l3, l4, l7, l8, l10⟩ pIact rfl (fun j q => hw 33 j (by omega) (by omega) (by omega)) (fun k q1 q2 => hA k (by omega) (by omega)) (fun i q => hA _ (by omega) (by omega)) (fun i q => hA _ (by omega) (by omega)) (fun i q => hA _ (by omega) (by omega)) (fun i q => hA _ (by omega) (by omega))
  have sRway : Rway w' 3 A' (cup c 5 (c 5 + 1)) := Rway_tr pRway (Or.inl rfl) ⟨l1, l2⟩ rfl rfl (fun o j q1 q2 q3 => hw (3 + o) j (by omega) (by omega) (by omega)) (fun k q1 q2 => hA k (by omega) (by omega))
  have sRtext : Rtext w' 3 A' (cup c 5 (c 5 + 1)) := Rtext_tr pRtext (Or.inl rfl) l6 rfl (fun o j q1 q2 q3 => hw (3 + o) j (by omega) (by omega) (by omega)) (fun k q1 q2 => hA k (by omega) (by omega))
  exact ⟨⟨z0, z1, sI2, sIsort, sIsite, sIroad, sIthing, sImove, sIseal, sItold, sIvis, sIpic, sIque, sIact, sIcld, sIwat⟩, sRscal, sRsort, sRsite, sRthing, sRmove, sRseal, sRtold, sRvis, sRpic, sRque, sRact, sRcld, sRwat, sRchain, sRvis2, sRact2, sRway, sRtext⟩

theorem P_cloud (h : RA w 3 A c K) {s d : Nat} (hs : s < c 1) (hd : d ≤ 1999) (hn : c 12 < 60) (e2 : w'.1 34 2 = nI (c 12 + 1)) (ec : A' 12 = nI (c 12 + 1)) (hv : ∀ j, j < 2 → id j < 2 → w'.1 35 (c 12 * 2 + j) = A' (20760 + 2 * c 12 + id j)) (es : A' (20760 + 2 * c 12) = nI s) (ed : A' (20760 + 2 * c 12 + 1) = nI d) (hw : ∀ b j, 3 ≤ b → b < 38 → ¬ (b = 34 ∧ j = 2 ∨ b = 35 ∧ c 12 * 2 ≤ j ∧ j < c 12 * 2 + 2) → w'.1 b j = w.1 b j) (hA : ∀ k, k < 21000 → ¬ (k = 12 ∨ k = 20760 + 2 * c 12 ∨ k = 20760 + 2 * c 12 + 1) → A' k = A k) : RA w' 3 A' (cup c 12 (c 12 + 1)) (K) := by
  have l0 := l_0 h
  have l1 := l_1 h
  have l2 := l_2 h
  have l3 := l_3 h
  have l4 := l_4 h
  have l5 := l_5 h
  have l6 := l_6 h
  have l7 := l_7 h
  have l8 := l_8 h
  have l9 := l_9 h
  have l10 := l_10 h
  have l11 := l_11 h
  have l12 := l_12 h
  have l13 := l_13 h
  have lK := (l_K h).1
  have lK2 := (l_K h).2
  have pI2 := p_I2 h
  have pIsort := p_Isort h
  have pIsite := p_Isite h
  have pIroad := p_Iroad h
  have pIthing := p_Ithing h
  have pImove := p_Imove h
  have pIseal := p_Iseal h
  have pItold := p_Itold h
  have pIvis := p_Ivis h
  have pIpic := p_Ipic h
  have pIque := p_Ique h
  have pIact := p_Iact h
  have pIwat := p_Iwat h
  have pRscal := p_Rscal h
  have pRsort := p_Rsort h
  have pRsite := p_Rsite h
  have pRthing := p_Rthing h
  have pRmove := p_Rmove h
  have pRseal := p_Rseal h
  have pRtold := p_Rtold h
  have pRvis := p_Rvis h
  have pRpic := p_Rpic h
  have pRque := p_Rque h
  have pRact := p_Ract h
  have pRwat := p_Rwat h
  have pRchain := p_Rchain h
  have pRvis2 := p_Rvis2 h
  have pRact2 := p_Ract2 h
  have pRway := p_Rway h
  have pRtext := p_Rtext h
  have hc : ∀ i, c i ≤ (cup c 12 (c 12 + 1)) i := fun i => by
    unfold cup
    by_cases q12 : i = 12
    · rw [if_pos q12, q12]; omega
    rw [if_neg q12]
    exact Nat.le_refl _
  have i5 : c 5 ≤ 40 := l5
  have z0 : I0 A' (cup c 12 (c 12 + 1)) := fun i hi => by
    unfold cup
    by_cases q12 : i = 12
    · rw [if_pos q12, q12]; exact ec
    rw [if_neg q12]
    rw [hA i (by omega) (by omega)]; exact p_I0 h i hi
  have z1 : I1 (cup c 12 (c 12 + 1)) (K) := ⟨l0, l1, l2, l3, l4, l5, l6, l7, l8, l9, l10, (show c 11 ≤ K from by omega), (show c 12 + 1 ≤ 60 from by omega), l13, (show K ≤ 512 from by omega)⟩
  have sI2 : I2 A' := I2_tr pI2 (fun k q1 q2 => hA k (by omega) (by omega))
  have sIsort : Isort A' := Isort_tr pIsort (fun k q1 q2 => hA k (by omega) (by omega))
  have sIsite : Isite A' ((cup c 12 (c 12 + 1)) 1) := Isite_tr pIsite l1 (fun k q1 q2 => hA k (by omega) (by omega))
  have sIroad : Iroad A' ((cup c 12 (c 12 + 1)) 2) ((cup c 12 (c 12 + 1)) 1) := Iroad_tr pIroad l2 (hc 1) (fun k q1 q2 => hA k (by omega) (by omega)) (fun i q => hA _ (by omega) (by omega))
  have sIthing : Ithing A' ((cup c 12 (c 12 + 1)) 3) ((cup c 12 (c 12 + 1)) 1) ((cup c 12 (c 12 + 1)) 0) := Ithing_tr pIthing l3 (hc 1) (hc 0) (fun k q1 q2 => hA k (by omega) (by omega)) (fun i q => hA _ (by omega) (by omega))
  have sImove : Imove A' ((cup c 12 (c 12 + 1)) 4) ((cup c 12 (c 12 + 1)) 3) ((cup c 12 (c 12 + 1)) 1) ((cup c 12 (c 12 + 1)) 0) := Imove_tr pImove l4 (hc 3) (hc 1) (hc 0) (fun k q1 q2 => hA k (by omega) (by omega)) (fun i q => hA _ (by omega) (by omega)) (fun i q => hA _ (by omega) (by omega))
  have sIseal : Iseal A' ((cup c 12 (c 12 + 1)) 5) ((cup c 12 (c 12 + 1)) 1) ((cup c 12 (c 12 + 1)) 0) := Iseal_tr pIseal l5 (hc 1) (hc 0) (fun k q1 q2 => hA k (by omega) (by omega))
  have sItold : Itold A' ((cup c 12 (c 12 + 1)) 7) ((cup c 12 (c 12 + 1)) 3) ((cup c 12 (c 12 + 1)) 1) ((cup c 12 (c 12 + 1)) 0) := Itold_tr pItold l7 (hc 3) (hc 1) (hc 0) (fun k q1 q2 => hA k (by omega) (by omega))
  have sIvis : Ivis A' ((cup c 12 (c 12 + 1)) 8) ((cup c 12 (c 12 + 1)) 1) ((cup c 12 (c 12 + 1)) 5) ((cup c 12 (c 12 + 1)) 0) := Ivis_tr pIvis l8 (hc 1) (hc 5) (hc 0) (fun k q1 q2 => hA k (by omega) (by omega))
  have sIpic : Ipic A' ((cup c 12 (c 12 + 1)) 9) ((cup c 12 (c 12 + 1)) 1) ((cup c 12 (c 12 + 1)) 0) := Ipic_tr pIpic l9 (hc 1) (hc 0) (fun k q1 q2 => hA k (by omega) (by omega))
  have sIque : Ique A' ((cup c 12 (c 12 + 1)) 10) ((cup c 12 (c 12 + 1)) 1) ((cup c 12 (c 12 + 1)) 0) := Ique_tr pIque l10 (hc 1) (hc 0) (fun k q1 q2 => hA k (by omega) (by omega)) (fun i q => hA _ (by omega) (by omega))
  have sIact : Iact A' (cup c 12 (c 12 + 1)) := Iact_tr pIact l11 rfl (hc 0) (fun _ => kof_w (hc 3) (hc 4) (hc 7) (hc 8) (hc 10)) (fun k q1 q2 => hA k (by omega) (by omega))
  have sIcld : Icld A' (c 12 + 1) (c 1) := by
    intro i hi
    by_cases q : i < c 12
    · obtain ⟨x, y, h1, h2, h3, h4⟩ := p_Icld h i q
      refine ⟨x, y, ?_⟩
      simp (disch := omega) only [hA]
      exact ⟨h1, h2, h3, h4⟩
    · have e : i = c 12 := by omega
      subst e
      exact ⟨s, d, es, ed, hs, hd⟩
  have sIwat : Iwat A' ((cup c 12 (c 12 + 1)) 13) ((cup c 12 (c 12 + 1)) 1) := Iwat_tr pIwat l13 (hc 1) (fun k q1 q2 => hA k (by omega) (by omega))
  have sRscal : Rscal w' 3 A' := Rscal_tr pRscal (fun j q => hw 3 j (by omega) (by omega) (by omega)) (hA 0 (by omega) (by omega)) (hA 2 (by omega) (by omega)) (fun k q1 q2 => hA k (by omega) (by omega))
  have sRsort : Rsort w' 3 A' := Rsort_tr pRsort (Or.inl rfl) (fun o j q1 q2 q3 => hw (3 + o) j (by omega) (by omega) (by omega)) (fun k q1 q2 => hA k (by omega) (by omega))
  have sRsite : Rsite w' 3 A' := Rsite_tr pRsite (Or.inl rfl) (fun o j q1 q2 q3 => hw (3 + o) j (by omega) (by omega) (by omega)) (hA 1 (by omega) (by omega)) (fun k q1 q2 => hA k (by omega) (by omega))
  have sRthing : Rthing w' 3 A' := Rthing_tr pRthing (Or.inl rfl) (fun o j q1 q2 q3 => hw (3 + o) j (by omega) (by omega) (by omega)) (hA 3 (by omega) (by omega)) (fun k q1 q2 => hA k (by omega) (by omega))
  have sRmove : Rmove w' 3 A' := Rmove_tr pRmove (Or.inl rfl) (fun o j q1 q2 q3 => hw (3 + o) j (by omega) (by omega) (by omega)) (hA 4 (by omega) (by omega)) (fun k q1 q2 => hA k (by omega) (by omega))
  have sRseal : Rseal w' 3 A' := Rseal_tr pRseal (Or.inl rfl) (fun o j q1 q2 q3 => hw (3 + o) j (by omega) (by omega) (by omega)) (hA 5 (by omega) (by omega)) (fun k q1 q2 => hA k (by omega) (by omega))
  have sRtold : Rtold w' 3 A' := Rtold_tr pRtold (Or.inl rfl) (fun o j q1 q2 q3 => hw (3 + o) j (by omega) (by omega) (by omega)) (hA 7 (by omega) (by omega)) (fun k q1 q2 => hA k (by omega) (by omega))
  have sRvis : Rvis w' 3 A' := Rvis_tr pRvis (Or.inl rfl) (fun o j q1 q2 q3 => hw (3 + o) j (by omega) (by omega) (by omega)) (hA 8 (by omega) (by omega)) (fun k q1 q2 => hA k (by omega) (by omega))
  have sRpic : Rpic w' 3 A' := Rpic_tr pRpic (Or.inl rfl) (fun o j q1 q2 q3 => hw (3 + o) j (by omega) (by omega) (by omega)) (hA 9 (by omega) (by omega)) (fun k q1 q2 => hA k (by omega) (by omega))
  have sRque : Rque w' 3 A' := Rque_tr pRque (Or.inl rfl) (fun o j q1 q2 q3 => hw (3 + o) j (by omega) (by omega) (by omega)) (hA 10 (by omega) (by omega)) (fun k q1 q2 => hA k (by omega) (by omega))
  have sRact : Ract w' 3 A' := Ract_tr pRact (Or.inl rfl) (fun o j q1 q2 q3 => hw (3 + o) j (by omega) (by omega) (by omega)) (hA 11 (by omega) (by omega)) (fun k q1 q2 => hA k (by omega) (by omega))
  have sRcld : Rcld w' 3 A' := by
    exact RT_ap (n := c 12) (p_Rcld h) (h_12 h) (by omega) (by omega) (hw 34 0 (by omega) (by omega) (by omega)) e2 (fun j hj => hw 35 j (by omega) (by omega) (by omega)) ec (fun k q1 q2 => hA k (by omega) (by omega)) hv
  have sRwat : Rwat w' 3 A' := Rwat_tr pRwat (Or.inl rfl) (fun o j q1 q2 q3 => hw (3 + o) j (by omega) (by omega) (by omega)) (hA 13 (by omega) (by omega)) (fun k q1 q2 => hA k (by omega) (by omega))
  have sRchain : Rchain w' 3 A' := Rchain_tr pRchain (fun o j q1 q2 q3 q4 => hw (3 + o) j (by omega) (by omega) (by omega)) (hA 3 (by omega) (by omega)) (hA 4 (by omega) (by omega)) (fun m q => hA _ (by omega) (by omega))
  have sRvis2 : Rvis2 w' 3 A' (cup c 12 (c 12 + 1)) := Rvis2_tr pRvis2 ⟨l8, l5, i5⟩ pIvis rfl (fun j q => hw 27 j (by omega) (by omega) (by omega)) (fun k q1 q2 => hA k (by omega) (by omega)) (fun k q1 q2 => hA k (by omega) (by omega))
  have sRact2 : Ract2 w' 3 A' (cup c 12 (c 12 + 1)) := Ract2_tr pRact2 ⟨l11, l3, l4, l7, l8, l10⟩ pIact rfl (fun j q => hw 33 j (by omega) (by omega) (by omega)) (fun k q1 q2 => hA k (by omega) (by omega)) (fun i q => hA _ (by omega) (by omega)) (fun i q => hA _ (by omega) (by omega)) (fun i q => hA _ (by omega) (by omega)) (fun i q => hA _ (by omega) (by omega))
  have sRway : Rway w' 3 A' (cup c 12 (c 12 + 1)) := Rway_tr pRway (Or.inl rfl) ⟨l1, l2⟩ rfl rfl (fun o j q1 q2 q3 => hw (3 + o) j (by omega) (by omega) (by omega)) (fun k q1 q2 => hA k (by omega) (by omega))
  have sRtext : Rtext w' 3 A' (cup c 12 (c 12 + 1)) := Rtext_tr pRtext (Or.inl rfl) l6 rfl (fun o j q1 q2 q3 => hw (3 + o) j (by omega) (by omega) (by omega)) (fun k q1 q2 => hA k (by omega) (by omega))
  exact ⟨⟨z0, z1, sI2, sIsort, sIsite, sIroad, sIthing, sImove, sIseal, sItold, sIvis, sIpic, sIque, sIact, sIcld, sIwat⟩, sRscal, sRsort, sRsite, sRthing, sRmove, sRseal, sRtold, sRvis, sRpic, sRque, sRact, sRcld, sRwat, sRchain, sRvis2, sRact2, sRway, sRtext⟩

theorem P_watch (h : RA w 3 A c K) {s d : Nat} (hs : s < c 1) (hd : d ≤ 1999) (hn : c 13 < 60) (e2 : w'.1 36 2 = nI (c 13 + 1)) (ec : A' 13 = nI (c 13 + 1)) (hv : ∀ j, j < 2 → id j < 2 → w'.1 37 (c 13 * 2 + j) = A' (20880 + 2 * c 13 + id j)) (es : A' (20880 + 2 * c 13) = nI s) (ed : A' (20880 + 2 * c 13 + 1) = nI d) (hw : ∀ b j, 3 ≤ b → b < 38 → ¬ (b = 36 ∧ j = 2 ∨ b = 37 ∧ c 13 * 2 ≤ j ∧ j < c 13 * 2 + 2) → w'.1 b j = w.1 b j) (hA : ∀ k, k < 21000 → ¬ (k = 13 ∨ k = 20880 + 2 * c 13 ∨ k = 20880 + 2 * c 13 + 1) → A' k = A k) : RA w' 3 A' (cup c 13 (c 13 + 1)) (K) := by
  have l0 := l_0 h
  have l1 := l_1 h
  have l2 := l_2 h
  have l3 := l_3 h
  have l4 := l_4 h
  have l5 := l_5 h
  have l6 := l_6 h
  have l7 := l_7 h
  have l8 := l_8 h
  have l9 := l_9 h
  have l10 := l_10 h
  have l11 := l_11 h
  have l12 := l_12 h
  have l13 := l_13 h
  have lK := (l_K h).1
  have lK2 := (l_K h).2
  have pI2 := p_I2 h
  have pIsort := p_Isort h
  have pIsite := p_Isite h
  have pIroad := p_Iroad h
  have pIthing := p_Ithing h
  have pImove := p_Imove h
  have pIseal := p_Iseal h
  have pItold := p_Itold h
  have pIvis := p_Ivis h
  have pIpic := p_Ipic h
  have pIque := p_Ique h
  have pIact := p_Iact h
  have pIcld := p_Icld h
  have pRscal := p_Rscal h
  have pRsort := p_Rsort h
  have pRsite := p_Rsite h
  have pRthing := p_Rthing h
  have pRmove := p_Rmove h
  have pRseal := p_Rseal h
  have pRtold := p_Rtold h
  have pRvis := p_Rvis h
  have pRpic := p_Rpic h
  have pRque := p_Rque h
  have pRact := p_Ract h
  have pRcld := p_Rcld h
  have pRchain := p_Rchain h
  have pRvis2 := p_Rvis2 h
  have pRact2 := p_Ract2 h
  have pRway := p_Rway h
  have pRtext := p_Rtext h
  have hc : ∀ i, c i ≤ (cup c 13 (c 13 + 1)) i := fun i => by
    unfold cup
    by_cases q13 : i = 13
    · rw [if_pos q13, q13]; omega
    rw [if_neg q13]
    exact Nat.le_refl _
  have i5 : c 5 ≤ 40 := l5
  have z0 : I0 A' (cup c 13 (c 13 + 1)) := fun i hi => by
    unfold cup
    by_cases q13 : i = 13
    · rw [if_pos q13, q13]; exact ec
    rw [if_neg q13]
    rw [hA i (by omega) (by omega)]; exact p_I0 h i hi
  have z1 : I1 (cup c 13 (c 13 + 1)) (K) := ⟨l0, l1, l2, l3, l4, l5, l6, l7, l8, l9, l10, (show c 11 ≤ K from by omega), l12, (show c 13 + 1 ≤ 60 from by omega), (show K ≤ 512 from by omega)⟩
  have sI2 : I2 A' := I2_tr pI2 (fun k q1 q2 => hA k (by omega) (by omega))
  have sIsort : Isort A' := Isort_tr pIsort (fun k q1 q2 => hA k (by omega) (by omega))
  have sIsite : Isite A' ((cup c 13 (c 13 + 1)) 1) := Isite_tr pIsite l1 (fun k q1 q2 => hA k (by omega) (by omega))
  have sIroad : Iroad A' ((cup c 13 (c 13 + 1)) 2) ((cup c 13 (c 13 + 1)) 1) := Iroad_tr pIroad l2 (hc 1) (fun k q1 q2 => hA k (by omega) (by omega)) (fun i q => hA _ (by omega) (by omega))
  have sIthing : Ithing A' ((cup c 13 (c 13 + 1)) 3) ((cup c 13 (c 13 + 1)) 1) ((cup c 13 (c 13 + 1)) 0) := Ithing_tr pIthing l3 (hc 1) (hc 0) (fun k q1 q2 => hA k (by omega) (by omega)) (fun i q => hA _ (by omega) (by omega))
  have sImove : Imove A' ((cup c 13 (c 13 + 1)) 4) ((cup c 13 (c 13 + 1)) 3) ((cup c 13 (c 13 + 1)) 1) ((cup c 13 (c 13 + 1)) 0) := Imove_tr pImove l4 (hc 3) (hc 1) (hc 0) (fun k q1 q2 => hA k (by omega) (by omega)) (fun i q => hA _ (by omega) (by omega)) (fun i q => hA _ (by omega) (by omega))
  have sIseal : Iseal A' ((cup c 13 (c 13 + 1)) 5) ((cup c 13 (c 13 + 1)) 1) ((cup c 13 (c 13 + 1)) 0) := Iseal_tr pIseal l5 (hc 1) (hc 0) (fun k q1 q2 => hA k (by omega) (by omega))
  have sItold : Itold A' ((cup c 13 (c 13 + 1)) 7) ((cup c 13 (c 13 + 1)) 3) ((cup c 13 (c 13 + 1)) 1) ((cup c 13 (c 13 + 1)) 0) := Itold_tr pItold l7 (hc 3) (hc 1) (hc 0) (fun k q1 q2 => hA k (by omega) (by omega))
  have sIvis : Ivis A' ((cup c 13 (c 13 + 1)) 8) ((cup c 13 (c 13 + 1)) 1) ((cup c 13 (c 13 + 1)) 5) ((cup c 13 (c 13 + 1)) 0) := Ivis_tr pIvis l8 (hc 1) (hc 5) (hc 0) (fun k q1 q2 => hA k (by omega) (by omega))
  have sIpic : Ipic A' ((cup c 13 (c 13 + 1)) 9) ((cup c 13 (c 13 + 1)) 1) ((cup c 13 (c 13 + 1)) 0) := Ipic_tr pIpic l9 (hc 1) (hc 0) (fun k q1 q2 => hA k (by omega) (by omega))
  have sIque : Ique A' ((cup c 13 (c 13 + 1)) 10) ((cup c 13 (c 13 + 1)) 1) ((cup c 13 (c 13 + 1)) 0) := Ique_tr pIque l10 (hc 1) (hc 0) (fun k q1 q2 => hA k (by omega) (by omega)) (fun i q => hA _ (by omega) (by omega))
  have sIact : Iact A' (cup c 13 (c 13 + 1)) := Iact_tr pIact l11 rfl (hc 0) (fun _ => kof_w (hc 3) (hc 4) (hc 7) (hc 8) (hc 10)) (fun k q1 q2 => hA k (by omega) (by omega))
  have sIcld : Icld A' ((cup c 13 (c 13 + 1)) 12) ((cup c 13 (c 13 + 1)) 1) := Icld_tr pIcld l12 (hc 1) (fun k q1 q2 => hA k (by omega) (by omega))
  have sIwat : Iwat A' (c 13 + 1) (c 1) := by
    intro i hi
    by_cases q : i < c 13
    · obtain ⟨x, y, h1, h2, h3, h4⟩ := p_Iwat h i q
      refine ⟨x, y, ?_⟩
      simp (disch := omega) only [hA]
      exact ⟨h1, h2, h3, h4⟩
    · have e : i = c 13 := by omega
      subst e
      exact ⟨s, d, es, ed, hs, hd⟩
  have sRscal : Rscal w' 3 A' := Rscal_tr pRscal (fun j q => hw 3 j (by omega) (by omega) (by omega)) (hA 0 (by omega) (by omega)) (hA 2 (by omega) (by omega)) (fun k q1 q2 => hA k (by omega) (by omega))
  have sRsort : Rsort w' 3 A' := Rsort_tr pRsort (Or.inl rfl) (fun o j q1 q2 q3 => hw (3 + o) j (by omega) (by omega) (by omega)) (fun k q1 q2 => hA k (by omega) (by omega))
  have sRsite : Rsite w' 3 A' := Rsite_tr pRsite (Or.inl rfl) (fun o j q1 q2 q3 => hw (3 + o) j (by omega) (by omega) (by omega)) (hA 1 (by omega) (by omega)) (fun k q1 q2 => hA k (by omega) (by omega))
  have sRthing : Rthing w' 3 A' := Rthing_tr pRthing (Or.inl rfl) (fun o j q1 q2 q3 => hw (3 + o) j (by omega) (by omega) (by omega)) (hA 3 (by omega) (by omega)) (fun k q1 q2 => hA k (by omega) (by omega))
  have sRmove : Rmove w' 3 A' := Rmove_tr pRmove (Or.inl rfl) (fun o j q1 q2 q3 => hw (3 + o) j (by omega) (by omega) (by omega)) (hA 4 (by omega) (by omega)) (fun k q1 q2 => hA k (by omega) (by omega))
  have sRseal : Rseal w' 3 A' := Rseal_tr pRseal (Or.inl rfl) (fun o j q1 q2 q3 => hw (3 + o) j (by omega) (by omega) (by omega)) (hA 5 (by omega) (by omega)) (fun k q1 q2 => hA k (by omega) (by omega))
  have sRtold : Rtold w' 3 A' := Rtold_tr pRtold (Or.inl rfl) (fun o j q1 q2 q3 => hw (3 + o) j (by omega) (by omega) (by omega)) (hA 7 (by omega) (by omega)) (fun k q1 q2 => hA k (by omega) (by omega))
  have sRvis : Rvis w' 3 A' := Rvis_tr pRvis (Or.inl rfl) (fun o j q1 q2 q3 => hw (3 + o) j (by omega) (by omega) (by omega)) (hA 8 (by omega) (by omega)) (fun k q1 q2 => hA k (by omega) (by omega))
  have sRpic : Rpic w' 3 A' := Rpic_tr pRpic (Or.inl rfl) (fun o j q1 q2 q3 => hw (3 + o) j (by omega) (by omega) (by omega)) (hA 9 (by omega) (by omega)) (fun k q1 q2 => hA k (by omega) (by omega))
  have sRque : Rque w' 3 A' := Rque_tr pRque (Or.inl rfl) (fun o j q1 q2 q3 => hw (3 + o) j (by omega) (by omega) (by omega)) (hA 10 (by omega) (by omega)) (fun k q1 q2 => hA k (by omega) (by omega))
  have sRact : Ract w' 3 A' := Ract_tr pRact (Or.inl rfl) (fun o j q1 q2 q3 => hw (3 + o) j (by omega) (by omega) (by omega)) (hA 11 (by omega) (by omega)) (fun k q1 q2 => hA k (by omega) (by omega))
  have sRcld : Rcld w' 3 A' := Rcld_tr pRcld (Or.inl rfl) (fun o j q1 q2 q3 => hw (3 + o) j (by omega) (by omega) (by omega)) (hA 12 (by omega) (by omega)) (fun k q1 q2 => hA k (by omega) (by omega))
  have sRwat : Rwat w' 3 A' := by
    exact RT_ap (n := c 13) (p_Rwat h) (h_13 h) (by omega) (by omega) (hw 36 0 (by omega) (by omega) (by omega)) e2 (fun j hj => hw 37 j (by omega) (by omega) (by omega)) ec (fun k q1 q2 => hA k (by omega) (by omega)) hv
  have sRchain : Rchain w' 3 A' := Rchain_tr pRchain (fun o j q1 q2 q3 q4 => hw (3 + o) j (by omega) (by omega) (by omega)) (hA 3 (by omega) (by omega)) (hA 4 (by omega) (by omega)) (fun m q => hA _ (by omega) (by omega))
  have sRvis2 : Rvis2 w' 3 A' (cup c 13 (c 13 + 1)) := Rvis2_tr pRvis2 ⟨l8, l5, i5⟩ pIvis rfl (fun j q => hw 27 j (by omega) (by omega) (by omega)) (fun k q1 q2 => hA k (by omega) (by omega)) (fun k q1 q2 => hA k (by omega) (by omega))
  have sRact2 : Ract2 w' 3 A' (cup c 13 (c 13 + 1)) := Ract2_tr pRact2 ⟨l11, l3, l4, l7, l8, l10⟩ pIact rfl (fun j q => hw 33 j (by omega) (by omega) (by omega)) (fun k q1 q2 => hA k (by omega) (by omega)) (fun i q => hA _ (by omega) (by omega)) (fun i q => hA _ (by omega) (by omega)) (fun i q => hA _ (by omega) (by omega)) (fun i q => hA _ (by omega) (by omega))
  have sRway : Rway w' 3 A' (cup c 13 (c 13 + 1)) := Rway_tr pRway (Or.inl rfl) ⟨l1, l2⟩ rfl rfl (fun o j q1 q2 q3 => hw (3 + o) j (by omega) (by omega) (by omega)) (fun k q1 q2 => hA k (by omega) (by omega))
  have sRtext : Rtext w' 3 A' (cup c 13 (c 13 + 1)) := Rtext_tr pRtext (Or.inl rfl) l6 rfl (fun o j q1 q2 q3 => hw (3 + o) j (by omega) (by omega) (by omega)) (fun k q1 q2 => hA k (by omega) (by omega))
  exact ⟨⟨z0, z1, sI2, sIsort, sIsite, sIroad, sIthing, sImove, sIseal, sItold, sIvis, sIpic, sIque, sIact, sIcld, sIwat⟩, sRscal, sRsort, sRsite, sRthing, sRmove, sRseal, sRtold, sRvis, sRpic, sRque, sRact, sRcld, sRwat, sRchain, sRvis2, sRact2, sRway, sRtext⟩

theorem P_pic (h : RA w 3 A c K) {s n : Nat} (hs : s < c 1) (hd : 1 ≤ c 0) (hn40 : n ≤ 40) (hn : c 9 < 100) (e2 : w'.1 28 2 = nI (c 9 + 1)) (ec : A' 9 = nI (c 9 + 1)) (hv : ∀ j, j < 3 → id j < 4 → w'.1 29 (c 9 * 3 + j) = A' (12480 + 4 * c 9 + id j)) (es : A' (12480 + 4 * c 9) = nI s) (ed : A' (12480 + 4 * c 9 + 1) = nI (c 0)) (en : A' (12480 + 4 * c 9 + 2) = nI n) (hw : ∀ b j, 3 ≤ b → b < 38 → ¬ (b = 28 ∧ j = 2 ∨ b = 29 ∧ c 9 * 3 ≤ j ∧ j < c 9 * 3 + 3) → w'.1 b j = w.1 b j) (hA : ∀ k, k < 21000 → ¬ (k = 9 ∨ k = 12480 + 4 * c 9 ∨ k = 12480 + 4 * c 9 + 1 ∨ k = 12480 + 4 * c 9 + 2) → A' k = A k) : RA w' 3 A' (cup c 9 (c 9 + 1)) (K) := by
  have l0 := l_0 h
  have l1 := l_1 h
  have l2 := l_2 h
  have l3 := l_3 h
  have l4 := l_4 h
  have l5 := l_5 h
  have l6 := l_6 h
  have l7 := l_7 h
  have l8 := l_8 h
  have l9 := l_9 h
  have l10 := l_10 h
  have l11 := l_11 h
  have l12 := l_12 h
  have l13 := l_13 h
  have lK := (l_K h).1
  have lK2 := (l_K h).2
  have pI2 := p_I2 h
  have pIsort := p_Isort h
  have pIsite := p_Isite h
  have pIroad := p_Iroad h
  have pIthing := p_Ithing h
  have pImove := p_Imove h
  have pIseal := p_Iseal h
  have pItold := p_Itold h
  have pIvis := p_Ivis h
  have pIque := p_Ique h
  have pIact := p_Iact h
  have pIcld := p_Icld h
  have pIwat := p_Iwat h
  have pRscal := p_Rscal h
  have pRsort := p_Rsort h
  have pRsite := p_Rsite h
  have pRthing := p_Rthing h
  have pRmove := p_Rmove h
  have pRseal := p_Rseal h
  have pRtold := p_Rtold h
  have pRvis := p_Rvis h
  have pRque := p_Rque h
  have pRact := p_Ract h
  have pRcld := p_Rcld h
  have pRwat := p_Rwat h
  have pRchain := p_Rchain h
  have pRvis2 := p_Rvis2 h
  have pRact2 := p_Ract2 h
  have pRway := p_Rway h
  have pRtext := p_Rtext h
  have hc : ∀ i, c i ≤ (cup c 9 (c 9 + 1)) i := fun i => by
    unfold cup
    by_cases q9 : i = 9
    · rw [if_pos q9, q9]; omega
    rw [if_neg q9]
    exact Nat.le_refl _
  have i5 : c 5 ≤ 40 := l5
  have z0 : I0 A' (cup c 9 (c 9 + 1)) := fun i hi => by
    unfold cup
    by_cases q9 : i = 9
    · rw [if_pos q9, q9]; exact ec
    rw [if_neg q9]
    rw [hA i (by omega) (by omega)]; exact p_I0 h i hi
  have z1 : I1 (cup c 9 (c 9 + 1)) (K) := ⟨l0, l1, l2, l3, l4, l5, l6, l7, l8, (show c 9 + 1 ≤ 100 from by omega), l10, (show c 11 ≤ K from by omega), l12, l13, (show K ≤ 512 from by omega)⟩
  have sI2 : I2 A' := I2_tr pI2 (fun k q1 q2 => hA k (by omega) (by omega))
  have sIsort : Isort A' := Isort_tr pIsort (fun k q1 q2 => hA k (by omega) (by omega))
  have sIsite : Isite A' ((cup c 9 (c 9 + 1)) 1) := Isite_tr pIsite l1 (fun k q1 q2 => hA k (by omega) (by omega))
  have sIroad : Iroad A' ((cup c 9 (c 9 + 1)) 2) ((cup c 9 (c 9 + 1)) 1) := Iroad_tr pIroad l2 (hc 1) (fun k q1 q2 => hA k (by omega) (by omega)) (fun i q => hA _ (by omega) (by omega))
  have sIthing : Ithing A' ((cup c 9 (c 9 + 1)) 3) ((cup c 9 (c 9 + 1)) 1) ((cup c 9 (c 9 + 1)) 0) := Ithing_tr pIthing l3 (hc 1) (hc 0) (fun k q1 q2 => hA k (by omega) (by omega)) (fun i q => hA _ (by omega) (by omega))
  have sImove : Imove A' ((cup c 9 (c 9 + 1)) 4) ((cup c 9 (c 9 + 1)) 3) ((cup c 9 (c 9 + 1)) 1) ((cup c 9 (c 9 + 1)) 0) := Imove_tr pImove l4 (hc 3) (hc 1) (hc 0) (fun k q1 q2 => hA k (by omega) (by omega)) (fun i q => hA _ (by omega) (by omega)) (fun i q => hA _ (by omega) (by omega))
  have sIseal : Iseal A' ((cup c 9 (c 9 + 1)) 5) ((cup c 9 (c 9 + 1)) 1) ((cup c 9 (c 9 + 1)) 0) := Iseal_tr pIseal l5 (hc 1) (hc 0) (fun k q1 q2 => hA k (by omega) (by omega))
  have sItold : Itold A' ((cup c 9 (c 9 + 1)) 7) ((cup c 9 (c 9 + 1)) 3) ((cup c 9 (c 9 + 1)) 1) ((cup c 9 (c 9 + 1)) 0) := Itold_tr pItold l7 (hc 3) (hc 1) (hc 0) (fun k q1 q2 => hA k (by omega) (by omega))
  have sIvis : Ivis A' ((cup c 9 (c 9 + 1)) 8) ((cup c 9 (c 9 + 1)) 1) ((cup c 9 (c 9 + 1)) 5) ((cup c 9 (c 9 + 1)) 0) := Ivis_tr pIvis l8 (hc 1) (hc 5) (hc 0) (fun k q1 q2 => hA k (by omega) (by omega))
  have sIpic : Ipic A' (c 9 + 1) (c 1) (c 0) := by
    intro i hi
    by_cases q : i < c 9
    · obtain ⟨x, y, z, h1, h2, h3, h4, h5, h6, h7⟩ := p_Ipic h i q
      refine ⟨x, y, z, ?_⟩
      simp (disch := omega) only [hA]
      exact ⟨h1, h2, h3, h4, h5, h6, h7⟩
    · have e : i = c 9 := by omega
      subst e
      exact ⟨s, c 0, n, es, ed, en, hs, hd, Nat.le_refl _, hn40⟩
  have sIque : Ique A' ((cup c 9 (c 9 + 1)) 10) ((cup c 9 (c 9 + 1)) 1) ((cup c 9 (c 9 + 1)) 0) := Ique_tr pIque l10 (hc 1) (hc 0) (fun k q1 q2 => hA k (by omega) (by omega)) (fun i q => hA _ (by omega) (by omega))
  have sIact : Iact A' (cup c 9 (c 9 + 1)) := Iact_tr pIact l11 rfl (hc 0) (fun _ => kof_w (hc 3) (hc 4) (hc 7) (hc 8) (hc 10)) (fun k q1 q2 => hA k (by omega) (by omega))
  have sIcld : Icld A' ((cup c 9 (c 9 + 1)) 12) ((cup c 9 (c 9 + 1)) 1) := Icld_tr pIcld l12 (hc 1) (fun k q1 q2 => hA k (by omega) (by omega))
  have sIwat : Iwat A' ((cup c 9 (c 9 + 1)) 13) ((cup c 9 (c 9 + 1)) 1) := Iwat_tr pIwat l13 (hc 1) (fun k q1 q2 => hA k (by omega) (by omega))
  have sRscal : Rscal w' 3 A' := Rscal_tr pRscal (fun j q => hw 3 j (by omega) (by omega) (by omega)) (hA 0 (by omega) (by omega)) (hA 2 (by omega) (by omega)) (fun k q1 q2 => hA k (by omega) (by omega))
  have sRsort : Rsort w' 3 A' := Rsort_tr pRsort (Or.inl rfl) (fun o j q1 q2 q3 => hw (3 + o) j (by omega) (by omega) (by omega)) (fun k q1 q2 => hA k (by omega) (by omega))
  have sRsite : Rsite w' 3 A' := Rsite_tr pRsite (Or.inl rfl) (fun o j q1 q2 q3 => hw (3 + o) j (by omega) (by omega) (by omega)) (hA 1 (by omega) (by omega)) (fun k q1 q2 => hA k (by omega) (by omega))
  have sRthing : Rthing w' 3 A' := Rthing_tr pRthing (Or.inl rfl) (fun o j q1 q2 q3 => hw (3 + o) j (by omega) (by omega) (by omega)) (hA 3 (by omega) (by omega)) (fun k q1 q2 => hA k (by omega) (by omega))
  have sRmove : Rmove w' 3 A' := Rmove_tr pRmove (Or.inl rfl) (fun o j q1 q2 q3 => hw (3 + o) j (by omega) (by omega) (by omega)) (hA 4 (by omega) (by omega)) (fun k q1 q2 => hA k (by omega) (by omega))
  have sRseal : Rseal w' 3 A' := Rseal_tr pRseal (Or.inl rfl) (fun o j q1 q2 q3 => hw (3 + o) j (by omega) (by omega) (by omega)) (hA 5 (by omega) (by omega)) (fun k q1 q2 => hA k (by omega) (by omega))
  have sRtold : Rtold w' 3 A' := Rtold_tr pRtold (Or.inl rfl) (fun o j q1 q2 q3 => hw (3 + o) j (by omega) (by omega) (by omega)) (hA 7 (by omega) (by omega)) (fun k q1 q2 => hA k (by omega) (by omega))
  have sRvis : Rvis w' 3 A' := Rvis_tr pRvis (Or.inl rfl) (fun o j q1 q2 q3 => hw (3 + o) j (by omega) (by omega) (by omega)) (hA 8 (by omega) (by omega)) (fun k q1 q2 => hA k (by omega) (by omega))
  have sRpic : Rpic w' 3 A' := by
    exact RT_ap (n := c 9) (p_Rpic h) (h_9 h) (by omega) (by omega) (hw 28 0 (by omega) (by omega) (by omega)) e2 (fun j hj => hw 29 j (by omega) (by omega) (by omega)) ec (fun k q1 q2 => hA k (by omega) (by omega)) hv
  have sRque : Rque w' 3 A' := Rque_tr pRque (Or.inl rfl) (fun o j q1 q2 q3 => hw (3 + o) j (by omega) (by omega) (by omega)) (hA 10 (by omega) (by omega)) (fun k q1 q2 => hA k (by omega) (by omega))
  have sRact : Ract w' 3 A' := Ract_tr pRact (Or.inl rfl) (fun o j q1 q2 q3 => hw (3 + o) j (by omega) (by omega) (by omega)) (hA 11 (by omega) (by omega)) (fun k q1 q2 => hA k (by omega) (by omega))
  have sRcld : Rcld w' 3 A' := Rcld_tr pRcld (Or.inl rfl) (fun o j q1 q2 q3 => hw (3 + o) j (by omega) (by omega) (by omega)) (hA 12 (by omega) (by omega)) (fun k q1 q2 => hA k (by omega) (by omega))
  have sRwat : Rwat w' 3 A' := Rwat_tr pRwat (Or.inl rfl) (fun o j q1 q2 q3 => hw (3 + o) j (by omega) (by omega) (by omega)) (hA 13 (by omega) (by omega)) (fun k q1 q2 => hA k (by omega) (by omega))
  have sRchain : Rchain w' 3 A' := Rchain_tr pRchain (fun o j q1 q2 q3 q4 => hw (3 + o) j (by omega) (by omega) (by omega)) (hA 3 (by omega) (by omega)) (hA 4 (by omega) (by omega)) (fun m q => hA _ (by omega) (by omega))
  have sRvis2 : Rvis2 w' 3 A' (cup c 9 (c 9 + 1)) := Rvis2_tr pRvis2 ⟨l8, l5, i5⟩ pIvis rfl (fun j q => hw 27 j (by omega) (by omega) (by omega)) (fun k q1 q2 => hA k (by omega) (by omega)) (fun k q1 q2 => hA k (by omega) (by omega))
  have sRact2 : Ract2 w' 3 A' (cup c 9 (c 9 + 1)) := Ract2_tr pRact2 ⟨l11, l3, l4, l7, l8, l10⟩ pIact rfl (fun j q => hw 33 j (by omega) (by omega) (by omega)) (fun k q1 q2 => hA k (by omega) (by omega)) (fun i q => hA _ (by omega) (by omega)) (fun i q => hA _ (by omega) (by omega)) (fun i q => hA _ (by omega) (by omega)) (fun i q => hA _ (by omega) (by omega))
  have sRway : Rway w' 3 A' (cup c 9 (c 9 + 1)) := Rway_tr pRway (Or.inl rfl) ⟨l1, l2⟩ rfl rfl (fun o j q1 q2 q3 => hw (3 + o) j (by omega) (by omega) (by omega)) (fun k q1 q2 => hA k (by omega) (by omega))
  have sRtext : Rtext w' 3 A' (cup c 9 (c 9 + 1)) := Rtext_tr pRtext (Or.inl rfl) l6 rfl (fun o j q1 q2 q3 => hw (3 + o) j (by omega) (by omega) (by omega)) (fun k q1 q2 => hA k (by omega) (by omega))
  exact ⟨⟨z0, z1, sI2, sIsort, sIsite, sIroad, sIthing, sImove, sIseal, sItold, sIvis, sIpic, sIque, sIact, sIcld, sIwat⟩, sRscal, sRsort, sRsite, sRthing, sRmove, sRseal, sRtold, sRvis, sRpic, sRque, sRact, sRcld, sRwat, sRchain, sRvis2, sRact2, sRway, sRtext⟩

theorem P_told (h : RA w 3 A c K) {t p f : Nat} (ht : t < c 3) (hp : p < c 1 ∨ p = 101) (hf : f ≤ c 0) (hn : c 7 < 200) (e2 : w'.1 24 2 = nI (c 7 + 1)) (ec : A' 7 = nI (c 7 + 1)) (hv : ∀ j, j < 4 → id j < 8 → w'.1 25 (c 7 * 4 + j) = A' (9680 + 8 * c 7 + id j)) (et : A' (9680 + 8 * c 7) = nI t) (ep : A' (9680 + 8 * c 7 + 1) = nI p) (ef : A' (9680 + 8 * c 7 + 2) = nI f) (ed : A' (9680 + 8 * c 7 + 3) = nI (c 0)) (hw : ∀ b j, 3 ≤ b → b < 38 → ¬ (b = 24 ∧ j = 2 ∨ b = 25 ∧ c 7 * 4 ≤ j ∧ j < c 7 * 4 + 4) → w'.1 b j = w.1 b j) (hA : ∀ k, k < 21000 → ¬ (k = 7 ∨ k = 9680 + 8 * c 7 ∨ k = 9680 + 8 * c 7 + 1 ∨ k = 9680 + 8 * c 7 + 2 ∨ k = 9680 + 8 * c 7 + 3) → A' k = A k) : RA w' 3 A' (cup c 7 (c 7 + 1)) (K) := by
  have l0 := l_0 h
  have l1 := l_1 h
  have l2 := l_2 h
  have l3 := l_3 h
  have l4 := l_4 h
  have l5 := l_5 h
  have l6 := l_6 h
  have l7 := l_7 h
  have l8 := l_8 h
  have l9 := l_9 h
  have l10 := l_10 h
  have l11 := l_11 h
  have l12 := l_12 h
  have l13 := l_13 h
  have lK := (l_K h).1
  have lK2 := (l_K h).2
  have pI2 := p_I2 h
  have pIsort := p_Isort h
  have pIsite := p_Isite h
  have pIroad := p_Iroad h
  have pIthing := p_Ithing h
  have pImove := p_Imove h
  have pIseal := p_Iseal h
  have pIvis := p_Ivis h
  have pIpic := p_Ipic h
  have pIque := p_Ique h
  have pIact := p_Iact h
  have pIcld := p_Icld h
  have pIwat := p_Iwat h
  have pRscal := p_Rscal h
  have pRsort := p_Rsort h
  have pRsite := p_Rsite h
  have pRthing := p_Rthing h
  have pRmove := p_Rmove h
  have pRseal := p_Rseal h
  have pRvis := p_Rvis h
  have pRpic := p_Rpic h
  have pRque := p_Rque h
  have pRact := p_Ract h
  have pRcld := p_Rcld h
  have pRwat := p_Rwat h
  have pRchain := p_Rchain h
  have pRvis2 := p_Rvis2 h
  have pRact2 := p_Ract2 h
  have pRway := p_Rway h
  have pRtext := p_Rtext h
  have hc : ∀ i, c i ≤ (cup c 7 (c 7 + 1)) i := fun i => by
    unfold cup
    by_cases q7 : i = 7
    · rw [if_pos q7, q7]; omega
    rw [if_neg q7]
    exact Nat.le_refl _
  have i5 : c 5 ≤ 40 := l5
  have z0 : I0 A' (cup c 7 (c 7 + 1)) := fun i hi => by
    unfold cup
    by_cases q7 : i = 7
    · rw [if_pos q7, q7]; exact ec
    rw [if_neg q7]
    rw [hA i (by omega) (by omega)]; exact p_I0 h i hi
  have z1 : I1 (cup c 7 (c 7 + 1)) (K) := ⟨l0, l1, l2, l3, l4, l5, l6, (show c 7 + 1 ≤ 200 from by omega), l8, l9, l10, (show c 11 ≤ K from by omega), l12, l13, (show K ≤ 512 from by omega)⟩
  have sI2 : I2 A' := I2_tr pI2 (fun k q1 q2 => hA k (by omega) (by omega))
  have sIsort : Isort A' := Isort_tr pIsort (fun k q1 q2 => hA k (by omega) (by omega))
  have sIsite : Isite A' ((cup c 7 (c 7 + 1)) 1) := Isite_tr pIsite l1 (fun k q1 q2 => hA k (by omega) (by omega))
  have sIroad : Iroad A' ((cup c 7 (c 7 + 1)) 2) ((cup c 7 (c 7 + 1)) 1) := Iroad_tr pIroad l2 (hc 1) (fun k q1 q2 => hA k (by omega) (by omega)) (fun i q => hA _ (by omega) (by omega))
  have sIthing : Ithing A' ((cup c 7 (c 7 + 1)) 3) ((cup c 7 (c 7 + 1)) 1) ((cup c 7 (c 7 + 1)) 0) := Ithing_tr pIthing l3 (hc 1) (hc 0) (fun k q1 q2 => hA k (by omega) (by omega)) (fun i q => hA _ (by omega) (by omega))
  have sImove : Imove A' ((cup c 7 (c 7 + 1)) 4) ((cup c 7 (c 7 + 1)) 3) ((cup c 7 (c 7 + 1)) 1) ((cup c 7 (c 7 + 1)) 0) := Imove_tr pImove l4 (hc 3) (hc 1) (hc 0) (fun k q1 q2 => hA k (by omega) (by omega)) (fun i q => hA _ (by omega) (by omega)) (fun i q => hA _ (by omega) (by omega))
  have sIseal : Iseal A' ((cup c 7 (c 7 + 1)) 5) ((cup c 7 (c 7 + 1)) 1) ((cup c 7 (c 7 + 1)) 0) := Iseal_tr pIseal l5 (hc 1) (hc 0) (fun k q1 q2 => hA k (by omega) (by omega))
  have sItold : Itold A' (c 7 + 1) (c 3) (c 1) (c 0) := by
    intro i hi
    by_cases q : i < c 7
    · obtain ⟨x, y, z, u, h1, h2, h3, h4, h5, h6, h7, h8⟩ := p_Itold h i q
      refine ⟨x, y, z, u, ?_⟩
      simp (disch := omega) only [hA]
      exact ⟨h1, h2, h3, h4, h5, h6, h7, h8⟩
    · have e : i = c 7 := by omega
      subst e
      exact ⟨t, p, f, c 0, et, ep, ef, ed, ht, hp, hf, Nat.le_refl _⟩
  have sIvis : Ivis A' ((cup c 7 (c 7 + 1)) 8) ((cup c 7 (c 7 + 1)) 1) ((cup c 7 (c 7 + 1)) 5) ((cup c 7 (c 7 + 1)) 0) := Ivis_tr pIvis l8 (hc 1) (hc 5) (hc 0) (fun k q1 q2 => hA k (by omega) (by omega))
  have sIpic : Ipic A' ((cup c 7 (c 7 + 1)) 9) ((cup c 7 (c 7 + 1)) 1) ((cup c 7 (c 7 + 1)) 0) := Ipic_tr pIpic l9 (hc 1) (hc 0) (fun k q1 q2 => hA k (by omega) (by omega))
  have sIque : Ique A' ((cup c 7 (c 7 + 1)) 10) ((cup c 7 (c 7 + 1)) 1) ((cup c 7 (c 7 + 1)) 0) := Ique_tr pIque l10 (hc 1) (hc 0) (fun k q1 q2 => hA k (by omega) (by omega)) (fun i q => hA _ (by omega) (by omega))
  have sIact : Iact A' (cup c 7 (c 7 + 1)) := Iact_tr pIact l11 rfl (hc 0) (fun _ => kof_w (hc 3) (hc 4) (hc 7) (hc 8) (hc 10)) (fun k q1 q2 => hA k (by omega) (by omega))
  have sIcld : Icld A' ((cup c 7 (c 7 + 1)) 12) ((cup c 7 (c 7 + 1)) 1) := Icld_tr pIcld l12 (hc 1) (fun k q1 q2 => hA k (by omega) (by omega))
  have sIwat : Iwat A' ((cup c 7 (c 7 + 1)) 13) ((cup c 7 (c 7 + 1)) 1) := Iwat_tr pIwat l13 (hc 1) (fun k q1 q2 => hA k (by omega) (by omega))
  have sRscal : Rscal w' 3 A' := Rscal_tr pRscal (fun j q => hw 3 j (by omega) (by omega) (by omega)) (hA 0 (by omega) (by omega)) (hA 2 (by omega) (by omega)) (fun k q1 q2 => hA k (by omega) (by omega))
  have sRsort : Rsort w' 3 A' := Rsort_tr pRsort (Or.inl rfl) (fun o j q1 q2 q3 => hw (3 + o) j (by omega) (by omega) (by omega)) (fun k q1 q2 => hA k (by omega) (by omega))
  have sRsite : Rsite w' 3 A' := Rsite_tr pRsite (Or.inl rfl) (fun o j q1 q2 q3 => hw (3 + o) j (by omega) (by omega) (by omega)) (hA 1 (by omega) (by omega)) (fun k q1 q2 => hA k (by omega) (by omega))
  have sRthing : Rthing w' 3 A' := Rthing_tr pRthing (Or.inl rfl) (fun o j q1 q2 q3 => hw (3 + o) j (by omega) (by omega) (by omega)) (hA 3 (by omega) (by omega)) (fun k q1 q2 => hA k (by omega) (by omega))
  have sRmove : Rmove w' 3 A' := Rmove_tr pRmove (Or.inl rfl) (fun o j q1 q2 q3 => hw (3 + o) j (by omega) (by omega) (by omega)) (hA 4 (by omega) (by omega)) (fun k q1 q2 => hA k (by omega) (by omega))
  have sRseal : Rseal w' 3 A' := Rseal_tr pRseal (Or.inl rfl) (fun o j q1 q2 q3 => hw (3 + o) j (by omega) (by omega) (by omega)) (hA 5 (by omega) (by omega)) (fun k q1 q2 => hA k (by omega) (by omega))
  have sRtold : Rtold w' 3 A' := by
    exact RT_ap (n := c 7) (p_Rtold h) (h_7 h) (by omega) (by omega) (hw 24 0 (by omega) (by omega) (by omega)) e2 (fun j hj => hw 25 j (by omega) (by omega) (by omega)) ec (fun k q1 q2 => hA k (by omega) (by omega)) hv
  have sRvis : Rvis w' 3 A' := Rvis_tr pRvis (Or.inl rfl) (fun o j q1 q2 q3 => hw (3 + o) j (by omega) (by omega) (by omega)) (hA 8 (by omega) (by omega)) (fun k q1 q2 => hA k (by omega) (by omega))
  have sRpic : Rpic w' 3 A' := Rpic_tr pRpic (Or.inl rfl) (fun o j q1 q2 q3 => hw (3 + o) j (by omega) (by omega) (by omega)) (hA 9 (by omega) (by omega)) (fun k q1 q2 => hA k (by omega) (by omega))
  have sRque : Rque w' 3 A' := Rque_tr pRque (Or.inl rfl) (fun o j q1 q2 q3 => hw (3 + o) j (by omega) (by omega) (by omega)) (hA 10 (by omega) (by omega)) (fun k q1 q2 => hA k (by omega) (by omega))
  have sRact : Ract w' 3 A' := Ract_tr pRact (Or.inl rfl) (fun o j q1 q2 q3 => hw (3 + o) j (by omega) (by omega) (by omega)) (hA 11 (by omega) (by omega)) (fun k q1 q2 => hA k (by omega) (by omega))
  have sRcld : Rcld w' 3 A' := Rcld_tr pRcld (Or.inl rfl) (fun o j q1 q2 q3 => hw (3 + o) j (by omega) (by omega) (by omega)) (hA 12 (by omega) (by omega)) (fun k q1 q2 => hA k (by omega) (by omega))
  have sRwat : Rwat w' 3 A' := Rwat_tr pRwat (Or.inl rfl) (fun o j q1 q2 q3 => hw (3 + o) j (by omega) (by omega) (by omega)) (hA 13 (by omega) (by omega)) (fun k q1 q2 => hA k (by omega) (by omega))
  have sRchain : Rchain w' 3 A' := Rchain_tr pRchain (fun o j q1 q2 q3 q4 => hw (3 + o) j (by omega) (by omega) (by omega)) (hA 3 (by omega) (by omega)) (hA 4 (by omega) (by omega)) (fun m q => hA _ (by omega) (by omega))
  have sRvis2 : Rvis2 w' 3 A' (cup c 7 (c 7 + 1)) := Rvis2_tr pRvis2 ⟨l8, l5, i5⟩ pIvis rfl (fun j q => hw 27 j (by omega) (by omega) (by omega)) (fun k q1 q2 => hA k (by omega) (by omega)) (fun k q1 q2 => hA k (by omega) (by omega))
  have sRact2 : Ract2 w' 3 A' (cup c 7 (c 7 + 1)) := Ract2_tr pRact2 ⟨l11, l3, l4, l7, l8, l10⟩ pIact rfl (fun j q => hw 33 j (by omega) (by omega) (by omega)) (fun k q1 q2 => hA k (by omega) (by omega)) (fun i q => hA _ (by omega) (by omega)) (fun i q => hA _ (by omega) (by omega)) (fun i q => hA _ (by omega) (by omega)) (fun i q => hA _ (by omega) (by omega))
  have sRway : Rway w' 3 A' (cup c 7 (c 7 + 1)) := Rway_tr pRway (Or.inl rfl) ⟨l1, l2⟩ rfl rfl (fun o j q1 q2 q3 => hw (3 + o) j (by omega) (by omega) (by omega)) (fun k q1 q2 => hA k (by omega) (by omega))
  have sRtext : Rtext w' 3 A' (cup c 7 (c 7 + 1)) := Rtext_tr pRtext (Or.inl rfl) l6 rfl (fun o j q1 q2 q3 => hw (3 + o) j (by omega) (by omega) (by omega)) (fun k q1 q2 => hA k (by omega) (by omega))
  exact ⟨⟨z0, z1, sI2, sIsort, sIsite, sIroad, sIthing, sImove, sIseal, sItold, sIvis, sIpic, sIque, sIact, sIcld, sIwat⟩, sRscal, sRsort, sRsite, sRthing, sRmove, sRseal, sRtold, sRvis, sRpic, sRque, sRact, sRcld, sRwat, sRchain, sRvis2, sRact2, sRway, sRtext⟩

theorem P_vis (h : RA w 3 A c K) {s : Nat} (hs : s < c 1) (h01 : 1 ≤ c 0) (hn : c 8 < 100) (e2 : w'.1 26 2 = nI (c 8 + 1)) (ec : A' 8 = nI (c 8 + 1)) (hv : ∀ j, j < 10 → cmV j < 12 → w'.1 27 (c 8 * 10 + j) = A' (11280 + 12 * c 8 + cmV j)) (es : A' (11280 + 12 * c 8 + 1) = nI s) (ed : A' (11280 + 12 * c 8 + 2) = nI (c 0)) (el : vb (A' (11280 + 12 * c 8)) 0 1) (en : ∀ j, j < 5 → vb (A' (11280 + 12 * c 8 + 3 + j)) 0 40) (e8 : A' (11280 + 12 * c 8 + 8) = -1 ∨ vb (A' (11280 + 12 * c 8 + 8)) 0 1) (e9 : A' (11280 + 12 * c 8 + 8) = 1 → ∃ l, l < c 5 ∧ A' (11280 + 12 * c 8 + 9) = nI l ∧ w'.1 27 (c 8 * 10 + 9) = A (1520 + 4 * l + 1)) (hw : ∀ b j, 3 ≤ b → b < 38 → ¬ (b = 26 ∧ j = 2 ∨ b = 27 ∧ c 8 * 10 ≤ j ∧ j < c 8 * 10 + 10) → w'.1 b j = w.1 b j) (hA : ∀ k, k < 21000 → ¬ (k = 8 ∨ k = 11280 + 12 * c 8 ∨ k = 11280 + 12 * c 8 + 1 ∨ k = 11280 + 12 * c 8 + 2 ∨ k = 11280 + 12 * c 8 + 3 ∨ k = 11280 + 12 * c 8 + 4 ∨ k = 11280 + 12 * c 8 + 5 ∨ k = 11280 + 12 * c 8 + 6 ∨ k = 11280 + 12 * c 8 + 7 ∨ k = 11280 + 12 * c 8 + 8 ∨ k = 11280 + 12 * c 8 + 9) → A' k = A k) : RA w' 3 A' (cup c 8 (c 8 + 1)) (K) := by
  have l0 := l_0 h
  have l1 := l_1 h
  have l2 := l_2 h
  have l3 := l_3 h
  have l4 := l_4 h
  have l5 := l_5 h
  have l6 := l_6 h
  have l7 := l_7 h
  have l8 := l_8 h
  have l9 := l_9 h
  have l10 := l_10 h
  have l11 := l_11 h
  have l12 := l_12 h
  have l13 := l_13 h
  have lK := (l_K h).1
  have lK2 := (l_K h).2
  have pI2 := p_I2 h
  have pIsort := p_Isort h
  have pIsite := p_Isite h
  have pIroad := p_Iroad h
  have pIthing := p_Ithing h
  have pImove := p_Imove h
  have pIseal := p_Iseal h
  have pItold := p_Itold h
  have pIpic := p_Ipic h
  have pIque := p_Ique h
  have pIact := p_Iact h
  have pIcld := p_Icld h
  have pIwat := p_Iwat h
  have pRscal := p_Rscal h
  have pRsort := p_Rsort h
  have pRsite := p_Rsite h
  have pRthing := p_Rthing h
  have pRmove := p_Rmove h
  have pRseal := p_Rseal h
  have pRtold := p_Rtold h
  have pRpic := p_Rpic h
  have pRque := p_Rque h
  have pRact := p_Ract h
  have pRcld := p_Rcld h
  have pRwat := p_Rwat h
  have pRchain := p_Rchain h
  have pRact2 := p_Ract2 h
  have pRway := p_Rway h
  have pRtext := p_Rtext h
  have hc : ∀ i, c i ≤ (cup c 8 (c 8 + 1)) i := fun i => by
    unfold cup
    by_cases q8 : i = 8
    · rw [if_pos q8, q8]; omega
    rw [if_neg q8]
    exact Nat.le_refl _
  have i5 : c 5 ≤ 40 := l5
  have z0 : I0 A' (cup c 8 (c 8 + 1)) := fun i hi => by
    unfold cup
    by_cases q8 : i = 8
    · rw [if_pos q8, q8]; exact ec
    rw [if_neg q8]
    rw [hA i (by omega) (by omega)]; exact p_I0 h i hi
  have z1 : I1 (cup c 8 (c 8 + 1)) (K) := ⟨l0, l1, l2, l3, l4, l5, l6, l7, (show c 8 + 1 ≤ 100 from by omega), l9, l10, (show c 11 ≤ K from by omega), l12, l13, (show K ≤ 512 from by omega)⟩
  have sI2 : I2 A' := I2_tr pI2 (fun k q1 q2 => hA k (by omega) (by omega))
  have sIsort : Isort A' := Isort_tr pIsort (fun k q1 q2 => hA k (by omega) (by omega))
  have sIsite : Isite A' ((cup c 8 (c 8 + 1)) 1) := Isite_tr pIsite l1 (fun k q1 q2 => hA k (by omega) (by omega))
  have sIroad : Iroad A' ((cup c 8 (c 8 + 1)) 2) ((cup c 8 (c 8 + 1)) 1) := Iroad_tr pIroad l2 (hc 1) (fun k q1 q2 => hA k (by omega) (by omega)) (fun i q => hA _ (by omega) (by omega))
  have sIthing : Ithing A' ((cup c 8 (c 8 + 1)) 3) ((cup c 8 (c 8 + 1)) 1) ((cup c 8 (c 8 + 1)) 0) := Ithing_tr pIthing l3 (hc 1) (hc 0) (fun k q1 q2 => hA k (by omega) (by omega)) (fun i q => hA _ (by omega) (by omega))
  have sImove : Imove A' ((cup c 8 (c 8 + 1)) 4) ((cup c 8 (c 8 + 1)) 3) ((cup c 8 (c 8 + 1)) 1) ((cup c 8 (c 8 + 1)) 0) := Imove_tr pImove l4 (hc 3) (hc 1) (hc 0) (fun k q1 q2 => hA k (by omega) (by omega)) (fun i q => hA _ (by omega) (by omega)) (fun i q => hA _ (by omega) (by omega))
  have sIseal : Iseal A' ((cup c 8 (c 8 + 1)) 5) ((cup c 8 (c 8 + 1)) 1) ((cup c 8 (c 8 + 1)) 0) := Iseal_tr pIseal l5 (hc 1) (hc 0) (fun k q1 q2 => hA k (by omega) (by omega))
  have sItold : Itold A' ((cup c 8 (c 8 + 1)) 7) ((cup c 8 (c 8 + 1)) 3) ((cup c 8 (c 8 + 1)) 1) ((cup c 8 (c 8 + 1)) 0) := Itold_tr pItold l7 (hc 3) (hc 1) (hc 0) (fun k q1 q2 => hA k (by omega) (by omega))
  have sIvis : Ivis A' (c 8 + 1) (c 1) (c 5) (c 0) := by
    intro i hi
    by_cases q : i < c 8
    · obtain ⟨x, y, h1, h2, h3, h4, h5, h6, h7, h8, h9⟩ := p_Ivis h i q
      refine ⟨x, y, ?_⟩
      simp (disch := omega) only [hA]
      refine ⟨h1, h2, h3, h4, h5, h6, fun j hj => ?_, h8, h9⟩
      rw [hA _ (by omega) (by omega)]; exact h7 j hj
    · have e : i = c 8 := by omega
      subst e
      exact ⟨s, c 0, es, ed, hs, h01, Nat.le_refl _, el, en, e8, fun z => by obtain ⟨l, q1, q2, q3⟩ := e9 z; exact ⟨l, q1, q2⟩⟩
  have sIpic : Ipic A' ((cup c 8 (c 8 + 1)) 9) ((cup c 8 (c 8 + 1)) 1) ((cup c 8 (c 8 + 1)) 0) := Ipic_tr pIpic l9 (hc 1) (hc 0) (fun k q1 q2 => hA k (by omega) (by omega))
  have sIque : Ique A' ((cup c 8 (c 8 + 1)) 10) ((cup c 8 (c 8 + 1)) 1) ((cup c 8 (c 8 + 1)) 0) := Ique_tr pIque l10 (hc 1) (hc 0) (fun k q1 q2 => hA k (by omega) (by omega)) (fun i q => hA _ (by omega) (by omega))
  have sIact : Iact A' (cup c 8 (c 8 + 1)) := Iact_tr pIact l11 rfl (hc 0) (fun _ => kof_w (hc 3) (hc 4) (hc 7) (hc 8) (hc 10)) (fun k q1 q2 => hA k (by omega) (by omega))
  have sIcld : Icld A' ((cup c 8 (c 8 + 1)) 12) ((cup c 8 (c 8 + 1)) 1) := Icld_tr pIcld l12 (hc 1) (fun k q1 q2 => hA k (by omega) (by omega))
  have sIwat : Iwat A' ((cup c 8 (c 8 + 1)) 13) ((cup c 8 (c 8 + 1)) 1) := Iwat_tr pIwat l13 (hc 1) (fun k q1 q2 => hA k (by omega) (by omega))
  have sRscal : Rscal w' 3 A' := Rscal_tr pRscal (fun j q => hw 3 j (by omega) (by omega) (by omega)) (hA 0 (by omega) (by omega)) (hA 2 (by omega) (by omega)) (fun k q1 q2 => hA k (by omega) (by omega))
  have sRsort : Rsort w' 3 A' := Rsort_tr pRsort (Or.inl rfl) (fun o j q1 q2 q3 => hw (3 + o) j (by omega) (by omega) (by omega)) (fun k q1 q2 => hA k (by omega) (by omega))
  have sRsite : Rsite w' 3 A' := Rsite_tr pRsite (Or.inl rfl) (fun o j q1 q2 q3 => hw (3 + o) j (by omega) (by omega) (by omega)) (hA 1 (by omega) (by omega)) (fun k q1 q2 => hA k (by omega) (by omega))
  have sRthing : Rthing w' 3 A' := Rthing_tr pRthing (Or.inl rfl) (fun o j q1 q2 q3 => hw (3 + o) j (by omega) (by omega) (by omega)) (hA 3 (by omega) (by omega)) (fun k q1 q2 => hA k (by omega) (by omega))
  have sRmove : Rmove w' 3 A' := Rmove_tr pRmove (Or.inl rfl) (fun o j q1 q2 q3 => hw (3 + o) j (by omega) (by omega) (by omega)) (hA 4 (by omega) (by omega)) (fun k q1 q2 => hA k (by omega) (by omega))
  have sRseal : Rseal w' 3 A' := Rseal_tr pRseal (Or.inl rfl) (fun o j q1 q2 q3 => hw (3 + o) j (by omega) (by omega) (by omega)) (hA 5 (by omega) (by omega)) (fun k q1 q2 => hA k (by omega) (by omega))
  have sRtold : Rtold w' 3 A' := Rtold_tr pRtold (Or.inl rfl) (fun o j q1 q2 q3 => hw (3 + o) j (by omega) (by omega) (by omega)) (hA 7 (by omega) (by omega)) (fun k q1 q2 => hA k (by omega) (by omega))
  have sRvis : Rvis w' 3 A' := by
    exact RT_ap (n := c 8) (p_Rvis h) (h_8 h) (by omega) (by omega) (hw 26 0 (by omega) (by omega) (by omega)) e2 (fun j hj => hw 27 j (by omega) (by omega) (by omega)) ec (fun k q1 q2 => hA k (by omega) (by omega)) hv
  have sRpic : Rpic w' 3 A' := Rpic_tr pRpic (Or.inl rfl) (fun o j q1 q2 q3 => hw (3 + o) j (by omega) (by omega) (by omega)) (hA 9 (by omega) (by omega)) (fun k q1 q2 => hA k (by omega) (by omega))
  have sRque : Rque w' 3 A' := Rque_tr pRque (Or.inl rfl) (fun o j q1 q2 q3 => hw (3 + o) j (by omega) (by omega) (by omega)) (hA 10 (by omega) (by omega)) (fun k q1 q2 => hA k (by omega) (by omega))
  have sRact : Ract w' 3 A' := Ract_tr pRact (Or.inl rfl) (fun o j q1 q2 q3 => hw (3 + o) j (by omega) (by omega) (by omega)) (hA 11 (by omega) (by omega)) (fun k q1 q2 => hA k (by omega) (by omega))
  have sRcld : Rcld w' 3 A' := Rcld_tr pRcld (Or.inl rfl) (fun o j q1 q2 q3 => hw (3 + o) j (by omega) (by omega) (by omega)) (hA 12 (by omega) (by omega)) (fun k q1 q2 => hA k (by omega) (by omega))
  have sRwat : Rwat w' 3 A' := Rwat_tr pRwat (Or.inl rfl) (fun o j q1 q2 q3 => hw (3 + o) j (by omega) (by omega) (by omega)) (hA 13 (by omega) (by omega)) (fun k q1 q2 => hA k (by omega) (by omega))
  have sRchain : Rchain w' 3 A' := Rchain_tr pRchain (fun o j q1 q2 q3 q4 => hw (3 + o) j (by omega) (by omega) (by omega)) (hA 3 (by omega) (by omega)) (hA 4 (by omega) (by omega)) (fun m q => hA _ (by omega) (by omega))
  have sRvis2 : Rvis2 w' 3 A' (cup c 8 (c 8 + 1)) := by
    intro i hi
    have hi' : i < c 8 + 1 := hi
    by_cases q : i < c 8
    · have g := p_Rvis2 h i q
      rw [hA _ (by omega) (by omega), hA _ (by omega) (by omega)]
      intro g1 l g2 g3
      have g3' : l < c 5 := g3
      have k1 := g g1 l g2 g3
      rw [hw 27 (i * 10 + 9) (by omega) (by omega) (by omega), hA _ (by omega) (by omega)]
      exact k1
    · have e : i = c 8 := by omega
      subst e
      intro z l z2 z3
      have z3' : l < c 5 := z3
      obtain ⟨l', q1, q2, q3⟩ := e9 z
      have e : l' = l := (nI_eq (by omega) (by omega)).mp (q2.symm.trans z2)
      subst e
      rw [hA _ (by omega) (by omega)]
      exact q3
  have sRact2 : Ract2 w' 3 A' (cup c 8 (c 8 + 1)) := Ract2_tr pRact2 ⟨l11, l3, l4, l7, l8, l10⟩ pIact rfl (fun j q => hw 33 j (by omega) (by omega) (by omega)) (fun k q1 q2 => hA k (by omega) (by omega)) (fun i q => hA _ (by omega) (by omega)) (fun i q => hA _ (by omega) (by omega)) (fun i q => hA _ (by omega) (by omega)) (fun i q => hA _ (by omega) (by omega))
  have sRway : Rway w' 3 A' (cup c 8 (c 8 + 1)) := Rway_tr pRway (Or.inl rfl) ⟨l1, l2⟩ rfl rfl (fun o j q1 q2 q3 => hw (3 + o) j (by omega) (by omega) (by omega)) (fun k q1 q2 => hA k (by omega) (by omega))
  have sRtext : Rtext w' 3 A' (cup c 8 (c 8 + 1)) := Rtext_tr pRtext (Or.inl rfl) l6 rfl (fun o j q1 q2 q3 => hw (3 + o) j (by omega) (by omega) (by omega)) (fun k q1 q2 => hA k (by omega) (by omega))
  exact ⟨⟨z0, z1, sI2, sIsort, sIsite, sIroad, sIthing, sImove, sIseal, sItold, sIvis, sIpic, sIque, sIact, sIcld, sIwat⟩, sRscal, sRsort, sRsite, sRthing, sRmove, sRseal, sRtold, sRvis, sRpic, sRque, sRact, sRcld, sRwat, sRchain, sRvis2, sRact2, sRway, sRtext⟩

theorem P_que (h : RA w 3 A c K) {l s : Nat} (hl : l ≤ 1) (hs : s < c 1) (hls : A (40 + 8 * s) = nI (1 - l)) (hn : c 10 < 50) (e2 : w'.1 30 2 = nI (c 10 + 1)) (ec : A' 10 = nI (c 10 + 1)) (hv : ∀ j, j < 3 → cmQ j < 4 → w'.1 31 (c 10 * 3 + j) = A' (12880 + 4 * c 10 + cmQ j)) (el : A' (12880 + 4 * c 10) = nI l) (es : A' (12880 + 4 * c 10 + 1) = nI s) (ed : A' (12880 + 4 * c 10 + 2) = nI (c 0)) (ea : A' (12880 + 4 * c 10 + 3) = -1) (hw : ∀ b j, 3 ≤ b → b < 38 → ¬ (b = 30 ∧ j = 2 ∨ b = 31 ∧ c 10 * 3 ≤ j ∧ j < c 10 * 3 + 3) → w'.1 b j = w.1 b j) (hA : ∀ k, k < 21000 → ¬ (k = 10 ∨ k = 12880 + 4 * c 10 ∨ k = 12880 + 4 * c 10 + 1 ∨ k = 12880 + 4 * c 10 + 2 ∨ k = 12880 + 4 * c 10 + 3) → A' k = A k) : RA w' 3 A' (cup c 10 (c 10 + 1)) (K) := by
  have l0 := l_0 h
  have l1 := l_1 h
  have l2 := l_2 h
  have l3 := l_3 h
  have l4 := l_4 h
  have l5 := l_5 h
  have l6 := l_6 h
  have l7 := l_7 h
  have l8 := l_8 h
  have l9 := l_9 h
  have l10 := l_10 h
  have l11 := l_11 h
  have l12 := l_12 h
  have l13 := l_13 h
  have lK := (l_K h).1
  have lK2 := (l_K h).2
  have pI2 := p_I2 h
  have pIsort := p_Isort h
  have pIsite := p_Isite h
  have pIroad := p_Iroad h
  have pIthing := p_Ithing h
  have pImove := p_Imove h
  have pIseal := p_Iseal h
  have pItold := p_Itold h
  have pIvis := p_Ivis h
  have pIpic := p_Ipic h
  have pIact := p_Iact h
  have pIcld := p_Icld h
  have pIwat := p_Iwat h
  have pRscal := p_Rscal h
  have pRsort := p_Rsort h
  have pRsite := p_Rsite h
  have pRthing := p_Rthing h
  have pRmove := p_Rmove h
  have pRseal := p_Rseal h
  have pRtold := p_Rtold h
  have pRvis := p_Rvis h
  have pRpic := p_Rpic h
  have pRact := p_Ract h
  have pRcld := p_Rcld h
  have pRwat := p_Rwat h
  have pRchain := p_Rchain h
  have pRvis2 := p_Rvis2 h
  have pRact2 := p_Ract2 h
  have pRway := p_Rway h
  have pRtext := p_Rtext h
  have hc : ∀ i, c i ≤ (cup c 10 (c 10 + 1)) i := fun i => by
    unfold cup
    by_cases q10 : i = 10
    · rw [if_pos q10, q10]; omega
    rw [if_neg q10]
    exact Nat.le_refl _
  have i5 : c 5 ≤ 40 := l5
  have z0 : I0 A' (cup c 10 (c 10 + 1)) := fun i hi => by
    unfold cup
    by_cases q10 : i = 10
    · rw [if_pos q10, q10]; exact ec
    rw [if_neg q10]
    rw [hA i (by omega) (by omega)]; exact p_I0 h i hi
  have z1 : I1 (cup c 10 (c 10 + 1)) (K) := ⟨l0, l1, l2, l3, l4, l5, l6, l7, l8, l9, (show c 10 + 1 ≤ 50 from by omega), (show c 11 ≤ K from by omega), l12, l13, (show K ≤ 512 from by omega)⟩
  have sI2 : I2 A' := I2_tr pI2 (fun k q1 q2 => hA k (by omega) (by omega))
  have sIsort : Isort A' := Isort_tr pIsort (fun k q1 q2 => hA k (by omega) (by omega))
  have sIsite : Isite A' ((cup c 10 (c 10 + 1)) 1) := Isite_tr pIsite l1 (fun k q1 q2 => hA k (by omega) (by omega))
  have sIroad : Iroad A' ((cup c 10 (c 10 + 1)) 2) ((cup c 10 (c 10 + 1)) 1) := Iroad_tr pIroad l2 (hc 1) (fun k q1 q2 => hA k (by omega) (by omega)) (fun i q => hA _ (by omega) (by omega))
  have sIthing : Ithing A' ((cup c 10 (c 10 + 1)) 3) ((cup c 10 (c 10 + 1)) 1) ((cup c 10 (c 10 + 1)) 0) := Ithing_tr pIthing l3 (hc 1) (hc 0) (fun k q1 q2 => hA k (by omega) (by omega)) (fun i q => hA _ (by omega) (by omega))
  have sImove : Imove A' ((cup c 10 (c 10 + 1)) 4) ((cup c 10 (c 10 + 1)) 3) ((cup c 10 (c 10 + 1)) 1) ((cup c 10 (c 10 + 1)) 0) := Imove_tr pImove l4 (hc 3) (hc 1) (hc 0) (fun k q1 q2 => hA k (by omega) (by omega)) (fun i q => hA _ (by omega) (by omega)) (fun i q => hA _ (by omega) (by omega))
  have sIseal : Iseal A' ((cup c 10 (c 10 + 1)) 5) ((cup c 10 (c 10 + 1)) 1) ((cup c 10 (c 10 + 1)) 0) := Iseal_tr pIseal l5 (hc 1) (hc 0) (fun k q1 q2 => hA k (by omega) (by omega))
  have sItold : Itold A' ((cup c 10 (c 10 + 1)) 7) ((cup c 10 (c 10 + 1)) 3) ((cup c 10 (c 10 + 1)) 1) ((cup c 10 (c 10 + 1)) 0) := Itold_tr pItold l7 (hc 3) (hc 1) (hc 0) (fun k q1 q2 => hA k (by omega) (by omega))
  have sIvis : Ivis A' ((cup c 10 (c 10 + 1)) 8) ((cup c 10 (c 10 + 1)) 1) ((cup c 10 (c 10 + 1)) 5) ((cup c 10 (c 10 + 1)) 0) := Ivis_tr pIvis l8 (hc 1) (hc 5) (hc 0) (fun k q1 q2 => hA k (by omega) (by omega))
  have sIpic : Ipic A' ((cup c 10 (c 10 + 1)) 9) ((cup c 10 (c 10 + 1)) 1) ((cup c 10 (c 10 + 1)) 0) := Ipic_tr pIpic l9 (hc 1) (hc 0) (fun k q1 q2 => hA k (by omega) (by omega))
  have sIque : Ique A' (c 10 + 1) (c 1) (c 0) := by
    intro i hi
    by_cases q : i < c 10
    · obtain ⟨x, y, z, h1, h2, h3, h4, h5, h6, h7, h8⟩ := p_Ique h i q
      refine ⟨x, y, z, ?_⟩
      simp (disch := omega) only [hA]
      exact ⟨h1, h2, h3, h4, h5, h6, h7, h8⟩
    · have e : i = c 10 := by omega
      subst e
      exact ⟨l, s, c 0, el, es, ed, hl, hs, Nat.le_refl _, (hA _ (by omega) (by omega)).trans hls, Or.inl ea⟩
  have sIact : Iact A' (cup c 10 (c 10 + 1)) := Iact_tr pIact l11 rfl (hc 0) (fun _ => kof_w (hc 3) (hc 4) (hc 7) (hc 8) (hc 10)) (fun k q1 q2 => hA k (by omega) (by omega))
  have sIcld : Icld A' ((cup c 10 (c 10 + 1)) 12) ((cup c 10 (c 10 + 1)) 1) := Icld_tr pIcld l12 (hc 1) (fun k q1 q2 => hA k (by omega) (by omega))
  have sIwat : Iwat A' ((cup c 10 (c 10 + 1)) 13) ((cup c 10 (c 10 + 1)) 1) := Iwat_tr pIwat l13 (hc 1) (fun k q1 q2 => hA k (by omega) (by omega))
  have sRscal : Rscal w' 3 A' := Rscal_tr pRscal (fun j q => hw 3 j (by omega) (by omega) (by omega)) (hA 0 (by omega) (by omega)) (hA 2 (by omega) (by omega)) (fun k q1 q2 => hA k (by omega) (by omega))
  have sRsort : Rsort w' 3 A' := Rsort_tr pRsort (Or.inl rfl) (fun o j q1 q2 q3 => hw (3 + o) j (by omega) (by omega) (by omega)) (fun k q1 q2 => hA k (by omega) (by omega))
  have sRsite : Rsite w' 3 A' := Rsite_tr pRsite (Or.inl rfl) (fun o j q1 q2 q3 => hw (3 + o) j (by omega) (by omega) (by omega)) (hA 1 (by omega) (by omega)) (fun k q1 q2 => hA k (by omega) (by omega))
  have sRthing : Rthing w' 3 A' := Rthing_tr pRthing (Or.inl rfl) (fun o j q1 q2 q3 => hw (3 + o) j (by omega) (by omega) (by omega)) (hA 3 (by omega) (by omega)) (fun k q1 q2 => hA k (by omega) (by omega))
  have sRmove : Rmove w' 3 A' := Rmove_tr pRmove (Or.inl rfl) (fun o j q1 q2 q3 => hw (3 + o) j (by omega) (by omega) (by omega)) (hA 4 (by omega) (by omega)) (fun k q1 q2 => hA k (by omega) (by omega))
  have sRseal : Rseal w' 3 A' := Rseal_tr pRseal (Or.inl rfl) (fun o j q1 q2 q3 => hw (3 + o) j (by omega) (by omega) (by omega)) (hA 5 (by omega) (by omega)) (fun k q1 q2 => hA k (by omega) (by omega))
  have sRtold : Rtold w' 3 A' := Rtold_tr pRtold (Or.inl rfl) (fun o j q1 q2 q3 => hw (3 + o) j (by omega) (by omega) (by omega)) (hA 7 (by omega) (by omega)) (fun k q1 q2 => hA k (by omega) (by omega))
  have sRvis : Rvis w' 3 A' := Rvis_tr pRvis (Or.inl rfl) (fun o j q1 q2 q3 => hw (3 + o) j (by omega) (by omega) (by omega)) (hA 8 (by omega) (by omega)) (fun k q1 q2 => hA k (by omega) (by omega))
  have sRpic : Rpic w' 3 A' := Rpic_tr pRpic (Or.inl rfl) (fun o j q1 q2 q3 => hw (3 + o) j (by omega) (by omega) (by omega)) (hA 9 (by omega) (by omega)) (fun k q1 q2 => hA k (by omega) (by omega))
  have sRque : Rque w' 3 A' := by
    exact RT_ap (n := c 10) (p_Rque h) (h_10 h) (by omega) (by omega) (hw 30 0 (by omega) (by omega) (by omega)) e2 (fun j hj => hw 31 j (by omega) (by omega) (by omega)) ec (fun k q1 q2 => hA k (by omega) (by omega)) hv
  have sRact : Ract w' 3 A' := Ract_tr pRact (Or.inl rfl) (fun o j q1 q2 q3 => hw (3 + o) j (by omega) (by omega) (by omega)) (hA 11 (by omega) (by omega)) (fun k q1 q2 => hA k (by omega) (by omega))
  have sRcld : Rcld w' 3 A' := Rcld_tr pRcld (Or.inl rfl) (fun o j q1 q2 q3 => hw (3 + o) j (by omega) (by omega) (by omega)) (hA 12 (by omega) (by omega)) (fun k q1 q2 => hA k (by omega) (by omega))
  have sRwat : Rwat w' 3 A' := Rwat_tr pRwat (Or.inl rfl) (fun o j q1 q2 q3 => hw (3 + o) j (by omega) (by omega) (by omega)) (hA 13 (by omega) (by omega)) (fun k q1 q2 => hA k (by omega) (by omega))
  have sRchain : Rchain w' 3 A' := Rchain_tr pRchain (fun o j q1 q2 q3 q4 => hw (3 + o) j (by omega) (by omega) (by omega)) (hA 3 (by omega) (by omega)) (hA 4 (by omega) (by omega)) (fun m q => hA _ (by omega) (by omega))
  have sRvis2 : Rvis2 w' 3 A' (cup c 10 (c 10 + 1)) := Rvis2_tr pRvis2 ⟨l8, l5, i5⟩ pIvis rfl (fun j q => hw 27 j (by omega) (by omega) (by omega)) (fun k q1 q2 => hA k (by omega) (by omega)) (fun k q1 q2 => hA k (by omega) (by omega))
  have sRact2 : Ract2 w' 3 A' (cup c 10 (c 10 + 1)) := Ract2_tr pRact2 ⟨l11, l3, l4, l7, l8, l10⟩ pIact rfl (fun j q => hw 33 j (by omega) (by omega) (by omega)) (fun k q1 q2 => hA k (by omega) (by omega)) (fun i q => hA _ (by omega) (by omega)) (fun i q => hA _ (by omega) (by omega)) (fun i q => hA _ (by omega) (by omega)) (fun i q => hA _ (by omega) (by omega))
  have sRway : Rway w' 3 A' (cup c 10 (c 10 + 1)) := Rway_tr pRway (Or.inl rfl) ⟨l1, l2⟩ rfl rfl (fun o j q1 q2 q3 => hw (3 + o) j (by omega) (by omega) (by omega)) (fun k q1 q2 => hA k (by omega) (by omega))
  have sRtext : Rtext w' 3 A' (cup c 10 (c 10 + 1)) := Rtext_tr pRtext (Or.inl rfl) l6 rfl (fun o j q1 q2 q3 => hw (3 + o) j (by omega) (by omega) (by omega)) (fun k q1 q2 => hA k (by omega) (by omega))
  exact ⟨⟨z0, z1, sI2, sIsort, sIsite, sIroad, sIthing, sImove, sIseal, sItold, sIvis, sIpic, sIque, sIact, sIcld, sIwat⟩, sRscal, sRsort, sRsite, sRthing, sRmove, sRseal, sRtold, sRvis, sRpic, sRque, sRact, sRcld, sRwat, sRchain, sRvis2, sRact2, sRway, sRtext⟩

theorem P_act (h : RA w 3 A c K) (hK : K < 512) {k o : Nat} (hk : k ≤ 6) (ho : o < kof k c) (hn : c 11 < 512) (e2 : w'.1 32 2 = nI (c 11 + 1)) (ec : A' 11 = nI (c 11 + 1)) (hv : ∀ j, j < 5 → cmA j < 8 → w'.1 33 (c 11 * 5 + j) = A' (13080 + 8 * c 11 + cmA j)) (ek : A' (13080 + 8 * c 11) = nI k) (ed : A' (13080 + 8 * c 11 + 1) = nI (c 0)) (el : vb (A' (13080 + 8 * c 11 + 2)) 0 1) (eo : A' (13080 + 8 * c 11 + 3) = nI o) (e4 : k = 2 → A' (13080 + 8 * c 11 + 4) = -1 ∨ vb (A' (13080 + 8 * c 11 + 4)) 0 (c 0)) (v3 : w'.1 33 (c 11 * 5 + 3) = aof A k o) (v4 : w'.1 33 (c 11 * 5 + 4) = if k = 2 then A' (13080 + 8 * c 11 + 4) else nI o) (hw : ∀ b j, 3 ≤ b → b < 38 → ¬ (b = 32 ∧ j = 2 ∨ b = 33 ∧ c 11 * 5 ≤ j ∧ j < c 11 * 5 + 5) → w'.1 b j = w.1 b j) (hA : ∀ k, k < 21000 → ¬ (k = 11 ∨ k = 13080 + 8 * c 11 ∨ k = 13080 + 8 * c 11 + 1 ∨ k = 13080 + 8 * c 11 + 2 ∨ k = 13080 + 8 * c 11 + 3 ∨ k = 13080 + 8 * c 11 + 4) → A' k = A k) : RA w' 3 A' (cup c 11 (c 11 + 1)) (K + 1) := by
  have l0 := l_0 h
  have l1 := l_1 h
  have l2 := l_2 h
  have l3 := l_3 h
  have l4 := l_4 h
  have l5 := l_5 h
  have l6 := l_6 h
  have l7 := l_7 h
  have l8 := l_8 h
  have l9 := l_9 h
  have l10 := l_10 h
  have l11 := l_11 h
  have l12 := l_12 h
  have l13 := l_13 h
  have lK := (l_K h).1
  have lK2 := (l_K h).2
  have pI2 := p_I2 h
  have pIsort := p_Isort h
  have pIsite := p_Isite h
  have pIroad := p_Iroad h
  have pIthing := p_Ithing h
  have pImove := p_Imove h
  have pIseal := p_Iseal h
  have pItold := p_Itold h
  have pIvis := p_Ivis h
  have pIpic := p_Ipic h
  have pIque := p_Ique h
  have pIcld := p_Icld h
  have pIwat := p_Iwat h
  have pRscal := p_Rscal h
  have pRsort := p_Rsort h
  have pRsite := p_Rsite h
  have pRthing := p_Rthing h
  have pRmove := p_Rmove h
  have pRseal := p_Rseal h
  have pRtold := p_Rtold h
  have pRvis := p_Rvis h
  have pRpic := p_Rpic h
  have pRque := p_Rque h
  have pRcld := p_Rcld h
  have pRwat := p_Rwat h
  have pRchain := p_Rchain h
  have pRvis2 := p_Rvis2 h
  have pRway := p_Rway h
  have pRtext := p_Rtext h
  have hc : ∀ i, c i ≤ (cup c 11 (c 11 + 1)) i := fun i => by
    unfold cup
    by_cases q11 : i = 11
    · rw [if_pos q11, q11]; omega
    rw [if_neg q11]
    exact Nat.le_refl _
  have i5 : c 5 ≤ 40 := l5
  have z0 : I0 A' (cup c 11 (c 11 + 1)) := fun i hi => by
    unfold cup
    by_cases q11 : i = 11
    · rw [if_pos q11, q11]; exact ec
    rw [if_neg q11]
    rw [hA i (by omega) (by omega)]; exact p_I0 h i hi
  have z1 : I1 (cup c 11 (c 11 + 1)) (K + 1) := ⟨l0, l1, l2, l3, l4, l5, l6, l7, l8, l9, l10, (show c 11 + 1 ≤ K + 1 from by omega), l12, l13, (show K + 1 ≤ 512 from by omega)⟩
  have sI2 : I2 A' := I2_tr pI2 (fun k q1 q2 => hA k (by omega) (by omega))
  have sIsort : Isort A' := Isort_tr pIsort (fun k q1 q2 => hA k (by omega) (by omega))
  have sIsite : Isite A' ((cup c 11 (c 11 + 1)) 1) := Isite_tr pIsite l1 (fun k q1 q2 => hA k (by omega) (by omega))
  have sIroad : Iroad A' ((cup c 11 (c 11 + 1)) 2) ((cup c 11 (c 11 + 1)) 1) := Iroad_tr pIroad l2 (hc 1) (fun k q1 q2 => hA k (by omega) (by omega)) (fun i q => hA _ (by omega) (by omega))
  have sIthing : Ithing A' ((cup c 11 (c 11 + 1)) 3) ((cup c 11 (c 11 + 1)) 1) ((cup c 11 (c 11 + 1)) 0) := Ithing_tr pIthing l3 (hc 1) (hc 0) (fun k q1 q2 => hA k (by omega) (by omega)) (fun i q => hA _ (by omega) (by omega))
  have sImove : Imove A' ((cup c 11 (c 11 + 1)) 4) ((cup c 11 (c 11 + 1)) 3) ((cup c 11 (c 11 + 1)) 1) ((cup c 11 (c 11 + 1)) 0) := Imove_tr pImove l4 (hc 3) (hc 1) (hc 0) (fun k q1 q2 => hA k (by omega) (by omega)) (fun i q => hA _ (by omega) (by omega)) (fun i q => hA _ (by omega) (by omega))
  have sIseal : Iseal A' ((cup c 11 (c 11 + 1)) 5) ((cup c 11 (c 11 + 1)) 1) ((cup c 11 (c 11 + 1)) 0) := Iseal_tr pIseal l5 (hc 1) (hc 0) (fun k q1 q2 => hA k (by omega) (by omega))
  have sItold : Itold A' ((cup c 11 (c 11 + 1)) 7) ((cup c 11 (c 11 + 1)) 3) ((cup c 11 (c 11 + 1)) 1) ((cup c 11 (c 11 + 1)) 0) := Itold_tr pItold l7 (hc 3) (hc 1) (hc 0) (fun k q1 q2 => hA k (by omega) (by omega))
  have sIvis : Ivis A' ((cup c 11 (c 11 + 1)) 8) ((cup c 11 (c 11 + 1)) 1) ((cup c 11 (c 11 + 1)) 5) ((cup c 11 (c 11 + 1)) 0) := Ivis_tr pIvis l8 (hc 1) (hc 5) (hc 0) (fun k q1 q2 => hA k (by omega) (by omega))
  have sIpic : Ipic A' ((cup c 11 (c 11 + 1)) 9) ((cup c 11 (c 11 + 1)) 1) ((cup c 11 (c 11 + 1)) 0) := Ipic_tr pIpic l9 (hc 1) (hc 0) (fun k q1 q2 => hA k (by omega) (by omega))
  have sIque : Ique A' ((cup c 11 (c 11 + 1)) 10) ((cup c 11 (c 11 + 1)) 1) ((cup c 11 (c 11 + 1)) 0) := Ique_tr pIque l10 (hc 1) (hc 0) (fun k q1 q2 => hA k (by omega) (by omega)) (fun i q => hA _ (by omega) (by omega))
  have sIact : Iact A' (cup c 11 (c 11 + 1)) := by
    intro i hi
    have hi' : i < c 11 + 1 := hi
    by_cases q : i < c 11
    · obtain ⟨x, y, z, h1, h2, h3, h4, h5, h6, h7, h8, h9⟩ := p_Iact h i q
      refine ⟨x, y, z, ?_⟩
      simp (disch := omega) only [hA]
      refine ⟨h1, h2, h3, h4, h5, h6, h7, h8, fun j d' hj => ?_⟩
      rw [hA _ (by omega) (by omega)]; exact h9 j d' hj
    · have e : i = c 11 := by omega
      subst e
      refine ⟨k, c 0, o, ek, ed, eo, hk, Nat.le_refl _, el, ho, e4, fun j d' hj hd hd2 => ?_⟩
      rw [hA _ (by omega) (by omega)] at hd
      obtain ⟨x, y, z, h1, h2, h3, h4, h5, h6, h7, h8, h9⟩ := p_Iact h j hj
      have := (nI_eq (by omega) hd2).mp (h2.symm.trans hd)
      omega
  have sIcld : Icld A' ((cup c 11 (c 11 + 1)) 12) ((cup c 11 (c 11 + 1)) 1) := Icld_tr pIcld l12 (hc 1) (fun k q1 q2 => hA k (by omega) (by omega))
  have sIwat : Iwat A' ((cup c 11 (c 11 + 1)) 13) ((cup c 11 (c 11 + 1)) 1) := Iwat_tr pIwat l13 (hc 1) (fun k q1 q2 => hA k (by omega) (by omega))
  have sRscal : Rscal w' 3 A' := Rscal_tr pRscal (fun j q => hw 3 j (by omega) (by omega) (by omega)) (hA 0 (by omega) (by omega)) (hA 2 (by omega) (by omega)) (fun k q1 q2 => hA k (by omega) (by omega))
  have sRsort : Rsort w' 3 A' := Rsort_tr pRsort (Or.inl rfl) (fun o j q1 q2 q3 => hw (3 + o) j (by omega) (by omega) (by omega)) (fun k q1 q2 => hA k (by omega) (by omega))
  have sRsite : Rsite w' 3 A' := Rsite_tr pRsite (Or.inl rfl) (fun o j q1 q2 q3 => hw (3 + o) j (by omega) (by omega) (by omega)) (hA 1 (by omega) (by omega)) (fun k q1 q2 => hA k (by omega) (by omega))
  have sRthing : Rthing w' 3 A' := Rthing_tr pRthing (Or.inl rfl) (fun o j q1 q2 q3 => hw (3 + o) j (by omega) (by omega) (by omega)) (hA 3 (by omega) (by omega)) (fun k q1 q2 => hA k (by omega) (by omega))
  have sRmove : Rmove w' 3 A' := Rmove_tr pRmove (Or.inl rfl) (fun o j q1 q2 q3 => hw (3 + o) j (by omega) (by omega) (by omega)) (hA 4 (by omega) (by omega)) (fun k q1 q2 => hA k (by omega) (by omega))
  have sRseal : Rseal w' 3 A' := Rseal_tr pRseal (Or.inl rfl) (fun o j q1 q2 q3 => hw (3 + o) j (by omega) (by omega) (by omega)) (hA 5 (by omega) (by omega)) (fun k q1 q2 => hA k (by omega) (by omega))
  have sRtold : Rtold w' 3 A' := Rtold_tr pRtold (Or.inl rfl) (fun o j q1 q2 q3 => hw (3 + o) j (by omega) (by omega) (by omega)) (hA 7 (by omega) (by omega)) (fun k q1 q2 => hA k (by omega) (by omega))
  have sRvis : Rvis w' 3 A' := Rvis_tr pRvis (Or.inl rfl) (fun o j q1 q2 q3 => hw (3 + o) j (by omega) (by omega) (by omega)) (hA 8 (by omega) (by omega)) (fun k q1 q2 => hA k (by omega) (by omega))
  have sRpic : Rpic w' 3 A' := Rpic_tr pRpic (Or.inl rfl) (fun o j q1 q2 q3 => hw (3 + o) j (by omega) (by omega) (by omega)) (hA 9 (by omega) (by omega)) (fun k q1 q2 => hA k (by omega) (by omega))
  have sRque : Rque w' 3 A' := Rque_tr pRque (Or.inl rfl) (fun o j q1 q2 q3 => hw (3 + o) j (by omega) (by omega) (by omega)) (hA 10 (by omega) (by omega)) (fun k q1 q2 => hA k (by omega) (by omega))
  have sRact : Ract w' 3 A' := by
    exact RT_ap (n := c 11) (p_Ract h) (h_11 h) (by omega) (by omega) (hw 32 0 (by omega) (by omega) (by omega)) e2 (fun j hj => hw 33 j (by omega) (by omega) (by omega)) ec (fun k q1 q2 => hA k (by omega) (by omega)) hv
  have sRcld : Rcld w' 3 A' := Rcld_tr pRcld (Or.inl rfl) (fun o j q1 q2 q3 => hw (3 + o) j (by omega) (by omega) (by omega)) (hA 12 (by omega) (by omega)) (fun k q1 q2 => hA k (by omega) (by omega))
  have sRwat : Rwat w' 3 A' := Rwat_tr pRwat (Or.inl rfl) (fun o j q1 q2 q3 => hw (3 + o) j (by omega) (by omega) (by omega)) (hA 13 (by omega) (by omega)) (fun k q1 q2 => hA k (by omega) (by omega))
  have sRchain : Rchain w' 3 A' := Rchain_tr pRchain (fun o j q1 q2 q3 q4 => hw (3 + o) j (by omega) (by omega) (by omega)) (hA 3 (by omega) (by omega)) (hA 4 (by omega) (by omega)) (fun m q => hA _ (by omega) (by omega))
  have sRvis2 : Rvis2 w' 3 A' (cup c 11 (c 11 + 1)) := Rvis2_tr pRvis2 ⟨l8, l5, i5⟩ pIvis rfl (fun j q => hw 27 j (by omega) (by omega) (by omega)) (fun k q1 q2 => hA k (by omega) (by omega)) (fun k q1 q2 => hA k (by omega) (by omega))
  have sRact2 : Ract2 w' 3 A' (cup c 11 (c 11 + 1)) := by
    have ha : ∀ x z, x ≤ 6 → z < kof x c → aof A' x z = aof A x z := fun x z q1 q2 => by
      unfold kof at q2
      unfold aof
      by_cases k1 : x = 1
      · subst k1
        have q2' : z < c 4 := q2
        rw [if_pos rfl, if_pos rfl, hA _ (by omega) (by omega)]
      · rw [if_neg k1, if_neg k1]
        by_cases k3 : x = 3
        · subst k3
          have q2' : z < c 7 := q2
          rw [if_pos rfl, if_pos rfl, hA _ (by omega) (by omega)]
        · rw [if_neg k3, if_neg k3]
          by_cases k4 : x = 4
          · subst k4
            have q2' : z < c 8 := q2
            rw [if_pos rfl, if_pos rfl, hA _ (by omega) (by omega)]
          · rw [if_neg k4, if_neg k4]
            by_cases k5 : x = 5
            · subst k5
              have q2' : z < c 10 := q2
              rw [if_pos rfl, if_pos rfl, hA _ (by omega) (by omega)]
            · rw [if_neg k5, if_neg k5]
    have kl : ∀ x z, z < kof x c → z < 201 := fun x z q => by
      unfold kof at q
      repeat' split at q
      all_goals omega
    intro i x z hi
    have hi' : i < c 11 + 1 := hi
    by_cases q : i < c 11
    · rw [hA _ (by omega) (by omega), hA _ (by omega) (by omega), hA _ (by omega) (by omega), hw 33 (i * 5 + 3) (by omega) (by omega) (by omega), hw 33 (i * 5 + 4) (by omega) (by omega) (by omega)]
      intro g1 g2 g3 g4
      obtain ⟨k', d', o', h1, h2, h3, h4, h5, h6, h7, h8, h9⟩ := p_Iact h i q
      have e1 : k' = x := (nI_eq (by omega) (by omega)).mp (h1.symm.trans g1)
      have e2 : o' = z := (nI_eq (by have := kl _ _ h7; omega) g4).mp (h3.symm.trans g3)
      subst e1; subst e2
      rw [ha _ _ h4 h7]
      exact p_Ract2 h i k' o' q g1 g2 g3 g4
    · have e : i = c 11 := by omega
      subst e
      intro g1 g2 g3 g4
      have e1 : k = x := (nI_eq (by omega) (by omega)).mp (ek.symm.trans g1)
      have e2 : o = z := (nI_eq (by have := kl _ _ ho; omega) g4).mp (eo.symm.trans g3)
      subst e1; subst e2
      rw [ha _ _ hk ho]
      exact ⟨v3, v4⟩
  have sRway : Rway w' 3 A' (cup c 11 (c 11 + 1)) := Rway_tr pRway (Or.inl rfl) ⟨l1, l2⟩ rfl rfl (fun o j q1 q2 q3 => hw (3 + o) j (by omega) (by omega) (by omega)) (fun k q1 q2 => hA k (by omega) (by omega))
  have sRtext : Rtext w' 3 A' (cup c 11 (c 11 + 1)) := Rtext_tr pRtext (Or.inl rfl) l6 rfl (fun o j q1 q2 q3 => hw (3 + o) j (by omega) (by omega) (by omega)) (fun k q1 q2 => hA k (by omega) (by omega))
  exact ⟨⟨z0, z1, sI2, sIsort, sIsite, sIroad, sIthing, sImove, sIseal, sItold, sIvis, sIpic, sIque, sIact, sIcld, sIwat⟩, sRscal, sRsort, sRsite, sRthing, sRmove, sRseal, sRtold, sRvis, sRpic, sRque, sRact, sRcld, sRwat, sRchain, sRvis2, sRact2, sRway, sRtext⟩

end MU


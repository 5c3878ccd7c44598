/-! LAYER B: visits -/
section Q9
variable {w w' v : jW} {A A' : Nat → Int32} {c ci : Nat → Nat} {K : Nat}
theorem P_jvis (h : RA w 3 A c K) (h8 : c 8 < 100) (hw : ∀ b j, 3 ≤ b → b < 38 → ¬ (b = 0) → w'.1 b j = w.1 b j) (hA : ∀ k, k < 21000 → ¬ (11280 + 12 * c 8 ≤ k ∧ k < 11280 + 12 * c 8 + 12) → A' k = A k) : RA w' 3 A' c (K) := by
  have l0 := l_0 h
  have l1 := l_1 h
  have l2 := l_2 h
  have l3 := l_3 h
  have l4 := l_4 h
  have l5 := l_5 h
  have l6 := l_6 h
  have l7 := l_7 h
  have l8 := l_8 h
  have l9 := l_9 h
  have l10 := l_10 h
  have l11 := l_11 h
  have l12 := l_12 h
  have l13 := l_13 h
  have lK := (l_K h).1
  have lK2 := (l_K h).2
  have pI2 := p_I2 h
  have pIsort := p_Isort h
  have pIsite := p_Isite h
  have pIroad := p_Iroad h
  have pIthing := p_Ithing h
  have pImove := p_Imove h
  have pIseal := p_Iseal h
  have pItold := p_Itold h
  have pIpic := p_Ipic h
  have pIque := p_Ique h
  have pIact := p_Iact h
  have pIcld := p_Icld h
  have pIwat := p_Iwat h
  have pRscal := p_Rscal h
  have pRsort := p_Rsort h
  have pRsite := p_Rsite h
  have pRthing := p_Rthing h
  have pRmove := p_Rmove h
  have pRseal := p_Rseal h
  have pRtold := p_Rtold h
  have pRpic := p_Rpic h
  have pRque := p_Rque h
  have pRact := p_Ract h
  have pRcld := p_Rcld h
  have pRwat := p_Rwat h
  have pRchain := p_Rchain h
  have pRact2 := p_Ract2 h
  have pRway := p_Rway h
  have pRtext := p_Rtext h
  have hc : ∀ i, c i ≤ c i := fun i => by
    exact Nat.le_refl _
  have i5 : c 5 ≤ 40 := l5
  have z0 : I0 A' c := fun i hi => by
    rw [hA i (by omega) (by omega)]; exact p_I0 h i hi
  have z1 : I1 c (K) := ⟨l0, l1, l2, l3, l4, l5, l6, l7, l8, l9, l10, (show c 11 ≤ K from by omega), l12, l13, (show K ≤ 512 from by omega)⟩
  have sI2 : I2 A' := I2_tr pI2 (fun k q1 q2 => hA k (by omega) (by omega))
  have sIsort : Isort A' := Isort_tr pIsort (fun k q1 q2 => hA k (by omega) (by omega))
  have sIsite : Isite A' (c 1) := Isite_tr pIsite l1 (fun k q1 q2 => hA k (by omega) (by omega))
  have sIroad : Iroad A' (c 2) (c 1) := Iroad_tr pIroad l2 (hc 1) (fun k q1 q2 => hA k (by omega) (by omega)) (fun i q => hA _ (by omega) (by omega))
  have sIthing : Ithing A' (c 3) (c 1) (c 0) := Ithing_tr pIthing l3 (hc 1) (hc 0) (fun k q1 q2 => hA k (by omega) (by omega)) (fun i q => hA _ (by omega) (by omega))
  have sImove : Imove A' (c 4) (c 3) (c 1) (c 0) := Imove_tr pImove l4 (hc 3) (hc 1) (hc 0) (fun k q1 q2 => hA k (by omega) (by omega)) (fun i q => hA _ (by omega) (by omega)) (fun i q => hA _ (by omega) (by omega))
  have sIseal : Iseal A' (c 5) (c 1) (c 0) := Iseal_tr pIseal l5 (hc 1) (hc 0) (fun k q1 q2 => hA k (by omega) (by omega))
  have sItold : Itold A' (c 7) (c 3) (c 1) (c 0) := Itold_tr pItold l7 (hc 3) (hc 1) (hc 0) (fun k q1 q2 => hA k (by omega) (by omega))
  have sIvis : Ivis A' (c 8) (c 1) (c 5) (c 0) := by
    intro i hi
    obtain ⟨x, y, h1, h2, h3, h4, h5, h6, h7, h8, h9⟩ := p_Ivis h i hi
    refine ⟨x, y, ?_⟩
    simp (disch := omega) only [hA]
    refine ⟨h1, h2, h3, h4, h5, h6, fun j hj => ?_, h8, h9⟩
    rw [hA _ (by omega) (by omega)]; exact h7 j hj
  have sIpic : Ipic A' (c 9) (c 1) (c 0) := Ipic_tr pIpic l9 (hc 1) (hc 0) (fun k q1 q2 => hA k (by omega) (by omega))
  have sIque : Ique A' (c 10) (c 1) (c 0) := Ique_tr pIque l10 (hc 1) (hc 0) (fun k q1 q2 => hA k (by omega) (by omega)) (fun i q => hA _ (by omega) (by omega))
  have sIact : Iact A' c := Iact_tr pIact l11 rfl (hc 0) (fun _ => kof_w (hc 3) (hc 4) (hc 7) (hc 8) (hc 10)) (fun k q1 q2 => hA k (by omega) (by omega))
  have sIcld : Icld A' (c 12) (c 1) := Icld_tr pIcld l12 (hc 1) (fun k q1 q2 => hA k (by omega) (by omega))
  have sIwat : Iwat A' (c 13) (c 1) := Iwat_tr pIwat l13 (hc 1) (fun k q1 q2 => hA k (by omega) (by omega))
  have sRscal : Rscal w' 3 A' := Rscal_tr pRscal (fun j q => hw 3 j (by omega) (by omega) (by omega)) (hA 0 (by omega) (by omega)) (hA 2 (by omega) (by omega)) (fun k q1 q2 => hA k (by omega) (by omega))
  have sRsort : Rsort w' 3 A' := Rsort_tr pRsort (Or.inl rfl) (fun o j q1 q2 q3 => hw (3 + o) j (by omega) (by omega) (by omega)) (fun k q1 q2 => hA k (by omega) (by omega))
  have sRsite : Rsite w' 3 A' := Rsite_tr pRsite (Or.inl rfl) (fun o j q1 q2 q3 => hw (3 + o) j (by omega) (by omega) (by omega)) (hA 1 (by omega) (by omega)) (fun k q1 q2 => hA k (by omega) (by omega))
  have sRthing : Rthing w' 3 A' := Rthing_tr pRthing (Or.inl rfl) (fun o j q1 q2 q3 => hw (3 + o) j (by omega) (by omega) (by omega)) (hA 3 (by omega) (by omega)) (fun k q1 q2 => hA k (by omega) (by omega))
  have sRmove : Rmove w' 3 A' := Rmove_tr pRmove (Or.inl rfl) (fun o j q1 q2 q3 => hw (3 + o) j (by omega) (by omega) (by omega)) (hA 4 (by omega) (by omega)) (fun k q1 q2 => hA k (by omega) (by omega))
  have sRseal : Rseal w' 3 A' := Rseal_tr pRseal (Or.inl rfl) (fun o j q1 q2 q3 => hw (3 + o) j (by omega) (by omega) (by omega)) (hA 5 (by omega) (by omega)) (fun k q1 q2 => hA k (by omega) (by omega))
  have sRtold : Rtold w' 3 A' := Rtold_tr pRtold (Or.inl rfl) (fun o j q1 q2 q3 => hw (3 + o) j (by omega) (by omega) (by omega)) (hA 7 (by omega) (by omega)) (fun k q1 q2 => hA k (by omega) (by omega))
  have sRvis : Rvis w' 3 A' := by
    refine RT_up (n := c 8) (p_Rvis h) (h_8 h) (by omega) (by omega) (hw 26 0 (by omega) (by omega) (by omega)) (hw 26 2 (by omega) (by omega) (by omega)) (hA 8 (by omega) (by omega)) (fun i j hi hj hcm hv => ?_)
    rw [hw 27 _ (by omega) (by omega) (by omega), hA _ (by omega) (by omega)]
    exact hv
  have sRpic : Rpic w' 3 A' := Rpic_tr pRpic (Or.inl rfl) (fun o j q1 q2 q3 => hw (3 + o) j (by omega) (by omega) (by omega)) (hA 9 (by omega) (by omega)) (fun k q1 q2 => hA k (by omega) (by omega))
  have sRque : Rque w' 3 A' := Rque_tr pRque (Or.inl rfl) (fun o j q1 q2 q3 => hw (3 + o) j (by omega) (by omega) (by omega)) (hA 10 (by omega) (by omega)) (fun k q1 q2 => hA k (by omega) (by omega))
  have sRact : Ract w' 3 A' := Ract_tr pRact (Or.inl rfl) (fun o j q1 q2 q3 => hw (3 + o) j (by omega) (by omega) (by omega)) (hA 11 (by omega) (by omega)) (fun k q1 q2 => hA k (by omega) (by omega))
  have sRcld : Rcld w' 3 A' := Rcld_tr pRcld (Or.inl rfl) (fun o j q1 q2 q3 => hw (3 + o) j (by omega) (by omega) (by omega)) (hA 12 (by omega) (by omega)) (fun k q1 q2 => hA k (by omega) (by omega))
  have sRwat : Rwat w' 3 A' := Rwat_tr pRwat (Or.inl rfl) (fun o j q1 q2 q3 => hw (3 + o) j (by omega) (by omega) (by omega)) (hA 13 (by omega) (by omega)) (fun k q1 q2 => hA k (by omega) (by omega))
  have sRchain : Rchain w' 3 A' := Rchain_tr pRchain (fun o j q1 q2 q3 q4 => hw (3 + o) j (by omega) (by omega) (by omega)) (hA 3 (by omega) (by omega)) (hA 4 (by omega) (by omega)) (fun m q => hA _ (by omega) (by omega))
  have sRvis2 : Rvis2 w' 3 A' c := by
    intro i hi
    have g := p_Rvis2 h i hi
    rw [hA _ (by omega) (by omega), hA _ (by omega) (by omega), hw 27 (i * 10 + 9) (by omega) (by omega) (by omega)]
    intro g1 l g2 g3
    rw [hA _ (by omega) (by omega)]
    exact g g1 l g2 g3
  have sRact2 : Ract2 w' 3 A' c := Ract2_tr pRact2 ⟨l11, l3, l4, l7, l8, l10⟩ pIact rfl (fun j q => hw 33 j (by omega) (by omega) (by omega)) (fun k q1 q2 => hA k (by omega) (by omega)) (fun i q => hA _ (by omega) (by omega)) (fun i q => hA _ (by omega) (by omega)) (fun i q => hA _ (by omega) (by omega)) (fun i q => hA _ (by omega) (by omega))
  have sRway : Rway w' 3 A' c := Rway_tr pRway (Or.inl rfl) ⟨l1, l2⟩ rfl rfl (fun o j q1 q2 q3 => hw (3 + o) j (by omega) (by omega) (by omega)) (fun k q1 q2 => hA k (by omega) (by omega))
  have sRtext : Rtext w' 3 A' c := Rtext_tr pRtext (Or.inl rfl) l6 rfl (fun o j q1 q2 q3 => hw (3 + o) j (by omega) (by omega) (by omega)) (fun k q1 q2 => hA k (by omega) (by omega))
  exact ⟨⟨z0, z1, sI2, sIsort, sIsite, sIroad, sIthing, sImove, sIseal, sItold, sIvis, sIpic, sIque, sIact, sIcld, sIwat⟩, sRscal, sRsort, sRsite, sRthing, sRmove, sRseal, sRtold, sRvis, sRpic, sRque, sRact, sRcld, sRwat, sRchain, sRvis2, sRact2, sRway, sRtext⟩

/-- the column that a thing seen adds to -/
def vcl (A : Nat → Int32) (c : Nat → Nat) (s th : Nat) : Nat := if one A 4 th (A (40 + 8 * s + 1)) false (tf A 4 (nI (c 0)) (c 6)) = true then 4 else (A (240 + 12 * th)).toNatClampNeg
def vct (A : Nat → Int32) (c : Nat → Nat) (s j : Nat) : Nat → Nat
  | 0 => 0
  | k + 1 => vct A c s j k + if mwh A (c 4) k (nI (c 0) - 1) = nI s ∧ vcl A c s k = j then 1 else 0
theorem vct_le {s j : Nat} : ∀ k, vct A c s j k ≤ k := by
  intro k
  induction k with
  | zero => exact Nat.le_refl _
  | succ k ih => rw [vct]; split <;> omega
/-- the visit's row as it is told so far, on the class's side -/
def vrw (A : Nat → Int32) (c : Nat → Nat) (l s k : Nat) (j : Nat) : Int32 := if j < 5 then nI (vct A c s j k) else if j = 6 then nI (c 0) else if j = 7 then nI l else if j = 8 then nI s else 0
/-- the array with the row -/
def vra (A : Nat → Int32) (c : Nat → Nat) (l s k : Nat) (i : Nat) : Int32 := if i = 8 then nI (c 8 + 1) else if i = 11280 + 12 * c 8 then nI l else if i = 11280 + 12 * c 8 + 1 then nI s else if i = 11280 + 12 * c 8 + 2 then nI (c 0) else if 11280 + 12 * c 8 + 3 ≤ i ∧ i < 11280 + 12 * c 8 + 8 then nI (vct A c s (i - (11280 + 12 * c 8 + 3)) k) else if i = 11280 + 12 * c 8 + 8 then 0 else A i
def Vst (v w : jW) (A : Nat → Int32) (c : Nat → Nat) (l s k : Nat) : Prop := JR v 26 10 100 (c 8 + 1) ∧ (∀ j, j < 10 → v.1 27 (c 8 * 10 + j) = vrw A c l s k j) ∧ ∀ b j, b ≠ 23 → ¬ (b = 26 ∧ j = 2 ∨ b = 27 ∧ c 8 * 10 ≤ j ∧ j < c 8 * 10 + 10) → v.1 b j = w.1 b j
theorem vra_A {l s k i : Nat} (h : i ≠ 8 ∧ ¬ (11280 + 12 * c 8 ≤ i ∧ i < 11280 + 12 * c 8 + 9)) : vra A c l s k i = A i := by
  unfold vra
  rw [if_neg (by omega), if_neg (by omega), if_neg (by omega), if_neg (by omega), if_neg (by omega), if_neg (by omega)]
theorem Vst_RA (H : RA w 3 A c K) {l s k : Nat} (h8 : c 8 < 100) (hl : l ≤ 1) (hs : s < c 1) (h0 : 1 ≤ c 0) (hk : k ≤ c 3) (h : Vst v w A c l s k) : RA v 3 (vra A c l s k) (cup c 8 (c 8 + 1)) K := by
  obtain ⟨h1, h2, h3⟩ := h
  have l3 := l_3 H
  obtain ⟨u, hu⟩ : ∃ u : jW, u = (fun b j => if b = 23 then w.1 b j else v.1 b j, v.2) := ⟨_, rfl⟩
  have un : ∀ b, b ≠ 23 → u.1 b = v.1 b := fun b q => by rw [hu]; exact funext fun j => if_neg q
  have hw : ∀ b j, 3 ≤ b → b < 38 → ¬ (b = 26 ∧ j = 2 ∨ b = 27 ∧ c 8 * 10 ≤ j ∧ j < c 8 * 10 + 10) → u.1 b j = w.1 b j := fun b j _ _ q => by
    by_cases z : b = 23
    · rw [hu]; exact if_pos z
    · rw [un b z]; exact h3 b j z q
  have e0 : vra A c l s k (11280 + 12 * c 8) = nI l := by unfold vra; rw [if_neg (by omega), if_pos rfl]
  have e1 : vra A c l s k (11280 + 12 * c 8 + 1) = nI s := by unfold vra; rw [if_neg (by omega), if_neg (by omega), if_pos rfl]
  have e2 : vra A c l s k (11280 + 12 * c 8 + 2) = nI (c 0) := by unfold vra; rw [if_neg (by omega), if_neg (by omega), if_neg (by omega), if_pos rfl]
  have e3 : ∀ j, j < 5 → vra A c l s k (11280 + 12 * c 8 + 3 + j) = nI (vct A c s j k) := fun j hj => by
    unfold vra
    rw [if_neg (by omega), if_neg (by omega), if_neg (by omega), if_neg (by omega), if_pos (by omega), show 11280 + 12 * c 8 + 3 + j - (11280 + 12 * c 8 + 3) = j by omega]
  have e8 : vra A c l s k (11280 + 12 * c 8 + 8) = 0 := by
    unfold vra
    rw [if_neg (by omega), if_neg (by omega), if_neg (by omega), if_neg (by omega), if_neg (by omega), if_pos rfl]
  have hv : ∀ j, j < 10 → cmV j < 12 → u.1 27 (c 8 * 10 + j) = vra A c l s k (11280 + 12 * c 8 + cmV j) := fun j hj hc => by
    rw [un 27 (by omega), h2 j hj]
    rcases (show j < 5 ∨ j = 5 ∨ j = 6 ∨ j = 7 ∨ j = 8 ∨ j = 9 by omega) with z | z | z | z | z | z
    · rw [show cmV j = j + 3 by unfold cmV; rw [if_pos (by omega)], vrw, if_pos z, show 11280 + 12 * c 8 + (j + 3) = 11280 + 12 * c 8 + 3 + j by omega, e3 j z]
    · subst z; exact e8.symm
    · subst z; exact e2.symm
    · subst z; exact e0.symm
    · subst z; exact e1.symm
    · subst z; exact absurd hc (by decide)
  have HR := P_vis (w' := u) (A' := vra A c l s k) H hs h0 h8 (by rw [un 26 (by omega)]; exact h1.2.1) (by unfold vra; rw [if_pos rfl]) hv e1 e2 (by rw [e0]; exact vb_k rfl (Nat.zero_le _) hl) (fun j hj => by rw [e3 j hj]; exact vb_k rfl (Nat.zero_le _) (by have := vct_le (A := A) (c := c) (s := s) (j := j) k; omega)) (Or.inr (by rw [e8]; exact ⟨0, rfl, by omega, by omega⟩)) (fun z => by rw [e8] at z; exact absurd z (by decide)) hw (fun i _ q => vra_A (by omega))
  exact RA_fr HR (fun b q1 q2 q3 => (un b q3).symm)
theorem vra_At {l s k : Nat} : At (vra A c l s k) A := fun i h1 h2 => vra_A (by omega)
theorem vra_Am {l s k : Nat} : Am (vra A c l s k) A := ⟨fun i h1 h2 _ => vra_A (by omega), fun i h1 h2 => vra_A (by omega)⟩
theorem lsl_cg {x d : Int32} : ∀ n, n ≤ 40 → (∀ k, 1520 ≤ k → k < 1680 → A' k = A k) → lsl A' x d n = lsl A x d n := by
  intro n
  induction n with
  | zero => intro _ _; rfl
  | succ n ih =>
    intro hn h
    rw [lsl, lsl, ih (by omega) h, h _ (by omega) (by omega), h _ (by omega) (by omega)]
theorem brk_cg {x d : Int32} {p : Nat} (h : ∀ k, 720 ≤ k → k < 1520 → A' k = A k) : ∀ m k, k + m ≤ 100 → brk A' x p d m k = brk A x p d m k := by
  intro m
  induction m with
  | zero => intro k _; rfl
  | succ m ih =>
    intro k hk
    rw [brk, brk, ih (k + 1) (by omega), h _ (by omega) (by omega), h _ (by omega) (by omega), h _ (by omega) (by omega), h _ (by omega) (by omega)]
theorem c_isV (H : RA v 3 A c K) (h6 : c 6 = 0) {th : Nat} {d kl : Int32} : f_Treaty_someHolds (oi (tf A 4 d (c 6))) 4 v = some (bz (one A 4 th kl false (tf A 4 d (c 6))), v) := by
  rw [h6]
  exact c_some_none H
theorem vcl_lt (H : RA w 3 A c K) {s th : Nat} (hth : th < c 3) : vcl A c s th < 5 := by
  unfold vcl
  split
  · omega
  · obtain ⟨sx, th1, th2, th3, ⟨n, n1, n2, n3⟩, -⟩ := (p_Ithing H).1 th hth
    rw [n1, nI_clamp (by omega)]; omega
theorem c_vis_h (H : RA w 3 A c K) {l s : Nat} (h6 : c 6 = 0) (h8 : c 8 < 100) (hl : l ≤ 1) (hs : s < c 1) (h0 : 1 ≤ c 0) : ∀ (m k f : Nat) (v : jW), k + m = c 3 → m < f → Vst v w A c l s k → ∃ v', f_State_lookAround_h25 f (nI (c 8)) (nI s) (nI (c 0)) (oi (tf A 4 (nI (c 0)) (c 6))) (A (40 + 8 * s + 1)) (nI k) v = some v' ∧ Vst v' w A c l s (c 3) := by
  have l3 := l_3 H
  have l4 := l_4 H
  intro m
  induction m with
  | zero =>
    intro k f v hk hf hv
    obtain ⟨f, rfl⟩ : ∃ j, f = j + 1 := ⟨f - 1, by omega⟩
    have G := Vst_RA H h8 hl hs h0 (by omega) hv
    have ek : k = c 3 := by omega
    subst ek
    refine ⟨v, ?_, hv⟩
    have n3 : f_Rows_count 10 v = some (nI (c 3), v) := by have q := n_th G; exact q
    rw [f_State_lookAround_h25, n3, ob]
    dsimp only
    rw [if_neg (nI_nlt (by omega) (by omega))]
  | succ m ih =>
    intro k f v hk hf hv
    obtain ⟨f, rfl⟩ : ∃ j, f = j + 1 := ⟨f - 1, by omega⟩
    have G := Vst_RA H h8 hl hs h0 (by omega) hv
    have hk3 : k < c 3 := by omega
    have n3 : f_Rows_count 10 v = some (nI (c 3), v) := by have q := n_th G; exact q
    have ep : f_State_placeOn (nI k) (nI (c 0) - 1) v = some (mwh A (c 4) k (nI (c 0) - 1), v) := by
      have q := c_pl (d := nI (c 0) - 1) G (t := k) hk3
      rw [show (cup c 8 (c 8 + 1)) 4 = c 4 from rfl, mwh_cg vra_Am (by omega) l4] at q
      exact q
    rw [f_State_lookAround_h25, n3, ob]
    dsimp only
    rw [if_pos (nI_lt (by omega) (by omega)), ep, ob]
    dsimp only
    by_cases q : mwh A (c 4) k (nI (c 0) - 1) = nI s
    rotate_left
    · rw [if_neg q, ip_1]
      refine ih (k + 1) f v (by omega) (by omega) ⟨hv.1, fun j hj => ?_, hv.2.2⟩
      rw [hv.2.1 j hj]
      unfold vrw
      split
      · rw [vct, if_neg (fun z => q z.1)]; rfl
      · rfl
    · rw [if_pos q]
      obtain ⟨kl, hkl⟩ : ∃ kl, kl = A (40 + 8 * s + 1) := ⟨_, rfl⟩
      rw [← hkl]
      obtain ⟨u, hu⟩ : ∃ u, u = lkw v (vra A c l s k) k kl := ⟨_, rfl⟩
      have el : f_Treaty_look 10 (nI k) kl v = some u := by rw [hu]; exact c_look G hk3
      have us : ∀ b, b ≠ 23 → u.1 b = v.1 b := fun b z => by rw [hu]; exact lkw_ne z
      have Gu : RA u 3 (vra A c l s k) (cup c 8 (c 8 + 1)) K := RA_fr G (fun b _ _ z => us b z)
      have eo : f_Treaty_someHolds (oi (tf A 4 (nI (c 0)) (c 6))) 4 u = some (bz (one A 4 k kl false (tf A 4 (nI (c 0)) (c 6))), u) := by
        have q := c_isV (d := nI (c 0)) (kl := kl) (th := k) Gu h6
        rw [show (cup c 8 (c 8 + 1)) 6 = c 6 from rfl, one_cg H vra_At (fun i h1 h2 => vra_A (by omega)) (by omega) (Or.inr rfl), tf_cgH H vra_At] at q
        exact q
      have Ju : JR u 26 10 100 (c 8 + 1) := JR_eq hv.1 (us 26 (by omega))
      have col : ∀ j, j < 5 → vcl A c s k = j → ∃ v', f_State_lookAround_j92 (f_State_lookAround_h25 f) (nI (c 8)) (nI s) (nI (c 0)) (oi (tf A 4 (nI (c 0)) (c 6))) kl (nI k) (nI j) u = some v' ∧ Vst v' w A c l s (c 3) := fun j hj hc => by
        have ra := r_at Ju (Nat.lt_succ_self (c 8)) (j := j) (by omega)
        rw [us (26 + 1) (by omega), hv.2.1 j (by omega), vrw, if_pos hj] at ra
        have rp := r_put Ju (Nat.lt_succ_self (c 8)) (j := j) (by omega) (nI (vct A c s j k + 1))
        obtain ⟨u2, hu2⟩ : ∃ u2 : jW, u2 = (jup u.1 (26 + 1) (c 8 * 10 + j) (nI (vct A c s j k + 1)), u.2) := ⟨_, rfl⟩
        rw [← hu2] at rp
        have S2 : Vst u2 w A c l s (k + 1) := by
          refine ⟨JR_eq Ju (by rw [hu2]; dsimp only; rw [jup_fn (by omega)]), fun i hi => ?_, fun b i z1 z2 => ?_⟩
          · rw [hu2]
            show jup u.1 27 (c 8 * 10 + j) _ 27 (c 8 * 10 + i) = _
            by_cases z : i = j
            · subst z
              rw [jup_eq, vrw, if_pos hj, vct, if_pos ⟨q, hc⟩]
            · rw [jup_k (by omega), us 27 (by omega), hv.2.1 i hi]
              unfold vrw
              split
              · rw [vct, if_neg (fun y => z (y.2.symm.trans hc))]; rfl
              · rfl
          · rw [hu2]
            show jup u.1 27 (c 8 * 10 + j) _ b i = _
            rw [jup_ap, if_neg (by omega), us b z1]
            exact hv.2.2 b i z1 z2
        obtain ⟨v', e1, e2⟩ := ih (k + 1) f u2 (by omega) (by omega) S2
        refine ⟨v', ?_, e2⟩
        rw [← hkl] at e1
        rw [f_State_lookAround_j92, ra, ob]
        dsimp only
        rw [ip_1, rp, ob, ip_1]
        exact e1
      obtain ⟨sx, th1, th2, th3, ⟨n, n1, n2, n3'⟩, -⟩ := (p_Ithing H).1 k hk3
      have e0 : f_Rows_at 10 (nI k) 0 u = some (nI n, u) := by
        have := a_th0 Gu (i := k) hk3
        rw [vra_A (by omega), n1] at this
        exact this
      rw [el, ob, eo, ob]
      dsimp only
      cases eone : one A 4 k kl false (tf A 4 (nI (c 0)) (c 6)) with
      | false =>
        rw [bz_f, if_pos rfl, e0, ob]
        dsimp only
        refine col n (by omega) ?_
        unfold vcl
        rw [← hkl, eone, if_neg (by decide), n1, nI_clamp (by omega)]
      | true =>
        rw [bz_t, if_neg one_ne]
        refine col 4 (by omega) ?_
        unfold vcl
        rw [← hkl, eone, if_pos rfl]
/-- what a visit tells of the latest seal -/
def vsl (A : Nat → Int32) (c : Nat → Nat) (s : Nat) : Int32 := lsl A (nI s) (nI (c 0) - 1) (c 5)
def vsw (A : Nat → Int32) (c : Nat → Nat) (s : Nat) : Int32 := if vsl A c s = -1 then -1 else bz (!brk A (nI s) (sdy A (vsl A c s).toNatClampNeg) (nI (c 0) - 1) (c 4) 0)
theorem vsl_c (A : Nat → Int32) (c : Nat → Nat) (s : Nat) : vsl A c s = -1 ∨ ∃ k, k < c 5 ∧ vsl A c s = nI k ∧ A (1520 + 4 * k) = nI s := by
  rcases lsl_c (A := A) (x := nI s) (d := nI (c 0) - 1) (c 5) with e | ⟨k, h1, h2, h3, h4⟩
  · exact Or.inl e
  · exact Or.inr ⟨k, h1, h2, h3⟩
theorem c_vseal (H : RA w 3 A c K) {l s : Nat} (h8 : c 8 < 100) (hl : l ≤ 1) (hs : s < c 1) (h0 : 1 ≤ c 0) (hv : Vst v w A c l s (c 3)) : ∃ v', f_State_lookAtSeal (nI (c 8)) (nI s) (nI (c 0) - 1) v = some v' ∧ JR v' 26 10 100 (c 8 + 1) ∧ v'.1 27 (c 8 * 10 + 5) = vsw A c s ∧ (∀ k, vsl A c s = nI k → k < c 5 → v'.1 27 (c 8 * 10 + 9) = A (1520 + 4 * k + 1)) ∧ (∀ j, j < 9 → j ≠ 5 → v'.1 27 (c 8 * 10 + j) = vrw A c l s (c 3) j) ∧ ∀ b j, b ≠ 23 → ¬ (b = 26 ∧ j = 2 ∨ b = 27 ∧ c 8 * 10 ≤ j ∧ j < c 8 * 10 + 10) → v'.1 b j = w.1 b j := by
  have l3 := l_3 H
  have l4 := l_4 H
  have l5 := l_5 H
  have G := Vst_RA H h8 hl hs h0 (Nat.le_refl _) hv
  have e1 : f_State_latestSeal (nI s) (nI (c 0) - 1) v = some (vsl A c s, v) := by
    have q := c_latest (x := nI s) (d := nI (c 0) - 1) G
    rw [show (cup c 8 (c 8 + 1)) 5 = c 5 from rfl, lsl_cg (A := A) (c 5) l5 (fun i h1 h2 => vra_A (by omega))] at q
    exact q
  have j33 : ∀ y : Int32, ∃ v', f_State_lookAtSeal_j33 (nI (c 8)) (vsl A c s) y v = some v' ∧ JR v' 26 10 100 (c 8 + 1) ∧ v'.1 27 (c 8 * 10 + 5) = y ∧ (∀ k, vsl A c s = nI k → k < c 5 → v'.1 27 (c 8 * 10 + 9) = A (1520 + 4 * k + 1)) ∧ (∀ j, j < 9 → j ≠ 5 → v'.1 27 (c 8 * 10 + j) = vrw A c l s (c 3) j) ∧ ∀ b j, b ≠ 23 → ¬ (b = 26 ∧ j = 2 ∨ b = 27 ∧ c 8 * 10 ≤ j ∧ j < c 8 * 10 + 10) → v'.1 b j = w.1 b j := fun y => by
    have p1 := r_put hv.1 (Nat.lt_succ_self (c 8)) (j := 5) (by omega) y
    obtain ⟨u, hu⟩ : ∃ u : jW, u = (jup v.1 (26 + 1) (c 8 * 10 + 5) y, v.2) := ⟨_, rfl⟩
    rw [← hu] at p1
    have p1' : f_Rows_put 26 (nI (c 8)) 5 y v = some u := p1
    have Ju : JR u 26 10 100 (c 8 + 1) := JR_eq hv.1 (by rw [hu]; dsimp only; rw [jup_fn (by omega)])
    have us : ∀ b, b ≠ 27 → u.1 b = v.1 b := fun b z => by rw [hu]; dsimp only; rw [jup_fn z]
    have ea : ∃ z, f_Rows_at 14 (vsl A c s) 1 u = some (z, u) ∧ ∀ k, vsl A c s = nI k → k < c 5 → z = A (1520 + 4 * k + 1) := by
      have J14 : JR u 14 2 40 (c 5) := by have q := j_sl G; exact JR_eq q (us 14 (by omega))
      rcases vsl_c A c s with e | ⟨k, k1, k2, k3⟩
      · exact ⟨-1, by rw [e]; exact r_at_row J14 (Or.inl (by decide)), fun k q _ => absurd (q.symm.trans e) (nI_ne_m1 (by omega))⟩
      · refine ⟨A (1520 + 4 * k + 1), ?_, fun k' q q2 => ?_⟩
        · rw [k2]
          have q := a_sl1 G (i := k) k1
          rw [vra_A (by omega)] at q
          exact at_fr (congrFun (us 14 (by omega)) 0) (congrFun (us 14 (by omega)) 2) (fun j => congrFun (us 15 (by omega)) j) q
        · rw [(nI_eq (a := k) (b := k') (by omega) (by omega)).mp (k2.symm.trans q)]
    obtain ⟨z, z1, z2⟩ := ea
    have p2 := r_put Ju (Nat.lt_succ_self (c 8)) (j := 9) (by omega) z
    obtain ⟨u2, hu2⟩ : ∃ u2 : jW, u2 = (jup u.1 (26 + 1) (c 8 * 10 + 9) z, u.2) := ⟨_, rfl⟩
    rw [← hu2] at p2
    have p2' : f_Rows_put 26 (nI (c 8)) 9 z u = some u2 := p2
    refine ⟨u2, ?_, JR_eq Ju (by rw [hu2]; dsimp only; rw [jup_fn (by omega)]), ?_, fun k q1 q2 => ?_, fun j hj1 hj2 => ?_, fun b j q1 q2 => ?_⟩
    · rw [f_State_lookAtSeal_j33, p1', ob, z1, ob]
      dsimp only
      rw [p2', ob]
    · rw [hu2, hu]; dsimp only; rw [jup_k (by omega)]; exact jup_eq
    · rw [hu2]; dsimp only; rw [jup_eq, z2 k q1 q2]
    · rw [hu2, hu]; dsimp only; rw [jup_k (by omega), jup_k (by omega), hv.2.1 j (by omega)]
    · rw [hu2, hu]; dsimp only; rw [jup_ap, if_neg (by omega), jup_ap, if_neg (by omega)]; exact hv.2.2 b j q1 q2
  rw [f_State_lookAtSeal, e1, ob]
  dsimp only
  rcases vsl_c A c s with e | ⟨k, k1, k2, k3⟩
  · rw [if_pos e]
    have := j33 (-1)
    unfold vsw
    rw [if_pos e]; exact this
  · have g1 := (sdy_e H k1)
    have ew : f_State_isWhole (vsl A c s) (nI (c 0) - 1) v = some (vsw A c s, v) := by
      have q := c_whole (d := nI (c 0) - 1) G (i := k) k1 (p := sdy A k) ((vra_A (by omega)).trans g1.1)
      rw [vra_A (by omega), show (cup c 8 (c 8 + 1)) 4 = c 4 from rfl, brk_cg (A := A) (fun i h1 h2 => vra_A (by omega)) (c 4) 0 (by omega), k3] at q
      unfold vsw
      rw [k2, if_neg (nI_ne_m1 (by omega)), nI_clamp (by omega)]
      exact q
    rw [if_neg (by rw [k2]; exact nI_ne_m1 (by omega)), ew, ob]
    dsimp only
    have hv01 : vsw A c s = 0 ∨ vsw A c s = 1 := by
      unfold vsw
      rw [k2, if_neg (nI_ne_m1 (by omega))]
      cases brk A (nI s) (sdy A (nI k).toNatClampNeg) (nI (c 0) - 1) (c 4) 0
      · exact Or.inr rfl
      · exact Or.inl rfl
    have h := j33 (vsw A c s)
    rcases hv01 with q | q
    · rw [if_pos q]
      rw [q] at h ⊢
      exact h
    · rw [if_neg (by rw [q]; exact one_ne)]
      rw [q] at h ⊢
      exact h

end Q9


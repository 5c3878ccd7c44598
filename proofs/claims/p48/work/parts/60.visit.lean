/-! LAYER B: visits -/
section Q9
variable {w w' v : jW} {A A' : Nat → Int32} {c ci : Nat → Nat} {K : Nat}
theorem P_jvis (h : RA w 3 A c K) (h8 : c 8 < 100) (hw : ∀ b j, 3 ≤ b → b < 38 → ¬ (b = 0) → w'.1 b j = w.1 b j) (hA : ∀ k, k < 21000 → ¬ (11280 + 12 * c 8 ≤ k ∧ k < 11280 + 12 * c 8 + 12) → A' k = A k) : RA w' 3 A' c (K) := by
  have l0 := l_0 h
  have l1 := l_1 h
  have l2 := l_2 h
  have l3 := l_3 h
  have l4 := l_4 h
  have l5 := l_5 h
  have l6 := l_6 h
  have l7 := l_7 h
  have l8 := l_8 h
  have l9 := l_9 h
  have l10 := l_10 h
  have l11 := l_11 h
  have l12 := l_12 h
  have l13 := l_13 h
  have lK := (l_K h).1
  have lK2 := (l_K h).2
  have pI2 := p_I2 h
  have pIsort := p_Isort h
  have pIsite := p_Isite h
  have pIroad := p_Iroad h
  have pIthing := p_Ithing h
  have pImove := p_Imove h
  have pIseal := p_Iseal h
  have pItold := p_Itold h
  have pIpic := p_Ipic h
  have pIque := p_Ique h
  have pIact := p_Iact h
  have pIcld := p_Icld h
  have pIwat := p_Iwat h
  have pRscal := p_Rscal h
  have pRsort := p_Rsort h
  have pRsite := p_Rsite h
  have pRthing := p_Rthing h
  have pRmove := p_Rmove h
  have pRseal := p_Rseal h
  have pRtold := p_Rtold h
  have pRpic := p_Rpic h
  have pRque := p_Rque h
  have pRact := p_Ract h
  have pRcld := p_Rcld h
  have pRwat := p_Rwat h
  have pRchain := p_Rchain h
  have pRact2 := p_Ract2 h
  have pRway := p_Rway h
  have pRtext := p_Rtext h
  have hc : ∀ i, c i ≤ c i := fun i => by
    exact Nat.le_refl _
  have i5 : c 5 ≤ 40 := l5
  have z0 : I0 A' c := fun i hi => by
    rw [hA i (by omega) (by omega)]; exact p_I0 h i hi
  have z1 : I1 c (K) := ⟨l0, l1, l2, l3, l4, l5, l6, l7, l8, l9, l10, (show c 11 ≤ K from by omega), l12, l13, (show K ≤ 512 from by omega)⟩
  have sI2 : I2 A' := I2_tr pI2 (fun k q1 q2 => hA k (by omega) (by omega))
  have sIsort : Isort A' := Isort_tr pIsort (fun k q1 q2 => hA k (by omega) (by omega))
  have sIsite : Isite A' (c 1) := Isite_tr pIsite l1 (fun k q1 q2 => hA k (by omega) (by omega))
  have sIroad : Iroad A' (c 2) (c 1) := Iroad_tr pIroad l2 (hc 1) (fun k q1 q2 => hA k (by omega) (by omega)) (fun i q => hA _ (by omega) (by omega))
  have sIthing : Ithing A' (c 3) (c 1) (c 0) := Ithing_tr pIthing l3 (hc 1) (hc 0) (fun k q1 q2 => hA k (by omega) (by omega)) (fun i q => hA _ (by omega) (by omega))
  have sImove : Imove A' (c 4) (c 3) (c 1) (c 0) := Imove_tr pImove l4 (hc 3) (hc 1) (hc 0) (fun k q1 q2 => hA k (by omega) (by omega)) (fun i q => hA _ (by omega) (by omega)) (fun i q => hA _ (by omega) (by omega))
  have sIseal : Iseal A' (c 5) (c 1) (c 0) := Iseal_tr pIseal l5 (hc 1) (hc 0) (fun k q1 q2 => hA k (by omega) (by omega))
  have sItold : Itold A' (c 7) (c 3) (c 1) (c 0) := Itold_tr pItold l7 (hc 3) (hc 1) (hc 0) (fun k q1 q2 => hA k (by omega) (by omega))
  have sIvis : Ivis A' (c 8) (c 1) (c 5) (c 0) := by
    intro i hi
    obtain ⟨x, y, h1, h2, h3, h4, h5, h6, h7, h8, h9⟩ := p_Ivis h i hi
    refine ⟨x, y, ?_⟩
    simp (disch := omega) only [hA]
    refine ⟨h1, h2, h3, h4, h5, h6, fun j hj => ?_, h8, h9⟩
    rw [hA _ (by omega) (by omega)]; exact h7 j hj
  have sIpic : Ipic A' (c 9) (c 1) (c 0) := Ipic_tr pIpic l9 (hc 1) (hc 0) (fun k q1 q2 => hA k (by omega) (by omega))
  have sIque : Ique A' (c 10) (c 1) (c 0) := Ique_tr pIque l10 (hc 1) (hc 0) (fun k q1 q2 => hA k (by omega) (by omega)) (fun i q => hA _ (by omega) (by omega))
  have sIact : Iact A' c := Iact_tr pIact l11 rfl (hc 0) (fun _ => kof_w (hc 3) (hc 4) (hc 7) (hc 8) (hc 10)) (fun k q1 q2 => hA k (by omega) (by omega))
  have sIcld : Icld A' (c 12) (c 1) := Icld_tr pIcld l12 (hc 1) (fun k q1 q2 => hA k (by omega) (by omega))
  have sIwat : Iwat A' (c 13) (c 1) := Iwat_tr pIwat l13 (hc 1) (fun k q1 q2 => hA k (by omega) (by omega))
  have sRscal : Rscal w' 3 A' := Rscal_tr pRscal (fun j q => hw 3 j (by omega) (by omega) (by omega)) (hA 0 (by omega) (by omega)) (hA 2 (by omega) (by omega)) (fun k q1 q2 => hA k (by omega) (by omega))
  have sRsort : Rsort w' 3 A' := Rsort_tr pRsort (Or.inl rfl) (fun o j q1 q2 q3 => hw (3 + o) j (by omega) (by omega) (by omega)) (fun k q1 q2 => hA k (by omega) (by omega))
  have sRsite : Rsite w' 3 A' := Rsite_tr pRsite (Or.inl rfl) (fun o j q1 q2 q3 => hw (3 + o) j (by omega) (by omega) (by omega)) (hA 1 (by omega) (by omega)) (fun k q1 q2 => hA k (by omega) (by omega))
  have sRthing : Rthing w' 3 A' := Rthing_tr pRthing (Or.inl rfl) (fun o j q1 q2 q3 => hw (3 + o) j (by omega) (by omega) (by omega)) (hA 3 (by omega) (by omega)) (fun k q1 q2 => hA k (by omega) (by omega))
  have sRmove : Rmove w' 3 A' := Rmove_tr pRmove (Or.inl rfl) (fun o j q1 q2 q3 => hw (3 + o) j (by omega) (by omega) (by omega)) (hA 4 (by omega) (by omega)) (fun k q1 q2 => hA k (by omega) (by omega))
  have sRseal : Rseal w' 3 A' := Rseal_tr pRseal (Or.inl rfl) (fun o j q1 q2 q3 => hw (3 + o) j (by omega) (by omega) (by omega)) (hA 5 (by omega) (by omega)) (fun k q1 q2 => hA k (by omega) (by omega))
  have sRtold : Rtold w' 3 A' := Rtold_tr pRtold (Or.inl rfl) (fun o j q1 q2 q3 => hw (3 + o) j (by omega) (by omega) (by omega)) (hA 7 (by omega) (by omega)) (fun k q1 q2 => hA k (by omega) (by omega))
  have sRvis : Rvis w' 3 A' := by
    refine RT_up (n := c 8) (p_Rvis h) (h_8 h) (by omega) (by omega) (hw 26 0 (by omega) (by omega) (by omega)) (hw 26 2 (by omega) (by omega) (by omega)) (hA 8 (by omega) (by omega)) (fun i j hi hj hcm hv => ?_)
    rw [hw 27 _ (by omega) (by omega) (by omega), hA _ (by omega) (by omega)]
    exact hv
  have sRpic : Rpic w' 3 A' := Rpic_tr pRpic (Or.inl rfl) (fun o j q1 q2 q3 => hw (3 + o) j (by omega) (by omega) (by omega)) (hA 9 (by omega) (by omega)) (fun k q1 q2 => hA k (by omega) (by omega))
  have sRque : Rque w' 3 A' := Rque_tr pRque (Or.inl rfl) (fun o j q1 q2 q3 => hw (3 + o) j (by omega) (by omega) (by omega)) (hA 10 (by omega) (by omega)) (fun k q1 q2 => hA k (by omega) (by omega))
  have sRact : Ract w' 3 A' := Ract_tr pRact (Or.inl rfl) (fun o j q1 q2 q3 => hw (3 + o) j (by omega) (by omega) (by omega)) (hA 11 (by omega) (by omega)) (fun k q1 q2 => hA k (by omega) (by omega))
  have sRcld : Rcld w' 3 A' := Rcld_tr pRcld (Or.inl rfl) (fun o j q1 q2 q3 => hw (3 + o) j (by omega) (by omega) (by omega)) (hA 12 (by omega) (by omega)) (fun k q1 q2 => hA k (by omega) (by omega))
  have sRwat : Rwat w' 3 A' := Rwat_tr pRwat (Or.inl rfl) (fun o j q1 q2 q3 => hw (3 + o) j (by omega) (by omega) (by omega)) (hA 13 (by omega) (by omega)) (fun k q1 q2 => hA k (by omega) (by omega))
  have sRchain : Rchain w' 3 A' := Rchain_tr pRchain (fun o j q1 q2 q3 q4 => hw (3 + o) j (by omega) (by omega) (by omega)) (hA 3 (by omega) (by omega)) (hA 4 (by omega) (by omega)) (fun m q => hA _ (by omega) (by omega))
  have sRvis2 : Rvis2 w' 3 A' c := by
    intro i hi
    have g := p_Rvis2 h i hi
    rw [hA _ (by omega) (by omega), hA _ (by omega) (by omega), hw 27 (i * 10 + 9) (by omega) (by omega) (by omega)]
    intro g1 l g2 g3
    rw [hA _ (by omega) (by omega)]
    exact g g1 l g2 g3
  have sRact2 : Ract2 w' 3 A' c := Ract2_tr pRact2 ⟨l11, l3, l4, l7, l8, l10⟩ pIact rfl (fun j q => hw 33 j (by omega) (by omega) (by omega)) (fun k q1 q2 => hA k (by omega) (by omega)) (fun i q => hA _ (by omega) (by omega)) (fun i q => hA _ (by omega) (by omega)) (fun i q => hA _ (by omega) (by omega)) (fun i q => hA _ (by omega) (by omega))
  have sRway : Rway w' 3 A' c := Rway_tr pRway (Or.inl rfl) ⟨l1, l2⟩ rfl rfl (fun o j q1 q2 q3 => hw (3 + o) j (by omega) (by omega) (by omega)) (fun k q1 q2 => hA k (by omega) (by omega))
  have sRtext : Rtext w' 3 A' c := Rtext_tr pRtext (Or.inl rfl) l6 rfl (fun o j q1 q2 q3 => hw (3 + o) j (by omega) (by omega) (by omega)) (fun k q1 q2 => hA k (by omega) (by omega))
  exact ⟨⟨z0, z1, sI2, sIsort, sIsite, sIroad, sIthing, sImove, sIseal, sItold, sIvis, sIpic, sIque, sIact, sIcld, sIwat⟩, sRscal, sRsort, sRsite, sRthing, sRmove, sRseal, sRtold, sRvis, sRpic, sRque, sRact, sRcld, sRwat, sRchain, sRvis2, sRact2, sRway, sRtext⟩

theorem lsl_cg {x d : Int32} : ∀ n, n ≤ 40 → (∀ k, 1520 ≤ k → k < 1680 → A' k = A k) → lsl A' x d n = lsl A x d n := by
  intro n
  induction n with
  | zero => intro _ _; rfl
  | succ n ih =>
    intro hn h
    rw [lsl, lsl, ih (by omega) h, h _ (by omega) (by omega), h _ (by omega) (by omega)]
theorem brk_cg {x d : Int32} {p : Nat} (h : ∀ k, 720 ≤ k → k < 1520 → A' k = A k) : ∀ m k, k + m ≤ 100 → brk A' x p d m k = brk A x p d m k := by
  intro m
  induction m with
  | zero => intro k _; rfl
  | succ m ih =>
    intro k hk
    rw [brk, brk, ih (k + 1) (by omega), h _ (by omega) (by omega), h _ (by omega) (by omega), h _ (by omega) (by omega), h _ (by omega) (by omega)]
/-- what a visit tells of the latest seal -/
def vsl (A : Nat → Int32) (c : Nat → Nat) (s : Nat) : Int32 := lsl A (nI s) (nI (c 0) - 1) (c 5)
def vsw (A : Nat → Int32) (c : Nat → Nat) (s : Nat) : Int32 := if vsl A c s = -1 then -1 else bz (!brk A (nI s) (sdy A (vsl A c s).toNatClampNeg) (nI (c 0) - 1) (c 4) 0)
theorem vsl_c (A : Nat → Int32) (c : Nat → Nat) (s : Nat) : vsl A c s = -1 ∨ ∃ k, k < c 5 ∧ vsl A c s = nI k ∧ A (1520 + 4 * k) = nI s := by
  rcases lsl_c (A := A) (x := nI s) (d := nI (c 0) - 1) (c 5) with e | ⟨k, h1, h2, h3, h4⟩
  · exact Or.inl e
  · exact Or.inr ⟨k, h1, h2, h3⟩
end Q9


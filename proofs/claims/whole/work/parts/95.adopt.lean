/-! LAYER B: a text taken over by the class -/
section AD
variable {w v w' : jW} {A A' : Nat → Int32} {c : Nat → Nat} {K : Nat} {l : List It} {nt cs ks p' : Nat}
theorem P_junk (h : RA w 3 A c K) (hn : c 6 < 10) (tx : Rtext w' 3 A' c) (hw : ∀ b j, 3 ≤ b → b < 38 → ¬ (17 ≤ b ∧ b ≤ 22) → w'.1 b j = w.1 b j) (hA : ∀ k, k < 21000 → ¬ (1680 + 800 * c 6 ≤ k ∧ k < 1680 + 800 * c 6 + 800) → A' k = A k) : RA w' 3 A' c (K) := by
  have l0 := l_0 h
  have l1 := l_1 h
  have l2 := l_2 h
  have l3 := l_3 h
  have l4 := l_4 h
  have l5 := l_5 h
  have l6 := l_6 h
  have l7 := l_7 h
  have l8 := l_8 h
  have l9 := l_9 h
  have l10 := l_10 h
  have l11 := l_11 h
  have l12 := l_12 h
  have l13 := l_13 h
  have lK := (l_K h).1
  have lK2 := (l_K h).2
  have pI2 := p_I2 h
  have pIsort := p_Isort h
  have pIsite := p_Isite h
  have pIroad := p_Iroad h
  have pIthing := p_Ithing h
  have pImove := p_Imove h
  have pIseal := p_Iseal h
  have pItold := p_Itold h
  have pIvis := p_Ivis h
  have pIpic := p_Ipic h
  have pIque := p_Ique h
  have pIact := p_Iact h
  have pIcld := p_Icld h
  have pIwat := p_Iwat h
  have pRscal := p_Rscal h
  have pRsort := p_Rsort h
  have pRsite := p_Rsite h
  have pRthing := p_Rthing h
  have pRmove := p_Rmove h
  have pRseal := p_Rseal h
  have pRtold := p_Rtold h
  have pRvis := p_Rvis h
  have pRpic := p_Rpic h
  have pRque := p_Rque h
  have pRact := p_Ract h
  have pRcld := p_Rcld h
  have pRwat := p_Rwat h
  have pRchain := p_Rchain h
  have pRvis2 := p_Rvis2 h
  have pRact2 := p_Ract2 h
  have pRway := p_Rway h
  have hc : ∀ i, c i ≤ c i := fun i => Nat.le_refl _
  have i5 : c 5 ≤ 40 := l5
  have z0 : I0 A' c := fun i hi => by
    rw [hA i (by omega) (by omega)]; exact p_I0 h i hi
  have z1 : I1 c (K) := ⟨l0, l1, l2, l3, l4, l5, l6, l7, l8, l9, l10, (show c 11 ≤ K from by omega), l12, l13, (show K ≤ 512 from by omega)⟩
  have sI2 : I2 A' := I2_tr pI2 (fun k q1 q2 => hA k (by omega) (by omega))
  have sIsort : Isort A' := Isort_tr pIsort (fun k q1 q2 => hA k (by omega) (by omega))
  have sIsite : Isite A' (c 1) := Isite_tr pIsite l1 (fun k q1 q2 => hA k (by omega) (by omega))
  have sIroad : Iroad A' (c 2) (c 1) := Iroad_tr pIroad l2 (hc 1) (fun k q1 q2 => hA k (by omega) (by omega)) (fun i q => hA _ (by omega) (by omega))
  have sIthing : Ithing A' (c 3) (c 1) (c 0) := Ithing_tr pIthing l3 (hc 1) (hc 0) (fun k q1 q2 => hA k (by omega) (by omega)) (fun i q => hA _ (by omega) (by omega))
  have sImove : Imove A' (c 4) (c 3) (c 1) (c 0) := Imove_tr pImove l4 (hc 3) (hc 1) (hc 0) (fun k q1 q2 => hA k (by omega) (by omega)) (fun i q => hA _ (by omega) (by omega)) (fun i q => hA _ (by omega) (by omega))
  have sIseal : Iseal A' (c 5) (c 1) (c 0) := Iseal_tr pIseal l5 (hc 1) (hc 0) (fun k q1 q2 => hA k (by omega) (by omega))
  have sItold : Itold A' (c 7) (c 3) (c 1) (c 0) := Itold_tr pItold l7 (hc 3) (hc 1) (hc 0) (fun k q1 q2 => hA k (by omega) (by omega))
  have sIvis : Ivis A' (c 8) (c 1) (c 5) (c 0) := Ivis_tr pIvis l8 (hc 1) (hc 5) (hc 0) (fun k q1 q2 => hA k (by omega) (by omega))
  have sIpic : Ipic A' (c 9) (c 1) (c 0) := Ipic_tr pIpic l9 (hc 1) (hc 0) (fun k q1 q2 => hA k (by omega) (by omega))
  have sIque : Ique A' (c 10) (c 1) (c 0) := Ique_tr pIque l10 (hc 1) (hc 0) (fun k q1 q2 => hA k (by omega) (by omega)) (fun i q => hA _ (by omega) (by omega))
  have sIact : Iact A' c := Iact_tr pIact l11 rfl (hc 0) (fun _ => kof_w (hc 3) (hc 4) (hc 7) (hc 8) (hc 10)) (fun k q1 q2 => hA k (by omega) (by omega))
  have sIcld : Icld A' (c 12) (c 1) := Icld_tr pIcld l12 (hc 1) (fun k q1 q2 => hA k (by omega) (by omega))
  have sIwat : Iwat A' (c 13) (c 1) := Iwat_tr pIwat l13 (hc 1) (fun k q1 q2 => hA k (by omega) (by omega))
  have sRscal : Rscal w' 3 A' := Rscal_tr pRscal (fun j q => hw 3 j (by omega) (by omega) (by omega)) (hA 0 (by omega) (by omega)) (hA 2 (by omega) (by omega)) (fun k q1 q2 => hA k (by omega) (by omega))
  have sRsort : Rsort w' 3 A' := Rsort_tr pRsort (Or.inl rfl) (fun o j q1 q2 q3 => hw (3 + o) j (by omega) (by omega) (by omega)) (fun k q1 q2 => hA k (by omega) (by omega))
  have sRsite : Rsite w' 3 A' := Rsite_tr pRsite (Or.inl rfl) (fun o j q1 q2 q3 => hw (3 + o) j (by omega) (by omega) (by omega)) (hA 1 (by omega) (by omega)) (fun k q1 q2 => hA k (by omega) (by omega))
  have sRthing : Rthing w' 3 A' := Rthing_tr pRthing (Or.inl rfl) (fun o j q1 q2 q3 => hw (3 + o) j (by omega) (by omega) (by omega)) (hA 3 (by omega) (by omega)) (fun k q1 q2 => hA k (by omega) (by omega))
  have sRmove : Rmove w' 3 A' := Rmove_tr pRmove (Or.inl rfl) (fun o j q1 q2 q3 => hw (3 + o) j (by omega) (by omega) (by omega)) (hA 4 (by omega) (by omega)) (fun k q1 q2 => hA k (by omega) (by omega))
  have sRseal : Rseal w' 3 A' := Rseal_tr pRseal (Or.inl rfl) (fun o j q1 q2 q3 => hw (3 + o) j (by omega) (by omega) (by omega)) (hA 5 (by omega) (by omega)) (fun k q1 q2 => hA k (by omega) (by omega))
  have sRtold : Rtold w' 3 A' := Rtold_tr pRtold (Or.inl rfl) (fun o j q1 q2 q3 => hw (3 + o) j (by omega) (by omega) (by omega)) (hA 7 (by omega) (by omega)) (fun k q1 q2 => hA k (by omega) (by omega))
  have sRvis : Rvis w' 3 A' := Rvis_tr pRvis (Or.inl rfl) (fun o j q1 q2 q3 => hw (3 + o) j (by omega) (by omega) (by omega)) (hA 8 (by omega) (by omega)) (fun k q1 q2 => hA k (by omega) (by omega))
  have sRpic : Rpic w' 3 A' := Rpic_tr pRpic (Or.inl rfl) (fun o j q1 q2 q3 => hw (3 + o) j (by omega) (by omega) (by omega)) (hA 9 (by omega) (by omega)) (fun k q1 q2 => hA k (by omega) (by omega))
  have sRque : Rque w' 3 A' := Rque_tr pRque (Or.inl rfl) (fun o j q1 q2 q3 => hw (3 + o) j (by omega) (by omega) (by omega)) (hA 10 (by omega) (by omega)) (fun k q1 q2 => hA k (by omega) (by omega))
  have sRact : Ract w' 3 A' := Ract_tr pRact (Or.inl rfl) (fun o j q1 q2 q3 => hw (3 + o) j (by omega) (by omega) (by omega)) (hA 11 (by omega) (by omega)) (fun k q1 q2 => hA k (by omega) (by omega))
  have sRcld : Rcld w' 3 A' := Rcld_tr pRcld (Or.inl rfl) (fun o j q1 q2 q3 => hw (3 + o) j (by omega) (by omega) (by omega)) (hA 12 (by omega) (by omega)) (fun k q1 q2 => hA k (by omega) (by omega))
  have sRwat : Rwat w' 3 A' := Rwat_tr pRwat (Or.inl rfl) (fun o j q1 q2 q3 => hw (3 + o) j (by omega) (by omega) (by omega)) (hA 13 (by omega) (by omega)) (fun k q1 q2 => hA k (by omega) (by omega))
  have sRchain : Rchain w' 3 A' := Rchain_tr pRchain (fun o j q1 q2 q3 q4 => hw (3 + o) j (by omega) (by omega) (by omega)) (hA 3 (by omega) (by omega)) (hA 4 (by omega) (by omega)) (fun m q => hA _ (by omega) (by omega))
  have sRvis2 : Rvis2 w' 3 A' c := Rvis2_tr pRvis2 ⟨l8, l5, i5⟩ pIvis rfl (fun j q => hw 27 j (by omega) (by omega) (by omega)) (fun k q1 q2 => hA k (by omega) (by omega)) (fun k q1 q2 => hA k (by omega) (by omega))
  have sRact2 : Ract2 w' 3 A' c := Ract2_tr pRact2 ⟨l11, l3, l4, l7, l8, l10⟩ pIact rfl (fun j q => hw 33 j (by omega) (by omega) (by omega)) (fun k q1 q2 => hA k (by omega) (by omega)) (fun i q => hA _ (by omega) (by omega)) (fun i q => hA _ (by omega) (by omega)) (fun i q => hA _ (by omega) (by omega)) (fun i q => hA _ (by omega) (by omega))
  have sRway : Rway w' 3 A' c := Rway_tr pRway (Or.inl rfl) ⟨l1, l2⟩ rfl rfl (fun o j q1 q2 q3 => hw (3 + o) j (by omega) (by omega) (by omega)) (fun k q1 q2 => hA k (by omega) (by omega))
  have sRtext : Rtext w' 3 A' c := by
    exact tx
  exact ⟨⟨z0, z1, sI2, sIsort, sIsite, sIroad, sIthing, sImove, sIseal, sItold, sIvis, sIpic, sIque, sIact, sIcld, sIwat⟩, sRscal, sRsort, sRsite, sRthing, sRmove, sRseal, sRtold, sRvis, sRpic, sRque, sRact, sRcld, sRwat, sRchain, sRvis2, sRact2, sRway, sRtext⟩
theorem nI_or {a b : Nat} (ha : a < 128) (hb : b < 128) : nI a ||| nI b = nI (a ||| b) := by
  apply Int32.toBitVec_inj.mp
  have e2 : ∀ y, (nI y).toBitVec = BitVec.ofNat 32 y := fun y => rfl
  rw [Int32.toBitVec_or, e2, e2, e2]
  apply BitVec.eq_of_toNat_eq
  have h3 : a ||| b < 2 ^ 7 := Nat.or_lt_two_pow ha hb
  simp only [BitVec.toNat_or, BitVec.toNat_ofNat]
  rw [Nat.mod_eq_of_lt (by omega), Nat.mod_eq_of_lt (by omega), Nat.mod_eq_of_lt (by omega)]
/-- the kind of the i-th clause -/
def saL (l : List It) (i : Nat) : Nat := match l[i]? with
  | some e => e.1
  | none => 0
theorem saL_e {i : Nat} {e : It} (h : l[i]? = some e) : saL l i = e.1 := by unfold saL; rw [h]
def kdn (l : List It) : Nat → Nat
  | 0 => 0
  | i + 1 => kdn l i ||| 2 ^ saL l i
theorem p2_7 {s : Nat} (h : s < 7) : 2 ^ s < 128 := Nat.pow_lt_pow_right (by omega) h
theorem kdn_lt (hs : ∀ i, saL l i < 7) : ∀ i, kdn l i < 128 := by
  intro i
  induction i with
  | zero => show 0 < 128; omega
  | succ i ih => exact Nat.or_lt_two_pow (n := 7) ih (p2_7 (hs i))
theorem kdn_b : ∀ i k, (kdn l i).testBit k = true ↔ ∃ r, r < i ∧ saL l r = k := by
  intro i
  induction i with
  | zero => intro k; exact ⟨fun h => absurd h (by simp [kdn]), fun ⟨r, h, _⟩ => absurd h (Nat.not_lt_zero r)⟩
  | succ i ih =>
    intro k
    rw [kdn, Nat.testBit_or, Bool.or_eq_true, ih, Nat.testBit_two_pow, decide_eq_true_iff]
    constructor
    · rintro (⟨r, h1, h2⟩ | h)
      · exact ⟨r, by omega, h2⟩
      · exact ⟨i, by omega, h⟩
    · rintro ⟨r, h1, h2⟩
      by_cases z : r = i
      · exact Or.inr (by rw [← z]; exact h2)
      · exact Or.inl ⟨r, by omega, h2⟩
def rwA (s p ks : Nat) (r : Pcl) (q : Nat) : Nat := rwF s p r q + if (q = 1 ∨ q = 2) ∧ (s = 0 ∨ s = 4) then ks else 0
/-- so far so many clauses taken over -/
def Ad (v w : jW) (l : List It) (nt cs ks i : Nat) : Prop := JR v 19 4 160 (cs + i) ∧ (∀ r e, r < i → l[r]? = some e → ∀ q, q < 4 → v.1 20 ((cs + r) * 4 + q) = nI (rwA e.1 e.2.1 ks e.2.2 q)) ∧ (∀ j, j < cs * 4 → v.1 20 j = w.1 20 j) ∧ (∀ b, b ≠ 19 → b ≠ 20 → v.1 b = w.1 b)
theorem c_ad1 (hl : cs + l.length ≤ 160) (hr : ∀ r e, l[r]? = some e → Rci w r e ∧ e.2.1 + tln e.2.2.2.2.2.2.2 ≤ p' ∧ Git e) (hp : p' ≤ 300) (hks : ks ≤ 3000) (J4 : JR w 74 4 16 l.length) : ∀ m i f (v : jW), i + m = l.length → m < f → Ad v w l nt cs ks i → ∃ v2, f_Treaty_adopt_h40 f (nI nt) (nI (kdn l i)) (nI ks) (nI i) v = f_Treaty_adopt_h178 jfu (nI nt) (nI (kdn l l.length)) 0 v2 ∧ Ad v2 w l nt cs ks l.length := by
  have h16 := J4.2.2.1
  have h7 : ∀ i, saL l i < 7 := fun i => by
    unfold saL
    cases hx : l[i]? with
    | none => show 0 < 7; omega
    | some e => exact (hr i e hx).2.2.1
  intro m
  induction m with
  | zero =>
    intro i f v hi hf a
    obtain ⟨f, rfl⟩ : ∃ j, f = j + 1 := ⟨f - 1, by omega⟩
    have J4v := JR_eq J4 (a.2.2.2 74 (by omega) (by omega))
    refine ⟨v, ?_, by rw [show i = l.length by omega] at a; exact a⟩
    rw [f_Treaty_adopt_h40, r_count J4v, ob]
    dsimp only
    rw [if_neg (nI_nlt (by omega) (by omega)), show i = l.length by omega]
  | succ m ih =>
    intro i f v hi hf a
    obtain ⟨f, rfl⟩ : ∃ j, f = j + 1 := ⟨f - 1, by omega⟩
    have J4v := JR_eq J4 (a.2.2.2 74 (by omega) (by omega))
    have e75 : v.1 75 = w.1 75 := a.2.2.2 75 (by omega) (by omega)
    obtain ⟨e, he⟩ : ∃ e, l[i]? = some e := ⟨l[i]'(by omega), List.getElem?_eq_getElem (by omega)⟩
    obtain ⟨⟨r1, r2⟩, r3, r4⟩ := hr i e he
    have hs7 := r4.1
    have col : ∀ q, q < 4 → ∀ x : Int32, x = nI q → ∀ u : jW, (∀ b, b ≠ 19 → b ≠ 20 → u.1 b = v.1 b) → f_Rows_at 74 (nI i) x u = some (nI (rwF e.1 e.2.1 e.2.2 q), u) := fun q hq x hx u hu => by
      rw [hx, r_at (JR_eq J4v (hu 74 (by omega) (by omega))) (by omega) hq, hu 75 (by omega) (by omega), e75, r1 q hq]
    have j81 : ∀ sh : Nat, (sh = if e.1 = 0 ∨ e.1 = 4 then ks else 0) → ∃ v2, f_Treaty_adopt_j81 (f_Treaty_adopt_h40 f) (nI nt) (nI (kdn l i)) (nI ks) (nI i) (nI e.1) (nI sh) v = f_Treaty_adopt_h178 jfu (nI nt) (nI (kdn l l.length)) 0 v2 ∧ Ad v2 w l nt cs ks l.length := fun sh hsh => by
      obtain ⟨v1, a1, b1, J1⟩ := ap_open a.1 (by omega) (nI e.1)
      obtain ⟨v2, a2, b2, J2⟩ := ap_put b1 J1 (j := 1) (by omega) (y := 1) rfl (nI (rwF e.1 e.2.1 e.2.2 1 + sh))
      obtain ⟨v3, a3, b3, J3⟩ := ap_put b2 J2 (j := 2) (by omega) (y := 2) rfl (nI (rwF e.1 e.2.1 e.2.2 2 + sh))
      obtain ⟨v4, a4, b4, J4'⟩ := ap_put b3 J3 (j := 3) (by omega) (y := 3) rfl (nI (rwF e.1 e.2.1 e.2.2 3))
      have fr : ∀ {u : jW} {r : Nat → Int32}, Ap u v 19 4 (cs + i) r → ∀ b, b ≠ 19 → b ≠ 20 → u.1 b = v.1 b := fun z b q1 q2 => Ap_fn z q1 q2
      have hb : nI (kdn l i) ||| ((1 : Int32) <<< (nI e.1 &&& 31)) = nI (kdn l (i + 1)) := by
        have sh1 : ∀ s, s < 7 → ((1 : Int32) <<< (nI s &&& 31)) = nI (2 ^ s) := by decide
        rw [sh1 _ hs7, nI_or (kdn_lt h7 i) (p2_7 hs7), kdn, saL_e he]
      have e0 : (if e.1 = 0 ∨ e.1 = 4 then ks else 0) = sh := hsh.symm
      obtain ⟨v5, d1, d2⟩ := ih (i + 1) f v4 (by omega) (by omega) ⟨J4', fun r e' hr' he' q hq => by
        by_cases z : r = i
        · subst z
          have : e' = e := Option.some.inj (he'.symm.trans he)
          subst this
          have := b4.2.1 q hq
          rw [this]
          dsimp only
          unfold rwA
          rcases (by omega : q = 0 ∨ q = 1 ∨ q = 2 ∨ q = 3) with rfl | rfl | rfl | rfl
          · rw [if_neg (by omega), if_neg (by omega), if_neg (by omega), if_pos rfl, if_neg (by omega)]; rfl
          · rw [if_neg (by omega), if_neg (by omega), if_pos rfl]
            refine congrArg nI (congrArg _ ?_)
            rw [← e0]; split <;> simp_all
          · rw [if_neg (by omega), if_pos rfl]
            refine congrArg nI (congrArg _ ?_)
            rw [← e0]; split <;> simp_all
          · rw [if_pos rfl, if_neg (by omega), Nat.add_zero]
        · rw [b4.2.2 20 _ (by omega)]
          exact a.2.1 r e' (by omega) he' q hq, fun j hj => by rw [b4.2.2 20 j (by omega)]; exact a.2.2.1 j hj, fun b q1 q2 => (fr b4 b q1 q2).trans (a.2.2.2 b q1 q2)⟩
      refine ⟨v5, ?_, d2⟩
      rw [f_Treaty_adopt_j81, a1, ob]
      dsimp only
      rw [col 1 (by omega) 1 rfl v1 (fr b1), ob]
      dsimp only
      rw [nI_add, a2, ob, col 2 (by omega) 2 rfl v2 (fr b2), ob]
      dsimp only
      rw [nI_add, a3, ob, col 3 (by omega) 3 rfl v3 (fr b3), ob]
      dsimp only
      rw [a4, ob, hb, ip_1, d1]
    have h0 : rwF e.1 e.2.1 e.2.2 0 = e.1 := rfl
    rw [f_Treaty_adopt_h40, r_count J4v, ob]
    dsimp only
    rw [if_pos (nI_lt (by omega) (by omega)), col 0 (by omega) 0 rfl v (fun _ _ _ => rfl), ob, h0]
    dsimp only
    by_cases z0 : e.1 = 0
    · rw [if_pos (by rw [z0]; rfl), f_Treaty_adopt_j75]
      exact j81 ks (by rw [if_pos (Or.inl z0)])
    rw [if_neg (show ¬ nI e.1 = 0 from nI_ne' (b := 0) (by omega) (by omega) z0)]
    by_cases z4 : e.1 = 4
    · rw [if_pos (by rw [z4]; rfl), f_Treaty_adopt_j75]
      exact j81 ks (by rw [if_pos (Or.inr z4)])
    rw [if_neg (show ¬ nI e.1 = 4 from nI_ne' (b := 4) (by omega) (by omega) z4)]
    exact j81 0 (by rw [if_neg (by omega)])
def Ae (v w : jW) (ks i : Nat) : Prop := JR v 21 1 3000 (ks + i) ∧ (∀ r, r < i → v.1 22 (ks + r) = w.1 77 r) ∧ (∀ j, j < ks → v.1 22 j = w.1 22 j) ∧ (∀ b, b ≠ 21 → b ≠ 22 → v.1 b = w.1 b)
theorem c_ad2 {kd cc : Nat} (hp : ks + p' ≤ 3000) (hp3 : p' ≤ 300) (J6 : JR w 76 1 300 p') (J17 : JR w 17 4 10 (nt + 1)) (J19 : JR w 19 4 160 cc) : ∀ m i f (v : jW), i + m = p' → m < f → Ae v w ks i → ∃ v2, f_Treaty_adopt_h178 f (nI nt) (nI kd) (nI i) v = some (nI nt, v2) ∧ JR v2 17 4 10 (nt + 1) ∧ JR v2 21 1 3000 (ks + p') ∧ (∀ r, r < p' → v2.1 22 (ks + r) = w.1 77 r) ∧ (∀ j, j < ks → v2.1 22 j = w.1 22 j) ∧ v2.1 18 (nt * 4 + 1) = nI kd ∧ v2.1 18 (nt * 4 + 3) = nI cc ∧ (∀ j, j ≠ nt * 4 + 1 → j ≠ nt * 4 + 3 → v2.1 18 j = w.1 18 j) ∧ (∀ b, b ≠ 18 → b ≠ 21 → b ≠ 22 → v2.1 b = w.1 b) := by
  intro m
  induction m with
  | zero =>
    intro i f v hi hf a
    obtain ⟨f, rfl⟩ : ∃ j, f = j + 1 := ⟨f - 1, by omega⟩
    have J6v := JR_eq J6 (a.2.2.2 76 (by omega) (by omega))
    have J17v := JR_eq J17 (a.2.2.2 17 (by omega) (by omega))
    have J19v := JR_eq J19 (a.2.2.2 19 (by omega) (by omega))
    have e18 : v.1 18 = w.1 18 := a.2.2.2 18 (by omega) (by omega)
    have J1 : JR (jup v.1 18 (nt * 4 + 1) (nI kd), v.2) 17 4 10 (nt + 1) := JR_eq J17v (by dsimp only; rw [jup_fn (by omega)])
    have J2 : JR (jup v.1 18 (nt * 4 + 1) (nI kd), v.2) 19 4 160 cc := JR_eq J19v (by dsimp only; rw [jup_fn (by omega)])
    rw [f_Treaty_adopt_h178, r_count J6v, ob]
    dsimp only
    rw [if_neg (nI_nlt (by omega) (by omega)), show f_Rows_put 17 (nI nt) 1 (nI kd) v = _ from r_put J17v (i := nt) (j := 1) (by omega) (by omega) _, ob, r_count J2, ob]
    dsimp only
    rw [show f_Rows_put 17 (nI nt) 3 (nI cc) (jup v.1 (17 + 1) (nt * 4 + 1) (nI kd), v.2) = _ from r_put J1 (i := nt) (j := 3) (by omega) (by omega) _, ob]
    refine ⟨_, rfl, JR_eq J1 (by dsimp only; rw [jup_fn (by omega)]), ?_, fun r hr => ?_, fun j hj => ?_, ?_, ?_, fun j q1 q2 => ?_, fun b q1 q2 q3 => ?_⟩
    · rw [show p' = i by omega]; exact JR_eq a.1 (by dsimp only; rw [jup_fn (by omega), jup_fn (by omega)])
    · dsimp only; rw [jup_ne (by omega), jup_ne (by omega)]; exact a.2.1 r (by omega)
    · dsimp only; rw [jup_ne (by omega), jup_ne (by omega)]; exact a.2.2.1 j hj
    · dsimp only; rw [jup_k (by omega), jup_eq]
    · dsimp only; rw [jup_eq]
    · dsimp only; rw [jup_k q2, jup_k q1, e18]
    · dsimp only; rw [jup_fn (by omega), jup_fn (by omega)]; exact a.2.2.2 b q2 q3
  | succ m ih =>
    intro i f v hi hf a
    obtain ⟨f, rfl⟩ : ∃ j, f = j + 1 := ⟨f - 1, by omega⟩
    have J6v := JR_eq J6 (a.2.2.2 76 (by omega) (by omega))
    have e77 : v.1 77 = w.1 77 := a.2.2.2 77 (by omega) (by omega)
    obtain ⟨v1, a1, b1, J1⟩ := ap_open a.1 (by omega) (w.1 77 i)
    have ec : f_Rows_at 76 (nI i) 0 v = some (w.1 77 i, v) := by
      rw [show f_Rows_at 76 (nI i) 0 v = _ from r_at J6v (i := i) (j := 0) (by omega) (by omega), e77, Nat.mul_one]; rfl
    obtain ⟨v2, d⟩ := ih (i + 1) f v1 (by omega) (by omega) ⟨J1, fun r hr => by
      by_cases z : r = i
      · have := b1.2.1 0 (by omega)
        dsimp only at this
        rw [Nat.mul_one, Nat.add_zero, if_pos rfl] at this
        rw [z]; exact this
      · rw [b1.2.2 22 _ (by omega)]; exact a.2.1 r (by omega), fun j hj => by rw [b1.2.2 22 j (by omega)]; exact a.2.2.1 j hj, fun b q1 q2 => (Ap_fn b1 q1 q2).trans (a.2.2.2 b q1 q2)⟩
    refine ⟨v2, ?_, d.2⟩
    rw [f_Treaty_adopt_h178, r_count J6v, ob]
    dsimp only
    rw [if_pos (nI_lt (by omega) (by omega)), ec, ob]
    dsimp only
    rw [a1, ob, ip_1]
    exact d.1
theorem c_adopt (J17 : JR w 17 4 10 nt) (hn : nt < 10) (J19 : JR w 19 4 160 cs) (J21 : JR w 21 1 3000 ks) (J4 : JR w 74 4 16 l.length) (J6 : JR w 76 1 300 p') (hl : cs + l.length ≤ 160) (hp : ks + p' ≤ 3000) (hr : ∀ r e, l[r]? = some e → Rci w r e ∧ e.2.1 + tln e.2.2.2.2.2.2.2 ≤ p' ∧ Git e) (x : Int32) : ∃ v, f_Treaty_adopt x w = some (nI nt, v) ∧ JR v 17 4 10 (nt + 1) ∧ JR v 19 4 160 (cs + l.length) ∧ JR v 21 1 3000 (ks + p') ∧ v.1 18 (nt * 4) = x ∧ v.1 18 (nt * 4 + 1) = nI (kdn l l.length) ∧ v.1 18 (nt * 4 + 2) = nI cs ∧ v.1 18 (nt * 4 + 3) = nI (cs + l.length) ∧ (∀ j, j < nt * 4 → v.1 18 j = w.1 18 j) ∧ (∀ r e, l[r]? = some e → ∀ q, q < 4 → v.1 20 ((cs + r) * 4 + q) = nI (rwA e.1 e.2.1 ks e.2.2 q)) ∧ (∀ j, j < cs * 4 → v.1 20 j = w.1 20 j) ∧ (∀ r, r < p' → v.1 22 (ks + r) = w.1 77 r) ∧ (∀ j, j < ks → v.1 22 j = w.1 22 j) ∧ (∀ b, ¬ (17 ≤ b ∧ b ≤ 22) → v.1 b = w.1 b) := by
  obtain ⟨v1, a1, b1, J1⟩ := ap_open J17 hn x
  have f1 : ∀ b, b ≠ 17 → b ≠ 18 → v1.1 b = w.1 b := fun b q1 q2 => Ap_fn b1 q1 q2
  obtain ⟨v2, a2, b2, J2⟩ := ap_put b1 J1 (j := 2) (by omega) (y := 2) rfl (nI cs)
  have f2 : ∀ b, b ≠ 17 → b ≠ 18 → v2.1 b = w.1 b := fun b q1 q2 => Ap_fn b2 q1 q2
  have hr2 : ∀ r e, l[r]? = some e → Rci v2 r e ∧ e.2.1 + tln e.2.2.2.2.2.2.2 ≤ p' ∧ Git e := fun r e he => by
    obtain ⟨⟨z1, z2⟩, z3⟩ := hr r e he
    exact ⟨⟨fun q hq => by rw [f2 75 (by omega) (by omega)]; exact z1 q hq, by rw [f2 77 (by omega) (by omega)]; exact z2⟩, z3⟩
  have p3 := J6.2.2.1
  obtain ⟨v3, a3, b3⟩ := c_ad1 (nt := nt) (cs := cs) (ks := ks) hl hr2 p3 (by omega) (JR_eq J4 (f2 74 (by omega) (by omega))) l.length 0 jfu v2 (by omega) (by have := J4.2.2.1; unfold jfu; omega) ⟨JR_eq J19 (f2 19 (by omega) (by omega)), fun r e hr => absurd hr (Nat.not_lt_zero r), fun _ _ => rfl, fun _ _ _ => rfl⟩
  have f3 := b3.2.2.2
  obtain ⟨v4, a4, c1, c2, c3, c4, c5, c6, c7, c8⟩ := c_ad2 (w := v3) (nt := nt) (ks := ks) (p' := p') (kd := kdn l l.length) hp p3 (JR_eq J6 ((f3 76 (by omega) (by omega)).trans (f2 76 (by omega) (by omega)))) (JR_eq J2 (f3 17 (by omega) (by omega))) b3.1 p' 0 jfu v3 (by omega) (by unfold jfu; omega) ⟨JR_eq J21 ((f3 21 (by omega) (by omega)).trans (f2 21 (by omega) (by omega))), fun r hr => absurd hr (Nat.not_lt_zero r), fun _ _ => rfl, fun _ _ _ => rfl⟩
  have e18 : v3.1 18 = v2.1 18 := f3 18 (by omega) (by omega)
  have e22 : v3.1 22 = w.1 22 := (f3 22 (by omega) (by omega)).trans (f2 22 (by omega) (by omega))
  have e77 : v3.1 77 = w.1 77 := (f3 77 (by omega) (by omega)).trans (f2 77 (by omega) (by omega))
  have e20 : v4.1 20 = v3.1 20 := c8 20 (by omega) (by omega) (by omega)
  refine ⟨v4, ?_, c1, JR_eq b3.1 (c8 19 (by omega) (by omega) (by omega)), c2, ?_, c5, ?_, c6, fun j hj => ?_, fun r e he q hq => ?_, fun j hj => ?_, fun r hr => ?_, fun j hj => ?_, fun b hb => ?_⟩
  · rw [f_Treaty_adopt, a1, ob]
    dsimp only
    rw [r_count (JR_eq J21 (f1 21 (by omega) (by omega))), ob]
    dsimp only
    rw [r_count (JR_eq J19 (f1 19 (by omega) (by omega))), ob]
    dsimp only
    rw [a2, ob]
    exact a3.trans a4
  · rw [c7 _ (by omega) (by omega), e18]
    have := b2.2.1 0 (by omega)
    dsimp only at this
    rw [Nat.add_zero, if_neg (by omega), if_pos rfl] at this
    exact this
  · rw [c7 _ (by omega) (by omega), e18]
    have := b2.2.1 2 (by omega)
    dsimp only at this
    rw [if_pos rfl] at this
    exact this
  · rw [c7 _ (by omega) (by omega), e18, b2.2.2 18 j (by omega)]
  · rw [e20]
    have hlt : r < l.length := (List.getElem?_eq_some_iff.mp he).1
    exact b3.2.1 r e hlt he q hq
  · rw [e20, b3.2.2.1 j hj, f2 20 (by omega) (by omega)]
  · rw [c3 r hr, e77]
  · rw [c4 j hj, e22]
  · rw [c8 b (by omega) (by omega) (by omega), f3 b (by omega) (by omega), f2 b (by omega) (by omega)]
end AD

/-! LAYER C of p48: shares: the law's weights, the best of all choices, the rows -/
section E2
variable {w v : jW} {A : Nat → Int32} {c : Nat → Nat} {K : Nat} {xs : Nat → Int32} {Ls : Nat}
theorem cmp_nlt {a b : Nat} (ha : a < 2 ^ 63) (hb : b < 2 ^ 63) (h : b ≤ a) : ¬ lg_cmp (lN a) (lN b) < 0 := by
  unfold lg_cmp
  by_cases q : b < a
  · rw [if_pos (show lN a > lN b from (pk_lLT hb ha).mpr q)]; decide
  · have e : a = b := by omega
    rw [e]
    split
    · decide
    · rw [if_pos rfl]; decide
/-- how many bits -/
def bc (a : Nat) : Nat := ct (fun i => a.testBit i) 5
def jW0 : jW := (fun _ _ => 0, fun _ _ => 0)
theorem bc_0 : ∀ a, a < 33 → (f_Intg_bitCount (nI a) jW0).map Prod.fst = some (nI (if a < 32 then bc a else 1)) := by decide +kernel
theorem bc_e {a : Nat} (h : a < 32) : f_Intg_bitCount (nI a) w = some (nI (bc a), w) := by
  have q := bc_0 a (by omega)
  rw [if_pos h] at q
  have e : f_Intg_bitCount (nI a) w = ((f_Intg_bitCount (nI a) jW0).map Prod.fst).map (fun z => (z, w)) := rfl
  rw [e, q]; rfl
theorem bc_n : ∀ n, n ≤ 5 → ∀ a, a < 2 ^ n → bc a = ct (fun i => a.testBit i) n := by decide +kernel
theorem bc_5 (a : Nat) : bc a ≤ 5 := ct_le _ 5
/-- what the law reads of the rows -/
def SW (w : jW) (wq : Nat → Nat) (P : List Nat) (n : Nat) : Prop := (∀ i, i < 5 → w.1 103 i = nI (wq i)) ∧ (∀ i, i < n → wq i ≤ 39) ∧ (∀ i, n ≤ i → wq i = 0) ∧ ∀ i, i < n → w.1 104 i = nI (P.getD i 0)
def xw (wq : Nat → Nat) (P : List Nat) (i : Nat) : Nat := wq i * P.getD i 0
def Va (wq : Nat → Nat) (P : List Nat) (n a : Nat) : Nat := sm (fun i => if a.testBit i = true then xw wq P i else 0) n
theorem xw_b {wq : Nat → Nat} {P : List Nat} {n i : Nat} (h1 : ∀ i, i < n → wq i ≤ 39) (hP : ∀ x ∈ P, 1 ≤ x ∧ x ≤ 50) (hn : P.length = n) (hi : i < n) : xw wq P i < 2000 ∧ P.getD i 0 ≤ 50 ∧ 1 ≤ P.getD i 0 := by
  have hm : P.getD i 0 ∈ P := by
    rw [List.getD_eq_getElem?_getD, List.getElem?_eq_getElem (by omega)]
    exact List.getElem_mem (by omega)
  have h2 := hP _ hm
  have h3 : wq i * P.getD i 0 ≤ 39 * 50 := Nat.mul_le_mul (h1 i hi) h2.2
  unfold xw
  omega
/-- one choice's weight -/
theorem l_482 {x3 x5 x14 : Int32} {x6 x8 : Int64} {wq : Nat → Nat} {P : List Nat} {n a best all : Nat} (hn : n ≤ 5) (hPl : P.length = n) (hP : ∀ x ∈ P, 1 ≤ x ∧ x ≤ 50) (hS : SW w wq P n) (ha : a < 32) (hb : best < 100000) {k454 : Int32 → Int32 → Int32 → Int64 → Int64 → Int32 → Int64 → Int64 → Int32 → jW → Option (Int32 × jW)} : ∀ m i f, i + m = n → m < f → f_Law_shares_h482 xs Ls k454 f x3 (nI n) x5 x6 x8 x14 (lN best) (lN all) (nI a) (lN (sm (fun i => if a.testBit i = true then xw wq P i else 0) i)) (nI i) w = k454 x3 (nI n) x5 x6 x8 x14 (lN (max best (Va wq P n a))) (lN all) (nI (a + 1)) w := by
  have bd : ∀ m, m ≤ n → sm (fun i => if a.testBit i = true then xw wq P i else 0) m ≤ 2000 * m := by
    intro m
    induction m with
    | zero => intro _; exact Nat.le_refl _
    | succ m ih =>
      intro hm
      have := ih (by omega)
      have := (xw_b (i := m) hS.2.1 hP hPl (by omega)).1
      rw [sm]
      split <;> omega
  intro m
  induction m with
  | zero =>
    intro i f hi hf
    obtain ⟨f, rfl⟩ : ∃ j, f = j + 1 := ⟨f - 1, by omega⟩
    have ei : i = n := by omega
    subst ei
    have b1 := bd i (Nat.le_refl _)
    have eV : Va wq P i a = sm (fun i => if a.testBit i = true then xw wq P i else 0) i := rfl
    rw [f_Law_shares_h482, if_neg (nI_nlt (by omega) (by omega)), ip_1, eV]
    congr 1
    by_cases z : sm (fun i => if a.testBit i = true then xw wq P i else 0) i < best
    · rw [if_pos ((pk_lLT (by omega) (by omega)).mpr z), Nat.max_eq_left (by omega)]
    · rw [if_neg (fun y => z ((pk_lLT (by omega) (by omega)).mp y)), Nat.max_eq_right (by omega)]
  | succ m ih =>
    intro i f hi hf
    obtain ⟨f, rfl⟩ : ∃ j, f = j + 1 := ⟨f - 1, by omega⟩
    have iH := ih (i + 1) f (by omega) (by omega)
    rw [sm] at iH
    have hx := xw_b (i := i) hS.2.1 hP hPl (by omega)
    have g1 : jal [jin (nI i) 5, jin (nI i) 5] = true := by rw [jal_c, jal_c, jal_n, jin_nI (by omega) (by omega)]; rfl
    rw [f_Law_shares_h482, if_pos (nI_lt (by omega) (by omega)), sbit a (by omega) i (by omega), ip_1]
    by_cases z : a.testBit i = true
    · rw [if_pos z, if_pos rfl, if_pos g1, nI_clamp (by omega), hS.1 i (by omega), hS.2.2.2 i (by omega), nI_mul, show Int32.toInt64 (nI (wq i * P.getD i 0)) = lN (wq i * P.getD i 0) from nI_l (by have := hx.1; unfold xw at this; omega), lN_add]
      rw [if_pos z] at iH
      exact iH
    · rw [if_neg z, if_neg (by decide), show (0 : Int64) = lN 0 from rfl, lN_add]
      rw [if_neg z] at iH
      exact iH
/-- the end: the best choice, and the rows' bound -/
theorem l_454 (R : RA w 3 A c K) (h1c : c 1 = 5) {σ n q U L : Nat} {P : List Nat} {wq : Nat → Nat} {x14 : Int32} (hσ1 : 1 ≤ σ) (hσ : σ < 32) (hP : P = chl A σ (c 1) 0) (hPl : P.length = n) (hn1 : 1 ≤ n) (hn : n ≤ 5) (hq1 : 1 ≤ q) (hq : q ≤ n) (hU : U = nume A c σ q / Nat.gcd (nume A c σ q) (deno A c σ q)) (hL : L = deno A c σ q / Nat.gcd (nume A c σ q) (deno A c σ q)) (hUb : U < 2 ^ 32) (hLb : L < 2 ^ 32) (hS : SW w wq P n) (hx : (x14 = 0 ∧ sm wq n = 0) ∨ (x14 = 1 ∧ sm wq n ≠ 0)) {N : Nat → Nat} {D : Nat} (hD : 1 ≤ D) (hN : ∀ i, i < n → U * D = N i * (L * P.getD i 0)) (hN1 : ∀ i, i < n → N i ≤ D) (hN2 : sm N n ≤ q * D) : ∀ m a f best, a + m = 2 ^ n → m < f → best < 100000 → (∀ a', a' < a → bc a' = q → Va wq P n a' ≤ best) → (best = 0 ∨ ∃ a', a' < a ∧ bc a' = q ∧ Va wq P n a' = best) → Fin1 (f_Law_shares_h454 xs Ls f (nI σ) (nI n) (nI q) (lN U) (lN L) x14 (lN best) (lN (sm wq n)) (nI a) w) := by
  have p5 : 2 ^ n ≤ 2 ^ 5 := Nat.pow_le_pow_right (by omega) hn
  have hPr : ∀ x ∈ P, 1 ≤ x ∧ x ≤ 50 := by
    rw [hP]; exact chl_rng R (c 1) 0 (by omega)
  have hxw : ∀ i, i < n → xw wq P i < 2000 := fun i hi => (xw_b hS.2.1 hPr hPl hi).1
  have all_b : sm wq n ≤ 39 * n := by
    have gen : ∀ m, m ≤ n → sm wq m ≤ 39 * m := by
      intro m
      induction m with
      | zero => intro _; exact Nat.le_refl _
      | succ m ih =>
        intro hm
        have := ih (by omega)
        have := hS.2.1 m (by omega)
        rw [sm]; omega
    exact gen n (Nat.le_refl _)
  intro m
  induction m with
  | succ m ih =>
    intro a f best ha hf hb h1 h2
    obtain ⟨f, rfl⟩ : ∃ j, f = j + 1 := ⟨f - 1, by omega⟩
    rw [f_Law_shares_h454, spow n (by omega), if_pos (nI_lt (by omega) (by omega)), bc_e (by omega), ob]
    dsimp only
    by_cases z : bc a = q
    · have vb : Va wq P n a ≤ 2000 * n := by
        have gen : ∀ m, m ≤ n → sm (fun i => if a.testBit i = true then xw wq P i else 0) m ≤ 2000 * m := by
          intro m
          induction m with
          | zero => intro _; exact Nat.le_refl _
          | succ m ih =>
            intro hm
            have := ih (by omega)
            have := hxw m (by omega)
            rw [sm]
            split <;> omega
        exact gen n (Nat.le_refl _)
      have e := l_482 (xs := xs) (Ls := Ls) (x3 := nI σ) (x5 := nI q) (x14 := x14) (x6 := lN U) (x8 := lN L) (all := sm wq n) hn hPl hPr hS (a := a) (by omega) hb (k454 := f_Law_shares_h454 xs Ls f) n 0 jfu (by omega) (by unfold jfu; omega)
      have e' : f_Law_shares_h482 xs Ls (f_Law_shares_h454 xs Ls f) jfu (nI σ) (nI n) (nI q) (lN U) (lN L) x14 (lN best) (lN (sm wq n)) (nI a) 0 0 w = _ := e
      rw [if_pos (congrArg nI z), e']
      refine ih (a + 1) f (max best (Va wq P n a)) (by omega) (by omega) (Nat.max_lt.mpr ⟨hb, by omega⟩) (fun a' ha' hq' => ?_) ?_
      · by_cases y : a' = a
        · rw [y]; exact Nat.le_max_right _ _
        · exact Nat.le_trans (h1 a' (by omega) hq') (Nat.le_max_left _ _)
      · by_cases y : best ≤ Va wq P n a
        · exact Or.inr ⟨a, by omega, z, (Nat.max_eq_right y).symm⟩
        · rw [Nat.max_eq_left (by omega)]
          exact h2.imp id (fun ⟨a', q1, q2⟩ => ⟨a', by omega, q2⟩)
    · have b5 := bc_5 a
      rw [if_neg (nI_ne' (by omega) (by omega) z), ip_1]
      exact ih (a + 1) f best (by omega) (by omega) hb (fun a' ha' hq' => by
        by_cases y : a' = a
        · rw [y] at hq'; exact absurd hq' z
        · exact h1 a' (by omega) hq') (h2.imp id (fun ⟨a', q1, q2⟩ => ⟨a', by omega, q2⟩))
  | zero =>
    intro a f best ha hf hb h1 h2
    obtain ⟨f, rfl⟩ : ∃ j, f = j + 1 := ⟨f - 1, by omega⟩
    have ea : a = 2 ^ n := by omega
    subst ea
    -- the rows of the class
    have ew : ∀ i, i < 5 → wv (w.1 103 0) (w.1 103 1) (w.1 103 2) (w.1 103 3) (w.1 103 4) i = nI (wq i) := fun i hi => by
      rcases (show i = 0 ∨ i = 1 ∨ i = 2 ∨ i = 3 ∨ i = 4 by omega) with rfl | rfl | rfl | rfl | rfl
      · exact hS.1 0 (by omega)
      · exact hS.1 1 (by omega)
      · exact hS.1 2 (by omega)
      · exact hS.1 3 (by omega)
      · exact hS.1 4 (by omega)
    have ps : ∀ m i, i + m = n → psum (wv (w.1 103 0) (w.1 103 1) (w.1 103 2) (w.1 103 3) (w.1 103 4)) m i (sm wq i) = some (sm wq n) := by
      intro m
      induction m with
      | zero => intro i hi; rw [psum, show i = n by omega]
      | succ m ihm =>
        intro i hi
        have w39 := hS.2.1 i (by omega)
        rw [psum, ew i (by omega), if_neg (nI_pos (by omega)), if_pos (show nI (wq i) ≤ 999 from nI_le (b := 999) (by omega) (by omega)), nI_clamp (by omega)]
        exact ihm (i + 1) (by omega)
    have ps0 := ps n 0 (by omega)
    have hps : psum (wv (w.1 103 0) (w.1 103 1) (w.1 103 2) (w.1 103 3) (w.1 103 4)) P.length 0 0 = some (sm wq n) := by rw [hPl]; exact ps0
    have s32 : σ < 2 ^ c 1 := by rw [h1c]; omega
    obtain ⟨u, e1, k1, R1⟩ := s_proof R (σ := σ) (n := q) (by omega) hq1 (by rw [← hP, hPl]; exact hq) hσ1 s32 (by rw [← hP, hPl]; exact hn) hP hps (by omega)
    rw [← hU, ← hL, hPl, gty_c q _ (fun i => nI (xw wq P i)) 0 (fun j hj => by rw [ew j (by omega), nI_mul]; rfl) hn1] at e1
    -- greed gathers the best
    obtain ⟨S, s1, s2, s3⟩ := gty_s hxw hn q (fun i => nI (xw wq P i)) (fun _ => false) 0 (by
      have : ct (fun _ => false) n = 0 := by
        have gen : ∀ m, ct (fun _ => false) m = 0 := by
          intro m
          induction m with
          | zero => rfl
          | succ m ihm => rw [ct, ihm]; rfl
        exact gen n
      omega) (fun j _ => by rw [if_neg (by decide)]) (fun i j _ _ h _ => absurd h (by decide)) (by
      have gen : ∀ m, sm (fun i => if (false : Bool) = true then xw wq P i else 0) m = 0 := by
        intro m
        induction m with
        | zero => rfl
        | succ m ihm => rw [sm, ihm]; rfl
      exact (gen n).symm)
    have c0 : ct (fun _ => false) n = 0 := by
      have gen : ∀ m, ct (fun _ => false) m = 0 := by
        intro m
        induction m with
        | zero => rfl
        | succ m ihm => rw [ct, ihm]; rfl
      exact gen n
    rw [c0, Nat.zero_add] at s1
    have s3' : gty (fun i => nI (xw wq P i)) n q 0 = lN (sm (fun i => if S i = true then xw wq P i else 0) n) := s3
    -- it is the law's best
    have eb : best = sm (fun i => if S i = true then xw wq P i else 0) n := by
      refine Nat.le_antisymm ?_ ?_
      · rcases h2 with h2 | ⟨a', q1, q2, q3⟩
        · omega
        · have hk := kn (x := xw wq P) (N := fun i => if a'.testBit i = true then 1 else 0) (S := S) (n := n) (q := q) (D := 1) (fun i _ => by split <;> omega) (by
            rw [sm_ct, ← bc_n n hn a' q1, q2]; omega) s1 s2
          rw [Nat.one_mul] at hk
          rw [← q3]
          refine Nat.le_trans (sm_le n (fun i _ => ?_)) hk
          split
          · rw [Nat.one_mul]; exact Nat.le_refl _
          · exact Nat.zero_le _
      · obtain ⟨a', b1, b2⟩ := bits_ex n hn (S 0) (S 1) (S 2) (S 3) (S 4)
        have eS : ∀ i, i < n → a'.testBit i = S i := fun i hi => by
          rw [b2 i hi]
          rcases (show i = 0 ∨ i = 1 ∨ i = 2 ∨ i = 3 ∨ i = 4 by omega) with rfl | rfl | rfl | rfl | rfl <;> rfl
        have hc : bc a' = q := by rw [bc_n n hn a' b1, ct_eq n eS]; exact s1
        have := h1 a' b1 hc
        rw [show Va wq P n a' = sm (fun i => if S i = true then xw wq P i else 0) n from sm_eq n (fun i hi => by rw [eS i hi])] at this
        exact this
    rw [s3', ← eb] at e1
    -- the bound
    have bound : U * sm wq n ≤ best * L := by
      have hk := kn (x := xw wq P) (N := N) (S := S) (n := n) (q := q) (D := D) hN1 hN2 s1 s2
      rw [← eb] at hk
      have eU : U * D * sm wq n = L * sm (fun i => N i * xw wq P i) n := by
        rw [← sm_mul, ← sm_mul]
        refine sm_eq n (fun i hi => ?_)
        rw [hN i hi]
        unfold xw
        rw [Nat.mul_assoc, Nat.mul_assoc, Nat.mul_left_comm, Nat.mul_comm (P.getD i 0)]
      have h3 : D * (U * sm wq n) ≤ D * (best * L) := by
        rw [← Nat.mul_assoc, Nat.mul_comm D U, eU, Nat.mul_comm best L, Nat.mul_left_comm]
        exact Nat.mul_le_mul_left _ hk
      exact Nat.le_of_mul_le_mul_left h3 hD
    have bL : best * L ≤ 100000 * 2 ^ 32 := Nat.mul_le_mul (by omega) (by omega)
    have g1 : jal [jin 4 5, jin 3 5, jin 2 5, jin 1 5, jin 0 5] = true := by decide
    rw [f_Law_shares_h454, spow n (by omega), if_neg (nI_nlt (Nat.le_refl _) (by omega)), if_pos g1]
    rw [show Int32.toNatClampNeg 0 = 0 from rfl, show Int32.toNatClampNeg 1 = 1 from rfl, show Int32.toNatClampNeg 2 = 2 from rfl, show Int32.toNatClampNeg 3 = 3 from rfl, show Int32.toNatClampNeg 4 = 4 from rfl, e1, ob]
    dsimp only
    rcases hx with ⟨rfl, hx⟩ | ⟨rfl, hx⟩
    · rw [if_pos rfl, if_pos hx, if_pos rfl]
      exact ⟨u, rfl⟩
    · rw [if_neg one_ne, if_neg hx, lN_mul, lN_mul, if_neg (cmp_nlt (by omega) (by omega) bound)]
      by_cases y : lg_cmp (lN (best * L)) (lN (U * sm wq n)) = 0
      · rw [if_pos y, if_pos y, f_Law_shares_j623, if_pos rfl]
        exact ⟨u, rfl⟩
      · rw [if_neg y, if_neg y, f_Law_shares_j623, if_pos rfl]
        exact ⟨u, rfl⟩
end E2

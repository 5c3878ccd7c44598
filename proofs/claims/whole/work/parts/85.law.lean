/-! LAYER B: the law's loop, a call at a time -/
section LW
variable {w : jW} {c ci : Nat → Nat} {K : Nat}
def An (o : Option (Int32 × jW)) : Prop := ∃ u : jW, o = some (1, u)
theorem iteE {p : Prop} [Decidable p] {a b : Option (Int32 × jW)} (h1 : p → An a) (h2 : ¬ p → An b) : An (if p then a else b) := by
  by_cases h : p
  · rw [if_pos h]; exact h1 h
  · rw [if_neg h]; exact h2 h
theorem itpE {p : Prop} [Decidable p] {a b : Option (Int32 × jW)} (h : p) (h1 : An a) : An (if p then a else b) := by
  rw [if_pos h]; exact h1
theorem itnE {p : Prop} [Decidable p] {a b : Option (Int32 × jW)} (h : ¬ p) (h1 : An b) : An (if p then a else b) := by
  rw [if_neg h]; exact h1
theorem calE {α : Type} {C M : jW → Option (α × jW)} {f : α × jW → Option (Int32 × jW)} (h : Cal w K C M) (k : ∀ x w1 w2 c ci, M w1 = some (x, w2) → Inv w2 c ci K → An (f (x, w1))) : An (Option.bind (C w) f) := by
  obtain ⟨x, w1, w2, c, ci, e1, e2, e3⟩ := h
  rw [e1, ob]
  exact k x w1 w2 c ci e2 e3
theorem bndE {α : Type} {o : Option (α × jW)} {x : α} {w2 : jW} {f : α × jW → Option (Int32 × jW)} (h : o = some (x, w2)) (k : An (f (x, w2))) : An (Option.bind o f) := by
  rw [h, ob]; exact k
theorem endE {x : Int32} {a b : Option (Int32 × jW)} (h : An a) : An (if x = x then a else b) := itpE rfl h
theorem lndE {x : Int64} {a b : Option (Int32 × jW)} (h : An a) : An (if lg_cmp x x = 0 then a else b) := itpE (lg_0.mpr rfl) h
def Tx : Prop := ∀ (w : jW) (c ci : Nat → Nat) (K : Nat) (x : Int32), Inv w c ci K → K < 512 → Cal w (K + 1) (f_Count_text x) (f_Model_text x)
theorem ld_1 {k L : Nat} (h : 8 * k + 8 ≤ L) (hL : L ≤ 4096) : jin (nI (8 * k)) L = true ∧ jin (nI (8 * k) + 1) L = true ∧ jin (nI (8 * k) + 2) L = true ∧ jin (nI (8 * k) + 3) L = true ∧ jin (nI (8 * k) + 4) L = true ∧ jin (nI (8 * k) + 5) L = true ∧ jin (nI (8 * k) + 6) L = true ∧ jin (nI (8 * k) + 7) L = true := by
  refine ⟨?_, ?_, ?_, ?_, ?_, ?_, ?_, ?_⟩
  · exact jin_nI (by omega) (by omega)
  · rw [ip_1]; exact jin_nI (by omega) (by omega)
  · rw [ip_2]; exact jin_nI (by omega) (by omega)
  · rw [ip_3]; exact jin_nI (by omega) (by omega)
  · rw [ip_4]; exact jin_nI (by omega) (by omega)
  · rw [ip_5]; exact jin_nI (by omega) (by omega)
  · rw [ip_6]; exact jin_nI (by omega) (by omega)
  · rw [ip_7]; exact jin_nI (by omega) (by omega)
theorem lw_le8 {k L : Nat} (h : 8 * k + 8 ≤ L) (hL : L ≤ 4096) : nI (8 * k) ≤ (Int32.ofNat L) - 8 := by
  rw [nI_rfl, show nI L - 8 = nI (L - 8) from nI_sub (a := L) (b := 8) (by omega)]
  exact (nI_leI (by omega) (by omega)).mpr (by omega)
set_option maxHeartbeats 1000000 in
set_option maxRecDepth 20000 in
theorem law_step (ht : Tx) {xs : Nat → Int32} {L f : Nat} (hL : L ≤ 4096) (h : Inv w c ci K) (hK : 8 * K + 8 ≤ L) (nx : ∀ w2 c2 ci2, Inv w2 c2 ci2 (K + 1) → An (f_Law_law_h18 xs L f (nI (8 * K) + 8) w2)) : An (f_Law_law_h18 xs L (f + 1) (nI (8 * K)) w) := by
  have h5 : K < 512 := by omega
  obtain ⟨j0, j1, j2, j3, j4, j5, j6, j7⟩ := ld_1 hK hL
  have hI : Inv w c ci (K + 1) := Inv_K h (by omega) (by omega)
  rw [f_Law_law_h18]
  refine itpE (lw_le8 hK hL) ?_
  refine itpE j0 ?_
  refine iteE (fun _ => ?_) (fun _ => ?_)
  · refine itpE j1 ?_; refine itpE j2 ?_; refine itpE j3 ?_
    have fin : ∀ a b : Int32, (a = if xs (Int32.toNatClampNeg (nI (8 * K) + 3)) = 0 then 0 else 1) → (b = if xs (Int32.toNatClampNeg (nI (8 * K) + 4)) = 0 then 0 else 1) → An (f_Law_law_j265 xs L (f_Law_law_h18 xs L f) (nI (8 * K)) b a (xs (Int32.toNatClampNeg (nI (8 * K) + 2))) (xs (Int32.toNatClampNeg (nI (8 * K) + 1))) w) := fun a b ha hb => by
      unfold f_Law_law_j265
      refine calE (q_site h h5 _ _ a b) fun x w1 w2 c2 ci2 e2 e3 => ?_
      refine itpE j1 ?_; refine itpE j2 ?_; refine itpE j3 ?_
      have fn : An (f_Law_law_j305 xs L (f_Law_law_h18 xs L f) (nI (8 * K)) b a (xs (Int32.toNatClampNeg (nI (8 * K) + 2))) (xs (Int32.toNatClampNeg (nI (8 * K) + 1))) x w1) := by
        unfold f_Law_law_j305
        refine bndE e2 ?_
        exact endE (nx _ _ _ e3)
      have f4 : An (f_Law_law_j292 xs L (f_Law_law_h18 xs L f) (nI (8 * K)) a (xs (Int32.toNatClampNeg (nI (8 * K) + 2))) (xs (Int32.toNatClampNeg (nI (8 * K) + 1))) x w1) := by
        unfold f_Law_law_j292
        refine itpE j4 ?_
        refine iteE (fun g => ?_) (fun g => ?_)
        · rw [if_pos g] at hb; rw [hb] at fn; exact fn
        · rw [if_neg g] at hb; rw [hb] at fn; exact fn
      refine iteE (fun g => ?_) (fun g => ?_)
      · rw [if_pos g] at ha; rw [ha] at f4; exact f4
      · rw [if_neg g] at ha; rw [ha] at f4; exact f4
    have f5 : ∀ a : Int32, (a = if xs (Int32.toNatClampNeg (nI (8 * K) + 3)) = 0 then 0 else 1) → An (f_Law_law_j252 xs L (f_Law_law_h18 xs L f) (nI (8 * K)) a (xs (Int32.toNatClampNeg (nI (8 * K) + 2))) (xs (Int32.toNatClampNeg (nI (8 * K) + 1))) w) := fun a ha => by
      unfold f_Law_law_j252
      refine itpE j4 ?_
      refine iteE (fun g => ?_) (fun g => ?_)
      · exact fin a 0 ha (by rw [if_pos g])
      · exact fin a 1 ha (by rw [if_neg g])
    refine iteE (fun g => ?_) (fun g => ?_)
    · exact f5 0 (by rw [if_pos g])
    · exact f5 1 (by rw [if_neg g])
  refine iteE (fun _ => ?_) (fun _ => ?_)
  · refine itpE j1 ?_; refine itpE j2 ?_; refine itpE j3 ?_
    refine calE (q_road h h5 _ _ _) fun x w1 w2 c2 ci2 e2 e3 => ?_
    refine itpE j1 ?_; refine itpE j2 ?_; refine itpE j3 ?_
    refine bndE e2 ?_
    exact endE (nx _ _ _ e3)
  refine iteE (fun _ => ?_) (fun _ => ?_)
  · refine itpE j1 ?_; refine itpE j2 ?_
    refine calE (q_way h h5 _ _) fun x w1 w2 c2 ci2 e2 e3 => ?_
    refine itpE j1 ?_; refine itpE j2 ?_
    refine bndE e2 ?_
    exact endE (nx _ _ _ e3)
  refine iteE (fun _ => ?_) (fun _ => ?_)
  · refine itpE j1 ?_; refine itpE j2 ?_; refine itpE j3 ?_; refine itpE j4 ?_; refine itpE j5 ?_
    refine calE (q_sort h h5 _ _ _ _ _) fun x w1 w2 c2 ci2 e2 e3 => ?_
    refine itpE j1 ?_; refine itpE j2 ?_; refine itpE j3 ?_; refine itpE j4 ?_; refine itpE j5 ?_
    refine bndE e2 ?_
    exact endE (nx _ _ _ e3)
  refine iteE (fun _ => ?_) (fun _ => ?_)
  · refine itpE j1 ?_; refine itpE j2 ?_; refine itpE j3 ?_
    refine calE (q_rules h h5 _ _ _) fun x w1 w2 c2 ci2 e2 e3 => ?_
    refine itpE j1 ?_; refine itpE j2 ?_; refine itpE j3 ?_
    refine bndE e2 ?_
    exact endE (nx _ _ _ e3)
  refine iteE (fun _ => ?_) (fun _ => ?_)
  · refine itpE j1 ?_; refine itpE j2 ?_; refine itpE j3 ?_; refine itpE j4 ?_
    refine calE (q_make h h5 _ _ _ _) fun x w1 w2 c2 ci2 e2 e3 => ?_
    refine itpE j1 ?_; refine itpE j2 ?_; refine itpE j3 ?_; refine itpE j4 ?_
    refine bndE e2 ?_
    exact endE (nx _ _ _ e3)
  refine iteE (fun _ => ?_) (fun _ => ?_)
  · refine itpE j1 ?_; refine itpE j2 ?_
    refine calE (q_move h h5 _ _) fun x w1 w2 c2 ci2 e2 e3 => ?_
    refine itpE j1 ?_; refine itpE j2 ?_
    refine bndE e2 ?_
    exact endE (nx _ _ _ e3)
  refine iteE (fun _ => ?_) (fun _ => ?_)
  · refine itpE j1 ?_
    refine calE (q_step h h5 _) fun x w1 w2 c2 ci2 e2 e3 => ?_
    refine itpE j1 ?_
    refine bndE e2 ?_
    exact endE (nx _ _ _ e3)
  refine iteE (fun _ => ?_) (fun _ => ?_)
  · refine itpE j1 ?_
    refine calE (q_seal h h5 _) fun x w1 w2 c2 ci2 e2 e3 => ?_
    refine itpE j1 ?_
    refine bndE e2 ?_
    exact endE (nx _ _ _ e3)
  refine iteE (fun _ => ?_) (fun _ => ?_)
  · refine itpE j1 ?_
    refine calE (q_days h h5 _) fun x w1 w2 c2 ci2 e2 e3 => ?_
    refine itpE j1 ?_
    refine bndE e2 ?_
    exact endE (nx _ _ _ e3)
  refine iteE (fun _ => ?_) (fun _ => ?_)
  · refine itpE j1 ?_; refine itpE j2 ?_
    refine calE (q_where h h5 _ _) fun x w1 w2 c2 ci2 e2 e3 => ?_
    refine itpE j1 ?_; refine itpE j2 ?_
    refine bndE e2 ?_
    exact endE (nx _ _ _ e3)
  refine iteE (fun _ => ?_) (fun _ => ?_)
  · refine itpE j1 ?_; refine itpE j2 ?_
    refine calE (q_thing h h5 _ _) fun x w1 w2 c2 ci2 e2 e3 => ?_
    refine itpE j1 ?_; refine itpE j2 ?_
    refine bndE e2 ?_
    exact endE (nx _ _ _ e3)
  refine iteE (fun _ => ?_) (fun _ => ?_)
  · refine itpE j1 ?_; refine itpE j2 ?_
    refine calE (q_whole h h5 _ _) fun x w1 w2 c2 ci2 e2 e3 => ?_
    refine itpE j1 ?_; refine itpE j2 ?_
    refine bndE e2 ?_
    exact endE (nx _ _ _ e3)
  refine iteE (fun _ => ?_) (fun _ => ?_)
  · refine itpE j1 ?_; refine itpE j2 ?_; refine itpE j3 ?_; refine itpE j4 ?_; refine itpE j5 ?_
    refine calE (q_feed h h5 _ _ _ _ _) fun x w1 w2 c2 ci2 e2 e3 => ?_
    refine itpE j1 ?_; refine itpE j2 ?_; refine itpE j3 ?_; refine itpE j4 ?_; refine itpE j5 ?_
    refine bndE e2 ?_
    exact endE (nx _ _ _ e3)
  refine iteE (fun _ => ?_) (fun _ => ?_)
  · refine itpE j1 ?_
    refine calE (q_end h h5 _) fun x w1 w2 c2 ci2 e2 e3 => ?_
    refine itpE j1 ?_
    refine bndE e2 ?_
    exact endE (nx _ _ _ e3)
  refine iteE (fun _ => ?_) (fun _ => ?_)
  · refine itpE j1 ?_
    refine calE (ht _ _ _ _ _ h h5) fun x w1 w2 c2 ci2 e2 e3 => ?_
    refine itpE j1 ?_
    refine bndE e2 ?_
    exact endE (nx _ _ _ e3)
  refine iteE (fun _ => ?_) (fun _ => ?_)
  · refine itpE j1 ?_
    refine calE (q_fault h h5 _) fun x w1 w2 c2 ci2 e2 e3 => ?_
    refine itpE j1 ?_
    refine bndE e2 ?_
    exact endE (nx _ _ _ e3)
  refine iteE (fun _ => ?_) (fun _ => ?_)
  · refine itpE j1 ?_; refine itpE j2 ?_
    refine calE (q_says h h5 _ _) fun x w1 w2 c2 ci2 e2 e3 => ?_
    refine itpE j1 ?_; refine itpE j2 ?_
    refine bndE e2 ?_
    exact endE (nx _ _ _ e3)
  refine iteE (fun _ => ?_) (fun _ => ?_)
  · refine itpE j1 ?_; refine itpE j2 ?_; refine itpE j3 ?_
    refine calE (q_counts h h5 _ _ _) fun x w1 w2 c2 ci2 e2 e3 => ?_
    refine itpE j1 ?_; refine itpE j2 ?_; refine itpE j3 ?_
    refine bndE e2 ?_
    exact endE (nx _ _ _ e3)
  refine iteE (fun _ => ?_) (fun _ => ?_)
  · refine itpE j1 ?_; refine itpE j2 ?_
    refine calE (q_counted h h5 _ _) fun x w1 w2 c2 ci2 e2 e3 => ?_
    refine itpE j1 ?_; refine itpE j2 ?_
    refine bndE e2 ?_
    exact endE (nx _ _ _ e3)
  refine iteE (fun _ => ?_) (fun _ => ?_)
  · refine itpE j1 ?_; refine itpE j2 ?_; refine itpE j3 ?_
    refine calE (q_tell h h5 _ _ _) fun x w1 w2 c2 ci2 e2 e3 => ?_
    refine itpE j1 ?_; refine itpE j2 ?_; refine itpE j3 ?_
    refine bndE e2 ?_
    exact endE (nx _ _ _ e3)
  refine iteE (fun _ => ?_) (fun _ => ?_)
  · refine itpE j1 ?_; refine itpE j2 ?_; refine itpE j3 ?_
    refine calE (q_told h h5 _ _ _) fun x w1 w2 c2 ci2 e2 e3 => ?_
    refine itpE j1 ?_; refine itpE j2 ?_; refine itpE j3 ?_
    refine bndE e2 ?_
    exact endE (nx _ _ _ e3)
  refine iteE (fun _ => ?_) (fun _ => ?_)
  · refine itpE j1 ?_; refine itpE j2 ?_; refine itpE j3 ?_; refine itpE j4 ?_
    refine calE (q_toldAt h h5 _ _ _ _) fun x w1 w2 c2 ci2 e2 e3 => ?_
    refine itpE j1 ?_; refine itpE j2 ?_; refine itpE j3 ?_; refine itpE j4 ?_
    refine bndE e2 ?_
    exact endE (nx _ _ _ e3)
  refine iteE (fun _ => ?_) (fun _ => ?_)
  · refine itpE j1 ?_; refine itpE j2 ?_
    refine calE (q_visit h h5 _ _) fun x w1 w2 c2 ci2 e2 e3 => ?_
    refine itpE j1 ?_; refine itpE j2 ?_
    refine bndE e2 ?_
    exact endE (nx _ _ _ e3)
  refine iteE (fun _ => ?_) (fun _ => ?_)
  · refine itpE j1 ?_; refine itpE j2 ?_
    refine calE (q_saw h h5 _ _) fun x w1 w2 c2 ci2 e2 e3 => ?_
    refine itpE j1 ?_; refine itpE j2 ?_
    refine bndE e2 ?_
    exact endE (nx _ _ _ e3)
  refine iteE (fun _ => ?_) (fun _ => ?_)
  · refine itpE j1 ?_; refine itpE j2 ?_
    refine calE (q_cloud h h5 _ _) fun x w1 w2 c2 ci2 e2 e3 => ?_
    refine itpE j1 ?_; refine itpE j2 ?_
    refine bndE e2 ?_
    exact endE (nx _ _ _ e3)
  refine iteE (fun _ => ?_) (fun _ => ?_)
  · refine itpE j1 ?_
    refine calE (q_picture h h5 _) fun x w1 w2 c2 ci2 e2 e3 => ?_
    refine itpE j1 ?_
    refine bndE e2 ?_
    exact endE (nx _ _ _ e3)
  refine iteE (fun _ => ?_) (fun _ => ?_)
  · refine itpE j1 ?_; refine itpE j2 ?_; refine itpE j3 ?_; refine itpE j4 ?_; refine itpE j5 ?_
    have fin : ∀ a : Int32, (a = if xs (Int32.toNatClampNeg (nI (8 * K) + 5)) = 0 then 0 else 1) → An (f_Law_law_j1285 xs L (f_Law_law_h18 xs L f) (nI (8 * K)) a (xs (Int32.toNatClampNeg (nI (8 * K) + 4))) (xs (Int32.toNatClampNeg (nI (8 * K) + 3))) (xs (Int32.toNatClampNeg (nI (8 * K) + 2))) (xs (Int32.toNatClampNeg (nI (8 * K) + 1))) w) := fun a ha => by
      unfold f_Law_law_j1285
      refine calE (q_possible h h5 _ _ _ _ a) fun x w1 w2 c2 ci2 e2 e3 => ?_
      refine itpE j1 ?_; refine itpE j2 ?_; refine itpE j3 ?_; refine itpE j4 ?_; refine itpE j5 ?_
      have fn : An (f_Law_law_j1322 xs L (f_Law_law_h18 xs L f) (nI (8 * K)) a (xs (Int32.toNatClampNeg (nI (8 * K) + 4))) (xs (Int32.toNatClampNeg (nI (8 * K) + 3))) (xs (Int32.toNatClampNeg (nI (8 * K) + 2))) (xs (Int32.toNatClampNeg (nI (8 * K) + 1))) x w1) := by
        unfold f_Law_law_j1322
        refine bndE e2 ?_
        exact endE (nx _ _ _ e3)
      refine iteE (fun g => ?_) (fun g => ?_)
      · rw [if_pos g] at ha; rw [ha] at fn; exact fn
      · rw [if_neg g] at ha; rw [ha] at fn; exact fn
    refine iteE (fun g => ?_) (fun g => ?_)
    · exact fin 0 (by rw [if_pos g])
    · exact fin 1 (by rw [if_neg g])
  refine iteE (fun _ => ?_) (fun _ => ?_)
  · refine itpE j1 ?_; refine itpE j2 ?_; refine itpE j3 ?_; refine itpE j4 ?_
    refine calE (q_doubted h h5 _ _ _ _) fun x w1 w2 c2 ci2 e2 e3 => ?_
    refine itpE j1 ?_; refine itpE j2 ?_; refine itpE j3 ?_; refine itpE j4 ?_
    refine bndE e2 ?_
    exact endE (nx _ _ _ e3)
  refine iteE (fun _ => ?_) (fun _ => ?_)
  · refine itpE j1 ?_; refine itpE j2 ?_; refine itpE j3 ?_
    refine calE (q_doubt h h5 _ _ _) fun x w1 w2 c2 ci2 e2 e3 => ?_
    refine itpE j1 ?_; refine itpE j2 ?_; refine itpE j3 ?_
    refine bndE e2 ?_
    exact endE (nx _ _ _ e3)
  refine iteE (fun _ => ?_) (fun _ => ?_)
  · refine itpE j1 ?_; refine itpE j2 ?_
    refine calE (q_ask h h5 _ _) fun x w1 w2 c2 ci2 e2 e3 => ?_
    refine itpE j1 ?_; refine itpE j2 ?_
    refine bndE e2 ?_
    exact endE (nx _ _ _ e3)
  refine iteE (fun _ => ?_) (fun _ => ?_)
  · refine itpE j1 ?_
    refine calE (q_answer h h5 _) fun x w1 w2 c2 ci2 e2 e3 => ?_
    refine itpE j1 ?_
    refine bndE e2 ?_
    exact endE (nx _ _ _ e3)
  refine iteE (fun _ => ?_) (fun _ => ?_)
  · refine itpE j1 ?_; refine itpE j2 ?_
    refine calE (q_act h h5 _ _) fun x w1 w2 c2 ci2 e2 e3 => ?_
    refine itpE j1 ?_; refine itpE j2 ?_
    refine bndE e2 ?_
    exact endE (nx _ _ _ e3)
  refine iteE (fun _ => ?_) (fun _ => ?_)
  · refine itpE j1 ?_; refine itpE j2 ?_
    refine calE (q_judged h h5 _ _) fun x w1 w2 c2 ci2 e2 e3 => ?_
    refine itpE j1 ?_; refine itpE j2 ?_
    refine bndE e2 ?_
    exact endE (nx _ _ _ e3)
  refine iteE (fun _ => ?_) (fun _ => ?_)
  · refine itpE j1 ?_; refine itpE j2 ?_; refine itpE j3 ?_
    refine calE (q_fails h h5 _ _ _) fun x w1 w2 c2 ci2 e2 e3 => ?_
    refine itpE j1 ?_; refine itpE j2 ?_; refine itpE j3 ?_
    refine bndE e2 ?_
    exact endE (nx _ _ _ e3)
  refine iteE (fun _ => ?_) (fun _ => ?_)
  · refine itpE j1 ?_; refine itpE j2 ?_
    refine calE (q_chance h h5 _ _) fun x w1 w2 c2 ci2 e2 e3 => ?_
    refine itpE j1 ?_; refine itpE j2 ?_
    refine bndE e2 ?_
    exact endE (nx _ _ _ e3)
  refine iteE (fun _ => ?_) (fun _ => ?_)
  · refine itpE j1 ?_; refine itpE j2 ?_; refine itpE j3 ?_
    have fin : ∀ a : Int32, (a = if xs (Int32.toNatClampNeg (nI (8 * K) + 3)) = 0 then 0 else 1) → An (f_Law_law_j1648 xs L (f_Law_law_h18 xs L f) (nI (8 * K)) a (xs (Int32.toNatClampNeg (nI (8 * K) + 2))) (xs (Int32.toNatClampNeg (nI (8 * K) + 1))) w) := fun a ha => by
      unfold f_Law_law_j1648
      refine calE (q_value h h5 _ _ a) fun x w1 w2 c2 ci2 e2 e3 => ?_
      refine itpE j1 ?_; refine itpE j2 ?_; refine itpE j3 ?_
      have fn : An (f_Law_law_j1675 xs L (f_Law_law_h18 xs L f) (nI (8 * K)) a (xs (Int32.toNatClampNeg (nI (8 * K) + 2))) (xs (Int32.toNatClampNeg (nI (8 * K) + 1))) x w1) := by
        unfold f_Law_law_j1675
        refine bndE e2 ?_
        exact lndE (nx _ _ _ e3)
      refine iteE (fun g => ?_) (fun g => ?_)
      · rw [if_pos g] at ha; rw [ha] at fn; exact fn
      · rw [if_neg g] at ha; rw [ha] at fn; exact fn
    refine iteE (fun g => ?_) (fun g => ?_)
    · exact fin 0 (by rw [if_pos g])
    · exact fin 1 (by rw [if_neg g])
  refine iteE (fun _ => ?_) (fun _ => ?_)
  · refine itpE j1 ?_; refine itpE j2 ?_; refine itpE j3 ?_; refine itpE j4 ?_
    have fin : ∀ a : Int32, (a = if xs (Int32.toNatClampNeg (nI (8 * K) + 4)) = 0 then 0 else 1) → An (f_Law_law_j1713 xs L (f_Law_law_h18 xs L f) (nI (8 * K)) a (xs (Int32.toNatClampNeg (nI (8 * K) + 3))) (xs (Int32.toNatClampNeg (nI (8 * K) + 2))) (xs (Int32.toNatClampNeg (nI (8 * K) + 1))) w) := fun a ha => by
      unfold f_Law_law_j1713
      refine calE (q_share h h5 _ _ _ a) fun x w1 w2 c2 ci2 e2 e3 => ?_
      refine itpE j1 ?_; refine itpE j2 ?_; refine itpE j3 ?_; refine itpE j4 ?_
      have fn : An (f_Law_law_j1745 xs L (f_Law_law_h18 xs L f) (nI (8 * K)) a (xs (Int32.toNatClampNeg (nI (8 * K) + 3))) (xs (Int32.toNatClampNeg (nI (8 * K) + 2))) (xs (Int32.toNatClampNeg (nI (8 * K) + 1))) x w1) := by
        unfold f_Law_law_j1745
        refine bndE e2 ?_
        exact lndE (nx _ _ _ e3)
      refine iteE (fun g => ?_) (fun g => ?_)
      · rw [if_pos g] at ha; rw [ha] at fn; exact fn
      · rw [if_neg g] at ha; rw [ha] at fn; exact fn
    refine iteE (fun g => ?_) (fun g => ?_)
    · exact fin 0 (by rw [if_pos g])
    · exact fin 1 (by rw [if_neg g])
  refine iteE (fun _ => ?_) (fun _ => ?_)
  · refine itpE j1 ?_; refine itpE j2 ?_; refine itpE j3 ?_; refine itpE j4 ?_; refine itpE j5 ?_; refine itpE j6 ?_; refine itpE j7 ?_
    refine calE (q_proof h h5 _ _ _ _ _ _ _) fun x w1 w2 c2 ci2 e2 e3 => ?_
    refine itpE j1 ?_; refine itpE j2 ?_; refine itpE j3 ?_; refine itpE j4 ?_; refine itpE j5 ?_; refine itpE j6 ?_; refine itpE j7 ?_
    refine bndE e2 ?_
    exact endE (nx _ _ _ e3)
  refine iteE (fun _ => ?_) (fun _ => ?_)
  · refine itpE j1 ?_; refine itpE j2 ?_
    refine calE (q_watch h h5 _ _) fun x w1 w2 c2 ci2 e2 e3 => ?_
    refine itpE j1 ?_; refine itpE j2 ?_
    refine bndE e2 ?_
    exact endE (nx _ _ _ e3)
  refine iteE (fun _ => ?_) (fun _ => ?_)
  · refine itpE j1 ?_; refine itpE j2 ?_
    refine calE (q_unseen h h5 _ _) fun x w1 w2 c2 ci2 e2 e3 => ?_
    refine itpE j1 ?_; refine itpE j2 ?_
    refine bndE e2 ?_
    exact endE (nx _ _ _ e3)
  refine iteE (fun _ => ?_) (fun _ => ?_)
  · refine itpE j1 ?_; refine itpE j2 ?_; refine itpE j3 ?_; refine itpE j4 ?_
    refine calE (q_trick h h5 _ _ _ _) fun x w1 w2 c2 ci2 e2 e3 => ?_
    refine itpE j1 ?_; refine itpE j2 ?_; refine itpE j3 ?_; refine itpE j4 ?_
    refine bndE e2 ?_
    exact endE (nx _ _ _ e3)
  refine iteE (fun _ => ?_) (fun _ => ?_)
  · skip
    refine calE (q_image h h5) fun x w1 w2 c2 ci2 e2 e3 => ?_
    skip
    refine bndE e2 ?_
    exact endE (nx _ _ _ e3)
  refine iteE (fun _ => ?_) (fun _ => ?_)
  · skip
    refine calE (q_back h h5) fun x w1 w2 c2 ci2 e2 e3 => ?_
    skip
    refine bndE e2 ?_
    exact endE (nx _ _ _ e3)
  refine iteE (fun _ => ?_) (fun _ => ?_)
  · refine itpE j1 ?_
    refine calE (q_about h h5 _) fun x w1 w2 c2 ci2 e2 e3 => ?_
    refine itpE j1 ?_
    refine bndE e2 ?_
    exact endE (nx _ _ _ e3)
  exact nx _ _ _ hI
theorem law_all (ht : Tx) {xs : Nat → Int32} {L : Nat} (hL : L ≤ 4096) : ∀ m k f (w : jW) (c ci : Nat → Nat), L ≤ 8 * k + 8 * m + 7 → 8 * k ≤ 8 * 512 → m < f → Inv w c ci k → An (f_Law_law_h18 xs L f (nI (8 * k)) w) := by
  have stop : ∀ k f (w : jW), L < 8 * k + 8 → 8 * k ≤ 8 * 512 → 0 < f → An (f_Law_law_h18 xs L f (nI (8 * k)) w) := fun k f w h1 h2 hf => by
    obtain ⟨f, rfl⟩ : ∃ j, f = j + 1 := ⟨f - 1, by omega⟩
    rw [f_Law_law_h18]
    refine itnE ?_ ⟨w, rfl⟩
    intro z
    rw [nI_rfl] at z
    have e1 := Int32.le_iff_toInt_le.mp z
    rw [nI_toInt (by omega)] at e1
    by_cases g : 8 ≤ L
    · rw [show nI L - 8 = nI (L - 8) from nI_sub (a := L) (b := 8) g, nI_toInt (by omega)] at e1
      omega
    · have : ∀ n, n < 8 → (nI n - 8).toInt < 0 := by decide
      have := this L (by omega)
      omega
  intro m
  induction m with
  | zero =>
    intro k f w c ci h1 h2 hf h
    exact stop k f w (by omega) h2 hf
  | succ m ih =>
    intro k f w c ci h1 h2 hf h
    by_cases g : 8 * k + 8 ≤ L
    · obtain ⟨f, rfl⟩ : ∃ j, f = j + 1 := ⟨f - 1, by omega⟩
      refine law_step ht hL h g fun w2 c2 ci2 h3 => ?_
      rw [ip_8, show 8 * k + 8 = 8 * (k + 1) by omega]
      exact ih (k + 1) f w2 c2 ci2 (by omega) (by omega) (by omega) h3
    · exact stop k f w (by omega) h2 (by omega)
end LW

/-! LAYER B: a call on both sides; calls that only look -/
def Rtp (w : jW) : Prop := ∃ n m1 m2 m3, JR w 79 1 300 n ∧ JR w 74 4 16 m1 ∧ JR w 76 1 300 m2 ∧ JR w 81 3 301 m3 ∧ w.1 93 4 = nI n ∧ ∀ k, k < n → w.1 80 k = w.1 97 k ∧ vb (w.1 97 k) 0 255
def Rft (w : jW) : Prop := (w.1 73 2 = 0 ∧ w.1 93 5 = -1 ∧ w.1 93 6 = -1) ∨ (w.1 73 2 = 1 ∧ w.1 73 3 = w.1 93 5 ∧ w.1 73 4 = w.1 93 6)
def Inv (w : jW) (c ci : Nat → Nat) (K : Nat) : Prop := RA w 3 (w.1 94) c K ∧ RA w 38 (w.1 95) ci K ∧ Rtp w ∧ Rft w
/-- one call: the same answer, and all is kept -/
def Cal {α : Type} (w : jW) (K : Nat) (C M : jW → Option (α × jW)) : Prop := ∃ x w1 w2 c ci, C w = some (x, w1) ∧ M w1 = some (x, w2) ∧ Inv w2 c ci K
section QU
variable {w v : jW} {A : Nat → Int32} {c ci : Nat → Nat} {K : Nat}
theorem JR_eq {R W cap n : Nat} (h : JR w R W cap n) (e : v.1 R = w.1 R) : JR v R W cap n := by
  unfold JR at *
  rw [e]; exact h
theorem Rtp_fr (h : Rtp w) (e : ∀ b, 74 ≤ b → b < 83 → v.1 b = w.1 b) (e4 : v.1 93 4 = w.1 93 4) (e97 : v.1 97 = w.1 97) : Rtp v := by
  obtain ⟨n, m1, m2, m3, h1, h2, h3, h4, h5, h6⟩ := h
  exact ⟨n, m1, m2, m3, JR_eq h1 (e 79 (by omega) (by omega)), JR_eq h2 (e 74 (by omega) (by omega)), JR_eq h3 (e 76 (by omega) (by omega)), JR_eq h4 (e 81 (by omega) (by omega)), e4.trans h5, by rw [e 80 (by omega) (by omega), e97]; exact h6⟩
theorem Rft_fr (h : Rft w) (e : v.1 73 = w.1 73) (e5 : v.1 93 5 = w.1 93 5) (e6 : v.1 93 6 = w.1 93 6) : Rft v := by
  unfold Rft at *
  rw [e, e5, e6]; exact h
theorem RA_38 (h : RA w 38 A c K) (e : ∀ b, 38 ≤ b → b < 73 → v.1 b = w.1 b) : RA v 38 A c K :=
  RA_tr h (Or.inr rfl) (fun o j q1 _ _ => congrFun (e (38 + o) (by omega) (by omega)) j) (fun _ _ => rfl) (Nat.le_refl _) (l_K h).2
theorem RA_K {b : Nat} {K' : Nat} (h : RA w b A c K) (hb : b = 3 ∨ b = 38) (h1 : K ≤ K') (h2 : K' ≤ 512) : RA w b A c K' :=
  RA_tr h hb (fun _ _ _ _ _ => rfl) (fun _ _ => rfl) h1 h2
theorem Inv_sq (h : Inv w c ci K) (q : Sq v w) : Inv v c ci K := by
  obtain ⟨h1, h2, h3, h4⟩ := h
  have ns : ∀ b, (b < 83 ∧ b ≠ 23) ∨ b = 94 ∨ b = 95 ∨ b = 97 → v.1 b = w.1 b := fun b hb => q.1 b (by unfold sc; simp; omega)
  refine ⟨?_, ?_, Rtp_fr h3 (fun b _ _ => ns b (by omega)) (q.2 4 (by omega)) (ns 97 (by omega)), Rft_fr h4 (ns 73 (by omega)) (q.2 5 (by omega)) (q.2 6 (by omega))⟩
  · rw [ns 94 (by omega)]; exact Sq_RA q h1
  · rw [ns 95 (by omega)]; exact RA_38 h2 (fun b _ _ => ns b (by omega))
theorem Inv_K {K' : Nat} (h : Inv w c ci K) (h1 : K ≤ K') (h2 : K' ≤ 512) : Inv w c ci K' := ⟨RA_K h.1 (Or.inl rfl) h1 h2, RA_K h.2.1 (Or.inr rfl) h1 h2, h.2.2⟩
theorem Cal_v {α : Type} {V : (Nat → Int32) → α} {C M : jW → Option (α × jW)} (h : Inv w c ci K) (hK : K < 512) (hC : ∀ u, Inv u c ci K → ∃ v, C u = some (V (u.1 94), v) ∧ Sq v u) (hM : ∀ u, Inv u c ci K → ∃ v, M u = some (V (u.1 94), v) ∧ Sq v u) : Cal w (K + 1) C M := by
  obtain ⟨w1, h1, s1⟩ := hC w h
  have g1 := Inv_sq h s1
  obtain ⟨w2, h2, s2⟩ := hM w1 g1
  rw [Sq_94 s1] at h2
  exact ⟨_, w1, w2, c, ci, h1, h2, Inv_K (Inv_sq g1 s2) (by omega) (by omega)⟩
theorem one_ne : ¬ (1 : Int32) = 0 := by decide
theorem c_isLand {x : Int32} : f_State_isLand x w = some (b2 (¬ x < 0 ∧ x ≤ 1), w) := by
  rw [f_State_isLand]
  by_cases h1 : x < 0
  · rw [if_pos h1, b2_n (fun z => z.1 h1)]
  · rw [if_neg h1]
    have e : (x < 2) = (x ≤ 1) := lt_p1 (n := 1) (by omega)
    by_cases h2 : x ≤ 1
    · rw [if_pos (by rw [e]; exact h2), b2_p ⟨h1, h2⟩]
    · rw [if_neg (by rw [e]; exact h2), b2_n (fun z => h2 z.2)]
theorem c_isSort {x : Int32} : f_State_isSort x w = some (b2 (¬ x < 0 ∧ x ≤ 3), w) := by
  rw [f_State_isSort]
  by_cases h1 : x < 0
  · rw [if_pos h1, b2_n (fun z => z.1 h1)]
  · rw [if_neg h1]
    have e : (x < 4) = (x ≤ 3) := lt_p1 (n := 3) (by omega)
    by_cases h2 : x ≤ 3
    · rw [if_pos (by rw [e]; exact h2), b2_p ⟨h1, h2⟩]
    · rw [if_neg (by rw [e]; exact h2), b2_n (fun z => h2 z.2)]
theorem mi_site {z0 : jW} (H : RA z0 3 (w.1 94) c K) (x : Int32) : f_Model_isSite x w = some (b2 (¬ x < 0 ∧ x < nI (c 1)), w) := m_isSite (h_1 H) (by have := l_1 H; omega) x
theorem mi_thing {z0 : jW} (H : RA z0 3 (w.1 94) c K) (x : Int32) : f_Model_isThing x w = some (b2 (¬ x < 0 ∧ x < nI (c 3)), w) := m_isThing (h_3 H) (by have := l_3 H; omega) x
theorem m_inM {x : Int32} {n : Nat} (hn : n < 2 ^ 31) : f_Model_isIn x 0 (nI n - 1) w = some (b2 (¬ x < 0 ∧ x < nI n), w) := by
  rw [m_isIn]
  congr 2
  exact b2_iff (by rw [le_m1 hn])
theorem q_where (h : Inv w c ci K) (hK : K < 512) (x d : Int32) : Cal w (K + 1) (f_Count_where x d) (f_Model_where x d) := by
  refine Cal_v (V := fun A => if ¬ x < 0 ∧ x < nI (c 3) then (if ¬ d < 0 ∧ d ≤ 1999 then mwh A (c 4) x.toNatClampNeg d else -1) else -1) h hK (fun u hu => ⟨u, ?_, Sq_r⟩) (fun u hu => ⟨u, ?_, Sq_r⟩)
  · have H := hu.1
    have l3 := l_3 H
    rw [f_Count_where, s_th H, ob]
    dsimp only
    by_cases g1 : ¬ x < 0 ∧ x < nI (c 3)
    · rw [b2_p g1, if_neg one_ne, if_pos g1, c_isDay, ob]
      dsimp only
      by_cases g2 : ¬ d < 0 ∧ d ≤ 1999
      · obtain ⟨t, ht, rfl⟩ := rng (by omega) g1
        rw [b2_p g2, if_neg one_ne, if_pos g2, c_pl H ht, nI_clamp (by omega)]; rfl
      · rw [b2_n g2, if_pos rfl, if_neg g2]
    · rw [b2_n g1, if_pos rfl, if_neg g1]
  · have H := hu.1
    have l3 := l_3 H
    rw [f_Model_where, mi_thing H, ob]
    dsimp only
    by_cases g1 : ¬ x < 0 ∧ x < nI (c 3)
    · rw [b2_p g1, if_neg one_ne, if_pos g1, m_isDay, ob]
      dsimp only
      by_cases g2 : ¬ d < 0 ∧ d ≤ 1999
      · obtain ⟨t, ht, rfl⟩ := rng (by omega) g1
        rw [b2_p g2, if_neg one_ne, if_pos g2, m_pl H ht, nI_clamp (by omega)]; rfl
      · rw [b2_n g2, if_pos rfl, if_neg g2]
    · rw [b2_n g1, if_pos rfl, if_neg g1]
theorem q_counted (h : Inv w c ci K) (hK : K < 512) (x d : Int32) : Cal w (K + 1) (f_Count_counted x d) (f_Model_counted x d) := by
  refine Cal_v (V := fun A => if ¬ x < 0 ∧ x ≤ 1 then (if ¬ d < 0 ∧ d ≤ 1999 then nI (nct A c x d (c 3)) else -1) else -1) h hK (fun u hu => ?_) (fun u hu => ?_)
  · have H := hu.1
    rw [f_Count_counted, c_isLand, ob]
    dsimp only
    by_cases g1 : ¬ x < 0 ∧ x ≤ 1
    · rw [b2_p g1, if_neg one_ne, if_pos g1, c_isDay, ob]
      dsimp only
      by_cases g2 : ¬ d < 0 ∧ d ≤ 1999
      · obtain ⟨v, r1, r2⟩ := c_nct (d := d) (land := x) H
        rw [b2_p g2, if_neg one_ne, if_pos g2, r1]; exact ⟨v, rfl, X23_Sq r2⟩
      · rw [b2_n g2, if_pos rfl, if_neg g2]; exact ⟨u, rfl, Sq_r⟩
    · rw [b2_n g1, if_pos rfl, if_neg g1]; exact ⟨u, rfl, Sq_r⟩
  · have H := hu.1
    rw [f_Model_counted, m_isIn, ob]
    dsimp only
    by_cases g1 : ¬ x < 0 ∧ x ≤ 1
    · rw [b2_p g1, if_neg one_ne, if_pos g1, m_isDay, ob]
      dsimp only
      by_cases g2 : ¬ d < 0 ∧ d ≤ 1999
      · obtain ⟨v, r1, r2⟩ := m_counted (d := d) (land := x) H
        rw [b2_p g2, if_neg one_ne, if_pos g2, r1]; exact ⟨v, rfl, X9_Sq r2⟩
      · rw [b2_n g2, if_pos rfl, if_neg g2]; exact ⟨u, rfl, Sq_r⟩
    · rw [b2_n g1, if_pos rfl, if_neg g1]; exact ⟨u, rfl, Sq_r⟩
theorem hrd_Sq {n : Nat} {d kn : Int32} : Sq (hrd w A d kn n) w := ⟨fun b q => hrd_ne (fun z => by rw [z] at q; exact absurd q (by decide)), fun j _ => congrFun (hrd_ne (by decide)) j⟩
theorem hrd_Hrd {d kn : Int32} : Hrd (hrd w A d kn (c 7)) A c d kn := fun t ht => hrd_at ht
theorem q_told (h : Inv w c ci K) (hK : K < 512) (x d kn : Int32) : Cal w (K + 1) (f_Count_told x d kn) (f_Model_told x d kn) := by
  refine Cal_v (V := fun A => if ¬ x < 0 ∧ x < nI (c 3) then (if ¬ d < 0 ∧ d ≤ 1999 then (if ¬ kn < 0 ∧ kn ≤ 1999 then tlp A (tl A x.toNatClampNeg d kn (c 7)) else -1) else -1) else -1) h hK (fun u hu => ?_) (fun u hu => ⟨u, ?_, Sq_r⟩)
  · have H := hu.1
    have l3 := l_3 H
    rw [f_Count_told, s_th H, ob]
    dsimp only
    by_cases g1 : ¬ x < 0 ∧ x < nI (c 3)
    · rw [b2_p g1, if_neg one_ne, if_pos g1, c_isDay, ob]
      dsimp only
      by_cases g2 : ¬ d < 0 ∧ d ≤ 1999
      · rw [b2_p g2, if_neg one_ne, if_pos g2, c_isDay, ob]
        dsimp only
        by_cases g3 : ¬ kn < 0 ∧ kn ≤ 1999
        · obtain ⟨t, ht, rfl⟩ := rng (by omega) g1
          rw [b2_p g3, if_neg one_ne, if_pos g3, c_hear H, ob, c_placeT (hrd_RA H) hrd_Hrd (by omega), nI_clamp (by omega)]; exact ⟨_, rfl, hrd_Sq⟩
        · rw [b2_n g3, if_pos rfl, if_neg g3]; exact ⟨u, rfl, Sq_r⟩
      · rw [b2_n g2, if_pos rfl, if_neg g2]; exact ⟨u, rfl, Sq_r⟩
    · rw [b2_n g1, if_pos rfl, if_neg g1]; exact ⟨u, rfl, Sq_r⟩
  · have H := hu.1
    have l3 := l_3 H
    rw [f_Model_told, mi_thing H, ob]
    dsimp only
    by_cases g1 : ¬ x < 0 ∧ x < nI (c 3)
    · rw [b2_p g1, if_neg one_ne, if_pos g1, m_isDay, ob]
      dsimp only
      by_cases g2 : ¬ d < 0 ∧ d ≤ 1999
      · rw [b2_p g2, if_neg one_ne, if_pos g2, m_isDay, ob]
        dsimp only
        by_cases g3 : ¬ kn < 0 ∧ kn ≤ 1999
        · obtain ⟨t, ht, rfl⟩ := rng (by omega) g1
          rw [b2_p g3, if_neg one_ne, if_pos g3, m_toldOf (h_7 H) (l_7 H), nI_clamp (by omega)]; rfl
        · rw [b2_n g3, if_pos rfl, if_neg g3]
      · rw [b2_n g2, if_pos rfl, if_neg g2]
    · rw [b2_n g1, if_pos rfl, if_neg g1]
theorem q_toldAt (h : Inv w c ci K) (hK : K < 512) (x s d kn : Int32) : Cal w (K + 1) (f_Count_toldAt x s d kn) (f_Model_toldAt x s d kn) := by
  refine Cal_v (V := fun A => if ¬ x < 0 ∧ x < nI (c 1) then (if ¬ s < 0 ∧ s ≤ 3 then (if ¬ d < 0 ∧ d ≤ 1999 then (if ¬ kn < 0 ∧ kn ≤ 1999 then nI (ntd A (c 7) x s d kn (c 3)) else -1) else -1) else -1) else -1) h hK (fun u hu => ?_) (fun u hu => ⟨u, ?_, Sq_r⟩)
  · have H := hu.1
    rw [f_Count_toldAt, s_si H, ob]
    dsimp only
    by_cases g1 : ¬ x < 0 ∧ x < nI (c 1)
    · rw [b2_p g1, if_neg one_ne, if_pos g1, c_isSort, ob]
      dsimp only
      by_cases g0 : ¬ s < 0 ∧ s ≤ 3
      · rw [b2_p g0, if_neg one_ne, if_pos g0, c_isDay, ob]
        dsimp only
        by_cases g2 : ¬ d < 0 ∧ d ≤ 1999
        · rw [b2_p g2, if_neg one_ne, if_pos g2, c_isDay, ob]
          dsimp only
          by_cases g3 : ¬ kn < 0 ∧ kn ≤ 1999
          · rw [b2_p g3, if_neg one_ne, if_pos g3, c_hear H, ob, c_numT (hrd_RA H) hrd_Hrd]; exact ⟨_, rfl, hrd_Sq⟩
          · rw [b2_n g3, if_pos rfl, if_neg g3]; exact ⟨u, rfl, Sq_r⟩
        · rw [b2_n g2, if_pos rfl, if_neg g2]; exact ⟨u, rfl, Sq_r⟩
      · rw [b2_n g0, if_pos rfl, if_neg g0]; exact ⟨u, rfl, Sq_r⟩
    · rw [b2_n g1, if_pos rfl, if_neg g1]; exact ⟨u, rfl, Sq_r⟩
  · have H := hu.1
    rw [f_Model_toldAt, mi_site H, ob]
    dsimp only
    by_cases g1 : ¬ x < 0 ∧ x < nI (c 1)
    · rw [b2_p g1, if_neg one_ne, if_pos g1, m_isIn, ob]
      dsimp only
      by_cases g0 : ¬ s < 0 ∧ s ≤ 3
      · rw [b2_p g0, if_neg one_ne, if_pos g0, m_isDay, ob]
        dsimp only
        by_cases g2 : ¬ d < 0 ∧ d ≤ 1999
        · rw [b2_p g2, if_neg one_ne, if_pos g2, m_isDay, ob]
          dsimp only
          by_cases g3 : ¬ kn < 0 ∧ kn ≤ 1999
          · rw [b2_p g3, if_neg one_ne, if_pos g3, m_tthere H]; rfl
          · rw [b2_n g3, if_pos rfl, if_neg g3]
        · rw [b2_n g2, if_pos rfl, if_neg g2]
      · rw [b2_n g0, if_pos rfl, if_neg g0]
    · rw [b2_n g1, if_pos rfl, if_neg g1]
theorem q_fault (h : Inv w c ci K) (hK : K < 512) (x : Int32) : Cal w (K + 1) (f_Count_fault x) (f_Model_fault x) := by
  have hi := Inv_K h (Nat.le_succ K) (by omega)
  rcases h.2.2.2 with ⟨e1, e2, e3⟩ | ⟨e1, e2, e3⟩
  · refine ⟨-1, w, w, c, ci, ?_, ?_, hi⟩
    · rw [f_Count_fault, if_pos e1]
    · rw [f_Model_fault, e2, e3]
      split
      · rfl
      · split <;> rfl
  · refine ⟨if x = 0 then w.1 93 5 else if x = 1 then w.1 93 6 else -1, w, w, c, ci, ?_, ?_, hi⟩
    · rw [f_Count_fault, if_neg (by rw [e1]; decide), e2, e3]
      split
      · rfl
      · split <;> rfl
    · rw [f_Model_fault]
      split
      · rfl
      · split <;> rfl
theorem q_says (h : Inv w c ci K) (hK : K < 512) (d x : Int32) : Cal w (K + 1) (f_Count_says d x) (f_Model_says d x) := by
  refine Cal_v (V := fun A => if ¬ d < 0 ∧ d ≤ 1999 then (if ¬ x < 0 ∧ x ≤ 5 then sys A c d x.toNatClampNeg else -1) else -1) h hK (fun u hu => ⟨u, ?_, Sq_r⟩) (fun u hu => ⟨u, ?_, Sq_r⟩)
  · have H := hu.1
    rw [f_Count_says, c_isDay, ob]
    dsimp only
    by_cases g1 : ¬ d < 0 ∧ d ≤ 1999
    · rw [b2_p g1, if_neg one_ne, if_pos g1]
      by_cases g2 : ¬ x < 0 ∧ x ≤ 5
      · obtain ⟨t, ht, rfl⟩ := rngle (n := 5) (by omega) g2
        rw [if_pos g2, c_tells H (by omega), nI_clamp (by omega)]; rfl
      · have ne : ∀ n : Nat, n ≤ 5 → ¬ x = nI n := fun n hn z => g2 (by rw [z]; exact ⟨nI_pos (by omega), (nI_leI (b := 5) (by omega) (by omega)).mpr hn⟩)
        rw [if_neg g2, f_Treaty_tells, if_neg (show ¬ x = 0 from ne 0 (by omega)), if_neg (show ¬ x = 1 from ne 1 (by omega)), if_neg (show ¬ x = 2 from ne 2 (by omega)), if_neg (show ¬ x = 3 from ne 3 (by omega)), if_neg (show ¬ x = 4 from ne 4 (by omega)), if_neg (show ¬ x = 5 from ne 5 (by omega))]; rfl
    · rw [b2_n g1, if_pos rfl, if_neg g1]
  · have H := hu.1
    rw [f_Model_says, m_isDay, ob]
    dsimp only
    by_cases g1 : ¬ d < 0 ∧ d ≤ 1999
    · rw [b2_p g1, if_neg one_ne, if_pos g1, m_isIn, ob]
      dsimp only
      by_cases g2 : ¬ x < 0 ∧ x ≤ 5
      · obtain ⟨t, ht, rfl⟩ := rngle (n := 5) (by omega) g2
        rw [b2_p g2, if_neg one_ne, if_pos g2, m_says H (by omega), nI_clamp (by omega)]; rfl
      · rw [b2_n g2, if_pos rfl, if_neg g2]
    · rw [b2_n g1, if_pos rfl, if_neg g1]
theorem q_whole (h : Inv w c ci K) (hK : K < 512) (x d : Int32) : Cal w (K + 1) (f_Count_whole x d) (f_Model_whole0 x d) := by
  refine Cal_v (V := fun A => if ¬ x < 0 ∧ x < nI (c 5) then (if ¬ d < A (1520 + 4 * x.toNatClampNeg + 1) ∧ d ≤ 1999 then bz (!brk A (A (1520 + 4 * x.toNatClampNeg)) (sdy A x.toNatClampNeg) d (c 4) 0) else -1) else -1) h hK (fun u hu => ⟨u, ?_, Sq_r⟩) (fun u hu => ⟨u, ?_, Sq_r⟩)
  · have H := hu.1
    have l5 := l_5 H
    have l0 := l_0 H
    rw [f_Count_whole, s_sl H, ob]
    dsimp only
    by_cases g1 : ¬ x < 0 ∧ x < nI (c 5)
    · rw [b2_p g1, if_neg one_ne, if_pos g1, c_isDay, ob]
      dsimp only
      obtain ⟨i, hi, rfl⟩ := rng (by omega) g1
      obtain ⟨e1, e2⟩ := sdy_e H hi
      rw [nI_clamp (by omega)]
      by_cases g2 : ¬ d < u.1 94 (1520 + 4 * i + 1) ∧ d ≤ 1999
      · have g3 : ¬ d < 0 := fun z => g2.1 (by rw [e1]; exact Int32.lt_of_lt_of_le z (Int32.not_lt.mp (nI_pos (by omega))))
        rw [if_pos g2, b2_p ⟨g3, g2.2⟩, if_neg one_ne, a_sl1 H hi, ob]
        dsimp only
        rw [if_neg g2.1, c_whole H hi e1, ob]
        dsimp only
        cases brk (u.1 94) (u.1 94 (1520 + 4 * i)) (sdy (u.1 94) i) d (c 4) 0 <;> rfl
      · rw [if_neg g2]
        by_cases g3 : ¬ d < 0 ∧ d ≤ 1999
        · rw [b2_p g3, if_neg one_ne, a_sl1 H hi, ob]
          dsimp only
          rw [if_pos (by
            by_cases q : d < u.1 94 (1520 + 4 * i + 1)
            · exact q
            · exact absurd ⟨q, g3.2⟩ g2)]
        · rw [b2_n g3, if_pos rfl]
    · rw [b2_n g1, if_pos rfl, if_neg g1]
  · have H := hu.1
    have l5 := l_5 H
    have l0 := l_0 H
    rw [f_Model_whole0, if_pos (by decide), jk_5, h_5 H, m_inM (by omega), ob]
    dsimp only
    by_cases g1 : ¬ x < 0 ∧ x < nI (c 5)
    · rw [b2_p g1, if_neg one_ne, if_pos g1]
      obtain ⟨i, hi, rfl⟩ := rng (by omega) g1
      obtain ⟨e1, e2⟩ := sdy_e H hi
      rw [nI_clamp (by omega)]
      simp (disch := omega) only [ia_1, ia_2, ia_3, ia_4, ia_5, ia_6, ia_7, ia_8, ia_9, ia_20, ia_40, ia_120, ia_140, ia_240, ia_720, ia_1520, ia_1680, ia_9680, ia_11280, ia_12480, ia_12880, ia_13080, ia_20760, ia_20880, ip_0, ip_1, ip_2, ip_3, ip_4, ip_5, ip_6, ip_7, ip_8, ip_9, ip_140, im_2, im_4, im_8, im_12, im_800, nI_clamp, jin_nI, jal_c, jal_n, Bool.and_true, if_true, ob, jlw_e, jk_0, jk_1, jk_2, jk_3, jk_4, jk_5, jk_6, jk_7, jk_8, jk_9, jk_10, jk_11, jk_12, jk_13, jk_14, jk_15, jk_16, jk_17, jk_18, jk_19, jg_0, jg_1, jg_2, jg_3, jg_4, jg_5, jg_6, jg_7, jg_8, jg_9, jg_10, jg_11, jg_12, jg_13, jg_14, jg_15, jg_16, jg_17, jg_18, jg_19, m_isIn]
      by_cases g2 : ¬ d < u.1 94 (1520 + 4 * i + 1) ∧ d ≤ 1999
      · rw [if_pos g2, b2_p g2, if_neg one_ne, m_whole (h_4 H) (l_4 H) (by omega) e1 (by omega), ob]
        dsimp only
        cases brk (u.1 94) (u.1 94 (1520 + 4 * i)) (sdy (u.1 94) i) d (c 4) 0 <;> rfl
      · rw [if_neg g2, b2_n g2, if_pos rfl]
    · rw [b2_n g1, if_pos rfl, if_neg g1]
theorem c_isC' (H : RA w 3 A c K) {d : Int32} {th p : Nat} (hth : th < c 3) (hp : p < c 1) : f_State_isCounting (oi (tf A 0 d (c 6))) (nI th) (nI p) w = some (bz (one A 0 th (klo A p) true (tf A 0 d (c 6))), lkw w A th (klo A p)) := by
  have l1 := l_1 H
  have := c_isC (d := d) H hth (Or.inl hp)
  rw [if_neg (by omega)] at this
  exact this
theorem q_counts (h : Inv w c ci K) (hK : K < 512) (x s d : Int32) : Cal w (K + 1) (f_Count_counts x s d) (f_Model_counts x s d) := by
  have j1 : ∀ u, Inv u c ci K → ∀ t, t < c 3 → ∀ p, (s = -1 ∧ p = 100 ∨ s = nI p ∧ p < c 1) → ∃ v, f_Count_counts_j33 (nI t) s d u = some (if ¬ d < 0 ∧ d ≤ 1999 then bz (one (u.1 94) 0 t (klo (u.1 94) p) true (tf (u.1 94) 0 d (c 6))) else -1, v) ∧ Sq v u := fun u hu t ht p hp => by
    have H := hu.1
    rw [f_Count_counts_j33, c_isDay, ob]
    dsimp only
    by_cases g1 : ¬ d < 0 ∧ d ≤ 1999
    · have ct : f_Treaty_textFor 0 d u = some (oi (tf (u.1 94) 0 d (c 6)), u) := c_textFor (k := 0) H (by omega)
      have ec : f_State_isCounting (oi (tf (u.1 94) 0 d (c 6))) (nI t) s u = some (bz (one (u.1 94) 0 t (klo (u.1 94) p) true (tf (u.1 94) 0 d (c 6))), lkw u (u.1 94) t (klo (u.1 94) p)) := by
        rcases hp with ⟨e, q⟩ | ⟨e, q⟩
        · have := c_isC (d := d) H ht (Or.inr q)
          rw [if_pos q] at this
          rw [e]; exact this
        · rw [e]; exact c_isC' H ht q
      rw [b2_p g1, if_neg one_ne, if_pos g1, ct, ob]
      dsimp only
      rw [ec, ob]
      dsimp only
      refine ⟨lkw u (u.1 94) t (klo (u.1 94) p), ?_, lkw_Sq⟩
      · cases one (u.1 94) 0 t (klo (u.1 94) p) true (tf (u.1 94) 0 d (c 6)) <;> rfl
    · rw [b2_n g1, if_pos rfl, if_neg g1]; exact ⟨u, rfl, Sq_r⟩
  have j2 : ∀ u, Inv u c ci K → ∀ t, t < c 3 → ∀ p, (s = -1 ∧ p = 100 ∨ s = nI p ∧ p < c 1) → ∃ v, f_Model_counts_j21 (nI t) s d u = some (if ¬ d < 0 ∧ d ≤ 1999 then bz (one (u.1 94) 0 t (klo (u.1 94) p) true (tf (u.1 94) 0 d (c 6))) else -1, v) ∧ Sq v u := fun u hu t ht p hp => by
    have H := hu.1
    have l1 := l_1 H
    have l3 := l_3 H
    rw [f_Model_counts_j21, m_isDay, ob]
    dsimp only
    by_cases g1 : ¬ d < 0 ∧ d ≤ 1999
    · have ek : f_Model_classOf s u = some (klo (u.1 94) p, u) := by
        rcases hp with ⟨e, q⟩ | ⟨e, q⟩
        · rw [e, f_Model_classOf, if_pos (by decide), klo, if_neg (by omega)]
        · rw [e, f_Model_classOf, if_neg (nI_pos (by omega)), if_pos (show nI p < 100 from nI_lt (a := p) (b := 100) (by omega) (by omega)), ms_1 (by omega), klo, if_pos (by omega)]; rfl
      obtain ⟨v1, r1, r2⟩ := m_one (d := d) (th := t) (k := 0) (kl := klo (u.1 94) p) (wo := true) H (by omega) (Or.inl rfl)
      have r1' : f_Model_isOne 1 (nI t) (klo (u.1 94) p) d 1 u = _ := r1
      rw [b2_p g1, if_neg one_ne, if_pos g1, ek, ob]
      dsimp only
      rw [r1', ob]
      dsimp only
      refine ⟨v1, ?_, X9_Sq r2⟩
      cases one (u.1 94) 0 t (klo (u.1 94) p) true (tf (u.1 94) 0 d (c 6)) <;> rfl
    · rw [b2_n g1, if_pos rfl, if_neg g1]; exact ⟨u, rfl, Sq_r⟩
  have l1 := l_1 h.1
  have l3 := l_3 h.1
  refine Cal_v (V := fun A => if ¬ x < 0 ∧ x < nI (c 3) then (if s = -1 then (if ¬ d < 0 ∧ d ≤ 1999 then bz (one A 0 x.toNatClampNeg (klo A 100) true (tf A 0 d (c 6))) else -1) else if ¬ s < 0 ∧ s < nI (c 1) then (if ¬ d < 0 ∧ d ≤ 1999 then bz (one A 0 x.toNatClampNeg (klo A s.toNatClampNeg) true (tf A 0 d (c 6))) else -1) else -1) else -1) h hK (fun u hu => ?_) (fun u hu => ?_)
  · have H := hu.1
    rw [f_Count_counts, s_th H, ob]
    dsimp only
    by_cases g1 : ¬ x < 0 ∧ x < nI (c 3)
    · obtain ⟨t, ht, rfl⟩ := rng (by omega) g1
      rw [b2_p g1, if_neg one_ne, if_pos g1, nI_clamp (by omega)]
      by_cases g2 : s = -1
      · rw [if_pos g2, if_pos g2]; exact j1 u hu t ht 100 (Or.inl ⟨g2, rfl⟩)
      · rw [if_neg g2, if_neg g2, s_si H, ob]
        dsimp only
        by_cases g3 : ¬ s < 0 ∧ s < nI (c 1)
        · obtain ⟨p, hp, e⟩ := rng (by omega) g3
          rw [b2_p g3, if_neg one_ne, if_pos g3]
          have := j1 u hu t ht p (Or.inr ⟨e, hp⟩)
          rw [show s.toNatClampNeg = p by rw [e, nI_clamp (by omega)]]
          exact this
        · rw [b2_n g3, if_pos rfl, if_neg g3]; exact ⟨u, rfl, Sq_r⟩
    · rw [b2_n g1, if_pos rfl, if_neg g1]; exact ⟨u, rfl, Sq_r⟩
  · have H := hu.1
    rw [f_Model_counts, mi_thing H, ob]
    dsimp only
    by_cases g1 : ¬ x < 0 ∧ x < nI (c 3)
    · obtain ⟨t, ht, rfl⟩ := rng (by omega) g1
      rw [b2_p g1, if_neg one_ne, if_pos g1, nI_clamp (by omega)]
      by_cases g2 : s = -1
      · rw [if_pos g2, if_pos g2]; exact j2 u hu t ht 100 (Or.inl ⟨g2, rfl⟩)
      · rw [if_neg g2, if_neg g2, mi_site H, ob]
        dsimp only
        by_cases g3 : ¬ s < 0 ∧ s < nI (c 1)
        · obtain ⟨p, hp, e⟩ := rng (by omega) g3
          rw [b2_p g3, if_neg one_ne, if_pos g3]
          have := j2 u hu t ht p (Or.inr ⟨e, hp⟩)
          rw [show s.toNatClampNeg = p by rw [e, nI_clamp (by omega)]]
          exact this
        · rw [b2_n g3, if_pos rfl, if_neg g3]; exact ⟨u, rfl, Sq_r⟩
    · rw [b2_n g1, if_pos rfl, if_neg g1]; exact ⟨u, rfl, Sq_r⟩
end QU

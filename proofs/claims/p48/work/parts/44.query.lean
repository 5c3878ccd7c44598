/-! LAYER B: a call on both sides; calls that only look -/
def Rtp (w : jW) : Prop := ∃ n m1 m2 m3, JR w 79 1 300 n ∧ JR w 74 4 16 m1 ∧ JR w 76 1 300 m2 ∧ JR w 81 3 301 m3 ∧ w.1 93 4 = nI n ∧ ∀ k, k < n → w.1 80 k = w.1 97 k ∧ vb (w.1 97 k) 0 255
def Rft (w : jW) : Prop := (w.1 73 2 = 0 ∧ w.1 93 5 = -1 ∧ w.1 93 6 = -1) ∨ (w.1 73 2 = 1 ∧ w.1 73 3 = w.1 93 5 ∧ w.1 73 4 = w.1 93 6)
def Inv (w : jW) (c ci : Nat → Nat) (K : Nat) : Prop := RA w 3 (w.1 94) c K ∧ RA w 38 (w.1 95) ci K ∧ Rtp w ∧ Rft w
/-- one call: the same answer, and all is kept -/
def Cal {α : Type} (w : jW) (K : Nat) (C M : jW → Option (α × jW)) : Prop := ∃ x w1 w2 c ci, C w = some (x, w1) ∧ M w1 = some (x, w2) ∧ Inv w2 c ci K
section QU
variable {w v : jW} {A : Nat → Int32} {c ci : Nat → Nat} {K : Nat}
theorem JR_eq {R W cap n : Nat} (h : JR w R W cap n) (e : v.1 R = w.1 R) : JR v R W cap n := by
  unfold JR at *
  rw [e]; exact h
theorem Rtp_fr (h : Rtp w) (e : ∀ b, 74 ≤ b → b < 83 → v.1 b = w.1 b) (e4 : v.1 93 4 = w.1 93 4) (e97 : v.1 97 = w.1 97) : Rtp v := by
  obtain ⟨n, m1, m2, m3, h1, h2, h3, h4, h5, h6⟩ := h
  exact ⟨n, m1, m2, m3, JR_eq h1 (e 79 (by omega) (by omega)), JR_eq h2 (e 74 (by omega) (by omega)), JR_eq h3 (e 76 (by omega) (by omega)), JR_eq h4 (e 81 (by omega) (by omega)), e4.trans h5, by rw [e 80 (by omega) (by omega), e97]; exact h6⟩
theorem Rft_fr (h : Rft w) (e : v.1 73 = w.1 73) (e5 : v.1 93 5 = w.1 93 5) (e6 : v.1 93 6 = w.1 93 6) : Rft v := by
  unfold Rft at *
  rw [e, e5, e6]; exact h
theorem RA_38 (h : RA w 38 A c K) (e : ∀ b, 38 ≤ b → b < 73 → v.1 b = w.1 b) : RA v 38 A c K :=
  RA_tr h (Or.inr rfl) (fun o j q1 _ _ => congrFun (e (38 + o) (by omega) (by omega)) j) (fun _ _ => rfl) (Nat.le_refl _) (l_K h).2
theorem RA_K {b : Nat} {K' : Nat} (h : RA w b A c K) (hb : b = 3 ∨ b = 38) (h1 : K ≤ K') (h2 : K' ≤ 512) : RA w b A c K' :=
  RA_tr h hb (fun _ _ _ _ _ => rfl) (fun _ _ => rfl) h1 h2
theorem Inv_sq (h : Inv w c ci K) (q : Sq v w) : Inv v c ci K := by
  obtain ⟨h1, h2, h3, h4⟩ := h
  have ns : ∀ b, (b < 83 ∧ b ≠ 23) ∨ b = 94 ∨ b = 95 ∨ b = 97 → v.1 b = w.1 b := fun b hb => q.1 b (by unfold sc; simp; omega)
  refine ⟨?_, ?_, Rtp_fr h3 (fun b _ _ => ns b (by omega)) (q.2 4 (by omega)) (ns 97 (by omega)), Rft_fr h4 (ns 73 (by omega)) (q.2 5 (by omega)) (q.2 6 (by omega))⟩
  · rw [ns 94 (by omega)]; exact Sq_RA q h1
  · rw [ns 95 (by omega)]; exact RA_38 h2 (fun b _ _ => ns b (by omega))
theorem Inv_K {K' : Nat} (h : Inv w c ci K) (h1 : K ≤ K') (h2 : K' ≤ 512) : Inv w c ci K' := ⟨RA_K h.1 (Or.inl rfl) h1 h2, RA_K h.2.1 (Or.inr rfl) h1 h2, h.2.2⟩
theorem Cal_v {α : Type} {V : (Nat → Int32) → α} {C M : jW → Option (α × jW)} (h : Inv w c ci K) (hK : K < 512) (hC : ∀ u, Inv u c ci K → ∃ v, C u = some (V (u.1 94), v) ∧ Sq v u) (hM : ∀ u, Inv u c ci K → ∃ v, M u = some (V (u.1 94), v) ∧ Sq v u) : Cal w (K + 1) C M := by
  obtain ⟨w1, h1, s1⟩ := hC w h
  have g1 := Inv_sq h s1
  obtain ⟨w2, h2, s2⟩ := hM w1 g1
  rw [Sq_94 s1] at h2
  exact ⟨_, w1, w2, c, ci, h1, h2, Inv_K (Inv_sq g1 s2) (by omega) (by omega)⟩
theorem one_ne : ¬ (1 : Int32) = 0 := by decide
theorem c_isLand {x : Int32} : f_State_isLand x w = some (b2 (¬ x < 0 ∧ x ≤ 1), w) := by
  rw [f_State_isLand]
  by_cases h1 : x < 0
  · rw [if_pos h1, b2_n (fun z => z.1 h1)]
  · rw [if_neg h1]
    have e : (x < 2) = (x ≤ 1) := lt_p1 (n := 1) (by omega)
    by_cases h2 : x ≤ 1
    · rw [if_pos (by rw [e]; exact h2), b2_p ⟨h1, h2⟩]
    · rw [if_neg (by rw [e]; exact h2), b2_n (fun z => h2 z.2)]
theorem c_isSort {x : Int32} : f_State_isSort x w = some (b2 (¬ x < 0 ∧ x ≤ 3), w) := by
  rw [f_State_isSort]
  by_cases h1 : x < 0
  · rw [if_pos h1, b2_n (fun z => z.1 h1)]
  · rw [if_neg h1]
    have e : (x < 4) = (x ≤ 3) := lt_p1 (n := 3) (by omega)
    by_cases h2 : x ≤ 3
    · rw [if_pos (by rw [e]; exact h2), b2_p ⟨h1, h2⟩]
    · rw [if_neg (by rw [e]; exact h2), b2_n (fun z => h2 z.2)]
theorem hrd_Sq {n : Nat} {d kn : Int32} : Sq (hrd w A d kn n) w := ⟨fun b q => hrd_ne (fun z => by rw [z] at q; exact absurd q (by decide)), fun j _ => congrFun (hrd_ne (by decide)) j⟩
theorem hrd_Hrd {d kn : Int32} : Hrd (hrd w A d kn (c 7)) A c d kn := fun t ht => hrd_at ht
end QU


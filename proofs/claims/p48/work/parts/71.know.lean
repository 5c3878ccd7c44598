/-! LAYER B: what the records of a day do -/
section KR
variable {w v z0 : jW} {A : Nat → Int32} {c ci : Nat → Nat} {K : Nat}
theorem Kn_t {v1 v2 : jW} {F G : Nat → Int64 → Int64} (h : Kn v2 v1 G) (g : Kn v1 v F) : Kn v2 v (fun s x => G s (F s x)) := ⟨h.1.trans g.1, fun s hs => by rw [h.2 s hs, g.2 s hs]⟩
theorem Kn_id : Kn v v (fun _ x => x) := ⟨rfl, fun _ _ => rfl⟩
theorem Kn_RA {F : Nat → Int64 → Int64} (h : Kn v w F) (H : RA w 3 A c K) : RA v 3 A c K := RA_fr H (fun b _ _ _ => by rw [h.1])
theorem Kn_ex {F G : Nat → Int64 → Int64} (h : Kn v w F) (e : ∀ s, s < 4 → ∀ x, F s x = G s x) : Kn v w G := ⟨h.1, fun s hs => by rw [h.2 s hs, e s hs]⟩
def s1F (A : Nat → Int32) (x : Int32) (s : Nat) (d : Int32) (k : Nat) (y : Int64) : Int64 := if A (720 + 8 * k + 2) = x ∧ A (720 + 8 * k + 1) = d then shF A s (A (720 + 8 * k)).toNatClampNeg false y else y
def s2F (A : Nat → Int32) (x : Int32) (s : Nat) (d : Int32) (k : Nat) (y : Int64) : Int64 := if A (720 + 8 * k + 3) = x ∧ A (720 + 8 * k + 4) = d then shF A s (A (720 + 8 * k)).toNatClampNeg true y else y
def recF (A : Nat → Int32) (x : Int32) (s : Nat) (d : Int32) : Nat → Nat → Int64 → Int64
  | 0, _, y => y
  | m + 1, k, y => recF A x s d m (k + 1) (s2F A x s d k (s1F A x s d k y))
theorem B41_s1 {x d : Int32} {s k : Nat} {y : Int64} (h : B41 y) : B41 (s1F A x s d k y) := by
  unfold s1F; split
  · exact B41_sh h
  · exact h
theorem B41_s2 {x d : Int32} {s k : Nat} {y : Int64} (h : B41 y) : B41 (s2F A x s d k y) := by
  unfold s2F; split
  · exact B41_sh h
  · exact h
theorem B41_rec {x d : Int32} {s : Nat} : ∀ m k (y : Int64), B41 y → B41 (recF A x s d m k y) := by
  intro m
  induction m with
  | zero => intro k y h; exact h
  | succ m ih => intro k y h; exact ih (k + 1) _ (B41_s2 (B41_s1 h))
theorem c_cg45 {x d : Int32} : ∀ m k f (v : jW), RA v 3 A c K → k + m = c 4 → m < f → ∃ v', f_Knowing_comeAndGo_h45 f x d (nI k) v = some v' ∧ Kn v' v (fun s y => recF A x s d m k y) := by
  intro m
  induction m with
  | zero =>
    intro k f v H hk hf
    have l4 := l_4 H
    obtain ⟨f, rfl⟩ : ∃ j, f = j + 1 := ⟨f - 1, by omega⟩
    refine ⟨v, ?_, Kn_id⟩
    rw [f_Knowing_comeAndGo_h45, n_mv H, ob]
    dsimp only
    rw [if_neg (nI_nlt (by omega) (by omega))]
  | succ m ih =>
    intro k f v H hk hf
    have l4 := l_4 H
    have l3 := l_3 H
    obtain ⟨f, rfl⟩ : ∃ j, f = j + 1 := ⟨f - 1, by omega⟩
    have hk4 : k < c 4 := by omega
    obtain ⟨t, a, b, e, g, q1, q2, q3, q4, q5, q6, q7⟩ := p_Imove H k hk4
    have st : ∀ u : jW, RA u 3 A c K → ∃ v', f_Knowing_comeAndGo_j101 (f_Knowing_comeAndGo_h45 f) x d (nI k) u = some v' ∧ Kn v' u (fun s y => recF A x s d m (k + 1) (s2F A x s d k y)) := fun u Hu => by
      rw [f_Knowing_comeAndGo_j101, a_mv2 Hu hk4, ob]
      dsimp only
      by_cases g1 : A (720 + 8 * k + 3) = x
      rotate_left
      · obtain ⟨v', e1, e2⟩ := ih (k + 1) f u Hu (by omega) (by omega)
        rw [if_neg g1, ip_1]
        exact ⟨v', e1, Kn_ex e2 fun s _ y => by rw [s2F, if_neg (fun y => g1 y.1)]⟩
      rw [if_pos g1, a_mv4 Hu hk4, ob]
      dsimp only
      by_cases g2 : A (720 + 8 * k + 4) = d
      rotate_left
      · obtain ⟨v', e1, e2⟩ := ih (k + 1) f u Hu (by omega) (by omega)
        rw [if_neg g2, ip_1]
        exact ⟨v', e1, Kn_ex e2 fun s _ y => by rw [s2F, if_neg (fun y => g2 y.2)]⟩
      obtain ⟨u1, k1, k2⟩ := c_pass Hu (t := t) q6 true
      obtain ⟨v', e1, e2⟩ := ih (k + 1) f u1 (Kn_RA k2 Hu) (by omega) (by omega)
      rw [if_pos rfl] at k1
      rw [if_pos g2, a_mv0 Hu hk4, ob]
      dsimp only
      rw [q1, k1, ob, ip_1]
      exact ⟨v', e1, Kn_ex (Kn_t e2 k2) fun s _ y => by rw [s2F, if_pos ⟨g1, g2⟩, q1, nI_clamp (by omega)]⟩
    rw [f_Knowing_comeAndGo_h45, n_mv H, ob]
    dsimp only
    rw [if_pos (nI_lt hk4 (by omega)), a_mv1 H hk4, ob]
    dsimp only
    by_cases g1 : A (720 + 8 * k + 2) = x
    rotate_left
    · obtain ⟨v', e1, e2⟩ := st v H
      rw [if_neg g1]
      exact ⟨v', e1, Kn_ex e2 fun s _ y => by rw [recF, s1F, if_neg (fun y => g1 y.1)]⟩
    rw [if_pos g1, a_mv3 H hk4, ob]
    dsimp only
    by_cases g2 : A (720 + 8 * k + 1) = d
    rotate_left
    · obtain ⟨v', e1, e2⟩ := st v H
      rw [if_neg g2]
      exact ⟨v', e1, Kn_ex e2 fun s _ y => by rw [recF, s1F, if_neg (fun y => g2 y.2)]⟩
    obtain ⟨u1, k1, k2⟩ := c_pass H (t := t) q6 false
    rw [if_neg (by decide)] at k1
    obtain ⟨v', e1, e2⟩ := st u1 (Kn_RA k2 H)
    rw [if_pos g2, a_mv0 H hk4, ob]
    dsimp only
    rw [q1, k1, ob]
    exact ⟨v', e1, Kn_ex (Kn_t e2 k2) fun s _ y => by rw [recF, s1F, if_pos ⟨g1, g2⟩, q1, nI_clamp (by omega)]⟩
theorem c_cg15 : ∀ m k f (v : jW), k + m = 4 → m < f → ∃ v', f_Knowing_comeAndGo_h15 f (nI k) v = some v' ∧ v'.1 = v.1 ∧ ∀ s, s < 4 → v'.2 84 s = if s < k then v.2 84 s else fu41 := by
  intro m
  induction m with
  | zero =>
    intro k f v hk hf
    obtain ⟨f, rfl⟩ : ∃ j, f = j + 1 := ⟨f - 1, by omega⟩
    refine ⟨v, ?_, rfl, fun s hs => by rw [if_pos (by omega)]⟩
    rw [f_Knowing_comeAndGo_h15, nI_rfl 4, if_neg (nI_nlt (by omega) (by omega))]
  | succ m ih =>
    intro k f v hk hf
    obtain ⟨f, rfl⟩ : ∃ j, f = j + 1 := ⟨f - 1, by omega⟩
    obtain ⟨v', e1, e2, e3⟩ := ih (k + 1) f (v.1, jup v.2 84 k fu41) (by omega) (by omega)
    refine ⟨v', ?_, e2, fun s hs => ?_⟩
    · rw [← e1, f_Knowing_comeAndGo_h15, nI_rfl 4, if_pos (nI_lt (by omega) (by omega))]
      simp (disch := omega) only [jal_c, jal_n, jin_nI, Bool.and_true, ↓reduceIte, nI_clamp, jlw_e, ip_1]
      rfl
    · rw [e3 s hs]
      dsimp only
      by_cases z : s = k
      · rw [if_pos (by omega), if_neg (by omega)]; rw [z] ; exact jup_eq
      · rw [jup_k z]
        by_cases z2 : s < k
        · rw [if_pos (by omega), if_pos z2]
        · rw [if_neg (by omega), if_neg z2]
def cgF (A : Nat → Int32) (c : Nat → Nat) (i s : Nat) (d : Int32) (y : Int64) : Int64 := if A (40 + 8 * i + 2) = 0 then fu41 else recF A (nI i) s d (c 4) 0 y
theorem c_cag (H : RA v 3 A c K) {i : Nat} (hi : i < c 1) (d : Int32) : ∃ v', f_Knowing_comeAndGo (nI i) d v = some v' ∧ Kn v' v (fun s y => cgF A c i s d y) := by
  have l4 := l_4 H
  rw [f_Knowing_comeAndGo, a_si2 H hi, ob]
  dsimp only
  by_cases g : A (40 + 8 * i + 2) = 0
  · obtain ⟨v', e1, e2, e3⟩ := c_cg15 4 0 jfu v (by omega) (by unfold jfu; omega)
    rw [if_pos g]
    exact ⟨v', e1, e2, fun s hs => by
      show _ = cgF A c i s d _
      rw [e3 s hs, if_neg (by omega), cgF, if_pos g]⟩
  · obtain ⟨v', e1, e2⟩ := c_cg45 (A := A) (x := nI i) (d := d) (c 4) 0 jfu v H (by omega) (by unfold jfu; omega)
    rw [if_neg g]
    exact ⟨v', e1, Kn_ex e2 fun s _ y => by rw [cgF, if_neg g]⟩
theorem B41_cg {i s : Nat} {d : Int32} {y : Int64} (h : B41 y) : B41 (cgF A c i s d y) := by
  unfold cgF; split
  · exact B41_full
  · exact B41_rec _ _ _ h
end KR


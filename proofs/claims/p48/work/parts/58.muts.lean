/-! LAYER B: sites; what tells of counts; feed, end -/
section Q7
variable {w v : jW} {A : Nat → Int32} {c ci : Nat → Nat} {K : Nat}

theorem c_openWays_h {n : Nat} (hn : n < 10) : ∀ (m k f : Nat) (v : jW) (r : Nat → Int32), Ap v w 8 10 n r → JR v 8 10 10 (n + 1) → k + m = 10 → m < f → (∀ j, j < k → r j = if j = n then 0 else -1) → ∃ v' r', f_State_openWays_h11 f (nI n) (nI k) v = some v' ∧ Ap v' w 8 10 n r' ∧ ∀ j, j < 10 → r' j = if j = n then 0 else -1 := by
  intro m
  induction m with
  | zero =>
    intro k f v r a J hk hf hr
    obtain ⟨f, rfl⟩ : ∃ j, f = j + 1 := ⟨f - 1, by omega⟩
    refine ⟨v, r, ?_, a, fun j hj => hr j (by omega)⟩
    rw [f_State_openWays_h11, if_neg (show ¬ nI k < 10 from nI_nlt (a := k) (b := 10) (by omega) (by omega))]
  | succ m ih =>
    intro k f v r a J hk hf hr
    obtain ⟨f, rfl⟩ : ∃ j, f = j + 1 := ⟨f - 1, by omega⟩
    obtain ⟨v1, e1, a1, J1⟩ := ap_put a J (j := k) (by omega) (y := nI k) rfl (if k = n then 0 else -1)
    obtain ⟨v2, r2, s1, s2, s3⟩ := ih (k + 1) f v1 _ a1 J1 (by omega) (by omega) (fun j hj => by
      by_cases q : j = k
      · rw [if_pos q, q]
      · rw [if_neg q]; exact hr j (by omega))
    refine ⟨v2, r2, ?_, s2, s3⟩
    rw [f_State_openWays_h11, if_pos (show nI k < 10 from nI_lt (b := 10) (by omega) (by omega))]
    by_cases q : k = n
    · rw [if_pos q] at e1
      rw [if_pos (congrArg nI q), f_State_openWays_j33]
      have e : f_Rows_put 8 (nI n) (nI k) 0 v = some v1 := e1
      rw [e, ob, ip_1]; exact s1
    · rw [if_neg q] at e1
      rw [if_neg (fun z => q ((nI_eq (by omega) (by omega)).mp z)), f_State_openWays_j33]
      have e : f_Rows_put 8 (nI n) (nI k) (-1) v = some v1 := e1
      rw [e, ob, ip_1]; exact s1
theorem c_openWays {n : Nat} (J : JR w 8 10 10 n) (hn : n < 10) : ∃ v r, f_State_openWays (nI n) w = some v ∧ Ap v w 8 10 n r ∧ ∀ j, j < 10 → r j = if j = n then 0 else -1 := by
  obtain ⟨v1, e1, a1, J1⟩ := ap_open J hn (-1)
  obtain ⟨v2, r, s1, s2, s3⟩ := c_openWays_h hn 10 0 jfu v1 _ a1 J1 rfl (by unfold jfu; omega) (fun j hj => absurd hj (by omega))
  refine ⟨v2, r, ?_, s2, s3⟩
  rw [f_State_openWays, e1, ob]
  exact s1
def bv (x : Int32) : Int32 := if x = 0 then 0 else 1
theorem bv_v {x : Int32} : vb (bv x) 0 1 := by
  unfold bv
  split
  · exact ⟨0, rfl, by omega, by omega⟩
  · exact ⟨1, rfl, by omega, by omega⟩

theorem JR_cut {R W cap n m : Nat} {v : jW} (h : JR w R W cap n) (h0 : v.1 R 0 = w.1 R 0) (h2 : v.1 R 2 = nI m) (hm : m ≤ cap) : JR v R W cap m := ⟨h0.trans h.1, h2, hm, h.2.2.2⟩
end Q7


/-! LAYER B: rows put at a table's end; acts -/
/-- a new row r at the end of the table R -/
def Ap (w' w : jW) (R W n : Nat) (r : Nat → Int32) : Prop := w'.1 R 2 = nI (n + 1) ∧ (∀ j, j < W → w'.1 (R + 1) (n * W + j) = r j) ∧ ∀ b j, ¬ (b = R ∧ j = 2 ∨ b = R + 1 ∧ n * W ≤ j ∧ j < n * W + W) → w'.1 b j = w.1 b j
section AP
variable {w w1 w' : jW} {A : Nat → Int32} {c ci c' : Nat → Nat} {K K' R W cap n : Nat} {r : Nat → Int32}
theorem ap_open (h : JR w R W cap n) (hn : n < cap) (x : Int32) : ∃ w1, f_Rows_open R x w = some (nI n, w1) ∧ Ap w1 w R W n (fun j => if j = 0 then x else 0) ∧ JR w1 R W cap (n + 1) := by
  have hW := h.2.2.2.2.2.1
  refine ⟨_, r_open h hn x, ⟨if_pos ⟨rfl, rfl⟩, fun j hj => ?_, fun b j hd => ?_⟩, ⟨?_, if_pos ⟨rfl, rfl⟩, hn, h.2.2.2⟩⟩
  · dsimp only [jrow]
    rw [if_neg (by omega), if_pos ⟨rfl, by omega, by omega⟩]
    by_cases q : j = 0
    · rw [if_pos (by omega), if_pos q]
    · rw [if_neg (by omega), if_neg q]
  · dsimp only [jrow]
    rw [if_neg (by omega), if_neg (by omega)]
  · dsimp only [jrow]
    rw [if_neg (by omega), if_neg (by omega)]
    exact h.1
theorem ap_put (a : Ap w1 w R W n r) (J : JR w1 R W cap (n + 1)) {j : Nat} (hj : j < W) {y : Int32} (hy : y = nI j) (x : Int32) : ∃ w2, f_Rows_put R (nI n) y x w1 = some w2 ∧ Ap w2 w R W n (fun i => if i = j then x else r i) ∧ JR w2 R W cap (n + 1) := by
  subst hy
  refine ⟨_, r_put J (Nat.lt_succ_self n) hj x, ⟨?_, fun i hi => ?_, fun b i hd => ?_⟩, ⟨?_, ?_, J.2.2⟩⟩
  · dsimp only; rw [jup_ne (by omega)]; exact a.1
  · dsimp only
    by_cases q : i = j
    · rw [q, if_pos rfl]; exact jup_eq
    · rw [if_neg q, jup_k (by omega)]; exact a.2.1 i hi
  · show jup w1.1 (R + 1) (n * W + j) x b i = _
    rw [jup_ap, if_neg (by omega)]
    exact a.2.2 b i hd
  · dsimp only; rw [jup_ne (by omega)]; exact J.1
  · dsimp only; rw [jup_ne (by omega)]; exact J.2.1
theorem at_fr {x y v : Int32} (h0 : w'.1 R 0 = w.1 R 0) (h2 : w'.1 R 2 = w.1 R 2) (h1 : ∀ j, w'.1 (jSr jR0 R 1) j = w.1 (jSr jR0 R 1) j) (e : f_Rows_at R x y w = some (v, w)) : f_Rows_at R x y w' = some (v, w') := by
  have k : f_Rows_at R x y w' = (f_Rows_at R x y w).map (fun z => (z.1, w')) := by
    rw [f_Rows_at, f_Rows_at, h0, h2]
    repeat' split
    all_goals first | rfl | (rw [h1]; rfl) | contradiction
  rw [k, e]; rfl
theorem si_fr {x y v : Int32} (h : ∀ b, b = 6 ∨ b = 7 → w'.1 b = w.1 b) (e : f_Rows_at 6 x y w = some (v, w)) : f_Rows_at 6 x y w' = some (v, w') :=
  at_fr (congrFun (h 6 (Or.inl rfl)) 0) (congrFun (h 6 (Or.inl rfl)) 2) (fun j => congrFun (h 7 (Or.inr rfl)) j) e
theorem Ap_fn (a : Ap w' w R W n r) {b : Nat} (h : b ≠ R) (h1 : b ≠ R + 1) : w'.1 b = w.1 b := funext fun j => a.2.2 b j (by omega)
theorem c_act (J : JR w 32 5 512 (c 11)) (hn : c 11 < 512) (e0 : w.1 3 0 = nI (c 0)) (k l o m : Int32) : ∃ w1, f_State_addAct k l o m w = some w1 ∧ Ap w1 w 32 5 (c 11) (fun j => if j = 4 then m else if j = 3 then o else if j = 2 then l else if j = 1 then nI (c 0) else if j = 0 then k else 0) := by
  obtain ⟨v1, e1, a1, J1⟩ := ap_open J hn k
  obtain ⟨v2, e2, a2, J2⟩ := ap_put a1 J1 (j := 1) (by omega) (y := 1) rfl (nI (c 0))
  obtain ⟨v3, e3, a3, J3⟩ := ap_put a2 J2 (j := 2) (by omega) (y := 2) rfl l
  obtain ⟨v4, e4, a4, J4⟩ := ap_put a3 J3 (j := 3) (by omega) (y := 3) rfl o
  obtain ⟨v5, e5, a5, J5⟩ := ap_put a4 J4 (j := 4) (by omega) (y := 4) rfl m
  refine ⟨v5, ?_, a5⟩
  have z : v1.1 3 0 = nI (c 0) := (a1.2.2 3 0 (by omega)).trans e0
  rw [f_State_addAct, e1, ob]
  dsimp only
  rw [z, e2, ob, e3, ob, e4, ob, e5, ob]
/-- the reference's row of an act -/
def ntw (w : jW) (n : Nat) (d k l o m : Int32) : jW := (jup (jup (jup (jup (jup (jup w.1 94 (13080 + 8 * n) k) 94 (13080 + 8 * n + 1) d) 94 (13080 + 8 * n + 2) l) 94 (13080 + 8 * n + 3) o) 94 (13080 + 8 * n + 4) m) 94 11 (nI (n + 1)), w.2)
theorem Cal_f {α : Type} {x : α} {C M : jW → Option (α × jW)} (h : Inv w c ci K) (hK : K < 512) (hC : C w = some (x, w)) (hM : M w = some (x, w)) : Cal w (K + 1) C M := ⟨x, w, w, c, ci, hC, hM, Inv_K h (by omega) (by omega)⟩
theorem Inv_of (h : Inv w c ci K) (hKK : K ≤ K') (he : ∀ b, 38 ≤ b → b ≠ 94 → w'.1 b = w.1 b) (H : RA w' 3 (w'.1 94) c' K') : Inv w' c' ci K' := by
  obtain ⟨h1, h2, h3, h4⟩ := h
  have hk := (l_K h1)
  refine ⟨H, ?_, Rtp_fr h3 (fun b q _ => he b (by omega) (by omega)) (congrFun (he 93 (by omega) (by omega)) 4) (he 97 (by omega) (by omega)), Rft_fr h4 (he 73 (by omega) (by omega)) (congrFun (he 93 (by omega) (by omega)) 5) (congrFun (he 93 (by omega) (by omega)) 6)⟩
  rw [he 95 (by omega) (by omega)]
  exact RA_38 (RA_K h2 (Or.inr rfl) hKK (l_K H).2) (fun b q _ => he b (by omega) (by omega))
end AP


/-! LAYER B: conditions -/
def opv (e : Nat → Int32) (x : Nat) : Int32 := if x < 10000 then nI x else e (x - 10000)
def cmq (k : Nat) (a b : Int32) : Bool := if k = 0 then decide (a < b) else if k = 1 then decide (a ≤ b) else if k = 2 then !decide (a ≤ b) else if k = 3 then !decide (a < b) else if k = 4 then decide (a = b) else !decide (a = b)
def stn : List Bool → List Bool
  | [] => []
  | x :: r => (!x) :: r
def sta (b : Bool) : List Bool → List Bool
  | y :: x :: r => (if b = true then x && y else x || y) :: r
  | _ => []
def evs (e : Nat → Int32) : List (Nat × Nat × Nat) → List Bool → List Bool
  | [], st => st
  | t :: L, st => if t.1 < 6 then evs e L (cmq t.1 (opv e t.2.1) (opv e t.2.2) :: st) else if t.1 = 6 then evs e L (stn st) else evs e L (sta (decide (t.1 = 7)) st)
section CD
variable {w : jW}
theorem if_bz {P : Prop} [Decidable P] : (if P then some ((1 : Int32), w) else some (0, w)) = some (bz (decide P), w) := by
  by_cases h : P <;> simp [h, bz]
theorem if_bz' {P : Prop} [Decidable P] : (if P then some ((0 : Int32), w) else some (1, w)) = some (bz (!decide P), w) := by
  by_cases h : P <;> simp [h, bz]
theorem c_compares {k : Nat} (h : k < 6) {a b : Int32} : f_Treaty_compares a (nI (30018 + k)) b w = some (bz (cmq k a b), w) := by
  rw [f_Treaty_compares]
  rcases (show k = 0 ∨ k = 1 ∨ k = 2 ∨ k = 3 ∨ k = 4 ∨ k = 5 by omega) with q | q | q | q | q | q <;> subst q
  · exact if_bz
  · exact if_bz
  · exact if_bz'
  · exact if_bz'
  · exact if_bz
  · exact if_bz'
theorem opc_neg {x : Nat} (h : x < 10000) : (nI x - 20000 - 13 : Int32) < 0 := by
  rw [Int32.lt_iff_toInt_lt, Int32.toInt_sub, Int32.toInt_sub, nI_toInt (by omega)]
  have e1 : (20000 : Int32).toInt = 20000 := by decide
  have e2 : (13 : Int32).toInt = 13 := by decide
  have e3 : (0 : Int32).toInt = 0 := by decide
  rw [e1, e2, e3]
  simp only [Int.bmod_def]
  omega
theorem c_operand {x : Nat} (h : x < 10005) : f_Treaty_operand (nI (opc x)) w = some (opv (w.1 23) x, w) := by
  rw [f_Treaty_operand]
  by_cases q : x < 10000
  · rw [opc, if_pos q, if_pos (opc_neg q), opv, if_pos q]
  · have e : (nI (opc x) - 20000 - 13 : Int32) = nI (x - 10000) := by
      rw [opc, if_neg q, show (20000 : Int32) = nI 20000 from rfl, show (13 : Int32) = nI 13 from rfl, nI_sub (by omega), nI_sub (by omega), show x + 10013 - 20000 - 13 = x - 10000 by omega]
    rw [e, if_neg (nI_pos (by omega)), nI_rfl 5, if_pos (nI_lt (by omega) (by omega)), jal_c, jin_nI (by omega) (by omega), nI_clamp (by omega), opv, if_neg q]
    rfl
/-- the truths found so far in the bits of a long -/
def bst (x : Int64) (st : List Bool) : Prop := st.length ≤ 60 ∧ ∀ i, i < 64 → gb x i = st.getD i false
theorem bst_63 {x : Int64} {st : List Bool} (h : bst x st) : gb x 63 = false := by
  rw [h.2 63 (by omega), List.getD_eq_getElem?_getD, List.getElem?_eq_none (by have := h.1; omega)]; rfl
theorem bst_push {x : Int64} {st : List Bool} {b : Bool} (h : bst x st) (hl : st.length < 60) : bst ((x <<< (Int32.toInt64 1 &&& 63)) ||| (if b = true then Int32.toInt64 1 else Int32.toInt64 0)) (b :: st) := by
  refine ⟨by simp; omega, fun i hi => ?_⟩
  rw [gb_or, gb_shl]
  have e1 : gb (if b = true then Int32.toInt64 1 else Int32.toInt64 0) i = (b && decide (i = 0)) := by
    cases b
    · exact gb_0
    · exact gb_1.trans (by simp)
  rw [e1]
  cases i with
  | zero => simp
  | succ i => rw [Nat.add_sub_cancel, h.2 i (by omega)]; simp [hi]
theorem bst_not {x : Int64} {b : Bool} {st : List Bool} (h : bst x (b :: st)) : bst (x ^^^ 1) ((!b) :: st) := by
  refine ⟨h.1, fun i hi => ?_⟩
  rw [gb_xor, gb_1, h.2 i hi]
  cases i with
  | zero => simp
  | succ i => simp
theorem bst_and {x : Int64} {y b : Bool} {st : List Bool} (h : bst x (y :: b :: st)) : bst ((x >>> (Int32.toInt64 1 &&& 63)) &&& (x ||| (-2))) ((b && y) :: st) := by
  refine ⟨by have := h.1; simp at this ⊢; omega, fun i hi => ?_⟩
  rw [gb_and, gb_or, gb_m2, gb_shr (bst_63 h)]
  by_cases q : i = 63
  · subst q
    rw [gb_big (by omega)]
    have := h.1
    rw [List.getD_eq_getElem?_getD, List.getElem?_eq_none (by simp at this ⊢; omega)]; rfl
  · rw [h.2 (i + 1) (by omega), h.2 i hi]
    cases i with
    | zero => simp
    | succ i => simp [hi]
theorem bst_or {x : Int64} {y b : Bool} {st : List Bool} (h : bst x (y :: b :: st)) : bst ((x >>> (Int32.toInt64 1 &&& 63)) ||| (x &&& 1)) ((b || y) :: st) := by
  refine ⟨by have := h.1; simp at this ⊢; omega, fun i hi => ?_⟩
  rw [gb_or, gb_and, gb_1, gb_shr (bst_63 h)]
  by_cases q : i = 63
  · subst q
    rw [gb_big (by omega)]
    have := h.1
    rw [List.getD_eq_getElem?_getD, List.getElem?_eq_none (by simp at this ⊢; omega)]; simp
  · rw [h.2 (i + 1) (by omega), h.2 i hi]
    cases i with
    | zero => simp
    | succ i => simp
theorem opc_ne {x v : Nat} (h : x < 10005) (hv : 30010 ≤ v) (hv2 : v < 31000) : nI (opc x) ≠ nI v := by
  intro z
  have e : opc x < 2 ^ 31 ∧ opc x < 30000 := by unfold opc; split <;> omega
  have := (nI_eq e.1 (by omega)).mp z
  omega
theorem code_at {ks i : Nat} (h : JR w 21 1 3000 ks) (hi : i < ks) : f_Rows_at 21 (nI i) 0 w = some (w.1 22 i, w) := by
  have := r_at (j := 0) h hi (by omega)
  rw [Nat.mul_one, Nat.add_zero] at this
  exact this
theorem c_holds_h {ks : Nat} (hj : JR w 21 1 3000 ks) : ∀ (L : List (Nat × Nat × Nat)) (p f d e : Nat) (x : Int64) (st : List Bool), bst x st → st.length = d → wfd L d = some e → tkc (w.1 22) p L → p + tln L ≤ ks → L.length < f →
    f_Treaty_holds_h24 f x (nI (p + tln L)) (nI p) w = some (bz ((evs (w.1 23) L st).getD 0 false), w) := by
  have hks := hj.2.2.1
  intro L
  induction L with
  | nil =>
    intro p f d e x st hb hd hw ht hp hf
    obtain ⟨f, rfl⟩ : ∃ j, f = j + 1 := ⟨f - 1, by omega⟩
    rw [f_Treaty_holds_h24, tln, Nat.add_zero, if_neg (nI_nlt (by omega) (by omega)), evs, ← hb.2 0 (by omega)]
    by_cases q : gb x 0 = true
    · rw [if_pos (lg_0.mpr (gb_low.mpr q)), q]; rfl
    · rw [if_neg (fun z => q (gb_low.mp (lg_0.mp z))), Bool.eq_false_iff.mpr q]; rfl
  | cons t L ih =>
    intro p f d e x st hb hd hw ht hp hf
    obtain ⟨f, rfl⟩ : ∃ j, f = j + 1 := ⟨f - 1, by omega⟩
    rw [List.length_cons] at hf
    rw [wfd] at hw
    rw [tkc] at ht
    rw [tln] at hp ⊢
    rw [evs, f_Treaty_holds_h24]
    by_cases k6 : t.1 < 6
    · rw [if_pos k6] at hw ht hp ⊢
      by_cases k7 : d < 60 ∧ t.2.1 < 10005 ∧ t.2.2 < 10005
      · rw [if_pos k7] at hw
        obtain ⟨t1, t2, t3, t4⟩ := ht
        rw [if_pos k6, if_pos (nI_lt (by omega) (by omega)), code_at hj (by omega), ob, t1]
        dsimp only
        rw [if_neg (show ¬ nI (opc t.2.1) = 30012 from opc_ne (v := 30012) k7.2.1 (by omega) (by omega)), if_neg (show ¬ nI (opc t.2.1) = 30011 from opc_ne (v := 30011) k7.2.1 (by omega) (by omega)), if_neg (show ¬ nI (opc t.2.1) = 30010 from opc_ne (v := 30010) k7.2.1 (by omega) (by omega)), c_operand k7.2.1, ob]
        dsimp only
        rw [ip_1, code_at hj (by omega), ob, t2]
        dsimp only
        rw [ip_2, code_at hj (by omega), ob, t3]
        dsimp only
        rw [c_operand k7.2.2, ob]
        dsimp only
        rw [c_compares k6, ob]
        dsimp only
        have g := ih (p + 3) f (d + 1) e _ _ (bst_push (b := cmq t.1 (opv (w.1 23) t.2.1) (opv (w.1 23) t.2.2)) hb (by omega)) (by simp; omega) hw t4 (by omega) (by omega)
        rw [show p + 3 + tln L = p + (3 + tln L) by omega] at g
        rw [ip_1, show p + 2 + 1 = p + 3 by omega, ← g]
        cases cmq t.1 (opv (w.1 23) t.2.1) (opv (w.1 23) t.2.2)
        · rw [if_pos (by decide)]; rfl
        · rw [if_neg (by decide)]; rfl
      · rw [if_neg k7] at hw; exact absurd hw (by simp)
    · rw [if_neg k6] at hw ht hp ⊢
      rw [if_neg k6, if_pos (nI_lt (by omega) (by omega)), code_at hj (by omega), ob, ht.1]
      dsimp only
      rw [ip_1, show p + (1 + tln L) = p + 1 + tln L by omega]
      by_cases k6' : t.1 = 6
      · rw [if_pos k6'] at hw ⊢
        by_cases k1 : 1 ≤ d
        · rw [if_pos k1] at hw
          rw [cop, if_pos k6', if_pos (show nI 30012 = 30012 from rfl)]
          cases st with
          | nil => simp at hd; omega
          | cons b st =>
            exact ih (p + 1) f d e _ ((!b) :: st) (bst_not hb) (by simpa using hd) hw ht.2 (by omega) (by omega)
        · rw [if_neg k1] at hw; exact absurd hw (by simp)
      · rw [if_neg k6'] at hw ⊢
        by_cases k8 : t.1 ≤ 8
        · rw [if_pos k8] at hw
          by_cases k2 : 2 ≤ d
          · rw [if_pos k2] at hw
            cases st with
            | nil => simp at hd; omega
            | cons y st =>
              cases st with
              | nil => simp at hd; omega
              | cons b st =>
                simp only [List.length_cons] at hd
                by_cases k7 : t.1 = 7
                · rw [cop, if_neg k6', if_pos k7, if_neg (show ¬ nI 30011 = 30012 by decide), if_pos (show nI 30011 = 30011 from rfl), decide_eq_true k7]
                  exact ih (p + 1) f (d - 1) e _ ((b && y) :: st) (bst_and hb) (by rw [List.length_cons]; omega) hw ht.2 (by omega) (by omega)
                · rw [cop, if_neg k6', if_neg k7, if_neg (show ¬ nI 30010 = 30012 by decide), if_neg (show ¬ nI 30010 = 30011 by decide), if_pos (show nI 30010 = 30010 from rfl), decide_eq_false k7]
                  exact ih (p + 1) f (d - 1) e _ ((b || y) :: st) (bst_or hb) (by rw [List.length_cons]; omega) hw ht.2 (by omega) (by omega)
          · rw [if_neg k2] at hw; exact absurd hw (by simp)
        · rw [if_neg k8] at hw; exact absurd hw (by simp)
theorem len_tln : ∀ L : List (Nat × Nat × Nat), L.length ≤ tln L := by
  intro L
  induction L with
  | nil => exact Nat.le_refl _
  | cons t L ih => rw [tln, List.length_cons]; split <;> omega
/-- what a condition says -/
def evl (e : Nat → Int32) (L : List (Nat × Nat × Nat)) : Bool := (evs e L []).getD 0 false
end CD


/-! LAYER B: bits of a long; the scratch -/
def gb (x : Int64) (i : Nat) : Bool := x.toBitVec.getLsbD i
theorem lg_0 {a b : Int64} : (lg_cmp a b = 0) ↔ a = b := by
  unfold lg_cmp
  constructor
  · intro h
    split at h
    · exact absurd h (by decide)
    · split at h
      · assumption
      · exact absurd h (by decide)
  · intro h
    subst h
    rw [if_neg (show ¬ a > a from fun z => Int64.lt_irrefl z), if_pos rfl]
theorem gb_big {x : Int64} {i : Nat} (h : 64 ≤ i) : gb x i = false := by
  unfold gb; exact BitVec.getLsbD_of_ge _ _ h
theorem gb_and {x y : Int64} {i : Nat} : gb (x &&& y) i = (gb x i && gb y i) := by
  unfold gb; simp
theorem gb_or {x y : Int64} {i : Nat} : gb (x ||| y) i = (gb x i || gb y i) := by
  unfold gb; simp
theorem gb_xor {x y : Int64} {i : Nat} : gb (x ^^^ y) i = (gb x i ^^ gb y i) := by
  unfold gb; simp
theorem gb_0 {i : Nat} : gb 0 i = false := by
  unfold gb
  rw [show (0 : Int64).toBitVec = 0#64 from rfl]; simp
theorem gb_1 {i : Nat} : gb 1 i = decide (i = 0) := by
  unfold gb
  rw [show (1 : Int64).toBitVec = 1#64 from rfl]
  simp [BitVec.getLsbD_one]
theorem gb_m2 {i : Nat} : gb (-2) i = (decide (1 ≤ i) && decide (i < 64)) := by
  unfold gb
  rw [show (-2 : Int64).toBitVec = ~~~ 1#64 from by decide, BitVec.getLsbD_not, BitVec.getLsbD_one]
  by_cases h : i = 0
  · subst h; rfl
  · simp [h, show 1 ≤ i by omega]
theorem gb_shl {x : Int64} {i : Nat} : gb (x <<< (Int32.toInt64 1 &&& 63)) i = (decide (1 ≤ i) && (decide (i < 64) && gb x (i - 1))) := by
  unfold gb
  rw [show (x <<< (Int32.toInt64 1 &&& 63)).toBitVec = x.toBitVec <<< 1 from rfl]
  rw [BitVec.getLsbD_shiftLeft]
  by_cases h : i = 0
  · subst h; simp
  · simp [show 1 ≤ i by omega, show ¬ i < 1 by omega]
theorem gb_shr {x : Int64} {i : Nat} (h : gb x 63 = false) : gb (x >>> (Int32.toInt64 1 &&& 63)) i = gb x (i + 1) := by
  unfold gb at *
  rw [show (x >>> (Int32.toInt64 1 &&& 63)).toBitVec = x.toBitVec.sshiftRight 1 from rfl]
  rw [BitVec.getLsbD_sshiftRight]
  by_cases h1 : 64 ≤ i
  · rw [BitVec.getLsbD_of_ge _ _ (show 64 ≤ i + 1 by omega)]; simp [h1]
  · by_cases h2 : i = 63
    · subst h2
      rw [BitVec.msb_eq_getLsbD_last, show 64 - 1 = 63 from rfl, h, show 63 + 1 = 64 from rfl, BitVec.getLsbD_of_ge _ _ (Nat.le_refl 64)]
      simp
    · rw [if_pos (show 1 + i < 64 by omega), Nat.add_comm 1 i, decide_eq_false (show ¬ 64 ≤ i by omega)]
      rfl
theorem gb_ext {x y : Int64} (h : ∀ i, i < 64 → gb x i = gb y i) : x = y := by
  apply Int64.toBitVec_inj.mp
  apply BitVec.eq_of_getLsbD_eq
  intro i hi
  exact h i hi
theorem gb_low {x : Int64} : (x &&& 1 = 1) ↔ gb x 0 = true := by
  constructor
  · intro h
    have := congrArg (fun z => gb z 0) h
    simpa [gb_and, gb_1] using this
  · intro h
    apply gb_ext
    intro i _
    rw [gb_and, gb_1]
    by_cases q : i = 0
    · subst q; simp [h]
    · simp [q]
/-- scratch cells: no call's answer hangs on what an earlier call left there -/
def sc (b : Nat) : Bool := b == 23 || decide (83 ≤ b ∧ b ≤ 92)
def Sq (v w : jW) : Prop := (∀ b, sc b = false → v.1 b = w.1 b) ∧ ∀ j, j = 4 ∨ j = 5 ∨ j = 6 → v.1 93 j = w.1 93 j
section SQ
variable {u v w : jW} {A : Nat → Int32} {c : Nat → Nat} {K : Nat}
theorem Sq_r : Sq w w := ⟨fun _ _ => rfl, fun _ _ => rfl⟩
theorem Sq_t (h : Sq u v) (g : Sq v w) : Sq u w := ⟨fun b q => (h.1 b q).trans (g.1 b q), fun j q => (h.2 j q).trans (g.2 j q)⟩
theorem Sq_94 (h : Sq v w) : v.1 94 = w.1 94 := h.1 94 rfl
theorem Sq_RA (h : Sq v w) (H : RA w 3 A c K) : RA v 3 A c K := RA_fr H (fun b h1 h2 h3 => h.1 b (by unfold sc; simp; omega))
theorem Sq_jup {b j : Nat} {x : Int32} (hb : sc b = true) (h : b ≠ 93 ∨ ¬ (j = 4 ∨ j = 5 ∨ j = 6)) : Sq (jup w.1 b j x, w.2) w := by
  refine ⟨fun b' q => ?_, fun j' q => ?_⟩
  · exact funext fun k => jup_ne (fun z => by rw [z, hb] at q; exact absurd q (by decide)) k
  · show jup w.1 b j x 93 j' = _
    rw [jup_ap, if_neg]
    intro z
    rcases h with h | h
    · exact h z.1.symm
    · rw [z.2] at q; exact h q
theorem Sq_2 {x : Nat → Nat → Int64} : Sq (w.1, x) w := ⟨fun _ _ => rfl, fun _ _ => rfl⟩
end SQ


/-! LAYER B: visits on the reference's side -/
section Q10
variable {w w' v z0 : jW} {A A' : Nat → Int32} {c ci : Nat → Nat} {K : Nat}
/-- the reference's array while a visit is told -/
def mra (A : Nat → Int32) (c : Nat → Nat) (l s k : Nat) (i : Nat) : Int32 := if i = 11280 + 12 * c 8 then nI l else if i = 11280 + 12 * c 8 + 1 then nI s else if i = 11280 + 12 * c 8 + 2 then nI (c 0) else if 11280 + 12 * c 8 + 3 ≤ i ∧ i < 11280 + 12 * c 8 + 8 then nI (vct A c s (i - (11280 + 12 * c 8 + 3)) k) else A i
theorem mra_A {l s k i : Nat} (h : ¬ (11280 + 12 * c 8 ≤ i ∧ i < 11280 + 12 * c 8 + 8)) : mra A c l s k i = A i := by
  unfold mra
  rw [if_neg (by omega), if_neg (by omega), if_neg (by omega), if_neg (by omega)]
theorem mra_RA (H : RA w 3 A c K) {l s k : Nat} (h8 : c 8 < 100) : RA w 3 (mra A c l s k) c K := P_jvis H h8 (fun _ _ _ _ _ => rfl) (fun i _ q => mra_A (by omega))
theorem mra_At {l s k : Nat} : At (mra A c l s k) A := fun i h1 h2 => mra_A (by omega)
theorem mra_Am {l s k : Nat} : Am (mra A c l s k) A := ⟨fun i h1 h2 _ => mra_A (by omega), fun i h1 h2 => mra_A (by omega)⟩
def Mvs (u v : jW) (A : Nat → Int32) (c : Nat → Nat) (l s k : Nat) : Prop := u.1 94 = mra A c l s k ∧ ∀ b, b ≠ 94 → b ≠ 99 → b ≠ 100 → u.1 b = v.1 b
end Q10


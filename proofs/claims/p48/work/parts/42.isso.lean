/-! LAYER B: conditions as the reference reads them -/
def menv (A : Nat → Int32) (th : Nat) (kl : Int32) (j : Nat) : Int32 := if j = 0 then A (240 + 12 * th) else if j = 1 then A (240 + 12 * th + 1) else if j = 2 then A (240 + 12 * th + 2) else if j = 3 then kl else A (240 + 12 * th + 3)
theorem jup_fn {f : Nat → Nat → Int32} {a k b : Nat} {x : Int32} (h : b ≠ a) : jup f a k x b = f b := funext fun j => jup_ne h j
section IS
variable {v : jW}
def Mst (v : jW) (st : List Bool) : Prop := ∀ i, i < st.length → v.1 100 (st.length - 1 - i) = bz (st.getD i false)
/-- the same but for the cells 99 and 100 -/
def X9 (v w : jW) : Prop := ∀ b, b ≠ 99 → b ≠ 100 → v.1 b = w.1 b
theorem X9_jup {j b : Nat} {x : Int32} (h : b = 99 ∨ b = 100) : X9 (jup v.1 b j x, v.2) v := fun b' h1 h2 => funext fun k => jup_ne (by omega) k
theorem X9_t {u w : jW} (h : X9 u v) (g : X9 v w) : X9 u w := fun b h1 h2 => (h b h1 h2).trans (g b h1 h2)
theorem X9_Sq {w : jW} (h : X9 v w) : Sq v w := ⟨fun b q => h b (fun z => by rw [z] at q; exact absurd q (by decide)) (fun z => by rw [z] at q; exact absurd q (by decide)), fun j _ => congrFun (h 93 (by omega) (by omega)) j⟩
def hld (A : Nat → Int32) (t q th : Nat) (kl : Int32) : Bool := false
end IS


/-! LAYER B: conditions as the reference reads them -/
def menv (A : Nat → Int32) (th : Nat) (kl : Int32) (j : Nat) : Int32 := if j = 0 then A (240 + 12 * th) else if j = 1 then A (240 + 12 * th + 1) else if j = 2 then A (240 + 12 * th + 2) else if j = 3 then kl else A (240 + 12 * th + 3)
theorem jup_fn {f : Nat → Nat → Int32} {a k b : Nat} {x : Int32} (h : b ≠ a) : jup f a k x b = f b := funext fun j => jup_ne h j
section IS
variable {v : jW}
def Mst (v : jW) (st : List Bool) : Prop := ∀ i, i < st.length → v.1 100 (st.length - 1 - i) = bz (st.getD i false)
def hld (A : Nat → Int32) (t q th : Nat) (kl : Int32) : Bool := false
end IS


/-! THE ABSTRACT WORLD: cells by small numbers (0 the script, 1 the text constant, from 2 on what the run has made, in the order of its making), their kinds (below 20 an object of that class; 20 int[], 21 boolean[], 22 long[]; 99 none), lengths, references; all ints (booleans too) by cell and place, all longs likewise -/
abbrev jW : Type := (Nat → Nat → Int32) × (Nat → Nat → Int64)
abbrev jS : Type := Nat × (Nat → Nat) × (Nat → Nat) × (Nat → Nat → Nat)
abbrev jSn (r : jS) : Nat := r.1
abbrev jSk (r : jS) : Nat → Nat := r.2.1
abbrev jSl (r : jS) : Nat → Nat := r.2.2.1
abbrev jSr (r : jS) : Nat → Nat → Nat := r.2.2.2
/-- where it lies: classes, array classes, the script's cell, the constant's cell, the heap ahead of all -/
abbrev jG : Type := va_G × (Nat → ClassId) × Nat × Nat × Heap × (State → Prop)
abbrev jH0 (G : jG) : Heap := G.2.2.2.2.1
def jad (G : jG) : Nat → Nat
  | 0 => G.2.2.1
  | 1 => G.2.2.2.1
  | k + 2 => (jH0 G).size + k
def jcv (G : jG) : Value → Value
  | .ref a => .ref (jad G a)
  | v => v
def jfv (G : jG) (ty : FieldType) (r : Nat) (i : Int32) (j : Int64) : Value := match ty with
  | .long => .long j
  | .object _ => if r = 0 then .null else .ref (jad G r)
  | .array _ => if r = 0 then .null else .ref (jad G r)
  | _ => .int i
def jobj (G : jG) (r : jS) (w : jW) (a : Nat) (H : Heap) : Prop := t_OB (jad G a) (G.1.1 (jSk r a)) (jNf (jSk r a)) (G.1.2 (jSk r a)) H (fun k => jfv G (jtyf (jSk r a) k) (jSr r a k) (w.1 a k) (w.2 a k))
def jari (G : jG) (r : jS) (w : jW) (a : Nat) (H : Heap) : Prop := H[jad G a]? = some (arrV (G.2.1 (jSk r a)) (jSl r a) (fun k => .int (w.1 a k)))
def jarl (G : jG) (r : jS) (w : jW) (a : Nat) (H : Heap) : Prop := H[jad G a]? = some (arrV (G.2.1 (jSk r a)) (jSl r a) (fun k => .long (w.2 a k)))
def jcell (G : jG) (r : jS) (w : jW) (a : Nat) (H : Heap) : Prop :=
  (jSk r a < 10 → jobj G r w a H) ∧ (jSk r a = 20 ∨ jSk r a = 21 → jari G r w a H) ∧ (jSk r a = 22 → jarl G r w a H)
def jWd (G : jG) (r : jS) (w : jW) (H : Heap) : Prop :=
  H.size = (jH0 G).size + jSn r ∧ (∀ q, q < (jH0 G).size → H[q]? = (jH0 G)[q]?) ∧ (∀ a, jSk r a < 90 → 2 ≤ a ∧ a < jSn r + 2) ∧ ∀ a, jSk r a < 90 → jcell G r w a H
def jK (G : jG) (s : State) : Prop := va_K G.1 jcl [(G.2.1 20, .int), (G.2.1 21, .boolean), (G.2.1 22, .long)] s ∧ G.2.2.2.2.2 s
theorem jad_ge {G : jG} {a : Nat} (h : 2 ≤ a) : (jH0 G).size ≤ jad G a := by
  match a, h with
  | k + 2, _ => exact Nat.le_add_right _ _
theorem jad_inj {G : jG} {a b : Nat} (ha : 2 ≤ a) (hb : 2 ≤ b) (h : jad G a = jad G b) : a = b := by
  match a, b, ha, hb with
  | k + 2, j + 2, _, _ =>
    have h2 : (jH0 G).size + k = (jH0 G).size + j := h
    omega
/-- the locals -/
def jL (G : jG) (ls : Array Slot) (nL : Nat) (L : List (Option Value)) : Prop := ls.size = nL ∧ L.length ≤ nL ∧ lv_wf ls ∧ ∀ (i : Nat) (v : Value), L[i]? = some (some v) → ls[i]? = some (.val (jcv G v))
/-- writes -/
def jup {α : Type} (f : Nat → Nat → α) (a k : Nat) (x : α) : Nat → Nat → α := fun b j => if b = a ∧ j = k then x else f b j
theorem jup_ne {α : Type} {f : Nat → Nat → α} {a k b : Nat} {x : α} (h : b ≠ a) (j : Nat) : jup f a k x b j = f b j := by
  unfold jup
  rw [if_neg (fun q => h q.1)]
theorem jup_k {α : Type} {f : Nat → Nat → α} {a k j : Nat} {x : α} (h : j ≠ k) : jup f a k x a j = f a j := by
  unfold jup
  rw [if_neg (fun q => h q.2)]
theorem jup_eq {α : Type} {f : Nat → Nat → α} {a k : Nat} {x : α} : jup f a k x a k = x := by
  unfold jup
  rw [if_pos ⟨rfl, rfl⟩]
/-- a cell that isn't written stays -/
theorem jcell_kept {G : jG} {r : jS} {w w' : jW} {a : Nat} {H H' : Heap} (h : jcell G r w a H) (hq : H'[jad G a]? = H[jad G a]?) (h1 : ∀ k, w'.1 a k = w.1 a k) (h2 : ∀ k, w'.2 a k = w.2 a k) : jcell G r w' a H' := by
  refine ⟨fun k => ?_, fun k => ?_, fun k => ?_⟩
  · have := h.1 k
    unfold jobj at this ⊢
    simp only [h1, h2]
    exact this.kept hq
  · have := h.2.1 k
    unfold jari at this ⊢
    simp only [h1]
    rw [hq]; exact this
  · have := h.2.2 k
    unfold jarl at this ⊢
    simp only [h2]
    rw [hq]; exact this
theorem jWd.put {G : jG} {r : jS} {w w' : jW} {a : Nat} {H H' : Heap} (h : jWd G r w H) (hk : jSk r a < 90) (hz : H'.size = H.size) (hq : ∀ q, q ≠ jad G a → H'[q]? = H[q]?) (h1 : ∀ b, b ≠ a → ∀ k, w'.1 b k = w.1 b k) (h2 : ∀ b, b ≠ a → ∀ k, w'.2 b k = w.2 b k) (hc : jcell G r w' a H') : jWd G r w' H' := by
  obtain ⟨g1, g2, g3, g4⟩ := h
  have ha := g3 a hk
  refine ⟨hz.trans g1, fun q hl => ?_, g3, fun b hb => ?_⟩
  · rw [hq q (fun e => ?_)]
    · exact g2 q hl
    · have := jad_ge (G := G) ha.1
      omega
  · by_cases e : b = a
    · subst e; exact hc
    · exact jcell_kept (g4 b hb) (hq _ (fun z => e (jad_inj (g3 b hb).1 ha.1 z))) (h1 b e) (h2 b e)
/-- a method: its name, code, locals, answer -/
abbrev jM : Type := MethodName × ByteArray × Nat × Option FieldType
def jTs (y : jM) : List Cond := .code y.1 y.2.1 y.2.2.1 y.2.2.2 :: jTbl
theorem jTs_in {y : jM} {w : Cond} (h : w ∈ jTbl) : w ∈ jTs y := List.mem_cons_of_mem _ h
def jQ (G : jG) (res : Option Value × jS × jW) : Array Value → State → Outcome → State → Prop := fun _ _ o t => o = .returned (res.1.map (jcv G)) ∧ jWd G res.2.1 res.2.2 t.heap
/-- FROM HERE THE METHOD ENDS WITH res: at pc, with locals L, stack st, world w, c0 cells of s0 slots made so far, mc of ms by the end -/
def Ev (l : Launch) (G : jG) (R : Room) (y : jM) (res : Option Value × jS × jW) (mc ms c0 s0 : Nat) (pc : Nat) (L : List (Option Value)) (st : List Value) (r : jS) (w : jW) : Prop :=
  ∀ (p : Program) (e : Env) (s : State) (m : MethodId) (args : Array Value) (below : List Frame) (meth : Method) (c : Code) (H : Heap) (locs : List Loc) (ls : Array Slot),
    p.tables.exec = Jvm.exec → c.code = y.2.1 → c.maxLocals = y.2.2.1 → meth.sig.returnType = y.2.2.2 → meth.locks = false → s.vm.findClass y.1.cls = some m.cls → (∀ x ∈ jTs y, x.before args s = true) → meth.name = y.1.name → jK G s → jWd G r w H → (∀ q ∈ locs, (jH0 G).size ≤ q.base) → jL G ls y.2.2.1 L →
    W p l e R s m args below meth c H locs c0 s0 (MQ below (jQ G res) args s mc ms (fun q => (jH0 G).size ≤ q)) (F0 m pc ls (st.map (jcv G)))

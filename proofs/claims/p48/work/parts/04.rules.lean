section JE
variable {l : Launch} {G : jG} {R : Room} {y : jM} {res : Option Value × jS × jW} {mc ms c0 s0 : Nat} {pc : Nat} {L : List (Option Value)} {st : List Value} {r : jS} {w : jW}
/-- the locals: a store -/
def jclr (L : List (Option Value)) : Nat → List (Option Value)
  | 0 => L
  | i + 1 => match L[i]? with
    | some (some (.long _)) => L.set i none
    | some (some (.double _)) => L.set i none
    | _ => L
def jset1 (L : List (Option Value)) (i : Nat) (v : Value) : List (Option Value) := (jclr L i).set i (some v)
def jset2 (L : List (Option Value)) (i : Nat) (v : Value) : List (Option Value) := ((jclr L i).set i (some v)).set (i + 1) none
theorem jcv_cat (v : Value) : (jcv G v).category = v.category := by cases v <;> rfl
theorem jclr_len (i : Nat) : (jclr L i).length = L.length := by
  cases i with
  | zero => rfl
  | succ i => simp only [jclr]; split <;> simp
theorem jclr_get {i j : Nat} {v : Value} (h : (jclr L i)[j]? = some (some v)) : L[j]? = some (some v) ∧ ¬ (j + 1 = i ∧ v.category = 2) := by
  cases i with
  | zero => exact ⟨h, by omega⟩
  | succ i =>
    simp only [jclr] at h
    split at h
    · rename_i u hu
      by_cases e : i = j
      · subst e
        rw [List.getElem?_set_self (List.getElem?_eq_some_iff.mp hu).1] at h
        cases h
      · rw [List.getElem?_set_ne e] at h
        exact ⟨h, fun q => e (by omega)⟩
    · rename_i u hu
      by_cases e : i = j
      · subst e
        rw [List.getElem?_set_self (List.getElem?_eq_some_iff.mp hu).1] at h
        cases h
      · rw [List.getElem?_set_ne e] at h
        exact ⟨h, fun q => e (by omega)⟩
    · rename_i h1 h2
      refine ⟨h, fun q => ?_⟩
      have e : j = i := by omega
      subst e
      cases v with
      | long x => exact h1 x h
      | double x => exact h2 x h
      | _ => exact absurd q.2 (by simp [Value.category])
def jlist (G : jG) (L : List (Option Value)) : List (Nat × Value) := (List.range L.length).filterMap fun i => match L[i]? with
  | some (some v) => some (i, jcv G v)
  | _ => none
theorem jlist_mem {i : Nat} {v : Value} (h : L[i]? = some (some v)) : (i, jcv G v) ∈ jlist G L := by
  refine List.mem_filterMap.mpr ⟨i, List.mem_range.mpr (List.getElem?_eq_some_iff.mp h).1, ?_⟩
  rw [h]
theorem jL.has {ls : Array Slot} {nL : Nat} (h : jL G ls nL L) : lv_has ls nL (jlist G L) := by
  obtain ⟨h1, -, h2, h3⟩ := h
  refine ⟨h1, h2, fun q hq => ?_⟩
  obtain ⟨i, -, hi⟩ := List.mem_filterMap.mp hq
  split at hi
  · rename_i v hv
    cases hi
    exact h3 i v hv
  · cases hi
theorem jL_store1 {ls ls' : Array Slot} {nL i : Nat} {v : Value} (h : jL G ls nL L) (h' : lv_has ls' nL ((i, jcv G v) :: (jlist G L).filter (fun q => !(q.1 == i) && !(q.1 + 1 == i && q.2.category == 2)))) : jL G ls' nL (jset1 L i v) := by
  refine ⟨h'.1, ?_, h'.2.1, fun j u hj => ?_⟩
  · unfold jset1
    rw [List.length_set, jclr_len]; exact h.2.1
  · unfold jset1 at hj
    by_cases e : i = j
    · subst e
      have hlt : i < (jclr L i).length := by
        have := (List.getElem?_eq_some_iff.mp hj).1
        rwa [List.length_set] at this
      rw [List.getElem?_set_self hlt] at hj
      cases hj
      exact h'.2.2 _ List.mem_cons_self
    · rw [List.getElem?_set_ne e] at hj
      obtain ⟨h1, h2⟩ := jclr_get hj
      refine h'.2.2 (j, jcv G u) (List.mem_cons_of_mem _ (List.mem_filter.mpr ⟨jlist_mem h1, ?_⟩))
      have e1 : (j == i) = false := by simp; omega
      have e2 : (j + 1 == i && (jcv G u).category == 2) = false := by
        rw [jcv_cat]
        cases hz : (j + 1 == i && u.category == 2) with
        | false => rfl
        | true =>
          simp only [Bool.and_eq_true, beq_iff_eq] at hz
          exact absurd hz h2
      simp only [e1, e2]; rfl
theorem jL_store2 {ls ls' : Array Slot} {nL i : Nat} {v : Value} (h : jL G ls nL L) (h' : lv_has ls' nL ((i, jcv G v) :: (jlist G L).filter (fun q => !(q.1 == i) && (!(q.1 == i + 1) && !(q.1 + 1 == i && q.2.category == 2))))) : jL G ls' nL (jset2 L i v) := by
  refine ⟨h'.1, ?_, h'.2.1, fun j u hj => ?_⟩
  · unfold jset2
    rw [List.length_set, List.length_set, jclr_len]; exact h.2.1
  · unfold jset2 at hj
    by_cases e1 : i + 1 = j
    · subst e1
      have hlt : i + 1 < ((jclr L i).set i (some v)).length := by
        have := (List.getElem?_eq_some_iff.mp hj).1
        rwa [List.length_set] at this
      rw [List.getElem?_set_self hlt] at hj
      cases hj
    · rw [List.getElem?_set_ne e1] at hj
      by_cases e : i = j
      · subst e
        have hlt : i < (jclr L i).length := by
          have := (List.getElem?_eq_some_iff.mp hj).1
          rwa [List.length_set] at this
        rw [List.getElem?_set_self hlt] at hj
        cases hj
        exact h'.2.2 _ List.mem_cons_self
      · rw [List.getElem?_set_ne e] at hj
        obtain ⟨h1, h2⟩ := jclr_get hj
        refine h'.2.2 (j, jcv G u) (List.mem_cons_of_mem _ (List.mem_filter.mpr ⟨jlist_mem h1, ?_⟩))
        have q1 : (j == i) = false := by simp; omega
        have q2 : (j == i + 1) = false := by simp; omega
        have q3 : (j + 1 == i && (jcv G u).category == 2) = false := by
          rw [jcv_cat]
          cases hz : (j + 1 == i && u.category == 2) with
          | false => rfl
          | true =>
            simp only [Bool.and_eq_true, beq_iff_eq] at hz
            exact absurd hz h2
        simp only [q1, q2, q3]; rfl

theorem ev_iadd {a b : Int32} (hd : decode y.2.1 pc = .ok (.iadd, 1)) (k : Ev l G R y res mc ms c0 s0 (pc + 1) L (.int (a + b) :: st) r w) : Ev l G R y res mc ms c0 s0 pc L (.int b :: .int a :: st) r w := by
  intro p e s m args below meth c H locs ls hx hb hn hr hlk ho hts hnm hK hW hlo hL
  exact lv_iadd hx hb hd  (k p e s m args below meth c H locs ls hx hb hn hr hlk ho hts hnm hK hW hlo hL)
theorem ev_isub {a b : Int32} (hd : decode y.2.1 pc = .ok (.isub, 1)) (k : Ev l G R y res mc ms c0 s0 (pc + 1) L (.int (a - b) :: st) r w) : Ev l G R y res mc ms c0 s0 pc L (.int b :: .int a :: st) r w := by
  intro p e s m args below meth c H locs ls hx hb hn hr hlk ho hts hnm hK hW hlo hL
  exact lv_isub hx hb hd  (k p e s m args below meth c H locs ls hx hb hn hr hlk ho hts hnm hK hW hlo hL)
theorem ev_imul {a b : Int32} (hd : decode y.2.1 pc = .ok (.imul, 1)) (k : Ev l G R y res mc ms c0 s0 (pc + 1) L (.int (a * b) :: st) r w) : Ev l G R y res mc ms c0 s0 pc L (.int b :: .int a :: st) r w := by
  intro p e s m args below meth c H locs ls hx hb hn hr hlk ho hts hnm hK hW hlo hL
  exact lv_imul hx hb hd  (k p e s m args below meth c H locs ls hx hb hn hr hlk ho hts hnm hK hW hlo hL)
theorem ev_iand {a b : Int32} (hd : decode y.2.1 pc = .ok (.iand, 1)) (k : Ev l G R y res mc ms c0 s0 (pc + 1) L (.int (a &&& b) :: st) r w) : Ev l G R y res mc ms c0 s0 pc L (.int b :: .int a :: st) r w := by
  intro p e s m args below meth c H locs ls hx hb hn hr hlk ho hts hnm hK hW hlo hL
  exact lv_iand hx hb hd  (k p e s m args below meth c H locs ls hx hb hn hr hlk ho hts hnm hK hW hlo hL)
theorem ev_ior {a b : Int32} (hd : decode y.2.1 pc = .ok (.ior, 1)) (k : Ev l G R y res mc ms c0 s0 (pc + 1) L (.int (a ||| b) :: st) r w) : Ev l G R y res mc ms c0 s0 pc L (.int b :: .int a :: st) r w := by
  intro p e s m args below meth c H locs ls hx hb hn hr hlk ho hts hnm hK hW hlo hL
  exact lv_ior hx hb hd  (k p e s m args below meth c H locs ls hx hb hn hr hlk ho hts hnm hK hW hlo hL)
theorem ev_ixor {a b : Int32} (hd : decode y.2.1 pc = .ok (.ixor, 1)) (k : Ev l G R y res mc ms c0 s0 (pc + 1) L (.int (a ^^^ b) :: st) r w) : Ev l G R y res mc ms c0 s0 pc L (.int b :: .int a :: st) r w := by
  intro p e s m args below meth c H locs ls hx hb hn hr hlk ho hts hnm hK hW hlo hL
  exact lv_ixor hx hb hd  (k p e s m args below meth c H locs ls hx hb hn hr hlk ho hts hnm hK hW hlo hL)
theorem ev_ishl {a b : Int32} (hd : decode y.2.1 pc = .ok (.ishl, 1)) (k : Ev l G R y res mc ms c0 s0 (pc + 1) L (.int (a <<< (b &&& 31)) :: st) r w) : Ev l G R y res mc ms c0 s0 pc L (.int b :: .int a :: st) r w := by
  intro p e s m args below meth c H locs ls hx hb hn hr hlk ho hts hnm hK hW hlo hL
  exact lv_ishl hx hb hd  (k p e s m args below meth c H locs ls hx hb hn hr hlk ho hts hnm hK hW hlo hL)
theorem ev_ishr {a b : Int32} (hd : decode y.2.1 pc = .ok (.ishr, 1)) (k : Ev l G R y res mc ms c0 s0 (pc + 1) L (.int (a >>> (b &&& 31)) :: st) r w) : Ev l G R y res mc ms c0 s0 pc L (.int b :: .int a :: st) r w := by
  intro p e s m args below meth c H locs ls hx hb hn hr hlk ho hts hnm hK hW hlo hL
  exact lv_ishr hx hb hd  (k p e s m args below meth c H locs ls hx hb hn hr hlk ho hts hnm hK hW hlo hL)
theorem ev_idiv {a b : Int32} (hne : ¬ b = 0) (hd : decode y.2.1 pc = .ok (.idiv, 1)) (k : Ev l G R y res mc ms c0 s0 (pc + 1) L (.int (a / b) :: st) r w) : Ev l G R y res mc ms c0 s0 pc L (.int b :: .int a :: st) r w := by
  intro p e s m args below meth c H locs ls hx hb hn hr hlk ho hts hnm hK hW hlo hL
  exact lv_idiv hx hb hd hne (k p e s m args below meth c H locs ls hx hb hn hr hlk ho hts hnm hK hW hlo hL)
theorem ev_irem {a b : Int32} (hne : ¬ b = 0) (hd : decode y.2.1 pc = .ok (.irem, 1)) (k : Ev l G R y res mc ms c0 s0 (pc + 1) L (.int (a - a / b * b) :: st) r w) : Ev l G R y res mc ms c0 s0 pc L (.int b :: .int a :: st) r w := by
  intro p e s m args below meth c H locs ls hx hb hn hr hlk ho hts hnm hK hW hlo hL
  exact lv_irem hx hb hd hne (k p e s m args below meth c H locs ls hx hb hn hr hlk ho hts hnm hK hW hlo hL)
theorem ev_ladd {a b : Int64} (hd : decode y.2.1 pc = .ok (.ladd, 1)) (k : Ev l G R y res mc ms c0 s0 (pc + 1) L (.long (a + b) :: st) r w) : Ev l G R y res mc ms c0 s0 pc L (.long b :: .long a :: st) r w := by
  intro p e s m args below meth c H locs ls hx hb hn hr hlk ho hts hnm hK hW hlo hL
  exact lv_ladd hx hb hd  (k p e s m args below meth c H locs ls hx hb hn hr hlk ho hts hnm hK hW hlo hL)
theorem ev_lsub {a b : Int64} (hd : decode y.2.1 pc = .ok (.lsub, 1)) (k : Ev l G R y res mc ms c0 s0 (pc + 1) L (.long (a - b) :: st) r w) : Ev l G R y res mc ms c0 s0 pc L (.long b :: .long a :: st) r w := by
  intro p e s m args below meth c H locs ls hx hb hn hr hlk ho hts hnm hK hW hlo hL
  exact lv_lsub hx hb hd  (k p e s m args below meth c H locs ls hx hb hn hr hlk ho hts hnm hK hW hlo hL)
theorem ev_lmul {a b : Int64} (hd : decode y.2.1 pc = .ok (.lmul, 1)) (k : Ev l G R y res mc ms c0 s0 (pc + 1) L (.long (a * b) :: st) r w) : Ev l G R y res mc ms c0 s0 pc L (.long b :: .long a :: st) r w := by
  intro p e s m args below meth c H locs ls hx hb hn hr hlk ho hts hnm hK hW hlo hL
  exact lv_lmul hx hb hd  (k p e s m args below meth c H locs ls hx hb hn hr hlk ho hts hnm hK hW hlo hL)
theorem ev_land {a b : Int64} (hd : decode y.2.1 pc = .ok (.land, 1)) (k : Ev l G R y res mc ms c0 s0 (pc + 1) L (.long (a &&& b) :: st) r w) : Ev l G R y res mc ms c0 s0 pc L (.long b :: .long a :: st) r w := by
  intro p e s m args below meth c H locs ls hx hb hn hr hlk ho hts hnm hK hW hlo hL
  exact lv_land hx hb hd  (k p e s m args below meth c H locs ls hx hb hn hr hlk ho hts hnm hK hW hlo hL)
theorem ev_lor {a b : Int64} (hd : decode y.2.1 pc = .ok (.lor, 1)) (k : Ev l G R y res mc ms c0 s0 (pc + 1) L (.long (a ||| b) :: st) r w) : Ev l G R y res mc ms c0 s0 pc L (.long b :: .long a :: st) r w := by
  intro p e s m args below meth c H locs ls hx hb hn hr hlk ho hts hnm hK hW hlo hL
  exact lv_lor hx hb hd  (k p e s m args below meth c H locs ls hx hb hn hr hlk ho hts hnm hK hW hlo hL)
theorem ev_lxor {a b : Int64} (hd : decode y.2.1 pc = .ok (.lxor, 1)) (k : Ev l G R y res mc ms c0 s0 (pc + 1) L (.long (a ^^^ b) :: st) r w) : Ev l G R y res mc ms c0 s0 pc L (.long b :: .long a :: st) r w := by
  intro p e s m args below meth c H locs ls hx hb hn hr hlk ho hts hnm hK hW hlo hL
  exact lv_lxor hx hb hd  (k p e s m args below meth c H locs ls hx hb hn hr hlk ho hts hnm hK hW hlo hL)
theorem ev_ldiv {a b : Int64} (hne : ¬ b = 0) (hd : decode y.2.1 pc = .ok (.ldiv, 1)) (k : Ev l G R y res mc ms c0 s0 (pc + 1) L (.long (a / b) :: st) r w) : Ev l G R y res mc ms c0 s0 pc L (.long b :: .long a :: st) r w := by
  intro p e s m args below meth c H locs ls hx hb hn hr hlk ho hts hnm hK hW hlo hL
  exact lv_ldiv hx hb hd hne (k p e s m args below meth c H locs ls hx hb hn hr hlk ho hts hnm hK hW hlo hL)
theorem ev_lrem {a b : Int64} (hne : ¬ b = 0) (hd : decode y.2.1 pc = .ok (.lrem, 1)) (k : Ev l G R y res mc ms c0 s0 (pc + 1) L (.long (a - a / b * b) :: st) r w) : Ev l G R y res mc ms c0 s0 pc L (.long b :: .long a :: st) r w := by
  intro p e s m args below meth c H locs ls hx hb hn hr hlk ho hts hnm hK hW hlo hL
  exact lv_lrem hx hb hd hne (k p e s m args below meth c H locs ls hx hb hn hr hlk ho hts hnm hK hW hlo hL)
theorem ev_lshl {a : Int64} {b : Int32} (hd : decode y.2.1 pc = .ok (.lshl, 1)) (k : Ev l G R y res mc ms c0 s0 (pc + 1) L (.long (a <<< (b.toInt64 &&& 63)) :: st) r w) : Ev l G R y res mc ms c0 s0 pc L (.int b :: .long a :: st) r w := by
  intro p e s m args below meth c H locs ls hx hb hn hr hlk ho hts hnm hK hW hlo hL
  exact lv_lshl hx hb hd rfl (k p e s m args below meth c H locs ls hx hb hn hr hlk ho hts hnm hK hW hlo hL)
theorem ev_lshr {a : Int64} {b : Int32} (hd : decode y.2.1 pc = .ok (.lshr, 1)) (k : Ev l G R y res mc ms c0 s0 (pc + 1) L (.long (a >>> (b.toInt64 &&& 63)) :: st) r w) : Ev l G R y res mc ms c0 s0 pc L (.int b :: .long a :: st) r w := by
  intro p e s m args below meth c H locs ls hx hb hn hr hlk ho hts hnm hK hW hlo hL
  exact lv_lshr hx hb hd rfl (k p e s m args below meth c H locs ls hx hb hn hr hlk ho hts hnm hK hW hlo hL)
theorem ev_lushr {a : Int64} {b : Int32} (hd : decode y.2.1 pc = .ok (.lushr, 1)) (k : Ev l G R y res mc ms c0 s0 (pc + 1) L (.long ((a.toUInt64 >>> (b.toInt64.toUInt64 &&& Int64.toUInt64 63)).toInt64) :: st) r w) : Ev l G R y res mc ms c0 s0 pc L (.int b :: .long a :: st) r w := by
  intro p e s m args below meth c H locs ls hx hb hn hr hlk ho hts hnm hK hW hlo hL
  exact lv_lushr hx hb hd rfl (k p e s m args below meth c H locs ls hx hb hn hr hlk ho hts hnm hK hW hlo hL)
theorem ev_i2l {a : Int32} (hd : decode y.2.1 pc = .ok (.i2l, 1)) (k : Ev l G R y res mc ms c0 s0 (pc + 1) L (.long a.toInt64 :: st) r w) : Ev l G R y res mc ms c0 s0 pc L (.int a :: st) r w := by
  intro p e s m args below meth c H locs ls hx hb hn hr hlk ho hts hnm hK hW hlo hL
  exact lv_i2l hx hb hd rfl (k p e s m args below meth c H locs ls hx hb hn hr hlk ho hts hnm hK hW hlo hL)
theorem ev_l2i {a : Int64} (hd : decode y.2.1 pc = .ok (.l2i, 1)) (k : Ev l G R y res mc ms c0 s0 (pc + 1) L (.int a.toInt32 :: st) r w) : Ev l G R y res mc ms c0 s0 pc L (.long a :: st) r w := by
  intro p e s m args below meth c H locs ls hx hb hn hr hlk ho hts hnm hK hW hlo hL
  exact lv_l2i hx hb hd rfl (k p e s m args below meth c H locs ls hx hb hn hr hlk ho hts hnm hK hW hlo hL)
theorem ev_iushr {a b : Int32} (hd : decode y.2.1 pc = .ok (.iushr, 1)) (k : Ev l G R y res mc ms c0 s0 (pc + 1) L (.int ((a.toUInt32 >>> (b.toUInt32 &&& Int32.toUInt32 31)).toInt32) :: st) r w) : Ev l G R y res mc ms c0 s0 pc L (.int b :: .int a :: st) r w := by
  intro p e s m args below meth c H locs ls hx hb hn hr hlk ho hts hnm hK hW hlo hL
  exact lv_iushr hx hb hd rfl (k p e s m args below meth c H locs ls hx hb hn hr hlk ho hts hnm hK hW hlo hL)
theorem ev_ineg {a : Int32} (hd : decode y.2.1 pc = .ok (.ineg, 1)) (k : Ev l G R y res mc ms c0 s0 (pc + 1) L (.int (0 - a) :: st) r w) : Ev l G R y res mc ms c0 s0 pc L (.int a :: st) r w := by
  intro p e s m args below meth c H locs ls hx hb hn hr hlk ho hts hnm hK hW hlo hL
  exact lv_ineg hx hb hd  (k p e s m args below meth c H locs ls hx hb hn hr hlk ho hts hnm hK hW hlo hL)
theorem ev_lcmp {a b : Int64} (hd : decode y.2.1 pc = .ok (.lcmp, 1)) (k : Ev l G R y res mc ms c0 s0 (pc + 1) L (.int (lg_cmp a b) :: st) r w) : Ev l G R y res mc ms c0 s0 pc L (.long b :: .long a :: st) r w := by
  intro p e s m args below meth c H locs ls hx hb hn hr hlk ho hts hnm hK hW hlo hL
  exact W.lcmp hx hb hd  (k p e s m args below meth c H locs ls hx hb hn hr hlk ho hts hnm hK hW hlo hL)
theorem jcv_c1 {v : Value} (h : v.category = 1) : (jcv G v).category = 1 := by rw [jcv_cat]; exact h
theorem jcv_c2 {v : Value} (h : v.category = 2) : (jcv G v).category = 2 := by rw [jcv_cat]; exact h
theorem ev_dup {v : Value} (hv : v.category = 1) (hd : decode y.2.1 pc = .ok (.dup, 1)) (k : Ev l G R y res mc ms c0 s0 (pc + 1) L (v :: v :: st) r w) : Ev l G R y res mc ms c0 s0 pc L (v :: st) r w := by
  intro p e s m args below meth c H locs ls hx hb hn hr hlk ho hts hnm hK hW hlo hL
  exact lv_dup hx hb hd (jcv_c1 hv) (k p e s m args below meth c H locs ls hx hb hn hr hlk ho hts hnm hK hW hlo hL)
theorem ev_pop {v : Value} (hv : v.category = 1) (hd : decode y.2.1 pc = .ok (.pop, 1)) (k : Ev l G R y res mc ms c0 s0 (pc + 1) L (st) r w) : Ev l G R y res mc ms c0 s0 pc L (v :: st) r w := by
  intro p e s m args below meth c H locs ls hx hb hn hr hlk ho hts hnm hK hW hlo hL
  exact lv_pop hx hb hd (jcv_c1 hv) (k p e s m args below meth c H locs ls hx hb hn hr hlk ho hts hnm hK hW hlo hL)
theorem ev_dup2_11 {v u : Value} (hv : v.category = 1) (hu : u.category = 1) (hd : decode y.2.1 pc = .ok (.dup2, 1)) (k : Ev l G R y res mc ms c0 s0 (pc + 1) L (v :: u :: v :: u :: st) r w) : Ev l G R y res mc ms c0 s0 pc L (v :: u :: st) r w := by
  intro p e s m args below meth c H locs ls hx hb hn hr hlk ho hts hnm hK hW hlo hL
  exact lv_dup2_11 hx hb hd (jcv_c1 hv) (jcv_c1 hu) (k p e s m args below meth c H locs ls hx hb hn hr hlk ho hts hnm hK hW hlo hL)
theorem ev_dup2_2 {v : Value} (hv : v.category = 2) (hd : decode y.2.1 pc = .ok (.dup2, 1)) (k : Ev l G R y res mc ms c0 s0 (pc + 1) L (v :: v :: st) r w) : Ev l G R y res mc ms c0 s0 pc L (v :: st) r w := by
  intro p e s m args below meth c H locs ls hx hb hn hr hlk ho hts hnm hK hW hlo hL
  exact lv_dup2_2 hx hb hd (jcv_c2 hv) (k p e s m args below meth c H locs ls hx hb hn hr hlk ho hts hnm hK hW hlo hL)
theorem ev_dup_x1 {v u : Value} (hv : v.category = 1) (hu : u.category = 1) (hd : decode y.2.1 pc = .ok (.dup_x1, 1)) (k : Ev l G R y res mc ms c0 s0 (pc + 1) L (v :: u :: v :: st) r w) : Ev l G R y res mc ms c0 s0 pc L (v :: u :: st) r w := by
  intro p e s m args below meth c H locs ls hx hb hn hr hlk ho hts hnm hK hW hlo hL
  exact lv_dup_x1 hx hb hd (jcv_c1 hv) (jcv_c1 hu) (k p e s m args below meth c H locs ls hx hb hn hr hlk ho hts hnm hK hW hlo hL)
theorem ev_iconst {n : Int} {v : Int32} (hv : Int32.ofInt n = v) (hd : decode y.2.1 pc = .ok (.iconst n, 1)) (k : Ev l G R y res mc ms c0 s0 (pc + 1) L (.int v :: st) r w) : Ev l G R y res mc ms c0 s0 pc L (st) r w := by
  intro p e s m args below meth c H locs ls hx hb hn hr hlk ho hts hnm hK hW hlo hL
  exact lv_iconst hx hb hd hv (k p e s m args below meth c H locs ls hx hb hn hr hlk ho hts hnm hK hW hlo hL)
theorem ev_bipush {n : Int} {v : Int32} (hv : (Int8.ofInt n).toInt32 = v) (hd : decode y.2.1 pc = .ok (.bipush n, 2)) (k : Ev l G R y res mc ms c0 s0 (pc + 2) L (.int v :: st) r w) : Ev l G R y res mc ms c0 s0 pc L (st) r w := by
  intro p e s m args below meth c H locs ls hx hb hn hr hlk ho hts hnm hK hW hlo hL
  exact lv_bipush hx hb hd hv (k p e s m args below meth c H locs ls hx hb hn hr hlk ho hts hnm hK hW hlo hL)
theorem ev_sipush {n : Int} {v : Int32} (hv : (Int16.ofInt n).toInt32 = v) (hd : decode y.2.1 pc = .ok (.sipush n, 3)) (k : Ev l G R y res mc ms c0 s0 (pc + 3) L (.int v :: st) r w) : Ev l G R y res mc ms c0 s0 pc L (st) r w := by
  intro p e s m args below meth c H locs ls hx hb hn hr hlk ho hts hnm hK hW hlo hL
  exact lv_sipush hx hb hd hv (k p e s m args below meth c H locs ls hx hb hn hr hlk ho hts hnm hK hW hlo hL)
theorem ev_lconst {n : Fin 2} {v : Int64} (hv : Int64.ofNat (n : Nat) = v) (hd : decode y.2.1 pc = .ok (.lconst n, 1)) (k : Ev l G R y res mc ms c0 s0 (pc + 1) L (.long v :: st) r w) : Ev l G R y res mc ms c0 s0 pc L (st) r w := by
  intro p e s m args below meth c H locs ls hx hb hn hr hlk ho hts hnm hK hW hlo hL
  exact lv_lconst hx hb hd hv (k p e s m args below meth c H locs ls hx hb hn hr hlk ho hts hnm hK hW hlo hL)
theorem ev_iload_n {n : Fin 4} {i : Nat} {x : Int32} (hi : (n : Nat) = i) (hl : L[i]? = some (some (.int x))) (hd : decode y.2.1 pc = .ok (.iload_n n, 1)) (k : Ev l G R y res mc ms c0 s0 (pc + 1) L (.int x :: st) r w) : Ev l G R y res mc ms c0 s0 pc L (st) r w := by
  intro p e s m args below meth c H locs ls hx hb hn hr hlk ho hts hnm hK hW hlo hL
  exact lv_iload_n hx hb hd hi (hL.2.2.2 _ _ hl) (k p e s m args below meth c H locs ls hx hb hn hr hlk ho hts hnm hK hW hlo hL)
theorem ev_iload {i : Nat} {x : Int32} (hl : L[i]? = some (some (.int x))) (hd : decode y.2.1 pc = .ok (.iload i, 2)) (k : Ev l G R y res mc ms c0 s0 (pc + 2) L (.int x :: st) r w) : Ev l G R y res mc ms c0 s0 pc L (st) r w := by
  intro p e s m args below meth c H locs ls hx hb hn hr hlk ho hts hnm hK hW hlo hL
  exact lv_iload hx hb hd (hL.2.2.2 _ _ hl) (k p e s m args below meth c H locs ls hx hb hn hr hlk ho hts hnm hK hW hlo hL)
theorem ev_lload_n {n : Fin 4} {i : Nat} {x : Int64} (hi : (n : Nat) = i) (hl : L[i]? = some (some (.long x))) (hd : decode y.2.1 pc = .ok (.lload_n n, 1)) (k : Ev l G R y res mc ms c0 s0 (pc + 1) L (.long x :: st) r w) : Ev l G R y res mc ms c0 s0 pc L (st) r w := by
  intro p e s m args below meth c H locs ls hx hb hn hr hlk ho hts hnm hK hW hlo hL
  exact lv_lload_n hx hb hd hi (hL.2.2.2 _ _ hl) (k p e s m args below meth c H locs ls hx hb hn hr hlk ho hts hnm hK hW hlo hL)
theorem ev_lload {i : Nat} {x : Int64} (hl : L[i]? = some (some (.long x))) (hd : decode y.2.1 pc = .ok (.lload i, 2)) (k : Ev l G R y res mc ms c0 s0 (pc + 2) L (.long x :: st) r w) : Ev l G R y res mc ms c0 s0 pc L (st) r w := by
  intro p e s m args below meth c H locs ls hx hb hn hr hlk ho hts hnm hK hW hlo hL
  exact lv_lload hx hb hd (hL.2.2.2 _ _ hl) (k p e s m args below meth c H locs ls hx hb hn hr hlk ho hts hnm hK hW hlo hL)
theorem ev_aload_n {n : Fin 4} {i : Nat} {x : Nat} (hi : (n : Nat) = i) (hl : L[i]? = some (some (.ref x))) (hd : decode y.2.1 pc = .ok (.aload_n n, 1)) (k : Ev l G R y res mc ms c0 s0 (pc + 1) L (.ref x :: st) r w) : Ev l G R y res mc ms c0 s0 pc L (st) r w := by
  intro p e s m args below meth c H locs ls hx hb hn hr hlk ho hts hnm hK hW hlo hL
  exact lv_aload_n hx hb hd hi (hL.2.2.2 _ _ hl) (k p e s m args below meth c H locs ls hx hb hn hr hlk ho hts hnm hK hW hlo hL)
theorem ev_aload {i : Nat} {x : Nat} (hl : L[i]? = some (some (.ref x))) (hd : decode y.2.1 pc = .ok (.aload i, 2)) (k : Ev l G R y res mc ms c0 s0 (pc + 2) L (.ref x :: st) r w) : Ev l G R y res mc ms c0 s0 pc L (st) r w := by
  intro p e s m args below meth c H locs ls hx hb hn hr hlk ho hts hnm hK hW hlo hL
  exact lv_aload hx hb hd (hL.2.2.2 _ _ hl) (k p e s m args below meth c H locs ls hx hb hn hr hlk ho hts hnm hK hW hlo hL)
theorem ev_istore_n {n : Fin 4} {i : Nat} {x : Int32} (hi : (n : Nat) = i) (hd : decode y.2.1 pc = .ok (.istore_n n, 1)) (hlt : i < y.2.2.1) (k : Ev l G R y res mc ms c0 s0 (pc + 1) (jset1 L i (.int x)) st r w) : Ev l G R y res mc ms c0 s0 pc L (.int x :: st) r w := by
  intro p e s m args below meth c H locs ls hx hb hn hr hlk ho hts hnm hK hW hlo hL
  exact lv_istore_n hx hb hd hi hL.has hlt rfl (fun ls2 h2 => k p e s m args below meth c H locs ls2 hx hb hn hr hlk ho hts hnm hK hW hlo (jL_store1 (v := .int x) hL h2))
theorem ev_istore {i : Nat} {x : Int32} (hd : decode y.2.1 pc = .ok (.istore i, 2)) (hlt : i < y.2.2.1) (k : Ev l G R y res mc ms c0 s0 (pc + 2) (jset1 L i (.int x)) st r w) : Ev l G R y res mc ms c0 s0 pc L (.int x :: st) r w := by
  intro p e s m args below meth c H locs ls hx hb hn hr hlk ho hts hnm hK hW hlo hL
  exact lv_istore hx hb hd  hL.has hlt rfl (fun ls2 h2 => k p e s m args below meth c H locs ls2 hx hb hn hr hlk ho hts hnm hK hW hlo (jL_store1 (v := .int x) hL h2))
theorem ev_lstore_n {n : Fin 4} {i : Nat} {x : Int64} (hi : (n : Nat) = i) (hd : decode y.2.1 pc = .ok (.lstore_n n, 1)) (hlt : i + 1 < y.2.2.1) (k : Ev l G R y res mc ms c0 s0 (pc + 1) (jset2 L i (.long x)) st r w) : Ev l G R y res mc ms c0 s0 pc L (.long x :: st) r w := by
  intro p e s m args below meth c H locs ls hx hb hn hr hlk ho hts hnm hK hW hlo hL
  exact lv_lstore_n hx hb hd hi hL.has hlt rfl (fun ls2 h2 => k p e s m args below meth c H locs ls2 hx hb hn hr hlk ho hts hnm hK hW hlo (jL_store2 (v := .long x) hL h2))
theorem ev_lstore {i : Nat} {x : Int64} (hd : decode y.2.1 pc = .ok (.lstore i, 2)) (hlt : i + 1 < y.2.2.1) (k : Ev l G R y res mc ms c0 s0 (pc + 2) (jset2 L i (.long x)) st r w) : Ev l G R y res mc ms c0 s0 pc L (.long x :: st) r w := by
  intro p e s m args below meth c H locs ls hx hb hn hr hlk ho hts hnm hK hW hlo hL
  exact lv_lstore hx hb hd  hL.has hlt rfl (fun ls2 h2 => k p e s m args below meth c H locs ls2 hx hb hn hr hlk ho hts hnm hK hW hlo (jL_store2 (v := .long x) hL h2))
theorem ev_astore_n {n : Fin 4} {i : Nat} {x : Nat} (hi : (n : Nat) = i) (hd : decode y.2.1 pc = .ok (.astore_n n, 1)) (hlt : i < y.2.2.1) (k : Ev l G R y res mc ms c0 s0 (pc + 1) (jset1 L i (.ref x)) st r w) : Ev l G R y res mc ms c0 s0 pc L (.ref x :: st) r w := by
  intro p e s m args below meth c H locs ls hx hb hn hr hlk ho hts hnm hK hW hlo hL
  exact lv_astore_n hx hb hd hi hL.has hlt rfl (fun ls2 h2 => k p e s m args below meth c H locs ls2 hx hb hn hr hlk ho hts hnm hK hW hlo (jL_store1 (v := .ref x) hL h2))
theorem ev_astore {i : Nat} {x : Nat} (hd : decode y.2.1 pc = .ok (.astore i, 2)) (hlt : i < y.2.2.1) (k : Ev l G R y res mc ms c0 s0 (pc + 2) (jset1 L i (.ref x)) st r w) : Ev l G R y res mc ms c0 s0 pc L (.ref x :: st) r w := by
  intro p e s m args below meth c H locs ls hx hb hn hr hlk ho hts hnm hK hW hlo hL
  exact lv_astore hx hb hd  hL.has hlt rfl (fun ls2 h2 => k p e s m args below meth c H locs ls2 hx hb hn hr hlk ho hts hnm hK hW hlo (jL_store1 (v := .ref x) hL h2))
theorem ev_iinc {i : Nat} {n : Int} {x v : Int32} (hd : decode y.2.1 pc = .ok (.iinc i n, 3)) (hl : L[i]? = some (some (.int x))) (hv : x + Int32.ofInt n = v) (hlt : i < y.2.2.1) (k : Ev l G R y res mc ms c0 s0 (pc + 3) (jset1 L i (.int v)) st r w) : Ev l G R y res mc ms c0 s0 pc L st r w := by
  intro p e s m args below meth c H locs ls hx hb hn hr hlk ho hts hnm hK hW hlo hL
  obtain ⟨kk, -, hkk⟩ : ∃ kk, True ∧ (jlist G L)[kk]? = some (i, Value.int x) := by
    obtain ⟨kk, h⟩ := List.getElem?_of_mem (jlist_mem (G := G) hl)
    exact ⟨kk, trivial, h⟩
  exact lv_iinc hx hb hd hL.has hkk hv hlt rfl (fun ls2 h2 => k p e s m args below meth c H locs ls2 hx hb hn hr hlk ho hts hnm hK hW hlo (jL_store1 (v := .int v) hL h2))
theorem ev_ldc {o idx : Nat} {v : Int32} (hoo : y.1.cls = jcn o) (hc : Cond.constant (jcn o) idx v ∈ jTbl) (hd : decode y.2.1 pc = .ok (.ldc idx, 2)) (k : Ev l G R y res mc ms c0 s0 (pc + 2) L (.int v :: st) r w) : Ev l G R y res mc ms c0 s0 pc L (st) r w := by
  intro p e s m args below meth c H locs ls hx hb hn hr hlk ho hts hnm hK hW hlo hL
  exact lv_ldc hx hb (by rw [← hoo]; exact ho) (hts _ (jTs_in hc)) hd (k p e s m args below meth c H locs ls hx hb hn hr hlk ho hts hnm hK hW hlo hL)
theorem ev_ldc_w {o idx : Nat} {v : Int32} (hoo : y.1.cls = jcn o) (hc : Cond.constant (jcn o) idx v ∈ jTbl) (hd : decode y.2.1 pc = .ok (.ldc_w idx, 3)) (k : Ev l G R y res mc ms c0 s0 (pc + 3) L (.int v :: st) r w) : Ev l G R y res mc ms c0 s0 pc L (st) r w := by
  intro p e s m args below meth c H locs ls hx hb hn hr hlk ho hts hnm hK hW hlo hL
  exact lv_ldcw hx hb (by rw [← hoo]; exact ho) (hts _ (jTs_in hc)) hd (k p e s m args below meth c H locs ls hx hb hn hr hlk ho hts hnm hK hW hlo hL)
theorem ev_ldc2_w {o idx : Nat} {v : Int64} (hoo : y.1.cls = jcn o) (hc : Cond.constantLong (jcn o) idx v ∈ jTbl) (hd : decode y.2.1 pc = .ok (.ldc2_w idx, 3)) (k : Ev l G R y res mc ms c0 s0 (pc + 3) L (.long v :: st) r w) : Ev l G R y res mc ms c0 s0 pc L (st) r w := by
  intro p e s m args below meth c H locs ls hx hb hn hr hlk ho hts hnm hK hW hlo hL
  exact lv_ldc2 hx hb (by rw [← hoo]; exact ho) (hts _ (jTs_in hc)) hd (k p e s m args below meth c H locs ls hx hb hn hr hlk ho hts hnm hK hW hlo hL)
theorem ev_if_eq {a : Int32} {off : Int} {tgt : Nat} (hd : decode y.2.1 pc = .ok (.ifCond .eq off, 3)) (ht : (pc : Int) + off = (tgt : Int)) (kt : (a = 0) → Ev l G R y res mc ms c0 s0 tgt L st r w) (kf : ¬ (a = 0) → Ev l G R y res mc ms c0 s0 (pc + 3) L st r w) : Ev l G R y res mc ms c0 s0 pc L (.int a :: st) r w := by
  intro p e s m args below meth c H locs ls hx hb hn hr hlk ho hts hnm hK hW hlo hL
  exact lv_if_eq hx hb hd ht (fun q => kt q p e s m args below meth c H locs ls hx hb hn hr hlk ho hts hnm hK hW hlo hL) (fun q => kf q p e s m args below meth c H locs ls hx hb hn hr hlk ho hts hnm hK hW hlo hL)
theorem ev_icmp_eq {a b : Int32} {off : Int} {tgt : Nat} (hd : decode y.2.1 pc = .ok (.if_icmp .eq off, 3)) (ht : (pc : Int) + off = (tgt : Int)) (kt : (a = b) → Ev l G R y res mc ms c0 s0 tgt L st r w) (kf : ¬ (a = b) → Ev l G R y res mc ms c0 s0 (pc + 3) L st r w) : Ev l G R y res mc ms c0 s0 pc L (.int b :: .int a :: st) r w := by
  intro p e s m args below meth c H locs ls hx hb hn hr hlk ho hts hnm hK hW hlo hL
  exact lv_icmp_eq hx hb hd ht (fun q => kt q p e s m args below meth c H locs ls hx hb hn hr hlk ho hts hnm hK hW hlo hL) (fun q => kf q p e s m args below meth c H locs ls hx hb hn hr hlk ho hts hnm hK hW hlo hL)
theorem ev_if_ne {a : Int32} {off : Int} {tgt : Nat} (hd : decode y.2.1 pc = .ok (.ifCond .ne off, 3)) (ht : (pc : Int) + off = (tgt : Int)) (kt : ¬ (a = 0) → Ev l G R y res mc ms c0 s0 tgt L st r w) (kf : (a = 0) → Ev l G R y res mc ms c0 s0 (pc + 3) L st r w) : Ev l G R y res mc ms c0 s0 pc L (.int a :: st) r w := by
  intro p e s m args below meth c H locs ls hx hb hn hr hlk ho hts hnm hK hW hlo hL
  exact lv_if_ne hx hb hd ht (fun q => kt q p e s m args below meth c H locs ls hx hb hn hr hlk ho hts hnm hK hW hlo hL) (fun q => kf q p e s m args below meth c H locs ls hx hb hn hr hlk ho hts hnm hK hW hlo hL)
theorem ev_icmp_ne {a b : Int32} {off : Int} {tgt : Nat} (hd : decode y.2.1 pc = .ok (.if_icmp .ne off, 3)) (ht : (pc : Int) + off = (tgt : Int)) (kt : ¬ (a = b) → Ev l G R y res mc ms c0 s0 tgt L st r w) (kf : (a = b) → Ev l G R y res mc ms c0 s0 (pc + 3) L st r w) : Ev l G R y res mc ms c0 s0 pc L (.int b :: .int a :: st) r w := by
  intro p e s m args below meth c H locs ls hx hb hn hr hlk ho hts hnm hK hW hlo hL
  exact lv_icmp_ne hx hb hd ht (fun q => kt q p e s m args below meth c H locs ls hx hb hn hr hlk ho hts hnm hK hW hlo hL) (fun q => kf q p e s m args below meth c H locs ls hx hb hn hr hlk ho hts hnm hK hW hlo hL)
theorem ev_if_lt {a : Int32} {off : Int} {tgt : Nat} (hd : decode y.2.1 pc = .ok (.ifCond .lt off, 3)) (ht : (pc : Int) + off = (tgt : Int)) (kt : (a < 0) → Ev l G R y res mc ms c0 s0 tgt L st r w) (kf : ¬ (a < 0) → Ev l G R y res mc ms c0 s0 (pc + 3) L st r w) : Ev l G R y res mc ms c0 s0 pc L (.int a :: st) r w := by
  intro p e s m args below meth c H locs ls hx hb hn hr hlk ho hts hnm hK hW hlo hL
  exact lv_if_lt hx hb hd ht (fun q => kt q p e s m args below meth c H locs ls hx hb hn hr hlk ho hts hnm hK hW hlo hL) (fun q => kf q p e s m args below meth c H locs ls hx hb hn hr hlk ho hts hnm hK hW hlo hL)
theorem ev_icmp_lt {a b : Int32} {off : Int} {tgt : Nat} (hd : decode y.2.1 pc = .ok (.if_icmp .lt off, 3)) (ht : (pc : Int) + off = (tgt : Int)) (kt : (a < b) → Ev l G R y res mc ms c0 s0 tgt L st r w) (kf : ¬ (a < b) → Ev l G R y res mc ms c0 s0 (pc + 3) L st r w) : Ev l G R y res mc ms c0 s0 pc L (.int b :: .int a :: st) r w := by
  intro p e s m args below meth c H locs ls hx hb hn hr hlk ho hts hnm hK hW hlo hL
  exact lv_icmp_lt hx hb hd ht (fun q => kt q p e s m args below meth c H locs ls hx hb hn hr hlk ho hts hnm hK hW hlo hL) (fun q => kf q p e s m args below meth c H locs ls hx hb hn hr hlk ho hts hnm hK hW hlo hL)
theorem ev_if_ge {a : Int32} {off : Int} {tgt : Nat} (hd : decode y.2.1 pc = .ok (.ifCond .ge off, 3)) (ht : (pc : Int) + off = (tgt : Int)) (kt : ¬ (a < 0) → Ev l G R y res mc ms c0 s0 tgt L st r w) (kf : (a < 0) → Ev l G R y res mc ms c0 s0 (pc + 3) L st r w) : Ev l G R y res mc ms c0 s0 pc L (.int a :: st) r w := by
  intro p e s m args below meth c H locs ls hx hb hn hr hlk ho hts hnm hK hW hlo hL
  exact lv_if_ge hx hb hd ht (fun q => kt (Int32.not_lt.mpr q) p e s m args below meth c H locs ls hx hb hn hr hlk ho hts hnm hK hW hlo hL) (fun q => kf (Int32.not_le.mp q) p e s m args below meth c H locs ls hx hb hn hr hlk ho hts hnm hK hW hlo hL)
theorem ev_icmp_ge {a b : Int32} {off : Int} {tgt : Nat} (hd : decode y.2.1 pc = .ok (.if_icmp .ge off, 3)) (ht : (pc : Int) + off = (tgt : Int)) (kt : ¬ (a < b) → Ev l G R y res mc ms c0 s0 tgt L st r w) (kf : (a < b) → Ev l G R y res mc ms c0 s0 (pc + 3) L st r w) : Ev l G R y res mc ms c0 s0 pc L (.int b :: .int a :: st) r w := by
  intro p e s m args below meth c H locs ls hx hb hn hr hlk ho hts hnm hK hW hlo hL
  exact lv_icmp_ge hx hb hd ht (fun q => kt (Int32.not_lt.mpr q) p e s m args below meth c H locs ls hx hb hn hr hlk ho hts hnm hK hW hlo hL) (fun q => kf (Int32.not_le.mp q) p e s m args below meth c H locs ls hx hb hn hr hlk ho hts hnm hK hW hlo hL)
theorem ev_if_le {a : Int32} {off : Int} {tgt : Nat} (hd : decode y.2.1 pc = .ok (.ifCond .le off, 3)) (ht : (pc : Int) + off = (tgt : Int)) (kt : (a ≤ 0) → Ev l G R y res mc ms c0 s0 tgt L st r w) (kf : ¬ (a ≤ 0) → Ev l G R y res mc ms c0 s0 (pc + 3) L st r w) : Ev l G R y res mc ms c0 s0 pc L (.int a :: st) r w := by
  intro p e s m args below meth c H locs ls hx hb hn hr hlk ho hts hnm hK hW hlo hL
  exact lv_if_le hx hb hd ht (fun q => kt q p e s m args below meth c H locs ls hx hb hn hr hlk ho hts hnm hK hW hlo hL) (fun q => kf q p e s m args below meth c H locs ls hx hb hn hr hlk ho hts hnm hK hW hlo hL)
theorem ev_icmp_le {a b : Int32} {off : Int} {tgt : Nat} (hd : decode y.2.1 pc = .ok (.if_icmp .le off, 3)) (ht : (pc : Int) + off = (tgt : Int)) (kt : (a ≤ b) → Ev l G R y res mc ms c0 s0 tgt L st r w) (kf : ¬ (a ≤ b) → Ev l G R y res mc ms c0 s0 (pc + 3) L st r w) : Ev l G R y res mc ms c0 s0 pc L (.int b :: .int a :: st) r w := by
  intro p e s m args below meth c H locs ls hx hb hn hr hlk ho hts hnm hK hW hlo hL
  exact lv_icmp_le hx hb hd ht (fun q => kt q p e s m args below meth c H locs ls hx hb hn hr hlk ho hts hnm hK hW hlo hL) (fun q => kf q p e s m args below meth c H locs ls hx hb hn hr hlk ho hts hnm hK hW hlo hL)
theorem ev_if_gt {a : Int32} {off : Int} {tgt : Nat} (hd : decode y.2.1 pc = .ok (.ifCond .gt off, 3)) (ht : (pc : Int) + off = (tgt : Int)) (kt : ¬ (a ≤ 0) → Ev l G R y res mc ms c0 s0 tgt L st r w) (kf : (a ≤ 0) → Ev l G R y res mc ms c0 s0 (pc + 3) L st r w) : Ev l G R y res mc ms c0 s0 pc L (.int a :: st) r w := by
  intro p e s m args below meth c H locs ls hx hb hn hr hlk ho hts hnm hK hW hlo hL
  exact lv_if_gt hx hb hd ht (fun q => kt (Int32.not_le.mpr q) p e s m args below meth c H locs ls hx hb hn hr hlk ho hts hnm hK hW hlo hL) (fun q => kf (Int32.not_lt.mp q) p e s m args below meth c H locs ls hx hb hn hr hlk ho hts hnm hK hW hlo hL)
theorem ev_icmp_gt {a b : Int32} {off : Int} {tgt : Nat} (hd : decode y.2.1 pc = .ok (.if_icmp .gt off, 3)) (ht : (pc : Int) + off = (tgt : Int)) (kt : ¬ (a ≤ b) → Ev l G R y res mc ms c0 s0 tgt L st r w) (kf : (a ≤ b) → Ev l G R y res mc ms c0 s0 (pc + 3) L st r w) : Ev l G R y res mc ms c0 s0 pc L (.int b :: .int a :: st) r w := by
  intro p e s m args below meth c H locs ls hx hb hn hr hlk ho hts hnm hK hW hlo hL
  exact lv_icmp_gt hx hb hd ht (fun q => kt (Int32.not_le.mpr q) p e s m args below meth c H locs ls hx hb hn hr hlk ho hts hnm hK hW hlo hL) (fun q => kf (Int32.not_lt.mp q) p e s m args below meth c H locs ls hx hb hn hr hlk ho hts hnm hK hW hlo hL)
theorem ev_goto {off : Int} {tgt : Nat} (hd : decode y.2.1 pc = .ok (.goto off, 3)) (ht : (pc : Int) + off = (tgt : Int)) (k : Ev l G R y res mc ms c0 s0 tgt L st r w) : Ev l G R y res mc ms c0 s0 pc L st r w := by
  intro p e s m args below meth c H locs ls hx hb hn hr hlk ho hts hnm hK hW hlo hL
  exact lv_goto hx hb hd ht (k p e s m args below meth c H locs ls hx hb hn hr hlk ho hts hnm hK hW hlo hL)
theorem ev_ifnonnull {x : Nat} {off : Int} {tgt : Nat} (hd : decode y.2.1 pc = .ok (.ifnonnull off, 3)) (ht : (pc : Int) + off = (tgt : Int)) (k : Ev l G R y res mc ms c0 s0 tgt L st r w) : Ev l G R y res mc ms c0 s0 pc L (.ref x :: st) r w := by
  intro p e s m args below meth c H locs ls hx hb hn hr hlk ho hts hnm hK hW hlo hL
  exact lv_ifnonnull hx hb hd ht (k p e s m args below meth c H locs ls hx hb hn hr hlk ho hts hnm hK hW hlo hL)
theorem ev_ifnull {x : Nat} {off : Int} (hd : decode y.2.1 pc = .ok (.ifnull off, 3)) (k : Ev l G R y res mc ms c0 s0 (pc + 3) L st r w) : Ev l G R y res mc ms c0 s0 pc L (.ref x :: st) r w := by
  intro p e s m args below meth c H locs ls hx hb hn hr hlk ho hts hnm hK hW hlo hL
  exact lv_ifnull hx hb hd (k p e s m args below meth c H locs ls hx hb hn hr hlk ho hts hnm hK hW hlo hL)
theorem ev_lookup {dflt : Int} {ps : Array (Int × Int)} {len : Nat} {x : Int32} {off : Int} {tgt : Nat} (hd : decode y.2.1 pc = .ok (.lookupswitch dflt ps, len)) (hp : (ps.toList.zip (ps.toList.drop 1)).all (fun (a, next) => a.1 < next.1) = true) (hf : Op.lookupswitch.offset ps.toList dflt x.toInt = off) (ht : (pc : Int) + off = (tgt : Int)) (k : Ev l G R y res mc ms c0 s0 tgt L st r w) : Ev l G R y res mc ms c0 s0 pc L (.int x :: st) r w := by
  intro p e s m args below meth c H locs ls hx hb hn hr hlk ho hts hnm hK hW hlo hL
  exact lv_lookup hx hb hd hp hf ht (k p e s m args below meth c H locs ls hx hb hn hr hlk ho hts hnm hK hW hlo hL)
theorem ev_tableOut {dflt lo hi : Int} {offs : Array Int} {len : Nat} {x : Int32} {tgt : Nat} (hd : decode y.2.1 pc = .ok (.tableswitch dflt lo hi offs, len)) (h : x.toInt < lo ∨ hi < x.toInt) (ht : (pc : Int) + dflt = (tgt : Int)) (k : Ev l G R y res mc ms c0 s0 tgt L st r w) : Ev l G R y res mc ms c0 s0 pc L (.int x :: st) r w := by
  intro p e s m args below meth c H locs ls hx hb hn hr hlk ho hts hnm hK hW hlo hL
  exact lv_tableOut hx hb hd h ht (k p e s m args below meth c H locs ls hx hb hn hr hlk ho hts hnm hK hW hlo hL)
theorem ev_tableIn {dflt lo hi : Int} {offs : Array Int} {len : Nat} {x : Int32} {off : Int} {tgt : Nat} (hd : decode y.2.1 pc = .ok (.tableswitch dflt lo hi offs, len)) (h1 : ¬ x.toInt < lo) (h2 : ¬ hi < x.toInt) (hf : offs[(x.toInt - lo).toNat]? = some off) (ht : (pc : Int) + off = (tgt : Int)) (k : Ev l G R y res mc ms c0 s0 tgt L st r w) : Ev l G R y res mc ms c0 s0 pc L (.int x :: st) r w := by
  intro p e s m args below meth c H locs ls hx hb hn hr hlk ho hts hnm hK hW hlo hL
  exact lv_tableIn hx hb hd h1 h2 hf ht (k p e s m args below meth c H locs ls hx hb hn hr hlk ho hts hnm hK hW hlo hL)
theorem ev_iret {a : Int32} (hd : decode y.2.1 pc = .ok (.ireturn, 1)) (hy : y.2.2.2 = some .int) (hc : c0 = mc) (hs : s0 = ms) (hres : res = (some (.int a), r, w)) : Ev l G R y res mc ms c0 s0 pc L [.int a] r w := by
  intro p e s m args below meth c H locs ls hx hb hn hr hlk ho hts hnm hK hW hlo hL
  subst hc; subst hs; subst hres
  exact W.iret (v := a) hx hb (hr.trans hy) (fun t ht _ => ⟨rfl, by rw [ht]; exact hW⟩) hlo hd hlk
theorem ev_zret {a : Int32} (hd : decode y.2.1 pc = .ok (.ireturn, 1)) (hy : y.2.2.2 = some .boolean) (hv : (a == 0 || a == 1) = true) (hc : c0 = mc) (hs : s0 = ms) (hres : res = (some (.int a), r, w)) : Ev l G R y res mc ms c0 s0 pc L [.int a] r w := by
  intro p e s m args below meth c H locs ls hx hb hn hr hlk ho hts hnm hK hW hlo hL
  subst hc; subst hs; subst hres
  refine W.zret (v := a) hx hb (hr.trans hy) ?_ (fun t ht _ => ⟨rfl, by rw [ht]; exact hW⟩) hlo hd hlk
  simp only [Bool.or_eq_true, beq_iff_eq] at hv
  rcases hv with rfl | rfl <;> rfl
theorem ev_lret {a : Int64} (hd : decode y.2.1 pc = .ok (.lreturn, 1)) (hy : y.2.2.2 = some .long) (hc : c0 = mc) (hs : s0 = ms) (hres : res = (some (.long a), r, w)) : Ev l G R y res mc ms c0 s0 pc L [.long a] r w := by
  intro p e s m args below meth c H locs ls hx hb hn hr hlk ho hts hnm hK hW hlo hL
  subst hc; subst hs; subst hres
  exact W.lret (v := a) hx hb (hr.trans hy) (fun t ht _ => ⟨rfl, by rw [ht]; exact hW⟩) hlo hd hlk
theorem ev_vret (hd : decode y.2.1 pc = .ok (.return_, 1)) (hy : y.2.2.2 = none) (hc : c0 = mc) (hs : s0 = ms) (hres : res = (none, r, w)) : Ev l G R y res mc ms c0 s0 pc L [] r w := by
  intro p e s m args below meth c H locs ls hx hb hn hr hlk ho hts hnm hK hW hlo hL
  subst hc; subst hs; subst hres
  exact W.vret hx hb (hr.trans hy) (fun t ht _ => ⟨rfl, by rw [ht]; exact hW⟩) hlo hd hlk
end JE

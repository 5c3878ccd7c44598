/-! the field links and constants of our classes, by numbers: owner, pool place, class, field; their place among the words -/
def jflI : List (Nat × Nat × Nat × Nat × Nat) := [(9, 12, 9, 0, 332), (9, 16, 9, 1, 333), (9, 22, 9, 2, 334), (9, 29, 9, 3, 335), (9, 36, 9, 4, 336), (9, 43, 9, 5, 337), (9, 50, 9, 6, 338), (9, 58, 6, 6, 117), (9, 87, 6, 4, 111), (9, 94, 6, 7, 122), (9, 100, 6, 8, 126), (9, 107, 6, 5, 113), (9, 116, 6, 3, 109), (9, 119, 6, 0, 101), (9, 126, 6, 9, 128), (9, 132, 6, 11, 133), (9, 141, 6, 10, 131), (9, 158, 2, 5, 226), (9, 162, 7, 0, 209), (9, 173, 8, 0, 78), (9, 203, 6, 12, 136), (9, 221, 6, 13, 139), (9, 230, 6, 17, 149), (9, 237, 6, 14, 142), (9, 260, 6, 15, 144), (9, 263, 6, 16, 146), (9, 277, 5, 5, 289), (9, 281, 5, 4, 287), (9, 294, 6, 18, 152), (9, 301, 4, 3, 313), (9, 304, 4, 4, 315), (9, 307, 4, 5, 317), (0, 9, 0, 0, 266), (0, 15, 0, 1, 267), (0, 18, 0, 2, 268), (1, 9, 1, 0, 252), (1, 15, 1, 1, 253), (1, 19, 6, 12, 135), (1, 35, 6, 8, 125), (1, 56, 6, 6, 119), (1, 73, 6, 13, 138), (1, 76, 6, 9, 129), (1, 87, 6, 1, 103), (1, 91, 6, 5, 114), (1, 94, 6, 2, 105), (1, 122, 6, 14, 141), (1, 125, 6, 3, 108), (2, 14, 2, 0, 220), (2, 20, 2, 1, 221), (2, 26, 2, 5, 225), (2, 30, 7, 1, 211), (2, 33, 2, 6, 227), (2, 34, 2, 2, 222), (2, 38, 2, 3, 223), (2, 42, 2, 4, 224), (2, 45, 2, 7, 228), (3, 15, 3, 0, 58), (3, 21, 3, 1, 59), (3, 25, 3, 2, 60), (4, 9, 4, 0, 309), (4, 15, 4, 1, 310), (4, 18, 4, 2, 311), (4, 22, 6, 0, 100), (4, 41, 6, 8, 124), (4, 61, 6, 6, 118), (4, 64, 6, 7, 121), (4, 71, 6, 3, 107), (4, 78, 4, 3, 312), (4, 81, 4, 4, 314), (4, 84, 4, 5, 316), (4, 90, 6, 18, 151), (4, 93, 6, 17, 148), (5, 9, 5, 0, 282), (5, 15, 5, 1, 283), (5, 18, 6, 6, 116), (5, 30, 5, 2, 284), (5, 38, 5, 3, 285), (5, 53, 5, 4, 286), (5, 57, 5, 5, 288), (6, 9, 6, 0, 99), (6, 15, 6, 1, 102), (6, 18, 6, 2, 104), (6, 21, 6, 3, 106), (6, 24, 6, 4, 110), (6, 32, 6, 5, 112), (6, 36, 6, 6, 115), (6, 39, 6, 7, 120), (6, 42, 6, 8, 123), (6, 45, 6, 9, 127), (6, 48, 6, 10, 130), (6, 54, 6, 11, 132), (6, 58, 6, 12, 134), (6, 61, 6, 13, 137), (6, 64, 6, 14, 140), (6, 67, 6, 15, 143), (6, 70, 6, 16, 145), (6, 73, 6, 17, 147), (6, 76, 6, 18, 150), (7, 14, 7, 0, 208), (7, 20, 7, 1, 210), (7, 23, 7, 2, 212), (8, 14, 8, 0, 77), (8, 20, 8, 1, 79), (8, 23, 8, 2, 80), (8, 26, 8, 3, 81)]
def jfl : List (Nat × Nat × Nat × Nat) := jflI.map fun q => (q.1, q.2.1, q.2.2.1, q.2.2.2.1)
theorem jflI_ok : ∀ q ∈ jflI, lw_tbl[q.2.2.2.2]? = some (Cond.fieldLink (jcn q.1) q.2.1 (jcn q.2.2.1) (jTf q.2.2.1 q.2.2.2.1).2.1 (jTf q.2.2.1 q.2.2.2.1).2.2.1) ∧ goodWord (Cond.fieldLink (jcn q.1) q.2.1 (jcn q.2.2.1) (jTf q.2.2.1 q.2.2.2.1).2.1 (jTf q.2.2.1 q.2.2.2.1).2.2.1) = true ∧ q.2.2.1 < 10 ∧ q.2.2.2.1 < jNf q.2.2.1 := by decide +kernel
theorem jfl_ok {q : Nat × Nat × Nat × Nat} (h : q ∈ jfl) : Cond.fieldLink (jcn q.1) q.2.1 (jcn q.2.2.1) (jTf q.2.2.1 q.2.2.2).2.1 (jTf q.2.2.1 q.2.2.2).2.2.1 ∈ jTbl ∧ q.2.2.1 < 10 ∧ q.2.2.2 < jNf q.2.2.1 := by
  obtain ⟨z, hz, rfl⟩ := List.mem_map.mp h
  obtain ⟨h1, h2, h3, h4⟩ := jflI_ok z hz
  exact ⟨jmem _ h1 h2, h3, h4⟩
def jckI : List (Nat × Nat × Int32 × Nat) := [(10, 7, (2147483647 : Int32), 644), (11, 265, (1431655765 : Int32), 702), (11, 266, (858993459 : Int32), 703), (11, 267, (252645135 : Int32), 704)]
theorem jckI_ok : ∀ q ∈ jckI, lw_tbl[q.2.2.2]? = some (Cond.constant (jcn q.1) q.2.1 q.2.2.1) ∧ goodWord (Cond.constant (jcn q.1) q.2.1 q.2.2.1) = true := by decide +kernel
def jck : List (Nat × Nat × Int32) := jckI.map fun q => (q.1, q.2.1, q.2.2.1)
theorem jck_ok {q : Nat × Nat × Int32} (h : q ∈ jck) : Cond.constant (jcn q.1) q.2.1 q.2.2 ∈ jTbl := by
  obtain ⟨z, hz, rfl⟩ := List.mem_map.mp h
  exact jmem _ (jckI_ok z hz).1 (jckI_ok z hz).2
def jclI : List (Nat × Nat × Int64 × Nat) := [(9, 275, (-1 : Int64), 724), (1, 46, (2199023255551 : Int64), 557), (1, 116, (-1 : Int64), 591), (8, 76, (-2 : Int64), 522)]
theorem jclI_ok : ∀ q ∈ jclI, lw_tbl[q.2.2.2]? = some (Cond.constantLong (jcn q.1) q.2.1 q.2.2.1) ∧ goodWord (Cond.constantLong (jcn q.1) q.2.1 q.2.2.1) = true := by decide +kernel
def jclk : List (Nat × Nat × Int64) := jclI.map fun q => (q.1, q.2.1, q.2.2.1)
theorem jclk_ok {q : Nat × Nat × Int64} (h : q ∈ jclk) : Cond.constantLong (jcn q.1) q.2.1 q.2.2 ∈ jTbl := by
  obtain ⟨z, hz, rfl⟩ := List.mem_map.mp h
  exact jmem _ (jclI_ok z hz).1 (jclI_ok z hz).2
/-- an instruction: as decoded, its length, two numbers, a value -/
abbrev jI : Type := Instr × Nat × Nat × Nat × Value
abbrev jF : Type := List (Option Value) × List Value × jW × List Bool × List (Nat × Nat)
def jal : List Bool → Bool
  | [] => true
  | c :: g => c && jal g
theorem jal1 {c : Bool} {g : List Bool} (h : jal (c :: g) = true) : c = true := (Bool.and_eq_true _ _ ▸ (show (c && jal g) = true from h)).1
theorem jal2 {c : Bool} {g : List Bool} (h : jal (c :: g) = true) : jal g = true := (Bool.and_eq_true _ _ ▸ (show (c && jal g) = true from h)).2
def jnx (pc : Nat) (x : jI) : Nat := match x.1 with
  | .goto off => ((pc : Int) + off).toNat
  | _ => pc + x.2.1
def jisI : Value → Bool
  | .int _ => true
  | _ => false
def jisL : Value → Bool
  | .long _ => true
  | _ => false
def jisR : Value → Bool
  | .ref _ => true
  | _ => false
/-- one instruction -/
def jstep (r : jS) (x : jI) (L : List (Option Value)) (st : List Value) (w : jW) (g : List Bool) (K : List (Nat × Nat)) : Option jF := match x with
  | (.iadd, _, a, b, v) => match st with
    | .int b :: .int a :: t => some (L, .int (a + b) :: t, w, g, K)
    | _ => none
  | (.isub, _, a, b, v) => match st with
    | .int b :: .int a :: t => some (L, .int (a - b) :: t, w, g, K)
    | _ => none
  | (.imul, _, a, b, v) => match st with
    | .int b :: .int a :: t => some (L, .int (a * b) :: t, w, g, K)
    | _ => none
  | (.iand, _, a, b, v) => match st with
    | .int b :: .int a :: t => some (L, .int (a &&& b) :: t, w, g, K)
    | _ => none
  | (.ior, _, a, b, v) => match st with
    | .int b :: .int a :: t => some (L, .int (a ||| b) :: t, w, g, K)
    | _ => none
  | (.ixor, _, a, b, v) => match st with
    | .int b :: .int a :: t => some (L, .int (a ^^^ b) :: t, w, g, K)
    | _ => none
  | (.ishl, _, a, b, v) => match st with
    | .int b :: .int a :: t => some (L, .int (a <<< (b &&& 31)) :: t, w, g, K)
    | _ => none
  | (.ishr, _, a, b, v) => match st with
    | .int b :: .int a :: t => some (L, .int (a >>> (b &&& 31)) :: t, w, g, K)
    | _ => none
  | (.iushr, _, a, b, v) => match st with
    | .int b :: .int a :: t => some (L, .int ((a.toUInt32 >>> (b.toUInt32 &&& Int32.toUInt32 31)).toInt32) :: t, w, g, K)
    | _ => none
  | (.idiv, _, a, b, v) => match st with
    | .int b :: .int a :: t => some (L, .int (a / b) :: t, w, (!(b == 0)) :: g, K)
    | _ => none
  | (.irem, _, a, b, v) => match st with
    | .int b :: .int a :: t => some (L, .int (a - a / b * b) :: t, w, (!(b == 0)) :: g, K)
    | _ => none
  | (.ladd, _, a, b, v) => match st with
    | .long b :: .long a :: t => some (L, .long (a + b) :: t, w, g, K)
    | _ => none
  | (.lsub, _, a, b, v) => match st with
    | .long b :: .long a :: t => some (L, .long (a - b) :: t, w, g, K)
    | _ => none
  | (.lmul, _, a, b, v) => match st with
    | .long b :: .long a :: t => some (L, .long (a * b) :: t, w, g, K)
    | _ => none
  | (.land, _, a, b, v) => match st with
    | .long b :: .long a :: t => some (L, .long (a &&& b) :: t, w, g, K)
    | _ => none
  | (.lor, _, a, b, v) => match st with
    | .long b :: .long a :: t => some (L, .long (a ||| b) :: t, w, g, K)
    | _ => none
  | (.lxor, _, a, b, v) => match st with
    | .long b :: .long a :: t => some (L, .long (a ^^^ b) :: t, w, g, K)
    | _ => none
  | (.ldiv, _, a, b, v) => match st with
    | .long b :: .long a :: t => some (L, .long (a / b) :: t, w, (!(b == 0)) :: g, K)
    | _ => none
  | (.lrem, _, a, b, v) => match st with
    | .long b :: .long a :: t => some (L, .long (a - a / b * b) :: t, w, (!(b == 0)) :: g, K)
    | _ => none
  | (.lshl, _, a, b, v) => match st with
    | .int b :: .long a :: t => some (L, .long (a <<< (b.toInt64 &&& 63)) :: t, w, g, K)
    | _ => none
  | (.lshr, _, a, b, v) => match st with
    | .int b :: .long a :: t => some (L, .long (a >>> (b.toInt64 &&& 63)) :: t, w, g, K)
    | _ => none
  | (.lushr, _, a, b, v) => match st with
    | .int b :: .long a :: t => some (L, .long ((a.toUInt64 >>> (b.toInt64.toUInt64 &&& Int64.toUInt64 63)).toInt64) :: t, w, g, K)
    | _ => none
  | (.i2l, _, a, b, v) => match st with
    | .int a :: t => some (L, .long a.toInt64 :: t, w, g, K)
    | _ => none
  | (.l2i, _, a, b, v) => match st with
    | .long a :: t => some (L, .int a.toInt32 :: t, w, g, K)
    | _ => none
  | (.ineg, _, a, b, v) => match st with
    | .int a :: t => some (L, .int (0 - a) :: t, w, g, K)
    | _ => none
  | (.lcmp, _, a, b, v) => match st with
    | .long b :: .long a :: t => some (L, .int (lg_cmp a b) :: t, w, g, K)
    | _ => none
  | (.dup, _, a, b, v) => match st with
    | .int a :: t => some (L, .int a :: .int a :: t, w, g, K)
    | .ref a :: t => some (L, .ref a :: .ref a :: t, w, g, K)
    | _ => none
  | (.pop, _, a, b, v) => match st with
    | .int a :: t => some (L, t, w, g, K)
    | .ref a :: t => some (L, t, w, g, K)
    | _ => none
  | (.dup2, _, a, b, v) => match st with
    | .int b :: .ref a :: t => some (L, .int b :: .ref a :: .int b :: .ref a :: t, w, g, K)
    | .int b :: .int a :: t => some (L, .int b :: .int a :: .int b :: .int a :: t, w, g, K)
    | .long a :: t => some (L, .long a :: .long a :: t, w, g, K)
    | _ => none
  | (.dup_x1, _, a, b, v) => match st with
    | .int b :: .ref a :: t => some (L, .int b :: .ref a :: .int b :: t, w, g, K)
    | .int b :: .int a :: t => some (L, .int b :: .int a :: .int b :: t, w, g, K)
    | _ => none
  | (.iconst _, _, a, b, v) => match v with
    | .int z => some (L, .int z :: st, w, g, K)
    | _ => none
  | (.bipush _, _, a, b, v) => match v with
    | .int z => some (L, .int z :: st, w, g, K)
    | _ => none
  | (.sipush _, _, a, b, v) => match v with
    | .int z => some (L, .int z :: st, w, g, K)
    | _ => none
  | (.lconst _, _, a, b, v) => match v with
    | .long z => some (L, .long z :: st, w, g, K)
    | _ => none
  | (.ldc _, _, a, b, v) => match v with
    | .int z => some (L, .int z :: st, w, g, K)
    | _ => none
  | (.ldc_w _, _, a, b, v) => match v with
    | .int z => some (L, .int z :: st, w, g, K)
    | _ => none
  | (.ldc2_w _, _, a, b, v) => match v with
    | .long z => some (L, .long z :: st, w, g, K)
    | _ => none
  | (.iload_n _, _, a, b, v) => match L[a]? with
    | some (some (.int z)) => some (L, .int z :: st, w, g, K)
    | _ => none
  | (.iload _, _, a, b, v) => match L[a]? with
    | some (some (.int z)) => some (L, .int z :: st, w, g, K)
    | _ => none
  | (.lload_n _, _, a, b, v) => match L[a]? with
    | some (some (.long z)) => some (L, .long z :: st, w, g, K)
    | _ => none
  | (.lload _, _, a, b, v) => match L[a]? with
    | some (some (.long z)) => some (L, .long z :: st, w, g, K)
    | _ => none
  | (.aload_n _, _, a, b, v) => match L[a]? with
    | some (some (.ref z)) => some (L, .ref z :: st, w, g, K)
    | _ => none
  | (.aload _, _, a, b, v) => match L[a]? with
    | some (some (.ref z)) => some (L, .ref z :: st, w, g, K)
    | _ => none
  | (.istore_n _, _, a, b, v) => match st with
    | .int z :: t => some (jset1 L a (.int z), t, w, g, K)
    | _ => none
  | (.istore _, _, a, b, v) => match st with
    | .int z :: t => some (jset1 L a (.int z), t, w, g, K)
    | _ => none
  | (.lstore_n _, _, a, b, v) => match st with
    | .long z :: t => some (jset2 L a (.long z), t, w, g, K)
    | _ => none
  | (.lstore _, _, a, b, v) => match st with
    | .long z :: t => some (jset2 L a (.long z), t, w, g, K)
    | _ => none
  | (.astore_n _, _, a, b, v) => match st with
    | .ref z :: t => some (jset1 L a (.ref z), t, w, g, K)
    | _ => none
  | (.astore _, _, a, b, v) => match st with
    | .ref z :: t => some (jset1 L a (.ref z), t, w, g, K)
    | _ => none
  | (.iinc _ _, _, a, b, v) => match L[a]?, v with
    | some (some (.int z)), .int dz => some (jset1 L a (.int (z + dz)), st, w, g, K)
    | _, _ => none
  | (.getfield _, _, a, b, v) => match st with
    | .ref q :: t => match v with
      | .int _ => some (L, .int (w.1 q b) :: t, w, g, (q, a) :: K)
      | .long _ => some (L, .long (w.2 q b) :: t, w, g, (q, a) :: K)
      | .ref tk => some (L, .ref (jSr r q b) :: t, w, g, (jSr r q b, tk) :: (q, a) :: K)
      | _ => none
    | _ => none
  | (.putfield _, _, a, b, v) => match st, v with
    | .int z :: .ref q :: t, .int f => if f = 0 then some (L, t, (jup w.1 q b z, w.2), g, (q, a) :: K) else some (L, t, (jup w.1 q b z, w.2), jbo z :: g, (q, a) :: K)
    | .long z :: .ref q :: t, .long _ => some (L, t, (w.1, jup w.2 q b z), g, (q, a) :: K)
    | _, _ => none
  | (.iaload, _, a, b, v) => match st with
    | .int i :: .ref q :: t => some (L, .int (w.1 q i.toNatClampNeg) :: t, w, jin i (jSl r q) :: g, (q, 20) :: K)
    | _ => none
  | (.baload, _, a, b, v) => match st with
    | .int i :: .ref q :: t => some (L, .int (w.1 q i.toNatClampNeg) :: t, w, jin i (jSl r q) :: g, (q, 21) :: K)
    | _ => none
  | (.laload, _, a, b, v) => match st with
    | .int i :: .ref q :: t => some (L, .long (w.2 q i.toNatClampNeg) :: t, w, jin i (jSl r q) :: g, (q, 22) :: K)
    | _ => none
  | (.iastore, _, a, b, v) => match st with
    | .int z :: .int i :: .ref q :: t => some (L, t, (jup w.1 q i.toNatClampNeg z, w.2), jin i (jSl r q) :: g, (q, 20) :: K)
    | _ => none
  | (.bastore, _, a, b, v) => match st with
    | .int z :: .int i :: .ref q :: t => some (L, t, (jup w.1 q i.toNatClampNeg z, w.2), jbo z :: jin i (jSl r q) :: g, (q, 21) :: K)
    | _ => none
  | (.lastore, _, a, b, v) => match st with
    | .long z :: .int i :: .ref q :: t => some (L, t, (w.1, jup w.2 q i.toNatClampNeg z), jin i (jSl r q) :: g, (q, 22) :: K)
    | _ => none
  | (.arraylength, _, a, b, v) => match st with
    | .ref q :: t => some (L, .int (Int32.ofNat (jSl r q)) :: t, w, g, (q, a) :: K)
    | _ => none
  | (.goto _, _, a, b, v) => some (L, st, w, g, K)
  | _ => none
/-- it stands there, and its links among the words -/
def jokb (o nL : Nat) (cc : ByteArray) (pc : Nat) (x : jI) : Bool := decide (decode cc pc = .ok (x.1, x.2.1)) && (match x with
  | (.iadd, len, a, b, v) => len == 1 && true
  | (.isub, len, a, b, v) => len == 1 && true
  | (.imul, len, a, b, v) => len == 1 && true
  | (.iand, len, a, b, v) => len == 1 && true
  | (.ior, len, a, b, v) => len == 1 && true
  | (.ixor, len, a, b, v) => len == 1 && true
  | (.ishl, len, a, b, v) => len == 1 && true
  | (.ishr, len, a, b, v) => len == 1 && true
  | (.iushr, len, a, b, v) => len == 1 && true
  | (.idiv, len, a, b, v) => len == 1 && true
  | (.irem, len, a, b, v) => len == 1 && true
  | (.ladd, len, a, b, v) => len == 1 && true
  | (.lsub, len, a, b, v) => len == 1 && true
  | (.lmul, len, a, b, v) => len == 1 && true
  | (.land, len, a, b, v) => len == 1 && true
  | (.lor, len, a, b, v) => len == 1 && true
  | (.lxor, len, a, b, v) => len == 1 && true
  | (.ldiv, len, a, b, v) => len == 1 && true
  | (.lrem, len, a, b, v) => len == 1 && true
  | (.lshl, len, a, b, v) => len == 1 && true
  | (.lshr, len, a, b, v) => len == 1 && true
  | (.lushr, len, a, b, v) => len == 1 && true
  | (.i2l, len, a, b, v) => len == 1 && true
  | (.l2i, len, a, b, v) => len == 1 && true
  | (.ineg, len, a, b, v) => len == 1 && true
  | (.lcmp, len, a, b, v) => len == 1 && true
  | (.dup, len, a, b, v) => len == 1 && true
  | (.pop, len, a, b, v) => len == 1 && true
  | (.dup2, len, a, b, v) => len == 1 && true
  | (.dup_x1, len, a, b, v) => len == 1 && true
  | (.iconst n, len, a, b, v) => len == 1 && decide (v = .int (Int32.ofInt n))
  | (.bipush n, len, a, b, v) => len == 2 && decide (v = .int ((Int8.ofInt n).toInt32))
  | (.sipush n, len, a, b, v) => len == 3 && decide (v = .int ((Int16.ofInt n).toInt32))
  | (.lconst n, len, a, b, v) => len == 1 && decide (v = .long (Int64.ofNat (n : Nat)))
  | (.ldc idx, len, a, b, v) => len == 2 && (match v with
    | .int z => decide ((o, idx, z) ∈ jck)
    | _ => false)
  | (.ldc_w idx, len, a, b, v) => len == 3 && (match v with
    | .int z => decide ((o, idx, z) ∈ jck)
    | _ => false)
  | (.ldc2_w idx, len, a, b, v) => len == 3 && (match v with
    | .long z => decide ((o, idx, z) ∈ jclk)
    | _ => false)
  | (.iload_n n, len, a, b, v) => len == 1 && (n : Nat) == a
  | (.iload n, len, a, b, v) => len == 2 && n == a
  | (.lload_n n, len, a, b, v) => len == 1 && (n : Nat) == a
  | (.lload n, len, a, b, v) => len == 2 && n == a
  | (.aload_n n, len, a, b, v) => len == 1 && (n : Nat) == a
  | (.aload n, len, a, b, v) => len == 2 && n == a
  | (.istore_n n, len, a, b, v) => len == 1 && ((n : Nat) == a && decide (a < nL))
  | (.istore n, len, a, b, v) => len == 2 && (n == a && decide (a < nL))
  | (.lstore_n n, len, a, b, v) => len == 1 && ((n : Nat) == a && decide (a + 1 < nL))
  | (.lstore n, len, a, b, v) => len == 2 && (n == a && decide (a + 1 < nL))
  | (.astore_n n, len, a, b, v) => len == 1 && ((n : Nat) == a && decide (a < nL))
  | (.astore n, len, a, b, v) => len == 2 && (n == a && decide (a < nL))
  | (.iinc n d, len, a, b, v) => len == 3 && (n == a && decide (a < nL) && decide (v = .int (Int32.ofInt d)))
  | (.getfield idx, len, a, b, v) => len == 3 && (decide ((o, idx, a, b) ∈ jfl) && (match v with
    | .int _ => decide (jtyf a b = .int) || decide (jtyf a b = .boolean)
    | .long _ => decide (jtyf a b = .long)
    | .ref tk => jrf (jtyf a b) && decide (tk < 90)
    | _ => false))
  | (.putfield idx, len, a, b, v) => len == 3 && (decide ((o, idx, a, b) ∈ jfl) && ((jTf a b).2.2.2 == false) && (match v with
    | .int z => if z = 0 then decide (jtyf a b = .int) else decide (jtyf a b = .boolean)
    | .long _ => decide (jtyf a b = .long)
    | _ => false))
  | (.iaload, len, a, b, v) => len == 1 && true
  | (.baload, len, a, b, v) => len == 1 && true
  | (.laload, len, a, b, v) => len == 1 && true
  | (.iastore, len, a, b, v) => len == 1 && true
  | (.bastore, len, a, b, v) => len == 1 && true
  | (.lastore, len, a, b, v) => len == 1 && true
  | (.arraylength, len, a, b, v) => len == 1 && (decide (a = 20) || decide (a = 21) || decide (a = 22))
  | (.goto off, len, a, b, v) => len == 3 && decide (0 ≤ (pc : Int) + off)
  | _ => false)
section JX
variable {l : Launch} {G : jG} {R : Room} {y : jM} {res : Option Value × jS × jW} {mc ms c0 s0 : Nat} {pc : Nat} {L : List (Option Value)} {st : List Value} {r : jS} {w : jW}
def jgo (l : Launch) (G : jG) (R : Room) (y : jM) (res : Option Value × jS × jW) (mc ms c0 s0 pc q : Nat) (L : List (Option Value)) (st : List Value) (r : jS) (w : jW) (g : List Bool) (K : List (Nat × Nat)) (f : jF) : Prop := (jal f.2.2.2.1 = true → jal g = true) ∧ (∀ z ∈ K, z ∈ f.2.2.2.2) ∧ (jal f.2.2.2.1 = true → (∀ z ∈ f.2.2.2.2, jSk r z.1 = z.2) → Ev l G R y res mc ms c0 s0 q f.1 f.2.1 r f.2.2.1 → Ev l G R y res mc ms c0 s0 pc L st r w)
theorem jx_iadd {o nL len a b : Nat} {v : Value} {g : List Bool} {K : List (Nat × Nat)} {f : jF} (hoo : y.1.cls = jcn o) (hnL : y.2.2.1 = nL) (hj : jokb o nL y.2.1 pc (.iadd, len, a, b, v) = true) (h : jstep r (.iadd, len, a, b, v) L st w g K = some f) : jgo l G R y res mc ms c0 s0 pc (jnx pc (.iadd, len, a, b, v)) L st r w g K f := by
  obtain ⟨hd, hj⟩ := Bool.and_eq_true _ _ ▸ hj
  replace hd := of_decide_eq_true hd
  obtain ⟨hlen, hc⟩ := Bool.and_eq_true _ _ ▸ hj
  replace hlen := eq_of_beq hlen
  subst hlen
  simp only [jstep] at h
  split at h
  all_goals first
    | (cases h; done)
    | (cases h
       try dsimp only at hc
       exact ⟨id, fun _ q => q, fun hg _ k => ev_iadd  hd k⟩)
theorem jx_isub {o nL len a b : Nat} {v : Value} {g : List Bool} {K : List (Nat × Nat)} {f : jF} (hoo : y.1.cls = jcn o) (hnL : y.2.2.1 = nL) (hj : jokb o nL y.2.1 pc (.isub, len, a, b, v) = true) (h : jstep r (.isub, len, a, b, v) L st w g K = some f) : jgo l G R y res mc ms c0 s0 pc (jnx pc (.isub, len, a, b, v)) L st r w g K f := by
  obtain ⟨hd, hj⟩ := Bool.and_eq_true _ _ ▸ hj
  replace hd := of_decide_eq_true hd
  obtain ⟨hlen, hc⟩ := Bool.and_eq_true _ _ ▸ hj
  replace hlen := eq_of_beq hlen
  subst hlen
  simp only [jstep] at h
  split at h
  all_goals first
    | (cases h; done)
    | (cases h
       try dsimp only at hc
       exact ⟨id, fun _ q => q, fun hg _ k => ev_isub  hd k⟩)
theorem jx_imul {o nL len a b : Nat} {v : Value} {g : List Bool} {K : List (Nat × Nat)} {f : jF} (hoo : y.1.cls = jcn o) (hnL : y.2.2.1 = nL) (hj : jokb o nL y.2.1 pc (.imul, len, a, b, v) = true) (h : jstep r (.imul, len, a, b, v) L st w g K = some f) : jgo l G R y res mc ms c0 s0 pc (jnx pc (.imul, len, a, b, v)) L st r w g K f := by
  obtain ⟨hd, hj⟩ := Bool.and_eq_true _ _ ▸ hj
  replace hd := of_decide_eq_true hd
  obtain ⟨hlen, hc⟩ := Bool.and_eq_true _ _ ▸ hj
  replace hlen := eq_of_beq hlen
  subst hlen
  simp only [jstep] at h
  split at h
  all_goals first
    | (cases h; done)
    | (cases h
       try dsimp only at hc
       exact ⟨id, fun _ q => q, fun hg _ k => ev_imul  hd k⟩)
theorem jx_iand {o nL len a b : Nat} {v : Value} {g : List Bool} {K : List (Nat × Nat)} {f : jF} (hoo : y.1.cls = jcn o) (hnL : y.2.2.1 = nL) (hj : jokb o nL y.2.1 pc (.iand, len, a, b, v) = true) (h : jstep r (.iand, len, a, b, v) L st w g K = some f) : jgo l G R y res mc ms c0 s0 pc (jnx pc (.iand, len, a, b, v)) L st r w g K f := by
  obtain ⟨hd, hj⟩ := Bool.and_eq_true _ _ ▸ hj
  replace hd := of_decide_eq_true hd
  obtain ⟨hlen, hc⟩ := Bool.and_eq_true _ _ ▸ hj
  replace hlen := eq_of_beq hlen
  subst hlen
  simp only [jstep] at h
  split at h
  all_goals first
    | (cases h; done)
    | (cases h
       try dsimp only at hc
       exact ⟨id, fun _ q => q, fun hg _ k => ev_iand  hd k⟩)
theorem jx_ior {o nL len a b : Nat} {v : Value} {g : List Bool} {K : List (Nat × Nat)} {f : jF} (hoo : y.1.cls = jcn o) (hnL : y.2.2.1 = nL) (hj : jokb o nL y.2.1 pc (.ior, len, a, b, v) = true) (h : jstep r (.ior, len, a, b, v) L st w g K = some f) : jgo l G R y res mc ms c0 s0 pc (jnx pc (.ior, len, a, b, v)) L st r w g K f := by
  obtain ⟨hd, hj⟩ := Bool.and_eq_true _ _ ▸ hj
  replace hd := of_decide_eq_true hd
  obtain ⟨hlen, hc⟩ := Bool.and_eq_true _ _ ▸ hj
  replace hlen := eq_of_beq hlen
  subst hlen
  simp only [jstep] at h
  split at h
  all_goals first
    | (cases h; done)
    | (cases h
       try dsimp only at hc
       exact ⟨id, fun _ q => q, fun hg _ k => ev_ior  hd k⟩)
theorem jx_ixor {o nL len a b : Nat} {v : Value} {g : List Bool} {K : List (Nat × Nat)} {f : jF} (hoo : y.1.cls = jcn o) (hnL : y.2.2.1 = nL) (hj : jokb o nL y.2.1 pc (.ixor, len, a, b, v) = true) (h : jstep r (.ixor, len, a, b, v) L st w g K = some f) : jgo l G R y res mc ms c0 s0 pc (jnx pc (.ixor, len, a, b, v)) L st r w g K f := by
  obtain ⟨hd, hj⟩ := Bool.and_eq_true _ _ ▸ hj
  replace hd := of_decide_eq_true hd
  obtain ⟨hlen, hc⟩ := Bool.and_eq_true _ _ ▸ hj
  replace hlen := eq_of_beq hlen
  subst hlen
  simp only [jstep] at h
  split at h
  all_goals first
    | (cases h; done)
    | (cases h
       try dsimp only at hc
       exact ⟨id, fun _ q => q, fun hg _ k => ev_ixor  hd k⟩)
theorem jx_ishl {o nL len a b : Nat} {v : Value} {g : List Bool} {K : List (Nat × Nat)} {f : jF} (hoo : y.1.cls = jcn o) (hnL : y.2.2.1 = nL) (hj : jokb o nL y.2.1 pc (.ishl, len, a, b, v) = true) (h : jstep r (.ishl, len, a, b, v) L st w g K = some f) : jgo l G R y res mc ms c0 s0 pc (jnx pc (.ishl, len, a, b, v)) L st r w g K f := by
  obtain ⟨hd, hj⟩ := Bool.and_eq_true _ _ ▸ hj
  replace hd := of_decide_eq_true hd
  obtain ⟨hlen, hc⟩ := Bool.and_eq_true _ _ ▸ hj
  replace hlen := eq_of_beq hlen
  subst hlen
  simp only [jstep] at h
  split at h
  all_goals first
    | (cases h; done)
    | (cases h
       try dsimp only at hc
       exact ⟨id, fun _ q => q, fun hg _ k => ev_ishl  hd k⟩)
theorem jx_ishr {o nL len a b : Nat} {v : Value} {g : List Bool} {K : List (Nat × Nat)} {f : jF} (hoo : y.1.cls = jcn o) (hnL : y.2.2.1 = nL) (hj : jokb o nL y.2.1 pc (.ishr, len, a, b, v) = true) (h : jstep r (.ishr, len, a, b, v) L st w g K = some f) : jgo l G R y res mc ms c0 s0 pc (jnx pc (.ishr, len, a, b, v)) L st r w g K f := by
  obtain ⟨hd, hj⟩ := Bool.and_eq_true _ _ ▸ hj
  replace hd := of_decide_eq_true hd
  obtain ⟨hlen, hc⟩ := Bool.and_eq_true _ _ ▸ hj
  replace hlen := eq_of_beq hlen
  subst hlen
  simp only [jstep] at h
  split at h
  all_goals first
    | (cases h; done)
    | (cases h
       try dsimp only at hc
       exact ⟨id, fun _ q => q, fun hg _ k => ev_ishr  hd k⟩)
theorem jx_iushr {o nL len a b : Nat} {v : Value} {g : List Bool} {K : List (Nat × Nat)} {f : jF} (hoo : y.1.cls = jcn o) (hnL : y.2.2.1 = nL) (hj : jokb o nL y.2.1 pc (.iushr, len, a, b, v) = true) (h : jstep r (.iushr, len, a, b, v) L st w g K = some f) : jgo l G R y res mc ms c0 s0 pc (jnx pc (.iushr, len, a, b, v)) L st r w g K f := by
  obtain ⟨hd, hj⟩ := Bool.and_eq_true _ _ ▸ hj
  replace hd := of_decide_eq_true hd
  obtain ⟨hlen, hc⟩ := Bool.and_eq_true _ _ ▸ hj
  replace hlen := eq_of_beq hlen
  subst hlen
  simp only [jstep] at h
  split at h
  all_goals first
    | (cases h; done)
    | (cases h
       try dsimp only at hc
       exact ⟨id, fun _ q => q, fun hg _ k => ev_iushr  hd k⟩)
theorem jx_idiv {o nL len a b : Nat} {v : Value} {g : List Bool} {K : List (Nat × Nat)} {f : jF} (hoo : y.1.cls = jcn o) (hnL : y.2.2.1 = nL) (hj : jokb o nL y.2.1 pc (.idiv, len, a, b, v) = true) (h : jstep r (.idiv, len, a, b, v) L st w g K = some f) : jgo l G R y res mc ms c0 s0 pc (jnx pc (.idiv, len, a, b, v)) L st r w g K f := by
  obtain ⟨hd, hj⟩ := Bool.and_eq_true _ _ ▸ hj
  replace hd := of_decide_eq_true hd
  obtain ⟨hlen, hc⟩ := Bool.and_eq_true _ _ ▸ hj
  replace hlen := eq_of_beq hlen
  subst hlen
  simp only [jstep] at h
  split at h
  all_goals first
    | (cases h; done)
    | (cases h
       try dsimp only at hc
       exact ⟨jal2, fun _ q => q, fun hg _ k => ev_idiv (fun z => by simp [z, jal] at hg) hd k⟩)
theorem jx_irem {o nL len a b : Nat} {v : Value} {g : List Bool} {K : List (Nat × Nat)} {f : jF} (hoo : y.1.cls = jcn o) (hnL : y.2.2.1 = nL) (hj : jokb o nL y.2.1 pc (.irem, len, a, b, v) = true) (h : jstep r (.irem, len, a, b, v) L st w g K = some f) : jgo l G R y res mc ms c0 s0 pc (jnx pc (.irem, len, a, b, v)) L st r w g K f := by
  obtain ⟨hd, hj⟩ := Bool.and_eq_true _ _ ▸ hj
  replace hd := of_decide_eq_true hd
  obtain ⟨hlen, hc⟩ := Bool.and_eq_true _ _ ▸ hj
  replace hlen := eq_of_beq hlen
  subst hlen
  simp only [jstep] at h
  split at h
  all_goals first
    | (cases h; done)
    | (cases h
       try dsimp only at hc
       exact ⟨jal2, fun _ q => q, fun hg _ k => ev_irem (fun z => by simp [z, jal] at hg) hd k⟩)
theorem jx_ladd {o nL len a b : Nat} {v : Value} {g : List Bool} {K : List (Nat × Nat)} {f : jF} (hoo : y.1.cls = jcn o) (hnL : y.2.2.1 = nL) (hj : jokb o nL y.2.1 pc (.ladd, len, a, b, v) = true) (h : jstep r (.ladd, len, a, b, v) L st w g K = some f) : jgo l G R y res mc ms c0 s0 pc (jnx pc (.ladd, len, a, b, v)) L st r w g K f := by
  obtain ⟨hd, hj⟩ := Bool.and_eq_true _ _ ▸ hj
  replace hd := of_decide_eq_true hd
  obtain ⟨hlen, hc⟩ := Bool.and_eq_true _ _ ▸ hj
  replace hlen := eq_of_beq hlen
  subst hlen
  simp only [jstep] at h
  split at h
  all_goals first
    | (cases h; done)
    | (cases h
       try dsimp only at hc
       exact ⟨id, fun _ q => q, fun hg _ k => ev_ladd  hd k⟩)
theorem jx_lsub {o nL len a b : Nat} {v : Value} {g : List Bool} {K : List (Nat × Nat)} {f : jF} (hoo : y.1.cls = jcn o) (hnL : y.2.2.1 = nL) (hj : jokb o nL y.2.1 pc (.lsub, len, a, b, v) = true) (h : jstep r (.lsub, len, a, b, v) L st w g K = some f) : jgo l G R y res mc ms c0 s0 pc (jnx pc (.lsub, len, a, b, v)) L st r w g K f := by
  obtain ⟨hd, hj⟩ := Bool.and_eq_true _ _ ▸ hj
  replace hd := of_decide_eq_true hd
  obtain ⟨hlen, hc⟩ := Bool.and_eq_true _ _ ▸ hj
  replace hlen := eq_of_beq hlen
  subst hlen
  simp only [jstep] at h
  split at h
  all_goals first
    | (cases h; done)
    | (cases h
       try dsimp only at hc
       exact ⟨id, fun _ q => q, fun hg _ k => ev_lsub  hd k⟩)
theorem jx_lmul {o nL len a b : Nat} {v : Value} {g : List Bool} {K : List (Nat × Nat)} {f : jF} (hoo : y.1.cls = jcn o) (hnL : y.2.2.1 = nL) (hj : jokb o nL y.2.1 pc (.lmul, len, a, b, v) = true) (h : jstep r (.lmul, len, a, b, v) L st w g K = some f) : jgo l G R y res mc ms c0 s0 pc (jnx pc (.lmul, len, a, b, v)) L st r w g K f := by
  obtain ⟨hd, hj⟩ := Bool.and_eq_true _ _ ▸ hj
  replace hd := of_decide_eq_true hd
  obtain ⟨hlen, hc⟩ := Bool.and_eq_true _ _ ▸ hj
  replace hlen := eq_of_beq hlen
  subst hlen
  simp only [jstep] at h
  split at h
  all_goals first
    | (cases h; done)
    | (cases h
       try dsimp only at hc
       exact ⟨id, fun _ q => q, fun hg _ k => ev_lmul  hd k⟩)
theorem jx_land {o nL len a b : Nat} {v : Value} {g : List Bool} {K : List (Nat × Nat)} {f : jF} (hoo : y.1.cls = jcn o) (hnL : y.2.2.1 = nL) (hj : jokb o nL y.2.1 pc (.land, len, a, b, v) = true) (h : jstep r (.land, len, a, b, v) L st w g K = some f) : jgo l G R y res mc ms c0 s0 pc (jnx pc (.land, len, a, b, v)) L st r w g K f := by
  obtain ⟨hd, hj⟩ := Bool.and_eq_true _ _ ▸ hj
  replace hd := of_decide_eq_true hd
  obtain ⟨hlen, hc⟩ := Bool.and_eq_true _ _ ▸ hj
  replace hlen := eq_of_beq hlen
  subst hlen
  simp only [jstep] at h
  split at h
  all_goals first
    | (cases h; done)
    | (cases h
       try dsimp only at hc
       exact ⟨id, fun _ q => q, fun hg _ k => ev_land  hd k⟩)
theorem jx_lor {o nL len a b : Nat} {v : Value} {g : List Bool} {K : List (Nat × Nat)} {f : jF} (hoo : y.1.cls = jcn o) (hnL : y.2.2.1 = nL) (hj : jokb o nL y.2.1 pc (.lor, len, a, b, v) = true) (h : jstep r (.lor, len, a, b, v) L st w g K = some f) : jgo l G R y res mc ms c0 s0 pc (jnx pc (.lor, len, a, b, v)) L st r w g K f := by
  obtain ⟨hd, hj⟩ := Bool.and_eq_true _ _ ▸ hj
  replace hd := of_decide_eq_true hd
  obtain ⟨hlen, hc⟩ := Bool.and_eq_true _ _ ▸ hj
  replace hlen := eq_of_beq hlen
  subst hlen
  simp only [jstep] at h
  split at h
  all_goals first
    | (cases h; done)
    | (cases h
       try dsimp only at hc
       exact ⟨id, fun _ q => q, fun hg _ k => ev_lor  hd k⟩)
theorem jx_lxor {o nL len a b : Nat} {v : Value} {g : List Bool} {K : List (Nat × Nat)} {f : jF} (hoo : y.1.cls = jcn o) (hnL : y.2.2.1 = nL) (hj : jokb o nL y.2.1 pc (.lxor, len, a, b, v) = true) (h : jstep r (.lxor, len, a, b, v) L st w g K = some f) : jgo l G R y res mc ms c0 s0 pc (jnx pc (.lxor, len, a, b, v)) L st r w g K f := by
  obtain ⟨hd, hj⟩ := Bool.and_eq_true _ _ ▸ hj
  replace hd := of_decide_eq_true hd
  obtain ⟨hlen, hc⟩ := Bool.and_eq_true _ _ ▸ hj
  replace hlen := eq_of_beq hlen
  subst hlen
  simp only [jstep] at h
  split at h
  all_goals first
    | (cases h; done)
    | (cases h
       try dsimp only at hc
       exact ⟨id, fun _ q => q, fun hg _ k => ev_lxor  hd k⟩)
theorem jx_ldiv {o nL len a b : Nat} {v : Value} {g : List Bool} {K : List (Nat × Nat)} {f : jF} (hoo : y.1.cls = jcn o) (hnL : y.2.2.1 = nL) (hj : jokb o nL y.2.1 pc (.ldiv, len, a, b, v) = true) (h : jstep r (.ldiv, len, a, b, v) L st w g K = some f) : jgo l G R y res mc ms c0 s0 pc (jnx pc (.ldiv, len, a, b, v)) L st r w g K f := by
  obtain ⟨hd, hj⟩ := Bool.and_eq_true _ _ ▸ hj
  replace hd := of_decide_eq_true hd
  obtain ⟨hlen, hc⟩ := Bool.and_eq_true _ _ ▸ hj
  replace hlen := eq_of_beq hlen
  subst hlen
  simp only [jstep] at h
  split at h
  all_goals first
    | (cases h; done)
    | (cases h
       try dsimp only at hc
       exact ⟨jal2, fun _ q => q, fun hg _ k => ev_ldiv (fun z => by simp [z, jal] at hg) hd k⟩)
theorem jx_lrem {o nL len a b : Nat} {v : Value} {g : List Bool} {K : List (Nat × Nat)} {f : jF} (hoo : y.1.cls = jcn o) (hnL : y.2.2.1 = nL) (hj : jokb o nL y.2.1 pc (.lrem, len, a, b, v) = true) (h : jstep r (.lrem, len, a, b, v) L st w g K = some f) : jgo l G R y res mc ms c0 s0 pc (jnx pc (.lrem, len, a, b, v)) L st r w g K f := by
  obtain ⟨hd, hj⟩ := Bool.and_eq_true _ _ ▸ hj
  replace hd := of_decide_eq_true hd
  obtain ⟨hlen, hc⟩ := Bool.and_eq_true _ _ ▸ hj
  replace hlen := eq_of_beq hlen
  subst hlen
  simp only [jstep] at h
  split at h
  all_goals first
    | (cases h; done)
    | (cases h
       try dsimp only at hc
       exact ⟨jal2, fun _ q => q, fun hg _ k => ev_lrem (fun z => by simp [z, jal] at hg) hd k⟩)
theorem jx_lshl {o nL len a b : Nat} {v : Value} {g : List Bool} {K : List (Nat × Nat)} {f : jF} (hoo : y.1.cls = jcn o) (hnL : y.2.2.1 = nL) (hj : jokb o nL y.2.1 pc (.lshl, len, a, b, v) = true) (h : jstep r (.lshl, len, a, b, v) L st w g K = some f) : jgo l G R y res mc ms c0 s0 pc (jnx pc (.lshl, len, a, b, v)) L st r w g K f := by
  obtain ⟨hd, hj⟩ := Bool.and_eq_true _ _ ▸ hj
  replace hd := of_decide_eq_true hd
  obtain ⟨hlen, hc⟩ := Bool.and_eq_true _ _ ▸ hj
  replace hlen := eq_of_beq hlen
  subst hlen
  simp only [jstep] at h
  split at h
  all_goals first
    | (cases h; done)
    | (cases h
       try dsimp only at hc
       exact ⟨id, fun _ q => q, fun hg _ k => ev_lshl  hd k⟩)
theorem jx_lshr {o nL len a b : Nat} {v : Value} {g : List Bool} {K : List (Nat × Nat)} {f : jF} (hoo : y.1.cls = jcn o) (hnL : y.2.2.1 = nL) (hj : jokb o nL y.2.1 pc (.lshr, len, a, b, v) = true) (h : jstep r (.lshr, len, a, b, v) L st w g K = some f) : jgo l G R y res mc ms c0 s0 pc (jnx pc (.lshr, len, a, b, v)) L st r w g K f := by
  obtain ⟨hd, hj⟩ := Bool.and_eq_true _ _ ▸ hj
  replace hd := of_decide_eq_true hd
  obtain ⟨hlen, hc⟩ := Bool.and_eq_true _ _ ▸ hj
  replace hlen := eq_of_beq hlen
  subst hlen
  simp only [jstep] at h
  split at h
  all_goals first
    | (cases h; done)
    | (cases h
       try dsimp only at hc
       exact ⟨id, fun _ q => q, fun hg _ k => ev_lshr  hd k⟩)
theorem jx_lushr {o nL len a b : Nat} {v : Value} {g : List Bool} {K : List (Nat × Nat)} {f : jF} (hoo : y.1.cls = jcn o) (hnL : y.2.2.1 = nL) (hj : jokb o nL y.2.1 pc (.lushr, len, a, b, v) = true) (h : jstep r (.lushr, len, a, b, v) L st w g K = some f) : jgo l G R y res mc ms c0 s0 pc (jnx pc (.lushr, len, a, b, v)) L st r w g K f := by
  obtain ⟨hd, hj⟩ := Bool.and_eq_true _ _ ▸ hj
  replace hd := of_decide_eq_true hd
  obtain ⟨hlen, hc⟩ := Bool.and_eq_true _ _ ▸ hj
  replace hlen := eq_of_beq hlen
  subst hlen
  simp only [jstep] at h
  split at h
  all_goals first
    | (cases h; done)
    | (cases h
       try dsimp only at hc
       exact ⟨id, fun _ q => q, fun hg _ k => ev_lushr  hd k⟩)
theorem jx_i2l {o nL len a b : Nat} {v : Value} {g : List Bool} {K : List (Nat × Nat)} {f : jF} (hoo : y.1.cls = jcn o) (hnL : y.2.2.1 = nL) (hj : jokb o nL y.2.1 pc (.i2l, len, a, b, v) = true) (h : jstep r (.i2l, len, a, b, v) L st w g K = some f) : jgo l G R y res mc ms c0 s0 pc (jnx pc (.i2l, len, a, b, v)) L st r w g K f := by
  obtain ⟨hd, hj⟩ := Bool.and_eq_true _ _ ▸ hj
  replace hd := of_decide_eq_true hd
  obtain ⟨hlen, hc⟩ := Bool.and_eq_true _ _ ▸ hj
  replace hlen := eq_of_beq hlen
  subst hlen
  simp only [jstep] at h
  split at h
  all_goals first
    | (cases h; done)
    | (cases h
       try dsimp only at hc
       exact ⟨id, fun _ q => q, fun hg _ k => ev_i2l  hd k⟩)
theorem jx_l2i {o nL len a b : Nat} {v : Value} {g : List Bool} {K : List (Nat × Nat)} {f : jF} (hoo : y.1.cls = jcn o) (hnL : y.2.2.1 = nL) (hj : jokb o nL y.2.1 pc (.l2i, len, a, b, v) = true) (h : jstep r (.l2i, len, a, b, v) L st w g K = some f) : jgo l G R y res mc ms c0 s0 pc (jnx pc (.l2i, len, a, b, v)) L st r w g K f := by
  obtain ⟨hd, hj⟩ := Bool.and_eq_true _ _ ▸ hj
  replace hd := of_decide_eq_true hd
  obtain ⟨hlen, hc⟩ := Bool.and_eq_true _ _ ▸ hj
  replace hlen := eq_of_beq hlen
  subst hlen
  simp only [jstep] at h
  split at h
  all_goals first
    | (cases h; done)
    | (cases h
       try dsimp only at hc
       exact ⟨id, fun _ q => q, fun hg _ k => ev_l2i  hd k⟩)
theorem jx_ineg {o nL len a b : Nat} {v : Value} {g : List Bool} {K : List (Nat × Nat)} {f : jF} (hoo : y.1.cls = jcn o) (hnL : y.2.2.1 = nL) (hj : jokb o nL y.2.1 pc (.ineg, len, a, b, v) = true) (h : jstep r (.ineg, len, a, b, v) L st w g K = some f) : jgo l G R y res mc ms c0 s0 pc (jnx pc (.ineg, len, a, b, v)) L st r w g K f := by
  obtain ⟨hd, hj⟩ := Bool.and_eq_true _ _ ▸ hj
  replace hd := of_decide_eq_true hd
  obtain ⟨hlen, hc⟩ := Bool.and_eq_true _ _ ▸ hj
  replace hlen := eq_of_beq hlen
  subst hlen
  simp only [jstep] at h
  split at h
  all_goals first
    | (cases h; done)
    | (cases h
       try dsimp only at hc
       exact ⟨id, fun _ q => q, fun hg _ k => ev_ineg  hd k⟩)
theorem jx_lcmp {o nL len a b : Nat} {v : Value} {g : List Bool} {K : List (Nat × Nat)} {f : jF} (hoo : y.1.cls = jcn o) (hnL : y.2.2.1 = nL) (hj : jokb o nL y.2.1 pc (.lcmp, len, a, b, v) = true) (h : jstep r (.lcmp, len, a, b, v) L st w g K = some f) : jgo l G R y res mc ms c0 s0 pc (jnx pc (.lcmp, len, a, b, v)) L st r w g K f := by
  obtain ⟨hd, hj⟩ := Bool.and_eq_true _ _ ▸ hj
  replace hd := of_decide_eq_true hd
  obtain ⟨hlen, hc⟩ := Bool.and_eq_true _ _ ▸ hj
  replace hlen := eq_of_beq hlen
  subst hlen
  simp only [jstep] at h
  split at h
  all_goals first
    | (cases h; done)
    | (cases h
       try dsimp only at hc
       exact ⟨id, fun _ q => q, fun hg _ k => ev_lcmp  hd k⟩)
theorem jx_dup {o nL len a b : Nat} {v : Value} {g : List Bool} {K : List (Nat × Nat)} {f : jF} (hoo : y.1.cls = jcn o) (hnL : y.2.2.1 = nL) (hj : jokb o nL y.2.1 pc (.dup, len, a, b, v) = true) (h : jstep r (.dup, len, a, b, v) L st w g K = some f) : jgo l G R y res mc ms c0 s0 pc (jnx pc (.dup, len, a, b, v)) L st r w g K f := by
  obtain ⟨hd, hj⟩ := Bool.and_eq_true _ _ ▸ hj
  replace hd := of_decide_eq_true hd
  obtain ⟨hlen, hc⟩ := Bool.and_eq_true _ _ ▸ hj
  replace hlen := eq_of_beq hlen
  subst hlen
  simp only [jstep] at h
  split at h
  all_goals first
    | (cases h; done)
    | (cases h
       try dsimp only at hc
       exact ⟨id, fun _ q => q, fun _ _ k => ev_dup rfl hd k⟩)
theorem jx_pop {o nL len a b : Nat} {v : Value} {g : List Bool} {K : List (Nat × Nat)} {f : jF} (hoo : y.1.cls = jcn o) (hnL : y.2.2.1 = nL) (hj : jokb o nL y.2.1 pc (.pop, len, a, b, v) = true) (h : jstep r (.pop, len, a, b, v) L st w g K = some f) : jgo l G R y res mc ms c0 s0 pc (jnx pc (.pop, len, a, b, v)) L st r w g K f := by
  obtain ⟨hd, hj⟩ := Bool.and_eq_true _ _ ▸ hj
  replace hd := of_decide_eq_true hd
  obtain ⟨hlen, hc⟩ := Bool.and_eq_true _ _ ▸ hj
  replace hlen := eq_of_beq hlen
  subst hlen
  simp only [jstep] at h
  split at h
  all_goals first
    | (cases h; done)
    | (cases h
       try dsimp only at hc
       exact ⟨id, fun _ q => q, fun _ _ k => ev_pop rfl hd k⟩)
theorem jx_dup2 {o nL len a b : Nat} {v : Value} {g : List Bool} {K : List (Nat × Nat)} {f : jF} (hoo : y.1.cls = jcn o) (hnL : y.2.2.1 = nL) (hj : jokb o nL y.2.1 pc (.dup2, len, a, b, v) = true) (h : jstep r (.dup2, len, a, b, v) L st w g K = some f) : jgo l G R y res mc ms c0 s0 pc (jnx pc (.dup2, len, a, b, v)) L st r w g K f := by
  obtain ⟨hd, hj⟩ := Bool.and_eq_true _ _ ▸ hj
  replace hd := of_decide_eq_true hd
  obtain ⟨hlen, hc⟩ := Bool.and_eq_true _ _ ▸ hj
  replace hlen := eq_of_beq hlen
  subst hlen
  simp only [jstep] at h
  split at h
  all_goals first
    | (cases h; done)
    | (cases h
       try dsimp only at hc
       first | exact ⟨id, fun _ q => q, fun _ _ k => ev_dup2_11 rfl rfl hd k⟩ | exact ⟨id, fun _ q => q, fun _ _ k => ev_dup2_2 rfl hd k⟩)
theorem jx_dup_x1 {o nL len a b : Nat} {v : Value} {g : List Bool} {K : List (Nat × Nat)} {f : jF} (hoo : y.1.cls = jcn o) (hnL : y.2.2.1 = nL) (hj : jokb o nL y.2.1 pc (.dup_x1, len, a, b, v) = true) (h : jstep r (.dup_x1, len, a, b, v) L st w g K = some f) : jgo l G R y res mc ms c0 s0 pc (jnx pc (.dup_x1, len, a, b, v)) L st r w g K f := by
  obtain ⟨hd, hj⟩ := Bool.and_eq_true _ _ ▸ hj
  replace hd := of_decide_eq_true hd
  obtain ⟨hlen, hc⟩ := Bool.and_eq_true _ _ ▸ hj
  replace hlen := eq_of_beq hlen
  subst hlen
  simp only [jstep] at h
  split at h
  all_goals first
    | (cases h; done)
    | (cases h
       try dsimp only at hc
       exact ⟨id, fun _ q => q, fun _ _ k => ev_dup_x1 rfl rfl hd k⟩)
theorem jx_iconst {o nL len a b : Nat} {v : Value} {g : List Bool} {K : List (Nat × Nat)} {f : jF} (hoo : y.1.cls = jcn o) (hnL : y.2.2.1 = nL) {n : Int} (hj : jokb o nL y.2.1 pc (.iconst n, len, a, b, v) = true) (h : jstep r (.iconst n, len, a, b, v) L st w g K = some f) : jgo l G R y res mc ms c0 s0 pc (jnx pc (.iconst n, len, a, b, v)) L st r w g K f := by
  obtain ⟨hd, hj⟩ := Bool.and_eq_true _ _ ▸ hj
  replace hd := of_decide_eq_true hd
  obtain ⟨hlen, hc⟩ := Bool.and_eq_true _ _ ▸ hj
  replace hlen := eq_of_beq hlen
  subst hlen
  simp only [jstep] at h
  split at h
  all_goals first
    | (cases h; done)
    | (cases h
       try dsimp only at hc
       exact ⟨id, fun _ q => q, fun _ _ k => ev_iconst (by have h9 := of_decide_eq_true hc; injection h9 with h9; exact h9.symm) hd k⟩)
theorem jx_bipush {o nL len a b : Nat} {v : Value} {g : List Bool} {K : List (Nat × Nat)} {f : jF} (hoo : y.1.cls = jcn o) (hnL : y.2.2.1 = nL) {n : Int} (hj : jokb o nL y.2.1 pc (.bipush n, len, a, b, v) = true) (h : jstep r (.bipush n, len, a, b, v) L st w g K = some f) : jgo l G R y res mc ms c0 s0 pc (jnx pc (.bipush n, len, a, b, v)) L st r w g K f := by
  obtain ⟨hd, hj⟩ := Bool.and_eq_true _ _ ▸ hj
  replace hd := of_decide_eq_true hd
  obtain ⟨hlen, hc⟩ := Bool.and_eq_true _ _ ▸ hj
  replace hlen := eq_of_beq hlen
  subst hlen
  simp only [jstep] at h
  split at h
  all_goals first
    | (cases h; done)
    | (cases h
       try dsimp only at hc
       exact ⟨id, fun _ q => q, fun _ _ k => ev_bipush (by have h9 := of_decide_eq_true hc; injection h9 with h9; exact h9.symm) hd k⟩)
theorem jx_sipush {o nL len a b : Nat} {v : Value} {g : List Bool} {K : List (Nat × Nat)} {f : jF} (hoo : y.1.cls = jcn o) (hnL : y.2.2.1 = nL) {n : Int} (hj : jokb o nL y.2.1 pc (.sipush n, len, a, b, v) = true) (h : jstep r (.sipush n, len, a, b, v) L st w g K = some f) : jgo l G R y res mc ms c0 s0 pc (jnx pc (.sipush n, len, a, b, v)) L st r w g K f := by
  obtain ⟨hd, hj⟩ := Bool.and_eq_true _ _ ▸ hj
  replace hd := of_decide_eq_true hd
  obtain ⟨hlen, hc⟩ := Bool.and_eq_true _ _ ▸ hj
  replace hlen := eq_of_beq hlen
  subst hlen
  simp only [jstep] at h
  split at h
  all_goals first
    | (cases h; done)
    | (cases h
       try dsimp only at hc
       exact ⟨id, fun _ q => q, fun _ _ k => ev_sipush (by have h9 := of_decide_eq_true hc; injection h9 with h9; exact h9.symm) hd k⟩)
theorem jx_lconst {o nL len a b : Nat} {v : Value} {g : List Bool} {K : List (Nat × Nat)} {f : jF} (hoo : y.1.cls = jcn o) (hnL : y.2.2.1 = nL) {n : Fin 2} (hj : jokb o nL y.2.1 pc (.lconst n, len, a, b, v) = true) (h : jstep r (.lconst n, len, a, b, v) L st w g K = some f) : jgo l G R y res mc ms c0 s0 pc (jnx pc (.lconst n, len, a, b, v)) L st r w g K f := by
  obtain ⟨hd, hj⟩ := Bool.and_eq_true _ _ ▸ hj
  replace hd := of_decide_eq_true hd
  obtain ⟨hlen, hc⟩ := Bool.and_eq_true _ _ ▸ hj
  replace hlen := eq_of_beq hlen
  subst hlen
  simp only [jstep] at h
  split at h
  all_goals first
    | (cases h; done)
    | (cases h
       try dsimp only at hc
       exact ⟨id, fun _ q => q, fun _ _ k => ev_lconst (by have h9 := of_decide_eq_true hc; injection h9 with h9; exact h9.symm) hd k⟩)
theorem jx_ldc {o nL len a b : Nat} {v : Value} {g : List Bool} {K : List (Nat × Nat)} {f : jF} (hoo : y.1.cls = jcn o) (hnL : y.2.2.1 = nL) {idx : Nat} (hj : jokb o nL y.2.1 pc (.ldc idx, len, a, b, v) = true) (h : jstep r (.ldc idx, len, a, b, v) L st w g K = some f) : jgo l G R y res mc ms c0 s0 pc (jnx pc (.ldc idx, len, a, b, v)) L st r w g K f := by
  obtain ⟨hd, hj⟩ := Bool.and_eq_true _ _ ▸ hj
  replace hd := of_decide_eq_true hd
  obtain ⟨hlen, hc⟩ := Bool.and_eq_true _ _ ▸ hj
  replace hlen := eq_of_beq hlen
  subst hlen
  simp only [jstep] at h
  split at h
  all_goals first
    | (cases h; done)
    | (cases h
       try dsimp only at hc
       exact ⟨id, fun _ q => q, fun _ _ k => ev_ldc hoo (jck_ok (of_decide_eq_true hc)) hd k⟩)
theorem jx_ldc_w {o nL len a b : Nat} {v : Value} {g : List Bool} {K : List (Nat × Nat)} {f : jF} (hoo : y.1.cls = jcn o) (hnL : y.2.2.1 = nL) {idx : Nat} (hj : jokb o nL y.2.1 pc (.ldc_w idx, len, a, b, v) = true) (h : jstep r (.ldc_w idx, len, a, b, v) L st w g K = some f) : jgo l G R y res mc ms c0 s0 pc (jnx pc (.ldc_w idx, len, a, b, v)) L st r w g K f := by
  obtain ⟨hd, hj⟩ := Bool.and_eq_true _ _ ▸ hj
  replace hd := of_decide_eq_true hd
  obtain ⟨hlen, hc⟩ := Bool.and_eq_true _ _ ▸ hj
  replace hlen := eq_of_beq hlen
  subst hlen
  simp only [jstep] at h
  split at h
  all_goals first
    | (cases h; done)
    | (cases h
       try dsimp only at hc
       exact ⟨id, fun _ q => q, fun _ _ k => ev_ldc_w hoo (jck_ok (of_decide_eq_true hc)) hd k⟩)
theorem jx_ldc2_w {o nL len a b : Nat} {v : Value} {g : List Bool} {K : List (Nat × Nat)} {f : jF} (hoo : y.1.cls = jcn o) (hnL : y.2.2.1 = nL) {idx : Nat} (hj : jokb o nL y.2.1 pc (.ldc2_w idx, len, a, b, v) = true) (h : jstep r (.ldc2_w idx, len, a, b, v) L st w g K = some f) : jgo l G R y res mc ms c0 s0 pc (jnx pc (.ldc2_w idx, len, a, b, v)) L st r w g K f := by
  obtain ⟨hd, hj⟩ := Bool.and_eq_true _ _ ▸ hj
  replace hd := of_decide_eq_true hd
  obtain ⟨hlen, hc⟩ := Bool.and_eq_true _ _ ▸ hj
  replace hlen := eq_of_beq hlen
  subst hlen
  simp only [jstep] at h
  split at h
  all_goals first
    | (cases h; done)
    | (cases h
       try dsimp only at hc
       exact ⟨id, fun _ q => q, fun _ _ k => ev_ldc2_w hoo (jclk_ok (of_decide_eq_true hc)) hd k⟩)
theorem jx_iload_n {o nL len a b : Nat} {v : Value} {g : List Bool} {K : List (Nat × Nat)} {f : jF} (hoo : y.1.cls = jcn o) (hnL : y.2.2.1 = nL) {n : Fin 4} (hj : jokb o nL y.2.1 pc (.iload_n n, len, a, b, v) = true) (h : jstep r (.iload_n n, len, a, b, v) L st w g K = some f) : jgo l G R y res mc ms c0 s0 pc (jnx pc (.iload_n n, len, a, b, v)) L st r w g K f := by
  obtain ⟨hd, hj⟩ := Bool.and_eq_true _ _ ▸ hj
  replace hd := of_decide_eq_true hd
  obtain ⟨hlen, hc⟩ := Bool.and_eq_true _ _ ▸ hj
  replace hlen := eq_of_beq hlen
  subst hlen
  simp only [jstep] at h
  split at h
  all_goals first
    | (cases h; done)
    | (cases h
       try dsimp only at hc
       exact ⟨id, fun _ q => q, fun _ _ k => ev_iload_n (by simpa using hc) (by assumption) hd k⟩)
theorem jx_iload {o nL len a b : Nat} {v : Value} {g : List Bool} {K : List (Nat × Nat)} {f : jF} (hoo : y.1.cls = jcn o) (hnL : y.2.2.1 = nL) {n : Nat} (hj : jokb o nL y.2.1 pc (.iload n, len, a, b, v) = true) (h : jstep r (.iload n, len, a, b, v) L st w g K = some f) : jgo l G R y res mc ms c0 s0 pc (jnx pc (.iload n, len, a, b, v)) L st r w g K f := by
  obtain ⟨hd, hj⟩ := Bool.and_eq_true _ _ ▸ hj
  replace hd := of_decide_eq_true hd
  obtain ⟨hlen, hc⟩ := Bool.and_eq_true _ _ ▸ hj
  replace hlen := eq_of_beq hlen
  subst hlen
  simp only [jstep] at h
  split at h
  all_goals first
    | (cases h; done)
    | (cases h
       try dsimp only at hc
       have hc2 : n = a := by simpa using hc
       subst hc2
       exact ⟨id, fun _ q => q, fun _ _ k => ev_iload (by assumption) hd k⟩)
theorem jx_lload_n {o nL len a b : Nat} {v : Value} {g : List Bool} {K : List (Nat × Nat)} {f : jF} (hoo : y.1.cls = jcn o) (hnL : y.2.2.1 = nL) {n : Fin 4} (hj : jokb o nL y.2.1 pc (.lload_n n, len, a, b, v) = true) (h : jstep r (.lload_n n, len, a, b, v) L st w g K = some f) : jgo l G R y res mc ms c0 s0 pc (jnx pc (.lload_n n, len, a, b, v)) L st r w g K f := by
  obtain ⟨hd, hj⟩ := Bool.and_eq_true _ _ ▸ hj
  replace hd := of_decide_eq_true hd
  obtain ⟨hlen, hc⟩ := Bool.and_eq_true _ _ ▸ hj
  replace hlen := eq_of_beq hlen
  subst hlen
  simp only [jstep] at h
  split at h
  all_goals first
    | (cases h; done)
    | (cases h
       try dsimp only at hc
       exact ⟨id, fun _ q => q, fun _ _ k => ev_lload_n (by simpa using hc) (by assumption) hd k⟩)
theorem jx_lload {o nL len a b : Nat} {v : Value} {g : List Bool} {K : List (Nat × Nat)} {f : jF} (hoo : y.1.cls = jcn o) (hnL : y.2.2.1 = nL) {n : Nat} (hj : jokb o nL y.2.1 pc (.lload n, len, a, b, v) = true) (h : jstep r (.lload n, len, a, b, v) L st w g K = some f) : jgo l G R y res mc ms c0 s0 pc (jnx pc (.lload n, len, a, b, v)) L st r w g K f := by
  obtain ⟨hd, hj⟩ := Bool.and_eq_true _ _ ▸ hj
  replace hd := of_decide_eq_true hd
  obtain ⟨hlen, hc⟩ := Bool.and_eq_true _ _ ▸ hj
  replace hlen := eq_of_beq hlen
  subst hlen
  simp only [jstep] at h
  split at h
  all_goals first
    | (cases h; done)
    | (cases h
       try dsimp only at hc
       have hc2 : n = a := by simpa using hc
       subst hc2
       exact ⟨id, fun _ q => q, fun _ _ k => ev_lload (by assumption) hd k⟩)
theorem jx_aload_n {o nL len a b : Nat} {v : Value} {g : List Bool} {K : List (Nat × Nat)} {f : jF} (hoo : y.1.cls = jcn o) (hnL : y.2.2.1 = nL) {n : Fin 4} (hj : jokb o nL y.2.1 pc (.aload_n n, len, a, b, v) = true) (h : jstep r (.aload_n n, len, a, b, v) L st w g K = some f) : jgo l G R y res mc ms c0 s0 pc (jnx pc (.aload_n n, len, a, b, v)) L st r w g K f := by
  obtain ⟨hd, hj⟩ := Bool.and_eq_true _ _ ▸ hj
  replace hd := of_decide_eq_true hd
  obtain ⟨hlen, hc⟩ := Bool.and_eq_true _ _ ▸ hj
  replace hlen := eq_of_beq hlen
  subst hlen
  simp only [jstep] at h
  split at h
  all_goals first
    | (cases h; done)
    | (cases h
       try dsimp only at hc
       exact ⟨id, fun _ q => q, fun _ _ k => ev_aload_n (by simpa using hc) (by assumption) hd k⟩)
theorem jx_aload {o nL len a b : Nat} {v : Value} {g : List Bool} {K : List (Nat × Nat)} {f : jF} (hoo : y.1.cls = jcn o) (hnL : y.2.2.1 = nL) {n : Nat} (hj : jokb o nL y.2.1 pc (.aload n, len, a, b, v) = true) (h : jstep r (.aload n, len, a, b, v) L st w g K = some f) : jgo l G R y res mc ms c0 s0 pc (jnx pc (.aload n, len, a, b, v)) L st r w g K f := by
  obtain ⟨hd, hj⟩ := Bool.and_eq_true _ _ ▸ hj
  replace hd := of_decide_eq_true hd
  obtain ⟨hlen, hc⟩ := Bool.and_eq_true _ _ ▸ hj
  replace hlen := eq_of_beq hlen
  subst hlen
  simp only [jstep] at h
  split at h
  all_goals first
    | (cases h; done)
    | (cases h
       try dsimp only at hc
       have hc2 : n = a := by simpa using hc
       subst hc2
       exact ⟨id, fun _ q => q, fun _ _ k => ev_aload (by assumption) hd k⟩)
theorem jx_istore_n {o nL len a b : Nat} {v : Value} {g : List Bool} {K : List (Nat × Nat)} {f : jF} (hoo : y.1.cls = jcn o) (hnL : y.2.2.1 = nL) {n : Fin 4} (hj : jokb o nL y.2.1 pc (.istore_n n, len, a, b, v) = true) (h : jstep r (.istore_n n, len, a, b, v) L st w g K = some f) : jgo l G R y res mc ms c0 s0 pc (jnx pc (.istore_n n, len, a, b, v)) L st r w g K f := by
  obtain ⟨hd, hj⟩ := Bool.and_eq_true _ _ ▸ hj
  replace hd := of_decide_eq_true hd
  obtain ⟨hlen, hc⟩ := Bool.and_eq_true _ _ ▸ hj
  replace hlen := eq_of_beq hlen
  subst hlen
  simp only [jstep] at h
  split at h
  all_goals first
    | (cases h; done)
    | (cases h
       try dsimp only at hc
       obtain ⟨hc2, hc3⟩ : (n : Nat) = a ∧ a < nL := by simpa using hc
       subst hc2
       exact ⟨id, fun _ q => q, fun _ _ k => ev_istore_n rfl hd (by rw [hnL]; exact hc3) k⟩)
theorem jx_istore {o nL len a b : Nat} {v : Value} {g : List Bool} {K : List (Nat × Nat)} {f : jF} (hoo : y.1.cls = jcn o) (hnL : y.2.2.1 = nL) {n : Nat} (hj : jokb o nL y.2.1 pc (.istore n, len, a, b, v) = true) (h : jstep r (.istore n, len, a, b, v) L st w g K = some f) : jgo l G R y res mc ms c0 s0 pc (jnx pc (.istore n, len, a, b, v)) L st r w g K f := by
  obtain ⟨hd, hj⟩ := Bool.and_eq_true _ _ ▸ hj
  replace hd := of_decide_eq_true hd
  obtain ⟨hlen, hc⟩ := Bool.and_eq_true _ _ ▸ hj
  replace hlen := eq_of_beq hlen
  subst hlen
  simp only [jstep] at h
  split at h
  all_goals first
    | (cases h; done)
    | (cases h
       try dsimp only at hc
       obtain ⟨hc2, hc3⟩ : n = a ∧ a < nL := by simpa using hc
       subst hc2
       exact ⟨id, fun _ q => q, fun _ _ k => ev_istore hd (by rw [hnL]; exact hc3) k⟩)
theorem jx_lstore_n {o nL len a b : Nat} {v : Value} {g : List Bool} {K : List (Nat × Nat)} {f : jF} (hoo : y.1.cls = jcn o) (hnL : y.2.2.1 = nL) {n : Fin 4} (hj : jokb o nL y.2.1 pc (.lstore_n n, len, a, b, v) = true) (h : jstep r (.lstore_n n, len, a, b, v) L st w g K = some f) : jgo l G R y res mc ms c0 s0 pc (jnx pc (.lstore_n n, len, a, b, v)) L st r w g K f := by
  obtain ⟨hd, hj⟩ := Bool.and_eq_true _ _ ▸ hj
  replace hd := of_decide_eq_true hd
  obtain ⟨hlen, hc⟩ := Bool.and_eq_true _ _ ▸ hj
  replace hlen := eq_of_beq hlen
  subst hlen
  simp only [jstep] at h
  split at h
  all_goals first
    | (cases h; done)
    | (cases h
       try dsimp only at hc
       obtain ⟨hc2, hc3⟩ : (n : Nat) = a ∧ a + 1 < nL := by simpa using hc
       subst hc2
       exact ⟨id, fun _ q => q, fun _ _ k => ev_lstore_n rfl hd (by rw [hnL]; exact hc3) k⟩)
theorem jx_lstore {o nL len a b : Nat} {v : Value} {g : List Bool} {K : List (Nat × Nat)} {f : jF} (hoo : y.1.cls = jcn o) (hnL : y.2.2.1 = nL) {n : Nat} (hj : jokb o nL y.2.1 pc (.lstore n, len, a, b, v) = true) (h : jstep r (.lstore n, len, a, b, v) L st w g K = some f) : jgo l G R y res mc ms c0 s0 pc (jnx pc (.lstore n, len, a, b, v)) L st r w g K f := by
  obtain ⟨hd, hj⟩ := Bool.and_eq_true _ _ ▸ hj
  replace hd := of_decide_eq_true hd
  obtain ⟨hlen, hc⟩ := Bool.and_eq_true _ _ ▸ hj
  replace hlen := eq_of_beq hlen
  subst hlen
  simp only [jstep] at h
  split at h
  all_goals first
    | (cases h; done)
    | (cases h
       try dsimp only at hc
       obtain ⟨hc2, hc3⟩ : n = a ∧ a + 1 < nL := by simpa using hc
       subst hc2
       exact ⟨id, fun _ q => q, fun _ _ k => ev_lstore hd (by rw [hnL]; exact hc3) k⟩)
theorem jx_astore_n {o nL len a b : Nat} {v : Value} {g : List Bool} {K : List (Nat × Nat)} {f : jF} (hoo : y.1.cls = jcn o) (hnL : y.2.2.1 = nL) {n : Fin 4} (hj : jokb o nL y.2.1 pc (.astore_n n, len, a, b, v) = true) (h : jstep r (.astore_n n, len, a, b, v) L st w g K = some f) : jgo l G R y res mc ms c0 s0 pc (jnx pc (.astore_n n, len, a, b, v)) L st r w g K f := by
  obtain ⟨hd, hj⟩ := Bool.and_eq_true _ _ ▸ hj
  replace hd := of_decide_eq_true hd
  obtain ⟨hlen, hc⟩ := Bool.and_eq_true _ _ ▸ hj
  replace hlen := eq_of_beq hlen
  subst hlen
  simp only [jstep] at h
  split at h
  all_goals first
    | (cases h; done)
    | (cases h
       try dsimp only at hc
       obtain ⟨hc2, hc3⟩ : (n : Nat) = a ∧ a < nL := by simpa using hc
       subst hc2
       exact ⟨id, fun _ q => q, fun _ _ k => ev_astore_n rfl hd (by rw [hnL]; exact hc3) k⟩)
theorem jx_astore {o nL len a b : Nat} {v : Value} {g : List Bool} {K : List (Nat × Nat)} {f : jF} (hoo : y.1.cls = jcn o) (hnL : y.2.2.1 = nL) {n : Nat} (hj : jokb o nL y.2.1 pc (.astore n, len, a, b, v) = true) (h : jstep r (.astore n, len, a, b, v) L st w g K = some f) : jgo l G R y res mc ms c0 s0 pc (jnx pc (.astore n, len, a, b, v)) L st r w g K f := by
  obtain ⟨hd, hj⟩ := Bool.and_eq_true _ _ ▸ hj
  replace hd := of_decide_eq_true hd
  obtain ⟨hlen, hc⟩ := Bool.and_eq_true _ _ ▸ hj
  replace hlen := eq_of_beq hlen
  subst hlen
  simp only [jstep] at h
  split at h
  all_goals first
    | (cases h; done)
    | (cases h
       try dsimp only at hc
       obtain ⟨hc2, hc3⟩ : n = a ∧ a < nL := by simpa using hc
       subst hc2
       exact ⟨id, fun _ q => q, fun _ _ k => ev_astore hd (by rw [hnL]; exact hc3) k⟩)
theorem jx_iinc {o nL len a b : Nat} {v : Value} {g : List Bool} {K : List (Nat × Nat)} {f : jF} (hoo : y.1.cls = jcn o) (hnL : y.2.2.1 = nL) {n : Nat} {d : Int} (hj : jokb o nL y.2.1 pc (.iinc n d, len, a, b, v) = true) (h : jstep r (.iinc n d, len, a, b, v) L st w g K = some f) : jgo l G R y res mc ms c0 s0 pc (jnx pc (.iinc n d, len, a, b, v)) L st r w g K f := by
  obtain ⟨hd, hj⟩ := Bool.and_eq_true _ _ ▸ hj
  replace hd := of_decide_eq_true hd
  obtain ⟨hlen, hc⟩ := Bool.and_eq_true _ _ ▸ hj
  replace hlen := eq_of_beq hlen
  subst hlen
  simp only [jstep] at h
  split at h
  all_goals first
    | (cases h; done)
    | (cases h
       try dsimp only at hc
       obtain ⟨⟨hc2, hc3⟩, hc4⟩ : (n = a ∧ a < nL) ∧ _ = Int32.ofInt d := by simpa using hc
       subst hc2
       exact ⟨id, fun _ q => q, fun _ _ k => ev_iinc hd (by assumption) (by rw [hc4]) (by rw [hnL]; exact hc3) k⟩)
theorem jx_getfield {o nL len a b : Nat} {v : Value} {g : List Bool} {K : List (Nat × Nat)} {f : jF} (hoo : y.1.cls = jcn o) (hnL : y.2.2.1 = nL) {idx : Nat} (hj : jokb o nL y.2.1 pc (.getfield idx, len, a, b, v) = true) (h : jstep r (.getfield idx, len, a, b, v) L st w g K = some f) : jgo l G R y res mc ms c0 s0 pc (jnx pc (.getfield idx, len, a, b, v)) L st r w g K f := by
  obtain ⟨hd, hj⟩ := Bool.and_eq_true _ _ ▸ hj
  replace hd := of_decide_eq_true hd
  obtain ⟨hlen, hc⟩ := Bool.and_eq_true _ _ ▸ hj
  replace hlen := eq_of_beq hlen
  subst hlen
  obtain ⟨hm, hc⟩ := Bool.and_eq_true _ _ ▸ hc
  obtain ⟨h1, h2, h3⟩ := jfl_ok (of_decide_eq_true hm)
  simp only [jstep] at h
  split at h
  · split at h
    · cases h
      exact ⟨id, fun _ q => List.mem_cons_of_mem _ q, fun _ hk k => ev_geti hd hoo h2 h3 h1 (by simpa using hc) (hk _ List.mem_cons_self) k⟩
    · cases h
      exact ⟨id, fun _ q => List.mem_cons_of_mem _ q, fun _ hk k => ev_getl hd hoo h2 h3 h1 (by simpa using hc) (hk _ List.mem_cons_self) k⟩
    · cases h
      obtain ⟨hc1, hc2⟩ := Bool.and_eq_true _ _ ▸ hc
      exact ⟨id, fun _ q => List.mem_cons_of_mem _ (List.mem_cons_of_mem _ q), fun _ hk k => ev_getr hd hoo h2 h3 h1 hc1 (hk _ (List.mem_cons_of_mem _ List.mem_cons_self)) (by rw [hk _ List.mem_cons_self]; exact of_decide_eq_true hc2) k⟩
    · cases h
  · cases h
theorem jx_putfield {o nL len a b : Nat} {v : Value} {g : List Bool} {K : List (Nat × Nat)} {f : jF} (hoo : y.1.cls = jcn o) (hnL : y.2.2.1 = nL) {idx : Nat} (hj : jokb o nL y.2.1 pc (.putfield idx, len, a, b, v) = true) (h : jstep r (.putfield idx, len, a, b, v) L st w g K = some f) : jgo l G R y res mc ms c0 s0 pc (jnx pc (.putfield idx, len, a, b, v)) L st r w g K f := by
  obtain ⟨hd, hj⟩ := Bool.and_eq_true _ _ ▸ hj
  replace hd := of_decide_eq_true hd
  obtain ⟨hlen, hc⟩ := Bool.and_eq_true _ _ ▸ hj
  replace hlen := eq_of_beq hlen
  subst hlen
  obtain ⟨hm, hc⟩ := Bool.and_eq_true _ _ ▸ hc
  obtain ⟨hm, hf⟩ := Bool.and_eq_true _ _ ▸ hm
  replace hf := eq_of_beq hf
  obtain ⟨h1, h2, h3⟩ := jfl_ok (of_decide_eq_true hm)
  simp only [jstep] at h
  split at h
  · split at h
    · rename_i hz
      cases h
      simp only [if_pos hz] at hc
      exact ⟨id, fun _ q => List.mem_cons_of_mem _ q, fun _ hk k => ev_puti hd hoo h2 h3 h1 hf (of_decide_eq_true hc) (hk _ List.mem_cons_self) k⟩
    · rename_i hz
      cases h
      simp only [if_neg hz] at hc
      exact ⟨jal2, fun _ q => List.mem_cons_of_mem _ q, fun hg hk k => ev_putz hd hoo h2 h3 h1 hf (of_decide_eq_true hc) (hk _ List.mem_cons_self) (jal1 hg) k⟩
  · cases h
    exact ⟨id, fun _ q => List.mem_cons_of_mem _ q, fun _ hk k => ev_putl hd hoo h2 h3 h1 hf (of_decide_eq_true hc) (hk _ List.mem_cons_self) k⟩
  · cases h
theorem jx_iaload {o nL len a b : Nat} {v : Value} {g : List Bool} {K : List (Nat × Nat)} {f : jF} (hoo : y.1.cls = jcn o) (hnL : y.2.2.1 = nL) (hj : jokb o nL y.2.1 pc (.iaload, len, a, b, v) = true) (h : jstep r (.iaload, len, a, b, v) L st w g K = some f) : jgo l G R y res mc ms c0 s0 pc (jnx pc (.iaload, len, a, b, v)) L st r w g K f := by
  obtain ⟨hd, hj⟩ := Bool.and_eq_true _ _ ▸ hj
  replace hd := of_decide_eq_true hd
  obtain ⟨hlen, hc⟩ := Bool.and_eq_true _ _ ▸ hj
  replace hlen := eq_of_beq hlen
  subst hlen
  simp only [jstep] at h
  split at h
  all_goals first
    | (cases h; done)
    | (cases h
       try dsimp only at hc
       exact ⟨jal2, fun _ q => List.mem_cons_of_mem _ q, fun hg hk k => ev_iald hd (hk _ List.mem_cons_self) (jal1 hg) k⟩)
theorem jx_baload {o nL len a b : Nat} {v : Value} {g : List Bool} {K : List (Nat × Nat)} {f : jF} (hoo : y.1.cls = jcn o) (hnL : y.2.2.1 = nL) (hj : jokb o nL y.2.1 pc (.baload, len, a, b, v) = true) (h : jstep r (.baload, len, a, b, v) L st w g K = some f) : jgo l G R y res mc ms c0 s0 pc (jnx pc (.baload, len, a, b, v)) L st r w g K f := by
  obtain ⟨hd, hj⟩ := Bool.and_eq_true _ _ ▸ hj
  replace hd := of_decide_eq_true hd
  obtain ⟨hlen, hc⟩ := Bool.and_eq_true _ _ ▸ hj
  replace hlen := eq_of_beq hlen
  subst hlen
  simp only [jstep] at h
  split at h
  all_goals first
    | (cases h; done)
    | (cases h
       try dsimp only at hc
       exact ⟨jal2, fun _ q => List.mem_cons_of_mem _ q, fun hg hk k => ev_zald hd (hk _ List.mem_cons_self) (jal1 hg) k⟩)
theorem jx_laload {o nL len a b : Nat} {v : Value} {g : List Bool} {K : List (Nat × Nat)} {f : jF} (hoo : y.1.cls = jcn o) (hnL : y.2.2.1 = nL) (hj : jokb o nL y.2.1 pc (.laload, len, a, b, v) = true) (h : jstep r (.laload, len, a, b, v) L st w g K = some f) : jgo l G R y res mc ms c0 s0 pc (jnx pc (.laload, len, a, b, v)) L st r w g K f := by
  obtain ⟨hd, hj⟩ := Bool.and_eq_true _ _ ▸ hj
  replace hd := of_decide_eq_true hd
  obtain ⟨hlen, hc⟩ := Bool.and_eq_true _ _ ▸ hj
  replace hlen := eq_of_beq hlen
  subst hlen
  simp only [jstep] at h
  split at h
  all_goals first
    | (cases h; done)
    | (cases h
       try dsimp only at hc
       exact ⟨jal2, fun _ q => List.mem_cons_of_mem _ q, fun hg hk k => ev_lald hd (hk _ List.mem_cons_self) (jal1 hg) k⟩)
theorem jx_iastore {o nL len a b : Nat} {v : Value} {g : List Bool} {K : List (Nat × Nat)} {f : jF} (hoo : y.1.cls = jcn o) (hnL : y.2.2.1 = nL) (hj : jokb o nL y.2.1 pc (.iastore, len, a, b, v) = true) (h : jstep r (.iastore, len, a, b, v) L st w g K = some f) : jgo l G R y res mc ms c0 s0 pc (jnx pc (.iastore, len, a, b, v)) L st r w g K f := by
  obtain ⟨hd, hj⟩ := Bool.and_eq_true _ _ ▸ hj
  replace hd := of_decide_eq_true hd
  obtain ⟨hlen, hc⟩ := Bool.and_eq_true _ _ ▸ hj
  replace hlen := eq_of_beq hlen
  subst hlen
  simp only [jstep] at h
  split at h
  all_goals first
    | (cases h; done)
    | (cases h
       try dsimp only at hc
       exact ⟨jal2, fun _ q => List.mem_cons_of_mem _ q, fun hg hk k => ev_iast hd (hk _ List.mem_cons_self) (jal1 hg) k⟩)
theorem jx_bastore {o nL len a b : Nat} {v : Value} {g : List Bool} {K : List (Nat × Nat)} {f : jF} (hoo : y.1.cls = jcn o) (hnL : y.2.2.1 = nL) (hj : jokb o nL y.2.1 pc (.bastore, len, a, b, v) = true) (h : jstep r (.bastore, len, a, b, v) L st w g K = some f) : jgo l G R y res mc ms c0 s0 pc (jnx pc (.bastore, len, a, b, v)) L st r w g K f := by
  obtain ⟨hd, hj⟩ := Bool.and_eq_true _ _ ▸ hj
  replace hd := of_decide_eq_true hd
  obtain ⟨hlen, hc⟩ := Bool.and_eq_true _ _ ▸ hj
  replace hlen := eq_of_beq hlen
  subst hlen
  simp only [jstep] at h
  split at h
  all_goals first
    | (cases h; done)
    | (cases h
       try dsimp only at hc
       exact ⟨fun q => jal2 (jal2 q), fun _ q => List.mem_cons_of_mem _ q, fun hg hk k => ev_zast hd (hk _ List.mem_cons_self) (jal1 (jal2 hg)) (jal1 hg) k⟩)
theorem jx_lastore {o nL len a b : Nat} {v : Value} {g : List Bool} {K : List (Nat × Nat)} {f : jF} (hoo : y.1.cls = jcn o) (hnL : y.2.2.1 = nL) (hj : jokb o nL y.2.1 pc (.lastore, len, a, b, v) = true) (h : jstep r (.lastore, len, a, b, v) L st w g K = some f) : jgo l G R y res mc ms c0 s0 pc (jnx pc (.lastore, len, a, b, v)) L st r w g K f := by
  obtain ⟨hd, hj⟩ := Bool.and_eq_true _ _ ▸ hj
  replace hd := of_decide_eq_true hd
  obtain ⟨hlen, hc⟩ := Bool.and_eq_true _ _ ▸ hj
  replace hlen := eq_of_beq hlen
  subst hlen
  simp only [jstep] at h
  split at h
  all_goals first
    | (cases h; done)
    | (cases h
       try dsimp only at hc
       exact ⟨jal2, fun _ q => List.mem_cons_of_mem _ q, fun hg hk k => ev_last hd (hk _ List.mem_cons_self) (jal1 hg) k⟩)
theorem jx_arraylength {o nL len a b : Nat} {v : Value} {g : List Bool} {K : List (Nat × Nat)} {f : jF} (hoo : y.1.cls = jcn o) (hnL : y.2.2.1 = nL) (hj : jokb o nL y.2.1 pc (.arraylength, len, a, b, v) = true) (h : jstep r (.arraylength, len, a, b, v) L st w g K = some f) : jgo l G R y res mc ms c0 s0 pc (jnx pc (.arraylength, len, a, b, v)) L st r w g K f := by
  obtain ⟨hd, hj⟩ := Bool.and_eq_true _ _ ▸ hj
  replace hd := of_decide_eq_true hd
  obtain ⟨hlen, hc⟩ := Bool.and_eq_true _ _ ▸ hj
  replace hlen := eq_of_beq hlen
  subst hlen
  simp only [jstep] at h
  split at h
  all_goals first
    | (cases h; done)
    | (cases h
       try dsimp only at hc
       exact ⟨id, fun _ q => List.mem_cons_of_mem _ q, fun _ hk k => ev_alen hd (by rw [hk _ List.mem_cons_self]; simpa [or_assoc] using hc) k⟩)
theorem jx_goto {o nL len a b : Nat} {v : Value} {g : List Bool} {K : List (Nat × Nat)} {f : jF} (hoo : y.1.cls = jcn o) (hnL : y.2.2.1 = nL) {off : Int} (hj : jokb o nL y.2.1 pc (.goto off, len, a, b, v) = true) (h : jstep r (.goto off, len, a, b, v) L st w g K = some f) : jgo l G R y res mc ms c0 s0 pc (jnx pc (.goto off, len, a, b, v)) L st r w g K f := by
  obtain ⟨hd, hj⟩ := Bool.and_eq_true _ _ ▸ hj
  replace hd := of_decide_eq_true hd
  obtain ⟨hlen, hc⟩ := Bool.and_eq_true _ _ ▸ hj
  replace hlen := eq_of_beq hlen
  subst hlen
  simp only [jstep] at h
  cases h
  replace hc := of_decide_eq_true hc
  exact ⟨id, fun _ q => q, fun _ _ k => ev_goto hd (tgt := ((pc : Int) + off).toNat) (by omega) k⟩
theorem jstep_ok {o nL : Nat} {x : jI} {g : List Bool} {K : List (Nat × Nat)} {f : jF} (hoo : y.1.cls = jcn o) (hnL : y.2.2.1 = nL) (hj : jokb o nL y.2.1 pc x = true) (h : jstep r x L st w g K = some f) : jgo l G R y res mc ms c0 s0 pc (jnx pc x) L st r w g K f := by
  obtain ⟨i, len, a, b, v⟩ := x
  cases i with
  | iadd => exact jx_iadd hoo hnL hj h
  | isub => exact jx_isub hoo hnL hj h
  | imul => exact jx_imul hoo hnL hj h
  | iand => exact jx_iand hoo hnL hj h
  | ior => exact jx_ior hoo hnL hj h
  | ixor => exact jx_ixor hoo hnL hj h
  | ishl => exact jx_ishl hoo hnL hj h
  | ishr => exact jx_ishr hoo hnL hj h
  | iushr => exact jx_iushr hoo hnL hj h
  | idiv => exact jx_idiv hoo hnL hj h
  | irem => exact jx_irem hoo hnL hj h
  | ladd => exact jx_ladd hoo hnL hj h
  | lsub => exact jx_lsub hoo hnL hj h
  | lmul => exact jx_lmul hoo hnL hj h
  | land => exact jx_land hoo hnL hj h
  | lor => exact jx_lor hoo hnL hj h
  | lxor => exact jx_lxor hoo hnL hj h
  | ldiv => exact jx_ldiv hoo hnL hj h
  | lrem => exact jx_lrem hoo hnL hj h
  | lshl => exact jx_lshl hoo hnL hj h
  | lshr => exact jx_lshr hoo hnL hj h
  | lushr => exact jx_lushr hoo hnL hj h
  | i2l => exact jx_i2l hoo hnL hj h
  | l2i => exact jx_l2i hoo hnL hj h
  | ineg => exact jx_ineg hoo hnL hj h
  | lcmp => exact jx_lcmp hoo hnL hj h
  | dup => exact jx_dup hoo hnL hj h
  | pop => exact jx_pop hoo hnL hj h
  | dup2 => exact jx_dup2 hoo hnL hj h
  | dup_x1 => exact jx_dup_x1 hoo hnL hj h
  | iconst _ => exact jx_iconst hoo hnL hj h
  | bipush _ => exact jx_bipush hoo hnL hj h
  | sipush _ => exact jx_sipush hoo hnL hj h
  | lconst _ => exact jx_lconst hoo hnL hj h
  | ldc _ => exact jx_ldc hoo hnL hj h
  | ldc_w _ => exact jx_ldc_w hoo hnL hj h
  | ldc2_w _ => exact jx_ldc2_w hoo hnL hj h
  | iload_n _ => exact jx_iload_n hoo hnL hj h
  | iload _ => exact jx_iload hoo hnL hj h
  | lload_n _ => exact jx_lload_n hoo hnL hj h
  | lload _ => exact jx_lload hoo hnL hj h
  | aload_n _ => exact jx_aload_n hoo hnL hj h
  | aload _ => exact jx_aload hoo hnL hj h
  | istore_n _ => exact jx_istore_n hoo hnL hj h
  | istore _ => exact jx_istore hoo hnL hj h
  | lstore_n _ => exact jx_lstore_n hoo hnL hj h
  | lstore _ => exact jx_lstore hoo hnL hj h
  | astore_n _ => exact jx_astore_n hoo hnL hj h
  | astore _ => exact jx_astore hoo hnL hj h
  | iinc _ _ => exact jx_iinc hoo hnL hj h
  | getfield _ => exact jx_getfield hoo hnL hj h
  | putfield _ => exact jx_putfield hoo hnL hj h
  | iaload => exact jx_iaload hoo hnL hj h
  | baload => exact jx_baload hoo hnL hj h
  | laload => exact jx_laload hoo hnL hj h
  | iastore => exact jx_iastore hoo hnL hj h
  | bastore => exact jx_bastore hoo hnL hj h
  | lastore => exact jx_lastore hoo hnL hj h
  | arraylength => exact jx_arraylength hoo hnL hj h
  | goto _ => exact jx_goto hoo hnL hj h
  | _ => cases h
/-- a segment -/
def jex (r : jS) : List jI → jF → Option jF
  | [], f => some f
  | x :: xs, f => match jstep r x f.1 f.2.1 f.2.2.1 f.2.2.2.1 f.2.2.2.2 with
    | some f' => jex r xs f'
    | none => none
def jsg (o nL : Nat) (cc : ByteArray) : Nat → List jI → Nat → Bool
  | pc, [], q => pc == q
  | pc, x :: xs, q => jokb o nL cc pc x && jsg o nL cc (jnx pc x) xs q
theorem jex_ok {o nL : Nat} (hoo : y.1.cls = jcn o) (hnL : y.2.2.1 = nL) : ∀ (xs : List jI) (pc q : Nat) (f0 f : jF), jsg o nL y.2.1 pc xs q = true → jex r xs f0 = some f → jgo l G R y res mc ms c0 s0 pc q f0.1 f0.2.1 r f0.2.2.1 f0.2.2.2.1 f0.2.2.2.2 f := by
  intro xs
  induction xs with
  | nil =>
    intro pc q f0 f hj h
    have e : pc = q := by simpa [jsg] using hj
    subst e
    cases h
    exact ⟨id, fun _ z => z, fun _ _ k => k⟩
  | cons x xs ih =>
    intro pc q f0 f hj h
    obtain ⟨h1, h2⟩ := Bool.and_eq_true _ _ ▸ (show (jokb o nL y.2.1 pc x && jsg o nL y.2.1 (jnx pc x) xs q) = true from hj)
    simp only [jex] at h
    split at h
    · rename_i f1 hf1
      obtain ⟨a1, a2, a3⟩ := jstep_ok (l := l) (G := G) (R := R) (res := res) (mc := mc) (ms := ms) (c0 := c0) (s0 := s0) hoo hnL h1 hf1
      obtain ⟨b1, b2, b3⟩ := ih _ q f1 f h2 h
      exact ⟨fun z => a1 (b1 z), fun z hz => b2 z (a2 z hz), fun hg hk k => a3 (b1 hg) (fun z hz => hk z (b2 z hz)) (b3 hg hk k)⟩
    · cases h
/-- the rule of a segment -/
theorem ev_seg {o nL q : Nat} {xs : List jI} {L' : List (Option Value)} {st' : List Value} {w' : jW} {g : List Bool} {K : List (Nat × Nat)} (hj : jsg o nL y.2.1 pc xs q = true) (hoo : y.1.cls = jcn o) (hnL : y.2.2.1 = nL) (h : jex r xs (L, st, w, [], []) = some (L', st', w', g, K)) (hg : jal g = true) (hk : ∀ z ∈ K, jSk r z.1 = z.2)
    (k : Ev l G R y res mc ms c0 s0 q L' st' r w') : Ev l G R y res mc ms c0 s0 pc L st r w :=
  (jex_ok hoo hnL xs pc q _ _ hj h).2.2 hg hk k
theorem jk0 : ∀ z ∈ ([] : List (Nat × Nat)), jSk r z.1 = z.2 := fun _ h => by cases h
theorem jk1 {a c : Nat} {K : List (Nat × Nat)} (h : jSk r a = c) (k : ∀ z ∈ K, jSk r z.1 = z.2) : ∀ z ∈ (a, c) :: K, jSk r z.1 = z.2 := List.forall_mem_cons.mpr ⟨h, k⟩
end JX

theorem jsome {α : Type} {x : Option α} {d : α} (h : x.isSome = true) : x = some (x.getD d) := by
  cases x with
  | none => cases h
  | some y => rfl
def f_Rows_open_h32_g (r : jS) (a0 : Nat) : Nat → Int32 → Int32 → Int32 → jW → Option (Int32 × jW)
  | 0, _, _, _, _ => none
  | n + 1, x1, x2, x3, w =>
  if x3 < (w.1 a0 0) then
    if jal [jin (x2 + x3) (jSl r (jSr r a0 1))] = true then
    jlw ((jup w.1 (jSr r a0 1) (Int32.toNatClampNeg (x2 + x3)) 0), w.2) fun w5 =>
    (f_Rows_open_h32_g r a0 n) x1 x2 (x3 + 1) w5
    else none
  else
    if jal [jin x2 (jSl r (jSr r a0 1))] = true then
    jlw ((jup w.1 (jSr r a0 1) (Int32.toNatClampNeg x2) x1), w.2) fun w2 =>
    jlw ((jup w2.1 a0 2 ((w2.1 a0 2) + 1)), w2.2) fun w3 =>
    some (((w3.1 a0 2) - 1), w3)
    else none
set_option maxRecDepth 20000 in
theorem t_Rows_open_h32_g {l : Launch} {G : jG} {r : jS} (hG : jX G) {a0 : Nat} (h_a0 : jSk r a0 = 3) (h_c : jSk r (jSr r a0 1) = 20) : ∀ (n : Nat) (x1 : Int32) (x2 : Int32) (x3 : Int32) (w : jW) (z : (Int32 × jW)), f_Rows_open_h32_g r a0 n x1 x2 x3 w = some z → Ev l G (jrm d_Rows_open 0 0) y_Rows_open (some (.int z.1), r, z.2) 0 0 0 0 32 [some (.ref a0), some (.int x1), some (.int x2), some (.int x3)] [] r w := by
  intro n
  induction n with
  | zero => intro x1 x2 x3 w z h; simp only [f_Rows_open_h32_g] at h; cases h
  | succ n ih =>
    intro x1 x2 x3 w z h
    rw [f_Rows_open_h32_g] at h
    refine ev_seg (o := 3) (nL := 4) (q := 37) (xs := [(.iload_n 3, 1, 3, 0, .null), (.aload_n 0, 1, 0, 0, .null), (.getfield 15, 3, 3, 0, .int 0)]) (L' := [some (.ref a0), some (.int x1), some (.int x2), some (.int x3)]) (st' := [.int (w.1 a0 0), .int x3]) (w' := w) (g := []) (K := [(a0, 3)]) (by decide +kernel) rfl rfl rfl rfl (jk1 h_a0 jk0) ?_
    refine ev_icmp_ge (off := 18) (tgt := 55) (by decide +kernel) (by decide) (fun c6 => ?_) (fun c6 => ?_)
    · replace h := jneg c6 h
      obtain ⟨hg1, h⟩ := jgd h
      refine ev_seg (o := 3) (nL := 4) (q := 62) (xs := [(.aload_n 0, 1, 0, 0, .null), (.getfield 21, 3, 3, 1, .ref 20), (.iload_n 2, 1, 2, 0, .null), (.iload_n 1, 1, 1, 0, .null), (.iastore, 1, 0, 0, .null)]) (L' := [some (.ref a0), some (.int x1), some (.int x2), some (.int x3)]) (st' := []) (w' := ((jup w.1 (jSr r a0 1) (Int32.toNatClampNeg x2) x1), w.2)) (g := [jin x2 (jSl r (jSr r a0 1))]) (K := [((jSr r a0 1), 20), ((jSr r a0 1), 20), (a0, 3)]) (by decide +kernel) rfl rfl rfl hg1 (jk1 h_c (jk1 h_c (jk1 h_a0 jk0))) ?_
      refine jlw_c (P := fun w2 => Ev l G (jrm d_Rows_open 0 0) y_Rows_open (some (.int z.1), r, z.2) 0 0 0 0 62 [some (.ref a0), some (.int x1), some (.int x2), some (.int x3)] [] r w2) h fun w2 h => ?_
      refine ev_seg (o := 3) (nL := 4) (q := 72) (xs := [(.aload_n 0, 1, 0, 0, .null), (.dup, 1, 0, 0, .null), (.getfield 25, 3, 3, 2, .int 0), (.iconst 1, 1, 0, 0, .int 1), (.iadd, 1, 0, 0, .null), (.putfield 25, 3, 3, 2, .int 0)]) (L' := [some (.ref a0), some (.int x1), some (.int x2), some (.int x3)]) (st' := []) (w' := ((jup w2.1 a0 2 ((w2.1 a0 2) + 1)), w2.2)) (g := []) (K := [(a0, 3), (a0, 3)]) (by decide +kernel) rfl rfl rfl rfl (jk1 h_a0 (jk1 h_a0 jk0)) ?_
      refine jlw_c (P := fun w3 => Ev l G (jrm d_Rows_open 0 0) y_Rows_open (some (.int z.1), r, z.2) 0 0 0 0 72 [some (.ref a0), some (.int x1), some (.int x2), some (.int x3)] [] r w3) h fun w3 h => ?_
      refine ev_seg (o := 3) (nL := 4) (q := 78) (xs := [(.aload_n 0, 1, 0, 0, .null), (.getfield 25, 3, 3, 2, .int 0), (.iconst 1, 1, 0, 0, .int 1), (.isub, 1, 0, 0, .null)]) (L' := [some (.ref a0), some (.int x1), some (.int x2), some (.int x3)]) (st' := [.int ((w3.1 a0 2) - 1)]) (w' := w3) (g := []) (K := [(a0, 3)]) (by decide +kernel) rfl rfl rfl rfl (jk1 h_a0 jk0) ?_
      cases h
      exact ev_iret (by decide +kernel) rfl rfl rfl rfl
    · replace h := jpos c6 h
      obtain ⟨hg4, h⟩ := jgd h
      refine ev_seg (o := 3) (nL := 4) (q := 49) (xs := [(.aload_n 0, 1, 0, 0, .null), (.getfield 21, 3, 3, 1, .ref 20), (.iload_n 2, 1, 2, 0, .null), (.iload_n 3, 1, 3, 0, .null), (.iadd, 1, 0, 0, .null), (.iconst 0, 1, 0, 0, .int 0), (.iastore, 1, 0, 0, .null)]) (L' := [some (.ref a0), some (.int x1), some (.int x2), some (.int x3)]) (st' := []) (w' := ((jup w.1 (jSr r a0 1) (Int32.toNatClampNeg (x2 + x3)) 0), w.2)) (g := [jin (x2 + x3) (jSl r (jSr r a0 1))]) (K := [((jSr r a0 1), 20), ((jSr r a0 1), 20), (a0, 3)]) (by decide +kernel) rfl rfl rfl hg4 (jk1 h_c (jk1 h_c (jk1 h_a0 jk0))) ?_
      refine jlw_c (P := fun w5 => Ev l G (jrm d_Rows_open 0 0) y_Rows_open (some (.int z.1), r, z.2) 0 0 0 0 49 [some (.ref a0), some (.int x1), some (.int x2), some (.int x3)] [] r w5) h fun w5 h => ?_
      refine ev_seg (o := 3) (nL := 4) (q := 32) (xs := [(.iinc 3 1, 3, 3, 0, .int 1), (.goto (-20), 3, 0, 0, .null)]) (L' := [some (.ref a0), some (.int x1), some (.int x2), some (.int (x3 + 1))]) (st' := []) (w' := w5) (g := []) (K := []) (by decide +kernel) rfl rfl rfl rfl jk0 ?_
      refine ev_mask [true, true, true, true] ?_
      exact ih _ _ _ _ _ h
def f_Rows_open_g (r : jS) (a0 : Nat) (x1 : Int32) (w : jW) : Option (Int32 × jW) :=
  if ((w.1 a0 2) * (w.1 a0 0)) < 0 then
    some ((-1), w)
  else
    if (((w.1 a0 2) * (w.1 a0 0)) + (w.1 a0 0)) ≤ (Int32.ofNat (jSl r (jSr r a0 1))) then
      f_Rows_open_h32_g r a0 jfu x1 ((w.1 a0 2) * (w.1 a0 0)) 1 w
    else
      some ((-1), w)
set_option maxRecDepth 20000 in
theorem e_Rows_open_g {l : Launch} {G : jG} {r : jS} (hG : jX G) {a0 : Nat} {x1 : Int32} (h_a0 : jSk r a0 = 3) (h_c : jSk r (jSr r a0 1) = 20) {w : jW} {z : (Int32 × jW)} (h : f_Rows_open_g r a0 x1 w = some z) : Ct l G y_Rows_open d_Rows_open 0 0 [.ref a0, .int x1] r w (some (.int z.1), r, z.2) := by
  rw [f_Rows_open_g] at h
  refine Ct.of (L := [some (.ref a0), some (.int x1), none, none]) (by decide) (Nat.le_of_ble_eq_true rfl) rfl ?_
  refine ev_seg (o := 3) (nL := 4) (q := 11) (xs := [(.aload_n 0, 1, 0, 0, .null), (.getfield 25, 3, 3, 2, .int 0), (.aload_n 0, 1, 0, 0, .null), (.getfield 15, 3, 3, 0, .int 0), (.imul, 1, 0, 0, .null), (.istore_n 2, 1, 2, 0, .null), (.iload_n 2, 1, 2, 0, .null)]) (L' := [some (.ref a0), some (.int x1), some (.int ((w.1 a0 2) * (w.1 a0 0))), none]) (st' := [.int ((w.1 a0 2) * (w.1 a0 0))]) (w' := w) (g := []) (K := [(a0, 3), (a0, 3)]) (by decide +kernel) rfl rfl rfl rfl (jk1 h_a0 (jk1 h_a0 jk0)) ?_
  refine ev_if_lt (off := 17) (tgt := 28) (by decide +kernel) (by decide) (fun c8 => ?_) (fun c8 => ?_)
  · replace h := jpos c8 h
    refine ev_seg (o := 3) (nL := 4) (q := 29) (xs := [(.iconst (-1), 1, 0, 0, .int (-1))]) (L' := [some (.ref a0), some (.int x1), some (.int ((w.1 a0 2) * (w.1 a0 0))), none]) (st' := [.int (-1)]) (w' := w) (g := []) (K := []) (by decide +kernel) rfl rfl rfl rfl jk0 ?_
    cases h
    exact ev_iret (by decide +kernel) rfl rfl rfl rfl
  · replace h := jneg c8 h
    refine ev_seg (o := 3) (nL := 4) (q := 25) (xs := [(.iload_n 2, 1, 2, 0, .null), (.aload_n 0, 1, 0, 0, .null), (.getfield 15, 3, 3, 0, .int 0), (.iadd, 1, 0, 0, .null), (.aload_n 0, 1, 0, 0, .null), (.getfield 21, 3, 3, 1, .ref 20), (.arraylength, 1, 20, 0, .null)]) (L' := [some (.ref a0), some (.int x1), some (.int ((w.1 a0 2) * (w.1 a0 0))), none]) (st' := [.int (Int32.ofNat (jSl r (jSr r a0 1))), .int (((w.1 a0 2) * (w.1 a0 0)) + (w.1 a0 0))]) (w' := w) (g := []) (K := [((jSr r a0 1), 20), ((jSr r a0 1), 20), (a0, 3), (a0, 3)]) (by decide +kernel) rfl rfl rfl rfl (jk1 h_c (jk1 h_c (jk1 h_a0 (jk1 h_a0 jk0)))) ?_
    refine ev_icmp_le (off := 5) (tgt := 30) (by decide +kernel) (by decide) (fun c7 => ?_) (fun c7 => ?_)
    · replace h := jpos c7 h
      refine ev_seg (o := 3) (nL := 4) (q := 32) (xs := [(.iconst 1, 1, 0, 0, .int 1), (.istore_n 3, 1, 3, 0, .null)]) (L' := [some (.ref a0), some (.int x1), some (.int ((w.1 a0 2) * (w.1 a0 0))), some (.int 1)]) (st' := []) (w' := w) (g := []) (K := []) (by decide +kernel) rfl rfl rfl rfl jk0 ?_
      refine ev_mask [true, true, true, true] ?_
      exact t_Rows_open_h32_g hG h_a0 h_c jfu _ _ _ _ _ h
    · replace h := jneg c7 h
      refine ev_seg (o := 3) (nL := 4) (q := 29) (xs := [(.iconst (-1), 1, 0, 0, .int (-1))]) (L' := [some (.ref a0), some (.int x1), some (.int ((w.1 a0 2) * (w.1 a0 0))), none]) (st' := [.int (-1)]) (w' := w) (g := []) (K := []) (by decide +kernel) rfl rfl rfl rfl jk0 ?_
      cases h
      exact ev_iret (by decide +kernel) rfl rfl rfl rfl
def f_Rows_put_g (r : jS) (a0 : Nat) (x1 : Int32) (x2 : Int32) (x3 : Int32) (w : jW) : Option jW :=
  if x1 < 0 then
    some w
  else
    if x1 < (w.1 a0 2) then
      if x2 < 0 then
        some w
      else
        if x2 < (w.1 a0 0) then
          if ((x1 * (w.1 a0 0)) + x2) < 0 then
            some w
          else
            if ((x1 * (w.1 a0 0)) + x2) < (Int32.ofNat (jSl r (jSr r a0 1))) then
              if jal [jin ((x1 * (w.1 a0 0)) + x2) (jSl r (jSr r a0 1))] = true then
              jlw ((jup w.1 (jSr r a0 1) (Int32.toNatClampNeg ((x1 * (w.1 a0 0)) + x2)) x3), w.2) fun w2 =>
              some w2
              else none
            else
              some w
        else
          some w
    else
      some w
set_option maxRecDepth 20000 in
theorem e_Rows_put_g {l : Launch} {G : jG} {r : jS} (hG : jX G) {a0 : Nat} {x1 : Int32} {x2 : Int32} {x3 : Int32} (h_a0 : jSk r a0 = 3) (h_c : jSk r (jSr r a0 1) = 20) {w : jW} {z : jW} (h : f_Rows_put_g r a0 x1 x2 x3 w = some z) : Ct l G y_Rows_put d_Rows_put 0 0 [.ref a0, .int x1, .int x2, .int x3] r w (none, r, z) := by
  rw [f_Rows_put_g] at h
  refine Ct.of (L := [some (.ref a0), some (.int x1), some (.int x2), some (.int x3), none]) (by decide) (Nat.le_of_ble_eq_true rfl) rfl ?_
  refine ev_seg (o := 3) (nL := 5) (q := 1) (xs := [(.iload_n 1, 1, 1, 0, .null)]) (L' := [some (.ref a0), some (.int x1), some (.int x2), some (.int x3), none]) (st' := [.int x1]) (w' := w) (g := []) (K := []) (by decide +kernel) rfl rfl rfl rfl jk0 ?_
  refine ev_if_lt (off := 23) (tgt := 24) (by decide +kernel) (by decide) (fun c8 => ?_) (fun c8 => ?_)
  · replace h := jpos c8 h
    cases h
    exact ev_vret (by decide +kernel) rfl rfl rfl rfl
  · replace h := jneg c8 h
    refine ev_seg (o := 3) (nL := 5) (q := 9) (xs := [(.iload_n 1, 1, 1, 0, .null), (.aload_n 0, 1, 0, 0, .null), (.getfield 25, 3, 3, 2, .int 0)]) (L' := [some (.ref a0), some (.int x1), some (.int x2), some (.int x3), none]) (st' := [.int (w.1 a0 2), .int x1]) (w' := w) (g := []) (K := [(a0, 3)]) (by decide +kernel) rfl rfl rfl rfl (jk1 h_a0 jk0) ?_
    refine ev_icmp_ge (off := 15) (tgt := 24) (by decide +kernel) (by decide) (fun c7 => ?_) (fun c7 => ?_)
    · replace h := jneg c7 h
      cases h
      exact ev_vret (by decide +kernel) rfl rfl rfl rfl
    · replace h := jpos c7 h
      refine ev_seg (o := 3) (nL := 5) (q := 13) (xs := [(.iload_n 2, 1, 2, 0, .null)]) (L' := [some (.ref a0), some (.int x1), some (.int x2), some (.int x3), none]) (st' := [.int x2]) (w' := w) (g := []) (K := []) (by decide +kernel) rfl rfl rfl rfl jk0 ?_
      refine ev_if_lt (off := 11) (tgt := 24) (by decide +kernel) (by decide) (fun c6 => ?_) (fun c6 => ?_)
      · replace h := jpos c6 h
        cases h
        exact ev_vret (by decide +kernel) rfl rfl rfl rfl
      · replace h := jneg c6 h
        refine ev_seg (o := 3) (nL := 5) (q := 21) (xs := [(.iload_n 2, 1, 2, 0, .null), (.aload_n 0, 1, 0, 0, .null), (.getfield 15, 3, 3, 0, .int 0)]) (L' := [some (.ref a0), some (.int x1), some (.int x2), some (.int x3), none]) (st' := [.int (w.1 a0 0), .int x2]) (w' := w) (g := []) (K := [(a0, 3)]) (by decide +kernel) rfl rfl rfl rfl (jk1 h_a0 jk0) ?_
        refine ev_icmp_lt (off := 4) (tgt := 25) (by decide +kernel) (by decide) (fun c5 => ?_) (fun c5 => ?_)
        · replace h := jpos c5 h
          refine ev_seg (o := 3) (nL := 5) (q := 37) (xs := [(.iload_n 1, 1, 1, 0, .null), (.aload_n 0, 1, 0, 0, .null), (.getfield 15, 3, 3, 0, .int 0), (.imul, 1, 0, 0, .null), (.iload_n 2, 1, 2, 0, .null), (.iadd, 1, 0, 0, .null), (.istore 4, 2, 4, 0, .null), (.iload 4, 2, 4, 0, .null)]) (L' := [some (.ref a0), some (.int x1), some (.int x2), some (.int x3), some (.int ((x1 * (w.1 a0 0)) + x2))]) (st' := [.int ((x1 * (w.1 a0 0)) + x2)]) (w' := w) (g := []) (K := [(a0, 3)]) (by decide +kernel) rfl rfl rfl rfl (jk1 h_a0 jk0) ?_
          refine ev_if_lt (off := 21) (tgt := 58) (by decide +kernel) (by decide) (fun c4 => ?_) (fun c4 => ?_)
          · replace h := jpos c4 h
            cases h
            exact ev_vret (by decide +kernel) rfl rfl rfl rfl
          · replace h := jneg c4 h
            refine ev_seg (o := 3) (nL := 5) (q := 47) (xs := [(.iload 4, 2, 4, 0, .null), (.aload_n 0, 1, 0, 0, .null), (.getfield 21, 3, 3, 1, .ref 20), (.arraylength, 1, 20, 0, .null)]) (L' := [some (.ref a0), some (.int x1), some (.int x2), some (.int x3), some (.int ((x1 * (w.1 a0 0)) + x2))]) (st' := [.int (Int32.ofNat (jSl r (jSr r a0 1))), .int ((x1 * (w.1 a0 0)) + x2)]) (w' := w) (g := []) (K := [((jSr r a0 1), 20), ((jSr r a0 1), 20), (a0, 3)]) (by decide +kernel) rfl rfl rfl rfl (jk1 h_c (jk1 h_c (jk1 h_a0 jk0))) ?_
            refine ev_icmp_ge (off := 11) (tgt := 58) (by decide +kernel) (by decide) (fun c3 => ?_) (fun c3 => ?_)
            · replace h := jneg c3 h
              cases h
              exact ev_vret (by decide +kernel) rfl rfl rfl rfl
            · replace h := jpos c3 h
              obtain ⟨hg1, h⟩ := jgd h
              refine ev_seg (o := 3) (nL := 5) (q := 58) (xs := [(.aload_n 0, 1, 0, 0, .null), (.getfield 21, 3, 3, 1, .ref 20), (.iload 4, 2, 4, 0, .null), (.iload_n 3, 1, 3, 0, .null), (.iastore, 1, 0, 0, .null)]) (L' := [some (.ref a0), some (.int x1), some (.int x2), some (.int x3), some (.int ((x1 * (w.1 a0 0)) + x2))]) (st' := []) (w' := ((jup w.1 (jSr r a0 1) (Int32.toNatClampNeg ((x1 * (w.1 a0 0)) + x2)) x3), w.2)) (g := [jin ((x1 * (w.1 a0 0)) + x2) (jSl r (jSr r a0 1))]) (K := [((jSr r a0 1), 20), ((jSr r a0 1), 20), (a0, 3)]) (by decide +kernel) rfl rfl rfl hg1 (jk1 h_c (jk1 h_c (jk1 h_a0 jk0))) ?_
              refine jlw_c (P := fun w2 => Ev l G (jrm d_Rows_put 0 0) y_Rows_put (none, r, z) 0 0 0 0 58 [some (.ref a0), some (.int x1), some (.int x2), some (.int x3), some (.int ((x1 * (w.1 a0 0)) + x2))] [] r w2) h fun w2 h => ?_
              cases h
              exact ev_vret (by decide +kernel) rfl rfl rfl rfl
        · replace h := jneg c5 h
          cases h
          exact ev_vret (by decide +kernel) rfl rfl rfl rfl
theorem jcl_2_9 : Cond.classLink (jcn 2) 9 (jcn 3) ∈ jTbl := jmem 198 (by decide +kernel) (by decide +kernel)
theorem jcl_2_23 : Cond.classLink (jcn 2) 23 (jcn 7) ∈ jTbl := jmem 200 (by decide +kernel) (by decide +kernel)
theorem jcl_6_27 : Cond.classLink (jcn 6) 27 (jcn 3) ∈ jTbl := jmem 49 (by decide +kernel) (by decide +kernel)
theorem jcl_6_51 : Cond.classLink (jcn 6) 51 (jcn 8) ∈ jTbl := jmem 69 (by decide +kernel) (by decide +kernel)
theorem jcl_7_9 : Cond.classLink (jcn 7) 9 (jcn 3) ∈ jTbl := jmem 206 (by decide +kernel) (by decide +kernel)
theorem jcl_8_9 : Cond.classLink (jcn 8) 9 (jcn 3) ∈ jTbl := jmem 75 (by decide +kernel) (by decide +kernel)
theorem jcl_9_9 : Cond.classLink (jcn 9) 9 (jcn 6) ∈ jTbl := jmem 43 (by decide +kernel) (by decide +kernel)
theorem jcl_9_19 : Cond.classLink (jcn 9) 19 (jcn 2) ∈ jTbl := jmem 192 (by decide +kernel) (by decide +kernel)
theorem jcl_9_26 : Cond.classLink (jcn 9) 26 (jcn 1) ∈ jTbl := jmem 246 (by decide +kernel) (by decide +kernel)
theorem jcl_9_33 : Cond.classLink (jcn 9) 33 (jcn 0) ∈ jTbl := jmem 260 (by decide +kernel) (by decide +kernel)
theorem jcl_9_40 : Cond.classLink (jcn 9) 40 (jcn 5) ∈ jTbl := jmem 276 (by decide +kernel) (by decide +kernel)
theorem jcl_9_47 : Cond.classLink (jcn 9) 47 (jcn 4) ∈ jTbl := jmem 303 (by decide +kernel) (by decide +kernel)
theorem jcl_10_8 : Cond.classLink (jcn 10) 8 (jcn 9) ∈ jTbl := jmem 35 (by decide +kernel) (by decide +kernel)
theorem jis_0 : Cond.instantiable (jcn 0) (jNf 0) ∈ jTbl := jmem 261 (by decide +kernel) (by decide +kernel)
theorem jis_1 : Cond.instantiable (jcn 1) (jNf 1) ∈ jTbl := jmem 247 (by decide +kernel) (by decide +kernel)
theorem jis_2 : Cond.instantiable (jcn 2) (jNf 2) ∈ jTbl := jmem 193 (by decide +kernel) (by decide +kernel)
theorem jis_3 : Cond.instantiable (jcn 3) (jNf 3) ∈ jTbl := jmem 50 (by decide +kernel) (by decide +kernel)
theorem jis_4 : Cond.instantiable (jcn 4) (jNf 4) ∈ jTbl := jmem 304 (by decide +kernel) (by decide +kernel)
theorem jis_5 : Cond.instantiable (jcn 5) (jNf 5) ∈ jTbl := jmem 277 (by decide +kernel) (by decide +kernel)
theorem jis_6 : Cond.instantiable (jcn 6) (jNf 6) ∈ jTbl := jmem 44 (by decide +kernel) (by decide +kernel)
theorem jis_7 : Cond.instantiable (jcn 7) (jNf 7) ∈ jTbl := jmem 201 (by decide +kernel) (by decide +kernel)
theorem jis_8 : Cond.instantiable (jcn 8) (jNf 8) ∈ jTbl := jmem 70 (by decide +kernel) (by decide +kernel)
theorem jis_9 : Cond.instantiable (jcn 9) (jNf 9) ∈ jTbl := jmem 36 (by decide +kernel) (by decide +kernel)
theorem ja_int : Cond.arrayClass .int ∈ jTbl := jmem 68 (by decide +kernel) (by decide +kernel)
theorem ja_boolean : Cond.arrayClass .boolean ∈ jTbl := jmem 331 (by decide +kernel) (by decide +kernel)
theorem ja_long : Cond.arrayClass .long ∈ jTbl := jmem 259 (by decide +kernel) (by decide +kernel)
theorem jobi : Cond.instanceMethod Lib.objectInit ∈ jTbl := jmem 41 (by decide +kernel) (by decide +kernel)
theorem jobc : Cond.code Lib.objectInit ⟨#[0xb1]⟩ 1 none ∈ jTbl := jmem 42 (by decide +kernel) (by decide +kernel)
abbrev y_Law_law : jM := (x, code, 22, some .boolean)
def tT0 : jT := ([99, 99], [0, 0], [[], []])
def tW0 : jW := (fun _ _ => 0, fun _ _ => 0)
def tT1 : jT := jtn tT0 9 0 7
def tW1 : jW := jzr tW0 2
def tT2 : jT := jtn tT1 6 0 19
def tW2 : jW := jzr tW1 3
def tW3 : jW := (jup tW2.1 3 0 0, tW2.2)
def tW4 : jW := (jup tW3.1 3 1 2, tW3.2)
def tW5 : jW := (jup tW4.1 3 2 5, tW4.2)
def tW6 : jW := (jup tW5.1 3 3 40, tW5.2)
def tW7 : jW := (jup tW6.1 3 4 0, tW6.2)
def tT3 : jT := jtn tT2 3 0 3
def tW8 : jW := jzr tW7 4
def tW9 : jW := (jup tW8.1 4 0 (if (1 : Int32) < 4 then 4 else 1), tW8.2)
def tT4 : jT := jtn tT3 20 16 0
def tW10 : jW := jzr tW9 5
def tT5 : jT := jtr tT4 4 1 5
def tW11 : jW := (jup tW10.1 4 2 0, tW10.2)
set_option maxRecDepth 200000 in
theorem jct0 {l : Launch} {G : jG} (hG : jX G) : Ct l G y_Rows_init (1, 21) 1 16 [.ref 4, .int 4, .int 4] (jmk tT3) tW8 (none, jmk tT5, tW11) := by
  refine Ct.of (L := [some (.ref 4), some (.int 4), some (.int 4)]) (by decide) (Nat.le_of_ble_eq_true rfl) rfl ?_
  refine ev_seg (r := jmk tT3) (o := 3) (nL := 3) (q := 1) (xs := [(.aload_n 0, 1, 0, 0, .null)]) (L' := [some (.ref 4), some (.int 4), some (.int 4)]) (st' := [.ref 4]) (w' := tW8) (g := []) (K := []) (by decide +kernel) rfl rfl rfl rfl jk0 ?_
  refine ev_objI (o := 3) (idx := 3) (by decide +kernel) rfl lk_3_3 jobi jobc (Nat.le_of_ble_eq_true rfl) (Nat.le_of_ble_eq_true rfl) ?_
  refine ev_seg (r := jmk tT3) (o := 3) (nL := 3) (q := 7) (xs := [(.aload_n 0, 1, 0, 0, .null), (.iconst 1, 1, 0, 0, .int 1), (.iload_n 2, 1, 2, 0, .null)]) (L' := [some (.ref 4), some (.int 4), some (.int 4)]) (st' := [.int 4, .int 1, .ref 4]) (w' := tW8) (g := []) (K := []) (by decide +kernel) rfl rfl rfl rfl jk0 ?_
  refine ev_max (o := 3) (idx := 9) (by decide +kernel) rfl lk_3_9 ms_max hMath mc_max (Nat.le_of_ble_eq_true rfl) (Nat.le_of_ble_eq_true rfl) (Nat.le_of_ble_eq_true rfl) (Nat.le_of_ble_eq_true rfl) ?_
  refine ev_putiF (r := jmk tT3) (o := 3) (idx := 15) (ci := 3) (k := 0) (a := 4) (by decide +kernel) rfl (by decide +kernel) rfl rfl rfl rfl (by decide +kernel) ?_
  show Ev l G _ _ _ _ _ _ _ _ _ _ (jmk tT3) tW9
  refine ev_seg (r := jmk tT3) (o := 3) (nL := 3) (q := 21) (xs := [(.aload_n 0, 1, 0, 0, .null), (.iconst 1, 1, 0, 0, .int 1), (.iload_n 1, 1, 1, 0, .null), (.aload_n 0, 1, 0, 0, .null), (.getfield 15, 3, 3, 0, .int 0), (.imul, 1, 0, 0, .null)]) (L' := [some (.ref 4), some (.int 4), some (.int 4)]) (st' := [.int (4 * (tW9.1 4 0)), .int 1, .ref 4]) (w' := tW9) (g := []) (K := [(4, 3)]) (by decide +kernel) rfl rfl rfl rfl (jk1 (by decide +kernel) jk0) ?_
  refine ev_max (o := 3) (idx := 9) (by decide +kernel) rfl lk_3_9 ms_max hMath mc_max (Nat.le_of_ble_eq_true rfl) (Nat.le_of_ble_eq_true rfl) (Nat.le_of_ble_eq_true rfl) (Nat.le_of_ble_eq_true rfl) ?_
  refine jnewa (T := tT3) (a := 5) (kd := 20) (ty := .int) (atype := .int) (N := 16) (by decide +kernel) (by decide +kernel) rfl (by decide +kernel) (Or.inl ⟨rfl, rfl⟩) ja_int (by decide +kernel) (by decide +kernel) (Nat.le_of_ble_eq_true rfl) (Nat.le_of_ble_eq_true rfl) (Nat.le_of_ble_eq_true rfl) ?_
  show Ev l G _ _ _ _ _ _ _ _ _ [.ref 5, .ref 4] (jmk tT4) tW10
  refine ev_putr (T := tT4) (o := 3) (idx := 21) (ci := 3) (k := 1) (a := 4) (b := 5) (by decide +kernel) rfl (by decide +kernel) rfl rfl rfl rfl (by decide +kernel) (by decide +kernel) (by decide +kernel) (by decide) ?_
  show Ev l G _ _ _ _ _ _ _ _ _ _ (jmk tT5) tW10
  refine ev_seg (r := jmk tT5) (o := 3) (nL := 3) (q := 34) (xs := [(.aload_n 0, 1, 0, 0, .null), (.iconst 0, 1, 0, 0, .int 0), (.putfield 25, 3, 3, 2, .int 0)]) (L' := [some (.ref 4), some (.int 4), some (.int 4)]) (st' := []) (w' := tW11) (g := []) (K := [(4, 3)]) (by decide +kernel) rfl rfl rfl rfl (jk1 (by decide +kernel) jk0) ?_
  exact ev_vret (by decide +kernel) rfl rfl rfl rfl
def tT6 : jT := jtr tT5 3 5 4
def tT7 : jT := jtn tT6 3 0 3
def tW12 : jW := jzr tW11 6
def tW13 : jW := (jup tW12.1 6 0 (if (1 : Int32) < 5 then 5 else 1), tW12.2)
def tT8 : jT := jtn tT7 20 50 0
def tW14 : jW := jzr tW13 7
def tT9 : jT := jtr tT8 6 1 7
def tW15 : jW := (jup tW14.1 6 2 0, tW14.2)
set_option maxRecDepth 200000 in
theorem jct1 {l : Launch} {G : jG} (hG : jX G) : Ct l G y_Rows_init (1, 21) 1 50 [.ref 6, .int 10, .int 5] (jmk tT7) tW12 (none, jmk tT9, tW15) := by
  refine Ct.of (L := [some (.ref 6), some (.int 10), some (.int 5)]) (by decide) (Nat.le_of_ble_eq_true rfl) rfl ?_
  refine ev_seg (r := jmk tT7) (o := 3) (nL := 3) (q := 1) (xs := [(.aload_n 0, 1, 0, 0, .null)]) (L' := [some (.ref 6), some (.int 10), some (.int 5)]) (st' := [.ref 6]) (w' := tW12) (g := []) (K := []) (by decide +kernel) rfl rfl rfl rfl jk0 ?_
  refine ev_objI (o := 3) (idx := 3) (by decide +kernel) rfl lk_3_3 jobi jobc (Nat.le_of_ble_eq_true rfl) (Nat.le_of_ble_eq_true rfl) ?_
  refine ev_seg (r := jmk tT7) (o := 3) (nL := 3) (q := 7) (xs := [(.aload_n 0, 1, 0, 0, .null), (.iconst 1, 1, 0, 0, .int 1), (.iload_n 2, 1, 2, 0, .null)]) (L' := [some (.ref 6), some (.int 10), some (.int 5)]) (st' := [.int 5, .int 1, .ref 6]) (w' := tW12) (g := []) (K := []) (by decide +kernel) rfl rfl rfl rfl jk0 ?_
  refine ev_max (o := 3) (idx := 9) (by decide +kernel) rfl lk_3_9 ms_max hMath mc_max (Nat.le_of_ble_eq_true rfl) (Nat.le_of_ble_eq_true rfl) (Nat.le_of_ble_eq_true rfl) (Nat.le_of_ble_eq_true rfl) ?_
  refine ev_putiF (r := jmk tT7) (o := 3) (idx := 15) (ci := 3) (k := 0) (a := 6) (by decide +kernel) rfl (by decide +kernel) rfl rfl rfl rfl (by decide +kernel) ?_
  show Ev l G _ _ _ _ _ _ _ _ _ _ (jmk tT7) tW13
  refine ev_seg (r := jmk tT7) (o := 3) (nL := 3) (q := 21) (xs := [(.aload_n 0, 1, 0, 0, .null), (.iconst 1, 1, 0, 0, .int 1), (.iload_n 1, 1, 1, 0, .null), (.aload_n 0, 1, 0, 0, .null), (.getfield 15, 3, 3, 0, .int 0), (.imul, 1, 0, 0, .null)]) (L' := [some (.ref 6), some (.int 10), some (.int 5)]) (st' := [.int (10 * (tW13.1 6 0)), .int 1, .ref 6]) (w' := tW13) (g := []) (K := [(6, 3)]) (by decide +kernel) rfl rfl rfl rfl (jk1 (by decide +kernel) jk0) ?_
  refine ev_max (o := 3) (idx := 9) (by decide +kernel) rfl lk_3_9 ms_max hMath mc_max (Nat.le_of_ble_eq_true rfl) (Nat.le_of_ble_eq_true rfl) (Nat.le_of_ble_eq_true rfl) (Nat.le_of_ble_eq_true rfl) ?_
  refine jnewa (T := tT7) (a := 7) (kd := 20) (ty := .int) (atype := .int) (N := 50) (by decide +kernel) (by decide +kernel) rfl (by decide +kernel) (Or.inl ⟨rfl, rfl⟩) ja_int (by decide +kernel) (by decide +kernel) (Nat.le_of_ble_eq_true rfl) (Nat.le_of_ble_eq_true rfl) (Nat.le_of_ble_eq_true rfl) ?_
  show Ev l G _ _ _ _ _ _ _ _ _ [.ref 7, .ref 6] (jmk tT8) tW14
  refine ev_putr (T := tT8) (o := 3) (idx := 21) (ci := 3) (k := 1) (a := 6) (b := 7) (by decide +kernel) rfl (by decide +kernel) rfl rfl rfl rfl (by decide +kernel) (by decide +kernel) (by decide +kernel) (by decide) ?_
  show Ev l G _ _ _ _ _ _ _ _ _ _ (jmk tT9) tW14
  refine ev_seg (r := jmk tT9) (o := 3) (nL := 3) (q := 34) (xs := [(.aload_n 0, 1, 0, 0, .null), (.iconst 0, 1, 0, 0, .int 0), (.putfield 25, 3, 3, 2, .int 0)]) (L' := [some (.ref 6), some (.int 10), some (.int 5)]) (st' := []) (w' := tW15) (g := []) (K := [(6, 3)]) (by decide +kernel) rfl rfl rfl rfl (jk1 (by decide +kernel) jk0) ?_
  exact ev_vret (by decide +kernel) rfl rfl rfl rfl
def tT10 : jT := jtr tT9 3 6 6
def tT11 : jT := jtn tT10 3 0 3
def tW16 : jW := jzr tW15 8
def tW17 : jW := (jup tW16.1 8 0 (if (1 : Int32) < 10 then 10 else 1), tW16.2)
def tT12 : jT := jtn tT11 20 100 0
def tW18 : jW := jzr tW17 9
def tT13 : jT := jtr tT12 8 1 9
def tW19 : jW := (jup tW18.1 8 2 0, tW18.2)
set_option maxRecDepth 200000 in
theorem jct2 {l : Launch} {G : jG} (hG : jX G) : Ct l G y_Rows_init (1, 21) 1 100 [.ref 8, .int 10, .int 10] (jmk tT11) tW16 (none, jmk tT13, tW19) := by
  refine Ct.of (L := [some (.ref 8), some (.int 10), some (.int 10)]) (by decide) (Nat.le_of_ble_eq_true rfl) rfl ?_
  refine ev_seg (r := jmk tT11) (o := 3) (nL := 3) (q := 1) (xs := [(.aload_n 0, 1, 0, 0, .null)]) (L' := [some (.ref 8), some (.int 10), some (.int 10)]) (st' := [.ref 8]) (w' := tW16) (g := []) (K := []) (by decide +kernel) rfl rfl rfl rfl jk0 ?_
  refine ev_objI (o := 3) (idx := 3) (by decide +kernel) rfl lk_3_3 jobi jobc (Nat.le_of_ble_eq_true rfl) (Nat.le_of_ble_eq_true rfl) ?_
  refine ev_seg (r := jmk tT11) (o := 3) (nL := 3) (q := 7) (xs := [(.aload_n 0, 1, 0, 0, .null), (.iconst 1, 1, 0, 0, .int 1), (.iload_n 2, 1, 2, 0, .null)]) (L' := [some (.ref 8), some (.int 10), some (.int 10)]) (st' := [.int 10, .int 1, .ref 8]) (w' := tW16) (g := []) (K := []) (by decide +kernel) rfl rfl rfl rfl jk0 ?_
  refine ev_max (o := 3) (idx := 9) (by decide +kernel) rfl lk_3_9 ms_max hMath mc_max (Nat.le_of_ble_eq_true rfl) (Nat.le_of_ble_eq_true rfl) (Nat.le_of_ble_eq_true rfl) (Nat.le_of_ble_eq_true rfl) ?_
  refine ev_putiF (r := jmk tT11) (o := 3) (idx := 15) (ci := 3) (k := 0) (a := 8) (by decide +kernel) rfl (by decide +kernel) rfl rfl rfl rfl (by decide +kernel) ?_
  show Ev l G _ _ _ _ _ _ _ _ _ _ (jmk tT11) tW17
  refine ev_seg (r := jmk tT11) (o := 3) (nL := 3) (q := 21) (xs := [(.aload_n 0, 1, 0, 0, .null), (.iconst 1, 1, 0, 0, .int 1), (.iload_n 1, 1, 1, 0, .null), (.aload_n 0, 1, 0, 0, .null), (.getfield 15, 3, 3, 0, .int 0), (.imul, 1, 0, 0, .null)]) (L' := [some (.ref 8), some (.int 10), some (.int 10)]) (st' := [.int (10 * (tW17.1 8 0)), .int 1, .ref 8]) (w' := tW17) (g := []) (K := [(8, 3)]) (by decide +kernel) rfl rfl rfl rfl (jk1 (by decide +kernel) jk0) ?_
  refine ev_max (o := 3) (idx := 9) (by decide +kernel) rfl lk_3_9 ms_max hMath mc_max (Nat.le_of_ble_eq_true rfl) (Nat.le_of_ble_eq_true rfl) (Nat.le_of_ble_eq_true rfl) (Nat.le_of_ble_eq_true rfl) ?_
  refine jnewa (T := tT11) (a := 9) (kd := 20) (ty := .int) (atype := .int) (N := 100) (by decide +kernel) (by decide +kernel) rfl (by decide +kernel) (Or.inl ⟨rfl, rfl⟩) ja_int (by decide +kernel) (by decide +kernel) (Nat.le_of_ble_eq_true rfl) (Nat.le_of_ble_eq_true rfl) (Nat.le_of_ble_eq_true rfl) ?_
  show Ev l G _ _ _ _ _ _ _ _ _ [.ref 9, .ref 8] (jmk tT12) tW18
  refine ev_putr (T := tT12) (o := 3) (idx := 21) (ci := 3) (k := 1) (a := 8) (b := 9) (by decide +kernel) rfl (by decide +kernel) rfl rfl rfl rfl (by decide +kernel) (by decide +kernel) (by decide +kernel) (by decide) ?_
  show Ev l G _ _ _ _ _ _ _ _ _ _ (jmk tT13) tW18
  refine ev_seg (r := jmk tT13) (o := 3) (nL := 3) (q := 34) (xs := [(.aload_n 0, 1, 0, 0, .null), (.iconst 0, 1, 0, 0, .int 0), (.putfield 25, 3, 3, 2, .int 0)]) (L' := [some (.ref 8), some (.int 10), some (.int 10)]) (st' := []) (w' := tW19) (g := []) (K := [(8, 3)]) (by decide +kernel) rfl rfl rfl rfl (jk1 (by decide +kernel) jk0) ?_
  exact ev_vret (by decide +kernel) rfl rfl rfl rfl
def tT14 : jT := jtr tT13 3 7 8
def tT15 : jT := jtn tT14 3 0 3
def tW20 : jW := jzr tW19 10
def tW21 : jW := (jup tW20.1 10 0 (if (1 : Int32) < 11 then 11 else 1), tW20.2)
def tT16 : jT := jtn tT15 20 440 0
def tW22 : jW := jzr tW21 11
def tT17 : jT := jtr tT16 10 1 11
def tW23 : jW := (jup tW22.1 10 2 0, tW22.2)
set_option maxRecDepth 200000 in
theorem jct3 {l : Launch} {G : jG} (hG : jX G) : Ct l G y_Rows_init (1, 21) 1 440 [.ref 10, .int 40, .int 11] (jmk tT15) tW20 (none, jmk tT17, tW23) := by
  refine Ct.of (L := [some (.ref 10), some (.int 40), some (.int 11)]) (by decide) (Nat.le_of_ble_eq_true rfl) rfl ?_
  refine ev_seg (r := jmk tT15) (o := 3) (nL := 3) (q := 1) (xs := [(.aload_n 0, 1, 0, 0, .null)]) (L' := [some (.ref 10), some (.int 40), some (.int 11)]) (st' := [.ref 10]) (w' := tW20) (g := []) (K := []) (by decide +kernel) rfl rfl rfl rfl jk0 ?_
  refine ev_objI (o := 3) (idx := 3) (by decide +kernel) rfl lk_3_3 jobi jobc (Nat.le_of_ble_eq_true rfl) (Nat.le_of_ble_eq_true rfl) ?_
  refine ev_seg (r := jmk tT15) (o := 3) (nL := 3) (q := 7) (xs := [(.aload_n 0, 1, 0, 0, .null), (.iconst 1, 1, 0, 0, .int 1), (.iload_n 2, 1, 2, 0, .null)]) (L' := [some (.ref 10), some (.int 40), some (.int 11)]) (st' := [.int 11, .int 1, .ref 10]) (w' := tW20) (g := []) (K := []) (by decide +kernel) rfl rfl rfl rfl jk0 ?_
  refine ev_max (o := 3) (idx := 9) (by decide +kernel) rfl lk_3_9 ms_max hMath mc_max (Nat.le_of_ble_eq_true rfl) (Nat.le_of_ble_eq_true rfl) (Nat.le_of_ble_eq_true rfl) (Nat.le_of_ble_eq_true rfl) ?_
  refine ev_putiF (r := jmk tT15) (o := 3) (idx := 15) (ci := 3) (k := 0) (a := 10) (by decide +kernel) rfl (by decide +kernel) rfl rfl rfl rfl (by decide +kernel) ?_
  show Ev l G _ _ _ _ _ _ _ _ _ _ (jmk tT15) tW21
  refine ev_seg (r := jmk tT15) (o := 3) (nL := 3) (q := 21) (xs := [(.aload_n 0, 1, 0, 0, .null), (.iconst 1, 1, 0, 0, .int 1), (.iload_n 1, 1, 1, 0, .null), (.aload_n 0, 1, 0, 0, .null), (.getfield 15, 3, 3, 0, .int 0), (.imul, 1, 0, 0, .null)]) (L' := [some (.ref 10), some (.int 40), some (.int 11)]) (st' := [.int (40 * (tW21.1 10 0)), .int 1, .ref 10]) (w' := tW21) (g := []) (K := [(10, 3)]) (by decide +kernel) rfl rfl rfl rfl (jk1 (by decide +kernel) jk0) ?_
  refine ev_max (o := 3) (idx := 9) (by decide +kernel) rfl lk_3_9 ms_max hMath mc_max (Nat.le_of_ble_eq_true rfl) (Nat.le_of_ble_eq_true rfl) (Nat.le_of_ble_eq_true rfl) (Nat.le_of_ble_eq_true rfl) ?_
  refine jnewa (T := tT15) (a := 11) (kd := 20) (ty := .int) (atype := .int) (N := 440) (by decide +kernel) (by decide +kernel) rfl (by decide +kernel) (Or.inl ⟨rfl, rfl⟩) ja_int (by decide +kernel) (by decide +kernel) (Nat.le_of_ble_eq_true rfl) (Nat.le_of_ble_eq_true rfl) (Nat.le_of_ble_eq_true rfl) ?_
  show Ev l G _ _ _ _ _ _ _ _ _ [.ref 11, .ref 10] (jmk tT16) tW22
  refine ev_putr (T := tT16) (o := 3) (idx := 21) (ci := 3) (k := 1) (a := 10) (b := 11) (by decide +kernel) rfl (by decide +kernel) rfl rfl rfl rfl (by decide +kernel) (by decide +kernel) (by decide +kernel) (by decide) ?_
  show Ev l G _ _ _ _ _ _ _ _ _ _ (jmk tT17) tW22
  refine ev_seg (r := jmk tT17) (o := 3) (nL := 3) (q := 34) (xs := [(.aload_n 0, 1, 0, 0, .null), (.iconst 0, 1, 0, 0, .int 0), (.putfield 25, 3, 3, 2, .int 0)]) (L' := [some (.ref 10), some (.int 40), some (.int 11)]) (st' := []) (w' := tW23) (g := []) (K := [(10, 3)]) (by decide +kernel) rfl rfl rfl rfl (jk1 (by decide +kernel) jk0) ?_
  exact ev_vret (by decide +kernel) rfl rfl rfl rfl
def tT18 : jT := jtr tT17 3 8 10
def tT19 : jT := jtn tT18 3 0 3
def tW24 : jW := jzr tW23 12
def tW25 : jW := (jup tW24.1 12 0 (if (1 : Int32) < 6 then 6 else 1), tW24.2)
def tT20 : jT := jtn tT19 20 600 0
def tW26 : jW := jzr tW25 13
def tT21 : jT := jtr tT20 12 1 13
def tW27 : jW := (jup tW26.1 12 2 0, tW26.2)
set_option maxRecDepth 200000 in
theorem jct4 {l : Launch} {G : jG} (hG : jX G) : Ct l G y_Rows_init (1, 21) 1 600 [.ref 12, .int 100, .int 6] (jmk tT19) tW24 (none, jmk tT21, tW27) := by
  refine Ct.of (L := [some (.ref 12), some (.int 100), some (.int 6)]) (by decide) (Nat.le_of_ble_eq_true rfl) rfl ?_
  refine ev_seg (r := jmk tT19) (o := 3) (nL := 3) (q := 1) (xs := [(.aload_n 0, 1, 0, 0, .null)]) (L' := [some (.ref 12), some (.int 100), some (.int 6)]) (st' := [.ref 12]) (w' := tW24) (g := []) (K := []) (by decide +kernel) rfl rfl rfl rfl jk0 ?_
  refine ev_objI (o := 3) (idx := 3) (by decide +kernel) rfl lk_3_3 jobi jobc (Nat.le_of_ble_eq_true rfl) (Nat.le_of_ble_eq_true rfl) ?_
  refine ev_seg (r := jmk tT19) (o := 3) (nL := 3) (q := 7) (xs := [(.aload_n 0, 1, 0, 0, .null), (.iconst 1, 1, 0, 0, .int 1), (.iload_n 2, 1, 2, 0, .null)]) (L' := [some (.ref 12), some (.int 100), some (.int 6)]) (st' := [.int 6, .int 1, .ref 12]) (w' := tW24) (g := []) (K := []) (by decide +kernel) rfl rfl rfl rfl jk0 ?_
  refine ev_max (o := 3) (idx := 9) (by decide +kernel) rfl lk_3_9 ms_max hMath mc_max (Nat.le_of_ble_eq_true rfl) (Nat.le_of_ble_eq_true rfl) (Nat.le_of_ble_eq_true rfl) (Nat.le_of_ble_eq_true rfl) ?_
  refine ev_putiF (r := jmk tT19) (o := 3) (idx := 15) (ci := 3) (k := 0) (a := 12) (by decide +kernel) rfl (by decide +kernel) rfl rfl rfl rfl (by decide +kernel) ?_
  show Ev l G _ _ _ _ _ _ _ _ _ _ (jmk tT19) tW25
  refine ev_seg (r := jmk tT19) (o := 3) (nL := 3) (q := 21) (xs := [(.aload_n 0, 1, 0, 0, .null), (.iconst 1, 1, 0, 0, .int 1), (.iload_n 1, 1, 1, 0, .null), (.aload_n 0, 1, 0, 0, .null), (.getfield 15, 3, 3, 0, .int 0), (.imul, 1, 0, 0, .null)]) (L' := [some (.ref 12), some (.int 100), some (.int 6)]) (st' := [.int (100 * (tW25.1 12 0)), .int 1, .ref 12]) (w' := tW25) (g := []) (K := [(12, 3)]) (by decide +kernel) rfl rfl rfl rfl (jk1 (by decide +kernel) jk0) ?_
  refine ev_max (o := 3) (idx := 9) (by decide +kernel) rfl lk_3_9 ms_max hMath mc_max (Nat.le_of_ble_eq_true rfl) (Nat.le_of_ble_eq_true rfl) (Nat.le_of_ble_eq_true rfl) (Nat.le_of_ble_eq_true rfl) ?_
  refine jnewa (T := tT19) (a := 13) (kd := 20) (ty := .int) (atype := .int) (N := 600) (by decide +kernel) (by decide +kernel) rfl (by decide +kernel) (Or.inl ⟨rfl, rfl⟩) ja_int (by decide +kernel) (by decide +kernel) (Nat.le_of_ble_eq_true rfl) (Nat.le_of_ble_eq_true rfl) (Nat.le_of_ble_eq_true rfl) ?_
  show Ev l G _ _ _ _ _ _ _ _ _ [.ref 13, .ref 12] (jmk tT20) tW26
  refine ev_putr (T := tT20) (o := 3) (idx := 21) (ci := 3) (k := 1) (a := 12) (b := 13) (by decide +kernel) rfl (by decide +kernel) rfl rfl rfl rfl (by decide +kernel) (by decide +kernel) (by decide +kernel) (by decide) ?_
  show Ev l G _ _ _ _ _ _ _ _ _ _ (jmk tT21) tW26
  refine ev_seg (r := jmk tT21) (o := 3) (nL := 3) (q := 34) (xs := [(.aload_n 0, 1, 0, 0, .null), (.iconst 0, 1, 0, 0, .int 0), (.putfield 25, 3, 3, 2, .int 0)]) (L' := [some (.ref 12), some (.int 100), some (.int 6)]) (st' := []) (w' := tW27) (g := []) (K := [(12, 3)]) (by decide +kernel) rfl rfl rfl rfl (jk1 (by decide +kernel) jk0) ?_
  exact ev_vret (by decide +kernel) rfl rfl rfl rfl
def tT22 : jT := jtr tT21 3 9 12
def tT23 : jT := jtn tT22 3 0 3
def tW28 : jW := jzr tW27 14
def tW29 : jW := (jup tW28.1 14 0 (if (1 : Int32) < 2 then 2 else 1), tW28.2)
def tT24 : jT := jtn tT23 20 80 0
def tW30 : jW := jzr tW29 15
def tT25 : jT := jtr tT24 14 1 15
def tW31 : jW := (jup tW30.1 14 2 0, tW30.2)
set_option maxRecDepth 200000 in
theorem jct5 {l : Launch} {G : jG} (hG : jX G) : Ct l G y_Rows_init (1, 21) 1 80 [.ref 14, .int 40, .int 2] (jmk tT23) tW28 (none, jmk tT25, tW31) := by
  refine Ct.of (L := [some (.ref 14), some (.int 40), some (.int 2)]) (by decide) (Nat.le_of_ble_eq_true rfl) rfl ?_
  refine ev_seg (r := jmk tT23) (o := 3) (nL := 3) (q := 1) (xs := [(.aload_n 0, 1, 0, 0, .null)]) (L' := [some (.ref 14), some (.int 40), some (.int 2)]) (st' := [.ref 14]) (w' := tW28) (g := []) (K := []) (by decide +kernel) rfl rfl rfl rfl jk0 ?_
  refine ev_objI (o := 3) (idx := 3) (by decide +kernel) rfl lk_3_3 jobi jobc (Nat.le_of_ble_eq_true rfl) (Nat.le_of_ble_eq_true rfl) ?_
  refine ev_seg (r := jmk tT23) (o := 3) (nL := 3) (q := 7) (xs := [(.aload_n 0, 1, 0, 0, .null), (.iconst 1, 1, 0, 0, .int 1), (.iload_n 2, 1, 2, 0, .null)]) (L' := [some (.ref 14), some (.int 40), some (.int 2)]) (st' := [.int 2, .int 1, .ref 14]) (w' := tW28) (g := []) (K := []) (by decide +kernel) rfl rfl rfl rfl jk0 ?_
  refine ev_max (o := 3) (idx := 9) (by decide +kernel) rfl lk_3_9 ms_max hMath mc_max (Nat.le_of_ble_eq_true rfl) (Nat.le_of_ble_eq_true rfl) (Nat.le_of_ble_eq_true rfl) (Nat.le_of_ble_eq_true rfl) ?_
  refine ev_putiF (r := jmk tT23) (o := 3) (idx := 15) (ci := 3) (k := 0) (a := 14) (by decide +kernel) rfl (by decide +kernel) rfl rfl rfl rfl (by decide +kernel) ?_
  show Ev l G _ _ _ _ _ _ _ _ _ _ (jmk tT23) tW29
  refine ev_seg (r := jmk tT23) (o := 3) (nL := 3) (q := 21) (xs := [(.aload_n 0, 1, 0, 0, .null), (.iconst 1, 1, 0, 0, .int 1), (.iload_n 1, 1, 1, 0, .null), (.aload_n 0, 1, 0, 0, .null), (.getfield 15, 3, 3, 0, .int 0), (.imul, 1, 0, 0, .null)]) (L' := [some (.ref 14), some (.int 40), some (.int 2)]) (st' := [.int (40 * (tW29.1 14 0)), .int 1, .ref 14]) (w' := tW29) (g := []) (K := [(14, 3)]) (by decide +kernel) rfl rfl rfl rfl (jk1 (by decide +kernel) jk0) ?_
  refine ev_max (o := 3) (idx := 9) (by decide +kernel) rfl lk_3_9 ms_max hMath mc_max (Nat.le_of_ble_eq_true rfl) (Nat.le_of_ble_eq_true rfl) (Nat.le_of_ble_eq_true rfl) (Nat.le_of_ble_eq_true rfl) ?_
  refine jnewa (T := tT23) (a := 15) (kd := 20) (ty := .int) (atype := .int) (N := 80) (by decide +kernel) (by decide +kernel) rfl (by decide +kernel) (Or.inl ⟨rfl, rfl⟩) ja_int (by decide +kernel) (by decide +kernel) (Nat.le_of_ble_eq_true rfl) (Nat.le_of_ble_eq_true rfl) (Nat.le_of_ble_eq_true rfl) ?_
  show Ev l G _ _ _ _ _ _ _ _ _ [.ref 15, .ref 14] (jmk tT24) tW30
  refine ev_putr (T := tT24) (o := 3) (idx := 21) (ci := 3) (k := 1) (a := 14) (b := 15) (by decide +kernel) rfl (by decide +kernel) rfl rfl rfl rfl (by decide +kernel) (by decide +kernel) (by decide +kernel) (by decide) ?_
  show Ev l G _ _ _ _ _ _ _ _ _ _ (jmk tT25) tW30
  refine ev_seg (r := jmk tT25) (o := 3) (nL := 3) (q := 34) (xs := [(.aload_n 0, 1, 0, 0, .null), (.iconst 0, 1, 0, 0, .int 0), (.putfield 25, 3, 3, 2, .int 0)]) (L' := [some (.ref 14), some (.int 40), some (.int 2)]) (st' := []) (w' := tW31) (g := []) (K := [(14, 3)]) (by decide +kernel) rfl rfl rfl rfl (jk1 (by decide +kernel) jk0) ?_
  exact ev_vret (by decide +kernel) rfl rfl rfl rfl
def tT26 : jT := jtr tT25 3 10 14
def tT27 : jT := jtn tT26 8 0 4
def tW32 : jW := jzr tW31 16
def tT28 : jT := jtn tT27 3 0 3
def tW33 : jW := jzr tW32 17
def tW34 : jW := (jup tW33.1 17 0 (if (1 : Int32) < 4 then 4 else 1), tW33.2)
def tT29 : jT := jtn tT28 20 40 0
def tW35 : jW := jzr tW34 18
def tT30 : jT := jtr tT29 17 1 18
def tW36 : jW := (jup tW35.1 17 2 0, tW35.2)
set_option maxRecDepth 200000 in
theorem jct6 {l : Launch} {G : jG} (hG : jX G) : Ct l G y_Rows_init (1, 21) 1 40 [.ref 17, .int 10, .int 4] (jmk tT28) tW33 (none, jmk tT30, tW36) := by
  refine Ct.of (L := [some (.ref 17), some (.int 10), some (.int 4)]) (by decide) (Nat.le_of_ble_eq_true rfl) rfl ?_
  refine ev_seg (r := jmk tT28) (o := 3) (nL := 3) (q := 1) (xs := [(.aload_n 0, 1, 0, 0, .null)]) (L' := [some (.ref 17), some (.int 10), some (.int 4)]) (st' := [.ref 17]) (w' := tW33) (g := []) (K := []) (by decide +kernel) rfl rfl rfl rfl jk0 ?_
  refine ev_objI (o := 3) (idx := 3) (by decide +kernel) rfl lk_3_3 jobi jobc (Nat.le_of_ble_eq_true rfl) (Nat.le_of_ble_eq_true rfl) ?_
  refine ev_seg (r := jmk tT28) (o := 3) (nL := 3) (q := 7) (xs := [(.aload_n 0, 1, 0, 0, .null), (.iconst 1, 1, 0, 0, .int 1), (.iload_n 2, 1, 2, 0, .null)]) (L' := [some (.ref 17), some (.int 10), some (.int 4)]) (st' := [.int 4, .int 1, .ref 17]) (w' := tW33) (g := []) (K := []) (by decide +kernel) rfl rfl rfl rfl jk0 ?_
  refine ev_max (o := 3) (idx := 9) (by decide +kernel) rfl lk_3_9 ms_max hMath mc_max (Nat.le_of_ble_eq_true rfl) (Nat.le_of_ble_eq_true rfl) (Nat.le_of_ble_eq_true rfl) (Nat.le_of_ble_eq_true rfl) ?_
  refine ev_putiF (r := jmk tT28) (o := 3) (idx := 15) (ci := 3) (k := 0) (a := 17) (by decide +kernel) rfl (by decide +kernel) rfl rfl rfl rfl (by decide +kernel) ?_
  show Ev l G _ _ _ _ _ _ _ _ _ _ (jmk tT28) tW34
  refine ev_seg (r := jmk tT28) (o := 3) (nL := 3) (q := 21) (xs := [(.aload_n 0, 1, 0, 0, .null), (.iconst 1, 1, 0, 0, .int 1), (.iload_n 1, 1, 1, 0, .null), (.aload_n 0, 1, 0, 0, .null), (.getfield 15, 3, 3, 0, .int 0), (.imul, 1, 0, 0, .null)]) (L' := [some (.ref 17), some (.int 10), some (.int 4)]) (st' := [.int (10 * (tW34.1 17 0)), .int 1, .ref 17]) (w' := tW34) (g := []) (K := [(17, 3)]) (by decide +kernel) rfl rfl rfl rfl (jk1 (by decide +kernel) jk0) ?_
  refine ev_max (o := 3) (idx := 9) (by decide +kernel) rfl lk_3_9 ms_max hMath mc_max (Nat.le_of_ble_eq_true rfl) (Nat.le_of_ble_eq_true rfl) (Nat.le_of_ble_eq_true rfl) (Nat.le_of_ble_eq_true rfl) ?_
  refine jnewa (T := tT28) (a := 18) (kd := 20) (ty := .int) (atype := .int) (N := 40) (by decide +kernel) (by decide +kernel) rfl (by decide +kernel) (Or.inl ⟨rfl, rfl⟩) ja_int (by decide +kernel) (by decide +kernel) (Nat.le_of_ble_eq_true rfl) (Nat.le_of_ble_eq_true rfl) (Nat.le_of_ble_eq_true rfl) ?_
  show Ev l G _ _ _ _ _ _ _ _ _ [.ref 18, .ref 17] (jmk tT29) tW35
  refine ev_putr (T := tT29) (o := 3) (idx := 21) (ci := 3) (k := 1) (a := 17) (b := 18) (by decide +kernel) rfl (by decide +kernel) rfl rfl rfl rfl (by decide +kernel) (by decide +kernel) (by decide +kernel) (by decide) ?_
  show Ev l G _ _ _ _ _ _ _ _ _ _ (jmk tT30) tW35
  refine ev_seg (r := jmk tT30) (o := 3) (nL := 3) (q := 34) (xs := [(.aload_n 0, 1, 0, 0, .null), (.iconst 0, 1, 0, 0, .int 0), (.putfield 25, 3, 3, 2, .int 0)]) (L' := [some (.ref 17), some (.int 10), some (.int 4)]) (st' := []) (w' := tW36) (g := []) (K := [(17, 3)]) (by decide +kernel) rfl rfl rfl rfl (jk1 (by decide +kernel) jk0) ?_
  exact ev_vret (by decide +kernel) rfl rfl rfl rfl
def tT31 : jT := jtr tT30 16 0 17
def tT32 : jT := jtn tT31 3 0 3
def tW37 : jW := jzr tW36 19
def tW38 : jW := (jup tW37.1 19 0 (if (1 : Int32) < 4 then 4 else 1), tW37.2)
def tT33 : jT := jtn tT32 20 640 0
def tW39 : jW := jzr tW38 20
def tT34 : jT := jtr tT33 19 1 20
def tW40 : jW := (jup tW39.1 19 2 0, tW39.2)
set_option maxRecDepth 200000 in
theorem jct7 {l : Launch} {G : jG} (hG : jX G) : Ct l G y_Rows_init (1, 21) 1 640 [.ref 19, .int 160, .int 4] (jmk tT32) tW37 (none, jmk tT34, tW40) := by
  refine Ct.of (L := [some (.ref 19), some (.int 160), some (.int 4)]) (by decide) (Nat.le_of_ble_eq_true rfl) rfl ?_
  refine ev_seg (r := jmk tT32) (o := 3) (nL := 3) (q := 1) (xs := [(.aload_n 0, 1, 0, 0, .null)]) (L' := [some (.ref 19), some (.int 160), some (.int 4)]) (st' := [.ref 19]) (w' := tW37) (g := []) (K := []) (by decide +kernel) rfl rfl rfl rfl jk0 ?_
  refine ev_objI (o := 3) (idx := 3) (by decide +kernel) rfl lk_3_3 jobi jobc (Nat.le_of_ble_eq_true rfl) (Nat.le_of_ble_eq_true rfl) ?_
  refine ev_seg (r := jmk tT32) (o := 3) (nL := 3) (q := 7) (xs := [(.aload_n 0, 1, 0, 0, .null), (.iconst 1, 1, 0, 0, .int 1), (.iload_n 2, 1, 2, 0, .null)]) (L' := [some (.ref 19), some (.int 160), some (.int 4)]) (st' := [.int 4, .int 1, .ref 19]) (w' := tW37) (g := []) (K := []) (by decide +kernel) rfl rfl rfl rfl jk0 ?_
  refine ev_max (o := 3) (idx := 9) (by decide +kernel) rfl lk_3_9 ms_max hMath mc_max (Nat.le_of_ble_eq_true rfl) (Nat.le_of_ble_eq_true rfl) (Nat.le_of_ble_eq_true rfl) (Nat.le_of_ble_eq_true rfl) ?_
  refine ev_putiF (r := jmk tT32) (o := 3) (idx := 15) (ci := 3) (k := 0) (a := 19) (by decide +kernel) rfl (by decide +kernel) rfl rfl rfl rfl (by decide +kernel) ?_
  show Ev l G _ _ _ _ _ _ _ _ _ _ (jmk tT32) tW38
  refine ev_seg (r := jmk tT32) (o := 3) (nL := 3) (q := 21) (xs := [(.aload_n 0, 1, 0, 0, .null), (.iconst 1, 1, 0, 0, .int 1), (.iload_n 1, 1, 1, 0, .null), (.aload_n 0, 1, 0, 0, .null), (.getfield 15, 3, 3, 0, .int 0), (.imul, 1, 0, 0, .null)]) (L' := [some (.ref 19), some (.int 160), some (.int 4)]) (st' := [.int (160 * (tW38.1 19 0)), .int 1, .ref 19]) (w' := tW38) (g := []) (K := [(19, 3)]) (by decide +kernel) rfl rfl rfl rfl (jk1 (by decide +kernel) jk0) ?_
  refine ev_max (o := 3) (idx := 9) (by decide +kernel) rfl lk_3_9 ms_max hMath mc_max (Nat.le_of_ble_eq_true rfl) (Nat.le_of_ble_eq_true rfl) (Nat.le_of_ble_eq_true rfl) (Nat.le_of_ble_eq_true rfl) ?_
  refine jnewa (T := tT32) (a := 20) (kd := 20) (ty := .int) (atype := .int) (N := 640) (by decide +kernel) (by decide +kernel) rfl (by decide +kernel) (Or.inl ⟨rfl, rfl⟩) ja_int (by decide +kernel) (by decide +kernel) (Nat.le_of_ble_eq_true rfl) (Nat.le_of_ble_eq_true rfl) (Nat.le_of_ble_eq_true rfl) ?_
  show Ev l G _ _ _ _ _ _ _ _ _ [.ref 20, .ref 19] (jmk tT33) tW39
  refine ev_putr (T := tT33) (o := 3) (idx := 21) (ci := 3) (k := 1) (a := 19) (b := 20) (by decide +kernel) rfl (by decide +kernel) rfl rfl rfl rfl (by decide +kernel) (by decide +kernel) (by decide +kernel) (by decide) ?_
  show Ev l G _ _ _ _ _ _ _ _ _ _ (jmk tT34) tW39
  refine ev_seg (r := jmk tT34) (o := 3) (nL := 3) (q := 34) (xs := [(.aload_n 0, 1, 0, 0, .null), (.iconst 0, 1, 0, 0, .int 0), (.putfield 25, 3, 3, 2, .int 0)]) (L' := [some (.ref 19), some (.int 160), some (.int 4)]) (st' := []) (w' := tW40) (g := []) (K := [(19, 3)]) (by decide +kernel) rfl rfl rfl rfl (jk1 (by decide +kernel) jk0) ?_
  exact ev_vret (by decide +kernel) rfl rfl rfl rfl
def tT35 : jT := jtr tT34 16 1 19
def tT36 : jT := jtn tT35 3 0 3
def tW41 : jW := jzr tW40 21
def tW42 : jW := (jup tW41.1 21 0 (if (1 : Int32) < 1 then 1 else 1), tW41.2)
def tT37 : jT := jtn tT36 20 3000 0
def tW43 : jW := jzr tW42 22
def tT38 : jT := jtr tT37 21 1 22
def tW44 : jW := (jup tW43.1 21 2 0, tW43.2)
set_option maxRecDepth 200000 in
theorem jct8 {l : Launch} {G : jG} (hG : jX G) : Ct l G y_Rows_init (1, 21) 1 3000 [.ref 21, .int 3000, .int 1] (jmk tT36) tW41 (none, jmk tT38, tW44) := by
  refine Ct.of (L := [some (.ref 21), some (.int 3000), some (.int 1)]) (by decide) (Nat.le_of_ble_eq_true rfl) rfl ?_
  refine ev_seg (r := jmk tT36) (o := 3) (nL := 3) (q := 1) (xs := [(.aload_n 0, 1, 0, 0, .null)]) (L' := [some (.ref 21), some (.int 3000), some (.int 1)]) (st' := [.ref 21]) (w' := tW41) (g := []) (K := []) (by decide +kernel) rfl rfl rfl rfl jk0 ?_
  refine ev_objI (o := 3) (idx := 3) (by decide +kernel) rfl lk_3_3 jobi jobc (Nat.le_of_ble_eq_true rfl) (Nat.le_of_ble_eq_true rfl) ?_
  refine ev_seg (r := jmk tT36) (o := 3) (nL := 3) (q := 7) (xs := [(.aload_n 0, 1, 0, 0, .null), (.iconst 1, 1, 0, 0, .int 1), (.iload_n 2, 1, 2, 0, .null)]) (L' := [some (.ref 21), some (.int 3000), some (.int 1)]) (st' := [.int 1, .int 1, .ref 21]) (w' := tW41) (g := []) (K := []) (by decide +kernel) rfl rfl rfl rfl jk0 ?_
  refine ev_max (o := 3) (idx := 9) (by decide +kernel) rfl lk_3_9 ms_max hMath mc_max (Nat.le_of_ble_eq_true rfl) (Nat.le_of_ble_eq_true rfl) (Nat.le_of_ble_eq_true rfl) (Nat.le_of_ble_eq_true rfl) ?_
  refine ev_putiF (r := jmk tT36) (o := 3) (idx := 15) (ci := 3) (k := 0) (a := 21) (by decide +kernel) rfl (by decide +kernel) rfl rfl rfl rfl (by decide +kernel) ?_
  show Ev l G _ _ _ _ _ _ _ _ _ _ (jmk tT36) tW42
  refine ev_seg (r := jmk tT36) (o := 3) (nL := 3) (q := 21) (xs := [(.aload_n 0, 1, 0, 0, .null), (.iconst 1, 1, 0, 0, .int 1), (.iload_n 1, 1, 1, 0, .null), (.aload_n 0, 1, 0, 0, .null), (.getfield 15, 3, 3, 0, .int 0), (.imul, 1, 0, 0, .null)]) (L' := [some (.ref 21), some (.int 3000), some (.int 1)]) (st' := [.int (3000 * (tW42.1 21 0)), .int 1, .ref 21]) (w' := tW42) (g := []) (K := [(21, 3)]) (by decide +kernel) rfl rfl rfl rfl (jk1 (by decide +kernel) jk0) ?_
  refine ev_max (o := 3) (idx := 9) (by decide +kernel) rfl lk_3_9 ms_max hMath mc_max (Nat.le_of_ble_eq_true rfl) (Nat.le_of_ble_eq_true rfl) (Nat.le_of_ble_eq_true rfl) (Nat.le_of_ble_eq_true rfl) ?_
  refine jnewa (T := tT36) (a := 22) (kd := 20) (ty := .int) (atype := .int) (N := 3000) (by decide +kernel) (by decide +kernel) rfl (by decide +kernel) (Or.inl ⟨rfl, rfl⟩) ja_int (by decide +kernel) (by decide +kernel) (Nat.le_of_ble_eq_true rfl) (Nat.le_of_ble_eq_true rfl) (Nat.le_of_ble_eq_true rfl) ?_
  show Ev l G _ _ _ _ _ _ _ _ _ [.ref 22, .ref 21] (jmk tT37) tW43
  refine ev_putr (T := tT37) (o := 3) (idx := 21) (ci := 3) (k := 1) (a := 21) (b := 22) (by decide +kernel) rfl (by decide +kernel) rfl rfl rfl rfl (by decide +kernel) (by decide +kernel) (by decide +kernel) (by decide) ?_
  show Ev l G _ _ _ _ _ _ _ _ _ _ (jmk tT38) tW43
  refine ev_seg (r := jmk tT38) (o := 3) (nL := 3) (q := 34) (xs := [(.aload_n 0, 1, 0, 0, .null), (.iconst 0, 1, 0, 0, .int 0), (.putfield 25, 3, 3, 2, .int 0)]) (L' := [some (.ref 21), some (.int 3000), some (.int 1)]) (st' := []) (w' := tW44) (g := []) (K := [(21, 3)]) (by decide +kernel) rfl rfl rfl rfl (jk1 (by decide +kernel) jk0) ?_
  exact ev_vret (by decide +kernel) rfl rfl rfl rfl
def tT39 : jT := jtr tT38 16 2 21
def tT40 : jT := jtn tT39 20 5 0
def tW45 : jW := jzr tW44 23
def tT41 : jT := jtr tT40 16 3 23
set_option maxRecDepth 200000 in
theorem jct9 {l : Launch} {G : jG} (hG : jX G) : Ct l G y_Treaty_init (2, 43) 7 3694 [.ref 16] (jmk tT27) tW32 (none, jmk tT41, tW45) := by
  refine Ct.of (L := [some (.ref 16)]) (by decide) (Nat.le_of_ble_eq_true rfl) rfl ?_
  refine ev_seg (r := jmk tT27) (o := 8) (nL := 1) (q := 1) (xs := [(.aload_n 0, 1, 0, 0, .null)]) (L' := [some (.ref 16)]) (st' := [.ref 16]) (w' := tW32) (g := []) (K := []) (by decide +kernel) rfl rfl rfl rfl jk0 ?_
  refine ev_objI (o := 8) (idx := 3) (by decide +kernel) rfl lk_8_3 jobi jobc (Nat.le_of_ble_eq_true rfl) (Nat.le_of_ble_eq_true rfl) ?_
  refine ev_seg (r := jmk tT27) (o := 8) (nL := 1) (q := 5) (xs := [(.aload_n 0, 1, 0, 0, .null)]) (L' := [some (.ref 16)]) (st' := [.ref 16]) (w' := tW32) (g := []) (K := []) (by decide +kernel) rfl rfl rfl rfl jk0 ?_
  refine ev_new (T := tT27) (a := 17) (o := 8) (idx := 9) (ci := 3) (by decide +kernel) (by decide +kernel) rfl (by decide +kernel) (by decide) jcl_8_9 jis_3 ji_3 (Nat.le_of_ble_eq_true rfl) (Nat.le_of_ble_eq_true rfl) ?_
  show Ev l G _ _ _ _ _ _ _ _ _ [.ref 17, .ref 16] (jmk tT28) tW33
  refine ev_seg (r := jmk tT28) (o := 8) (nL := 1) (q := 12) (xs := [(.dup, 1, 0, 0, .null), (.bipush 10, 2, 0, 0, .int 10), (.iconst 4, 1, 0, 0, .int 4)]) (L' := [some (.ref 16)]) (st' := [.int 4, .int 10, .ref 17, .ref 17, .ref 16]) (w' := tW33) (g := []) (K := []) (by decide +kernel) rfl rfl rfl rfl jk0 ?_
  refine ev_callI (r := jmk tT28) (w := tW33) (y2 := y_Rows_init) (o := 8) (idx := 11) (a := 17) (d2 := (1, 21)) (n := 2) (mc2 := 1) (ms2 := 40) (As := [.int 10, .int 4]) (st := [.ref 17, .ref 16]) (res2 := (none, jmk tT30, tW36)) (by decide +kernel) rfl lk_8_11 mo_Rows_init mi_Rows_init ⟨Nat.le_of_ble_eq_true rfl, Nat.le_of_ble_eq_true rfl⟩ rfl rfl (Nat.le_of_ble_eq_true rfl) ⟨Nat.le_of_ble_eq_true rfl, Nat.le_of_ble_eq_true rfl⟩ hG (jct6 hG) ?_
  show Ev l G _ _ _ _ _ _ _ _ _ [.ref 17, .ref 16] (jmk tT30) tW36
  refine ev_putr (T := tT30) (o := 8) (idx := 14) (ci := 8) (k := 0) (a := 16) (b := 17) (by decide +kernel) rfl (by decide +kernel) rfl rfl rfl rfl (by decide +kernel) (by decide +kernel) (by decide +kernel) (by decide) ?_
  show Ev l G _ _ _ _ _ _ _ _ _ _ (jmk tT31) tW36
  refine ev_seg (r := jmk tT31) (o := 8) (nL := 1) (q := 19) (xs := [(.aload_n 0, 1, 0, 0, .null)]) (L' := [some (.ref 16)]) (st' := [.ref 16]) (w' := tW36) (g := []) (K := []) (by decide +kernel) rfl rfl rfl rfl jk0 ?_
  refine ev_new (T := tT31) (a := 19) (o := 8) (idx := 9) (ci := 3) (by decide +kernel) (by decide +kernel) rfl (by decide +kernel) (by decide) jcl_8_9 jis_3 ji_3 (Nat.le_of_ble_eq_true rfl) (Nat.le_of_ble_eq_true rfl) ?_
  show Ev l G _ _ _ _ _ _ _ _ _ [.ref 19, .ref 16] (jmk tT32) tW37
  refine ev_seg (r := jmk tT32) (o := 8) (nL := 1) (q := 27) (xs := [(.dup, 1, 0, 0, .null), (.sipush 160, 3, 0, 0, .int 160), (.iconst 4, 1, 0, 0, .int 4)]) (L' := [some (.ref 16)]) (st' := [.int 4, .int 160, .ref 19, .ref 19, .ref 16]) (w' := tW37) (g := []) (K := []) (by decide +kernel) rfl rfl rfl rfl jk0 ?_
  refine ev_callI (r := jmk tT32) (w := tW37) (y2 := y_Rows_init) (o := 8) (idx := 11) (a := 19) (d2 := (1, 21)) (n := 2) (mc2 := 1) (ms2 := 640) (As := [.int 160, .int 4]) (st := [.ref 19, .ref 16]) (res2 := (none, jmk tT34, tW40)) (by decide +kernel) rfl lk_8_11 mo_Rows_init mi_Rows_init ⟨Nat.le_of_ble_eq_true rfl, Nat.le_of_ble_eq_true rfl⟩ rfl rfl (Nat.le_of_ble_eq_true rfl) ⟨Nat.le_of_ble_eq_true rfl, Nat.le_of_ble_eq_true rfl⟩ hG (jct7 hG) ?_
  show Ev l G _ _ _ _ _ _ _ _ _ [.ref 19, .ref 16] (jmk tT34) tW40
  refine ev_putr (T := tT34) (o := 8) (idx := 20) (ci := 8) (k := 1) (a := 16) (b := 19) (by decide +kernel) rfl (by decide +kernel) rfl rfl rfl rfl (by decide +kernel) (by decide +kernel) (by decide +kernel) (by decide) ?_
  show Ev l G _ _ _ _ _ _ _ _ _ _ (jmk tT35) tW40
  refine ev_seg (r := jmk tT35) (o := 8) (nL := 1) (q := 34) (xs := [(.aload_n 0, 1, 0, 0, .null)]) (L' := [some (.ref 16)]) (st' := [.ref 16]) (w' := tW40) (g := []) (K := []) (by decide +kernel) rfl rfl rfl rfl jk0 ?_
  refine ev_new (T := tT35) (a := 21) (o := 8) (idx := 9) (ci := 3) (by decide +kernel) (by decide +kernel) rfl (by decide +kernel) (by decide) jcl_8_9 jis_3 ji_3 (Nat.le_of_ble_eq_true rfl) (Nat.le_of_ble_eq_true rfl) ?_
  show Ev l G _ _ _ _ _ _ _ _ _ [.ref 21, .ref 16] (jmk tT36) tW41
  refine ev_seg (r := jmk tT36) (o := 8) (nL := 1) (q := 42) (xs := [(.dup, 1, 0, 0, .null), (.sipush 3000, 3, 0, 0, .int 3000), (.iconst 1, 1, 0, 0, .int 1)]) (L' := [some (.ref 16)]) (st' := [.int 1, .int 3000, .ref 21, .ref 21, .ref 16]) (w' := tW41) (g := []) (K := []) (by decide +kernel) rfl rfl rfl rfl jk0 ?_
  refine ev_callI (r := jmk tT36) (w := tW41) (y2 := y_Rows_init) (o := 8) (idx := 11) (a := 21) (d2 := (1, 21)) (n := 2) (mc2 := 1) (ms2 := 3000) (As := [.int 3000, .int 1]) (st := [.ref 21, .ref 16]) (res2 := (none, jmk tT38, tW44)) (by decide +kernel) rfl lk_8_11 mo_Rows_init mi_Rows_init ⟨Nat.le_of_ble_eq_true rfl, Nat.le_of_ble_eq_true rfl⟩ rfl rfl (Nat.le_of_ble_eq_true rfl) ⟨Nat.le_of_ble_eq_true rfl, Nat.le_of_ble_eq_true rfl⟩ hG (jct8 hG) ?_
  show Ev l G _ _ _ _ _ _ _ _ _ [.ref 21, .ref 16] (jmk tT38) tW44
  refine ev_putr (T := tT38) (o := 8) (idx := 23) (ci := 8) (k := 2) (a := 16) (b := 21) (by decide +kernel) rfl (by decide +kernel) rfl rfl rfl rfl (by decide +kernel) (by decide +kernel) (by decide +kernel) (by decide) ?_
  show Ev l G _ _ _ _ _ _ _ _ _ _ (jmk tT39) tW44
  refine ev_seg (r := jmk tT39) (o := 8) (nL := 1) (q := 50) (xs := [(.aload_n 0, 1, 0, 0, .null), (.iconst 5, 1, 0, 0, .int 5)]) (L' := [some (.ref 16)]) (st' := [.int 5, .ref 16]) (w' := tW44) (g := []) (K := []) (by decide +kernel) rfl rfl rfl rfl jk0 ?_
  refine jnewa (T := tT39) (a := 23) (kd := 20) (ty := .int) (atype := .int) (N := 5) (by decide +kernel) (by decide +kernel) rfl (by decide +kernel) (Or.inl ⟨rfl, rfl⟩) ja_int (by decide +kernel) (by decide +kernel) (Nat.le_of_ble_eq_true rfl) (Nat.le_of_ble_eq_true rfl) (Nat.le_of_ble_eq_true rfl) ?_
  show Ev l G _ _ _ _ _ _ _ _ _ [.ref 23, .ref 16] (jmk tT40) tW45
  refine ev_putr (T := tT40) (o := 8) (idx := 26) (ci := 8) (k := 3) (a := 16) (b := 23) (by decide +kernel) rfl (by decide +kernel) rfl rfl rfl rfl (by decide +kernel) (by decide +kernel) (by decide +kernel) (by decide) ?_
  show Ev l G _ _ _ _ _ _ _ _ _ _ (jmk tT41) tW45
  exact ev_vret (by decide +kernel) rfl rfl rfl rfl
def tT42 : jT := jtr tT41 3 11 16
def tT43 : jT := jtn tT42 3 0 3
def tW46 : jW := jzr tW45 24
def tW47 : jW := (jup tW46.1 24 0 (if (1 : Int32) < 4 then 4 else 1), tW46.2)
def tT44 : jT := jtn tT43 20 800 0
def tW48 : jW := jzr tW47 25
def tT45 : jT := jtr tT44 24 1 25
def tW49 : jW := (jup tW48.1 24 2 0, tW48.2)
set_option maxRecDepth 200000 in
theorem jct10 {l : Launch} {G : jG} (hG : jX G) : Ct l G y_Rows_init (1, 21) 1 800 [.ref 24, .int 200, .int 4] (jmk tT43) tW46 (none, jmk tT45, tW49) := by
  refine Ct.of (L := [some (.ref 24), some (.int 200), some (.int 4)]) (by decide) (Nat.le_of_ble_eq_true rfl) rfl ?_
  refine ev_seg (r := jmk tT43) (o := 3) (nL := 3) (q := 1) (xs := [(.aload_n 0, 1, 0, 0, .null)]) (L' := [some (.ref 24), some (.int 200), some (.int 4)]) (st' := [.ref 24]) (w' := tW46) (g := []) (K := []) (by decide +kernel) rfl rfl rfl rfl jk0 ?_
  refine ev_objI (o := 3) (idx := 3) (by decide +kernel) rfl lk_3_3 jobi jobc (Nat.le_of_ble_eq_true rfl) (Nat.le_of_ble_eq_true rfl) ?_
  refine ev_seg (r := jmk tT43) (o := 3) (nL := 3) (q := 7) (xs := [(.aload_n 0, 1, 0, 0, .null), (.iconst 1, 1, 0, 0, .int 1), (.iload_n 2, 1, 2, 0, .null)]) (L' := [some (.ref 24), some (.int 200), some (.int 4)]) (st' := [.int 4, .int 1, .ref 24]) (w' := tW46) (g := []) (K := []) (by decide +kernel) rfl rfl rfl rfl jk0 ?_
  refine ev_max (o := 3) (idx := 9) (by decide +kernel) rfl lk_3_9 ms_max hMath mc_max (Nat.le_of_ble_eq_true rfl) (Nat.le_of_ble_eq_true rfl) (Nat.le_of_ble_eq_true rfl) (Nat.le_of_ble_eq_true rfl) ?_
  refine ev_putiF (r := jmk tT43) (o := 3) (idx := 15) (ci := 3) (k := 0) (a := 24) (by decide +kernel) rfl (by decide +kernel) rfl rfl rfl rfl (by decide +kernel) ?_
  show Ev l G _ _ _ _ _ _ _ _ _ _ (jmk tT43) tW47
  refine ev_seg (r := jmk tT43) (o := 3) (nL := 3) (q := 21) (xs := [(.aload_n 0, 1, 0, 0, .null), (.iconst 1, 1, 0, 0, .int 1), (.iload_n 1, 1, 1, 0, .null), (.aload_n 0, 1, 0, 0, .null), (.getfield 15, 3, 3, 0, .int 0), (.imul, 1, 0, 0, .null)]) (L' := [some (.ref 24), some (.int 200), some (.int 4)]) (st' := [.int (200 * (tW47.1 24 0)), .int 1, .ref 24]) (w' := tW47) (g := []) (K := [(24, 3)]) (by decide +kernel) rfl rfl rfl rfl (jk1 (by decide +kernel) jk0) ?_
  refine ev_max (o := 3) (idx := 9) (by decide +kernel) rfl lk_3_9 ms_max hMath mc_max (Nat.le_of_ble_eq_true rfl) (Nat.le_of_ble_eq_true rfl) (Nat.le_of_ble_eq_true rfl) (Nat.le_of_ble_eq_true rfl) ?_
  refine jnewa (T := tT43) (a := 25) (kd := 20) (ty := .int) (atype := .int) (N := 800) (by decide +kernel) (by decide +kernel) rfl (by decide +kernel) (Or.inl ⟨rfl, rfl⟩) ja_int (by decide +kernel) (by decide +kernel) (Nat.le_of_ble_eq_true rfl) (Nat.le_of_ble_eq_true rfl) (Nat.le_of_ble_eq_true rfl) ?_
  show Ev l G _ _ _ _ _ _ _ _ _ [.ref 25, .ref 24] (jmk tT44) tW48
  refine ev_putr (T := tT44) (o := 3) (idx := 21) (ci := 3) (k := 1) (a := 24) (b := 25) (by decide +kernel) rfl (by decide +kernel) rfl rfl rfl rfl (by decide +kernel) (by decide +kernel) (by decide +kernel) (by decide) ?_
  show Ev l G _ _ _ _ _ _ _ _ _ _ (jmk tT45) tW48
  refine ev_seg (r := jmk tT45) (o := 3) (nL := 3) (q := 34) (xs := [(.aload_n 0, 1, 0, 0, .null), (.iconst 0, 1, 0, 0, .int 0), (.putfield 25, 3, 3, 2, .int 0)]) (L' := [some (.ref 24), some (.int 200), some (.int 4)]) (st' := []) (w' := tW49) (g := []) (K := [(24, 3)]) (by decide +kernel) rfl rfl rfl rfl (jk1 (by decide +kernel) jk0) ?_
  exact ev_vret (by decide +kernel) rfl rfl rfl rfl
def tT46 : jT := jtr tT45 3 12 24
def tT47 : jT := jtn tT46 3 0 3
def tW50 : jW := jzr tW49 26
def tW51 : jW := (jup tW50.1 26 0 (if (1 : Int32) < 10 then 10 else 1), tW50.2)
def tT48 : jT := jtn tT47 20 1000 0
def tW52 : jW := jzr tW51 27
def tT49 : jT := jtr tT48 26 1 27
def tW53 : jW := (jup tW52.1 26 2 0, tW52.2)
set_option maxRecDepth 200000 in
theorem jct11 {l : Launch} {G : jG} (hG : jX G) : Ct l G y_Rows_init (1, 21) 1 1000 [.ref 26, .int 100, .int 10] (jmk tT47) tW50 (none, jmk tT49, tW53) := by
  refine Ct.of (L := [some (.ref 26), some (.int 100), some (.int 10)]) (by decide) (Nat.le_of_ble_eq_true rfl) rfl ?_
  refine ev_seg (r := jmk tT47) (o := 3) (nL := 3) (q := 1) (xs := [(.aload_n 0, 1, 0, 0, .null)]) (L' := [some (.ref 26), some (.int 100), some (.int 10)]) (st' := [.ref 26]) (w' := tW50) (g := []) (K := []) (by decide +kernel) rfl rfl rfl rfl jk0 ?_
  refine ev_objI (o := 3) (idx := 3) (by decide +kernel) rfl lk_3_3 jobi jobc (Nat.le_of_ble_eq_true rfl) (Nat.le_of_ble_eq_true rfl) ?_
  refine ev_seg (r := jmk tT47) (o := 3) (nL := 3) (q := 7) (xs := [(.aload_n 0, 1, 0, 0, .null), (.iconst 1, 1, 0, 0, .int 1), (.iload_n 2, 1, 2, 0, .null)]) (L' := [some (.ref 26), some (.int 100), some (.int 10)]) (st' := [.int 10, .int 1, .ref 26]) (w' := tW50) (g := []) (K := []) (by decide +kernel) rfl rfl rfl rfl jk0 ?_
  refine ev_max (o := 3) (idx := 9) (by decide +kernel) rfl lk_3_9 ms_max hMath mc_max (Nat.le_of_ble_eq_true rfl) (Nat.le_of_ble_eq_true rfl) (Nat.le_of_ble_eq_true rfl) (Nat.le_of_ble_eq_true rfl) ?_
  refine ev_putiF (r := jmk tT47) (o := 3) (idx := 15) (ci := 3) (k := 0) (a := 26) (by decide +kernel) rfl (by decide +kernel) rfl rfl rfl rfl (by decide +kernel) ?_
  show Ev l G _ _ _ _ _ _ _ _ _ _ (jmk tT47) tW51
  refine ev_seg (r := jmk tT47) (o := 3) (nL := 3) (q := 21) (xs := [(.aload_n 0, 1, 0, 0, .null), (.iconst 1, 1, 0, 0, .int 1), (.iload_n 1, 1, 1, 0, .null), (.aload_n 0, 1, 0, 0, .null), (.getfield 15, 3, 3, 0, .int 0), (.imul, 1, 0, 0, .null)]) (L' := [some (.ref 26), some (.int 100), some (.int 10)]) (st' := [.int (100 * (tW51.1 26 0)), .int 1, .ref 26]) (w' := tW51) (g := []) (K := [(26, 3)]) (by decide +kernel) rfl rfl rfl rfl (jk1 (by decide +kernel) jk0) ?_
  refine ev_max (o := 3) (idx := 9) (by decide +kernel) rfl lk_3_9 ms_max hMath mc_max (Nat.le_of_ble_eq_true rfl) (Nat.le_of_ble_eq_true rfl) (Nat.le_of_ble_eq_true rfl) (Nat.le_of_ble_eq_true rfl) ?_
  refine jnewa (T := tT47) (a := 27) (kd := 20) (ty := .int) (atype := .int) (N := 1000) (by decide +kernel) (by decide +kernel) rfl (by decide +kernel) (Or.inl ⟨rfl, rfl⟩) ja_int (by decide +kernel) (by decide +kernel) (Nat.le_of_ble_eq_true rfl) (Nat.le_of_ble_eq_true rfl) (Nat.le_of_ble_eq_true rfl) ?_
  show Ev l G _ _ _ _ _ _ _ _ _ [.ref 27, .ref 26] (jmk tT48) tW52
  refine ev_putr (T := tT48) (o := 3) (idx := 21) (ci := 3) (k := 1) (a := 26) (b := 27) (by decide +kernel) rfl (by decide +kernel) rfl rfl rfl rfl (by decide +kernel) (by decide +kernel) (by decide +kernel) (by decide) ?_
  show Ev l G _ _ _ _ _ _ _ _ _ _ (jmk tT49) tW52
  refine ev_seg (r := jmk tT49) (o := 3) (nL := 3) (q := 34) (xs := [(.aload_n 0, 1, 0, 0, .null), (.iconst 0, 1, 0, 0, .int 0), (.putfield 25, 3, 3, 2, .int 0)]) (L' := [some (.ref 26), some (.int 100), some (.int 10)]) (st' := []) (w' := tW53) (g := []) (K := [(26, 3)]) (by decide +kernel) rfl rfl rfl rfl (jk1 (by decide +kernel) jk0) ?_
  exact ev_vret (by decide +kernel) rfl rfl rfl rfl
def tT50 : jT := jtr tT49 3 13 26
def tT51 : jT := jtn tT50 3 0 3
def tW54 : jW := jzr tW53 28
def tW55 : jW := (jup tW54.1 28 0 (if (1 : Int32) < 3 then 3 else 1), tW54.2)
def tT52 : jT := jtn tT51 20 300 0
def tW56 : jW := jzr tW55 29
def tT53 : jT := jtr tT52 28 1 29
def tW57 : jW := (jup tW56.1 28 2 0, tW56.2)
set_option maxRecDepth 200000 in
theorem jct12 {l : Launch} {G : jG} (hG : jX G) : Ct l G y_Rows_init (1, 21) 1 300 [.ref 28, .int 100, .int 3] (jmk tT51) tW54 (none, jmk tT53, tW57) := by
  refine Ct.of (L := [some (.ref 28), some (.int 100), some (.int 3)]) (by decide) (Nat.le_of_ble_eq_true rfl) rfl ?_
  refine ev_seg (r := jmk tT51) (o := 3) (nL := 3) (q := 1) (xs := [(.aload_n 0, 1, 0, 0, .null)]) (L' := [some (.ref 28), some (.int 100), some (.int 3)]) (st' := [.ref 28]) (w' := tW54) (g := []) (K := []) (by decide +kernel) rfl rfl rfl rfl jk0 ?_
  refine ev_objI (o := 3) (idx := 3) (by decide +kernel) rfl lk_3_3 jobi jobc (Nat.le_of_ble_eq_true rfl) (Nat.le_of_ble_eq_true rfl) ?_
  refine ev_seg (r := jmk tT51) (o := 3) (nL := 3) (q := 7) (xs := [(.aload_n 0, 1, 0, 0, .null), (.iconst 1, 1, 0, 0, .int 1), (.iload_n 2, 1, 2, 0, .null)]) (L' := [some (.ref 28), some (.int 100), some (.int 3)]) (st' := [.int 3, .int 1, .ref 28]) (w' := tW54) (g := []) (K := []) (by decide +kernel) rfl rfl rfl rfl jk0 ?_
  refine ev_max (o := 3) (idx := 9) (by decide +kernel) rfl lk_3_9 ms_max hMath mc_max (Nat.le_of_ble_eq_true rfl) (Nat.le_of_ble_eq_true rfl) (Nat.le_of_ble_eq_true rfl) (Nat.le_of_ble_eq_true rfl) ?_
  refine ev_putiF (r := jmk tT51) (o := 3) (idx := 15) (ci := 3) (k := 0) (a := 28) (by decide +kernel) rfl (by decide +kernel) rfl rfl rfl rfl (by decide +kernel) ?_
  show Ev l G _ _ _ _ _ _ _ _ _ _ (jmk tT51) tW55
  refine ev_seg (r := jmk tT51) (o := 3) (nL := 3) (q := 21) (xs := [(.aload_n 0, 1, 0, 0, .null), (.iconst 1, 1, 0, 0, .int 1), (.iload_n 1, 1, 1, 0, .null), (.aload_n 0, 1, 0, 0, .null), (.getfield 15, 3, 3, 0, .int 0), (.imul, 1, 0, 0, .null)]) (L' := [some (.ref 28), some (.int 100), some (.int 3)]) (st' := [.int (100 * (tW55.1 28 0)), .int 1, .ref 28]) (w' := tW55) (g := []) (K := [(28, 3)]) (by decide +kernel) rfl rfl rfl rfl (jk1 (by decide +kernel) jk0) ?_
  refine ev_max (o := 3) (idx := 9) (by decide +kernel) rfl lk_3_9 ms_max hMath mc_max (Nat.le_of_ble_eq_true rfl) (Nat.le_of_ble_eq_true rfl) (Nat.le_of_ble_eq_true rfl) (Nat.le_of_ble_eq_true rfl) ?_
  refine jnewa (T := tT51) (a := 29) (kd := 20) (ty := .int) (atype := .int) (N := 300) (by decide +kernel) (by decide +kernel) rfl (by decide +kernel) (Or.inl ⟨rfl, rfl⟩) ja_int (by decide +kernel) (by decide +kernel) (Nat.le_of_ble_eq_true rfl) (Nat.le_of_ble_eq_true rfl) (Nat.le_of_ble_eq_true rfl) ?_
  show Ev l G _ _ _ _ _ _ _ _ _ [.ref 29, .ref 28] (jmk tT52) tW56
  refine ev_putr (T := tT52) (o := 3) (idx := 21) (ci := 3) (k := 1) (a := 28) (b := 29) (by decide +kernel) rfl (by decide +kernel) rfl rfl rfl rfl (by decide +kernel) (by decide +kernel) (by decide +kernel) (by decide) ?_
  show Ev l G _ _ _ _ _ _ _ _ _ _ (jmk tT53) tW56
  refine ev_seg (r := jmk tT53) (o := 3) (nL := 3) (q := 34) (xs := [(.aload_n 0, 1, 0, 0, .null), (.iconst 0, 1, 0, 0, .int 0), (.putfield 25, 3, 3, 2, .int 0)]) (L' := [some (.ref 28), some (.int 100), some (.int 3)]) (st' := []) (w' := tW57) (g := []) (K := [(28, 3)]) (by decide +kernel) rfl rfl rfl rfl (jk1 (by decide +kernel) jk0) ?_
  exact ev_vret (by decide +kernel) rfl rfl rfl rfl
def tT54 : jT := jtr tT53 3 14 28
def tT55 : jT := jtn tT54 3 0 3
def tW58 : jW := jzr tW57 30
def tW59 : jW := (jup tW58.1 30 0 (if (1 : Int32) < 3 then 3 else 1), tW58.2)
def tT56 : jT := jtn tT55 20 150 0
def tW60 : jW := jzr tW59 31
def tT57 : jT := jtr tT56 30 1 31
def tW61 : jW := (jup tW60.1 30 2 0, tW60.2)
set_option maxRecDepth 200000 in
theorem jct13 {l : Launch} {G : jG} (hG : jX G) : Ct l G y_Rows_init (1, 21) 1 150 [.ref 30, .int 50, .int 3] (jmk tT55) tW58 (none, jmk tT57, tW61) := by
  refine Ct.of (L := [some (.ref 30), some (.int 50), some (.int 3)]) (by decide) (Nat.le_of_ble_eq_true rfl) rfl ?_
  refine ev_seg (r := jmk tT55) (o := 3) (nL := 3) (q := 1) (xs := [(.aload_n 0, 1, 0, 0, .null)]) (L' := [some (.ref 30), some (.int 50), some (.int 3)]) (st' := [.ref 30]) (w' := tW58) (g := []) (K := []) (by decide +kernel) rfl rfl rfl rfl jk0 ?_
  refine ev_objI (o := 3) (idx := 3) (by decide +kernel) rfl lk_3_3 jobi jobc (Nat.le_of_ble_eq_true rfl) (Nat.le_of_ble_eq_true rfl) ?_
  refine ev_seg (r := jmk tT55) (o := 3) (nL := 3) (q := 7) (xs := [(.aload_n 0, 1, 0, 0, .null), (.iconst 1, 1, 0, 0, .int 1), (.iload_n 2, 1, 2, 0, .null)]) (L' := [some (.ref 30), some (.int 50), some (.int 3)]) (st' := [.int 3, .int 1, .ref 30]) (w' := tW58) (g := []) (K := []) (by decide +kernel) rfl rfl rfl rfl jk0 ?_
  refine ev_max (o := 3) (idx := 9) (by decide +kernel) rfl lk_3_9 ms_max hMath mc_max (Nat.le_of_ble_eq_true rfl) (Nat.le_of_ble_eq_true rfl) (Nat.le_of_ble_eq_true rfl) (Nat.le_of_ble_eq_true rfl) ?_
  refine ev_putiF (r := jmk tT55) (o := 3) (idx := 15) (ci := 3) (k := 0) (a := 30) (by decide +kernel) rfl (by decide +kernel) rfl rfl rfl rfl (by decide +kernel) ?_
  show Ev l G _ _ _ _ _ _ _ _ _ _ (jmk tT55) tW59
  refine ev_seg (r := jmk tT55) (o := 3) (nL := 3) (q := 21) (xs := [(.aload_n 0, 1, 0, 0, .null), (.iconst 1, 1, 0, 0, .int 1), (.iload_n 1, 1, 1, 0, .null), (.aload_n 0, 1, 0, 0, .null), (.getfield 15, 3, 3, 0, .int 0), (.imul, 1, 0, 0, .null)]) (L' := [some (.ref 30), some (.int 50), some (.int 3)]) (st' := [.int (50 * (tW59.1 30 0)), .int 1, .ref 30]) (w' := tW59) (g := []) (K := [(30, 3)]) (by decide +kernel) rfl rfl rfl rfl (jk1 (by decide +kernel) jk0) ?_
  refine ev_max (o := 3) (idx := 9) (by decide +kernel) rfl lk_3_9 ms_max hMath mc_max (Nat.le_of_ble_eq_true rfl) (Nat.le_of_ble_eq_true rfl) (Nat.le_of_ble_eq_true rfl) (Nat.le_of_ble_eq_true rfl) ?_
  refine jnewa (T := tT55) (a := 31) (kd := 20) (ty := .int) (atype := .int) (N := 150) (by decide +kernel) (by decide +kernel) rfl (by decide +kernel) (Or.inl ⟨rfl, rfl⟩) ja_int (by decide +kernel) (by decide +kernel) (Nat.le_of_ble_eq_true rfl) (Nat.le_of_ble_eq_true rfl) (Nat.le_of_ble_eq_true rfl) ?_
  show Ev l G _ _ _ _ _ _ _ _ _ [.ref 31, .ref 30] (jmk tT56) tW60
  refine ev_putr (T := tT56) (o := 3) (idx := 21) (ci := 3) (k := 1) (a := 30) (b := 31) (by decide +kernel) rfl (by decide +kernel) rfl rfl rfl rfl (by decide +kernel) (by decide +kernel) (by decide +kernel) (by decide) ?_
  show Ev l G _ _ _ _ _ _ _ _ _ _ (jmk tT57) tW60
  refine ev_seg (r := jmk tT57) (o := 3) (nL := 3) (q := 34) (xs := [(.aload_n 0, 1, 0, 0, .null), (.iconst 0, 1, 0, 0, .int 0), (.putfield 25, 3, 3, 2, .int 0)]) (L' := [some (.ref 30), some (.int 50), some (.int 3)]) (st' := []) (w' := tW61) (g := []) (K := [(30, 3)]) (by decide +kernel) rfl rfl rfl rfl (jk1 (by decide +kernel) jk0) ?_
  exact ev_vret (by decide +kernel) rfl rfl rfl rfl
def tT58 : jT := jtr tT57 3 15 30
def tT59 : jT := jtn tT58 3 0 3
def tW62 : jW := jzr tW61 32
def tW63 : jW := (jup tW62.1 32 0 (if (1 : Int32) < 5 then 5 else 1), tW62.2)
def tT60 : jT := jtn tT59 20 2560 0
def tW64 : jW := jzr tW63 33
def tT61 : jT := jtr tT60 32 1 33
def tW65 : jW := (jup tW64.1 32 2 0, tW64.2)
set_option maxRecDepth 200000 in
theorem jct14 {l : Launch} {G : jG} (hG : jX G) : Ct l G y_Rows_init (1, 21) 1 2560 [.ref 32, .int 512, .int 5] (jmk tT59) tW62 (none, jmk tT61, tW65) := by
  refine Ct.of (L := [some (.ref 32), some (.int 512), some (.int 5)]) (by decide) (Nat.le_of_ble_eq_true rfl) rfl ?_
  refine ev_seg (r := jmk tT59) (o := 3) (nL := 3) (q := 1) (xs := [(.aload_n 0, 1, 0, 0, .null)]) (L' := [some (.ref 32), some (.int 512), some (.int 5)]) (st' := [.ref 32]) (w' := tW62) (g := []) (K := []) (by decide +kernel) rfl rfl rfl rfl jk0 ?_
  refine ev_objI (o := 3) (idx := 3) (by decide +kernel) rfl lk_3_3 jobi jobc (Nat.le_of_ble_eq_true rfl) (Nat.le_of_ble_eq_true rfl) ?_
  refine ev_seg (r := jmk tT59) (o := 3) (nL := 3) (q := 7) (xs := [(.aload_n 0, 1, 0, 0, .null), (.iconst 1, 1, 0, 0, .int 1), (.iload_n 2, 1, 2, 0, .null)]) (L' := [some (.ref 32), some (.int 512), some (.int 5)]) (st' := [.int 5, .int 1, .ref 32]) (w' := tW62) (g := []) (K := []) (by decide +kernel) rfl rfl rfl rfl jk0 ?_
  refine ev_max (o := 3) (idx := 9) (by decide +kernel) rfl lk_3_9 ms_max hMath mc_max (Nat.le_of_ble_eq_true rfl) (Nat.le_of_ble_eq_true rfl) (Nat.le_of_ble_eq_true rfl) (Nat.le_of_ble_eq_true rfl) ?_
  refine ev_putiF (r := jmk tT59) (o := 3) (idx := 15) (ci := 3) (k := 0) (a := 32) (by decide +kernel) rfl (by decide +kernel) rfl rfl rfl rfl (by decide +kernel) ?_
  show Ev l G _ _ _ _ _ _ _ _ _ _ (jmk tT59) tW63
  refine ev_seg (r := jmk tT59) (o := 3) (nL := 3) (q := 21) (xs := [(.aload_n 0, 1, 0, 0, .null), (.iconst 1, 1, 0, 0, .int 1), (.iload_n 1, 1, 1, 0, .null), (.aload_n 0, 1, 0, 0, .null), (.getfield 15, 3, 3, 0, .int 0), (.imul, 1, 0, 0, .null)]) (L' := [some (.ref 32), some (.int 512), some (.int 5)]) (st' := [.int (512 * (tW63.1 32 0)), .int 1, .ref 32]) (w' := tW63) (g := []) (K := [(32, 3)]) (by decide +kernel) rfl rfl rfl rfl (jk1 (by decide +kernel) jk0) ?_
  refine ev_max (o := 3) (idx := 9) (by decide +kernel) rfl lk_3_9 ms_max hMath mc_max (Nat.le_of_ble_eq_true rfl) (Nat.le_of_ble_eq_true rfl) (Nat.le_of_ble_eq_true rfl) (Nat.le_of_ble_eq_true rfl) ?_
  refine jnewa (T := tT59) (a := 33) (kd := 20) (ty := .int) (atype := .int) (N := 2560) (by decide +kernel) (by decide +kernel) rfl (by decide +kernel) (Or.inl ⟨rfl, rfl⟩) ja_int (by decide +kernel) (by decide +kernel) (Nat.le_of_ble_eq_true rfl) (Nat.le_of_ble_eq_true rfl) (Nat.le_of_ble_eq_true rfl) ?_
  show Ev l G _ _ _ _ _ _ _ _ _ [.ref 33, .ref 32] (jmk tT60) tW64
  refine ev_putr (T := tT60) (o := 3) (idx := 21) (ci := 3) (k := 1) (a := 32) (b := 33) (by decide +kernel) rfl (by decide +kernel) rfl rfl rfl rfl (by decide +kernel) (by decide +kernel) (by decide +kernel) (by decide) ?_
  show Ev l G _ _ _ _ _ _ _ _ _ _ (jmk tT61) tW64
  refine ev_seg (r := jmk tT61) (o := 3) (nL := 3) (q := 34) (xs := [(.aload_n 0, 1, 0, 0, .null), (.iconst 0, 1, 0, 0, .int 0), (.putfield 25, 3, 3, 2, .int 0)]) (L' := [some (.ref 32), some (.int 512), some (.int 5)]) (st' := []) (w' := tW65) (g := []) (K := [(32, 3)]) (by decide +kernel) rfl rfl rfl rfl (jk1 (by decide +kernel) jk0) ?_
  exact ev_vret (by decide +kernel) rfl rfl rfl rfl
def tT62 : jT := jtr tT61 3 16 32
def tT63 : jT := jtn tT62 3 0 3
def tW66 : jW := jzr tW65 34
def tW67 : jW := (jup tW66.1 34 0 (if (1 : Int32) < 2 then 2 else 1), tW66.2)
def tT64 : jT := jtn tT63 20 120 0
def tW68 : jW := jzr tW67 35
def tT65 : jT := jtr tT64 34 1 35
def tW69 : jW := (jup tW68.1 34 2 0, tW68.2)
set_option maxRecDepth 200000 in
theorem jct15 {l : Launch} {G : jG} (hG : jX G) : Ct l G y_Rows_init (1, 21) 1 120 [.ref 34, .int 60, .int 2] (jmk tT63) tW66 (none, jmk tT65, tW69) := by
  refine Ct.of (L := [some (.ref 34), some (.int 60), some (.int 2)]) (by decide) (Nat.le_of_ble_eq_true rfl) rfl ?_
  refine ev_seg (r := jmk tT63) (o := 3) (nL := 3) (q := 1) (xs := [(.aload_n 0, 1, 0, 0, .null)]) (L' := [some (.ref 34), some (.int 60), some (.int 2)]) (st' := [.ref 34]) (w' := tW66) (g := []) (K := []) (by decide +kernel) rfl rfl rfl rfl jk0 ?_
  refine ev_objI (o := 3) (idx := 3) (by decide +kernel) rfl lk_3_3 jobi jobc (Nat.le_of_ble_eq_true rfl) (Nat.le_of_ble_eq_true rfl) ?_
  refine ev_seg (r := jmk tT63) (o := 3) (nL := 3) (q := 7) (xs := [(.aload_n 0, 1, 0, 0, .null), (.iconst 1, 1, 0, 0, .int 1), (.iload_n 2, 1, 2, 0, .null)]) (L' := [some (.ref 34), some (.int 60), some (.int 2)]) (st' := [.int 2, .int 1, .ref 34]) (w' := tW66) (g := []) (K := []) (by decide +kernel) rfl rfl rfl rfl jk0 ?_
  refine ev_max (o := 3) (idx := 9) (by decide +kernel) rfl lk_3_9 ms_max hMath mc_max (Nat.le_of_ble_eq_true rfl) (Nat.le_of_ble_eq_true rfl) (Nat.le_of_ble_eq_true rfl) (Nat.le_of_ble_eq_true rfl) ?_
  refine ev_putiF (r := jmk tT63) (o := 3) (idx := 15) (ci := 3) (k := 0) (a := 34) (by decide +kernel) rfl (by decide +kernel) rfl rfl rfl rfl (by decide +kernel) ?_
  show Ev l G _ _ _ _ _ _ _ _ _ _ (jmk tT63) tW67
  refine ev_seg (r := jmk tT63) (o := 3) (nL := 3) (q := 21) (xs := [(.aload_n 0, 1, 0, 0, .null), (.iconst 1, 1, 0, 0, .int 1), (.iload_n 1, 1, 1, 0, .null), (.aload_n 0, 1, 0, 0, .null), (.getfield 15, 3, 3, 0, .int 0), (.imul, 1, 0, 0, .null)]) (L' := [some (.ref 34), some (.int 60), some (.int 2)]) (st' := [.int (60 * (tW67.1 34 0)), .int 1, .ref 34]) (w' := tW67) (g := []) (K := [(34, 3)]) (by decide +kernel) rfl rfl rfl rfl (jk1 (by decide +kernel) jk0) ?_
  refine ev_max (o := 3) (idx := 9) (by decide +kernel) rfl lk_3_9 ms_max hMath mc_max (Nat.le_of_ble_eq_true rfl) (Nat.le_of_ble_eq_true rfl) (Nat.le_of_ble_eq_true rfl) (Nat.le_of_ble_eq_true rfl) ?_
  refine jnewa (T := tT63) (a := 35) (kd := 20) (ty := .int) (atype := .int) (N := 120) (by decide +kernel) (by decide +kernel) rfl (by decide +kernel) (Or.inl ⟨rfl, rfl⟩) ja_int (by decide +kernel) (by decide +kernel) (Nat.le_of_ble_eq_true rfl) (Nat.le_of_ble_eq_true rfl) (Nat.le_of_ble_eq_true rfl) ?_
  show Ev l G _ _ _ _ _ _ _ _ _ [.ref 35, .ref 34] (jmk tT64) tW68
  refine ev_putr (T := tT64) (o := 3) (idx := 21) (ci := 3) (k := 1) (a := 34) (b := 35) (by decide +kernel) rfl (by decide +kernel) rfl rfl rfl rfl (by decide +kernel) (by decide +kernel) (by decide +kernel) (by decide) ?_
  show Ev l G _ _ _ _ _ _ _ _ _ _ (jmk tT65) tW68
  refine ev_seg (r := jmk tT65) (o := 3) (nL := 3) (q := 34) (xs := [(.aload_n 0, 1, 0, 0, .null), (.iconst 0, 1, 0, 0, .int 0), (.putfield 25, 3, 3, 2, .int 0)]) (L' := [some (.ref 34), some (.int 60), some (.int 2)]) (st' := []) (w' := tW69) (g := []) (K := [(34, 3)]) (by decide +kernel) rfl rfl rfl rfl (jk1 (by decide +kernel) jk0) ?_
  exact ev_vret (by decide +kernel) rfl rfl rfl rfl
def tT66 : jT := jtr tT65 3 17 34
def tT67 : jT := jtn tT66 3 0 3
def tW70 : jW := jzr tW69 36
def tW71 : jW := (jup tW70.1 36 0 (if (1 : Int32) < 2 then 2 else 1), tW70.2)
def tT68 : jT := jtn tT67 20 120 0
def tW72 : jW := jzr tW71 37
def tT69 : jT := jtr tT68 36 1 37
def tW73 : jW := (jup tW72.1 36 2 0, tW72.2)
set_option maxRecDepth 200000 in
theorem jct16 {l : Launch} {G : jG} (hG : jX G) : Ct l G y_Rows_init (1, 21) 1 120 [.ref 36, .int 60, .int 2] (jmk tT67) tW70 (none, jmk tT69, tW73) := by
  refine Ct.of (L := [some (.ref 36), some (.int 60), some (.int 2)]) (by decide) (Nat.le_of_ble_eq_true rfl) rfl ?_
  refine ev_seg (r := jmk tT67) (o := 3) (nL := 3) (q := 1) (xs := [(.aload_n 0, 1, 0, 0, .null)]) (L' := [some (.ref 36), some (.int 60), some (.int 2)]) (st' := [.ref 36]) (w' := tW70) (g := []) (K := []) (by decide +kernel) rfl rfl rfl rfl jk0 ?_
  refine ev_objI (o := 3) (idx := 3) (by decide +kernel) rfl lk_3_3 jobi jobc (Nat.le_of_ble_eq_true rfl) (Nat.le_of_ble_eq_true rfl) ?_
  refine ev_seg (r := jmk tT67) (o := 3) (nL := 3) (q := 7) (xs := [(.aload_n 0, 1, 0, 0, .null), (.iconst 1, 1, 0, 0, .int 1), (.iload_n 2, 1, 2, 0, .null)]) (L' := [some (.ref 36), some (.int 60), some (.int 2)]) (st' := [.int 2, .int 1, .ref 36]) (w' := tW70) (g := []) (K := []) (by decide +kernel) rfl rfl rfl rfl jk0 ?_
  refine ev_max (o := 3) (idx := 9) (by decide +kernel) rfl lk_3_9 ms_max hMath mc_max (Nat.le_of_ble_eq_true rfl) (Nat.le_of_ble_eq_true rfl) (Nat.le_of_ble_eq_true rfl) (Nat.le_of_ble_eq_true rfl) ?_
  refine ev_putiF (r := jmk tT67) (o := 3) (idx := 15) (ci := 3) (k := 0) (a := 36) (by decide +kernel) rfl (by decide +kernel) rfl rfl rfl rfl (by decide +kernel) ?_
  show Ev l G _ _ _ _ _ _ _ _ _ _ (jmk tT67) tW71
  refine ev_seg (r := jmk tT67) (o := 3) (nL := 3) (q := 21) (xs := [(.aload_n 0, 1, 0, 0, .null), (.iconst 1, 1, 0, 0, .int 1), (.iload_n 1, 1, 1, 0, .null), (.aload_n 0, 1, 0, 0, .null), (.getfield 15, 3, 3, 0, .int 0), (.imul, 1, 0, 0, .null)]) (L' := [some (.ref 36), some (.int 60), some (.int 2)]) (st' := [.int (60 * (tW71.1 36 0)), .int 1, .ref 36]) (w' := tW71) (g := []) (K := [(36, 3)]) (by decide +kernel) rfl rfl rfl rfl (jk1 (by decide +kernel) jk0) ?_
  refine ev_max (o := 3) (idx := 9) (by decide +kernel) rfl lk_3_9 ms_max hMath mc_max (Nat.le_of_ble_eq_true rfl) (Nat.le_of_ble_eq_true rfl) (Nat.le_of_ble_eq_true rfl) (Nat.le_of_ble_eq_true rfl) ?_
  refine jnewa (T := tT67) (a := 37) (kd := 20) (ty := .int) (atype := .int) (N := 120) (by decide +kernel) (by decide +kernel) rfl (by decide +kernel) (Or.inl ⟨rfl, rfl⟩) ja_int (by decide +kernel) (by decide +kernel) (Nat.le_of_ble_eq_true rfl) (Nat.le_of_ble_eq_true rfl) (Nat.le_of_ble_eq_true rfl) ?_
  show Ev l G _ _ _ _ _ _ _ _ _ [.ref 37, .ref 36] (jmk tT68) tW72
  refine ev_putr (T := tT68) (o := 3) (idx := 21) (ci := 3) (k := 1) (a := 36) (b := 37) (by decide +kernel) rfl (by decide +kernel) rfl rfl rfl rfl (by decide +kernel) (by decide +kernel) (by decide +kernel) (by decide) ?_
  show Ev l G _ _ _ _ _ _ _ _ _ _ (jmk tT69) tW72
  refine ev_seg (r := jmk tT69) (o := 3) (nL := 3) (q := 34) (xs := [(.aload_n 0, 1, 0, 0, .null), (.iconst 0, 1, 0, 0, .int 0), (.putfield 25, 3, 3, 2, .int 0)]) (L' := [some (.ref 36), some (.int 60), some (.int 2)]) (st' := []) (w' := tW73) (g := []) (K := [(36, 3)]) (by decide +kernel) rfl rfl rfl rfl (jk1 (by decide +kernel) jk0) ?_
  exact ev_vret (by decide +kernel) rfl rfl rfl rfl
def tT70 : jT := jtr tT69 3 18 36
def jZ0 : Int32 × jW := (f_Rows_open_g (jmk tT70) 4 1 tW73).getD (0, tW73)
theorem jZ0_ok : f_Rows_open_g (jmk tT70) 4 1 tW73 = some jZ0 := jsome (by decide +kernel)
def tW74 : jW := jZ0.2
def jZ1 : jW := (f_Rows_put_g (jmk tT70) 4 0 1 200 tW74).getD tW74
theorem jZ1_ok : f_Rows_put_g (jmk tT70) 4 0 1 200 tW74 = some jZ1 := jsome (by decide +kernel)
def tW75 : jW := jZ1
def jZ2 : jW := (f_Rows_put_g (jmk tT70) 4 0 2 1 tW75).getD tW75
theorem jZ2_ok : f_Rows_put_g (jmk tT70) 4 0 2 1 tW75 = some jZ2 := jsome (by decide +kernel)
def tW76 : jW := jZ2
def jZ3 : jW := (f_Rows_put_g (jmk tT70) 4 0 3 500 tW76).getD tW76
theorem jZ3_ok : f_Rows_put_g (jmk tT70) 4 0 3 500 tW76 = some jZ3 := jsome (by decide +kernel)
def tW77 : jW := jZ3
def jZ4 : Int32 × jW := (f_Rows_open_g (jmk tT70) 4 1 tW77).getD (0, tW77)
theorem jZ4_ok : f_Rows_open_g (jmk tT70) 4 1 tW77 = some jZ4 := jsome (by decide +kernel)
def tW78 : jW := jZ4.2
def jZ5 : jW := (f_Rows_put_g (jmk tT70) 4 (0 + 1) 1 200 tW78).getD tW78
theorem jZ5_ok : f_Rows_put_g (jmk tT70) 4 (0 + 1) 1 200 tW78 = some jZ5 := jsome (by decide +kernel)
def tW79 : jW := jZ5
def jZ6 : jW := (f_Rows_put_g (jmk tT70) 4 (0 + 1) 2 1 tW79).getD tW79
theorem jZ6_ok : f_Rows_put_g (jmk tT70) 4 (0 + 1) 2 1 tW79 = some jZ6 := jsome (by decide +kernel)
def tW80 : jW := jZ6
def jZ7 : jW := (f_Rows_put_g (jmk tT70) 4 (0 + 1) 3 500 tW80).getD tW80
theorem jZ7_ok : f_Rows_put_g (jmk tT70) 4 (0 + 1) 3 500 tW80 = some jZ7 := jsome (by decide +kernel)
def tW81 : jW := jZ7
def jZ8 : Int32 × jW := (f_Rows_open_g (jmk tT70) 4 1 tW81).getD (0, tW81)
theorem jZ8_ok : f_Rows_open_g (jmk tT70) 4 1 tW81 = some jZ8 := jsome (by decide +kernel)
def tW82 : jW := jZ8.2
def jZ9 : jW := (f_Rows_put_g (jmk tT70) 4 ((0 + 1) + 1) 1 200 tW82).getD tW82
theorem jZ9_ok : f_Rows_put_g (jmk tT70) 4 ((0 + 1) + 1) 1 200 tW82 = some jZ9 := jsome (by decide +kernel)
def tW83 : jW := jZ9
def jZ10 : jW := (f_Rows_put_g (jmk tT70) 4 ((0 + 1) + 1) 2 1 tW83).getD tW83
theorem jZ10_ok : f_Rows_put_g (jmk tT70) 4 ((0 + 1) + 1) 2 1 tW83 = some jZ10 := jsome (by decide +kernel)
def tW84 : jW := jZ10
def jZ11 : jW := (f_Rows_put_g (jmk tT70) 4 ((0 + 1) + 1) 3 500 tW84).getD tW84
theorem jZ11_ok : f_Rows_put_g (jmk tT70) 4 ((0 + 1) + 1) 3 500 tW84 = some jZ11 := jsome (by decide +kernel)
def tW85 : jW := jZ11
def jZ12 : Int32 × jW := (f_Rows_open_g (jmk tT70) 4 1 tW85).getD (0, tW85)
theorem jZ12_ok : f_Rows_open_g (jmk tT70) 4 1 tW85 = some jZ12 := jsome (by decide +kernel)
def tW86 : jW := jZ12.2
def jZ13 : jW := (f_Rows_put_g (jmk tT70) 4 (((0 + 1) + 1) + 1) 1 200 tW86).getD tW86
theorem jZ13_ok : f_Rows_put_g (jmk tT70) 4 (((0 + 1) + 1) + 1) 1 200 tW86 = some jZ13 := jsome (by decide +kernel)
def tW87 : jW := jZ13
def jZ14 : jW := (f_Rows_put_g (jmk tT70) 4 (((0 + 1) + 1) + 1) 2 1 tW87).getD tW87
theorem jZ14_ok : f_Rows_put_g (jmk tT70) 4 (((0 + 1) + 1) + 1) 2 1 tW87 = some jZ14 := jsome (by decide +kernel)
def tW88 : jW := jZ14
def jZ15 : jW := (f_Rows_put_g (jmk tT70) 4 (((0 + 1) + 1) + 1) 3 500 tW88).getD tW88
theorem jZ15_ok : f_Rows_put_g (jmk tT70) 4 (((0 + 1) + 1) + 1) 3 500 tW88 = some jZ15 := jsome (by decide +kernel)
def tW89 : jW := jZ15
set_option maxRecDepth 200000 in
theorem jct17 {l : Launch} {G : jG} (hG : jX G) : Ct l G y_State_init (3, 63) 34 10073 [.ref 3] (jmk tT2) tW2 (none, jmk tT70, tW89) := by
  refine Ct.of (L := [some (.ref 3), none]) (by decide) (Nat.le_of_ble_eq_true rfl) rfl ?_
  refine ev_seg (r := jmk tT2) (o := 6) (nL := 2) (q := 1) (xs := [(.aload_n 0, 1, 0, 0, .null)]) (L' := [some (.ref 3), none]) (st' := [.ref 3]) (w' := tW2) (g := []) (K := []) (by decide +kernel) rfl rfl rfl rfl jk0 ?_
  refine ev_objI (o := 6) (idx := 3) (by decide +kernel) rfl lk_6_3 jobi jobc (Nat.le_of_ble_eq_true rfl) (Nat.le_of_ble_eq_true rfl) ?_
  refine ev_seg (r := jmk tT2) (o := 6) (nL := 2) (q := 9) (xs := [(.aload_n 0, 1, 0, 0, .null), (.iconst 0, 1, 0, 0, .int 0), (.putfield 9, 3, 6, 0, .int 0)]) (L' := [some (.ref 3), none]) (st' := []) (w' := tW3) (g := []) (K := [(3, 6)]) (by decide +kernel) rfl rfl rfl rfl (jk1 (by decide +kernel) jk0) ?_
  refine ev_seg (r := jmk tT2) (o := 6) (nL := 2) (q := 14) (xs := [(.aload_n 0, 1, 0, 0, .null), (.iconst 2, 1, 0, 0, .int 2), (.putfield 15, 3, 6, 1, .int 0)]) (L' := [some (.ref 3), none]) (st' := []) (w' := tW4) (g := []) (K := [(3, 6)]) (by decide +kernel) rfl rfl rfl rfl (jk1 (by decide +kernel) jk0) ?_
  refine ev_seg (r := jmk tT2) (o := 6) (nL := 2) (q := 19) (xs := [(.aload_n 0, 1, 0, 0, .null), (.iconst 5, 1, 0, 0, .int 5), (.putfield 18, 3, 6, 2, .int 0)]) (L' := [some (.ref 3), none]) (st' := []) (w' := tW5) (g := []) (K := [(3, 6)]) (by decide +kernel) rfl rfl rfl rfl (jk1 (by decide +kernel) jk0) ?_
  refine ev_seg (r := jmk tT2) (o := 6) (nL := 2) (q := 25) (xs := [(.aload_n 0, 1, 0, 0, .null), (.bipush 40, 2, 0, 0, .int 40), (.putfield 21, 3, 6, 3, .int 0)]) (L' := [some (.ref 3), none]) (st' := []) (w' := tW6) (g := []) (K := [(3, 6)]) (by decide +kernel) rfl rfl rfl rfl (jk1 (by decide +kernel) jk0) ?_
  refine ev_seg (r := jmk tT2) (o := 6) (nL := 2) (q := 30) (xs := [(.aload_n 0, 1, 0, 0, .null), (.iconst 0, 1, 0, 0, .int 0), (.putfield 24, 3, 6, 4, .int 0)]) (L' := [some (.ref 3), none]) (st' := []) (w' := tW7) (g := []) (K := [(3, 6)]) (by decide +kernel) rfl rfl rfl rfl (jk1 (by decide +kernel) jk0) ?_
  refine ev_seg (r := jmk tT2) (o := 6) (nL := 2) (q := 31) (xs := [(.aload_n 0, 1, 0, 0, .null)]) (L' := [some (.ref 3), none]) (st' := [.ref 3]) (w' := tW7) (g := []) (K := []) (by decide +kernel) rfl rfl rfl rfl jk0 ?_
  refine ev_new (T := tT2) (a := 4) (o := 6) (idx := 27) (ci := 3) (by decide +kernel) (by decide +kernel) rfl (by decide +kernel) (by decide) jcl_6_27 jis_3 ji_3 (Nat.le_of_ble_eq_true rfl) (Nat.le_of_ble_eq_true rfl) ?_
  show Ev l G _ _ _ _ _ _ _ _ _ [.ref 4, .ref 3] (jmk tT3) tW8
  refine ev_seg (r := jmk tT3) (o := 6) (nL := 2) (q := 37) (xs := [(.dup, 1, 0, 0, .null), (.iconst 4, 1, 0, 0, .int 4), (.iconst 4, 1, 0, 0, .int 4)]) (L' := [some (.ref 3), none]) (st' := [.int 4, .int 4, .ref 4, .ref 4, .ref 3]) (w' := tW8) (g := []) (K := []) (by decide +kernel) rfl rfl rfl rfl jk0 ?_
  refine ev_callI (r := jmk tT3) (w := tW8) (y2 := y_Rows_init) (o := 6) (idx := 29) (a := 4) (d2 := (1, 21)) (n := 2) (mc2 := 1) (ms2 := 16) (As := [.int 4, .int 4]) (st := [.ref 4, .ref 3]) (res2 := (none, jmk tT5, tW11)) (by decide +kernel) rfl lk_6_29 mo_Rows_init mi_Rows_init ⟨Nat.le_of_ble_eq_true rfl, Nat.le_of_ble_eq_true rfl⟩ rfl rfl (Nat.le_of_ble_eq_true rfl) ⟨Nat.le_of_ble_eq_true rfl, Nat.le_of_ble_eq_true rfl⟩ hG (jct0 hG) ?_
  show Ev l G _ _ _ _ _ _ _ _ _ [.ref 4, .ref 3] (jmk tT5) tW11
  refine ev_putr (T := tT5) (o := 6) (idx := 32) (ci := 6) (k := 5) (a := 3) (b := 4) (by decide +kernel) rfl (by decide +kernel) rfl rfl rfl rfl (by decide +kernel) (by decide +kernel) (by decide +kernel) (by decide) ?_
  show Ev l G _ _ _ _ _ _ _ _ _ _ (jmk tT6) tW11
  refine ev_seg (r := jmk tT6) (o := 6) (nL := 2) (q := 44) (xs := [(.aload_n 0, 1, 0, 0, .null)]) (L' := [some (.ref 3), none]) (st' := [.ref 3]) (w' := tW11) (g := []) (K := []) (by decide +kernel) rfl rfl rfl rfl jk0 ?_
  refine ev_new (T := tT6) (a := 6) (o := 6) (idx := 27) (ci := 3) (by decide +kernel) (by decide +kernel) rfl (by decide +kernel) (by decide) jcl_6_27 jis_3 ji_3 (Nat.le_of_ble_eq_true rfl) (Nat.le_of_ble_eq_true rfl) ?_
  show Ev l G _ _ _ _ _ _ _ _ _ [.ref 6, .ref 3] (jmk tT7) tW12
  refine ev_seg (r := jmk tT7) (o := 6) (nL := 2) (q := 51) (xs := [(.dup, 1, 0, 0, .null), (.bipush 10, 2, 0, 0, .int 10), (.iconst 5, 1, 0, 0, .int 5)]) (L' := [some (.ref 3), none]) (st' := [.int 5, .int 10, .ref 6, .ref 6, .ref 3]) (w' := tW12) (g := []) (K := []) (by decide +kernel) rfl rfl rfl rfl jk0 ?_
  refine ev_callI (r := jmk tT7) (w := tW12) (y2 := y_Rows_init) (o := 6) (idx := 29) (a := 6) (d2 := (1, 21)) (n := 2) (mc2 := 1) (ms2 := 50) (As := [.int 10, .int 5]) (st := [.ref 6, .ref 3]) (res2 := (none, jmk tT9, tW15)) (by decide +kernel) rfl lk_6_29 mo_Rows_init mi_Rows_init ⟨Nat.le_of_ble_eq_true rfl, Nat.le_of_ble_eq_true rfl⟩ rfl rfl (Nat.le_of_ble_eq_true rfl) ⟨Nat.le_of_ble_eq_true rfl, Nat.le_of_ble_eq_true rfl⟩ hG (jct1 hG) ?_
  show Ev l G _ _ _ _ _ _ _ _ _ [.ref 6, .ref 3] (jmk tT9) tW15
  refine ev_putr (T := tT9) (o := 6) (idx := 36) (ci := 6) (k := 6) (a := 3) (b := 6) (by decide +kernel) rfl (by decide +kernel) rfl rfl rfl rfl (by decide +kernel) (by decide +kernel) (by decide +kernel) (by decide) ?_
  show Ev l G _ _ _ _ _ _ _ _ _ _ (jmk tT10) tW15
  refine ev_seg (r := jmk tT10) (o := 6) (nL := 2) (q := 58) (xs := [(.aload_n 0, 1, 0, 0, .null)]) (L' := [some (.ref 3), none]) (st' := [.ref 3]) (w' := tW15) (g := []) (K := []) (by decide +kernel) rfl rfl rfl rfl jk0 ?_
  refine ev_new (T := tT10) (a := 8) (o := 6) (idx := 27) (ci := 3) (by decide +kernel) (by decide +kernel) rfl (by decide +kernel) (by decide) jcl_6_27 jis_3 ji_3 (Nat.le_of_ble_eq_true rfl) (Nat.le_of_ble_eq_true rfl) ?_
  show Ev l G _ _ _ _ _ _ _ _ _ [.ref 8, .ref 3] (jmk tT11) tW16
  refine ev_seg (r := jmk tT11) (o := 6) (nL := 2) (q := 66) (xs := [(.dup, 1, 0, 0, .null), (.bipush 10, 2, 0, 0, .int 10), (.bipush 10, 2, 0, 0, .int 10)]) (L' := [some (.ref 3), none]) (st' := [.int 10, .int 10, .ref 8, .ref 8, .ref 3]) (w' := tW16) (g := []) (K := []) (by decide +kernel) rfl rfl rfl rfl jk0 ?_
  refine ev_callI (r := jmk tT11) (w := tW16) (y2 := y_Rows_init) (o := 6) (idx := 29) (a := 8) (d2 := (1, 21)) (n := 2) (mc2 := 1) (ms2 := 100) (As := [.int 10, .int 10]) (st := [.ref 8, .ref 3]) (res2 := (none, jmk tT13, tW19)) (by decide +kernel) rfl lk_6_29 mo_Rows_init mi_Rows_init ⟨Nat.le_of_ble_eq_true rfl, Nat.le_of_ble_eq_true rfl⟩ rfl rfl (Nat.le_of_ble_eq_true rfl) ⟨Nat.le_of_ble_eq_true rfl, Nat.le_of_ble_eq_true rfl⟩ hG (jct2 hG) ?_
  show Ev l G _ _ _ _ _ _ _ _ _ [.ref 8, .ref 3] (jmk tT13) tW19
  refine ev_putr (T := tT13) (o := 6) (idx := 39) (ci := 6) (k := 7) (a := 3) (b := 8) (by decide +kernel) rfl (by decide +kernel) rfl rfl rfl rfl (by decide +kernel) (by decide +kernel) (by decide +kernel) (by decide) ?_
  show Ev l G _ _ _ _ _ _ _ _ _ _ (jmk tT14) tW19
  refine ev_seg (r := jmk tT14) (o := 6) (nL := 2) (q := 73) (xs := [(.aload_n 0, 1, 0, 0, .null)]) (L' := [some (.ref 3), none]) (st' := [.ref 3]) (w' := tW19) (g := []) (K := []) (by decide +kernel) rfl rfl rfl rfl jk0 ?_
  refine ev_new (T := tT14) (a := 10) (o := 6) (idx := 27) (ci := 3) (by decide +kernel) (by decide +kernel) rfl (by decide +kernel) (by decide) jcl_6_27 jis_3 ji_3 (Nat.le_of_ble_eq_true rfl) (Nat.le_of_ble_eq_true rfl) ?_
  show Ev l G _ _ _ _ _ _ _ _ _ [.ref 10, .ref 3] (jmk tT15) tW20
  refine ev_seg (r := jmk tT15) (o := 6) (nL := 2) (q := 81) (xs := [(.dup, 1, 0, 0, .null), (.bipush 40, 2, 0, 0, .int 40), (.bipush 11, 2, 0, 0, .int 11)]) (L' := [some (.ref 3), none]) (st' := [.int 11, .int 40, .ref 10, .ref 10, .ref 3]) (w' := tW20) (g := []) (K := []) (by decide +kernel) rfl rfl rfl rfl jk0 ?_
  refine ev_callI (r := jmk tT15) (w := tW20) (y2 := y_Rows_init) (o := 6) (idx := 29) (a := 10) (d2 := (1, 21)) (n := 2) (mc2 := 1) (ms2 := 440) (As := [.int 40, .int 11]) (st := [.ref 10, .ref 3]) (res2 := (none, jmk tT17, tW23)) (by decide +kernel) rfl lk_6_29 mo_Rows_init mi_Rows_init ⟨Nat.le_of_ble_eq_true rfl, Nat.le_of_ble_eq_true rfl⟩ rfl rfl (Nat.le_of_ble_eq_true rfl) ⟨Nat.le_of_ble_eq_true rfl, Nat.le_of_ble_eq_true rfl⟩ hG (jct3 hG) ?_
  show Ev l G _ _ _ _ _ _ _ _ _ [.ref 10, .ref 3] (jmk tT17) tW23
  refine ev_putr (T := tT17) (o := 6) (idx := 42) (ci := 6) (k := 8) (a := 3) (b := 10) (by decide +kernel) rfl (by decide +kernel) rfl rfl rfl rfl (by decide +kernel) (by decide +kernel) (by decide +kernel) (by decide) ?_
  show Ev l G _ _ _ _ _ _ _ _ _ _ (jmk tT18) tW23
  refine ev_seg (r := jmk tT18) (o := 6) (nL := 2) (q := 88) (xs := [(.aload_n 0, 1, 0, 0, .null)]) (L' := [some (.ref 3), none]) (st' := [.ref 3]) (w' := tW23) (g := []) (K := []) (by decide +kernel) rfl rfl rfl rfl jk0 ?_
  refine ev_new (T := tT18) (a := 12) (o := 6) (idx := 27) (ci := 3) (by decide +kernel) (by decide +kernel) rfl (by decide +kernel) (by decide) jcl_6_27 jis_3 ji_3 (Nat.le_of_ble_eq_true rfl) (Nat.le_of_ble_eq_true rfl) ?_
  show Ev l G _ _ _ _ _ _ _ _ _ [.ref 12, .ref 3] (jmk tT19) tW24
  refine ev_seg (r := jmk tT19) (o := 6) (nL := 2) (q := 96) (xs := [(.dup, 1, 0, 0, .null), (.bipush 100, 2, 0, 0, .int 100), (.bipush 6, 2, 0, 0, .int 6)]) (L' := [some (.ref 3), none]) (st' := [.int 6, .int 100, .ref 12, .ref 12, .ref 3]) (w' := tW24) (g := []) (K := []) (by decide +kernel) rfl rfl rfl rfl jk0 ?_
  refine ev_callI (r := jmk tT19) (w := tW24) (y2 := y_Rows_init) (o := 6) (idx := 29) (a := 12) (d2 := (1, 21)) (n := 2) (mc2 := 1) (ms2 := 600) (As := [.int 100, .int 6]) (st := [.ref 12, .ref 3]) (res2 := (none, jmk tT21, tW27)) (by decide +kernel) rfl lk_6_29 mo_Rows_init mi_Rows_init ⟨Nat.le_of_ble_eq_true rfl, Nat.le_of_ble_eq_true rfl⟩ rfl rfl (Nat.le_of_ble_eq_true rfl) ⟨Nat.le_of_ble_eq_true rfl, Nat.le_of_ble_eq_true rfl⟩ hG (jct4 hG) ?_
  show Ev l G _ _ _ _ _ _ _ _ _ [.ref 12, .ref 3] (jmk tT21) tW27
  refine ev_putr (T := tT21) (o := 6) (idx := 45) (ci := 6) (k := 9) (a := 3) (b := 12) (by decide +kernel) rfl (by decide +kernel) rfl rfl rfl rfl (by decide +kernel) (by decide +kernel) (by decide +kernel) (by decide) ?_
  show Ev l G _ _ _ _ _ _ _ _ _ _ (jmk tT22) tW27
  refine ev_seg (r := jmk tT22) (o := 6) (nL := 2) (q := 103) (xs := [(.aload_n 0, 1, 0, 0, .null)]) (L' := [some (.ref 3), none]) (st' := [.ref 3]) (w' := tW27) (g := []) (K := []) (by decide +kernel) rfl rfl rfl rfl jk0 ?_
  refine ev_new (T := tT22) (a := 14) (o := 6) (idx := 27) (ci := 3) (by decide +kernel) (by decide +kernel) rfl (by decide +kernel) (by decide) jcl_6_27 jis_3 ji_3 (Nat.le_of_ble_eq_true rfl) (Nat.le_of_ble_eq_true rfl) ?_
  show Ev l G _ _ _ _ _ _ _ _ _ [.ref 14, .ref 3] (jmk tT23) tW28
  refine ev_seg (r := jmk tT23) (o := 6) (nL := 2) (q := 110) (xs := [(.dup, 1, 0, 0, .null), (.bipush 40, 2, 0, 0, .int 40), (.iconst 2, 1, 0, 0, .int 2)]) (L' := [some (.ref 3), none]) (st' := [.int 2, .int 40, .ref 14, .ref 14, .ref 3]) (w' := tW28) (g := []) (K := []) (by decide +kernel) rfl rfl rfl rfl jk0 ?_
  refine ev_callI (r := jmk tT23) (w := tW28) (y2 := y_Rows_init) (o := 6) (idx := 29) (a := 14) (d2 := (1, 21)) (n := 2) (mc2 := 1) (ms2 := 80) (As := [.int 40, .int 2]) (st := [.ref 14, .ref 3]) (res2 := (none, jmk tT25, tW31)) (by decide +kernel) rfl lk_6_29 mo_Rows_init mi_Rows_init ⟨Nat.le_of_ble_eq_true rfl, Nat.le_of_ble_eq_true rfl⟩ rfl rfl (Nat.le_of_ble_eq_true rfl) ⟨Nat.le_of_ble_eq_true rfl, Nat.le_of_ble_eq_true rfl⟩ hG (jct5 hG) ?_
  show Ev l G _ _ _ _ _ _ _ _ _ [.ref 14, .ref 3] (jmk tT25) tW31
  refine ev_putr (T := tT25) (o := 6) (idx := 48) (ci := 6) (k := 10) (a := 3) (b := 14) (by decide +kernel) rfl (by decide +kernel) rfl rfl rfl rfl (by decide +kernel) (by decide +kernel) (by decide +kernel) (by decide) ?_
  show Ev l G _ _ _ _ _ _ _ _ _ _ (jmk tT26) tW31
  refine ev_seg (r := jmk tT26) (o := 6) (nL := 2) (q := 117) (xs := [(.aload_n 0, 1, 0, 0, .null)]) (L' := [some (.ref 3), none]) (st' := [.ref 3]) (w' := tW31) (g := []) (K := []) (by decide +kernel) rfl rfl rfl rfl jk0 ?_
  refine ev_new (T := tT26) (a := 16) (o := 6) (idx := 51) (ci := 8) (by decide +kernel) (by decide +kernel) rfl (by decide +kernel) (by decide) jcl_6_51 jis_8 ji_8 (Nat.le_of_ble_eq_true rfl) (Nat.le_of_ble_eq_true rfl) ?_
  show Ev l G _ _ _ _ _ _ _ _ _ [.ref 16, .ref 3] (jmk tT27) tW32
  refine ev_seg (r := jmk tT27) (o := 6) (nL := 2) (q := 121) (xs := [(.dup, 1, 0, 0, .null)]) (L' := [some (.ref 3), none]) (st' := [.ref 16, .ref 16, .ref 3]) (w' := tW32) (g := []) (K := []) (by decide +kernel) rfl rfl rfl rfl jk0 ?_
  refine ev_callI (r := jmk tT27) (w := tW32) (y2 := y_Treaty_init) (o := 6) (idx := 53) (a := 16) (d2 := (2, 43)) (n := 0) (mc2 := 7) (ms2 := 3694) (As := []) (st := [.ref 16, .ref 3]) (res2 := (none, jmk tT41, tW45)) (by decide +kernel) rfl lk_6_53 mo_Treaty_init mi_Treaty_init ⟨Nat.le_of_ble_eq_true rfl, Nat.le_of_ble_eq_true rfl⟩ rfl rfl (Nat.le_of_ble_eq_true rfl) ⟨Nat.le_of_ble_eq_true rfl, Nat.le_of_ble_eq_true rfl⟩ hG (jct9 hG) ?_
  show Ev l G _ _ _ _ _ _ _ _ _ [.ref 16, .ref 3] (jmk tT41) tW45
  refine ev_putr (T := tT41) (o := 6) (idx := 54) (ci := 6) (k := 11) (a := 3) (b := 16) (by decide +kernel) rfl (by decide +kernel) rfl rfl rfl rfl (by decide +kernel) (by decide +kernel) (by decide +kernel) (by decide) ?_
  show Ev l G _ _ _ _ _ _ _ _ _ _ (jmk tT42) tW45
  refine ev_seg (r := jmk tT42) (o := 6) (nL := 2) (q := 128) (xs := [(.aload_n 0, 1, 0, 0, .null)]) (L' := [some (.ref 3), none]) (st' := [.ref 3]) (w' := tW45) (g := []) (K := []) (by decide +kernel) rfl rfl rfl rfl jk0 ?_
  refine ev_new (T := tT42) (a := 24) (o := 6) (idx := 27) (ci := 3) (by decide +kernel) (by decide +kernel) rfl (by decide +kernel) (by decide) jcl_6_27 jis_3 ji_3 (Nat.le_of_ble_eq_true rfl) (Nat.le_of_ble_eq_true rfl) ?_
  show Ev l G _ _ _ _ _ _ _ _ _ [.ref 24, .ref 3] (jmk tT43) tW46
  refine ev_seg (r := jmk tT43) (o := 6) (nL := 2) (q := 136) (xs := [(.dup, 1, 0, 0, .null), (.sipush 200, 3, 0, 0, .int 200), (.iconst 4, 1, 0, 0, .int 4)]) (L' := [some (.ref 3), none]) (st' := [.int 4, .int 200, .ref 24, .ref 24, .ref 3]) (w' := tW46) (g := []) (K := []) (by decide +kernel) rfl rfl rfl rfl jk0 ?_
  refine ev_callI (r := jmk tT43) (w := tW46) (y2 := y_Rows_init) (o := 6) (idx := 29) (a := 24) (d2 := (1, 21)) (n := 2) (mc2 := 1) (ms2 := 800) (As := [.int 200, .int 4]) (st := [.ref 24, .ref 3]) (res2 := (none, jmk tT45, tW49)) (by decide +kernel) rfl lk_6_29 mo_Rows_init mi_Rows_init ⟨Nat.le_of_ble_eq_true rfl, Nat.le_of_ble_eq_true rfl⟩ rfl rfl (Nat.le_of_ble_eq_true rfl) ⟨Nat.le_of_ble_eq_true rfl, Nat.le_of_ble_eq_true rfl⟩ hG (jct10 hG) ?_
  show Ev l G _ _ _ _ _ _ _ _ _ [.ref 24, .ref 3] (jmk tT45) tW49
  refine ev_putr (T := tT45) (o := 6) (idx := 58) (ci := 6) (k := 12) (a := 3) (b := 24) (by decide +kernel) rfl (by decide +kernel) rfl rfl rfl rfl (by decide +kernel) (by decide +kernel) (by decide +kernel) (by decide) ?_
  show Ev l G _ _ _ _ _ _ _ _ _ _ (jmk tT46) tW49
  refine ev_seg (r := jmk tT46) (o := 6) (nL := 2) (q := 143) (xs := [(.aload_n 0, 1, 0, 0, .null)]) (L' := [some (.ref 3), none]) (st' := [.ref 3]) (w' := tW49) (g := []) (K := []) (by decide +kernel) rfl rfl rfl rfl jk0 ?_
  refine ev_new (T := tT46) (a := 26) (o := 6) (idx := 27) (ci := 3) (by decide +kernel) (by decide +kernel) rfl (by decide +kernel) (by decide) jcl_6_27 jis_3 ji_3 (Nat.le_of_ble_eq_true rfl) (Nat.le_of_ble_eq_true rfl) ?_
  show Ev l G _ _ _ _ _ _ _ _ _ [.ref 26, .ref 3] (jmk tT47) tW50
  refine ev_seg (r := jmk tT47) (o := 6) (nL := 2) (q := 151) (xs := [(.dup, 1, 0, 0, .null), (.bipush 100, 2, 0, 0, .int 100), (.bipush 10, 2, 0, 0, .int 10)]) (L' := [some (.ref 3), none]) (st' := [.int 10, .int 100, .ref 26, .ref 26, .ref 3]) (w' := tW50) (g := []) (K := []) (by decide +kernel) rfl rfl rfl rfl jk0 ?_
  refine ev_callI (r := jmk tT47) (w := tW50) (y2 := y_Rows_init) (o := 6) (idx := 29) (a := 26) (d2 := (1, 21)) (n := 2) (mc2 := 1) (ms2 := 1000) (As := [.int 100, .int 10]) (st := [.ref 26, .ref 3]) (res2 := (none, jmk tT49, tW53)) (by decide +kernel) rfl lk_6_29 mo_Rows_init mi_Rows_init ⟨Nat.le_of_ble_eq_true rfl, Nat.le_of_ble_eq_true rfl⟩ rfl rfl (Nat.le_of_ble_eq_true rfl) ⟨Nat.le_of_ble_eq_true rfl, Nat.le_of_ble_eq_true rfl⟩ hG (jct11 hG) ?_
  show Ev l G _ _ _ _ _ _ _ _ _ [.ref 26, .ref 3] (jmk tT49) tW53
  refine ev_putr (T := tT49) (o := 6) (idx := 61) (ci := 6) (k := 13) (a := 3) (b := 26) (by decide +kernel) rfl (by decide +kernel) rfl rfl rfl rfl (by decide +kernel) (by decide +kernel) (by decide +kernel) (by decide) ?_
  show Ev l G _ _ _ _ _ _ _ _ _ _ (jmk tT50) tW53
  refine ev_seg (r := jmk tT50) (o := 6) (nL := 2) (q := 158) (xs := [(.aload_n 0, 1, 0, 0, .null)]) (L' := [some (.ref 3), none]) (st' := [.ref 3]) (w' := tW53) (g := []) (K := []) (by decide +kernel) rfl rfl rfl rfl jk0 ?_
  refine ev_new (T := tT50) (a := 28) (o := 6) (idx := 27) (ci := 3) (by decide +kernel) (by decide +kernel) rfl (by decide +kernel) (by decide) jcl_6_27 jis_3 ji_3 (Nat.le_of_ble_eq_true rfl) (Nat.le_of_ble_eq_true rfl) ?_
  show Ev l G _ _ _ _ _ _ _ _ _ [.ref 28, .ref 3] (jmk tT51) tW54
  refine ev_seg (r := jmk tT51) (o := 6) (nL := 2) (q := 165) (xs := [(.dup, 1, 0, 0, .null), (.bipush 100, 2, 0, 0, .int 100), (.iconst 3, 1, 0, 0, .int 3)]) (L' := [some (.ref 3), none]) (st' := [.int 3, .int 100, .ref 28, .ref 28, .ref 3]) (w' := tW54) (g := []) (K := []) (by decide +kernel) rfl rfl rfl rfl jk0 ?_
  refine ev_callI (r := jmk tT51) (w := tW54) (y2 := y_Rows_init) (o := 6) (idx := 29) (a := 28) (d2 := (1, 21)) (n := 2) (mc2 := 1) (ms2 := 300) (As := [.int 100, .int 3]) (st := [.ref 28, .ref 3]) (res2 := (none, jmk tT53, tW57)) (by decide +kernel) rfl lk_6_29 mo_Rows_init mi_Rows_init ⟨Nat.le_of_ble_eq_true rfl, Nat.le_of_ble_eq_true rfl⟩ rfl rfl (Nat.le_of_ble_eq_true rfl) ⟨Nat.le_of_ble_eq_true rfl, Nat.le_of_ble_eq_true rfl⟩ hG (jct12 hG) ?_
  show Ev l G _ _ _ _ _ _ _ _ _ [.ref 28, .ref 3] (jmk tT53) tW57
  refine ev_putr (T := tT53) (o := 6) (idx := 64) (ci := 6) (k := 14) (a := 3) (b := 28) (by decide +kernel) rfl (by decide +kernel) rfl rfl rfl rfl (by decide +kernel) (by decide +kernel) (by decide +kernel) (by decide) ?_
  show Ev l G _ _ _ _ _ _ _ _ _ _ (jmk tT54) tW57
  refine ev_seg (r := jmk tT54) (o := 6) (nL := 2) (q := 172) (xs := [(.aload_n 0, 1, 0, 0, .null)]) (L' := [some (.ref 3), none]) (st' := [.ref 3]) (w' := tW57) (g := []) (K := []) (by decide +kernel) rfl rfl rfl rfl jk0 ?_
  refine ev_new (T := tT54) (a := 30) (o := 6) (idx := 27) (ci := 3) (by decide +kernel) (by decide +kernel) rfl (by decide +kernel) (by decide) jcl_6_27 jis_3 ji_3 (Nat.le_of_ble_eq_true rfl) (Nat.le_of_ble_eq_true rfl) ?_
  show Ev l G _ _ _ _ _ _ _ _ _ [.ref 30, .ref 3] (jmk tT55) tW58
  refine ev_seg (r := jmk tT55) (o := 6) (nL := 2) (q := 179) (xs := [(.dup, 1, 0, 0, .null), (.bipush 50, 2, 0, 0, .int 50), (.iconst 3, 1, 0, 0, .int 3)]) (L' := [some (.ref 3), none]) (st' := [.int 3, .int 50, .ref 30, .ref 30, .ref 3]) (w' := tW58) (g := []) (K := []) (by decide +kernel) rfl rfl rfl rfl jk0 ?_
  refine ev_callI (r := jmk tT55) (w := tW58) (y2 := y_Rows_init) (o := 6) (idx := 29) (a := 30) (d2 := (1, 21)) (n := 2) (mc2 := 1) (ms2 := 150) (As := [.int 50, .int 3]) (st := [.ref 30, .ref 3]) (res2 := (none, jmk tT57, tW61)) (by decide +kernel) rfl lk_6_29 mo_Rows_init mi_Rows_init ⟨Nat.le_of_ble_eq_true rfl, Nat.le_of_ble_eq_true rfl⟩ rfl rfl (Nat.le_of_ble_eq_true rfl) ⟨Nat.le_of_ble_eq_true rfl, Nat.le_of_ble_eq_true rfl⟩ hG (jct13 hG) ?_
  show Ev l G _ _ _ _ _ _ _ _ _ [.ref 30, .ref 3] (jmk tT57) tW61
  refine ev_putr (T := tT57) (o := 6) (idx := 67) (ci := 6) (k := 15) (a := 3) (b := 30) (by decide +kernel) rfl (by decide +kernel) rfl rfl rfl rfl (by decide +kernel) (by decide +kernel) (by decide +kernel) (by decide) ?_
  show Ev l G _ _ _ _ _ _ _ _ _ _ (jmk tT58) tW61
  refine ev_seg (r := jmk tT58) (o := 6) (nL := 2) (q := 186) (xs := [(.aload_n 0, 1, 0, 0, .null)]) (L' := [some (.ref 3), none]) (st' := [.ref 3]) (w' := tW61) (g := []) (K := []) (by decide +kernel) rfl rfl rfl rfl jk0 ?_
  refine ev_new (T := tT58) (a := 32) (o := 6) (idx := 27) (ci := 3) (by decide +kernel) (by decide +kernel) rfl (by decide +kernel) (by decide) jcl_6_27 jis_3 ji_3 (Nat.le_of_ble_eq_true rfl) (Nat.le_of_ble_eq_true rfl) ?_
  show Ev l G _ _ _ _ _ _ _ _ _ [.ref 32, .ref 3] (jmk tT59) tW62
  refine ev_seg (r := jmk tT59) (o := 6) (nL := 2) (q := 194) (xs := [(.dup, 1, 0, 0, .null), (.sipush 512, 3, 0, 0, .int 512), (.iconst 5, 1, 0, 0, .int 5)]) (L' := [some (.ref 3), none]) (st' := [.int 5, .int 512, .ref 32, .ref 32, .ref 3]) (w' := tW62) (g := []) (K := []) (by decide +kernel) rfl rfl rfl rfl jk0 ?_
  refine ev_callI (r := jmk tT59) (w := tW62) (y2 := y_Rows_init) (o := 6) (idx := 29) (a := 32) (d2 := (1, 21)) (n := 2) (mc2 := 1) (ms2 := 2560) (As := [.int 512, .int 5]) (st := [.ref 32, .ref 3]) (res2 := (none, jmk tT61, tW65)) (by decide +kernel) rfl lk_6_29 mo_Rows_init mi_Rows_init ⟨Nat.le_of_ble_eq_true rfl, Nat.le_of_ble_eq_true rfl⟩ rfl rfl (Nat.le_of_ble_eq_true rfl) ⟨Nat.le_of_ble_eq_true rfl, Nat.le_of_ble_eq_true rfl⟩ hG (jct14 hG) ?_
  show Ev l G _ _ _ _ _ _ _ _ _ [.ref 32, .ref 3] (jmk tT61) tW65
  refine ev_putr (T := tT61) (o := 6) (idx := 70) (ci := 6) (k := 16) (a := 3) (b := 32) (by decide +kernel) rfl (by decide +kernel) rfl rfl rfl rfl (by decide +kernel) (by decide +kernel) (by decide +kernel) (by decide) ?_
  show Ev l G _ _ _ _ _ _ _ _ _ _ (jmk tT62) tW65
  refine ev_seg (r := jmk tT62) (o := 6) (nL := 2) (q := 201) (xs := [(.aload_n 0, 1, 0, 0, .null)]) (L' := [some (.ref 3), none]) (st' := [.ref 3]) (w' := tW65) (g := []) (K := []) (by decide +kernel) rfl rfl rfl rfl jk0 ?_
  refine ev_new (T := tT62) (a := 34) (o := 6) (idx := 27) (ci := 3) (by decide +kernel) (by decide +kernel) rfl (by decide +kernel) (by decide) jcl_6_27 jis_3 ji_3 (Nat.le_of_ble_eq_true rfl) (Nat.le_of_ble_eq_true rfl) ?_
  show Ev l G _ _ _ _ _ _ _ _ _ [.ref 34, .ref 3] (jmk tT63) tW66
  refine ev_seg (r := jmk tT63) (o := 6) (nL := 2) (q := 208) (xs := [(.dup, 1, 0, 0, .null), (.bipush 60, 2, 0, 0, .int 60), (.iconst 2, 1, 0, 0, .int 2)]) (L' := [some (.ref 3), none]) (st' := [.int 2, .int 60, .ref 34, .ref 34, .ref 3]) (w' := tW66) (g := []) (K := []) (by decide +kernel) rfl rfl rfl rfl jk0 ?_
  refine ev_callI (r := jmk tT63) (w := tW66) (y2 := y_Rows_init) (o := 6) (idx := 29) (a := 34) (d2 := (1, 21)) (n := 2) (mc2 := 1) (ms2 := 120) (As := [.int 60, .int 2]) (st := [.ref 34, .ref 3]) (res2 := (none, jmk tT65, tW69)) (by decide +kernel) rfl lk_6_29 mo_Rows_init mi_Rows_init ⟨Nat.le_of_ble_eq_true rfl, Nat.le_of_ble_eq_true rfl⟩ rfl rfl (Nat.le_of_ble_eq_true rfl) ⟨Nat.le_of_ble_eq_true rfl, Nat.le_of_ble_eq_true rfl⟩ hG (jct15 hG) ?_
  show Ev l G _ _ _ _ _ _ _ _ _ [.ref 34, .ref 3] (jmk tT65) tW69
  refine ev_putr (T := tT65) (o := 6) (idx := 73) (ci := 6) (k := 17) (a := 3) (b := 34) (by decide +kernel) rfl (by decide +kernel) rfl rfl rfl rfl (by decide +kernel) (by decide +kernel) (by decide +kernel) (by decide) ?_
  show Ev l G _ _ _ _ _ _ _ _ _ _ (jmk tT66) tW69
  refine ev_seg (r := jmk tT66) (o := 6) (nL := 2) (q := 215) (xs := [(.aload_n 0, 1, 0, 0, .null)]) (L' := [some (.ref 3), none]) (st' := [.ref 3]) (w' := tW69) (g := []) (K := []) (by decide +kernel) rfl rfl rfl rfl jk0 ?_
  refine ev_new (T := tT66) (a := 36) (o := 6) (idx := 27) (ci := 3) (by decide +kernel) (by decide +kernel) rfl (by decide +kernel) (by decide) jcl_6_27 jis_3 ji_3 (Nat.le_of_ble_eq_true rfl) (Nat.le_of_ble_eq_true rfl) ?_
  show Ev l G _ _ _ _ _ _ _ _ _ [.ref 36, .ref 3] (jmk tT67) tW70
  refine ev_seg (r := jmk tT67) (o := 6) (nL := 2) (q := 222) (xs := [(.dup, 1, 0, 0, .null), (.bipush 60, 2, 0, 0, .int 60), (.iconst 2, 1, 0, 0, .int 2)]) (L' := [some (.ref 3), none]) (st' := [.int 2, .int 60, .ref 36, .ref 36, .ref 3]) (w' := tW70) (g := []) (K := []) (by decide +kernel) rfl rfl rfl rfl jk0 ?_
  refine ev_callI (r := jmk tT67) (w := tW70) (y2 := y_Rows_init) (o := 6) (idx := 29) (a := 36) (d2 := (1, 21)) (n := 2) (mc2 := 1) (ms2 := 120) (As := [.int 60, .int 2]) (st := [.ref 36, .ref 3]) (res2 := (none, jmk tT69, tW73)) (by decide +kernel) rfl lk_6_29 mo_Rows_init mi_Rows_init ⟨Nat.le_of_ble_eq_true rfl, Nat.le_of_ble_eq_true rfl⟩ rfl rfl (Nat.le_of_ble_eq_true rfl) ⟨Nat.le_of_ble_eq_true rfl, Nat.le_of_ble_eq_true rfl⟩ hG (jct16 hG) ?_
  show Ev l G _ _ _ _ _ _ _ _ _ [.ref 36, .ref 3] (jmk tT69) tW73
  refine ev_putr (T := tT69) (o := 6) (idx := 76) (ci := 6) (k := 18) (a := 3) (b := 36) (by decide +kernel) rfl (by decide +kernel) rfl rfl rfl rfl (by decide +kernel) (by decide +kernel) (by decide +kernel) (by decide) ?_
  show Ev l G _ _ _ _ _ _ _ _ _ _ (jmk tT70) tW73
  refine ev_seg (r := jmk tT70) (o := 6) (nL := 2) (q := 232) (xs := [(.iconst 0, 1, 0, 0, .int 0), (.istore_n 1, 1, 1, 0, .null), (.iload_n 1, 1, 1, 0, .null), (.iconst 4, 1, 0, 0, .int 4)]) (L' := [some (.ref 3), some (.int 0)]) (st' := [.int 4, .int 0]) (w' := tW73) (g := []) (K := []) (by decide +kernel) rfl rfl rfl rfl jk0 ?_
  refine ev_icmp_ge (off := 52) (tgt := 284) (by decide +kernel) (by decide) (fun c => absurd c (by decide +kernel)) (fun c => ?_)
  refine ev_seg (r := jmk tT70) (o := 6) (nL := 2) (q := 240) (xs := [(.aload_n 0, 1, 0, 0, .null), (.getfield 32, 3, 6, 5, .ref 3), (.iconst 1, 1, 0, 0, .int 1)]) (L' := [some (.ref 3), some (.int 0)]) (st' := [.int 1, .ref 4]) (w' := tW73) (g := []) (K := [(4, 3), (3, 6)]) (by decide +kernel) rfl rfl rfl rfl (jk1 (by decide +kernel) (jk1 (by decide +kernel) jk0)) ?_
  refine ev_callV (ci := 3) (a := 4) (r := jmk tT70) (w := tW73) (y2 := y_Rows_open) (o := 6) (idx := 79) (d2 := d_Rows_open) (n := 1) (mc2 := 0) (ms2 := 0) (As := [.int 1])  (st := []) (res2 := (some (.int jZ0.1), jmk tT70, tW74)) (by decide +kernel) rfl lk_6_79 mo_Rows_open mv_Rows_open ⟨Nat.le_of_ble_eq_true rfl, Nat.le_of_ble_eq_true rfl⟩ rfl rfl (by decide +kernel) (by decide) rfl (Nat.le_of_ble_eq_true rfl) ⟨Nat.le_of_ble_eq_true rfl, Nat.le_of_ble_eq_true rfl⟩ hG (e_Rows_open_g hG (by decide +kernel) (by decide +kernel) jZ0_ok) ?_
  show Ev l G _ _ _ _ _ _ _ _ _ [.int jZ0.1] (jmk tT70) tW74
  refine ev_seg (r := jmk tT70) (o := 6) (nL := 2) (q := 253) (xs := [(.pop, 1, 0, 0, .null), (.aload_n 0, 1, 0, 0, .null), (.getfield 32, 3, 6, 5, .ref 3), (.iload_n 1, 1, 1, 0, .null), (.iconst 1, 1, 0, 0, .int 1), (.sipush 200, 3, 0, 0, .int 200)]) (L' := [some (.ref 3), some (.int 0)]) (st' := [.int 200, .int 1, .int 0, .ref 4]) (w' := tW74) (g := []) (K := [(4, 3), (3, 6)]) (by decide +kernel) rfl rfl rfl rfl (jk1 (by decide +kernel) (jk1 (by decide +kernel) jk0)) ?_
  refine ev_callV (ci := 3) (a := 4) (r := jmk tT70) (w := tW74) (y2 := y_Rows_put) (o := 6) (idx := 83) (d2 := d_Rows_put) (n := 3) (mc2 := 0) (ms2 := 0) (As := [.int 0, .int 1, .int 200])  (st := []) (res2 := (none, jmk tT70, tW75)) (by decide +kernel) rfl lk_6_83 mo_Rows_put mv_Rows_put ⟨Nat.le_of_ble_eq_true rfl, Nat.le_of_ble_eq_true rfl⟩ rfl rfl (by decide +kernel) (by decide) rfl (Nat.le_of_ble_eq_true rfl) ⟨Nat.le_of_ble_eq_true rfl, Nat.le_of_ble_eq_true rfl⟩ hG (e_Rows_put_g hG (by decide +kernel) (by decide +kernel) jZ1_ok) ?_
  show Ev l G _ _ _ _ _ _ _ _ _ [] (jmk tT70) tW75
  refine ev_seg (r := jmk tT70) (o := 6) (nL := 2) (q := 263) (xs := [(.aload_n 0, 1, 0, 0, .null), (.getfield 32, 3, 6, 5, .ref 3), (.iload_n 1, 1, 1, 0, .null), (.iconst 2, 1, 0, 0, .int 2), (.iconst 1, 1, 0, 0, .int 1)]) (L' := [some (.ref 3), some (.int 0)]) (st' := [.int 1, .int 2, .int 0, .ref 4]) (w' := tW75) (g := []) (K := [(4, 3), (3, 6)]) (by decide +kernel) rfl rfl rfl rfl (jk1 (by decide +kernel) (jk1 (by decide +kernel) jk0)) ?_
  refine ev_callV (ci := 3) (a := 4) (r := jmk tT70) (w := tW75) (y2 := y_Rows_put) (o := 6) (idx := 83) (d2 := d_Rows_put) (n := 3) (mc2 := 0) (ms2 := 0) (As := [.int 0, .int 2, .int 1])  (st := []) (res2 := (none, jmk tT70, tW76)) (by decide +kernel) rfl lk_6_83 mo_Rows_put mv_Rows_put ⟨Nat.le_of_ble_eq_true rfl, Nat.le_of_ble_eq_true rfl⟩ rfl rfl (by decide +kernel) (by decide) rfl (Nat.le_of_ble_eq_true rfl) ⟨Nat.le_of_ble_eq_true rfl, Nat.le_of_ble_eq_true rfl⟩ hG (e_Rows_put_g hG (by decide +kernel) (by decide +kernel) jZ2_ok) ?_
  show Ev l G _ _ _ _ _ _ _ _ _ [] (jmk tT70) tW76
  refine ev_seg (r := jmk tT70) (o := 6) (nL := 2) (q := 275) (xs := [(.aload_n 0, 1, 0, 0, .null), (.getfield 32, 3, 6, 5, .ref 3), (.iload_n 1, 1, 1, 0, .null), (.iconst 3, 1, 0, 0, .int 3), (.sipush 500, 3, 0, 0, .int 500)]) (L' := [some (.ref 3), some (.int 0)]) (st' := [.int 500, .int 3, .int 0, .ref 4]) (w' := tW76) (g := []) (K := [(4, 3), (3, 6)]) (by decide +kernel) rfl rfl rfl rfl (jk1 (by decide +kernel) (jk1 (by decide +kernel) jk0)) ?_
  refine ev_callV (ci := 3) (a := 4) (r := jmk tT70) (w := tW76) (y2 := y_Rows_put) (o := 6) (idx := 83) (d2 := d_Rows_put) (n := 3) (mc2 := 0) (ms2 := 0) (As := [.int 0, .int 3, .int 500])  (st := []) (res2 := (none, jmk tT70, tW77)) (by decide +kernel) rfl lk_6_83 mo_Rows_put mv_Rows_put ⟨Nat.le_of_ble_eq_true rfl, Nat.le_of_ble_eq_true rfl⟩ rfl rfl (by decide +kernel) (by decide) rfl (Nat.le_of_ble_eq_true rfl) ⟨Nat.le_of_ble_eq_true rfl, Nat.le_of_ble_eq_true rfl⟩ hG (e_Rows_put_g hG (by decide +kernel) (by decide +kernel) jZ3_ok) ?_
  show Ev l G _ _ _ _ _ _ _ _ _ [] (jmk tT70) tW77
  refine ev_seg (r := jmk tT70) (o := 6) (nL := 2) (q := 232) (xs := [(.iinc 1 1, 3, 1, 0, .int 1), (.goto (-51), 3, 0, 0, .null), (.iload_n 1, 1, 1, 0, .null), (.iconst 4, 1, 0, 0, .int 4)]) (L' := [some (.ref 3), some (.int (0 + 1))]) (st' := [.int 4, .int (0 + 1)]) (w' := tW77) (g := []) (K := []) (by decide +kernel) rfl rfl rfl rfl jk0 ?_
  refine ev_icmp_ge (off := 52) (tgt := 284) (by decide +kernel) (by decide) (fun c => absurd c (by decide +kernel)) (fun c => ?_)
  refine ev_seg (r := jmk tT70) (o := 6) (nL := 2) (q := 240) (xs := [(.aload_n 0, 1, 0, 0, .null), (.getfield 32, 3, 6, 5, .ref 3), (.iconst 1, 1, 0, 0, .int 1)]) (L' := [some (.ref 3), some (.int (0 + 1))]) (st' := [.int 1, .ref 4]) (w' := tW77) (g := []) (K := [(4, 3), (3, 6)]) (by decide +kernel) rfl rfl rfl rfl (jk1 (by decide +kernel) (jk1 (by decide +kernel) jk0)) ?_
  refine ev_callV (ci := 3) (a := 4) (r := jmk tT70) (w := tW77) (y2 := y_Rows_open) (o := 6) (idx := 79) (d2 := d_Rows_open) (n := 1) (mc2 := 0) (ms2 := 0) (As := [.int 1])  (st := []) (res2 := (some (.int jZ4.1), jmk tT70, tW78)) (by decide +kernel) rfl lk_6_79 mo_Rows_open mv_Rows_open ⟨Nat.le_of_ble_eq_true rfl, Nat.le_of_ble_eq_true rfl⟩ rfl rfl (by decide +kernel) (by decide) rfl (Nat.le_of_ble_eq_true rfl) ⟨Nat.le_of_ble_eq_true rfl, Nat.le_of_ble_eq_true rfl⟩ hG (e_Rows_open_g hG (by decide +kernel) (by decide +kernel) jZ4_ok) ?_
  show Ev l G _ _ _ _ _ _ _ _ _ [.int jZ4.1] (jmk tT70) tW78
  refine ev_seg (r := jmk tT70) (o := 6) (nL := 2) (q := 253) (xs := [(.pop, 1, 0, 0, .null), (.aload_n 0, 1, 0, 0, .null), (.getfield 32, 3, 6, 5, .ref 3), (.iload_n 1, 1, 1, 0, .null), (.iconst 1, 1, 0, 0, .int 1), (.sipush 200, 3, 0, 0, .int 200)]) (L' := [some (.ref 3), some (.int (0 + 1))]) (st' := [.int 200, .int 1, .int (0 + 1), .ref 4]) (w' := tW78) (g := []) (K := [(4, 3), (3, 6)]) (by decide +kernel) rfl rfl rfl rfl (jk1 (by decide +kernel) (jk1 (by decide +kernel) jk0)) ?_
  refine ev_callV (ci := 3) (a := 4) (r := jmk tT70) (w := tW78) (y2 := y_Rows_put) (o := 6) (idx := 83) (d2 := d_Rows_put) (n := 3) (mc2 := 0) (ms2 := 0) (As := [.int (0 + 1), .int 1, .int 200])  (st := []) (res2 := (none, jmk tT70, tW79)) (by decide +kernel) rfl lk_6_83 mo_Rows_put mv_Rows_put ⟨Nat.le_of_ble_eq_true rfl, Nat.le_of_ble_eq_true rfl⟩ rfl rfl (by decide +kernel) (by decide) rfl (Nat.le_of_ble_eq_true rfl) ⟨Nat.le_of_ble_eq_true rfl, Nat.le_of_ble_eq_true rfl⟩ hG (e_Rows_put_g hG (by decide +kernel) (by decide +kernel) jZ5_ok) ?_
  show Ev l G _ _ _ _ _ _ _ _ _ [] (jmk tT70) tW79
  refine ev_seg (r := jmk tT70) (o := 6) (nL := 2) (q := 263) (xs := [(.aload_n 0, 1, 0, 0, .null), (.getfield 32, 3, 6, 5, .ref 3), (.iload_n 1, 1, 1, 0, .null), (.iconst 2, 1, 0, 0, .int 2), (.iconst 1, 1, 0, 0, .int 1)]) (L' := [some (.ref 3), some (.int (0 + 1))]) (st' := [.int 1, .int 2, .int (0 + 1), .ref 4]) (w' := tW79) (g := []) (K := [(4, 3), (3, 6)]) (by decide +kernel) rfl rfl rfl rfl (jk1 (by decide +kernel) (jk1 (by decide +kernel) jk0)) ?_
  refine ev_callV (ci := 3) (a := 4) (r := jmk tT70) (w := tW79) (y2 := y_Rows_put) (o := 6) (idx := 83) (d2 := d_Rows_put) (n := 3) (mc2 := 0) (ms2 := 0) (As := [.int (0 + 1), .int 2, .int 1])  (st := []) (res2 := (none, jmk tT70, tW80)) (by decide +kernel) rfl lk_6_83 mo_Rows_put mv_Rows_put ⟨Nat.le_of_ble_eq_true rfl, Nat.le_of_ble_eq_true rfl⟩ rfl rfl (by decide +kernel) (by decide) rfl (Nat.le_of_ble_eq_true rfl) ⟨Nat.le_of_ble_eq_true rfl, Nat.le_of_ble_eq_true rfl⟩ hG (e_Rows_put_g hG (by decide +kernel) (by decide +kernel) jZ6_ok) ?_
  show Ev l G _ _ _ _ _ _ _ _ _ [] (jmk tT70) tW80
  refine ev_seg (r := jmk tT70) (o := 6) (nL := 2) (q := 275) (xs := [(.aload_n 0, 1, 0, 0, .null), (.getfield 32, 3, 6, 5, .ref 3), (.iload_n 1, 1, 1, 0, .null), (.iconst 3, 1, 0, 0, .int 3), (.sipush 500, 3, 0, 0, .int 500)]) (L' := [some (.ref 3), some (.int (0 + 1))]) (st' := [.int 500, .int 3, .int (0 + 1), .ref 4]) (w' := tW80) (g := []) (K := [(4, 3), (3, 6)]) (by decide +kernel) rfl rfl rfl rfl (jk1 (by decide +kernel) (jk1 (by decide +kernel) jk0)) ?_
  refine ev_callV (ci := 3) (a := 4) (r := jmk tT70) (w := tW80) (y2 := y_Rows_put) (o := 6) (idx := 83) (d2 := d_Rows_put) (n := 3) (mc2 := 0) (ms2 := 0) (As := [.int (0 + 1), .int 3, .int 500])  (st := []) (res2 := (none, jmk tT70, tW81)) (by decide +kernel) rfl lk_6_83 mo_Rows_put mv_Rows_put ⟨Nat.le_of_ble_eq_true rfl, Nat.le_of_ble_eq_true rfl⟩ rfl rfl (by decide +kernel) (by decide) rfl (Nat.le_of_ble_eq_true rfl) ⟨Nat.le_of_ble_eq_true rfl, Nat.le_of_ble_eq_true rfl⟩ hG (e_Rows_put_g hG (by decide +kernel) (by decide +kernel) jZ7_ok) ?_
  show Ev l G _ _ _ _ _ _ _ _ _ [] (jmk tT70) tW81
  refine ev_seg (r := jmk tT70) (o := 6) (nL := 2) (q := 232) (xs := [(.iinc 1 1, 3, 1, 0, .int 1), (.goto (-51), 3, 0, 0, .null), (.iload_n 1, 1, 1, 0, .null), (.iconst 4, 1, 0, 0, .int 4)]) (L' := [some (.ref 3), some (.int ((0 + 1) + 1))]) (st' := [.int 4, .int ((0 + 1) + 1)]) (w' := tW81) (g := []) (K := []) (by decide +kernel) rfl rfl rfl rfl jk0 ?_
  refine ev_icmp_ge (off := 52) (tgt := 284) (by decide +kernel) (by decide) (fun c => absurd c (by decide +kernel)) (fun c => ?_)
  refine ev_seg (r := jmk tT70) (o := 6) (nL := 2) (q := 240) (xs := [(.aload_n 0, 1, 0, 0, .null), (.getfield 32, 3, 6, 5, .ref 3), (.iconst 1, 1, 0, 0, .int 1)]) (L' := [some (.ref 3), some (.int ((0 + 1) + 1))]) (st' := [.int 1, .ref 4]) (w' := tW81) (g := []) (K := [(4, 3), (3, 6)]) (by decide +kernel) rfl rfl rfl rfl (jk1 (by decide +kernel) (jk1 (by decide +kernel) jk0)) ?_
  refine ev_callV (ci := 3) (a := 4) (r := jmk tT70) (w := tW81) (y2 := y_Rows_open) (o := 6) (idx := 79) (d2 := d_Rows_open) (n := 1) (mc2 := 0) (ms2 := 0) (As := [.int 1])  (st := []) (res2 := (some (.int jZ8.1), jmk tT70, tW82)) (by decide +kernel) rfl lk_6_79 mo_Rows_open mv_Rows_open ⟨Nat.le_of_ble_eq_true rfl, Nat.le_of_ble_eq_true rfl⟩ rfl rfl (by decide +kernel) (by decide) rfl (Nat.le_of_ble_eq_true rfl) ⟨Nat.le_of_ble_eq_true rfl, Nat.le_of_ble_eq_true rfl⟩ hG (e_Rows_open_g hG (by decide +kernel) (by decide +kernel) jZ8_ok) ?_
  show Ev l G _ _ _ _ _ _ _ _ _ [.int jZ8.1] (jmk tT70) tW82
  refine ev_seg (r := jmk tT70) (o := 6) (nL := 2) (q := 253) (xs := [(.pop, 1, 0, 0, .null), (.aload_n 0, 1, 0, 0, .null), (.getfield 32, 3, 6, 5, .ref 3), (.iload_n 1, 1, 1, 0, .null), (.iconst 1, 1, 0, 0, .int 1), (.sipush 200, 3, 0, 0, .int 200)]) (L' := [some (.ref 3), some (.int ((0 + 1) + 1))]) (st' := [.int 200, .int 1, .int ((0 + 1) + 1), .ref 4]) (w' := tW82) (g := []) (K := [(4, 3), (3, 6)]) (by decide +kernel) rfl rfl rfl rfl (jk1 (by decide +kernel) (jk1 (by decide +kernel) jk0)) ?_
  refine ev_callV (ci := 3) (a := 4) (r := jmk tT70) (w := tW82) (y2 := y_Rows_put) (o := 6) (idx := 83) (d2 := d_Rows_put) (n := 3) (mc2 := 0) (ms2 := 0) (As := [.int ((0 + 1) + 1), .int 1, .int 200])  (st := []) (res2 := (none, jmk tT70, tW83)) (by decide +kernel) rfl lk_6_83 mo_Rows_put mv_Rows_put ⟨Nat.le_of_ble_eq_true rfl, Nat.le_of_ble_eq_true rfl⟩ rfl rfl (by decide +kernel) (by decide) rfl (Nat.le_of_ble_eq_true rfl) ⟨Nat.le_of_ble_eq_true rfl, Nat.le_of_ble_eq_true rfl⟩ hG (e_Rows_put_g hG (by decide +kernel) (by decide +kernel) jZ9_ok) ?_
  show Ev l G _ _ _ _ _ _ _ _ _ [] (jmk tT70) tW83
  refine ev_seg (r := jmk tT70) (o := 6) (nL := 2) (q := 263) (xs := [(.aload_n 0, 1, 0, 0, .null), (.getfield 32, 3, 6, 5, .ref 3), (.iload_n 1, 1, 1, 0, .null), (.iconst 2, 1, 0, 0, .int 2), (.iconst 1, 1, 0, 0, .int 1)]) (L' := [some (.ref 3), some (.int ((0 + 1) + 1))]) (st' := [.int 1, .int 2, .int ((0 + 1) + 1), .ref 4]) (w' := tW83) (g := []) (K := [(4, 3), (3, 6)]) (by decide +kernel) rfl rfl rfl rfl (jk1 (by decide +kernel) (jk1 (by decide +kernel) jk0)) ?_
  refine ev_callV (ci := 3) (a := 4) (r := jmk tT70) (w := tW83) (y2 := y_Rows_put) (o := 6) (idx := 83) (d2 := d_Rows_put) (n := 3) (mc2 := 0) (ms2 := 0) (As := [.int ((0 + 1) + 1), .int 2, .int 1])  (st := []) (res2 := (none, jmk tT70, tW84)) (by decide +kernel) rfl lk_6_83 mo_Rows_put mv_Rows_put ⟨Nat.le_of_ble_eq_true rfl, Nat.le_of_ble_eq_true rfl⟩ rfl rfl (by decide +kernel) (by decide) rfl (Nat.le_of_ble_eq_true rfl) ⟨Nat.le_of_ble_eq_true rfl, Nat.le_of_ble_eq_true rfl⟩ hG (e_Rows_put_g hG (by decide +kernel) (by decide +kernel) jZ10_ok) ?_
  show Ev l G _ _ _ _ _ _ _ _ _ [] (jmk tT70) tW84
  refine ev_seg (r := jmk tT70) (o := 6) (nL := 2) (q := 275) (xs := [(.aload_n 0, 1, 0, 0, .null), (.getfield 32, 3, 6, 5, .ref 3), (.iload_n 1, 1, 1, 0, .null), (.iconst 3, 1, 0, 0, .int 3), (.sipush 500, 3, 0, 0, .int 500)]) (L' := [some (.ref 3), some (.int ((0 + 1) + 1))]) (st' := [.int 500, .int 3, .int ((0 + 1) + 1), .ref 4]) (w' := tW84) (g := []) (K := [(4, 3), (3, 6)]) (by decide +kernel) rfl rfl rfl rfl (jk1 (by decide +kernel) (jk1 (by decide +kernel) jk0)) ?_
  refine ev_callV (ci := 3) (a := 4) (r := jmk tT70) (w := tW84) (y2 := y_Rows_put) (o := 6) (idx := 83) (d2 := d_Rows_put) (n := 3) (mc2 := 0) (ms2 := 0) (As := [.int ((0 + 1) + 1), .int 3, .int 500])  (st := []) (res2 := (none, jmk tT70, tW85)) (by decide +kernel) rfl lk_6_83 mo_Rows_put mv_Rows_put ⟨Nat.le_of_ble_eq_true rfl, Nat.le_of_ble_eq_true rfl⟩ rfl rfl (by decide +kernel) (by decide) rfl (Nat.le_of_ble_eq_true rfl) ⟨Nat.le_of_ble_eq_true rfl, Nat.le_of_ble_eq_true rfl⟩ hG (e_Rows_put_g hG (by decide +kernel) (by decide +kernel) jZ11_ok) ?_
  show Ev l G _ _ _ _ _ _ _ _ _ [] (jmk tT70) tW85
  refine ev_seg (r := jmk tT70) (o := 6) (nL := 2) (q := 232) (xs := [(.iinc 1 1, 3, 1, 0, .int 1), (.goto (-51), 3, 0, 0, .null), (.iload_n 1, 1, 1, 0, .null), (.iconst 4, 1, 0, 0, .int 4)]) (L' := [some (.ref 3), some (.int (((0 + 1) + 1) + 1))]) (st' := [.int 4, .int (((0 + 1) + 1) + 1)]) (w' := tW85) (g := []) (K := []) (by decide +kernel) rfl rfl rfl rfl jk0 ?_
  refine ev_icmp_ge (off := 52) (tgt := 284) (by decide +kernel) (by decide) (fun c => absurd c (by decide +kernel)) (fun c => ?_)
  refine ev_seg (r := jmk tT70) (o := 6) (nL := 2) (q := 240) (xs := [(.aload_n 0, 1, 0, 0, .null), (.getfield 32, 3, 6, 5, .ref 3), (.iconst 1, 1, 0, 0, .int 1)]) (L' := [some (.ref 3), some (.int (((0 + 1) + 1) + 1))]) (st' := [.int 1, .ref 4]) (w' := tW85) (g := []) (K := [(4, 3), (3, 6)]) (by decide +kernel) rfl rfl rfl rfl (jk1 (by decide +kernel) (jk1 (by decide +kernel) jk0)) ?_
  refine ev_callV (ci := 3) (a := 4) (r := jmk tT70) (w := tW85) (y2 := y_Rows_open) (o := 6) (idx := 79) (d2 := d_Rows_open) (n := 1) (mc2 := 0) (ms2 := 0) (As := [.int 1])  (st := []) (res2 := (some (.int jZ12.1), jmk tT70, tW86)) (by decide +kernel) rfl lk_6_79 mo_Rows_open mv_Rows_open ⟨Nat.le_of_ble_eq_true rfl, Nat.le_of_ble_eq_true rfl⟩ rfl rfl (by decide +kernel) (by decide) rfl (Nat.le_of_ble_eq_true rfl) ⟨Nat.le_of_ble_eq_true rfl, Nat.le_of_ble_eq_true rfl⟩ hG (e_Rows_open_g hG (by decide +kernel) (by decide +kernel) jZ12_ok) ?_
  show Ev l G _ _ _ _ _ _ _ _ _ [.int jZ12.1] (jmk tT70) tW86
  refine ev_seg (r := jmk tT70) (o := 6) (nL := 2) (q := 253) (xs := [(.pop, 1, 0, 0, .null), (.aload_n 0, 1, 0, 0, .null), (.getfield 32, 3, 6, 5, .ref 3), (.iload_n 1, 1, 1, 0, .null), (.iconst 1, 1, 0, 0, .int 1), (.sipush 200, 3, 0, 0, .int 200)]) (L' := [some (.ref 3), some (.int (((0 + 1) + 1) + 1))]) (st' := [.int 200, .int 1, .int (((0 + 1) + 1) + 1), .ref 4]) (w' := tW86) (g := []) (K := [(4, 3), (3, 6)]) (by decide +kernel) rfl rfl rfl rfl (jk1 (by decide +kernel) (jk1 (by decide +kernel) jk0)) ?_
  refine ev_callV (ci := 3) (a := 4) (r := jmk tT70) (w := tW86) (y2 := y_Rows_put) (o := 6) (idx := 83) (d2 := d_Rows_put) (n := 3) (mc2 := 0) (ms2 := 0) (As := [.int (((0 + 1) + 1) + 1), .int 1, .int 200])  (st := []) (res2 := (none, jmk tT70, tW87)) (by decide +kernel) rfl lk_6_83 mo_Rows_put mv_Rows_put ⟨Nat.le_of_ble_eq_true rfl, Nat.le_of_ble_eq_true rfl⟩ rfl rfl (by decide +kernel) (by decide) rfl (Nat.le_of_ble_eq_true rfl) ⟨Nat.le_of_ble_eq_true rfl, Nat.le_of_ble_eq_true rfl⟩ hG (e_Rows_put_g hG (by decide +kernel) (by decide +kernel) jZ13_ok) ?_
  show Ev l G _ _ _ _ _ _ _ _ _ [] (jmk tT70) tW87
  refine ev_seg (r := jmk tT70) (o := 6) (nL := 2) (q := 263) (xs := [(.aload_n 0, 1, 0, 0, .null), (.getfield 32, 3, 6, 5, .ref 3), (.iload_n 1, 1, 1, 0, .null), (.iconst 2, 1, 0, 0, .int 2), (.iconst 1, 1, 0, 0, .int 1)]) (L' := [some (.ref 3), some (.int (((0 + 1) + 1) + 1))]) (st' := [.int 1, .int 2, .int (((0 + 1) + 1) + 1), .ref 4]) (w' := tW87) (g := []) (K := [(4, 3), (3, 6)]) (by decide +kernel) rfl rfl rfl rfl (jk1 (by decide +kernel) (jk1 (by decide +kernel) jk0)) ?_
  refine ev_callV (ci := 3) (a := 4) (r := jmk tT70) (w := tW87) (y2 := y_Rows_put) (o := 6) (idx := 83) (d2 := d_Rows_put) (n := 3) (mc2 := 0) (ms2 := 0) (As := [.int (((0 + 1) + 1) + 1), .int 2, .int 1])  (st := []) (res2 := (none, jmk tT70, tW88)) (by decide +kernel) rfl lk_6_83 mo_Rows_put mv_Rows_put ⟨Nat.le_of_ble_eq_true rfl, Nat.le_of_ble_eq_true rfl⟩ rfl rfl (by decide +kernel) (by decide) rfl (Nat.le_of_ble_eq_true rfl) ⟨Nat.le_of_ble_eq_true rfl, Nat.le_of_ble_eq_true rfl⟩ hG (e_Rows_put_g hG (by decide +kernel) (by decide +kernel) jZ14_ok) ?_
  show Ev l G _ _ _ _ _ _ _ _ _ [] (jmk tT70) tW88
  refine ev_seg (r := jmk tT70) (o := 6) (nL := 2) (q := 275) (xs := [(.aload_n 0, 1, 0, 0, .null), (.getfield 32, 3, 6, 5, .ref 3), (.iload_n 1, 1, 1, 0, .null), (.iconst 3, 1, 0, 0, .int 3), (.sipush 500, 3, 0, 0, .int 500)]) (L' := [some (.ref 3), some (.int (((0 + 1) + 1) + 1))]) (st' := [.int 500, .int 3, .int (((0 + 1) + 1) + 1), .ref 4]) (w' := tW88) (g := []) (K := [(4, 3), (3, 6)]) (by decide +kernel) rfl rfl rfl rfl (jk1 (by decide +kernel) (jk1 (by decide +kernel) jk0)) ?_
  refine ev_callV (ci := 3) (a := 4) (r := jmk tT70) (w := tW88) (y2 := y_Rows_put) (o := 6) (idx := 83) (d2 := d_Rows_put) (n := 3) (mc2 := 0) (ms2 := 0) (As := [.int (((0 + 1) + 1) + 1), .int 3, .int 500])  (st := []) (res2 := (none, jmk tT70, tW89)) (by decide +kernel) rfl lk_6_83 mo_Rows_put mv_Rows_put ⟨Nat.le_of_ble_eq_true rfl, Nat.le_of_ble_eq_true rfl⟩ rfl rfl (by decide +kernel) (by decide) rfl (Nat.le_of_ble_eq_true rfl) ⟨Nat.le_of_ble_eq_true rfl, Nat.le_of_ble_eq_true rfl⟩ hG (e_Rows_put_g hG (by decide +kernel) (by decide +kernel) jZ15_ok) ?_
  show Ev l G _ _ _ _ _ _ _ _ _ [] (jmk tT70) tW89
  refine ev_seg (r := jmk tT70) (o := 6) (nL := 2) (q := 232) (xs := [(.iinc 1 1, 3, 1, 0, .int 1), (.goto (-51), 3, 0, 0, .null), (.iload_n 1, 1, 1, 0, .null), (.iconst 4, 1, 0, 0, .int 4)]) (L' := [some (.ref 3), some (.int ((((0 + 1) + 1) + 1) + 1))]) (st' := [.int 4, .int ((((0 + 1) + 1) + 1) + 1)]) (w' := tW89) (g := []) (K := []) (by decide +kernel) rfl rfl rfl rfl jk0 ?_
  refine ev_icmp_ge (off := 52) (tgt := 284) (by decide +kernel) (by decide) (fun c => ?_) (fun c => absurd c (by decide +kernel))
  exact ev_vret (by decide +kernel) rfl rfl rfl rfl
def tT71 : jT := jtr tT70 2 0 3
def tT72 : jT := jtn tT71 6 0 19
def tW90 : jW := jzr tW89 38
def tW91 : jW := (jup tW90.1 38 0 0, tW90.2)
def tW92 : jW := (jup tW91.1 38 1 2, tW91.2)
def tW93 : jW := (jup tW92.1 38 2 5, tW92.2)
def tW94 : jW := (jup tW93.1 38 3 40, tW93.2)
def tW95 : jW := (jup tW94.1 38 4 0, tW94.2)
def tT73 : jT := jtn tT72 3 0 3
def tW96 : jW := jzr tW95 39
def tW97 : jW := (jup tW96.1 39 0 (if (1 : Int32) < 4 then 4 else 1), tW96.2)
def tT74 : jT := jtn tT73 20 16 0
def tW98 : jW := jzr tW97 40
def tT75 : jT := jtr tT74 39 1 40
def tW99 : jW := (jup tW98.1 39 2 0, tW98.2)
set_option maxRecDepth 200000 in
theorem jct18 {l : Launch} {G : jG} (hG : jX G) : Ct l G y_Rows_init (1, 21) 1 16 [.ref 39, .int 4, .int 4] (jmk tT73) tW96 (none, jmk tT75, tW99) := by
  refine Ct.of (L := [some (.ref 39), some (.int 4), some (.int 4)]) (by decide) (Nat.le_of_ble_eq_true rfl) rfl ?_
  refine ev_seg (r := jmk tT73) (o := 3) (nL := 3) (q := 1) (xs := [(.aload_n 0, 1, 0, 0, .null)]) (L' := [some (.ref 39), some (.int 4), some (.int 4)]) (st' := [.ref 39]) (w' := tW96) (g := []) (K := []) (by decide +kernel) rfl rfl rfl rfl jk0 ?_
  refine ev_objI (o := 3) (idx := 3) (by decide +kernel) rfl lk_3_3 jobi jobc (Nat.le_of_ble_eq_true rfl) (Nat.le_of_ble_eq_true rfl) ?_
  refine ev_seg (r := jmk tT73) (o := 3) (nL := 3) (q := 7) (xs := [(.aload_n 0, 1, 0, 0, .null), (.iconst 1, 1, 0, 0, .int 1), (.iload_n 2, 1, 2, 0, .null)]) (L' := [some (.ref 39), some (.int 4), some (.int 4)]) (st' := [.int 4, .int 1, .ref 39]) (w' := tW96) (g := []) (K := []) (by decide +kernel) rfl rfl rfl rfl jk0 ?_
  refine ev_max (o := 3) (idx := 9) (by decide +kernel) rfl lk_3_9 ms_max hMath mc_max (Nat.le_of_ble_eq_true rfl) (Nat.le_of_ble_eq_true rfl) (Nat.le_of_ble_eq_true rfl) (Nat.le_of_ble_eq_true rfl) ?_
  refine ev_putiF (r := jmk tT73) (o := 3) (idx := 15) (ci := 3) (k := 0) (a := 39) (by decide +kernel) rfl (by decide +kernel) rfl rfl rfl rfl (by decide +kernel) ?_
  show Ev l G _ _ _ _ _ _ _ _ _ _ (jmk tT73) tW97
  refine ev_seg (r := jmk tT73) (o := 3) (nL := 3) (q := 21) (xs := [(.aload_n 0, 1, 0, 0, .null), (.iconst 1, 1, 0, 0, .int 1), (.iload_n 1, 1, 1, 0, .null), (.aload_n 0, 1, 0, 0, .null), (.getfield 15, 3, 3, 0, .int 0), (.imul, 1, 0, 0, .null)]) (L' := [some (.ref 39), some (.int 4), some (.int 4)]) (st' := [.int (4 * (tW97.1 39 0)), .int 1, .ref 39]) (w' := tW97) (g := []) (K := [(39, 3)]) (by decide +kernel) rfl rfl rfl rfl (jk1 (by decide +kernel) jk0) ?_
  refine ev_max (o := 3) (idx := 9) (by decide +kernel) rfl lk_3_9 ms_max hMath mc_max (Nat.le_of_ble_eq_true rfl) (Nat.le_of_ble_eq_true rfl) (Nat.le_of_ble_eq_true rfl) (Nat.le_of_ble_eq_true rfl) ?_
  refine jnewa (T := tT73) (a := 40) (kd := 20) (ty := .int) (atype := .int) (N := 16) (by decide +kernel) (by decide +kernel) rfl (by decide +kernel) (Or.inl ⟨rfl, rfl⟩) ja_int (by decide +kernel) (by decide +kernel) (Nat.le_of_ble_eq_true rfl) (Nat.le_of_ble_eq_true rfl) (Nat.le_of_ble_eq_true rfl) ?_
  show Ev l G _ _ _ _ _ _ _ _ _ [.ref 40, .ref 39] (jmk tT74) tW98
  refine ev_putr (T := tT74) (o := 3) (idx := 21) (ci := 3) (k := 1) (a := 39) (b := 40) (by decide +kernel) rfl (by decide +kernel) rfl rfl rfl rfl (by decide +kernel) (by decide +kernel) (by decide +kernel) (by decide) ?_
  show Ev l G _ _ _ _ _ _ _ _ _ _ (jmk tT75) tW98
  refine ev_seg (r := jmk tT75) (o := 3) (nL := 3) (q := 34) (xs := [(.aload_n 0, 1, 0, 0, .null), (.iconst 0, 1, 0, 0, .int 0), (.putfield 25, 3, 3, 2, .int 0)]) (L' := [some (.ref 39), some (.int 4), some (.int 4)]) (st' := []) (w' := tW99) (g := []) (K := [(39, 3)]) (by decide +kernel) rfl rfl rfl rfl (jk1 (by decide +kernel) jk0) ?_
  exact ev_vret (by decide +kernel) rfl rfl rfl rfl
def tT76 : jT := jtr tT75 38 5 39
def tT77 : jT := jtn tT76 3 0 3
def tW100 : jW := jzr tW99 41
def tW101 : jW := (jup tW100.1 41 0 (if (1 : Int32) < 5 then 5 else 1), tW100.2)
def tT78 : jT := jtn tT77 20 50 0
def tW102 : jW := jzr tW101 42
def tT79 : jT := jtr tT78 41 1 42
def tW103 : jW := (jup tW102.1 41 2 0, tW102.2)
set_option maxRecDepth 200000 in
theorem jct19 {l : Launch} {G : jG} (hG : jX G) : Ct l G y_Rows_init (1, 21) 1 50 [.ref 41, .int 10, .int 5] (jmk tT77) tW100 (none, jmk tT79, tW103) := by
  refine Ct.of (L := [some (.ref 41), some (.int 10), some (.int 5)]) (by decide) (Nat.le_of_ble_eq_true rfl) rfl ?_
  refine ev_seg (r := jmk tT77) (o := 3) (nL := 3) (q := 1) (xs := [(.aload_n 0, 1, 0, 0, .null)]) (L' := [some (.ref 41), some (.int 10), some (.int 5)]) (st' := [.ref 41]) (w' := tW100) (g := []) (K := []) (by decide +kernel) rfl rfl rfl rfl jk0 ?_
  refine ev_objI (o := 3) (idx := 3) (by decide +kernel) rfl lk_3_3 jobi jobc (Nat.le_of_ble_eq_true rfl) (Nat.le_of_ble_eq_true rfl) ?_
  refine ev_seg (r := jmk tT77) (o := 3) (nL := 3) (q := 7) (xs := [(.aload_n 0, 1, 0, 0, .null), (.iconst 1, 1, 0, 0, .int 1), (.iload_n 2, 1, 2, 0, .null)]) (L' := [some (.ref 41), some (.int 10), some (.int 5)]) (st' := [.int 5, .int 1, .ref 41]) (w' := tW100) (g := []) (K := []) (by decide +kernel) rfl rfl rfl rfl jk0 ?_
  refine ev_max (o := 3) (idx := 9) (by decide +kernel) rfl lk_3_9 ms_max hMath mc_max (Nat.le_of_ble_eq_true rfl) (Nat.le_of_ble_eq_true rfl) (Nat.le_of_ble_eq_true rfl) (Nat.le_of_ble_eq_true rfl) ?_
  refine ev_putiF (r := jmk tT77) (o := 3) (idx := 15) (ci := 3) (k := 0) (a := 41) (by decide +kernel) rfl (by decide +kernel) rfl rfl rfl rfl (by decide +kernel) ?_
  show Ev l G _ _ _ _ _ _ _ _ _ _ (jmk tT77) tW101
  refine ev_seg (r := jmk tT77) (o := 3) (nL := 3) (q := 21) (xs := [(.aload_n 0, 1, 0, 0, .null), (.iconst 1, 1, 0, 0, .int 1), (.iload_n 1, 1, 1, 0, .null), (.aload_n 0, 1, 0, 0, .null), (.getfield 15, 3, 3, 0, .int 0), (.imul, 1, 0, 0, .null)]) (L' := [some (.ref 41), some (.int 10), some (.int 5)]) (st' := [.int (10 * (tW101.1 41 0)), .int 1, .ref 41]) (w' := tW101) (g := []) (K := [(41, 3)]) (by decide +kernel) rfl rfl rfl rfl (jk1 (by decide +kernel) jk0) ?_
  refine ev_max (o := 3) (idx := 9) (by decide +kernel) rfl lk_3_9 ms_max hMath mc_max (Nat.le_of_ble_eq_true rfl) (Nat.le_of_ble_eq_true rfl) (Nat.le_of_ble_eq_true rfl) (Nat.le_of_ble_eq_true rfl) ?_
  refine jnewa (T := tT77) (a := 42) (kd := 20) (ty := .int) (atype := .int) (N := 50) (by decide +kernel) (by decide +kernel) rfl (by decide +kernel) (Or.inl ⟨rfl, rfl⟩) ja_int (by decide +kernel) (by decide +kernel) (Nat.le_of_ble_eq_true rfl) (Nat.le_of_ble_eq_true rfl) (Nat.le_of_ble_eq_true rfl) ?_
  show Ev l G _ _ _ _ _ _ _ _ _ [.ref 42, .ref 41] (jmk tT78) tW102
  refine ev_putr (T := tT78) (o := 3) (idx := 21) (ci := 3) (k := 1) (a := 41) (b := 42) (by decide +kernel) rfl (by decide +kernel) rfl rfl rfl rfl (by decide +kernel) (by decide +kernel) (by decide +kernel) (by decide) ?_
  show Ev l G _ _ _ _ _ _ _ _ _ _ (jmk tT79) tW102
  refine ev_seg (r := jmk tT79) (o := 3) (nL := 3) (q := 34) (xs := [(.aload_n 0, 1, 0, 0, .null), (.iconst 0, 1, 0, 0, .int 0), (.putfield 25, 3, 3, 2, .int 0)]) (L' := [some (.ref 41), some (.int 10), some (.int 5)]) (st' := []) (w' := tW103) (g := []) (K := [(41, 3)]) (by decide +kernel) rfl rfl rfl rfl (jk1 (by decide +kernel) jk0) ?_
  exact ev_vret (by decide +kernel) rfl rfl rfl rfl
def tT80 : jT := jtr tT79 38 6 41
def tT81 : jT := jtn tT80 3 0 3
def tW104 : jW := jzr tW103 43
def tW105 : jW := (jup tW104.1 43 0 (if (1 : Int32) < 10 then 10 else 1), tW104.2)
def tT82 : jT := jtn tT81 20 100 0
def tW106 : jW := jzr tW105 44
def tT83 : jT := jtr tT82 43 1 44
def tW107 : jW := (jup tW106.1 43 2 0, tW106.2)
set_option maxRecDepth 200000 in
theorem jct20 {l : Launch} {G : jG} (hG : jX G) : Ct l G y_Rows_init (1, 21) 1 100 [.ref 43, .int 10, .int 10] (jmk tT81) tW104 (none, jmk tT83, tW107) := by
  refine Ct.of (L := [some (.ref 43), some (.int 10), some (.int 10)]) (by decide) (Nat.le_of_ble_eq_true rfl) rfl ?_
  refine ev_seg (r := jmk tT81) (o := 3) (nL := 3) (q := 1) (xs := [(.aload_n 0, 1, 0, 0, .null)]) (L' := [some (.ref 43), some (.int 10), some (.int 10)]) (st' := [.ref 43]) (w' := tW104) (g := []) (K := []) (by decide +kernel) rfl rfl rfl rfl jk0 ?_
  refine ev_objI (o := 3) (idx := 3) (by decide +kernel) rfl lk_3_3 jobi jobc (Nat.le_of_ble_eq_true rfl) (Nat.le_of_ble_eq_true rfl) ?_
  refine ev_seg (r := jmk tT81) (o := 3) (nL := 3) (q := 7) (xs := [(.aload_n 0, 1, 0, 0, .null), (.iconst 1, 1, 0, 0, .int 1), (.iload_n 2, 1, 2, 0, .null)]) (L' := [some (.ref 43), some (.int 10), some (.int 10)]) (st' := [.int 10, .int 1, .ref 43]) (w' := tW104) (g := []) (K := []) (by decide +kernel) rfl rfl rfl rfl jk0 ?_
  refine ev_max (o := 3) (idx := 9) (by decide +kernel) rfl lk_3_9 ms_max hMath mc_max (Nat.le_of_ble_eq_true rfl) (Nat.le_of_ble_eq_true rfl) (Nat.le_of_ble_eq_true rfl) (Nat.le_of_ble_eq_true rfl) ?_
  refine ev_putiF (r := jmk tT81) (o := 3) (idx := 15) (ci := 3) (k := 0) (a := 43) (by decide +kernel) rfl (by decide +kernel) rfl rfl rfl rfl (by decide +kernel) ?_
  show Ev l G _ _ _ _ _ _ _ _ _ _ (jmk tT81) tW105
  refine ev_seg (r := jmk tT81) (o := 3) (nL := 3) (q := 21) (xs := [(.aload_n 0, 1, 0, 0, .null), (.iconst 1, 1, 0, 0, .int 1), (.iload_n 1, 1, 1, 0, .null), (.aload_n 0, 1, 0, 0, .null), (.getfield 15, 3, 3, 0, .int 0), (.imul, 1, 0, 0, .null)]) (L' := [some (.ref 43), some (.int 10), some (.int 10)]) (st' := [.int (10 * (tW105.1 43 0)), .int 1, .ref 43]) (w' := tW105) (g := []) (K := [(43, 3)]) (by decide +kernel) rfl rfl rfl rfl (jk1 (by decide +kernel) jk0) ?_
  refine ev_max (o := 3) (idx := 9) (by decide +kernel) rfl lk_3_9 ms_max hMath mc_max (Nat.le_of_ble_eq_true rfl) (Nat.le_of_ble_eq_true rfl) (Nat.le_of_ble_eq_true rfl) (Nat.le_of_ble_eq_true rfl) ?_
  refine jnewa (T := tT81) (a := 44) (kd := 20) (ty := .int) (atype := .int) (N := 100) (by decide +kernel) (by decide +kernel) rfl (by decide +kernel) (Or.inl ⟨rfl, rfl⟩) ja_int (by decide +kernel) (by decide +kernel) (Nat.le_of_ble_eq_true rfl) (Nat.le_of_ble_eq_true rfl) (Nat.le_of_ble_eq_true rfl) ?_
  show Ev l G _ _ _ _ _ _ _ _ _ [.ref 44, .ref 43] (jmk tT82) tW106
  refine ev_putr (T := tT82) (o := 3) (idx := 21) (ci := 3) (k := 1) (a := 43) (b := 44) (by decide +kernel) rfl (by decide +kernel) rfl rfl rfl rfl (by decide +kernel) (by decide +kernel) (by decide +kernel) (by decide) ?_
  show Ev l G _ _ _ _ _ _ _ _ _ _ (jmk tT83) tW106
  refine ev_seg (r := jmk tT83) (o := 3) (nL := 3) (q := 34) (xs := [(.aload_n 0, 1, 0, 0, .null), (.iconst 0, 1, 0, 0, .int 0), (.putfield 25, 3, 3, 2, .int 0)]) (L' := [some (.ref 43), some (.int 10), some (.int 10)]) (st' := []) (w' := tW107) (g := []) (K := [(43, 3)]) (by decide +kernel) rfl rfl rfl rfl (jk1 (by decide +kernel) jk0) ?_
  exact ev_vret (by decide +kernel) rfl rfl rfl rfl
def tT84 : jT := jtr tT83 38 7 43
def tT85 : jT := jtn tT84 3 0 3
def tW108 : jW := jzr tW107 45
def tW109 : jW := (jup tW108.1 45 0 (if (1 : Int32) < 11 then 11 else 1), tW108.2)
def tT86 : jT := jtn tT85 20 440 0
def tW110 : jW := jzr tW109 46
def tT87 : jT := jtr tT86 45 1 46
def tW111 : jW := (jup tW110.1 45 2 0, tW110.2)
set_option maxRecDepth 200000 in
theorem jct21 {l : Launch} {G : jG} (hG : jX G) : Ct l G y_Rows_init (1, 21) 1 440 [.ref 45, .int 40, .int 11] (jmk tT85) tW108 (none, jmk tT87, tW111) := by
  refine Ct.of (L := [some (.ref 45), some (.int 40), some (.int 11)]) (by decide) (Nat.le_of_ble_eq_true rfl) rfl ?_
  refine ev_seg (r := jmk tT85) (o := 3) (nL := 3) (q := 1) (xs := [(.aload_n 0, 1, 0, 0, .null)]) (L' := [some (.ref 45), some (.int 40), some (.int 11)]) (st' := [.ref 45]) (w' := tW108) (g := []) (K := []) (by decide +kernel) rfl rfl rfl rfl jk0 ?_
  refine ev_objI (o := 3) (idx := 3) (by decide +kernel) rfl lk_3_3 jobi jobc (Nat.le_of_ble_eq_true rfl) (Nat.le_of_ble_eq_true rfl) ?_
  refine ev_seg (r := jmk tT85) (o := 3) (nL := 3) (q := 7) (xs := [(.aload_n 0, 1, 0, 0, .null), (.iconst 1, 1, 0, 0, .int 1), (.iload_n 2, 1, 2, 0, .null)]) (L' := [some (.ref 45), some (.int 40), some (.int 11)]) (st' := [.int 11, .int 1, .ref 45]) (w' := tW108) (g := []) (K := []) (by decide +kernel) rfl rfl rfl rfl jk0 ?_
  refine ev_max (o := 3) (idx := 9) (by decide +kernel) rfl lk_3_9 ms_max hMath mc_max (Nat.le_of_ble_eq_true rfl) (Nat.le_of_ble_eq_true rfl) (Nat.le_of_ble_eq_true rfl) (Nat.le_of_ble_eq_true rfl) ?_
  refine ev_putiF (r := jmk tT85) (o := 3) (idx := 15) (ci := 3) (k := 0) (a := 45) (by decide +kernel) rfl (by decide +kernel) rfl rfl rfl rfl (by decide +kernel) ?_
  show Ev l G _ _ _ _ _ _ _ _ _ _ (jmk tT85) tW109
  refine ev_seg (r := jmk tT85) (o := 3) (nL := 3) (q := 21) (xs := [(.aload_n 0, 1, 0, 0, .null), (.iconst 1, 1, 0, 0, .int 1), (.iload_n 1, 1, 1, 0, .null), (.aload_n 0, 1, 0, 0, .null), (.getfield 15, 3, 3, 0, .int 0), (.imul, 1, 0, 0, .null)]) (L' := [some (.ref 45), some (.int 40), some (.int 11)]) (st' := [.int (40 * (tW109.1 45 0)), .int 1, .ref 45]) (w' := tW109) (g := []) (K := [(45, 3)]) (by decide +kernel) rfl rfl rfl rfl (jk1 (by decide +kernel) jk0) ?_
  refine ev_max (o := 3) (idx := 9) (by decide +kernel) rfl lk_3_9 ms_max hMath mc_max (Nat.le_of_ble_eq_true rfl) (Nat.le_of_ble_eq_true rfl) (Nat.le_of_ble_eq_true rfl) (Nat.le_of_ble_eq_true rfl) ?_
  refine jnewa (T := tT85) (a := 46) (kd := 20) (ty := .int) (atype := .int) (N := 440) (by decide +kernel) (by decide +kernel) rfl (by decide +kernel) (Or.inl ⟨rfl, rfl⟩) ja_int (by decide +kernel) (by decide +kernel) (Nat.le_of_ble_eq_true rfl) (Nat.le_of_ble_eq_true rfl) (Nat.le_of_ble_eq_true rfl) ?_
  show Ev l G _ _ _ _ _ _ _ _ _ [.ref 46, .ref 45] (jmk tT86) tW110
  refine ev_putr (T := tT86) (o := 3) (idx := 21) (ci := 3) (k := 1) (a := 45) (b := 46) (by decide +kernel) rfl (by decide +kernel) rfl rfl rfl rfl (by decide +kernel) (by decide +kernel) (by decide +kernel) (by decide) ?_
  show Ev l G _ _ _ _ _ _ _ _ _ _ (jmk tT87) tW110
  refine ev_seg (r := jmk tT87) (o := 3) (nL := 3) (q := 34) (xs := [(.aload_n 0, 1, 0, 0, .null), (.iconst 0, 1, 0, 0, .int 0), (.putfield 25, 3, 3, 2, .int 0)]) (L' := [some (.ref 45), some (.int 40), some (.int 11)]) (st' := []) (w' := tW111) (g := []) (K := [(45, 3)]) (by decide +kernel) rfl rfl rfl rfl (jk1 (by decide +kernel) jk0) ?_
  exact ev_vret (by decide +kernel) rfl rfl rfl rfl
def tT88 : jT := jtr tT87 38 8 45
def tT89 : jT := jtn tT88 3 0 3
def tW112 : jW := jzr tW111 47
def tW113 : jW := (jup tW112.1 47 0 (if (1 : Int32) < 6 then 6 else 1), tW112.2)
def tT90 : jT := jtn tT89 20 600 0
def tW114 : jW := jzr tW113 48
def tT91 : jT := jtr tT90 47 1 48
def tW115 : jW := (jup tW114.1 47 2 0, tW114.2)
set_option maxRecDepth 200000 in
theorem jct22 {l : Launch} {G : jG} (hG : jX G) : Ct l G y_Rows_init (1, 21) 1 600 [.ref 47, .int 100, .int 6] (jmk tT89) tW112 (none, jmk tT91, tW115) := by
  refine Ct.of (L := [some (.ref 47), some (.int 100), some (.int 6)]) (by decide) (Nat.le_of_ble_eq_true rfl) rfl ?_
  refine ev_seg (r := jmk tT89) (o := 3) (nL := 3) (q := 1) (xs := [(.aload_n 0, 1, 0, 0, .null)]) (L' := [some (.ref 47), some (.int 100), some (.int 6)]) (st' := [.ref 47]) (w' := tW112) (g := []) (K := []) (by decide +kernel) rfl rfl rfl rfl jk0 ?_
  refine ev_objI (o := 3) (idx := 3) (by decide +kernel) rfl lk_3_3 jobi jobc (Nat.le_of_ble_eq_true rfl) (Nat.le_of_ble_eq_true rfl) ?_
  refine ev_seg (r := jmk tT89) (o := 3) (nL := 3) (q := 7) (xs := [(.aload_n 0, 1, 0, 0, .null), (.iconst 1, 1, 0, 0, .int 1), (.iload_n 2, 1, 2, 0, .null)]) (L' := [some (.ref 47), some (.int 100), some (.int 6)]) (st' := [.int 6, .int 1, .ref 47]) (w' := tW112) (g := []) (K := []) (by decide +kernel) rfl rfl rfl rfl jk0 ?_
  refine ev_max (o := 3) (idx := 9) (by decide +kernel) rfl lk_3_9 ms_max hMath mc_max (Nat.le_of_ble_eq_true rfl) (Nat.le_of_ble_eq_true rfl) (Nat.le_of_ble_eq_true rfl) (Nat.le_of_ble_eq_true rfl) ?_
  refine ev_putiF (r := jmk tT89) (o := 3) (idx := 15) (ci := 3) (k := 0) (a := 47) (by decide +kernel) rfl (by decide +kernel) rfl rfl rfl rfl (by decide +kernel) ?_
  show Ev l G _ _ _ _ _ _ _ _ _ _ (jmk tT89) tW113
  refine ev_seg (r := jmk tT89) (o := 3) (nL := 3) (q := 21) (xs := [(.aload_n 0, 1, 0, 0, .null), (.iconst 1, 1, 0, 0, .int 1), (.iload_n 1, 1, 1, 0, .null), (.aload_n 0, 1, 0, 0, .null), (.getfield 15, 3, 3, 0, .int 0), (.imul, 1, 0, 0, .null)]) (L' := [some (.ref 47), some (.int 100), some (.int 6)]) (st' := [.int (100 * (tW113.1 47 0)), .int 1, .ref 47]) (w' := tW113) (g := []) (K := [(47, 3)]) (by decide +kernel) rfl rfl rfl rfl (jk1 (by decide +kernel) jk0) ?_
  refine ev_max (o := 3) (idx := 9) (by decide +kernel) rfl lk_3_9 ms_max hMath mc_max (Nat.le_of_ble_eq_true rfl) (Nat.le_of_ble_eq_true rfl) (Nat.le_of_ble_eq_true rfl) (Nat.le_of_ble_eq_true rfl) ?_
  refine jnewa (T := tT89) (a := 48) (kd := 20) (ty := .int) (atype := .int) (N := 600) (by decide +kernel) (by decide +kernel) rfl (by decide +kernel) (Or.inl ⟨rfl, rfl⟩) ja_int (by decide +kernel) (by decide +kernel) (Nat.le_of_ble_eq_true rfl) (Nat.le_of_ble_eq_true rfl) (Nat.le_of_ble_eq_true rfl) ?_
  show Ev l G _ _ _ _ _ _ _ _ _ [.ref 48, .ref 47] (jmk tT90) tW114
  refine ev_putr (T := tT90) (o := 3) (idx := 21) (ci := 3) (k := 1) (a := 47) (b := 48) (by decide +kernel) rfl (by decide +kernel) rfl rfl rfl rfl (by decide +kernel) (by decide +kernel) (by decide +kernel) (by decide) ?_
  show Ev l G _ _ _ _ _ _ _ _ _ _ (jmk tT91) tW114
  refine ev_seg (r := jmk tT91) (o := 3) (nL := 3) (q := 34) (xs := [(.aload_n 0, 1, 0, 0, .null), (.iconst 0, 1, 0, 0, .int 0), (.putfield 25, 3, 3, 2, .int 0)]) (L' := [some (.ref 47), some (.int 100), some (.int 6)]) (st' := []) (w' := tW115) (g := []) (K := [(47, 3)]) (by decide +kernel) rfl rfl rfl rfl (jk1 (by decide +kernel) jk0) ?_
  exact ev_vret (by decide +kernel) rfl rfl rfl rfl
def tT92 : jT := jtr tT91 38 9 47
def tT93 : jT := jtn tT92 3 0 3
def tW116 : jW := jzr tW115 49
def tW117 : jW := (jup tW116.1 49 0 (if (1 : Int32) < 2 then 2 else 1), tW116.2)
def tT94 : jT := jtn tT93 20 80 0
def tW118 : jW := jzr tW117 50
def tT95 : jT := jtr tT94 49 1 50
def tW119 : jW := (jup tW118.1 49 2 0, tW118.2)
set_option maxRecDepth 200000 in
theorem jct23 {l : Launch} {G : jG} (hG : jX G) : Ct l G y_Rows_init (1, 21) 1 80 [.ref 49, .int 40, .int 2] (jmk tT93) tW116 (none, jmk tT95, tW119) := by
  refine Ct.of (L := [some (.ref 49), some (.int 40), some (.int 2)]) (by decide) (Nat.le_of_ble_eq_true rfl) rfl ?_
  refine ev_seg (r := jmk tT93) (o := 3) (nL := 3) (q := 1) (xs := [(.aload_n 0, 1, 0, 0, .null)]) (L' := [some (.ref 49), some (.int 40), some (.int 2)]) (st' := [.ref 49]) (w' := tW116) (g := []) (K := []) (by decide +kernel) rfl rfl rfl rfl jk0 ?_
  refine ev_objI (o := 3) (idx := 3) (by decide +kernel) rfl lk_3_3 jobi jobc (Nat.le_of_ble_eq_true rfl) (Nat.le_of_ble_eq_true rfl) ?_
  refine ev_seg (r := jmk tT93) (o := 3) (nL := 3) (q := 7) (xs := [(.aload_n 0, 1, 0, 0, .null), (.iconst 1, 1, 0, 0, .int 1), (.iload_n 2, 1, 2, 0, .null)]) (L' := [some (.ref 49), some (.int 40), some (.int 2)]) (st' := [.int 2, .int 1, .ref 49]) (w' := tW116) (g := []) (K := []) (by decide +kernel) rfl rfl rfl rfl jk0 ?_
  refine ev_max (o := 3) (idx := 9) (by decide +kernel) rfl lk_3_9 ms_max hMath mc_max (Nat.le_of_ble_eq_true rfl) (Nat.le_of_ble_eq_true rfl) (Nat.le_of_ble_eq_true rfl) (Nat.le_of_ble_eq_true rfl) ?_
  refine ev_putiF (r := jmk tT93) (o := 3) (idx := 15) (ci := 3) (k := 0) (a := 49) (by decide +kernel) rfl (by decide +kernel) rfl rfl rfl rfl (by decide +kernel) ?_
  show Ev l G _ _ _ _ _ _ _ _ _ _ (jmk tT93) tW117
  refine ev_seg (r := jmk tT93) (o := 3) (nL := 3) (q := 21) (xs := [(.aload_n 0, 1, 0, 0, .null), (.iconst 1, 1, 0, 0, .int 1), (.iload_n 1, 1, 1, 0, .null), (.aload_n 0, 1, 0, 0, .null), (.getfield 15, 3, 3, 0, .int 0), (.imul, 1, 0, 0, .null)]) (L' := [some (.ref 49), some (.int 40), some (.int 2)]) (st' := [.int (40 * (tW117.1 49 0)), .int 1, .ref 49]) (w' := tW117) (g := []) (K := [(49, 3)]) (by decide +kernel) rfl rfl rfl rfl (jk1 (by decide +kernel) jk0) ?_
  refine ev_max (o := 3) (idx := 9) (by decide +kernel) rfl lk_3_9 ms_max hMath mc_max (Nat.le_of_ble_eq_true rfl) (Nat.le_of_ble_eq_true rfl) (Nat.le_of_ble_eq_true rfl) (Nat.le_of_ble_eq_true rfl) ?_
  refine jnewa (T := tT93) (a := 50) (kd := 20) (ty := .int) (atype := .int) (N := 80) (by decide +kernel) (by decide +kernel) rfl (by decide +kernel) (Or.inl ⟨rfl, rfl⟩) ja_int (by decide +kernel) (by decide +kernel) (Nat.le_of_ble_eq_true rfl) (Nat.le_of_ble_eq_true rfl) (Nat.le_of_ble_eq_true rfl) ?_
  show Ev l G _ _ _ _ _ _ _ _ _ [.ref 50, .ref 49] (jmk tT94) tW118
  refine ev_putr (T := tT94) (o := 3) (idx := 21) (ci := 3) (k := 1) (a := 49) (b := 50) (by decide +kernel) rfl (by decide +kernel) rfl rfl rfl rfl (by decide +kernel) (by decide +kernel) (by decide +kernel) (by decide) ?_
  show Ev l G _ _ _ _ _ _ _ _ _ _ (jmk tT95) tW118
  refine ev_seg (r := jmk tT95) (o := 3) (nL := 3) (q := 34) (xs := [(.aload_n 0, 1, 0, 0, .null), (.iconst 0, 1, 0, 0, .int 0), (.putfield 25, 3, 3, 2, .int 0)]) (L' := [some (.ref 49), some (.int 40), some (.int 2)]) (st' := []) (w' := tW119) (g := []) (K := [(49, 3)]) (by decide +kernel) rfl rfl rfl rfl (jk1 (by decide +kernel) jk0) ?_
  exact ev_vret (by decide +kernel) rfl rfl rfl rfl
def tT96 : jT := jtr tT95 38 10 49
def tT97 : jT := jtn tT96 8 0 4
def tW120 : jW := jzr tW119 51
def tT98 : jT := jtn tT97 3 0 3
def tW121 : jW := jzr tW120 52
def tW122 : jW := (jup tW121.1 52 0 (if (1 : Int32) < 4 then 4 else 1), tW121.2)
def tT99 : jT := jtn tT98 20 40 0
def tW123 : jW := jzr tW122 53
def tT100 : jT := jtr tT99 52 1 53
def tW124 : jW := (jup tW123.1 52 2 0, tW123.2)
set_option maxRecDepth 200000 in
theorem jct24 {l : Launch} {G : jG} (hG : jX G) : Ct l G y_Rows_init (1, 21) 1 40 [.ref 52, .int 10, .int 4] (jmk tT98) tW121 (none, jmk tT100, tW124) := by
  refine Ct.of (L := [some (.ref 52), some (.int 10), some (.int 4)]) (by decide) (Nat.le_of_ble_eq_true rfl) rfl ?_
  refine ev_seg (r := jmk tT98) (o := 3) (nL := 3) (q := 1) (xs := [(.aload_n 0, 1, 0, 0, .null)]) (L' := [some (.ref 52), some (.int 10), some (.int 4)]) (st' := [.ref 52]) (w' := tW121) (g := []) (K := []) (by decide +kernel) rfl rfl rfl rfl jk0 ?_
  refine ev_objI (o := 3) (idx := 3) (by decide +kernel) rfl lk_3_3 jobi jobc (Nat.le_of_ble_eq_true rfl) (Nat.le_of_ble_eq_true rfl) ?_
  refine ev_seg (r := jmk tT98) (o := 3) (nL := 3) (q := 7) (xs := [(.aload_n 0, 1, 0, 0, .null), (.iconst 1, 1, 0, 0, .int 1), (.iload_n 2, 1, 2, 0, .null)]) (L' := [some (.ref 52), some (.int 10), some (.int 4)]) (st' := [.int 4, .int 1, .ref 52]) (w' := tW121) (g := []) (K := []) (by decide +kernel) rfl rfl rfl rfl jk0 ?_
  refine ev_max (o := 3) (idx := 9) (by decide +kernel) rfl lk_3_9 ms_max hMath mc_max (Nat.le_of_ble_eq_true rfl) (Nat.le_of_ble_eq_true rfl) (Nat.le_of_ble_eq_true rfl) (Nat.le_of_ble_eq_true rfl) ?_
  refine ev_putiF (r := jmk tT98) (o := 3) (idx := 15) (ci := 3) (k := 0) (a := 52) (by decide +kernel) rfl (by decide +kernel) rfl rfl rfl rfl (by decide +kernel) ?_
  show Ev l G _ _ _ _ _ _ _ _ _ _ (jmk tT98) tW122
  refine ev_seg (r := jmk tT98) (o := 3) (nL := 3) (q := 21) (xs := [(.aload_n 0, 1, 0, 0, .null), (.iconst 1, 1, 0, 0, .int 1), (.iload_n 1, 1, 1, 0, .null), (.aload_n 0, 1, 0, 0, .null), (.getfield 15, 3, 3, 0, .int 0), (.imul, 1, 0, 0, .null)]) (L' := [some (.ref 52), some (.int 10), some (.int 4)]) (st' := [.int (10 * (tW122.1 52 0)), .int 1, .ref 52]) (w' := tW122) (g := []) (K := [(52, 3)]) (by decide +kernel) rfl rfl rfl rfl (jk1 (by decide +kernel) jk0) ?_
  refine ev_max (o := 3) (idx := 9) (by decide +kernel) rfl lk_3_9 ms_max hMath mc_max (Nat.le_of_ble_eq_true rfl) (Nat.le_of_ble_eq_true rfl) (Nat.le_of_ble_eq_true rfl) (Nat.le_of_ble_eq_true rfl) ?_
  refine jnewa (T := tT98) (a := 53) (kd := 20) (ty := .int) (atype := .int) (N := 40) (by decide +kernel) (by decide +kernel) rfl (by decide +kernel) (Or.inl ⟨rfl, rfl⟩) ja_int (by decide +kernel) (by decide +kernel) (Nat.le_of_ble_eq_true rfl) (Nat.le_of_ble_eq_true rfl) (Nat.le_of_ble_eq_true rfl) ?_
  show Ev l G _ _ _ _ _ _ _ _ _ [.ref 53, .ref 52] (jmk tT99) tW123
  refine ev_putr (T := tT99) (o := 3) (idx := 21) (ci := 3) (k := 1) (a := 52) (b := 53) (by decide +kernel) rfl (by decide +kernel) rfl rfl rfl rfl (by decide +kernel) (by decide +kernel) (by decide +kernel) (by decide) ?_
  show Ev l G _ _ _ _ _ _ _ _ _ _ (jmk tT100) tW123
  refine ev_seg (r := jmk tT100) (o := 3) (nL := 3) (q := 34) (xs := [(.aload_n 0, 1, 0, 0, .null), (.iconst 0, 1, 0, 0, .int 0), (.putfield 25, 3, 3, 2, .int 0)]) (L' := [some (.ref 52), some (.int 10), some (.int 4)]) (st' := []) (w' := tW124) (g := []) (K := [(52, 3)]) (by decide +kernel) rfl rfl rfl rfl (jk1 (by decide +kernel) jk0) ?_
  exact ev_vret (by decide +kernel) rfl rfl rfl rfl
def tT101 : jT := jtr tT100 51 0 52
def tT102 : jT := jtn tT101 3 0 3
def tW125 : jW := jzr tW124 54
def tW126 : jW := (jup tW125.1 54 0 (if (1 : Int32) < 4 then 4 else 1), tW125.2)
def tT103 : jT := jtn tT102 20 640 0
def tW127 : jW := jzr tW126 55
def tT104 : jT := jtr tT103 54 1 55
def tW128 : jW := (jup tW127.1 54 2 0, tW127.2)
set_option maxRecDepth 200000 in
theorem jct25 {l : Launch} {G : jG} (hG : jX G) : Ct l G y_Rows_init (1, 21) 1 640 [.ref 54, .int 160, .int 4] (jmk tT102) tW125 (none, jmk tT104, tW128) := by
  refine Ct.of (L := [some (.ref 54), some (.int 160), some (.int 4)]) (by decide) (Nat.le_of_ble_eq_true rfl) rfl ?_
  refine ev_seg (r := jmk tT102) (o := 3) (nL := 3) (q := 1) (xs := [(.aload_n 0, 1, 0, 0, .null)]) (L' := [some (.ref 54), some (.int 160), some (.int 4)]) (st' := [.ref 54]) (w' := tW125) (g := []) (K := []) (by decide +kernel) rfl rfl rfl rfl jk0 ?_
  refine ev_objI (o := 3) (idx := 3) (by decide +kernel) rfl lk_3_3 jobi jobc (Nat.le_of_ble_eq_true rfl) (Nat.le_of_ble_eq_true rfl) ?_
  refine ev_seg (r := jmk tT102) (o := 3) (nL := 3) (q := 7) (xs := [(.aload_n 0, 1, 0, 0, .null), (.iconst 1, 1, 0, 0, .int 1), (.iload_n 2, 1, 2, 0, .null)]) (L' := [some (.ref 54), some (.int 160), some (.int 4)]) (st' := [.int 4, .int 1, .ref 54]) (w' := tW125) (g := []) (K := []) (by decide +kernel) rfl rfl rfl rfl jk0 ?_
  refine ev_max (o := 3) (idx := 9) (by decide +kernel) rfl lk_3_9 ms_max hMath mc_max (Nat.le_of_ble_eq_true rfl) (Nat.le_of_ble_eq_true rfl) (Nat.le_of_ble_eq_true rfl) (Nat.le_of_ble_eq_true rfl) ?_
  refine ev_putiF (r := jmk tT102) (o := 3) (idx := 15) (ci := 3) (k := 0) (a := 54) (by decide +kernel) rfl (by decide +kernel) rfl rfl rfl rfl (by decide +kernel) ?_
  show Ev l G _ _ _ _ _ _ _ _ _ _ (jmk tT102) tW126
  refine ev_seg (r := jmk tT102) (o := 3) (nL := 3) (q := 21) (xs := [(.aload_n 0, 1, 0, 0, .null), (.iconst 1, 1, 0, 0, .int 1), (.iload_n 1, 1, 1, 0, .null), (.aload_n 0, 1, 0, 0, .null), (.getfield 15, 3, 3, 0, .int 0), (.imul, 1, 0, 0, .null)]) (L' := [some (.ref 54), some (.int 160), some (.int 4)]) (st' := [.int (160 * (tW126.1 54 0)), .int 1, .ref 54]) (w' := tW126) (g := []) (K := [(54, 3)]) (by decide +kernel) rfl rfl rfl rfl (jk1 (by decide +kernel) jk0) ?_
  refine ev_max (o := 3) (idx := 9) (by decide +kernel) rfl lk_3_9 ms_max hMath mc_max (Nat.le_of_ble_eq_true rfl) (Nat.le_of_ble_eq_true rfl) (Nat.le_of_ble_eq_true rfl) (Nat.le_of_ble_eq_true rfl) ?_
  refine jnewa (T := tT102) (a := 55) (kd := 20) (ty := .int) (atype := .int) (N := 640) (by decide +kernel) (by decide +kernel) rfl (by decide +kernel) (Or.inl ⟨rfl, rfl⟩) ja_int (by decide +kernel) (by decide +kernel) (Nat.le_of_ble_eq_true rfl) (Nat.le_of_ble_eq_true rfl) (Nat.le_of_ble_eq_true rfl) ?_
  show Ev l G _ _ _ _ _ _ _ _ _ [.ref 55, .ref 54] (jmk tT103) tW127
  refine ev_putr (T := tT103) (o := 3) (idx := 21) (ci := 3) (k := 1) (a := 54) (b := 55) (by decide +kernel) rfl (by decide +kernel) rfl rfl rfl rfl (by decide +kernel) (by decide +kernel) (by decide +kernel) (by decide) ?_
  show Ev l G _ _ _ _ _ _ _ _ _ _ (jmk tT104) tW127
  refine ev_seg (r := jmk tT104) (o := 3) (nL := 3) (q := 34) (xs := [(.aload_n 0, 1, 0, 0, .null), (.iconst 0, 1, 0, 0, .int 0), (.putfield 25, 3, 3, 2, .int 0)]) (L' := [some (.ref 54), some (.int 160), some (.int 4)]) (st' := []) (w' := tW128) (g := []) (K := [(54, 3)]) (by decide +kernel) rfl rfl rfl rfl (jk1 (by decide +kernel) jk0) ?_
  exact ev_vret (by decide +kernel) rfl rfl rfl rfl
def tT105 : jT := jtr tT104 51 1 54
def tT106 : jT := jtn tT105 3 0 3
def tW129 : jW := jzr tW128 56
def tW130 : jW := (jup tW129.1 56 0 (if (1 : Int32) < 1 then 1 else 1), tW129.2)
def tT107 : jT := jtn tT106 20 3000 0
def tW131 : jW := jzr tW130 57
def tT108 : jT := jtr tT107 56 1 57
def tW132 : jW := (jup tW131.1 56 2 0, tW131.2)
set_option maxRecDepth 200000 in
theorem jct26 {l : Launch} {G : jG} (hG : jX G) : Ct l G y_Rows_init (1, 21) 1 3000 [.ref 56, .int 3000, .int 1] (jmk tT106) tW129 (none, jmk tT108, tW132) := by
  refine Ct.of (L := [some (.ref 56), some (.int 3000), some (.int 1)]) (by decide) (Nat.le_of_ble_eq_true rfl) rfl ?_
  refine ev_seg (r := jmk tT106) (o := 3) (nL := 3) (q := 1) (xs := [(.aload_n 0, 1, 0, 0, .null)]) (L' := [some (.ref 56), some (.int 3000), some (.int 1)]) (st' := [.ref 56]) (w' := tW129) (g := []) (K := []) (by decide +kernel) rfl rfl rfl rfl jk0 ?_
  refine ev_objI (o := 3) (idx := 3) (by decide +kernel) rfl lk_3_3 jobi jobc (Nat.le_of_ble_eq_true rfl) (Nat.le_of_ble_eq_true rfl) ?_
  refine ev_seg (r := jmk tT106) (o := 3) (nL := 3) (q := 7) (xs := [(.aload_n 0, 1, 0, 0, .null), (.iconst 1, 1, 0, 0, .int 1), (.iload_n 2, 1, 2, 0, .null)]) (L' := [some (.ref 56), some (.int 3000), some (.int 1)]) (st' := [.int 1, .int 1, .ref 56]) (w' := tW129) (g := []) (K := []) (by decide +kernel) rfl rfl rfl rfl jk0 ?_
  refine ev_max (o := 3) (idx := 9) (by decide +kernel) rfl lk_3_9 ms_max hMath mc_max (Nat.le_of_ble_eq_true rfl) (Nat.le_of_ble_eq_true rfl) (Nat.le_of_ble_eq_true rfl) (Nat.le_of_ble_eq_true rfl) ?_
  refine ev_putiF (r := jmk tT106) (o := 3) (idx := 15) (ci := 3) (k := 0) (a := 56) (by decide +kernel) rfl (by decide +kernel) rfl rfl rfl rfl (by decide +kernel) ?_
  show Ev l G _ _ _ _ _ _ _ _ _ _ (jmk tT106) tW130
  refine ev_seg (r := jmk tT106) (o := 3) (nL := 3) (q := 21) (xs := [(.aload_n 0, 1, 0, 0, .null), (.iconst 1, 1, 0, 0, .int 1), (.iload_n 1, 1, 1, 0, .null), (.aload_n 0, 1, 0, 0, .null), (.getfield 15, 3, 3, 0, .int 0), (.imul, 1, 0, 0, .null)]) (L' := [some (.ref 56), some (.int 3000), some (.int 1)]) (st' := [.int (3000 * (tW130.1 56 0)), .int 1, .ref 56]) (w' := tW130) (g := []) (K := [(56, 3)]) (by decide +kernel) rfl rfl rfl rfl (jk1 (by decide +kernel) jk0) ?_
  refine ev_max (o := 3) (idx := 9) (by decide +kernel) rfl lk_3_9 ms_max hMath mc_max (Nat.le_of_ble_eq_true rfl) (Nat.le_of_ble_eq_true rfl) (Nat.le_of_ble_eq_true rfl) (Nat.le_of_ble_eq_true rfl) ?_
  refine jnewa (T := tT106) (a := 57) (kd := 20) (ty := .int) (atype := .int) (N := 3000) (by decide +kernel) (by decide +kernel) rfl (by decide +kernel) (Or.inl ⟨rfl, rfl⟩) ja_int (by decide +kernel) (by decide +kernel) (Nat.le_of_ble_eq_true rfl) (Nat.le_of_ble_eq_true rfl) (Nat.le_of_ble_eq_true rfl) ?_
  show Ev l G _ _ _ _ _ _ _ _ _ [.ref 57, .ref 56] (jmk tT107) tW131
  refine ev_putr (T := tT107) (o := 3) (idx := 21) (ci := 3) (k := 1) (a := 56) (b := 57) (by decide +kernel) rfl (by decide +kernel) rfl rfl rfl rfl (by decide +kernel) (by decide +kernel) (by decide +kernel) (by decide) ?_
  show Ev l G _ _ _ _ _ _ _ _ _ _ (jmk tT108) tW131
  refine ev_seg (r := jmk tT108) (o := 3) (nL := 3) (q := 34) (xs := [(.aload_n 0, 1, 0, 0, .null), (.iconst 0, 1, 0, 0, .int 0), (.putfield 25, 3, 3, 2, .int 0)]) (L' := [some (.ref 56), some (.int 3000), some (.int 1)]) (st' := []) (w' := tW132) (g := []) (K := [(56, 3)]) (by decide +kernel) rfl rfl rfl rfl (jk1 (by decide +kernel) jk0) ?_
  exact ev_vret (by decide +kernel) rfl rfl rfl rfl
def tT109 : jT := jtr tT108 51 2 56
def tT110 : jT := jtn tT109 20 5 0
def tW133 : jW := jzr tW132 58
def tT111 : jT := jtr tT110 51 3 58
set_option maxRecDepth 200000 in
theorem jct27 {l : Launch} {G : jG} (hG : jX G) : Ct l G y_Treaty_init (2, 43) 7 3694 [.ref 51] (jmk tT97) tW120 (none, jmk tT111, tW133) := by
  refine Ct.of (L := [some (.ref 51)]) (by decide) (Nat.le_of_ble_eq_true rfl) rfl ?_
  refine ev_seg (r := jmk tT97) (o := 8) (nL := 1) (q := 1) (xs := [(.aload_n 0, 1, 0, 0, .null)]) (L' := [some (.ref 51)]) (st' := [.ref 51]) (w' := tW120) (g := []) (K := []) (by decide +kernel) rfl rfl rfl rfl jk0 ?_
  refine ev_objI (o := 8) (idx := 3) (by decide +kernel) rfl lk_8_3 jobi jobc (Nat.le_of_ble_eq_true rfl) (Nat.le_of_ble_eq_true rfl) ?_
  refine ev_seg (r := jmk tT97) (o := 8) (nL := 1) (q := 5) (xs := [(.aload_n 0, 1, 0, 0, .null)]) (L' := [some (.ref 51)]) (st' := [.ref 51]) (w' := tW120) (g := []) (K := []) (by decide +kernel) rfl rfl rfl rfl jk0 ?_
  refine ev_new (T := tT97) (a := 52) (o := 8) (idx := 9) (ci := 3) (by decide +kernel) (by decide +kernel) rfl (by decide +kernel) (by decide) jcl_8_9 jis_3 ji_3 (Nat.le_of_ble_eq_true rfl) (Nat.le_of_ble_eq_true rfl) ?_
  show Ev l G _ _ _ _ _ _ _ _ _ [.ref 52, .ref 51] (jmk tT98) tW121
  refine ev_seg (r := jmk tT98) (o := 8) (nL := 1) (q := 12) (xs := [(.dup, 1, 0, 0, .null), (.bipush 10, 2, 0, 0, .int 10), (.iconst 4, 1, 0, 0, .int 4)]) (L' := [some (.ref 51)]) (st' := [.int 4, .int 10, .ref 52, .ref 52, .ref 51]) (w' := tW121) (g := []) (K := []) (by decide +kernel) rfl rfl rfl rfl jk0 ?_
  refine ev_callI (r := jmk tT98) (w := tW121) (y2 := y_Rows_init) (o := 8) (idx := 11) (a := 52) (d2 := (1, 21)) (n := 2) (mc2 := 1) (ms2 := 40) (As := [.int 10, .int 4]) (st := [.ref 52, .ref 51]) (res2 := (none, jmk tT100, tW124)) (by decide +kernel) rfl lk_8_11 mo_Rows_init mi_Rows_init ⟨Nat.le_of_ble_eq_true rfl, Nat.le_of_ble_eq_true rfl⟩ rfl rfl (Nat.le_of_ble_eq_true rfl) ⟨Nat.le_of_ble_eq_true rfl, Nat.le_of_ble_eq_true rfl⟩ hG (jct24 hG) ?_
  show Ev l G _ _ _ _ _ _ _ _ _ [.ref 52, .ref 51] (jmk tT100) tW124
  refine ev_putr (T := tT100) (o := 8) (idx := 14) (ci := 8) (k := 0) (a := 51) (b := 52) (by decide +kernel) rfl (by decide +kernel) rfl rfl rfl rfl (by decide +kernel) (by decide +kernel) (by decide +kernel) (by decide) ?_
  show Ev l G _ _ _ _ _ _ _ _ _ _ (jmk tT101) tW124
  refine ev_seg (r := jmk tT101) (o := 8) (nL := 1) (q := 19) (xs := [(.aload_n 0, 1, 0, 0, .null)]) (L' := [some (.ref 51)]) (st' := [.ref 51]) (w' := tW124) (g := []) (K := []) (by decide +kernel) rfl rfl rfl rfl jk0 ?_
  refine ev_new (T := tT101) (a := 54) (o := 8) (idx := 9) (ci := 3) (by decide +kernel) (by decide +kernel) rfl (by decide +kernel) (by decide) jcl_8_9 jis_3 ji_3 (Nat.le_of_ble_eq_true rfl) (Nat.le_of_ble_eq_true rfl) ?_
  show Ev l G _ _ _ _ _ _ _ _ _ [.ref 54, .ref 51] (jmk tT102) tW125
  refine ev_seg (r := jmk tT102) (o := 8) (nL := 1) (q := 27) (xs := [(.dup, 1, 0, 0, .null), (.sipush 160, 3, 0, 0, .int 160), (.iconst 4, 1, 0, 0, .int 4)]) (L' := [some (.ref 51)]) (st' := [.int 4, .int 160, .ref 54, .ref 54, .ref 51]) (w' := tW125) (g := []) (K := []) (by decide +kernel) rfl rfl rfl rfl jk0 ?_
  refine ev_callI (r := jmk tT102) (w := tW125) (y2 := y_Rows_init) (o := 8) (idx := 11) (a := 54) (d2 := (1, 21)) (n := 2) (mc2 := 1) (ms2 := 640) (As := [.int 160, .int 4]) (st := [.ref 54, .ref 51]) (res2 := (none, jmk tT104, tW128)) (by decide +kernel) rfl lk_8_11 mo_Rows_init mi_Rows_init ⟨Nat.le_of_ble_eq_true rfl, Nat.le_of_ble_eq_true rfl⟩ rfl rfl (Nat.le_of_ble_eq_true rfl) ⟨Nat.le_of_ble_eq_true rfl, Nat.le_of_ble_eq_true rfl⟩ hG (jct25 hG) ?_
  show Ev l G _ _ _ _ _ _ _ _ _ [.ref 54, .ref 51] (jmk tT104) tW128
  refine ev_putr (T := tT104) (o := 8) (idx := 20) (ci := 8) (k := 1) (a := 51) (b := 54) (by decide +kernel) rfl (by decide +kernel) rfl rfl rfl rfl (by decide +kernel) (by decide +kernel) (by decide +kernel) (by decide) ?_
  show Ev l G _ _ _ _ _ _ _ _ _ _ (jmk tT105) tW128
  refine ev_seg (r := jmk tT105) (o := 8) (nL := 1) (q := 34) (xs := [(.aload_n 0, 1, 0, 0, .null)]) (L' := [some (.ref 51)]) (st' := [.ref 51]) (w' := tW128) (g := []) (K := []) (by decide +kernel) rfl rfl rfl rfl jk0 ?_
  refine ev_new (T := tT105) (a := 56) (o := 8) (idx := 9) (ci := 3) (by decide +kernel) (by decide +kernel) rfl (by decide +kernel) (by decide) jcl_8_9 jis_3 ji_3 (Nat.le_of_ble_eq_true rfl) (Nat.le_of_ble_eq_true rfl) ?_
  show Ev l G _ _ _ _ _ _ _ _ _ [.ref 56, .ref 51] (jmk tT106) tW129
  refine ev_seg (r := jmk tT106) (o := 8) (nL := 1) (q := 42) (xs := [(.dup, 1, 0, 0, .null), (.sipush 3000, 3, 0, 0, .int 3000), (.iconst 1, 1, 0, 0, .int 1)]) (L' := [some (.ref 51)]) (st' := [.int 1, .int 3000, .ref 56, .ref 56, .ref 51]) (w' := tW129) (g := []) (K := []) (by decide +kernel) rfl rfl rfl rfl jk0 ?_
  refine ev_callI (r := jmk tT106) (w := tW129) (y2 := y_Rows_init) (o := 8) (idx := 11) (a := 56) (d2 := (1, 21)) (n := 2) (mc2 := 1) (ms2 := 3000) (As := [.int 3000, .int 1]) (st := [.ref 56, .ref 51]) (res2 := (none, jmk tT108, tW132)) (by decide +kernel) rfl lk_8_11 mo_Rows_init mi_Rows_init ⟨Nat.le_of_ble_eq_true rfl, Nat.le_of_ble_eq_true rfl⟩ rfl rfl (Nat.le_of_ble_eq_true rfl) ⟨Nat.le_of_ble_eq_true rfl, Nat.le_of_ble_eq_true rfl⟩ hG (jct26 hG) ?_
  show Ev l G _ _ _ _ _ _ _ _ _ [.ref 56, .ref 51] (jmk tT108) tW132
  refine ev_putr (T := tT108) (o := 8) (idx := 23) (ci := 8) (k := 2) (a := 51) (b := 56) (by decide +kernel) rfl (by decide +kernel) rfl rfl rfl rfl (by decide +kernel) (by decide +kernel) (by decide +kernel) (by decide) ?_
  show Ev l G _ _ _ _ _ _ _ _ _ _ (jmk tT109) tW132
  refine ev_seg (r := jmk tT109) (o := 8) (nL := 1) (q := 50) (xs := [(.aload_n 0, 1, 0, 0, .null), (.iconst 5, 1, 0, 0, .int 5)]) (L' := [some (.ref 51)]) (st' := [.int 5, .ref 51]) (w' := tW132) (g := []) (K := []) (by decide +kernel) rfl rfl rfl rfl jk0 ?_
  refine jnewa (T := tT109) (a := 58) (kd := 20) (ty := .int) (atype := .int) (N := 5) (by decide +kernel) (by decide +kernel) rfl (by decide +kernel) (Or.inl ⟨rfl, rfl⟩) ja_int (by decide +kernel) (by decide +kernel) (Nat.le_of_ble_eq_true rfl) (Nat.le_of_ble_eq_true rfl) (Nat.le_of_ble_eq_true rfl) ?_
  show Ev l G _ _ _ _ _ _ _ _ _ [.ref 58, .ref 51] (jmk tT110) tW133
  refine ev_putr (T := tT110) (o := 8) (idx := 26) (ci := 8) (k := 3) (a := 51) (b := 58) (by decide +kernel) rfl (by decide +kernel) rfl rfl rfl rfl (by decide +kernel) (by decide +kernel) (by decide +kernel) (by decide) ?_
  show Ev l G _ _ _ _ _ _ _ _ _ _ (jmk tT111) tW133
  exact ev_vret (by decide +kernel) rfl rfl rfl rfl
def tT112 : jT := jtr tT111 38 11 51
def tT113 : jT := jtn tT112 3 0 3
def tW134 : jW := jzr tW133 59
def tW135 : jW := (jup tW134.1 59 0 (if (1 : Int32) < 4 then 4 else 1), tW134.2)
def tT114 : jT := jtn tT113 20 800 0
def tW136 : jW := jzr tW135 60
def tT115 : jT := jtr tT114 59 1 60
def tW137 : jW := (jup tW136.1 59 2 0, tW136.2)
set_option maxRecDepth 200000 in
theorem jct28 {l : Launch} {G : jG} (hG : jX G) : Ct l G y_Rows_init (1, 21) 1 800 [.ref 59, .int 200, .int 4] (jmk tT113) tW134 (none, jmk tT115, tW137) := by
  refine Ct.of (L := [some (.ref 59), some (.int 200), some (.int 4)]) (by decide) (Nat.le_of_ble_eq_true rfl) rfl ?_
  refine ev_seg (r := jmk tT113) (o := 3) (nL := 3) (q := 1) (xs := [(.aload_n 0, 1, 0, 0, .null)]) (L' := [some (.ref 59), some (.int 200), some (.int 4)]) (st' := [.ref 59]) (w' := tW134) (g := []) (K := []) (by decide +kernel) rfl rfl rfl rfl jk0 ?_
  refine ev_objI (o := 3) (idx := 3) (by decide +kernel) rfl lk_3_3 jobi jobc (Nat.le_of_ble_eq_true rfl) (Nat.le_of_ble_eq_true rfl) ?_
  refine ev_seg (r := jmk tT113) (o := 3) (nL := 3) (q := 7) (xs := [(.aload_n 0, 1, 0, 0, .null), (.iconst 1, 1, 0, 0, .int 1), (.iload_n 2, 1, 2, 0, .null)]) (L' := [some (.ref 59), some (.int 200), some (.int 4)]) (st' := [.int 4, .int 1, .ref 59]) (w' := tW134) (g := []) (K := []) (by decide +kernel) rfl rfl rfl rfl jk0 ?_
  refine ev_max (o := 3) (idx := 9) (by decide +kernel) rfl lk_3_9 ms_max hMath mc_max (Nat.le_of_ble_eq_true rfl) (Nat.le_of_ble_eq_true rfl) (Nat.le_of_ble_eq_true rfl) (Nat.le_of_ble_eq_true rfl) ?_
  refine ev_putiF (r := jmk tT113) (o := 3) (idx := 15) (ci := 3) (k := 0) (a := 59) (by decide +kernel) rfl (by decide +kernel) rfl rfl rfl rfl (by decide +kernel) ?_
  show Ev l G _ _ _ _ _ _ _ _ _ _ (jmk tT113) tW135
  refine ev_seg (r := jmk tT113) (o := 3) (nL := 3) (q := 21) (xs := [(.aload_n 0, 1, 0, 0, .null), (.iconst 1, 1, 0, 0, .int 1), (.iload_n 1, 1, 1, 0, .null), (.aload_n 0, 1, 0, 0, .null), (.getfield 15, 3, 3, 0, .int 0), (.imul, 1, 0, 0, .null)]) (L' := [some (.ref 59), some (.int 200), some (.int 4)]) (st' := [.int (200 * (tW135.1 59 0)), .int 1, .ref 59]) (w' := tW135) (g := []) (K := [(59, 3)]) (by decide +kernel) rfl rfl rfl rfl (jk1 (by decide +kernel) jk0) ?_
  refine ev_max (o := 3) (idx := 9) (by decide +kernel) rfl lk_3_9 ms_max hMath mc_max (Nat.le_of_ble_eq_true rfl) (Nat.le_of_ble_eq_true rfl) (Nat.le_of_ble_eq_true rfl) (Nat.le_of_ble_eq_true rfl) ?_
  refine jnewa (T := tT113) (a := 60) (kd := 20) (ty := .int) (atype := .int) (N := 800) (by decide +kernel) (by decide +kernel) rfl (by decide +kernel) (Or.inl ⟨rfl, rfl⟩) ja_int (by decide +kernel) (by decide +kernel) (Nat.le_of_ble_eq_true rfl) (Nat.le_of_ble_eq_true rfl) (Nat.le_of_ble_eq_true rfl) ?_
  show Ev l G _ _ _ _ _ _ _ _ _ [.ref 60, .ref 59] (jmk tT114) tW136
  refine ev_putr (T := tT114) (o := 3) (idx := 21) (ci := 3) (k := 1) (a := 59) (b := 60) (by decide +kernel) rfl (by decide +kernel) rfl rfl rfl rfl (by decide +kernel) (by decide +kernel) (by decide +kernel) (by decide) ?_
  show Ev l G _ _ _ _ _ _ _ _ _ _ (jmk tT115) tW136
  refine ev_seg (r := jmk tT115) (o := 3) (nL := 3) (q := 34) (xs := [(.aload_n 0, 1, 0, 0, .null), (.iconst 0, 1, 0, 0, .int 0), (.putfield 25, 3, 3, 2, .int 0)]) (L' := [some (.ref 59), some (.int 200), some (.int 4)]) (st' := []) (w' := tW137) (g := []) (K := [(59, 3)]) (by decide +kernel) rfl rfl rfl rfl (jk1 (by decide +kernel) jk0) ?_
  exact ev_vret (by decide +kernel) rfl rfl rfl rfl
def tT116 : jT := jtr tT115 38 12 59
def tT117 : jT := jtn tT116 3 0 3
def tW138 : jW := jzr tW137 61
def tW139 : jW := (jup tW138.1 61 0 (if (1 : Int32) < 10 then 10 else 1), tW138.2)
def tT118 : jT := jtn tT117 20 1000 0
def tW140 : jW := jzr tW139 62
def tT119 : jT := jtr tT118 61 1 62
def tW141 : jW := (jup tW140.1 61 2 0, tW140.2)
set_option maxRecDepth 200000 in
theorem jct29 {l : Launch} {G : jG} (hG : jX G) : Ct l G y_Rows_init (1, 21) 1 1000 [.ref 61, .int 100, .int 10] (jmk tT117) tW138 (none, jmk tT119, tW141) := by
  refine Ct.of (L := [some (.ref 61), some (.int 100), some (.int 10)]) (by decide) (Nat.le_of_ble_eq_true rfl) rfl ?_
  refine ev_seg (r := jmk tT117) (o := 3) (nL := 3) (q := 1) (xs := [(.aload_n 0, 1, 0, 0, .null)]) (L' := [some (.ref 61), some (.int 100), some (.int 10)]) (st' := [.ref 61]) (w' := tW138) (g := []) (K := []) (by decide +kernel) rfl rfl rfl rfl jk0 ?_
  refine ev_objI (o := 3) (idx := 3) (by decide +kernel) rfl lk_3_3 jobi jobc (Nat.le_of_ble_eq_true rfl) (Nat.le_of_ble_eq_true rfl) ?_
  refine ev_seg (r := jmk tT117) (o := 3) (nL := 3) (q := 7) (xs := [(.aload_n 0, 1, 0, 0, .null), (.iconst 1, 1, 0, 0, .int 1), (.iload_n 2, 1, 2, 0, .null)]) (L' := [some (.ref 61), some (.int 100), some (.int 10)]) (st' := [.int 10, .int 1, .ref 61]) (w' := tW138) (g := []) (K := []) (by decide +kernel) rfl rfl rfl rfl jk0 ?_
  refine ev_max (o := 3) (idx := 9) (by decide +kernel) rfl lk_3_9 ms_max hMath mc_max (Nat.le_of_ble_eq_true rfl) (Nat.le_of_ble_eq_true rfl) (Nat.le_of_ble_eq_true rfl) (Nat.le_of_ble_eq_true rfl) ?_
  refine ev_putiF (r := jmk tT117) (o := 3) (idx := 15) (ci := 3) (k := 0) (a := 61) (by decide +kernel) rfl (by decide +kernel) rfl rfl rfl rfl (by decide +kernel) ?_
  show Ev l G _ _ _ _ _ _ _ _ _ _ (jmk tT117) tW139
  refine ev_seg (r := jmk tT117) (o := 3) (nL := 3) (q := 21) (xs := [(.aload_n 0, 1, 0, 0, .null), (.iconst 1, 1, 0, 0, .int 1), (.iload_n 1, 1, 1, 0, .null), (.aload_n 0, 1, 0, 0, .null), (.getfield 15, 3, 3, 0, .int 0), (.imul, 1, 0, 0, .null)]) (L' := [some (.ref 61), some (.int 100), some (.int 10)]) (st' := [.int (100 * (tW139.1 61 0)), .int 1, .ref 61]) (w' := tW139) (g := []) (K := [(61, 3)]) (by decide +kernel) rfl rfl rfl rfl (jk1 (by decide +kernel) jk0) ?_
  refine ev_max (o := 3) (idx := 9) (by decide +kernel) rfl lk_3_9 ms_max hMath mc_max (Nat.le_of_ble_eq_true rfl) (Nat.le_of_ble_eq_true rfl) (Nat.le_of_ble_eq_true rfl) (Nat.le_of_ble_eq_true rfl) ?_
  refine jnewa (T := tT117) (a := 62) (kd := 20) (ty := .int) (atype := .int) (N := 1000) (by decide +kernel) (by decide +kernel) rfl (by decide +kernel) (Or.inl ⟨rfl, rfl⟩) ja_int (by decide +kernel) (by decide +kernel) (Nat.le_of_ble_eq_true rfl) (Nat.le_of_ble_eq_true rfl) (Nat.le_of_ble_eq_true rfl) ?_
  show Ev l G _ _ _ _ _ _ _ _ _ [.ref 62, .ref 61] (jmk tT118) tW140
  refine ev_putr (T := tT118) (o := 3) (idx := 21) (ci := 3) (k := 1) (a := 61) (b := 62) (by decide +kernel) rfl (by decide +kernel) rfl rfl rfl rfl (by decide +kernel) (by decide +kernel) (by decide +kernel) (by decide) ?_
  show Ev l G _ _ _ _ _ _ _ _ _ _ (jmk tT119) tW140
  refine ev_seg (r := jmk tT119) (o := 3) (nL := 3) (q := 34) (xs := [(.aload_n 0, 1, 0, 0, .null), (.iconst 0, 1, 0, 0, .int 0), (.putfield 25, 3, 3, 2, .int 0)]) (L' := [some (.ref 61), some (.int 100), some (.int 10)]) (st' := []) (w' := tW141) (g := []) (K := [(61, 3)]) (by decide +kernel) rfl rfl rfl rfl (jk1 (by decide +kernel) jk0) ?_
  exact ev_vret (by decide +kernel) rfl rfl rfl rfl
def tT120 : jT := jtr tT119 38 13 61
def tT121 : jT := jtn tT120 3 0 3
def tW142 : jW := jzr tW141 63
def tW143 : jW := (jup tW142.1 63 0 (if (1 : Int32) < 3 then 3 else 1), tW142.2)
def tT122 : jT := jtn tT121 20 300 0
def tW144 : jW := jzr tW143 64
def tT123 : jT := jtr tT122 63 1 64
def tW145 : jW := (jup tW144.1 63 2 0, tW144.2)
set_option maxRecDepth 200000 in
theorem jct30 {l : Launch} {G : jG} (hG : jX G) : Ct l G y_Rows_init (1, 21) 1 300 [.ref 63, .int 100, .int 3] (jmk tT121) tW142 (none, jmk tT123, tW145) := by
  refine Ct.of (L := [some (.ref 63), some (.int 100), some (.int 3)]) (by decide) (Nat.le_of_ble_eq_true rfl) rfl ?_
  refine ev_seg (r := jmk tT121) (o := 3) (nL := 3) (q := 1) (xs := [(.aload_n 0, 1, 0, 0, .null)]) (L' := [some (.ref 63), some (.int 100), some (.int 3)]) (st' := [.ref 63]) (w' := tW142) (g := []) (K := []) (by decide +kernel) rfl rfl rfl rfl jk0 ?_
  refine ev_objI (o := 3) (idx := 3) (by decide +kernel) rfl lk_3_3 jobi jobc (Nat.le_of_ble_eq_true rfl) (Nat.le_of_ble_eq_true rfl) ?_
  refine ev_seg (r := jmk tT121) (o := 3) (nL := 3) (q := 7) (xs := [(.aload_n 0, 1, 0, 0, .null), (.iconst 1, 1, 0, 0, .int 1), (.iload_n 2, 1, 2, 0, .null)]) (L' := [some (.ref 63), some (.int 100), some (.int 3)]) (st' := [.int 3, .int 1, .ref 63]) (w' := tW142) (g := []) (K := []) (by decide +kernel) rfl rfl rfl rfl jk0 ?_
  refine ev_max (o := 3) (idx := 9) (by decide +kernel) rfl lk_3_9 ms_max hMath mc_max (Nat.le_of_ble_eq_true rfl) (Nat.le_of_ble_eq_true rfl) (Nat.le_of_ble_eq_true rfl) (Nat.le_of_ble_eq_true rfl) ?_
  refine ev_putiF (r := jmk tT121) (o := 3) (idx := 15) (ci := 3) (k := 0) (a := 63) (by decide +kernel) rfl (by decide +kernel) rfl rfl rfl rfl (by decide +kernel) ?_
  show Ev l G _ _ _ _ _ _ _ _ _ _ (jmk tT121) tW143
  refine ev_seg (r := jmk tT121) (o := 3) (nL := 3) (q := 21) (xs := [(.aload_n 0, 1, 0, 0, .null), (.iconst 1, 1, 0, 0, .int 1), (.iload_n 1, 1, 1, 0, .null), (.aload_n 0, 1, 0, 0, .null), (.getfield 15, 3, 3, 0, .int 0), (.imul, 1, 0, 0, .null)]) (L' := [some (.ref 63), some (.int 100), some (.int 3)]) (st' := [.int (100 * (tW143.1 63 0)), .int 1, .ref 63]) (w' := tW143) (g := []) (K := [(63, 3)]) (by decide +kernel) rfl rfl rfl rfl (jk1 (by decide +kernel) jk0) ?_
  refine ev_max (o := 3) (idx := 9) (by decide +kernel) rfl lk_3_9 ms_max hMath mc_max (Nat.le_of_ble_eq_true rfl) (Nat.le_of_ble_eq_true rfl) (Nat.le_of_ble_eq_true rfl) (Nat.le_of_ble_eq_true rfl) ?_
  refine jnewa (T := tT121) (a := 64) (kd := 20) (ty := .int) (atype := .int) (N := 300) (by decide +kernel) (by decide +kernel) rfl (by decide +kernel) (Or.inl ⟨rfl, rfl⟩) ja_int (by decide +kernel) (by decide +kernel) (Nat.le_of_ble_eq_true rfl) (Nat.le_of_ble_eq_true rfl) (Nat.le_of_ble_eq_true rfl) ?_
  show Ev l G _ _ _ _ _ _ _ _ _ [.ref 64, .ref 63] (jmk tT122) tW144
  refine ev_putr (T := tT122) (o := 3) (idx := 21) (ci := 3) (k := 1) (a := 63) (b := 64) (by decide +kernel) rfl (by decide +kernel) rfl rfl rfl rfl (by decide +kernel) (by decide +kernel) (by decide +kernel) (by decide) ?_
  show Ev l G _ _ _ _ _ _ _ _ _ _ (jmk tT123) tW144
  refine ev_seg (r := jmk tT123) (o := 3) (nL := 3) (q := 34) (xs := [(.aload_n 0, 1, 0, 0, .null), (.iconst 0, 1, 0, 0, .int 0), (.putfield 25, 3, 3, 2, .int 0)]) (L' := [some (.ref 63), some (.int 100), some (.int 3)]) (st' := []) (w' := tW145) (g := []) (K := [(63, 3)]) (by decide +kernel) rfl rfl rfl rfl (jk1 (by decide +kernel) jk0) ?_
  exact ev_vret (by decide +kernel) rfl rfl rfl rfl
def tT124 : jT := jtr tT123 38 14 63
def tT125 : jT := jtn tT124 3 0 3
def tW146 : jW := jzr tW145 65
def tW147 : jW := (jup tW146.1 65 0 (if (1 : Int32) < 3 then 3 else 1), tW146.2)
def tT126 : jT := jtn tT125 20 150 0
def tW148 : jW := jzr tW147 66
def tT127 : jT := jtr tT126 65 1 66
def tW149 : jW := (jup tW148.1 65 2 0, tW148.2)
set_option maxRecDepth 200000 in
theorem jct31 {l : Launch} {G : jG} (hG : jX G) : Ct l G y_Rows_init (1, 21) 1 150 [.ref 65, .int 50, .int 3] (jmk tT125) tW146 (none, jmk tT127, tW149) := by
  refine Ct.of (L := [some (.ref 65), some (.int 50), some (.int 3)]) (by decide) (Nat.le_of_ble_eq_true rfl) rfl ?_
  refine ev_seg (r := jmk tT125) (o := 3) (nL := 3) (q := 1) (xs := [(.aload_n 0, 1, 0, 0, .null)]) (L' := [some (.ref 65), some (.int 50), some (.int 3)]) (st' := [.ref 65]) (w' := tW146) (g := []) (K := []) (by decide +kernel) rfl rfl rfl rfl jk0 ?_
  refine ev_objI (o := 3) (idx := 3) (by decide +kernel) rfl lk_3_3 jobi jobc (Nat.le_of_ble_eq_true rfl) (Nat.le_of_ble_eq_true rfl) ?_
  refine ev_seg (r := jmk tT125) (o := 3) (nL := 3) (q := 7) (xs := [(.aload_n 0, 1, 0, 0, .null), (.iconst 1, 1, 0, 0, .int 1), (.iload_n 2, 1, 2, 0, .null)]) (L' := [some (.ref 65), some (.int 50), some (.int 3)]) (st' := [.int 3, .int 1, .ref 65]) (w' := tW146) (g := []) (K := []) (by decide +kernel) rfl rfl rfl rfl jk0 ?_
  refine ev_max (o := 3) (idx := 9) (by decide +kernel) rfl lk_3_9 ms_max hMath mc_max (Nat.le_of_ble_eq_true rfl) (Nat.le_of_ble_eq_true rfl) (Nat.le_of_ble_eq_true rfl) (Nat.le_of_ble_eq_true rfl) ?_
  refine ev_putiF (r := jmk tT125) (o := 3) (idx := 15) (ci := 3) (k := 0) (a := 65) (by decide +kernel) rfl (by decide +kernel) rfl rfl rfl rfl (by decide +kernel) ?_
  show Ev l G _ _ _ _ _ _ _ _ _ _ (jmk tT125) tW147
  refine ev_seg (r := jmk tT125) (o := 3) (nL := 3) (q := 21) (xs := [(.aload_n 0, 1, 0, 0, .null), (.iconst 1, 1, 0, 0, .int 1), (.iload_n 1, 1, 1, 0, .null), (.aload_n 0, 1, 0, 0, .null), (.getfield 15, 3, 3, 0, .int 0), (.imul, 1, 0, 0, .null)]) (L' := [some (.ref 65), some (.int 50), some (.int 3)]) (st' := [.int (50 * (tW147.1 65 0)), .int 1, .ref 65]) (w' := tW147) (g := []) (K := [(65, 3)]) (by decide +kernel) rfl rfl rfl rfl (jk1 (by decide +kernel) jk0) ?_
  refine ev_max (o := 3) (idx := 9) (by decide +kernel) rfl lk_3_9 ms_max hMath mc_max (Nat.le_of_ble_eq_true rfl) (Nat.le_of_ble_eq_true rfl) (Nat.le_of_ble_eq_true rfl) (Nat.le_of_ble_eq_true rfl) ?_
  refine jnewa (T := tT125) (a := 66) (kd := 20) (ty := .int) (atype := .int) (N := 150) (by decide +kernel) (by decide +kernel) rfl (by decide +kernel) (Or.inl ⟨rfl, rfl⟩) ja_int (by decide +kernel) (by decide +kernel) (Nat.le_of_ble_eq_true rfl) (Nat.le_of_ble_eq_true rfl) (Nat.le_of_ble_eq_true rfl) ?_
  show Ev l G _ _ _ _ _ _ _ _ _ [.ref 66, .ref 65] (jmk tT126) tW148
  refine ev_putr (T := tT126) (o := 3) (idx := 21) (ci := 3) (k := 1) (a := 65) (b := 66) (by decide +kernel) rfl (by decide +kernel) rfl rfl rfl rfl (by decide +kernel) (by decide +kernel) (by decide +kernel) (by decide) ?_
  show Ev l G _ _ _ _ _ _ _ _ _ _ (jmk tT127) tW148
  refine ev_seg (r := jmk tT127) (o := 3) (nL := 3) (q := 34) (xs := [(.aload_n 0, 1, 0, 0, .null), (.iconst 0, 1, 0, 0, .int 0), (.putfield 25, 3, 3, 2, .int 0)]) (L' := [some (.ref 65), some (.int 50), some (.int 3)]) (st' := []) (w' := tW149) (g := []) (K := [(65, 3)]) (by decide +kernel) rfl rfl rfl rfl (jk1 (by decide +kernel) jk0) ?_
  exact ev_vret (by decide +kernel) rfl rfl rfl rfl
def tT128 : jT := jtr tT127 38 15 65
def tT129 : jT := jtn tT128 3 0 3
def tW150 : jW := jzr tW149 67
def tW151 : jW := (jup tW150.1 67 0 (if (1 : Int32) < 5 then 5 else 1), tW150.2)
def tT130 : jT := jtn tT129 20 2560 0
def tW152 : jW := jzr tW151 68
def tT131 : jT := jtr tT130 67 1 68
def tW153 : jW := (jup tW152.1 67 2 0, tW152.2)
set_option maxRecDepth 200000 in
theorem jct32 {l : Launch} {G : jG} (hG : jX G) : Ct l G y_Rows_init (1, 21) 1 2560 [.ref 67, .int 512, .int 5] (jmk tT129) tW150 (none, jmk tT131, tW153) := by
  refine Ct.of (L := [some (.ref 67), some (.int 512), some (.int 5)]) (by decide) (Nat.le_of_ble_eq_true rfl) rfl ?_
  refine ev_seg (r := jmk tT129) (o := 3) (nL := 3) (q := 1) (xs := [(.aload_n 0, 1, 0, 0, .null)]) (L' := [some (.ref 67), some (.int 512), some (.int 5)]) (st' := [.ref 67]) (w' := tW150) (g := []) (K := []) (by decide +kernel) rfl rfl rfl rfl jk0 ?_
  refine ev_objI (o := 3) (idx := 3) (by decide +kernel) rfl lk_3_3 jobi jobc (Nat.le_of_ble_eq_true rfl) (Nat.le_of_ble_eq_true rfl) ?_
  refine ev_seg (r := jmk tT129) (o := 3) (nL := 3) (q := 7) (xs := [(.aload_n 0, 1, 0, 0, .null), (.iconst 1, 1, 0, 0, .int 1), (.iload_n 2, 1, 2, 0, .null)]) (L' := [some (.ref 67), some (.int 512), some (.int 5)]) (st' := [.int 5, .int 1, .ref 67]) (w' := tW150) (g := []) (K := []) (by decide +kernel) rfl rfl rfl rfl jk0 ?_
  refine ev_max (o := 3) (idx := 9) (by decide +kernel) rfl lk_3_9 ms_max hMath mc_max (Nat.le_of_ble_eq_true rfl) (Nat.le_of_ble_eq_true rfl) (Nat.le_of_ble_eq_true rfl) (Nat.le_of_ble_eq_true rfl) ?_
  refine ev_putiF (r := jmk tT129) (o := 3) (idx := 15) (ci := 3) (k := 0) (a := 67) (by decide +kernel) rfl (by decide +kernel) rfl rfl rfl rfl (by decide +kernel) ?_
  show Ev l G _ _ _ _ _ _ _ _ _ _ (jmk tT129) tW151
  refine ev_seg (r := jmk tT129) (o := 3) (nL := 3) (q := 21) (xs := [(.aload_n 0, 1, 0, 0, .null), (.iconst 1, 1, 0, 0, .int 1), (.iload_n 1, 1, 1, 0, .null), (.aload_n 0, 1, 0, 0, .null), (.getfield 15, 3, 3, 0, .int 0), (.imul, 1, 0, 0, .null)]) (L' := [some (.ref 67), some (.int 512), some (.int 5)]) (st' := [.int (512 * (tW151.1 67 0)), .int 1, .ref 67]) (w' := tW151) (g := []) (K := [(67, 3)]) (by decide +kernel) rfl rfl rfl rfl (jk1 (by decide +kernel) jk0) ?_
  refine ev_max (o := 3) (idx := 9) (by decide +kernel) rfl lk_3_9 ms_max hMath mc_max (Nat.le_of_ble_eq_true rfl) (Nat.le_of_ble_eq_true rfl) (Nat.le_of_ble_eq_true rfl) (Nat.le_of_ble_eq_true rfl) ?_
  refine jnewa (T := tT129) (a := 68) (kd := 20) (ty := .int) (atype := .int) (N := 2560) (by decide +kernel) (by decide +kernel) rfl (by decide +kernel) (Or.inl ⟨rfl, rfl⟩) ja_int (by decide +kernel) (by decide +kernel) (Nat.le_of_ble_eq_true rfl) (Nat.le_of_ble_eq_true rfl) (Nat.le_of_ble_eq_true rfl) ?_
  show Ev l G _ _ _ _ _ _ _ _ _ [.ref 68, .ref 67] (jmk tT130) tW152
  refine ev_putr (T := tT130) (o := 3) (idx := 21) (ci := 3) (k := 1) (a := 67) (b := 68) (by decide +kernel) rfl (by decide +kernel) rfl rfl rfl rfl (by decide +kernel) (by decide +kernel) (by decide +kernel) (by decide) ?_
  show Ev l G _ _ _ _ _ _ _ _ _ _ (jmk tT131) tW152
  refine ev_seg (r := jmk tT131) (o := 3) (nL := 3) (q := 34) (xs := [(.aload_n 0, 1, 0, 0, .null), (.iconst 0, 1, 0, 0, .int 0), (.putfield 25, 3, 3, 2, .int 0)]) (L' := [some (.ref 67), some (.int 512), some (.int 5)]) (st' := []) (w' := tW153) (g := []) (K := [(67, 3)]) (by decide +kernel) rfl rfl rfl rfl (jk1 (by decide +kernel) jk0) ?_
  exact ev_vret (by decide +kernel) rfl rfl rfl rfl
def tT132 : jT := jtr tT131 38 16 67
def tT133 : jT := jtn tT132 3 0 3
def tW154 : jW := jzr tW153 69
def tW155 : jW := (jup tW154.1 69 0 (if (1 : Int32) < 2 then 2 else 1), tW154.2)
def tT134 : jT := jtn tT133 20 120 0
def tW156 : jW := jzr tW155 70
def tT135 : jT := jtr tT134 69 1 70
def tW157 : jW := (jup tW156.1 69 2 0, tW156.2)
set_option maxRecDepth 200000 in
theorem jct33 {l : Launch} {G : jG} (hG : jX G) : Ct l G y_Rows_init (1, 21) 1 120 [.ref 69, .int 60, .int 2] (jmk tT133) tW154 (none, jmk tT135, tW157) := by
  refine Ct.of (L := [some (.ref 69), some (.int 60), some (.int 2)]) (by decide) (Nat.le_of_ble_eq_true rfl) rfl ?_
  refine ev_seg (r := jmk tT133) (o := 3) (nL := 3) (q := 1) (xs := [(.aload_n 0, 1, 0, 0, .null)]) (L' := [some (.ref 69), some (.int 60), some (.int 2)]) (st' := [.ref 69]) (w' := tW154) (g := []) (K := []) (by decide +kernel) rfl rfl rfl rfl jk0 ?_
  refine ev_objI (o := 3) (idx := 3) (by decide +kernel) rfl lk_3_3 jobi jobc (Nat.le_of_ble_eq_true rfl) (Nat.le_of_ble_eq_true rfl) ?_
  refine ev_seg (r := jmk tT133) (o := 3) (nL := 3) (q := 7) (xs := [(.aload_n 0, 1, 0, 0, .null), (.iconst 1, 1, 0, 0, .int 1), (.iload_n 2, 1, 2, 0, .null)]) (L' := [some (.ref 69), some (.int 60), some (.int 2)]) (st' := [.int 2, .int 1, .ref 69]) (w' := tW154) (g := []) (K := []) (by decide +kernel) rfl rfl rfl rfl jk0 ?_
  refine ev_max (o := 3) (idx := 9) (by decide +kernel) rfl lk_3_9 ms_max hMath mc_max (Nat.le_of_ble_eq_true rfl) (Nat.le_of_ble_eq_true rfl) (Nat.le_of_ble_eq_true rfl) (Nat.le_of_ble_eq_true rfl) ?_
  refine ev_putiF (r := jmk tT133) (o := 3) (idx := 15) (ci := 3) (k := 0) (a := 69) (by decide +kernel) rfl (by decide +kernel) rfl rfl rfl rfl (by decide +kernel) ?_
  show Ev l G _ _ _ _ _ _ _ _ _ _ (jmk tT133) tW155
  refine ev_seg (r := jmk tT133) (o := 3) (nL := 3) (q := 21) (xs := [(.aload_n 0, 1, 0, 0, .null), (.iconst 1, 1, 0, 0, .int 1), (.iload_n 1, 1, 1, 0, .null), (.aload_n 0, 1, 0, 0, .null), (.getfield 15, 3, 3, 0, .int 0), (.imul, 1, 0, 0, .null)]) (L' := [some (.ref 69), some (.int 60), some (.int 2)]) (st' := [.int (60 * (tW155.1 69 0)), .int 1, .ref 69]) (w' := tW155) (g := []) (K := [(69, 3)]) (by decide +kernel) rfl rfl rfl rfl (jk1 (by decide +kernel) jk0) ?_
  refine ev_max (o := 3) (idx := 9) (by decide +kernel) rfl lk_3_9 ms_max hMath mc_max (Nat.le_of_ble_eq_true rfl) (Nat.le_of_ble_eq_true rfl) (Nat.le_of_ble_eq_true rfl) (Nat.le_of_ble_eq_true rfl) ?_
  refine jnewa (T := tT133) (a := 70) (kd := 20) (ty := .int) (atype := .int) (N := 120) (by decide +kernel) (by decide +kernel) rfl (by decide +kernel) (Or.inl ⟨rfl, rfl⟩) ja_int (by decide +kernel) (by decide +kernel) (Nat.le_of_ble_eq_true rfl) (Nat.le_of_ble_eq_true rfl) (Nat.le_of_ble_eq_true rfl) ?_
  show Ev l G _ _ _ _ _ _ _ _ _ [.ref 70, .ref 69] (jmk tT134) tW156
  refine ev_putr (T := tT134) (o := 3) (idx := 21) (ci := 3) (k := 1) (a := 69) (b := 70) (by decide +kernel) rfl (by decide +kernel) rfl rfl rfl rfl (by decide +kernel) (by decide +kernel) (by decide +kernel) (by decide) ?_
  show Ev l G _ _ _ _ _ _ _ _ _ _ (jmk tT135) tW156
  refine ev_seg (r := jmk tT135) (o := 3) (nL := 3) (q := 34) (xs := [(.aload_n 0, 1, 0, 0, .null), (.iconst 0, 1, 0, 0, .int 0), (.putfield 25, 3, 3, 2, .int 0)]) (L' := [some (.ref 69), some (.int 60), some (.int 2)]) (st' := []) (w' := tW157) (g := []) (K := [(69, 3)]) (by decide +kernel) rfl rfl rfl rfl (jk1 (by decide +kernel) jk0) ?_
  exact ev_vret (by decide +kernel) rfl rfl rfl rfl
def tT136 : jT := jtr tT135 38 17 69
def tT137 : jT := jtn tT136 3 0 3
def tW158 : jW := jzr tW157 71
def tW159 : jW := (jup tW158.1 71 0 (if (1 : Int32) < 2 then 2 else 1), tW158.2)
def tT138 : jT := jtn tT137 20 120 0
def tW160 : jW := jzr tW159 72
def tT139 : jT := jtr tT138 71 1 72
def tW161 : jW := (jup tW160.1 71 2 0, tW160.2)
set_option maxRecDepth 200000 in
theorem jct34 {l : Launch} {G : jG} (hG : jX G) : Ct l G y_Rows_init (1, 21) 1 120 [.ref 71, .int 60, .int 2] (jmk tT137) tW158 (none, jmk tT139, tW161) := by
  refine Ct.of (L := [some (.ref 71), some (.int 60), some (.int 2)]) (by decide) (Nat.le_of_ble_eq_true rfl) rfl ?_
  refine ev_seg (r := jmk tT137) (o := 3) (nL := 3) (q := 1) (xs := [(.aload_n 0, 1, 0, 0, .null)]) (L' := [some (.ref 71), some (.int 60), some (.int 2)]) (st' := [.ref 71]) (w' := tW158) (g := []) (K := []) (by decide +kernel) rfl rfl rfl rfl jk0 ?_
  refine ev_objI (o := 3) (idx := 3) (by decide +kernel) rfl lk_3_3 jobi jobc (Nat.le_of_ble_eq_true rfl) (Nat.le_of_ble_eq_true rfl) ?_
  refine ev_seg (r := jmk tT137) (o := 3) (nL := 3) (q := 7) (xs := [(.aload_n 0, 1, 0, 0, .null), (.iconst 1, 1, 0, 0, .int 1), (.iload_n 2, 1, 2, 0, .null)]) (L' := [some (.ref 71), some (.int 60), some (.int 2)]) (st' := [.int 2, .int 1, .ref 71]) (w' := tW158) (g := []) (K := []) (by decide +kernel) rfl rfl rfl rfl jk0 ?_
  refine ev_max (o := 3) (idx := 9) (by decide +kernel) rfl lk_3_9 ms_max hMath mc_max (Nat.le_of_ble_eq_true rfl) (Nat.le_of_ble_eq_true rfl) (Nat.le_of_ble_eq_true rfl) (Nat.le_of_ble_eq_true rfl) ?_
  refine ev_putiF (r := jmk tT137) (o := 3) (idx := 15) (ci := 3) (k := 0) (a := 71) (by decide +kernel) rfl (by decide +kernel) rfl rfl rfl rfl (by decide +kernel) ?_
  show Ev l G _ _ _ _ _ _ _ _ _ _ (jmk tT137) tW159
  refine ev_seg (r := jmk tT137) (o := 3) (nL := 3) (q := 21) (xs := [(.aload_n 0, 1, 0, 0, .null), (.iconst 1, 1, 0, 0, .int 1), (.iload_n 1, 1, 1, 0, .null), (.aload_n 0, 1, 0, 0, .null), (.getfield 15, 3, 3, 0, .int 0), (.imul, 1, 0, 0, .null)]) (L' := [some (.ref 71), some (.int 60), some (.int 2)]) (st' := [.int (60 * (tW159.1 71 0)), .int 1, .ref 71]) (w' := tW159) (g := []) (K := [(71, 3)]) (by decide +kernel) rfl rfl rfl rfl (jk1 (by decide +kernel) jk0) ?_
  refine ev_max (o := 3) (idx := 9) (by decide +kernel) rfl lk_3_9 ms_max hMath mc_max (Nat.le_of_ble_eq_true rfl) (Nat.le_of_ble_eq_true rfl) (Nat.le_of_ble_eq_true rfl) (Nat.le_of_ble_eq_true rfl) ?_
  refine jnewa (T := tT137) (a := 72) (kd := 20) (ty := .int) (atype := .int) (N := 120) (by decide +kernel) (by decide +kernel) rfl (by decide +kernel) (Or.inl ⟨rfl, rfl⟩) ja_int (by decide +kernel) (by decide +kernel) (Nat.le_of_ble_eq_true rfl) (Nat.le_of_ble_eq_true rfl) (Nat.le_of_ble_eq_true rfl) ?_
  show Ev l G _ _ _ _ _ _ _ _ _ [.ref 72, .ref 71] (jmk tT138) tW160
  refine ev_putr (T := tT138) (o := 3) (idx := 21) (ci := 3) (k := 1) (a := 71) (b := 72) (by decide +kernel) rfl (by decide +kernel) rfl rfl rfl rfl (by decide +kernel) (by decide +kernel) (by decide +kernel) (by decide) ?_
  show Ev l G _ _ _ _ _ _ _ _ _ _ (jmk tT139) tW160
  refine ev_seg (r := jmk tT139) (o := 3) (nL := 3) (q := 34) (xs := [(.aload_n 0, 1, 0, 0, .null), (.iconst 0, 1, 0, 0, .int 0), (.putfield 25, 3, 3, 2, .int 0)]) (L' := [some (.ref 71), some (.int 60), some (.int 2)]) (st' := []) (w' := tW161) (g := []) (K := [(71, 3)]) (by decide +kernel) rfl rfl rfl rfl (jk1 (by decide +kernel) jk0) ?_
  exact ev_vret (by decide +kernel) rfl rfl rfl rfl
def tT140 : jT := jtr tT139 38 18 71
def jZ16 : Int32 × jW := (f_Rows_open_g (jmk tT140) 39 1 tW161).getD (0, tW161)
theorem jZ16_ok : f_Rows_open_g (jmk tT140) 39 1 tW161 = some jZ16 := jsome (by decide +kernel)
def tW162 : jW := jZ16.2
def jZ17 : jW := (f_Rows_put_g (jmk tT140) 39 0 1 200 tW162).getD tW162
theorem jZ17_ok : f_Rows_put_g (jmk tT140) 39 0 1 200 tW162 = some jZ17 := jsome (by decide +kernel)
def tW163 : jW := jZ17
def jZ18 : jW := (f_Rows_put_g (jmk tT140) 39 0 2 1 tW163).getD tW163
theorem jZ18_ok : f_Rows_put_g (jmk tT140) 39 0 2 1 tW163 = some jZ18 := jsome (by decide +kernel)
def tW164 : jW := jZ18
def jZ19 : jW := (f_Rows_put_g (jmk tT140) 39 0 3 500 tW164).getD tW164
theorem jZ19_ok : f_Rows_put_g (jmk tT140) 39 0 3 500 tW164 = some jZ19 := jsome (by decide +kernel)
def tW165 : jW := jZ19
def jZ20 : Int32 × jW := (f_Rows_open_g (jmk tT140) 39 1 tW165).getD (0, tW165)
theorem jZ20_ok : f_Rows_open_g (jmk tT140) 39 1 tW165 = some jZ20 := jsome (by decide +kernel)
def tW166 : jW := jZ20.2
def jZ21 : jW := (f_Rows_put_g (jmk tT140) 39 (0 + 1) 1 200 tW166).getD tW166
theorem jZ21_ok : f_Rows_put_g (jmk tT140) 39 (0 + 1) 1 200 tW166 = some jZ21 := jsome (by decide +kernel)
def tW167 : jW := jZ21
def jZ22 : jW := (f_Rows_put_g (jmk tT140) 39 (0 + 1) 2 1 tW167).getD tW167
theorem jZ22_ok : f_Rows_put_g (jmk tT140) 39 (0 + 1) 2 1 tW167 = some jZ22 := jsome (by decide +kernel)
def tW168 : jW := jZ22
def jZ23 : jW := (f_Rows_put_g (jmk tT140) 39 (0 + 1) 3 500 tW168).getD tW168
theorem jZ23_ok : f_Rows_put_g (jmk tT140) 39 (0 + 1) 3 500 tW168 = some jZ23 := jsome (by decide +kernel)
def tW169 : jW := jZ23
def jZ24 : Int32 × jW := (f_Rows_open_g (jmk tT140) 39 1 tW169).getD (0, tW169)
theorem jZ24_ok : f_Rows_open_g (jmk tT140) 39 1 tW169 = some jZ24 := jsome (by decide +kernel)
def tW170 : jW := jZ24.2
def jZ25 : jW := (f_Rows_put_g (jmk tT140) 39 ((0 + 1) + 1) 1 200 tW170).getD tW170
theorem jZ25_ok : f_Rows_put_g (jmk tT140) 39 ((0 + 1) + 1) 1 200 tW170 = some jZ25 := jsome (by decide +kernel)
def tW171 : jW := jZ25
def jZ26 : jW := (f_Rows_put_g (jmk tT140) 39 ((0 + 1) + 1) 2 1 tW171).getD tW171
theorem jZ26_ok : f_Rows_put_g (jmk tT140) 39 ((0 + 1) + 1) 2 1 tW171 = some jZ26 := jsome (by decide +kernel)
def tW172 : jW := jZ26
def jZ27 : jW := (f_Rows_put_g (jmk tT140) 39 ((0 + 1) + 1) 3 500 tW172).getD tW172
theorem jZ27_ok : f_Rows_put_g (jmk tT140) 39 ((0 + 1) + 1) 3 500 tW172 = some jZ27 := jsome (by decide +kernel)
def tW173 : jW := jZ27
def jZ28 : Int32 × jW := (f_Rows_open_g (jmk tT140) 39 1 tW173).getD (0, tW173)
theorem jZ28_ok : f_Rows_open_g (jmk tT140) 39 1 tW173 = some jZ28 := jsome (by decide +kernel)
def tW174 : jW := jZ28.2
def jZ29 : jW := (f_Rows_put_g (jmk tT140) 39 (((0 + 1) + 1) + 1) 1 200 tW174).getD tW174
theorem jZ29_ok : f_Rows_put_g (jmk tT140) 39 (((0 + 1) + 1) + 1) 1 200 tW174 = some jZ29 := jsome (by decide +kernel)
def tW175 : jW := jZ29
def jZ30 : jW := (f_Rows_put_g (jmk tT140) 39 (((0 + 1) + 1) + 1) 2 1 tW175).getD tW175
theorem jZ30_ok : f_Rows_put_g (jmk tT140) 39 (((0 + 1) + 1) + 1) 2 1 tW175 = some jZ30 := jsome (by decide +kernel)
def tW176 : jW := jZ30
def jZ31 : jW := (f_Rows_put_g (jmk tT140) 39 (((0 + 1) + 1) + 1) 3 500 tW176).getD tW176
theorem jZ31_ok : f_Rows_put_g (jmk tT140) 39 (((0 + 1) + 1) + 1) 3 500 tW176 = some jZ31 := jsome (by decide +kernel)
def tW177 : jW := jZ31
set_option maxRecDepth 200000 in
theorem jct35 {l : Launch} {G : jG} (hG : jX G) : Ct l G y_State_init (3, 63) 34 10073 [.ref 38] (jmk tT72) tW90 (none, jmk tT140, tW177) := by
  refine Ct.of (L := [some (.ref 38), none]) (by decide) (Nat.le_of_ble_eq_true rfl) rfl ?_
  refine ev_seg (r := jmk tT72) (o := 6) (nL := 2) (q := 1) (xs := [(.aload_n 0, 1, 0, 0, .null)]) (L' := [some (.ref 38), none]) (st' := [.ref 38]) (w' := tW90) (g := []) (K := []) (by decide +kernel) rfl rfl rfl rfl jk0 ?_
  refine ev_objI (o := 6) (idx := 3) (by decide +kernel) rfl lk_6_3 jobi jobc (Nat.le_of_ble_eq_true rfl) (Nat.le_of_ble_eq_true rfl) ?_
  refine ev_seg (r := jmk tT72) (o := 6) (nL := 2) (q := 9) (xs := [(.aload_n 0, 1, 0, 0, .null), (.iconst 0, 1, 0, 0, .int 0), (.putfield 9, 3, 6, 0, .int 0)]) (L' := [some (.ref 38), none]) (st' := []) (w' := tW91) (g := []) (K := [(38, 6)]) (by decide +kernel) rfl rfl rfl rfl (jk1 (by decide +kernel) jk0) ?_
  refine ev_seg (r := jmk tT72) (o := 6) (nL := 2) (q := 14) (xs := [(.aload_n 0, 1, 0, 0, .null), (.iconst 2, 1, 0, 0, .int 2), (.putfield 15, 3, 6, 1, .int 0)]) (L' := [some (.ref 38), none]) (st' := []) (w' := tW92) (g := []) (K := [(38, 6)]) (by decide +kernel) rfl rfl rfl rfl (jk1 (by decide +kernel) jk0) ?_
  refine ev_seg (r := jmk tT72) (o := 6) (nL := 2) (q := 19) (xs := [(.aload_n 0, 1, 0, 0, .null), (.iconst 5, 1, 0, 0, .int 5), (.putfield 18, 3, 6, 2, .int 0)]) (L' := [some (.ref 38), none]) (st' := []) (w' := tW93) (g := []) (K := [(38, 6)]) (by decide +kernel) rfl rfl rfl rfl (jk1 (by decide +kernel) jk0) ?_
  refine ev_seg (r := jmk tT72) (o := 6) (nL := 2) (q := 25) (xs := [(.aload_n 0, 1, 0, 0, .null), (.bipush 40, 2, 0, 0, .int 40), (.putfield 21, 3, 6, 3, .int 0)]) (L' := [some (.ref 38), none]) (st' := []) (w' := tW94) (g := []) (K := [(38, 6)]) (by decide +kernel) rfl rfl rfl rfl (jk1 (by decide +kernel) jk0) ?_
  refine ev_seg (r := jmk tT72) (o := 6) (nL := 2) (q := 30) (xs := [(.aload_n 0, 1, 0, 0, .null), (.iconst 0, 1, 0, 0, .int 0), (.putfield 24, 3, 6, 4, .int 0)]) (L' := [some (.ref 38), none]) (st' := []) (w' := tW95) (g := []) (K := [(38, 6)]) (by decide +kernel) rfl rfl rfl rfl (jk1 (by decide +kernel) jk0) ?_
  refine ev_seg (r := jmk tT72) (o := 6) (nL := 2) (q := 31) (xs := [(.aload_n 0, 1, 0, 0, .null)]) (L' := [some (.ref 38), none]) (st' := [.ref 38]) (w' := tW95) (g := []) (K := []) (by decide +kernel) rfl rfl rfl rfl jk0 ?_
  refine ev_new (T := tT72) (a := 39) (o := 6) (idx := 27) (ci := 3) (by decide +kernel) (by decide +kernel) rfl (by decide +kernel) (by decide) jcl_6_27 jis_3 ji_3 (Nat.le_of_ble_eq_true rfl) (Nat.le_of_ble_eq_true rfl) ?_
  show Ev l G _ _ _ _ _ _ _ _ _ [.ref 39, .ref 38] (jmk tT73) tW96
  refine ev_seg (r := jmk tT73) (o := 6) (nL := 2) (q := 37) (xs := [(.dup, 1, 0, 0, .null), (.iconst 4, 1, 0, 0, .int 4), (.iconst 4, 1, 0, 0, .int 4)]) (L' := [some (.ref 38), none]) (st' := [.int 4, .int 4, .ref 39, .ref 39, .ref 38]) (w' := tW96) (g := []) (K := []) (by decide +kernel) rfl rfl rfl rfl jk0 ?_
  refine ev_callI (r := jmk tT73) (w := tW96) (y2 := y_Rows_init) (o := 6) (idx := 29) (a := 39) (d2 := (1, 21)) (n := 2) (mc2 := 1) (ms2 := 16) (As := [.int 4, .int 4]) (st := [.ref 39, .ref 38]) (res2 := (none, jmk tT75, tW99)) (by decide +kernel) rfl lk_6_29 mo_Rows_init mi_Rows_init ⟨Nat.le_of_ble_eq_true rfl, Nat.le_of_ble_eq_true rfl⟩ rfl rfl (Nat.le_of_ble_eq_true rfl) ⟨Nat.le_of_ble_eq_true rfl, Nat.le_of_ble_eq_true rfl⟩ hG (jct18 hG) ?_
  show Ev l G _ _ _ _ _ _ _ _ _ [.ref 39, .ref 38] (jmk tT75) tW99
  refine ev_putr (T := tT75) (o := 6) (idx := 32) (ci := 6) (k := 5) (a := 38) (b := 39) (by decide +kernel) rfl (by decide +kernel) rfl rfl rfl rfl (by decide +kernel) (by decide +kernel) (by decide +kernel) (by decide) ?_
  show Ev l G _ _ _ _ _ _ _ _ _ _ (jmk tT76) tW99
  refine ev_seg (r := jmk tT76) (o := 6) (nL := 2) (q := 44) (xs := [(.aload_n 0, 1, 0, 0, .null)]) (L' := [some (.ref 38), none]) (st' := [.ref 38]) (w' := tW99) (g := []) (K := []) (by decide +kernel) rfl rfl rfl rfl jk0 ?_
  refine ev_new (T := tT76) (a := 41) (o := 6) (idx := 27) (ci := 3) (by decide +kernel) (by decide +kernel) rfl (by decide +kernel) (by decide) jcl_6_27 jis_3 ji_3 (Nat.le_of_ble_eq_true rfl) (Nat.le_of_ble_eq_true rfl) ?_
  show Ev l G _ _ _ _ _ _ _ _ _ [.ref 41, .ref 38] (jmk tT77) tW100
  refine ev_seg (r := jmk tT77) (o := 6) (nL := 2) (q := 51) (xs := [(.dup, 1, 0, 0, .null), (.bipush 10, 2, 0, 0, .int 10), (.iconst 5, 1, 0, 0, .int 5)]) (L' := [some (.ref 38), none]) (st' := [.int 5, .int 10, .ref 41, .ref 41, .ref 38]) (w' := tW100) (g := []) (K := []) (by decide +kernel) rfl rfl rfl rfl jk0 ?_
  refine ev_callI (r := jmk tT77) (w := tW100) (y2 := y_Rows_init) (o := 6) (idx := 29) (a := 41) (d2 := (1, 21)) (n := 2) (mc2 := 1) (ms2 := 50) (As := [.int 10, .int 5]) (st := [.ref 41, .ref 38]) (res2 := (none, jmk tT79, tW103)) (by decide +kernel) rfl lk_6_29 mo_Rows_init mi_Rows_init ⟨Nat.le_of_ble_eq_true rfl, Nat.le_of_ble_eq_true rfl⟩ rfl rfl (Nat.le_of_ble_eq_true rfl) ⟨Nat.le_of_ble_eq_true rfl, Nat.le_of_ble_eq_true rfl⟩ hG (jct19 hG) ?_
  show Ev l G _ _ _ _ _ _ _ _ _ [.ref 41, .ref 38] (jmk tT79) tW103
  refine ev_putr (T := tT79) (o := 6) (idx := 36) (ci := 6) (k := 6) (a := 38) (b := 41) (by decide +kernel) rfl (by decide +kernel) rfl rfl rfl rfl (by decide +kernel) (by decide +kernel) (by decide +kernel) (by decide) ?_
  show Ev l G _ _ _ _ _ _ _ _ _ _ (jmk tT80) tW103
  refine ev_seg (r := jmk tT80) (o := 6) (nL := 2) (q := 58) (xs := [(.aload_n 0, 1, 0, 0, .null)]) (L' := [some (.ref 38), none]) (st' := [.ref 38]) (w' := tW103) (g := []) (K := []) (by decide +kernel) rfl rfl rfl rfl jk0 ?_
  refine ev_new (T := tT80) (a := 43) (o := 6) (idx := 27) (ci := 3) (by decide +kernel) (by decide +kernel) rfl (by decide +kernel) (by decide) jcl_6_27 jis_3 ji_3 (Nat.le_of_ble_eq_true rfl) (Nat.le_of_ble_eq_true rfl) ?_
  show Ev l G _ _ _ _ _ _ _ _ _ [.ref 43, .ref 38] (jmk tT81) tW104
  refine ev_seg (r := jmk tT81) (o := 6) (nL := 2) (q := 66) (xs := [(.dup, 1, 0, 0, .null), (.bipush 10, 2, 0, 0, .int 10), (.bipush 10, 2, 0, 0, .int 10)]) (L' := [some (.ref 38), none]) (st' := [.int 10, .int 10, .ref 43, .ref 43, .ref 38]) (w' := tW104) (g := []) (K := []) (by decide +kernel) rfl rfl rfl rfl jk0 ?_
  refine ev_callI (r := jmk tT81) (w := tW104) (y2 := y_Rows_init) (o := 6) (idx := 29) (a := 43) (d2 := (1, 21)) (n := 2) (mc2 := 1) (ms2 := 100) (As := [.int 10, .int 10]) (st := [.ref 43, .ref 38]) (res2 := (none, jmk tT83, tW107)) (by decide +kernel) rfl lk_6_29 mo_Rows_init mi_Rows_init ⟨Nat.le_of_ble_eq_true rfl, Nat.le_of_ble_eq_true rfl⟩ rfl rfl (Nat.le_of_ble_eq_true rfl) ⟨Nat.le_of_ble_eq_true rfl, Nat.le_of_ble_eq_true rfl⟩ hG (jct20 hG) ?_
  show Ev l G _ _ _ _ _ _ _ _ _ [.ref 43, .ref 38] (jmk tT83) tW107
  refine ev_putr (T := tT83) (o := 6) (idx := 39) (ci := 6) (k := 7) (a := 38) (b := 43) (by decide +kernel) rfl (by decide +kernel) rfl rfl rfl rfl (by decide +kernel) (by decide +kernel) (by decide +kernel) (by decide) ?_
  show Ev l G _ _ _ _ _ _ _ _ _ _ (jmk tT84) tW107
  refine ev_seg (r := jmk tT84) (o := 6) (nL := 2) (q := 73) (xs := [(.aload_n 0, 1, 0, 0, .null)]) (L' := [some (.ref 38), none]) (st' := [.ref 38]) (w' := tW107) (g := []) (K := []) (by decide +kernel) rfl rfl rfl rfl jk0 ?_
  refine ev_new (T := tT84) (a := 45) (o := 6) (idx := 27) (ci := 3) (by decide +kernel) (by decide +kernel) rfl (by decide +kernel) (by decide) jcl_6_27 jis_3 ji_3 (Nat.le_of_ble_eq_true rfl) (Nat.le_of_ble_eq_true rfl) ?_
  show Ev l G _ _ _ _ _ _ _ _ _ [.ref 45, .ref 38] (jmk tT85) tW108
  refine ev_seg (r := jmk tT85) (o := 6) (nL := 2) (q := 81) (xs := [(.dup, 1, 0, 0, .null), (.bipush 40, 2, 0, 0, .int 40), (.bipush 11, 2, 0, 0, .int 11)]) (L' := [some (.ref 38), none]) (st' := [.int 11, .int 40, .ref 45, .ref 45, .ref 38]) (w' := tW108) (g := []) (K := []) (by decide +kernel) rfl rfl rfl rfl jk0 ?_
  refine ev_callI (r := jmk tT85) (w := tW108) (y2 := y_Rows_init) (o := 6) (idx := 29) (a := 45) (d2 := (1, 21)) (n := 2) (mc2 := 1) (ms2 := 440) (As := [.int 40, .int 11]) (st := [.ref 45, .ref 38]) (res2 := (none, jmk tT87, tW111)) (by decide +kernel) rfl lk_6_29 mo_Rows_init mi_Rows_init ⟨Nat.le_of_ble_eq_true rfl, Nat.le_of_ble_eq_true rfl⟩ rfl rfl (Nat.le_of_ble_eq_true rfl) ⟨Nat.le_of_ble_eq_true rfl, Nat.le_of_ble_eq_true rfl⟩ hG (jct21 hG) ?_
  show Ev l G _ _ _ _ _ _ _ _ _ [.ref 45, .ref 38] (jmk tT87) tW111
  refine ev_putr (T := tT87) (o := 6) (idx := 42) (ci := 6) (k := 8) (a := 38) (b := 45) (by decide +kernel) rfl (by decide +kernel) rfl rfl rfl rfl (by decide +kernel) (by decide +kernel) (by decide +kernel) (by decide) ?_
  show Ev l G _ _ _ _ _ _ _ _ _ _ (jmk tT88) tW111
  refine ev_seg (r := jmk tT88) (o := 6) (nL := 2) (q := 88) (xs := [(.aload_n 0, 1, 0, 0, .null)]) (L' := [some (.ref 38), none]) (st' := [.ref 38]) (w' := tW111) (g := []) (K := []) (by decide +kernel) rfl rfl rfl rfl jk0 ?_
  refine ev_new (T := tT88) (a := 47) (o := 6) (idx := 27) (ci := 3) (by decide +kernel) (by decide +kernel) rfl (by decide +kernel) (by decide) jcl_6_27 jis_3 ji_3 (Nat.le_of_ble_eq_true rfl) (Nat.le_of_ble_eq_true rfl) ?_
  show Ev l G _ _ _ _ _ _ _ _ _ [.ref 47, .ref 38] (jmk tT89) tW112
  refine ev_seg (r := jmk tT89) (o := 6) (nL := 2) (q := 96) (xs := [(.dup, 1, 0, 0, .null), (.bipush 100, 2, 0, 0, .int 100), (.bipush 6, 2, 0, 0, .int 6)]) (L' := [some (.ref 38), none]) (st' := [.int 6, .int 100, .ref 47, .ref 47, .ref 38]) (w' := tW112) (g := []) (K := []) (by decide +kernel) rfl rfl rfl rfl jk0 ?_
  refine ev_callI (r := jmk tT89) (w := tW112) (y2 := y_Rows_init) (o := 6) (idx := 29) (a := 47) (d2 := (1, 21)) (n := 2) (mc2 := 1) (ms2 := 600) (As := [.int 100, .int 6]) (st := [.ref 47, .ref 38]) (res2 := (none, jmk tT91, tW115)) (by decide +kernel) rfl lk_6_29 mo_Rows_init mi_Rows_init ⟨Nat.le_of_ble_eq_true rfl, Nat.le_of_ble_eq_true rfl⟩ rfl rfl (Nat.le_of_ble_eq_true rfl) ⟨Nat.le_of_ble_eq_true rfl, Nat.le_of_ble_eq_true rfl⟩ hG (jct22 hG) ?_
  show Ev l G _ _ _ _ _ _ _ _ _ [.ref 47, .ref 38] (jmk tT91) tW115
  refine ev_putr (T := tT91) (o := 6) (idx := 45) (ci := 6) (k := 9) (a := 38) (b := 47) (by decide +kernel) rfl (by decide +kernel) rfl rfl rfl rfl (by decide +kernel) (by decide +kernel) (by decide +kernel) (by decide) ?_
  show Ev l G _ _ _ _ _ _ _ _ _ _ (jmk tT92) tW115
  refine ev_seg (r := jmk tT92) (o := 6) (nL := 2) (q := 103) (xs := [(.aload_n 0, 1, 0, 0, .null)]) (L' := [some (.ref 38), none]) (st' := [.ref 38]) (w' := tW115) (g := []) (K := []) (by decide +kernel) rfl rfl rfl rfl jk0 ?_
  refine ev_new (T := tT92) (a := 49) (o := 6) (idx := 27) (ci := 3) (by decide +kernel) (by decide +kernel) rfl (by decide +kernel) (by decide) jcl_6_27 jis_3 ji_3 (Nat.le_of_ble_eq_true rfl) (Nat.le_of_ble_eq_true rfl) ?_
  show Ev l G _ _ _ _ _ _ _ _ _ [.ref 49, .ref 38] (jmk tT93) tW116
  refine ev_seg (r := jmk tT93) (o := 6) (nL := 2) (q := 110) (xs := [(.dup, 1, 0, 0, .null), (.bipush 40, 2, 0, 0, .int 40), (.iconst 2, 1, 0, 0, .int 2)]) (L' := [some (.ref 38), none]) (st' := [.int 2, .int 40, .ref 49, .ref 49, .ref 38]) (w' := tW116) (g := []) (K := []) (by decide +kernel) rfl rfl rfl rfl jk0 ?_
  refine ev_callI (r := jmk tT93) (w := tW116) (y2 := y_Rows_init) (o := 6) (idx := 29) (a := 49) (d2 := (1, 21)) (n := 2) (mc2 := 1) (ms2 := 80) (As := [.int 40, .int 2]) (st := [.ref 49, .ref 38]) (res2 := (none, jmk tT95, tW119)) (by decide +kernel) rfl lk_6_29 mo_Rows_init mi_Rows_init ⟨Nat.le_of_ble_eq_true rfl, Nat.le_of_ble_eq_true rfl⟩ rfl rfl (Nat.le_of_ble_eq_true rfl) ⟨Nat.le_of_ble_eq_true rfl, Nat.le_of_ble_eq_true rfl⟩ hG (jct23 hG) ?_
  show Ev l G _ _ _ _ _ _ _ _ _ [.ref 49, .ref 38] (jmk tT95) tW119
  refine ev_putr (T := tT95) (o := 6) (idx := 48) (ci := 6) (k := 10) (a := 38) (b := 49) (by decide +kernel) rfl (by decide +kernel) rfl rfl rfl rfl (by decide +kernel) (by decide +kernel) (by decide +kernel) (by decide) ?_
  show Ev l G _ _ _ _ _ _ _ _ _ _ (jmk tT96) tW119
  refine ev_seg (r := jmk tT96) (o := 6) (nL := 2) (q := 117) (xs := [(.aload_n 0, 1, 0, 0, .null)]) (L' := [some (.ref 38), none]) (st' := [.ref 38]) (w' := tW119) (g := []) (K := []) (by decide +kernel) rfl rfl rfl rfl jk0 ?_
  refine ev_new (T := tT96) (a := 51) (o := 6) (idx := 51) (ci := 8) (by decide +kernel) (by decide +kernel) rfl (by decide +kernel) (by decide) jcl_6_51 jis_8 ji_8 (Nat.le_of_ble_eq_true rfl) (Nat.le_of_ble_eq_true rfl) ?_
  show Ev l G _ _ _ _ _ _ _ _ _ [.ref 51, .ref 38] (jmk tT97) tW120
  refine ev_seg (r := jmk tT97) (o := 6) (nL := 2) (q := 121) (xs := [(.dup, 1, 0, 0, .null)]) (L' := [some (.ref 38), none]) (st' := [.ref 51, .ref 51, .ref 38]) (w' := tW120) (g := []) (K := []) (by decide +kernel) rfl rfl rfl rfl jk0 ?_
  refine ev_callI (r := jmk tT97) (w := tW120) (y2 := y_Treaty_init) (o := 6) (idx := 53) (a := 51) (d2 := (2, 43)) (n := 0) (mc2 := 7) (ms2 := 3694) (As := []) (st := [.ref 51, .ref 38]) (res2 := (none, jmk tT111, tW133)) (by decide +kernel) rfl lk_6_53 mo_Treaty_init mi_Treaty_init ⟨Nat.le_of_ble_eq_true rfl, Nat.le_of_ble_eq_true rfl⟩ rfl rfl (Nat.le_of_ble_eq_true rfl) ⟨Nat.le_of_ble_eq_true rfl, Nat.le_of_ble_eq_true rfl⟩ hG (jct27 hG) ?_
  show Ev l G _ _ _ _ _ _ _ _ _ [.ref 51, .ref 38] (jmk tT111) tW133
  refine ev_putr (T := tT111) (o := 6) (idx := 54) (ci := 6) (k := 11) (a := 38) (b := 51) (by decide +kernel) rfl (by decide +kernel) rfl rfl rfl rfl (by decide +kernel) (by decide +kernel) (by decide +kernel) (by decide) ?_
  show Ev l G _ _ _ _ _ _ _ _ _ _ (jmk tT112) tW133
  refine ev_seg (r := jmk tT112) (o := 6) (nL := 2) (q := 128) (xs := [(.aload_n 0, 1, 0, 0, .null)]) (L' := [some (.ref 38), none]) (st' := [.ref 38]) (w' := tW133) (g := []) (K := []) (by decide +kernel) rfl rfl rfl rfl jk0 ?_
  refine ev_new (T := tT112) (a := 59) (o := 6) (idx := 27) (ci := 3) (by decide +kernel) (by decide +kernel) rfl (by decide +kernel) (by decide) jcl_6_27 jis_3 ji_3 (Nat.le_of_ble_eq_true rfl) (Nat.le_of_ble_eq_true rfl) ?_
  show Ev l G _ _ _ _ _ _ _ _ _ [.ref 59, .ref 38] (jmk tT113) tW134
  refine ev_seg (r := jmk tT113) (o := 6) (nL := 2) (q := 136) (xs := [(.dup, 1, 0, 0, .null), (.sipush 200, 3, 0, 0, .int 200), (.iconst 4, 1, 0, 0, .int 4)]) (L' := [some (.ref 38), none]) (st' := [.int 4, .int 200, .ref 59, .ref 59, .ref 38]) (w' := tW134) (g := []) (K := []) (by decide +kernel) rfl rfl rfl rfl jk0 ?_
  refine ev_callI (r := jmk tT113) (w := tW134) (y2 := y_Rows_init) (o := 6) (idx := 29) (a := 59) (d2 := (1, 21)) (n := 2) (mc2 := 1) (ms2 := 800) (As := [.int 200, .int 4]) (st := [.ref 59, .ref 38]) (res2 := (none, jmk tT115, tW137)) (by decide +kernel) rfl lk_6_29 mo_Rows_init mi_Rows_init ⟨Nat.le_of_ble_eq_true rfl, Nat.le_of_ble_eq_true rfl⟩ rfl rfl (Nat.le_of_ble_eq_true rfl) ⟨Nat.le_of_ble_eq_true rfl, Nat.le_of_ble_eq_true rfl⟩ hG (jct28 hG) ?_
  show Ev l G _ _ _ _ _ _ _ _ _ [.ref 59, .ref 38] (jmk tT115) tW137
  refine ev_putr (T := tT115) (o := 6) (idx := 58) (ci := 6) (k := 12) (a := 38) (b := 59) (by decide +kernel) rfl (by decide +kernel) rfl rfl rfl rfl (by decide +kernel) (by decide +kernel) (by decide +kernel) (by decide) ?_
  show Ev l G _ _ _ _ _ _ _ _ _ _ (jmk tT116) tW137
  refine ev_seg (r := jmk tT116) (o := 6) (nL := 2) (q := 143) (xs := [(.aload_n 0, 1, 0, 0, .null)]) (L' := [some (.ref 38), none]) (st' := [.ref 38]) (w' := tW137) (g := []) (K := []) (by decide +kernel) rfl rfl rfl rfl jk0 ?_
  refine ev_new (T := tT116) (a := 61) (o := 6) (idx := 27) (ci := 3) (by decide +kernel) (by decide +kernel) rfl (by decide +kernel) (by decide) jcl_6_27 jis_3 ji_3 (Nat.le_of_ble_eq_true rfl) (Nat.le_of_ble_eq_true rfl) ?_
  show Ev l G _ _ _ _ _ _ _ _ _ [.ref 61, .ref 38] (jmk tT117) tW138
  refine ev_seg (r := jmk tT117) (o := 6) (nL := 2) (q := 151) (xs := [(.dup, 1, 0, 0, .null), (.bipush 100, 2, 0, 0, .int 100), (.bipush 10, 2, 0, 0, .int 10)]) (L' := [some (.ref 38), none]) (st' := [.int 10, .int 100, .ref 61, .ref 61, .ref 38]) (w' := tW138) (g := []) (K := []) (by decide +kernel) rfl rfl rfl rfl jk0 ?_
  refine ev_callI (r := jmk tT117) (w := tW138) (y2 := y_Rows_init) (o := 6) (idx := 29) (a := 61) (d2 := (1, 21)) (n := 2) (mc2 := 1) (ms2 := 1000) (As := [.int 100, .int 10]) (st := [.ref 61, .ref 38]) (res2 := (none, jmk tT119, tW141)) (by decide +kernel) rfl lk_6_29 mo_Rows_init mi_Rows_init ⟨Nat.le_of_ble_eq_true rfl, Nat.le_of_ble_eq_true rfl⟩ rfl rfl (Nat.le_of_ble_eq_true rfl) ⟨Nat.le_of_ble_eq_true rfl, Nat.le_of_ble_eq_true rfl⟩ hG (jct29 hG) ?_
  show Ev l G _ _ _ _ _ _ _ _ _ [.ref 61, .ref 38] (jmk tT119) tW141
  refine ev_putr (T := tT119) (o := 6) (idx := 61) (ci := 6) (k := 13) (a := 38) (b := 61) (by decide +kernel) rfl (by decide +kernel) rfl rfl rfl rfl (by decide +kernel) (by decide +kernel) (by decide +kernel) (by decide) ?_
  show Ev l G _ _ _ _ _ _ _ _ _ _ (jmk tT120) tW141
  refine ev_seg (r := jmk tT120) (o := 6) (nL := 2) (q := 158) (xs := [(.aload_n 0, 1, 0, 0, .null)]) (L' := [some (.ref 38), none]) (st' := [.ref 38]) (w' := tW141) (g := []) (K := []) (by decide +kernel) rfl rfl rfl rfl jk0 ?_
  refine ev_new (T := tT120) (a := 63) (o := 6) (idx := 27) (ci := 3) (by decide +kernel) (by decide +kernel) rfl (by decide +kernel) (by decide) jcl_6_27 jis_3 ji_3 (Nat.le_of_ble_eq_true rfl) (Nat.le_of_ble_eq_true rfl) ?_
  show Ev l G _ _ _ _ _ _ _ _ _ [.ref 63, .ref 38] (jmk tT121) tW142
  refine ev_seg (r := jmk tT121) (o := 6) (nL := 2) (q := 165) (xs := [(.dup, 1, 0, 0, .null), (.bipush 100, 2, 0, 0, .int 100), (.iconst 3, 1, 0, 0, .int 3)]) (L' := [some (.ref 38), none]) (st' := [.int 3, .int 100, .ref 63, .ref 63, .ref 38]) (w' := tW142) (g := []) (K := []) (by decide +kernel) rfl rfl rfl rfl jk0 ?_
  refine ev_callI (r := jmk tT121) (w := tW142) (y2 := y_Rows_init) (o := 6) (idx := 29) (a := 63) (d2 := (1, 21)) (n := 2) (mc2 := 1) (ms2 := 300) (As := [.int 100, .int 3]) (st := [.ref 63, .ref 38]) (res2 := (none, jmk tT123, tW145)) (by decide +kernel) rfl lk_6_29 mo_Rows_init mi_Rows_init ⟨Nat.le_of_ble_eq_true rfl, Nat.le_of_ble_eq_true rfl⟩ rfl rfl (Nat.le_of_ble_eq_true rfl) ⟨Nat.le_of_ble_eq_true rfl, Nat.le_of_ble_eq_true rfl⟩ hG (jct30 hG) ?_
  show Ev l G _ _ _ _ _ _ _ _ _ [.ref 63, .ref 38] (jmk tT123) tW145
  refine ev_putr (T := tT123) (o := 6) (idx := 64) (ci := 6) (k := 14) (a := 38) (b := 63) (by decide +kernel) rfl (by decide +kernel) rfl rfl rfl rfl (by decide +kernel) (by decide +kernel) (by decide +kernel) (by decide) ?_
  show Ev l G _ _ _ _ _ _ _ _ _ _ (jmk tT124) tW145
  refine ev_seg (r := jmk tT124) (o := 6) (nL := 2) (q := 172) (xs := [(.aload_n 0, 1, 0, 0, .null)]) (L' := [some (.ref 38), none]) (st' := [.ref 38]) (w' := tW145) (g := []) (K := []) (by decide +kernel) rfl rfl rfl rfl jk0 ?_
  refine ev_new (T := tT124) (a := 65) (o := 6) (idx := 27) (ci := 3) (by decide +kernel) (by decide +kernel) rfl (by decide +kernel) (by decide) jcl_6_27 jis_3 ji_3 (Nat.le_of_ble_eq_true rfl) (Nat.le_of_ble_eq_true rfl) ?_
  show Ev l G _ _ _ _ _ _ _ _ _ [.ref 65, .ref 38] (jmk tT125) tW146
  refine ev_seg (r := jmk tT125) (o := 6) (nL := 2) (q := 179) (xs := [(.dup, 1, 0, 0, .null), (.bipush 50, 2, 0, 0, .int 50), (.iconst 3, 1, 0, 0, .int 3)]) (L' := [some (.ref 38), none]) (st' := [.int 3, .int 50, .ref 65, .ref 65, .ref 38]) (w' := tW146) (g := []) (K := []) (by decide +kernel) rfl rfl rfl rfl jk0 ?_
  refine ev_callI (r := jmk tT125) (w := tW146) (y2 := y_Rows_init) (o := 6) (idx := 29) (a := 65) (d2 := (1, 21)) (n := 2) (mc2 := 1) (ms2 := 150) (As := [.int 50, .int 3]) (st := [.ref 65, .ref 38]) (res2 := (none, jmk tT127, tW149)) (by decide +kernel) rfl lk_6_29 mo_Rows_init mi_Rows_init ⟨Nat.le_of_ble_eq_true rfl, Nat.le_of_ble_eq_true rfl⟩ rfl rfl (Nat.le_of_ble_eq_true rfl) ⟨Nat.le_of_ble_eq_true rfl, Nat.le_of_ble_eq_true rfl⟩ hG (jct31 hG) ?_
  show Ev l G _ _ _ _ _ _ _ _ _ [.ref 65, .ref 38] (jmk tT127) tW149
  refine ev_putr (T := tT127) (o := 6) (idx := 67) (ci := 6) (k := 15) (a := 38) (b := 65) (by decide +kernel) rfl (by decide +kernel) rfl rfl rfl rfl (by decide +kernel) (by decide +kernel) (by decide +kernel) (by decide) ?_
  show Ev l G _ _ _ _ _ _ _ _ _ _ (jmk tT128) tW149
  refine ev_seg (r := jmk tT128) (o := 6) (nL := 2) (q := 186) (xs := [(.aload_n 0, 1, 0, 0, .null)]) (L' := [some (.ref 38), none]) (st' := [.ref 38]) (w' := tW149) (g := []) (K := []) (by decide +kernel) rfl rfl rfl rfl jk0 ?_
  refine ev_new (T := tT128) (a := 67) (o := 6) (idx := 27) (ci := 3) (by decide +kernel) (by decide +kernel) rfl (by decide +kernel) (by decide) jcl_6_27 jis_3 ji_3 (Nat.le_of_ble_eq_true rfl) (Nat.le_of_ble_eq_true rfl) ?_
  show Ev l G _ _ _ _ _ _ _ _ _ [.ref 67, .ref 38] (jmk tT129) tW150
  refine ev_seg (r := jmk tT129) (o := 6) (nL := 2) (q := 194) (xs := [(.dup, 1, 0, 0, .null), (.sipush 512, 3, 0, 0, .int 512), (.iconst 5, 1, 0, 0, .int 5)]) (L' := [some (.ref 38), none]) (st' := [.int 5, .int 512, .ref 67, .ref 67, .ref 38]) (w' := tW150) (g := []) (K := []) (by decide +kernel) rfl rfl rfl rfl jk0 ?_
  refine ev_callI (r := jmk tT129) (w := tW150) (y2 := y_Rows_init) (o := 6) (idx := 29) (a := 67) (d2 := (1, 21)) (n := 2) (mc2 := 1) (ms2 := 2560) (As := [.int 512, .int 5]) (st := [.ref 67, .ref 38]) (res2 := (none, jmk tT131, tW153)) (by decide +kernel) rfl lk_6_29 mo_Rows_init mi_Rows_init ⟨Nat.le_of_ble_eq_true rfl, Nat.le_of_ble_eq_true rfl⟩ rfl rfl (Nat.le_of_ble_eq_true rfl) ⟨Nat.le_of_ble_eq_true rfl, Nat.le_of_ble_eq_true rfl⟩ hG (jct32 hG) ?_
  show Ev l G _ _ _ _ _ _ _ _ _ [.ref 67, .ref 38] (jmk tT131) tW153
  refine ev_putr (T := tT131) (o := 6) (idx := 70) (ci := 6) (k := 16) (a := 38) (b := 67) (by decide +kernel) rfl (by decide +kernel) rfl rfl rfl rfl (by decide +kernel) (by decide +kernel) (by decide +kernel) (by decide) ?_
  show Ev l G _ _ _ _ _ _ _ _ _ _ (jmk tT132) tW153
  refine ev_seg (r := jmk tT132) (o := 6) (nL := 2) (q := 201) (xs := [(.aload_n 0, 1, 0, 0, .null)]) (L' := [some (.ref 38), none]) (st' := [.ref 38]) (w' := tW153) (g := []) (K := []) (by decide +kernel) rfl rfl rfl rfl jk0 ?_
  refine ev_new (T := tT132) (a := 69) (o := 6) (idx := 27) (ci := 3) (by decide +kernel) (by decide +kernel) rfl (by decide +kernel) (by decide) jcl_6_27 jis_3 ji_3 (Nat.le_of_ble_eq_true rfl) (Nat.le_of_ble_eq_true rfl) ?_
  show Ev l G _ _ _ _ _ _ _ _ _ [.ref 69, .ref 38] (jmk tT133) tW154
  refine ev_seg (r := jmk tT133) (o := 6) (nL := 2) (q := 208) (xs := [(.dup, 1, 0, 0, .null), (.bipush 60, 2, 0, 0, .int 60), (.iconst 2, 1, 0, 0, .int 2)]) (L' := [some (.ref 38), none]) (st' := [.int 2, .int 60, .ref 69, .ref 69, .ref 38]) (w' := tW154) (g := []) (K := []) (by decide +kernel) rfl rfl rfl rfl jk0 ?_
  refine ev_callI (r := jmk tT133) (w := tW154) (y2 := y_Rows_init) (o := 6) (idx := 29) (a := 69) (d2 := (1, 21)) (n := 2) (mc2 := 1) (ms2 := 120) (As := [.int 60, .int 2]) (st := [.ref 69, .ref 38]) (res2 := (none, jmk tT135, tW157)) (by decide +kernel) rfl lk_6_29 mo_Rows_init mi_Rows_init ⟨Nat.le_of_ble_eq_true rfl, Nat.le_of_ble_eq_true rfl⟩ rfl rfl (Nat.le_of_ble_eq_true rfl) ⟨Nat.le_of_ble_eq_true rfl, Nat.le_of_ble_eq_true rfl⟩ hG (jct33 hG) ?_
  show Ev l G _ _ _ _ _ _ _ _ _ [.ref 69, .ref 38] (jmk tT135) tW157
  refine ev_putr (T := tT135) (o := 6) (idx := 73) (ci := 6) (k := 17) (a := 38) (b := 69) (by decide +kernel) rfl (by decide +kernel) rfl rfl rfl rfl (by decide +kernel) (by decide +kernel) (by decide +kernel) (by decide) ?_
  show Ev l G _ _ _ _ _ _ _ _ _ _ (jmk tT136) tW157
  refine ev_seg (r := jmk tT136) (o := 6) (nL := 2) (q := 215) (xs := [(.aload_n 0, 1, 0, 0, .null)]) (L' := [some (.ref 38), none]) (st' := [.ref 38]) (w' := tW157) (g := []) (K := []) (by decide +kernel) rfl rfl rfl rfl jk0 ?_
  refine ev_new (T := tT136) (a := 71) (o := 6) (idx := 27) (ci := 3) (by decide +kernel) (by decide +kernel) rfl (by decide +kernel) (by decide) jcl_6_27 jis_3 ji_3 (Nat.le_of_ble_eq_true rfl) (Nat.le_of_ble_eq_true rfl) ?_
  show Ev l G _ _ _ _ _ _ _ _ _ [.ref 71, .ref 38] (jmk tT137) tW158
  refine ev_seg (r := jmk tT137) (o := 6) (nL := 2) (q := 222) (xs := [(.dup, 1, 0, 0, .null), (.bipush 60, 2, 0, 0, .int 60), (.iconst 2, 1, 0, 0, .int 2)]) (L' := [some (.ref 38), none]) (st' := [.int 2, .int 60, .ref 71, .ref 71, .ref 38]) (w' := tW158) (g := []) (K := []) (by decide +kernel) rfl rfl rfl rfl jk0 ?_
  refine ev_callI (r := jmk tT137) (w := tW158) (y2 := y_Rows_init) (o := 6) (idx := 29) (a := 71) (d2 := (1, 21)) (n := 2) (mc2 := 1) (ms2 := 120) (As := [.int 60, .int 2]) (st := [.ref 71, .ref 38]) (res2 := (none, jmk tT139, tW161)) (by decide +kernel) rfl lk_6_29 mo_Rows_init mi_Rows_init ⟨Nat.le_of_ble_eq_true rfl, Nat.le_of_ble_eq_true rfl⟩ rfl rfl (Nat.le_of_ble_eq_true rfl) ⟨Nat.le_of_ble_eq_true rfl, Nat.le_of_ble_eq_true rfl⟩ hG (jct34 hG) ?_
  show Ev l G _ _ _ _ _ _ _ _ _ [.ref 71, .ref 38] (jmk tT139) tW161
  refine ev_putr (T := tT139) (o := 6) (idx := 76) (ci := 6) (k := 18) (a := 38) (b := 71) (by decide +kernel) rfl (by decide +kernel) rfl rfl rfl rfl (by decide +kernel) (by decide +kernel) (by decide +kernel) (by decide) ?_
  show Ev l G _ _ _ _ _ _ _ _ _ _ (jmk tT140) tW161
  refine ev_seg (r := jmk tT140) (o := 6) (nL := 2) (q := 232) (xs := [(.iconst 0, 1, 0, 0, .int 0), (.istore_n 1, 1, 1, 0, .null), (.iload_n 1, 1, 1, 0, .null), (.iconst 4, 1, 0, 0, .int 4)]) (L' := [some (.ref 38), some (.int 0)]) (st' := [.int 4, .int 0]) (w' := tW161) (g := []) (K := []) (by decide +kernel) rfl rfl rfl rfl jk0 ?_
  refine ev_icmp_ge (off := 52) (tgt := 284) (by decide +kernel) (by decide) (fun c => absurd c (by decide +kernel)) (fun c => ?_)
  refine ev_seg (r := jmk tT140) (o := 6) (nL := 2) (q := 240) (xs := [(.aload_n 0, 1, 0, 0, .null), (.getfield 32, 3, 6, 5, .ref 3), (.iconst 1, 1, 0, 0, .int 1)]) (L' := [some (.ref 38), some (.int 0)]) (st' := [.int 1, .ref 39]) (w' := tW161) (g := []) (K := [(39, 3), (38, 6)]) (by decide +kernel) rfl rfl rfl rfl (jk1 (by decide +kernel) (jk1 (by decide +kernel) jk0)) ?_
  refine ev_callV (ci := 3) (a := 39) (r := jmk tT140) (w := tW161) (y2 := y_Rows_open) (o := 6) (idx := 79) (d2 := d_Rows_open) (n := 1) (mc2 := 0) (ms2 := 0) (As := [.int 1])  (st := []) (res2 := (some (.int jZ16.1), jmk tT140, tW162)) (by decide +kernel) rfl lk_6_79 mo_Rows_open mv_Rows_open ⟨Nat.le_of_ble_eq_true rfl, Nat.le_of_ble_eq_true rfl⟩ rfl rfl (by decide +kernel) (by decide) rfl (Nat.le_of_ble_eq_true rfl) ⟨Nat.le_of_ble_eq_true rfl, Nat.le_of_ble_eq_true rfl⟩ hG (e_Rows_open_g hG (by decide +kernel) (by decide +kernel) jZ16_ok) ?_
  show Ev l G _ _ _ _ _ _ _ _ _ [.int jZ16.1] (jmk tT140) tW162
  refine ev_seg (r := jmk tT140) (o := 6) (nL := 2) (q := 253) (xs := [(.pop, 1, 0, 0, .null), (.aload_n 0, 1, 0, 0, .null), (.getfield 32, 3, 6, 5, .ref 3), (.iload_n 1, 1, 1, 0, .null), (.iconst 1, 1, 0, 0, .int 1), (.sipush 200, 3, 0, 0, .int 200)]) (L' := [some (.ref 38), some (.int 0)]) (st' := [.int 200, .int 1, .int 0, .ref 39]) (w' := tW162) (g := []) (K := [(39, 3), (38, 6)]) (by decide +kernel) rfl rfl rfl rfl (jk1 (by decide +kernel) (jk1 (by decide +kernel) jk0)) ?_
  refine ev_callV (ci := 3) (a := 39) (r := jmk tT140) (w := tW162) (y2 := y_Rows_put) (o := 6) (idx := 83) (d2 := d_Rows_put) (n := 3) (mc2 := 0) (ms2 := 0) (As := [.int 0, .int 1, .int 200])  (st := []) (res2 := (none, jmk tT140, tW163)) (by decide +kernel) rfl lk_6_83 mo_Rows_put mv_Rows_put ⟨Nat.le_of_ble_eq_true rfl, Nat.le_of_ble_eq_true rfl⟩ rfl rfl (by decide +kernel) (by decide) rfl (Nat.le_of_ble_eq_true rfl) ⟨Nat.le_of_ble_eq_true rfl, Nat.le_of_ble_eq_true rfl⟩ hG (e_Rows_put_g hG (by decide +kernel) (by decide +kernel) jZ17_ok) ?_
  show Ev l G _ _ _ _ _ _ _ _ _ [] (jmk tT140) tW163
  refine ev_seg (r := jmk tT140) (o := 6) (nL := 2) (q := 263) (xs := [(.aload_n 0, 1, 0, 0, .null), (.getfield 32, 3, 6, 5, .ref 3), (.iload_n 1, 1, 1, 0, .null), (.iconst 2, 1, 0, 0, .int 2), (.iconst 1, 1, 0, 0, .int 1)]) (L' := [some (.ref 38), some (.int 0)]) (st' := [.int 1, .int 2, .int 0, .ref 39]) (w' := tW163) (g := []) (K := [(39, 3), (38, 6)]) (by decide +kernel) rfl rfl rfl rfl (jk1 (by decide +kernel) (jk1 (by decide +kernel) jk0)) ?_
  refine ev_callV (ci := 3) (a := 39) (r := jmk tT140) (w := tW163) (y2 := y_Rows_put) (o := 6) (idx := 83) (d2 := d_Rows_put) (n := 3) (mc2 := 0) (ms2 := 0) (As := [.int 0, .int 2, .int 1])  (st := []) (res2 := (none, jmk tT140, tW164)) (by decide +kernel) rfl lk_6_83 mo_Rows_put mv_Rows_put ⟨Nat.le_of_ble_eq_true rfl, Nat.le_of_ble_eq_true rfl⟩ rfl rfl (by decide +kernel) (by decide) rfl (Nat.le_of_ble_eq_true rfl) ⟨Nat.le_of_ble_eq_true rfl, Nat.le_of_ble_eq_true rfl⟩ hG (e_Rows_put_g hG (by decide +kernel) (by decide +kernel) jZ18_ok) ?_
  show Ev l G _ _ _ _ _ _ _ _ _ [] (jmk tT140) tW164
  refine ev_seg (r := jmk tT140) (o := 6) (nL := 2) (q := 275) (xs := [(.aload_n 0, 1, 0, 0, .null), (.getfield 32, 3, 6, 5, .ref 3), (.iload_n 1, 1, 1, 0, .null), (.iconst 3, 1, 0, 0, .int 3), (.sipush 500, 3, 0, 0, .int 500)]) (L' := [some (.ref 38), some (.int 0)]) (st' := [.int 500, .int 3, .int 0, .ref 39]) (w' := tW164) (g := []) (K := [(39, 3), (38, 6)]) (by decide +kernel) rfl rfl rfl rfl (jk1 (by decide +kernel) (jk1 (by decide +kernel) jk0)) ?_
  refine ev_callV (ci := 3) (a := 39) (r := jmk tT140) (w := tW164) (y2 := y_Rows_put) (o := 6) (idx := 83) (d2 := d_Rows_put) (n := 3) (mc2 := 0) (ms2 := 0) (As := [.int 0, .int 3, .int 500])  (st := []) (res2 := (none, jmk tT140, tW165)) (by decide +kernel) rfl lk_6_83 mo_Rows_put mv_Rows_put ⟨Nat.le_of_ble_eq_true rfl, Nat.le_of_ble_eq_true rfl⟩ rfl rfl (by decide +kernel) (by decide) rfl (Nat.le_of_ble_eq_true rfl) ⟨Nat.le_of_ble_eq_true rfl, Nat.le_of_ble_eq_true rfl⟩ hG (e_Rows_put_g hG (by decide +kernel) (by decide +kernel) jZ19_ok) ?_
  show Ev l G _ _ _ _ _ _ _ _ _ [] (jmk tT140) tW165
  refine ev_seg (r := jmk tT140) (o := 6) (nL := 2) (q := 232) (xs := [(.iinc 1 1, 3, 1, 0, .int 1), (.goto (-51), 3, 0, 0, .null), (.iload_n 1, 1, 1, 0, .null), (.iconst 4, 1, 0, 0, .int 4)]) (L' := [some (.ref 38), some (.int (0 + 1))]) (st' := [.int 4, .int (0 + 1)]) (w' := tW165) (g := []) (K := []) (by decide +kernel) rfl rfl rfl rfl jk0 ?_
  refine ev_icmp_ge (off := 52) (tgt := 284) (by decide +kernel) (by decide) (fun c => absurd c (by decide +kernel)) (fun c => ?_)
  refine ev_seg (r := jmk tT140) (o := 6) (nL := 2) (q := 240) (xs := [(.aload_n 0, 1, 0, 0, .null), (.getfield 32, 3, 6, 5, .ref 3), (.iconst 1, 1, 0, 0, .int 1)]) (L' := [some (.ref 38), some (.int (0 + 1))]) (st' := [.int 1, .ref 39]) (w' := tW165) (g := []) (K := [(39, 3), (38, 6)]) (by decide +kernel) rfl rfl rfl rfl (jk1 (by decide +kernel) (jk1 (by decide +kernel) jk0)) ?_
  refine ev_callV (ci := 3) (a := 39) (r := jmk tT140) (w := tW165) (y2 := y_Rows_open) (o := 6) (idx := 79) (d2 := d_Rows_open) (n := 1) (mc2 := 0) (ms2 := 0) (As := [.int 1])  (st := []) (res2 := (some (.int jZ20.1), jmk tT140, tW166)) (by decide +kernel) rfl lk_6_79 mo_Rows_open mv_Rows_open ⟨Nat.le_of_ble_eq_true rfl, Nat.le_of_ble_eq_true rfl⟩ rfl rfl (by decide +kernel) (by decide) rfl (Nat.le_of_ble_eq_true rfl) ⟨Nat.le_of_ble_eq_true rfl, Nat.le_of_ble_eq_true rfl⟩ hG (e_Rows_open_g hG (by decide +kernel) (by decide +kernel) jZ20_ok) ?_
  show Ev l G _ _ _ _ _ _ _ _ _ [.int jZ20.1] (jmk tT140) tW166
  refine ev_seg (r := jmk tT140) (o := 6) (nL := 2) (q := 253) (xs := [(.pop, 1, 0, 0, .null), (.aload_n 0, 1, 0, 0, .null), (.getfield 32, 3, 6, 5, .ref 3), (.iload_n 1, 1, 1, 0, .null), (.iconst 1, 1, 0, 0, .int 1), (.sipush 200, 3, 0, 0, .int 200)]) (L' := [some (.ref 38), some (.int (0 + 1))]) (st' := [.int 200, .int 1, .int (0 + 1), .ref 39]) (w' := tW166) (g := []) (K := [(39, 3), (38, 6)]) (by decide +kernel) rfl rfl rfl rfl (jk1 (by decide +kernel) (jk1 (by decide +kernel) jk0)) ?_
  refine ev_callV (ci := 3) (a := 39) (r := jmk tT140) (w := tW166) (y2 := y_Rows_put) (o := 6) (idx := 83) (d2 := d_Rows_put) (n := 3) (mc2 := 0) (ms2 := 0) (As := [.int (0 + 1), .int 1, .int 200])  (st := []) (res2 := (none, jmk tT140, tW167)) (by decide +kernel) rfl lk_6_83 mo_Rows_put mv_Rows_put ⟨Nat.le_of_ble_eq_true rfl, Nat.le_of_ble_eq_true rfl⟩ rfl rfl (by decide +kernel) (by decide) rfl (Nat.le_of_ble_eq_true rfl) ⟨Nat.le_of_ble_eq_true rfl, Nat.le_of_ble_eq_true rfl⟩ hG (e_Rows_put_g hG (by decide +kernel) (by decide +kernel) jZ21_ok) ?_
  show Ev l G _ _ _ _ _ _ _ _ _ [] (jmk tT140) tW167
  refine ev_seg (r := jmk tT140) (o := 6) (nL := 2) (q := 263) (xs := [(.aload_n 0, 1, 0, 0, .null), (.getfield 32, 3, 6, 5, .ref 3), (.iload_n 1, 1, 1, 0, .null), (.iconst 2, 1, 0, 0, .int 2), (.iconst 1, 1, 0, 0, .int 1)]) (L' := [some (.ref 38), some (.int (0 + 1))]) (st' := [.int 1, .int 2, .int (0 + 1), .ref 39]) (w' := tW167) (g := []) (K := [(39, 3), (38, 6)]) (by decide +kernel) rfl rfl rfl rfl (jk1 (by decide +kernel) (jk1 (by decide +kernel) jk0)) ?_
  refine ev_callV (ci := 3) (a := 39) (r := jmk tT140) (w := tW167) (y2 := y_Rows_put) (o := 6) (idx := 83) (d2 := d_Rows_put) (n := 3) (mc2 := 0) (ms2 := 0) (As := [.int (0 + 1), .int 2, .int 1])  (st := []) (res2 := (none, jmk tT140, tW168)) (by decide +kernel) rfl lk_6_83 mo_Rows_put mv_Rows_put ⟨Nat.le_of_ble_eq_true rfl, Nat.le_of_ble_eq_true rfl⟩ rfl rfl (by decide +kernel) (by decide) rfl (Nat.le_of_ble_eq_true rfl) ⟨Nat.le_of_ble_eq_true rfl, Nat.le_of_ble_eq_true rfl⟩ hG (e_Rows_put_g hG (by decide +kernel) (by decide +kernel) jZ22_ok) ?_
  show Ev l G _ _ _ _ _ _ _ _ _ [] (jmk tT140) tW168
  refine ev_seg (r := jmk tT140) (o := 6) (nL := 2) (q := 275) (xs := [(.aload_n 0, 1, 0, 0, .null), (.getfield 32, 3, 6, 5, .ref 3), (.iload_n 1, 1, 1, 0, .null), (.iconst 3, 1, 0, 0, .int 3), (.sipush 500, 3, 0, 0, .int 500)]) (L' := [some (.ref 38), some (.int (0 + 1))]) (st' := [.int 500, .int 3, .int (0 + 1), .ref 39]) (w' := tW168) (g := []) (K := [(39, 3), (38, 6)]) (by decide +kernel) rfl rfl rfl rfl (jk1 (by decide +kernel) (jk1 (by decide +kernel) jk0)) ?_
  refine ev_callV (ci := 3) (a := 39) (r := jmk tT140) (w := tW168) (y2 := y_Rows_put) (o := 6) (idx := 83) (d2 := d_Rows_put) (n := 3) (mc2 := 0) (ms2 := 0) (As := [.int (0 + 1), .int 3, .int 500])  (st := []) (res2 := (none, jmk tT140, tW169)) (by decide +kernel) rfl lk_6_83 mo_Rows_put mv_Rows_put ⟨Nat.le_of_ble_eq_true rfl, Nat.le_of_ble_eq_true rfl⟩ rfl rfl (by decide +kernel) (by decide) rfl (Nat.le_of_ble_eq_true rfl) ⟨Nat.le_of_ble_eq_true rfl, Nat.le_of_ble_eq_true rfl⟩ hG (e_Rows_put_g hG (by decide +kernel) (by decide +kernel) jZ23_ok) ?_
  show Ev l G _ _ _ _ _ _ _ _ _ [] (jmk tT140) tW169
  refine ev_seg (r := jmk tT140) (o := 6) (nL := 2) (q := 232) (xs := [(.iinc 1 1, 3, 1, 0, .int 1), (.goto (-51), 3, 0, 0, .null), (.iload_n 1, 1, 1, 0, .null), (.iconst 4, 1, 0, 0, .int 4)]) (L' := [some (.ref 38), some (.int ((0 + 1) + 1))]) (st' := [.int 4, .int ((0 + 1) + 1)]) (w' := tW169) (g := []) (K := []) (by decide +kernel) rfl rfl rfl rfl jk0 ?_
  refine ev_icmp_ge (off := 52) (tgt := 284) (by decide +kernel) (by decide) (fun c => absurd c (by decide +kernel)) (fun c => ?_)
  refine ev_seg (r := jmk tT140) (o := 6) (nL := 2) (q := 240) (xs := [(.aload_n 0, 1, 0, 0, .null), (.getfield 32, 3, 6, 5, .ref 3), (.iconst 1, 1, 0, 0, .int 1)]) (L' := [some (.ref 38), some (.int ((0 + 1) + 1))]) (st' := [.int 1, .ref 39]) (w' := tW169) (g := []) (K := [(39, 3), (38, 6)]) (by decide +kernel) rfl rfl rfl rfl (jk1 (by decide +kernel) (jk1 (by decide +kernel) jk0)) ?_
  refine ev_callV (ci := 3) (a := 39) (r := jmk tT140) (w := tW169) (y2 := y_Rows_open) (o := 6) (idx := 79) (d2 := d_Rows_open) (n := 1) (mc2 := 0) (ms2 := 0) (As := [.int 1])  (st := []) (res2 := (some (.int jZ24.1), jmk tT140, tW170)) (by decide +kernel) rfl lk_6_79 mo_Rows_open mv_Rows_open ⟨Nat.le_of_ble_eq_true rfl, Nat.le_of_ble_eq_true rfl⟩ rfl rfl (by decide +kernel) (by decide) rfl (Nat.le_of_ble_eq_true rfl) ⟨Nat.le_of_ble_eq_true rfl, Nat.le_of_ble_eq_true rfl⟩ hG (e_Rows_open_g hG (by decide +kernel) (by decide +kernel) jZ24_ok) ?_
  show Ev l G _ _ _ _ _ _ _ _ _ [.int jZ24.1] (jmk tT140) tW170
  refine ev_seg (r := jmk tT140) (o := 6) (nL := 2) (q := 253) (xs := [(.pop, 1, 0, 0, .null), (.aload_n 0, 1, 0, 0, .null), (.getfield 32, 3, 6, 5, .ref 3), (.iload_n 1, 1, 1, 0, .null), (.iconst 1, 1, 0, 0, .int 1), (.sipush 200, 3, 0, 0, .int 200)]) (L' := [some (.ref 38), some (.int ((0 + 1) + 1))]) (st' := [.int 200, .int 1, .int ((0 + 1) + 1), .ref 39]) (w' := tW170) (g := []) (K := [(39, 3), (38, 6)]) (by decide +kernel) rfl rfl rfl rfl (jk1 (by decide +kernel) (jk1 (by decide +kernel) jk0)) ?_
  refine ev_callV (ci := 3) (a := 39) (r := jmk tT140) (w := tW170) (y2 := y_Rows_put) (o := 6) (idx := 83) (d2 := d_Rows_put) (n := 3) (mc2 := 0) (ms2 := 0) (As := [.int ((0 + 1) + 1), .int 1, .int 200])  (st := []) (res2 := (none, jmk tT140, tW171)) (by decide +kernel) rfl lk_6_83 mo_Rows_put mv_Rows_put ⟨Nat.le_of_ble_eq_true rfl, Nat.le_of_ble_eq_true rfl⟩ rfl rfl (by decide +kernel) (by decide) rfl (Nat.le_of_ble_eq_true rfl) ⟨Nat.le_of_ble_eq_true rfl, Nat.le_of_ble_eq_true rfl⟩ hG (e_Rows_put_g hG (by decide +kernel) (by decide +kernel) jZ25_ok) ?_
  show Ev l G _ _ _ _ _ _ _ _ _ [] (jmk tT140) tW171
  refine ev_seg (r := jmk tT140) (o := 6) (nL := 2) (q := 263) (xs := [(.aload_n 0, 1, 0, 0, .null), (.getfield 32, 3, 6, 5, .ref 3), (.iload_n 1, 1, 1, 0, .null), (.iconst 2, 1, 0, 0, .int 2), (.iconst 1, 1, 0, 0, .int 1)]) (L' := [some (.ref 38), some (.int ((0 + 1) + 1))]) (st' := [.int 1, .int 2, .int ((0 + 1) + 1), .ref 39]) (w' := tW171) (g := []) (K := [(39, 3), (38, 6)]) (by decide +kernel) rfl rfl rfl rfl (jk1 (by decide +kernel) (jk1 (by decide +kernel) jk0)) ?_
  refine ev_callV (ci := 3) (a := 39) (r := jmk tT140) (w := tW171) (y2 := y_Rows_put) (o := 6) (idx := 83) (d2 := d_Rows_put) (n := 3) (mc2 := 0) (ms2 := 0) (As := [.int ((0 + 1) + 1), .int 2, .int 1])  (st := []) (res2 := (none, jmk tT140, tW172)) (by decide +kernel) rfl lk_6_83 mo_Rows_put mv_Rows_put ⟨Nat.le_of_ble_eq_true rfl, Nat.le_of_ble_eq_true rfl⟩ rfl rfl (by decide +kernel) (by decide) rfl (Nat.le_of_ble_eq_true rfl) ⟨Nat.le_of_ble_eq_true rfl, Nat.le_of_ble_eq_true rfl⟩ hG (e_Rows_put_g hG (by decide +kernel) (by decide +kernel) jZ26_ok) ?_
  show Ev l G _ _ _ _ _ _ _ _ _ [] (jmk tT140) tW172
  refine ev_seg (r := jmk tT140) (o := 6) (nL := 2) (q := 275) (xs := [(.aload_n 0, 1, 0, 0, .null), (.getfield 32, 3, 6, 5, .ref 3), (.iload_n 1, 1, 1, 0, .null), (.iconst 3, 1, 0, 0, .int 3), (.sipush 500, 3, 0, 0, .int 500)]) (L' := [some (.ref 38), some (.int ((0 + 1) + 1))]) (st' := [.int 500, .int 3, .int ((0 + 1) + 1), .ref 39]) (w' := tW172) (g := []) (K := [(39, 3), (38, 6)]) (by decide +kernel) rfl rfl rfl rfl (jk1 (by decide +kernel) (jk1 (by decide +kernel) jk0)) ?_
  refine ev_callV (ci := 3) (a := 39) (r := jmk tT140) (w := tW172) (y2 := y_Rows_put) (o := 6) (idx := 83) (d2 := d_Rows_put) (n := 3) (mc2 := 0) (ms2 := 0) (As := [.int ((0 + 1) + 1), .int 3, .int 500])  (st := []) (res2 := (none, jmk tT140, tW173)) (by decide +kernel) rfl lk_6_83 mo_Rows_put mv_Rows_put ⟨Nat.le_of_ble_eq_true rfl, Nat.le_of_ble_eq_true rfl⟩ rfl rfl (by decide +kernel) (by decide) rfl (Nat.le_of_ble_eq_true rfl) ⟨Nat.le_of_ble_eq_true rfl, Nat.le_of_ble_eq_true rfl⟩ hG (e_Rows_put_g hG (by decide +kernel) (by decide +kernel) jZ27_ok) ?_
  show Ev l G _ _ _ _ _ _ _ _ _ [] (jmk tT140) tW173
  refine ev_seg (r := jmk tT140) (o := 6) (nL := 2) (q := 232) (xs := [(.iinc 1 1, 3, 1, 0, .int 1), (.goto (-51), 3, 0, 0, .null), (.iload_n 1, 1, 1, 0, .null), (.iconst 4, 1, 0, 0, .int 4)]) (L' := [some (.ref 38), some (.int (((0 + 1) + 1) + 1))]) (st' := [.int 4, .int (((0 + 1) + 1) + 1)]) (w' := tW173) (g := []) (K := []) (by decide +kernel) rfl rfl rfl rfl jk0 ?_
  refine ev_icmp_ge (off := 52) (tgt := 284) (by decide +kernel) (by decide) (fun c => absurd c (by decide +kernel)) (fun c => ?_)
  refine ev_seg (r := jmk tT140) (o := 6) (nL := 2) (q := 240) (xs := [(.aload_n 0, 1, 0, 0, .null), (.getfield 32, 3, 6, 5, .ref 3), (.iconst 1, 1, 0, 0, .int 1)]) (L' := [some (.ref 38), some (.int (((0 + 1) + 1) + 1))]) (st' := [.int 1, .ref 39]) (w' := tW173) (g := []) (K := [(39, 3), (38, 6)]) (by decide +kernel) rfl rfl rfl rfl (jk1 (by decide +kernel) (jk1 (by decide +kernel) jk0)) ?_
  refine ev_callV (ci := 3) (a := 39) (r := jmk tT140) (w := tW173) (y2 := y_Rows_open) (o := 6) (idx := 79) (d2 := d_Rows_open) (n := 1) (mc2 := 0) (ms2 := 0) (As := [.int 1])  (st := []) (res2 := (some (.int jZ28.1), jmk tT140, tW174)) (by decide +kernel) rfl lk_6_79 mo_Rows_open mv_Rows_open ⟨Nat.le_of_ble_eq_true rfl, Nat.le_of_ble_eq_true rfl⟩ rfl rfl (by decide +kernel) (by decide) rfl (Nat.le_of_ble_eq_true rfl) ⟨Nat.le_of_ble_eq_true rfl, Nat.le_of_ble_eq_true rfl⟩ hG (e_Rows_open_g hG (by decide +kernel) (by decide +kernel) jZ28_ok) ?_
  show Ev l G _ _ _ _ _ _ _ _ _ [.int jZ28.1] (jmk tT140) tW174
  refine ev_seg (r := jmk tT140) (o := 6) (nL := 2) (q := 253) (xs := [(.pop, 1, 0, 0, .null), (.aload_n 0, 1, 0, 0, .null), (.getfield 32, 3, 6, 5, .ref 3), (.iload_n 1, 1, 1, 0, .null), (.iconst 1, 1, 0, 0, .int 1), (.sipush 200, 3, 0, 0, .int 200)]) (L' := [some (.ref 38), some (.int (((0 + 1) + 1) + 1))]) (st' := [.int 200, .int 1, .int (((0 + 1) + 1) + 1), .ref 39]) (w' := tW174) (g := []) (K := [(39, 3), (38, 6)]) (by decide +kernel) rfl rfl rfl rfl (jk1 (by decide +kernel) (jk1 (by decide +kernel) jk0)) ?_
  refine ev_callV (ci := 3) (a := 39) (r := jmk tT140) (w := tW174) (y2 := y_Rows_put) (o := 6) (idx := 83) (d2 := d_Rows_put) (n := 3) (mc2 := 0) (ms2 := 0) (As := [.int (((0 + 1) + 1) + 1), .int 1, .int 200])  (st := []) (res2 := (none, jmk tT140, tW175)) (by decide +kernel) rfl lk_6_83 mo_Rows_put mv_Rows_put ⟨Nat.le_of_ble_eq_true rfl, Nat.le_of_ble_eq_true rfl⟩ rfl rfl (by decide +kernel) (by decide) rfl (Nat.le_of_ble_eq_true rfl) ⟨Nat.le_of_ble_eq_true rfl, Nat.le_of_ble_eq_true rfl⟩ hG (e_Rows_put_g hG (by decide +kernel) (by decide +kernel) jZ29_ok) ?_
  show Ev l G _ _ _ _ _ _ _ _ _ [] (jmk tT140) tW175
  refine ev_seg (r := jmk tT140) (o := 6) (nL := 2) (q := 263) (xs := [(.aload_n 0, 1, 0, 0, .null), (.getfield 32, 3, 6, 5, .ref 3), (.iload_n 1, 1, 1, 0, .null), (.iconst 2, 1, 0, 0, .int 2), (.iconst 1, 1, 0, 0, .int 1)]) (L' := [some (.ref 38), some (.int (((0 + 1) + 1) + 1))]) (st' := [.int 1, .int 2, .int (((0 + 1) + 1) + 1), .ref 39]) (w' := tW175) (g := []) (K := [(39, 3), (38, 6)]) (by decide +kernel) rfl rfl rfl rfl (jk1 (by decide +kernel) (jk1 (by decide +kernel) jk0)) ?_
  refine ev_callV (ci := 3) (a := 39) (r := jmk tT140) (w := tW175) (y2 := y_Rows_put) (o := 6) (idx := 83) (d2 := d_Rows_put) (n := 3) (mc2 := 0) (ms2 := 0) (As := [.int (((0 + 1) + 1) + 1), .int 2, .int 1])  (st := []) (res2 := (none, jmk tT140, tW176)) (by decide +kernel) rfl lk_6_83 mo_Rows_put mv_Rows_put ⟨Nat.le_of_ble_eq_true rfl, Nat.le_of_ble_eq_true rfl⟩ rfl rfl (by decide +kernel) (by decide) rfl (Nat.le_of_ble_eq_true rfl) ⟨Nat.le_of_ble_eq_true rfl, Nat.le_of_ble_eq_true rfl⟩ hG (e_Rows_put_g hG (by decide +kernel) (by decide +kernel) jZ30_ok) ?_
  show Ev l G _ _ _ _ _ _ _ _ _ [] (jmk tT140) tW176
  refine ev_seg (r := jmk tT140) (o := 6) (nL := 2) (q := 275) (xs := [(.aload_n 0, 1, 0, 0, .null), (.getfield 32, 3, 6, 5, .ref 3), (.iload_n 1, 1, 1, 0, .null), (.iconst 3, 1, 0, 0, .int 3), (.sipush 500, 3, 0, 0, .int 500)]) (L' := [some (.ref 38), some (.int (((0 + 1) + 1) + 1))]) (st' := [.int 500, .int 3, .int (((0 + 1) + 1) + 1), .ref 39]) (w' := tW176) (g := []) (K := [(39, 3), (38, 6)]) (by decide +kernel) rfl rfl rfl rfl (jk1 (by decide +kernel) (jk1 (by decide +kernel) jk0)) ?_
  refine ev_callV (ci := 3) (a := 39) (r := jmk tT140) (w := tW176) (y2 := y_Rows_put) (o := 6) (idx := 83) (d2 := d_Rows_put) (n := 3) (mc2 := 0) (ms2 := 0) (As := [.int (((0 + 1) + 1) + 1), .int 3, .int 500])  (st := []) (res2 := (none, jmk tT140, tW177)) (by decide +kernel) rfl lk_6_83 mo_Rows_put mv_Rows_put ⟨Nat.le_of_ble_eq_true rfl, Nat.le_of_ble_eq_true rfl⟩ rfl rfl (by decide +kernel) (by decide) rfl (Nat.le_of_ble_eq_true rfl) ⟨Nat.le_of_ble_eq_true rfl, Nat.le_of_ble_eq_true rfl⟩ hG (e_Rows_put_g hG (by decide +kernel) (by decide +kernel) jZ31_ok) ?_
  show Ev l G _ _ _ _ _ _ _ _ _ [] (jmk tT140) tW177
  refine ev_seg (r := jmk tT140) (o := 6) (nL := 2) (q := 232) (xs := [(.iinc 1 1, 3, 1, 0, .int 1), (.goto (-51), 3, 0, 0, .null), (.iload_n 1, 1, 1, 0, .null), (.iconst 4, 1, 0, 0, .int 4)]) (L' := [some (.ref 38), some (.int ((((0 + 1) + 1) + 1) + 1))]) (st' := [.int 4, .int ((((0 + 1) + 1) + 1) + 1)]) (w' := tW177) (g := []) (K := []) (by decide +kernel) rfl rfl rfl rfl jk0 ?_
  refine ev_icmp_ge (off := 52) (tgt := 284) (by decide +kernel) (by decide) (fun c => ?_) (fun c => absurd c (by decide +kernel))
  exact ev_vret (by decide +kernel) rfl rfl rfl rfl
def tT141 : jT := jtr tT140 2 1 38
def tT142 : jT := jtn tT141 2 0 8
def tW178 : jW := jzr tW177 73
def tT143 : jT := jtn tT142 3 0 3
def tW179 : jW := jzr tW178 74
def tW180 : jW := (jup tW179.1 74 0 (if (1 : Int32) < 4 then 4 else 1), tW179.2)
def tT144 : jT := jtn tT143 20 64 0
def tW181 : jW := jzr tW180 75
def tT145 : jT := jtr tT144 74 1 75
def tW182 : jW := (jup tW181.1 74 2 0, tW181.2)
set_option maxRecDepth 200000 in
theorem jct36 {l : Launch} {G : jG} (hG : jX G) : Ct l G y_Rows_init (1, 21) 1 64 [.ref 74, .int 16, .int 4] (jmk tT143) tW179 (none, jmk tT145, tW182) := by
  refine Ct.of (L := [some (.ref 74), some (.int 16), some (.int 4)]) (by decide) (Nat.le_of_ble_eq_true rfl) rfl ?_
  refine ev_seg (r := jmk tT143) (o := 3) (nL := 3) (q := 1) (xs := [(.aload_n 0, 1, 0, 0, .null)]) (L' := [some (.ref 74), some (.int 16), some (.int 4)]) (st' := [.ref 74]) (w' := tW179) (g := []) (K := []) (by decide +kernel) rfl rfl rfl rfl jk0 ?_
  refine ev_objI (o := 3) (idx := 3) (by decide +kernel) rfl lk_3_3 jobi jobc (Nat.le_of_ble_eq_true rfl) (Nat.le_of_ble_eq_true rfl) ?_
  refine ev_seg (r := jmk tT143) (o := 3) (nL := 3) (q := 7) (xs := [(.aload_n 0, 1, 0, 0, .null), (.iconst 1, 1, 0, 0, .int 1), (.iload_n 2, 1, 2, 0, .null)]) (L' := [some (.ref 74), some (.int 16), some (.int 4)]) (st' := [.int 4, .int 1, .ref 74]) (w' := tW179) (g := []) (K := []) (by decide +kernel) rfl rfl rfl rfl jk0 ?_
  refine ev_max (o := 3) (idx := 9) (by decide +kernel) rfl lk_3_9 ms_max hMath mc_max (Nat.le_of_ble_eq_true rfl) (Nat.le_of_ble_eq_true rfl) (Nat.le_of_ble_eq_true rfl) (Nat.le_of_ble_eq_true rfl) ?_
  refine ev_putiF (r := jmk tT143) (o := 3) (idx := 15) (ci := 3) (k := 0) (a := 74) (by decide +kernel) rfl (by decide +kernel) rfl rfl rfl rfl (by decide +kernel) ?_
  show Ev l G _ _ _ _ _ _ _ _ _ _ (jmk tT143) tW180
  refine ev_seg (r := jmk tT143) (o := 3) (nL := 3) (q := 21) (xs := [(.aload_n 0, 1, 0, 0, .null), (.iconst 1, 1, 0, 0, .int 1), (.iload_n 1, 1, 1, 0, .null), (.aload_n 0, 1, 0, 0, .null), (.getfield 15, 3, 3, 0, .int 0), (.imul, 1, 0, 0, .null)]) (L' := [some (.ref 74), some (.int 16), some (.int 4)]) (st' := [.int (16 * (tW180.1 74 0)), .int 1, .ref 74]) (w' := tW180) (g := []) (K := [(74, 3)]) (by decide +kernel) rfl rfl rfl rfl (jk1 (by decide +kernel) jk0) ?_
  refine ev_max (o := 3) (idx := 9) (by decide +kernel) rfl lk_3_9 ms_max hMath mc_max (Nat.le_of_ble_eq_true rfl) (Nat.le_of_ble_eq_true rfl) (Nat.le_of_ble_eq_true rfl) (Nat.le_of_ble_eq_true rfl) ?_
  refine jnewa (T := tT143) (a := 75) (kd := 20) (ty := .int) (atype := .int) (N := 64) (by decide +kernel) (by decide +kernel) rfl (by decide +kernel) (Or.inl ⟨rfl, rfl⟩) ja_int (by decide +kernel) (by decide +kernel) (Nat.le_of_ble_eq_true rfl) (Nat.le_of_ble_eq_true rfl) (Nat.le_of_ble_eq_true rfl) ?_
  show Ev l G _ _ _ _ _ _ _ _ _ [.ref 75, .ref 74] (jmk tT144) tW181
  refine ev_putr (T := tT144) (o := 3) (idx := 21) (ci := 3) (k := 1) (a := 74) (b := 75) (by decide +kernel) rfl (by decide +kernel) rfl rfl rfl rfl (by decide +kernel) (by decide +kernel) (by decide +kernel) (by decide) ?_
  show Ev l G _ _ _ _ _ _ _ _ _ _ (jmk tT145) tW181
  refine ev_seg (r := jmk tT145) (o := 3) (nL := 3) (q := 34) (xs := [(.aload_n 0, 1, 0, 0, .null), (.iconst 0, 1, 0, 0, .int 0), (.putfield 25, 3, 3, 2, .int 0)]) (L' := [some (.ref 74), some (.int 16), some (.int 4)]) (st' := []) (w' := tW182) (g := []) (K := [(74, 3)]) (by decide +kernel) rfl rfl rfl rfl (jk1 (by decide +kernel) jk0) ?_
  exact ev_vret (by decide +kernel) rfl rfl rfl rfl
def tT146 : jT := jtr tT145 73 0 74
def tT147 : jT := jtn tT146 3 0 3
def tW183 : jW := jzr tW182 76
def tW184 : jW := (jup tW183.1 76 0 (if (1 : Int32) < 1 then 1 else 1), tW183.2)
def tT148 : jT := jtn tT147 20 300 0
def tW185 : jW := jzr tW184 77
def tT149 : jT := jtr tT148 76 1 77
def tW186 : jW := (jup tW185.1 76 2 0, tW185.2)
set_option maxRecDepth 200000 in
theorem jct37 {l : Launch} {G : jG} (hG : jX G) : Ct l G y_Rows_init (1, 21) 1 300 [.ref 76, .int 300, .int 1] (jmk tT147) tW183 (none, jmk tT149, tW186) := by
  refine Ct.of (L := [some (.ref 76), some (.int 300), some (.int 1)]) (by decide) (Nat.le_of_ble_eq_true rfl) rfl ?_
  refine ev_seg (r := jmk tT147) (o := 3) (nL := 3) (q := 1) (xs := [(.aload_n 0, 1, 0, 0, .null)]) (L' := [some (.ref 76), some (.int 300), some (.int 1)]) (st' := [.ref 76]) (w' := tW183) (g := []) (K := []) (by decide +kernel) rfl rfl rfl rfl jk0 ?_
  refine ev_objI (o := 3) (idx := 3) (by decide +kernel) rfl lk_3_3 jobi jobc (Nat.le_of_ble_eq_true rfl) (Nat.le_of_ble_eq_true rfl) ?_
  refine ev_seg (r := jmk tT147) (o := 3) (nL := 3) (q := 7) (xs := [(.aload_n 0, 1, 0, 0, .null), (.iconst 1, 1, 0, 0, .int 1), (.iload_n 2, 1, 2, 0, .null)]) (L' := [some (.ref 76), some (.int 300), some (.int 1)]) (st' := [.int 1, .int 1, .ref 76]) (w' := tW183) (g := []) (K := []) (by decide +kernel) rfl rfl rfl rfl jk0 ?_
  refine ev_max (o := 3) (idx := 9) (by decide +kernel) rfl lk_3_9 ms_max hMath mc_max (Nat.le_of_ble_eq_true rfl) (Nat.le_of_ble_eq_true rfl) (Nat.le_of_ble_eq_true rfl) (Nat.le_of_ble_eq_true rfl) ?_
  refine ev_putiF (r := jmk tT147) (o := 3) (idx := 15) (ci := 3) (k := 0) (a := 76) (by decide +kernel) rfl (by decide +kernel) rfl rfl rfl rfl (by decide +kernel) ?_
  show Ev l G _ _ _ _ _ _ _ _ _ _ (jmk tT147) tW184
  refine ev_seg (r := jmk tT147) (o := 3) (nL := 3) (q := 21) (xs := [(.aload_n 0, 1, 0, 0, .null), (.iconst 1, 1, 0, 0, .int 1), (.iload_n 1, 1, 1, 0, .null), (.aload_n 0, 1, 0, 0, .null), (.getfield 15, 3, 3, 0, .int 0), (.imul, 1, 0, 0, .null)]) (L' := [some (.ref 76), some (.int 300), some (.int 1)]) (st' := [.int (300 * (tW184.1 76 0)), .int 1, .ref 76]) (w' := tW184) (g := []) (K := [(76, 3)]) (by decide +kernel) rfl rfl rfl rfl (jk1 (by decide +kernel) jk0) ?_
  refine ev_max (o := 3) (idx := 9) (by decide +kernel) rfl lk_3_9 ms_max hMath mc_max (Nat.le_of_ble_eq_true rfl) (Nat.le_of_ble_eq_true rfl) (Nat.le_of_ble_eq_true rfl) (Nat.le_of_ble_eq_true rfl) ?_
  refine jnewa (T := tT147) (a := 77) (kd := 20) (ty := .int) (atype := .int) (N := 300) (by decide +kernel) (by decide +kernel) rfl (by decide +kernel) (Or.inl ⟨rfl, rfl⟩) ja_int (by decide +kernel) (by decide +kernel) (Nat.le_of_ble_eq_true rfl) (Nat.le_of_ble_eq_true rfl) (Nat.le_of_ble_eq_true rfl) ?_
  show Ev l G _ _ _ _ _ _ _ _ _ [.ref 77, .ref 76] (jmk tT148) tW185
  refine ev_putr (T := tT148) (o := 3) (idx := 21) (ci := 3) (k := 1) (a := 76) (b := 77) (by decide +kernel) rfl (by decide +kernel) rfl rfl rfl rfl (by decide +kernel) (by decide +kernel) (by decide +kernel) (by decide) ?_
  show Ev l G _ _ _ _ _ _ _ _ _ _ (jmk tT149) tW185
  refine ev_seg (r := jmk tT149) (o := 3) (nL := 3) (q := 34) (xs := [(.aload_n 0, 1, 0, 0, .null), (.iconst 0, 1, 0, 0, .int 0), (.putfield 25, 3, 3, 2, .int 0)]) (L' := [some (.ref 76), some (.int 300), some (.int 1)]) (st' := []) (w' := tW186) (g := []) (K := [(76, 3)]) (by decide +kernel) rfl rfl rfl rfl (jk1 (by decide +kernel) jk0) ?_
  exact ev_vret (by decide +kernel) rfl rfl rfl rfl
def tT150 : jT := jtr tT149 73 1 76
def tT151 : jT := jtn tT150 7 0 3
def tW187 : jW := jzr tW186 78
def tT152 : jT := jtn tT151 3 0 3
def tW188 : jW := jzr tW187 79
def tW189 : jW := (jup tW188.1 79 0 (if (1 : Int32) < 1 then 1 else 1), tW188.2)
def tT153 : jT := jtn tT152 20 300 0
def tW190 : jW := jzr tW189 80
def tT154 : jT := jtr tT153 79 1 80
def tW191 : jW := (jup tW190.1 79 2 0, tW190.2)
set_option maxRecDepth 200000 in
theorem jct38 {l : Launch} {G : jG} (hG : jX G) : Ct l G y_Rows_init (1, 21) 1 300 [.ref 79, .int 300, .int 1] (jmk tT152) tW188 (none, jmk tT154, tW191) := by
  refine Ct.of (L := [some (.ref 79), some (.int 300), some (.int 1)]) (by decide) (Nat.le_of_ble_eq_true rfl) rfl ?_
  refine ev_seg (r := jmk tT152) (o := 3) (nL := 3) (q := 1) (xs := [(.aload_n 0, 1, 0, 0, .null)]) (L' := [some (.ref 79), some (.int 300), some (.int 1)]) (st' := [.ref 79]) (w' := tW188) (g := []) (K := []) (by decide +kernel) rfl rfl rfl rfl jk0 ?_
  refine ev_objI (o := 3) (idx := 3) (by decide +kernel) rfl lk_3_3 jobi jobc (Nat.le_of_ble_eq_true rfl) (Nat.le_of_ble_eq_true rfl) ?_
  refine ev_seg (r := jmk tT152) (o := 3) (nL := 3) (q := 7) (xs := [(.aload_n 0, 1, 0, 0, .null), (.iconst 1, 1, 0, 0, .int 1), (.iload_n 2, 1, 2, 0, .null)]) (L' := [some (.ref 79), some (.int 300), some (.int 1)]) (st' := [.int 1, .int 1, .ref 79]) (w' := tW188) (g := []) (K := []) (by decide +kernel) rfl rfl rfl rfl jk0 ?_
  refine ev_max (o := 3) (idx := 9) (by decide +kernel) rfl lk_3_9 ms_max hMath mc_max (Nat.le_of_ble_eq_true rfl) (Nat.le_of_ble_eq_true rfl) (Nat.le_of_ble_eq_true rfl) (Nat.le_of_ble_eq_true rfl) ?_
  refine ev_putiF (r := jmk tT152) (o := 3) (idx := 15) (ci := 3) (k := 0) (a := 79) (by decide +kernel) rfl (by decide +kernel) rfl rfl rfl rfl (by decide +kernel) ?_
  show Ev l G _ _ _ _ _ _ _ _ _ _ (jmk tT152) tW189
  refine ev_seg (r := jmk tT152) (o := 3) (nL := 3) (q := 21) (xs := [(.aload_n 0, 1, 0, 0, .null), (.iconst 1, 1, 0, 0, .int 1), (.iload_n 1, 1, 1, 0, .null), (.aload_n 0, 1, 0, 0, .null), (.getfield 15, 3, 3, 0, .int 0), (.imul, 1, 0, 0, .null)]) (L' := [some (.ref 79), some (.int 300), some (.int 1)]) (st' := [.int (300 * (tW189.1 79 0)), .int 1, .ref 79]) (w' := tW189) (g := []) (K := [(79, 3)]) (by decide +kernel) rfl rfl rfl rfl (jk1 (by decide +kernel) jk0) ?_
  refine ev_max (o := 3) (idx := 9) (by decide +kernel) rfl lk_3_9 ms_max hMath mc_max (Nat.le_of_ble_eq_true rfl) (Nat.le_of_ble_eq_true rfl) (Nat.le_of_ble_eq_true rfl) (Nat.le_of_ble_eq_true rfl) ?_
  refine jnewa (T := tT152) (a := 80) (kd := 20) (ty := .int) (atype := .int) (N := 300) (by decide +kernel) (by decide +kernel) rfl (by decide +kernel) (Or.inl ⟨rfl, rfl⟩) ja_int (by decide +kernel) (by decide +kernel) (Nat.le_of_ble_eq_true rfl) (Nat.le_of_ble_eq_true rfl) (Nat.le_of_ble_eq_true rfl) ?_
  show Ev l G _ _ _ _ _ _ _ _ _ [.ref 80, .ref 79] (jmk tT153) tW190
  refine ev_putr (T := tT153) (o := 3) (idx := 21) (ci := 3) (k := 1) (a := 79) (b := 80) (by decide +kernel) rfl (by decide +kernel) rfl rfl rfl rfl (by decide +kernel) (by decide +kernel) (by decide +kernel) (by decide) ?_
  show Ev l G _ _ _ _ _ _ _ _ _ _ (jmk tT154) tW190
  refine ev_seg (r := jmk tT154) (o := 3) (nL := 3) (q := 34) (xs := [(.aload_n 0, 1, 0, 0, .null), (.iconst 0, 1, 0, 0, .int 0), (.putfield 25, 3, 3, 2, .int 0)]) (L' := [some (.ref 79), some (.int 300), some (.int 1)]) (st' := []) (w' := tW191) (g := []) (K := [(79, 3)]) (by decide +kernel) rfl rfl rfl rfl (jk1 (by decide +kernel) jk0) ?_
  exact ev_vret (by decide +kernel) rfl rfl rfl rfl
def tT155 : jT := jtr tT154 78 0 79
def tT156 : jT := jtn tT155 3 0 3
def tW192 : jW := jzr tW191 81
def tW193 : jW := (jup tW192.1 81 0 (if (1 : Int32) < 3 then 3 else 1), tW192.2)
def tT157 : jT := jtn tT156 20 903 0
def tW194 : jW := jzr tW193 82
def tT158 : jT := jtr tT157 81 1 82
def tW195 : jW := (jup tW194.1 81 2 0, tW194.2)
set_option maxRecDepth 200000 in
theorem jct39 {l : Launch} {G : jG} (hG : jX G) : Ct l G y_Rows_init (1, 21) 1 903 [.ref 81, .int 301, .int 3] (jmk tT156) tW192 (none, jmk tT158, tW195) := by
  refine Ct.of (L := [some (.ref 81), some (.int 301), some (.int 3)]) (by decide) (Nat.le_of_ble_eq_true rfl) rfl ?_
  refine ev_seg (r := jmk tT156) (o := 3) (nL := 3) (q := 1) (xs := [(.aload_n 0, 1, 0, 0, .null)]) (L' := [some (.ref 81), some (.int 301), some (.int 3)]) (st' := [.ref 81]) (w' := tW192) (g := []) (K := []) (by decide +kernel) rfl rfl rfl rfl jk0 ?_
  refine ev_objI (o := 3) (idx := 3) (by decide +kernel) rfl lk_3_3 jobi jobc (Nat.le_of_ble_eq_true rfl) (Nat.le_of_ble_eq_true rfl) ?_
  refine ev_seg (r := jmk tT156) (o := 3) (nL := 3) (q := 7) (xs := [(.aload_n 0, 1, 0, 0, .null), (.iconst 1, 1, 0, 0, .int 1), (.iload_n 2, 1, 2, 0, .null)]) (L' := [some (.ref 81), some (.int 301), some (.int 3)]) (st' := [.int 3, .int 1, .ref 81]) (w' := tW192) (g := []) (K := []) (by decide +kernel) rfl rfl rfl rfl jk0 ?_
  refine ev_max (o := 3) (idx := 9) (by decide +kernel) rfl lk_3_9 ms_max hMath mc_max (Nat.le_of_ble_eq_true rfl) (Nat.le_of_ble_eq_true rfl) (Nat.le_of_ble_eq_true rfl) (Nat.le_of_ble_eq_true rfl) ?_
  refine ev_putiF (r := jmk tT156) (o := 3) (idx := 15) (ci := 3) (k := 0) (a := 81) (by decide +kernel) rfl (by decide +kernel) rfl rfl rfl rfl (by decide +kernel) ?_
  show Ev l G _ _ _ _ _ _ _ _ _ _ (jmk tT156) tW193
  refine ev_seg (r := jmk tT156) (o := 3) (nL := 3) (q := 21) (xs := [(.aload_n 0, 1, 0, 0, .null), (.iconst 1, 1, 0, 0, .int 1), (.iload_n 1, 1, 1, 0, .null), (.aload_n 0, 1, 0, 0, .null), (.getfield 15, 3, 3, 0, .int 0), (.imul, 1, 0, 0, .null)]) (L' := [some (.ref 81), some (.int 301), some (.int 3)]) (st' := [.int (301 * (tW193.1 81 0)), .int 1, .ref 81]) (w' := tW193) (g := []) (K := [(81, 3)]) (by decide +kernel) rfl rfl rfl rfl (jk1 (by decide +kernel) jk0) ?_
  refine ev_max (o := 3) (idx := 9) (by decide +kernel) rfl lk_3_9 ms_max hMath mc_max (Nat.le_of_ble_eq_true rfl) (Nat.le_of_ble_eq_true rfl) (Nat.le_of_ble_eq_true rfl) (Nat.le_of_ble_eq_true rfl) ?_
  refine jnewa (T := tT156) (a := 82) (kd := 20) (ty := .int) (atype := .int) (N := 903) (by decide +kernel) (by decide +kernel) rfl (by decide +kernel) (Or.inl ⟨rfl, rfl⟩) ja_int (by decide +kernel) (by decide +kernel) (Nat.le_of_ble_eq_true rfl) (Nat.le_of_ble_eq_true rfl) (Nat.le_of_ble_eq_true rfl) ?_
  show Ev l G _ _ _ _ _ _ _ _ _ [.ref 82, .ref 81] (jmk tT157) tW194
  refine ev_putr (T := tT157) (o := 3) (idx := 21) (ci := 3) (k := 1) (a := 81) (b := 82) (by decide +kernel) rfl (by decide +kernel) rfl rfl rfl rfl (by decide +kernel) (by decide +kernel) (by decide +kernel) (by decide) ?_
  show Ev l G _ _ _ _ _ _ _ _ _ _ (jmk tT158) tW194
  refine ev_seg (r := jmk tT158) (o := 3) (nL := 3) (q := 34) (xs := [(.aload_n 0, 1, 0, 0, .null), (.iconst 0, 1, 0, 0, .int 0), (.putfield 25, 3, 3, 2, .int 0)]) (L' := [some (.ref 81), some (.int 301), some (.int 3)]) (st' := []) (w' := tW195) (g := []) (K := [(81, 3)]) (by decide +kernel) rfl rfl rfl rfl (jk1 (by decide +kernel) jk0) ?_
  exact ev_vret (by decide +kernel) rfl rfl rfl rfl
def tT159 : jT := jtr tT158 78 1 81
def tW196 : jW := (jup tW195.1 78 2 0, tW195.2)
set_option maxRecDepth 200000 in
theorem jct40 {l : Launch} {G : jG} (hG : jX G) : Ct l G y_Tokens_init (2, 43) 4 1209 [.ref 78] (jmk tT151) tW187 (none, jmk tT159, tW196) := by
  refine Ct.of (L := [some (.ref 78)]) (by decide) (Nat.le_of_ble_eq_true rfl) rfl ?_
  refine ev_seg (r := jmk tT151) (o := 7) (nL := 1) (q := 1) (xs := [(.aload_n 0, 1, 0, 0, .null)]) (L' := [some (.ref 78)]) (st' := [.ref 78]) (w' := tW187) (g := []) (K := []) (by decide +kernel) rfl rfl rfl rfl jk0 ?_
  refine ev_objI (o := 7) (idx := 3) (by decide +kernel) rfl lk_7_3 jobi jobc (Nat.le_of_ble_eq_true rfl) (Nat.le_of_ble_eq_true rfl) ?_
  refine ev_seg (r := jmk tT151) (o := 7) (nL := 1) (q := 5) (xs := [(.aload_n 0, 1, 0, 0, .null)]) (L' := [some (.ref 78)]) (st' := [.ref 78]) (w' := tW187) (g := []) (K := []) (by decide +kernel) rfl rfl rfl rfl jk0 ?_
  refine ev_new (T := tT151) (a := 79) (o := 7) (idx := 9) (ci := 3) (by decide +kernel) (by decide +kernel) rfl (by decide +kernel) (by decide) jcl_7_9 jis_3 ji_3 (Nat.le_of_ble_eq_true rfl) (Nat.le_of_ble_eq_true rfl) ?_
  show Ev l G _ _ _ _ _ _ _ _ _ [.ref 79, .ref 78] (jmk tT152) tW188
  refine ev_seg (r := jmk tT152) (o := 7) (nL := 1) (q := 13) (xs := [(.dup, 1, 0, 0, .null), (.sipush 300, 3, 0, 0, .int 300), (.iconst 1, 1, 0, 0, .int 1)]) (L' := [some (.ref 78)]) (st' := [.int 1, .int 300, .ref 79, .ref 79, .ref 78]) (w' := tW188) (g := []) (K := []) (by decide +kernel) rfl rfl rfl rfl jk0 ?_
  refine ev_callI (r := jmk tT152) (w := tW188) (y2 := y_Rows_init) (o := 7) (idx := 11) (a := 79) (d2 := (1, 21)) (n := 2) (mc2 := 1) (ms2 := 300) (As := [.int 300, .int 1]) (st := [.ref 79, .ref 78]) (res2 := (none, jmk tT154, tW191)) (by decide +kernel) rfl lk_7_11 mo_Rows_init mi_Rows_init ⟨Nat.le_of_ble_eq_true rfl, Nat.le_of_ble_eq_true rfl⟩ rfl rfl (Nat.le_of_ble_eq_true rfl) ⟨Nat.le_of_ble_eq_true rfl, Nat.le_of_ble_eq_true rfl⟩ hG (jct38 hG) ?_
  show Ev l G _ _ _ _ _ _ _ _ _ [.ref 79, .ref 78] (jmk tT154) tW191
  refine ev_putr (T := tT154) (o := 7) (idx := 14) (ci := 7) (k := 0) (a := 78) (b := 79) (by decide +kernel) rfl (by decide +kernel) rfl rfl rfl rfl (by decide +kernel) (by decide +kernel) (by decide +kernel) (by decide) ?_
  show Ev l G _ _ _ _ _ _ _ _ _ _ (jmk tT155) tW191
  refine ev_seg (r := jmk tT155) (o := 7) (nL := 1) (q := 20) (xs := [(.aload_n 0, 1, 0, 0, .null)]) (L' := [some (.ref 78)]) (st' := [.ref 78]) (w' := tW191) (g := []) (K := []) (by decide +kernel) rfl rfl rfl rfl jk0 ?_
  refine ev_new (T := tT155) (a := 81) (o := 7) (idx := 9) (ci := 3) (by decide +kernel) (by decide +kernel) rfl (by decide +kernel) (by decide) jcl_7_9 jis_3 ji_3 (Nat.le_of_ble_eq_true rfl) (Nat.le_of_ble_eq_true rfl) ?_
  show Ev l G _ _ _ _ _ _ _ _ _ [.ref 81, .ref 78] (jmk tT156) tW192
  refine ev_seg (r := jmk tT156) (o := 7) (nL := 1) (q := 28) (xs := [(.dup, 1, 0, 0, .null), (.sipush 301, 3, 0, 0, .int 301), (.iconst 3, 1, 0, 0, .int 3)]) (L' := [some (.ref 78)]) (st' := [.int 3, .int 301, .ref 81, .ref 81, .ref 78]) (w' := tW192) (g := []) (K := []) (by decide +kernel) rfl rfl rfl rfl jk0 ?_
  refine ev_callI (r := jmk tT156) (w := tW192) (y2 := y_Rows_init) (o := 7) (idx := 11) (a := 81) (d2 := (1, 21)) (n := 2) (mc2 := 1) (ms2 := 903) (As := [.int 301, .int 3]) (st := [.ref 81, .ref 78]) (res2 := (none, jmk tT158, tW195)) (by decide +kernel) rfl lk_7_11 mo_Rows_init mi_Rows_init ⟨Nat.le_of_ble_eq_true rfl, Nat.le_of_ble_eq_true rfl⟩ rfl rfl (Nat.le_of_ble_eq_true rfl) ⟨Nat.le_of_ble_eq_true rfl, Nat.le_of_ble_eq_true rfl⟩ hG (jct39 hG) ?_
  show Ev l G _ _ _ _ _ _ _ _ _ [.ref 81, .ref 78] (jmk tT158) tW195
  refine ev_putr (T := tT158) (o := 7) (idx := 20) (ci := 7) (k := 1) (a := 78) (b := 81) (by decide +kernel) rfl (by decide +kernel) rfl rfl rfl rfl (by decide +kernel) (by decide +kernel) (by decide +kernel) (by decide) ?_
  show Ev l G _ _ _ _ _ _ _ _ _ _ (jmk tT159) tW195
  refine ev_seg (r := jmk tT159) (o := 7) (nL := 1) (q := 39) (xs := [(.aload_n 0, 1, 0, 0, .null), (.iconst 0, 1, 0, 0, .int 0), (.putfield 23, 3, 7, 2, .int 0)]) (L' := [some (.ref 78)]) (st' := []) (w' := tW196) (g := []) (K := [(78, 7)]) (by decide +kernel) rfl rfl rfl rfl (jk1 (by decide +kernel) jk0) ?_
  exact ev_vret (by decide +kernel) rfl rfl rfl rfl
def tT160 : jT := jtr tT159 73 5 78
def tT161 : jT := jtr tT160 73 6 81
def tW197 : jW := (jup tW196.1 73 2 0, tW196.2)
def tW198 : jW := (jup tW197.1 73 3 0, tW197.2)
def tW199 : jW := (jup tW198.1 73 4 (-1), tW198.2)
def tW200 : jW := (jup tW199.1 73 7 0, tW199.2)
set_option maxRecDepth 200000 in
theorem jct41 {l : Launch} {G : jG} (hG : jX G) : Ct l G y_Reader_init (3, 63) 9 1582 [.ref 73] (jmk tT142) tW178 (none, jmk tT161, tW200) := by
  refine Ct.of (L := [some (.ref 73)]) (by decide) (Nat.le_of_ble_eq_true rfl) rfl ?_
  refine ev_seg (r := jmk tT142) (o := 2) (nL := 1) (q := 1) (xs := [(.aload_n 0, 1, 0, 0, .null)]) (L' := [some (.ref 73)]) (st' := [.ref 73]) (w' := tW178) (g := []) (K := []) (by decide +kernel) rfl rfl rfl rfl jk0 ?_
  refine ev_objI (o := 2) (idx := 3) (by decide +kernel) rfl lk_2_3 jobi jobc (Nat.le_of_ble_eq_true rfl) (Nat.le_of_ble_eq_true rfl) ?_
  refine ev_seg (r := jmk tT142) (o := 2) (nL := 1) (q := 5) (xs := [(.aload_n 0, 1, 0, 0, .null)]) (L' := [some (.ref 73)]) (st' := [.ref 73]) (w' := tW178) (g := []) (K := []) (by decide +kernel) rfl rfl rfl rfl jk0 ?_
  refine ev_new (T := tT142) (a := 74) (o := 2) (idx := 9) (ci := 3) (by decide +kernel) (by decide +kernel) rfl (by decide +kernel) (by decide) jcl_2_9 jis_3 ji_3 (Nat.le_of_ble_eq_true rfl) (Nat.le_of_ble_eq_true rfl) ?_
  show Ev l G _ _ _ _ _ _ _ _ _ [.ref 74, .ref 73] (jmk tT143) tW179
  refine ev_seg (r := jmk tT143) (o := 2) (nL := 1) (q := 12) (xs := [(.dup, 1, 0, 0, .null), (.bipush 16, 2, 0, 0, .int 16), (.iconst 4, 1, 0, 0, .int 4)]) (L' := [some (.ref 73)]) (st' := [.int 4, .int 16, .ref 74, .ref 74, .ref 73]) (w' := tW179) (g := []) (K := []) (by decide +kernel) rfl rfl rfl rfl jk0 ?_
  refine ev_callI (r := jmk tT143) (w := tW179) (y2 := y_Rows_init) (o := 2) (idx := 11) (a := 74) (d2 := (1, 21)) (n := 2) (mc2 := 1) (ms2 := 64) (As := [.int 16, .int 4]) (st := [.ref 74, .ref 73]) (res2 := (none, jmk tT145, tW182)) (by decide +kernel) rfl lk_2_11 mo_Rows_init mi_Rows_init ⟨Nat.le_of_ble_eq_true rfl, Nat.le_of_ble_eq_true rfl⟩ rfl rfl (Nat.le_of_ble_eq_true rfl) ⟨Nat.le_of_ble_eq_true rfl, Nat.le_of_ble_eq_true rfl⟩ hG (jct36 hG) ?_
  show Ev l G _ _ _ _ _ _ _ _ _ [.ref 74, .ref 73] (jmk tT145) tW182
  refine ev_putr (T := tT145) (o := 2) (idx := 14) (ci := 2) (k := 0) (a := 73) (b := 74) (by decide +kernel) rfl (by decide +kernel) rfl rfl rfl rfl (by decide +kernel) (by decide +kernel) (by decide +kernel) (by decide) ?_
  show Ev l G _ _ _ _ _ _ _ _ _ _ (jmk tT146) tW182
  refine ev_seg (r := jmk tT146) (o := 2) (nL := 1) (q := 19) (xs := [(.aload_n 0, 1, 0, 0, .null)]) (L' := [some (.ref 73)]) (st' := [.ref 73]) (w' := tW182) (g := []) (K := []) (by decide +kernel) rfl rfl rfl rfl jk0 ?_
  refine ev_new (T := tT146) (a := 76) (o := 2) (idx := 9) (ci := 3) (by decide +kernel) (by decide +kernel) rfl (by decide +kernel) (by decide) jcl_2_9 jis_3 ji_3 (Nat.le_of_ble_eq_true rfl) (Nat.le_of_ble_eq_true rfl) ?_
  show Ev l G _ _ _ _ _ _ _ _ _ [.ref 76, .ref 73] (jmk tT147) tW183
  refine ev_seg (r := jmk tT147) (o := 2) (nL := 1) (q := 27) (xs := [(.dup, 1, 0, 0, .null), (.sipush 300, 3, 0, 0, .int 300), (.iconst 1, 1, 0, 0, .int 1)]) (L' := [some (.ref 73)]) (st' := [.int 1, .int 300, .ref 76, .ref 76, .ref 73]) (w' := tW183) (g := []) (K := []) (by decide +kernel) rfl rfl rfl rfl jk0 ?_
  refine ev_callI (r := jmk tT147) (w := tW183) (y2 := y_Rows_init) (o := 2) (idx := 11) (a := 76) (d2 := (1, 21)) (n := 2) (mc2 := 1) (ms2 := 300) (As := [.int 300, .int 1]) (st := [.ref 76, .ref 73]) (res2 := (none, jmk tT149, tW186)) (by decide +kernel) rfl lk_2_11 mo_Rows_init mi_Rows_init ⟨Nat.le_of_ble_eq_true rfl, Nat.le_of_ble_eq_true rfl⟩ rfl rfl (Nat.le_of_ble_eq_true rfl) ⟨Nat.le_of_ble_eq_true rfl, Nat.le_of_ble_eq_true rfl⟩ hG (jct37 hG) ?_
  show Ev l G _ _ _ _ _ _ _ _ _ [.ref 76, .ref 73] (jmk tT149) tW186
  refine ev_putr (T := tT149) (o := 2) (idx := 20) (ci := 2) (k := 1) (a := 73) (b := 76) (by decide +kernel) rfl (by decide +kernel) rfl rfl rfl rfl (by decide +kernel) (by decide +kernel) (by decide +kernel) (by decide) ?_
  show Ev l G _ _ _ _ _ _ _ _ _ _ (jmk tT150) tW186
  refine ev_seg (r := jmk tT150) (o := 2) (nL := 1) (q := 34) (xs := [(.aload_n 0, 1, 0, 0, .null)]) (L' := [some (.ref 73)]) (st' := [.ref 73]) (w' := tW186) (g := []) (K := []) (by decide +kernel) rfl rfl rfl rfl jk0 ?_
  refine ev_new (T := tT150) (a := 78) (o := 2) (idx := 23) (ci := 7) (by decide +kernel) (by decide +kernel) rfl (by decide +kernel) (by decide) jcl_2_23 jis_7 ji_7 (Nat.le_of_ble_eq_true rfl) (Nat.le_of_ble_eq_true rfl) ?_
  show Ev l G _ _ _ _ _ _ _ _ _ [.ref 78, .ref 73] (jmk tT151) tW187
  refine ev_seg (r := jmk tT151) (o := 2) (nL := 1) (q := 38) (xs := [(.dup, 1, 0, 0, .null)]) (L' := [some (.ref 73)]) (st' := [.ref 78, .ref 78, .ref 73]) (w' := tW187) (g := []) (K := []) (by decide +kernel) rfl rfl rfl rfl jk0 ?_
  refine ev_callI (r := jmk tT151) (w := tW187) (y2 := y_Tokens_init) (o := 2) (idx := 25) (a := 78) (d2 := (2, 43)) (n := 0) (mc2 := 4) (ms2 := 1209) (As := []) (st := [.ref 78, .ref 73]) (res2 := (none, jmk tT159, tW196)) (by decide +kernel) rfl lk_2_25 mo_Tokens_init mi_Tokens_init ⟨Nat.le_of_ble_eq_true rfl, Nat.le_of_ble_eq_true rfl⟩ rfl rfl (Nat.le_of_ble_eq_true rfl) ⟨Nat.le_of_ble_eq_true rfl, Nat.le_of_ble_eq_true rfl⟩ hG (jct40 hG) ?_
  show Ev l G _ _ _ _ _ _ _ _ _ [.ref 78, .ref 73] (jmk tT159) tW196
  refine ev_putr (T := tT159) (o := 2) (idx := 26) (ci := 2) (k := 5) (a := 73) (b := 78) (by decide +kernel) rfl (by decide +kernel) rfl rfl rfl rfl (by decide +kernel) (by decide +kernel) (by decide +kernel) (by decide) ?_
  show Ev l G _ _ _ _ _ _ _ _ _ _ (jmk tT160) tW196
  refine ev_seg (r := jmk tT160) (o := 2) (nL := 1) (q := 52) (xs := [(.aload_n 0, 1, 0, 0, .null), (.aload_n 0, 1, 0, 0, .null), (.getfield 26, 3, 2, 5, .ref 7), (.getfield 30, 3, 7, 1, .ref 3)]) (L' := [some (.ref 73)]) (st' := [.ref 81, .ref 73]) (w' := tW196) (g := []) (K := [(81, 3), (78, 7), (78, 7), (73, 2)]) (by decide +kernel) rfl rfl rfl rfl (jk1 (by decide +kernel) (jk1 (by decide +kernel) (jk1 (by decide +kernel) (jk1 (by decide +kernel) jk0)))) ?_
  refine ev_putr (T := tT160) (o := 2) (idx := 33) (ci := 2) (k := 6) (a := 73) (b := 81) (by decide +kernel) rfl (by decide +kernel) rfl rfl rfl rfl (by decide +kernel) (by decide +kernel) (by decide +kernel) (by decide) ?_
  show Ev l G _ _ _ _ _ _ _ _ _ _ (jmk tT161) tW196
  refine ev_seg (r := jmk tT161) (o := 2) (nL := 1) (q := 60) (xs := [(.aload_n 0, 1, 0, 0, .null), (.iconst 0, 1, 0, 0, .int 0), (.putfield 34, 3, 2, 2, .int 1)]) (L' := [some (.ref 73)]) (st' := []) (w' := tW197) (g := [jbo 0]) (K := [(73, 2)]) (by decide +kernel) rfl rfl rfl (by decide +kernel) (jk1 (by decide +kernel) jk0) ?_
  refine ev_seg (r := jmk tT161) (o := 2) (nL := 1) (q := 65) (xs := [(.aload_n 0, 1, 0, 0, .null), (.iconst 0, 1, 0, 0, .int 0), (.putfield 38, 3, 2, 3, .int 0)]) (L' := [some (.ref 73)]) (st' := []) (w' := tW198) (g := []) (K := [(73, 2)]) (by decide +kernel) rfl rfl rfl rfl (jk1 (by decide +kernel) jk0) ?_
  refine ev_seg (r := jmk tT161) (o := 2) (nL := 1) (q := 70) (xs := [(.aload_n 0, 1, 0, 0, .null), (.iconst (-1), 1, 0, 0, .int (-1)), (.putfield 42, 3, 2, 4, .int 0)]) (L' := [some (.ref 73)]) (st' := []) (w' := tW199) (g := []) (K := [(73, 2)]) (by decide +kernel) rfl rfl rfl rfl (jk1 (by decide +kernel) jk0) ?_
  refine ev_seg (r := jmk tT161) (o := 2) (nL := 1) (q := 75) (xs := [(.aload_n 0, 1, 0, 0, .null), (.iconst 0, 1, 0, 0, .int 0), (.putfield 45, 3, 2, 7, .int 0)]) (L' := [some (.ref 73)]) (st' := []) (w' := tW200) (g := []) (K := [(73, 2)]) (by decide +kernel) rfl rfl rfl rfl (jk1 (by decide +kernel) jk0) ?_
  exact ev_vret (by decide +kernel) rfl rfl rfl rfl
def tT162 : jT := jtr tT161 2 2 73
def tT163 : jT := jtn tT162 1 0 2
def tW201 : jW := jzr tW200 83
def tT164 : jT := jtn tT163 22 4 0
def tW202 : jW := jzr tW201 84
def tT165 : jT := jtr tT164 83 0 84
def tT166 : jT := jtn tT165 20 40 0
def tW203 : jW := jzr tW202 85
def tT167 : jT := jtr tT166 83 1 85
set_option maxRecDepth 200000 in
theorem jct42 {l : Launch} {G : jG} (hG : jX G) : Ct l G y_Knowing_init (1, 21) 2 44 [.ref 83] (jmk tT163) tW201 (none, jmk tT167, tW203) := by
  refine Ct.of (L := [some (.ref 83)]) (by decide) (Nat.le_of_ble_eq_true rfl) rfl ?_
  refine ev_seg (r := jmk tT163) (o := 1) (nL := 1) (q := 1) (xs := [(.aload_n 0, 1, 0, 0, .null)]) (L' := [some (.ref 83)]) (st' := [.ref 83]) (w' := tW201) (g := []) (K := []) (by decide +kernel) rfl rfl rfl rfl jk0 ?_
  refine ev_objI (o := 1) (idx := 3) (by decide +kernel) rfl lk_1_3 jobi jobc (Nat.le_of_ble_eq_true rfl) (Nat.le_of_ble_eq_true rfl) ?_
  refine ev_seg (r := jmk tT163) (o := 1) (nL := 1) (q := 6) (xs := [(.aload_n 0, 1, 0, 0, .null), (.iconst 4, 1, 0, 0, .int 4)]) (L' := [some (.ref 83)]) (st' := [.int 4, .ref 83]) (w' := tW201) (g := []) (K := []) (by decide +kernel) rfl rfl rfl rfl jk0 ?_
  refine jnewa (T := tT163) (a := 84) (kd := 22) (ty := .long) (atype := .long) (N := 4) (by decide +kernel) (by decide +kernel) rfl (by decide +kernel) (Or.inr (Or.inr ⟨rfl, rfl⟩)) ja_long (by decide +kernel) (by decide +kernel) (Nat.le_of_ble_eq_true rfl) (Nat.le_of_ble_eq_true rfl) (Nat.le_of_ble_eq_true rfl) ?_
  show Ev l G _ _ _ _ _ _ _ _ _ [.ref 84, .ref 83] (jmk tT164) tW202
  refine ev_putr (T := tT164) (o := 1) (idx := 9) (ci := 1) (k := 0) (a := 83) (b := 84) (by decide +kernel) rfl (by decide +kernel) rfl rfl rfl rfl (by decide +kernel) (by decide +kernel) (by decide +kernel) (by decide) ?_
  show Ev l G _ _ _ _ _ _ _ _ _ _ (jmk tT165) tW202
  refine ev_seg (r := jmk tT165) (o := 1) (nL := 1) (q := 14) (xs := [(.aload_n 0, 1, 0, 0, .null), (.bipush 40, 2, 0, 0, .int 40)]) (L' := [some (.ref 83)]) (st' := [.int 40, .ref 83]) (w' := tW202) (g := []) (K := []) (by decide +kernel) rfl rfl rfl rfl jk0 ?_
  refine jnewa (T := tT165) (a := 85) (kd := 20) (ty := .int) (atype := .int) (N := 40) (by decide +kernel) (by decide +kernel) rfl (by decide +kernel) (Or.inl ⟨rfl, rfl⟩) ja_int (by decide +kernel) (by decide +kernel) (Nat.le_of_ble_eq_true rfl) (Nat.le_of_ble_eq_true rfl) (Nat.le_of_ble_eq_true rfl) ?_
  show Ev l G _ _ _ _ _ _ _ _ _ [.ref 85, .ref 83] (jmk tT166) tW203
  refine ev_putr (T := tT166) (o := 1) (idx := 15) (ci := 1) (k := 1) (a := 83) (b := 85) (by decide +kernel) rfl (by decide +kernel) rfl rfl rfl rfl (by decide +kernel) (by decide +kernel) (by decide +kernel) (by decide) ?_
  show Ev l G _ _ _ _ _ _ _ _ _ _ (jmk tT167) tW203
  exact ev_vret (by decide +kernel) rfl rfl rfl rfl
def tT168 : jT := jtr tT167 2 3 83
def tT169 : jT := jtn tT168 0 0 3
def tW204 : jW := jzr tW203 86
def tW205 : jW := (jup tW204.1 86 0 (-1), tW204.2)
def tW206 : jW := (jup tW205.1 86 1 (-1), tW205.2)
def tW207 : jW := (jup tW206.1 86 2 0, tW206.2)
set_option maxRecDepth 200000 in
theorem jct43 {l : Launch} {G : jG} (hG : jX G) : Ct l G y_Judge_init (1, 21) 0 0 [.ref 86] (jmk tT169) tW204 (none, jmk tT169, tW207) := by
  refine Ct.of (L := [some (.ref 86)]) (by decide) (Nat.le_of_ble_eq_true rfl) rfl ?_
  refine ev_seg (r := jmk tT169) (o := 0) (nL := 1) (q := 1) (xs := [(.aload_n 0, 1, 0, 0, .null)]) (L' := [some (.ref 86)]) (st' := [.ref 86]) (w' := tW204) (g := []) (K := []) (by decide +kernel) rfl rfl rfl rfl jk0 ?_
  refine ev_objI (o := 0) (idx := 3) (by decide +kernel) rfl lk_0_3 jobi jobc (Nat.le_of_ble_eq_true rfl) (Nat.le_of_ble_eq_true rfl) ?_
  refine ev_seg (r := jmk tT169) (o := 0) (nL := 1) (q := 9) (xs := [(.aload_n 0, 1, 0, 0, .null), (.iconst (-1), 1, 0, 0, .int (-1)), (.putfield 9, 3, 0, 0, .int 0)]) (L' := [some (.ref 86)]) (st' := []) (w' := tW205) (g := []) (K := [(86, 0)]) (by decide +kernel) rfl rfl rfl rfl (jk1 (by decide +kernel) jk0) ?_
  refine ev_seg (r := jmk tT169) (o := 0) (nL := 1) (q := 14) (xs := [(.aload_n 0, 1, 0, 0, .null), (.iconst (-1), 1, 0, 0, .int (-1)), (.putfield 15, 3, 0, 1, .int 0)]) (L' := [some (.ref 86)]) (st' := []) (w' := tW206) (g := []) (K := [(86, 0)]) (by decide +kernel) rfl rfl rfl rfl (jk1 (by decide +kernel) jk0) ?_
  refine ev_seg (r := jmk tT169) (o := 0) (nL := 1) (q := 19) (xs := [(.aload_n 0, 1, 0, 0, .null), (.iconst 0, 1, 0, 0, .int 0), (.putfield 18, 3, 0, 2, .int 1)]) (L' := [some (.ref 86)]) (st' := []) (w' := tW207) (g := [jbo 0]) (K := [(86, 0)]) (by decide +kernel) rfl rfl rfl (by decide +kernel) (jk1 (by decide +kernel) jk0) ?_
  exact ev_vret (by decide +kernel) rfl rfl rfl rfl
def tT170 : jT := jtr tT169 2 4 86
def tT171 : jT := jtn tT170 5 0 6
def tW208 : jW := jzr tW207 87
def tT172 : jT := jtn tT171 20 5 0
def tW209 : jW := jzr tW208 88
def tT173 : jT := jtr tT172 87 0 88
def tT174 : jT := jtn tT173 20 5 0
def tW210 : jW := jzr tW209 89
def tT175 : jT := jtr tT174 87 1 89
set_option maxRecDepth 200000 in
theorem jct44 {l : Launch} {G : jG} (hG : jX G) : Ct l G y_Shares_init (1, 21) 2 10 [.ref 87] (jmk tT171) tW208 (none, jmk tT175, tW210) := by
  refine Ct.of (L := [some (.ref 87)]) (by decide) (Nat.le_of_ble_eq_true rfl) rfl ?_
  refine ev_seg (r := jmk tT171) (o := 5) (nL := 1) (q := 1) (xs := [(.aload_n 0, 1, 0, 0, .null)]) (L' := [some (.ref 87)]) (st' := [.ref 87]) (w' := tW208) (g := []) (K := []) (by decide +kernel) rfl rfl rfl rfl jk0 ?_
  refine ev_objI (o := 5) (idx := 3) (by decide +kernel) rfl lk_5_3 jobi jobc (Nat.le_of_ble_eq_true rfl) (Nat.le_of_ble_eq_true rfl) ?_
  refine ev_seg (r := jmk tT171) (o := 5) (nL := 1) (q := 6) (xs := [(.aload_n 0, 1, 0, 0, .null), (.iconst 5, 1, 0, 0, .int 5)]) (L' := [some (.ref 87)]) (st' := [.int 5, .ref 87]) (w' := tW208) (g := []) (K := []) (by decide +kernel) rfl rfl rfl rfl jk0 ?_
  refine jnewa (T := tT171) (a := 88) (kd := 20) (ty := .int) (atype := .int) (N := 5) (by decide +kernel) (by decide +kernel) rfl (by decide +kernel) (Or.inl ⟨rfl, rfl⟩) ja_int (by decide +kernel) (by decide +kernel) (Nat.le_of_ble_eq_true rfl) (Nat.le_of_ble_eq_true rfl) (Nat.le_of_ble_eq_true rfl) ?_
  show Ev l G _ _ _ _ _ _ _ _ _ [.ref 88, .ref 87] (jmk tT172) tW209
  refine ev_putr (T := tT172) (o := 5) (idx := 9) (ci := 5) (k := 0) (a := 87) (b := 88) (by decide +kernel) rfl (by decide +kernel) rfl rfl rfl rfl (by decide +kernel) (by decide +kernel) (by decide +kernel) (by decide) ?_
  show Ev l G _ _ _ _ _ _ _ _ _ _ (jmk tT173) tW209
  refine ev_seg (r := jmk tT173) (o := 5) (nL := 1) (q := 13) (xs := [(.aload_n 0, 1, 0, 0, .null), (.iconst 5, 1, 0, 0, .int 5)]) (L' := [some (.ref 87)]) (st' := [.int 5, .ref 87]) (w' := tW209) (g := []) (K := []) (by decide +kernel) rfl rfl rfl rfl jk0 ?_
  refine jnewa (T := tT173) (a := 89) (kd := 20) (ty := .int) (atype := .int) (N := 5) (by decide +kernel) (by decide +kernel) rfl (by decide +kernel) (Or.inl ⟨rfl, rfl⟩) ja_int (by decide +kernel) (by decide +kernel) (Nat.le_of_ble_eq_true rfl) (Nat.le_of_ble_eq_true rfl) (Nat.le_of_ble_eq_true rfl) ?_
  show Ev l G _ _ _ _ _ _ _ _ _ [.ref 89, .ref 87] (jmk tT174) tW210
  refine ev_putr (T := tT174) (o := 5) (idx := 15) (ci := 5) (k := 1) (a := 87) (b := 89) (by decide +kernel) rfl (by decide +kernel) rfl rfl rfl rfl (by decide +kernel) (by decide +kernel) (by decide +kernel) (by decide) ?_
  show Ev l G _ _ _ _ _ _ _ _ _ _ (jmk tT175) tW210
  exact ev_vret (by decide +kernel) rfl rfl rfl rfl
def tT176 : jT := jtr tT175 2 5 87
def tT177 : jT := jtn tT176 4 0 6
def tW211 : jW := jzr tW210 90
def tT178 : jT := jtn tT177 21 10 0
def tW212 : jW := jzr tW211 91
def tT179 : jT := jtr tT178 90 0 91
def tT180 : jT := jtn tT179 21 300 0
def tW213 : jW := jzr tW212 92
def tT181 : jT := jtr tT180 90 1 92
set_option maxRecDepth 200000 in
theorem jct45 {l : Launch} {G : jG} (hG : jX G) : Ct l G y_Search_init (1, 21) 2 310 [.ref 90] (jmk tT177) tW211 (none, jmk tT181, tW213) := by
  refine Ct.of (L := [some (.ref 90)]) (by decide) (Nat.le_of_ble_eq_true rfl) rfl ?_
  refine ev_seg (r := jmk tT177) (o := 4) (nL := 1) (q := 1) (xs := [(.aload_n 0, 1, 0, 0, .null)]) (L' := [some (.ref 90)]) (st' := [.ref 90]) (w' := tW211) (g := []) (K := []) (by decide +kernel) rfl rfl rfl rfl jk0 ?_
  refine ev_objI (o := 4) (idx := 3) (by decide +kernel) rfl lk_4_3 jobi jobc (Nat.le_of_ble_eq_true rfl) (Nat.le_of_ble_eq_true rfl) ?_
  refine ev_seg (r := jmk tT177) (o := 4) (nL := 1) (q := 7) (xs := [(.aload_n 0, 1, 0, 0, .null), (.bipush 10, 2, 0, 0, .int 10)]) (L' := [some (.ref 90)]) (st' := [.int 10, .ref 90]) (w' := tW211) (g := []) (K := []) (by decide +kernel) rfl rfl rfl rfl jk0 ?_
  refine jnewa (T := tT177) (a := 91) (kd := 21) (ty := .boolean) (atype := .boolean) (N := 10) (by decide +kernel) (by decide +kernel) rfl (by decide +kernel) (Or.inr (Or.inl ⟨rfl, rfl⟩)) ja_boolean (by decide +kernel) (by decide +kernel) (Nat.le_of_ble_eq_true rfl) (Nat.le_of_ble_eq_true rfl) (Nat.le_of_ble_eq_true rfl) ?_
  show Ev l G _ _ _ _ _ _ _ _ _ [.ref 91, .ref 90] (jmk tT178) tW212
  refine ev_putr (T := tT178) (o := 4) (idx := 9) (ci := 4) (k := 0) (a := 90) (b := 91) (by decide +kernel) rfl (by decide +kernel) rfl rfl rfl rfl (by decide +kernel) (by decide +kernel) (by decide +kernel) (by decide) ?_
  show Ev l G _ _ _ _ _ _ _ _ _ _ (jmk tT179) tW212
  refine ev_seg (r := jmk tT179) (o := 4) (nL := 1) (q := 16) (xs := [(.aload_n 0, 1, 0, 0, .null), (.sipush 300, 3, 0, 0, .int 300)]) (L' := [some (.ref 90)]) (st' := [.int 300, .ref 90]) (w' := tW212) (g := []) (K := []) (by decide +kernel) rfl rfl rfl rfl jk0 ?_
  refine jnewa (T := tT179) (a := 92) (kd := 21) (ty := .boolean) (atype := .boolean) (N := 300) (by decide +kernel) (by decide +kernel) rfl (by decide +kernel) (Or.inr (Or.inl ⟨rfl, rfl⟩)) ja_boolean (by decide +kernel) (by decide +kernel) (Nat.le_of_ble_eq_true rfl) (Nat.le_of_ble_eq_true rfl) (Nat.le_of_ble_eq_true rfl) ?_
  show Ev l G _ _ _ _ _ _ _ _ _ [.ref 92, .ref 90] (jmk tT180) tW213
  refine ev_putr (T := tT180) (o := 4) (idx := 15) (ci := 4) (k := 1) (a := 90) (b := 92) (by decide +kernel) rfl (by decide +kernel) rfl rfl rfl rfl (by decide +kernel) (by decide +kernel) (by decide +kernel) (by decide) ?_
  show Ev l G _ _ _ _ _ _ _ _ _ _ (jmk tT181) tW213
  exact ev_vret (by decide +kernel) rfl rfl rfl rfl
def tT182 : jT := jtr tT181 2 6 90
set_option maxRecDepth 200000 in
theorem jct46 {l : Launch} {G : jG} (hG : jX G) : Ct l G y_Count_init (4, 84) 90 22155 [.ref 2] (jmk tT1) tW1 (none, jmk tT182, tW213) := by
  refine Ct.of (L := [some (.ref 2)]) (by decide) (Nat.le_of_ble_eq_true rfl) rfl ?_
  refine ev_seg (r := jmk tT1) (o := 9) (nL := 1) (q := 1) (xs := [(.aload_n 0, 1, 0, 0, .null)]) (L' := [some (.ref 2)]) (st' := [.ref 2]) (w' := tW1) (g := []) (K := []) (by decide +kernel) rfl rfl rfl rfl jk0 ?_
  refine ev_objI (o := 9) (idx := 3) (by decide +kernel) rfl lk_9_3 jobi jobc (Nat.le_of_ble_eq_true rfl) (Nat.le_of_ble_eq_true rfl) ?_
  refine ev_seg (r := jmk tT1) (o := 9) (nL := 1) (q := 5) (xs := [(.aload_n 0, 1, 0, 0, .null)]) (L' := [some (.ref 2)]) (st' := [.ref 2]) (w' := tW1) (g := []) (K := []) (by decide +kernel) rfl rfl rfl rfl jk0 ?_
  refine ev_new (T := tT1) (a := 3) (o := 9) (idx := 9) (ci := 6) (by decide +kernel) (by decide +kernel) rfl (by decide +kernel) (by decide) jcl_9_9 jis_6 ji_6 (Nat.le_of_ble_eq_true rfl) (Nat.le_of_ble_eq_true rfl) ?_
  show Ev l G _ _ _ _ _ _ _ _ _ [.ref 3, .ref 2] (jmk tT2) tW2
  refine ev_seg (r := jmk tT2) (o := 9) (nL := 1) (q := 9) (xs := [(.dup, 1, 0, 0, .null)]) (L' := [some (.ref 2)]) (st' := [.ref 3, .ref 3, .ref 2]) (w' := tW2) (g := []) (K := []) (by decide +kernel) rfl rfl rfl rfl jk0 ?_
  refine ev_callI (r := jmk tT2) (w := tW2) (y2 := y_State_init) (o := 9) (idx := 11) (a := 3) (d2 := (3, 63)) (n := 0) (mc2 := 34) (ms2 := 10073) (As := []) (st := [.ref 3, .ref 2]) (res2 := (none, jmk tT70, tW89)) (by decide +kernel) rfl lk_9_11 mo_State_init mi_State_init ⟨Nat.le_of_ble_eq_true rfl, Nat.le_of_ble_eq_true rfl⟩ rfl rfl (Nat.le_of_ble_eq_true rfl) ⟨Nat.le_of_ble_eq_true rfl, Nat.le_of_ble_eq_true rfl⟩ hG (jct17 hG) ?_
  show Ev l G _ _ _ _ _ _ _ _ _ [.ref 3, .ref 2] (jmk tT70) tW89
  refine ev_putr (T := tT70) (o := 9) (idx := 12) (ci := 9) (k := 0) (a := 2) (b := 3) (by decide +kernel) rfl (by decide +kernel) rfl rfl rfl rfl (by decide +kernel) (by decide +kernel) (by decide +kernel) (by decide) ?_
  show Ev l G _ _ _ _ _ _ _ _ _ _ (jmk tT71) tW89
  refine ev_seg (r := jmk tT71) (o := 9) (nL := 1) (q := 16) (xs := [(.aload_n 0, 1, 0, 0, .null)]) (L' := [some (.ref 2)]) (st' := [.ref 2]) (w' := tW89) (g := []) (K := []) (by decide +kernel) rfl rfl rfl rfl jk0 ?_
  refine ev_new (T := tT71) (a := 38) (o := 9) (idx := 9) (ci := 6) (by decide +kernel) (by decide +kernel) rfl (by decide +kernel) (by decide) jcl_9_9 jis_6 ji_6 (Nat.le_of_ble_eq_true rfl) (Nat.le_of_ble_eq_true rfl) ?_
  show Ev l G _ _ _ _ _ _ _ _ _ [.ref 38, .ref 2] (jmk tT72) tW90
  refine ev_seg (r := jmk tT72) (o := 9) (nL := 1) (q := 20) (xs := [(.dup, 1, 0, 0, .null)]) (L' := [some (.ref 2)]) (st' := [.ref 38, .ref 38, .ref 2]) (w' := tW90) (g := []) (K := []) (by decide +kernel) rfl rfl rfl rfl jk0 ?_
  refine ev_callI (r := jmk tT72) (w := tW90) (y2 := y_State_init) (o := 9) (idx := 11) (a := 38) (d2 := (3, 63)) (n := 0) (mc2 := 34) (ms2 := 10073) (As := []) (st := [.ref 38, .ref 2]) (res2 := (none, jmk tT140, tW177)) (by decide +kernel) rfl lk_9_11 mo_State_init mi_State_init ⟨Nat.le_of_ble_eq_true rfl, Nat.le_of_ble_eq_true rfl⟩ rfl rfl (Nat.le_of_ble_eq_true rfl) ⟨Nat.le_of_ble_eq_true rfl, Nat.le_of_ble_eq_true rfl⟩ hG (jct35 hG) ?_
  show Ev l G _ _ _ _ _ _ _ _ _ [.ref 38, .ref 2] (jmk tT140) tW177
  refine ev_putr (T := tT140) (o := 9) (idx := 16) (ci := 9) (k := 1) (a := 2) (b := 38) (by decide +kernel) rfl (by decide +kernel) rfl rfl rfl rfl (by decide +kernel) (by decide +kernel) (by decide +kernel) (by decide) ?_
  show Ev l G _ _ _ _ _ _ _ _ _ _ (jmk tT141) tW177
  refine ev_seg (r := jmk tT141) (o := 9) (nL := 1) (q := 27) (xs := [(.aload_n 0, 1, 0, 0, .null)]) (L' := [some (.ref 2)]) (st' := [.ref 2]) (w' := tW177) (g := []) (K := []) (by decide +kernel) rfl rfl rfl rfl jk0 ?_
  refine ev_new (T := tT141) (a := 73) (o := 9) (idx := 19) (ci := 2) (by decide +kernel) (by decide +kernel) rfl (by decide +kernel) (by decide) jcl_9_19 jis_2 ji_2 (Nat.le_of_ble_eq_true rfl) (Nat.le_of_ble_eq_true rfl) ?_
  show Ev l G _ _ _ _ _ _ _ _ _ [.ref 73, .ref 2] (jmk tT142) tW178
  refine ev_seg (r := jmk tT142) (o := 9) (nL := 1) (q := 31) (xs := [(.dup, 1, 0, 0, .null)]) (L' := [some (.ref 2)]) (st' := [.ref 73, .ref 73, .ref 2]) (w' := tW178) (g := []) (K := []) (by decide +kernel) rfl rfl rfl rfl jk0 ?_
  refine ev_callI (r := jmk tT142) (w := tW178) (y2 := y_Reader_init) (o := 9) (idx := 21) (a := 73) (d2 := (3, 63)) (n := 0) (mc2 := 9) (ms2 := 1582) (As := []) (st := [.ref 73, .ref 2]) (res2 := (none, jmk tT161, tW200)) (by decide +kernel) rfl lk_9_21 mo_Reader_init mi_Reader_init ⟨Nat.le_of_ble_eq_true rfl, Nat.le_of_ble_eq_true rfl⟩ rfl rfl (Nat.le_of_ble_eq_true rfl) ⟨Nat.le_of_ble_eq_true rfl, Nat.le_of_ble_eq_true rfl⟩ hG (jct41 hG) ?_
  show Ev l G _ _ _ _ _ _ _ _ _ [.ref 73, .ref 2] (jmk tT161) tW200
  refine ev_putr (T := tT161) (o := 9) (idx := 22) (ci := 9) (k := 2) (a := 2) (b := 73) (by decide +kernel) rfl (by decide +kernel) rfl rfl rfl rfl (by decide +kernel) (by decide +kernel) (by decide +kernel) (by decide) ?_
  show Ev l G _ _ _ _ _ _ _ _ _ _ (jmk tT162) tW200
  refine ev_seg (r := jmk tT162) (o := 9) (nL := 1) (q := 38) (xs := [(.aload_n 0, 1, 0, 0, .null)]) (L' := [some (.ref 2)]) (st' := [.ref 2]) (w' := tW200) (g := []) (K := []) (by decide +kernel) rfl rfl rfl rfl jk0 ?_
  refine ev_new (T := tT162) (a := 83) (o := 9) (idx := 26) (ci := 1) (by decide +kernel) (by decide +kernel) rfl (by decide +kernel) (by decide) jcl_9_26 jis_1 ji_1 (Nat.le_of_ble_eq_true rfl) (Nat.le_of_ble_eq_true rfl) ?_
  show Ev l G _ _ _ _ _ _ _ _ _ [.ref 83, .ref 2] (jmk tT163) tW201
  refine ev_seg (r := jmk tT163) (o := 9) (nL := 1) (q := 42) (xs := [(.dup, 1, 0, 0, .null)]) (L' := [some (.ref 2)]) (st' := [.ref 83, .ref 83, .ref 2]) (w' := tW201) (g := []) (K := []) (by decide +kernel) rfl rfl rfl rfl jk0 ?_
  refine ev_callI (r := jmk tT163) (w := tW201) (y2 := y_Knowing_init) (o := 9) (idx := 28) (a := 83) (d2 := (1, 21)) (n := 0) (mc2 := 2) (ms2 := 44) (As := []) (st := [.ref 83, .ref 2]) (res2 := (none, jmk tT167, tW203)) (by decide +kernel) rfl lk_9_28 mo_Knowing_init mi_Knowing_init ⟨Nat.le_of_ble_eq_true rfl, Nat.le_of_ble_eq_true rfl⟩ rfl rfl (Nat.le_of_ble_eq_true rfl) ⟨Nat.le_of_ble_eq_true rfl, Nat.le_of_ble_eq_true rfl⟩ hG (jct42 hG) ?_
  show Ev l G _ _ _ _ _ _ _ _ _ [.ref 83, .ref 2] (jmk tT167) tW203
  refine ev_putr (T := tT167) (o := 9) (idx := 29) (ci := 9) (k := 3) (a := 2) (b := 83) (by decide +kernel) rfl (by decide +kernel) rfl rfl rfl rfl (by decide +kernel) (by decide +kernel) (by decide +kernel) (by decide) ?_
  show Ev l G _ _ _ _ _ _ _ _ _ _ (jmk tT168) tW203
  refine ev_seg (r := jmk tT168) (o := 9) (nL := 1) (q := 49) (xs := [(.aload_n 0, 1, 0, 0, .null)]) (L' := [some (.ref 2)]) (st' := [.ref 2]) (w' := tW203) (g := []) (K := []) (by decide +kernel) rfl rfl rfl rfl jk0 ?_
  refine ev_new (T := tT168) (a := 86) (o := 9) (idx := 33) (ci := 0) (by decide +kernel) (by decide +kernel) rfl (by decide +kernel) (by decide) jcl_9_33 jis_0 ji_0 (Nat.le_of_ble_eq_true rfl) (Nat.le_of_ble_eq_true rfl) ?_
  show Ev l G _ _ _ _ _ _ _ _ _ [.ref 86, .ref 2] (jmk tT169) tW204
  refine ev_seg (r := jmk tT169) (o := 9) (nL := 1) (q := 53) (xs := [(.dup, 1, 0, 0, .null)]) (L' := [some (.ref 2)]) (st' := [.ref 86, .ref 86, .ref 2]) (w' := tW204) (g := []) (K := []) (by decide +kernel) rfl rfl rfl rfl jk0 ?_
  refine ev_callI (r := jmk tT169) (w := tW204) (y2 := y_Judge_init) (o := 9) (idx := 35) (a := 86) (d2 := (1, 21)) (n := 0) (mc2 := 0) (ms2 := 0) (As := []) (st := [.ref 86, .ref 2]) (res2 := (none, jmk tT169, tW207)) (by decide +kernel) rfl lk_9_35 mo_Judge_init mi_Judge_init ⟨Nat.le_of_ble_eq_true rfl, Nat.le_of_ble_eq_true rfl⟩ rfl rfl (Nat.le_of_ble_eq_true rfl) ⟨Nat.le_of_ble_eq_true rfl, Nat.le_of_ble_eq_true rfl⟩ hG (jct43 hG) ?_
  show Ev l G _ _ _ _ _ _ _ _ _ [.ref 86, .ref 2] (jmk tT169) tW207
  refine ev_putr (T := tT169) (o := 9) (idx := 36) (ci := 9) (k := 4) (a := 2) (b := 86) (by decide +kernel) rfl (by decide +kernel) rfl rfl rfl rfl (by decide +kernel) (by decide +kernel) (by decide +kernel) (by decide) ?_
  show Ev l G _ _ _ _ _ _ _ _ _ _ (jmk tT170) tW207
  refine ev_seg (r := jmk tT170) (o := 9) (nL := 1) (q := 60) (xs := [(.aload_n 0, 1, 0, 0, .null)]) (L' := [some (.ref 2)]) (st' := [.ref 2]) (w' := tW207) (g := []) (K := []) (by decide +kernel) rfl rfl rfl rfl jk0 ?_
  refine ev_new (T := tT170) (a := 87) (o := 9) (idx := 40) (ci := 5) (by decide +kernel) (by decide +kernel) rfl (by decide +kernel) (by decide) jcl_9_40 jis_5 ji_5 (Nat.le_of_ble_eq_true rfl) (Nat.le_of_ble_eq_true rfl) ?_
  show Ev l G _ _ _ _ _ _ _ _ _ [.ref 87, .ref 2] (jmk tT171) tW208
  refine ev_seg (r := jmk tT171) (o := 9) (nL := 1) (q := 64) (xs := [(.dup, 1, 0, 0, .null)]) (L' := [some (.ref 2)]) (st' := [.ref 87, .ref 87, .ref 2]) (w' := tW208) (g := []) (K := []) (by decide +kernel) rfl rfl rfl rfl jk0 ?_
  refine ev_callI (r := jmk tT171) (w := tW208) (y2 := y_Shares_init) (o := 9) (idx := 42) (a := 87) (d2 := (1, 21)) (n := 0) (mc2 := 2) (ms2 := 10) (As := []) (st := [.ref 87, .ref 2]) (res2 := (none, jmk tT175, tW210)) (by decide +kernel) rfl lk_9_42 mo_Shares_init mi_Shares_init ⟨Nat.le_of_ble_eq_true rfl, Nat.le_of_ble_eq_true rfl⟩ rfl rfl (Nat.le_of_ble_eq_true rfl) ⟨Nat.le_of_ble_eq_true rfl, Nat.le_of_ble_eq_true rfl⟩ hG (jct44 hG) ?_
  show Ev l G _ _ _ _ _ _ _ _ _ [.ref 87, .ref 2] (jmk tT175) tW210
  refine ev_putr (T := tT175) (o := 9) (idx := 43) (ci := 9) (k := 5) (a := 2) (b := 87) (by decide +kernel) rfl (by decide +kernel) rfl rfl rfl rfl (by decide +kernel) (by decide +kernel) (by decide +kernel) (by decide) ?_
  show Ev l G _ _ _ _ _ _ _ _ _ _ (jmk tT176) tW210
  refine ev_seg (r := jmk tT176) (o := 9) (nL := 1) (q := 71) (xs := [(.aload_n 0, 1, 0, 0, .null)]) (L' := [some (.ref 2)]) (st' := [.ref 2]) (w' := tW210) (g := []) (K := []) (by decide +kernel) rfl rfl rfl rfl jk0 ?_
  refine ev_new (T := tT176) (a := 90) (o := 9) (idx := 47) (ci := 4) (by decide +kernel) (by decide +kernel) rfl (by decide +kernel) (by decide) jcl_9_47 jis_4 ji_4 (Nat.le_of_ble_eq_true rfl) (Nat.le_of_ble_eq_true rfl) ?_
  show Ev l G _ _ _ _ _ _ _ _ _ [.ref 90, .ref 2] (jmk tT177) tW211
  refine ev_seg (r := jmk tT177) (o := 9) (nL := 1) (q := 75) (xs := [(.dup, 1, 0, 0, .null)]) (L' := [some (.ref 2)]) (st' := [.ref 90, .ref 90, .ref 2]) (w' := tW211) (g := []) (K := []) (by decide +kernel) rfl rfl rfl rfl jk0 ?_
  refine ev_callI (r := jmk tT177) (w := tW211) (y2 := y_Search_init) (o := 9) (idx := 49) (a := 90) (d2 := (1, 21)) (n := 0) (mc2 := 2) (ms2 := 310) (As := []) (st := [.ref 90, .ref 2]) (res2 := (none, jmk tT181, tW213)) (by decide +kernel) rfl lk_9_49 mo_Search_init mi_Search_init ⟨Nat.le_of_ble_eq_true rfl, Nat.le_of_ble_eq_true rfl⟩ rfl rfl (Nat.le_of_ble_eq_true rfl) ⟨Nat.le_of_ble_eq_true rfl, Nat.le_of_ble_eq_true rfl⟩ hG (jct45 hG) ?_
  show Ev l G _ _ _ _ _ _ _ _ _ [.ref 90, .ref 2] (jmk tT181) tW213
  refine ev_putr (T := tT181) (o := 9) (idx := 50) (ci := 9) (k := 6) (a := 2) (b := 90) (by decide +kernel) rfl (by decide +kernel) rfl rfl rfl rfl (by decide +kernel) (by decide +kernel) (by decide +kernel) (by decide) ?_
  show Ev l G _ _ _ _ _ _ _ _ _ _ (jmk tT182) tW213
  exact ev_vret (by decide +kernel) rfl rfl rfl rfl
theorem jT_end : tT182 = jtk 93 := by decide +kernel
abbrev jWb : jW := tW213
set_option maxRecDepth 200000 in
theorem jlaw_pre {l : Launch} {G : jG} (hG : jX G) {res : Option Value × jS × jW} (k : Ev l G room_1 y_Law_law res 600000 7302250 91 22162 8 [some (.ref 0), some (.ref 2), none, none, none, none, none, none, none, none, none, none, none, none, none, none, none, none, none, none, none, none] [] (jRx 93) jWb) : Ev l G room_1 y_Law_law res 600000 7302250 0 0 0 [some (.ref 0), none, none, none, none, none, none, none, none, none, none, none, none, none, none, none, none, none, none, none, none, none] [] (jmk tT0) tW0 := by
  refine ev_new (T := tT0) (a := 2) (o := 10) (idx := 8) (ci := 9) (by decide +kernel) (by decide +kernel) rfl (by decide +kernel) (by decide) jcl_10_8 jis_9 ji_9 (Nat.le_of_ble_eq_true rfl) (Nat.le_of_ble_eq_true rfl) ?_
  show Ev l G _ _ _ _ _ _ _ _ _ [.ref 2] (jmk tT1) tW1
  refine ev_seg (r := jmk tT1) (o := 10) (nL := 22) (q := 4) (xs := [(.dup, 1, 0, 0, .null)]) (L' := [some (.ref 0), none, none, none, none, none, none, none, none, none, none, none, none, none, none, none, none, none, none, none, none, none]) (st' := [.ref 2, .ref 2]) (w' := tW1) (g := []) (K := []) (by decide +kernel) rfl rfl rfl rfl jk0 ?_
  refine ev_callI (r := jmk tT1) (w := tW1) (y2 := y_Count_init) (o := 10) (idx := 10) (a := 2) (d2 := (4, 84)) (n := 0) (mc2 := 90) (ms2 := 22155) (As := []) (st := [.ref 2]) (res2 := (none, jmk tT182, tW213)) (by decide +kernel) rfl lk_10_10 mo_Count_init mi_Count_init ⟨Nat.le_of_ble_eq_true rfl, Nat.le_of_ble_eq_true rfl⟩ rfl rfl (Nat.le_of_ble_eq_true rfl) ⟨Nat.le_of_ble_eq_true rfl, Nat.le_of_ble_eq_true rfl⟩ hG (jct46 hG) ?_
  show Ev l G _ _ _ _ _ _ _ _ _ [.ref 2] (jmk tT182) tW213
  refine ev_seg (r := jmk tT182) (o := 10) (nL := 22) (q := 8) (xs := [(.astore_n 1, 1, 1, 0, .null)]) (L' := [some (.ref 0), some (.ref 2), none, none, none, none, none, none, none, none, none, none, none, none, none, none, none, none, none, none, none, none]) (st' := []) (w' := tW213) (g := []) (K := []) (by decide +kernel) rfl rfl rfl rfl jk0 ?_
  rw [jT_end]
  exact ev_shape (jsh_to (by decide)) k

def jscr (G : jG) (Ls : Nat) (xs : Nat → Int32) : Prop := ∀ s : State, G.2.2.2.2.2 s → va_X (jad G 0) Ls xs s (jH0 G) ∧ jad G 0 < (jH0 G).size
section JLW
variable {l : Launch} {G : jG} {R : Room} {y : jM} {res : Option Value × jS × jW} {mc ms c0 s0 : Nat} {pc : Nat} {L : List (Option Value)} {st : List Value} {r : jS} {w : jW}
theorem ev_sld {Ls : Nat} {xs : Nat → Int32} {i : Int32} (hS : jscr G Ls xs) (hd : decode y.2.1 pc = .ok (.iaload, 1)) (hin : jin i Ls = true) (k : Ev l G R y res mc ms c0 s0 (pc + 1) L (.int (xs (Int32.toNatClampNeg i)) :: st) r w) : Ev l G R y res mc ms c0 s0 pc L (.int i :: .ref 0 :: st) r w := by
  intro p e s m args below meth c H locs ls hx hb hn hr hlk ho hts hnm hK hW hlo hL
  obtain ⟨⟨scr, h1, h2, h3, h4, h5⟩, hlt0⟩ := hS s hK.2
  have hlt : i.toNatClampNeg < Ls := Nat.not_le.mp fun q => jin_not hin (Or.inr q)
  exact W.iald (v := .int (xs i.toNatClampNeg)) hx hb (by rw [hW.2.1 _ hlt0]; exact h1) h2 h3 (by rw [h4]; exact jin_not hin) (h5 _ hlt) rfl rfl hd (k p e s m args below meth c H locs ls hx hb hn hr hlk ho hts hnm hK hW hlo hL)
theorem ev_salen {Ls : Nat} {xs : Nat → Int32} (hS : jscr G Ls xs) (hd : decode y.2.1 pc = .ok (.arraylength, 1)) (k : Ev l G R y res mc ms c0 s0 (pc + 1) L (.int (Int32.ofNat Ls) :: st) r w) : Ev l G R y res mc ms c0 s0 pc L (.ref 0 :: st) r w := by
  intro p e s m args below meth c H locs ls hx hb hn hr hlk ho hts hnm hK hW hlo hL
  obtain ⟨⟨scr, h1, h2, h3, h4, h5⟩, hlt0⟩ := hS s hK.2
  exact W.alen (n := Int32.ofNat Ls) hx hb (by rw [hW.2.1 _ hlt0]; exact h1) h2 (by rw [h4] <;> rfl) rfl rfl hd (k p e s m args below meth c H locs ls hx hb hn hr hlk ho hts hnm hK hW hlo hL)
theorem ev_widen {c1 s1 : Nat} (h1 : c0 ≤ c1) (h2 : s0 ≤ s1) (k : Ev l G R y res mc ms c1 s1 pc L st r w) : Ev l G R y res mc ms c0 s0 pc L st r w := by
  intro p e s m args below meth c H locs ls hx hb hn hr hlk ho hts hnm hK hW hlo hL
  exact W.widen h1 h2 (k p e s m args below meth c H locs ls hx hb hn hr hlk ho hts hnm hK hW hlo hL)
/-- Math.max of longs -/
theorem ev_maxl {o idx : Nat} {a b : Int64} (hd : decode y.2.1 pc = .ok (.invokestatic idx, 3)) (hoo : y.1.cls = jcn o) (hl : Cond.methodLink (jcn o) idx Lib.MathLoose.max_long.x ∈ jTbl) (hfr : 1 ≤ R.frames) (h8 : (st.map fun v => v.category).sum + 15 ≤ R.locals) (hc : c0 ≤ R.cells) (hs : s0 ≤ R.slots)
    (k : Ev l G R y res mc ms c0 s0 (pc + 3) L (.long (if b < a then a else b) :: st) r w) : Ev l G R y res mc ms c0 s0 pc L (.long b :: .long a :: st) r w := by
  intro p e s m args below meth c H locs ls hx hb hn hr hlk ho hts hnm hK hW hlo hL
  exact va_mmax_long hx hb (hn.trans hL.1.symm) (by rw [← hoo]; exact ho) (hts _ (jTs_in hl)) (hts _ (jTs_in ms_Math_max)) (hts _ (jTs_in hMath)) (hts _ (jTs_in jcm_Math_max)) hfr (by rw [jcatsum]; exact h8) hc hs hd (k p e s m args below meth c H locs ls hx hb hn hr hlk ho hts hnm hK hW hlo hL)
end JLW

def f_Law_pick (xs : Nat → Int32) (Ls : Nat) (x1 : Int32) (w : jW) : Option (Int32 × jW) :=
  if (Int32.ofNat Ls) = 0 then
    some (0, w)
  else
    if jal [!((Int32.ofNat Ls) == 0)] = true then
    if jin (x1 - x1 / (Int32.ofNat Ls) * (Int32.ofNat Ls)) Ls = true then
    if jal [!(8 == 0), !((Int32.ofNat Ls) == 0)] = true then
    some ((((xs (Int32.toNatClampNeg (x1 - x1 / (Int32.ofNat Ls) * (Int32.ofNat Ls)))) >>> (((x1 / (Int32.ofNat Ls)) - (x1 / (Int32.ofNat Ls)) / 8 * 8) &&& 31)) &&& 2147483647), w)
    else none else none else none
set_option maxRecDepth 20000 in
set_option maxHeartbeats 40000000 in
theorem e_Law_pick {l : Launch} {G : jG} (hG : jX G) {kk : Nat} (hk : 93 ≤ kk) {xs : Nat → Int32} {Ls : Nat} (hxs : True) (hLs : jscr G Ls xs) {x1 : Int32} {w : jW} {z : (Int32 × jW)} (h : f_Law_pick xs Ls x1 w = some z) : Ct l G y_Law_pick d_Law_pick 0 0 [.ref 0, .int x1] (jRx kk) w (some (.int z.1), (jRx kk), z.2) := by
  rw [f_Law_pick] at h
  refine Ct.of (L := [some (.ref 0), some (.int x1)]) (by decide) (Nat.le_of_ble_eq_true rfl) rfl ?_
  refine ev_seg (o := 10) (nL := 2) (q := 1) (xs := [(.aload_n 0, 1, 0, 0, .null)]) (L' := [some (.ref 0), some (.int x1)]) (st' := [.ref 0]) (w' := w) (g := []) (K := []) (by decide +kernel) rfl rfl rfl rfl jk0 ?_
  refine ev_salen hLs (by decide +kernel) ?_
  refine ev_if_ne (off := 7) (tgt := 9) (by decide +kernel) (by decide) (fun c4 => ?_) (fun c4 => ?_)
  · replace h := jneg c4 h
    refine ev_seg (o := 10) (nL := 2) (q := 12) (xs := [(.aload_n 0, 1, 0, 0, .null), (.iload_n 1, 1, 1, 0, .null), (.aload_n 0, 1, 0, 0, .null)]) (L' := [some (.ref 0), some (.int x1)]) (st' := [.ref 0, .int x1, .ref 0]) (w' := w) (g := []) (K := []) (by decide +kernel) rfl rfl rfl rfl jk0 ?_
    refine ev_salen hLs (by decide +kernel) ?_
    obtain ⟨hg1, h⟩ := jgd h
    refine ev_seg (o := 10) (nL := 2) (q := 14) (xs := [(.irem, 1, 0, 0, .null)]) (L' := [some (.ref 0), some (.int x1)]) (st' := [.int (x1 - x1 / (Int32.ofNat Ls) * (Int32.ofNat Ls)), .ref 0]) (w' := w) (g := [!((Int32.ofNat Ls) == 0)]) (K := []) (by decide +kernel) rfl rfl rfl hg1 jk0 ?_
    obtain ⟨hg2, h⟩ := jgd h
    refine ev_sld hLs (by decide +kernel) hg2 ?_
    refine ev_seg (o := 10) (nL := 2) (q := 17) (xs := [(.iload_n 1, 1, 1, 0, .null), (.aload_n 0, 1, 0, 0, .null)]) (L' := [some (.ref 0), some (.int x1)]) (st' := [.ref 0, .int x1, .int (xs (Int32.toNatClampNeg (x1 - x1 / (Int32.ofNat Ls) * (Int32.ofNat Ls))))]) (w' := w) (g := []) (K := []) (by decide +kernel) rfl rfl rfl rfl jk0 ?_
    refine ev_salen hLs (by decide +kernel) ?_
    obtain ⟨hg3, h⟩ := jgd h
    refine ev_seg (o := 10) (nL := 2) (q := 26) (xs := [(.idiv, 1, 0, 0, .null), (.bipush 8, 2, 0, 0, .int 8), (.irem, 1, 0, 0, .null), (.ishr, 1, 0, 0, .null), (.ldc 7, 2, 0, 0, .int 2147483647), (.iand, 1, 0, 0, .null)]) (L' := [some (.ref 0), some (.int x1)]) (st' := [.int (((xs (Int32.toNatClampNeg (x1 - x1 / (Int32.ofNat Ls) * (Int32.ofNat Ls)))) >>> (((x1 / (Int32.ofNat Ls)) - (x1 / (Int32.ofNat Ls)) / 8 * 8) &&& 31)) &&& 2147483647)]) (w' := w) (g := [!(8 == 0), !((Int32.ofNat Ls) == 0)]) (K := []) (by decide +kernel) rfl rfl rfl hg3 jk0 ?_
    cases h
    exact ev_iret (by decide +kernel) rfl rfl rfl rfl
  · replace h := jpos c4 h
    refine ev_seg (o := 10) (nL := 2) (q := 26) (xs := [(.iconst 0, 1, 0, 0, .int 0), (.goto 20, 3, 0, 0, .null)]) (L' := [some (.ref 0), some (.int x1)]) (st' := [.int 0]) (w' := w) (g := []) (K := []) (by decide +kernel) rfl rfl rfl rfl jk0 ?_
    cases h
    exact ev_iret (by decide +kernel) rfl rfl rfl rfl
def f_Law_where_h50 : Nat → Int32 → Int32 → Int32 → Int32 → Int32 → jW → Option (Int32 × jW)
  | 0, _, _, _, _, _, _ => none
  | n + 1, x2, x3, x4, x5, x6, w =>
  if x6 < x2 then
    if jal [jin (5 * x6) 80] = true then
    if (w.1 99 (Int32.toNatClampNeg (5 * x6))) = x3 then
      if jal [jin ((5 * x6) + 3) 80] = true then
      if (w.1 99 (Int32.toNatClampNeg ((5 * x6) + 3))) ≤ x4 then
        if jal [jin ((5 * x6) + 4) 80] = true then
        if x4 < (w.1 99 (Int32.toNatClampNeg ((5 * x6) + 4))) then
          (f_Law_where_h50 n) x2 x3 x4 100 (x6 + 1) w
        else
          if jal [jin ((5 * x6) + 2) 80] = true then
          (f_Law_where_h50 n) x2 x3 x4 (w.1 99 (Int32.toNatClampNeg ((5 * x6) + 2))) (x6 + 1) w
          else none
        else none
      else
        (f_Law_where_h50 n) x2 x3 x4 x5 (x6 + 1) w
      else none
    else
      (f_Law_where_h50 n) x2 x3 x4 x5 (x6 + 1) w
    else none
  else
    some (x5, w)
set_option maxRecDepth 20000 in
set_option maxHeartbeats 40000000 in
theorem t_Law_where_h50 {l : Launch} {G : jG} (hG : jX G) : ∀ (n : Nat) (x2 : Int32) (x3 : Int32) (x4 : Int32) (x5 : Int32) (x6 : Int32) (w : jW) (z : (Int32 × jW)), f_Law_where_h50 n x2 x3 x4 x5 x6 w = some z → Ev l G (jrm d_Law_where 0 0) y_Law_where (some (.int z.1), (jRx 101), z.2) 0 0 0 0 50 [none, some (.ref 99), some (.int x2), some (.int x3), some (.int x4), some (.int x5), some (.int x6)] [] (jRx 101) w := by
  intro n
  induction n with
  | zero => intro x2 x3 x4 x5 x6 w z h; simp only [f_Law_where_h50] at h; cases h
  | succ n ih =>
    intro x2 x3 x4 x5 x6 w z h
    rw [f_Law_where_h50] at h
    refine ev_seg (o := 10) (nL := 7) (q := 53) (xs := [(.iload 6, 2, 6, 0, .null), (.iload_n 2, 1, 2, 0, .null)]) (L' := [none, some (.ref 99), some (.int x2), some (.int x3), some (.int x4), some (.int x5), some (.int x6)]) (st' := [.int x2, .int x6]) (w' := w) (g := []) (K := []) (by decide +kernel) rfl rfl rfl rfl jk0 ?_
    refine ev_icmp_ge (off := 60) (tgt := 113) (by decide +kernel) (by decide) (fun c11 => ?_) (fun c11 => ?_)
    · replace h := jneg c11 h
      refine ev_seg (o := 10) (nL := 7) (q := 115) (xs := [(.iload 5, 2, 5, 0, .null)]) (L' := [none, some (.ref 99), some (.int x2), some (.int x3), some (.int x4), some (.int x5), some (.int x6)]) (st' := [.int x5]) (w' := w) (g := []) (K := []) (by decide +kernel) rfl rfl rfl rfl jk0 ?_
      cases h
      exact ev_iret (by decide +kernel) rfl rfl rfl rfl
    · replace h := jpos c11 h
      obtain ⟨hg4, h⟩ := jgd h
      refine ev_seg (o := 10) (nL := 7) (q := 63) (xs := [(.aload_n 1, 1, 1, 0, .null), (.iconst 5, 1, 0, 0, .int 5), (.iload 6, 2, 6, 0, .null), (.imul, 1, 0, 0, .null), (.iaload, 1, 0, 0, .null), (.iload_n 3, 1, 3, 0, .null)]) (L' := [none, some (.ref 99), some (.int x2), some (.int x3), some (.int x4), some (.int x5), some (.int x6)]) (st' := [.int x3, .int (w.1 99 (Int32.toNatClampNeg (5 * x6)))]) (w' := w) (g := [jin (5 * x6) 80]) (K := [(99, 20)]) (by decide +kernel) rfl rfl rfl hg4 (jk1 (rfl) jk0) ?_
      refine ev_icmp_ne (off := 44) (tgt := 107) (by decide +kernel) (by decide) (fun c10 => ?_) (fun c10 => ?_)
      · replace h := jneg c10 h
        refine ev_seg (o := 10) (nL := 7) (q := 50) (xs := [(.iinc 6 1, 3, 6, 0, .int 1), (.goto (-60), 3, 0, 0, .null)]) (L' := [none, some (.ref 99), some (.int x2), some (.int x3), some (.int x4), some (.int x5), some (.int (x6 + 1))]) (st' := []) (w' := w) (g := []) (K := []) (by decide +kernel) rfl rfl rfl rfl jk0 ?_
        refine ev_mask [false, true, true, true, true, true, true] ?_
        exact ih _ _ _ _ _ _ _ h
      · replace h := jpos c10 h
        obtain ⟨hg5, h⟩ := jgd h
        refine ev_seg (o := 10) (nL := 7) (q := 76) (xs := [(.aload_n 1, 1, 1, 0, .null), (.iconst 5, 1, 0, 0, .int 5), (.iload 6, 2, 6, 0, .null), (.imul, 1, 0, 0, .null), (.iconst 3, 1, 0, 0, .int 3), (.iadd, 1, 0, 0, .null), (.iaload, 1, 0, 0, .null), (.iload 4, 2, 4, 0, .null)]) (L' := [none, some (.ref 99), some (.int x2), some (.int x3), some (.int x4), some (.int x5), some (.int x6)]) (st' := [.int x4, .int (w.1 99 (Int32.toNatClampNeg ((5 * x6) + 3)))]) (w' := w) (g := [jin ((5 * x6) + 3) 80]) (K := [(99, 20)]) (by decide +kernel) rfl rfl rfl hg5 (jk1 (rfl) jk0) ?_
        refine ev_icmp_gt (off := 31) (tgt := 107) (by decide +kernel) (by decide) (fun c9 => ?_) (fun c9 => ?_)
        · replace h := jneg c9 h
          refine ev_seg (o := 10) (nL := 7) (q := 50) (xs := [(.iinc 6 1, 3, 6, 0, .int 1), (.goto (-60), 3, 0, 0, .null)]) (L' := [none, some (.ref 99), some (.int x2), some (.int x3), some (.int x4), some (.int x5), some (.int (x6 + 1))]) (st' := []) (w' := w) (g := []) (K := []) (by decide +kernel) rfl rfl rfl rfl jk0 ?_
          refine ev_mask [false, true, true, true, true, true, true] ?_
          exact ih _ _ _ _ _ _ _ h
        · replace h := jpos c9 h
          obtain ⟨hg6, h⟩ := jgd h
          refine ev_seg (o := 10) (nL := 7) (q := 89) (xs := [(.iload 4, 2, 4, 0, .null), (.aload_n 1, 1, 1, 0, .null), (.iconst 5, 1, 0, 0, .int 5), (.iload 6, 2, 6, 0, .null), (.imul, 1, 0, 0, .null), (.iconst 4, 1, 0, 0, .int 4), (.iadd, 1, 0, 0, .null), (.iaload, 1, 0, 0, .null)]) (L' := [none, some (.ref 99), some (.int x2), some (.int x3), some (.int x4), some (.int x5), some (.int x6)]) (st' := [.int (w.1 99 (Int32.toNatClampNeg ((5 * x6) + 4))), .int x4]) (w' := w) (g := [jin ((5 * x6) + 4) 80]) (K := [(99, 20)]) (by decide +kernel) rfl rfl rfl hg6 (jk1 (rfl) jk0) ?_
          refine ev_icmp_ge (off := 8) (tgt := 97) (by decide +kernel) (by decide) (fun c8 => ?_) (fun c8 => ?_)
          · replace h := jneg c8 h
            obtain ⟨hg7, h⟩ := jgd h
            refine ev_seg (o := 10) (nL := 7) (q := 50) (xs := [(.aload_n 1, 1, 1, 0, .null), (.iconst 5, 1, 0, 0, .int 5), (.iload 6, 2, 6, 0, .null), (.imul, 1, 0, 0, .null), (.iconst 2, 1, 0, 0, .int 2), (.iadd, 1, 0, 0, .null), (.iaload, 1, 0, 0, .null), (.istore 5, 2, 5, 0, .null), (.iinc 6 1, 3, 6, 0, .int 1), (.goto (-60), 3, 0, 0, .null)]) (L' := [none, some (.ref 99), some (.int x2), some (.int x3), some (.int x4), some (.int (w.1 99 (Int32.toNatClampNeg ((5 * x6) + 2)))), some (.int (x6 + 1))]) (st' := []) (w' := w) (g := [jin ((5 * x6) + 2) 80]) (K := [(99, 20)]) (by decide +kernel) rfl rfl rfl hg7 (jk1 (rfl) jk0) ?_
            refine ev_mask [false, true, true, true, true, true, true] ?_
            exact ih _ _ _ _ _ _ _ h
          · replace h := jpos c8 h
            refine ev_seg (o := 10) (nL := 7) (q := 50) (xs := [(.bipush 100, 2, 0, 0, .int 100), (.goto 11, 3, 0, 0, .null), (.istore 5, 2, 5, 0, .null), (.iinc 6 1, 3, 6, 0, .int 1), (.goto (-60), 3, 0, 0, .null)]) (L' := [none, some (.ref 99), some (.int x2), some (.int x3), some (.int x4), some (.int 100), some (.int (x6 + 1))]) (st' := []) (w' := w) (g := []) (K := []) (by decide +kernel) rfl rfl rfl rfl jk0 ?_
            refine ev_mask [false, true, true, true, true, true, true] ?_
            exact ih _ _ _ _ _ _ _ h
def f_Law_where_j40 (x2 : Int32) (x3 : Int32) (x4 : Int32) (w : jW) : Option (Int32 × jW) :=
  if jal [jin (4 * x3) 32] = true then
  f_Law_where_h50 jfu x2 x3 x4 (w.1 98 (Int32.toNatClampNeg (4 * x3))) 0 w
  else none
set_option maxRecDepth 20000 in
set_option maxHeartbeats 40000000 in
theorem t_Law_where_j40 {l : Launch} {G : jG} (hG : jX G) {x2 : Int32} {x3 : Int32} {x4 : Int32} {w : jW} {z : (Int32 × jW)} (h : f_Law_where_j40 x2 x3 x4 w = some z) : Ev l G (jrm d_Law_where 0 0) y_Law_where (some (.int z.1), (jRx 101), z.2) 0 0 0 0 40 [some (.ref 98), some (.ref 99), some (.int x2), some (.int x3), some (.int x4), none, none] [] (jRx 101) w := by
  rw [f_Law_where_j40] at h
  obtain ⟨hg3, h⟩ := jgd h
  refine ev_seg (o := 10) (nL := 7) (q := 50) (xs := [(.aload_n 0, 1, 0, 0, .null), (.iconst 4, 1, 0, 0, .int 4), (.iload_n 3, 1, 3, 0, .null), (.imul, 1, 0, 0, .null), (.iaload, 1, 0, 0, .null), (.istore 5, 2, 5, 0, .null), (.iconst 0, 1, 0, 0, .int 0), (.istore 6, 2, 6, 0, .null)]) (L' := [some (.ref 98), some (.ref 99), some (.int x2), some (.int x3), some (.int x4), some (.int (w.1 98 (Int32.toNatClampNeg (4 * x3)))), some (.int 0)]) (st' := []) (w' := w) (g := [jin (4 * x3) 32]) (K := [(98, 20)]) (by decide +kernel) rfl rfl rfl hg3 (jk1 (rfl) jk0) ?_
  refine ev_mask [false, true, true, true, true, true, true] ?_
  exact t_Law_where_h50 hG jfu _ _ _ _ _ _ _ h
def f_Law_where (x2 : Int32) (x3 : Int32) (x4 : Int32) (w : jW) : Option (Int32 × jW) :=
  if jal [jin ((4 * x3) + 1) 32] = true then
  if x4 < (w.1 98 (Int32.toNatClampNeg ((4 * x3) + 1))) then
    some (102, w)
  else
    if jal [jin ((4 * x3) + 3) 32] = true then
    if (w.1 98 (Int32.toNatClampNeg ((4 * x3) + 3))) < 0 then
      f_Law_where_j40 x2 x3 x4 w
    else
      if jal [jin ((4 * x3) + 3) 32] = true then
      if x4 < (w.1 98 (Int32.toNatClampNeg ((4 * x3) + 3))) then
        f_Law_where_j40 x2 x3 x4 w
      else
        some (101, w)
      else none
    else none
  else none
set_option maxRecDepth 20000 in
set_option maxHeartbeats 40000000 in
theorem e_Law_where {l : Launch} {G : jG} (hG : jX G) {x2 : Int32} {x3 : Int32} {x4 : Int32} {w : jW} {z : (Int32 × jW)} (h : f_Law_where x2 x3 x4 w = some z) : Ct l G y_Law_where d_Law_where 0 0 [.ref 98, .ref 99, .int x2, .int x3, .int x4] (jRx 101) w (some (.int z.1), (jRx 101), z.2) := by
  rw [f_Law_where] at h
  refine Ct.of (L := [some (.ref 98), some (.ref 99), some (.int x2), some (.int x3), some (.int x4), none, none]) (by decide) (Nat.le_of_ble_eq_true rfl) rfl ?_
  obtain ⟨hg1, h⟩ := jgd h
  refine ev_seg (o := 10) (nL := 7) (q := 9) (xs := [(.iload 4, 2, 4, 0, .null), (.aload_n 0, 1, 0, 0, .null), (.iconst 4, 1, 0, 0, .int 4), (.iload_n 3, 1, 3, 0, .null), (.imul, 1, 0, 0, .null), (.iconst 1, 1, 0, 0, .int 1), (.iadd, 1, 0, 0, .null), (.iaload, 1, 0, 0, .null)]) (L' := [some (.ref 98), some (.ref 99), some (.int x2), some (.int x3), some (.int x4), none, none]) (st' := [.int (w.1 98 (Int32.toNatClampNeg ((4 * x3) + 1))), .int x4]) (w' := w) (g := [jin ((4 * x3) + 1) 32]) (K := [(98, 20)]) (by decide +kernel) rfl rfl rfl hg1 (jk1 (rfl) jk0) ?_
  refine ev_icmp_ge (off := 6) (tgt := 15) (by decide +kernel) (by decide) (fun c15 => ?_) (fun c15 => ?_)
  · replace h := jneg c15 h
    obtain ⟨hg2, h⟩ := jgd h
    refine ev_seg (o := 10) (nL := 7) (q := 22) (xs := [(.aload_n 0, 1, 0, 0, .null), (.iconst 4, 1, 0, 0, .int 4), (.iload_n 3, 1, 3, 0, .null), (.imul, 1, 0, 0, .null), (.iconst 3, 1, 0, 0, .int 3), (.iadd, 1, 0, 0, .null), (.iaload, 1, 0, 0, .null)]) (L' := [some (.ref 98), some (.ref 99), some (.int x2), some (.int x3), some (.int x4), none, none]) (st' := [.int (w.1 98 (Int32.toNatClampNeg ((4 * x3) + 3)))]) (w' := w) (g := [jin ((4 * x3) + 3) 32]) (K := [(98, 20)]) (by decide +kernel) rfl rfl rfl hg2 (jk1 (rfl) jk0) ?_
    refine ev_if_lt (off := 18) (tgt := 40) (by decide +kernel) (by decide) (fun c14 => ?_) (fun c14 => ?_)
    · replace h := jpos c14 h
      refine ev_mask [true, true, true, true, true, false, false] ?_
      exact t_Law_where_j40 hG h
    · replace h := jneg c14 h
      obtain ⟨hg12, h⟩ := jgd h
      refine ev_seg (o := 10) (nL := 7) (q := 34) (xs := [(.iload 4, 2, 4, 0, .null), (.aload_n 0, 1, 0, 0, .null), (.iconst 4, 1, 0, 0, .int 4), (.iload_n 3, 1, 3, 0, .null), (.imul, 1, 0, 0, .null), (.iconst 3, 1, 0, 0, .int 3), (.iadd, 1, 0, 0, .null), (.iaload, 1, 0, 0, .null)]) (L' := [some (.ref 98), some (.ref 99), some (.int x2), some (.int x3), some (.int x4), none, none]) (st' := [.int (w.1 98 (Int32.toNatClampNeg ((4 * x3) + 3))), .int x4]) (w' := w) (g := [jin ((4 * x3) + 3) 32]) (K := [(98, 20)]) (by decide +kernel) rfl rfl rfl hg12 (jk1 (rfl) jk0) ?_
      refine ev_icmp_lt (off := 6) (tgt := 40) (by decide +kernel) (by decide) (fun c13 => ?_) (fun c13 => ?_)
      · replace h := jpos c13 h
        refine ev_mask [true, true, true, true, true, false, false] ?_
        exact t_Law_where_j40 hG h
      · replace h := jneg c13 h
        refine ev_seg (o := 10) (nL := 7) (q := 39) (xs := [(.bipush 101, 2, 0, 0, .int 101)]) (L' := [some (.ref 98), some (.ref 99), some (.int x2), some (.int x3), some (.int x4), none, none]) (st' := [.int 101]) (w' := w) (g := []) (K := []) (by decide +kernel) rfl rfl rfl rfl jk0 ?_
        cases h
        exact ev_iret (by decide +kernel) rfl rfl rfl rfl
  · replace h := jpos c15 h
    refine ev_seg (o := 10) (nL := 7) (q := 14) (xs := [(.bipush 102, 2, 0, 0, .int 102)]) (L' := [some (.ref 98), some (.ref 99), some (.int x2), some (.int x3), some (.int x4), none, none]) (st' := [.int 102]) (w' := w) (g := []) (K := []) (by decide +kernel) rfl rfl rfl rfl jk0 ?_
    cases h
    exact ev_iret (by decide +kernel) rfl rfl rfl rfl
def f_Law_whole_j115 (k3 : Int32 → Int32 → Int32 → Int32 → jW → Option (Int32 × jW)) (x1 : Int32) (x3 : Int32) (x4 : Int32) (x5 : Int32) (x6 : Int32) (s0 : Int32) (w : jW) : Option (Int32 × jW) :=
  if x6 = 0 then
    if s0 = 0 then
      k3 x1 x3 x4 (x5 + 1) w
    else
      some (0, w)
  else
    some (0, w)
set_option maxRecDepth 20000 in
set_option maxHeartbeats 40000000 in
theorem t_Law_whole_j115 {l : Launch} {G : jG} (hG : jX G) {k3 : Int32 → Int32 → Int32 → Int32 → jW → Option (Int32 × jW)} (hk3 : ∀ (x1 : Int32) (x3 : Int32) (x4 : Int32) (x5 : Int32) (w : jW) (z : (Int32 × jW)), k3 x1 x3 x4 x5 w = some z → Ev l G (jrm d_Law_whole 0 0) y_Law_whole (some (.int z.1), (jRx 101), z.2) 0 0 0 0 3 [some (.ref 100), some (.int x1), some (.ref 99), some (.int x3), some (.int x4), some (.int x5), none, none] [] (jRx 101) w) {x1 : Int32} {x3 : Int32} {x4 : Int32} {x5 : Int32} {x6 : Int32} {s0 : Int32} {w : jW} {z : (Int32 × jW)} (h : f_Law_whole_j115 k3 x1 x3 x4 x5 x6 s0 w = some z) : Ev l G (jrm d_Law_whole 0 0) y_Law_whole (some (.int z.1), (jRx 101), z.2) 0 0 0 0 115 [some (.ref 100), some (.int x1), some (.ref 99), some (.int x3), some (.int x4), some (.int x5), some (.int x6), none] [.int s0] (jRx 101) w := by
  rw [f_Law_whole_j115] at h
  refine ev_seg (o := 10) (nL := 8) (q := 119) (xs := [(.istore 7, 2, 7, 0, .null), (.iload 6, 2, 6, 0, .null)]) (L' := [some (.ref 100), some (.int x1), some (.ref 99), some (.int x3), some (.int x4), some (.int x5), some (.int x6), some (.int s0)]) (st' := [.int x6]) (w' := w) (g := []) (K := []) (by decide +kernel) rfl rfl rfl rfl jk0 ?_
  refine ev_if_ne (off := 8) (tgt := 127) (by decide +kernel) (by decide) (fun c4 => ?_) (fun c4 => ?_)
  · replace h := jneg c4 h
    refine ev_seg (o := 10) (nL := 8) (q := 128) (xs := [(.iconst 0, 1, 0, 0, .int 0)]) (L' := [some (.ref 100), some (.int x1), some (.ref 99), some (.int x3), some (.int x4), some (.int x5), some (.int x6), some (.int s0)]) (st' := [.int 0]) (w' := w) (g := []) (K := []) (by decide +kernel) rfl rfl rfl rfl jk0 ?_
    cases h
    exact ev_zret (by decide +kernel) rfl rfl rfl rfl rfl
  · replace h := jpos c4 h
    refine ev_seg (o := 10) (nL := 8) (q := 124) (xs := [(.iload 7, 2, 7, 0, .null)]) (L' := [some (.ref 100), some (.int x1), some (.ref 99), some (.int x3), some (.int x4), some (.int x5), some (.int x6), some (.int s0)]) (st' := [.int s0]) (w' := w) (g := []) (K := []) (by decide +kernel) rfl rfl rfl rfl jk0 ?_
    refine ev_if_eq (off := 5) (tgt := 129) (by decide +kernel) (by decide) (fun c3 => ?_) (fun c3 => ?_)
    · replace h := jpos c3 h
      refine ev_seg (o := 10) (nL := 8) (q := 3) (xs := [(.iinc 5 1, 3, 5, 0, .int 1), (.goto (-129), 3, 0, 0, .null)]) (L' := [some (.ref 100), some (.int x1), some (.ref 99), some (.int x3), some (.int x4), some (.int (x5 + 1)), some (.int x6), some (.int s0)]) (st' := []) (w' := w) (g := []) (K := []) (by decide +kernel) rfl rfl rfl rfl jk0 ?_
      refine ev_mask [true, true, true, true, true, true, false, false] ?_
      exact hk3 _ _ _ _ _ _ h
    · replace h := jneg c3 h
      refine ev_seg (o := 10) (nL := 8) (q := 128) (xs := [(.iconst 0, 1, 0, 0, .int 0)]) (L' := [some (.ref 100), some (.int x1), some (.ref 99), some (.int x3), some (.int x4), some (.int x5), some (.int x6), some (.int s0)]) (st' := [.int 0]) (w' := w) (g := []) (K := []) (by decide +kernel) rfl rfl rfl rfl jk0 ?_
      cases h
      exact ev_zret (by decide +kernel) rfl rfl rfl rfl rfl
def f_Law_whole_j114 (k3 : Int32 → Int32 → Int32 → Int32 → jW → Option (Int32 × jW)) (x1 : Int32) (x3 : Int32) (x4 : Int32) (x5 : Int32) (x6 : Int32) (w : jW) : Option (Int32 × jW) :=
  f_Law_whole_j115 k3 x1 x3 x4 x5 x6 0 w
set_option maxRecDepth 20000 in
set_option maxHeartbeats 40000000 in
theorem t_Law_whole_j114 {l : Launch} {G : jG} (hG : jX G) {k3 : Int32 → Int32 → Int32 → Int32 → jW → Option (Int32 × jW)} (hk3 : ∀ (x1 : Int32) (x3 : Int32) (x4 : Int32) (x5 : Int32) (w : jW) (z : (Int32 × jW)), k3 x1 x3 x4 x5 w = some z → Ev l G (jrm d_Law_whole 0 0) y_Law_whole (some (.int z.1), (jRx 101), z.2) 0 0 0 0 3 [some (.ref 100), some (.int x1), some (.ref 99), some (.int x3), some (.int x4), some (.int x5), none, none] [] (jRx 101) w) {x1 : Int32} {x3 : Int32} {x4 : Int32} {x5 : Int32} {x6 : Int32} {w : jW} {z : (Int32 × jW)} (h : f_Law_whole_j114 k3 x1 x3 x4 x5 x6 w = some z) : Ev l G (jrm d_Law_whole 0 0) y_Law_whole (some (.int z.1), (jRx 101), z.2) 0 0 0 0 114 [some (.ref 100), some (.int x1), some (.ref 99), some (.int x3), some (.int x4), some (.int x5), some (.int x6), none] [] (jRx 101) w := by
  rw [f_Law_whole_j114] at h
  refine ev_seg (o := 10) (nL := 8) (q := 115) (xs := [(.iconst 0, 1, 0, 0, .int 0)]) (L' := [some (.ref 100), some (.int x1), some (.ref 99), some (.int x3), some (.int x4), some (.int x5), some (.int x6), none]) (st' := [.int 0]) (w' := w) (g := []) (K := []) (by decide +kernel) rfl rfl rfl rfl jk0 ?_
  refine ev_mask [true, true, true, true, true, true, true, false] ?_
  exact t_Law_whole_j115 hG hk3 h
def f_Law_whole_j61 (k3 : Int32 → Int32 → Int32 → Int32 → jW → Option (Int32 × jW)) (x1 : Int32) (x3 : Int32) (x4 : Int32) (x5 : Int32) (s0 : Int32) (w : jW) : Option (Int32 × jW) :=
  if jal [jin (2 * x1) 16, jin ((5 * x5) + 2) 80] = true then
  if (w.1 99 (Int32.toNatClampNeg ((5 * x5) + 2))) = (w.1 100 (Int32.toNatClampNeg (2 * x1))) then
    if jal [jin ((2 * x1) + 1) 16, jin ((5 * x5) + 4) 80] = true then
    if (w.1 99 (Int32.toNatClampNeg ((5 * x5) + 4))) ≤ (w.1 100 (Int32.toNatClampNeg ((2 * x1) + 1))) then
      f_Law_whole_j114 k3 x1 x3 x4 x5 s0 w
    else
      if jal [jin ((5 * x5) + 4) 80] = true then
      if (w.1 99 (Int32.toNatClampNeg ((5 * x5) + 4))) ≤ x4 then
        f_Law_whole_j115 k3 x1 x3 x4 x5 s0 1 w
      else
        f_Law_whole_j114 k3 x1 x3 x4 x5 s0 w
      else none
    else none
  else
    f_Law_whole_j114 k3 x1 x3 x4 x5 s0 w
  else none
set_option maxRecDepth 20000 in
set_option maxHeartbeats 40000000 in
theorem t_Law_whole_j61 {l : Launch} {G : jG} (hG : jX G) {k3 : Int32 → Int32 → Int32 → Int32 → jW → Option (Int32 × jW)} (hk3 : ∀ (x1 : Int32) (x3 : Int32) (x4 : Int32) (x5 : Int32) (w : jW) (z : (Int32 × jW)), k3 x1 x3 x4 x5 w = some z → Ev l G (jrm d_Law_whole 0 0) y_Law_whole (some (.int z.1), (jRx 101), z.2) 0 0 0 0 3 [some (.ref 100), some (.int x1), some (.ref 99), some (.int x3), some (.int x4), some (.int x5), none, none] [] (jRx 101) w) {x1 : Int32} {x3 : Int32} {x4 : Int32} {x5 : Int32} {s0 : Int32} {w : jW} {z : (Int32 × jW)} (h : f_Law_whole_j61 k3 x1 x3 x4 x5 s0 w = some z) : Ev l G (jrm d_Law_whole 0 0) y_Law_whole (some (.int z.1), (jRx 101), z.2) 0 0 0 0 61 [some (.ref 100), some (.int x1), some (.ref 99), some (.int x3), some (.int x4), some (.int x5), none, none] [.int s0] (jRx 101) w := by
  rw [f_Law_whole_j61] at h
  obtain ⟨hg2, h⟩ := jgd h
  refine ev_seg (o := 10) (nL := 8) (q := 76) (xs := [(.istore 6, 2, 6, 0, .null), (.aload_n 2, 1, 2, 0, .null), (.iconst 5, 1, 0, 0, .int 5), (.iload 5, 2, 5, 0, .null), (.imul, 1, 0, 0, .null), (.iconst 2, 1, 0, 0, .int 2), (.iadd, 1, 0, 0, .null), (.iaload, 1, 0, 0, .null), (.aload_n 0, 1, 0, 0, .null), (.iconst 2, 1, 0, 0, .int 2), (.iload_n 1, 1, 1, 0, .null), (.imul, 1, 0, 0, .null), (.iaload, 1, 0, 0, .null)]) (L' := [some (.ref 100), some (.int x1), some (.ref 99), some (.int x3), some (.int x4), some (.int x5), some (.int s0), none]) (st' := [.int (w.1 100 (Int32.toNatClampNeg (2 * x1))), .int (w.1 99 (Int32.toNatClampNeg ((5 * x5) + 2)))]) (w' := w) (g := [jin (2 * x1) 16, jin ((5 * x5) + 2) 80]) (K := [(100, 20), (99, 20)]) (by decide +kernel) rfl rfl rfl hg2 (jk1 (rfl) (jk1 (rfl) jk0)) ?_
  refine ev_icmp_ne (off := 38) (tgt := 114) (by decide +kernel) (by decide) (fun c9 => ?_) (fun c9 => ?_)
  · replace h := jneg c9 h
    refine ev_mask [true, true, true, true, true, true, true, false] ?_
    exact t_Law_whole_j114 hG hk3 h
  · replace h := jpos c9 h
    obtain ⟨hg5, h⟩ := jgd h
    refine ev_seg (o := 10) (nL := 8) (q := 94) (xs := [(.aload_n 2, 1, 2, 0, .null), (.iconst 5, 1, 0, 0, .int 5), (.iload 5, 2, 5, 0, .null), (.imul, 1, 0, 0, .null), (.iconst 4, 1, 0, 0, .int 4), (.iadd, 1, 0, 0, .null), (.iaload, 1, 0, 0, .null), (.aload_n 0, 1, 0, 0, .null), (.iconst 2, 1, 0, 0, .int 2), (.iload_n 1, 1, 1, 0, .null), (.imul, 1, 0, 0, .null), (.iconst 1, 1, 0, 0, .int 1), (.iadd, 1, 0, 0, .null), (.iaload, 1, 0, 0, .null)]) (L' := [some (.ref 100), some (.int x1), some (.ref 99), some (.int x3), some (.int x4), some (.int x5), some (.int s0), none]) (st' := [.int (w.1 100 (Int32.toNatClampNeg ((2 * x1) + 1))), .int (w.1 99 (Int32.toNatClampNeg ((5 * x5) + 4)))]) (w' := w) (g := [jin ((2 * x1) + 1) 16, jin ((5 * x5) + 4) 80]) (K := [(100, 20), (99, 20)]) (by decide +kernel) rfl rfl rfl hg5 (jk1 (rfl) (jk1 (rfl) jk0)) ?_
    refine ev_icmp_le (off := 20) (tgt := 114) (by decide +kernel) (by decide) (fun c8 => ?_) (fun c8 => ?_)
    · replace h := jpos c8 h
      refine ev_mask [true, true, true, true, true, true, true, false] ?_
      exact t_Law_whole_j114 hG hk3 h
    · replace h := jneg c8 h
      obtain ⟨hg6, h⟩ := jgd h
      refine ev_seg (o := 10) (nL := 8) (q := 107) (xs := [(.aload_n 2, 1, 2, 0, .null), (.iconst 5, 1, 0, 0, .int 5), (.iload 5, 2, 5, 0, .null), (.imul, 1, 0, 0, .null), (.iconst 4, 1, 0, 0, .int 4), (.iadd, 1, 0, 0, .null), (.iaload, 1, 0, 0, .null), (.iload 4, 2, 4, 0, .null)]) (L' := [some (.ref 100), some (.int x1), some (.ref 99), some (.int x3), some (.int x4), some (.int x5), some (.int s0), none]) (st' := [.int x4, .int (w.1 99 (Int32.toNatClampNeg ((5 * x5) + 4)))]) (w' := w) (g := [jin ((5 * x5) + 4) 80]) (K := [(99, 20)]) (by decide +kernel) rfl rfl rfl hg6 (jk1 (rfl) jk0) ?_
      refine ev_icmp_gt (off := 7) (tgt := 114) (by decide +kernel) (by decide) (fun c7 => ?_) (fun c7 => ?_)
      · replace h := jneg c7 h
        refine ev_mask [true, true, true, true, true, true, true, false] ?_
        exact t_Law_whole_j114 hG hk3 h
      · replace h := jpos c7 h
        refine ev_seg (o := 10) (nL := 8) (q := 115) (xs := [(.iconst 1, 1, 0, 0, .int 1), (.goto 4, 3, 0, 0, .null)]) (L' := [some (.ref 100), some (.int x1), some (.ref 99), some (.int x3), some (.int x4), some (.int x5), some (.int s0), none]) (st' := [.int 1]) (w' := w) (g := []) (K := []) (by decide +kernel) rfl rfl rfl rfl jk0 ?_
        refine ev_mask [true, true, true, true, true, true, true, false] ?_
        exact t_Law_whole_j115 hG hk3 h
def f_Law_whole_j60 (k3 : Int32 → Int32 → Int32 → Int32 → jW → Option (Int32 × jW)) (x1 : Int32) (x3 : Int32) (x4 : Int32) (x5 : Int32) (w : jW) : Option (Int32 × jW) :=
  f_Law_whole_j61 k3 x1 x3 x4 x5 0 w
set_option maxRecDepth 20000 in
set_option maxHeartbeats 40000000 in
theorem t_Law_whole_j60 {l : Launch} {G : jG} (hG : jX G) {k3 : Int32 → Int32 → Int32 → Int32 → jW → Option (Int32 × jW)} (hk3 : ∀ (x1 : Int32) (x3 : Int32) (x4 : Int32) (x5 : Int32) (w : jW) (z : (Int32 × jW)), k3 x1 x3 x4 x5 w = some z → Ev l G (jrm d_Law_whole 0 0) y_Law_whole (some (.int z.1), (jRx 101), z.2) 0 0 0 0 3 [some (.ref 100), some (.int x1), some (.ref 99), some (.int x3), some (.int x4), some (.int x5), none, none] [] (jRx 101) w) {x1 : Int32} {x3 : Int32} {x4 : Int32} {x5 : Int32} {w : jW} {z : (Int32 × jW)} (h : f_Law_whole_j60 k3 x1 x3 x4 x5 w = some z) : Ev l G (jrm d_Law_whole 0 0) y_Law_whole (some (.int z.1), (jRx 101), z.2) 0 0 0 0 60 [some (.ref 100), some (.int x1), some (.ref 99), some (.int x3), some (.int x4), some (.int x5), none, none] [] (jRx 101) w := by
  rw [f_Law_whole_j60] at h
  refine ev_seg (o := 10) (nL := 8) (q := 61) (xs := [(.iconst 0, 1, 0, 0, .int 0)]) (L' := [some (.ref 100), some (.int x1), some (.ref 99), some (.int x3), some (.int x4), some (.int x5), none, none]) (st' := [.int 0]) (w' := w) (g := []) (K := []) (by decide +kernel) rfl rfl rfl rfl jk0 ?_
  refine ev_mask [true, true, true, true, true, true, false, false] ?_
  exact t_Law_whole_j61 hG hk3 h
def f_Law_whole_h3 : Nat → Int32 → Int32 → Int32 → Int32 → jW → Option (Int32 × jW)
  | 0, _, _, _, _, _ => none
  | n + 1, x1, x3, x4, x5, w =>
  if x5 < x3 then
    if jal [jin (2 * x1) 16, jin ((5 * x5) + 1) 80] = true then
    if (w.1 99 (Int32.toNatClampNeg ((5 * x5) + 1))) = (w.1 100 (Int32.toNatClampNeg (2 * x1))) then
      if jal [jin ((2 * x1) + 1) 16, jin ((5 * x5) + 3) 80] = true then
      if (w.1 99 (Int32.toNatClampNeg ((5 * x5) + 3))) ≤ (w.1 100 (Int32.toNatClampNeg ((2 * x1) + 1))) then
        f_Law_whole_j60 (f_Law_whole_h3 n) x1 x3 x4 x5 w
      else
        if jal [jin ((5 * x5) + 3) 80] = true then
        if (w.1 99 (Int32.toNatClampNeg ((5 * x5) + 3))) ≤ x4 then
          f_Law_whole_j61 (f_Law_whole_h3 n) x1 x3 x4 x5 1 w
        else
          f_Law_whole_j60 (f_Law_whole_h3 n) x1 x3 x4 x5 w
        else none
      else none
    else
      f_Law_whole_j60 (f_Law_whole_h3 n) x1 x3 x4 x5 w
    else none
  else
    some (1, w)
set_option maxRecDepth 20000 in
set_option maxHeartbeats 40000000 in
theorem t_Law_whole_h3 {l : Launch} {G : jG} (hG : jX G) : ∀ (n : Nat) (x1 : Int32) (x3 : Int32) (x4 : Int32) (x5 : Int32) (w : jW) (z : (Int32 × jW)), f_Law_whole_h3 n x1 x3 x4 x5 w = some z → Ev l G (jrm d_Law_whole 0 0) y_Law_whole (some (.int z.1), (jRx 101), z.2) 0 0 0 0 3 [some (.ref 100), some (.int x1), some (.ref 99), some (.int x3), some (.int x4), some (.int x5), none, none] [] (jRx 101) w := by
  intro n
  induction n with
  | zero => intro x1 x3 x4 x5 w z h; simp only [f_Law_whole_h3] at h; cases h
  | succ n ih =>
    intro x1 x3 x4 x5 w z h
    rw [f_Law_whole_h3] at h
    refine ev_seg (o := 10) (nL := 8) (q := 6) (xs := [(.iload 5, 2, 5, 0, .null), (.iload_n 3, 1, 3, 0, .null)]) (L' := [some (.ref 100), some (.int x1), some (.ref 99), some (.int x3), some (.int x4), some (.int x5), none, none]) (st' := [.int x3, .int x5]) (w' := w) (g := []) (K := []) (by decide +kernel) rfl rfl rfl rfl jk0 ?_
    refine ev_icmp_ge (off := 129) (tgt := 135) (by decide +kernel) (by decide) (fun c15 => ?_) (fun c15 => ?_)
    · replace h := jneg c15 h
      refine ev_seg (o := 10) (nL := 8) (q := 136) (xs := [(.iconst 1, 1, 0, 0, .int 1)]) (L' := [some (.ref 100), some (.int x1), some (.ref 99), some (.int x3), some (.int x4), some (.int x5), none, none]) (st' := [.int 1]) (w' := w) (g := []) (K := []) (by decide +kernel) rfl rfl rfl rfl jk0 ?_
      cases h
      exact ev_zret (by decide +kernel) rfl rfl rfl rfl rfl
    · replace h := jpos c15 h
      obtain ⟨hg1, h⟩ := jgd h
      refine ev_seg (o := 10) (nL := 8) (q := 22) (xs := [(.aload_n 2, 1, 2, 0, .null), (.iconst 5, 1, 0, 0, .int 5), (.iload 5, 2, 5, 0, .null), (.imul, 1, 0, 0, .null), (.iconst 1, 1, 0, 0, .int 1), (.iadd, 1, 0, 0, .null), (.iaload, 1, 0, 0, .null), (.aload_n 0, 1, 0, 0, .null), (.iconst 2, 1, 0, 0, .int 2), (.iload_n 1, 1, 1, 0, .null), (.imul, 1, 0, 0, .null), (.iaload, 1, 0, 0, .null)]) (L' := [some (.ref 100), some (.int x1), some (.ref 99), some (.int x3), some (.int x4), some (.int x5), none, none]) (st' := [.int (w.1 100 (Int32.toNatClampNeg (2 * x1))), .int (w.1 99 (Int32.toNatClampNeg ((5 * x5) + 1)))]) (w' := w) (g := [jin (2 * x1) 16, jin ((5 * x5) + 1) 80]) (K := [(100, 20), (99, 20)]) (by decide +kernel) rfl rfl rfl hg1 (jk1 (rfl) (jk1 (rfl) jk0)) ?_
      refine ev_icmp_ne (off := 38) (tgt := 60) (by decide +kernel) (by decide) (fun c14 => ?_) (fun c14 => ?_)
      · replace h := jneg c14 h
        refine ev_mask [true, true, true, true, true, true, false, false] ?_
        exact t_Law_whole_j60 hG ih h
      · replace h := jpos c14 h
        obtain ⟨hg10, h⟩ := jgd h
        refine ev_seg (o := 10) (nL := 8) (q := 40) (xs := [(.aload_n 2, 1, 2, 0, .null), (.iconst 5, 1, 0, 0, .int 5), (.iload 5, 2, 5, 0, .null), (.imul, 1, 0, 0, .null), (.iconst 3, 1, 0, 0, .int 3), (.iadd, 1, 0, 0, .null), (.iaload, 1, 0, 0, .null), (.aload_n 0, 1, 0, 0, .null), (.iconst 2, 1, 0, 0, .int 2), (.iload_n 1, 1, 1, 0, .null), (.imul, 1, 0, 0, .null), (.iconst 1, 1, 0, 0, .int 1), (.iadd, 1, 0, 0, .null), (.iaload, 1, 0, 0, .null)]) (L' := [some (.ref 100), some (.int x1), some (.ref 99), some (.int x3), some (.int x4), some (.int x5), none, none]) (st' := [.int (w.1 100 (Int32.toNatClampNeg ((2 * x1) + 1))), .int (w.1 99 (Int32.toNatClampNeg ((5 * x5) + 3)))]) (w' := w) (g := [jin ((2 * x1) + 1) 16, jin ((5 * x5) + 3) 80]) (K := [(100, 20), (99, 20)]) (by decide +kernel) rfl rfl rfl hg10 (jk1 (rfl) (jk1 (rfl) jk0)) ?_
        refine ev_icmp_le (off := 20) (tgt := 60) (by decide +kernel) (by decide) (fun c13 => ?_) (fun c13 => ?_)
        · replace h := jpos c13 h
          refine ev_mask [true, true, true, true, true, true, false, false] ?_
          exact t_Law_whole_j60 hG ih h
        · replace h := jneg c13 h
          obtain ⟨hg11, h⟩ := jgd h
          refine ev_seg (o := 10) (nL := 8) (q := 53) (xs := [(.aload_n 2, 1, 2, 0, .null), (.iconst 5, 1, 0, 0, .int 5), (.iload 5, 2, 5, 0, .null), (.imul, 1, 0, 0, .null), (.iconst 3, 1, 0, 0, .int 3), (.iadd, 1, 0, 0, .null), (.iaload, 1, 0, 0, .null), (.iload 4, 2, 4, 0, .null)]) (L' := [some (.ref 100), some (.int x1), some (.ref 99), some (.int x3), some (.int x4), some (.int x5), none, none]) (st' := [.int x4, .int (w.1 99 (Int32.toNatClampNeg ((5 * x5) + 3)))]) (w' := w) (g := [jin ((5 * x5) + 3) 80]) (K := [(99, 20)]) (by decide +kernel) rfl rfl rfl hg11 (jk1 (rfl) jk0) ?_
          refine ev_icmp_gt (off := 7) (tgt := 60) (by decide +kernel) (by decide) (fun c12 => ?_) (fun c12 => ?_)
          · replace h := jneg c12 h
            refine ev_mask [true, true, true, true, true, true, false, false] ?_
            exact t_Law_whole_j60 hG ih h
          · replace h := jpos c12 h
            refine ev_seg (o := 10) (nL := 8) (q := 61) (xs := [(.iconst 1, 1, 0, 0, .int 1), (.goto 4, 3, 0, 0, .null)]) (L' := [some (.ref 100), some (.int x1), some (.ref 99), some (.int x3), some (.int x4), some (.int x5), none, none]) (st' := [.int 1]) (w' := w) (g := []) (K := []) (by decide +kernel) rfl rfl rfl rfl jk0 ?_
            refine ev_mask [true, true, true, true, true, true, false, false] ?_
            exact t_Law_whole_j61 hG ih h
def f_Law_whole (x1 : Int32) (x3 : Int32) (x4 : Int32) (w : jW) : Option (Int32 × jW) :=
  f_Law_whole_h3 jfu x1 x3 x4 0 w
set_option maxRecDepth 20000 in
set_option maxHeartbeats 40000000 in
theorem e_Law_whole {l : Launch} {G : jG} (hG : jX G) {x1 : Int32} {x3 : Int32} {x4 : Int32} {w : jW} {z : (Int32 × jW)} (h : f_Law_whole x1 x3 x4 w = some z) : Ct l G y_Law_whole d_Law_whole 0 0 [.ref 100, .int x1, .ref 99, .int x3, .int x4] (jRx 101) w (some (.int z.1), (jRx 101), z.2) := by
  rw [f_Law_whole] at h
  refine Ct.of (L := [some (.ref 100), some (.int x1), some (.ref 99), some (.int x3), some (.int x4), none, none, none]) (by decide) (Nat.le_of_ble_eq_true rfl) rfl ?_
  refine ev_seg (o := 10) (nL := 8) (q := 3) (xs := [(.iconst 0, 1, 0, 0, .int 0), (.istore 5, 2, 5, 0, .null)]) (L' := [some (.ref 100), some (.int x1), some (.ref 99), some (.int x3), some (.int x4), some (.int 0), none, none]) (st' := []) (w' := w) (g := []) (K := []) (by decide +kernel) rfl rfl rfl rfl jk0 ?_
  refine ev_mask [true, true, true, true, true, true, false, false] ?_
  exact t_Law_whole_h3 hG jfu _ _ _ _ _ _ h

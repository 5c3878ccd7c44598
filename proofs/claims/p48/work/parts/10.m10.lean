def f_Rows_open_h32 (a0 : Nat) : Nat → Int32 → Int32 → Int32 → jW → Option (Int32 × jW)
  | 0, _, _, _, _ => none
  | n + 1, x1, x2, x3, w =>
  if x3 < (w.1 a0 0) then
    if jal [jin (x2 + x3) (jSl jR0 (jSr jR0 a0 1))] = true then
    jlw ((jup w.1 (jSr jR0 a0 1) (Int32.toNatClampNeg (x2 + x3)) 0), w.2) fun w5 =>
    (f_Rows_open_h32 a0 n) x1 x2 (x3 + 1) w5
    else none
  else
    if jal [jin x2 (jSl jR0 (jSr jR0 a0 1))] = true then
    jlw ((jup w.1 (jSr jR0 a0 1) (Int32.toNatClampNeg x2) x1), w.2) fun w2 =>
    jlw ((jup w2.1 a0 2 ((w2.1 a0 2) + 1)), w2.2) fun w3 =>
    some (((w3.1 a0 2) - 1), w3)
    else none
set_option maxRecDepth 20000 in
theorem t_Rows_open_h32 {l : Launch} {G : jG} (hG : jX G) {kk : Nat} (hk : 93 ≤ kk) {a0 : Nat} (h_a0 : jSk (jRx kk) a0 = 3) : ∀ (n : Nat) (x1 : Int32) (x2 : Int32) (x3 : Int32) (w : jW) (z : (Int32 × jW)), f_Rows_open_h32 a0 n x1 x2 x3 w = some z → Ev l G (jrm d_Rows_open 0 0) y_Rows_open (some (.int z.1), (jRx kk), z.2) 0 0 0 0 32 [some (.ref a0), some (.int x1), some (.int x2), some (.int x3)] [] (jRx kk) w := by
  intro n
  induction n with
  | zero => intro x1 x2 x3 w z h; simp only [f_Rows_open_h32] at h; cases h
  | succ n ih =>
    intro x1 x2 x3 w z h
    rw [f_Rows_open_h32] at h
    refine ev_seg (o := 3) (nL := 4) (q := 37) (xs := [(.iload_n 3, 1, 3, 0, .null), (.aload_n 0, 1, 0, 0, .null), (.getfield 15, 3, 3, 0, .int 0)]) (L' := [some (.ref a0), some (.int x1), some (.int x2), some (.int x3)]) (st' := [.int (w.1 a0 0), .int x3]) (w' := w) (g := []) (K := [(a0, 3)]) (by decide +kernel) rfl rfl rfl rfl (jk1 h_a0 jk0) ?_
    refine ev_icmp_ge (off := 18) (tgt := 55) (by decide +kernel) (by decide) (fun c6 => ?_) (fun c6 => ?_)
    · replace h := jneg c6 h
      obtain ⟨hg1, h⟩ := jgd h
      refine ev_seg (o := 3) (nL := 4) (q := 62) (xs := [(.aload_n 0, 1, 0, 0, .null), (.getfield 21, 3, 3, 1, .ref 20), (.iload_n 2, 1, 2, 0, .null), (.iload_n 1, 1, 1, 0, .null), (.iastore, 1, 0, 0, .null)]) (L' := [some (.ref a0), some (.int x1), some (.int x2), some (.int x3)]) (st' := []) (w' := ((jup w.1 (jSr jR0 a0 1) (Int32.toNatClampNeg x2) x1), w.2)) (g := [jin x2 (jSl jR0 (jSr jR0 a0 1))]) (K := [((jSr jR0 a0 1), 20), ((jSr jR0 a0 1), 20), (a0, 3)]) (by decide +kernel) rfl rfl rfl hg1 (jk1 (kt_3_1 hk h_a0) (jk1 (kt_3_1 hk h_a0) (jk1 h_a0 jk0))) ?_
      refine jlw_c (P := fun w2 => Ev l G (jrm d_Rows_open 0 0) y_Rows_open (some (.int z.1), (jRx kk), z.2) 0 0 0 0 62 [some (.ref a0), some (.int x1), some (.int x2), some (.int x3)] [] (jRx kk) w2) h fun w2 h => ?_
      refine ev_seg (o := 3) (nL := 4) (q := 72) (xs := [(.aload_n 0, 1, 0, 0, .null), (.dup, 1, 0, 0, .null), (.getfield 25, 3, 3, 2, .int 0), (.iconst 1, 1, 0, 0, .int 1), (.iadd, 1, 0, 0, .null), (.putfield 25, 3, 3, 2, .int 0)]) (L' := [some (.ref a0), some (.int x1), some (.int x2), some (.int x3)]) (st' := []) (w' := ((jup w2.1 a0 2 ((w2.1 a0 2) + 1)), w2.2)) (g := []) (K := [(a0, 3), (a0, 3)]) (by decide +kernel) rfl rfl rfl rfl (jk1 h_a0 (jk1 h_a0 jk0)) ?_
      refine jlw_c (P := fun w3 => Ev l G (jrm d_Rows_open 0 0) y_Rows_open (some (.int z.1), (jRx kk), z.2) 0 0 0 0 72 [some (.ref a0), some (.int x1), some (.int x2), some (.int x3)] [] (jRx kk) w3) h fun w3 h => ?_
      refine ev_seg (o := 3) (nL := 4) (q := 78) (xs := [(.aload_n 0, 1, 0, 0, .null), (.getfield 25, 3, 3, 2, .int 0), (.iconst 1, 1, 0, 0, .int 1), (.isub, 1, 0, 0, .null)]) (L' := [some (.ref a0), some (.int x1), some (.int x2), some (.int x3)]) (st' := [.int ((w3.1 a0 2) - 1)]) (w' := w3) (g := []) (K := [(a0, 3)]) (by decide +kernel) rfl rfl rfl rfl (jk1 h_a0 jk0) ?_
      cases h
      exact ev_iret (by decide +kernel) rfl rfl rfl rfl
    · replace h := jpos c6 h
      obtain ⟨hg4, h⟩ := jgd h
      refine ev_seg (o := 3) (nL := 4) (q := 49) (xs := [(.aload_n 0, 1, 0, 0, .null), (.getfield 21, 3, 3, 1, .ref 20), (.iload_n 2, 1, 2, 0, .null), (.iload_n 3, 1, 3, 0, .null), (.iadd, 1, 0, 0, .null), (.iconst 0, 1, 0, 0, .int 0), (.iastore, 1, 0, 0, .null)]) (L' := [some (.ref a0), some (.int x1), some (.int x2), some (.int x3)]) (st' := []) (w' := ((jup w.1 (jSr jR0 a0 1) (Int32.toNatClampNeg (x2 + x3)) 0), w.2)) (g := [jin (x2 + x3) (jSl jR0 (jSr jR0 a0 1))]) (K := [((jSr jR0 a0 1), 20), ((jSr jR0 a0 1), 20), (a0, 3)]) (by decide +kernel) rfl rfl rfl hg4 (jk1 (kt_3_1 hk h_a0) (jk1 (kt_3_1 hk h_a0) (jk1 h_a0 jk0))) ?_
      refine jlw_c (P := fun w5 => Ev l G (jrm d_Rows_open 0 0) y_Rows_open (some (.int z.1), (jRx kk), z.2) 0 0 0 0 49 [some (.ref a0), some (.int x1), some (.int x2), some (.int x3)] [] (jRx kk) w5) h fun w5 h => ?_
      refine ev_seg (o := 3) (nL := 4) (q := 32) (xs := [(.iinc 3 1, 3, 3, 0, .int 1), (.goto (-20), 3, 0, 0, .null)]) (L' := [some (.ref a0), some (.int x1), some (.int x2), some (.int (x3 + 1))]) (st' := []) (w' := w5) (g := []) (K := []) (by decide +kernel) rfl rfl rfl rfl jk0 ?_
      refine ev_mask [true, true, true, true] ?_
      exact ih _ _ _ _ _ h
def f_Rows_open (a0 : Nat) (x1 : Int32) (w : jW) : Option (Int32 × jW) :=
  if ((w.1 a0 2) * (w.1 a0 0)) < 0 then
    some ((-1), w)
  else
    if (((w.1 a0 2) * (w.1 a0 0)) + (w.1 a0 0)) ≤ (Int32.ofNat (jSl jR0 (jSr jR0 a0 1))) then
      f_Rows_open_h32 a0 jfu x1 ((w.1 a0 2) * (w.1 a0 0)) 1 w
    else
      some ((-1), w)
set_option maxRecDepth 20000 in
theorem e_Rows_open {l : Launch} {G : jG} (hG : jX G) {kk : Nat} (hk : 93 ≤ kk) {a0 : Nat} {x1 : Int32} (h_a0 : jSk (jRx kk) a0 = 3) {w : jW} {z : (Int32 × jW)} (h : f_Rows_open a0 x1 w = some z) : Ct l G y_Rows_open d_Rows_open 0 0 [.ref a0, .int x1] (jRx kk) w (some (.int z.1), (jRx kk), z.2) := by
  rw [f_Rows_open] at h
  refine Ct.of (L := [some (.ref a0), some (.int x1), none, none]) (by decide) (Nat.le_of_ble_eq_true rfl) rfl ?_
  refine ev_seg (o := 3) (nL := 4) (q := 11) (xs := [(.aload_n 0, 1, 0, 0, .null), (.getfield 25, 3, 3, 2, .int 0), (.aload_n 0, 1, 0, 0, .null), (.getfield 15, 3, 3, 0, .int 0), (.imul, 1, 0, 0, .null), (.istore_n 2, 1, 2, 0, .null), (.iload_n 2, 1, 2, 0, .null)]) (L' := [some (.ref a0), some (.int x1), some (.int ((w.1 a0 2) * (w.1 a0 0))), none]) (st' := [.int ((w.1 a0 2) * (w.1 a0 0))]) (w' := w) (g := []) (K := [(a0, 3), (a0, 3)]) (by decide +kernel) rfl rfl rfl rfl (jk1 h_a0 (jk1 h_a0 jk0)) ?_
  refine ev_if_lt (off := 17) (tgt := 28) (by decide +kernel) (by decide) (fun c8 => ?_) (fun c8 => ?_)
  · replace h := jpos c8 h
    refine ev_seg (o := 3) (nL := 4) (q := 29) (xs := [(.iconst (-1), 1, 0, 0, .int (-1))]) (L' := [some (.ref a0), some (.int x1), some (.int ((w.1 a0 2) * (w.1 a0 0))), none]) (st' := [.int (-1)]) (w' := w) (g := []) (K := []) (by decide +kernel) rfl rfl rfl rfl jk0 ?_
    cases h
    exact ev_iret (by decide +kernel) rfl rfl rfl rfl
  · replace h := jneg c8 h
    refine ev_seg (o := 3) (nL := 4) (q := 25) (xs := [(.iload_n 2, 1, 2, 0, .null), (.aload_n 0, 1, 0, 0, .null), (.getfield 15, 3, 3, 0, .int 0), (.iadd, 1, 0, 0, .null), (.aload_n 0, 1, 0, 0, .null), (.getfield 21, 3, 3, 1, .ref 20), (.arraylength, 1, 20, 0, .null)]) (L' := [some (.ref a0), some (.int x1), some (.int ((w.1 a0 2) * (w.1 a0 0))), none]) (st' := [.int (Int32.ofNat (jSl jR0 (jSr jR0 a0 1))), .int (((w.1 a0 2) * (w.1 a0 0)) + (w.1 a0 0))]) (w' := w) (g := []) (K := [((jSr jR0 a0 1), 20), ((jSr jR0 a0 1), 20), (a0, 3), (a0, 3)]) (by decide +kernel) rfl rfl rfl rfl (jk1 (kt_3_1 hk h_a0) (jk1 (kt_3_1 hk h_a0) (jk1 h_a0 (jk1 h_a0 jk0)))) ?_
    refine ev_icmp_le (off := 5) (tgt := 30) (by decide +kernel) (by decide) (fun c7 => ?_) (fun c7 => ?_)
    · replace h := jpos c7 h
      refine ev_seg (o := 3) (nL := 4) (q := 32) (xs := [(.iconst 1, 1, 0, 0, .int 1), (.istore_n 3, 1, 3, 0, .null)]) (L' := [some (.ref a0), some (.int x1), some (.int ((w.1 a0 2) * (w.1 a0 0))), some (.int 1)]) (st' := []) (w' := w) (g := []) (K := []) (by decide +kernel) rfl rfl rfl rfl jk0 ?_
      refine ev_mask [true, true, true, true] ?_
      exact t_Rows_open_h32 hG hk h_a0 jfu _ _ _ _ _ h
    · replace h := jneg c7 h
      refine ev_seg (o := 3) (nL := 4) (q := 29) (xs := [(.iconst (-1), 1, 0, 0, .int (-1))]) (L' := [some (.ref a0), some (.int x1), some (.int ((w.1 a0 2) * (w.1 a0 0))), none]) (st' := [.int (-1)]) (w' := w) (g := []) (K := []) (by decide +kernel) rfl rfl rfl rfl jk0 ?_
      cases h
      exact ev_iret (by decide +kernel) rfl rfl rfl rfl
def f_Rows_put (a0 : Nat) (x1 : Int32) (x2 : Int32) (x3 : Int32) (w : jW) : Option jW :=
  if x1 < 0 then
    some w
  else
    if x1 < (w.1 a0 2) then
      if x2 < 0 then
        some w
      else
        if x2 < (w.1 a0 0) then
          if ((x1 * (w.1 a0 0)) + x2) < 0 then
            some w
          else
            if ((x1 * (w.1 a0 0)) + x2) < (Int32.ofNat (jSl jR0 (jSr jR0 a0 1))) then
              if jal [jin ((x1 * (w.1 a0 0)) + x2) (jSl jR0 (jSr jR0 a0 1))] = true then
              jlw ((jup w.1 (jSr jR0 a0 1) (Int32.toNatClampNeg ((x1 * (w.1 a0 0)) + x2)) x3), w.2) fun w2 =>
              some w2
              else none
            else
              some w
        else
          some w
    else
      some w
set_option maxRecDepth 20000 in
theorem e_Rows_put {l : Launch} {G : jG} (hG : jX G) {kk : Nat} (hk : 93 ≤ kk) {a0 : Nat} {x1 : Int32} {x2 : Int32} {x3 : Int32} (h_a0 : jSk (jRx kk) a0 = 3) {w : jW} {z : jW} (h : f_Rows_put a0 x1 x2 x3 w = some z) : Ct l G y_Rows_put d_Rows_put 0 0 [.ref a0, .int x1, .int x2, .int x3] (jRx kk) w (none, (jRx kk), z) := by
  rw [f_Rows_put] at h
  refine Ct.of (L := [some (.ref a0), some (.int x1), some (.int x2), some (.int x3), none]) (by decide) (Nat.le_of_ble_eq_true rfl) rfl ?_
  refine ev_seg (o := 3) (nL := 5) (q := 1) (xs := [(.iload_n 1, 1, 1, 0, .null)]) (L' := [some (.ref a0), some (.int x1), some (.int x2), some (.int x3), none]) (st' := [.int x1]) (w' := w) (g := []) (K := []) (by decide +kernel) rfl rfl rfl rfl jk0 ?_
  refine ev_if_lt (off := 23) (tgt := 24) (by decide +kernel) (by decide) (fun c8 => ?_) (fun c8 => ?_)
  · replace h := jpos c8 h
    cases h
    exact ev_vret (by decide +kernel) rfl rfl rfl rfl
  · replace h := jneg c8 h
    refine ev_seg (o := 3) (nL := 5) (q := 9) (xs := [(.iload_n 1, 1, 1, 0, .null), (.aload_n 0, 1, 0, 0, .null), (.getfield 25, 3, 3, 2, .int 0)]) (L' := [some (.ref a0), some (.int x1), some (.int x2), some (.int x3), none]) (st' := [.int (w.1 a0 2), .int x1]) (w' := w) (g := []) (K := [(a0, 3)]) (by decide +kernel) rfl rfl rfl rfl (jk1 h_a0 jk0) ?_
    refine ev_icmp_ge (off := 15) (tgt := 24) (by decide +kernel) (by decide) (fun c7 => ?_) (fun c7 => ?_)
    · replace h := jneg c7 h
      cases h
      exact ev_vret (by decide +kernel) rfl rfl rfl rfl
    · replace h := jpos c7 h
      refine ev_seg (o := 3) (nL := 5) (q := 13) (xs := [(.iload_n 2, 1, 2, 0, .null)]) (L' := [some (.ref a0), some (.int x1), some (.int x2), some (.int x3), none]) (st' := [.int x2]) (w' := w) (g := []) (K := []) (by decide +kernel) rfl rfl rfl rfl jk0 ?_
      refine ev_if_lt (off := 11) (tgt := 24) (by decide +kernel) (by decide) (fun c6 => ?_) (fun c6 => ?_)
      · replace h := jpos c6 h
        cases h
        exact ev_vret (by decide +kernel) rfl rfl rfl rfl
      · replace h := jneg c6 h
        refine ev_seg (o := 3) (nL := 5) (q := 21) (xs := [(.iload_n 2, 1, 2, 0, .null), (.aload_n 0, 1, 0, 0, .null), (.getfield 15, 3, 3, 0, .int 0)]) (L' := [some (.ref a0), some (.int x1), some (.int x2), some (.int x3), none]) (st' := [.int (w.1 a0 0), .int x2]) (w' := w) (g := []) (K := [(a0, 3)]) (by decide +kernel) rfl rfl rfl rfl (jk1 h_a0 jk0) ?_
        refine ev_icmp_lt (off := 4) (tgt := 25) (by decide +kernel) (by decide) (fun c5 => ?_) (fun c5 => ?_)
        · replace h := jpos c5 h
          refine ev_seg (o := 3) (nL := 5) (q := 37) (xs := [(.iload_n 1, 1, 1, 0, .null), (.aload_n 0, 1, 0, 0, .null), (.getfield 15, 3, 3, 0, .int 0), (.imul, 1, 0, 0, .null), (.iload_n 2, 1, 2, 0, .null), (.iadd, 1, 0, 0, .null), (.istore 4, 2, 4, 0, .null), (.iload 4, 2, 4, 0, .null)]) (L' := [some (.ref a0), some (.int x1), some (.int x2), some (.int x3), some (.int ((x1 * (w.1 a0 0)) + x2))]) (st' := [.int ((x1 * (w.1 a0 0)) + x2)]) (w' := w) (g := []) (K := [(a0, 3)]) (by decide +kernel) rfl rfl rfl rfl (jk1 h_a0 jk0) ?_
          refine ev_if_lt (off := 21) (tgt := 58) (by decide +kernel) (by decide) (fun c4 => ?_) (fun c4 => ?_)
          · replace h := jpos c4 h
            cases h
            exact ev_vret (by decide +kernel) rfl rfl rfl rfl
          · replace h := jneg c4 h
            refine ev_seg (o := 3) (nL := 5) (q := 47) (xs := [(.iload 4, 2, 4, 0, .null), (.aload_n 0, 1, 0, 0, .null), (.getfield 21, 3, 3, 1, .ref 20), (.arraylength, 1, 20, 0, .null)]) (L' := [some (.ref a0), some (.int x1), some (.int x2), some (.int x3), some (.int ((x1 * (w.1 a0 0)) + x2))]) (st' := [.int (Int32.ofNat (jSl jR0 (jSr jR0 a0 1))), .int ((x1 * (w.1 a0 0)) + x2)]) (w' := w) (g := []) (K := [((jSr jR0 a0 1), 20), ((jSr jR0 a0 1), 20), (a0, 3)]) (by decide +kernel) rfl rfl rfl rfl (jk1 (kt_3_1 hk h_a0) (jk1 (kt_3_1 hk h_a0) (jk1 h_a0 jk0))) ?_
            refine ev_icmp_ge (off := 11) (tgt := 58) (by decide +kernel) (by decide) (fun c3 => ?_) (fun c3 => ?_)
            · replace h := jneg c3 h
              cases h
              exact ev_vret (by decide +kernel) rfl rfl rfl rfl
            · replace h := jpos c3 h
              obtain ⟨hg1, h⟩ := jgd h
              refine ev_seg (o := 3) (nL := 5) (q := 58) (xs := [(.aload_n 0, 1, 0, 0, .null), (.getfield 21, 3, 3, 1, .ref 20), (.iload 4, 2, 4, 0, .null), (.iload_n 3, 1, 3, 0, .null), (.iastore, 1, 0, 0, .null)]) (L' := [some (.ref a0), some (.int x1), some (.int x2), some (.int x3), some (.int ((x1 * (w.1 a0 0)) + x2))]) (st' := []) (w' := ((jup w.1 (jSr jR0 a0 1) (Int32.toNatClampNeg ((x1 * (w.1 a0 0)) + x2)) x3), w.2)) (g := [jin ((x1 * (w.1 a0 0)) + x2) (jSl jR0 (jSr jR0 a0 1))]) (K := [((jSr jR0 a0 1), 20), ((jSr jR0 a0 1), 20), (a0, 3)]) (by decide +kernel) rfl rfl rfl hg1 (jk1 (kt_3_1 hk h_a0) (jk1 (kt_3_1 hk h_a0) (jk1 h_a0 jk0))) ?_
              refine jlw_c (P := fun w2 => Ev l G (jrm d_Rows_put 0 0) y_Rows_put (none, (jRx kk), z) 0 0 0 0 58 [some (.ref a0), some (.int x1), some (.int x2), some (.int x3), some (.int ((x1 * (w.1 a0 0)) + x2))] [] (jRx kk) w2) h fun w2 h => ?_
              cases h
              exact ev_vret (by decide +kernel) rfl rfl rfl rfl
        · replace h := jneg c5 h
          cases h
          exact ev_vret (by decide +kernel) rfl rfl rfl rfl
def f_State_isLand (x0 : Int32) (w : jW) : Option (Int32 × jW) :=
  if x0 < 0 then
    some (0, w)
  else
    if x0 < 2 then
      some (1, w)
    else
      some (0, w)
set_option maxRecDepth 20000 in
theorem e_State_isLand {l : Launch} {G : jG} (hG : jX G) {kk : Nat} (hk : 93 ≤ kk) {x0 : Int32} {w : jW} {z : (Int32 × jW)} (h : f_State_isLand x0 w = some z) : Ct l G y_State_isLand d_State_isLand 0 0 [.int x0] (jRx kk) w (some (.int z.1), (jRx kk), z.2) := by
  rw [f_State_isLand] at h
  refine Ct.of (L := [some (.int x0)]) (by decide) (Nat.le_of_ble_eq_true rfl) rfl ?_
  refine ev_seg (o := 6) (nL := 1) (q := 1) (xs := [(.iload_n 0, 1, 0, 0, .null)]) (L' := [some (.int x0)]) (st' := [.int x0]) (w' := w) (g := []) (K := []) (by decide +kernel) rfl rfl rfl rfl jk0 ?_
  refine ev_if_lt (off := 12) (tgt := 13) (by decide +kernel) (by decide) (fun c2 => ?_) (fun c2 => ?_)
  · replace h := jpos c2 h
    refine ev_seg (o := 6) (nL := 1) (q := 14) (xs := [(.iconst 0, 1, 0, 0, .int 0)]) (L' := [some (.int x0)]) (st' := [.int 0]) (w' := w) (g := []) (K := []) (by decide +kernel) rfl rfl rfl rfl jk0 ?_
    cases h
    exact ev_zret (by decide +kernel) rfl rfl rfl rfl rfl
  · replace h := jneg c2 h
    refine ev_seg (o := 6) (nL := 1) (q := 6) (xs := [(.iload_n 0, 1, 0, 0, .null), (.iconst 2, 1, 0, 0, .int 2)]) (L' := [some (.int x0)]) (st' := [.int 2, .int x0]) (w' := w) (g := []) (K := []) (by decide +kernel) rfl rfl rfl rfl jk0 ?_
    refine ev_icmp_ge (off := 7) (tgt := 13) (by decide +kernel) (by decide) (fun c1 => ?_) (fun c1 => ?_)
    · replace h := jneg c1 h
      refine ev_seg (o := 6) (nL := 1) (q := 14) (xs := [(.iconst 0, 1, 0, 0, .int 0)]) (L' := [some (.int x0)]) (st' := [.int 0]) (w' := w) (g := []) (K := []) (by decide +kernel) rfl rfl rfl rfl jk0 ?_
      cases h
      exact ev_zret (by decide +kernel) rfl rfl rfl rfl rfl
    · replace h := jpos c1 h
      refine ev_seg (o := 6) (nL := 1) (q := 14) (xs := [(.iconst 1, 1, 0, 0, .int 1), (.goto 4, 3, 0, 0, .null)]) (L' := [some (.int x0)]) (st' := [.int 1]) (w' := w) (g := []) (K := []) (by decide +kernel) rfl rfl rfl rfl jk0 ?_
      cases h
      exact ev_zret (by decide +kernel) rfl rfl rfl rfl rfl
def f_Rows_isFull (a0 : Nat) (w : jW) : Option (Int32 × jW) :=
  if (((w.1 a0 2) + 1) * (w.1 a0 0)) ≤ (Int32.ofNat (jSl jR0 (jSr jR0 a0 1))) then
    some (0, w)
  else
    some (1, w)
set_option maxRecDepth 20000 in
theorem e_Rows_isFull {l : Launch} {G : jG} (hG : jX G) {kk : Nat} (hk : 93 ≤ kk) {a0 : Nat} (h_a0 : jSk (jRx kk) a0 = 3) {w : jW} {z : (Int32 × jW)} (h : f_Rows_isFull a0 w = some z) : Ct l G y_Rows_isFull d_Rows_isFull 0 0 [.ref a0] (jRx kk) w (some (.int z.1), (jRx kk), z.2) := by
  rw [f_Rows_isFull] at h
  refine Ct.of (L := [some (.ref a0)]) (by decide) (Nat.le_of_ble_eq_true rfl) rfl ?_
  refine ev_seg (o := 3) (nL := 1) (q := 16) (xs := [(.aload_n 0, 1, 0, 0, .null), (.getfield 25, 3, 3, 2, .int 0), (.iconst 1, 1, 0, 0, .int 1), (.iadd, 1, 0, 0, .null), (.aload_n 0, 1, 0, 0, .null), (.getfield 15, 3, 3, 0, .int 0), (.imul, 1, 0, 0, .null), (.aload_n 0, 1, 0, 0, .null), (.getfield 21, 3, 3, 1, .ref 20), (.arraylength, 1, 20, 0, .null)]) (L' := [some (.ref a0)]) (st' := [.int (Int32.ofNat (jSl jR0 (jSr jR0 a0 1))), .int (((w.1 a0 2) + 1) * (w.1 a0 0))]) (w' := w) (g := []) (K := [((jSr jR0 a0 1), 20), ((jSr jR0 a0 1), 20), (a0, 3), (a0, 3), (a0, 3)]) (by decide +kernel) rfl rfl rfl rfl (jk1 (kt_3_1 hk h_a0) (jk1 (kt_3_1 hk h_a0) (jk1 h_a0 (jk1 h_a0 (jk1 h_a0 jk0))))) ?_
  refine ev_icmp_le (off := 7) (tgt := 23) (by decide +kernel) (by decide) (fun c1 => ?_) (fun c1 => ?_)
  · replace h := jpos c1 h
    refine ev_seg (o := 3) (nL := 1) (q := 24) (xs := [(.iconst 0, 1, 0, 0, .int 0)]) (L' := [some (.ref a0)]) (st' := [.int 0]) (w' := w) (g := []) (K := []) (by decide +kernel) rfl rfl rfl rfl jk0 ?_
    cases h
    exact ev_zret (by decide +kernel) rfl rfl rfl rfl rfl
  · replace h := jneg c1 h
    refine ev_seg (o := 3) (nL := 1) (q := 24) (xs := [(.iconst 1, 1, 0, 0, .int 1), (.goto 4, 3, 0, 0, .null)]) (L' := [some (.ref a0)]) (st' := [.int 1]) (w' := w) (g := []) (K := []) (by decide +kernel) rfl rfl rfl rfl jk0 ?_
    cases h
    exact ev_zret (by decide +kernel) rfl rfl rfl rfl rfl
def f_State_openWays_j33 (k11 : Int32 → Int32 → jW → Option jW) (x1 : Int32) (x2 : Int32) (s0 : Int32) (s1 : Int32) (s2 : Int32) (w : jW) : Option jW :=
  Option.bind (f_Rows_put 8 s2 s1 s0 w) fun q2 =>
  k11 x1 (x2 + 1) q2
set_option maxRecDepth 20000 in
theorem t_State_openWays_j33 {l : Launch} {G : jG} (hG : jX G) {kk : Nat} (hk : 93 ≤ kk) {k11 : Int32 → Int32 → jW → Option jW} (hk11 : ∀ (x1 : Int32) (x2 : Int32) (w : jW) (z : jW), k11 x1 x2 w = some z → Ev l G (jrm d_State_openWays 0 0) y_State_openWays (none, (jRx kk), z) 0 0 0 0 11 [some (.ref 3), some (.int x1), some (.int x2)] [] (jRx kk) w) {x1 : Int32} {x2 : Int32} {s0 : Int32} {s1 : Int32} {s2 : Int32} {w : jW} {z : jW} (h : f_State_openWays_j33 k11 x1 x2 s0 s1 s2 w = some z) : Ev l G (jrm d_State_openWays 0 0) y_State_openWays (none, (jRx kk), z) 0 0 0 0 33 [some (.ref 3), some (.int x1), some (.int x2)] [.int s0, .int s1, .int s2, .ref 8] (jRx kk) w := by
  rw [f_State_openWays_j33] at h
  obtain ⟨q2, hq2, h⟩ := jbe h
  refine ev_callV (ci := 3) (a := 8) (y2 := y_Rows_put) (o := 6) (idx := 83) (d2 := d_Rows_put) (n := 3) (mc2 := 0) (ms2 := 0) (As := [.int s2, .int s1, .int s0]) (st := []) (res2 := (none, (jRx kk), q2)) (by decide +kernel) rfl lk_6_83 mo_Rows_put mv_Rows_put ⟨Nat.le_of_ble_eq_true rfl, Nat.le_of_ble_eq_true rfl⟩ rfl rfl (kz_8 hk) (by decide) rfl (Nat.le_of_ble_eq_true rfl) ⟨Nat.le_refl _, Nat.le_refl _⟩ hG (e_Rows_put hG hk (kz_8 hk) hq2) ?_
  refine ev_seg (o := 6) (nL := 3) (q := 11) (xs := [(.iinc 2 1, 3, 2, 0, .int 1), (.goto (-28), 3, 0, 0, .null)]) (L' := [some (.ref 3), some (.int x1), some (.int (x2 + 1))]) (st' := []) (w' := q2) (g := []) (K := []) (by decide +kernel) rfl rfl rfl rfl jk0 ?_
  refine ev_mask [true, true, true] ?_
  exact hk11 _ _ _ _ h
def f_State_openWays_h11 : Nat → Int32 → Int32 → jW → Option jW
  | 0, _, _, _ => none
  | n + 1, x1, x2, w =>
  if x2 < 10 then
    if x2 = x1 then
      f_State_openWays_j33 (f_State_openWays_h11 n) x1 x2 0 x2 x1 w
    else
      f_State_openWays_j33 (f_State_openWays_h11 n) x1 x2 (-1) x2 x1 w
  else
    some w
set_option maxRecDepth 20000 in
theorem t_State_openWays_h11 {l : Launch} {G : jG} (hG : jX G) {kk : Nat} (hk : 93 ≤ kk) : ∀ (n : Nat) (x1 : Int32) (x2 : Int32) (w : jW) (z : jW), f_State_openWays_h11 n x1 x2 w = some z → Ev l G (jrm d_State_openWays 0 0) y_State_openWays (none, (jRx kk), z) 0 0 0 0 11 [some (.ref 3), some (.int x1), some (.int x2)] [] (jRx kk) w := by
  intro n
  induction n with
  | zero => intro x1 x2 w z h; simp only [f_State_openWays_h11] at h; cases h
  | succ n ih =>
    intro x1 x2 w z h
    rw [f_State_openWays_h11] at h
    refine ev_seg (o := 6) (nL := 3) (q := 14) (xs := [(.iload_n 2, 1, 2, 0, .null), (.bipush 10, 2, 0, 0, .int 10)]) (L' := [some (.ref 3), some (.int x1), some (.int x2)]) (st' := [.int 10, .int x2]) (w' := w) (g := []) (K := []) (by decide +kernel) rfl rfl rfl rfl jk0 ?_
    refine ev_icmp_ge (off := 28) (tgt := 42) (by decide +kernel) (by decide) (fun c4 => ?_) (fun c4 => ?_)
    · replace h := jneg c4 h
      cases h
      exact ev_vret (by decide +kernel) rfl rfl rfl rfl
    · replace h := jpos c4 h
      refine ev_seg (o := 6) (nL := 3) (q := 25) (xs := [(.aload_n 0, 1, 0, 0, .null), (.getfield 39, 3, 6, 7, .ref 3), (.iload_n 1, 1, 1, 0, .null), (.iload_n 2, 1, 2, 0, .null), (.iload_n 2, 1, 2, 0, .null), (.iload_n 1, 1, 1, 0, .null)]) (L' := [some (.ref 3), some (.int x1), some (.int x2)]) (st' := [.int x1, .int x2, .int x2, .int x1, .ref 8]) (w' := w) (g := []) (K := [(8, 3), (3, 6)]) (by decide +kernel) rfl rfl rfl rfl (jk1 (kz_8 hk) (jk1 (kz_3 hk) jk0)) ?_
      refine ev_icmp_ne (off := 7) (tgt := 32) (by decide +kernel) (by decide) (fun c3 => ?_) (fun c3 => ?_)
      · replace h := jneg c3 h
        refine ev_seg (o := 6) (nL := 3) (q := 33) (xs := [(.iconst (-1), 1, 0, 0, .int (-1))]) (L' := [some (.ref 3), some (.int x1), some (.int x2)]) (st' := [.int (-1), .int x2, .int x1, .ref 8]) (w' := w) (g := []) (K := []) (by decide +kernel) rfl rfl rfl rfl jk0 ?_
        refine ev_mask [true, true, true] ?_
        exact t_State_openWays_j33 hG hk ih h
      · replace h := jpos c3 h
        refine ev_seg (o := 6) (nL := 3) (q := 33) (xs := [(.iconst 0, 1, 0, 0, .int 0), (.goto 4, 3, 0, 0, .null)]) (L' := [some (.ref 3), some (.int x1), some (.int x2)]) (st' := [.int 0, .int x2, .int x1, .ref 8]) (w' := w) (g := []) (K := []) (by decide +kernel) rfl rfl rfl rfl jk0 ?_
        refine ev_mask [true, true, true] ?_
        exact t_State_openWays_j33 hG hk ih h
def f_State_openWays (x1 : Int32) (w : jW) : Option jW :=
  Option.bind (f_Rows_open 8 (-1) w) fun q1 =>
  f_State_openWays_h11 jfu x1 0 q1.2
set_option maxRecDepth 20000 in
theorem e_State_openWays {l : Launch} {G : jG} (hG : jX G) {kk : Nat} (hk : 93 ≤ kk) {x1 : Int32} {w : jW} {z : jW} (h : f_State_openWays x1 w = some z) : Ct l G y_State_openWays d_State_openWays 0 0 [.ref 3, .int x1] (jRx kk) w (none, (jRx kk), z) := by
  rw [f_State_openWays] at h
  refine Ct.of (L := [some (.ref 3), some (.int x1), none]) (by decide) (Nat.le_of_ble_eq_true rfl) rfl ?_
  refine ev_seg (o := 6) (nL := 3) (q := 5) (xs := [(.aload_n 0, 1, 0, 0, .null), (.getfield 39, 3, 6, 7, .ref 3), (.iconst (-1), 1, 0, 0, .int (-1))]) (L' := [some (.ref 3), some (.int x1), none]) (st' := [.int (-1), .ref 8]) (w' := w) (g := []) (K := [(8, 3), (3, 6)]) (by decide +kernel) rfl rfl rfl rfl (jk1 (kz_8 hk) (jk1 (kz_3 hk) jk0)) ?_
  obtain ⟨q1, hq1, h⟩ := jbe h
  refine ev_callV (ci := 3) (a := 8) (y2 := y_Rows_open) (o := 6) (idx := 79) (d2 := d_Rows_open) (n := 1) (mc2 := 0) (ms2 := 0) (As := [.int (-1)]) (st := []) (res2 := (some (.int q1.1), (jRx kk), q1.2)) (by decide +kernel) rfl lk_6_79 mo_Rows_open mv_Rows_open ⟨Nat.le_of_ble_eq_true rfl, Nat.le_of_ble_eq_true rfl⟩ rfl rfl (kz_8 hk) (by decide) rfl (Nat.le_of_ble_eq_true rfl) ⟨Nat.le_refl _, Nat.le_refl _⟩ hG (e_Rows_open hG hk (kz_8 hk) hq1) ?_
  refine ev_seg (o := 6) (nL := 3) (q := 11) (xs := [(.pop, 1, 0, 0, .null), (.iconst 0, 1, 0, 0, .int 0), (.istore_n 2, 1, 2, 0, .null)]) (L' := [some (.ref 3), some (.int x1), some (.int 0)]) (st' := []) (w' := q1.2) (g := []) (K := []) (by decide +kernel) rfl rfl rfl rfl jk0 ?_
  refine ev_mask [true, true, true] ?_
  exact t_State_openWays_h11 hG hk jfu _ _ _ _ h
def f_Count_site_j100 (x5 : Int32) (s0 : Int32) (s1 : Int32) (s2 : Int32) (w : jW) : Option (Int32 × jW) :=
  Option.bind (f_Rows_put 6 s2 s1 s0 w) fun q6 =>
  Option.bind (f_Rows_put 6 x5 4 10 q6) fun q7 =>
  Option.bind (f_State_openWays x5 q7) fun q8 =>
  some (x5, q8)
set_option maxRecDepth 20000 in
theorem t_Count_site_j100 {l : Launch} {G : jG} (hG : jX G) {kk : Nat} (hk : 93 ≤ kk) {x5 : Int32} {s0 : Int32} {s1 : Int32} {s2 : Int32} {w : jW} {z : (Int32 × jW)} (h : f_Count_site_j100 x5 s0 s1 s2 w = some z) : Ev l G (jrm d_Count_site 0 0) y_Count_site (some (.int z.1), (jRx kk), z.2) 0 0 0 0 100 [some (.ref 2), none, none, none, none, some (.int x5)] [.int s0, .int s1, .int s2, .ref 6] (jRx kk) w := by
  rw [f_Count_site_j100] at h
  obtain ⟨q6, hq6, h⟩ := jbe h
  refine ev_callV (ci := 3) (a := 6) (y2 := y_Rows_put) (o := 9) (idx := 72) (d2 := d_Rows_put) (n := 3) (mc2 := 0) (ms2 := 0) (As := [.int s2, .int s1, .int s0]) (st := []) (res2 := (none, (jRx kk), q6)) (by decide +kernel) rfl lk_9_72 mo_Rows_put mv_Rows_put ⟨Nat.le_of_ble_eq_true rfl, Nat.le_of_ble_eq_true rfl⟩ rfl rfl (kz_6 hk) (by decide) rfl (Nat.le_of_ble_eq_true rfl) ⟨Nat.le_refl _, Nat.le_refl _⟩ hG (e_Rows_put hG hk (kz_6 hk) hq6) ?_
  refine ev_seg (o := 9) (nL := 6) (q := 115) (xs := [(.aload_n 0, 1, 0, 0, .null), (.getfield 12, 3, 9, 0, .ref 6), (.getfield 58, 3, 6, 6, .ref 3), (.iload 5, 2, 5, 0, .null), (.iconst 4, 1, 0, 0, .int 4), (.bipush 10, 2, 0, 0, .int 10)]) (L' := [some (.ref 2), none, none, none, none, some (.int x5)]) (st' := [.int 10, .int 4, .int x5, .ref 6]) (w' := q6) (g := []) (K := [(6, 3), (3, 6), (3, 6), (2, 9)]) (by decide +kernel) rfl rfl rfl rfl (jk1 (kz_6 hk) (jk1 (kz_3 hk) (jk1 (kz_3 hk) (jk1 (kz_2 hk) jk0)))) ?_
  obtain ⟨q7, hq7, h⟩ := jbe h
  refine ev_callV (ci := 3) (a := 6) (y2 := y_Rows_put) (o := 9) (idx := 72) (d2 := d_Rows_put) (n := 3) (mc2 := 0) (ms2 := 0) (As := [.int x5, .int 4, .int 10]) (st := []) (res2 := (none, (jRx kk), q7)) (by decide +kernel) rfl lk_9_72 mo_Rows_put mv_Rows_put ⟨Nat.le_of_ble_eq_true rfl, Nat.le_of_ble_eq_true rfl⟩ rfl rfl (kz_6 hk) (by decide) rfl (Nat.le_of_ble_eq_true rfl) ⟨Nat.le_refl _, Nat.le_refl _⟩ hG (e_Rows_put hG hk (kz_6 hk) hq7) ?_
  refine ev_seg (o := 9) (nL := 6) (q := 124) (xs := [(.aload_n 0, 1, 0, 0, .null), (.getfield 12, 3, 9, 0, .ref 6), (.iload 5, 2, 5, 0, .null)]) (L' := [some (.ref 2), none, none, none, none, some (.int x5)]) (st' := [.int x5, .ref 3]) (w' := q7) (g := []) (K := [(3, 6), (2, 9)]) (by decide +kernel) rfl rfl rfl rfl (jk1 (kz_3 hk) (jk1 (kz_2 hk) jk0)) ?_
  obtain ⟨q8, hq8, h⟩ := jbe h
  refine ev_callV (ci := 6) (a := 3) (y2 := y_State_openWays) (o := 9) (idx := 76) (d2 := d_State_openWays) (n := 1) (mc2 := 0) (ms2 := 0) (As := [.int x5]) (st := []) (res2 := (none, (jRx kk), q8)) (by decide +kernel) rfl lk_9_76 mo_State_openWays mv_State_openWays ⟨Nat.le_of_ble_eq_true rfl, Nat.le_of_ble_eq_true rfl⟩ rfl rfl (kz_3 hk) (by decide) rfl (Nat.le_of_ble_eq_true rfl) ⟨Nat.le_refl _, Nat.le_refl _⟩ hG (e_State_openWays hG hk hq8) ?_
  refine ev_seg (o := 9) (nL := 6) (q := 129) (xs := [(.iload 5, 2, 5, 0, .null)]) (L' := [some (.ref 2), none, none, none, none, some (.int x5)]) (st' := [.int x5]) (w' := q8) (g := []) (K := []) (by decide +kernel) rfl rfl rfl rfl jk0 ?_
  cases h
  exact ev_iret (by decide +kernel) rfl rfl rfl rfl
def f_Count_site_j77 (x4 : Int32) (x5 : Int32) (s0 : Int32) (s1 : Int32) (s2 : Int32) (w : jW) : Option (Int32 × jW) :=
  Option.bind (f_Rows_put 6 s2 s1 s0 w) fun q5 =>
  if x4 = 0 then
    f_Count_site_j100 x5 0 3 x5 q5
  else
    f_Count_site_j100 x5 1 3 x5 q5
set_option maxRecDepth 20000 in
theorem t_Count_site_j77 {l : Launch} {G : jG} (hG : jX G) {kk : Nat} (hk : 93 ≤ kk) {x4 : Int32} {x5 : Int32} {s0 : Int32} {s1 : Int32} {s2 : Int32} {w : jW} {z : (Int32 × jW)} (h : f_Count_site_j77 x4 x5 s0 s1 s2 w = some z) : Ev l G (jrm d_Count_site 0 0) y_Count_site (some (.int z.1), (jRx kk), z.2) 0 0 0 0 77 [some (.ref 2), none, none, none, some (.int x4), some (.int x5)] [.int s0, .int s1, .int s2, .ref 6] (jRx kk) w := by
  rw [f_Count_site_j77] at h
  obtain ⟨q5, hq5, h⟩ := jbe h
  refine ev_callV (ci := 3) (a := 6) (y2 := y_Rows_put) (o := 9) (idx := 72) (d2 := d_Rows_put) (n := 3) (mc2 := 0) (ms2 := 0) (As := [.int s2, .int s1, .int s0]) (st := []) (res2 := (none, (jRx kk), q5)) (by decide +kernel) rfl lk_9_72 mo_Rows_put mv_Rows_put ⟨Nat.le_of_ble_eq_true rfl, Nat.le_of_ble_eq_true rfl⟩ rfl rfl (kz_6 hk) (by decide) rfl (Nat.le_of_ble_eq_true rfl) ⟨Nat.le_refl _, Nat.le_refl _⟩ hG (e_Rows_put hG hk (kz_6 hk) hq5) ?_
  refine ev_seg (o := 9) (nL := 6) (q := 92) (xs := [(.aload_n 0, 1, 0, 0, .null), (.getfield 12, 3, 9, 0, .ref 6), (.getfield 58, 3, 6, 6, .ref 3), (.iload 5, 2, 5, 0, .null), (.iconst 3, 1, 0, 0, .int 3), (.iload 4, 2, 4, 0, .null)]) (L' := [some (.ref 2), none, none, none, some (.int x4), some (.int x5)]) (st' := [.int x4, .int 3, .int x5, .ref 6]) (w' := q5) (g := []) (K := [(6, 3), (3, 6), (3, 6), (2, 9)]) (by decide +kernel) rfl rfl rfl rfl (jk1 (kz_6 hk) (jk1 (kz_3 hk) (jk1 (kz_3 hk) (jk1 (kz_2 hk) jk0)))) ?_
  refine ev_if_eq (off := 7) (tgt := 99) (by decide +kernel) (by decide) (fun c9 => ?_) (fun c9 => ?_)
  · replace h := jpos c9 h
    refine ev_seg (o := 9) (nL := 6) (q := 100) (xs := [(.iconst 0, 1, 0, 0, .int 0)]) (L' := [some (.ref 2), none, none, none, some (.int x4), some (.int x5)]) (st' := [.int 0, .int 3, .int x5, .ref 6]) (w' := q5) (g := []) (K := []) (by decide +kernel) rfl rfl rfl rfl jk0 ?_
    refine ev_mask [true, false, false, false, false, true] ?_
    exact t_Count_site_j100 hG hk h
  · replace h := jneg c9 h
    refine ev_seg (o := 9) (nL := 6) (q := 100) (xs := [(.iconst 1, 1, 0, 0, .int 1), (.goto 4, 3, 0, 0, .null)]) (L' := [some (.ref 2), none, none, none, some (.int x4), some (.int x5)]) (st' := [.int 1, .int 3, .int x5, .ref 6]) (w' := q5) (g := []) (K := []) (by decide +kernel) rfl rfl rfl rfl jk0 ?_
    refine ev_mask [true, false, false, false, false, true] ?_
    exact t_Count_site_j100 hG hk h
def f_Count_site (x1 : Int32) (x2 : Int32) (x3 : Int32) (x4 : Int32) (w : jW) : Option (Int32 × jW) :=
  Option.bind (f_State_isLand x1 w) fun q1 =>
  if q1.1 = 0 then
    some ((-1), q1.2)
  else
    if x2 < 0 then
      some ((-1), q1.2)
    else
      if x2 ≤ 3 then
        Option.bind (f_Rows_isFull 6 q1.2) fun q2 =>
        if q2.1 = 0 then
          Option.bind (f_Rows_open 6 x1 q2.2) fun q3 =>
          Option.bind (f_Rows_put 6 q3.1 1 x2 q3.2) fun q4 =>
          if x3 = 0 then
            f_Count_site_j77 x4 q3.1 0 2 q3.1 q4
          else
            f_Count_site_j77 x4 q3.1 1 2 q3.1 q4
        else
          some ((-1), q2.2)
      else
        some ((-1), q1.2)
set_option maxRecDepth 20000 in
theorem e_Count_site {l : Launch} {G : jG} (hG : jX G) {kk : Nat} (hk : 93 ≤ kk) {x1 : Int32} {x2 : Int32} {x3 : Int32} {x4 : Int32} {w : jW} {z : (Int32 × jW)} (h : f_Count_site x1 x2 x3 x4 w = some z) : Ct l G y_Count_site d_Count_site 0 0 [.ref 2, .int x1, .int x2, .int x3, .int x4] (jRx kk) w (some (.int z.1), (jRx kk), z.2) := by
  rw [f_Count_site] at h
  refine Ct.of (L := [some (.ref 2), some (.int x1), some (.int x2), some (.int x3), some (.int x4), none]) (by decide) (Nat.le_of_ble_eq_true rfl) rfl ?_
  refine ev_seg (o := 9) (nL := 6) (q := 1) (xs := [(.iload_n 1, 1, 1, 0, .null)]) (L' := [some (.ref 2), some (.int x1), some (.int x2), some (.int x3), some (.int x4), none]) (st' := [.int x1]) (w' := w) (g := []) (K := []) (by decide +kernel) rfl rfl rfl rfl jk0 ?_
  obtain ⟨q1, hq1, h⟩ := jbe h
  refine ev_callS (y2 := y_State_isLand) (o := 9) (idx := 54) (d2 := d_State_isLand) (n := 1) (mc2 := 0) (ms2 := 0) (As := [.int x1]) (st := []) (res2 := (some (.int q1.1), (jRx kk), q1.2)) (by decide +kernel) rfl lk_9_54 mo_State_isLand ms_State_isLand ⟨Nat.le_of_ble_eq_true rfl, Nat.le_of_ble_eq_true rfl⟩ rfl rfl (Nat.le_of_ble_eq_true rfl) ⟨Nat.le_refl _, Nat.le_refl _⟩ hG (e_State_isLand hG hk hq1) ?_
  refine ev_if_eq (off := 25) (tgt := 29) (by decide +kernel) (by decide) (fun c14 => ?_) (fun c14 => ?_)
  · replace h := jpos c14 h
    refine ev_seg (o := 9) (nL := 6) (q := 30) (xs := [(.iconst (-1), 1, 0, 0, .int (-1))]) (L' := [some (.ref 2), some (.int x1), some (.int x2), some (.int x3), some (.int x4), none]) (st' := [.int (-1)]) (w' := q1.2) (g := []) (K := []) (by decide +kernel) rfl rfl rfl rfl jk0 ?_
    cases h
    exact ev_iret (by decide +kernel) rfl rfl rfl rfl
  · replace h := jneg c14 h
    refine ev_seg (o := 9) (nL := 6) (q := 8) (xs := [(.iload_n 2, 1, 2, 0, .null)]) (L' := [some (.ref 2), some (.int x1), some (.int x2), some (.int x3), some (.int x4), none]) (st' := [.int x2]) (w' := q1.2) (g := []) (K := []) (by decide +kernel) rfl rfl rfl rfl jk0 ?_
    refine ev_if_lt (off := 21) (tgt := 29) (by decide +kernel) (by decide) (fun c13 => ?_) (fun c13 => ?_)
    · replace h := jpos c13 h
      refine ev_seg (o := 9) (nL := 6) (q := 30) (xs := [(.iconst (-1), 1, 0, 0, .int (-1))]) (L' := [some (.ref 2), some (.int x1), some (.int x2), some (.int x3), some (.int x4), none]) (st' := [.int (-1)]) (w' := q1.2) (g := []) (K := []) (by decide +kernel) rfl rfl rfl rfl jk0 ?_
      cases h
      exact ev_iret (by decide +kernel) rfl rfl rfl rfl
    · replace h := jneg c13 h
      refine ev_seg (o := 9) (nL := 6) (q := 13) (xs := [(.iload_n 2, 1, 2, 0, .null), (.iconst 3, 1, 0, 0, .int 3)]) (L' := [some (.ref 2), some (.int x1), some (.int x2), some (.int x3), some (.int x4), none]) (st' := [.int 3, .int x2]) (w' := q1.2) (g := []) (K := []) (by decide +kernel) rfl rfl rfl rfl jk0 ?_
      refine ev_icmp_gt (off := 16) (tgt := 29) (by decide +kernel) (by decide) (fun c12 => ?_) (fun c12 => ?_)
      · replace h := jneg c12 h
        refine ev_seg (o := 9) (nL := 6) (q := 30) (xs := [(.iconst (-1), 1, 0, 0, .int (-1))]) (L' := [some (.ref 2), some (.int x1), some (.int x2), some (.int x3), some (.int x4), none]) (st' := [.int (-1)]) (w' := q1.2) (g := []) (K := []) (by decide +kernel) rfl rfl rfl rfl jk0 ?_
        cases h
        exact ev_iret (by decide +kernel) rfl rfl rfl rfl
      · replace h := jpos c12 h
        refine ev_seg (o := 9) (nL := 6) (q := 23) (xs := [(.aload_n 0, 1, 0, 0, .null), (.getfield 12, 3, 9, 0, .ref 6), (.getfield 58, 3, 6, 6, .ref 3)]) (L' := [some (.ref 2), some (.int x1), some (.int x2), some (.int x3), some (.int x4), none]) (st' := [.ref 6]) (w' := q1.2) (g := []) (K := [(6, 3), (3, 6), (3, 6), (2, 9)]) (by decide +kernel) rfl rfl rfl rfl (jk1 (kz_6 hk) (jk1 (kz_3 hk) (jk1 (kz_3 hk) (jk1 (kz_2 hk) jk0)))) ?_
        obtain ⟨q2, hq2, h⟩ := jbe h
        refine ev_callV (ci := 3) (a := 6) (y2 := y_Rows_isFull) (o := 9) (idx := 62) (d2 := d_Rows_isFull) (n := 0) (mc2 := 0) (ms2 := 0) (As := []) (st := []) (res2 := (some (.int q2.1), (jRx kk), q2.2)) (by decide +kernel) rfl lk_9_62 mo_Rows_isFull mv_Rows_isFull ⟨Nat.le_of_ble_eq_true rfl, Nat.le_of_ble_eq_true rfl⟩ rfl rfl (kz_6 hk) (by decide) rfl (Nat.le_of_ble_eq_true rfl) ⟨Nat.le_refl _, Nat.le_refl _⟩ hG (e_Rows_isFull hG hk (kz_6 hk) hq2) ?_
        refine ev_if_eq (off := 5) (tgt := 31) (by decide +kernel) (by decide) (fun c11 => ?_) (fun c11 => ?_)
        · replace h := jpos c11 h
          refine ev_seg (o := 9) (nL := 6) (q := 39) (xs := [(.aload_n 0, 1, 0, 0, .null), (.getfield 12, 3, 9, 0, .ref 6), (.getfield 58, 3, 6, 6, .ref 3), (.iload_n 1, 1, 1, 0, .null)]) (L' := [some (.ref 2), some (.int x1), some (.int x2), some (.int x3), some (.int x4), none]) (st' := [.int x1, .ref 6]) (w' := q2.2) (g := []) (K := [(6, 3), (3, 6), (3, 6), (2, 9)]) (by decide +kernel) rfl rfl rfl rfl (jk1 (kz_6 hk) (jk1 (kz_3 hk) (jk1 (kz_3 hk) (jk1 (kz_2 hk) jk0)))) ?_
          obtain ⟨q3, hq3, h⟩ := jbe h
          refine ev_callV (ci := 3) (a := 6) (y2 := y_Rows_open) (o := 9) (idx := 68) (d2 := d_Rows_open) (n := 1) (mc2 := 0) (ms2 := 0) (As := [.int x1]) (st := []) (res2 := (some (.int q3.1), (jRx kk), q3.2)) (by decide +kernel) rfl lk_9_68 mo_Rows_open mv_Rows_open ⟨Nat.le_of_ble_eq_true rfl, Nat.le_of_ble_eq_true rfl⟩ rfl rfl (kz_6 hk) (by decide) rfl (Nat.le_of_ble_eq_true rfl) ⟨Nat.le_refl _, Nat.le_refl _⟩ hG (e_Rows_open hG hk (kz_6 hk) hq3) ?_
          refine ev_seg (o := 9) (nL := 6) (q := 55) (xs := [(.istore 5, 2, 5, 0, .null), (.aload_n 0, 1, 0, 0, .null), (.getfield 12, 3, 9, 0, .ref 6), (.getfield 58, 3, 6, 6, .ref 3), (.iload 5, 2, 5, 0, .null), (.iconst 1, 1, 0, 0, .int 1), (.iload_n 2, 1, 2, 0, .null)]) (L' := [some (.ref 2), some (.int x1), some (.int x2), some (.int x3), some (.int x4), some (.int q3.1)]) (st' := [.int x2, .int 1, .int q3.1, .ref 6]) (w' := q3.2) (g := []) (K := [(6, 3), (3, 6), (3, 6), (2, 9)]) (by decide +kernel) rfl rfl rfl rfl (jk1 (kz_6 hk) (jk1 (kz_3 hk) (jk1 (kz_3 hk) (jk1 (kz_2 hk) jk0)))) ?_
          obtain ⟨q4, hq4, h⟩ := jbe h
          refine ev_callV (ci := 3) (a := 6) (y2 := y_Rows_put) (o := 9) (idx := 72) (d2 := d_Rows_put) (n := 3) (mc2 := 0) (ms2 := 0) (As := [.int q3.1, .int 1, .int x2]) (st := []) (res2 := (none, (jRx kk), q4)) (by decide +kernel) rfl lk_9_72 mo_Rows_put mv_Rows_put ⟨Nat.le_of_ble_eq_true rfl, Nat.le_of_ble_eq_true rfl⟩ rfl rfl (kz_6 hk) (by decide) rfl (Nat.le_of_ble_eq_true rfl) ⟨Nat.le_refl _, Nat.le_refl _⟩ hG (e_Rows_put hG hk (kz_6 hk) hq4) ?_
          refine ev_seg (o := 9) (nL := 6) (q := 69) (xs := [(.aload_n 0, 1, 0, 0, .null), (.getfield 12, 3, 9, 0, .ref 6), (.getfield 58, 3, 6, 6, .ref 3), (.iload 5, 2, 5, 0, .null), (.iconst 2, 1, 0, 0, .int 2), (.iload_n 3, 1, 3, 0, .null)]) (L' := [some (.ref 2), some (.int x1), some (.int x2), some (.int x3), some (.int x4), some (.int q3.1)]) (st' := [.int x3, .int 2, .int q3.1, .ref 6]) (w' := q4) (g := []) (K := [(6, 3), (3, 6), (3, 6), (2, 9)]) (by decide +kernel) rfl rfl rfl rfl (jk1 (kz_6 hk) (jk1 (kz_3 hk) (jk1 (kz_3 hk) (jk1 (kz_2 hk) jk0)))) ?_
          refine ev_if_eq (off := 7) (tgt := 76) (by decide +kernel) (by decide) (fun c10 => ?_) (fun c10 => ?_)
          · replace h := jpos c10 h
            refine ev_seg (o := 9) (nL := 6) (q := 77) (xs := [(.iconst 0, 1, 0, 0, .int 0)]) (L' := [some (.ref 2), some (.int x1), some (.int x2), some (.int x3), some (.int x4), some (.int q3.1)]) (st' := [.int 0, .int 2, .int q3.1, .ref 6]) (w' := q4) (g := []) (K := []) (by decide +kernel) rfl rfl rfl rfl jk0 ?_
            refine ev_mask [true, false, false, false, true, true] ?_
            exact t_Count_site_j77 hG hk h
          · replace h := jneg c10 h
            refine ev_seg (o := 9) (nL := 6) (q := 77) (xs := [(.iconst 1, 1, 0, 0, .int 1), (.goto 4, 3, 0, 0, .null)]) (L' := [some (.ref 2), some (.int x1), some (.int x2), some (.int x3), some (.int x4), some (.int q3.1)]) (st' := [.int 1, .int 2, .int q3.1, .ref 6]) (w' := q4) (g := []) (K := []) (by decide +kernel) rfl rfl rfl rfl jk0 ?_
            refine ev_mask [true, false, false, false, true, true] ?_
            exact t_Count_site_j77 hG hk h
        · replace h := jneg c11 h
          refine ev_seg (o := 9) (nL := 6) (q := 30) (xs := [(.iconst (-1), 1, 0, 0, .int (-1))]) (L' := [some (.ref 2), some (.int x1), some (.int x2), some (.int x3), some (.int x4), none]) (st' := [.int (-1)]) (w' := q2.2) (g := []) (K := []) (by decide +kernel) rfl rfl rfl rfl jk0 ?_
          cases h
          exact ev_iret (by decide +kernel) rfl rfl rfl rfl
def f_Rows_has (a0 : Nat) (x1 : Int32) (w : jW) : Option (Int32 × jW) :=
  if x1 < 0 then
    some (0, w)
  else
    if x1 < (w.1 a0 2) then
      some (1, w)
    else
      some (0, w)
set_option maxRecDepth 20000 in
theorem e_Rows_has {l : Launch} {G : jG} (hG : jX G) {kk : Nat} (hk : 93 ≤ kk) {a0 : Nat} {x1 : Int32} (h_a0 : jSk (jRx kk) a0 = 3) {w : jW} {z : (Int32 × jW)} (h : f_Rows_has a0 x1 w = some z) : Ct l G y_Rows_has d_Rows_has 0 0 [.ref a0, .int x1] (jRx kk) w (some (.int z.1), (jRx kk), z.2) := by
  rw [f_Rows_has] at h
  refine Ct.of (L := [some (.ref a0), some (.int x1)]) (by decide) (Nat.le_of_ble_eq_true rfl) rfl ?_
  refine ev_seg (o := 3) (nL := 2) (q := 1) (xs := [(.iload_n 1, 1, 1, 0, .null)]) (L' := [some (.ref a0), some (.int x1)]) (st' := [.int x1]) (w' := w) (g := []) (K := []) (by decide +kernel) rfl rfl rfl rfl jk0 ?_
  refine ev_if_lt (off := 15) (tgt := 16) (by decide +kernel) (by decide) (fun c2 => ?_) (fun c2 => ?_)
  · replace h := jpos c2 h
    refine ev_seg (o := 3) (nL := 2) (q := 17) (xs := [(.iconst 0, 1, 0, 0, .int 0)]) (L' := [some (.ref a0), some (.int x1)]) (st' := [.int 0]) (w' := w) (g := []) (K := []) (by decide +kernel) rfl rfl rfl rfl jk0 ?_
    cases h
    exact ev_zret (by decide +kernel) rfl rfl rfl rfl rfl
  · replace h := jneg c2 h
    refine ev_seg (o := 3) (nL := 2) (q := 9) (xs := [(.iload_n 1, 1, 1, 0, .null), (.aload_n 0, 1, 0, 0, .null), (.getfield 25, 3, 3, 2, .int 0)]) (L' := [some (.ref a0), some (.int x1)]) (st' := [.int (w.1 a0 2), .int x1]) (w' := w) (g := []) (K := [(a0, 3)]) (by decide +kernel) rfl rfl rfl rfl (jk1 h_a0 jk0) ?_
    refine ev_icmp_ge (off := 7) (tgt := 16) (by decide +kernel) (by decide) (fun c1 => ?_) (fun c1 => ?_)
    · replace h := jneg c1 h
      refine ev_seg (o := 3) (nL := 2) (q := 17) (xs := [(.iconst 0, 1, 0, 0, .int 0)]) (L' := [some (.ref a0), some (.int x1)]) (st' := [.int 0]) (w' := w) (g := []) (K := []) (by decide +kernel) rfl rfl rfl rfl jk0 ?_
      cases h
      exact ev_zret (by decide +kernel) rfl rfl rfl rfl rfl
    · replace h := jpos c1 h
      refine ev_seg (o := 3) (nL := 2) (q := 17) (xs := [(.iconst 1, 1, 0, 0, .int 1), (.goto 4, 3, 0, 0, .null)]) (L' := [some (.ref a0), some (.int x1)]) (st' := [.int 1]) (w' := w) (g := []) (K := []) (by decide +kernel) rfl rfl rfl rfl jk0 ?_
      cases h
      exact ev_zret (by decide +kernel) rfl rfl rfl rfl rfl
def f_Rows_at (a0 : Nat) (x1 : Int32) (x2 : Int32) (w : jW) : Option (Int32 × jW) :=
  if x1 < 0 then
    some ((-1), w)
  else
    if x1 < (w.1 a0 2) then
      if x2 < 0 then
        some ((-1), w)
      else
        if x2 < (w.1 a0 0) then
          if ((x1 * (w.1 a0 0)) + x2) < 0 then
            some ((-1), w)
          else
            if ((x1 * (w.1 a0 0)) + x2) < (Int32.ofNat (jSl jR0 (jSr jR0 a0 1))) then
              if jal [jin ((x1 * (w.1 a0 0)) + x2) (jSl jR0 (jSr jR0 a0 1))] = true then
              some ((w.1 (jSr jR0 a0 1) (Int32.toNatClampNeg ((x1 * (w.1 a0 0)) + x2))), w)
              else none
            else
              some ((-1), w)
        else
          some ((-1), w)
    else
      some ((-1), w)
set_option maxRecDepth 20000 in
theorem e_Rows_at {l : Launch} {G : jG} (hG : jX G) {kk : Nat} (hk : 93 ≤ kk) {a0 : Nat} {x1 : Int32} {x2 : Int32} (h_a0 : jSk (jRx kk) a0 = 3) {w : jW} {z : (Int32 × jW)} (h : f_Rows_at a0 x1 x2 w = some z) : Ct l G y_Rows_at d_Rows_at 0 0 [.ref a0, .int x1, .int x2] (jRx kk) w (some (.int z.1), (jRx kk), z.2) := by
  rw [f_Rows_at] at h
  refine Ct.of (L := [some (.ref a0), some (.int x1), some (.int x2), none]) (by decide) (Nat.le_of_ble_eq_true rfl) rfl ?_
  refine ev_seg (o := 3) (nL := 4) (q := 1) (xs := [(.iload_n 1, 1, 1, 0, .null)]) (L' := [some (.ref a0), some (.int x1), some (.int x2), none]) (st' := [.int x1]) (w' := w) (g := []) (K := []) (by decide +kernel) rfl rfl rfl rfl jk0 ?_
  refine ev_if_lt (off := 23) (tgt := 24) (by decide +kernel) (by decide) (fun c7 => ?_) (fun c7 => ?_)
  · replace h := jpos c7 h
    refine ev_seg (o := 3) (nL := 4) (q := 25) (xs := [(.iconst (-1), 1, 0, 0, .int (-1))]) (L' := [some (.ref a0), some (.int x1), some (.int x2), none]) (st' := [.int (-1)]) (w' := w) (g := []) (K := []) (by decide +kernel) rfl rfl rfl rfl jk0 ?_
    cases h
    exact ev_iret (by decide +kernel) rfl rfl rfl rfl
  · replace h := jneg c7 h
    refine ev_seg (o := 3) (nL := 4) (q := 9) (xs := [(.iload_n 1, 1, 1, 0, .null), (.aload_n 0, 1, 0, 0, .null), (.getfield 25, 3, 3, 2, .int 0)]) (L' := [some (.ref a0), some (.int x1), some (.int x2), none]) (st' := [.int (w.1 a0 2), .int x1]) (w' := w) (g := []) (K := [(a0, 3)]) (by decide +kernel) rfl rfl rfl rfl (jk1 h_a0 jk0) ?_
    refine ev_icmp_ge (off := 15) (tgt := 24) (by decide +kernel) (by decide) (fun c6 => ?_) (fun c6 => ?_)
    · replace h := jneg c6 h
      refine ev_seg (o := 3) (nL := 4) (q := 25) (xs := [(.iconst (-1), 1, 0, 0, .int (-1))]) (L' := [some (.ref a0), some (.int x1), some (.int x2), none]) (st' := [.int (-1)]) (w' := w) (g := []) (K := []) (by decide +kernel) rfl rfl rfl rfl jk0 ?_
      cases h
      exact ev_iret (by decide +kernel) rfl rfl rfl rfl
    · replace h := jpos c6 h
      refine ev_seg (o := 3) (nL := 4) (q := 13) (xs := [(.iload_n 2, 1, 2, 0, .null)]) (L' := [some (.ref a0), some (.int x1), some (.int x2), none]) (st' := [.int x2]) (w' := w) (g := []) (K := []) (by decide +kernel) rfl rfl rfl rfl jk0 ?_
      refine ev_if_lt (off := 11) (tgt := 24) (by decide +kernel) (by decide) (fun c5 => ?_) (fun c5 => ?_)
      · replace h := jpos c5 h
        refine ev_seg (o := 3) (nL := 4) (q := 25) (xs := [(.iconst (-1), 1, 0, 0, .int (-1))]) (L' := [some (.ref a0), some (.int x1), some (.int x2), none]) (st' := [.int (-1)]) (w' := w) (g := []) (K := []) (by decide +kernel) rfl rfl rfl rfl jk0 ?_
        cases h
        exact ev_iret (by decide +kernel) rfl rfl rfl rfl
      · replace h := jneg c5 h
        refine ev_seg (o := 3) (nL := 4) (q := 21) (xs := [(.iload_n 2, 1, 2, 0, .null), (.aload_n 0, 1, 0, 0, .null), (.getfield 15, 3, 3, 0, .int 0)]) (L' := [some (.ref a0), some (.int x1), some (.int x2), none]) (st' := [.int (w.1 a0 0), .int x2]) (w' := w) (g := []) (K := [(a0, 3)]) (by decide +kernel) rfl rfl rfl rfl (jk1 h_a0 jk0) ?_
        refine ev_icmp_lt (off := 5) (tgt := 26) (by decide +kernel) (by decide) (fun c4 => ?_) (fun c4 => ?_)
        · replace h := jpos c4 h
          refine ev_seg (o := 3) (nL := 4) (q := 36) (xs := [(.iload_n 1, 1, 1, 0, .null), (.aload_n 0, 1, 0, 0, .null), (.getfield 15, 3, 3, 0, .int 0), (.imul, 1, 0, 0, .null), (.iload_n 2, 1, 2, 0, .null), (.iadd, 1, 0, 0, .null), (.istore_n 3, 1, 3, 0, .null), (.iload_n 3, 1, 3, 0, .null)]) (L' := [some (.ref a0), some (.int x1), some (.int x2), some (.int ((x1 * (w.1 a0 0)) + x2))]) (st' := [.int ((x1 * (w.1 a0 0)) + x2)]) (w' := w) (g := []) (K := [(a0, 3)]) (by decide +kernel) rfl rfl rfl rfl (jk1 h_a0 jk0) ?_
          refine ev_if_lt (off := 21) (tgt := 57) (by decide +kernel) (by decide) (fun c3 => ?_) (fun c3 => ?_)
          · replace h := jpos c3 h
            refine ev_seg (o := 3) (nL := 4) (q := 58) (xs := [(.iconst (-1), 1, 0, 0, .int (-1))]) (L' := [some (.ref a0), some (.int x1), some (.int x2), some (.int ((x1 * (w.1 a0 0)) + x2))]) (st' := [.int (-1)]) (w' := w) (g := []) (K := []) (by decide +kernel) rfl rfl rfl rfl jk0 ?_
            cases h
            exact ev_iret (by decide +kernel) rfl rfl rfl rfl
          · replace h := jneg c3 h
            refine ev_seg (o := 3) (nL := 4) (q := 45) (xs := [(.iload_n 3, 1, 3, 0, .null), (.aload_n 0, 1, 0, 0, .null), (.getfield 21, 3, 3, 1, .ref 20), (.arraylength, 1, 20, 0, .null)]) (L' := [some (.ref a0), some (.int x1), some (.int x2), some (.int ((x1 * (w.1 a0 0)) + x2))]) (st' := [.int (Int32.ofNat (jSl jR0 (jSr jR0 a0 1))), .int ((x1 * (w.1 a0 0)) + x2)]) (w' := w) (g := []) (K := [((jSr jR0 a0 1), 20), ((jSr jR0 a0 1), 20), (a0, 3)]) (by decide +kernel) rfl rfl rfl rfl (jk1 (kt_3_1 hk h_a0) (jk1 (kt_3_1 hk h_a0) (jk1 h_a0 jk0))) ?_
            refine ev_icmp_ge (off := 12) (tgt := 57) (by decide +kernel) (by decide) (fun c2 => ?_) (fun c2 => ?_)
            · replace h := jneg c2 h
              refine ev_seg (o := 3) (nL := 4) (q := 58) (xs := [(.iconst (-1), 1, 0, 0, .int (-1))]) (L' := [some (.ref a0), some (.int x1), some (.int x2), some (.int ((x1 * (w.1 a0 0)) + x2))]) (st' := [.int (-1)]) (w' := w) (g := []) (K := []) (by decide +kernel) rfl rfl rfl rfl jk0 ?_
              cases h
              exact ev_iret (by decide +kernel) rfl rfl rfl rfl
            · replace h := jpos c2 h
              obtain ⟨hg1, h⟩ := jgd h
              refine ev_seg (o := 3) (nL := 4) (q := 58) (xs := [(.aload_n 0, 1, 0, 0, .null), (.getfield 21, 3, 3, 1, .ref 20), (.iload_n 3, 1, 3, 0, .null), (.iaload, 1, 0, 0, .null), (.goto 4, 3, 0, 0, .null)]) (L' := [some (.ref a0), some (.int x1), some (.int x2), some (.int ((x1 * (w.1 a0 0)) + x2))]) (st' := [.int (w.1 (jSr jR0 a0 1) (Int32.toNatClampNeg ((x1 * (w.1 a0 0)) + x2)))]) (w' := w) (g := [jin ((x1 * (w.1 a0 0)) + x2) (jSl jR0 (jSr jR0 a0 1))]) (K := [((jSr jR0 a0 1), 20), ((jSr jR0 a0 1), 20), (a0, 3)]) (by decide +kernel) rfl rfl rfl hg1 (jk1 (kt_3_1 hk h_a0) (jk1 (kt_3_1 hk h_a0) (jk1 h_a0 jk0))) ?_
              cases h
              exact ev_iret (by decide +kernel) rfl rfl rfl rfl
        · replace h := jneg c4 h
          refine ev_seg (o := 3) (nL := 4) (q := 25) (xs := [(.iconst (-1), 1, 0, 0, .int (-1))]) (L' := [some (.ref a0), some (.int x1), some (.int x2), none]) (st' := [.int (-1)]) (w' := w) (g := []) (K := []) (by decide +kernel) rfl rfl rfl rfl jk0 ?_
          cases h
          exact ev_iret (by decide +kernel) rfl rfl rfl rfl
def f_Rows_count (a0 : Nat) (w : jW) : Option (Int32 × jW) :=
  some ((w.1 a0 2), w)
set_option maxRecDepth 20000 in
theorem e_Rows_count {l : Launch} {G : jG} (hG : jX G) {kk : Nat} (hk : 93 ≤ kk) {a0 : Nat} (h_a0 : jSk (jRx kk) a0 = 3) {w : jW} {z : (Int32 × jW)} (h : f_Rows_count a0 w = some z) : Ct l G y_Rows_count d_Rows_count 0 0 [.ref a0] (jRx kk) w (some (.int z.1), (jRx kk), z.2) := by
  rw [f_Rows_count] at h
  refine Ct.of (L := [some (.ref a0)]) (by decide) (Nat.le_of_ble_eq_true rfl) rfl ?_
  refine ev_seg (o := 3) (nL := 1) (q := 4) (xs := [(.aload_n 0, 1, 0, 0, .null), (.getfield 25, 3, 3, 2, .int 0)]) (L' := [some (.ref a0)]) (st' := [.int (w.1 a0 2)]) (w' := w) (g := []) (K := [(a0, 3)]) (by decide +kernel) rfl rfl rfl rfl (jk1 h_a0 jk0) ?_
  cases h
  exact ev_iret (by decide +kernel) rfl rfl rfl rfl
def f_State_shorten_j66 (x1 : Int32) (x2 : Int32) (x5 : Int32) (x6 : Int32) (x7 : Int32) (w : jW) : Option jW :=
  Option.bind (f_Rows_put 8 x1 x2 ((x6 + x5) + x7) w) fun q4 =>
  some q4
set_option maxRecDepth 20000 in
theorem t_State_shorten_j66 {l : Launch} {G : jG} (hG : jX G) {kk : Nat} (hk : 93 ≤ kk) {x1 : Int32} {x2 : Int32} {x5 : Int32} {x6 : Int32} {x7 : Int32} {w : jW} {z : jW} (h : f_State_shorten_j66 x1 x2 x5 x6 x7 w = some z) : Ev l G (jrm d_State_shorten 0 0) y_State_shorten (none, (jRx kk), z) 0 0 0 0 66 [some (.ref 3), some (.int x1), some (.int x2), none, none, some (.int x5), some (.int x6), some (.int x7), none] [] (jRx kk) w := by
  rw [f_State_shorten_j66] at h
  refine ev_seg (o := 6) (nL := 9) (q := 80) (xs := [(.aload_n 0, 1, 0, 0, .null), (.getfield 39, 3, 6, 7, .ref 3), (.iload_n 1, 1, 1, 0, .null), (.iload_n 2, 1, 2, 0, .null), (.iload 6, 2, 6, 0, .null), (.iload 5, 2, 5, 0, .null), (.iadd, 1, 0, 0, .null), (.iload 7, 2, 7, 0, .null), (.iadd, 1, 0, 0, .null)]) (L' := [some (.ref 3), some (.int x1), some (.int x2), none, none, some (.int x5), some (.int x6), some (.int x7), none]) (st' := [.int ((x6 + x5) + x7), .int x2, .int x1, .ref 8]) (w' := w) (g := []) (K := [(8, 3), (3, 6)]) (by decide +kernel) rfl rfl rfl rfl (jk1 (kz_8 hk) (jk1 (kz_3 hk) jk0)) ?_
  obtain ⟨q4, hq4, h⟩ := jbe h
  refine ev_callV (ci := 3) (a := 8) (y2 := y_Rows_put) (o := 6) (idx := 83) (d2 := d_Rows_put) (n := 3) (mc2 := 0) (ms2 := 0) (As := [.int x1, .int x2, .int ((x6 + x5) + x7)]) (st := []) (res2 := (none, (jRx kk), q4)) (by decide +kernel) rfl lk_6_83 mo_Rows_put mv_Rows_put ⟨Nat.le_of_ble_eq_true rfl, Nat.le_of_ble_eq_true rfl⟩ rfl rfl (kz_8 hk) (by decide) rfl (Nat.le_of_ble_eq_true rfl) ⟨Nat.le_refl _, Nat.le_refl _⟩ hG (e_Rows_put hG hk (kz_8 hk) hq4) ?_
  cases h
  exact ev_vret (by decide +kernel) rfl rfl rfl rfl
def f_State_shorten (x1 : Int32) (x2 : Int32) (x3 : Int32) (x4 : Int32) (x5 : Int32) (w : jW) : Option jW :=
  Option.bind (f_Rows_at 8 x1 x3 w) fun q1 =>
  Option.bind (f_Rows_at 8 x4 x2 q1.2) fun q2 =>
  if q1.1 = (-1) then
    some q2.2
  else
    if q2.1 = (-1) then
      some q2.2
    else
      Option.bind (f_Rows_at 8 x1 x2 q2.2) fun q3 =>
      if q3.1 = (-1) then
        f_State_shorten_j66 x1 x2 x5 q1.1 q2.1 q3.2
      else
        if ((q1.1 + x5) + q2.1) < q3.1 then
          f_State_shorten_j66 x1 x2 x5 q1.1 q2.1 q3.2
        else
          some q3.2
set_option maxRecDepth 20000 in
theorem e_State_shorten {l : Launch} {G : jG} (hG : jX G) {kk : Nat} (hk : 93 ≤ kk) {x1 : Int32} {x2 : Int32} {x3 : Int32} {x4 : Int32} {x5 : Int32} {w : jW} {z : jW} (h : f_State_shorten x1 x2 x3 x4 x5 w = some z) : Ct l G y_State_shorten d_State_shorten 0 0 [.ref 3, .int x1, .int x2, .int x3, .int x4, .int x5] (jRx kk) w (none, (jRx kk), z) := by
  rw [f_State_shorten] at h
  refine Ct.of (L := [some (.ref 3), some (.int x1), some (.int x2), some (.int x3), some (.int x4), some (.int x5), none, none, none]) (by decide) (Nat.le_of_ble_eq_true rfl) rfl ?_
  refine ev_seg (o := 6) (nL := 9) (q := 6) (xs := [(.aload_n 0, 1, 0, 0, .null), (.getfield 39, 3, 6, 7, .ref 3), (.iload_n 1, 1, 1, 0, .null), (.iload_n 3, 1, 3, 0, .null)]) (L' := [some (.ref 3), some (.int x1), some (.int x2), some (.int x3), some (.int x4), some (.int x5), none, none, none]) (st' := [.int x3, .int x1, .ref 8]) (w' := w) (g := []) (K := [(8, 3), (3, 6)]) (by decide +kernel) rfl rfl rfl rfl (jk1 (kz_8 hk) (jk1 (kz_3 hk) jk0)) ?_
  obtain ⟨q1, hq1, h⟩ := jbe h
  refine ev_callV (ci := 3) (a := 8) (y2 := y_Rows_at) (o := 6) (idx := 91) (d2 := d_Rows_at) (n := 2) (mc2 := 0) (ms2 := 0) (As := [.int x1, .int x3]) (st := []) (res2 := (some (.int q1.1), (jRx kk), q1.2)) (by decide +kernel) rfl lk_6_91 mo_Rows_at mv_Rows_at ⟨Nat.le_of_ble_eq_true rfl, Nat.le_of_ble_eq_true rfl⟩ rfl rfl (kz_8 hk) (by decide) rfl (Nat.le_of_ble_eq_true rfl) ⟨Nat.le_refl _, Nat.le_refl _⟩ hG (e_Rows_at hG hk (kz_8 hk) hq1) ?_
  refine ev_seg (o := 6) (nL := 9) (q := 18) (xs := [(.istore 6, 2, 6, 0, .null), (.aload_n 0, 1, 0, 0, .null), (.getfield 39, 3, 6, 7, .ref 3), (.iload 4, 2, 4, 0, .null), (.iload_n 2, 1, 2, 0, .null)]) (L' := [some (.ref 3), some (.int x1), some (.int x2), some (.int x3), some (.int x4), some (.int x5), some (.int q1.1), none, none]) (st' := [.int x2, .int x4, .ref 8]) (w' := q1.2) (g := []) (K := [(8, 3), (3, 6)]) (by decide +kernel) rfl rfl rfl rfl (jk1 (kz_8 hk) (jk1 (kz_3 hk) jk0)) ?_
  obtain ⟨q2, hq2, h⟩ := jbe h
  refine ev_callV (ci := 3) (a := 8) (y2 := y_Rows_at) (o := 6) (idx := 91) (d2 := d_Rows_at) (n := 2) (mc2 := 0) (ms2 := 0) (As := [.int x4, .int x2]) (st := []) (res2 := (some (.int q2.1), (jRx kk), q2.2)) (by decide +kernel) rfl lk_6_91 mo_Rows_at mv_Rows_at ⟨Nat.le_of_ble_eq_true rfl, Nat.le_of_ble_eq_true rfl⟩ rfl rfl (kz_8 hk) (by decide) rfl (Nat.le_of_ble_eq_true rfl) ⟨Nat.le_refl _, Nat.le_refl _⟩ hG (e_Rows_at hG hk (kz_8 hk) hq2) ?_
  refine ev_seg (o := 6) (nL := 9) (q := 26) (xs := [(.istore 7, 2, 7, 0, .null), (.iload 6, 2, 6, 0, .null), (.iconst (-1), 1, 0, 0, .int (-1))]) (L' := [some (.ref 3), some (.int x1), some (.int x2), some (.int x3), some (.int x4), some (.int x5), some (.int q1.1), some (.int q2.1), none]) (st' := [.int (-1), .int q1.1]) (w' := q2.2) (g := []) (K := []) (by decide +kernel) rfl rfl rfl rfl jk0 ?_
  refine ev_icmp_eq (off := 9) (tgt := 35) (by decide +kernel) (by decide) (fun c8 => ?_) (fun c8 => ?_)
  · replace h := jpos c8 h
    cases h
    exact ev_vret (by decide +kernel) rfl rfl rfl rfl
  · replace h := jneg c8 h
    refine ev_seg (o := 6) (nL := 9) (q := 32) (xs := [(.iload 7, 2, 7, 0, .null), (.iconst (-1), 1, 0, 0, .int (-1))]) (L' := [some (.ref 3), some (.int x1), some (.int x2), some (.int x3), some (.int x4), some (.int x5), some (.int q1.1), some (.int q2.1), none]) (st' := [.int (-1), .int q2.1]) (w' := q2.2) (g := []) (K := []) (by decide +kernel) rfl rfl rfl rfl jk0 ?_
    refine ev_icmp_ne (off := 4) (tgt := 36) (by decide +kernel) (by decide) (fun c7 => ?_) (fun c7 => ?_)
    · replace h := jneg c7 h
      refine ev_seg (o := 6) (nL := 9) (q := 42) (xs := [(.aload_n 0, 1, 0, 0, .null), (.getfield 39, 3, 6, 7, .ref 3), (.iload_n 1, 1, 1, 0, .null), (.iload_n 2, 1, 2, 0, .null)]) (L' := [some (.ref 3), some (.int x1), some (.int x2), some (.int x3), some (.int x4), some (.int x5), some (.int q1.1), some (.int q2.1), none]) (st' := [.int x2, .int x1, .ref 8]) (w' := q2.2) (g := []) (K := [(8, 3), (3, 6)]) (by decide +kernel) rfl rfl rfl rfl (jk1 (kz_8 hk) (jk1 (kz_3 hk) jk0)) ?_
      obtain ⟨q3, hq3, h⟩ := jbe h
      refine ev_callV (ci := 3) (a := 8) (y2 := y_Rows_at) (o := 6) (idx := 91) (d2 := d_Rows_at) (n := 2) (mc2 := 0) (ms2 := 0) (As := [.int x1, .int x2]) (st := []) (res2 := (some (.int q3.1), (jRx kk), q3.2)) (by decide +kernel) rfl lk_6_91 mo_Rows_at mv_Rows_at ⟨Nat.le_of_ble_eq_true rfl, Nat.le_of_ble_eq_true rfl⟩ rfl rfl (kz_8 hk) (by decide) rfl (Nat.le_of_ble_eq_true rfl) ⟨Nat.le_refl _, Nat.le_refl _⟩ hG (e_Rows_at hG hk (kz_8 hk) hq3) ?_
      refine ev_seg (o := 6) (nL := 9) (q := 50) (xs := [(.istore 8, 2, 8, 0, .null), (.iload 8, 2, 8, 0, .null), (.iconst (-1), 1, 0, 0, .int (-1))]) (L' := [some (.ref 3), some (.int x1), some (.int x2), some (.int x3), some (.int x4), some (.int x5), some (.int q1.1), some (.int q2.1), some (.int q3.1)]) (st' := [.int (-1), .int q3.1]) (w' := q3.2) (g := []) (K := []) (by decide +kernel) rfl rfl rfl rfl jk0 ?_
      refine ev_icmp_eq (off := 16) (tgt := 66) (by decide +kernel) (by decide) (fun c6 => ?_) (fun c6 => ?_)
      · replace h := jpos c6 h
        refine ev_mask [true, true, true, false, false, true, true, true, false] ?_
        exact t_State_shorten_j66 hG hk h
      · replace h := jneg c6 h
        refine ev_seg (o := 6) (nL := 9) (q := 63) (xs := [(.iload 6, 2, 6, 0, .null), (.iload 5, 2, 5, 0, .null), (.iadd, 1, 0, 0, .null), (.iload 7, 2, 7, 0, .null), (.iadd, 1, 0, 0, .null), (.iload 8, 2, 8, 0, .null)]) (L' := [some (.ref 3), some (.int x1), some (.int x2), some (.int x3), some (.int x4), some (.int x5), some (.int q1.1), some (.int q2.1), some (.int q3.1)]) (st' := [.int q3.1, .int ((q1.1 + x5) + q2.1)]) (w' := q3.2) (g := []) (K := []) (by decide +kernel) rfl rfl rfl rfl jk0 ?_
        refine ev_icmp_ge (off := 20) (tgt := 83) (by decide +kernel) (by decide) (fun c5 => ?_) (fun c5 => ?_)
        · replace h := jneg c5 h
          cases h
          exact ev_vret (by decide +kernel) rfl rfl rfl rfl
        · replace h := jpos c5 h
          refine ev_mask [true, true, true, false, false, true, true, true, false] ?_
          exact t_State_shorten_j66 hG hk h
    · replace h := jpos c7 h
      cases h
      exact ev_vret (by decide +kernel) rfl rfl rfl rfl
def f_State_shortenWays_h18 (k3 : Int32 → Int32 → Int32 → Int32 → jW → Option jW) : Nat → Int32 → Int32 → Int32 → Int32 → Int32 → jW → Option jW
  | 0, _, _, _, _, _, _ => none
  | n + 1, x1, x2, x3, x4, x5, w =>
  Option.bind (f_Rows_count 6 w) fun q2 =>
  if x5 < q2.1 then
    Option.bind (f_State_shorten x4 x5 x1 x2 x3 q2.2) fun q3 =>
    Option.bind (f_State_shorten x4 x5 x2 x1 x3 q3) fun q4 =>
    (f_State_shortenWays_h18 k3 n) x1 x2 x3 x4 (x5 + 1) q4
  else
    k3 x1 x2 x3 (x4 + 1) q2.2
set_option maxRecDepth 20000 in
theorem t_State_shortenWays_h18 {l : Launch} {G : jG} (hG : jX G) {kk : Nat} (hk : 93 ≤ kk) {k3 : Int32 → Int32 → Int32 → Int32 → jW → Option jW} (hk3 : ∀ (x1 : Int32) (x2 : Int32) (x3 : Int32) (x4 : Int32) (w : jW) (z : jW), k3 x1 x2 x3 x4 w = some z → Ev l G (jrm d_State_shortenWays 0 0) y_State_shortenWays (none, (jRx kk), z) 0 0 0 0 3 [some (.ref 3), some (.int x1), some (.int x2), some (.int x3), some (.int x4), none] [] (jRx kk) w) : ∀ (n : Nat) (x1 : Int32) (x2 : Int32) (x3 : Int32) (x4 : Int32) (x5 : Int32) (w : jW) (z : jW), f_State_shortenWays_h18 k3 n x1 x2 x3 x4 x5 w = some z → Ev l G (jrm d_State_shortenWays 0 0) y_State_shortenWays (none, (jRx kk), z) 0 0 0 0 18 [some (.ref 3), some (.int x1), some (.int x2), some (.int x3), some (.int x4), some (.int x5)] [] (jRx kk) w := by
  intro n
  induction n with
  | zero => intro x1 x2 x3 x4 x5 w z h; simp only [f_State_shortenWays_h18] at h; cases h
  | succ n ih =>
    intro x1 x2 x3 x4 x5 w z h
    rw [f_State_shortenWays_h18] at h
    refine ev_seg (o := 6) (nL := 6) (q := 24) (xs := [(.iload 5, 2, 5, 0, .null), (.aload_n 0, 1, 0, 0, .null), (.getfield 36, 3, 6, 6, .ref 3)]) (L' := [some (.ref 3), some (.int x1), some (.int x2), some (.int x3), some (.int x4), some (.int x5)]) (st' := [.ref 6, .int x5]) (w' := w) (g := []) (K := [(6, 3), (3, 6)]) (by decide +kernel) rfl rfl rfl rfl (jk1 (kz_6 hk) (jk1 (kz_3 hk) jk0)) ?_
    obtain ⟨q2, hq2, h⟩ := jbe h
    refine ev_callV (ci := 3) (a := 6) (y2 := y_Rows_count) (o := 6) (idx := 87) (d2 := d_Rows_count) (n := 0) (mc2 := 0) (ms2 := 0) (As := []) (st := [.int x5]) (res2 := (some (.int q2.1), (jRx kk), q2.2)) (by decide +kernel) rfl lk_6_87 mo_Rows_count mv_Rows_count ⟨Nat.le_of_ble_eq_true rfl, Nat.le_of_ble_eq_true rfl⟩ rfl rfl (kz_6 hk) (by decide) rfl (Nat.le_of_ble_eq_true rfl) ⟨Nat.le_refl _, Nat.le_refl _⟩ hG (e_Rows_count hG hk (kz_6 hk) hq2) ?_
    refine ev_icmp_ge (off := 31) (tgt := 58) (by decide +kernel) (by decide) (fun c5 => ?_) (fun c5 => ?_)
    · replace h := jneg c5 h
      refine ev_seg (o := 6) (nL := 6) (q := 3) (xs := [(.iinc 4 1, 3, 4, 0, .int 1), (.goto (-58), 3, 0, 0, .null)]) (L' := [some (.ref 3), some (.int x1), some (.int x2), some (.int x3), some (.int (x4 + 1)), some (.int x5)]) (st' := []) (w' := q2.2) (g := []) (K := []) (by decide +kernel) rfl rfl rfl rfl jk0 ?_
      refine ev_mask [true, true, true, true, true, false] ?_
      exact hk3 _ _ _ _ _ _ h
    · replace h := jpos c5 h
      refine ev_seg (o := 6) (nL := 6) (q := 38) (xs := [(.aload_n 0, 1, 0, 0, .null), (.iload 4, 2, 4, 0, .null), (.iload 5, 2, 5, 0, .null), (.iload_n 1, 1, 1, 0, .null), (.iload_n 2, 1, 2, 0, .null), (.iload_n 3, 1, 3, 0, .null)]) (L' := [some (.ref 3), some (.int x1), some (.int x2), some (.int x3), some (.int x4), some (.int x5)]) (st' := [.int x3, .int x2, .int x1, .int x5, .int x4, .ref 3]) (w' := q2.2) (g := []) (K := []) (by decide +kernel) rfl rfl rfl rfl jk0 ?_
      obtain ⟨q3, hq3, h⟩ := jbe h
      refine ev_callV (ci := 6) (a := 3) (y2 := y_State_shorten) (o := 6) (idx := 95) (d2 := d_State_shorten) (n := 5) (mc2 := 0) (ms2 := 0) (As := [.int x4, .int x5, .int x1, .int x2, .int x3]) (st := []) (res2 := (none, (jRx kk), q3)) (by decide +kernel) rfl lk_6_95 mo_State_shorten mv_State_shorten ⟨Nat.le_of_ble_eq_true rfl, Nat.le_of_ble_eq_true rfl⟩ rfl rfl (kz_3 hk) (by decide) rfl (Nat.le_of_ble_eq_true rfl) ⟨Nat.le_refl _, Nat.le_refl _⟩ hG (e_State_shorten hG hk hq3) ?_
      refine ev_seg (o := 6) (nL := 6) (q := 49) (xs := [(.aload_n 0, 1, 0, 0, .null), (.iload 4, 2, 4, 0, .null), (.iload 5, 2, 5, 0, .null), (.iload_n 2, 1, 2, 0, .null), (.iload_n 1, 1, 1, 0, .null), (.iload_n 3, 1, 3, 0, .null)]) (L' := [some (.ref 3), some (.int x1), some (.int x2), some (.int x3), some (.int x4), some (.int x5)]) (st' := [.int x3, .int x1, .int x2, .int x5, .int x4, .ref 3]) (w' := q3) (g := []) (K := []) (by decide +kernel) rfl rfl rfl rfl jk0 ?_
      obtain ⟨q4, hq4, h⟩ := jbe h
      refine ev_callV (ci := 6) (a := 3) (y2 := y_State_shorten) (o := 6) (idx := 95) (d2 := d_State_shorten) (n := 5) (mc2 := 0) (ms2 := 0) (As := [.int x4, .int x5, .int x2, .int x1, .int x3]) (st := []) (res2 := (none, (jRx kk), q4)) (by decide +kernel) rfl lk_6_95 mo_State_shorten mv_State_shorten ⟨Nat.le_of_ble_eq_true rfl, Nat.le_of_ble_eq_true rfl⟩ rfl rfl (kz_3 hk) (by decide) rfl (Nat.le_of_ble_eq_true rfl) ⟨Nat.le_refl _, Nat.le_refl _⟩ hG (e_State_shorten hG hk hq4) ?_
      refine ev_seg (o := 6) (nL := 6) (q := 18) (xs := [(.iinc 5 1, 3, 5, 0, .int 1), (.goto (-37), 3, 0, 0, .null)]) (L' := [some (.ref 3), some (.int x1), some (.int x2), some (.int x3), some (.int x4), some (.int (x5 + 1))]) (st' := []) (w' := q4) (g := []) (K := []) (by decide +kernel) rfl rfl rfl rfl jk0 ?_
      refine ev_mask [true, true, true, true, true, true] ?_
      exact ih _ _ _ _ _ _ _ h
def f_State_shortenWays_h3 : Nat → Int32 → Int32 → Int32 → Int32 → jW → Option jW
  | 0, _, _, _, _, _ => none
  | n + 1, x1, x2, x3, x4, w =>
  Option.bind (f_Rows_count 6 w) fun q1 =>
  if x4 < q1.1 then
    f_State_shortenWays_h18 (f_State_shortenWays_h3 n) jfu x1 x2 x3 x4 0 q1.2
  else
    some q1.2
set_option maxRecDepth 20000 in
theorem t_State_shortenWays_h3 {l : Launch} {G : jG} (hG : jX G) {kk : Nat} (hk : 93 ≤ kk) : ∀ (n : Nat) (x1 : Int32) (x2 : Int32) (x3 : Int32) (x4 : Int32) (w : jW) (z : jW), f_State_shortenWays_h3 n x1 x2 x3 x4 w = some z → Ev l G (jrm d_State_shortenWays 0 0) y_State_shortenWays (none, (jRx kk), z) 0 0 0 0 3 [some (.ref 3), some (.int x1), some (.int x2), some (.int x3), some (.int x4), none] [] (jRx kk) w := by
  intro n
  induction n with
  | zero => intro x1 x2 x3 x4 w z h; simp only [f_State_shortenWays_h3] at h; cases h
  | succ n ih =>
    intro x1 x2 x3 x4 w z h
    rw [f_State_shortenWays_h3] at h
    refine ev_seg (o := 6) (nL := 6) (q := 9) (xs := [(.iload 4, 2, 4, 0, .null), (.aload_n 0, 1, 0, 0, .null), (.getfield 36, 3, 6, 6, .ref 3)]) (L' := [some (.ref 3), some (.int x1), some (.int x2), some (.int x3), some (.int x4), none]) (st' := [.ref 6, .int x4]) (w' := w) (g := []) (K := [(6, 3), (3, 6)]) (by decide +kernel) rfl rfl rfl rfl (jk1 (kz_6 hk) (jk1 (kz_3 hk) jk0)) ?_
    obtain ⟨q1, hq1, h⟩ := jbe h
    refine ev_callV (ci := 3) (a := 6) (y2 := y_Rows_count) (o := 6) (idx := 87) (d2 := d_Rows_count) (n := 0) (mc2 := 0) (ms2 := 0) (As := []) (st := [.int x4]) (res2 := (some (.int q1.1), (jRx kk), q1.2)) (by decide +kernel) rfl lk_6_87 mo_Rows_count mv_Rows_count ⟨Nat.le_of_ble_eq_true rfl, Nat.le_of_ble_eq_true rfl⟩ rfl rfl (kz_6 hk) (by decide) rfl (Nat.le_of_ble_eq_true rfl) ⟨Nat.le_refl _, Nat.le_refl _⟩ hG (e_Rows_count hG hk (kz_6 hk) hq1) ?_
    refine ev_icmp_ge (off := 52) (tgt := 64) (by decide +kernel) (by decide) (fun c6 => ?_) (fun c6 => ?_)
    · replace h := jneg c6 h
      cases h
      exact ev_vret (by decide +kernel) rfl rfl rfl rfl
    · replace h := jpos c6 h
      refine ev_seg (o := 6) (nL := 6) (q := 18) (xs := [(.iconst 0, 1, 0, 0, .int 0), (.istore 5, 2, 5, 0, .null)]) (L' := [some (.ref 3), some (.int x1), some (.int x2), some (.int x3), some (.int x4), some (.int 0)]) (st' := []) (w' := q1.2) (g := []) (K := []) (by decide +kernel) rfl rfl rfl rfl jk0 ?_
      refine ev_mask [true, true, true, true, true, true] ?_
      exact t_State_shortenWays_h18 hG hk ih jfu _ _ _ _ _ _ _ h
def f_State_shortenWays (x1 : Int32) (x2 : Int32) (x3 : Int32) (w : jW) : Option jW :=
  f_State_shortenWays_h3 jfu x1 x2 x3 0 w
set_option maxRecDepth 20000 in
theorem e_State_shortenWays {l : Launch} {G : jG} (hG : jX G) {kk : Nat} (hk : 93 ≤ kk) {x1 : Int32} {x2 : Int32} {x3 : Int32} {w : jW} {z : jW} (h : f_State_shortenWays x1 x2 x3 w = some z) : Ct l G y_State_shortenWays d_State_shortenWays 0 0 [.ref 3, .int x1, .int x2, .int x3] (jRx kk) w (none, (jRx kk), z) := by
  rw [f_State_shortenWays] at h
  refine Ct.of (L := [some (.ref 3), some (.int x1), some (.int x2), some (.int x3), none, none]) (by decide) (Nat.le_of_ble_eq_true rfl) rfl ?_
  refine ev_seg (o := 6) (nL := 6) (q := 3) (xs := [(.iconst 0, 1, 0, 0, .int 0), (.istore 4, 2, 4, 0, .null)]) (L' := [some (.ref 3), some (.int x1), some (.int x2), some (.int x3), some (.int 0), none]) (st' := []) (w' := w) (g := []) (K := []) (by decide +kernel) rfl rfl rfl rfl jk0 ?_
  refine ev_mask [true, true, true, true, true, false] ?_
  exact t_State_shortenWays_h3 hG hk jfu _ _ _ _ _ _ h
def f_Count_road (x1 : Int32) (x2 : Int32) (x3 : Int32) (w : jW) : Option (Int32 × jW) :=
  Option.bind (f_Rows_has 6 x1 w) fun q1 =>
  if q1.1 = 0 then
    some ((-1), q1.2)
  else
    Option.bind (f_Rows_has 6 x2 q1.2) fun q2 =>
    if q2.1 = 0 then
      some ((-1), q2.2)
    else
      if x1 = x2 then
        some ((-1), q2.2)
      else
        if x3 < 1 then
          some ((-1), q2.2)
        else
          if x3 ≤ 60 then
            Option.bind (f_Rows_at 6 x1 0 q2.2) fun q3 =>
            Option.bind (f_Rows_at 6 x2 0 q3.2) fun q4 =>
            if q3.1 = q4.1 then
              if (q4.2.1 3 4) < 30 then
                Option.bind (f_State_shortenWays x1 x2 x3 q4.2) fun q5 =>
                jlw ((jup q5.1 3 4 ((q5.1 3 4) + 1)), q5.2) fun w6 =>
                some (((w6.1 3 4) - 1), w6)
              else
                some ((-1), q4.2)
            else
              some ((-1), q4.2)
          else
            some ((-1), q2.2)
set_option maxRecDepth 20000 in
theorem e_Count_road {l : Launch} {G : jG} (hG : jX G) {kk : Nat} (hk : 93 ≤ kk) {x1 : Int32} {x2 : Int32} {x3 : Int32} {w : jW} {z : (Int32 × jW)} (h : f_Count_road x1 x2 x3 w = some z) : Ct l G y_Count_road d_Count_road 0 0 [.ref 2, .int x1, .int x2, .int x3] (jRx kk) w (some (.int z.1), (jRx kk), z.2) := by
  rw [f_Count_road] at h
  refine Ct.of (L := [some (.ref 2), some (.int x1), some (.int x2), some (.int x3)]) (by decide) (Nat.le_of_ble_eq_true rfl) rfl ?_
  refine ev_seg (o := 9) (nL := 4) (q := 8) (xs := [(.aload_n 0, 1, 0, 0, .null), (.getfield 12, 3, 9, 0, .ref 6), (.getfield 58, 3, 6, 6, .ref 3), (.iload_n 1, 1, 1, 0, .null)]) (L' := [some (.ref 2), some (.int x1), some (.int x2), some (.int x3)]) (st' := [.int x1, .ref 6]) (w' := w) (g := []) (K := [(6, 3), (3, 6), (3, 6), (2, 9)]) (by decide +kernel) rfl rfl rfl rfl (jk1 (kz_6 hk) (jk1 (kz_3 hk) (jk1 (kz_3 hk) (jk1 (kz_2 hk) jk0)))) ?_
  obtain ⟨q1, hq1, h⟩ := jbe h
  refine ev_callV (ci := 3) (a := 6) (y2 := y_Rows_has) (o := 9) (idx := 80) (d2 := d_Rows_has) (n := 1) (mc2 := 0) (ms2 := 0) (As := [.int x1]) (st := []) (res2 := (some (.int q1.1), (jRx kk), q1.2)) (by decide +kernel) rfl lk_9_80 mo_Rows_has mv_Rows_has ⟨Nat.le_of_ble_eq_true rfl, Nat.le_of_ble_eq_true rfl⟩ rfl rfl (kz_6 hk) (by decide) rfl (Nat.le_of_ble_eq_true rfl) ⟨Nat.le_refl _, Nat.le_refl _⟩ hG (e_Rows_has hG hk (kz_6 hk) hq1) ?_
  refine ev_if_eq (off := 33) (tgt := 44) (by decide +kernel) (by decide) (fun c13 => ?_) (fun c13 => ?_)
  · replace h := jpos c13 h
    refine ev_seg (o := 9) (nL := 4) (q := 45) (xs := [(.iconst (-1), 1, 0, 0, .int (-1))]) (L' := [some (.ref 2), some (.int x1), some (.int x2), some (.int x3)]) (st' := [.int (-1)]) (w' := q1.2) (g := []) (K := []) (by decide +kernel) rfl rfl rfl rfl jk0 ?_
    cases h
    exact ev_iret (by decide +kernel) rfl rfl rfl rfl
  · replace h := jneg c13 h
    refine ev_seg (o := 9) (nL := 4) (q := 22) (xs := [(.aload_n 0, 1, 0, 0, .null), (.getfield 12, 3, 9, 0, .ref 6), (.getfield 58, 3, 6, 6, .ref 3), (.iload_n 2, 1, 2, 0, .null)]) (L' := [some (.ref 2), some (.int x1), some (.int x2), some (.int x3)]) (st' := [.int x2, .ref 6]) (w' := q1.2) (g := []) (K := [(6, 3), (3, 6), (3, 6), (2, 9)]) (by decide +kernel) rfl rfl rfl rfl (jk1 (kz_6 hk) (jk1 (kz_3 hk) (jk1 (kz_3 hk) (jk1 (kz_2 hk) jk0)))) ?_
    obtain ⟨q2, hq2, h⟩ := jbe h
    refine ev_callV (ci := 3) (a := 6) (y2 := y_Rows_has) (o := 9) (idx := 80) (d2 := d_Rows_has) (n := 1) (mc2 := 0) (ms2 := 0) (As := [.int x2]) (st := []) (res2 := (some (.int q2.1), (jRx kk), q2.2)) (by decide +kernel) rfl lk_9_80 mo_Rows_has mv_Rows_has ⟨Nat.le_of_ble_eq_true rfl, Nat.le_of_ble_eq_true rfl⟩ rfl rfl (kz_6 hk) (by decide) rfl (Nat.le_of_ble_eq_true rfl) ⟨Nat.le_refl _, Nat.le_refl _⟩ hG (e_Rows_has hG hk (kz_6 hk) hq2) ?_
    refine ev_if_eq (off := 19) (tgt := 44) (by decide +kernel) (by decide) (fun c12 => ?_) (fun c12 => ?_)
    · replace h := jpos c12 h
      refine ev_seg (o := 9) (nL := 4) (q := 45) (xs := [(.iconst (-1), 1, 0, 0, .int (-1))]) (L' := [some (.ref 2), some (.int x1), some (.int x2), some (.int x3)]) (st' := [.int (-1)]) (w' := q2.2) (g := []) (K := []) (by decide +kernel) rfl rfl rfl rfl jk0 ?_
      cases h
      exact ev_iret (by decide +kernel) rfl rfl rfl rfl
    · replace h := jneg c12 h
      refine ev_seg (o := 9) (nL := 4) (q := 30) (xs := [(.iload_n 1, 1, 1, 0, .null), (.iload_n 2, 1, 2, 0, .null)]) (L' := [some (.ref 2), some (.int x1), some (.int x2), some (.int x3)]) (st' := [.int x2, .int x1]) (w' := q2.2) (g := []) (K := []) (by decide +kernel) rfl rfl rfl rfl jk0 ?_
      refine ev_icmp_eq (off := 14) (tgt := 44) (by decide +kernel) (by decide) (fun c11 => ?_) (fun c11 => ?_)
      · replace h := jpos c11 h
        refine ev_seg (o := 9) (nL := 4) (q := 45) (xs := [(.iconst (-1), 1, 0, 0, .int (-1))]) (L' := [some (.ref 2), some (.int x1), some (.int x2), some (.int x3)]) (st' := [.int (-1)]) (w' := q2.2) (g := []) (K := []) (by decide +kernel) rfl rfl rfl rfl jk0 ?_
        cases h
        exact ev_iret (by decide +kernel) rfl rfl rfl rfl
      · replace h := jneg c11 h
        refine ev_seg (o := 9) (nL := 4) (q := 35) (xs := [(.iload_n 3, 1, 3, 0, .null), (.iconst 1, 1, 0, 0, .int 1)]) (L' := [some (.ref 2), some (.int x1), some (.int x2), some (.int x3)]) (st' := [.int 1, .int x3]) (w' := q2.2) (g := []) (K := []) (by decide +kernel) rfl rfl rfl rfl jk0 ?_
        refine ev_icmp_lt (off := 9) (tgt := 44) (by decide +kernel) (by decide) (fun c10 => ?_) (fun c10 => ?_)
        · replace h := jpos c10 h
          refine ev_seg (o := 9) (nL := 4) (q := 45) (xs := [(.iconst (-1), 1, 0, 0, .int (-1))]) (L' := [some (.ref 2), some (.int x1), some (.int x2), some (.int x3)]) (st' := [.int (-1)]) (w' := q2.2) (g := []) (K := []) (by decide +kernel) rfl rfl rfl rfl jk0 ?_
          cases h
          exact ev_iret (by decide +kernel) rfl rfl rfl rfl
        · replace h := jneg c10 h
          refine ev_seg (o := 9) (nL := 4) (q := 41) (xs := [(.iload_n 3, 1, 3, 0, .null), (.bipush 60, 2, 0, 0, .int 60)]) (L' := [some (.ref 2), some (.int x1), some (.int x2), some (.int x3)]) (st' := [.int 60, .int x3]) (w' := q2.2) (g := []) (K := []) (by decide +kernel) rfl rfl rfl rfl jk0 ?_
          refine ev_icmp_le (off := 5) (tgt := 46) (by decide +kernel) (by decide) (fun c9 => ?_) (fun c9 => ?_)
          · replace h := jpos c9 h
            refine ev_seg (o := 9) (nL := 4) (q := 55) (xs := [(.aload_n 0, 1, 0, 0, .null), (.getfield 12, 3, 9, 0, .ref 6), (.getfield 58, 3, 6, 6, .ref 3), (.iload_n 1, 1, 1, 0, .null), (.iconst 0, 1, 0, 0, .int 0)]) (L' := [some (.ref 2), some (.int x1), some (.int x2), some (.int x3)]) (st' := [.int 0, .int x1, .ref 6]) (w' := q2.2) (g := []) (K := [(6, 3), (3, 6), (3, 6), (2, 9)]) (by decide +kernel) rfl rfl rfl rfl (jk1 (kz_6 hk) (jk1 (kz_3 hk) (jk1 (kz_3 hk) (jk1 (kz_2 hk) jk0)))) ?_
            obtain ⟨q3, hq3, h⟩ := jbe h
            refine ev_callV (ci := 3) (a := 6) (y2 := y_Rows_at) (o := 9) (idx := 83) (d2 := d_Rows_at) (n := 2) (mc2 := 0) (ms2 := 0) (As := [.int x1, .int 0]) (st := []) (res2 := (some (.int q3.1), (jRx kk), q3.2)) (by decide +kernel) rfl lk_9_83 mo_Rows_at mv_Rows_at ⟨Nat.le_of_ble_eq_true rfl, Nat.le_of_ble_eq_true rfl⟩ rfl rfl (kz_6 hk) (by decide) rfl (Nat.le_of_ble_eq_true rfl) ⟨Nat.le_refl _, Nat.le_refl _⟩ hG (e_Rows_at hG hk (kz_6 hk) hq3) ?_
            refine ev_seg (o := 9) (nL := 4) (q := 67) (xs := [(.aload_n 0, 1, 0, 0, .null), (.getfield 12, 3, 9, 0, .ref 6), (.getfield 58, 3, 6, 6, .ref 3), (.iload_n 2, 1, 2, 0, .null), (.iconst 0, 1, 0, 0, .int 0)]) (L' := [some (.ref 2), some (.int x1), some (.int x2), some (.int x3)]) (st' := [.int 0, .int x2, .ref 6, .int q3.1]) (w' := q3.2) (g := []) (K := [(6, 3), (3, 6), (3, 6), (2, 9)]) (by decide +kernel) rfl rfl rfl rfl (jk1 (kz_6 hk) (jk1 (kz_3 hk) (jk1 (kz_3 hk) (jk1 (kz_2 hk) jk0)))) ?_
            obtain ⟨q4, hq4, h⟩ := jbe h
            refine ev_callV (ci := 3) (a := 6) (y2 := y_Rows_at) (o := 9) (idx := 83) (d2 := d_Rows_at) (n := 2) (mc2 := 0) (ms2 := 0) (As := [.int x2, .int 0]) (st := [.int q3.1]) (res2 := (some (.int q4.1), (jRx kk), q4.2)) (by decide +kernel) rfl lk_9_83 mo_Rows_at mv_Rows_at ⟨Nat.le_of_ble_eq_true rfl, Nat.le_of_ble_eq_true rfl⟩ rfl rfl (kz_6 hk) (by decide) rfl (Nat.le_of_ble_eq_true rfl) ⟨Nat.le_refl _, Nat.le_refl _⟩ hG (e_Rows_at hG hk (kz_6 hk) hq4) ?_
            refine ev_icmp_ne (off := 15) (tgt := 85) (by decide +kernel) (by decide) (fun c8 => ?_) (fun c8 => ?_)
            · replace h := jneg c8 h
              refine ev_seg (o := 9) (nL := 4) (q := 86) (xs := [(.iconst (-1), 1, 0, 0, .int (-1))]) (L' := [some (.ref 2), some (.int x1), some (.int x2), some (.int x3)]) (st' := [.int (-1)]) (w' := q4.2) (g := []) (K := []) (by decide +kernel) rfl rfl rfl rfl jk0 ?_
              cases h
              exact ev_iret (by decide +kernel) rfl rfl rfl rfl
            · replace h := jpos c8 h
              refine ev_seg (o := 9) (nL := 4) (q := 82) (xs := [(.aload_n 0, 1, 0, 0, .null), (.getfield 12, 3, 9, 0, .ref 6), (.getfield 87, 3, 6, 4, .int 0), (.bipush 30, 2, 0, 0, .int 30)]) (L' := [some (.ref 2), some (.int x1), some (.int x2), some (.int x3)]) (st' := [.int 30, .int (q4.2.1 3 4)]) (w' := q4.2) (g := []) (K := [(3, 6), (3, 6), (2, 9)]) (by decide +kernel) rfl rfl rfl rfl (jk1 (kz_3 hk) (jk1 (kz_3 hk) (jk1 (kz_2 hk) jk0))) ?_
              refine ev_icmp_lt (off := 5) (tgt := 87) (by decide +kernel) (by decide) (fun c7 => ?_) (fun c7 => ?_)
              · replace h := jpos c7 h
                refine ev_seg (o := 9) (nL := 4) (q := 94) (xs := [(.aload_n 0, 1, 0, 0, .null), (.getfield 12, 3, 9, 0, .ref 6), (.iload_n 1, 1, 1, 0, .null), (.iload_n 2, 1, 2, 0, .null), (.iload_n 3, 1, 3, 0, .null)]) (L' := [some (.ref 2), some (.int x1), some (.int x2), some (.int x3)]) (st' := [.int x3, .int x2, .int x1, .ref 3]) (w' := q4.2) (g := []) (K := [(3, 6), (2, 9)]) (by decide +kernel) rfl rfl rfl rfl (jk1 (kz_3 hk) (jk1 (kz_2 hk) jk0)) ?_
                obtain ⟨q5, hq5, h⟩ := jbe h
                refine ev_callV (ci := 6) (a := 3) (y2 := y_State_shortenWays) (o := 9) (idx := 91) (d2 := d_State_shortenWays) (n := 3) (mc2 := 0) (ms2 := 0) (As := [.int x1, .int x2, .int x3]) (st := []) (res2 := (none, (jRx kk), q5)) (by decide +kernel) rfl lk_9_91 mo_State_shortenWays mv_State_shortenWays ⟨Nat.le_of_ble_eq_true rfl, Nat.le_of_ble_eq_true rfl⟩ rfl rfl (kz_3 hk) (by decide) rfl (Nat.le_of_ble_eq_true rfl) ⟨Nat.le_refl _, Nat.le_refl _⟩ hG (e_State_shortenWays hG hk hq5) ?_
                refine ev_seg (o := 9) (nL := 4) (q := 110) (xs := [(.aload_n 0, 1, 0, 0, .null), (.getfield 12, 3, 9, 0, .ref 6), (.dup, 1, 0, 0, .null), (.getfield 87, 3, 6, 4, .int 0), (.iconst 1, 1, 0, 0, .int 1), (.iadd, 1, 0, 0, .null), (.putfield 87, 3, 6, 4, .int 0)]) (L' := [some (.ref 2), some (.int x1), some (.int x2), some (.int x3)]) (st' := []) (w' := ((jup q5.1 3 4 ((q5.1 3 4) + 1)), q5.2)) (g := []) (K := [(3, 6), (3, 6), (3, 6), (2, 9)]) (by decide +kernel) rfl rfl rfl rfl (jk1 (kz_3 hk) (jk1 (kz_3 hk) (jk1 (kz_3 hk) (jk1 (kz_2 hk) jk0)))) ?_
                refine jlw_c (P := fun w6 => Ev l G (jrm d_Count_road 0 0) y_Count_road (some (.int z.1), (jRx kk), z.2) 0 0 0 0 110 [some (.ref 2), some (.int x1), some (.int x2), some (.int x3)] [] (jRx kk) w6) h fun w6 h => ?_
                refine ev_seg (o := 9) (nL := 4) (q := 119) (xs := [(.aload_n 0, 1, 0, 0, .null), (.getfield 12, 3, 9, 0, .ref 6), (.getfield 87, 3, 6, 4, .int 0), (.iconst 1, 1, 0, 0, .int 1), (.isub, 1, 0, 0, .null)]) (L' := [some (.ref 2), some (.int x1), some (.int x2), some (.int x3)]) (st' := [.int ((w6.1 3 4) - 1)]) (w' := w6) (g := []) (K := [(3, 6), (3, 6), (2, 9)]) (by decide +kernel) rfl rfl rfl rfl (jk1 (kz_3 hk) (jk1 (kz_3 hk) (jk1 (kz_2 hk) jk0))) ?_
                cases h
                exact ev_iret (by decide +kernel) rfl rfl rfl rfl
              · replace h := jneg c7 h
                refine ev_seg (o := 9) (nL := 4) (q := 86) (xs := [(.iconst (-1), 1, 0, 0, .int (-1))]) (L' := [some (.ref 2), some (.int x1), some (.int x2), some (.int x3)]) (st' := [.int (-1)]) (w' := q4.2) (g := []) (K := []) (by decide +kernel) rfl rfl rfl rfl jk0 ?_
                cases h
                exact ev_iret (by decide +kernel) rfl rfl rfl rfl
          · replace h := jneg c9 h
            refine ev_seg (o := 9) (nL := 4) (q := 45) (xs := [(.iconst (-1), 1, 0, 0, .int (-1))]) (L' := [some (.ref 2), some (.int x1), some (.int x2), some (.int x3)]) (st' := [.int (-1)]) (w' := q2.2) (g := []) (K := []) (by decide +kernel) rfl rfl rfl rfl jk0 ?_
            cases h
            exact ev_iret (by decide +kernel) rfl rfl rfl rfl
def f_Count_way (x1 : Int32) (x2 : Int32) (w : jW) : Option (Int32 × jW) :=
  Option.bind (f_Rows_at 8 x1 x2 w) fun q1 =>
  some (q1.1, q1.2)
set_option maxRecDepth 20000 in
theorem e_Count_way {l : Launch} {G : jG} (hG : jX G) {kk : Nat} (hk : 93 ≤ kk) {x1 : Int32} {x2 : Int32} {w : jW} {z : (Int32 × jW)} (h : f_Count_way x1 x2 w = some z) : Ct l G y_Count_way d_Count_way 0 0 [.ref 2, .int x1, .int x2] (jRx kk) w (some (.int z.1), (jRx kk), z.2) := by
  rw [f_Count_way] at h
  refine Ct.of (L := [some (.ref 2), some (.int x1), some (.int x2)]) (by decide) (Nat.le_of_ble_eq_true rfl) rfl ?_
  refine ev_seg (o := 9) (nL := 3) (q := 9) (xs := [(.aload_n 0, 1, 0, 0, .null), (.getfield 12, 3, 9, 0, .ref 6), (.getfield 94, 3, 6, 7, .ref 3), (.iload_n 1, 1, 1, 0, .null), (.iload_n 2, 1, 2, 0, .null)]) (L' := [some (.ref 2), some (.int x1), some (.int x2)]) (st' := [.int x2, .int x1, .ref 8]) (w' := w) (g := []) (K := [(8, 3), (3, 6), (3, 6), (2, 9)]) (by decide +kernel) rfl rfl rfl rfl (jk1 (kz_8 hk) (jk1 (kz_3 hk) (jk1 (kz_3 hk) (jk1 (kz_2 hk) jk0)))) ?_
  obtain ⟨q1, hq1, h⟩ := jbe h
  refine ev_callV (ci := 3) (a := 8) (y2 := y_Rows_at) (o := 9) (idx := 83) (d2 := d_Rows_at) (n := 2) (mc2 := 0) (ms2 := 0) (As := [.int x1, .int x2]) (st := []) (res2 := (some (.int q1.1), (jRx kk), q1.2)) (by decide +kernel) rfl lk_9_83 mo_Rows_at mv_Rows_at ⟨Nat.le_of_ble_eq_true rfl, Nat.le_of_ble_eq_true rfl⟩ rfl rfl (kz_8 hk) (by decide) rfl (Nat.le_of_ble_eq_true rfl) ⟨Nat.le_refl _, Nat.le_refl _⟩ hG (e_Rows_at hG hk (kz_8 hk) hq1) ?_
  cases h
  exact ev_iret (by decide +kernel) rfl rfl rfl rfl
def f_State_isSort (x0 : Int32) (w : jW) : Option (Int32 × jW) :=
  if x0 < 0 then
    some (0, w)
  else
    if x0 < 4 then
      some (1, w)
    else
      some (0, w)
set_option maxRecDepth 20000 in
theorem e_State_isSort {l : Launch} {G : jG} (hG : jX G) {kk : Nat} (hk : 93 ≤ kk) {x0 : Int32} {w : jW} {z : (Int32 × jW)} (h : f_State_isSort x0 w = some z) : Ct l G y_State_isSort d_State_isSort 0 0 [.int x0] (jRx kk) w (some (.int z.1), (jRx kk), z.2) := by
  rw [f_State_isSort] at h
  refine Ct.of (L := [some (.int x0)]) (by decide) (Nat.le_of_ble_eq_true rfl) rfl ?_
  refine ev_seg (o := 6) (nL := 1) (q := 1) (xs := [(.iload_n 0, 1, 0, 0, .null)]) (L' := [some (.int x0)]) (st' := [.int x0]) (w' := w) (g := []) (K := []) (by decide +kernel) rfl rfl rfl rfl jk0 ?_
  refine ev_if_lt (off := 12) (tgt := 13) (by decide +kernel) (by decide) (fun c2 => ?_) (fun c2 => ?_)
  · replace h := jpos c2 h
    refine ev_seg (o := 6) (nL := 1) (q := 14) (xs := [(.iconst 0, 1, 0, 0, .int 0)]) (L' := [some (.int x0)]) (st' := [.int 0]) (w' := w) (g := []) (K := []) (by decide +kernel) rfl rfl rfl rfl jk0 ?_
    cases h
    exact ev_zret (by decide +kernel) rfl rfl rfl rfl rfl
  · replace h := jneg c2 h
    refine ev_seg (o := 6) (nL := 1) (q := 6) (xs := [(.iload_n 0, 1, 0, 0, .null), (.iconst 4, 1, 0, 0, .int 4)]) (L' := [some (.int x0)]) (st' := [.int 4, .int x0]) (w' := w) (g := []) (K := []) (by decide +kernel) rfl rfl rfl rfl jk0 ?_
    refine ev_icmp_ge (off := 7) (tgt := 13) (by decide +kernel) (by decide) (fun c1 => ?_) (fun c1 => ?_)
    · replace h := jneg c1 h
      refine ev_seg (o := 6) (nL := 1) (q := 14) (xs := [(.iconst 0, 1, 0, 0, .int 0)]) (L' := [some (.int x0)]) (st' := [.int 0]) (w' := w) (g := []) (K := []) (by decide +kernel) rfl rfl rfl rfl jk0 ?_
      cases h
      exact ev_zret (by decide +kernel) rfl rfl rfl rfl rfl
    · replace h := jpos c1 h
      refine ev_seg (o := 6) (nL := 1) (q := 14) (xs := [(.iconst 1, 1, 0, 0, .int 1), (.goto 4, 3, 0, 0, .null)]) (L' := [some (.int x0)]) (st' := [.int 1]) (w' := w) (g := []) (K := []) (by decide +kernel) rfl rfl rfl rfl jk0 ?_
      cases h
      exact ev_zret (by decide +kernel) rfl rfl rfl rfl rfl
def f_Count_sort (x1 : Int32) (x2 : Int32) (x3 : Int32) (x4 : Int32) (x5 : Int32) (w : jW) : Option (Int32 × jW) :=
  Option.bind (f_State_isSort x1 w) fun q1 =>
  if q1.1 = 0 then
    some (0, q1.2)
  else
    Option.bind (f_Rows_count 10 q1.2) fun q2 =>
    if q2.1 ≤ 0 then
      if x2 < 1 then
        some (0, q2.2)
      else
        if x3 < x2 then
          some (0, q2.2)
        else
          if x3 ≤ 200 then
            if x4 < 1 then
              some (0, q2.2)
            else
              if x5 < x4 then
                some (0, q2.2)
              else
                if x5 ≤ 500 then
                  Option.bind (f_Rows_put 4 x1 0 x2 q2.2) fun q3 =>
                  Option.bind (f_Rows_put 4 x1 1 x3 q3) fun q4 =>
                  Option.bind (f_Rows_put 4 x1 2 x4 q4) fun q5 =>
                  Option.bind (f_Rows_put 4 x1 3 x5 q5) fun q6 =>
                  some (1, q6)
                else
                  some (0, q2.2)
          else
            some (0, q2.2)
    else
      some (0, q2.2)
set_option maxRecDepth 20000 in
theorem e_Count_sort {l : Launch} {G : jG} (hG : jX G) {kk : Nat} (hk : 93 ≤ kk) {x1 : Int32} {x2 : Int32} {x3 : Int32} {x4 : Int32} {x5 : Int32} {w : jW} {z : (Int32 × jW)} (h : f_Count_sort x1 x2 x3 x4 x5 w = some z) : Ct l G y_Count_sort d_Count_sort 0 0 [.ref 2, .int x1, .int x2, .int x3, .int x4, .int x5] (jRx kk) w (some (.int z.1), (jRx kk), z.2) := by
  rw [f_Count_sort] at h
  refine Ct.of (L := [some (.ref 2), some (.int x1), some (.int x2), some (.int x3), some (.int x4), some (.int x5)]) (by decide) (Nat.le_of_ble_eq_true rfl) rfl ?_
  refine ev_seg (o := 9) (nL := 6) (q := 1) (xs := [(.iload_n 1, 1, 1, 0, .null)]) (L' := [some (.ref 2), some (.int x1), some (.int x2), some (.int x3), some (.int x4), some (.int x5)]) (st' := [.int x1]) (w' := w) (g := []) (K := []) (by decide +kernel) rfl rfl rfl rfl jk0 ?_
  obtain ⟨q1, hq1, h⟩ := jbe h
  refine ev_callS (y2 := y_State_isSort) (o := 9) (idx := 97) (d2 := d_State_isSort) (n := 1) (mc2 := 0) (ms2 := 0) (As := [.int x1]) (st := []) (res2 := (some (.int q1.1), (jRx kk), q1.2)) (by decide +kernel) rfl lk_9_97 mo_State_isSort ms_State_isSort ⟨Nat.le_of_ble_eq_true rfl, Nat.le_of_ble_eq_true rfl⟩ rfl rfl (Nat.le_of_ble_eq_true rfl) ⟨Nat.le_refl _, Nat.le_refl _⟩ hG (e_State_isSort hG hk hq1) ?_
  refine ev_if_eq (off := 16) (tgt := 20) (by decide +kernel) (by decide) (fun c14 => ?_) (fun c14 => ?_)
  · replace h := jpos c14 h
    refine ev_seg (o := 9) (nL := 6) (q := 21) (xs := [(.iconst 0, 1, 0, 0, .int 0)]) (L' := [some (.ref 2), some (.int x1), some (.int x2), some (.int x3), some (.int x4), some (.int x5)]) (st' := [.int 0]) (w' := q1.2) (g := []) (K := []) (by decide +kernel) rfl rfl rfl rfl jk0 ?_
    cases h
    exact ev_zret (by decide +kernel) rfl rfl rfl rfl rfl
  · replace h := jneg c14 h
    refine ev_seg (o := 9) (nL := 6) (q := 14) (xs := [(.aload_n 0, 1, 0, 0, .null), (.getfield 12, 3, 9, 0, .ref 6), (.getfield 100, 3, 6, 8, .ref 3)]) (L' := [some (.ref 2), some (.int x1), some (.int x2), some (.int x3), some (.int x4), some (.int x5)]) (st' := [.ref 10]) (w' := q1.2) (g := []) (K := [(10, 3), (3, 6), (3, 6), (2, 9)]) (by decide +kernel) rfl rfl rfl rfl (jk1 (kz_10 hk) (jk1 (kz_3 hk) (jk1 (kz_3 hk) (jk1 (kz_2 hk) jk0)))) ?_
    obtain ⟨q2, hq2, h⟩ := jbe h
    refine ev_callV (ci := 3) (a := 10) (y2 := y_Rows_count) (o := 9) (idx := 103) (d2 := d_Rows_count) (n := 0) (mc2 := 0) (ms2 := 0) (As := []) (st := []) (res2 := (some (.int q2.1), (jRx kk), q2.2)) (by decide +kernel) rfl lk_9_103 mo_Rows_count mv_Rows_count ⟨Nat.le_of_ble_eq_true rfl, Nat.le_of_ble_eq_true rfl⟩ rfl rfl (kz_10 hk) (by decide) rfl (Nat.le_of_ble_eq_true rfl) ⟨Nat.le_refl _, Nat.le_refl _⟩ hG (e_Rows_count hG hk (kz_10 hk) hq2) ?_
    refine ev_if_le (off := 5) (tgt := 22) (by decide +kernel) (by decide) (fun c13 => ?_) (fun c13 => ?_)
    · replace h := jpos c13 h
      refine ev_seg (o := 9) (nL := 6) (q := 24) (xs := [(.iload_n 2, 1, 2, 0, .null), (.iconst 1, 1, 0, 0, .int 1)]) (L' := [some (.ref 2), some (.int x1), some (.int x2), some (.int x3), some (.int x4), some (.int x5)]) (st' := [.int 1, .int x2]) (w' := q2.2) (g := []) (K := []) (by decide +kernel) rfl rfl rfl rfl jk0 ?_
      refine ev_icmp_lt (off := 15) (tgt := 39) (by decide +kernel) (by decide) (fun c12 => ?_) (fun c12 => ?_)
      · replace h := jpos c12 h
        refine ev_seg (o := 9) (nL := 6) (q := 40) (xs := [(.iconst 0, 1, 0, 0, .int 0)]) (L' := [some (.ref 2), some (.int x1), some (.int x2), some (.int x3), some (.int x4), some (.int x5)]) (st' := [.int 0]) (w' := q2.2) (g := []) (K := []) (by decide +kernel) rfl rfl rfl rfl jk0 ?_
        cases h
        exact ev_zret (by decide +kernel) rfl rfl rfl rfl rfl
      · replace h := jneg c12 h
        refine ev_seg (o := 9) (nL := 6) (q := 29) (xs := [(.iload_n 3, 1, 3, 0, .null), (.iload_n 2, 1, 2, 0, .null)]) (L' := [some (.ref 2), some (.int x1), some (.int x2), some (.int x3), some (.int x4), some (.int x5)]) (st' := [.int x2, .int x3]) (w' := q2.2) (g := []) (K := []) (by decide +kernel) rfl rfl rfl rfl jk0 ?_
        refine ev_icmp_lt (off := 10) (tgt := 39) (by decide +kernel) (by decide) (fun c11 => ?_) (fun c11 => ?_)
        · replace h := jpos c11 h
          refine ev_seg (o := 9) (nL := 6) (q := 40) (xs := [(.iconst 0, 1, 0, 0, .int 0)]) (L' := [some (.ref 2), some (.int x1), some (.int x2), some (.int x3), some (.int x4), some (.int x5)]) (st' := [.int 0]) (w' := q2.2) (g := []) (K := []) (by decide +kernel) rfl rfl rfl rfl jk0 ?_
          cases h
          exact ev_zret (by decide +kernel) rfl rfl rfl rfl rfl
        · replace h := jneg c11 h
          refine ev_seg (o := 9) (nL := 6) (q := 36) (xs := [(.iload_n 3, 1, 3, 0, .null), (.sipush 200, 3, 0, 0, .int 200)]) (L' := [some (.ref 2), some (.int x1), some (.int x2), some (.int x3), some (.int x4), some (.int x5)]) (st' := [.int 200, .int x3]) (w' := q2.2) (g := []) (K := []) (by decide +kernel) rfl rfl rfl rfl jk0 ?_
          refine ev_icmp_le (off := 5) (tgt := 41) (by decide +kernel) (by decide) (fun c10 => ?_) (fun c10 => ?_)
          · replace h := jpos c10 h
            refine ev_seg (o := 9) (nL := 6) (q := 44) (xs := [(.iload 4, 2, 4, 0, .null), (.iconst 1, 1, 0, 0, .int 1)]) (L' := [some (.ref 2), some (.int x1), some (.int x2), some (.int x3), some (.int x4), some (.int x5)]) (st' := [.int 1, .int x4]) (w' := q2.2) (g := []) (K := []) (by decide +kernel) rfl rfl rfl rfl jk0 ?_
            refine ev_icmp_lt (off := 18) (tgt := 62) (by decide +kernel) (by decide) (fun c9 => ?_) (fun c9 => ?_)
            · replace h := jpos c9 h
              refine ev_seg (o := 9) (nL := 6) (q := 63) (xs := [(.iconst 0, 1, 0, 0, .int 0)]) (L' := [some (.ref 2), some (.int x1), some (.int x2), some (.int x3), some (.int x4), some (.int x5)]) (st' := [.int 0]) (w' := q2.2) (g := []) (K := []) (by decide +kernel) rfl rfl rfl rfl jk0 ?_
              cases h
              exact ev_zret (by decide +kernel) rfl rfl rfl rfl rfl
            · replace h := jneg c9 h
              refine ev_seg (o := 9) (nL := 6) (q := 51) (xs := [(.iload 5, 2, 5, 0, .null), (.iload 4, 2, 4, 0, .null)]) (L' := [some (.ref 2), some (.int x1), some (.int x2), some (.int x3), some (.int x4), some (.int x5)]) (st' := [.int x4, .int x5]) (w' := q2.2) (g := []) (K := []) (by decide +kernel) rfl rfl rfl rfl jk0 ?_
              refine ev_icmp_lt (off := 11) (tgt := 62) (by decide +kernel) (by decide) (fun c8 => ?_) (fun c8 => ?_)
              · replace h := jpos c8 h
                refine ev_seg (o := 9) (nL := 6) (q := 63) (xs := [(.iconst 0, 1, 0, 0, .int 0)]) (L' := [some (.ref 2), some (.int x1), some (.int x2), some (.int x3), some (.int x4), some (.int x5)]) (st' := [.int 0]) (w' := q2.2) (g := []) (K := []) (by decide +kernel) rfl rfl rfl rfl jk0 ?_
                cases h
                exact ev_zret (by decide +kernel) rfl rfl rfl rfl rfl
              · replace h := jneg c8 h
                refine ev_seg (o := 9) (nL := 6) (q := 59) (xs := [(.iload 5, 2, 5, 0, .null), (.sipush 500, 3, 0, 0, .int 500)]) (L' := [some (.ref 2), some (.int x1), some (.int x2), some (.int x3), some (.int x4), some (.int x5)]) (st' := [.int 500, .int x5]) (w' := q2.2) (g := []) (K := []) (by decide +kernel) rfl rfl rfl rfl jk0 ?_
                refine ev_icmp_le (off := 5) (tgt := 64) (by decide +kernel) (by decide) (fun c7 => ?_) (fun c7 => ?_)
                · replace h := jpos c7 h
                  refine ev_seg (o := 9) (nL := 6) (q := 74) (xs := [(.aload_n 0, 1, 0, 0, .null), (.getfield 12, 3, 9, 0, .ref 6), (.getfield 107, 3, 6, 5, .ref 3), (.iload_n 1, 1, 1, 0, .null), (.iconst 0, 1, 0, 0, .int 0), (.iload_n 2, 1, 2, 0, .null)]) (L' := [some (.ref 2), some (.int x1), some (.int x2), some (.int x3), some (.int x4), some (.int x5)]) (st' := [.int x2, .int 0, .int x1, .ref 4]) (w' := q2.2) (g := []) (K := [(4, 3), (3, 6), (3, 6), (2, 9)]) (by decide +kernel) rfl rfl rfl rfl (jk1 (kz_4 hk) (jk1 (kz_3 hk) (jk1 (kz_3 hk) (jk1 (kz_2 hk) jk0)))) ?_
                  obtain ⟨q3, hq3, h⟩ := jbe h
                  refine ev_callV (ci := 3) (a := 4) (y2 := y_Rows_put) (o := 9) (idx := 72) (d2 := d_Rows_put) (n := 3) (mc2 := 0) (ms2 := 0) (As := [.int x1, .int 0, .int x2]) (st := []) (res2 := (none, (jRx kk), q3)) (by decide +kernel) rfl lk_9_72 mo_Rows_put mv_Rows_put ⟨Nat.le_of_ble_eq_true rfl, Nat.le_of_ble_eq_true rfl⟩ rfl rfl (kz_4 hk) (by decide) rfl (Nat.le_of_ble_eq_true rfl) ⟨Nat.le_refl _, Nat.le_refl _⟩ hG (e_Rows_put hG hk (kz_4 hk) hq3) ?_
                  refine ev_seg (o := 9) (nL := 6) (q := 87) (xs := [(.aload_n 0, 1, 0, 0, .null), (.getfield 12, 3, 9, 0, .ref 6), (.getfield 107, 3, 6, 5, .ref 3), (.iload_n 1, 1, 1, 0, .null), (.iconst 1, 1, 0, 0, .int 1), (.iload_n 3, 1, 3, 0, .null)]) (L' := [some (.ref 2), some (.int x1), some (.int x2), some (.int x3), some (.int x4), some (.int x5)]) (st' := [.int x3, .int 1, .int x1, .ref 4]) (w' := q3) (g := []) (K := [(4, 3), (3, 6), (3, 6), (2, 9)]) (by decide +kernel) rfl rfl rfl rfl (jk1 (kz_4 hk) (jk1 (kz_3 hk) (jk1 (kz_3 hk) (jk1 (kz_2 hk) jk0)))) ?_
                  obtain ⟨q4, hq4, h⟩ := jbe h
                  refine ev_callV (ci := 3) (a := 4) (y2 := y_Rows_put) (o := 9) (idx := 72) (d2 := d_Rows_put) (n := 3) (mc2 := 0) (ms2 := 0) (As := [.int x1, .int 1, .int x3]) (st := []) (res2 := (none, (jRx kk), q4)) (by decide +kernel) rfl lk_9_72 mo_Rows_put mv_Rows_put ⟨Nat.le_of_ble_eq_true rfl, Nat.le_of_ble_eq_true rfl⟩ rfl rfl (kz_4 hk) (by decide) rfl (Nat.le_of_ble_eq_true rfl) ⟨Nat.le_refl _, Nat.le_refl _⟩ hG (e_Rows_put hG hk (kz_4 hk) hq4) ?_
                  refine ev_seg (o := 9) (nL := 6) (q := 101) (xs := [(.aload_n 0, 1, 0, 0, .null), (.getfield 12, 3, 9, 0, .ref 6), (.getfield 107, 3, 6, 5, .ref 3), (.iload_n 1, 1, 1, 0, .null), (.iconst 2, 1, 0, 0, .int 2), (.iload 4, 2, 4, 0, .null)]) (L' := [some (.ref 2), some (.int x1), some (.int x2), some (.int x3), some (.int x4), some (.int x5)]) (st' := [.int x4, .int 2, .int x1, .ref 4]) (w' := q4) (g := []) (K := [(4, 3), (3, 6), (3, 6), (2, 9)]) (by decide +kernel) rfl rfl rfl rfl (jk1 (kz_4 hk) (jk1 (kz_3 hk) (jk1 (kz_3 hk) (jk1 (kz_2 hk) jk0)))) ?_
                  obtain ⟨q5, hq5, h⟩ := jbe h
                  refine ev_callV (ci := 3) (a := 4) (y2 := y_Rows_put) (o := 9) (idx := 72) (d2 := d_Rows_put) (n := 3) (mc2 := 0) (ms2 := 0) (As := [.int x1, .int 2, .int x4]) (st := []) (res2 := (none, (jRx kk), q5)) (by decide +kernel) rfl lk_9_72 mo_Rows_put mv_Rows_put ⟨Nat.le_of_ble_eq_true rfl, Nat.le_of_ble_eq_true rfl⟩ rfl rfl (kz_4 hk) (by decide) rfl (Nat.le_of_ble_eq_true rfl) ⟨Nat.le_refl _, Nat.le_refl _⟩ hG (e_Rows_put hG hk (kz_4 hk) hq5) ?_
                  refine ev_seg (o := 9) (nL := 6) (q := 115) (xs := [(.aload_n 0, 1, 0, 0, .null), (.getfield 12, 3, 9, 0, .ref 6), (.getfield 107, 3, 6, 5, .ref 3), (.iload_n 1, 1, 1, 0, .null), (.iconst 3, 1, 0, 0, .int 3), (.iload 5, 2, 5, 0, .null)]) (L' := [some (.ref 2), some (.int x1), some (.int x2), some (.int x3), some (.int x4), some (.int x5)]) (st' := [.int x5, .int 3, .int x1, .ref 4]) (w' := q5) (g := []) (K := [(4, 3), (3, 6), (3, 6), (2, 9)]) (by decide +kernel) rfl rfl rfl rfl (jk1 (kz_4 hk) (jk1 (kz_3 hk) (jk1 (kz_3 hk) (jk1 (kz_2 hk) jk0)))) ?_
                  obtain ⟨q6, hq6, h⟩ := jbe h
                  refine ev_callV (ci := 3) (a := 4) (y2 := y_Rows_put) (o := 9) (idx := 72) (d2 := d_Rows_put) (n := 3) (mc2 := 0) (ms2 := 0) (As := [.int x1, .int 3, .int x5]) (st := []) (res2 := (none, (jRx kk), q6)) (by decide +kernel) rfl lk_9_72 mo_Rows_put mv_Rows_put ⟨Nat.le_of_ble_eq_true rfl, Nat.le_of_ble_eq_true rfl⟩ rfl rfl (kz_4 hk) (by decide) rfl (Nat.le_of_ble_eq_true rfl) ⟨Nat.le_refl _, Nat.le_refl _⟩ hG (e_Rows_put hG hk (kz_4 hk) hq6) ?_
                  refine ev_seg (o := 9) (nL := 6) (q := 119) (xs := [(.iconst 1, 1, 0, 0, .int 1)]) (L' := [some (.ref 2), some (.int x1), some (.int x2), some (.int x3), some (.int x4), some (.int x5)]) (st' := [.int 1]) (w' := q6) (g := []) (K := []) (by decide +kernel) rfl rfl rfl rfl jk0 ?_
                  cases h
                  exact ev_zret (by decide +kernel) rfl rfl rfl rfl rfl
                · replace h := jneg c7 h
                  refine ev_seg (o := 9) (nL := 6) (q := 63) (xs := [(.iconst 0, 1, 0, 0, .int 0)]) (L' := [some (.ref 2), some (.int x1), some (.int x2), some (.int x3), some (.int x4), some (.int x5)]) (st' := [.int 0]) (w' := q2.2) (g := []) (K := []) (by decide +kernel) rfl rfl rfl rfl jk0 ?_
                  cases h
                  exact ev_zret (by decide +kernel) rfl rfl rfl rfl rfl
          · replace h := jneg c10 h
            refine ev_seg (o := 9) (nL := 6) (q := 40) (xs := [(.iconst 0, 1, 0, 0, .int 0)]) (L' := [some (.ref 2), some (.int x1), some (.int x2), some (.int x3), some (.int x4), some (.int x5)]) (st' := [.int 0]) (w' := q2.2) (g := []) (K := []) (by decide +kernel) rfl rfl rfl rfl jk0 ?_
            cases h
            exact ev_zret (by decide +kernel) rfl rfl rfl rfl rfl
    · replace h := jneg c13 h
      refine ev_seg (o := 9) (nL := 6) (q := 21) (xs := [(.iconst 0, 1, 0, 0, .int 0)]) (L' := [some (.ref 2), some (.int x1), some (.int x2), some (.int x3), some (.int x4), some (.int x5)]) (st' := [.int 0]) (w' := q2.2) (g := []) (K := []) (by decide +kernel) rfl rfl rfl rfl jk0 ?_
      cases h
      exact ev_zret (by decide +kernel) rfl rfl rfl rfl rfl
def f_State_addAct (x1 : Int32) (x2 : Int32) (x3 : Int32) (x4 : Int32) (w : jW) : Option jW :=
  Option.bind (f_Rows_open 32 x1 w) fun q1 =>
  Option.bind (f_Rows_put 32 q1.1 1 (q1.2.1 3 0) q1.2) fun q2 =>
  Option.bind (f_Rows_put 32 q1.1 2 x2 q2) fun q3 =>
  Option.bind (f_Rows_put 32 q1.1 3 x3 q3) fun q4 =>
  Option.bind (f_Rows_put 32 q1.1 4 x4 q4) fun q5 =>
  some q5
set_option maxRecDepth 20000 in
theorem e_State_addAct {l : Launch} {G : jG} (hG : jX G) {kk : Nat} (hk : 93 ≤ kk) {x1 : Int32} {x2 : Int32} {x3 : Int32} {x4 : Int32} {w : jW} {z : jW} (h : f_State_addAct x1 x2 x3 x4 w = some z) : Ct l G y_State_addAct d_State_addAct 0 0 [.ref 3, .int x1, .int x2, .int x3, .int x4] (jRx kk) w (none, (jRx kk), z) := by
  rw [f_State_addAct] at h
  refine Ct.of (L := [some (.ref 3), some (.int x1), some (.int x2), some (.int x3), some (.int x4), none]) (by decide) (Nat.le_of_ble_eq_true rfl) rfl ?_
  refine ev_seg (o := 6) (nL := 6) (q := 5) (xs := [(.aload_n 0, 1, 0, 0, .null), (.getfield 70, 3, 6, 16, .ref 3), (.iload_n 1, 1, 1, 0, .null)]) (L' := [some (.ref 3), some (.int x1), some (.int x2), some (.int x3), some (.int x4), none]) (st' := [.int x1, .ref 32]) (w' := w) (g := []) (K := [(32, 3), (3, 6)]) (by decide +kernel) rfl rfl rfl rfl (jk1 (kz_32 hk) (jk1 (kz_3 hk) jk0)) ?_
  obtain ⟨q1, hq1, h⟩ := jbe h
  refine ev_callV (ci := 3) (a := 32) (y2 := y_Rows_open) (o := 6) (idx := 79) (d2 := d_Rows_open) (n := 1) (mc2 := 0) (ms2 := 0) (As := [.int x1]) (st := []) (res2 := (some (.int q1.1), (jRx kk), q1.2)) (by decide +kernel) rfl lk_6_79 mo_Rows_open mv_Rows_open ⟨Nat.le_of_ble_eq_true rfl, Nat.le_of_ble_eq_true rfl⟩ rfl rfl (kz_32 hk) (by decide) rfl (Nat.le_of_ble_eq_true rfl) ⟨Nat.le_refl _, Nat.le_refl _⟩ hG (e_Rows_open hG hk (kz_32 hk) hq1) ?_
  refine ev_seg (o := 6) (nL := 6) (q := 21) (xs := [(.istore 5, 2, 5, 0, .null), (.aload_n 0, 1, 0, 0, .null), (.getfield 70, 3, 6, 16, .ref 3), (.iload 5, 2, 5, 0, .null), (.iconst 1, 1, 0, 0, .int 1), (.aload_n 0, 1, 0, 0, .null), (.getfield 9, 3, 6, 0, .int 0)]) (L' := [some (.ref 3), some (.int x1), some (.int x2), some (.int x3), some (.int x4), some (.int q1.1)]) (st' := [.int (q1.2.1 3 0), .int 1, .int q1.1, .ref 32]) (w' := q1.2) (g := []) (K := [(3, 6), (32, 3), (3, 6)]) (by decide +kernel) rfl rfl rfl rfl (jk1 (kz_3 hk) (jk1 (kz_32 hk) (jk1 (kz_3 hk) jk0))) ?_
  obtain ⟨q2, hq2, h⟩ := jbe h
  refine ev_callV (ci := 3) (a := 32) (y2 := y_Rows_put) (o := 6) (idx := 83) (d2 := d_Rows_put) (n := 3) (mc2 := 0) (ms2 := 0) (As := [.int q1.1, .int 1, .int (q1.2.1 3 0)]) (st := []) (res2 := (none, (jRx kk), q2)) (by decide +kernel) rfl lk_6_83 mo_Rows_put mv_Rows_put ⟨Nat.le_of_ble_eq_true rfl, Nat.le_of_ble_eq_true rfl⟩ rfl rfl (kz_32 hk) (by decide) rfl (Nat.le_of_ble_eq_true rfl) ⟨Nat.le_refl _, Nat.le_refl _⟩ hG (e_Rows_put hG hk (kz_32 hk) hq2) ?_
  refine ev_seg (o := 6) (nL := 6) (q := 32) (xs := [(.aload_n 0, 1, 0, 0, .null), (.getfield 70, 3, 6, 16, .ref 3), (.iload 5, 2, 5, 0, .null), (.iconst 2, 1, 0, 0, .int 2), (.iload_n 2, 1, 2, 0, .null)]) (L' := [some (.ref 3), some (.int x1), some (.int x2), some (.int x3), some (.int x4), some (.int q1.1)]) (st' := [.int x2, .int 2, .int q1.1, .ref 32]) (w' := q2) (g := []) (K := [(32, 3), (3, 6)]) (by decide +kernel) rfl rfl rfl rfl (jk1 (kz_32 hk) (jk1 (kz_3 hk) jk0)) ?_
  obtain ⟨q3, hq3, h⟩ := jbe h
  refine ev_callV (ci := 3) (a := 32) (y2 := y_Rows_put) (o := 6) (idx := 83) (d2 := d_Rows_put) (n := 3) (mc2 := 0) (ms2 := 0) (As := [.int q1.1, .int 2, .int x2]) (st := []) (res2 := (none, (jRx kk), q3)) (by decide +kernel) rfl lk_6_83 mo_Rows_put mv_Rows_put ⟨Nat.le_of_ble_eq_true rfl, Nat.le_of_ble_eq_true rfl⟩ rfl rfl (kz_32 hk) (by decide) rfl (Nat.le_of_ble_eq_true rfl) ⟨Nat.le_refl _, Nat.le_refl _⟩ hG (e_Rows_put hG hk (kz_32 hk) hq3) ?_
  refine ev_seg (o := 6) (nL := 6) (q := 43) (xs := [(.aload_n 0, 1, 0, 0, .null), (.getfield 70, 3, 6, 16, .ref 3), (.iload 5, 2, 5, 0, .null), (.iconst 3, 1, 0, 0, .int 3), (.iload_n 3, 1, 3, 0, .null)]) (L' := [some (.ref 3), some (.int x1), some (.int x2), some (.int x3), some (.int x4), some (.int q1.1)]) (st' := [.int x3, .int 3, .int q1.1, .ref 32]) (w' := q3) (g := []) (K := [(32, 3), (3, 6)]) (by decide +kernel) rfl rfl rfl rfl (jk1 (kz_32 hk) (jk1 (kz_3 hk) jk0)) ?_
  obtain ⟨q4, hq4, h⟩ := jbe h
  refine ev_callV (ci := 3) (a := 32) (y2 := y_Rows_put) (o := 6) (idx := 83) (d2 := d_Rows_put) (n := 3) (mc2 := 0) (ms2 := 0) (As := [.int q1.1, .int 3, .int x3]) (st := []) (res2 := (none, (jRx kk), q4)) (by decide +kernel) rfl lk_6_83 mo_Rows_put mv_Rows_put ⟨Nat.le_of_ble_eq_true rfl, Nat.le_of_ble_eq_true rfl⟩ rfl rfl (kz_32 hk) (by decide) rfl (Nat.le_of_ble_eq_true rfl) ⟨Nat.le_refl _, Nat.le_refl _⟩ hG (e_Rows_put hG hk (kz_32 hk) hq4) ?_
  refine ev_seg (o := 6) (nL := 6) (q := 55) (xs := [(.aload_n 0, 1, 0, 0, .null), (.getfield 70, 3, 6, 16, .ref 3), (.iload 5, 2, 5, 0, .null), (.iconst 4, 1, 0, 0, .int 4), (.iload 4, 2, 4, 0, .null)]) (L' := [some (.ref 3), some (.int x1), some (.int x2), some (.int x3), some (.int x4), some (.int q1.1)]) (st' := [.int x4, .int 4, .int q1.1, .ref 32]) (w' := q4) (g := []) (K := [(32, 3), (3, 6)]) (by decide +kernel) rfl rfl rfl rfl (jk1 (kz_32 hk) (jk1 (kz_3 hk) jk0)) ?_
  obtain ⟨q5, hq5, h⟩ := jbe h
  refine ev_callV (ci := 3) (a := 32) (y2 := y_Rows_put) (o := 6) (idx := 83) (d2 := d_Rows_put) (n := 3) (mc2 := 0) (ms2 := 0) (As := [.int q1.1, .int 4, .int x4]) (st := []) (res2 := (none, (jRx kk), q5)) (by decide +kernel) rfl lk_6_83 mo_Rows_put mv_Rows_put ⟨Nat.le_of_ble_eq_true rfl, Nat.le_of_ble_eq_true rfl⟩ rfl rfl (kz_32 hk) (by decide) rfl (Nat.le_of_ble_eq_true rfl) ⟨Nat.le_refl _, Nat.le_refl _⟩ hG (e_Rows_put hG hk (kz_32 hk) hq5) ?_
  cases h
  exact ev_vret (by decide +kernel) rfl rfl rfl rfl
def f_Count_make_j92 (x1 : Int32) (x2 : Int32) (x3 : Int32) (x4 : Int32) (w : jW) : Option (Int32 × jW) :=
  Option.bind (f_Rows_open 10 x2 w) fun q4 =>
  Option.bind (f_Rows_put 10 q4.1 1 x3 q4.2) fun q5 =>
  Option.bind (f_Rows_put 10 q4.1 2 x4 q5) fun q6 =>
  Option.bind (f_Rows_at 6 x1 0 q6) fun q7 =>
  Option.bind (f_Rows_put 10 q4.1 3 q7.1 q7.2) fun q8 =>
  Option.bind (f_Rows_put 10 q4.1 4 (q8.1 3 0) q8) fun q9 =>
  Option.bind (f_Rows_put 10 q4.1 7 x1 q9) fun q10 =>
  Option.bind (f_Rows_put 10 q4.1 8 (-1) q10) fun q11 =>
  Option.bind (f_Rows_put 10 q4.1 9 (-1) q11) fun q12 =>
  Option.bind (f_Rows_put 10 q4.1 10 (-1) q12) fun q13 =>
  Option.bind (f_Rows_at 6 x1 0 q13) fun q14 =>
  Option.bind (f_State_addAct 0 q14.1 q4.1 q4.1 q14.2) fun q15 =>
  some (q4.1, q15)
set_option maxRecDepth 20000 in
theorem t_Count_make_j92 {l : Launch} {G : jG} (hG : jX G) {kk : Nat} (hk : 93 ≤ kk) {x1 : Int32} {x2 : Int32} {x3 : Int32} {x4 : Int32} {w : jW} {z : (Int32 × jW)} (h : f_Count_make_j92 x1 x2 x3 x4 w = some z) : Ev l G (jrm d_Count_make 0 0) y_Count_make (some (.int z.1), (jRx kk), z.2) 0 0 0 0 92 [some (.ref 2), some (.int x1), some (.int x2), some (.int x3), some (.int x4), none] [] (jRx kk) w := by
  rw [f_Count_make_j92] at h
  refine ev_seg (o := 9) (nL := 6) (q := 100) (xs := [(.aload_n 0, 1, 0, 0, .null), (.getfield 12, 3, 9, 0, .ref 6), (.getfield 100, 3, 6, 8, .ref 3), (.iload_n 2, 1, 2, 0, .null)]) (L' := [some (.ref 2), some (.int x1), some (.int x2), some (.int x3), some (.int x4), none]) (st' := [.int x2, .ref 10]) (w' := w) (g := []) (K := [(10, 3), (3, 6), (3, 6), (2, 9)]) (by decide +kernel) rfl rfl rfl rfl (jk1 (kz_10 hk) (jk1 (kz_3 hk) (jk1 (kz_3 hk) (jk1 (kz_2 hk) jk0)))) ?_
  obtain ⟨q4, hq4, h⟩ := jbe h
  refine ev_callV (ci := 3) (a := 10) (y2 := y_Rows_open) (o := 9) (idx := 68) (d2 := d_Rows_open) (n := 1) (mc2 := 0) (ms2 := 0) (As := [.int x2]) (st := []) (res2 := (some (.int q4.1), (jRx kk), q4.2)) (by decide +kernel) rfl lk_9_68 mo_Rows_open mv_Rows_open ⟨Nat.le_of_ble_eq_true rfl, Nat.le_of_ble_eq_true rfl⟩ rfl rfl (kz_10 hk) (by decide) rfl (Nat.le_of_ble_eq_true rfl) ⟨Nat.le_refl _, Nat.le_refl _⟩ hG (e_Rows_open hG hk (kz_10 hk) hq4) ?_
  refine ev_seg (o := 9) (nL := 6) (q := 116) (xs := [(.istore 5, 2, 5, 0, .null), (.aload_n 0, 1, 0, 0, .null), (.getfield 12, 3, 9, 0, .ref 6), (.getfield 100, 3, 6, 8, .ref 3), (.iload 5, 2, 5, 0, .null), (.iconst 1, 1, 0, 0, .int 1), (.iload_n 3, 1, 3, 0, .null)]) (L' := [some (.ref 2), some (.int x1), some (.int x2), some (.int x3), some (.int x4), some (.int q4.1)]) (st' := [.int x3, .int 1, .int q4.1, .ref 10]) (w' := q4.2) (g := []) (K := [(10, 3), (3, 6), (3, 6), (2, 9)]) (by decide +kernel) rfl rfl rfl rfl (jk1 (kz_10 hk) (jk1 (kz_3 hk) (jk1 (kz_3 hk) (jk1 (kz_2 hk) jk0)))) ?_
  obtain ⟨q5, hq5, h⟩ := jbe h
  refine ev_callV (ci := 3) (a := 10) (y2 := y_Rows_put) (o := 9) (idx := 72) (d2 := d_Rows_put) (n := 3) (mc2 := 0) (ms2 := 0) (As := [.int q4.1, .int 1, .int x3]) (st := []) (res2 := (none, (jRx kk), q5)) (by decide +kernel) rfl lk_9_72 mo_Rows_put mv_Rows_put ⟨Nat.le_of_ble_eq_true rfl, Nat.le_of_ble_eq_true rfl⟩ rfl rfl (kz_10 hk) (by decide) rfl (Nat.le_of_ble_eq_true rfl) ⟨Nat.le_refl _, Nat.le_refl _⟩ hG (e_Rows_put hG hk (kz_10 hk) hq5) ?_
  refine ev_seg (o := 9) (nL := 6) (q := 131) (xs := [(.aload_n 0, 1, 0, 0, .null), (.getfield 12, 3, 9, 0, .ref 6), (.getfield 100, 3, 6, 8, .ref 3), (.iload 5, 2, 5, 0, .null), (.iconst 2, 1, 0, 0, .int 2), (.iload 4, 2, 4, 0, .null)]) (L' := [some (.ref 2), some (.int x1), some (.int x2), some (.int x3), some (.int x4), some (.int q4.1)]) (st' := [.int x4, .int 2, .int q4.1, .ref 10]) (w' := q5) (g := []) (K := [(10, 3), (3, 6), (3, 6), (2, 9)]) (by decide +kernel) rfl rfl rfl rfl (jk1 (kz_10 hk) (jk1 (kz_3 hk) (jk1 (kz_3 hk) (jk1 (kz_2 hk) jk0)))) ?_
  obtain ⟨q6, hq6, h⟩ := jbe h
  refine ev_callV (ci := 3) (a := 10) (y2 := y_Rows_put) (o := 9) (idx := 72) (d2 := d_Rows_put) (n := 3) (mc2 := 0) (ms2 := 0) (As := [.int q4.1, .int 2, .int x4]) (st := []) (res2 := (none, (jRx kk), q6)) (by decide +kernel) rfl lk_9_72 mo_Rows_put mv_Rows_put ⟨Nat.le_of_ble_eq_true rfl, Nat.le_of_ble_eq_true rfl⟩ rfl rfl (kz_10 hk) (by decide) rfl (Nat.le_of_ble_eq_true rfl) ⟨Nat.le_refl _, Nat.le_refl _⟩ hG (e_Rows_put hG hk (kz_10 hk) hq6) ?_
  refine ev_seg (o := 9) (nL := 6) (q := 153) (xs := [(.aload_n 0, 1, 0, 0, .null), (.getfield 12, 3, 9, 0, .ref 6), (.getfield 100, 3, 6, 8, .ref 3), (.iload 5, 2, 5, 0, .null), (.iconst 3, 1, 0, 0, .int 3), (.aload_n 0, 1, 0, 0, .null), (.getfield 12, 3, 9, 0, .ref 6), (.getfield 58, 3, 6, 6, .ref 3), (.iload_n 1, 1, 1, 0, .null), (.iconst 0, 1, 0, 0, .int 0)]) (L' := [some (.ref 2), some (.int x1), some (.int x2), some (.int x3), some (.int x4), some (.int q4.1)]) (st' := [.int 0, .int x1, .ref 6, .int 3, .int q4.1, .ref 10]) (w' := q6) (g := []) (K := [(6, 3), (3, 6), (3, 6), (2, 9), (10, 3), (3, 6), (3, 6), (2, 9)]) (by decide +kernel) rfl rfl rfl rfl (jk1 (kz_6 hk) (jk1 (kz_3 hk) (jk1 (kz_3 hk) (jk1 (kz_2 hk) (jk1 (kz_10 hk) (jk1 (kz_3 hk) (jk1 (kz_3 hk) (jk1 (kz_2 hk) jk0)))))))) ?_
  obtain ⟨q7, hq7, h⟩ := jbe h
  refine ev_callV (ci := 3) (a := 6) (y2 := y_Rows_at) (o := 9) (idx := 83) (d2 := d_Rows_at) (n := 2) (mc2 := 0) (ms2 := 0) (As := [.int x1, .int 0]) (st := [.int 3, .int q4.1, .ref 10]) (res2 := (some (.int q7.1), (jRx kk), q7.2)) (by decide +kernel) rfl lk_9_83 mo_Rows_at mv_Rows_at ⟨Nat.le_of_ble_eq_true rfl, Nat.le_of_ble_eq_true rfl⟩ rfl rfl (kz_6 hk) (by decide) rfl (Nat.le_of_ble_eq_true rfl) ⟨Nat.le_refl _, Nat.le_refl _⟩ hG (e_Rows_at hG hk (kz_6 hk) hq7) ?_
  obtain ⟨q8, hq8, h⟩ := jbe h
  refine ev_callV (ci := 3) (a := 10) (y2 := y_Rows_put) (o := 9) (idx := 72) (d2 := d_Rows_put) (n := 3) (mc2 := 0) (ms2 := 0) (As := [.int q4.1, .int 3, .int q7.1]) (st := []) (res2 := (none, (jRx kk), q8)) (by decide +kernel) rfl lk_9_72 mo_Rows_put mv_Rows_put ⟨Nat.le_of_ble_eq_true rfl, Nat.le_of_ble_eq_true rfl⟩ rfl rfl (kz_10 hk) (by decide) rfl (Nat.le_of_ble_eq_true rfl) ⟨Nat.le_refl _, Nat.le_refl _⟩ hG (e_Rows_put hG hk (kz_10 hk) hq8) ?_
  refine ev_seg (o := 9) (nL := 6) (q := 176) (xs := [(.aload_n 0, 1, 0, 0, .null), (.getfield 12, 3, 9, 0, .ref 6), (.getfield 100, 3, 6, 8, .ref 3), (.iload 5, 2, 5, 0, .null), (.iconst 4, 1, 0, 0, .int 4), (.aload_n 0, 1, 0, 0, .null), (.getfield 12, 3, 9, 0, .ref 6), (.getfield 119, 3, 6, 0, .int 0)]) (L' := [some (.ref 2), some (.int x1), some (.int x2), some (.int x3), some (.int x4), some (.int q4.1)]) (st' := [.int (q8.1 3 0), .int 4, .int q4.1, .ref 10]) (w' := q8) (g := []) (K := [(3, 6), (3, 6), (2, 9), (10, 3), (3, 6), (3, 6), (2, 9)]) (by decide +kernel) rfl rfl rfl rfl (jk1 (kz_3 hk) (jk1 (kz_3 hk) (jk1 (kz_2 hk) (jk1 (kz_10 hk) (jk1 (kz_3 hk) (jk1 (kz_3 hk) (jk1 (kz_2 hk) jk0))))))) ?_
  obtain ⟨q9, hq9, h⟩ := jbe h
  refine ev_callV (ci := 3) (a := 10) (y2 := y_Rows_put) (o := 9) (idx := 72) (d2 := d_Rows_put) (n := 3) (mc2 := 0) (ms2 := 0) (As := [.int q4.1, .int 4, .int (q8.1 3 0)]) (st := []) (res2 := (none, (jRx kk), q9)) (by decide +kernel) rfl lk_9_72 mo_Rows_put mv_Rows_put ⟨Nat.le_of_ble_eq_true rfl, Nat.le_of_ble_eq_true rfl⟩ rfl rfl (kz_10 hk) (by decide) rfl (Nat.le_of_ble_eq_true rfl) ⟨Nat.le_refl _, Nat.le_refl _⟩ hG (e_Rows_put hG hk (kz_10 hk) hq9) ?_
  refine ev_seg (o := 9) (nL := 6) (q := 191) (xs := [(.aload_n 0, 1, 0, 0, .null), (.getfield 12, 3, 9, 0, .ref 6), (.getfield 100, 3, 6, 8, .ref 3), (.iload 5, 2, 5, 0, .null), (.bipush 7, 2, 0, 0, .int 7), (.iload_n 1, 1, 1, 0, .null)]) (L' := [some (.ref 2), some (.int x1), some (.int x2), some (.int x3), some (.int x4), some (.int q4.1)]) (st' := [.int x1, .int 7, .int q4.1, .ref 10]) (w' := q9) (g := []) (K := [(10, 3), (3, 6), (3, 6), (2, 9)]) (by decide +kernel) rfl rfl rfl rfl (jk1 (kz_10 hk) (jk1 (kz_3 hk) (jk1 (kz_3 hk) (jk1 (kz_2 hk) jk0)))) ?_
  obtain ⟨q10, hq10, h⟩ := jbe h
  refine ev_callV (ci := 3) (a := 10) (y2 := y_Rows_put) (o := 9) (idx := 72) (d2 := d_Rows_put) (n := 3) (mc2 := 0) (ms2 := 0) (As := [.int q4.1, .int 7, .int x1]) (st := []) (res2 := (none, (jRx kk), q10)) (by decide +kernel) rfl lk_9_72 mo_Rows_put mv_Rows_put ⟨Nat.le_of_ble_eq_true rfl, Nat.le_of_ble_eq_true rfl⟩ rfl rfl (kz_10 hk) (by decide) rfl (Nat.le_of_ble_eq_true rfl) ⟨Nat.le_refl _, Nat.le_refl _⟩ hG (e_Rows_put hG hk (kz_10 hk) hq10) ?_
  refine ev_seg (o := 9) (nL := 6) (q := 206) (xs := [(.aload_n 0, 1, 0, 0, .null), (.getfield 12, 3, 9, 0, .ref 6), (.getfield 100, 3, 6, 8, .ref 3), (.iload 5, 2, 5, 0, .null), (.bipush 8, 2, 0, 0, .int 8), (.iconst (-1), 1, 0, 0, .int (-1))]) (L' := [some (.ref 2), some (.int x1), some (.int x2), some (.int x3), some (.int x4), some (.int q4.1)]) (st' := [.int (-1), .int 8, .int q4.1, .ref 10]) (w' := q10) (g := []) (K := [(10, 3), (3, 6), (3, 6), (2, 9)]) (by decide +kernel) rfl rfl rfl rfl (jk1 (kz_10 hk) (jk1 (kz_3 hk) (jk1 (kz_3 hk) (jk1 (kz_2 hk) jk0)))) ?_
  obtain ⟨q11, hq11, h⟩ := jbe h
  refine ev_callV (ci := 3) (a := 10) (y2 := y_Rows_put) (o := 9) (idx := 72) (d2 := d_Rows_put) (n := 3) (mc2 := 0) (ms2 := 0) (As := [.int q4.1, .int 8, .int (-1)]) (st := []) (res2 := (none, (jRx kk), q11)) (by decide +kernel) rfl lk_9_72 mo_Rows_put mv_Rows_put ⟨Nat.le_of_ble_eq_true rfl, Nat.le_of_ble_eq_true rfl⟩ rfl rfl (kz_10 hk) (by decide) rfl (Nat.le_of_ble_eq_true rfl) ⟨Nat.le_refl _, Nat.le_refl _⟩ hG (e_Rows_put hG hk (kz_10 hk) hq11) ?_
  refine ev_seg (o := 9) (nL := 6) (q := 221) (xs := [(.aload_n 0, 1, 0, 0, .null), (.getfield 12, 3, 9, 0, .ref 6), (.getfield 100, 3, 6, 8, .ref 3), (.iload 5, 2, 5, 0, .null), (.bipush 9, 2, 0, 0, .int 9), (.iconst (-1), 1, 0, 0, .int (-1))]) (L' := [some (.ref 2), some (.int x1), some (.int x2), some (.int x3), some (.int x4), some (.int q4.1)]) (st' := [.int (-1), .int 9, .int q4.1, .ref 10]) (w' := q11) (g := []) (K := [(10, 3), (3, 6), (3, 6), (2, 9)]) (by decide +kernel) rfl rfl rfl rfl (jk1 (kz_10 hk) (jk1 (kz_3 hk) (jk1 (kz_3 hk) (jk1 (kz_2 hk) jk0)))) ?_
  obtain ⟨q12, hq12, h⟩ := jbe h
  refine ev_callV (ci := 3) (a := 10) (y2 := y_Rows_put) (o := 9) (idx := 72) (d2 := d_Rows_put) (n := 3) (mc2 := 0) (ms2 := 0) (As := [.int q4.1, .int 9, .int (-1)]) (st := []) (res2 := (none, (jRx kk), q12)) (by decide +kernel) rfl lk_9_72 mo_Rows_put mv_Rows_put ⟨Nat.le_of_ble_eq_true rfl, Nat.le_of_ble_eq_true rfl⟩ rfl rfl (kz_10 hk) (by decide) rfl (Nat.le_of_ble_eq_true rfl) ⟨Nat.le_refl _, Nat.le_refl _⟩ hG (e_Rows_put hG hk (kz_10 hk) hq12) ?_
  refine ev_seg (o := 9) (nL := 6) (q := 236) (xs := [(.aload_n 0, 1, 0, 0, .null), (.getfield 12, 3, 9, 0, .ref 6), (.getfield 100, 3, 6, 8, .ref 3), (.iload 5, 2, 5, 0, .null), (.bipush 10, 2, 0, 0, .int 10), (.iconst (-1), 1, 0, 0, .int (-1))]) (L' := [some (.ref 2), some (.int x1), some (.int x2), some (.int x3), some (.int x4), some (.int q4.1)]) (st' := [.int (-1), .int 10, .int q4.1, .ref 10]) (w' := q12) (g := []) (K := [(10, 3), (3, 6), (3, 6), (2, 9)]) (by decide +kernel) rfl rfl rfl rfl (jk1 (kz_10 hk) (jk1 (kz_3 hk) (jk1 (kz_3 hk) (jk1 (kz_2 hk) jk0)))) ?_
  obtain ⟨q13, hq13, h⟩ := jbe h
  refine ev_callV (ci := 3) (a := 10) (y2 := y_Rows_put) (o := 9) (idx := 72) (d2 := d_Rows_put) (n := 3) (mc2 := 0) (ms2 := 0) (As := [.int q4.1, .int 10, .int (-1)]) (st := []) (res2 := (none, (jRx kk), q13)) (by decide +kernel) rfl lk_9_72 mo_Rows_put mv_Rows_put ⟨Nat.le_of_ble_eq_true rfl, Nat.le_of_ble_eq_true rfl⟩ rfl rfl (kz_10 hk) (by decide) rfl (Nat.le_of_ble_eq_true rfl) ⟨Nat.le_refl _, Nat.le_refl _⟩ hG (e_Rows_put hG hk (kz_10 hk) hq13) ?_
  refine ev_seg (o := 9) (nL := 6) (q := 253) (xs := [(.aload_n 0, 1, 0, 0, .null), (.getfield 12, 3, 9, 0, .ref 6), (.iconst 0, 1, 0, 0, .int 0), (.aload_n 0, 1, 0, 0, .null), (.getfield 12, 3, 9, 0, .ref 6), (.getfield 58, 3, 6, 6, .ref 3), (.iload_n 1, 1, 1, 0, .null), (.iconst 0, 1, 0, 0, .int 0)]) (L' := [some (.ref 2), some (.int x1), some (.int x2), some (.int x3), some (.int x4), some (.int q4.1)]) (st' := [.int 0, .int x1, .ref 6, .int 0, .ref 3]) (w' := q13) (g := []) (K := [(6, 3), (3, 6), (3, 6), (2, 9), (3, 6), (2, 9)]) (by decide +kernel) rfl rfl rfl rfl (jk1 (kz_6 hk) (jk1 (kz_3 hk) (jk1 (kz_3 hk) (jk1 (kz_2 hk) (jk1 (kz_3 hk) (jk1 (kz_2 hk) jk0)))))) ?_
  obtain ⟨q14, hq14, h⟩ := jbe h
  refine ev_callV (ci := 3) (a := 6) (y2 := y_Rows_at) (o := 9) (idx := 83) (d2 := d_Rows_at) (n := 2) (mc2 := 0) (ms2 := 0) (As := [.int x1, .int 0]) (st := [.int 0, .ref 3]) (res2 := (some (.int q14.1), (jRx kk), q14.2)) (by decide +kernel) rfl lk_9_83 mo_Rows_at mv_Rows_at ⟨Nat.le_of_ble_eq_true rfl, Nat.le_of_ble_eq_true rfl⟩ rfl rfl (kz_6 hk) (by decide) rfl (Nat.le_of_ble_eq_true rfl) ⟨Nat.le_refl _, Nat.le_refl _⟩ hG (e_Rows_at hG hk (kz_6 hk) hq14) ?_
  refine ev_seg (o := 9) (nL := 6) (q := 260) (xs := [(.iload 5, 2, 5, 0, .null), (.iload 5, 2, 5, 0, .null)]) (L' := [some (.ref 2), some (.int x1), some (.int x2), some (.int x3), some (.int x4), some (.int q4.1)]) (st' := [.int q4.1, .int q4.1, .int q14.1, .int 0, .ref 3]) (w' := q14.2) (g := []) (K := []) (by decide +kernel) rfl rfl rfl rfl jk0 ?_
  obtain ⟨q15, hq15, h⟩ := jbe h
  refine ev_callV (ci := 6) (a := 3) (y2 := y_State_addAct) (o := 9) (idx := 122) (d2 := d_State_addAct) (n := 4) (mc2 := 0) (ms2 := 0) (As := [.int 0, .int q14.1, .int q4.1, .int q4.1]) (st := []) (res2 := (none, (jRx kk), q15)) (by decide +kernel) rfl lk_9_122 mo_State_addAct mv_State_addAct ⟨Nat.le_of_ble_eq_true rfl, Nat.le_of_ble_eq_true rfl⟩ rfl rfl (kz_3 hk) (by decide) rfl (Nat.le_of_ble_eq_true rfl) ⟨Nat.le_refl _, Nat.le_refl _⟩ hG (e_State_addAct hG hk hq15) ?_
  refine ev_seg (o := 9) (nL := 6) (q := 265) (xs := [(.iload 5, 2, 5, 0, .null)]) (L' := [some (.ref 2), some (.int x1), some (.int x2), some (.int x3), some (.int x4), some (.int q4.1)]) (st' := [.int q4.1]) (w' := q15) (g := []) (K := []) (by decide +kernel) rfl rfl rfl rfl jk0 ?_
  cases h
  exact ev_iret (by decide +kernel) rfl rfl rfl rfl
def f_Count_make (x1 : Int32) (x2 : Int32) (x3 : Int32) (x4 : Int32) (w : jW) : Option (Int32 × jW) :=
  Option.bind (f_Rows_has 6 x1 w) fun q1 =>
  if q1.1 = 0 then
    some ((-1), q1.2)
  else
    Option.bind (f_State_isSort x2 q1.2) fun q2 =>
    if q2.1 = 0 then
      some ((-1), q2.2)
    else
      Option.bind (f_Rows_isFull 10 q2.2) fun q3 =>
      if q3.1 = 0 then
        if x3 < 1 then
          some ((-1), q3.2)
        else
          if x3 ≤ 200 then
            if x4 < 1 then
              some ((-1), q3.2)
            else
              if x4 ≤ 500 then
                if (q3.2.1 3 0) ≤ 0 then
                  f_Count_make_j92 x1 x2 x3 x4 q3.2
                else
                  Option.bind (f_Rows_at 6 x1 1 q3.2) fun q16 =>
                  if q16.1 = 1 then
                    f_Count_make_j92 x1 x2 x3 x4 q16.2
                  else
                    some ((-1), q16.2)
              else
                some ((-1), q3.2)
          else
            some ((-1), q3.2)
      else
        some ((-1), q3.2)
set_option maxRecDepth 20000 in
theorem e_Count_make {l : Launch} {G : jG} (hG : jX G) {kk : Nat} (hk : 93 ≤ kk) {x1 : Int32} {x2 : Int32} {x3 : Int32} {x4 : Int32} {w : jW} {z : (Int32 × jW)} (h : f_Count_make x1 x2 x3 x4 w = some z) : Ct l G y_Count_make d_Count_make 0 0 [.ref 2, .int x1, .int x2, .int x3, .int x4] (jRx kk) w (some (.int z.1), (jRx kk), z.2) := by
  rw [f_Count_make] at h
  refine Ct.of (L := [some (.ref 2), some (.int x1), some (.int x2), some (.int x3), some (.int x4), none]) (by decide) (Nat.le_of_ble_eq_true rfl) rfl ?_
  refine ev_seg (o := 9) (nL := 6) (q := 8) (xs := [(.aload_n 0, 1, 0, 0, .null), (.getfield 12, 3, 9, 0, .ref 6), (.getfield 58, 3, 6, 6, .ref 3), (.iload_n 1, 1, 1, 0, .null)]) (L' := [some (.ref 2), some (.int x1), some (.int x2), some (.int x3), some (.int x4), none]) (st' := [.int x1, .ref 6]) (w' := w) (g := []) (K := [(6, 3), (3, 6), (3, 6), (2, 9)]) (by decide +kernel) rfl rfl rfl rfl (jk1 (kz_6 hk) (jk1 (kz_3 hk) (jk1 (kz_3 hk) (jk1 (kz_2 hk) jk0)))) ?_
  obtain ⟨q1, hq1, h⟩ := jbe h
  refine ev_callV (ci := 3) (a := 6) (y2 := y_Rows_has) (o := 9) (idx := 80) (d2 := d_Rows_has) (n := 1) (mc2 := 0) (ms2 := 0) (As := [.int x1]) (st := []) (res2 := (some (.int q1.1), (jRx kk), q1.2)) (by decide +kernel) rfl lk_9_80 mo_Rows_has mv_Rows_has ⟨Nat.le_of_ble_eq_true rfl, Nat.le_of_ble_eq_true rfl⟩ rfl rfl (kz_6 hk) (by decide) rfl (Nat.le_of_ble_eq_true rfl) ⟨Nat.le_refl _, Nat.le_refl _⟩ hG (e_Rows_has hG hk (kz_6 hk) hq1) ?_
  refine ev_if_eq (off := 23) (tgt := 34) (by decide +kernel) (by decide) (fun c25 => ?_) (fun c25 => ?_)
  · replace h := jpos c25 h
    refine ev_seg (o := 9) (nL := 6) (q := 35) (xs := [(.iconst (-1), 1, 0, 0, .int (-1))]) (L' := [some (.ref 2), some (.int x1), some (.int x2), some (.int x3), some (.int x4), none]) (st' := [.int (-1)]) (w' := q1.2) (g := []) (K := []) (by decide +kernel) rfl rfl rfl rfl jk0 ?_
    cases h
    exact ev_iret (by decide +kernel) rfl rfl rfl rfl
  · replace h := jneg c25 h
    refine ev_seg (o := 9) (nL := 6) (q := 15) (xs := [(.iload_n 2, 1, 2, 0, .null)]) (L' := [some (.ref 2), some (.int x1), some (.int x2), some (.int x3), some (.int x4), none]) (st' := [.int x2]) (w' := q1.2) (g := []) (K := []) (by decide +kernel) rfl rfl rfl rfl jk0 ?_
    obtain ⟨q2, hq2, h⟩ := jbe h
    refine ev_callS (y2 := y_State_isSort) (o := 9) (idx := 97) (d2 := d_State_isSort) (n := 1) (mc2 := 0) (ms2 := 0) (As := [.int x2]) (st := []) (res2 := (some (.int q2.1), (jRx kk), q2.2)) (by decide +kernel) rfl lk_9_97 mo_State_isSort ms_State_isSort ⟨Nat.le_of_ble_eq_true rfl, Nat.le_of_ble_eq_true rfl⟩ rfl rfl (Nat.le_of_ble_eq_true rfl) ⟨Nat.le_refl _, Nat.le_refl _⟩ hG (e_State_isSort hG hk hq2) ?_
    refine ev_if_eq (off := 16) (tgt := 34) (by decide +kernel) (by decide) (fun c24 => ?_) (fun c24 => ?_)
    · replace h := jpos c24 h
      refine ev_seg (o := 9) (nL := 6) (q := 35) (xs := [(.iconst (-1), 1, 0, 0, .int (-1))]) (L' := [some (.ref 2), some (.int x1), some (.int x2), some (.int x3), some (.int x4), none]) (st' := [.int (-1)]) (w' := q2.2) (g := []) (K := []) (by decide +kernel) rfl rfl rfl rfl jk0 ?_
      cases h
      exact ev_iret (by decide +kernel) rfl rfl rfl rfl
    · replace h := jneg c24 h
      refine ev_seg (o := 9) (nL := 6) (q := 28) (xs := [(.aload_n 0, 1, 0, 0, .null), (.getfield 12, 3, 9, 0, .ref 6), (.getfield 100, 3, 6, 8, .ref 3)]) (L' := [some (.ref 2), some (.int x1), some (.int x2), some (.int x3), some (.int x4), none]) (st' := [.ref 10]) (w' := q2.2) (g := []) (K := [(10, 3), (3, 6), (3, 6), (2, 9)]) (by decide +kernel) rfl rfl rfl rfl (jk1 (kz_10 hk) (jk1 (kz_3 hk) (jk1 (kz_3 hk) (jk1 (kz_2 hk) jk0)))) ?_
      obtain ⟨q3, hq3, h⟩ := jbe h
      refine ev_callV (ci := 3) (a := 10) (y2 := y_Rows_isFull) (o := 9) (idx := 62) (d2 := d_Rows_isFull) (n := 0) (mc2 := 0) (ms2 := 0) (As := []) (st := []) (res2 := (some (.int q3.1), (jRx kk), q3.2)) (by decide +kernel) rfl lk_9_62 mo_Rows_isFull mv_Rows_isFull ⟨Nat.le_of_ble_eq_true rfl, Nat.le_of_ble_eq_true rfl⟩ rfl rfl (kz_10 hk) (by decide) rfl (Nat.le_of_ble_eq_true rfl) ⟨Nat.le_refl _, Nat.le_refl _⟩ hG (e_Rows_isFull hG hk (kz_10 hk) hq3) ?_
      refine ev_if_eq (off := 5) (tgt := 36) (by decide +kernel) (by decide) (fun c23 => ?_) (fun c23 => ?_)
      · replace h := jpos c23 h
        refine ev_seg (o := 9) (nL := 6) (q := 38) (xs := [(.iload_n 3, 1, 3, 0, .null), (.iconst 1, 1, 0, 0, .int 1)]) (L' := [some (.ref 2), some (.int x1), some (.int x2), some (.int x3), some (.int x4), none]) (st' := [.int 1, .int x3]) (w' := q3.2) (g := []) (K := []) (by decide +kernel) rfl rfl rfl rfl jk0 ?_
        refine ev_icmp_lt (off := 24) (tgt := 62) (by decide +kernel) (by decide) (fun c22 => ?_) (fun c22 => ?_)
        · replace h := jpos c22 h
          refine ev_seg (o := 9) (nL := 6) (q := 63) (xs := [(.iconst (-1), 1, 0, 0, .int (-1))]) (L' := [some (.ref 2), some (.int x1), some (.int x2), some (.int x3), some (.int x4), none]) (st' := [.int (-1)]) (w' := q3.2) (g := []) (K := []) (by decide +kernel) rfl rfl rfl rfl jk0 ?_
          cases h
          exact ev_iret (by decide +kernel) rfl rfl rfl rfl
        · replace h := jneg c22 h
          refine ev_seg (o := 9) (nL := 6) (q := 45) (xs := [(.iload_n 3, 1, 3, 0, .null), (.sipush 200, 3, 0, 0, .int 200)]) (L' := [some (.ref 2), some (.int x1), some (.int x2), some (.int x3), some (.int x4), none]) (st' := [.int 200, .int x3]) (w' := q3.2) (g := []) (K := []) (by decide +kernel) rfl rfl rfl rfl jk0 ?_
          refine ev_icmp_gt (off := 17) (tgt := 62) (by decide +kernel) (by decide) (fun c21 => ?_) (fun c21 => ?_)
          · replace h := jneg c21 h
            refine ev_seg (o := 9) (nL := 6) (q := 63) (xs := [(.iconst (-1), 1, 0, 0, .int (-1))]) (L' := [some (.ref 2), some (.int x1), some (.int x2), some (.int x3), some (.int x4), none]) (st' := [.int (-1)]) (w' := q3.2) (g := []) (K := []) (by decide +kernel) rfl rfl rfl rfl jk0 ?_
            cases h
            exact ev_iret (by decide +kernel) rfl rfl rfl rfl
          · replace h := jpos c21 h
            refine ev_seg (o := 9) (nL := 6) (q := 51) (xs := [(.iload 4, 2, 4, 0, .null), (.iconst 1, 1, 0, 0, .int 1)]) (L' := [some (.ref 2), some (.int x1), some (.int x2), some (.int x3), some (.int x4), none]) (st' := [.int 1, .int x4]) (w' := q3.2) (g := []) (K := []) (by decide +kernel) rfl rfl rfl rfl jk0 ?_
            refine ev_icmp_lt (off := 11) (tgt := 62) (by decide +kernel) (by decide) (fun c20 => ?_) (fun c20 => ?_)
            · replace h := jpos c20 h
              refine ev_seg (o := 9) (nL := 6) (q := 63) (xs := [(.iconst (-1), 1, 0, 0, .int (-1))]) (L' := [some (.ref 2), some (.int x1), some (.int x2), some (.int x3), some (.int x4), none]) (st' := [.int (-1)]) (w' := q3.2) (g := []) (K := []) (by decide +kernel) rfl rfl rfl rfl jk0 ?_
              cases h
              exact ev_iret (by decide +kernel) rfl rfl rfl rfl
            · replace h := jneg c20 h
              refine ev_seg (o := 9) (nL := 6) (q := 59) (xs := [(.iload 4, 2, 4, 0, .null), (.sipush 500, 3, 0, 0, .int 500)]) (L' := [some (.ref 2), some (.int x1), some (.int x2), some (.int x3), some (.int x4), none]) (st' := [.int 500, .int x4]) (w' := q3.2) (g := []) (K := []) (by decide +kernel) rfl rfl rfl rfl jk0 ?_
              refine ev_icmp_le (off := 5) (tgt := 64) (by decide +kernel) (by decide) (fun c19 => ?_) (fun c19 => ?_)
              · replace h := jpos c19 h
                refine ev_seg (o := 9) (nL := 6) (q := 71) (xs := [(.aload_n 0, 1, 0, 0, .null), (.getfield 12, 3, 9, 0, .ref 6), (.getfield 119, 3, 6, 0, .int 0)]) (L' := [some (.ref 2), some (.int x1), some (.int x2), some (.int x3), some (.int x4), none]) (st' := [.int (q3.2.1 3 0)]) (w' := q3.2) (g := []) (K := [(3, 6), (3, 6), (2, 9)]) (by decide +kernel) rfl rfl rfl rfl (jk1 (kz_3 hk) (jk1 (kz_3 hk) (jk1 (kz_2 hk) jk0))) ?_
                refine ev_if_le (off := 21) (tgt := 92) (by decide +kernel) (by decide) (fun c18 => ?_) (fun c18 => ?_)
                · replace h := jpos c18 h
                  refine ev_mask [true, true, true, true, true, false] ?_
                  exact t_Count_make_j92 hG hk h
                · replace h := jneg c18 h
                  refine ev_seg (o := 9) (nL := 6) (q := 83) (xs := [(.aload_n 0, 1, 0, 0, .null), (.getfield 12, 3, 9, 0, .ref 6), (.getfield 58, 3, 6, 6, .ref 3), (.iload_n 1, 1, 1, 0, .null), (.iconst 1, 1, 0, 0, .int 1)]) (L' := [some (.ref 2), some (.int x1), some (.int x2), some (.int x3), some (.int x4), none]) (st' := [.int 1, .int x1, .ref 6]) (w' := q3.2) (g := []) (K := [(6, 3), (3, 6), (3, 6), (2, 9)]) (by decide +kernel) rfl rfl rfl rfl (jk1 (kz_6 hk) (jk1 (kz_3 hk) (jk1 (kz_3 hk) (jk1 (kz_2 hk) jk0)))) ?_
                  obtain ⟨q16, hq16, h⟩ := jbe h
                  refine ev_callV (ci := 3) (a := 6) (y2 := y_Rows_at) (o := 9) (idx := 83) (d2 := d_Rows_at) (n := 2) (mc2 := 0) (ms2 := 0) (As := [.int x1, .int 1]) (st := []) (res2 := (some (.int q16.1), (jRx kk), q16.2)) (by decide +kernel) rfl lk_9_83 mo_Rows_at mv_Rows_at ⟨Nat.le_of_ble_eq_true rfl, Nat.le_of_ble_eq_true rfl⟩ rfl rfl (kz_6 hk) (by decide) rfl (Nat.le_of_ble_eq_true rfl) ⟨Nat.le_refl _, Nat.le_refl _⟩ hG (e_Rows_at hG hk (kz_6 hk) hq16) ?_
                  refine ev_seg (o := 9) (nL := 6) (q := 87) (xs := [(.iconst 1, 1, 0, 0, .int 1)]) (L' := [some (.ref 2), some (.int x1), some (.int x2), some (.int x3), some (.int x4), none]) (st' := [.int 1, .int q16.1]) (w' := q16.2) (g := []) (K := []) (by decide +kernel) rfl rfl rfl rfl jk0 ?_
                  refine ev_icmp_eq (off := 5) (tgt := 92) (by decide +kernel) (by decide) (fun c17 => ?_) (fun c17 => ?_)
                  · replace h := jpos c17 h
                    refine ev_mask [true, true, true, true, true, false] ?_
                    exact t_Count_make_j92 hG hk h
                  · replace h := jneg c17 h
                    refine ev_seg (o := 9) (nL := 6) (q := 91) (xs := [(.iconst (-1), 1, 0, 0, .int (-1))]) (L' := [some (.ref 2), some (.int x1), some (.int x2), some (.int x3), some (.int x4), none]) (st' := [.int (-1)]) (w' := q16.2) (g := []) (K := []) (by decide +kernel) rfl rfl rfl rfl jk0 ?_
                    cases h
                    exact ev_iret (by decide +kernel) rfl rfl rfl rfl
              · replace h := jneg c19 h
                refine ev_seg (o := 9) (nL := 6) (q := 63) (xs := [(.iconst (-1), 1, 0, 0, .int (-1))]) (L' := [some (.ref 2), some (.int x1), some (.int x2), some (.int x3), some (.int x4), none]) (st' := [.int (-1)]) (w' := q3.2) (g := []) (K := []) (by decide +kernel) rfl rfl rfl rfl jk0 ?_
                cases h
                exact ev_iret (by decide +kernel) rfl rfl rfl rfl
      · replace h := jneg c23 h
        refine ev_seg (o := 9) (nL := 6) (q := 35) (xs := [(.iconst (-1), 1, 0, 0, .int (-1))]) (L' := [some (.ref 2), some (.int x1), some (.int x2), some (.int x3), some (.int x4), none]) (st' := [.int (-1)]) (w' := q3.2) (g := []) (K := []) (by decide +kernel) rfl rfl rfl rfl jk0 ?_
        cases h
        exact ev_iret (by decide +kernel) rfl rfl rfl rfl
def f_State_placeOn_j130 (x1 : Int32) (w : jW) : Option (Int32 × jW) :=
  Option.bind (f_Rows_at 10 x1 7 w) fun q4 =>
  some (q4.1, q4.2)
set_option maxRecDepth 20000 in
theorem t_State_placeOn_j130 {l : Launch} {G : jG} (hG : jX G) {kk : Nat} (hk : 93 ≤ kk) {x1 : Int32} {w : jW} {z : (Int32 × jW)} (h : f_State_placeOn_j130 x1 w = some z) : Ev l G (jrm d_State_placeOn 0 0) y_State_placeOn (some (.int z.1), (jRx kk), z.2) 0 0 0 0 130 [some (.ref 3), some (.int x1), none, none, none, none] [] (jRx kk) w := by
  rw [f_State_placeOn_j130] at h
  refine ev_seg (o := 6) (nL := 6) (q := 137) (xs := [(.aload_n 0, 1, 0, 0, .null), (.getfield 42, 3, 6, 8, .ref 3), (.iload_n 1, 1, 1, 0, .null), (.bipush 7, 2, 0, 0, .int 7)]) (L' := [some (.ref 3), some (.int x1), none, none, none, none]) (st' := [.int 7, .int x1, .ref 10]) (w' := w) (g := []) (K := [(10, 3), (3, 6)]) (by decide +kernel) rfl rfl rfl rfl (jk1 (kz_10 hk) (jk1 (kz_3 hk) jk0)) ?_
  obtain ⟨q4, hq4, h⟩ := jbe h
  refine ev_callV (ci := 3) (a := 10) (y2 := y_Rows_at) (o := 6) (idx := 91) (d2 := d_Rows_at) (n := 2) (mc2 := 0) (ms2 := 0) (As := [.int x1, .int 7]) (st := []) (res2 := (some (.int q4.1), (jRx kk), q4.2)) (by decide +kernel) rfl lk_6_91 mo_Rows_at mv_Rows_at ⟨Nat.le_of_ble_eq_true rfl, Nat.le_of_ble_eq_true rfl⟩ rfl rfl (kz_10 hk) (by decide) rfl (Nat.le_of_ble_eq_true rfl) ⟨Nat.le_refl _, Nat.le_refl _⟩ hG (e_Rows_at hG hk (kz_10 hk) hq4) ?_
  cases h
  exact ev_iret (by decide +kernel) rfl rfl rfl rfl
def f_State_placeOn_h55 : Nat → Int32 → Int32 → Int32 → Int32 → jW → Option (Int32 × jW)
  | 0, _, _, _, _, _ => none
  | n + 1, x1, x2, x4, x5, w =>
  if x5 < 100 then
    if x4 = (-1) then
      f_State_placeOn_j130 x1 w
    else
      Option.bind (f_Rows_at 12 x4 3 w) fun q5 =>
      if q5.1 ≤ x2 then
        Option.bind (f_Rows_at 12 x4 4 q5.2) fun q7 =>
        if x2 < q7.1 then
          some (100, q7.2)
        else
          Option.bind (f_Rows_at 12 x4 2 q7.2) fun q8 =>
          some (q8.1, q8.2)
      else
        Option.bind (f_Rows_at 12 x4 5 q5.2) fun q6 =>
        (f_State_placeOn_h55 n) x1 x2 q6.1 (x5 + 1) q6.2
  else
    f_State_placeOn_j130 x1 w
set_option maxRecDepth 20000 in
theorem t_State_placeOn_h55 {l : Launch} {G : jG} (hG : jX G) {kk : Nat} (hk : 93 ≤ kk) : ∀ (n : Nat) (x1 : Int32) (x2 : Int32) (x4 : Int32) (x5 : Int32) (w : jW) (z : (Int32 × jW)), f_State_placeOn_h55 n x1 x2 x4 x5 w = some z → Ev l G (jrm d_State_placeOn 0 0) y_State_placeOn (some (.int z.1), (jRx kk), z.2) 0 0 0 0 55 [some (.ref 3), some (.int x1), some (.int x2), none, some (.int x4), some (.int x5)] [] (jRx kk) w := by
  intro n
  induction n with
  | zero => intro x1 x2 x4 x5 w z h; simp only [f_State_placeOn_h55] at h; cases h
  | succ n ih =>
    intro x1 x2 x4 x5 w z h
    rw [f_State_placeOn_h55] at h
    refine ev_seg (o := 6) (nL := 6) (q := 59) (xs := [(.iload 5, 2, 5, 0, .null), (.bipush 100, 2, 0, 0, .int 100)]) (L' := [some (.ref 3), some (.int x1), some (.int x2), none, some (.int x4), some (.int x5)]) (st' := [.int 100, .int x5]) (w' := w) (g := []) (K := []) (by decide +kernel) rfl rfl rfl rfl jk0 ?_
    refine ev_icmp_ge (off := 71) (tgt := 130) (by decide +kernel) (by decide) (fun c12 => ?_) (fun c12 => ?_)
    · replace h := jneg c12 h
      refine ev_mask [true, true, false, false, false, false] ?_
      exact t_State_placeOn_j130 hG hk h
    · replace h := jpos c12 h
      refine ev_seg (o := 6) (nL := 6) (q := 65) (xs := [(.iload 4, 2, 4, 0, .null), (.iconst (-1), 1, 0, 0, .int (-1))]) (L' := [some (.ref 3), some (.int x1), some (.int x2), none, some (.int x4), some (.int x5)]) (st' := [.int (-1), .int x4]) (w' := w) (g := []) (K := []) (by decide +kernel) rfl rfl rfl rfl jk0 ?_
      refine ev_icmp_eq (off := 65) (tgt := 130) (by decide +kernel) (by decide) (fun c11 => ?_) (fun c11 => ?_)
      · replace h := jpos c11 h
        refine ev_mask [true, true, false, false, false, false] ?_
        exact t_State_placeOn_j130 hG hk h
      · replace h := jneg c11 h
        refine ev_seg (o := 6) (nL := 6) (q := 75) (xs := [(.aload_n 0, 1, 0, 0, .null), (.getfield 45, 3, 6, 9, .ref 3), (.iload 4, 2, 4, 0, .null), (.iconst 3, 1, 0, 0, .int 3)]) (L' := [some (.ref 3), some (.int x1), some (.int x2), none, some (.int x4), some (.int x5)]) (st' := [.int 3, .int x4, .ref 12]) (w' := w) (g := []) (K := [(12, 3), (3, 6)]) (by decide +kernel) rfl rfl rfl rfl (jk1 (kz_12 hk) (jk1 (kz_3 hk) jk0)) ?_
        obtain ⟨q5, hq5, h⟩ := jbe h
        refine ev_callV (ci := 3) (a := 12) (y2 := y_Rows_at) (o := 6) (idx := 91) (d2 := d_Rows_at) (n := 2) (mc2 := 0) (ms2 := 0) (As := [.int x4, .int 3]) (st := []) (res2 := (some (.int q5.1), (jRx kk), q5.2)) (by decide +kernel) rfl lk_6_91 mo_Rows_at mv_Rows_at ⟨Nat.le_of_ble_eq_true rfl, Nat.le_of_ble_eq_true rfl⟩ rfl rfl (kz_12 hk) (by decide) rfl (Nat.le_of_ble_eq_true rfl) ⟨Nat.le_refl _, Nat.le_refl _⟩ hG (e_Rows_at hG hk (kz_12 hk) hq5) ?_
        refine ev_seg (o := 6) (nL := 6) (q := 79) (xs := [(.iload_n 2, 1, 2, 0, .null)]) (L' := [some (.ref 3), some (.int x1), some (.int x2), none, some (.int x4), some (.int x5)]) (st' := [.int x2, .int q5.1]) (w' := q5.2) (g := []) (K := []) (by decide +kernel) rfl rfl rfl rfl jk0 ?_
        refine ev_icmp_gt (off := 33) (tgt := 112) (by decide +kernel) (by decide) (fun c10 => ?_) (fun c10 => ?_)
        · replace h := jneg c10 h
          refine ev_seg (o := 6) (nL := 6) (q := 119) (xs := [(.aload_n 0, 1, 0, 0, .null), (.getfield 45, 3, 6, 9, .ref 3), (.iload 4, 2, 4, 0, .null), (.iconst 5, 1, 0, 0, .int 5)]) (L' := [some (.ref 3), some (.int x1), some (.int x2), none, some (.int x4), some (.int x5)]) (st' := [.int 5, .int x4, .ref 12]) (w' := q5.2) (g := []) (K := [(12, 3), (3, 6)]) (by decide +kernel) rfl rfl rfl rfl (jk1 (kz_12 hk) (jk1 (kz_3 hk) jk0)) ?_
          obtain ⟨q6, hq6, h⟩ := jbe h
          refine ev_callV (ci := 3) (a := 12) (y2 := y_Rows_at) (o := 6) (idx := 91) (d2 := d_Rows_at) (n := 2) (mc2 := 0) (ms2 := 0) (As := [.int x4, .int 5]) (st := []) (res2 := (some (.int q6.1), (jRx kk), q6.2)) (by decide +kernel) rfl lk_6_91 mo_Rows_at mv_Rows_at ⟨Nat.le_of_ble_eq_true rfl, Nat.le_of_ble_eq_true rfl⟩ rfl rfl (kz_12 hk) (by decide) rfl (Nat.le_of_ble_eq_true rfl) ⟨Nat.le_refl _, Nat.le_refl _⟩ hG (e_Rows_at hG hk (kz_12 hk) hq6) ?_
          refine ev_seg (o := 6) (nL := 6) (q := 55) (xs := [(.istore 4, 2, 4, 0, .null), (.iinc 5 1, 3, 5, 0, .int 1), (.goto (-72), 3, 0, 0, .null)]) (L' := [some (.ref 3), some (.int x1), some (.int x2), none, some (.int q6.1), some (.int (x5 + 1))]) (st' := []) (w' := q6.2) (g := []) (K := []) (by decide +kernel) rfl rfl rfl rfl jk0 ?_
          refine ev_mask [true, true, true, false, true, true] ?_
          exact ih _ _ _ _ _ _ h
        · replace h := jpos c10 h
          refine ev_seg (o := 6) (nL := 6) (q := 90) (xs := [(.iload_n 2, 1, 2, 0, .null), (.aload_n 0, 1, 0, 0, .null), (.getfield 45, 3, 6, 9, .ref 3), (.iload 4, 2, 4, 0, .null), (.iconst 4, 1, 0, 0, .int 4)]) (L' := [some (.ref 3), some (.int x1), some (.int x2), none, some (.int x4), some (.int x5)]) (st' := [.int 4, .int x4, .ref 12, .int x2]) (w' := q5.2) (g := []) (K := [(12, 3), (3, 6)]) (by decide +kernel) rfl rfl rfl rfl (jk1 (kz_12 hk) (jk1 (kz_3 hk) jk0)) ?_
          obtain ⟨q7, hq7, h⟩ := jbe h
          refine ev_callV (ci := 3) (a := 12) (y2 := y_Rows_at) (o := 6) (idx := 91) (d2 := d_Rows_at) (n := 2) (mc2 := 0) (ms2 := 0) (As := [.int x4, .int 4]) (st := [.int x2]) (res2 := (some (.int q7.1), (jRx kk), q7.2)) (by decide +kernel) rfl lk_6_91 mo_Rows_at mv_Rows_at ⟨Nat.le_of_ble_eq_true rfl, Nat.le_of_ble_eq_true rfl⟩ rfl rfl (kz_12 hk) (by decide) rfl (Nat.le_of_ble_eq_true rfl) ⟨Nat.le_refl _, Nat.le_refl _⟩ hG (e_Rows_at hG hk (kz_12 hk) hq7) ?_
          refine ev_icmp_ge (off := 8) (tgt := 101) (by decide +kernel) (by decide) (fun c9 => ?_) (fun c9 => ?_)
          · replace h := jneg c9 h
            refine ev_seg (o := 6) (nL := 6) (q := 108) (xs := [(.aload_n 0, 1, 0, 0, .null), (.getfield 45, 3, 6, 9, .ref 3), (.iload 4, 2, 4, 0, .null), (.iconst 2, 1, 0, 0, .int 2)]) (L' := [some (.ref 3), some (.int x1), some (.int x2), none, some (.int x4), some (.int x5)]) (st' := [.int 2, .int x4, .ref 12]) (w' := q7.2) (g := []) (K := [(12, 3), (3, 6)]) (by decide +kernel) rfl rfl rfl rfl (jk1 (kz_12 hk) (jk1 (kz_3 hk) jk0)) ?_
            obtain ⟨q8, hq8, h⟩ := jbe h
            refine ev_callV (ci := 3) (a := 12) (y2 := y_Rows_at) (o := 6) (idx := 91) (d2 := d_Rows_at) (n := 2) (mc2 := 0) (ms2 := 0) (As := [.int x4, .int 2]) (st := []) (res2 := (some (.int q8.1), (jRx kk), q8.2)) (by decide +kernel) rfl lk_6_91 mo_Rows_at mv_Rows_at ⟨Nat.le_of_ble_eq_true rfl, Nat.le_of_ble_eq_true rfl⟩ rfl rfl (kz_12 hk) (by decide) rfl (Nat.le_of_ble_eq_true rfl) ⟨Nat.le_refl _, Nat.le_refl _⟩ hG (e_Rows_at hG hk (kz_12 hk) hq8) ?_
            cases h
            exact ev_iret (by decide +kernel) rfl rfl rfl rfl
          · replace h := jpos c9 h
            refine ev_seg (o := 6) (nL := 6) (q := 111) (xs := [(.bipush 100, 2, 0, 0, .int 100), (.goto 13, 3, 0, 0, .null)]) (L' := [some (.ref 3), some (.int x1), some (.int x2), none, some (.int x4), some (.int x5)]) (st' := [.int 100]) (w' := q7.2) (g := []) (K := []) (by decide +kernel) rfl rfl rfl rfl jk0 ?_
            cases h
            exact ev_iret (by decide +kernel) rfl rfl rfl rfl
def f_State_placeOn_j40 (x1 : Int32) (x2 : Int32) (w : jW) : Option (Int32 × jW) :=
  Option.bind (f_Rows_at 10 x1 8 w) fun q3 =>
  f_State_placeOn_h55 jfu x1 x2 q3.1 0 q3.2
set_option maxRecDepth 20000 in
theorem t_State_placeOn_j40 {l : Launch} {G : jG} (hG : jX G) {kk : Nat} (hk : 93 ≤ kk) {x1 : Int32} {x2 : Int32} {w : jW} {z : (Int32 × jW)} (h : f_State_placeOn_j40 x1 x2 w = some z) : Ev l G (jrm d_State_placeOn 0 0) y_State_placeOn (some (.int z.1), (jRx kk), z.2) 0 0 0 0 40 [some (.ref 3), some (.int x1), some (.int x2), none, none, none] [] (jRx kk) w := by
  rw [f_State_placeOn_j40] at h
  refine ev_seg (o := 6) (nL := 6) (q := 47) (xs := [(.aload_n 0, 1, 0, 0, .null), (.getfield 42, 3, 6, 8, .ref 3), (.iload_n 1, 1, 1, 0, .null), (.bipush 8, 2, 0, 0, .int 8)]) (L' := [some (.ref 3), some (.int x1), some (.int x2), none, none, none]) (st' := [.int 8, .int x1, .ref 10]) (w' := w) (g := []) (K := [(10, 3), (3, 6)]) (by decide +kernel) rfl rfl rfl rfl (jk1 (kz_10 hk) (jk1 (kz_3 hk) jk0)) ?_
  obtain ⟨q3, hq3, h⟩ := jbe h
  refine ev_callV (ci := 3) (a := 10) (y2 := y_Rows_at) (o := 6) (idx := 91) (d2 := d_Rows_at) (n := 2) (mc2 := 0) (ms2 := 0) (As := [.int x1, .int 8]) (st := []) (res2 := (some (.int q3.1), (jRx kk), q3.2)) (by decide +kernel) rfl lk_6_91 mo_Rows_at mv_Rows_at ⟨Nat.le_of_ble_eq_true rfl, Nat.le_of_ble_eq_true rfl⟩ rfl rfl (kz_10 hk) (by decide) rfl (Nat.le_of_ble_eq_true rfl) ⟨Nat.le_refl _, Nat.le_refl _⟩ hG (e_Rows_at hG hk (kz_10 hk) hq3) ?_
  refine ev_seg (o := 6) (nL := 6) (q := 55) (xs := [(.istore 4, 2, 4, 0, .null), (.iconst 0, 1, 0, 0, .int 0), (.istore 5, 2, 5, 0, .null)]) (L' := [some (.ref 3), some (.int x1), some (.int x2), none, some (.int q3.1), some (.int 0)]) (st' := []) (w' := q3.2) (g := []) (K := []) (by decide +kernel) rfl rfl rfl rfl jk0 ?_
  refine ev_mask [true, true, true, false, true, true] ?_
  exact t_State_placeOn_h55 hG hk jfu _ _ _ _ _ _ h
def f_State_placeOn (x1 : Int32) (x2 : Int32) (w : jW) : Option (Int32 × jW) :=
  Option.bind (f_Rows_at 10 x1 4 w) fun q1 =>
  if x2 < q1.1 then
    some (102, q1.2)
  else
    Option.bind (f_Rows_at 10 x1 10 q1.2) fun q2 =>
    if q2.1 = (-1) then
      f_State_placeOn_j40 x1 x2 q2.2
    else
      if x2 < q2.1 then
        f_State_placeOn_j40 x1 x2 q2.2
      else
        some (101, q2.2)
set_option maxRecDepth 20000 in
theorem e_State_placeOn {l : Launch} {G : jG} (hG : jX G) {kk : Nat} (hk : 93 ≤ kk) {x1 : Int32} {x2 : Int32} {w : jW} {z : (Int32 × jW)} (h : f_State_placeOn x1 x2 w = some z) : Ct l G y_State_placeOn d_State_placeOn 0 0 [.ref 3, .int x1, .int x2] (jRx kk) w (some (.int z.1), (jRx kk), z.2) := by
  rw [f_State_placeOn] at h
  refine Ct.of (L := [some (.ref 3), some (.int x1), some (.int x2), none, none, none]) (by decide) (Nat.le_of_ble_eq_true rfl) rfl ?_
  refine ev_seg (o := 6) (nL := 6) (q := 7) (xs := [(.iload_n 2, 1, 2, 0, .null), (.aload_n 0, 1, 0, 0, .null), (.getfield 42, 3, 6, 8, .ref 3), (.iload_n 1, 1, 1, 0, .null), (.iconst 4, 1, 0, 0, .int 4)]) (L' := [some (.ref 3), some (.int x1), some (.int x2), none, none, none]) (st' := [.int 4, .int x1, .ref 10, .int x2]) (w' := w) (g := []) (K := [(10, 3), (3, 6)]) (by decide +kernel) rfl rfl rfl rfl (jk1 (kz_10 hk) (jk1 (kz_3 hk) jk0)) ?_
  obtain ⟨q1, hq1, h⟩ := jbe h
  refine ev_callV (ci := 3) (a := 10) (y2 := y_Rows_at) (o := 6) (idx := 91) (d2 := d_Rows_at) (n := 2) (mc2 := 0) (ms2 := 0) (As := [.int x1, .int 4]) (st := [.int x2]) (res2 := (some (.int q1.1), (jRx kk), q1.2)) (by decide +kernel) rfl lk_6_91 mo_Rows_at mv_Rows_at ⟨Nat.le_of_ble_eq_true rfl, Nat.le_of_ble_eq_true rfl⟩ rfl rfl (kz_10 hk) (by decide) rfl (Nat.le_of_ble_eq_true rfl) ⟨Nat.le_refl _, Nat.le_refl _⟩ hG (e_Rows_at hG hk (kz_10 hk) hq1) ?_
  refine ev_icmp_ge (off := 6) (tgt := 16) (by decide +kernel) (by decide) (fun c15 => ?_) (fun c15 => ?_)
  · replace h := jneg c15 h
    refine ev_seg (o := 6) (nL := 6) (q := 23) (xs := [(.aload_n 0, 1, 0, 0, .null), (.getfield 42, 3, 6, 8, .ref 3), (.iload_n 1, 1, 1, 0, .null), (.bipush 10, 2, 0, 0, .int 10)]) (L' := [some (.ref 3), some (.int x1), some (.int x2), none, none, none]) (st' := [.int 10, .int x1, .ref 10]) (w' := q1.2) (g := []) (K := [(10, 3), (3, 6)]) (by decide +kernel) rfl rfl rfl rfl (jk1 (kz_10 hk) (jk1 (kz_3 hk) jk0)) ?_
    obtain ⟨q2, hq2, h⟩ := jbe h
    refine ev_callV (ci := 3) (a := 10) (y2 := y_Rows_at) (o := 6) (idx := 91) (d2 := d_Rows_at) (n := 2) (mc2 := 0) (ms2 := 0) (As := [.int x1, .int 10]) (st := []) (res2 := (some (.int q2.1), (jRx kk), q2.2)) (by decide +kernel) rfl lk_6_91 mo_Rows_at mv_Rows_at ⟨Nat.le_of_ble_eq_true rfl, Nat.le_of_ble_eq_true rfl⟩ rfl rfl (kz_10 hk) (by decide) rfl (Nat.le_of_ble_eq_true rfl) ⟨Nat.le_refl _, Nat.le_refl _⟩ hG (e_Rows_at hG hk (kz_10 hk) hq2) ?_
    refine ev_seg (o := 6) (nL := 6) (q := 29) (xs := [(.istore_n 3, 1, 3, 0, .null), (.iload_n 3, 1, 3, 0, .null), (.iconst (-1), 1, 0, 0, .int (-1))]) (L' := [some (.ref 3), some (.int x1), some (.int x2), some (.int q2.1), none, none]) (st' := [.int (-1), .int q2.1]) (w' := q2.2) (g := []) (K := []) (by decide +kernel) rfl rfl rfl rfl jk0 ?_
    refine ev_icmp_eq (off := 11) (tgt := 40) (by decide +kernel) (by decide) (fun c14 => ?_) (fun c14 => ?_)
    · replace h := jpos c14 h
      refine ev_mask [true, true, true, false, false, false] ?_
      exact t_State_placeOn_j40 hG hk h
    · replace h := jneg c14 h
      refine ev_seg (o := 6) (nL := 6) (q := 34) (xs := [(.iload_n 2, 1, 2, 0, .null), (.iload_n 3, 1, 3, 0, .null)]) (L' := [some (.ref 3), some (.int x1), some (.int x2), some (.int q2.1), none, none]) (st' := [.int q2.1, .int x2]) (w' := q2.2) (g := []) (K := []) (by decide +kernel) rfl rfl rfl rfl jk0 ?_
      refine ev_icmp_lt (off := 6) (tgt := 40) (by decide +kernel) (by decide) (fun c13 => ?_) (fun c13 => ?_)
      · replace h := jpos c13 h
        refine ev_mask [true, true, true, false, false, false] ?_
        exact t_State_placeOn_j40 hG hk h
      · replace h := jneg c13 h
        refine ev_seg (o := 6) (nL := 6) (q := 39) (xs := [(.bipush 101, 2, 0, 0, .int 101)]) (L' := [some (.ref 3), some (.int x1), some (.int x2), some (.int q2.1), none, none]) (st' := [.int 101]) (w' := q2.2) (g := []) (K := []) (by decide +kernel) rfl rfl rfl rfl jk0 ?_
        cases h
        exact ev_iret (by decide +kernel) rfl rfl rfl rfl
  · replace h := jpos c15 h
    refine ev_seg (o := 6) (nL := 6) (q := 15) (xs := [(.bipush 102, 2, 0, 0, .int 102)]) (L' := [some (.ref 3), some (.int x1), some (.int x2), none, none, none]) (st' := [.int 102]) (w' := q1.2) (g := []) (K := []) (by decide +kernel) rfl rfl rfl rfl jk0 ?_
    cases h
    exact ev_iret (by decide +kernel) rfl rfl rfl rfl
def f_Count_move (x1 : Int32) (x2 : Int32) (w : jW) : Option (Int32 × jW) :=
  Option.bind (f_Rows_has 10 x1 w) fun q1 =>
  if q1.1 = 0 then
    some ((-1), q1.2)
  else
    Option.bind (f_Rows_isFull 12 q1.2) fun q2 =>
    if q2.1 = 0 then
      Option.bind (f_State_placeOn x1 (q2.2.1 3 0) q2.2) fun q3 =>
      Option.bind (f_Rows_at 8 q3.1 x2 q3.2) fun q4 =>
      if q4.1 < 1 then
        some ((-1), q4.2)
      else
        if ((q4.2.1 3 0) + q4.1) ≤ 1999 then
          Option.bind (f_Rows_open 12 x1 q4.2) fun q5 =>
          Option.bind (f_Rows_put 12 q5.1 1 q3.1 q5.2) fun q6 =>
          Option.bind (f_Rows_put 12 q5.1 2 x2 q6) fun q7 =>
          Option.bind (f_Rows_put 12 q5.1 3 (q7.1 3 0) q7) fun q8 =>
          Option.bind (f_Rows_put 12 q5.1 4 ((q8.1 3 0) + q4.1) q8) fun q9 =>
          Option.bind (f_Rows_at 10 x1 8 q9) fun q10 =>
          Option.bind (f_Rows_put 12 q5.1 5 q10.1 q10.2) fun q11 =>
          Option.bind (f_Rows_put 10 x1 8 q5.1 q11) fun q12 =>
          Option.bind (f_Rows_at 10 x1 6 q12) fun q13 =>
          Option.bind (f_Rows_put 10 x1 6 (q13.1 + 1) q13.2) fun q14 =>
          Option.bind (f_Rows_at 10 x1 3 q14) fun q15 =>
          Option.bind (f_State_addAct 1 q15.1 x1 q5.1 q15.2) fun q16 =>
          some (q5.1, q16)
        else
          some ((-1), q4.2)
    else
      some ((-1), q2.2)
set_option maxRecDepth 20000 in
theorem e_Count_move {l : Launch} {G : jG} (hG : jX G) {kk : Nat} (hk : 93 ≤ kk) {x1 : Int32} {x2 : Int32} {w : jW} {z : (Int32 × jW)} (h : f_Count_move x1 x2 w = some z) : Ct l G y_Count_move d_Count_move 0 0 [.ref 2, .int x1, .int x2] (jRx kk) w (some (.int z.1), (jRx kk), z.2) := by
  rw [f_Count_move] at h
  refine Ct.of (L := [some (.ref 2), some (.int x1), some (.int x2), none, none, none]) (by decide) (Nat.le_of_ble_eq_true rfl) rfl ?_
  refine ev_seg (o := 9) (nL := 6) (q := 8) (xs := [(.aload_n 0, 1, 0, 0, .null), (.getfield 12, 3, 9, 0, .ref 6), (.getfield 100, 3, 6, 8, .ref 3), (.iload_n 1, 1, 1, 0, .null)]) (L' := [some (.ref 2), some (.int x1), some (.int x2), none, none, none]) (st' := [.int x1, .ref 10]) (w' := w) (g := []) (K := [(10, 3), (3, 6), (3, 6), (2, 9)]) (by decide +kernel) rfl rfl rfl rfl (jk1 (kz_10 hk) (jk1 (kz_3 hk) (jk1 (kz_3 hk) (jk1 (kz_2 hk) jk0)))) ?_
  obtain ⟨q1, hq1, h⟩ := jbe h
  refine ev_callV (ci := 3) (a := 10) (y2 := y_Rows_has) (o := 9) (idx := 80) (d2 := d_Rows_has) (n := 1) (mc2 := 0) (ms2 := 0) (As := [.int x1]) (st := []) (res2 := (some (.int q1.1), (jRx kk), q1.2)) (by decide +kernel) rfl lk_9_80 mo_Rows_has mv_Rows_has ⟨Nat.le_of_ble_eq_true rfl, Nat.le_of_ble_eq_true rfl⟩ rfl rfl (kz_10 hk) (by decide) rfl (Nat.le_of_ble_eq_true rfl) ⟨Nat.le_refl _, Nat.le_refl _⟩ hG (e_Rows_has hG hk (kz_10 hk) hq1) ?_
  refine ev_if_eq (off := 16) (tgt := 27) (by decide +kernel) (by decide) (fun c20 => ?_) (fun c20 => ?_)
  · replace h := jpos c20 h
    refine ev_seg (o := 9) (nL := 6) (q := 28) (xs := [(.iconst (-1), 1, 0, 0, .int (-1))]) (L' := [some (.ref 2), some (.int x1), some (.int x2), none, none, none]) (st' := [.int (-1)]) (w' := q1.2) (g := []) (K := []) (by decide +kernel) rfl rfl rfl rfl jk0 ?_
    cases h
    exact ev_iret (by decide +kernel) rfl rfl rfl rfl
  · replace h := jneg c20 h
    refine ev_seg (o := 9) (nL := 6) (q := 21) (xs := [(.aload_n 0, 1, 0, 0, .null), (.getfield 12, 3, 9, 0, .ref 6), (.getfield 126, 3, 6, 9, .ref 3)]) (L' := [some (.ref 2), some (.int x1), some (.int x2), none, none, none]) (st' := [.ref 12]) (w' := q1.2) (g := []) (K := [(12, 3), (3, 6), (3, 6), (2, 9)]) (by decide +kernel) rfl rfl rfl rfl (jk1 (kz_12 hk) (jk1 (kz_3 hk) (jk1 (kz_3 hk) (jk1 (kz_2 hk) jk0)))) ?_
    obtain ⟨q2, hq2, h⟩ := jbe h
    refine ev_callV (ci := 3) (a := 12) (y2 := y_Rows_isFull) (o := 9) (idx := 62) (d2 := d_Rows_isFull) (n := 0) (mc2 := 0) (ms2 := 0) (As := []) (st := []) (res2 := (some (.int q2.1), (jRx kk), q2.2)) (by decide +kernel) rfl lk_9_62 mo_Rows_isFull mv_Rows_isFull ⟨Nat.le_of_ble_eq_true rfl, Nat.le_of_ble_eq_true rfl⟩ rfl rfl (kz_12 hk) (by decide) rfl (Nat.le_of_ble_eq_true rfl) ⟨Nat.le_refl _, Nat.le_refl _⟩ hG (e_Rows_isFull hG hk (kz_12 hk) hq2) ?_
    refine ev_if_eq (off := 5) (tgt := 29) (by decide +kernel) (by decide) (fun c19 => ?_) (fun c19 => ?_)
    · replace h := jpos c19 h
      refine ev_seg (o := 9) (nL := 6) (q := 41) (xs := [(.aload_n 0, 1, 0, 0, .null), (.getfield 12, 3, 9, 0, .ref 6), (.iload_n 1, 1, 1, 0, .null), (.aload_n 0, 1, 0, 0, .null), (.getfield 12, 3, 9, 0, .ref 6), (.getfield 119, 3, 6, 0, .int 0)]) (L' := [some (.ref 2), some (.int x1), some (.int x2), none, none, none]) (st' := [.int (q2.2.1 3 0), .int x1, .ref 3]) (w' := q2.2) (g := []) (K := [(3, 6), (3, 6), (2, 9), (3, 6), (2, 9)]) (by decide +kernel) rfl rfl rfl rfl (jk1 (kz_3 hk) (jk1 (kz_3 hk) (jk1 (kz_2 hk) (jk1 (kz_3 hk) (jk1 (kz_2 hk) jk0))))) ?_
      obtain ⟨q3, hq3, h⟩ := jbe h
      refine ev_callV (ci := 6) (a := 3) (y2 := y_State_placeOn) (o := 9) (idx := 129) (d2 := d_State_placeOn) (n := 2) (mc2 := 0) (ms2 := 0) (As := [.int x1, .int (q2.2.1 3 0)]) (st := []) (res2 := (some (.int q3.1), (jRx kk), q3.2)) (by decide +kernel) rfl lk_9_129 mo_State_placeOn mv_State_placeOn ⟨Nat.le_of_ble_eq_true rfl, Nat.le_of_ble_eq_true rfl⟩ rfl rfl (kz_3 hk) (by decide) rfl (Nat.le_of_ble_eq_true rfl) ⟨Nat.le_refl _, Nat.le_refl _⟩ hG (e_State_placeOn hG hk hq3) ?_
      refine ev_seg (o := 9) (nL := 6) (q := 54) (xs := [(.istore_n 3, 1, 3, 0, .null), (.aload_n 0, 1, 0, 0, .null), (.getfield 12, 3, 9, 0, .ref 6), (.getfield 94, 3, 6, 7, .ref 3), (.iload_n 3, 1, 3, 0, .null), (.iload_n 2, 1, 2, 0, .null)]) (L' := [some (.ref 2), some (.int x1), some (.int x2), some (.int q3.1), none, none]) (st' := [.int x2, .int q3.1, .ref 8]) (w' := q3.2) (g := []) (K := [(8, 3), (3, 6), (3, 6), (2, 9)]) (by decide +kernel) rfl rfl rfl rfl (jk1 (kz_8 hk) (jk1 (kz_3 hk) (jk1 (kz_3 hk) (jk1 (kz_2 hk) jk0)))) ?_
      obtain ⟨q4, hq4, h⟩ := jbe h
      refine ev_callV (ci := 3) (a := 8) (y2 := y_Rows_at) (o := 9) (idx := 83) (d2 := d_Rows_at) (n := 2) (mc2 := 0) (ms2 := 0) (As := [.int q3.1, .int x2]) (st := []) (res2 := (some (.int q4.1), (jRx kk), q4.2)) (by decide +kernel) rfl lk_9_83 mo_Rows_at mv_Rows_at ⟨Nat.le_of_ble_eq_true rfl, Nat.le_of_ble_eq_true rfl⟩ rfl rfl (kz_8 hk) (by decide) rfl (Nat.le_of_ble_eq_true rfl) ⟨Nat.le_refl _, Nat.le_refl _⟩ hG (e_Rows_at hG hk (kz_8 hk) hq4) ?_
      refine ev_seg (o := 9) (nL := 6) (q := 62) (xs := [(.istore 4, 2, 4, 0, .null), (.iload 4, 2, 4, 0, .null), (.iconst 1, 1, 0, 0, .int 1)]) (L' := [some (.ref 2), some (.int x1), some (.int x2), some (.int q3.1), some (.int q4.1), none]) (st' := [.int 1, .int q4.1]) (w' := q4.2) (g := []) (K := []) (by decide +kernel) rfl rfl rfl rfl jk0 ?_
      refine ev_icmp_lt (off := 19) (tgt := 81) (by decide +kernel) (by decide) (fun c18 => ?_) (fun c18 => ?_)
      · replace h := jpos c18 h
        refine ev_seg (o := 9) (nL := 6) (q := 82) (xs := [(.iconst (-1), 1, 0, 0, .int (-1))]) (L' := [some (.ref 2), some (.int x1), some (.int x2), some (.int q3.1), some (.int q4.1), none]) (st' := [.int (-1)]) (w' := q4.2) (g := []) (K := []) (by decide +kernel) rfl rfl rfl rfl jk0 ?_
        cases h
        exact ev_iret (by decide +kernel) rfl rfl rfl rfl
      · replace h := jneg c18 h
        refine ev_seg (o := 9) (nL := 6) (q := 78) (xs := [(.aload_n 0, 1, 0, 0, .null), (.getfield 12, 3, 9, 0, .ref 6), (.getfield 119, 3, 6, 0, .int 0), (.iload 4, 2, 4, 0, .null), (.iadd, 1, 0, 0, .null), (.sipush 1999, 3, 0, 0, .int 1999)]) (L' := [some (.ref 2), some (.int x1), some (.int x2), some (.int q3.1), some (.int q4.1), none]) (st' := [.int 1999, .int ((q4.2.1 3 0) + q4.1)]) (w' := q4.2) (g := []) (K := [(3, 6), (3, 6), (2, 9)]) (by decide +kernel) rfl rfl rfl rfl (jk1 (kz_3 hk) (jk1 (kz_3 hk) (jk1 (kz_2 hk) jk0))) ?_
        refine ev_icmp_le (off := 5) (tgt := 83) (by decide +kernel) (by decide) (fun c17 => ?_) (fun c17 => ?_)
        · replace h := jpos c17 h
          refine ev_seg (o := 9) (nL := 6) (q := 91) (xs := [(.aload_n 0, 1, 0, 0, .null), (.getfield 12, 3, 9, 0, .ref 6), (.getfield 126, 3, 6, 9, .ref 3), (.iload_n 1, 1, 1, 0, .null)]) (L' := [some (.ref 2), some (.int x1), some (.int x2), some (.int q3.1), some (.int q4.1), none]) (st' := [.int x1, .ref 12]) (w' := q4.2) (g := []) (K := [(12, 3), (3, 6), (3, 6), (2, 9)]) (by decide +kernel) rfl rfl rfl rfl (jk1 (kz_12 hk) (jk1 (kz_3 hk) (jk1 (kz_3 hk) (jk1 (kz_2 hk) jk0)))) ?_
          obtain ⟨q5, hq5, h⟩ := jbe h
          refine ev_callV (ci := 3) (a := 12) (y2 := y_Rows_open) (o := 9) (idx := 68) (d2 := d_Rows_open) (n := 1) (mc2 := 0) (ms2 := 0) (As := [.int x1]) (st := []) (res2 := (some (.int q5.1), (jRx kk), q5.2)) (by decide +kernel) rfl lk_9_68 mo_Rows_open mv_Rows_open ⟨Nat.le_of_ble_eq_true rfl, Nat.le_of_ble_eq_true rfl⟩ rfl rfl (kz_12 hk) (by decide) rfl (Nat.le_of_ble_eq_true rfl) ⟨Nat.le_refl _, Nat.le_refl _⟩ hG (e_Rows_open hG hk (kz_12 hk) hq5) ?_
          refine ev_seg (o := 9) (nL := 6) (q := 107) (xs := [(.istore 5, 2, 5, 0, .null), (.aload_n 0, 1, 0, 0, .null), (.getfield 12, 3, 9, 0, .ref 6), (.getfield 126, 3, 6, 9, .ref 3), (.iload 5, 2, 5, 0, .null), (.iconst 1, 1, 0, 0, .int 1), (.iload_n 3, 1, 3, 0, .null)]) (L' := [some (.ref 2), some (.int x1), some (.int x2), some (.int q3.1), some (.int q4.1), some (.int q5.1)]) (st' := [.int q3.1, .int 1, .int q5.1, .ref 12]) (w' := q5.2) (g := []) (K := [(12, 3), (3, 6), (3, 6), (2, 9)]) (by decide +kernel) rfl rfl rfl rfl (jk1 (kz_12 hk) (jk1 (kz_3 hk) (jk1 (kz_3 hk) (jk1 (kz_2 hk) jk0)))) ?_
          obtain ⟨q6, hq6, h⟩ := jbe h
          refine ev_callV (ci := 3) (a := 12) (y2 := y_Rows_put) (o := 9) (idx := 72) (d2 := d_Rows_put) (n := 3) (mc2 := 0) (ms2 := 0) (As := [.int q5.1, .int 1, .int q3.1]) (st := []) (res2 := (none, (jRx kk), q6)) (by decide +kernel) rfl lk_9_72 mo_Rows_put mv_Rows_put ⟨Nat.le_of_ble_eq_true rfl, Nat.le_of_ble_eq_true rfl⟩ rfl rfl (kz_12 hk) (by decide) rfl (Nat.le_of_ble_eq_true rfl) ⟨Nat.le_refl _, Nat.le_refl _⟩ hG (e_Rows_put hG hk (kz_12 hk) hq6) ?_
          refine ev_seg (o := 9) (nL := 6) (q := 121) (xs := [(.aload_n 0, 1, 0, 0, .null), (.getfield 12, 3, 9, 0, .ref 6), (.getfield 126, 3, 6, 9, .ref 3), (.iload 5, 2, 5, 0, .null), (.iconst 2, 1, 0, 0, .int 2), (.iload_n 2, 1, 2, 0, .null)]) (L' := [some (.ref 2), some (.int x1), some (.int x2), some (.int q3.1), some (.int q4.1), some (.int q5.1)]) (st' := [.int x2, .int 2, .int q5.1, .ref 12]) (w' := q6) (g := []) (K := [(12, 3), (3, 6), (3, 6), (2, 9)]) (by decide +kernel) rfl rfl rfl rfl (jk1 (kz_12 hk) (jk1 (kz_3 hk) (jk1 (kz_3 hk) (jk1 (kz_2 hk) jk0)))) ?_
          obtain ⟨q7, hq7, h⟩ := jbe h
          refine ev_callV (ci := 3) (a := 12) (y2 := y_Rows_put) (o := 9) (idx := 72) (d2 := d_Rows_put) (n := 3) (mc2 := 0) (ms2 := 0) (As := [.int q5.1, .int 2, .int x2]) (st := []) (res2 := (none, (jRx kk), q7)) (by decide +kernel) rfl lk_9_72 mo_Rows_put mv_Rows_put ⟨Nat.le_of_ble_eq_true rfl, Nat.le_of_ble_eq_true rfl⟩ rfl rfl (kz_12 hk) (by decide) rfl (Nat.le_of_ble_eq_true rfl) ⟨Nat.le_refl _, Nat.le_refl _⟩ hG (e_Rows_put hG hk (kz_12 hk) hq7) ?_
          refine ev_seg (o := 9) (nL := 6) (q := 141) (xs := [(.aload_n 0, 1, 0, 0, .null), (.getfield 12, 3, 9, 0, .ref 6), (.getfield 126, 3, 6, 9, .ref 3), (.iload 5, 2, 5, 0, .null), (.iconst 3, 1, 0, 0, .int 3), (.aload_n 0, 1, 0, 0, .null), (.getfield 12, 3, 9, 0, .ref 6), (.getfield 119, 3, 6, 0, .int 0)]) (L' := [some (.ref 2), some (.int x1), some (.int x2), some (.int q3.1), some (.int q4.1), some (.int q5.1)]) (st' := [.int (q7.1 3 0), .int 3, .int q5.1, .ref 12]) (w' := q7) (g := []) (K := [(3, 6), (3, 6), (2, 9), (12, 3), (3, 6), (3, 6), (2, 9)]) (by decide +kernel) rfl rfl rfl rfl (jk1 (kz_3 hk) (jk1 (kz_3 hk) (jk1 (kz_2 hk) (jk1 (kz_12 hk) (jk1 (kz_3 hk) (jk1 (kz_3 hk) (jk1 (kz_2 hk) jk0))))))) ?_
          obtain ⟨q8, hq8, h⟩ := jbe h
          refine ev_callV (ci := 3) (a := 12) (y2 := y_Rows_put) (o := 9) (idx := 72) (d2 := d_Rows_put) (n := 3) (mc2 := 0) (ms2 := 0) (As := [.int q5.1, .int 3, .int (q7.1 3 0)]) (st := []) (res2 := (none, (jRx kk), q8)) (by decide +kernel) rfl lk_9_72 mo_Rows_put mv_Rows_put ⟨Nat.le_of_ble_eq_true rfl, Nat.le_of_ble_eq_true rfl⟩ rfl rfl (kz_12 hk) (by decide) rfl (Nat.le_of_ble_eq_true rfl) ⟨Nat.le_refl _, Nat.le_refl _⟩ hG (e_Rows_put hG hk (kz_12 hk) hq8) ?_
          refine ev_seg (o := 9) (nL := 6) (q := 164) (xs := [(.aload_n 0, 1, 0, 0, .null), (.getfield 12, 3, 9, 0, .ref 6), (.getfield 126, 3, 6, 9, .ref 3), (.iload 5, 2, 5, 0, .null), (.iconst 4, 1, 0, 0, .int 4), (.aload_n 0, 1, 0, 0, .null), (.getfield 12, 3, 9, 0, .ref 6), (.getfield 119, 3, 6, 0, .int 0), (.iload 4, 2, 4, 0, .null), (.iadd, 1, 0, 0, .null)]) (L' := [some (.ref 2), some (.int x1), some (.int x2), some (.int q3.1), some (.int q4.1), some (.int q5.1)]) (st' := [.int ((q8.1 3 0) + q4.1), .int 4, .int q5.1, .ref 12]) (w' := q8) (g := []) (K := [(3, 6), (3, 6), (2, 9), (12, 3), (3, 6), (3, 6), (2, 9)]) (by decide +kernel) rfl rfl rfl rfl (jk1 (kz_3 hk) (jk1 (kz_3 hk) (jk1 (kz_2 hk) (jk1 (kz_12 hk) (jk1 (kz_3 hk) (jk1 (kz_3 hk) (jk1 (kz_2 hk) jk0))))))) ?_
          obtain ⟨q9, hq9, h⟩ := jbe h
          refine ev_callV (ci := 3) (a := 12) (y2 := y_Rows_put) (o := 9) (idx := 72) (d2 := d_Rows_put) (n := 3) (mc2 := 0) (ms2 := 0) (As := [.int q5.1, .int 4, .int ((q8.1 3 0) + q4.1)]) (st := []) (res2 := (none, (jRx kk), q9)) (by decide +kernel) rfl lk_9_72 mo_Rows_put mv_Rows_put ⟨Nat.le_of_ble_eq_true rfl, Nat.le_of_ble_eq_true rfl⟩ rfl rfl (kz_12 hk) (by decide) rfl (Nat.le_of_ble_eq_true rfl) ⟨Nat.le_refl _, Nat.le_refl _⟩ hG (e_Rows_put hG hk (kz_12 hk) hq9) ?_
          refine ev_seg (o := 9) (nL := 6) (q := 187) (xs := [(.aload_n 0, 1, 0, 0, .null), (.getfield 12, 3, 9, 0, .ref 6), (.getfield 126, 3, 6, 9, .ref 3), (.iload 5, 2, 5, 0, .null), (.iconst 5, 1, 0, 0, .int 5), (.aload_n 0, 1, 0, 0, .null), (.getfield 12, 3, 9, 0, .ref 6), (.getfield 100, 3, 6, 8, .ref 3), (.iload_n 1, 1, 1, 0, .null), (.bipush 8, 2, 0, 0, .int 8)]) (L' := [some (.ref 2), some (.int x1), some (.int x2), some (.int q3.1), some (.int q4.1), some (.int q5.1)]) (st' := [.int 8, .int x1, .ref 10, .int 5, .int q5.1, .ref 12]) (w' := q9) (g := []) (K := [(10, 3), (3, 6), (3, 6), (2, 9), (12, 3), (3, 6), (3, 6), (2, 9)]) (by decide +kernel) rfl rfl rfl rfl (jk1 (kz_10 hk) (jk1 (kz_3 hk) (jk1 (kz_3 hk) (jk1 (kz_2 hk) (jk1 (kz_12 hk) (jk1 (kz_3 hk) (jk1 (kz_3 hk) (jk1 (kz_2 hk) jk0)))))))) ?_
          obtain ⟨q10, hq10, h⟩ := jbe h
          refine ev_callV (ci := 3) (a := 10) (y2 := y_Rows_at) (o := 9) (idx := 83) (d2 := d_Rows_at) (n := 2) (mc2 := 0) (ms2 := 0) (As := [.int x1, .int 8]) (st := [.int 5, .int q5.1, .ref 12]) (res2 := (some (.int q10.1), (jRx kk), q10.2)) (by decide +kernel) rfl lk_9_83 mo_Rows_at mv_Rows_at ⟨Nat.le_of_ble_eq_true rfl, Nat.le_of_ble_eq_true rfl⟩ rfl rfl (kz_10 hk) (by decide) rfl (Nat.le_of_ble_eq_true rfl) ⟨Nat.le_refl _, Nat.le_refl _⟩ hG (e_Rows_at hG hk (kz_10 hk) hq10) ?_
          obtain ⟨q11, hq11, h⟩ := jbe h
          refine ev_callV (ci := 3) (a := 12) (y2 := y_Rows_put) (o := 9) (idx := 72) (d2 := d_Rows_put) (n := 3) (mc2 := 0) (ms2 := 0) (As := [.int q5.1, .int 5, .int q10.1]) (st := []) (res2 := (none, (jRx kk), q11)) (by decide +kernel) rfl lk_9_72 mo_Rows_put mv_Rows_put ⟨Nat.le_of_ble_eq_true rfl, Nat.le_of_ble_eq_true rfl⟩ rfl rfl (kz_12 hk) (by decide) rfl (Nat.le_of_ble_eq_true rfl) ⟨Nat.le_refl _, Nat.le_refl _⟩ hG (e_Rows_put hG hk (kz_12 hk) hq11) ?_
          refine ev_seg (o := 9) (nL := 6) (q := 205) (xs := [(.aload_n 0, 1, 0, 0, .null), (.getfield 12, 3, 9, 0, .ref 6), (.getfield 100, 3, 6, 8, .ref 3), (.iload_n 1, 1, 1, 0, .null), (.bipush 8, 2, 0, 0, .int 8), (.iload 5, 2, 5, 0, .null)]) (L' := [some (.ref 2), some (.int x1), some (.int x2), some (.int q3.1), some (.int q4.1), some (.int q5.1)]) (st' := [.int q5.1, .int 8, .int x1, .ref 10]) (w' := q11) (g := []) (K := [(10, 3), (3, 6), (3, 6), (2, 9)]) (by decide +kernel) rfl rfl rfl rfl (jk1 (kz_10 hk) (jk1 (kz_3 hk) (jk1 (kz_3 hk) (jk1 (kz_2 hk) jk0)))) ?_
          obtain ⟨q12, hq12, h⟩ := jbe h
          refine ev_callV (ci := 3) (a := 10) (y2 := y_Rows_put) (o := 9) (idx := 72) (d2 := d_Rows_put) (n := 3) (mc2 := 0) (ms2 := 0) (As := [.int x1, .int 8, .int q5.1]) (st := []) (res2 := (none, (jRx kk), q12)) (by decide +kernel) rfl lk_9_72 mo_Rows_put mv_Rows_put ⟨Nat.le_of_ble_eq_true rfl, Nat.le_of_ble_eq_true rfl⟩ rfl rfl (kz_10 hk) (by decide) rfl (Nat.le_of_ble_eq_true rfl) ⟨Nat.le_refl _, Nat.le_refl _⟩ hG (e_Rows_put hG hk (kz_10 hk) hq12) ?_
          refine ev_seg (o := 9) (nL := 6) (q := 228) (xs := [(.aload_n 0, 1, 0, 0, .null), (.getfield 12, 3, 9, 0, .ref 6), (.getfield 100, 3, 6, 8, .ref 3), (.iload_n 1, 1, 1, 0, .null), (.bipush 6, 2, 0, 0, .int 6), (.aload_n 0, 1, 0, 0, .null), (.getfield 12, 3, 9, 0, .ref 6), (.getfield 100, 3, 6, 8, .ref 3), (.iload_n 1, 1, 1, 0, .null), (.bipush 6, 2, 0, 0, .int 6)]) (L' := [some (.ref 2), some (.int x1), some (.int x2), some (.int q3.1), some (.int q4.1), some (.int q5.1)]) (st' := [.int 6, .int x1, .ref 10, .int 6, .int x1, .ref 10]) (w' := q12) (g := []) (K := [(10, 3), (3, 6), (3, 6), (2, 9), (10, 3), (3, 6), (3, 6), (2, 9)]) (by decide +kernel) rfl rfl rfl rfl (jk1 (kz_10 hk) (jk1 (kz_3 hk) (jk1 (kz_3 hk) (jk1 (kz_2 hk) (jk1 (kz_10 hk) (jk1 (kz_3 hk) (jk1 (kz_3 hk) (jk1 (kz_2 hk) jk0)))))))) ?_
          obtain ⟨q13, hq13, h⟩ := jbe h
          refine ev_callV (ci := 3) (a := 10) (y2 := y_Rows_at) (o := 9) (idx := 83) (d2 := d_Rows_at) (n := 2) (mc2 := 0) (ms2 := 0) (As := [.int x1, .int 6]) (st := [.int 6, .int x1, .ref 10]) (res2 := (some (.int q13.1), (jRx kk), q13.2)) (by decide +kernel) rfl lk_9_83 mo_Rows_at mv_Rows_at ⟨Nat.le_of_ble_eq_true rfl, Nat.le_of_ble_eq_true rfl⟩ rfl rfl (kz_10 hk) (by decide) rfl (Nat.le_of_ble_eq_true rfl) ⟨Nat.le_refl _, Nat.le_refl _⟩ hG (e_Rows_at hG hk (kz_10 hk) hq13) ?_
          refine ev_seg (o := 9) (nL := 6) (q := 233) (xs := [(.iconst 1, 1, 0, 0, .int 1), (.iadd, 1, 0, 0, .null)]) (L' := [some (.ref 2), some (.int x1), some (.int x2), some (.int q3.1), some (.int q4.1), some (.int q5.1)]) (st' := [.int (q13.1 + 1), .int 6, .int x1, .ref 10]) (w' := q13.2) (g := []) (K := []) (by decide +kernel) rfl rfl rfl rfl jk0 ?_
          obtain ⟨q14, hq14, h⟩ := jbe h
          refine ev_callV (ci := 3) (a := 10) (y2 := y_Rows_put) (o := 9) (idx := 72) (d2 := d_Rows_put) (n := 3) (mc2 := 0) (ms2 := 0) (As := [.int x1, .int 6, .int (q13.1 + 1)]) (st := []) (res2 := (none, (jRx kk), q14)) (by decide +kernel) rfl lk_9_72 mo_Rows_put mv_Rows_put ⟨Nat.le_of_ble_eq_true rfl, Nat.le_of_ble_eq_true rfl⟩ rfl rfl (kz_10 hk) (by decide) rfl (Nat.le_of_ble_eq_true rfl) ⟨Nat.le_refl _, Nat.le_refl _⟩ hG (e_Rows_put hG hk (kz_10 hk) hq14) ?_
          refine ev_seg (o := 9) (nL := 6) (q := 250) (xs := [(.aload_n 0, 1, 0, 0, .null), (.getfield 12, 3, 9, 0, .ref 6), (.iconst 1, 1, 0, 0, .int 1), (.aload_n 0, 1, 0, 0, .null), (.getfield 12, 3, 9, 0, .ref 6), (.getfield 100, 3, 6, 8, .ref 3), (.iload_n 1, 1, 1, 0, .null), (.iconst 3, 1, 0, 0, .int 3)]) (L' := [some (.ref 2), some (.int x1), some (.int x2), some (.int q3.1), some (.int q4.1), some (.int q5.1)]) (st' := [.int 3, .int x1, .ref 10, .int 1, .ref 3]) (w' := q14) (g := []) (K := [(10, 3), (3, 6), (3, 6), (2, 9), (3, 6), (2, 9)]) (by decide +kernel) rfl rfl rfl rfl (jk1 (kz_10 hk) (jk1 (kz_3 hk) (jk1 (kz_3 hk) (jk1 (kz_2 hk) (jk1 (kz_3 hk) (jk1 (kz_2 hk) jk0)))))) ?_
          obtain ⟨q15, hq15, h⟩ := jbe h
          refine ev_callV (ci := 3) (a := 10) (y2 := y_Rows_at) (o := 9) (idx := 83) (d2 := d_Rows_at) (n := 2) (mc2 := 0) (ms2 := 0) (As := [.int x1, .int 3]) (st := [.int 1, .ref 3]) (res2 := (some (.int q15.1), (jRx kk), q15.2)) (by decide +kernel) rfl lk_9_83 mo_Rows_at mv_Rows_at ⟨Nat.le_of_ble_eq_true rfl, Nat.le_of_ble_eq_true rfl⟩ rfl rfl (kz_10 hk) (by decide) rfl (Nat.le_of_ble_eq_true rfl) ⟨Nat.le_refl _, Nat.le_refl _⟩ hG (e_Rows_at hG hk (kz_10 hk) hq15) ?_
          refine ev_seg (o := 9) (nL := 6) (q := 256) (xs := [(.iload_n 1, 1, 1, 0, .null), (.iload 5, 2, 5, 0, .null)]) (L' := [some (.ref 2), some (.int x1), some (.int x2), some (.int q3.1), some (.int q4.1), some (.int q5.1)]) (st' := [.int q5.1, .int x1, .int q15.1, .int 1, .ref 3]) (w' := q15.2) (g := []) (K := []) (by decide +kernel) rfl rfl rfl rfl jk0 ?_
          obtain ⟨q16, hq16, h⟩ := jbe h
          refine ev_callV (ci := 6) (a := 3) (y2 := y_State_addAct) (o := 9) (idx := 122) (d2 := d_State_addAct) (n := 4) (mc2 := 0) (ms2 := 0) (As := [.int 1, .int q15.1, .int x1, .int q5.1]) (st := []) (res2 := (none, (jRx kk), q16)) (by decide +kernel) rfl lk_9_122 mo_State_addAct mv_State_addAct ⟨Nat.le_of_ble_eq_true rfl, Nat.le_of_ble_eq_true rfl⟩ rfl rfl (kz_3 hk) (by decide) rfl (Nat.le_of_ble_eq_true rfl) ⟨Nat.le_refl _, Nat.le_refl _⟩ hG (e_State_addAct hG hk hq16) ?_
          refine ev_seg (o := 9) (nL := 6) (q := 261) (xs := [(.iload 5, 2, 5, 0, .null)]) (L' := [some (.ref 2), some (.int x1), some (.int x2), some (.int q3.1), some (.int q4.1), some (.int q5.1)]) (st' := [.int q5.1]) (w' := q16) (g := []) (K := []) (by decide +kernel) rfl rfl rfl rfl jk0 ?_
          cases h
          exact ev_iret (by decide +kernel) rfl rfl rfl rfl
        · replace h := jneg c17 h
          refine ev_seg (o := 9) (nL := 6) (q := 82) (xs := [(.iconst (-1), 1, 0, 0, .int (-1))]) (L' := [some (.ref 2), some (.int x1), some (.int x2), some (.int q3.1), some (.int q4.1), none]) (st' := [.int (-1)]) (w' := q4.2) (g := []) (K := []) (by decide +kernel) rfl rfl rfl rfl jk0 ?_
          cases h
          exact ev_iret (by decide +kernel) rfl rfl rfl rfl
    · replace h := jneg c19 h
      refine ev_seg (o := 9) (nL := 6) (q := 28) (xs := [(.iconst (-1), 1, 0, 0, .int (-1))]) (L' := [some (.ref 2), some (.int x1), some (.int x2), none, none, none]) (st' := [.int (-1)]) (w' := q2.2) (g := []) (K := []) (by decide +kernel) rfl rfl rfl rfl jk0 ?_
      cases h
      exact ev_iret (by decide +kernel) rfl rfl rfl rfl
def f_Treaty_textFor_h5 : Nat → Int32 → Int32 → Int32 → Int32 → jW → Option (Int32 × jW)
  | 0, _, _, _, _, _ => none
  | n + 1, x1, x2, x3, x4, w =>
  Option.bind (f_Rows_count 17 w) fun q1 =>
  if x4 < q1.1 then
    Option.bind (f_Rows_at 17 x4 0 q1.2) fun q2 =>
    Option.bind (f_Rows_at 17 x4 1 q2.2) fun q3 =>
    if ((q3.1 >>> (x1 &&& 31)) &&& 1) = 1 then
      if q2.1 ≤ x2 then
        if x3 = (-1) then
          (f_Treaty_textFor_h5 n) x1 x2 x4 (x4 + 1) q3.2
        else
          Option.bind (f_Rows_at 17 x3 0 q3.2) fun q4 =>
          if q2.1 < q4.1 then
            (f_Treaty_textFor_h5 n) x1 x2 x3 (x4 + 1) q4.2
          else
            (f_Treaty_textFor_h5 n) x1 x2 x4 (x4 + 1) q4.2
      else
        (f_Treaty_textFor_h5 n) x1 x2 x3 (x4 + 1) q3.2
    else
      (f_Treaty_textFor_h5 n) x1 x2 x3 (x4 + 1) q3.2
  else
    some (x3, q1.2)
set_option maxRecDepth 20000 in
theorem t_Treaty_textFor_h5 {l : Launch} {G : jG} (hG : jX G) {kk : Nat} (hk : 93 ≤ kk) : ∀ (n : Nat) (x1 : Int32) (x2 : Int32) (x3 : Int32) (x4 : Int32) (w : jW) (z : (Int32 × jW)), f_Treaty_textFor_h5 n x1 x2 x3 x4 w = some z → Ev l G (jrm d_Treaty_textFor 0 0) y_Treaty_textFor (some (.int z.1), (jRx kk), z.2) 0 0 0 0 5 [some (.ref 16), some (.int x1), some (.int x2), some (.int x3), some (.int x4), none] [] (jRx kk) w := by
  intro n
  induction n with
  | zero => intro x1 x2 x3 x4 w z h; simp only [f_Treaty_textFor_h5] at h; cases h
  | succ n ih =>
    intro x1 x2 x3 x4 w z h
    rw [f_Treaty_textFor_h5] at h
    refine ev_seg (o := 8) (nL := 6) (q := 11) (xs := [(.iload 4, 2, 4, 0, .null), (.aload_n 0, 1, 0, 0, .null), (.getfield 14, 3, 8, 0, .ref 3)]) (L' := [some (.ref 16), some (.int x1), some (.int x2), some (.int x3), some (.int x4), none]) (st' := [.ref 17, .int x4]) (w' := w) (g := []) (K := [(17, 3), (16, 8)]) (by decide +kernel) rfl rfl rfl rfl (jk1 (kz_17 hk) (jk1 (kz_16 hk) jk0)) ?_
    obtain ⟨q1, hq1, h⟩ := jbe h
    refine ev_callV (ci := 3) (a := 17) (y2 := y_Rows_count) (o := 8) (idx := 38) (d2 := d_Rows_count) (n := 0) (mc2 := 0) (ms2 := 0) (As := []) (st := [.int x4]) (res2 := (some (.int q1.1), (jRx kk), q1.2)) (by decide +kernel) rfl lk_8_38 mo_Rows_count mv_Rows_count ⟨Nat.le_of_ble_eq_true rfl, Nat.le_of_ble_eq_true rfl⟩ rfl rfl (kz_17 hk) (by decide) rfl (Nat.le_of_ble_eq_true rfl) ⟨Nat.le_refl _, Nat.le_refl _⟩ hG (e_Rows_count hG hk (kz_17 hk) hq1) ?_
    refine ev_icmp_ge (off := 67) (tgt := 81) (by decide +kernel) (by decide) (fun c9 => ?_) (fun c9 => ?_)
    · replace h := jneg c9 h
      refine ev_seg (o := 8) (nL := 6) (q := 82) (xs := [(.iload_n 3, 1, 3, 0, .null)]) (L' := [some (.ref 16), some (.int x1), some (.int x2), some (.int x3), some (.int x4), none]) (st' := [.int x3]) (w' := q1.2) (g := []) (K := []) (by decide +kernel) rfl rfl rfl rfl jk0 ?_
      cases h
      exact ev_iret (by decide +kernel) rfl rfl rfl rfl
    · replace h := jpos c9 h
      refine ev_seg (o := 8) (nL := 6) (q := 24) (xs := [(.aload_n 0, 1, 0, 0, .null), (.getfield 14, 3, 8, 0, .ref 3), (.iload 4, 2, 4, 0, .null), (.iconst 0, 1, 0, 0, .int 0)]) (L' := [some (.ref 16), some (.int x1), some (.int x2), some (.int x3), some (.int x4), none]) (st' := [.int 0, .int x4, .ref 17]) (w' := q1.2) (g := []) (K := [(17, 3), (16, 8)]) (by decide +kernel) rfl rfl rfl rfl (jk1 (kz_17 hk) (jk1 (kz_16 hk) jk0)) ?_
      obtain ⟨q2, hq2, h⟩ := jbe h
      refine ev_callV (ci := 3) (a := 17) (y2 := y_Rows_at) (o := 8) (idx := 49) (d2 := d_Rows_at) (n := 2) (mc2 := 0) (ms2 := 0) (As := [.int x4, .int 0]) (st := []) (res2 := (some (.int q2.1), (jRx kk), q2.2)) (by decide +kernel) rfl lk_8_49 mo_Rows_at mv_Rows_at ⟨Nat.le_of_ble_eq_true rfl, Nat.le_of_ble_eq_true rfl⟩ rfl rfl (kz_17 hk) (by decide) rfl (Nat.le_of_ble_eq_true rfl) ⟨Nat.le_refl _, Nat.le_refl _⟩ hG (e_Rows_at hG hk (kz_17 hk) hq2) ?_
      refine ev_seg (o := 8) (nL := 6) (q := 36) (xs := [(.istore 5, 2, 5, 0, .null), (.aload_n 0, 1, 0, 0, .null), (.getfield 14, 3, 8, 0, .ref 3), (.iload 4, 2, 4, 0, .null), (.iconst 1, 1, 0, 0, .int 1)]) (L' := [some (.ref 16), some (.int x1), some (.int x2), some (.int x3), some (.int x4), some (.int q2.1)]) (st' := [.int 1, .int x4, .ref 17]) (w' := q2.2) (g := []) (K := [(17, 3), (16, 8)]) (by decide +kernel) rfl rfl rfl rfl (jk1 (kz_17 hk) (jk1 (kz_16 hk) jk0)) ?_
      obtain ⟨q3, hq3, h⟩ := jbe h
      refine ev_callV (ci := 3) (a := 17) (y2 := y_Rows_at) (o := 8) (idx := 49) (d2 := d_Rows_at) (n := 2) (mc2 := 0) (ms2 := 0) (As := [.int x4, .int 1]) (st := []) (res2 := (some (.int q3.1), (jRx kk), q3.2)) (by decide +kernel) rfl lk_8_49 mo_Rows_at mv_Rows_at ⟨Nat.le_of_ble_eq_true rfl, Nat.le_of_ble_eq_true rfl⟩ rfl rfl (kz_17 hk) (by decide) rfl (Nat.le_of_ble_eq_true rfl) ⟨Nat.le_refl _, Nat.le_refl _⟩ hG (e_Rows_at hG hk (kz_17 hk) hq3) ?_
      refine ev_seg (o := 8) (nL := 6) (q := 44) (xs := [(.iload_n 1, 1, 1, 0, .null), (.ishr, 1, 0, 0, .null), (.iconst 1, 1, 0, 0, .int 1), (.iand, 1, 0, 0, .null), (.iconst 1, 1, 0, 0, .int 1)]) (L' := [some (.ref 16), some (.int x1), some (.int x2), some (.int x3), some (.int x4), some (.int q2.1)]) (st' := [.int 1, .int ((q3.1 >>> (x1 &&& 31)) &&& 1)]) (w' := q3.2) (g := []) (K := []) (by decide +kernel) rfl rfl rfl rfl jk0 ?_
      refine ev_icmp_ne (off := 31) (tgt := 75) (by decide +kernel) (by decide) (fun c8 => ?_) (fun c8 => ?_)
      · replace h := jneg c8 h
        refine ev_seg (o := 8) (nL := 6) (q := 5) (xs := [(.iinc 4 1, 3, 4, 0, .int 1), (.goto (-73), 3, 0, 0, .null)]) (L' := [some (.ref 16), some (.int x1), some (.int x2), some (.int x3), some (.int (x4 + 1)), some (.int q2.1)]) (st' := []) (w' := q3.2) (g := []) (K := []) (by decide +kernel) rfl rfl rfl rfl jk0 ?_
        refine ev_mask [true, true, true, true, true, false] ?_
        exact ih _ _ _ _ _ _ h
      · replace h := jpos c8 h
        refine ev_seg (o := 8) (nL := 6) (q := 50) (xs := [(.iload 5, 2, 5, 0, .null), (.iload_n 2, 1, 2, 0, .null)]) (L' := [some (.ref 16), some (.int x1), some (.int x2), some (.int x3), some (.int x4), some (.int q2.1)]) (st' := [.int x2, .int q2.1]) (w' := q3.2) (g := []) (K := []) (by decide +kernel) rfl rfl rfl rfl jk0 ?_
        refine ev_icmp_gt (off := 25) (tgt := 75) (by decide +kernel) (by decide) (fun c7 => ?_) (fun c7 => ?_)
        · replace h := jneg c7 h
          refine ev_seg (o := 8) (nL := 6) (q := 5) (xs := [(.iinc 4 1, 3, 4, 0, .int 1), (.goto (-73), 3, 0, 0, .null)]) (L' := [some (.ref 16), some (.int x1), some (.int x2), some (.int x3), some (.int (x4 + 1)), some (.int q2.1)]) (st' := []) (w' := q3.2) (g := []) (K := []) (by decide +kernel) rfl rfl rfl rfl jk0 ?_
          refine ev_mask [true, true, true, true, true, false] ?_
          exact ih _ _ _ _ _ _ h
        · replace h := jpos c7 h
          refine ev_seg (o := 8) (nL := 6) (q := 55) (xs := [(.iload_n 3, 1, 3, 0, .null), (.iconst (-1), 1, 0, 0, .int (-1))]) (L' := [some (.ref 16), some (.int x1), some (.int x2), some (.int x3), some (.int x4), some (.int q2.1)]) (st' := [.int (-1), .int x3]) (w' := q3.2) (g := []) (K := []) (by decide +kernel) rfl rfl rfl rfl jk0 ?_
          refine ev_icmp_eq (off := 17) (tgt := 72) (by decide +kernel) (by decide) (fun c6 => ?_) (fun c6 => ?_)
          · replace h := jpos c6 h
            refine ev_seg (o := 8) (nL := 6) (q := 5) (xs := [(.iload 4, 2, 4, 0, .null), (.istore_n 3, 1, 3, 0, .null), (.iinc 4 1, 3, 4, 0, .int 1), (.goto (-73), 3, 0, 0, .null)]) (L' := [some (.ref 16), some (.int x1), some (.int x2), some (.int x4), some (.int (x4 + 1)), some (.int q2.1)]) (st' := []) (w' := q3.2) (g := []) (K := []) (by decide +kernel) rfl rfl rfl rfl jk0 ?_
            refine ev_mask [true, true, true, true, true, false] ?_
            exact ih _ _ _ _ _ _ h
          · replace h := jneg c6 h
            refine ev_seg (o := 8) (nL := 6) (q := 66) (xs := [(.iload 5, 2, 5, 0, .null), (.aload_n 0, 1, 0, 0, .null), (.getfield 14, 3, 8, 0, .ref 3), (.iload_n 3, 1, 3, 0, .null), (.iconst 0, 1, 0, 0, .int 0)]) (L' := [some (.ref 16), some (.int x1), some (.int x2), some (.int x3), some (.int x4), some (.int q2.1)]) (st' := [.int 0, .int x3, .ref 17, .int q2.1]) (w' := q3.2) (g := []) (K := [(17, 3), (16, 8)]) (by decide +kernel) rfl rfl rfl rfl (jk1 (kz_17 hk) (jk1 (kz_16 hk) jk0)) ?_
            obtain ⟨q4, hq4, h⟩ := jbe h
            refine ev_callV (ci := 3) (a := 17) (y2 := y_Rows_at) (o := 8) (idx := 49) (d2 := d_Rows_at) (n := 2) (mc2 := 0) (ms2 := 0) (As := [.int x3, .int 0]) (st := [.int q2.1]) (res2 := (some (.int q4.1), (jRx kk), q4.2)) (by decide +kernel) rfl lk_8_49 mo_Rows_at mv_Rows_at ⟨Nat.le_of_ble_eq_true rfl, Nat.le_of_ble_eq_true rfl⟩ rfl rfl (kz_17 hk) (by decide) rfl (Nat.le_of_ble_eq_true rfl) ⟨Nat.le_refl _, Nat.le_refl _⟩ hG (e_Rows_at hG hk (kz_17 hk) hq4) ?_
            refine ev_icmp_lt (off := 6) (tgt := 75) (by decide +kernel) (by decide) (fun c5 => ?_) (fun c5 => ?_)
            · replace h := jpos c5 h
              refine ev_seg (o := 8) (nL := 6) (q := 5) (xs := [(.iinc 4 1, 3, 4, 0, .int 1), (.goto (-73), 3, 0, 0, .null)]) (L' := [some (.ref 16), some (.int x1), some (.int x2), some (.int x3), some (.int (x4 + 1)), some (.int q2.1)]) (st' := []) (w' := q4.2) (g := []) (K := []) (by decide +kernel) rfl rfl rfl rfl jk0 ?_
              refine ev_mask [true, true, true, true, true, false] ?_
              exact ih _ _ _ _ _ _ h
            · replace h := jneg c5 h
              refine ev_seg (o := 8) (nL := 6) (q := 5) (xs := [(.iload 4, 2, 4, 0, .null), (.istore_n 3, 1, 3, 0, .null), (.iinc 4 1, 3, 4, 0, .int 1), (.goto (-73), 3, 0, 0, .null)]) (L' := [some (.ref 16), some (.int x1), some (.int x2), some (.int x4), some (.int (x4 + 1)), some (.int q2.1)]) (st' := []) (w' := q4.2) (g := []) (K := []) (by decide +kernel) rfl rfl rfl rfl jk0 ?_
              refine ev_mask [true, true, true, true, true, false] ?_
              exact ih _ _ _ _ _ _ h
def f_Treaty_textFor (x1 : Int32) (x2 : Int32) (w : jW) : Option (Int32 × jW) :=
  f_Treaty_textFor_h5 jfu x1 x2 (-1) 0 w
set_option maxRecDepth 20000 in
theorem e_Treaty_textFor {l : Launch} {G : jG} (hG : jX G) {kk : Nat} (hk : 93 ≤ kk) {x1 : Int32} {x2 : Int32} {w : jW} {z : (Int32 × jW)} (h : f_Treaty_textFor x1 x2 w = some z) : Ct l G y_Treaty_textFor d_Treaty_textFor 0 0 [.ref 16, .int x1, .int x2] (jRx kk) w (some (.int z.1), (jRx kk), z.2) := by
  rw [f_Treaty_textFor] at h
  refine Ct.of (L := [some (.ref 16), some (.int x1), some (.int x2), none, none, none]) (by decide) (Nat.le_of_ble_eq_true rfl) rfl ?_
  refine ev_seg (o := 8) (nL := 6) (q := 5) (xs := [(.iconst (-1), 1, 0, 0, .int (-1)), (.istore_n 3, 1, 3, 0, .null), (.iconst 0, 1, 0, 0, .int 0), (.istore 4, 2, 4, 0, .null)]) (L' := [some (.ref 16), some (.int x1), some (.int x2), some (.int (-1)), some (.int 0), none]) (st' := []) (w' := w) (g := []) (K := []) (by decide +kernel) rfl rfl rfl rfl jk0 ?_
  refine ev_mask [true, true, true, true, true, false] ?_
  exact t_Treaty_textFor_h5 hG hk jfu _ _ _ _ _ _ h
def f_Treaty_limitOn_j68 (k21 : Int32 → Int32 → Int32 → Int32 → jW → Option (Int32 × jW)) (x1 : Int32) (x2 : Int32) (x3 : Int32) (x4 : Int32) (s0 : Int32) (w : jW) : Option (Int32 × jW) :=
  Option.bind (f_Rows_at 19 x4 0 w) fun q5 =>
  if q5.1 = 1 then
    if s0 = 0 then
      k21 x1 x2 x3 (x4 + 1) q5.2
    else
      Option.bind (f_Rows_at 19 x4 1 q5.2) fun q6 =>
      k21 x1 x2 (if q6.1 < x3 then q6.1 else x3) (x4 + 1) q6.2
  else
    k21 x1 x2 x3 (x4 + 1) q5.2
set_option maxRecDepth 20000 in
theorem t_Treaty_limitOn_j68 {l : Launch} {G : jG} (hG : jX G) {kk : Nat} (hk : 93 ≤ kk) {k21 : Int32 → Int32 → Int32 → Int32 → jW → Option (Int32 × jW)} (hk21 : ∀ (x1 : Int32) (x2 : Int32) (x3 : Int32) (x4 : Int32) (w : jW) (z : (Int32 × jW)), k21 x1 x2 x3 x4 w = some z → Ev l G (jrm d_Treaty_limitOn 0 0) y_Treaty_limitOn (some (.int z.1), (jRx kk), z.2) 0 0 0 0 21 [some (.ref 16), some (.int x1), some (.int x2), some (.int x3), some (.int x4), none] [] (jRx kk) w) {x1 : Int32} {x2 : Int32} {x3 : Int32} {x4 : Int32} {s0 : Int32} {w : jW} {z : (Int32 × jW)} (h : f_Treaty_limitOn_j68 k21 x1 x2 x3 x4 s0 w = some z) : Ev l G (jrm d_Treaty_limitOn 0 0) y_Treaty_limitOn (some (.int z.1), (jRx kk), z.2) 0 0 0 0 68 [some (.ref 16), some (.int x1), some (.int x2), some (.int x3), some (.int x4), none] [.int s0] (jRx kk) w := by
  rw [f_Treaty_limitOn_j68] at h
  refine ev_seg (o := 8) (nL := 6) (q := 77) (xs := [(.istore 5, 2, 5, 0, .null), (.aload_n 0, 1, 0, 0, .null), (.getfield 20, 3, 8, 1, .ref 3), (.iload 4, 2, 4, 0, .null), (.iconst 0, 1, 0, 0, .int 0)]) (L' := [some (.ref 16), some (.int x1), some (.int x2), some (.int x3), some (.int x4), some (.int s0)]) (st' := [.int 0, .int x4, .ref 19]) (w' := w) (g := []) (K := [(19, 3), (16, 8)]) (by decide +kernel) rfl rfl rfl rfl (jk1 (kz_19 hk) (jk1 (kz_16 hk) jk0)) ?_
  obtain ⟨q5, hq5, h⟩ := jbe h
  refine ev_callV (ci := 3) (a := 19) (y2 := y_Rows_at) (o := 8) (idx := 49) (d2 := d_Rows_at) (n := 2) (mc2 := 0) (ms2 := 0) (As := [.int x4, .int 0]) (st := []) (res2 := (some (.int q5.1), (jRx kk), q5.2)) (by decide +kernel) rfl lk_8_49 mo_Rows_at mv_Rows_at ⟨Nat.le_of_ble_eq_true rfl, Nat.le_of_ble_eq_true rfl⟩ rfl rfl (kz_19 hk) (by decide) rfl (Nat.le_of_ble_eq_true rfl) ⟨Nat.le_refl _, Nat.le_refl _⟩ hG (e_Rows_at hG hk (kz_19 hk) hq5) ?_
  refine ev_seg (o := 8) (nL := 6) (q := 81) (xs := [(.iconst 1, 1, 0, 0, .int 1)]) (L' := [some (.ref 16), some (.int x1), some (.int x2), some (.int x3), some (.int x4), some (.int s0)]) (st' := [.int 1, .int q5.1]) (w' := q5.2) (g := []) (K := []) (by decide +kernel) rfl rfl rfl rfl jk0 ?_
  refine ev_icmp_ne (off := 23) (tgt := 104) (by decide +kernel) (by decide) (fun c8 => ?_) (fun c8 => ?_)
  · replace h := jneg c8 h
    refine ev_seg (o := 8) (nL := 6) (q := 21) (xs := [(.iinc 4 1, 3, 4, 0, .int 1), (.goto (-86), 3, 0, 0, .null)]) (L' := [some (.ref 16), some (.int x1), some (.int x2), some (.int x3), some (.int (x4 + 1)), some (.int s0)]) (st' := []) (w' := q5.2) (g := []) (K := []) (by decide +kernel) rfl rfl rfl rfl jk0 ?_
    refine ev_mask [true, true, true, true, true, false] ?_
    exact hk21 _ _ _ _ _ _ h
  · replace h := jpos c8 h
    refine ev_seg (o := 8) (nL := 6) (q := 86) (xs := [(.iload 5, 2, 5, 0, .null)]) (L' := [some (.ref 16), some (.int x1), some (.int x2), some (.int x3), some (.int x4), some (.int s0)]) (st' := [.int s0]) (w' := q5.2) (g := []) (K := []) (by decide +kernel) rfl rfl rfl rfl jk0 ?_
    refine ev_if_eq (off := 18) (tgt := 104) (by decide +kernel) (by decide) (fun c7 => ?_) (fun c7 => ?_)
    · replace h := jpos c7 h
      refine ev_seg (o := 8) (nL := 6) (q := 21) (xs := [(.iinc 4 1, 3, 4, 0, .int 1), (.goto (-86), 3, 0, 0, .null)]) (L' := [some (.ref 16), some (.int x1), some (.int x2), some (.int x3), some (.int (x4 + 1)), some (.int s0)]) (st' := []) (w' := q5.2) (g := []) (K := []) (by decide +kernel) rfl rfl rfl rfl jk0 ?_
      refine ev_mask [true, true, true, true, true, false] ?_
      exact hk21 _ _ _ _ _ _ h
    · replace h := jneg c7 h
      refine ev_seg (o := 8) (nL := 6) (q := 97) (xs := [(.iload_n 3, 1, 3, 0, .null), (.aload_n 0, 1, 0, 0, .null), (.getfield 20, 3, 8, 1, .ref 3), (.iload 4, 2, 4, 0, .null), (.iconst 1, 1, 0, 0, .int 1)]) (L' := [some (.ref 16), some (.int x1), some (.int x2), some (.int x3), some (.int x4), some (.int s0)]) (st' := [.int 1, .int x4, .ref 19, .int x3]) (w' := q5.2) (g := []) (K := [(19, 3), (16, 8)]) (by decide +kernel) rfl rfl rfl rfl (jk1 (kz_19 hk) (jk1 (kz_16 hk) jk0)) ?_
      obtain ⟨q6, hq6, h⟩ := jbe h
      refine ev_callV (ci := 3) (a := 19) (y2 := y_Rows_at) (o := 8) (idx := 49) (d2 := d_Rows_at) (n := 2) (mc2 := 0) (ms2 := 0) (As := [.int x4, .int 1]) (st := [.int x3]) (res2 := (some (.int q6.1), (jRx kk), q6.2)) (by decide +kernel) rfl lk_8_49 mo_Rows_at mv_Rows_at ⟨Nat.le_of_ble_eq_true rfl, Nat.le_of_ble_eq_true rfl⟩ rfl rfl (kz_19 hk) (by decide) rfl (Nat.le_of_ble_eq_true rfl) ⟨Nat.le_refl _, Nat.le_refl _⟩ hG (e_Rows_at hG hk (kz_19 hk) hq6) ?_
      refine ev_min (o := 8) (idx := 64) (by decide +kernel) rfl lk_8_64 ms_min hMath mc_min (Nat.le_of_ble_eq_true rfl) (Nat.le_of_ble_eq_true rfl) (Nat.le_of_ble_eq_true rfl) (Nat.le_of_ble_eq_true rfl) ?_
      refine ev_seg (o := 8) (nL := 6) (q := 21) (xs := [(.istore_n 3, 1, 3, 0, .null), (.iinc 4 1, 3, 4, 0, .int 1), (.goto (-86), 3, 0, 0, .null)]) (L' := [some (.ref 16), some (.int x1), some (.int x2), some (.int (if q6.1 < x3 then q6.1 else x3)), some (.int (x4 + 1)), some (.int s0)]) (st' := []) (w' := q6.2) (g := []) (K := []) (by decide +kernel) rfl rfl rfl rfl jk0 ?_
      refine ev_mask [true, true, true, true, true, false] ?_
      exact hk21 _ _ _ _ _ _ h
def f_Treaty_limitOn_j67 (k21 : Int32 → Int32 → Int32 → Int32 → jW → Option (Int32 × jW)) (x1 : Int32) (x2 : Int32) (x3 : Int32) (x4 : Int32) (w : jW) : Option (Int32 × jW) :=
  f_Treaty_limitOn_j68 k21 x1 x2 x3 x4 0 w
set_option maxRecDepth 20000 in
theorem t_Treaty_limitOn_j67 {l : Launch} {G : jG} (hG : jX G) {kk : Nat} (hk : 93 ≤ kk) {k21 : Int32 → Int32 → Int32 → Int32 → jW → Option (Int32 × jW)} (hk21 : ∀ (x1 : Int32) (x2 : Int32) (x3 : Int32) (x4 : Int32) (w : jW) (z : (Int32 × jW)), k21 x1 x2 x3 x4 w = some z → Ev l G (jrm d_Treaty_limitOn 0 0) y_Treaty_limitOn (some (.int z.1), (jRx kk), z.2) 0 0 0 0 21 [some (.ref 16), some (.int x1), some (.int x2), some (.int x3), some (.int x4), none] [] (jRx kk) w) {x1 : Int32} {x2 : Int32} {x3 : Int32} {x4 : Int32} {w : jW} {z : (Int32 × jW)} (h : f_Treaty_limitOn_j67 k21 x1 x2 x3 x4 w = some z) : Ev l G (jrm d_Treaty_limitOn 0 0) y_Treaty_limitOn (some (.int z.1), (jRx kk), z.2) 0 0 0 0 67 [some (.ref 16), some (.int x1), some (.int x2), some (.int x3), some (.int x4), none] [] (jRx kk) w := by
  rw [f_Treaty_limitOn_j67] at h
  refine ev_seg (o := 8) (nL := 6) (q := 68) (xs := [(.iconst 0, 1, 0, 0, .int 0)]) (L' := [some (.ref 16), some (.int x1), some (.int x2), some (.int x3), some (.int x4), none]) (st' := [.int 0]) (w' := w) (g := []) (K := []) (by decide +kernel) rfl rfl rfl rfl jk0 ?_
  refine ev_mask [true, true, true, true, true, false] ?_
  exact t_Treaty_limitOn_j68 hG hk hk21 h
def f_Treaty_limitOn_h21 : Nat → Int32 → Int32 → Int32 → Int32 → jW → Option (Int32 × jW)
  | 0, _, _, _, _, _ => none
  | n + 1, x1, x2, x3, x4, w =>
  Option.bind (f_Rows_at 17 x2 3 w) fun q3 =>
  if x4 < q3.1 then
    Option.bind (f_Rows_at 19 x4 2 q3.2) fun q4 =>
    if q4.1 ≤ x1 then
      Option.bind (f_Rows_at 19 x4 3 q4.2) fun q9 =>
      if x1 ≤ q9.1 then
        f_Treaty_limitOn_j68 (f_Treaty_limitOn_h21 n) x1 x2 x3 x4 1 q9.2
      else
        f_Treaty_limitOn_j67 (f_Treaty_limitOn_h21 n) x1 x2 x3 x4 q9.2
    else
      f_Treaty_limitOn_j67 (f_Treaty_limitOn_h21 n) x1 x2 x3 x4 q4.2
  else
    some (x3, q3.2)
set_option maxRecDepth 20000 in
theorem t_Treaty_limitOn_h21 {l : Launch} {G : jG} (hG : jX G) {kk : Nat} (hk : 93 ≤ kk) : ∀ (n : Nat) (x1 : Int32) (x2 : Int32) (x3 : Int32) (x4 : Int32) (w : jW) (z : (Int32 × jW)), f_Treaty_limitOn_h21 n x1 x2 x3 x4 w = some z → Ev l G (jrm d_Treaty_limitOn 0 0) y_Treaty_limitOn (some (.int z.1), (jRx kk), z.2) 0 0 0 0 21 [some (.ref 16), some (.int x1), some (.int x2), some (.int x3), some (.int x4), none] [] (jRx kk) w := by
  intro n
  induction n with
  | zero => intro x1 x2 x3 x4 w z h; simp only [f_Treaty_limitOn_h21] at h; cases h
  | succ n ih =>
    intro x1 x2 x3 x4 w z h
    rw [f_Treaty_limitOn_h21] at h
    refine ev_seg (o := 8) (nL := 6) (q := 29) (xs := [(.iload 4, 2, 4, 0, .null), (.aload_n 0, 1, 0, 0, .null), (.getfield 14, 3, 8, 0, .ref 3), (.iload_n 2, 1, 2, 0, .null), (.iconst 3, 1, 0, 0, .int 3)]) (L' := [some (.ref 16), some (.int x1), some (.int x2), some (.int x3), some (.int x4), none]) (st' := [.int 3, .int x2, .ref 17, .int x4]) (w' := w) (g := []) (K := [(17, 3), (16, 8)]) (by decide +kernel) rfl rfl rfl rfl (jk1 (kz_17 hk) (jk1 (kz_16 hk) jk0)) ?_
    obtain ⟨q3, hq3, h⟩ := jbe h
    refine ev_callV (ci := 3) (a := 17) (y2 := y_Rows_at) (o := 8) (idx := 49) (d2 := d_Rows_at) (n := 2) (mc2 := 0) (ms2 := 0) (As := [.int x2, .int 3]) (st := [.int x4]) (res2 := (some (.int q3.1), (jRx kk), q3.2)) (by decide +kernel) rfl lk_8_49 mo_Rows_at mv_Rows_at ⟨Nat.le_of_ble_eq_true rfl, Nat.le_of_ble_eq_true rfl⟩ rfl rfl (kz_17 hk) (by decide) rfl (Nat.le_of_ble_eq_true rfl) ⟨Nat.le_refl _, Nat.le_refl _⟩ hG (e_Rows_at hG hk (kz_17 hk) hq3) ?_
    refine ev_icmp_ge (off := 78) (tgt := 110) (by decide +kernel) (by decide) (fun c12 => ?_) (fun c12 => ?_)
    · replace h := jneg c12 h
      refine ev_seg (o := 8) (nL := 6) (q := 111) (xs := [(.iload_n 3, 1, 3, 0, .null)]) (L' := [some (.ref 16), some (.int x1), some (.int x2), some (.int x3), some (.int x4), none]) (st' := [.int x3]) (w' := q3.2) (g := []) (K := []) (by decide +kernel) rfl rfl rfl rfl jk0 ?_
      cases h
      exact ev_iret (by decide +kernel) rfl rfl rfl rfl
    · replace h := jpos c12 h
      refine ev_seg (o := 8) (nL := 6) (q := 42) (xs := [(.aload_n 0, 1, 0, 0, .null), (.getfield 20, 3, 8, 1, .ref 3), (.iload 4, 2, 4, 0, .null), (.iconst 2, 1, 0, 0, .int 2)]) (L' := [some (.ref 16), some (.int x1), some (.int x2), some (.int x3), some (.int x4), none]) (st' := [.int 2, .int x4, .ref 19]) (w' := q3.2) (g := []) (K := [(19, 3), (16, 8)]) (by decide +kernel) rfl rfl rfl rfl (jk1 (kz_19 hk) (jk1 (kz_16 hk) jk0)) ?_
      obtain ⟨q4, hq4, h⟩ := jbe h
      refine ev_callV (ci := 3) (a := 19) (y2 := y_Rows_at) (o := 8) (idx := 49) (d2 := d_Rows_at) (n := 2) (mc2 := 0) (ms2 := 0) (As := [.int x4, .int 2]) (st := []) (res2 := (some (.int q4.1), (jRx kk), q4.2)) (by decide +kernel) rfl lk_8_49 mo_Rows_at mv_Rows_at ⟨Nat.le_of_ble_eq_true rfl, Nat.le_of_ble_eq_true rfl⟩ rfl rfl (kz_19 hk) (by decide) rfl (Nat.le_of_ble_eq_true rfl) ⟨Nat.le_refl _, Nat.le_refl _⟩ hG (e_Rows_at hG hk (kz_19 hk) hq4) ?_
      refine ev_seg (o := 8) (nL := 6) (q := 46) (xs := [(.iload_n 1, 1, 1, 0, .null)]) (L' := [some (.ref 16), some (.int x1), some (.int x2), some (.int x3), some (.int x4), none]) (st' := [.int x1, .int q4.1]) (w' := q4.2) (g := []) (K := []) (by decide +kernel) rfl rfl rfl rfl jk0 ?_
      refine ev_icmp_gt (off := 21) (tgt := 67) (by decide +kernel) (by decide) (fun c11 => ?_) (fun c11 => ?_)
      · replace h := jneg c11 h
        refine ev_mask [true, true, true, true, true, false] ?_
        exact t_Treaty_limitOn_j67 hG hk ih h
      · replace h := jpos c11 h
        refine ev_seg (o := 8) (nL := 6) (q := 57) (xs := [(.iload_n 1, 1, 1, 0, .null), (.aload_n 0, 1, 0, 0, .null), (.getfield 20, 3, 8, 1, .ref 3), (.iload 4, 2, 4, 0, .null), (.iconst 3, 1, 0, 0, .int 3)]) (L' := [some (.ref 16), some (.int x1), some (.int x2), some (.int x3), some (.int x4), none]) (st' := [.int 3, .int x4, .ref 19, .int x1]) (w' := q4.2) (g := []) (K := [(19, 3), (16, 8)]) (by decide +kernel) rfl rfl rfl rfl (jk1 (kz_19 hk) (jk1 (kz_16 hk) jk0)) ?_
        obtain ⟨q9, hq9, h⟩ := jbe h
        refine ev_callV (ci := 3) (a := 19) (y2 := y_Rows_at) (o := 8) (idx := 49) (d2 := d_Rows_at) (n := 2) (mc2 := 0) (ms2 := 0) (As := [.int x4, .int 3]) (st := [.int x1]) (res2 := (some (.int q9.1), (jRx kk), q9.2)) (by decide +kernel) rfl lk_8_49 mo_Rows_at mv_Rows_at ⟨Nat.le_of_ble_eq_true rfl, Nat.le_of_ble_eq_true rfl⟩ rfl rfl (kz_19 hk) (by decide) rfl (Nat.le_of_ble_eq_true rfl) ⟨Nat.le_refl _, Nat.le_refl _⟩ hG (e_Rows_at hG hk (kz_19 hk) hq9) ?_
        refine ev_icmp_gt (off := 7) (tgt := 67) (by decide +kernel) (by decide) (fun c10 => ?_) (fun c10 => ?_)
        · replace h := jneg c10 h
          refine ev_mask [true, true, true, true, true, false] ?_
          exact t_Treaty_limitOn_j67 hG hk ih h
        · replace h := jpos c10 h
          refine ev_seg (o := 8) (nL := 6) (q := 68) (xs := [(.iconst 1, 1, 0, 0, .int 1), (.goto 4, 3, 0, 0, .null)]) (L' := [some (.ref 16), some (.int x1), some (.int x2), some (.int x3), some (.int x4), none]) (st' := [.int 1]) (w' := q9.2) (g := []) (K := []) (by decide +kernel) rfl rfl rfl rfl jk0 ?_
          refine ev_mask [true, true, true, true, true, false] ?_
          exact t_Treaty_limitOn_j68 hG hk ih h
def f_Treaty_limitOn (x1 : Int32) (w : jW) : Option (Int32 × jW) :=
  Option.bind (f_Treaty_textFor 1 x1 w) fun q1 =>
  Option.bind (f_Rows_at 17 q1.1 2 q1.2) fun q2 =>
  f_Treaty_limitOn_h21 jfu x1 q1.1 99 q2.1 q2.2
set_option maxRecDepth 20000 in
theorem e_Treaty_limitOn {l : Launch} {G : jG} (hG : jX G) {kk : Nat} (hk : 93 ≤ kk) {x1 : Int32} {w : jW} {z : (Int32 × jW)} (h : f_Treaty_limitOn x1 w = some z) : Ct l G y_Treaty_limitOn d_Treaty_limitOn 0 0 [.ref 16, .int x1] (jRx kk) w (some (.int z.1), (jRx kk), z.2) := by
  rw [f_Treaty_limitOn] at h
  refine Ct.of (L := [some (.ref 16), some (.int x1), none, none, none, none]) (by decide) (Nat.le_of_ble_eq_true rfl) rfl ?_
  refine ev_seg (o := 8) (nL := 6) (q := 3) (xs := [(.aload_n 0, 1, 0, 0, .null), (.iconst 1, 1, 0, 0, .int 1), (.iload_n 1, 1, 1, 0, .null)]) (L' := [some (.ref 16), some (.int x1), none, none, none, none]) (st' := [.int x1, .int 1, .ref 16]) (w' := w) (g := []) (K := []) (by decide +kernel) rfl rfl rfl rfl jk0 ?_
  obtain ⟨q1, hq1, h⟩ := jbe h
  refine ev_callV (ci := 8) (a := 16) (y2 := y_Treaty_textFor) (o := 8) (idx := 61) (d2 := d_Treaty_textFor) (n := 2) (mc2 := 0) (ms2 := 0) (As := [.int 1, .int x1]) (st := []) (res2 := (some (.int q1.1), (jRx kk), q1.2)) (by decide +kernel) rfl lk_8_61 mo_Treaty_textFor mv_Treaty_textFor ⟨Nat.le_of_ble_eq_true rfl, Nat.le_of_ble_eq_true rfl⟩ rfl rfl (kz_16 hk) (by decide) rfl (Nat.le_of_ble_eq_true rfl) ⟨Nat.le_refl _, Nat.le_refl _⟩ hG (e_Treaty_textFor hG hk hq1) ?_
  refine ev_seg (o := 8) (nL := 6) (q := 16) (xs := [(.istore_n 2, 1, 2, 0, .null), (.bipush 99, 2, 0, 0, .int 99), (.istore_n 3, 1, 3, 0, .null), (.aload_n 0, 1, 0, 0, .null), (.getfield 14, 3, 8, 0, .ref 3), (.iload_n 2, 1, 2, 0, .null), (.iconst 2, 1, 0, 0, .int 2)]) (L' := [some (.ref 16), some (.int x1), some (.int q1.1), some (.int 99), none, none]) (st' := [.int 2, .int q1.1, .ref 17]) (w' := q1.2) (g := []) (K := [(17, 3), (16, 8)]) (by decide +kernel) rfl rfl rfl rfl (jk1 (kz_17 hk) (jk1 (kz_16 hk) jk0)) ?_
  obtain ⟨q2, hq2, h⟩ := jbe h
  refine ev_callV (ci := 3) (a := 17) (y2 := y_Rows_at) (o := 8) (idx := 49) (d2 := d_Rows_at) (n := 2) (mc2 := 0) (ms2 := 0) (As := [.int q1.1, .int 2]) (st := []) (res2 := (some (.int q2.1), (jRx kk), q2.2)) (by decide +kernel) rfl lk_8_49 mo_Rows_at mv_Rows_at ⟨Nat.le_of_ble_eq_true rfl, Nat.le_of_ble_eq_true rfl⟩ rfl rfl (kz_17 hk) (by decide) rfl (Nat.le_of_ble_eq_true rfl) ⟨Nat.le_refl _, Nat.le_refl _⟩ hG (e_Rows_at hG hk (kz_17 hk) hq2) ?_
  refine ev_seg (o := 8) (nL := 6) (q := 21) (xs := [(.istore 4, 2, 4, 0, .null)]) (L' := [some (.ref 16), some (.int x1), some (.int q1.1), some (.int 99), some (.int q2.1), none]) (st' := []) (w' := q2.2) (g := []) (K := []) (by decide +kernel) rfl rfl rfl rfl jk0 ?_
  refine ev_mask [true, true, true, true, true, false] ?_
  exact t_Treaty_limitOn_h21 hG hk jfu _ _ _ _ _ _ h
def f_Treaty_first_h20 : Nat → Int32 → Int32 → Int32 → Int32 → Int32 → jW → Option (Int32 × jW)
  | 0, _, _, _, _, _, _ => none
  | n + 1, x1, x3, x4, x5, x6, w =>
  Option.bind (f_Rows_at 17 x5 3 w) fun q3 =>
  if x6 < q3.1 then
    Option.bind (f_Rows_at 19 x6 0 q3.2) fun q4 =>
    if q4.1 = x1 then
      Option.bind (f_Rows_at 19 x6 x3 q4.2) fun q5 =>
      some (q5.1, q5.2)
    else
      (f_Treaty_first_h20 n) x1 x3 x4 x5 (x6 + 1) q4.2
  else
    some (x4, q3.2)
set_option maxRecDepth 20000 in
theorem t_Treaty_first_h20 {l : Launch} {G : jG} (hG : jX G) {kk : Nat} (hk : 93 ≤ kk) : ∀ (n : Nat) (x1 : Int32) (x3 : Int32) (x4 : Int32) (x5 : Int32) (x6 : Int32) (w : jW) (z : (Int32 × jW)), f_Treaty_first_h20 n x1 x3 x4 x5 x6 w = some z → Ev l G (jrm d_Treaty_first 0 0) y_Treaty_first (some (.int z.1), (jRx kk), z.2) 0 0 0 0 20 [some (.ref 16), some (.int x1), none, some (.int x3), some (.int x4), some (.int x5), some (.int x6)] [] (jRx kk) w := by
  intro n
  induction n with
  | zero => intro x1 x3 x4 x5 x6 w z h; simp only [f_Treaty_first_h20] at h; cases h
  | succ n ih =>
    intro x1 x3 x4 x5 x6 w z h
    rw [f_Treaty_first_h20] at h
    refine ev_seg (o := 8) (nL := 7) (q := 29) (xs := [(.iload 6, 2, 6, 0, .null), (.aload_n 0, 1, 0, 0, .null), (.getfield 14, 3, 8, 0, .ref 3), (.iload 5, 2, 5, 0, .null), (.iconst 3, 1, 0, 0, .int 3)]) (L' := [some (.ref 16), some (.int x1), none, some (.int x3), some (.int x4), some (.int x5), some (.int x6)]) (st' := [.int 3, .int x5, .ref 17, .int x6]) (w' := w) (g := []) (K := [(17, 3), (16, 8)]) (by decide +kernel) rfl rfl rfl rfl (jk1 (kz_17 hk) (jk1 (kz_16 hk) jk0)) ?_
    obtain ⟨q3, hq3, h⟩ := jbe h
    refine ev_callV (ci := 3) (a := 17) (y2 := y_Rows_at) (o := 8) (idx := 49) (d2 := d_Rows_at) (n := 2) (mc2 := 0) (ms2 := 0) (As := [.int x5, .int 3]) (st := [.int x6]) (res2 := (some (.int q3.1), (jRx kk), q3.2)) (by decide +kernel) rfl lk_8_49 mo_Rows_at mv_Rows_at ⟨Nat.le_of_ble_eq_true rfl, Nat.le_of_ble_eq_true rfl⟩ rfl rfl (kz_17 hk) (by decide) rfl (Nat.le_of_ble_eq_true rfl) ⟨Nat.le_refl _, Nat.le_refl _⟩ hG (e_Rows_at hG hk (kz_17 hk) hq3) ?_
    refine ev_icmp_ge (off := 34) (tgt := 66) (by decide +kernel) (by decide) (fun c7 => ?_) (fun c7 => ?_)
    · replace h := jneg c7 h
      refine ev_seg (o := 8) (nL := 7) (q := 68) (xs := [(.iload 4, 2, 4, 0, .null)]) (L' := [some (.ref 16), some (.int x1), none, some (.int x3), some (.int x4), some (.int x5), some (.int x6)]) (st' := [.int x4]) (w' := q3.2) (g := []) (K := []) (by decide +kernel) rfl rfl rfl rfl jk0 ?_
      cases h
      exact ev_iret (by decide +kernel) rfl rfl rfl rfl
    · replace h := jpos c7 h
      refine ev_seg (o := 8) (nL := 7) (q := 42) (xs := [(.aload_n 0, 1, 0, 0, .null), (.getfield 20, 3, 8, 1, .ref 3), (.iload 6, 2, 6, 0, .null), (.iconst 0, 1, 0, 0, .int 0)]) (L' := [some (.ref 16), some (.int x1), none, some (.int x3), some (.int x4), some (.int x5), some (.int x6)]) (st' := [.int 0, .int x6, .ref 19]) (w' := q3.2) (g := []) (K := [(19, 3), (16, 8)]) (by decide +kernel) rfl rfl rfl rfl (jk1 (kz_19 hk) (jk1 (kz_16 hk) jk0)) ?_
      obtain ⟨q4, hq4, h⟩ := jbe h
      refine ev_callV (ci := 3) (a := 19) (y2 := y_Rows_at) (o := 8) (idx := 49) (d2 := d_Rows_at) (n := 2) (mc2 := 0) (ms2 := 0) (As := [.int x6, .int 0]) (st := []) (res2 := (some (.int q4.1), (jRx kk), q4.2)) (by decide +kernel) rfl lk_8_49 mo_Rows_at mv_Rows_at ⟨Nat.le_of_ble_eq_true rfl, Nat.le_of_ble_eq_true rfl⟩ rfl rfl (kz_19 hk) (by decide) rfl (Nat.le_of_ble_eq_true rfl) ⟨Nat.le_refl _, Nat.le_refl _⟩ hG (e_Rows_at hG hk (kz_19 hk) hq4) ?_
      refine ev_seg (o := 8) (nL := 7) (q := 46) (xs := [(.iload_n 1, 1, 1, 0, .null)]) (L' := [some (.ref 16), some (.int x1), none, some (.int x3), some (.int x4), some (.int x5), some (.int x6)]) (st' := [.int x1, .int q4.1]) (w' := q4.2) (g := []) (K := []) (by decide +kernel) rfl rfl rfl rfl jk0 ?_
      refine ev_icmp_ne (off := 14) (tgt := 60) (by decide +kernel) (by decide) (fun c6 => ?_) (fun c6 => ?_)
      · replace h := jneg c6 h
        refine ev_seg (o := 8) (nL := 7) (q := 20) (xs := [(.iinc 6 1, 3, 6, 0, .int 1), (.goto (-43), 3, 0, 0, .null)]) (L' := [some (.ref 16), some (.int x1), none, some (.int x3), some (.int x4), some (.int x5), some (.int (x6 + 1))]) (st' := []) (w' := q4.2) (g := []) (K := []) (by decide +kernel) rfl rfl rfl rfl jk0 ?_
        refine ev_mask [true, true, false, true, true, true, true] ?_
        exact ih _ _ _ _ _ _ _ h
      · replace h := jpos c6 h
        refine ev_seg (o := 8) (nL := 7) (q := 56) (xs := [(.aload_n 0, 1, 0, 0, .null), (.getfield 20, 3, 8, 1, .ref 3), (.iload 6, 2, 6, 0, .null), (.iload_n 3, 1, 3, 0, .null)]) (L' := [some (.ref 16), some (.int x1), none, some (.int x3), some (.int x4), some (.int x5), some (.int x6)]) (st' := [.int x3, .int x6, .ref 19]) (w' := q4.2) (g := []) (K := [(19, 3), (16, 8)]) (by decide +kernel) rfl rfl rfl rfl (jk1 (kz_19 hk) (jk1 (kz_16 hk) jk0)) ?_
        obtain ⟨q5, hq5, h⟩ := jbe h
        refine ev_callV (ci := 3) (a := 19) (y2 := y_Rows_at) (o := 8) (idx := 49) (d2 := d_Rows_at) (n := 2) (mc2 := 0) (ms2 := 0) (As := [.int x6, .int x3]) (st := []) (res2 := (some (.int q5.1), (jRx kk), q5.2)) (by decide +kernel) rfl lk_8_49 mo_Rows_at mv_Rows_at ⟨Nat.le_of_ble_eq_true rfl, Nat.le_of_ble_eq_true rfl⟩ rfl rfl (kz_19 hk) (by decide) rfl (Nat.le_of_ble_eq_true rfl) ⟨Nat.le_refl _, Nat.le_refl _⟩ hG (e_Rows_at hG hk (kz_19 hk) hq5) ?_
        cases h
        exact ev_iret (by decide +kernel) rfl rfl rfl rfl
def f_Treaty_first (x1 : Int32) (x2 : Int32) (x3 : Int32) (x4 : Int32) (w : jW) : Option (Int32 × jW) :=
  Option.bind (f_Treaty_textFor x1 x2 w) fun q1 =>
  Option.bind (f_Rows_at 17 q1.1 2 q1.2) fun q2 =>
  f_Treaty_first_h20 jfu x1 x3 x4 q1.1 q2.1 q2.2
set_option maxRecDepth 20000 in
theorem e_Treaty_first {l : Launch} {G : jG} (hG : jX G) {kk : Nat} (hk : 93 ≤ kk) {x1 : Int32} {x2 : Int32} {x3 : Int32} {x4 : Int32} {w : jW} {z : (Int32 × jW)} (h : f_Treaty_first x1 x2 x3 x4 w = some z) : Ct l G y_Treaty_first d_Treaty_first 0 0 [.ref 16, .int x1, .int x2, .int x3, .int x4] (jRx kk) w (some (.int z.1), (jRx kk), z.2) := by
  rw [f_Treaty_first] at h
  refine Ct.of (L := [some (.ref 16), some (.int x1), some (.int x2), some (.int x3), some (.int x4), none, none]) (by decide) (Nat.le_of_ble_eq_true rfl) rfl ?_
  refine ev_seg (o := 8) (nL := 7) (q := 3) (xs := [(.aload_n 0, 1, 0, 0, .null), (.iload_n 1, 1, 1, 0, .null), (.iload_n 2, 1, 2, 0, .null)]) (L' := [some (.ref 16), some (.int x1), some (.int x2), some (.int x3), some (.int x4), none, none]) (st' := [.int x2, .int x1, .ref 16]) (w' := w) (g := []) (K := []) (by decide +kernel) rfl rfl rfl rfl jk0 ?_
  obtain ⟨q1, hq1, h⟩ := jbe h
  refine ev_callV (ci := 8) (a := 16) (y2 := y_Treaty_textFor) (o := 8) (idx := 61) (d2 := d_Treaty_textFor) (n := 2) (mc2 := 0) (ms2 := 0) (As := [.int x1, .int x2]) (st := []) (res2 := (some (.int q1.1), (jRx kk), q1.2)) (by decide +kernel) rfl lk_8_61 mo_Treaty_textFor mv_Treaty_textFor ⟨Nat.le_of_ble_eq_true rfl, Nat.le_of_ble_eq_true rfl⟩ rfl rfl (kz_16 hk) (by decide) rfl (Nat.le_of_ble_eq_true rfl) ⟨Nat.le_refl _, Nat.le_refl _⟩ hG (e_Treaty_textFor hG hk hq1) ?_
  refine ev_seg (o := 8) (nL := 7) (q := 15) (xs := [(.istore 5, 2, 5, 0, .null), (.aload_n 0, 1, 0, 0, .null), (.getfield 14, 3, 8, 0, .ref 3), (.iload 5, 2, 5, 0, .null), (.iconst 2, 1, 0, 0, .int 2)]) (L' := [some (.ref 16), some (.int x1), some (.int x2), some (.int x3), some (.int x4), some (.int q1.1), none]) (st' := [.int 2, .int q1.1, .ref 17]) (w' := q1.2) (g := []) (K := [(17, 3), (16, 8)]) (by decide +kernel) rfl rfl rfl rfl (jk1 (kz_17 hk) (jk1 (kz_16 hk) jk0)) ?_
  obtain ⟨q2, hq2, h⟩ := jbe h
  refine ev_callV (ci := 3) (a := 17) (y2 := y_Rows_at) (o := 8) (idx := 49) (d2 := d_Rows_at) (n := 2) (mc2 := 0) (ms2 := 0) (As := [.int q1.1, .int 2]) (st := []) (res2 := (some (.int q2.1), (jRx kk), q2.2)) (by decide +kernel) rfl lk_8_49 mo_Rows_at mv_Rows_at ⟨Nat.le_of_ble_eq_true rfl, Nat.le_of_ble_eq_true rfl⟩ rfl rfl (kz_17 hk) (by decide) rfl (Nat.le_of_ble_eq_true rfl) ⟨Nat.le_refl _, Nat.le_refl _⟩ hG (e_Rows_at hG hk (kz_17 hk) hq2) ?_
  refine ev_seg (o := 8) (nL := 7) (q := 20) (xs := [(.istore 6, 2, 6, 0, .null)]) (L' := [some (.ref 16), some (.int x1), some (.int x2), some (.int x3), some (.int x4), some (.int q1.1), some (.int q2.1)]) (st' := []) (w' := q2.2) (g := []) (K := []) (by decide +kernel) rfl rfl rfl rfl jk0 ?_
  refine ev_mask [true, true, false, true, true, true, true] ?_
  exact t_Treaty_first_h20 hG hk jfu _ _ _ _ _ _ _ h
def f_Treaty_tells (x1 : Int32) (x2 : Int32) (w : jW) : Option (Int32 × jW) :=
  if x1 = 0 then
    Option.bind (f_Treaty_limitOn x2 w) fun q2 =>
    some (q2.1, q2.2)
  else
  if x1 = 1 then
    Option.bind (f_Treaty_first 2 x2 1 30 w) fun q4 =>
    some (q4.1, q4.2)
  else
  if x1 = 2 then
    Option.bind (f_Treaty_first 3 x2 1 99 w) fun q6 =>
    some (q6.1, q6.2)
  else
  if x1 = 3 then
    Option.bind (f_Treaty_first 5 x2 1 3 w) fun q8 =>
    some (q8.1, q8.2)
  else
  if x1 = 4 then
    Option.bind (f_Treaty_first 5 x2 2 0 w) fun q10 =>
    some (q10.1, q10.2)
  else
  if x1 = 5 then
    Option.bind (f_Treaty_first 6 x2 1 30 w) fun q12 =>
    some (q12.1, q12.2)
  else
    some ((-1), w)
set_option maxRecDepth 20000 in
theorem e_Treaty_tells {l : Launch} {G : jG} (hG : jX G) {kk : Nat} (hk : 93 ≤ kk) {x1 : Int32} {x2 : Int32} {w : jW} {z : (Int32 × jW)} (h : f_Treaty_tells x1 x2 w = some z) : Ct l G y_Treaty_tells d_Treaty_tells 0 0 [.ref 16, .int x1, .int x2] (jRx kk) w (some (.int z.1), (jRx kk), z.2) := by
  rw [f_Treaty_tells] at h
  refine Ct.of (L := [some (.ref 16), some (.int x1), some (.int x2)]) (by decide) (Nat.le_of_ble_eq_true rfl) rfl ?_
  refine ev_seg (o := 8) (nL := 3) (q := 1) (xs := [(.iload_n 1, 1, 1, 0, .null)]) (L' := [some (.ref 16), some (.int x1), some (.int x2)]) (st' := [.int x1]) (w' := w) (g := []) (K := []) (by decide +kernel) rfl rfl rfl rfl jk0 ?_
  by_cases c1 : x1 = 0
  · replace h := jpos c1 h
    refine ev_tableIn (dflt := 94) (lo := 0) (hi := 5) (offs := #[39, 45, 55, 65, 74, 83]) (len := 39) (off := 39) (tgt := 40) (by decide +kernel) (by rw [c1]; decide) (by rw [c1]; decide) (by rw [c1]; decide) (by decide) ?_
    refine ev_seg (o := 8) (nL := 3) (q := 42) (xs := [(.aload_n 0, 1, 0, 0, .null), (.iload_n 2, 1, 2, 0, .null)]) (L' := [some (.ref 16), some (.int x1), some (.int x2)]) (st' := [.int x2, .ref 16]) (w' := w) (g := []) (K := []) (by decide +kernel) rfl rfl rfl rfl jk0 ?_
    obtain ⟨q2, hq2, h⟩ := jbe h
    refine ev_callV (ci := 8) (a := 16) (y2 := y_Treaty_limitOn) (o := 8) (idx := 54) (d2 := d_Treaty_limitOn) (n := 1) (mc2 := 0) (ms2 := 0) (As := [.int x2]) (st := []) (res2 := (some (.int q2.1), (jRx kk), q2.2)) (by decide +kernel) rfl lk_8_54 mo_Treaty_limitOn mv_Treaty_limitOn ⟨Nat.le_of_ble_eq_true rfl, Nat.le_of_ble_eq_true rfl⟩ rfl rfl (kz_16 hk) (by decide) rfl (Nat.le_of_ble_eq_true rfl) ⟨Nat.le_refl _, Nat.le_refl _⟩ hG (e_Treaty_limitOn hG hk hq2) ?_
    cases h
    exact ev_iret (by decide +kernel) rfl rfl rfl rfl
  · replace h := jneg c1 h
    by_cases c3 : x1 = 1
    · replace h := jpos c3 h
      refine ev_tableIn (dflt := 94) (lo := 0) (hi := 5) (offs := #[39, 45, 55, 65, 74, 83]) (len := 39) (off := 45) (tgt := 46) (by decide +kernel) (by rw [c3]; decide) (by rw [c3]; decide) (by rw [c3]; decide) (by decide) ?_
      refine ev_seg (o := 8) (nL := 3) (q := 52) (xs := [(.aload_n 0, 1, 0, 0, .null), (.iconst 2, 1, 0, 0, .int 2), (.iload_n 2, 1, 2, 0, .null), (.iconst 1, 1, 0, 0, .int 1), (.bipush 30, 2, 0, 0, .int 30)]) (L' := [some (.ref 16), some (.int x1), some (.int x2)]) (st' := [.int 30, .int 1, .int x2, .int 2, .ref 16]) (w' := w) (g := []) (K := []) (by decide +kernel) rfl rfl rfl rfl jk0 ?_
      obtain ⟨q4, hq4, h⟩ := jbe h
      refine ev_callV (ci := 8) (a := 16) (y2 := y_Treaty_first) (o := 8) (idx := 57) (d2 := d_Treaty_first) (n := 4) (mc2 := 0) (ms2 := 0) (As := [.int 2, .int x2, .int 1, .int 30]) (st := []) (res2 := (some (.int q4.1), (jRx kk), q4.2)) (by decide +kernel) rfl lk_8_57 mo_Treaty_first mv_Treaty_first ⟨Nat.le_of_ble_eq_true rfl, Nat.le_of_ble_eq_true rfl⟩ rfl rfl (kz_16 hk) (by decide) rfl (Nat.le_of_ble_eq_true rfl) ⟨Nat.le_refl _, Nat.le_refl _⟩ hG (e_Treaty_first hG hk hq4) ?_
      cases h
      exact ev_iret (by decide +kernel) rfl rfl rfl rfl
    · replace h := jneg c3 h
      by_cases c5 : x1 = 2
      · replace h := jpos c5 h
        refine ev_tableIn (dflt := 94) (lo := 0) (hi := 5) (offs := #[39, 45, 55, 65, 74, 83]) (len := 39) (off := 55) (tgt := 56) (by decide +kernel) (by rw [c5]; decide) (by rw [c5]; decide) (by rw [c5]; decide) (by decide) ?_
        refine ev_seg (o := 8) (nL := 3) (q := 62) (xs := [(.aload_n 0, 1, 0, 0, .null), (.iconst 3, 1, 0, 0, .int 3), (.iload_n 2, 1, 2, 0, .null), (.iconst 1, 1, 0, 0, .int 1), (.bipush 99, 2, 0, 0, .int 99)]) (L' := [some (.ref 16), some (.int x1), some (.int x2)]) (st' := [.int 99, .int 1, .int x2, .int 3, .ref 16]) (w' := w) (g := []) (K := []) (by decide +kernel) rfl rfl rfl rfl jk0 ?_
        obtain ⟨q6, hq6, h⟩ := jbe h
        refine ev_callV (ci := 8) (a := 16) (y2 := y_Treaty_first) (o := 8) (idx := 57) (d2 := d_Treaty_first) (n := 4) (mc2 := 0) (ms2 := 0) (As := [.int 3, .int x2, .int 1, .int 99]) (st := []) (res2 := (some (.int q6.1), (jRx kk), q6.2)) (by decide +kernel) rfl lk_8_57 mo_Treaty_first mv_Treaty_first ⟨Nat.le_of_ble_eq_true rfl, Nat.le_of_ble_eq_true rfl⟩ rfl rfl (kz_16 hk) (by decide) rfl (Nat.le_of_ble_eq_true rfl) ⟨Nat.le_refl _, Nat.le_refl _⟩ hG (e_Treaty_first hG hk hq6) ?_
        cases h
        exact ev_iret (by decide +kernel) rfl rfl rfl rfl
      · replace h := jneg c5 h
        by_cases c7 : x1 = 3
        · replace h := jpos c7 h
          refine ev_tableIn (dflt := 94) (lo := 0) (hi := 5) (offs := #[39, 45, 55, 65, 74, 83]) (len := 39) (off := 65) (tgt := 66) (by decide +kernel) (by rw [c7]; decide) (by rw [c7]; decide) (by rw [c7]; decide) (by decide) ?_
          refine ev_seg (o := 8) (nL := 3) (q := 71) (xs := [(.aload_n 0, 1, 0, 0, .null), (.iconst 5, 1, 0, 0, .int 5), (.iload_n 2, 1, 2, 0, .null), (.iconst 1, 1, 0, 0, .int 1), (.iconst 3, 1, 0, 0, .int 3)]) (L' := [some (.ref 16), some (.int x1), some (.int x2)]) (st' := [.int 3, .int 1, .int x2, .int 5, .ref 16]) (w' := w) (g := []) (K := []) (by decide +kernel) rfl rfl rfl rfl jk0 ?_
          obtain ⟨q8, hq8, h⟩ := jbe h
          refine ev_callV (ci := 8) (a := 16) (y2 := y_Treaty_first) (o := 8) (idx := 57) (d2 := d_Treaty_first) (n := 4) (mc2 := 0) (ms2 := 0) (As := [.int 5, .int x2, .int 1, .int 3]) (st := []) (res2 := (some (.int q8.1), (jRx kk), q8.2)) (by decide +kernel) rfl lk_8_57 mo_Treaty_first mv_Treaty_first ⟨Nat.le_of_ble_eq_true rfl, Nat.le_of_ble_eq_true rfl⟩ rfl rfl (kz_16 hk) (by decide) rfl (Nat.le_of_ble_eq_true rfl) ⟨Nat.le_refl _, Nat.le_refl _⟩ hG (e_Treaty_first hG hk hq8) ?_
          cases h
          exact ev_iret (by decide +kernel) rfl rfl rfl rfl
        · replace h := jneg c7 h
          by_cases c9 : x1 = 4
          · replace h := jpos c9 h
            refine ev_tableIn (dflt := 94) (lo := 0) (hi := 5) (offs := #[39, 45, 55, 65, 74, 83]) (len := 39) (off := 74) (tgt := 75) (by decide +kernel) (by rw [c9]; decide) (by rw [c9]; decide) (by rw [c9]; decide) (by decide) ?_
            refine ev_seg (o := 8) (nL := 3) (q := 80) (xs := [(.aload_n 0, 1, 0, 0, .null), (.iconst 5, 1, 0, 0, .int 5), (.iload_n 2, 1, 2, 0, .null), (.iconst 2, 1, 0, 0, .int 2), (.iconst 0, 1, 0, 0, .int 0)]) (L' := [some (.ref 16), some (.int x1), some (.int x2)]) (st' := [.int 0, .int 2, .int x2, .int 5, .ref 16]) (w' := w) (g := []) (K := []) (by decide +kernel) rfl rfl rfl rfl jk0 ?_
            obtain ⟨q10, hq10, h⟩ := jbe h
            refine ev_callV (ci := 8) (a := 16) (y2 := y_Treaty_first) (o := 8) (idx := 57) (d2 := d_Treaty_first) (n := 4) (mc2 := 0) (ms2 := 0) (As := [.int 5, .int x2, .int 2, .int 0]) (st := []) (res2 := (some (.int q10.1), (jRx kk), q10.2)) (by decide +kernel) rfl lk_8_57 mo_Treaty_first mv_Treaty_first ⟨Nat.le_of_ble_eq_true rfl, Nat.le_of_ble_eq_true rfl⟩ rfl rfl (kz_16 hk) (by decide) rfl (Nat.le_of_ble_eq_true rfl) ⟨Nat.le_refl _, Nat.le_refl _⟩ hG (e_Treaty_first hG hk hq10) ?_
            cases h
            exact ev_iret (by decide +kernel) rfl rfl rfl rfl
          · replace h := jneg c9 h
            by_cases c11 : x1 = 5
            · replace h := jpos c11 h
              refine ev_tableIn (dflt := 94) (lo := 0) (hi := 5) (offs := #[39, 45, 55, 65, 74, 83]) (len := 39) (off := 83) (tgt := 84) (by decide +kernel) (by rw [c11]; decide) (by rw [c11]; decide) (by rw [c11]; decide) (by decide) ?_
              refine ev_seg (o := 8) (nL := 3) (q := 91) (xs := [(.aload_n 0, 1, 0, 0, .null), (.bipush 6, 2, 0, 0, .int 6), (.iload_n 2, 1, 2, 0, .null), (.iconst 1, 1, 0, 0, .int 1), (.bipush 30, 2, 0, 0, .int 30)]) (L' := [some (.ref 16), some (.int x1), some (.int x2)]) (st' := [.int 30, .int 1, .int x2, .int 6, .ref 16]) (w' := w) (g := []) (K := []) (by decide +kernel) rfl rfl rfl rfl jk0 ?_
              obtain ⟨q12, hq12, h⟩ := jbe h
              refine ev_callV (ci := 8) (a := 16) (y2 := y_Treaty_first) (o := 8) (idx := 57) (d2 := d_Treaty_first) (n := 4) (mc2 := 0) (ms2 := 0) (As := [.int 6, .int x2, .int 1, .int 30]) (st := []) (res2 := (some (.int q12.1), (jRx kk), q12.2)) (by decide +kernel) rfl lk_8_57 mo_Treaty_first mv_Treaty_first ⟨Nat.le_of_ble_eq_true rfl, Nat.le_of_ble_eq_true rfl⟩ rfl rfl (kz_16 hk) (by decide) rfl (Nat.le_of_ble_eq_true rfl) ⟨Nat.le_refl _, Nat.le_refl _⟩ hG (e_Treaty_first hG hk hq12) ?_
              cases h
              exact ev_iret (by decide +kernel) rfl rfl rfl rfl
            · replace h := jneg c11 h
              have ec1 := lv_neT (a := 0) c1 rfl
              have ec3 := lv_neT (a := 1) c3 rfl
              have ec5 := lv_neT (a := 2) c5 rfl
              have ec7 := lv_neT (a := 3) c7 rfl
              have ec9 := lv_neT (a := 4) c9 rfl
              have ec11 := lv_neT (a := 5) c11 rfl
              refine ev_tableOut (dflt := 94) (lo := 0) (hi := 5) (offs := #[39, 45, 55, 65, 74, 83]) (len := 39) (tgt := 95) (by decide +kernel) (by omega) (by decide) ?_
              refine ev_seg (o := 8) (nL := 3) (q := 96) (xs := [(.iconst (-1), 1, 0, 0, .int (-1))]) (L' := [some (.ref 16), some (.int x1), some (.int x2)]) (st' := [.int (-1)]) (w' := w) (g := []) (K := []) (by decide +kernel) rfl rfl rfl rfl jk0 ?_
              cases h
              exact ev_iret (by decide +kernel) rfl rfl rfl rfl
def f_Count_step_j168 (x1 : Int32) (x3 : Int32) (x4 : Int32) (w : jW) : Option (Int32 × jW) :=
  Option.bind (f_Rows_at 10 x1 3 w) fun q9 =>
  Option.bind (f_State_addAct 2 q9.1 x1 x3 q9.2) fun q10 =>
  some (x4, q10)
set_option maxRecDepth 20000 in
theorem t_Count_step_j168 {l : Launch} {G : jG} (hG : jX G) {kk : Nat} (hk : 93 ≤ kk) {x1 : Int32} {x3 : Int32} {x4 : Int32} {w : jW} {z : (Int32 × jW)} (h : f_Count_step_j168 x1 x3 x4 w = some z) : Ev l G (jrm d_Count_step 0 0) y_Count_step (some (.int z.1), (jRx kk), z.2) 0 0 0 0 168 [some (.ref 2), some (.int x1), none, some (.int x3), some (.int x4)] [] (jRx kk) w := by
  rw [f_Count_step_j168] at h
  refine ev_seg (o := 9) (nL := 5) (q := 182) (xs := [(.aload_n 0, 1, 0, 0, .null), (.getfield 12, 3, 9, 0, .ref 6), (.iconst 2, 1, 0, 0, .int 2), (.aload_n 0, 1, 0, 0, .null), (.getfield 12, 3, 9, 0, .ref 6), (.getfield 100, 3, 6, 8, .ref 3), (.iload_n 1, 1, 1, 0, .null), (.iconst 3, 1, 0, 0, .int 3)]) (L' := [some (.ref 2), some (.int x1), none, some (.int x3), some (.int x4)]) (st' := [.int 3, .int x1, .ref 10, .int 2, .ref 3]) (w' := w) (g := []) (K := [(10, 3), (3, 6), (3, 6), (2, 9), (3, 6), (2, 9)]) (by decide +kernel) rfl rfl rfl rfl (jk1 (kz_10 hk) (jk1 (kz_3 hk) (jk1 (kz_3 hk) (jk1 (kz_2 hk) (jk1 (kz_3 hk) (jk1 (kz_2 hk) jk0)))))) ?_
  obtain ⟨q9, hq9, h⟩ := jbe h
  refine ev_callV (ci := 3) (a := 10) (y2 := y_Rows_at) (o := 9) (idx := 83) (d2 := d_Rows_at) (n := 2) (mc2 := 0) (ms2 := 0) (As := [.int x1, .int 3]) (st := [.int 2, .ref 3]) (res2 := (some (.int q9.1), (jRx kk), q9.2)) (by decide +kernel) rfl lk_9_83 mo_Rows_at mv_Rows_at ⟨Nat.le_of_ble_eq_true rfl, Nat.le_of_ble_eq_true rfl⟩ rfl rfl (kz_10 hk) (by decide) rfl (Nat.le_of_ble_eq_true rfl) ⟨Nat.le_refl _, Nat.le_refl _⟩ hG (e_Rows_at hG hk (kz_10 hk) hq9) ?_
  refine ev_seg (o := 9) (nL := 5) (q := 187) (xs := [(.iload_n 1, 1, 1, 0, .null), (.iload_n 3, 1, 3, 0, .null)]) (L' := [some (.ref 2), some (.int x1), none, some (.int x3), some (.int x4)]) (st' := [.int x3, .int x1, .int q9.1, .int 2, .ref 3]) (w' := q9.2) (g := []) (K := []) (by decide +kernel) rfl rfl rfl rfl jk0 ?_
  obtain ⟨q10, hq10, h⟩ := jbe h
  refine ev_callV (ci := 6) (a := 3) (y2 := y_State_addAct) (o := 9) (idx := 122) (d2 := d_State_addAct) (n := 4) (mc2 := 0) (ms2 := 0) (As := [.int 2, .int q9.1, .int x1, .int x3]) (st := []) (res2 := (none, (jRx kk), q10)) (by decide +kernel) rfl lk_9_122 mo_State_addAct mv_State_addAct ⟨Nat.le_of_ble_eq_true rfl, Nat.le_of_ble_eq_true rfl⟩ rfl rfl (kz_3 hk) (by decide) rfl (Nat.le_of_ble_eq_true rfl) ⟨Nat.le_refl _, Nat.le_refl _⟩ hG (e_State_addAct hG hk hq10) ?_
  refine ev_seg (o := 9) (nL := 5) (q := 192) (xs := [(.iload 4, 2, 4, 0, .null)]) (L' := [some (.ref 2), some (.int x1), none, some (.int x3), some (.int x4)]) (st' := [.int x4]) (w' := q10) (g := []) (K := []) (by decide +kernel) rfl rfl rfl rfl jk0 ?_
  cases h
  exact ev_iret (by decide +kernel) rfl rfl rfl rfl
def f_Count_step (x1 : Int32) (w : jW) : Option (Int32 × jW) :=
  Option.bind (f_Rows_has 10 x1 w) fun q1 =>
  if q1.1 = 0 then
    some ((-1), q1.2)
  else
    Option.bind (f_State_placeOn x1 (q1.2.1 3 0) q1.2) fun q2 =>
    Option.bind (f_Rows_at 10 x1 9 q2.2) fun q3 =>
    Option.bind (f_Rows_at 6 q2.1 1 q3.2) fun q4 =>
    if q4.1 = 3 then
      if q3.1 = (q4.2.1 3 0) then
        some ((-1), q4.2)
      else
        Option.bind (f_Rows_at 10 x1 5 q4.2) fun q5 =>
        Option.bind (f_Rows_put 10 x1 5 (q5.1 + 1) q5.2) fun q6 =>
        Option.bind (f_Rows_put 10 x1 9 (q6.1 3 0) q6) fun q7 =>
        Option.bind (f_Treaty_tells 3 (q7.1 3 0) q7) fun q8 =>
        if (q5.1 + 1) < q8.1 then
          f_Count_step_j168 x1 q3.1 (q5.1 + 1) q8.2
        else
          Option.bind (f_Rows_put 10 x1 10 (q8.2.1 3 0) q8.2) fun q11 =>
          f_Count_step_j168 x1 q3.1 (q5.1 + 1) q11
    else
      some ((-1), q4.2)
set_option maxRecDepth 20000 in
theorem e_Count_step {l : Launch} {G : jG} (hG : jX G) {kk : Nat} (hk : 93 ≤ kk) {x1 : Int32} {w : jW} {z : (Int32 × jW)} (h : f_Count_step x1 w = some z) : Ct l G y_Count_step d_Count_step 0 0 [.ref 2, .int x1] (jRx kk) w (some (.int z.1), (jRx kk), z.2) := by
  rw [f_Count_step] at h
  refine Ct.of (L := [some (.ref 2), some (.int x1), none, none, none]) (by decide) (Nat.le_of_ble_eq_true rfl) rfl ?_
  refine ev_seg (o := 9) (nL := 5) (q := 8) (xs := [(.aload_n 0, 1, 0, 0, .null), (.getfield 12, 3, 9, 0, .ref 6), (.getfield 100, 3, 6, 8, .ref 3), (.iload_n 1, 1, 1, 0, .null)]) (L' := [some (.ref 2), some (.int x1), none, none, none]) (st' := [.int x1, .ref 10]) (w' := w) (g := []) (K := [(10, 3), (3, 6), (3, 6), (2, 9)]) (by decide +kernel) rfl rfl rfl rfl (jk1 (kz_10 hk) (jk1 (kz_3 hk) (jk1 (kz_3 hk) (jk1 (kz_2 hk) jk0)))) ?_
  obtain ⟨q1, hq1, h⟩ := jbe h
  refine ev_callV (ci := 3) (a := 10) (y2 := y_Rows_has) (o := 9) (idx := 80) (d2 := d_Rows_has) (n := 1) (mc2 := 0) (ms2 := 0) (As := [.int x1]) (st := []) (res2 := (some (.int q1.1), (jRx kk), q1.2)) (by decide +kernel) rfl lk_9_80 mo_Rows_has mv_Rows_has ⟨Nat.le_of_ble_eq_true rfl, Nat.le_of_ble_eq_true rfl⟩ rfl rfl (kz_10 hk) (by decide) rfl (Nat.le_of_ble_eq_true rfl) ⟨Nat.le_refl _, Nat.le_refl _⟩ hG (e_Rows_has hG hk (kz_10 hk) hq1) ?_
  refine ev_if_ne (off := 5) (tgt := 16) (by decide +kernel) (by decide) (fun c15 => ?_) (fun c15 => ?_)
  · replace h := jneg c15 h
    refine ev_seg (o := 9) (nL := 5) (q := 28) (xs := [(.aload_n 0, 1, 0, 0, .null), (.getfield 12, 3, 9, 0, .ref 6), (.iload_n 1, 1, 1, 0, .null), (.aload_n 0, 1, 0, 0, .null), (.getfield 12, 3, 9, 0, .ref 6), (.getfield 119, 3, 6, 0, .int 0)]) (L' := [some (.ref 2), some (.int x1), none, none, none]) (st' := [.int (q1.2.1 3 0), .int x1, .ref 3]) (w' := q1.2) (g := []) (K := [(3, 6), (3, 6), (2, 9), (3, 6), (2, 9)]) (by decide +kernel) rfl rfl rfl rfl (jk1 (kz_3 hk) (jk1 (kz_3 hk) (jk1 (kz_2 hk) (jk1 (kz_3 hk) (jk1 (kz_2 hk) jk0))))) ?_
    obtain ⟨q2, hq2, h⟩ := jbe h
    refine ev_callV (ci := 6) (a := 3) (y2 := y_State_placeOn) (o := 9) (idx := 129) (d2 := d_State_placeOn) (n := 2) (mc2 := 0) (ms2 := 0) (As := [.int x1, .int (q1.2.1 3 0)]) (st := []) (res2 := (some (.int q2.1), (jRx kk), q2.2)) (by decide +kernel) rfl lk_9_129 mo_State_placeOn mv_State_placeOn ⟨Nat.le_of_ble_eq_true rfl, Nat.le_of_ble_eq_true rfl⟩ rfl rfl (kz_3 hk) (by decide) rfl (Nat.le_of_ble_eq_true rfl) ⟨Nat.le_refl _, Nat.le_refl _⟩ hG (e_State_placeOn hG hk hq2) ?_
    refine ev_seg (o := 9) (nL := 5) (q := 42) (xs := [(.istore_n 2, 1, 2, 0, .null), (.aload_n 0, 1, 0, 0, .null), (.getfield 12, 3, 9, 0, .ref 6), (.getfield 100, 3, 6, 8, .ref 3), (.iload_n 1, 1, 1, 0, .null), (.bipush 9, 2, 0, 0, .int 9)]) (L' := [some (.ref 2), some (.int x1), some (.int q2.1), none, none]) (st' := [.int 9, .int x1, .ref 10]) (w' := q2.2) (g := []) (K := [(10, 3), (3, 6), (3, 6), (2, 9)]) (by decide +kernel) rfl rfl rfl rfl (jk1 (kz_10 hk) (jk1 (kz_3 hk) (jk1 (kz_3 hk) (jk1 (kz_2 hk) jk0)))) ?_
    obtain ⟨q3, hq3, h⟩ := jbe h
    refine ev_callV (ci := 3) (a := 10) (y2 := y_Rows_at) (o := 9) (idx := 83) (d2 := d_Rows_at) (n := 2) (mc2 := 0) (ms2 := 0) (As := [.int x1, .int 9]) (st := []) (res2 := (some (.int q3.1), (jRx kk), q3.2)) (by decide +kernel) rfl lk_9_83 mo_Rows_at mv_Rows_at ⟨Nat.le_of_ble_eq_true rfl, Nat.le_of_ble_eq_true rfl⟩ rfl rfl (kz_10 hk) (by decide) rfl (Nat.le_of_ble_eq_true rfl) ⟨Nat.le_refl _, Nat.le_refl _⟩ hG (e_Rows_at hG hk (kz_10 hk) hq3) ?_
    refine ev_seg (o := 9) (nL := 5) (q := 55) (xs := [(.istore_n 3, 1, 3, 0, .null), (.aload_n 0, 1, 0, 0, .null), (.getfield 12, 3, 9, 0, .ref 6), (.getfield 58, 3, 6, 6, .ref 3), (.iload_n 2, 1, 2, 0, .null), (.iconst 1, 1, 0, 0, .int 1)]) (L' := [some (.ref 2), some (.int x1), some (.int q2.1), some (.int q3.1), none]) (st' := [.int 1, .int q2.1, .ref 6]) (w' := q3.2) (g := []) (K := [(6, 3), (3, 6), (3, 6), (2, 9)]) (by decide +kernel) rfl rfl rfl rfl (jk1 (kz_6 hk) (jk1 (kz_3 hk) (jk1 (kz_3 hk) (jk1 (kz_2 hk) jk0)))) ?_
    obtain ⟨q4, hq4, h⟩ := jbe h
    refine ev_callV (ci := 3) (a := 6) (y2 := y_Rows_at) (o := 9) (idx := 83) (d2 := d_Rows_at) (n := 2) (mc2 := 0) (ms2 := 0) (As := [.int q2.1, .int 1]) (st := []) (res2 := (some (.int q4.1), (jRx kk), q4.2)) (by decide +kernel) rfl lk_9_83 mo_Rows_at mv_Rows_at ⟨Nat.le_of_ble_eq_true rfl, Nat.le_of_ble_eq_true rfl⟩ rfl rfl (kz_6 hk) (by decide) rfl (Nat.le_of_ble_eq_true rfl) ⟨Nat.le_refl _, Nat.le_refl _⟩ hG (e_Rows_at hG hk (kz_6 hk) hq4) ?_
    refine ev_seg (o := 9) (nL := 5) (q := 59) (xs := [(.iconst 3, 1, 0, 0, .int 3)]) (L' := [some (.ref 2), some (.int x1), some (.int q2.1), some (.int q3.1), none]) (st' := [.int 3, .int q4.1]) (w' := q4.2) (g := []) (K := []) (by decide +kernel) rfl rfl rfl rfl jk0 ?_
    refine ev_icmp_ne (off := 14) (tgt := 73) (by decide +kernel) (by decide) (fun c14 => ?_) (fun c14 => ?_)
    · replace h := jneg c14 h
      refine ev_seg (o := 9) (nL := 5) (q := 74) (xs := [(.iconst (-1), 1, 0, 0, .int (-1))]) (L' := [some (.ref 2), some (.int x1), some (.int q2.1), some (.int q3.1), none]) (st' := [.int (-1)]) (w' := q4.2) (g := []) (K := []) (by decide +kernel) rfl rfl rfl rfl jk0 ?_
      cases h
      exact ev_iret (by decide +kernel) rfl rfl rfl rfl
    · replace h := jpos c14 h
      refine ev_seg (o := 9) (nL := 5) (q := 70) (xs := [(.iload_n 3, 1, 3, 0, .null), (.aload_n 0, 1, 0, 0, .null), (.getfield 12, 3, 9, 0, .ref 6), (.getfield 119, 3, 6, 0, .int 0)]) (L' := [some (.ref 2), some (.int x1), some (.int q2.1), some (.int q3.1), none]) (st' := [.int (q4.2.1 3 0), .int q3.1]) (w' := q4.2) (g := []) (K := [(3, 6), (3, 6), (2, 9)]) (by decide +kernel) rfl rfl rfl rfl (jk1 (kz_3 hk) (jk1 (kz_3 hk) (jk1 (kz_2 hk) jk0))) ?_
      refine ev_icmp_ne (off := 5) (tgt := 75) (by decide +kernel) (by decide) (fun c13 => ?_) (fun c13 => ?_)
      · replace h := jneg c13 h
        refine ev_seg (o := 9) (nL := 5) (q := 84) (xs := [(.aload_n 0, 1, 0, 0, .null), (.getfield 12, 3, 9, 0, .ref 6), (.getfield 100, 3, 6, 8, .ref 3), (.iload_n 1, 1, 1, 0, .null), (.iconst 5, 1, 0, 0, .int 5)]) (L' := [some (.ref 2), some (.int x1), some (.int q2.1), some (.int q3.1), none]) (st' := [.int 5, .int x1, .ref 10]) (w' := q4.2) (g := []) (K := [(10, 3), (3, 6), (3, 6), (2, 9)]) (by decide +kernel) rfl rfl rfl rfl (jk1 (kz_10 hk) (jk1 (kz_3 hk) (jk1 (kz_3 hk) (jk1 (kz_2 hk) jk0)))) ?_
        obtain ⟨q5, hq5, h⟩ := jbe h
        refine ev_callV (ci := 3) (a := 10) (y2 := y_Rows_at) (o := 9) (idx := 83) (d2 := d_Rows_at) (n := 2) (mc2 := 0) (ms2 := 0) (As := [.int x1, .int 5]) (st := []) (res2 := (some (.int q5.1), (jRx kk), q5.2)) (by decide +kernel) rfl lk_9_83 mo_Rows_at mv_Rows_at ⟨Nat.le_of_ble_eq_true rfl, Nat.le_of_ble_eq_true rfl⟩ rfl rfl (kz_10 hk) (by decide) rfl (Nat.le_of_ble_eq_true rfl) ⟨Nat.le_refl _, Nat.le_refl _⟩ hG (e_Rows_at hG hk (kz_10 hk) hq5) ?_
        refine ev_seg (o := 9) (nL := 5) (q := 102) (xs := [(.iconst 1, 1, 0, 0, .int 1), (.iadd, 1, 0, 0, .null), (.istore 4, 2, 4, 0, .null), (.aload_n 0, 1, 0, 0, .null), (.getfield 12, 3, 9, 0, .ref 6), (.getfield 100, 3, 6, 8, .ref 3), (.iload_n 1, 1, 1, 0, .null), (.iconst 5, 1, 0, 0, .int 5), (.iload 4, 2, 4, 0, .null)]) (L' := [some (.ref 2), some (.int x1), some (.int q2.1), some (.int q3.1), some (.int (q5.1 + 1))]) (st' := [.int (q5.1 + 1), .int 5, .int x1, .ref 10]) (w' := q5.2) (g := []) (K := [(10, 3), (3, 6), (3, 6), (2, 9)]) (by decide +kernel) rfl rfl rfl rfl (jk1 (kz_10 hk) (jk1 (kz_3 hk) (jk1 (kz_3 hk) (jk1 (kz_2 hk) jk0)))) ?_
        obtain ⟨q6, hq6, h⟩ := jbe h
        refine ev_callV (ci := 3) (a := 10) (y2 := y_Rows_put) (o := 9) (idx := 72) (d2 := d_Rows_put) (n := 3) (mc2 := 0) (ms2 := 0) (As := [.int x1, .int 5, .int (q5.1 + 1)]) (st := []) (res2 := (none, (jRx kk), q6)) (by decide +kernel) rfl lk_9_72 mo_Rows_put mv_Rows_put ⟨Nat.le_of_ble_eq_true rfl, Nat.le_of_ble_eq_true rfl⟩ rfl rfl (kz_10 hk) (by decide) rfl (Nat.le_of_ble_eq_true rfl) ⟨Nat.le_refl _, Nat.le_refl _⟩ hG (e_Rows_put hG hk (kz_10 hk) hq6) ?_
        refine ev_seg (o := 9) (nL := 5) (q := 122) (xs := [(.aload_n 0, 1, 0, 0, .null), (.getfield 12, 3, 9, 0, .ref 6), (.getfield 100, 3, 6, 8, .ref 3), (.iload_n 1, 1, 1, 0, .null), (.bipush 9, 2, 0, 0, .int 9), (.aload_n 0, 1, 0, 0, .null), (.getfield 12, 3, 9, 0, .ref 6), (.getfield 119, 3, 6, 0, .int 0)]) (L' := [some (.ref 2), some (.int x1), some (.int q2.1), some (.int q3.1), some (.int (q5.1 + 1))]) (st' := [.int (q6.1 3 0), .int 9, .int x1, .ref 10]) (w' := q6) (g := []) (K := [(3, 6), (3, 6), (2, 9), (10, 3), (3, 6), (3, 6), (2, 9)]) (by decide +kernel) rfl rfl rfl rfl (jk1 (kz_3 hk) (jk1 (kz_3 hk) (jk1 (kz_2 hk) (jk1 (kz_10 hk) (jk1 (kz_3 hk) (jk1 (kz_3 hk) (jk1 (kz_2 hk) jk0))))))) ?_
        obtain ⟨q7, hq7, h⟩ := jbe h
        refine ev_callV (ci := 3) (a := 10) (y2 := y_Rows_put) (o := 9) (idx := 72) (d2 := d_Rows_put) (n := 3) (mc2 := 0) (ms2 := 0) (As := [.int x1, .int 9, .int (q6.1 3 0)]) (st := []) (res2 := (none, (jRx kk), q7)) (by decide +kernel) rfl lk_9_72 mo_Rows_put mv_Rows_put ⟨Nat.le_of_ble_eq_true rfl, Nat.le_of_ble_eq_true rfl⟩ rfl rfl (kz_10 hk) (by decide) rfl (Nat.le_of_ble_eq_true rfl) ⟨Nat.le_refl _, Nat.le_refl _⟩ hG (e_Rows_put hG hk (kz_10 hk) hq7) ?_
        refine ev_seg (o := 9) (nL := 5) (q := 142) (xs := [(.iload 4, 2, 4, 0, .null), (.aload_n 0, 1, 0, 0, .null), (.getfield 12, 3, 9, 0, .ref 6), (.getfield 132, 3, 6, 11, .ref 8), (.iconst 3, 1, 0, 0, .int 3), (.aload_n 0, 1, 0, 0, .null), (.getfield 12, 3, 9, 0, .ref 6), (.getfield 119, 3, 6, 0, .int 0)]) (L' := [some (.ref 2), some (.int x1), some (.int q2.1), some (.int q3.1), some (.int (q5.1 + 1))]) (st' := [.int (q7.1 3 0), .int 3, .ref 16, .int (q5.1 + 1)]) (w' := q7) (g := []) (K := [(3, 6), (3, 6), (2, 9), (16, 8), (3, 6), (3, 6), (2, 9)]) (by decide +kernel) rfl rfl rfl rfl (jk1 (kz_3 hk) (jk1 (kz_3 hk) (jk1 (kz_2 hk) (jk1 (kz_16 hk) (jk1 (kz_3 hk) (jk1 (kz_3 hk) (jk1 (kz_2 hk) jk0))))))) ?_
        obtain ⟨q8, hq8, h⟩ := jbe h
        refine ev_callV (ci := 8) (a := 16) (y2 := y_Treaty_tells) (o := 9) (idx := 136) (d2 := d_Treaty_tells) (n := 2) (mc2 := 0) (ms2 := 0) (As := [.int 3, .int (q7.1 3 0)]) (st := [.int (q5.1 + 1)]) (res2 := (some (.int q8.1), (jRx kk), q8.2)) (by decide +kernel) rfl lk_9_136 mo_Treaty_tells mv_Treaty_tells ⟨Nat.le_of_ble_eq_true rfl, Nat.le_of_ble_eq_true rfl⟩ rfl rfl (kz_16 hk) (by decide) rfl (Nat.le_of_ble_eq_true rfl) ⟨Nat.le_refl _, Nat.le_refl _⟩ hG (e_Treaty_tells hG hk hq8) ?_
        refine ev_icmp_lt (off := 23) (tgt := 168) (by decide +kernel) (by decide) (fun c12 => ?_) (fun c12 => ?_)
        · replace h := jpos c12 h
          refine ev_mask [true, true, false, true, true] ?_
          exact t_Count_step_j168 hG hk h
        · replace h := jneg c12 h
          refine ev_seg (o := 9) (nL := 5) (q := 165) (xs := [(.aload_n 0, 1, 0, 0, .null), (.getfield 12, 3, 9, 0, .ref 6), (.getfield 100, 3, 6, 8, .ref 3), (.iload_n 1, 1, 1, 0, .null), (.bipush 10, 2, 0, 0, .int 10), (.aload_n 0, 1, 0, 0, .null), (.getfield 12, 3, 9, 0, .ref 6), (.getfield 119, 3, 6, 0, .int 0)]) (L' := [some (.ref 2), some (.int x1), some (.int q2.1), some (.int q3.1), some (.int (q5.1 + 1))]) (st' := [.int (q8.2.1 3 0), .int 10, .int x1, .ref 10]) (w' := q8.2) (g := []) (K := [(3, 6), (3, 6), (2, 9), (10, 3), (3, 6), (3, 6), (2, 9)]) (by decide +kernel) rfl rfl rfl rfl (jk1 (kz_3 hk) (jk1 (kz_3 hk) (jk1 (kz_2 hk) (jk1 (kz_10 hk) (jk1 (kz_3 hk) (jk1 (kz_3 hk) (jk1 (kz_2 hk) jk0))))))) ?_
          obtain ⟨q11, hq11, h⟩ := jbe h
          refine ev_callV (ci := 3) (a := 10) (y2 := y_Rows_put) (o := 9) (idx := 72) (d2 := d_Rows_put) (n := 3) (mc2 := 0) (ms2 := 0) (As := [.int x1, .int 10, .int (q8.2.1 3 0)]) (st := []) (res2 := (none, (jRx kk), q11)) (by decide +kernel) rfl lk_9_72 mo_Rows_put mv_Rows_put ⟨Nat.le_of_ble_eq_true rfl, Nat.le_of_ble_eq_true rfl⟩ rfl rfl (kz_10 hk) (by decide) rfl (Nat.le_of_ble_eq_true rfl) ⟨Nat.le_refl _, Nat.le_refl _⟩ hG (e_Rows_put hG hk (kz_10 hk) hq11) ?_
          refine ev_mask [true, true, false, true, true] ?_
          exact t_Count_step_j168 hG hk h
      · replace h := jpos c13 h
        refine ev_seg (o := 9) (nL := 5) (q := 74) (xs := [(.iconst (-1), 1, 0, 0, .int (-1))]) (L' := [some (.ref 2), some (.int x1), some (.int q2.1), some (.int q3.1), none]) (st' := [.int (-1)]) (w' := q4.2) (g := []) (K := []) (by decide +kernel) rfl rfl rfl rfl jk0 ?_
        cases h
        exact ev_iret (by decide +kernel) rfl rfl rfl rfl
  · replace h := jpos c15 h
    refine ev_seg (o := 9) (nL := 5) (q := 15) (xs := [(.iconst (-1), 1, 0, 0, .int (-1))]) (L' := [some (.ref 2), some (.int x1), none, none, none]) (st' := [.int (-1)]) (w' := q1.2) (g := []) (K := []) (by decide +kernel) rfl rfl rfl rfl jk0 ?_
    cases h
    exact ev_iret (by decide +kernel) rfl rfl rfl rfl
def f_State_latestSeal_h10 : Nat → Int32 → Int32 → Int32 → jW → Option (Int32 × jW)
  | 0, _, _, _, _ => none
  | n + 1, x1, x2, x3, w =>
  if x3 < 0 then
    some ((-1), w)
  else
    Option.bind (f_Rows_at 14 x3 0 w) fun q2 =>
    if q2.1 = x1 then
      Option.bind (f_Rows_at 14 x3 1 q2.2) fun q3 =>
      if q3.1 ≤ x2 then
        some (x3, q3.2)
      else
        (f_State_latestSeal_h10 n) x1 x2 (x3 + (-1)) q3.2
    else
      (f_State_latestSeal_h10 n) x1 x2 (x3 + (-1)) q2.2
set_option maxRecDepth 20000 in
theorem t_State_latestSeal_h10 {l : Launch} {G : jG} (hG : jX G) {kk : Nat} (hk : 93 ≤ kk) : ∀ (n : Nat) (x1 : Int32) (x2 : Int32) (x3 : Int32) (w : jW) (z : (Int32 × jW)), f_State_latestSeal_h10 n x1 x2 x3 w = some z → Ev l G (jrm d_State_latestSeal 0 0) y_State_latestSeal (some (.int z.1), (jRx kk), z.2) 0 0 0 0 10 [some (.ref 3), some (.int x1), some (.int x2), some (.int x3)] [] (jRx kk) w := by
  intro n
  induction n with
  | zero => intro x1 x2 x3 w z h; simp only [f_State_latestSeal_h10] at h; cases h
  | succ n ih =>
    intro x1 x2 x3 w z h
    rw [f_State_latestSeal_h10] at h
    refine ev_seg (o := 6) (nL := 4) (q := 11) (xs := [(.iload_n 3, 1, 3, 0, .null)]) (L' := [some (.ref 3), some (.int x1), some (.int x2), some (.int x3)]) (st' := [.int x3]) (w' := w) (g := []) (K := []) (by decide +kernel) rfl rfl rfl rfl jk0 ?_
    refine ev_if_lt (off := 37) (tgt := 48) (by decide +kernel) (by decide) (fun c6 => ?_) (fun c6 => ?_)
    · replace h := jpos c6 h
      refine ev_seg (o := 6) (nL := 4) (q := 49) (xs := [(.iconst (-1), 1, 0, 0, .int (-1))]) (L' := [some (.ref 3), some (.int x1), some (.int x2), some (.int x3)]) (st' := [.int (-1)]) (w' := w) (g := []) (K := []) (by decide +kernel) rfl rfl rfl rfl jk0 ?_
      cases h
      exact ev_iret (by decide +kernel) rfl rfl rfl rfl
    · replace h := jneg c6 h
      refine ev_seg (o := 6) (nL := 4) (q := 20) (xs := [(.aload_n 0, 1, 0, 0, .null), (.getfield 48, 3, 6, 10, .ref 3), (.iload_n 3, 1, 3, 0, .null), (.iconst 0, 1, 0, 0, .int 0)]) (L' := [some (.ref 3), some (.int x1), some (.int x2), some (.int x3)]) (st' := [.int 0, .int x3, .ref 14]) (w' := w) (g := []) (K := [(14, 3), (3, 6)]) (by decide +kernel) rfl rfl rfl rfl (jk1 (kz_14 hk) (jk1 (kz_3 hk) jk0)) ?_
      obtain ⟨q2, hq2, h⟩ := jbe h
      refine ev_callV (ci := 3) (a := 14) (y2 := y_Rows_at) (o := 6) (idx := 91) (d2 := d_Rows_at) (n := 2) (mc2 := 0) (ms2 := 0) (As := [.int x3, .int 0]) (st := []) (res2 := (some (.int q2.1), (jRx kk), q2.2)) (by decide +kernel) rfl lk_6_91 mo_Rows_at mv_Rows_at ⟨Nat.le_of_ble_eq_true rfl, Nat.le_of_ble_eq_true rfl⟩ rfl rfl (kz_14 hk) (by decide) rfl (Nat.le_of_ble_eq_true rfl) ⟨Nat.le_refl _, Nat.le_refl _⟩ hG (e_Rows_at hG hk (kz_14 hk) hq2) ?_
      refine ev_seg (o := 6) (nL := 4) (q := 24) (xs := [(.iload_n 1, 1, 1, 0, .null)]) (L' := [some (.ref 3), some (.int x1), some (.int x2), some (.int x3)]) (st' := [.int x1, .int q2.1]) (w' := q2.2) (g := []) (K := []) (by decide +kernel) rfl rfl rfl rfl jk0 ?_
      refine ev_icmp_ne (off := 18) (tgt := 42) (by decide +kernel) (by decide) (fun c5 => ?_) (fun c5 => ?_)
      · replace h := jneg c5 h
        refine ev_seg (o := 6) (nL := 4) (q := 10) (xs := [(.iinc 3 (-1), 3, 3, 0, .int (-1)), (.goto (-35), 3, 0, 0, .null)]) (L' := [some (.ref 3), some (.int x1), some (.int x2), some (.int (x3 + (-1)))]) (st' := []) (w' := q2.2) (g := []) (K := []) (by decide +kernel) rfl rfl rfl rfl jk0 ?_
        refine ev_mask [true, true, true, true] ?_
        exact ih _ _ _ _ _ h
      · replace h := jpos c5 h
        refine ev_seg (o := 6) (nL := 4) (q := 33) (xs := [(.aload_n 0, 1, 0, 0, .null), (.getfield 48, 3, 6, 10, .ref 3), (.iload_n 3, 1, 3, 0, .null), (.iconst 1, 1, 0, 0, .int 1)]) (L' := [some (.ref 3), some (.int x1), some (.int x2), some (.int x3)]) (st' := [.int 1, .int x3, .ref 14]) (w' := q2.2) (g := []) (K := [(14, 3), (3, 6)]) (by decide +kernel) rfl rfl rfl rfl (jk1 (kz_14 hk) (jk1 (kz_3 hk) jk0)) ?_
        obtain ⟨q3, hq3, h⟩ := jbe h
        refine ev_callV (ci := 3) (a := 14) (y2 := y_Rows_at) (o := 6) (idx := 91) (d2 := d_Rows_at) (n := 2) (mc2 := 0) (ms2 := 0) (As := [.int x3, .int 1]) (st := []) (res2 := (some (.int q3.1), (jRx kk), q3.2)) (by decide +kernel) rfl lk_6_91 mo_Rows_at mv_Rows_at ⟨Nat.le_of_ble_eq_true rfl, Nat.le_of_ble_eq_true rfl⟩ rfl rfl (kz_14 hk) (by decide) rfl (Nat.le_of_ble_eq_true rfl) ⟨Nat.le_refl _, Nat.le_refl _⟩ hG (e_Rows_at hG hk (kz_14 hk) hq3) ?_
        refine ev_seg (o := 6) (nL := 4) (q := 37) (xs := [(.iload_n 2, 1, 2, 0, .null)]) (L' := [some (.ref 3), some (.int x1), some (.int x2), some (.int x3)]) (st' := [.int x2, .int q3.1]) (w' := q3.2) (g := []) (K := []) (by decide +kernel) rfl rfl rfl rfl jk0 ?_
        refine ev_icmp_gt (off := 5) (tgt := 42) (by decide +kernel) (by decide) (fun c4 => ?_) (fun c4 => ?_)
        · replace h := jneg c4 h
          refine ev_seg (o := 6) (nL := 4) (q := 10) (xs := [(.iinc 3 (-1), 3, 3, 0, .int (-1)), (.goto (-35), 3, 0, 0, .null)]) (L' := [some (.ref 3), some (.int x1), some (.int x2), some (.int (x3 + (-1)))]) (st' := []) (w' := q3.2) (g := []) (K := []) (by decide +kernel) rfl rfl rfl rfl jk0 ?_
          refine ev_mask [true, true, true, true] ?_
          exact ih _ _ _ _ _ h
        · replace h := jpos c4 h
          refine ev_seg (o := 6) (nL := 4) (q := 41) (xs := [(.iload_n 3, 1, 3, 0, .null)]) (L' := [some (.ref 3), some (.int x1), some (.int x2), some (.int x3)]) (st' := [.int x3]) (w' := q3.2) (g := []) (K := []) (by decide +kernel) rfl rfl rfl rfl jk0 ?_
          cases h
          exact ev_iret (by decide +kernel) rfl rfl rfl rfl
def f_State_latestSeal (x1 : Int32) (x2 : Int32) (w : jW) : Option (Int32 × jW) :=
  Option.bind (f_Rows_count 14 w) fun q1 =>
  f_State_latestSeal_h10 jfu x1 x2 (q1.1 - 1) q1.2
set_option maxRecDepth 20000 in
theorem e_State_latestSeal {l : Launch} {G : jG} (hG : jX G) {kk : Nat} (hk : 93 ≤ kk) {x1 : Int32} {x2 : Int32} {w : jW} {z : (Int32 × jW)} (h : f_State_latestSeal x1 x2 w = some z) : Ct l G y_State_latestSeal d_State_latestSeal 0 0 [.ref 3, .int x1, .int x2] (jRx kk) w (some (.int z.1), (jRx kk), z.2) := by
  rw [f_State_latestSeal] at h
  refine Ct.of (L := [some (.ref 3), some (.int x1), some (.int x2), none]) (by decide) (Nat.le_of_ble_eq_true rfl) rfl ?_
  refine ev_seg (o := 6) (nL := 4) (q := 4) (xs := [(.aload_n 0, 1, 0, 0, .null), (.getfield 48, 3, 6, 10, .ref 3)]) (L' := [some (.ref 3), some (.int x1), some (.int x2), none]) (st' := [.ref 14]) (w' := w) (g := []) (K := [(14, 3), (3, 6)]) (by decide +kernel) rfl rfl rfl rfl (jk1 (kz_14 hk) (jk1 (kz_3 hk) jk0)) ?_
  obtain ⟨q1, hq1, h⟩ := jbe h
  refine ev_callV (ci := 3) (a := 14) (y2 := y_Rows_count) (o := 6) (idx := 87) (d2 := d_Rows_count) (n := 0) (mc2 := 0) (ms2 := 0) (As := []) (st := []) (res2 := (some (.int q1.1), (jRx kk), q1.2)) (by decide +kernel) rfl lk_6_87 mo_Rows_count mv_Rows_count ⟨Nat.le_of_ble_eq_true rfl, Nat.le_of_ble_eq_true rfl⟩ rfl rfl (kz_14 hk) (by decide) rfl (Nat.le_of_ble_eq_true rfl) ⟨Nat.le_refl _, Nat.le_refl _⟩ hG (e_Rows_count hG hk (kz_14 hk) hq1) ?_
  refine ev_seg (o := 6) (nL := 4) (q := 10) (xs := [(.iconst 1, 1, 0, 0, .int 1), (.isub, 1, 0, 0, .null), (.istore_n 3, 1, 3, 0, .null)]) (L' := [some (.ref 3), some (.int x1), some (.int x2), some (.int (q1.1 - 1))]) (st' := []) (w' := q1.2) (g := []) (K := []) (by decide +kernel) rfl rfl rfl rfl jk0 ?_
  refine ev_mask [true, true, true, true] ?_
  exact t_State_latestSeal_h10 hG hk jfu _ _ _ _ _ h
def f_State_isWhole_j77 (k24 : Int32 → Int32 → Int32 → Int32 → jW → Option (Int32 × jW)) (x2 : Int32) (x3 : Int32) (x4 : Int32) (x5 : Int32) (w : jW) : Option (Int32 × jW) :=
  Option.bind (f_Rows_at 12 x5 4 w) fun q6 =>
  Option.bind (f_Rows_at 12 x5 2 q6.2) fun q7 =>
  if q7.1 = x3 then
    if q6.1 ≤ x4 then
      k24 x2 x3 x4 (x5 + 1) q7.2
    else
      if q6.1 ≤ x2 then
        some (0, q7.2)
      else
        k24 x2 x3 x4 (x5 + 1) q7.2
  else
    k24 x2 x3 x4 (x5 + 1) q7.2
set_option maxRecDepth 20000 in
theorem t_State_isWhole_j77 {l : Launch} {G : jG} (hG : jX G) {kk : Nat} (hk : 93 ≤ kk) {k24 : Int32 → Int32 → Int32 → Int32 → jW → Option (Int32 × jW)} (hk24 : ∀ (x2 : Int32) (x3 : Int32) (x4 : Int32) (x5 : Int32) (w : jW) (z : (Int32 × jW)), k24 x2 x3 x4 x5 w = some z → Ev l G (jrm d_State_isWhole 0 0) y_State_isWhole (some (.int z.1), (jRx kk), z.2) 0 0 0 0 24 [some (.ref 3), none, some (.int x2), some (.int x3), some (.int x4), some (.int x5), none, none] [] (jRx kk) w) {x2 : Int32} {x3 : Int32} {x4 : Int32} {x5 : Int32} {w : jW} {z : (Int32 × jW)} (h : f_State_isWhole_j77 k24 x2 x3 x4 x5 w = some z) : Ev l G (jrm d_State_isWhole 0 0) y_State_isWhole (some (.int z.1), (jRx kk), z.2) 0 0 0 0 77 [some (.ref 3), none, some (.int x2), some (.int x3), some (.int x4), some (.int x5), none, none] [] (jRx kk) w := by
  rw [f_State_isWhole_j77] at h
  refine ev_seg (o := 6) (nL := 8) (q := 84) (xs := [(.aload_n 0, 1, 0, 0, .null), (.getfield 45, 3, 6, 9, .ref 3), (.iload 5, 2, 5, 0, .null), (.iconst 4, 1, 0, 0, .int 4)]) (L' := [some (.ref 3), none, some (.int x2), some (.int x3), some (.int x4), some (.int x5), none, none]) (st' := [.int 4, .int x5, .ref 12]) (w' := w) (g := []) (K := [(12, 3), (3, 6)]) (by decide +kernel) rfl rfl rfl rfl (jk1 (kz_12 hk) (jk1 (kz_3 hk) jk0)) ?_
  obtain ⟨q6, hq6, h⟩ := jbe h
  refine ev_callV (ci := 3) (a := 12) (y2 := y_Rows_at) (o := 6) (idx := 91) (d2 := d_Rows_at) (n := 2) (mc2 := 0) (ms2 := 0) (As := [.int x5, .int 4]) (st := []) (res2 := (some (.int q6.1), (jRx kk), q6.2)) (by decide +kernel) rfl lk_6_91 mo_Rows_at mv_Rows_at ⟨Nat.le_of_ble_eq_true rfl, Nat.le_of_ble_eq_true rfl⟩ rfl rfl (kz_12 hk) (by decide) rfl (Nat.le_of_ble_eq_true rfl) ⟨Nat.le_refl _, Nat.le_refl _⟩ hG (e_Rows_at hG hk (kz_12 hk) hq6) ?_
  refine ev_seg (o := 6) (nL := 8) (q := 96) (xs := [(.istore 7, 2, 7, 0, .null), (.aload_n 0, 1, 0, 0, .null), (.getfield 45, 3, 6, 9, .ref 3), (.iload 5, 2, 5, 0, .null), (.iconst 2, 1, 0, 0, .int 2)]) (L' := [some (.ref 3), none, some (.int x2), some (.int x3), some (.int x4), some (.int x5), none, some (.int q6.1)]) (st' := [.int 2, .int x5, .ref 12]) (w' := q6.2) (g := []) (K := [(12, 3), (3, 6)]) (by decide +kernel) rfl rfl rfl rfl (jk1 (kz_12 hk) (jk1 (kz_3 hk) jk0)) ?_
  obtain ⟨q7, hq7, h⟩ := jbe h
  refine ev_callV (ci := 3) (a := 12) (y2 := y_Rows_at) (o := 6) (idx := 91) (d2 := d_Rows_at) (n := 2) (mc2 := 0) (ms2 := 0) (As := [.int x5, .int 2]) (st := []) (res2 := (some (.int q7.1), (jRx kk), q7.2)) (by decide +kernel) rfl lk_6_91 mo_Rows_at mv_Rows_at ⟨Nat.le_of_ble_eq_true rfl, Nat.le_of_ble_eq_true rfl⟩ rfl rfl (kz_12 hk) (by decide) rfl (Nat.le_of_ble_eq_true rfl) ⟨Nat.le_refl _, Nat.le_refl _⟩ hG (e_Rows_at hG hk (kz_12 hk) hq7) ?_
  refine ev_seg (o := 6) (nL := 8) (q := 100) (xs := [(.iload_n 3, 1, 3, 0, .null)]) (L' := [some (.ref 3), none, some (.int x2), some (.int x3), some (.int x4), some (.int x5), none, some (.int q6.1)]) (st' := [.int x3, .int q7.1]) (w' := q7.2) (g := []) (K := []) (by decide +kernel) rfl rfl rfl rfl jk0 ?_
  refine ev_icmp_ne (off := 18) (tgt := 118) (by decide +kernel) (by decide) (fun c10 => ?_) (fun c10 => ?_)
  · replace h := jneg c10 h
    refine ev_seg (o := 6) (nL := 8) (q := 24) (xs := [(.iinc 5 1, 3, 5, 0, .int 1), (.goto (-97), 3, 0, 0, .null)]) (L' := [some (.ref 3), none, some (.int x2), some (.int x3), some (.int x4), some (.int (x5 + 1)), none, some (.int q6.1)]) (st' := []) (w' := q7.2) (g := []) (K := []) (by decide +kernel) rfl rfl rfl rfl jk0 ?_
    refine ev_mask [true, false, true, true, true, true, false, false] ?_
    exact hk24 _ _ _ _ _ _ h
  · replace h := jpos c10 h
    refine ev_seg (o := 6) (nL := 8) (q := 107) (xs := [(.iload 7, 2, 7, 0, .null), (.iload 4, 2, 4, 0, .null)]) (L' := [some (.ref 3), none, some (.int x2), some (.int x3), some (.int x4), some (.int x5), none, some (.int q6.1)]) (st' := [.int x4, .int q6.1]) (w' := q7.2) (g := []) (K := []) (by decide +kernel) rfl rfl rfl rfl jk0 ?_
    refine ev_icmp_le (off := 11) (tgt := 118) (by decide +kernel) (by decide) (fun c9 => ?_) (fun c9 => ?_)
    · replace h := jpos c9 h
      refine ev_seg (o := 6) (nL := 8) (q := 24) (xs := [(.iinc 5 1, 3, 5, 0, .int 1), (.goto (-97), 3, 0, 0, .null)]) (L' := [some (.ref 3), none, some (.int x2), some (.int x3), some (.int x4), some (.int (x5 + 1)), none, some (.int q6.1)]) (st' := []) (w' := q7.2) (g := []) (K := []) (by decide +kernel) rfl rfl rfl rfl jk0 ?_
      refine ev_mask [true, false, true, true, true, true, false, false] ?_
      exact hk24 _ _ _ _ _ _ h
    · replace h := jneg c9 h
      refine ev_seg (o := 6) (nL := 8) (q := 113) (xs := [(.iload 7, 2, 7, 0, .null), (.iload_n 2, 1, 2, 0, .null)]) (L' := [some (.ref 3), none, some (.int x2), some (.int x3), some (.int x4), some (.int x5), none, some (.int q6.1)]) (st' := [.int x2, .int q6.1]) (w' := q7.2) (g := []) (K := []) (by decide +kernel) rfl rfl rfl rfl jk0 ?_
      refine ev_icmp_gt (off := 5) (tgt := 118) (by decide +kernel) (by decide) (fun c8 => ?_) (fun c8 => ?_)
      · replace h := jneg c8 h
        refine ev_seg (o := 6) (nL := 8) (q := 24) (xs := [(.iinc 5 1, 3, 5, 0, .int 1), (.goto (-97), 3, 0, 0, .null)]) (L' := [some (.ref 3), none, some (.int x2), some (.int x3), some (.int x4), some (.int (x5 + 1)), none, some (.int q6.1)]) (st' := []) (w' := q7.2) (g := []) (K := []) (by decide +kernel) rfl rfl rfl rfl jk0 ?_
        refine ev_mask [true, false, true, true, true, true, false, false] ?_
        exact hk24 _ _ _ _ _ _ h
      · replace h := jpos c8 h
        refine ev_seg (o := 6) (nL := 8) (q := 117) (xs := [(.iconst 0, 1, 0, 0, .int 0)]) (L' := [some (.ref 3), none, some (.int x2), some (.int x3), some (.int x4), some (.int x5), none, some (.int q6.1)]) (st' := [.int 0]) (w' := q7.2) (g := []) (K := []) (by decide +kernel) rfl rfl rfl rfl jk0 ?_
        cases h
        exact ev_zret (by decide +kernel) rfl rfl rfl rfl rfl
def f_State_isWhole_h24 : Nat → Int32 → Int32 → Int32 → Int32 → jW → Option (Int32 × jW)
  | 0, _, _, _, _, _ => none
  | n + 1, x2, x3, x4, x5, w =>
  Option.bind (f_Rows_count 12 w) fun q3 =>
  if x5 < q3.1 then
    Option.bind (f_Rows_at 12 x5 3 q3.2) fun q4 =>
    Option.bind (f_Rows_at 12 x5 1 q4.2) fun q5 =>
    if q5.1 = x3 then
      if q4.1 ≤ x4 then
        f_State_isWhole_j77 (f_State_isWhole_h24 n) x2 x3 x4 x5 q5.2
      else
        if q4.1 ≤ x2 then
          some (0, q5.2)
        else
          f_State_isWhole_j77 (f_State_isWhole_h24 n) x2 x3 x4 x5 q5.2
    else
      f_State_isWhole_j77 (f_State_isWhole_h24 n) x2 x3 x4 x5 q5.2
  else
    some (1, q3.2)
set_option maxRecDepth 20000 in
theorem t_State_isWhole_h24 {l : Launch} {G : jG} (hG : jX G) {kk : Nat} (hk : 93 ≤ kk) : ∀ (n : Nat) (x2 : Int32) (x3 : Int32) (x4 : Int32) (x5 : Int32) (w : jW) (z : (Int32 × jW)), f_State_isWhole_h24 n x2 x3 x4 x5 w = some z → Ev l G (jrm d_State_isWhole 0 0) y_State_isWhole (some (.int z.1), (jRx kk), z.2) 0 0 0 0 24 [some (.ref 3), none, some (.int x2), some (.int x3), some (.int x4), some (.int x5), none, none] [] (jRx kk) w := by
  intro n
  induction n with
  | zero => intro x2 x3 x4 x5 w z h; simp only [f_State_isWhole_h24] at h; cases h
  | succ n ih =>
    intro x2 x3 x4 x5 w z h
    rw [f_State_isWhole_h24] at h
    refine ev_seg (o := 6) (nL := 8) (q := 30) (xs := [(.iload 5, 2, 5, 0, .null), (.aload_n 0, 1, 0, 0, .null), (.getfield 45, 3, 6, 9, .ref 3)]) (L' := [some (.ref 3), none, some (.int x2), some (.int x3), some (.int x4), some (.int x5), none, none]) (st' := [.ref 12, .int x5]) (w' := w) (g := []) (K := [(12, 3), (3, 6)]) (by decide +kernel) rfl rfl rfl rfl (jk1 (kz_12 hk) (jk1 (kz_3 hk) jk0)) ?_
    obtain ⟨q3, hq3, h⟩ := jbe h
    refine ev_callV (ci := 3) (a := 12) (y2 := y_Rows_count) (o := 6) (idx := 87) (d2 := d_Rows_count) (n := 0) (mc2 := 0) (ms2 := 0) (As := []) (st := [.int x5]) (res2 := (some (.int q3.1), (jRx kk), q3.2)) (by decide +kernel) rfl lk_6_87 mo_Rows_count mv_Rows_count ⟨Nat.le_of_ble_eq_true rfl, Nat.le_of_ble_eq_true rfl⟩ rfl rfl (kz_12 hk) (by decide) rfl (Nat.le_of_ble_eq_true rfl) ⟨Nat.le_refl _, Nat.le_refl _⟩ hG (e_Rows_count hG hk (kz_12 hk) hq3) ?_
    refine ev_icmp_ge (off := 91) (tgt := 124) (by decide +kernel) (by decide) (fun c14 => ?_) (fun c14 => ?_)
    · replace h := jneg c14 h
      refine ev_seg (o := 6) (nL := 8) (q := 125) (xs := [(.iconst 1, 1, 0, 0, .int 1)]) (L' := [some (.ref 3), none, some (.int x2), some (.int x3), some (.int x4), some (.int x5), none, none]) (st' := [.int 1]) (w' := q3.2) (g := []) (K := []) (by decide +kernel) rfl rfl rfl rfl jk0 ?_
      cases h
      exact ev_zret (by decide +kernel) rfl rfl rfl rfl rfl
    · replace h := jpos c14 h
      refine ev_seg (o := 6) (nL := 8) (q := 43) (xs := [(.aload_n 0, 1, 0, 0, .null), (.getfield 45, 3, 6, 9, .ref 3), (.iload 5, 2, 5, 0, .null), (.iconst 3, 1, 0, 0, .int 3)]) (L' := [some (.ref 3), none, some (.int x2), some (.int x3), some (.int x4), some (.int x5), none, none]) (st' := [.int 3, .int x5, .ref 12]) (w' := q3.2) (g := []) (K := [(12, 3), (3, 6)]) (by decide +kernel) rfl rfl rfl rfl (jk1 (kz_12 hk) (jk1 (kz_3 hk) jk0)) ?_
      obtain ⟨q4, hq4, h⟩ := jbe h
      refine ev_callV (ci := 3) (a := 12) (y2 := y_Rows_at) (o := 6) (idx := 91) (d2 := d_Rows_at) (n := 2) (mc2 := 0) (ms2 := 0) (As := [.int x5, .int 3]) (st := []) (res2 := (some (.int q4.1), (jRx kk), q4.2)) (by decide +kernel) rfl lk_6_91 mo_Rows_at mv_Rows_at ⟨Nat.le_of_ble_eq_true rfl, Nat.le_of_ble_eq_true rfl⟩ rfl rfl (kz_12 hk) (by decide) rfl (Nat.le_of_ble_eq_true rfl) ⟨Nat.le_refl _, Nat.le_refl _⟩ hG (e_Rows_at hG hk (kz_12 hk) hq4) ?_
      refine ev_seg (o := 6) (nL := 8) (q := 55) (xs := [(.istore 6, 2, 6, 0, .null), (.aload_n 0, 1, 0, 0, .null), (.getfield 45, 3, 6, 9, .ref 3), (.iload 5, 2, 5, 0, .null), (.iconst 1, 1, 0, 0, .int 1)]) (L' := [some (.ref 3), none, some (.int x2), some (.int x3), some (.int x4), some (.int x5), some (.int q4.1), none]) (st' := [.int 1, .int x5, .ref 12]) (w' := q4.2) (g := []) (K := [(12, 3), (3, 6)]) (by decide +kernel) rfl rfl rfl rfl (jk1 (kz_12 hk) (jk1 (kz_3 hk) jk0)) ?_
      obtain ⟨q5, hq5, h⟩ := jbe h
      refine ev_callV (ci := 3) (a := 12) (y2 := y_Rows_at) (o := 6) (idx := 91) (d2 := d_Rows_at) (n := 2) (mc2 := 0) (ms2 := 0) (As := [.int x5, .int 1]) (st := []) (res2 := (some (.int q5.1), (jRx kk), q5.2)) (by decide +kernel) rfl lk_6_91 mo_Rows_at mv_Rows_at ⟨Nat.le_of_ble_eq_true rfl, Nat.le_of_ble_eq_true rfl⟩ rfl rfl (kz_12 hk) (by decide) rfl (Nat.le_of_ble_eq_true rfl) ⟨Nat.le_refl _, Nat.le_refl _⟩ hG (e_Rows_at hG hk (kz_12 hk) hq5) ?_
      refine ev_seg (o := 6) (nL := 8) (q := 59) (xs := [(.iload_n 3, 1, 3, 0, .null)]) (L' := [some (.ref 3), none, some (.int x2), some (.int x3), some (.int x4), some (.int x5), some (.int q4.1), none]) (st' := [.int x3, .int q5.1]) (w' := q5.2) (g := []) (K := []) (by decide +kernel) rfl rfl rfl rfl jk0 ?_
      refine ev_icmp_ne (off := 18) (tgt := 77) (by decide +kernel) (by decide) (fun c13 => ?_) (fun c13 => ?_)
      · replace h := jneg c13 h
        refine ev_mask [true, false, true, true, true, true, false, false] ?_
        exact t_State_isWhole_j77 hG hk ih h
      · replace h := jpos c13 h
        refine ev_seg (o := 6) (nL := 8) (q := 66) (xs := [(.iload 6, 2, 6, 0, .null), (.iload 4, 2, 4, 0, .null)]) (L' := [some (.ref 3), none, some (.int x2), some (.int x3), some (.int x4), some (.int x5), some (.int q4.1), none]) (st' := [.int x4, .int q4.1]) (w' := q5.2) (g := []) (K := []) (by decide +kernel) rfl rfl rfl rfl jk0 ?_
        refine ev_icmp_le (off := 11) (tgt := 77) (by decide +kernel) (by decide) (fun c12 => ?_) (fun c12 => ?_)
        · replace h := jpos c12 h
          refine ev_mask [true, false, true, true, true, true, false, false] ?_
          exact t_State_isWhole_j77 hG hk ih h
        · replace h := jneg c12 h
          refine ev_seg (o := 6) (nL := 8) (q := 72) (xs := [(.iload 6, 2, 6, 0, .null), (.iload_n 2, 1, 2, 0, .null)]) (L' := [some (.ref 3), none, some (.int x2), some (.int x3), some (.int x4), some (.int x5), some (.int q4.1), none]) (st' := [.int x2, .int q4.1]) (w' := q5.2) (g := []) (K := []) (by decide +kernel) rfl rfl rfl rfl jk0 ?_
          refine ev_icmp_gt (off := 5) (tgt := 77) (by decide +kernel) (by decide) (fun c11 => ?_) (fun c11 => ?_)
          · replace h := jneg c11 h
            refine ev_mask [true, false, true, true, true, true, false, false] ?_
            exact t_State_isWhole_j77 hG hk ih h
          · replace h := jpos c11 h
            refine ev_seg (o := 6) (nL := 8) (q := 76) (xs := [(.iconst 0, 1, 0, 0, .int 0)]) (L' := [some (.ref 3), none, some (.int x2), some (.int x3), some (.int x4), some (.int x5), some (.int q4.1), none]) (st' := [.int 0]) (w' := q5.2) (g := []) (K := []) (by decide +kernel) rfl rfl rfl rfl jk0 ?_
            cases h
            exact ev_zret (by decide +kernel) rfl rfl rfl rfl rfl
def f_State_isWhole (x1 : Int32) (x2 : Int32) (w : jW) : Option (Int32 × jW) :=
  Option.bind (f_Rows_at 14 x1 0 w) fun q1 =>
  Option.bind (f_Rows_at 14 x1 1 q1.2) fun q2 =>
  f_State_isWhole_h24 jfu x2 q1.1 q2.1 0 q2.2
set_option maxRecDepth 20000 in
theorem e_State_isWhole {l : Launch} {G : jG} (hG : jX G) {kk : Nat} (hk : 93 ≤ kk) {x1 : Int32} {x2 : Int32} {w : jW} {z : (Int32 × jW)} (h : f_State_isWhole x1 x2 w = some z) : Ct l G y_State_isWhole d_State_isWhole 0 0 [.ref 3, .int x1, .int x2] (jRx kk) w (some (.int z.1), (jRx kk), z.2) := by
  rw [f_State_isWhole] at h
  refine Ct.of (L := [some (.ref 3), some (.int x1), some (.int x2), none, none, none, none, none]) (by decide) (Nat.le_of_ble_eq_true rfl) rfl ?_
  refine ev_seg (o := 6) (nL := 8) (q := 6) (xs := [(.aload_n 0, 1, 0, 0, .null), (.getfield 48, 3, 6, 10, .ref 3), (.iload_n 1, 1, 1, 0, .null), (.iconst 0, 1, 0, 0, .int 0)]) (L' := [some (.ref 3), some (.int x1), some (.int x2), none, none, none, none, none]) (st' := [.int 0, .int x1, .ref 14]) (w' := w) (g := []) (K := [(14, 3), (3, 6)]) (by decide +kernel) rfl rfl rfl rfl (jk1 (kz_14 hk) (jk1 (kz_3 hk) jk0)) ?_
  obtain ⟨q1, hq1, h⟩ := jbe h
  refine ev_callV (ci := 3) (a := 14) (y2 := y_Rows_at) (o := 6) (idx := 91) (d2 := d_Rows_at) (n := 2) (mc2 := 0) (ms2 := 0) (As := [.int x1, .int 0]) (st := []) (res2 := (some (.int q1.1), (jRx kk), q1.2)) (by decide +kernel) rfl lk_6_91 mo_Rows_at mv_Rows_at ⟨Nat.le_of_ble_eq_true rfl, Nat.le_of_ble_eq_true rfl⟩ rfl rfl (kz_14 hk) (by decide) rfl (Nat.le_of_ble_eq_true rfl) ⟨Nat.le_refl _, Nat.le_refl _⟩ hG (e_Rows_at hG hk (kz_14 hk) hq1) ?_
  refine ev_seg (o := 6) (nL := 8) (q := 16) (xs := [(.istore_n 3, 1, 3, 0, .null), (.aload_n 0, 1, 0, 0, .null), (.getfield 48, 3, 6, 10, .ref 3), (.iload_n 1, 1, 1, 0, .null), (.iconst 1, 1, 0, 0, .int 1)]) (L' := [some (.ref 3), some (.int x1), some (.int x2), some (.int q1.1), none, none, none, none]) (st' := [.int 1, .int x1, .ref 14]) (w' := q1.2) (g := []) (K := [(14, 3), (3, 6)]) (by decide +kernel) rfl rfl rfl rfl (jk1 (kz_14 hk) (jk1 (kz_3 hk) jk0)) ?_
  obtain ⟨q2, hq2, h⟩ := jbe h
  refine ev_callV (ci := 3) (a := 14) (y2 := y_Rows_at) (o := 6) (idx := 91) (d2 := d_Rows_at) (n := 2) (mc2 := 0) (ms2 := 0) (As := [.int x1, .int 1]) (st := []) (res2 := (some (.int q2.1), (jRx kk), q2.2)) (by decide +kernel) rfl lk_6_91 mo_Rows_at mv_Rows_at ⟨Nat.le_of_ble_eq_true rfl, Nat.le_of_ble_eq_true rfl⟩ rfl rfl (kz_14 hk) (by decide) rfl (Nat.le_of_ble_eq_true rfl) ⟨Nat.le_refl _, Nat.le_refl _⟩ hG (e_Rows_at hG hk (kz_14 hk) hq2) ?_
  refine ev_seg (o := 6) (nL := 8) (q := 24) (xs := [(.istore 4, 2, 4, 0, .null), (.iconst 0, 1, 0, 0, .int 0), (.istore 5, 2, 5, 0, .null)]) (L' := [some (.ref 3), some (.int x1), some (.int x2), some (.int q1.1), some (.int q2.1), some (.int 0), none, none]) (st' := []) (w' := q2.2) (g := []) (K := []) (by decide +kernel) rfl rfl rfl rfl jk0 ?_
  refine ev_mask [true, false, true, true, true, true, false, false] ?_
  exact t_State_isWhole_h24 hG hk jfu _ _ _ _ _ _ h
def f_State_isSealed (x1 : Int32) (w : jW) : Option (Int32 × jW) :=
  Option.bind (f_State_latestSeal x1 (w.1 3 0) w) fun q1 =>
  if q1.1 = (-1) then
    some (0, q1.2)
  else
    Option.bind (f_State_isWhole q1.1 (q1.2.1 3 0) q1.2) fun q2 =>
    if q2.1 = 0 then
      some (0, q2.2)
    else
      some (1, q2.2)
set_option maxRecDepth 20000 in
theorem e_State_isSealed {l : Launch} {G : jG} (hG : jX G) {kk : Nat} (hk : 93 ≤ kk) {x1 : Int32} {w : jW} {z : (Int32 × jW)} (h : f_State_isSealed x1 w = some z) : Ct l G y_State_isSealed d_State_isSealed 0 0 [.ref 3, .int x1] (jRx kk) w (some (.int z.1), (jRx kk), z.2) := by
  rw [f_State_isSealed] at h
  refine Ct.of (L := [some (.ref 3), some (.int x1), none]) (by decide) (Nat.le_of_ble_eq_true rfl) rfl ?_
  refine ev_seg (o := 6) (nL := 3) (q := 6) (xs := [(.aload_n 0, 1, 0, 0, .null), (.iload_n 1, 1, 1, 0, .null), (.aload_n 0, 1, 0, 0, .null), (.getfield 9, 3, 6, 0, .int 0)]) (L' := [some (.ref 3), some (.int x1), none]) (st' := [.int (w.1 3 0), .int x1, .ref 3]) (w' := w) (g := []) (K := [(3, 6)]) (by decide +kernel) rfl rfl rfl rfl (jk1 (kz_3 hk) jk0) ?_
  obtain ⟨q1, hq1, h⟩ := jbe h
  refine ev_callV (ci := 6) (a := 3) (y2 := y_State_latestSeal) (o := 6) (idx := 99) (d2 := d_State_latestSeal) (n := 2) (mc2 := 0) (ms2 := 0) (As := [.int x1, .int (w.1 3 0)]) (st := []) (res2 := (some (.int q1.1), (jRx kk), q1.2)) (by decide +kernel) rfl lk_6_99 mo_State_latestSeal mv_State_latestSeal ⟨Nat.le_of_ble_eq_true rfl, Nat.le_of_ble_eq_true rfl⟩ rfl rfl (kz_3 hk) (by decide) rfl (Nat.le_of_ble_eq_true rfl) ⟨Nat.le_refl _, Nat.le_refl _⟩ hG (e_State_latestSeal hG hk hq1) ?_
  refine ev_seg (o := 6) (nL := 3) (q := 12) (xs := [(.istore_n 2, 1, 2, 0, .null), (.iload_n 2, 1, 2, 0, .null), (.iconst (-1), 1, 0, 0, .int (-1))]) (L' := [some (.ref 3), some (.int x1), some (.int q1.1)]) (st' := [.int (-1), .int q1.1]) (w' := q1.2) (g := []) (K := []) (by decide +kernel) rfl rfl rfl rfl jk0 ?_
  refine ev_icmp_eq (off := 19) (tgt := 31) (by decide +kernel) (by decide) (fun c4 => ?_) (fun c4 => ?_)
  · replace h := jpos c4 h
    refine ev_seg (o := 6) (nL := 3) (q := 32) (xs := [(.iconst 0, 1, 0, 0, .int 0)]) (L' := [some (.ref 3), some (.int x1), some (.int q1.1)]) (st' := [.int 0]) (w' := q1.2) (g := []) (K := []) (by decide +kernel) rfl rfl rfl rfl jk0 ?_
    cases h
    exact ev_zret (by decide +kernel) rfl rfl rfl rfl rfl
  · replace h := jneg c4 h
    refine ev_seg (o := 6) (nL := 3) (q := 21) (xs := [(.aload_n 0, 1, 0, 0, .null), (.iload_n 2, 1, 2, 0, .null), (.aload_n 0, 1, 0, 0, .null), (.getfield 9, 3, 6, 0, .int 0)]) (L' := [some (.ref 3), some (.int x1), some (.int q1.1)]) (st' := [.int (q1.2.1 3 0), .int q1.1, .ref 3]) (w' := q1.2) (g := []) (K := [(3, 6)]) (by decide +kernel) rfl rfl rfl rfl (jk1 (kz_3 hk) jk0) ?_
    obtain ⟨q2, hq2, h⟩ := jbe h
    refine ev_callV (ci := 6) (a := 3) (y2 := y_State_isWhole) (o := 6) (idx := 102) (d2 := d_State_isWhole) (n := 2) (mc2 := 0) (ms2 := 0) (As := [.int q1.1, .int (q1.2.1 3 0)]) (st := []) (res2 := (some (.int q2.1), (jRx kk), q2.2)) (by decide +kernel) rfl lk_6_102 mo_State_isWhole mv_State_isWhole ⟨Nat.le_of_ble_eq_true rfl, Nat.le_of_ble_eq_true rfl⟩ rfl rfl (kz_3 hk) (by decide) rfl (Nat.le_of_ble_eq_true rfl) ⟨Nat.le_refl _, Nat.le_refl _⟩ hG (e_State_isWhole hG hk hq2) ?_
    refine ev_if_eq (off := 7) (tgt := 31) (by decide +kernel) (by decide) (fun c3 => ?_) (fun c3 => ?_)
    · replace h := jpos c3 h
      refine ev_seg (o := 6) (nL := 3) (q := 32) (xs := [(.iconst 0, 1, 0, 0, .int 0)]) (L' := [some (.ref 3), some (.int x1), some (.int q1.1)]) (st' := [.int 0]) (w' := q2.2) (g := []) (K := []) (by decide +kernel) rfl rfl rfl rfl jk0 ?_
      cases h
      exact ev_zret (by decide +kernel) rfl rfl rfl rfl rfl
    · replace h := jneg c3 h
      refine ev_seg (o := 6) (nL := 3) (q := 32) (xs := [(.iconst 1, 1, 0, 0, .int 1), (.goto 4, 3, 0, 0, .null)]) (L' := [some (.ref 3), some (.int x1), some (.int q1.1)]) (st' := [.int 1]) (w' := q2.2) (g := []) (K := []) (by decide +kernel) rfl rfl rfl rfl jk0 ?_
      cases h
      exact ev_zret (by decide +kernel) rfl rfl rfl rfl rfl
def f_State_addSpot (a0 : Nat) (x1 : Int32) (x2 : Int32) (w : jW) : Option (Int32 × jW) :=
  Option.bind (f_Rows_open a0 x1 w) fun q1 =>
  Option.bind (f_Rows_put a0 q1.1 1 x2 q1.2) fun q2 =>
  some (q1.1, q2)
set_option maxRecDepth 20000 in
theorem e_State_addSpot {l : Launch} {G : jG} (hG : jX G) {kk : Nat} (hk : 93 ≤ kk) {a0 : Nat} {x1 : Int32} {x2 : Int32} (h_a0 : jSk (jRx kk) a0 = 3) {w : jW} {z : (Int32 × jW)} (h : f_State_addSpot a0 x1 x2 w = some z) : Ct l G y_State_addSpot d_State_addSpot 0 0 [.ref a0, .int x1, .int x2] (jRx kk) w (some (.int z.1), (jRx kk), z.2) := by
  rw [f_State_addSpot] at h
  refine Ct.of (L := [some (.ref a0), some (.int x1), some (.int x2), none]) (by decide) (Nat.le_of_ble_eq_true rfl) rfl ?_
  refine ev_seg (o := 6) (nL := 4) (q := 2) (xs := [(.aload_n 0, 1, 0, 0, .null), (.iload_n 1, 1, 1, 0, .null)]) (L' := [some (.ref a0), some (.int x1), some (.int x2), none]) (st' := [.int x1, .ref a0]) (w' := w) (g := []) (K := []) (by decide +kernel) rfl rfl rfl rfl jk0 ?_
  obtain ⟨q1, hq1, h⟩ := jbe h
  refine ev_callV (ci := 3) (a := a0) (y2 := y_Rows_open) (o := 6) (idx := 79) (d2 := d_Rows_open) (n := 1) (mc2 := 0) (ms2 := 0) (As := [.int x1]) (st := []) (res2 := (some (.int q1.1), (jRx kk), q1.2)) (by decide +kernel) rfl lk_6_79 mo_Rows_open mv_Rows_open ⟨Nat.le_of_ble_eq_true rfl, Nat.le_of_ble_eq_true rfl⟩ rfl rfl h_a0 (by decide) rfl (Nat.le_of_ble_eq_true rfl) ⟨Nat.le_refl _, Nat.le_refl _⟩ hG (e_Rows_open hG hk h_a0 hq1) ?_
  refine ev_seg (o := 6) (nL := 4) (q := 10) (xs := [(.istore_n 3, 1, 3, 0, .null), (.aload_n 0, 1, 0, 0, .null), (.iload_n 3, 1, 3, 0, .null), (.iconst 1, 1, 0, 0, .int 1), (.iload_n 2, 1, 2, 0, .null)]) (L' := [some (.ref a0), some (.int x1), some (.int x2), some (.int q1.1)]) (st' := [.int x2, .int 1, .int q1.1, .ref a0]) (w' := q1.2) (g := []) (K := []) (by decide +kernel) rfl rfl rfl rfl jk0 ?_
  obtain ⟨q2, hq2, h⟩ := jbe h
  refine ev_callV (ci := 3) (a := a0) (y2 := y_Rows_put) (o := 6) (idx := 83) (d2 := d_Rows_put) (n := 3) (mc2 := 0) (ms2 := 0) (As := [.int q1.1, .int 1, .int x2]) (st := []) (res2 := (none, (jRx kk), q2)) (by decide +kernel) rfl lk_6_83 mo_Rows_put mv_Rows_put ⟨Nat.le_of_ble_eq_true rfl, Nat.le_of_ble_eq_true rfl⟩ rfl rfl h_a0 (by decide) rfl (Nat.le_of_ble_eq_true rfl) ⟨Nat.le_refl _, Nat.le_refl _⟩ hG (e_Rows_put hG hk h_a0 hq2) ?_
  refine ev_seg (o := 6) (nL := 4) (q := 14) (xs := [(.iload_n 3, 1, 3, 0, .null)]) (L' := [some (.ref a0), some (.int x1), some (.int x2), some (.int q1.1)]) (st' := [.int q1.1]) (w' := q2) (g := []) (K := []) (by decide +kernel) rfl rfl rfl rfl jk0 ?_
  cases h
  exact ev_iret (by decide +kernel) rfl rfl rfl rfl
def f_Count_seal (x1 : Int32) (w : jW) : Option (Int32 × jW) :=
  Option.bind (f_Rows_has 6 x1 w) fun q1 =>
  if q1.1 = 0 then
    some ((-1), q1.2)
  else
    Option.bind (f_Rows_isFull 14 q1.2) fun q2 =>
    if q2.1 = 0 then
      Option.bind (f_State_isSealed x1 q2.2) fun q3 =>
      if q3.1 = 0 then
        Option.bind (f_State_addSpot 14 x1 (q3.2.1 3 0) q3.2) fun q4 =>
        some (q4.1, q4.2)
      else
        some ((-1), q3.2)
    else
      some ((-1), q2.2)
set_option maxRecDepth 20000 in
theorem e_Count_seal {l : Launch} {G : jG} (hG : jX G) {kk : Nat} (hk : 93 ≤ kk) {x1 : Int32} {w : jW} {z : (Int32 × jW)} (h : f_Count_seal x1 w = some z) : Ct l G y_Count_seal d_Count_seal 0 0 [.ref 2, .int x1] (jRx kk) w (some (.int z.1), (jRx kk), z.2) := by
  rw [f_Count_seal] at h
  refine Ct.of (L := [some (.ref 2), some (.int x1)]) (by decide) (Nat.le_of_ble_eq_true rfl) rfl ?_
  refine ev_seg (o := 9) (nL := 2) (q := 8) (xs := [(.aload_n 0, 1, 0, 0, .null), (.getfield 12, 3, 9, 0, .ref 6), (.getfield 58, 3, 6, 6, .ref 3), (.iload_n 1, 1, 1, 0, .null)]) (L' := [some (.ref 2), some (.int x1)]) (st' := [.int x1, .ref 6]) (w' := w) (g := []) (K := [(6, 3), (3, 6), (3, 6), (2, 9)]) (by decide +kernel) rfl rfl rfl rfl (jk1 (kz_6 hk) (jk1 (kz_3 hk) (jk1 (kz_3 hk) (jk1 (kz_2 hk) jk0)))) ?_
  obtain ⟨q1, hq1, h⟩ := jbe h
  refine ev_callV (ci := 3) (a := 6) (y2 := y_Rows_has) (o := 9) (idx := 80) (d2 := d_Rows_has) (n := 1) (mc2 := 0) (ms2 := 0) (As := [.int x1]) (st := []) (res2 := (some (.int q1.1), (jRx kk), q1.2)) (by decide +kernel) rfl lk_9_80 mo_Rows_has mv_Rows_has ⟨Nat.le_of_ble_eq_true rfl, Nat.le_of_ble_eq_true rfl⟩ rfl rfl (kz_6 hk) (by decide) rfl (Nat.le_of_ble_eq_true rfl) ⟨Nat.le_refl _, Nat.le_refl _⟩ hG (e_Rows_has hG hk (kz_6 hk) hq1) ?_
  refine ev_if_eq (off := 27) (tgt := 38) (by decide +kernel) (by decide) (fun c7 => ?_) (fun c7 => ?_)
  · replace h := jpos c7 h
    refine ev_seg (o := 9) (nL := 2) (q := 39) (xs := [(.iconst (-1), 1, 0, 0, .int (-1))]) (L' := [some (.ref 2), some (.int x1)]) (st' := [.int (-1)]) (w' := q1.2) (g := []) (K := []) (by decide +kernel) rfl rfl rfl rfl jk0 ?_
    cases h
    exact ev_iret (by decide +kernel) rfl rfl rfl rfl
  · replace h := jneg c7 h
    refine ev_seg (o := 9) (nL := 2) (q := 21) (xs := [(.aload_n 0, 1, 0, 0, .null), (.getfield 12, 3, 9, 0, .ref 6), (.getfield 141, 3, 6, 10, .ref 3)]) (L' := [some (.ref 2), some (.int x1)]) (st' := [.ref 14]) (w' := q1.2) (g := []) (K := [(14, 3), (3, 6), (3, 6), (2, 9)]) (by decide +kernel) rfl rfl rfl rfl (jk1 (kz_14 hk) (jk1 (kz_3 hk) (jk1 (kz_3 hk) (jk1 (kz_2 hk) jk0)))) ?_
    obtain ⟨q2, hq2, h⟩ := jbe h
    refine ev_callV (ci := 3) (a := 14) (y2 := y_Rows_isFull) (o := 9) (idx := 62) (d2 := d_Rows_isFull) (n := 0) (mc2 := 0) (ms2 := 0) (As := []) (st := []) (res2 := (some (.int q2.1), (jRx kk), q2.2)) (by decide +kernel) rfl lk_9_62 mo_Rows_isFull mv_Rows_isFull ⟨Nat.le_of_ble_eq_true rfl, Nat.le_of_ble_eq_true rfl⟩ rfl rfl (kz_14 hk) (by decide) rfl (Nat.le_of_ble_eq_true rfl) ⟨Nat.le_refl _, Nat.le_refl _⟩ hG (e_Rows_isFull hG hk (kz_14 hk) hq2) ?_
    refine ev_if_ne (off := 14) (tgt := 38) (by decide +kernel) (by decide) (fun c6 => ?_) (fun c6 => ?_)
    · replace h := jneg c6 h
      refine ev_seg (o := 9) (nL := 2) (q := 39) (xs := [(.iconst (-1), 1, 0, 0, .int (-1))]) (L' := [some (.ref 2), some (.int x1)]) (st' := [.int (-1)]) (w' := q2.2) (g := []) (K := []) (by decide +kernel) rfl rfl rfl rfl jk0 ?_
      cases h
      exact ev_iret (by decide +kernel) rfl rfl rfl rfl
    · replace h := jpos c6 h
      refine ev_seg (o := 9) (nL := 2) (q := 32) (xs := [(.aload_n 0, 1, 0, 0, .null), (.getfield 12, 3, 9, 0, .ref 6), (.iload_n 1, 1, 1, 0, .null)]) (L' := [some (.ref 2), some (.int x1)]) (st' := [.int x1, .ref 3]) (w' := q2.2) (g := []) (K := [(3, 6), (2, 9)]) (by decide +kernel) rfl rfl rfl rfl (jk1 (kz_3 hk) (jk1 (kz_2 hk) jk0)) ?_
      obtain ⟨q3, hq3, h⟩ := jbe h
      refine ev_callV (ci := 6) (a := 3) (y2 := y_State_isSealed) (o := 9) (idx := 144) (d2 := d_State_isSealed) (n := 1) (mc2 := 0) (ms2 := 0) (As := [.int x1]) (st := []) (res2 := (some (.int q3.1), (jRx kk), q3.2)) (by decide +kernel) rfl lk_9_144 mo_State_isSealed mv_State_isSealed ⟨Nat.le_of_ble_eq_true rfl, Nat.le_of_ble_eq_true rfl⟩ rfl rfl (kz_3 hk) (by decide) rfl (Nat.le_of_ble_eq_true rfl) ⟨Nat.le_refl _, Nat.le_refl _⟩ hG (e_State_isSealed hG hk hq3) ?_
      refine ev_if_eq (off := 5) (tgt := 40) (by decide +kernel) (by decide) (fun c5 => ?_) (fun c5 => ?_)
      · replace h := jpos c5 h
        refine ev_seg (o := 9) (nL := 2) (q := 55) (xs := [(.aload_n 0, 1, 0, 0, .null), (.getfield 12, 3, 9, 0, .ref 6), (.getfield 141, 3, 6, 10, .ref 3), (.iload_n 1, 1, 1, 0, .null), (.aload_n 0, 1, 0, 0, .null), (.getfield 12, 3, 9, 0, .ref 6), (.getfield 119, 3, 6, 0, .int 0)]) (L' := [some (.ref 2), some (.int x1)]) (st' := [.int (q3.2.1 3 0), .int x1, .ref 14]) (w' := q3.2) (g := []) (K := [(3, 6), (3, 6), (2, 9), (14, 3), (3, 6), (3, 6), (2, 9)]) (by decide +kernel) rfl rfl rfl rfl (jk1 (kz_3 hk) (jk1 (kz_3 hk) (jk1 (kz_2 hk) (jk1 (kz_14 hk) (jk1 (kz_3 hk) (jk1 (kz_3 hk) (jk1 (kz_2 hk) jk0))))))) ?_
        obtain ⟨q4, hq4, h⟩ := jbe h
        refine ev_callS (y2 := y_State_addSpot) (o := 9) (idx := 147) (d2 := d_State_addSpot) (n := 3) (mc2 := 0) (ms2 := 0) (As := [.ref 14, .int x1, .int (q3.2.1 3 0)]) (st := []) (res2 := (some (.int q4.1), (jRx kk), q4.2)) (by decide +kernel) rfl lk_9_147 mo_State_addSpot ms_State_addSpot ⟨Nat.le_of_ble_eq_true rfl, Nat.le_of_ble_eq_true rfl⟩ rfl rfl (Nat.le_of_ble_eq_true rfl) ⟨Nat.le_refl _, Nat.le_refl _⟩ hG (e_State_addSpot hG hk (kz_14 hk) hq4) ?_
        cases h
        exact ev_iret (by decide +kernel) rfl rfl rfl rfl
      · replace h := jneg c5 h
        refine ev_seg (o := 9) (nL := 2) (q := 39) (xs := [(.iconst (-1), 1, 0, 0, .int (-1))]) (L' := [some (.ref 2), some (.int x1)]) (st' := [.int (-1)]) (w' := q3.2) (g := []) (K := []) (by decide +kernel) rfl rfl rfl rfl jk0 ?_
        cases h
        exact ev_iret (by decide +kernel) rfl rfl rfl rfl
def f_Count_days (x1 : Int32) (w : jW) : Option (Int32 × jW) :=
  if x1 < 1 then
    some ((-1), w)
  else
    if x1 ≤ 400 then
      if ((w.1 3 0) + x1) ≤ 1999 then
        jlw ((jup w.1 3 0 ((w.1 3 0) + x1)), w.2) fun w1 =>
        some ((w1.1 3 0), w1)
      else
        some ((-1), w)
    else
      some ((-1), w)
set_option maxRecDepth 20000 in
theorem e_Count_days {l : Launch} {G : jG} (hG : jX G) {kk : Nat} (hk : 93 ≤ kk) {x1 : Int32} {w : jW} {z : (Int32 × jW)} (h : f_Count_days x1 w = some z) : Ct l G y_Count_days d_Count_days 0 0 [.ref 2, .int x1] (jRx kk) w (some (.int z.1), (jRx kk), z.2) := by
  rw [f_Count_days] at h
  refine Ct.of (L := [some (.ref 2), some (.int x1)]) (by decide) (Nat.le_of_ble_eq_true rfl) rfl ?_
  refine ev_seg (o := 9) (nL := 2) (q := 2) (xs := [(.iload_n 1, 1, 1, 0, .null), (.iconst 1, 1, 0, 0, .int 1)]) (L' := [some (.ref 2), some (.int x1)]) (st' := [.int 1, .int x1]) (w' := w) (g := []) (K := []) (by decide +kernel) rfl rfl rfl rfl jk0 ?_
  refine ev_icmp_lt (off := 25) (tgt := 27) (by decide +kernel) (by decide) (fun c4 => ?_) (fun c4 => ?_)
  · replace h := jpos c4 h
    refine ev_seg (o := 9) (nL := 2) (q := 28) (xs := [(.iconst (-1), 1, 0, 0, .int (-1))]) (L' := [some (.ref 2), some (.int x1)]) (st' := [.int (-1)]) (w' := w) (g := []) (K := []) (by decide +kernel) rfl rfl rfl rfl jk0 ?_
    cases h
    exact ev_iret (by decide +kernel) rfl rfl rfl rfl
  · replace h := jneg c4 h
    refine ev_seg (o := 9) (nL := 2) (q := 9) (xs := [(.iload_n 1, 1, 1, 0, .null), (.sipush 400, 3, 0, 0, .int 400)]) (L' := [some (.ref 2), some (.int x1)]) (st' := [.int 400, .int x1]) (w' := w) (g := []) (K := []) (by decide +kernel) rfl rfl rfl rfl jk0 ?_
    refine ev_icmp_gt (off := 18) (tgt := 27) (by decide +kernel) (by decide) (fun c3 => ?_) (fun c3 => ?_)
    · replace h := jneg c3 h
      refine ev_seg (o := 9) (nL := 2) (q := 28) (xs := [(.iconst (-1), 1, 0, 0, .int (-1))]) (L' := [some (.ref 2), some (.int x1)]) (st' := [.int (-1)]) (w' := w) (g := []) (K := []) (by decide +kernel) rfl rfl rfl rfl jk0 ?_
      cases h
      exact ev_iret (by decide +kernel) rfl rfl rfl rfl
    · replace h := jpos c3 h
      refine ev_seg (o := 9) (nL := 2) (q := 24) (xs := [(.aload_n 0, 1, 0, 0, .null), (.getfield 12, 3, 9, 0, .ref 6), (.getfield 119, 3, 6, 0, .int 0), (.iload_n 1, 1, 1, 0, .null), (.iadd, 1, 0, 0, .null), (.sipush 1999, 3, 0, 0, .int 1999)]) (L' := [some (.ref 2), some (.int x1)]) (st' := [.int 1999, .int ((w.1 3 0) + x1)]) (w' := w) (g := []) (K := [(3, 6), (3, 6), (2, 9)]) (by decide +kernel) rfl rfl rfl rfl (jk1 (kz_3 hk) (jk1 (kz_3 hk) (jk1 (kz_2 hk) jk0))) ?_
      refine ev_icmp_le (off := 5) (tgt := 29) (by decide +kernel) (by decide) (fun c2 => ?_) (fun c2 => ?_)
      · replace h := jpos c2 h
        refine ev_seg (o := 9) (nL := 2) (q := 42) (xs := [(.aload_n 0, 1, 0, 0, .null), (.getfield 12, 3, 9, 0, .ref 6), (.dup, 1, 0, 0, .null), (.getfield 119, 3, 6, 0, .int 0), (.iload_n 1, 1, 1, 0, .null), (.iadd, 1, 0, 0, .null), (.putfield 119, 3, 6, 0, .int 0)]) (L' := [some (.ref 2), some (.int x1)]) (st' := []) (w' := ((jup w.1 3 0 ((w.1 3 0) + x1)), w.2)) (g := []) (K := [(3, 6), (3, 6), (3, 6), (2, 9)]) (by decide +kernel) rfl rfl rfl rfl (jk1 (kz_3 hk) (jk1 (kz_3 hk) (jk1 (kz_3 hk) (jk1 (kz_2 hk) jk0)))) ?_
        refine jlw_c (P := fun w1 => Ev l G (jrm d_Count_days 0 0) y_Count_days (some (.int z.1), (jRx kk), z.2) 0 0 0 0 42 [some (.ref 2), some (.int x1)] [] (jRx kk) w1) h fun w1 h => ?_
        refine ev_seg (o := 9) (nL := 2) (q := 49) (xs := [(.aload_n 0, 1, 0, 0, .null), (.getfield 12, 3, 9, 0, .ref 6), (.getfield 119, 3, 6, 0, .int 0)]) (L' := [some (.ref 2), some (.int x1)]) (st' := [.int (w1.1 3 0)]) (w' := w1) (g := []) (K := [(3, 6), (3, 6), (2, 9)]) (by decide +kernel) rfl rfl rfl rfl (jk1 (kz_3 hk) (jk1 (kz_3 hk) (jk1 (kz_2 hk) jk0))) ?_
        cases h
        exact ev_iret (by decide +kernel) rfl rfl rfl rfl
      · replace h := jneg c2 h
        refine ev_seg (o := 9) (nL := 2) (q := 28) (xs := [(.iconst (-1), 1, 0, 0, .int (-1))]) (L' := [some (.ref 2), some (.int x1)]) (st' := [.int (-1)]) (w' := w) (g := []) (K := []) (by decide +kernel) rfl rfl rfl rfl jk0 ?_
        cases h
        exact ev_iret (by decide +kernel) rfl rfl rfl rfl
def f_State_isDay (x0 : Int32) (w : jW) : Option (Int32 × jW) :=
  if x0 < 0 then
    some (0, w)
  else
    if x0 ≤ 1999 then
      some (1, w)
    else
      some (0, w)
set_option maxRecDepth 20000 in
theorem e_State_isDay {l : Launch} {G : jG} (hG : jX G) {kk : Nat} (hk : 93 ≤ kk) {x0 : Int32} {w : jW} {z : (Int32 × jW)} (h : f_State_isDay x0 w = some z) : Ct l G y_State_isDay d_State_isDay 0 0 [.int x0] (jRx kk) w (some (.int z.1), (jRx kk), z.2) := by
  rw [f_State_isDay] at h
  refine Ct.of (L := [some (.int x0)]) (by decide) (Nat.le_of_ble_eq_true rfl) rfl ?_
  refine ev_seg (o := 6) (nL := 1) (q := 1) (xs := [(.iload_n 0, 1, 0, 0, .null)]) (L' := [some (.int x0)]) (st' := [.int x0]) (w' := w) (g := []) (K := []) (by decide +kernel) rfl rfl rfl rfl jk0 ?_
  refine ev_if_lt (off := 14) (tgt := 15) (by decide +kernel) (by decide) (fun c2 => ?_) (fun c2 => ?_)
  · replace h := jpos c2 h
    refine ev_seg (o := 6) (nL := 1) (q := 16) (xs := [(.iconst 0, 1, 0, 0, .int 0)]) (L' := [some (.int x0)]) (st' := [.int 0]) (w' := w) (g := []) (K := []) (by decide +kernel) rfl rfl rfl rfl jk0 ?_
    cases h
    exact ev_zret (by decide +kernel) rfl rfl rfl rfl rfl
  · replace h := jneg c2 h
    refine ev_seg (o := 6) (nL := 1) (q := 8) (xs := [(.iload_n 0, 1, 0, 0, .null), (.sipush 1999, 3, 0, 0, .int 1999)]) (L' := [some (.int x0)]) (st' := [.int 1999, .int x0]) (w' := w) (g := []) (K := []) (by decide +kernel) rfl rfl rfl rfl jk0 ?_
    refine ev_icmp_gt (off := 7) (tgt := 15) (by decide +kernel) (by decide) (fun c1 => ?_) (fun c1 => ?_)
    · replace h := jneg c1 h
      refine ev_seg (o := 6) (nL := 1) (q := 16) (xs := [(.iconst 0, 1, 0, 0, .int 0)]) (L' := [some (.int x0)]) (st' := [.int 0]) (w' := w) (g := []) (K := []) (by decide +kernel) rfl rfl rfl rfl jk0 ?_
      cases h
      exact ev_zret (by decide +kernel) rfl rfl rfl rfl rfl
    · replace h := jpos c1 h
      refine ev_seg (o := 6) (nL := 1) (q := 16) (xs := [(.iconst 1, 1, 0, 0, .int 1), (.goto 4, 3, 0, 0, .null)]) (L' := [some (.int x0)]) (st' := [.int 1]) (w' := w) (g := []) (K := []) (by decide +kernel) rfl rfl rfl rfl jk0 ?_
      cases h
      exact ev_zret (by decide +kernel) rfl rfl rfl rfl rfl
def f_Count_where (x1 : Int32) (x2 : Int32) (w : jW) : Option (Int32 × jW) :=
  Option.bind (f_Rows_has 10 x1 w) fun q1 =>
  if q1.1 = 0 then
    some ((-1), q1.2)
  else
    Option.bind (f_State_isDay x2 q1.2) fun q2 =>
    if q2.1 = 0 then
      some ((-1), q2.2)
    else
      Option.bind (f_State_placeOn x1 x2 q2.2) fun q3 =>
      some (q3.1, q3.2)
set_option maxRecDepth 20000 in
theorem e_Count_where {l : Launch} {G : jG} (hG : jX G) {kk : Nat} (hk : 93 ≤ kk) {x1 : Int32} {x2 : Int32} {w : jW} {z : (Int32 × jW)} (h : f_Count_where x1 x2 w = some z) : Ct l G y_Count_where d_Count_where 0 0 [.ref 2, .int x1, .int x2] (jRx kk) w (some (.int z.1), (jRx kk), z.2) := by
  rw [f_Count_where] at h
  refine Ct.of (L := [some (.ref 2), some (.int x1), some (.int x2)]) (by decide) (Nat.le_of_ble_eq_true rfl) rfl ?_
  refine ev_seg (o := 9) (nL := 3) (q := 8) (xs := [(.aload_n 0, 1, 0, 0, .null), (.getfield 12, 3, 9, 0, .ref 6), (.getfield 100, 3, 6, 8, .ref 3), (.iload_n 1, 1, 1, 0, .null)]) (L' := [some (.ref 2), some (.int x1), some (.int x2)]) (st' := [.int x1, .ref 10]) (w' := w) (g := []) (K := [(10, 3), (3, 6), (3, 6), (2, 9)]) (by decide +kernel) rfl rfl rfl rfl (jk1 (kz_10 hk) (jk1 (kz_3 hk) (jk1 (kz_3 hk) (jk1 (kz_2 hk) jk0)))) ?_
  obtain ⟨q1, hq1, h⟩ := jbe h
  refine ev_callV (ci := 3) (a := 10) (y2 := y_Rows_has) (o := 9) (idx := 80) (d2 := d_Rows_has) (n := 1) (mc2 := 0) (ms2 := 0) (As := [.int x1]) (st := []) (res2 := (some (.int q1.1), (jRx kk), q1.2)) (by decide +kernel) rfl lk_9_80 mo_Rows_has mv_Rows_has ⟨Nat.le_of_ble_eq_true rfl, Nat.le_of_ble_eq_true rfl⟩ rfl rfl (kz_10 hk) (by decide) rfl (Nat.le_of_ble_eq_true rfl) ⟨Nat.le_refl _, Nat.le_refl _⟩ hG (e_Rows_has hG hk (kz_10 hk) hq1) ?_
  refine ev_if_eq (off := 22) (tgt := 33) (by decide +kernel) (by decide) (fun c5 => ?_) (fun c5 => ?_)
  · replace h := jpos c5 h
    refine ev_seg (o := 9) (nL := 3) (q := 34) (xs := [(.iconst (-1), 1, 0, 0, .int (-1))]) (L' := [some (.ref 2), some (.int x1), some (.int x2)]) (st' := [.int (-1)]) (w' := q1.2) (g := []) (K := []) (by decide +kernel) rfl rfl rfl rfl jk0 ?_
    cases h
    exact ev_iret (by decide +kernel) rfl rfl rfl rfl
  · replace h := jneg c5 h
    refine ev_seg (o := 9) (nL := 3) (q := 15) (xs := [(.iload_n 2, 1, 2, 0, .null)]) (L' := [some (.ref 2), some (.int x1), some (.int x2)]) (st' := [.int x2]) (w' := q1.2) (g := []) (K := []) (by decide +kernel) rfl rfl rfl rfl jk0 ?_
    obtain ⟨q2, hq2, h⟩ := jbe h
    refine ev_callS (y2 := y_State_isDay) (o := 9) (idx := 151) (d2 := d_State_isDay) (n := 1) (mc2 := 0) (ms2 := 0) (As := [.int x2]) (st := []) (res2 := (some (.int q2.1), (jRx kk), q2.2)) (by decide +kernel) rfl lk_9_151 mo_State_isDay ms_State_isDay ⟨Nat.le_of_ble_eq_true rfl, Nat.le_of_ble_eq_true rfl⟩ rfl rfl (Nat.le_of_ble_eq_true rfl) ⟨Nat.le_refl _, Nat.le_refl _⟩ hG (e_State_isDay hG hk hq2) ?_
    refine ev_if_eq (off := 15) (tgt := 33) (by decide +kernel) (by decide) (fun c4 => ?_) (fun c4 => ?_)
    · replace h := jpos c4 h
      refine ev_seg (o := 9) (nL := 3) (q := 34) (xs := [(.iconst (-1), 1, 0, 0, .int (-1))]) (L' := [some (.ref 2), some (.int x1), some (.int x2)]) (st' := [.int (-1)]) (w' := q2.2) (g := []) (K := []) (by decide +kernel) rfl rfl rfl rfl jk0 ?_
      cases h
      exact ev_iret (by decide +kernel) rfl rfl rfl rfl
    · replace h := jneg c4 h
      refine ev_seg (o := 9) (nL := 3) (q := 27) (xs := [(.aload_n 0, 1, 0, 0, .null), (.getfield 12, 3, 9, 0, .ref 6), (.iload_n 1, 1, 1, 0, .null), (.iload_n 2, 1, 2, 0, .null)]) (L' := [some (.ref 2), some (.int x1), some (.int x2)]) (st' := [.int x2, .int x1, .ref 3]) (w' := q2.2) (g := []) (K := [(3, 6), (2, 9)]) (by decide +kernel) rfl rfl rfl rfl (jk1 (kz_3 hk) (jk1 (kz_2 hk) jk0)) ?_
      obtain ⟨q3, hq3, h⟩ := jbe h
      refine ev_callV (ci := 6) (a := 3) (y2 := y_State_placeOn) (o := 9) (idx := 129) (d2 := d_State_placeOn) (n := 2) (mc2 := 0) (ms2 := 0) (As := [.int x1, .int x2]) (st := []) (res2 := (some (.int q3.1), (jRx kk), q3.2)) (by decide +kernel) rfl lk_9_129 mo_State_placeOn mv_State_placeOn ⟨Nat.le_of_ble_eq_true rfl, Nat.le_of_ble_eq_true rfl⟩ rfl rfl (kz_3 hk) (by decide) rfl (Nat.le_of_ble_eq_true rfl) ⟨Nat.le_refl _, Nat.le_refl _⟩ hG (e_State_placeOn hG hk hq3) ?_
      refine ev_seg (o := 9) (nL := 3) (q := 34) (xs := [(.goto 4, 3, 0, 0, .null)]) (L' := [some (.ref 2), some (.int x1), some (.int x2)]) (st' := [.int q3.1]) (w' := q3.2) (g := []) (K := []) (by decide +kernel) rfl rfl rfl rfl jk0 ?_
      cases h
      exact ev_iret (by decide +kernel) rfl rfl rfl rfl
def f_Count_thing (x1 : Int32) (x2 : Int32) (w : jW) : Option (Int32 × jW) :=
  if x2 ≤ 6 then
    Option.bind (f_Rows_at 10 x1 x2 w) fun q1 =>
    some (q1.1, q1.2)
  else
    some ((-1), w)
set_option maxRecDepth 20000 in
theorem e_Count_thing {l : Launch} {G : jG} (hG : jX G) {kk : Nat} (hk : 93 ≤ kk) {x1 : Int32} {x2 : Int32} {w : jW} {z : (Int32 × jW)} (h : f_Count_thing x1 x2 w = some z) : Ct l G y_Count_thing d_Count_thing 0 0 [.ref 2, .int x1, .int x2] (jRx kk) w (some (.int z.1), (jRx kk), z.2) := by
  rw [f_Count_thing] at h
  refine Ct.of (L := [some (.ref 2), some (.int x1), some (.int x2)]) (by decide) (Nat.le_of_ble_eq_true rfl) rfl ?_
  refine ev_seg (o := 9) (nL := 3) (q := 3) (xs := [(.iload_n 2, 1, 2, 0, .null), (.bipush 6, 2, 0, 0, .int 6)]) (L' := [some (.ref 2), some (.int x1), some (.int x2)]) (st' := [.int 6, .int x2]) (w' := w) (g := []) (K := []) (by decide +kernel) rfl rfl rfl rfl jk0 ?_
  refine ev_icmp_le (off := 7) (tgt := 10) (by decide +kernel) (by decide) (fun c2 => ?_) (fun c2 => ?_)
  · replace h := jpos c2 h
    refine ev_seg (o := 9) (nL := 3) (q := 19) (xs := [(.aload_n 0, 1, 0, 0, .null), (.getfield 12, 3, 9, 0, .ref 6), (.getfield 100, 3, 6, 8, .ref 3), (.iload_n 1, 1, 1, 0, .null), (.iload_n 2, 1, 2, 0, .null)]) (L' := [some (.ref 2), some (.int x1), some (.int x2)]) (st' := [.int x2, .int x1, .ref 10]) (w' := w) (g := []) (K := [(10, 3), (3, 6), (3, 6), (2, 9)]) (by decide +kernel) rfl rfl rfl rfl (jk1 (kz_10 hk) (jk1 (kz_3 hk) (jk1 (kz_3 hk) (jk1 (kz_2 hk) jk0)))) ?_
    obtain ⟨q1, hq1, h⟩ := jbe h
    refine ev_callV (ci := 3) (a := 10) (y2 := y_Rows_at) (o := 9) (idx := 83) (d2 := d_Rows_at) (n := 2) (mc2 := 0) (ms2 := 0) (As := [.int x1, .int x2]) (st := []) (res2 := (some (.int q1.1), (jRx kk), q1.2)) (by decide +kernel) rfl lk_9_83 mo_Rows_at mv_Rows_at ⟨Nat.le_of_ble_eq_true rfl, Nat.le_of_ble_eq_true rfl⟩ rfl rfl (kz_10 hk) (by decide) rfl (Nat.le_of_ble_eq_true rfl) ⟨Nat.le_refl _, Nat.le_refl _⟩ hG (e_Rows_at hG hk (kz_10 hk) hq1) ?_
    cases h
    exact ev_iret (by decide +kernel) rfl rfl rfl rfl
  · replace h := jneg c2 h
    refine ev_seg (o := 9) (nL := 3) (q := 22) (xs := [(.iconst (-1), 1, 0, 0, .int (-1)), (.goto 15, 3, 0, 0, .null)]) (L' := [some (.ref 2), some (.int x1), some (.int x2)]) (st' := [.int (-1)]) (w' := w) (g := []) (K := []) (by decide +kernel) rfl rfl rfl rfl jk0 ?_
    cases h
    exact ev_iret (by decide +kernel) rfl rfl rfl rfl
def f_Count_whole (x1 : Int32) (x2 : Int32) (w : jW) : Option (Int32 × jW) :=
  Option.bind (f_Rows_has 14 x1 w) fun q1 =>
  if q1.1 = 0 then
    some ((-1), q1.2)
  else
    Option.bind (f_State_isDay x2 q1.2) fun q2 =>
    if q2.1 = 0 then
      some ((-1), q2.2)
    else
      Option.bind (f_Rows_at 14 x1 1 q2.2) fun q3 =>
      if x2 < q3.1 then
        some ((-1), q3.2)
      else
        Option.bind (f_State_isWhole x1 x2 q3.2) fun q4 =>
        if q4.1 = 0 then
          some (0, q4.2)
        else
          some (1, q4.2)
set_option maxRecDepth 20000 in
theorem e_Count_whole {l : Launch} {G : jG} (hG : jX G) {kk : Nat} (hk : 93 ≤ kk) {x1 : Int32} {x2 : Int32} {w : jW} {z : (Int32 × jW)} (h : f_Count_whole x1 x2 w = some z) : Ct l G y_Count_whole d_Count_whole 0 0 [.ref 2, .int x1, .int x2] (jRx kk) w (some (.int z.1), (jRx kk), z.2) := by
  rw [f_Count_whole] at h
  refine Ct.of (L := [some (.ref 2), some (.int x1), some (.int x2)]) (by decide) (Nat.le_of_ble_eq_true rfl) rfl ?_
  refine ev_seg (o := 9) (nL := 3) (q := 8) (xs := [(.aload_n 0, 1, 0, 0, .null), (.getfield 12, 3, 9, 0, .ref 6), (.getfield 141, 3, 6, 10, .ref 3), (.iload_n 1, 1, 1, 0, .null)]) (L' := [some (.ref 2), some (.int x1), some (.int x2)]) (st' := [.int x1, .ref 14]) (w' := w) (g := []) (K := [(14, 3), (3, 6), (3, 6), (2, 9)]) (by decide +kernel) rfl rfl rfl rfl (jk1 (kz_14 hk) (jk1 (kz_3 hk) (jk1 (kz_3 hk) (jk1 (kz_2 hk) jk0)))) ?_
  obtain ⟨q1, hq1, h⟩ := jbe h
  refine ev_callV (ci := 3) (a := 14) (y2 := y_Rows_has) (o := 9) (idx := 80) (d2 := d_Rows_has) (n := 1) (mc2 := 0) (ms2 := 0) (As := [.int x1]) (st := []) (res2 := (some (.int q1.1), (jRx kk), q1.2)) (by decide +kernel) rfl lk_9_80 mo_Rows_has mv_Rows_has ⟨Nat.le_of_ble_eq_true rfl, Nat.le_of_ble_eq_true rfl⟩ rfl rfl (kz_14 hk) (by decide) rfl (Nat.le_of_ble_eq_true rfl) ⟨Nat.le_refl _, Nat.le_refl _⟩ hG (e_Rows_has hG hk (kz_14 hk) hq1) ?_
  refine ev_if_eq (off := 26) (tgt := 37) (by decide +kernel) (by decide) (fun c8 => ?_) (fun c8 => ?_)
  · replace h := jpos c8 h
    refine ev_seg (o := 9) (nL := 3) (q := 38) (xs := [(.iconst (-1), 1, 0, 0, .int (-1))]) (L' := [some (.ref 2), some (.int x1), some (.int x2)]) (st' := [.int (-1)]) (w' := q1.2) (g := []) (K := []) (by decide +kernel) rfl rfl rfl rfl jk0 ?_
    cases h
    exact ev_iret (by decide +kernel) rfl rfl rfl rfl
  · replace h := jneg c8 h
    refine ev_seg (o := 9) (nL := 3) (q := 15) (xs := [(.iload_n 2, 1, 2, 0, .null)]) (L' := [some (.ref 2), some (.int x1), some (.int x2)]) (st' := [.int x2]) (w' := q1.2) (g := []) (K := []) (by decide +kernel) rfl rfl rfl rfl jk0 ?_
    obtain ⟨q2, hq2, h⟩ := jbe h
    refine ev_callS (y2 := y_State_isDay) (o := 9) (idx := 151) (d2 := d_State_isDay) (n := 1) (mc2 := 0) (ms2 := 0) (As := [.int x2]) (st := []) (res2 := (some (.int q2.1), (jRx kk), q2.2)) (by decide +kernel) rfl lk_9_151 mo_State_isDay ms_State_isDay ⟨Nat.le_of_ble_eq_true rfl, Nat.le_of_ble_eq_true rfl⟩ rfl rfl (Nat.le_of_ble_eq_true rfl) ⟨Nat.le_refl _, Nat.le_refl _⟩ hG (e_State_isDay hG hk hq2) ?_
    refine ev_if_eq (off := 19) (tgt := 37) (by decide +kernel) (by decide) (fun c7 => ?_) (fun c7 => ?_)
    · replace h := jpos c7 h
      refine ev_seg (o := 9) (nL := 3) (q := 38) (xs := [(.iconst (-1), 1, 0, 0, .int (-1))]) (L' := [some (.ref 2), some (.int x1), some (.int x2)]) (st' := [.int (-1)]) (w' := q2.2) (g := []) (K := []) (by decide +kernel) rfl rfl rfl rfl jk0 ?_
      cases h
      exact ev_iret (by decide +kernel) rfl rfl rfl rfl
    · replace h := jneg c7 h
      refine ev_seg (o := 9) (nL := 3) (q := 31) (xs := [(.iload_n 2, 1, 2, 0, .null), (.aload_n 0, 1, 0, 0, .null), (.getfield 12, 3, 9, 0, .ref 6), (.getfield 141, 3, 6, 10, .ref 3), (.iload_n 1, 1, 1, 0, .null), (.iconst 1, 1, 0, 0, .int 1)]) (L' := [some (.ref 2), some (.int x1), some (.int x2)]) (st' := [.int 1, .int x1, .ref 14, .int x2]) (w' := q2.2) (g := []) (K := [(14, 3), (3, 6), (3, 6), (2, 9)]) (by decide +kernel) rfl rfl rfl rfl (jk1 (kz_14 hk) (jk1 (kz_3 hk) (jk1 (kz_3 hk) (jk1 (kz_2 hk) jk0)))) ?_
      obtain ⟨q3, hq3, h⟩ := jbe h
      refine ev_callV (ci := 3) (a := 14) (y2 := y_Rows_at) (o := 9) (idx := 83) (d2 := d_Rows_at) (n := 2) (mc2 := 0) (ms2 := 0) (As := [.int x1, .int 1]) (st := [.int x2]) (res2 := (some (.int q3.1), (jRx kk), q3.2)) (by decide +kernel) rfl lk_9_83 mo_Rows_at mv_Rows_at ⟨Nat.le_of_ble_eq_true rfl, Nat.le_of_ble_eq_true rfl⟩ rfl rfl (kz_14 hk) (by decide) rfl (Nat.le_of_ble_eq_true rfl) ⟨Nat.le_refl _, Nat.le_refl _⟩ hG (e_Rows_at hG hk (kz_14 hk) hq3) ?_
      refine ev_icmp_ge (off := 5) (tgt := 39) (by decide +kernel) (by decide) (fun c6 => ?_) (fun c6 => ?_)
      · replace h := jneg c6 h
        refine ev_seg (o := 9) (nL := 3) (q := 45) (xs := [(.aload_n 0, 1, 0, 0, .null), (.getfield 12, 3, 9, 0, .ref 6), (.iload_n 1, 1, 1, 0, .null), (.iload_n 2, 1, 2, 0, .null)]) (L' := [some (.ref 2), some (.int x1), some (.int x2)]) (st' := [.int x2, .int x1, .ref 3]) (w' := q3.2) (g := []) (K := [(3, 6), (2, 9)]) (by decide +kernel) rfl rfl rfl rfl (jk1 (kz_3 hk) (jk1 (kz_2 hk) jk0)) ?_
        obtain ⟨q4, hq4, h⟩ := jbe h
        refine ev_callV (ci := 6) (a := 3) (y2 := y_State_isWhole) (o := 9) (idx := 154) (d2 := d_State_isWhole) (n := 2) (mc2 := 0) (ms2 := 0) (As := [.int x1, .int x2]) (st := []) (res2 := (some (.int q4.1), (jRx kk), q4.2)) (by decide +kernel) rfl lk_9_154 mo_State_isWhole mv_State_isWhole ⟨Nat.le_of_ble_eq_true rfl, Nat.le_of_ble_eq_true rfl⟩ rfl rfl (kz_3 hk) (by decide) rfl (Nat.le_of_ble_eq_true rfl) ⟨Nat.le_refl _, Nat.le_refl _⟩ hG (e_State_isWhole hG hk hq4) ?_
        refine ev_if_eq (off := 7) (tgt := 55) (by decide +kernel) (by decide) (fun c5 => ?_) (fun c5 => ?_)
        · replace h := jpos c5 h
          refine ev_seg (o := 9) (nL := 3) (q := 56) (xs := [(.iconst 0, 1, 0, 0, .int 0)]) (L' := [some (.ref 2), some (.int x1), some (.int x2)]) (st' := [.int 0]) (w' := q4.2) (g := []) (K := []) (by decide +kernel) rfl rfl rfl rfl jk0 ?_
          cases h
          exact ev_iret (by decide +kernel) rfl rfl rfl rfl
        · replace h := jneg c5 h
          refine ev_seg (o := 9) (nL := 3) (q := 56) (xs := [(.iconst 1, 1, 0, 0, .int 1), (.goto 4, 3, 0, 0, .null)]) (L' := [some (.ref 2), some (.int x1), some (.int x2)]) (st' := [.int 1]) (w' := q4.2) (g := []) (K := []) (by decide +kernel) rfl rfl rfl rfl jk0 ?_
          cases h
          exact ev_iret (by decide +kernel) rfl rfl rfl rfl
      · replace h := jpos c6 h
        refine ev_seg (o := 9) (nL := 3) (q := 38) (xs := [(.iconst (-1), 1, 0, 0, .int (-1))]) (L' := [some (.ref 2), some (.int x1), some (.int x2)]) (st' := [.int (-1)]) (w' := q3.2) (g := []) (K := []) (by decide +kernel) rfl rfl rfl rfl jk0 ?_
        cases h
        exact ev_iret (by decide +kernel) rfl rfl rfl rfl
def f_Count_tell_j116 (x1 : Int32) (x3 : Int32) (x4 : Int32) (x5 : Int32) (s0 : Int32) (s1 : Int32) (s2 : Int32) (w : jW) : Option (Int32 × jW) :=
  Option.bind (f_Rows_put 24 s2 s1 s0 w) fun q5 =>
  Option.bind (f_Rows_put 24 x5 2 x3 q5) fun q6 =>
  Option.bind (f_Rows_put 24 x5 3 (q6.1 3 0) q6) fun q7 =>
  Option.bind (f_State_addAct 3 x4 x1 x5 q7) fun q8 =>
  some (x5, q8)
set_option maxRecDepth 20000 in
theorem t_Count_tell_j116 {l : Launch} {G : jG} (hG : jX G) {kk : Nat} (hk : 93 ≤ kk) {x1 : Int32} {x3 : Int32} {x4 : Int32} {x5 : Int32} {s0 : Int32} {s1 : Int32} {s2 : Int32} {w : jW} {z : (Int32 × jW)} (h : f_Count_tell_j116 x1 x3 x4 x5 s0 s1 s2 w = some z) : Ev l G (jrm d_Count_tell 0 0) y_Count_tell (some (.int z.1), (jRx kk), z.2) 0 0 0 0 116 [some (.ref 2), some (.int x1), none, some (.int x3), some (.int x4), some (.int x5)] [.int s0, .int s1, .int s2, .ref 24] (jRx kk) w := by
  rw [f_Count_tell_j116] at h
  obtain ⟨q5, hq5, h⟩ := jbe h
  refine ev_callV (ci := 3) (a := 24) (y2 := y_Rows_put) (o := 9) (idx := 72) (d2 := d_Rows_put) (n := 3) (mc2 := 0) (ms2 := 0) (As := [.int s2, .int s1, .int s0]) (st := []) (res2 := (none, (jRx kk), q5)) (by decide +kernel) rfl lk_9_72 mo_Rows_put mv_Rows_put ⟨Nat.le_of_ble_eq_true rfl, Nat.le_of_ble_eq_true rfl⟩ rfl rfl (kz_24 hk) (by decide) rfl (Nat.le_of_ble_eq_true rfl) ⟨Nat.le_refl _, Nat.le_refl _⟩ hG (e_Rows_put hG hk (kz_24 hk) hq5) ?_
  refine ev_seg (o := 9) (nL := 6) (q := 130) (xs := [(.aload_n 0, 1, 0, 0, .null), (.getfield 12, 3, 9, 0, .ref 6), (.getfield 203, 3, 6, 12, .ref 3), (.iload 5, 2, 5, 0, .null), (.iconst 2, 1, 0, 0, .int 2), (.iload_n 3, 1, 3, 0, .null)]) (L' := [some (.ref 2), some (.int x1), none, some (.int x3), some (.int x4), some (.int x5)]) (st' := [.int x3, .int 2, .int x5, .ref 24]) (w' := q5) (g := []) (K := [(24, 3), (3, 6), (3, 6), (2, 9)]) (by decide +kernel) rfl rfl rfl rfl (jk1 (kz_24 hk) (jk1 (kz_3 hk) (jk1 (kz_3 hk) (jk1 (kz_2 hk) jk0)))) ?_
  obtain ⟨q6, hq6, h⟩ := jbe h
  refine ev_callV (ci := 3) (a := 24) (y2 := y_Rows_put) (o := 9) (idx := 72) (d2 := d_Rows_put) (n := 3) (mc2 := 0) (ms2 := 0) (As := [.int x5, .int 2, .int x3]) (st := []) (res2 := (none, (jRx kk), q6)) (by decide +kernel) rfl lk_9_72 mo_Rows_put mv_Rows_put ⟨Nat.le_of_ble_eq_true rfl, Nat.le_of_ble_eq_true rfl⟩ rfl rfl (kz_24 hk) (by decide) rfl (Nat.le_of_ble_eq_true rfl) ⟨Nat.le_refl _, Nat.le_refl _⟩ hG (e_Rows_put hG hk (kz_24 hk) hq6) ?_
  refine ev_seg (o := 9) (nL := 6) (q := 150) (xs := [(.aload_n 0, 1, 0, 0, .null), (.getfield 12, 3, 9, 0, .ref 6), (.getfield 203, 3, 6, 12, .ref 3), (.iload 5, 2, 5, 0, .null), (.iconst 3, 1, 0, 0, .int 3), (.aload_n 0, 1, 0, 0, .null), (.getfield 12, 3, 9, 0, .ref 6), (.getfield 119, 3, 6, 0, .int 0)]) (L' := [some (.ref 2), some (.int x1), none, some (.int x3), some (.int x4), some (.int x5)]) (st' := [.int (q6.1 3 0), .int 3, .int x5, .ref 24]) (w' := q6) (g := []) (K := [(3, 6), (3, 6), (2, 9), (24, 3), (3, 6), (3, 6), (2, 9)]) (by decide +kernel) rfl rfl rfl rfl (jk1 (kz_3 hk) (jk1 (kz_3 hk) (jk1 (kz_2 hk) (jk1 (kz_24 hk) (jk1 (kz_3 hk) (jk1 (kz_3 hk) (jk1 (kz_2 hk) jk0))))))) ?_
  obtain ⟨q7, hq7, h⟩ := jbe h
  refine ev_callV (ci := 3) (a := 24) (y2 := y_Rows_put) (o := 9) (idx := 72) (d2 := d_Rows_put) (n := 3) (mc2 := 0) (ms2 := 0) (As := [.int x5, .int 3, .int (q6.1 3 0)]) (st := []) (res2 := (none, (jRx kk), q7)) (by decide +kernel) rfl lk_9_72 mo_Rows_put mv_Rows_put ⟨Nat.le_of_ble_eq_true rfl, Nat.le_of_ble_eq_true rfl⟩ rfl rfl (kz_24 hk) (by decide) rfl (Nat.le_of_ble_eq_true rfl) ⟨Nat.le_refl _, Nat.le_refl _⟩ hG (e_Rows_put hG hk (kz_24 hk) hq7) ?_
  refine ev_seg (o := 9) (nL := 6) (q := 163) (xs := [(.aload_n 0, 1, 0, 0, .null), (.getfield 12, 3, 9, 0, .ref 6), (.iconst 3, 1, 0, 0, .int 3), (.iload 4, 2, 4, 0, .null), (.iload_n 1, 1, 1, 0, .null), (.iload 5, 2, 5, 0, .null)]) (L' := [some (.ref 2), some (.int x1), none, some (.int x3), some (.int x4), some (.int x5)]) (st' := [.int x5, .int x1, .int x4, .int 3, .ref 3]) (w' := q7) (g := []) (K := [(3, 6), (2, 9)]) (by decide +kernel) rfl rfl rfl rfl (jk1 (kz_3 hk) (jk1 (kz_2 hk) jk0)) ?_
  obtain ⟨q8, hq8, h⟩ := jbe h
  refine ev_callV (ci := 6) (a := 3) (y2 := y_State_addAct) (o := 9) (idx := 122) (d2 := d_State_addAct) (n := 4) (mc2 := 0) (ms2 := 0) (As := [.int 3, .int x4, .int x1, .int x5]) (st := []) (res2 := (none, (jRx kk), q8)) (by decide +kernel) rfl lk_9_122 mo_State_addAct mv_State_addAct ⟨Nat.le_of_ble_eq_true rfl, Nat.le_of_ble_eq_true rfl⟩ rfl rfl (kz_3 hk) (by decide) rfl (Nat.le_of_ble_eq_true rfl) ⟨Nat.le_refl _, Nat.le_refl _⟩ hG (e_State_addAct hG hk hq8) ?_
  refine ev_seg (o := 9) (nL := 6) (q := 168) (xs := [(.iload 5, 2, 5, 0, .null)]) (L' := [some (.ref 2), some (.int x1), none, some (.int x3), some (.int x4), some (.int x5)]) (st' := [.int x5]) (w' := q8) (g := []) (K := []) (by decide +kernel) rfl rfl rfl rfl jk0 ?_
  cases h
  exact ev_iret (by decide +kernel) rfl rfl rfl rfl
def f_Count_tell_j82 (x1 : Int32) (x2 : Int32) (x3 : Int32) (x4 : Int32) (w : jW) : Option (Int32 × jW) :=
  Option.bind (f_Rows_open 24 x1 w) fun q4 =>
  if x2 = (-1) then
    f_Count_tell_j116 x1 x3 x4 q4.1 101 1 q4.1 q4.2
  else
    f_Count_tell_j116 x1 x3 x4 q4.1 x2 1 q4.1 q4.2
set_option maxRecDepth 20000 in
theorem t_Count_tell_j82 {l : Launch} {G : jG} (hG : jX G) {kk : Nat} (hk : 93 ≤ kk) {x1 : Int32} {x2 : Int32} {x3 : Int32} {x4 : Int32} {w : jW} {z : (Int32 × jW)} (h : f_Count_tell_j82 x1 x2 x3 x4 w = some z) : Ev l G (jrm d_Count_tell 0 0) y_Count_tell (some (.int z.1), (jRx kk), z.2) 0 0 0 0 82 [some (.ref 2), some (.int x1), some (.int x2), some (.int x3), some (.int x4), none] [] (jRx kk) w := by
  rw [f_Count_tell_j82] at h
  refine ev_seg (o := 9) (nL := 6) (q := 90) (xs := [(.aload_n 0, 1, 0, 0, .null), (.getfield 12, 3, 9, 0, .ref 6), (.getfield 203, 3, 6, 12, .ref 3), (.iload_n 1, 1, 1, 0, .null)]) (L' := [some (.ref 2), some (.int x1), some (.int x2), some (.int x3), some (.int x4), none]) (st' := [.int x1, .ref 24]) (w' := w) (g := []) (K := [(24, 3), (3, 6), (3, 6), (2, 9)]) (by decide +kernel) rfl rfl rfl rfl (jk1 (kz_24 hk) (jk1 (kz_3 hk) (jk1 (kz_3 hk) (jk1 (kz_2 hk) jk0)))) ?_
  obtain ⟨q4, hq4, h⟩ := jbe h
  refine ev_callV (ci := 3) (a := 24) (y2 := y_Rows_open) (o := 9) (idx := 68) (d2 := d_Rows_open) (n := 1) (mc2 := 0) (ms2 := 0) (As := [.int x1]) (st := []) (res2 := (some (.int q4.1), (jRx kk), q4.2)) (by decide +kernel) rfl lk_9_68 mo_Rows_open mv_Rows_open ⟨Nat.le_of_ble_eq_true rfl, Nat.le_of_ble_eq_true rfl⟩ rfl rfl (kz_24 hk) (by decide) rfl (Nat.le_of_ble_eq_true rfl) ⟨Nat.le_refl _, Nat.le_refl _⟩ hG (e_Rows_open hG hk (kz_24 hk) hq4) ?_
  refine ev_seg (o := 9) (nL := 6) (q := 107) (xs := [(.istore 5, 2, 5, 0, .null), (.aload_n 0, 1, 0, 0, .null), (.getfield 12, 3, 9, 0, .ref 6), (.getfield 203, 3, 6, 12, .ref 3), (.iload 5, 2, 5, 0, .null), (.iconst 1, 1, 0, 0, .int 1), (.iload_n 2, 1, 2, 0, .null), (.iconst (-1), 1, 0, 0, .int (-1))]) (L' := [some (.ref 2), some (.int x1), some (.int x2), some (.int x3), some (.int x4), some (.int q4.1)]) (st' := [.int (-1), .int x2, .int 1, .int q4.1, .ref 24]) (w' := q4.2) (g := []) (K := [(24, 3), (3, 6), (3, 6), (2, 9)]) (by decide +kernel) rfl rfl rfl rfl (jk1 (kz_24 hk) (jk1 (kz_3 hk) (jk1 (kz_3 hk) (jk1 (kz_2 hk) jk0)))) ?_
  refine ev_icmp_ne (off := 8) (tgt := 115) (by decide +kernel) (by decide) (fun c9 => ?_) (fun c9 => ?_)
  · replace h := jneg c9 h
    refine ev_seg (o := 9) (nL := 6) (q := 116) (xs := [(.iload_n 2, 1, 2, 0, .null)]) (L' := [some (.ref 2), some (.int x1), some (.int x2), some (.int x3), some (.int x4), some (.int q4.1)]) (st' := [.int x2, .int 1, .int q4.1, .ref 24]) (w' := q4.2) (g := []) (K := []) (by decide +kernel) rfl rfl rfl rfl jk0 ?_
    refine ev_mask [true, true, false, true, true, true] ?_
    exact t_Count_tell_j116 hG hk h
  · replace h := jpos c9 h
    refine ev_seg (o := 9) (nL := 6) (q := 116) (xs := [(.bipush 101, 2, 0, 0, .int 101), (.goto 4, 3, 0, 0, .null)]) (L' := [some (.ref 2), some (.int x1), some (.int x2), some (.int x3), some (.int x4), some (.int q4.1)]) (st' := [.int 101, .int 1, .int q4.1, .ref 24]) (w' := q4.2) (g := []) (K := []) (by decide +kernel) rfl rfl rfl rfl jk0 ?_
    refine ev_mask [true, true, false, true, true, true] ?_
    exact t_Count_tell_j116 hG hk h
def f_Count_tell (x1 : Int32) (x2 : Int32) (x3 : Int32) (w : jW) : Option (Int32 × jW) :=
  Option.bind (f_Rows_has 10 x1 w) fun q1 =>
  if q1.1 = 0 then
    some ((-1), q1.2)
  else
    if x3 < 0 then
      some ((-1), q1.2)
    else
      if x3 ≤ (q1.2.1 3 0) then
        Option.bind (f_Rows_isFull 24 q1.2) fun q2 =>
        if q2.1 = 0 then
          Option.bind (f_Rows_at 10 x1 3 q2.2) fun q3 =>
          if x2 = (-1) then
            f_Count_tell_j82 x1 x2 x3 q3.1 q3.2
          else
            Option.bind (f_Rows_at 6 x2 0 q3.2) fun q10 =>
            if q10.1 = q3.1 then
              f_Count_tell_j82 x1 x2 x3 q3.1 q10.2
            else
              some ((-1), q10.2)
        else
          some ((-1), q2.2)
      else
        some ((-1), q1.2)
set_option maxRecDepth 20000 in
theorem e_Count_tell {l : Launch} {G : jG} (hG : jX G) {kk : Nat} (hk : 93 ≤ kk) {x1 : Int32} {x2 : Int32} {x3 : Int32} {w : jW} {z : (Int32 × jW)} (h : f_Count_tell x1 x2 x3 w = some z) : Ct l G y_Count_tell d_Count_tell 0 0 [.ref 2, .int x1, .int x2, .int x3] (jRx kk) w (some (.int z.1), (jRx kk), z.2) := by
  rw [f_Count_tell] at h
  refine Ct.of (L := [some (.ref 2), some (.int x1), some (.int x2), some (.int x3), none, none]) (by decide) (Nat.le_of_ble_eq_true rfl) rfl ?_
  refine ev_seg (o := 9) (nL := 6) (q := 8) (xs := [(.aload_n 0, 1, 0, 0, .null), (.getfield 12, 3, 9, 0, .ref 6), (.getfield 100, 3, 6, 8, .ref 3), (.iload_n 1, 1, 1, 0, .null)]) (L' := [some (.ref 2), some (.int x1), some (.int x2), some (.int x3), none, none]) (st' := [.int x1, .ref 10]) (w' := w) (g := []) (K := [(10, 3), (3, 6), (3, 6), (2, 9)]) (by decide +kernel) rfl rfl rfl rfl (jk1 (kz_10 hk) (jk1 (kz_3 hk) (jk1 (kz_3 hk) (jk1 (kz_2 hk) jk0)))) ?_
  obtain ⟨q1, hq1, h⟩ := jbe h
  refine ev_callV (ci := 3) (a := 10) (y2 := y_Rows_has) (o := 9) (idx := 80) (d2 := d_Rows_has) (n := 1) (mc2 := 0) (ms2 := 0) (As := [.int x1]) (st := []) (res2 := (some (.int q1.1), (jRx kk), q1.2)) (by decide +kernel) rfl lk_9_80 mo_Rows_has mv_Rows_has ⟨Nat.le_of_ble_eq_true rfl, Nat.le_of_ble_eq_true rfl⟩ rfl rfl (kz_10 hk) (by decide) rfl (Nat.le_of_ble_eq_true rfl) ⟨Nat.le_refl _, Nat.le_refl _⟩ hG (e_Rows_has hG hk (kz_10 hk) hq1) ?_
  refine ev_if_eq (off := 31) (tgt := 42) (by decide +kernel) (by decide) (fun c16 => ?_) (fun c16 => ?_)
  · replace h := jpos c16 h
    refine ev_seg (o := 9) (nL := 6) (q := 43) (xs := [(.iconst (-1), 1, 0, 0, .int (-1))]) (L' := [some (.ref 2), some (.int x1), some (.int x2), some (.int x3), none, none]) (st' := [.int (-1)]) (w' := q1.2) (g := []) (K := []) (by decide +kernel) rfl rfl rfl rfl jk0 ?_
    cases h
    exact ev_iret (by decide +kernel) rfl rfl rfl rfl
  · replace h := jneg c16 h
    refine ev_seg (o := 9) (nL := 6) (q := 15) (xs := [(.iload_n 3, 1, 3, 0, .null)]) (L' := [some (.ref 2), some (.int x1), some (.int x2), some (.int x3), none, none]) (st' := [.int x3]) (w' := q1.2) (g := []) (K := []) (by decide +kernel) rfl rfl rfl rfl jk0 ?_
    refine ev_if_lt (off := 27) (tgt := 42) (by decide +kernel) (by decide) (fun c15 => ?_) (fun c15 => ?_)
    · replace h := jpos c15 h
      refine ev_seg (o := 9) (nL := 6) (q := 43) (xs := [(.iconst (-1), 1, 0, 0, .int (-1))]) (L' := [some (.ref 2), some (.int x1), some (.int x2), some (.int x3), none, none]) (st' := [.int (-1)]) (w' := q1.2) (g := []) (K := []) (by decide +kernel) rfl rfl rfl rfl jk0 ?_
      cases h
      exact ev_iret (by decide +kernel) rfl rfl rfl rfl
    · replace h := jneg c15 h
      refine ev_seg (o := 9) (nL := 6) (q := 26) (xs := [(.iload_n 3, 1, 3, 0, .null), (.aload_n 0, 1, 0, 0, .null), (.getfield 12, 3, 9, 0, .ref 6), (.getfield 119, 3, 6, 0, .int 0)]) (L' := [some (.ref 2), some (.int x1), some (.int x2), some (.int x3), none, none]) (st' := [.int (q1.2.1 3 0), .int x3]) (w' := q1.2) (g := []) (K := [(3, 6), (3, 6), (2, 9)]) (by decide +kernel) rfl rfl rfl rfl (jk1 (kz_3 hk) (jk1 (kz_3 hk) (jk1 (kz_2 hk) jk0))) ?_
      refine ev_icmp_gt (off := 16) (tgt := 42) (by decide +kernel) (by decide) (fun c14 => ?_) (fun c14 => ?_)
      · replace h := jneg c14 h
        refine ev_seg (o := 9) (nL := 6) (q := 43) (xs := [(.iconst (-1), 1, 0, 0, .int (-1))]) (L' := [some (.ref 2), some (.int x1), some (.int x2), some (.int x3), none, none]) (st' := [.int (-1)]) (w' := q1.2) (g := []) (K := []) (by decide +kernel) rfl rfl rfl rfl jk0 ?_
        cases h
        exact ev_iret (by decide +kernel) rfl rfl rfl rfl
      · replace h := jpos c14 h
        refine ev_seg (o := 9) (nL := 6) (q := 36) (xs := [(.aload_n 0, 1, 0, 0, .null), (.getfield 12, 3, 9, 0, .ref 6), (.getfield 203, 3, 6, 12, .ref 3)]) (L' := [some (.ref 2), some (.int x1), some (.int x2), some (.int x3), none, none]) (st' := [.ref 24]) (w' := q1.2) (g := []) (K := [(24, 3), (3, 6), (3, 6), (2, 9)]) (by decide +kernel) rfl rfl rfl rfl (jk1 (kz_24 hk) (jk1 (kz_3 hk) (jk1 (kz_3 hk) (jk1 (kz_2 hk) jk0)))) ?_
        obtain ⟨q2, hq2, h⟩ := jbe h
        refine ev_callV (ci := 3) (a := 24) (y2 := y_Rows_isFull) (o := 9) (idx := 62) (d2 := d_Rows_isFull) (n := 0) (mc2 := 0) (ms2 := 0) (As := []) (st := []) (res2 := (some (.int q2.1), (jRx kk), q2.2)) (by decide +kernel) rfl lk_9_62 mo_Rows_isFull mv_Rows_isFull ⟨Nat.le_of_ble_eq_true rfl, Nat.le_of_ble_eq_true rfl⟩ rfl rfl (kz_24 hk) (by decide) rfl (Nat.le_of_ble_eq_true rfl) ⟨Nat.le_refl _, Nat.le_refl _⟩ hG (e_Rows_isFull hG hk (kz_24 hk) hq2) ?_
        refine ev_if_eq (off := 5) (tgt := 44) (by decide +kernel) (by decide) (fun c13 => ?_) (fun c13 => ?_)
        · replace h := jpos c13 h
          refine ev_seg (o := 9) (nL := 6) (q := 53) (xs := [(.aload_n 0, 1, 0, 0, .null), (.getfield 12, 3, 9, 0, .ref 6), (.getfield 100, 3, 6, 8, .ref 3), (.iload_n 1, 1, 1, 0, .null), (.iconst 3, 1, 0, 0, .int 3)]) (L' := [some (.ref 2), some (.int x1), some (.int x2), some (.int x3), none, none]) (st' := [.int 3, .int x1, .ref 10]) (w' := q2.2) (g := []) (K := [(10, 3), (3, 6), (3, 6), (2, 9)]) (by decide +kernel) rfl rfl rfl rfl (jk1 (kz_10 hk) (jk1 (kz_3 hk) (jk1 (kz_3 hk) (jk1 (kz_2 hk) jk0)))) ?_
          obtain ⟨q3, hq3, h⟩ := jbe h
          refine ev_callV (ci := 3) (a := 10) (y2 := y_Rows_at) (o := 9) (idx := 83) (d2 := d_Rows_at) (n := 2) (mc2 := 0) (ms2 := 0) (As := [.int x1, .int 3]) (st := []) (res2 := (some (.int q3.1), (jRx kk), q3.2)) (by decide +kernel) rfl lk_9_83 mo_Rows_at mv_Rows_at ⟨Nat.le_of_ble_eq_true rfl, Nat.le_of_ble_eq_true rfl⟩ rfl rfl (kz_10 hk) (by decide) rfl (Nat.le_of_ble_eq_true rfl) ⟨Nat.le_refl _, Nat.le_refl _⟩ hG (e_Rows_at hG hk (kz_10 hk) hq3) ?_
          refine ev_seg (o := 9) (nL := 6) (q := 60) (xs := [(.istore 4, 2, 4, 0, .null), (.iload_n 2, 1, 2, 0, .null), (.iconst (-1), 1, 0, 0, .int (-1))]) (L' := [some (.ref 2), some (.int x1), some (.int x2), some (.int x3), some (.int q3.1), none]) (st' := [.int (-1), .int x2]) (w' := q3.2) (g := []) (K := []) (by decide +kernel) rfl rfl rfl rfl jk0 ?_
          refine ev_icmp_eq (off := 22) (tgt := 82) (by decide +kernel) (by decide) (fun c12 => ?_) (fun c12 => ?_)
          · replace h := jpos c12 h
            refine ev_mask [true, true, true, true, true, false] ?_
            exact t_Count_tell_j82 hG hk h
          · replace h := jneg c12 h
            refine ev_seg (o := 9) (nL := 6) (q := 72) (xs := [(.aload_n 0, 1, 0, 0, .null), (.getfield 12, 3, 9, 0, .ref 6), (.getfield 58, 3, 6, 6, .ref 3), (.iload_n 2, 1, 2, 0, .null), (.iconst 0, 1, 0, 0, .int 0)]) (L' := [some (.ref 2), some (.int x1), some (.int x2), some (.int x3), some (.int q3.1), none]) (st' := [.int 0, .int x2, .ref 6]) (w' := q3.2) (g := []) (K := [(6, 3), (3, 6), (3, 6), (2, 9)]) (by decide +kernel) rfl rfl rfl rfl (jk1 (kz_6 hk) (jk1 (kz_3 hk) (jk1 (kz_3 hk) (jk1 (kz_2 hk) jk0)))) ?_
            obtain ⟨q10, hq10, h⟩ := jbe h
            refine ev_callV (ci := 3) (a := 6) (y2 := y_Rows_at) (o := 9) (idx := 83) (d2 := d_Rows_at) (n := 2) (mc2 := 0) (ms2 := 0) (As := [.int x2, .int 0]) (st := []) (res2 := (some (.int q10.1), (jRx kk), q10.2)) (by decide +kernel) rfl lk_9_83 mo_Rows_at mv_Rows_at ⟨Nat.le_of_ble_eq_true rfl, Nat.le_of_ble_eq_true rfl⟩ rfl rfl (kz_6 hk) (by decide) rfl (Nat.le_of_ble_eq_true rfl) ⟨Nat.le_refl _, Nat.le_refl _⟩ hG (e_Rows_at hG hk (kz_6 hk) hq10) ?_
            refine ev_seg (o := 9) (nL := 6) (q := 77) (xs := [(.iload 4, 2, 4, 0, .null)]) (L' := [some (.ref 2), some (.int x1), some (.int x2), some (.int x3), some (.int q3.1), none]) (st' := [.int q3.1, .int q10.1]) (w' := q10.2) (g := []) (K := []) (by decide +kernel) rfl rfl rfl rfl jk0 ?_
            refine ev_icmp_eq (off := 5) (tgt := 82) (by decide +kernel) (by decide) (fun c11 => ?_) (fun c11 => ?_)
            · replace h := jpos c11 h
              refine ev_mask [true, true, true, true, true, false] ?_
              exact t_Count_tell_j82 hG hk h
            · replace h := jneg c11 h
              refine ev_seg (o := 9) (nL := 6) (q := 81) (xs := [(.iconst (-1), 1, 0, 0, .int (-1))]) (L' := [some (.ref 2), some (.int x1), some (.int x2), some (.int x3), some (.int q3.1), none]) (st' := [.int (-1)]) (w' := q10.2) (g := []) (K := []) (by decide +kernel) rfl rfl rfl rfl jk0 ?_
              cases h
              exact ev_iret (by decide +kernel) rfl rfl rfl rfl
        · replace h := jneg c13 h
          refine ev_seg (o := 9) (nL := 6) (q := 43) (xs := [(.iconst (-1), 1, 0, 0, .int (-1))]) (L' := [some (.ref 2), some (.int x1), some (.int x2), some (.int x3), none, none]) (st' := [.int (-1)]) (w' := q2.2) (g := []) (K := []) (by decide +kernel) rfl rfl rfl rfl jk0 ?_
          cases h
          exact ev_iret (by decide +kernel) rfl rfl rfl rfl
def f_Count_isAbroad (x1 : Int32) (x2 : Int32) (w : jW) : Option (Int32 × jW) :=
  Option.bind (f_State_isLand x1 w) fun q1 =>
  if q1.1 = 0 then
    some (0, q1.2)
  else
    Option.bind (f_Rows_has 6 x2 q1.2) fun q2 =>
    if q2.1 = 0 then
      some (0, q2.2)
    else
      Option.bind (f_Rows_at 6 x2 0 q2.2) fun q3 =>
      if q3.1 = x1 then
        some (0, q3.2)
      else
        some (1, q3.2)
set_option maxRecDepth 20000 in
theorem e_Count_isAbroad {l : Launch} {G : jG} (hG : jX G) {kk : Nat} (hk : 93 ≤ kk) {x1 : Int32} {x2 : Int32} {w : jW} {z : (Int32 × jW)} (h : f_Count_isAbroad x1 x2 w = some z) : Ct l G y_Count_isAbroad d_Count_isAbroad 0 0 [.ref 2, .int x1, .int x2] (jRx kk) w (some (.int z.1), (jRx kk), z.2) := by
  rw [f_Count_isAbroad] at h
  refine Ct.of (L := [some (.ref 2), some (.int x1), some (.int x2)]) (by decide) (Nat.le_of_ble_eq_true rfl) rfl ?_
  refine ev_seg (o := 9) (nL := 3) (q := 1) (xs := [(.iload_n 1, 1, 1, 0, .null)]) (L' := [some (.ref 2), some (.int x1), some (.int x2)]) (st' := [.int x1]) (w' := w) (g := []) (K := []) (by decide +kernel) rfl rfl rfl rfl jk0 ?_
  obtain ⟨q1, hq1, h⟩ := jbe h
  refine ev_callS (y2 := y_State_isLand) (o := 9) (idx := 54) (d2 := d_State_isLand) (n := 1) (mc2 := 0) (ms2 := 0) (As := [.int x1]) (st := []) (res2 := (some (.int q1.1), (jRx kk), q1.2)) (by decide +kernel) rfl lk_9_54 mo_State_isLand ms_State_isLand ⟨Nat.le_of_ble_eq_true rfl, Nat.le_of_ble_eq_true rfl⟩ rfl rfl (Nat.le_of_ble_eq_true rfl) ⟨Nat.le_refl _, Nat.le_refl _⟩ hG (e_State_isLand hG hk hq1) ?_
  refine ev_if_eq (off := 37) (tgt := 41) (by decide +kernel) (by decide) (fun c6 => ?_) (fun c6 => ?_)
  · replace h := jpos c6 h
    refine ev_seg (o := 9) (nL := 3) (q := 42) (xs := [(.iconst 0, 1, 0, 0, .int 0)]) (L' := [some (.ref 2), some (.int x1), some (.int x2)]) (st' := [.int 0]) (w' := q1.2) (g := []) (K := []) (by decide +kernel) rfl rfl rfl rfl jk0 ?_
    cases h
    exact ev_zret (by decide +kernel) rfl rfl rfl rfl rfl
  · replace h := jneg c6 h
    refine ev_seg (o := 9) (nL := 3) (q := 15) (xs := [(.aload_n 0, 1, 0, 0, .null), (.getfield 12, 3, 9, 0, .ref 6), (.getfield 58, 3, 6, 6, .ref 3), (.iload_n 2, 1, 2, 0, .null)]) (L' := [some (.ref 2), some (.int x1), some (.int x2)]) (st' := [.int x2, .ref 6]) (w' := q1.2) (g := []) (K := [(6, 3), (3, 6), (3, 6), (2, 9)]) (by decide +kernel) rfl rfl rfl rfl (jk1 (kz_6 hk) (jk1 (kz_3 hk) (jk1 (kz_3 hk) (jk1 (kz_2 hk) jk0)))) ?_
    obtain ⟨q2, hq2, h⟩ := jbe h
    refine ev_callV (ci := 3) (a := 6) (y2 := y_Rows_has) (o := 9) (idx := 80) (d2 := d_Rows_has) (n := 1) (mc2 := 0) (ms2 := 0) (As := [.int x2]) (st := []) (res2 := (some (.int q2.1), (jRx kk), q2.2)) (by decide +kernel) rfl lk_9_80 mo_Rows_has mv_Rows_has ⟨Nat.le_of_ble_eq_true rfl, Nat.le_of_ble_eq_true rfl⟩ rfl rfl (kz_6 hk) (by decide) rfl (Nat.le_of_ble_eq_true rfl) ⟨Nat.le_refl _, Nat.le_refl _⟩ hG (e_Rows_has hG hk (kz_6 hk) hq2) ?_
    refine ev_if_eq (off := 23) (tgt := 41) (by decide +kernel) (by decide) (fun c5 => ?_) (fun c5 => ?_)
    · replace h := jpos c5 h
      refine ev_seg (o := 9) (nL := 3) (q := 42) (xs := [(.iconst 0, 1, 0, 0, .int 0)]) (L' := [some (.ref 2), some (.int x1), some (.int x2)]) (st' := [.int 0]) (w' := q2.2) (g := []) (K := []) (by decide +kernel) rfl rfl rfl rfl jk0 ?_
      cases h
      exact ev_zret (by decide +kernel) rfl rfl rfl rfl rfl
    · replace h := jneg c5 h
      refine ev_seg (o := 9) (nL := 3) (q := 30) (xs := [(.aload_n 0, 1, 0, 0, .null), (.getfield 12, 3, 9, 0, .ref 6), (.getfield 58, 3, 6, 6, .ref 3), (.iload_n 2, 1, 2, 0, .null), (.iconst 0, 1, 0, 0, .int 0)]) (L' := [some (.ref 2), some (.int x1), some (.int x2)]) (st' := [.int 0, .int x2, .ref 6]) (w' := q2.2) (g := []) (K := [(6, 3), (3, 6), (3, 6), (2, 9)]) (by decide +kernel) rfl rfl rfl rfl (jk1 (kz_6 hk) (jk1 (kz_3 hk) (jk1 (kz_3 hk) (jk1 (kz_2 hk) jk0)))) ?_
      obtain ⟨q3, hq3, h⟩ := jbe h
      refine ev_callV (ci := 3) (a := 6) (y2 := y_Rows_at) (o := 9) (idx := 83) (d2 := d_Rows_at) (n := 2) (mc2 := 0) (ms2 := 0) (As := [.int x2, .int 0]) (st := []) (res2 := (some (.int q3.1), (jRx kk), q3.2)) (by decide +kernel) rfl lk_9_83 mo_Rows_at mv_Rows_at ⟨Nat.le_of_ble_eq_true rfl, Nat.le_of_ble_eq_true rfl⟩ rfl rfl (kz_6 hk) (by decide) rfl (Nat.le_of_ble_eq_true rfl) ⟨Nat.le_refl _, Nat.le_refl _⟩ hG (e_Rows_at hG hk (kz_6 hk) hq3) ?_
      refine ev_seg (o := 9) (nL := 3) (q := 34) (xs := [(.iload_n 1, 1, 1, 0, .null)]) (L' := [some (.ref 2), some (.int x1), some (.int x2)]) (st' := [.int x1, .int q3.1]) (w' := q3.2) (g := []) (K := []) (by decide +kernel) rfl rfl rfl rfl jk0 ?_
      refine ev_icmp_eq (off := 7) (tgt := 41) (by decide +kernel) (by decide) (fun c4 => ?_) (fun c4 => ?_)
      · replace h := jpos c4 h
        refine ev_seg (o := 9) (nL := 3) (q := 42) (xs := [(.iconst 0, 1, 0, 0, .int 0)]) (L' := [some (.ref 2), some (.int x1), some (.int x2)]) (st' := [.int 0]) (w' := q3.2) (g := []) (K := []) (by decide +kernel) rfl rfl rfl rfl jk0 ?_
        cases h
        exact ev_zret (by decide +kernel) rfl rfl rfl rfl rfl
      · replace h := jneg c4 h
        refine ev_seg (o := 9) (nL := 3) (q := 42) (xs := [(.iconst 1, 1, 0, 0, .int 1), (.goto 4, 3, 0, 0, .null)]) (L' := [some (.ref 2), some (.int x1), some (.int x2)]) (st' := [.int 1]) (w' := q3.2) (g := []) (K := []) (by decide +kernel) rfl rfl rfl rfl jk0 ?_
        cases h
        exact ev_zret (by decide +kernel) rfl rfl rfl rfl rfl
def f_Treaty_see (x1 : Int32) (x2 : Int32) (w : jW) : Option jW :=
  if (x1 - 13) < 0 then
    some w
  else
    if (x1 - 13) < (Int32.ofNat 5) then
      if jal [jin (x1 - 13) 5] = true then
      jlw ((jup w.1 23 (Int32.toNatClampNeg (x1 - 13)) x2), w.2) fun w2 =>
      some w2
      else none
    else
      some w
set_option maxRecDepth 20000 in
theorem e_Treaty_see {l : Launch} {G : jG} (hG : jX G) {kk : Nat} (hk : 93 ≤ kk) {x1 : Int32} {x2 : Int32} {w : jW} {z : jW} (h : f_Treaty_see x1 x2 w = some z) : Ct l G y_Treaty_see d_Treaty_see 0 0 [.ref 16, .int x1, .int x2] (jRx kk) w (none, (jRx kk), z) := by
  rw [f_Treaty_see] at h
  refine Ct.of (L := [some (.ref 16), some (.int x1), some (.int x2), none]) (by decide) (Nat.le_of_ble_eq_true rfl) rfl ?_
  refine ev_seg (o := 8) (nL := 4) (q := 6) (xs := [(.iload_n 1, 1, 1, 0, .null), (.bipush 13, 2, 0, 0, .int 13), (.isub, 1, 0, 0, .null), (.istore_n 3, 1, 3, 0, .null), (.iload_n 3, 1, 3, 0, .null)]) (L' := [some (.ref 16), some (.int x1), some (.int x2), some (.int (x1 - 13))]) (st' := [.int (x1 - 13)]) (w' := w) (g := []) (K := []) (by decide +kernel) rfl rfl rfl rfl jk0 ?_
  refine ev_if_lt (off := 19) (tgt := 25) (by decide +kernel) (by decide) (fun c4 => ?_) (fun c4 => ?_)
  · replace h := jpos c4 h
    cases h
    exact ev_vret (by decide +kernel) rfl rfl rfl rfl
  · replace h := jneg c4 h
    refine ev_seg (o := 8) (nL := 4) (q := 15) (xs := [(.iload_n 3, 1, 3, 0, .null), (.aload_n 0, 1, 0, 0, .null), (.getfield 26, 3, 8, 3, .ref 20), (.arraylength, 1, 20, 0, .null)]) (L' := [some (.ref 16), some (.int x1), some (.int x2), some (.int (x1 - 13))]) (st' := [.int (Int32.ofNat 5), .int (x1 - 13)]) (w' := w) (g := []) (K := [(23, 20), (23, 20), (16, 8)]) (by decide +kernel) rfl rfl rfl rfl (jk1 (kz_23 hk) (jk1 (kz_23 hk) (jk1 (kz_16 hk) jk0))) ?_
    refine ev_icmp_ge (off := 10) (tgt := 25) (by decide +kernel) (by decide) (fun c3 => ?_) (fun c3 => ?_)
    · replace h := jneg c3 h
      cases h
      exact ev_vret (by decide +kernel) rfl rfl rfl rfl
    · replace h := jpos c3 h
      obtain ⟨hg1, h⟩ := jgd h
      refine ev_seg (o := 8) (nL := 4) (q := 25) (xs := [(.aload_n 0, 1, 0, 0, .null), (.getfield 26, 3, 8, 3, .ref 20), (.iload_n 3, 1, 3, 0, .null), (.iload_n 2, 1, 2, 0, .null), (.iastore, 1, 0, 0, .null)]) (L' := [some (.ref 16), some (.int x1), some (.int x2), some (.int (x1 - 13))]) (st' := []) (w' := ((jup w.1 23 (Int32.toNatClampNeg (x1 - 13)) x2), w.2)) (g := [jin (x1 - 13) 5]) (K := [(23, 20), (23, 20), (16, 8)]) (by decide +kernel) rfl rfl rfl hg1 (jk1 (kz_23 hk) (jk1 (kz_23 hk) (jk1 (kz_16 hk) jk0))) ?_
      refine jlw_c (P := fun w2 => Ev l G (jrm d_Treaty_see 0 0) y_Treaty_see (none, (jRx kk), z) 0 0 0 0 25 [some (.ref 16), some (.int x1), some (.int x2), some (.int (x1 - 13))] [] (jRx kk) w2) h fun w2 h => ?_
      cases h
      exact ev_vret (by decide +kernel) rfl rfl rfl rfl
def f_Treaty_look (a1 : Nat) (x2 : Int32) (x3 : Int32) (w : jW) : Option jW :=
  Option.bind (f_Rows_at a1 x2 0 w) fun q1 =>
  Option.bind (f_Treaty_see 13 q1.1 q1.2) fun q2 =>
  Option.bind (f_Rows_at a1 x2 1 q2) fun q3 =>
  Option.bind (f_Treaty_see 14 q3.1 q3.2) fun q4 =>
  Option.bind (f_Rows_at a1 x2 2 q4) fun q5 =>
  Option.bind (f_Treaty_see 15 q5.1 q5.2) fun q6 =>
  Option.bind (f_Treaty_see 16 x3 q6) fun q7 =>
  Option.bind (f_Rows_at a1 x2 3 q7) fun q8 =>
  Option.bind (f_Treaty_see 17 q8.1 q8.2) fun q9 =>
  some q9
set_option maxRecDepth 20000 in
theorem e_Treaty_look {l : Launch} {G : jG} (hG : jX G) {kk : Nat} (hk : 93 ≤ kk) {a1 : Nat} {x2 : Int32} {x3 : Int32} (h_a1 : jSk (jRx kk) a1 = 3) {w : jW} {z : jW} (h : f_Treaty_look a1 x2 x3 w = some z) : Ct l G y_Treaty_look d_Treaty_look 0 0 [.ref 16, .ref a1, .int x2, .int x3] (jRx kk) w (none, (jRx kk), z) := by
  rw [f_Treaty_look] at h
  refine Ct.of (L := [some (.ref 16), some (.ref a1), some (.int x2), some (.int x3)]) (by decide) (Nat.le_of_ble_eq_true rfl) rfl ?_
  refine ev_seg (o := 8) (nL := 4) (q := 6) (xs := [(.aload_n 0, 1, 0, 0, .null), (.bipush 13, 2, 0, 0, .int 13), (.aload_n 1, 1, 1, 0, .null), (.iload_n 2, 1, 2, 0, .null), (.iconst 0, 1, 0, 0, .int 0)]) (L' := [some (.ref 16), some (.ref a1), some (.int x2), some (.int x3)]) (st' := [.int 0, .int x2, .ref a1, .int 13, .ref 16]) (w' := w) (g := []) (K := []) (by decide +kernel) rfl rfl rfl rfl jk0 ?_
  obtain ⟨q1, hq1, h⟩ := jbe h
  refine ev_callV (ci := 3) (a := a1) (y2 := y_Rows_at) (o := 8) (idx := 49) (d2 := d_Rows_at) (n := 2) (mc2 := 0) (ms2 := 0) (As := [.int x2, .int 0]) (st := [.int 13, .ref 16]) (res2 := (some (.int q1.1), (jRx kk), q1.2)) (by decide +kernel) rfl lk_8_49 mo_Rows_at mv_Rows_at ⟨Nat.le_of_ble_eq_true rfl, Nat.le_of_ble_eq_true rfl⟩ rfl rfl h_a1 (by decide) rfl (Nat.le_of_ble_eq_true rfl) ⟨Nat.le_refl _, Nat.le_refl _⟩ hG (e_Rows_at hG hk h_a1 hq1) ?_
  obtain ⟨q2, hq2, h⟩ := jbe h
  refine ev_callV (ci := 8) (a := 16) (y2 := y_Treaty_see) (o := 8) (idx := 69) (d2 := d_Treaty_see) (n := 2) (mc2 := 0) (ms2 := 0) (As := [.int 13, .int q1.1]) (st := []) (res2 := (none, (jRx kk), q2)) (by decide +kernel) rfl lk_8_69 mo_Treaty_see mv_Treaty_see ⟨Nat.le_of_ble_eq_true rfl, Nat.le_of_ble_eq_true rfl⟩ rfl rfl (kz_16 hk) (by decide) rfl (Nat.le_of_ble_eq_true rfl) ⟨Nat.le_refl _, Nat.le_refl _⟩ hG (e_Treaty_see hG hk hq2) ?_
  refine ev_seg (o := 8) (nL := 4) (q := 18) (xs := [(.aload_n 0, 1, 0, 0, .null), (.bipush 14, 2, 0, 0, .int 14), (.aload_n 1, 1, 1, 0, .null), (.iload_n 2, 1, 2, 0, .null), (.iconst 1, 1, 0, 0, .int 1)]) (L' := [some (.ref 16), some (.ref a1), some (.int x2), some (.int x3)]) (st' := [.int 1, .int x2, .ref a1, .int 14, .ref 16]) (w' := q2) (g := []) (K := []) (by decide +kernel) rfl rfl rfl rfl jk0 ?_
  obtain ⟨q3, hq3, h⟩ := jbe h
  refine ev_callV (ci := 3) (a := a1) (y2 := y_Rows_at) (o := 8) (idx := 49) (d2 := d_Rows_at) (n := 2) (mc2 := 0) (ms2 := 0) (As := [.int x2, .int 1]) (st := [.int 14, .ref 16]) (res2 := (some (.int q3.1), (jRx kk), q3.2)) (by decide +kernel) rfl lk_8_49 mo_Rows_at mv_Rows_at ⟨Nat.le_of_ble_eq_true rfl, Nat.le_of_ble_eq_true rfl⟩ rfl rfl h_a1 (by decide) rfl (Nat.le_of_ble_eq_true rfl) ⟨Nat.le_refl _, Nat.le_refl _⟩ hG (e_Rows_at hG hk h_a1 hq3) ?_
  obtain ⟨q4, hq4, h⟩ := jbe h
  refine ev_callV (ci := 8) (a := 16) (y2 := y_Treaty_see) (o := 8) (idx := 69) (d2 := d_Treaty_see) (n := 2) (mc2 := 0) (ms2 := 0) (As := [.int 14, .int q3.1]) (st := []) (res2 := (none, (jRx kk), q4)) (by decide +kernel) rfl lk_8_69 mo_Treaty_see mv_Treaty_see ⟨Nat.le_of_ble_eq_true rfl, Nat.le_of_ble_eq_true rfl⟩ rfl rfl (kz_16 hk) (by decide) rfl (Nat.le_of_ble_eq_true rfl) ⟨Nat.le_refl _, Nat.le_refl _⟩ hG (e_Treaty_see hG hk hq4) ?_
  refine ev_seg (o := 8) (nL := 4) (q := 30) (xs := [(.aload_n 0, 1, 0, 0, .null), (.bipush 15, 2, 0, 0, .int 15), (.aload_n 1, 1, 1, 0, .null), (.iload_n 2, 1, 2, 0, .null), (.iconst 2, 1, 0, 0, .int 2)]) (L' := [some (.ref 16), some (.ref a1), some (.int x2), some (.int x3)]) (st' := [.int 2, .int x2, .ref a1, .int 15, .ref 16]) (w' := q4) (g := []) (K := []) (by decide +kernel) rfl rfl rfl rfl jk0 ?_
  obtain ⟨q5, hq5, h⟩ := jbe h
  refine ev_callV (ci := 3) (a := a1) (y2 := y_Rows_at) (o := 8) (idx := 49) (d2 := d_Rows_at) (n := 2) (mc2 := 0) (ms2 := 0) (As := [.int x2, .int 2]) (st := [.int 15, .ref 16]) (res2 := (some (.int q5.1), (jRx kk), q5.2)) (by decide +kernel) rfl lk_8_49 mo_Rows_at mv_Rows_at ⟨Nat.le_of_ble_eq_true rfl, Nat.le_of_ble_eq_true rfl⟩ rfl rfl h_a1 (by decide) rfl (Nat.le_of_ble_eq_true rfl) ⟨Nat.le_refl _, Nat.le_refl _⟩ hG (e_Rows_at hG hk h_a1 hq5) ?_
  obtain ⟨q6, hq6, h⟩ := jbe h
  refine ev_callV (ci := 8) (a := 16) (y2 := y_Treaty_see) (o := 8) (idx := 69) (d2 := d_Treaty_see) (n := 2) (mc2 := 0) (ms2 := 0) (As := [.int 15, .int q5.1]) (st := []) (res2 := (none, (jRx kk), q6)) (by decide +kernel) rfl lk_8_69 mo_Treaty_see mv_Treaty_see ⟨Nat.le_of_ble_eq_true rfl, Nat.le_of_ble_eq_true rfl⟩ rfl rfl (kz_16 hk) (by decide) rfl (Nat.le_of_ble_eq_true rfl) ⟨Nat.le_refl _, Nat.le_refl _⟩ hG (e_Treaty_see hG hk hq6) ?_
  refine ev_seg (o := 8) (nL := 4) (q := 40) (xs := [(.aload_n 0, 1, 0, 0, .null), (.bipush 16, 2, 0, 0, .int 16), (.iload_n 3, 1, 3, 0, .null)]) (L' := [some (.ref 16), some (.ref a1), some (.int x2), some (.int x3)]) (st' := [.int x3, .int 16, .ref 16]) (w' := q6) (g := []) (K := []) (by decide +kernel) rfl rfl rfl rfl jk0 ?_
  obtain ⟨q7, hq7, h⟩ := jbe h
  refine ev_callV (ci := 8) (a := 16) (y2 := y_Treaty_see) (o := 8) (idx := 69) (d2 := d_Treaty_see) (n := 2) (mc2 := 0) (ms2 := 0) (As := [.int 16, .int x3]) (st := []) (res2 := (none, (jRx kk), q7)) (by decide +kernel) rfl lk_8_69 mo_Treaty_see mv_Treaty_see ⟨Nat.le_of_ble_eq_true rfl, Nat.le_of_ble_eq_true rfl⟩ rfl rfl (kz_16 hk) (by decide) rfl (Nat.le_of_ble_eq_true rfl) ⟨Nat.le_refl _, Nat.le_refl _⟩ hG (e_Treaty_see hG hk hq7) ?_
  refine ev_seg (o := 8) (nL := 4) (q := 49) (xs := [(.aload_n 0, 1, 0, 0, .null), (.bipush 17, 2, 0, 0, .int 17), (.aload_n 1, 1, 1, 0, .null), (.iload_n 2, 1, 2, 0, .null), (.iconst 3, 1, 0, 0, .int 3)]) (L' := [some (.ref 16), some (.ref a1), some (.int x2), some (.int x3)]) (st' := [.int 3, .int x2, .ref a1, .int 17, .ref 16]) (w' := q7) (g := []) (K := []) (by decide +kernel) rfl rfl rfl rfl jk0 ?_
  obtain ⟨q8, hq8, h⟩ := jbe h
  refine ev_callV (ci := 3) (a := a1) (y2 := y_Rows_at) (o := 8) (idx := 49) (d2 := d_Rows_at) (n := 2) (mc2 := 0) (ms2 := 0) (As := [.int x2, .int 3]) (st := [.int 17, .ref 16]) (res2 := (some (.int q8.1), (jRx kk), q8.2)) (by decide +kernel) rfl lk_8_49 mo_Rows_at mv_Rows_at ⟨Nat.le_of_ble_eq_true rfl, Nat.le_of_ble_eq_true rfl⟩ rfl rfl h_a1 (by decide) rfl (Nat.le_of_ble_eq_true rfl) ⟨Nat.le_refl _, Nat.le_refl _⟩ hG (e_Rows_at hG hk h_a1 hq8) ?_
  obtain ⟨q9, hq9, h⟩ := jbe h
  refine ev_callV (ci := 8) (a := 16) (y2 := y_Treaty_see) (o := 8) (idx := 69) (d2 := d_Treaty_see) (n := 2) (mc2 := 0) (ms2 := 0) (As := [.int 17, .int q8.1]) (st := []) (res2 := (none, (jRx kk), q9)) (by decide +kernel) rfl lk_8_69 mo_Treaty_see mv_Treaty_see ⟨Nat.le_of_ble_eq_true rfl, Nat.le_of_ble_eq_true rfl⟩ rfl rfl (kz_16 hk) (by decide) rfl (Nat.le_of_ble_eq_true rfl) ⟨Nat.le_refl _, Nat.le_refl _⟩ hG (e_Treaty_see hG hk hq9) ?_
  cases h
  exact ev_vret (by decide +kernel) rfl rfl rfl rfl
def f_Treaty_operand (x1 : Int32) (w : jW) : Option (Int32 × jW) :=
  if ((x1 - 20000) - 13) < 0 then
    some (x1, w)
  else
    if ((x1 - 20000) - 13) < (Int32.ofNat 5) then
      if jal [jin ((x1 - 20000) - 13) 5] = true then
      some ((w.1 23 (Int32.toNatClampNeg ((x1 - 20000) - 13))), w)
      else none
    else
      some (x1, w)
set_option maxRecDepth 20000 in
theorem e_Treaty_operand {l : Launch} {G : jG} (hG : jX G) {kk : Nat} (hk : 93 ≤ kk) {x1 : Int32} {w : jW} {z : (Int32 × jW)} (h : f_Treaty_operand x1 w = some z) : Ct l G y_Treaty_operand d_Treaty_operand 0 0 [.ref 16, .int x1] (jRx kk) w (some (.int z.1), (jRx kk), z.2) := by
  rw [f_Treaty_operand] at h
  refine Ct.of (L := [some (.ref 16), some (.int x1), none]) (by decide) (Nat.le_of_ble_eq_true rfl) rfl ?_
  refine ev_seg (o := 8) (nL := 3) (q := 10) (xs := [(.iload_n 1, 1, 1, 0, .null), (.sipush 20000, 3, 0, 0, .int 20000), (.isub, 1, 0, 0, .null), (.bipush 13, 2, 0, 0, .int 13), (.isub, 1, 0, 0, .null), (.istore_n 2, 1, 2, 0, .null), (.iload_n 2, 1, 2, 0, .null)]) (L' := [some (.ref 16), some (.int x1), some (.int ((x1 - 20000) - 13))]) (st' := [.int ((x1 - 20000) - 13)]) (w' := w) (g := []) (K := []) (by decide +kernel) rfl rfl rfl rfl jk0 ?_
  refine ev_if_lt (off := 21) (tgt := 31) (by decide +kernel) (by decide) (fun c3 => ?_) (fun c3 => ?_)
  · replace h := jpos c3 h
    refine ev_seg (o := 8) (nL := 3) (q := 32) (xs := [(.iload_n 1, 1, 1, 0, .null)]) (L' := [some (.ref 16), some (.int x1), some (.int ((x1 - 20000) - 13))]) (st' := [.int x1]) (w' := w) (g := []) (K := []) (by decide +kernel) rfl rfl rfl rfl jk0 ?_
    cases h
    exact ev_iret (by decide +kernel) rfl rfl rfl rfl
  · replace h := jneg c3 h
    refine ev_seg (o := 8) (nL := 3) (q := 19) (xs := [(.iload_n 2, 1, 2, 0, .null), (.aload_n 0, 1, 0, 0, .null), (.getfield 26, 3, 8, 3, .ref 20), (.arraylength, 1, 20, 0, .null)]) (L' := [some (.ref 16), some (.int x1), some (.int ((x1 - 20000) - 13))]) (st' := [.int (Int32.ofNat 5), .int ((x1 - 20000) - 13)]) (w' := w) (g := []) (K := [(23, 20), (23, 20), (16, 8)]) (by decide +kernel) rfl rfl rfl rfl (jk1 (kz_23 hk) (jk1 (kz_23 hk) (jk1 (kz_16 hk) jk0))) ?_
    refine ev_icmp_ge (off := 12) (tgt := 31) (by decide +kernel) (by decide) (fun c2 => ?_) (fun c2 => ?_)
    · replace h := jneg c2 h
      refine ev_seg (o := 8) (nL := 3) (q := 32) (xs := [(.iload_n 1, 1, 1, 0, .null)]) (L' := [some (.ref 16), some (.int x1), some (.int ((x1 - 20000) - 13))]) (st' := [.int x1]) (w' := w) (g := []) (K := []) (by decide +kernel) rfl rfl rfl rfl jk0 ?_
      cases h
      exact ev_iret (by decide +kernel) rfl rfl rfl rfl
    · replace h := jpos c2 h
      obtain ⟨hg1, h⟩ := jgd h
      refine ev_seg (o := 8) (nL := 3) (q := 32) (xs := [(.aload_n 0, 1, 0, 0, .null), (.getfield 26, 3, 8, 3, .ref 20), (.iload_n 2, 1, 2, 0, .null), (.iaload, 1, 0, 0, .null), (.goto 4, 3, 0, 0, .null)]) (L' := [some (.ref 16), some (.int x1), some (.int ((x1 - 20000) - 13))]) (st' := [.int (w.1 23 (Int32.toNatClampNeg ((x1 - 20000) - 13)))]) (w' := w) (g := [jin ((x1 - 20000) - 13) 5]) (K := [(23, 20), (23, 20), (16, 8)]) (by decide +kernel) rfl rfl rfl hg1 (jk1 (kz_23 hk) (jk1 (kz_23 hk) (jk1 (kz_16 hk) jk0))) ?_
      cases h
      exact ev_iret (by decide +kernel) rfl rfl rfl rfl
def f_Treaty_compares (x0 : Int32) (x1 : Int32) (x2 : Int32) (w : jW) : Option (Int32 × jW) :=
  if (x1 - 30000) = 18 then
    if x0 < x2 then
      some (1, w)
    else
      some (0, w)
  else
  if (x1 - 30000) = 19 then
    if x0 ≤ x2 then
      some (1, w)
    else
      some (0, w)
  else
  if (x1 - 30000) = 20 then
    if x0 ≤ x2 then
      some (0, w)
    else
      some (1, w)
  else
  if (x1 - 30000) = 21 then
    if x0 < x2 then
      some (0, w)
    else
      some (1, w)
  else
  if (x1 - 30000) = 22 then
    if x0 = x2 then
      some (1, w)
    else
      some (0, w)
  else
    if x0 = x2 then
      some (0, w)
    else
      some (1, w)
set_option maxRecDepth 20000 in
theorem e_Treaty_compares {l : Launch} {G : jG} (hG : jX G) {kk : Nat} (hk : 93 ≤ kk) {x0 : Int32} {x1 : Int32} {x2 : Int32} {w : jW} {z : (Int32 × jW)} (h : f_Treaty_compares x0 x1 x2 w = some z) : Ct l G y_Treaty_compares d_Treaty_compares 0 0 [.int x0, .int x1, .int x2] (jRx kk) w (some (.int z.1), (jRx kk), z.2) := by
  rw [f_Treaty_compares] at h
  refine Ct.of (L := [some (.int x0), some (.int x1), some (.int x2)]) (by decide) (Nat.le_of_ble_eq_true rfl) rfl ?_
  refine ev_seg (o := 8) (nL := 3) (q := 5) (xs := [(.iload_n 1, 1, 1, 0, .null), (.sipush 30000, 3, 0, 0, .int 30000), (.isub, 1, 0, 0, .null)]) (L' := [some (.int x0), some (.int x1), some (.int x2)]) (st' := [.int (x1 - 30000)]) (w' := w) (g := []) (K := []) (by decide +kernel) rfl rfl rfl rfl jk0 ?_
  by_cases c2 : (x1 - 30000) = 18
  · replace h := jpos c2 h
    refine ev_tableIn (dflt := 90) (lo := 18) (hi := 22) (offs := #[35, 46, 57, 68, 79]) (len := 35) (off := 35) (tgt := 40) (by decide +kernel) (by rw [c2]; decide) (by rw [c2]; decide) (by rw [c2]; decide) (by decide) ?_
    refine ev_seg (o := 8) (nL := 3) (q := 42) (xs := [(.iload_n 0, 1, 0, 0, .null), (.iload_n 2, 1, 2, 0, .null)]) (L' := [some (.int x0), some (.int x1), some (.int x2)]) (st' := [.int x2, .int x0]) (w' := w) (g := []) (K := []) (by decide +kernel) rfl rfl rfl rfl jk0 ?_
    refine ev_icmp_ge (off := 7) (tgt := 49) (by decide +kernel) (by decide) (fun c3 => ?_) (fun c3 => ?_)
    · replace h := jneg c3 h
      refine ev_seg (o := 8) (nL := 3) (q := 50) (xs := [(.iconst 0, 1, 0, 0, .int 0)]) (L' := [some (.int x0), some (.int x1), some (.int x2)]) (st' := [.int 0]) (w' := w) (g := []) (K := []) (by decide +kernel) rfl rfl rfl rfl jk0 ?_
      cases h
      exact ev_zret (by decide +kernel) rfl rfl rfl rfl rfl
    · replace h := jpos c3 h
      refine ev_seg (o := 8) (nL := 3) (q := 50) (xs := [(.iconst 1, 1, 0, 0, .int 1), (.goto 4, 3, 0, 0, .null)]) (L' := [some (.int x0), some (.int x1), some (.int x2)]) (st' := [.int 1]) (w' := w) (g := []) (K := []) (by decide +kernel) rfl rfl rfl rfl jk0 ?_
      cases h
      exact ev_zret (by decide +kernel) rfl rfl rfl rfl rfl
  · replace h := jneg c2 h
    by_cases c4 : (x1 - 30000) = 19
    · replace h := jpos c4 h
      refine ev_tableIn (dflt := 90) (lo := 18) (hi := 22) (offs := #[35, 46, 57, 68, 79]) (len := 35) (off := 46) (tgt := 51) (by decide +kernel) (by rw [c4]; decide) (by rw [c4]; decide) (by rw [c4]; decide) (by decide) ?_
      refine ev_seg (o := 8) (nL := 3) (q := 53) (xs := [(.iload_n 0, 1, 0, 0, .null), (.iload_n 2, 1, 2, 0, .null)]) (L' := [some (.int x0), some (.int x1), some (.int x2)]) (st' := [.int x2, .int x0]) (w' := w) (g := []) (K := []) (by decide +kernel) rfl rfl rfl rfl jk0 ?_
      refine ev_icmp_gt (off := 7) (tgt := 60) (by decide +kernel) (by decide) (fun c5 => ?_) (fun c5 => ?_)
      · replace h := jneg c5 h
        refine ev_seg (o := 8) (nL := 3) (q := 61) (xs := [(.iconst 0, 1, 0, 0, .int 0)]) (L' := [some (.int x0), some (.int x1), some (.int x2)]) (st' := [.int 0]) (w' := w) (g := []) (K := []) (by decide +kernel) rfl rfl rfl rfl jk0 ?_
        cases h
        exact ev_zret (by decide +kernel) rfl rfl rfl rfl rfl
      · replace h := jpos c5 h
        refine ev_seg (o := 8) (nL := 3) (q := 61) (xs := [(.iconst 1, 1, 0, 0, .int 1), (.goto 4, 3, 0, 0, .null)]) (L' := [some (.int x0), some (.int x1), some (.int x2)]) (st' := [.int 1]) (w' := w) (g := []) (K := []) (by decide +kernel) rfl rfl rfl rfl jk0 ?_
        cases h
        exact ev_zret (by decide +kernel) rfl rfl rfl rfl rfl
    · replace h := jneg c4 h
      by_cases c6 : (x1 - 30000) = 20
      · replace h := jpos c6 h
        refine ev_tableIn (dflt := 90) (lo := 18) (hi := 22) (offs := #[35, 46, 57, 68, 79]) (len := 35) (off := 57) (tgt := 62) (by decide +kernel) (by rw [c6]; decide) (by rw [c6]; decide) (by rw [c6]; decide) (by decide) ?_
        refine ev_seg (o := 8) (nL := 3) (q := 64) (xs := [(.iload_n 0, 1, 0, 0, .null), (.iload_n 2, 1, 2, 0, .null)]) (L' := [some (.int x0), some (.int x1), some (.int x2)]) (st' := [.int x2, .int x0]) (w' := w) (g := []) (K := []) (by decide +kernel) rfl rfl rfl rfl jk0 ?_
        refine ev_icmp_le (off := 7) (tgt := 71) (by decide +kernel) (by decide) (fun c7 => ?_) (fun c7 => ?_)
        · replace h := jpos c7 h
          refine ev_seg (o := 8) (nL := 3) (q := 72) (xs := [(.iconst 0, 1, 0, 0, .int 0)]) (L' := [some (.int x0), some (.int x1), some (.int x2)]) (st' := [.int 0]) (w' := w) (g := []) (K := []) (by decide +kernel) rfl rfl rfl rfl jk0 ?_
          cases h
          exact ev_zret (by decide +kernel) rfl rfl rfl rfl rfl
        · replace h := jneg c7 h
          refine ev_seg (o := 8) (nL := 3) (q := 72) (xs := [(.iconst 1, 1, 0, 0, .int 1), (.goto 4, 3, 0, 0, .null)]) (L' := [some (.int x0), some (.int x1), some (.int x2)]) (st' := [.int 1]) (w' := w) (g := []) (K := []) (by decide +kernel) rfl rfl rfl rfl jk0 ?_
          cases h
          exact ev_zret (by decide +kernel) rfl rfl rfl rfl rfl
      · replace h := jneg c6 h
        by_cases c8 : (x1 - 30000) = 21
        · replace h := jpos c8 h
          refine ev_tableIn (dflt := 90) (lo := 18) (hi := 22) (offs := #[35, 46, 57, 68, 79]) (len := 35) (off := 68) (tgt := 73) (by decide +kernel) (by rw [c8]; decide) (by rw [c8]; decide) (by rw [c8]; decide) (by decide) ?_
          refine ev_seg (o := 8) (nL := 3) (q := 75) (xs := [(.iload_n 0, 1, 0, 0, .null), (.iload_n 2, 1, 2, 0, .null)]) (L' := [some (.int x0), some (.int x1), some (.int x2)]) (st' := [.int x2, .int x0]) (w' := w) (g := []) (K := []) (by decide +kernel) rfl rfl rfl rfl jk0 ?_
          refine ev_icmp_lt (off := 7) (tgt := 82) (by decide +kernel) (by decide) (fun c9 => ?_) (fun c9 => ?_)
          · replace h := jpos c9 h
            refine ev_seg (o := 8) (nL := 3) (q := 83) (xs := [(.iconst 0, 1, 0, 0, .int 0)]) (L' := [some (.int x0), some (.int x1), some (.int x2)]) (st' := [.int 0]) (w' := w) (g := []) (K := []) (by decide +kernel) rfl rfl rfl rfl jk0 ?_
            cases h
            exact ev_zret (by decide +kernel) rfl rfl rfl rfl rfl
          · replace h := jneg c9 h
            refine ev_seg (o := 8) (nL := 3) (q := 83) (xs := [(.iconst 1, 1, 0, 0, .int 1), (.goto 4, 3, 0, 0, .null)]) (L' := [some (.int x0), some (.int x1), some (.int x2)]) (st' := [.int 1]) (w' := w) (g := []) (K := []) (by decide +kernel) rfl rfl rfl rfl jk0 ?_
            cases h
            exact ev_zret (by decide +kernel) rfl rfl rfl rfl rfl
        · replace h := jneg c8 h
          by_cases c10 : (x1 - 30000) = 22
          · replace h := jpos c10 h
            refine ev_tableIn (dflt := 90) (lo := 18) (hi := 22) (offs := #[35, 46, 57, 68, 79]) (len := 35) (off := 79) (tgt := 84) (by decide +kernel) (by rw [c10]; decide) (by rw [c10]; decide) (by rw [c10]; decide) (by decide) ?_
            refine ev_seg (o := 8) (nL := 3) (q := 86) (xs := [(.iload_n 0, 1, 0, 0, .null), (.iload_n 2, 1, 2, 0, .null)]) (L' := [some (.int x0), some (.int x1), some (.int x2)]) (st' := [.int x2, .int x0]) (w' := w) (g := []) (K := []) (by decide +kernel) rfl rfl rfl rfl jk0 ?_
            refine ev_icmp_ne (off := 7) (tgt := 93) (by decide +kernel) (by decide) (fun c11 => ?_) (fun c11 => ?_)
            · replace h := jneg c11 h
              refine ev_seg (o := 8) (nL := 3) (q := 94) (xs := [(.iconst 0, 1, 0, 0, .int 0)]) (L' := [some (.int x0), some (.int x1), some (.int x2)]) (st' := [.int 0]) (w' := w) (g := []) (K := []) (by decide +kernel) rfl rfl rfl rfl jk0 ?_
              cases h
              exact ev_zret (by decide +kernel) rfl rfl rfl rfl rfl
            · replace h := jpos c11 h
              refine ev_seg (o := 8) (nL := 3) (q := 94) (xs := [(.iconst 1, 1, 0, 0, .int 1), (.goto 4, 3, 0, 0, .null)]) (L' := [some (.int x0), some (.int x1), some (.int x2)]) (st' := [.int 1]) (w' := w) (g := []) (K := []) (by decide +kernel) rfl rfl rfl rfl jk0 ?_
              cases h
              exact ev_zret (by decide +kernel) rfl rfl rfl rfl rfl
          · replace h := jneg c10 h
            have ec2 := lv_neT (a := 18) c2 rfl
            have ec4 := lv_neT (a := 19) c4 rfl
            have ec6 := lv_neT (a := 20) c6 rfl
            have ec8 := lv_neT (a := 21) c8 rfl
            have ec10 := lv_neT (a := 22) c10 rfl
            refine ev_tableOut (dflt := 90) (lo := 18) (hi := 22) (offs := #[35, 46, 57, 68, 79]) (len := 35) (tgt := 95) (by decide +kernel) (by omega) (by decide) ?_
            refine ev_seg (o := 8) (nL := 3) (q := 97) (xs := [(.iload_n 0, 1, 0, 0, .null), (.iload_n 2, 1, 2, 0, .null)]) (L' := [some (.int x0), some (.int x1), some (.int x2)]) (st' := [.int x2, .int x0]) (w' := w) (g := []) (K := []) (by decide +kernel) rfl rfl rfl rfl jk0 ?_
            refine ev_icmp_eq (off := 7) (tgt := 104) (by decide +kernel) (by decide) (fun c1 => ?_) (fun c1 => ?_)
            · replace h := jpos c1 h
              refine ev_seg (o := 8) (nL := 3) (q := 105) (xs := [(.iconst 0, 1, 0, 0, .int 0)]) (L' := [some (.int x0), some (.int x1), some (.int x2)]) (st' := [.int 0]) (w' := w) (g := []) (K := []) (by decide +kernel) rfl rfl rfl rfl jk0 ?_
              cases h
              exact ev_zret (by decide +kernel) rfl rfl rfl rfl rfl
            · replace h := jneg c1 h
              refine ev_seg (o := 8) (nL := 3) (q := 105) (xs := [(.iconst 1, 1, 0, 0, .int 1), (.goto 4, 3, 0, 0, .null)]) (L' := [some (.int x0), some (.int x1), some (.int x2)]) (st' := [.int 1]) (w' := w) (g := []) (K := []) (by decide +kernel) rfl rfl rfl rfl jk0 ?_
              cases h
              exact ev_zret (by decide +kernel) rfl rfl rfl rfl rfl
